theorem hd_J0_length_8abf5 : yJ0_length_8abf5.cls = "java/lang/String" ∧ yJ0_length_8abf5.cls ≠ "java/lang/invoke/MethodHandle" ∧ yJ0_length_8abf5.cls ≠ "java/lang/invoke/VarHandle" ∧ (parseMethodDescriptor yJ0_length_8abf5.desc).map (fun d => d.parameters.length) = some 0 := by decide +kernel
theorem cv_RX5_132 : cv_ RX5 132 yJ0_length_8abf5 "java/lang/String" cJ0_length_8abf5 1 (some .int) 0 := ⟨uw_2 (List.mem_of_getElem? (i := 66) rfl) rfl, uw_2 (List.mem_of_getElem? (i := 67) rfl) rfl, uw_2 (List.mem_of_getElem? (i := 68) rfl) rfl, uw_1 (List.mem_of_getElem? (i := 9) rfl) rfl, uw_2 (List.mem_of_getElem? (i := 69) rfl) rfl, hd_J0_length_8abf5⟩
theorem hd_J0_charAt_5068e : yJ0_charAt_5068e.cls = "java/lang/String" ∧ yJ0_charAt_5068e.cls ≠ "java/lang/invoke/MethodHandle" ∧ yJ0_charAt_5068e.cls ≠ "java/lang/invoke/VarHandle" ∧ (parseMethodDescriptor yJ0_charAt_5068e.desc).map (fun d => d.parameters.length) = some 1 := by decide +kernel
theorem cv_RX5_137 : cv_ RX5 137 yJ0_charAt_5068e "java/lang/String" cJ0_charAt_5068e 2 (some .char) 1 := ⟨uw_2 (List.mem_of_getElem? (i := 76) rfl) rfl, uw_2 (List.mem_of_getElem? (i := 77) rfl) rfl, uw_2 (List.mem_of_getElem? (i := 78) rfl) rfl, uw_1 (List.mem_of_getElem? (i := 9) rfl) rfl, uw_2 (List.mem_of_getElem? (i := 79) rfl) rfl, hd_J0_charAt_5068e⟩
theorem hd_X5_isWord : yX5_isWord.cls = RX5 ∧ yX5_isWord.cls ≠ "java/lang/invoke/MethodHandle" ∧ yX5_isWord.cls ≠ "java/lang/invoke/VarHandle" ∧ (parseMethodDescriptor yX5_isWord.desc).map (fun d => d.parameters.length) = some 1 := by decide +kernel
theorem cv_RX5_59 : cv_ RX5 59 yX5_isWord RX5 cX5_isWord 3 (some .boolean) 1 := ⟨uw_2 (List.mem_of_getElem? (i := 62) rfl) rfl, uw_2 (List.mem_of_getElem? (i := 64) rfl) rfl, uw_0 (List.mem_of_getElem? (i := 5) rfl) rfl, uw_1 (List.mem_of_getElem? (i := 2) rfl) rfl, uw_2 (List.mem_of_getElem? (i := 65) rfl) rfl, hd_X5_isWord⟩
theorem hd_X5_loadLine : yX5_loadLine.cls = RX5 ∧ yX5_loadLine.cls ≠ "java/lang/invoke/MethodHandle" ∧ yX5_loadLine.cls ≠ "java/lang/invoke/VarHandle" ∧ (parseMethodDescriptor yX5_loadLine.desc).map (fun d => d.parameters.length) = some 2 := by decide +kernel
theorem cv_RX5_76 : cv_ RX5 76 yX5_loadLine RX5 cX5_loadLine 6 (some .boolean) 2 := ⟨uw_2 (List.mem_of_getElem? (i := 149) rfl) rfl, uw_2 (List.mem_of_getElem? (i := 151) rfl) rfl, uw_0 (List.mem_of_getElem? (i := 11) rfl) rfl, uw_1 (List.mem_of_getElem? (i := 2) rfl) rfl, uw_2 (List.mem_of_getElem? (i := 152) rfl) rfl, hd_X5_loadLine⟩
theorem hd_X5_beamLine : yX5_beamLine.cls = RX5 ∧ yX5_beamLine.cls ≠ "java/lang/invoke/MethodHandle" ∧ yX5_beamLine.cls ≠ "java/lang/invoke/VarHandle" ∧ (parseMethodDescriptor yX5_beamLine.desc).map (fun d => d.parameters.length) = some 1 := by decide +kernel
theorem cv_RX5_71 : cv_ RX5 71 yX5_beamLine RX5 cX5_beamLine 6 (some .boolean) 1 := ⟨uw_2 (List.mem_of_getElem? (i := 136) rfl) rfl, uw_2 (List.mem_of_getElem? (i := 138) rfl) rfl, uw_0 (List.mem_of_getElem? (i := 9) rfl) rfl, uw_1 (List.mem_of_getElem? (i := 2) rfl) rfl, uw_2 (List.mem_of_getElem? (i := 139) rfl) rfl, hd_X5_beamLine⟩
theorem hd_X5_jointLine : yX5_jointLine.cls = RX5 ∧ yX5_jointLine.cls ≠ "java/lang/invoke/MethodHandle" ∧ yX5_jointLine.cls ≠ "java/lang/invoke/VarHandle" ∧ (parseMethodDescriptor yX5_jointLine.desc).map (fun d => d.parameters.length) = some 2 := by decide +kernel
theorem cv_RX5_63 : cv_ RX5 63 yX5_jointLine RX5 cX5_jointLine 5 (some .boolean) 2 := ⟨uw_2 (List.mem_of_getElem? (i := 114) rfl) rfl, uw_2 (List.mem_of_getElem? (i := 116) rfl) rfl, uw_0 (List.mem_of_getElem? (i := 6) rfl) rfl, uw_1 (List.mem_of_getElem? (i := 2) rfl) rfl, uw_2 (List.mem_of_getElem? (i := 117) rfl) rfl, hd_X5_jointLine⟩
theorem hd_X2_clear : yX2_clear.cls = RX2 ∧ yX2_clear.cls ≠ "java/lang/invoke/MethodHandle" ∧ yX2_clear.cls ≠ "java/lang/invoke/VarHandle" ∧ (parseMethodDescriptor yX2_clear.desc).map (fun d => d.parameters.length) = some 0 := by decide +kernel
theorem cv_RX5_18 : cv_ RX5 18 yX2_clear RX2 cX2_clear 1 none 0 := ⟨uw_2 (List.mem_of_getElem? (i := 37) rfl) rfl, uw_2 (List.mem_of_getElem? (i := 38) rfl) rfl, uw_2 (List.mem_of_getElem? (i := 39) rfl) rfl, uw_1 (List.mem_of_getElem? (i := 6) rfl) rfl, uw_2 (List.mem_of_getElem? (i := 40) rfl) rfl, hd_X2_clear⟩
theorem lk_X5_23 : Cond.fieldLink RX5 23 (TX5 1).1 (TX5 1).2.1 (TX5 1).2.2.1 ∈ uw := uw_1 (List.mem_of_getElem? (i := 48) rfl) rfl
theorem hd_X5_line : yX5_line.cls = RX5 ∧ yX5_line.cls ≠ "java/lang/invoke/MethodHandle" ∧ yX5_line.cls ≠ "java/lang/invoke/VarHandle" ∧ (parseMethodDescriptor yX5_line.desc).map (fun d => d.parameters.length) = some 1 := by decide +kernel
theorem cv_RX5_46 : cv_ RX5 46 yX5_line RX5 cX5_line 2 (some .boolean) 1 := ⟨uw_2 (List.mem_of_getElem? (i := 57) rfl) rfl, uw_2 (List.mem_of_getElem? (i := 59) rfl) rfl, uw_0 (List.mem_of_getElem? (i := 4) rfl) rfl, uw_1 (List.mem_of_getElem? (i := 2) rfl) rfl, uw_2 (List.mem_of_getElem? (i := 60) rfl) rfl, hd_X5_line⟩
theorem hd_X2_isWhole : yX2_isWhole.cls = RX2 ∧ yX2_isWhole.cls ≠ "java/lang/invoke/MethodHandle" ∧ yX2_isWhole.cls ≠ "java/lang/invoke/VarHandle" ∧ (parseMethodDescriptor yX2_isWhole.desc).map (fun d => d.parameters.length) = some 0 := by decide +kernel
theorem cv_RX5_50 : cv_ RX5 50 yX2_isWhole RX2 cX2_isWhole 2 (some .boolean) 0 := ⟨uw_2 (List.mem_of_getElem? (i := 158) rfl) rfl, uw_2 (List.mem_of_getElem? (i := 159) rfl) rfl, uw_2 (List.mem_of_getElem? (i := 160) rfl) rfl, uw_1 (List.mem_of_getElem? (i := 6) rfl) rfl, uw_2 (List.mem_of_getElem? (i := 161) rfl) rfl, hd_X2_isWhole⟩
theorem lk_X6_12 : Cond.fieldLink RX6 12 (TX6 1).1 (TX6 1).2.1 (TX6 1).2.2.1 ∈ uw := uw_1 (List.mem_of_getElem? (i := 224) rfl) rfl
theorem lk_X6_42 : Cond.fieldLink RX6 42 (TX6 8).1 (TX6 8).2.1 (TX6 8).2.2.1 ∈ uw := uw_1 (List.mem_of_getElem? (i := 231) rfl) rfl
theorem hd_X5_tell : yX5_tell.cls = RX5 ∧ yX5_tell.cls ≠ "java/lang/invoke/MethodHandle" ∧ yX5_tell.cls ≠ "java/lang/invoke/VarHandle" ∧ (parseMethodDescriptor yX5_tell.desc).map (fun d => d.parameters.length) = some 1 := by decide +kernel
theorem cv_RX6_70 : cv_ RX6 70 yX5_tell RX5 cX5_tell 2 (some .boolean) 1 := ⟨uw_2 (List.mem_of_getElem? (i := 33) rfl) rfl, uw_2 (List.mem_of_getElem? (i := 34) rfl) rfl, uw_2 (List.mem_of_getElem? (i := 35) rfl) rfl, uw_1 (List.mem_of_getElem? (i := 2) rfl) rfl, uw_2 (List.mem_of_getElem? (i := 36) rfl) rfl, hd_X5_tell⟩
theorem lk_X6_74 : Cond.fieldLink RX6 74 (TX5 2).1 (TX5 2).2.1 (TX5 2).2.2.1 ∈ uw := uw_1 (List.mem_of_getElem? (i := 51) rfl) rfl
theorem lk_X6_87 : Cond.fieldLink RX6 87 (TX5 1).1 (TX5 1).2.1 (TX5 1).2.2.1 ∈ uw := uw_1 (List.mem_of_getElem? (i := 49) rfl) rfl
theorem lk_X6_80 : Cond.fieldLink RX6 80 (TX5 3).1 (TX5 3).2.1 (TX5 3).2.2.1 ∈ uw := uw_1 (List.mem_of_getElem? (i := 53) rfl) rfl
def FTe_isWord_L20 (si : Nat) (t_start : Int32) (p_bytes : Nat → Int32) : Nat → Int32 → Option (Int32)
  | 0, _ => none
  | n + 1, l2 =>
      if (Int32.ofNat (slen.getD si 0)) ≤ l2 then
        some ((1 : Int32))
      else
        gd_ (t_start + l2) 320 <|
        gd_ l2 (slen.getD si 0) <|
        if (p_bytes (t_start + l2).toNatClampNeg) = (sch si l2.toNatClampNeg) then
          lt_ (l2 + (1 : Int32)) fun v6 =>
          FTe_isWord_L20 si t_start p_bytes n v6
        else
          some ((0 : Int32))
def FTe_isWord (t_start t_stop : Int32) (p_bytes : Nat → Int32) (si : Nat) : Option (Int32) :=
  if (t_stop - t_start) = (Int32.ofNat (slen.getD si 0)) then
    FTe_isWord_L20 si t_start p_bytes 1000 (0 : Int32)
  else
    some ((0 : Int32))
set_option maxHeartbeats 4000000 in
set_option maxRecDepth 100000 in
theorem wTe_isWord_L20 {p : Program} {l : Launch} {e : Env} {s : State} {m : MethodId} {args : Array Value} {below : List Frame} {meth : Method} {c : Code} {A : Nat → Prop} {D : va_G} {κ : Nat → ClassId} {adK adV : Nat → Nat} (C0 : cx_ p s m meth c args cX5_isWord RX5 (some .boolean) 3 A) (hE : ex_ adK adV A s) (si : Nat) (hsi : si < 5) (qt : Nat → Nat) (t_lines t_fault t_faultPlace t_kind t_start t_stop t_value : Int32) (qp : Nat → Nat) (p_bytes : Nat → Int32) (p_size : Int32) (zr : Int32) : ∀ (n : Nat) (l2 : Int32) (H : Heap) (locs : List Loc) (ls : Array Slot), wd_ D (tys0 κ) A s (List.flatten [pTe κ qt (qp 0) t_lines t_fault t_faultPlace t_kind t_start t_stop t_value, pTa κ qp p_bytes p_size]) H locs → lv_has ls 3 [(0, .ref (qt 0)), (1, .ref (adK si)), (2, .int l2)] → FTe_isWord_L20 si t_start p_bytes n l2 = some zr → W p l e ({ frames := 4, cells := 0, slots := 0, locals := 85 } : Room) s m args below meth c H locs 0 0 (qI_ D (tys0 κ) A nB_ zr (List.flatten [pTe κ qt (qp 0) t_lines t_fault t_faultPlace t_kind t_start t_stop t_value, pTa κ qp p_bytes p_size]) below args s) (F0 m 20 ls []) := by
  obtain ⟨hx, hb, -, hml, hown, hts, -, -⟩ := id C0
  intro n
  induction n with
  | zero =>
    intro l2 H locs ls hw hl  hf
    cases hf
  | succ n ih =>
    intro l2 H locs ls hw hl  hf
    rw [FTe_isWord_L20.eq_2] at hf
    refine lv_iload_n hx hb dX5_isWord_20 rfl (lv_at hl 2 rfl) ?_
    refine lv_aload_n hx hb dX5_isWord_21 rfl (lv_at hl 1 rfl) ?_
    refine rvS_i (As := []) (rest := [.int l2]) (bs' := [pTe κ qt (qp 0) t_lines t_fault t_faultPlace t_kind t_start t_stop t_value, pTa κ qp p_bytes p_size]) C0 hw hE (cS_length l D κ adK adV si hsi) cv_RX5_132 ⟨rfl, rfl, Nat.le_of_ble_eq_true rfl, Nat.le_of_ble_eq_true rfl⟩ ⟨Nat.zero_le _, Nat.zero_le _⟩ [] [0, 1] [0, 1] rfl rfl rfl rfl (by decide) rfl rfl hsi rfl hl.1 (by simp only [List.map, List.sum_cons, List.sum_nil, Value.category]; decide) dX5_isWord_22 (fun H locs hw _ => ?_)
    refine lv_icmp_ge (tgt := 58) hx hb dX5_isWord_25 (by decide) (fun hc2 => ?_) (fun hc2 => ?_)
    · have hf := if_t hc2 hf
      refine lv_iconst (v := 1) hx hb dX5_isWord_58 (by decide) ?_
      obtain rfl := e1_ hf
      exact r_zret C0 hw (Or.inr rfl) dX5_isWord_59
    · have hf := if_f hc2 hf
      refine lv_aload_n hx hb dX5_isWord_28 rfl (lv_at hl 0 rfl) ?_
      refine r_get C0 hw 0 0 (v := .ref (qp 0)) rfl rfl inX5 (by decide) lk_X5_12 rfl dX5_isWord_29 ?_
      refine r_get C0 hw 1 0 (v := .ref (qp 1)) rfl rfl inX4 (by decide) lk_X5_121 rfl dX5_isWord_32 ?_
      refine lv_aload_n hx hb dX5_isWord_35 rfl (lv_at hl 0 rfl) ?_
      refine r_get C0 hw 0 5 (v := .int t_start) rfl rfl inX5 (by decide) lk_X5_81 rfl dX5_isWord_36 ?_
      refine lv_iload_n hx hb dX5_isWord_39 rfl (lv_at hl 2 rfl) ?_
      refine lv_iadd hx hb dX5_isWord_40 ?_
      obtain ⟨hi3, hf⟩ := gd_s hf
      refine r_bald C0 hw 2 2 rfl rfl hi3 dX5_isWord_41 ?_
      refine lv_aload_n hx hb dX5_isWord_42 rfl (lv_at hl 1 rfl) ?_
      refine lv_iload_n hx hb dX5_isWord_43 rfl (lv_at hl 2 rfl) ?_
      obtain ⟨hi4, hf⟩ := gd_s hf
      refine rvS_i (As := [.int l2]) (rest := [.int (p_bytes (t_start + l2).toNatClampNeg)]) (bs' := [pTe κ qt (qp 0) t_lines t_fault t_faultPlace t_kind t_start t_stop t_value, pTa κ qp p_bytes p_size]) C0 hw hE (cS_charAt l D κ adK adV si hsi l2 hi4) cv_RX5_137 ⟨rfl, rfl, Nat.le_of_ble_eq_true rfl, Nat.le_of_ble_eq_true rfl⟩ ⟨Nat.zero_le _, Nat.zero_le _⟩ [] [0, 1] [0, 1] rfl rfl rfl rfl (by decide) rfl rfl hsi rfl hl.1 (by simp only [List.map, List.sum_cons, List.sum_nil, Value.category]; decide) dX5_isWord_44 (fun H locs hw _ => ?_)
      refine lv_icmp_eq (tgt := 52) hx hb dX5_isWord_47 (by decide) (fun hc5 => ?_) (fun hc5 => ?_)
      · have hf := if_t hc5 hf
        obtain ⟨v6, ev6⟩ : ∃ z : Int32, z = (l2 + (1 : Int32)) := ⟨_, rfl⟩
        have hf := lt_s_ hf v6 ev6
        refine lv_iinc (v := v6) (lv' := [(2, .int v6), (0, .ref (qt 0)), (1, .ref (adK si))]) hx hb dX5_isWord_52 hl (k := 2) rfl (by rw [ev6]; rfl) (by decide) rfl (fun ls hl => ?_)
        refine lv_goto (tgt := 20) hx hb dX5_isWord_55 (by decide) ?_
        exact ih v6 H locs ls hw (lv_sub hl [1, 2, 0] rfl)  hf
      · have hf := if_f hc5 hf
        refine lv_iconst (v := 0) hx hb dX5_isWord_50 (by decide) ?_
        obtain rfl := e1_ hf
        exact r_zret C0 hw (Or.inl rfl) dX5_isWord_51
set_option maxHeartbeats 4000000 in
set_option maxRecDepth 100000 in
theorem cTe_isWord (l : Launch) (D : va_G) (κ : Nat → ClassId) (adK adV : Nat → Nat) (qt : Nat → Nat) (t_lines t_fault t_faultPlace t_kind t_start t_stop t_value : Int32) (qp : Nat → Nat) (p_bytes : Nat → Int32) (p_size : Int32) (si : Nat) (zr : Int32) (hsi : si < 5) (hf : FTe_isWord t_start t_stop p_bytes si = some zr) : mIX_ adK adV l yX5_isWord (Cond.code yX5_isWord cX5_isWord 3 (some .boolean) :: uw) ({ frames := 4, cells := 0, slots := 0, locals := 85 } : Room) D (tys0 κ) [.ref (qt 0), .ref (adK si)] (List.flatten [pTe κ qt (qp 0) t_lines t_fault t_faultPlace t_kind t_start t_stop t_value, pTa κ qp p_bytes p_size]) nB_ zr (List.flatten [pTe κ qt (qp 0) t_lines t_fault t_faultPlace t_kind t_start t_stop t_value, pTa κ qp p_bytes p_size]) := by
  unfold FTe_isWord at hf
  refine mIX_of (by decide +kernel) (Nat.le_of_ble_eq_true rfl) ?_
  intro p e s m below meth c A ls H locs C0 hE hw hl
  obtain ⟨hx, hb, -, hml, hown, hts, -, -⟩ := id C0
  have hl : lv_has ls 3 [(0, .ref (qt 0)), (1, .ref (adK si))] := hl
  refine lv_aload_n hx hb dX5_isWord_0 rfl (lv_at hl 0 rfl) ?_
  refine r_get C0 hw 0 6 (v := .int t_stop) rfl rfl inX5 (by decide) lk_X5_33 rfl dX5_isWord_1 ?_
  refine lv_aload_n hx hb dX5_isWord_4 rfl (lv_at hl 0 rfl) ?_
  refine r_get C0 hw 0 5 (v := .int t_start) rfl rfl inX5 (by decide) lk_X5_81 rfl dX5_isWord_5 ?_
  refine lv_isub hx hb dX5_isWord_8 ?_
  refine lv_aload_n hx hb dX5_isWord_9 rfl (lv_at hl 1 rfl) ?_
  refine rvS_i (As := []) (rest := [.int (t_stop - t_start)]) (bs' := [pTe κ qt (qp 0) t_lines t_fault t_faultPlace t_kind t_start t_stop t_value, pTa κ qp p_bytes p_size]) C0 hw hE (cS_length l D κ adK adV si hsi) cv_RX5_132 ⟨rfl, rfl, Nat.le_of_ble_eq_true rfl, Nat.le_of_ble_eq_true rfl⟩ ⟨Nat.zero_le _, Nat.zero_le _⟩ [] [0, 1] [0, 1] rfl rfl rfl rfl (by decide) rfl rfl hsi rfl hl.1 (by simp only [List.map, List.sum_cons, List.sum_nil, Value.category]; decide) dX5_isWord_10 (fun H locs hw _ => ?_)
  refine lv_icmp_eq (tgt := 18) hx hb dX5_isWord_13 (by decide) (fun hc1 => ?_) (fun hc1 => ?_)
  · have hf := if_t hc1 hf
    refine lv_iconst (v := 0) hx hb dX5_isWord_18 (by decide) ?_
    refine lv_istore_n (lv' := [(2, .int (0 : Int32)), (0, .ref (qt 0)), (1, .ref (adK si))]) hx hb dX5_isWord_19 rfl hl (by decide) rfl (fun ls hl => ?_)
    exact wTe_isWord_L20 C0 hE si hsi qt t_lines t_fault t_faultPlace t_kind t_start t_stop t_value qp p_bytes p_size zr 1000 (0 : Int32) H locs ls hw (lv_sub hl [1, 2, 0] rfl)  hf
  · have hf := if_f hc1 hf
    refine lv_iconst (v := 0) hx hb dX5_isWord_16 (by decide) ?_
    obtain rfl := e1_ hf
    exact r_zret C0 hw (Or.inl rfl) dX5_isWord_17
def FTe_line (t_fault t_faultPlace t_kind t_start t_stop t_value : Int32) (p_bytes : Nat → Int32) (p_size : Int32) (f_held f_couples f_endJoints f_lengths f_stiffs f_loadBeams f_loadSizes f_loadPlaces : Nat → Int32) (f_joints f_beams f_loads : Int32) : Option (Int32 × Int32 × Int32 × Int32 × Int32 × Int32 × Int32 × (Nat → Int32) × (Nat → Int32) × (Nat → Int32) × (Nat → Int32) × (Nat → Int32) × (Nat → Int32) × (Nat → Int32) × (Nat → Int32) × Int32 × Int32 × Int32) :=
  lt_ (fun (_ : Unit) =>
    lt_ (fun (_ : Unit) =>
      lt_ (fun (_ : Unit) =>
        lt_ (fun (_ : Unit) =>
          if t_kind = (1 : Int32) then
            b1_ (FTe_isWord t_start t_stop p_bytes 4) fun r7 =>
            if r7 = 0 then
              b3_ (FTe_fail (2 : Int32) t_start) fun r11 w12 w13 =>
              some (r11, w12, w13, t_kind, t_start, t_stop, t_value, f_held, f_couples, f_endJoints, f_lengths, f_stiffs, f_loadBeams, f_loadSizes, f_loadPlaces, f_joints, f_beams, f_loads)
            else
              b11_ (FTe_loadLine t_fault t_faultPlace t_kind t_start t_stop t_value p_bytes p_size f_loadBeams f_loadSizes f_loadPlaces f_loads (0 : Int32)) fun r16 w17 w18 w19 w20 w21 w22 w23 w24 w25 w26 =>
              some (r16, w17, w18, w19, w20, w21, w22, f_held, f_couples, f_endJoints, f_lengths, f_stiffs, w23, w24, w25, f_joints, f_beams, w26)
          else
            b3_ (FTe_fail (2 : Int32) t_start) fun r2 w3 w4 =>
            some (r2, w3, w4, t_kind, t_start, t_stop, t_value, f_held, f_couples, f_endJoints, f_lengths, f_stiffs, f_loadBeams, f_loadSizes, f_loadPlaces, f_joints, f_beams, f_loads) : Unit → Option (Int32 × Int32 × Int32 × Int32 × Int32 × Int32 × Int32 × (Nat → Int32) × (Nat → Int32) × (Nat → Int32) × (Nat → Int32) × (Nat → Int32) × (Nat → Int32) × (Nat → Int32) × (Nat → Int32) × Int32 × Int32 × Int32)) fun j29 =>
        if t_kind = (1 : Int32) then
          b1_ (FTe_isWord t_start t_stop p_bytes 3) fun r32 =>
          if r32 = 0 then
            j29 ()
          else
            b11_ (FTe_loadLine t_fault t_faultPlace t_kind t_start t_stop t_value p_bytes p_size f_loadBeams f_loadSizes f_loadPlaces f_loads (1 : Int32)) fun r36 w37 w38 w39 w40 w41 w42 w43 w44 w45 w46 =>
            some (r36, w37, w38, w39, w40, w41, w42, f_held, f_couples, f_endJoints, f_lengths, f_stiffs, w43, w44, w45, f_joints, f_beams, w46)
        else
          j29 () : Unit → Option (Int32 × Int32 × Int32 × Int32 × Int32 × Int32 × Int32 × (Nat → Int32) × (Nat → Int32) × (Nat → Int32) × (Nat → Int32) × (Nat → Int32) × (Nat → Int32) × (Nat → Int32) × (Nat → Int32) × Int32 × Int32 × Int32)) fun j49 =>
      if t_kind = (1 : Int32) then
        b1_ (FTe_isWord t_start t_stop p_bytes 2) fun r52 =>
        if r52 = 0 then
          j49 ()
        else
          b11_ (FTe_beamLine t_fault t_faultPlace t_kind t_start t_stop t_value p_bytes p_size f_endJoints f_lengths f_stiffs f_beams) fun r56 w57 w58 w59 w60 w61 w62 w63 w64 w65 w66 =>
          some (r56, w57, w58, w59, w60, w61, w62, f_held, f_couples, w63, w64, w65, f_loadBeams, f_loadSizes, f_loadPlaces, f_joints, w66, f_loads)
      else
        j49 () : Unit → Option (Int32 × Int32 × Int32 × Int32 × Int32 × Int32 × Int32 × (Nat → Int32) × (Nat → Int32) × (Nat → Int32) × (Nat → Int32) × (Nat → Int32) × (Nat → Int32) × (Nat → Int32) × (Nat → Int32) × Int32 × Int32 × Int32)) fun j69 =>
    if t_kind = (1 : Int32) then
      b1_ (FTe_isWord t_start t_stop p_bytes 1) fun r72 =>
      if r72 = 0 then
        j69 ()
      else
        b10_ (FTe_jointLine t_fault t_faultPlace t_kind t_start t_stop t_value p_bytes p_size f_held f_couples f_joints (1 : Int32)) fun r76 w77 w78 w79 w80 w81 w82 w83 w84 w85 =>
        some (r76, w77, w78, w79, w80, w81, w82, w83, w84, f_endJoints, f_lengths, f_stiffs, f_loadBeams, f_loadSizes, f_loadPlaces, w85, f_beams, f_loads)
    else
      j69 () : Unit → Option (Int32 × Int32 × Int32 × Int32 × Int32 × Int32 × Int32 × (Nat → Int32) × (Nat → Int32) × (Nat → Int32) × (Nat → Int32) × (Nat → Int32) × (Nat → Int32) × (Nat → Int32) × (Nat → Int32) × Int32 × Int32 × Int32)) fun j88 =>
  if t_kind = (1 : Int32) then
    b1_ (FTe_isWord t_start t_stop p_bytes 0) fun r91 =>
    if r91 = 0 then
      j88 ()
    else
      b10_ (FTe_jointLine t_fault t_faultPlace t_kind t_start t_stop t_value p_bytes p_size f_held f_couples f_joints (0 : Int32)) fun r95 w96 w97 w98 w99 w100 w101 w102 w103 w104 =>
      some (r95, w96, w97, w98, w99, w100, w101, w102, w103, f_endJoints, f_lengths, f_stiffs, f_loadBeams, f_loadSizes, f_loadPlaces, w104, f_beams, f_loads)
  else
    j88 ()
set_option maxHeartbeats 4000000 in
set_option maxRecDepth 100000 in
theorem cTe_line (l : Launch) (D : va_G) (κ : Nat → ClassId) (adK adV : Nat → Nat) (qt : Nat → Nat) (t_lines t_fault t_faultPlace t_kind t_start t_stop t_value : Int32) (qp : Nat → Nat) (p_bytes : Nat → Int32) (p_size : Int32) (qf : Nat → Nat) (f_held f_couples f_endJoints f_lengths f_stiffs f_loadBeams f_loadSizes f_loadPlaces : Nat → Int32) (f_joints f_beams f_loads zr z1 z2 z3 z4 z5 z6 : Int32) (z7 z8 z9 z10 z11 z12 z13 z14 : Nat → Int32) (z15 z16 z17 : Int32) (hf : FTe_line t_fault t_faultPlace t_kind t_start t_stop t_value p_bytes p_size f_held f_couples f_endJoints f_lengths f_stiffs f_loadBeams f_loadSizes f_loadPlaces f_joints f_beams f_loads = some (zr, z1, z2, z3, z4, z5, z6, z7, z8, z9, z10, z11, z12, z13, z14, z15, z16, z17)) : mIX_ adK adV l yX5_line (Cond.code yX5_line cX5_line 2 (some .boolean) :: uw) ({ frames := 5, cells := 0, slots := 0, locals := 107 } : Room) D (tys0 κ) [.ref (qt 0), .ref (qf 0)] (List.flatten [pTe κ qt (qp 0) t_lines t_fault t_faultPlace t_kind t_start t_stop t_value, pTa κ qp p_bytes p_size, pFr κ qf f_held f_couples f_endJoints f_lengths f_stiffs f_loadBeams f_loadSizes f_loadPlaces f_joints f_beams f_loads]) nB_ zr (List.flatten [pTe κ qt (qp 0) t_lines z1 z2 z3 z4 z5 z6, pTa κ qp p_bytes p_size, pFr κ qf z7 z8 z9 z10 z11 z12 z13 z14 z15 z16 z17]) := by
  unfold FTe_line at hf
  refine mIX_of (by decide +kernel) (Nat.le_of_ble_eq_true rfl) ?_
  intro p e s m below meth c A ls H locs C0 hE hw hl
  obtain ⟨hx, hb, -, hml, hown, hts, -, -⟩ := id C0
  have hl : lv_has ls 2 [(0, .ref (qt 0)), (1, .ref (qf 0))] := hl
  refine lv_aload_n hx hb dX5_line_0 rfl (lv_at hl 0 rfl) ?_
  refine r_get C0 hw 0 4 (v := .int t_kind) rfl rfl inX5 (by decide) lk_X5_43 rfl dX5_line_1 ?_
  refine lv_iconst (v := 1) hx hb dX5_line_4 (by decide) ?_
  obtain ⟨j88, ej88, hf⟩ := lt_e hf
  have hj89 : ∀  (H : Heap) (locs : List Loc) (ls : Array Slot), wd_ D (tys0 κ) A s (List.flatten [pTe κ qt (qp 0) t_lines t_fault t_faultPlace t_kind t_start t_stop t_value, pTa κ qp p_bytes p_size, pFr κ qf f_held f_couples f_endJoints f_lengths f_stiffs f_loadBeams f_loadSizes f_loadPlaces f_joints f_beams f_loads]) H locs → lv_has ls 2 [(0, .ref (qt 0)), (1, .ref (qf 0))] → j88 () = some (zr, z1, z2, z3, z4, z5, z6, z7, z8, z9, z10, z11, z12, z13, z14, z15, z16, z17) → W p l e ({ frames := 5, cells := 0, slots := 0, locals := 107 } : Room) s m ([.ref (qt 0), .ref (qf 0)] : List Value).toArray below meth c H locs 0 0 (qI_ D (tys0 κ) A nB_ zr (List.flatten [pTe κ qt (qp 0) t_lines z1 z2 z3 z4 z5 z6, pTa κ qp p_bytes p_size, pFr κ qf z7 z8 z9 z10 z11 z12 z13 z14 z15 z16 z17]) below ([.ref (qt 0), .ref (qf 0)] : List Value).toArray s) (F0 m 24 ls []) := by
    intro  H locs ls hw hl  hf
    have hf : (lt_ (fun (_ : Unit) => lt_ (fun (_ : Unit) => lt_ (fun (_ : Unit) => if t_kind = (1 : Int32) then b1_ (FTe_isWord t_start t_stop p_bytes 4) fun r7 => if r7 = 0 then b3_ (FTe_fail (2 : Int32) t_start) fun r11 w12 w13 => some (r11, w12, w13, t_kind, t_start, t_stop, t_value, f_held, f_couples, f_endJoints, f_lengths, f_stiffs, f_loadBeams, f_loadSizes, f_loadPlaces, f_joints, f_beams, f_loads) else b11_ (FTe_loadLine t_fault t_faultPlace t_kind t_start t_stop t_value p_bytes p_size f_loadBeams f_loadSizes f_loadPlaces f_loads (0 : Int32)) fun r16 w17 w18 w19 w20 w21 w22 w23 w24 w25 w26 => some (r16, w17, w18, w19, w20, w21, w22, f_held, f_couples, f_endJoints, f_lengths, f_stiffs, w23, w24, w25, f_joints, f_beams, w26) else b3_ (FTe_fail (2 : Int32) t_start) fun r2 w3 w4 => some (r2, w3, w4, t_kind, t_start, t_stop, t_value, f_held, f_couples, f_endJoints, f_lengths, f_stiffs, f_loadBeams, f_loadSizes, f_loadPlaces, f_joints, f_beams, f_loads) : Unit → Option (Int32 × Int32 × Int32 × Int32 × Int32 × Int32 × Int32 × (Nat → Int32) × (Nat → Int32) × (Nat → Int32) × (Nat → Int32) × (Nat → Int32) × (Nat → Int32) × (Nat → Int32) × (Nat → Int32) × Int32 × Int32 × Int32)) fun j29 => if t_kind = (1 : Int32) then b1_ (FTe_isWord t_start t_stop p_bytes 3) fun r32 => if r32 = 0 then j29 () else b11_ (FTe_loadLine t_fault t_faultPlace t_kind t_start t_stop t_value p_bytes p_size f_loadBeams f_loadSizes f_loadPlaces f_loads (1 : Int32)) fun r36 w37 w38 w39 w40 w41 w42 w43 w44 w45 w46 => some (r36, w37, w38, w39, w40, w41, w42, f_held, f_couples, f_endJoints, f_lengths, f_stiffs, w43, w44, w45, f_joints, f_beams, w46) else j29 () : Unit → Option (Int32 × Int32 × Int32 × Int32 × Int32 × Int32 × Int32 × (Nat → Int32) × (Nat → Int32) × (Nat → Int32) × (Nat → Int32) × (Nat → Int32) × (Nat → Int32) × (Nat → Int32) × (Nat → Int32) × Int32 × Int32 × Int32)) fun j49 => if t_kind = (1 : Int32) then b1_ (FTe_isWord t_start t_stop p_bytes 2) fun r52 => if r52 = 0 then j49 () else b11_ (FTe_beamLine t_fault t_faultPlace t_kind t_start t_stop t_value p_bytes p_size f_endJoints f_lengths f_stiffs f_beams) fun r56 w57 w58 w59 w60 w61 w62 w63 w64 w65 w66 => some (r56, w57, w58, w59, w60, w61, w62, f_held, f_couples, w63, w64, w65, f_loadBeams, f_loadSizes, f_loadPlaces, f_joints, w66, f_loads) else j49 () : Unit → Option (Int32 × Int32 × Int32 × Int32 × Int32 × Int32 × Int32 × (Nat → Int32) × (Nat → Int32) × (Nat → Int32) × (Nat → Int32) × (Nat → Int32) × (Nat → Int32) × (Nat → Int32) × (Nat → Int32) × Int32 × Int32 × Int32)) fun j69 => if t_kind = (1 : Int32) then b1_ (FTe_isWord t_start t_stop p_bytes 1) fun r72 => if r72 = 0 then j69 () else b10_ (FTe_jointLine t_fault t_faultPlace t_kind t_start t_stop t_value p_bytes p_size f_held f_couples f_joints (1 : Int32)) fun r76 w77 w78 w79 w80 w81 w82 w83 w84 w85 => some (r76, w77, w78, w79, w80, w81, w82, w83, w84, f_endJoints, f_lengths, f_stiffs, f_loadBeams, f_loadSizes, f_loadPlaces, w85, f_beams, f_loads) else j69 ()) = some (zr, z1, z2, z3, z4, z5, z6, z7, z8, z9, z10, z11, z12, z13, z14, z15, z16, z17) := by rw [ej88] at hf; exact hf
    refine lv_aload_n hx hb dX5_line_24 rfl (lv_at hl 0 rfl) ?_
    refine r_get C0 hw 0 4 (v := .int t_kind) rfl rfl inX5 (by decide) lk_X5_43 rfl dX5_line_25 ?_
    refine lv_iconst (v := 1) hx hb dX5_line_28 (by decide) ?_
    obtain ⟨j69, ej69, hf⟩ := lt_e hf
    have hj70 : ∀  (H : Heap) (locs : List Loc) (ls : Array Slot), wd_ D (tys0 κ) A s (List.flatten [pTe κ qt (qp 0) t_lines t_fault t_faultPlace t_kind t_start t_stop t_value, pTa κ qp p_bytes p_size, pFr κ qf f_held f_couples f_endJoints f_lengths f_stiffs f_loadBeams f_loadSizes f_loadPlaces f_joints f_beams f_loads]) H locs → lv_has ls 2 [(0, .ref (qt 0)), (1, .ref (qf 0))] → j69 () = some (zr, z1, z2, z3, z4, z5, z6, z7, z8, z9, z10, z11, z12, z13, z14, z15, z16, z17) → W p l e ({ frames := 5, cells := 0, slots := 0, locals := 107 } : Room) s m ([.ref (qt 0), .ref (qf 0)] : List Value).toArray below meth c H locs 0 0 (qI_ D (tys0 κ) A nB_ zr (List.flatten [pTe κ qt (qp 0) t_lines z1 z2 z3 z4 z5 z6, pTa κ qp p_bytes p_size, pFr κ qf z7 z8 z9 z10 z11 z12 z13 z14 z15 z16 z17]) below ([.ref (qt 0), .ref (qf 0)] : List Value).toArray s) (F0 m 48 ls []) := by
      intro  H locs ls hw hl  hf
      have hf : (lt_ (fun (_ : Unit) => lt_ (fun (_ : Unit) => if t_kind = (1 : Int32) then b1_ (FTe_isWord t_start t_stop p_bytes 4) fun r7 => if r7 = 0 then b3_ (FTe_fail (2 : Int32) t_start) fun r11 w12 w13 => some (r11, w12, w13, t_kind, t_start, t_stop, t_value, f_held, f_couples, f_endJoints, f_lengths, f_stiffs, f_loadBeams, f_loadSizes, f_loadPlaces, f_joints, f_beams, f_loads) else b11_ (FTe_loadLine t_fault t_faultPlace t_kind t_start t_stop t_value p_bytes p_size f_loadBeams f_loadSizes f_loadPlaces f_loads (0 : Int32)) fun r16 w17 w18 w19 w20 w21 w22 w23 w24 w25 w26 => some (r16, w17, w18, w19, w20, w21, w22, f_held, f_couples, f_endJoints, f_lengths, f_stiffs, w23, w24, w25, f_joints, f_beams, w26) else b3_ (FTe_fail (2 : Int32) t_start) fun r2 w3 w4 => some (r2, w3, w4, t_kind, t_start, t_stop, t_value, f_held, f_couples, f_endJoints, f_lengths, f_stiffs, f_loadBeams, f_loadSizes, f_loadPlaces, f_joints, f_beams, f_loads) : Unit → Option (Int32 × Int32 × Int32 × Int32 × Int32 × Int32 × Int32 × (Nat → Int32) × (Nat → Int32) × (Nat → Int32) × (Nat → Int32) × (Nat → Int32) × (Nat → Int32) × (Nat → Int32) × (Nat → Int32) × Int32 × Int32 × Int32)) fun j29 => if t_kind = (1 : Int32) then b1_ (FTe_isWord t_start t_stop p_bytes 3) fun r32 => if r32 = 0 then j29 () else b11_ (FTe_loadLine t_fault t_faultPlace t_kind t_start t_stop t_value p_bytes p_size f_loadBeams f_loadSizes f_loadPlaces f_loads (1 : Int32)) fun r36 w37 w38 w39 w40 w41 w42 w43 w44 w45 w46 => some (r36, w37, w38, w39, w40, w41, w42, f_held, f_couples, f_endJoints, f_lengths, f_stiffs, w43, w44, w45, f_joints, f_beams, w46) else j29 () : Unit → Option (Int32 × Int32 × Int32 × Int32 × Int32 × Int32 × Int32 × (Nat → Int32) × (Nat → Int32) × (Nat → Int32) × (Nat → Int32) × (Nat → Int32) × (Nat → Int32) × (Nat → Int32) × (Nat → Int32) × Int32 × Int32 × Int32)) fun j49 => if t_kind = (1 : Int32) then b1_ (FTe_isWord t_start t_stop p_bytes 2) fun r52 => if r52 = 0 then j49 () else b11_ (FTe_beamLine t_fault t_faultPlace t_kind t_start t_stop t_value p_bytes p_size f_endJoints f_lengths f_stiffs f_beams) fun r56 w57 w58 w59 w60 w61 w62 w63 w64 w65 w66 => some (r56, w57, w58, w59, w60, w61, w62, f_held, f_couples, w63, w64, w65, f_loadBeams, f_loadSizes, f_loadPlaces, f_joints, w66, f_loads) else j49 ()) = some (zr, z1, z2, z3, z4, z5, z6, z7, z8, z9, z10, z11, z12, z13, z14, z15, z16, z17) := by rw [ej69] at hf; exact hf
      refine lv_aload_n hx hb dX5_line_48 rfl (lv_at hl 0 rfl) ?_
      refine r_get C0 hw 0 4 (v := .int t_kind) rfl rfl inX5 (by decide) lk_X5_43 rfl dX5_line_49 ?_
      refine lv_iconst (v := 1) hx hb dX5_line_52 (by decide) ?_
      obtain ⟨j49, ej49, hf⟩ := lt_e hf
      have hj50 : ∀  (H : Heap) (locs : List Loc) (ls : Array Slot), wd_ D (tys0 κ) A s (List.flatten [pTe κ qt (qp 0) t_lines t_fault t_faultPlace t_kind t_start t_stop t_value, pTa κ qp p_bytes p_size, pFr κ qf f_held f_couples f_endJoints f_lengths f_stiffs f_loadBeams f_loadSizes f_loadPlaces f_joints f_beams f_loads]) H locs → lv_has ls 2 [(0, .ref (qt 0)), (1, .ref (qf 0))] → j49 () = some (zr, z1, z2, z3, z4, z5, z6, z7, z8, z9, z10, z11, z12, z13, z14, z15, z16, z17) → W p l e ({ frames := 5, cells := 0, slots := 0, locals := 107 } : Room) s m ([.ref (qt 0), .ref (qf 0)] : List Value).toArray below meth c H locs 0 0 (qI_ D (tys0 κ) A nB_ zr (List.flatten [pTe κ qt (qp 0) t_lines z1 z2 z3 z4 z5 z6, pTa κ qp p_bytes p_size, pFr κ qf z7 z8 z9 z10 z11 z12 z13 z14 z15 z16 z17]) below ([.ref (qt 0), .ref (qf 0)] : List Value).toArray s) (F0 m 71 ls []) := by
        intro  H locs ls hw hl  hf
        have hf : (lt_ (fun (_ : Unit) => if t_kind = (1 : Int32) then b1_ (FTe_isWord t_start t_stop p_bytes 4) fun r7 => if r7 = 0 then b3_ (FTe_fail (2 : Int32) t_start) fun r11 w12 w13 => some (r11, w12, w13, t_kind, t_start, t_stop, t_value, f_held, f_couples, f_endJoints, f_lengths, f_stiffs, f_loadBeams, f_loadSizes, f_loadPlaces, f_joints, f_beams, f_loads) else b11_ (FTe_loadLine t_fault t_faultPlace t_kind t_start t_stop t_value p_bytes p_size f_loadBeams f_loadSizes f_loadPlaces f_loads (0 : Int32)) fun r16 w17 w18 w19 w20 w21 w22 w23 w24 w25 w26 => some (r16, w17, w18, w19, w20, w21, w22, f_held, f_couples, f_endJoints, f_lengths, f_stiffs, w23, w24, w25, f_joints, f_beams, w26) else b3_ (FTe_fail (2 : Int32) t_start) fun r2 w3 w4 => some (r2, w3, w4, t_kind, t_start, t_stop, t_value, f_held, f_couples, f_endJoints, f_lengths, f_stiffs, f_loadBeams, f_loadSizes, f_loadPlaces, f_joints, f_beams, f_loads) : Unit → Option (Int32 × Int32 × Int32 × Int32 × Int32 × Int32 × Int32 × (Nat → Int32) × (Nat → Int32) × (Nat → Int32) × (Nat → Int32) × (Nat → Int32) × (Nat → Int32) × (Nat → Int32) × (Nat → Int32) × Int32 × Int32 × Int32)) fun j29 => if t_kind = (1 : Int32) then b1_ (FTe_isWord t_start t_stop p_bytes 3) fun r32 => if r32 = 0 then j29 () else b11_ (FTe_loadLine t_fault t_faultPlace t_kind t_start t_stop t_value p_bytes p_size f_loadBeams f_loadSizes f_loadPlaces f_loads (1 : Int32)) fun r36 w37 w38 w39 w40 w41 w42 w43 w44 w45 w46 => some (r36, w37, w38, w39, w40, w41, w42, f_held, f_couples, f_endJoints, f_lengths, f_stiffs, w43, w44, w45, f_joints, f_beams, w46) else j29 ()) = some (zr, z1, z2, z3, z4, z5, z6, z7, z8, z9, z10, z11, z12, z13, z14, z15, z16, z17) := by rw [ej49] at hf; exact hf
        refine lv_aload_n hx hb dX5_line_71 rfl (lv_at hl 0 rfl) ?_
        refine r_get C0 hw 0 4 (v := .int t_kind) rfl rfl inX5 (by decide) lk_X5_43 rfl dX5_line_72 ?_
        refine lv_iconst (v := 1) hx hb dX5_line_75 (by decide) ?_
        obtain ⟨j29, ej29, hf⟩ := lt_e hf
        have hj30 : ∀  (H : Heap) (locs : List Loc) (ls : Array Slot), wd_ D (tys0 κ) A s (List.flatten [pTe κ qt (qp 0) t_lines t_fault t_faultPlace t_kind t_start t_stop t_value, pTa κ qp p_bytes p_size, pFr κ qf f_held f_couples f_endJoints f_lengths f_stiffs f_loadBeams f_loadSizes f_loadPlaces f_joints f_beams f_loads]) H locs → lv_has ls 2 [(0, .ref (qt 0)), (1, .ref (qf 0))] → j29 () = some (zr, z1, z2, z3, z4, z5, z6, z7, z8, z9, z10, z11, z12, z13, z14, z15, z16, z17) → W p l e ({ frames := 5, cells := 0, slots := 0, locals := 107 } : Room) s m ([.ref (qt 0), .ref (qf 0)] : List Value).toArray below meth c H locs 0 0 (qI_ D (tys0 κ) A nB_ zr (List.flatten [pTe κ qt (qp 0) t_lines z1 z2 z3 z4 z5 z6, pTa κ qp p_bytes p_size, pFr κ qf z7 z8 z9 z10 z11 z12 z13 z14 z15 z16 z17]) below ([.ref (qt 0), .ref (qf 0)] : List Value).toArray s) (F0 m 95 ls []) := by
          intro  H locs ls hw hl  hf
          have hf : (if t_kind = (1 : Int32) then b1_ (FTe_isWord t_start t_stop p_bytes 4) fun r7 => if r7 = 0 then b3_ (FTe_fail (2 : Int32) t_start) fun r11 w12 w13 => some (r11, w12, w13, t_kind, t_start, t_stop, t_value, f_held, f_couples, f_endJoints, f_lengths, f_stiffs, f_loadBeams, f_loadSizes, f_loadPlaces, f_joints, f_beams, f_loads) else b11_ (FTe_loadLine t_fault t_faultPlace t_kind t_start t_stop t_value p_bytes p_size f_loadBeams f_loadSizes f_loadPlaces f_loads (0 : Int32)) fun r16 w17 w18 w19 w20 w21 w22 w23 w24 w25 w26 => some (r16, w17, w18, w19, w20, w21, w22, f_held, f_couples, f_endJoints, f_lengths, f_stiffs, w23, w24, w25, f_joints, f_beams, w26) else b3_ (FTe_fail (2 : Int32) t_start) fun r2 w3 w4 => some (r2, w3, w4, t_kind, t_start, t_stop, t_value, f_held, f_couples, f_endJoints, f_lengths, f_stiffs, f_loadBeams, f_loadSizes, f_loadPlaces, f_joints, f_beams, f_loads)) = some (zr, z1, z2, z3, z4, z5, z6, z7, z8, z9, z10, z11, z12, z13, z14, z15, z16, z17) := by rw [ej29] at hf; exact hf
          refine lv_aload_n hx hb dX5_line_95 rfl (lv_at hl 0 rfl) ?_
          refine r_get C0 hw 0 4 (v := .int t_kind) rfl rfl inX5 (by decide) lk_X5_43 rfl dX5_line_96 ?_
          refine lv_iconst (v := 1) hx hb dX5_line_99 (by decide) ?_
          refine lv_icmp_ne (tgt := 119) hx hb dX5_line_100 (by decide) (fun hc1 => ?_) (fun hc1 => ?_)
          · have hf := if_f hc1 hf
            refine lv_aload_n hx hb dX5_line_119 rfl (lv_at hl 0 rfl) ?_
            refine lv_iconst (v := 2) hx hb dX5_line_120 (by decide) ?_
            refine lv_aload_n hx hb dX5_line_121 rfl (lv_at hl 0 rfl) ?_
            refine r_get C0 hw 0 5 (v := .int t_start) rfl rfl inX5 (by decide) lk_X5_81 rfl dX5_line_122 ?_
            obtain ⟨r2, w3, w4, hk5, hf⟩ := b3_s hf
            refine rv_i (vq := (RX5, TX5, 8)) (As := [.int (2 : Int32), .int t_start]) (rest := []) (bs' := [pTe κ qt (qp 0) t_lines w3 w4 t_kind t_start t_stop t_value, pTa κ qp p_bytes p_size, pFr κ qf f_held f_couples f_endJoints f_lengths f_stiffs f_loadBeams f_loadSizes f_loadPlaces f_joints f_beams f_loads]) C0 hw (cTe_fail l D κ qt t_lines t_fault t_faultPlace t_kind t_start t_stop t_value qp p_bytes p_size (2 : Int32) t_start r2 w3 w4 hk5) cv_RX5_53 ⟨rfl, rfl, Nat.le_of_ble_eq_true rfl, Nat.le_of_ble_eq_true rfl⟩ ⟨Nat.zero_le _, Nat.zero_le _⟩ [0, 1] [2] [1, 2, 0] rfl rfl rfl rfl (by decide) rfl rfl rfl rfl rfl hl.1 (by simp only [List.map, List.sum_cons, List.sum_nil, Value.category]; decide) dX5_line_125 (fun H locs hw hn6 => ?_)
            obtain ⟨rfl, rfl, rfl, rfl, rfl, rfl, rfl, rfl, rfl, rfl, rfl, rfl, rfl, rfl, rfl, rfl, rfl, rfl⟩ := e18_ hf
            exact r_zret C0 hw hn6 dX5_line_128
          · have hf := if_t hc1 hf
            refine lv_aload_n hx hb dX5_line_103 rfl (lv_at hl 0 rfl) ?_
            refine va_ldcS hx hb hown (hE.2.1 4 (by decide)) dX5_line_104 ?_
            obtain ⟨r7, hk8, hf⟩ := b1_s hf
            refine rvX_i (vq := (RX5, TX5, 8)) (As := [.ref (adK 4)]) (rest := []) (bs' := [pTe κ qt (qp 0) t_lines t_fault t_faultPlace t_kind t_start t_stop t_value, pTa κ qp p_bytes p_size, pFr κ qf f_held f_couples f_endJoints f_lengths f_stiffs f_loadBeams f_loadSizes f_loadPlaces f_joints f_beams f_loads]) C0 hw hE (cTe_isWord l D κ adK adV qt t_lines t_fault t_faultPlace t_kind t_start t_stop t_value qp p_bytes p_size 4 r7 (by decide) hk8) cv_RX5_59 ⟨rfl, rfl, Nat.le_of_ble_eq_true rfl, Nat.le_of_ble_eq_true rfl⟩ ⟨Nat.zero_le _, Nat.zero_le _⟩ [0, 1] [2] [1, 2, 0] rfl rfl rfl rfl (by decide) rfl rfl rfl rfl rfl hl.1 (by simp only [List.map, List.sum_cons, List.sum_nil, Value.category]; decide) dX5_line_106 (fun H locs hw hn9 => ?_)
            refine lv_if_eq (tgt := 119) hx hb dX5_line_109 (by decide) (fun hc10 => ?_) (fun hc10 => ?_)
            · have hf := if_t hc10 hf
              refine lv_aload_n hx hb dX5_line_119 rfl (lv_at hl 0 rfl) ?_
              refine lv_iconst (v := 2) hx hb dX5_line_120 (by decide) ?_
              refine lv_aload_n hx hb dX5_line_121 rfl (lv_at hl 0 rfl) ?_
              refine r_get C0 hw 0 5 (v := .int t_start) rfl rfl inX5 (by decide) lk_X5_81 rfl dX5_line_122 ?_
              obtain ⟨r11, w12, w13, hk14, hf⟩ := b3_s hf
              refine rv_i (vq := (RX5, TX5, 8)) (As := [.int (2 : Int32), .int t_start]) (rest := []) (bs' := [pTe κ qt (qp 0) t_lines w12 w13 t_kind t_start t_stop t_value, pTa κ qp p_bytes p_size, pFr κ qf f_held f_couples f_endJoints f_lengths f_stiffs f_loadBeams f_loadSizes f_loadPlaces f_joints f_beams f_loads]) C0 hw (cTe_fail l D κ qt t_lines t_fault t_faultPlace t_kind t_start t_stop t_value qp p_bytes p_size (2 : Int32) t_start r11 w12 w13 hk14) cv_RX5_53 ⟨rfl, rfl, Nat.le_of_ble_eq_true rfl, Nat.le_of_ble_eq_true rfl⟩ ⟨Nat.zero_le _, Nat.zero_le _⟩ [0, 1] [2] [1, 2, 0] rfl rfl rfl rfl (by decide) rfl rfl rfl rfl rfl hl.1 (by simp only [List.map, List.sum_cons, List.sum_nil, Value.category]; decide) dX5_line_125 (fun H locs hw hn15 => ?_)
              obtain ⟨rfl, rfl, rfl, rfl, rfl, rfl, rfl, rfl, rfl, rfl, rfl, rfl, rfl, rfl, rfl, rfl, rfl, rfl⟩ := e18_ hf
              exact r_zret C0 hw hn15 dX5_line_128
            · have hf := if_f hc10 hf
              refine lv_aload_n hx hb dX5_line_112 rfl (lv_at hl 0 rfl) ?_
              refine lv_aload_n hx hb dX5_line_113 rfl (lv_at hl 1 rfl) ?_
              refine lv_iconst (v := 0) hx hb dX5_line_114 (by decide) ?_
              obtain ⟨r16, w17, w18, w19, w20, w21, w22, w23, w24, w25, w26, hk27, hf⟩ := b11_s hf
              refine rv_i (vq := (RX5, TX5, 8)) (As := [.ref (qf 0), .int (0 : Int32)]) (rest := []) (bs' := [pTe κ qt (qp 0) t_lines w17 w18 w19 w20 w21 w22, pTa κ qp p_bytes p_size, pFr κ qf f_held f_couples f_endJoints f_lengths f_stiffs w23 w24 w25 f_joints f_beams w26]) C0 hw (cTe_loadLine l D κ qt t_lines t_fault t_faultPlace t_kind t_start t_stop t_value qp p_bytes p_size qf f_held f_couples f_endJoints f_lengths f_stiffs f_loadBeams f_loadSizes f_loadPlaces f_joints f_beams f_loads (0 : Int32) r16 w17 w18 w19 w20 w21 w22 w23 w24 w25 w26 hk27) cv_RX5_76 ⟨rfl, rfl, Nat.le_of_ble_eq_true rfl, Nat.le_of_ble_eq_true rfl⟩ ⟨Nat.zero_le _, Nat.zero_le _⟩ [0, 1, 2] [] [0, 1, 2] rfl rfl rfl rfl (by decide) rfl rfl rfl rfl rfl hl.1 (by simp only [List.map, List.sum_cons, List.sum_nil, Value.category]; decide) dX5_line_115 (fun H locs hw hn28 => ?_)
              obtain ⟨rfl, rfl, rfl, rfl, rfl, rfl, rfl, rfl, rfl, rfl, rfl, rfl, rfl, rfl, rfl, rfl, rfl, rfl⟩ := e18_ hf
              exact r_zret C0 hw hn28 dX5_line_118
        refine lv_icmp_ne (tgt := 95) hx hb dX5_line_76 (by decide) (fun hc31 => ?_) (fun hc31 => ?_)
        · have hf := if_f hc31 hf
          exact hj30  H locs ls hw (lv_sub hl [0, 1] rfl)  hf
        · have hf := if_t hc31 hf
          refine lv_aload_n hx hb dX5_line_79 rfl (lv_at hl 0 rfl) ?_
          refine va_ldcS hx hb hown (hE.2.1 3 (by decide)) dX5_line_80 ?_
          obtain ⟨r32, hk33, hf⟩ := b1_s hf
          refine rvX_i (vq := (RX5, TX5, 8)) (As := [.ref (adK 3)]) (rest := []) (bs' := [pTe κ qt (qp 0) t_lines t_fault t_faultPlace t_kind t_start t_stop t_value, pTa κ qp p_bytes p_size, pFr κ qf f_held f_couples f_endJoints f_lengths f_stiffs f_loadBeams f_loadSizes f_loadPlaces f_joints f_beams f_loads]) C0 hw hE (cTe_isWord l D κ adK adV qt t_lines t_fault t_faultPlace t_kind t_start t_stop t_value qp p_bytes p_size 3 r32 (by decide) hk33) cv_RX5_59 ⟨rfl, rfl, Nat.le_of_ble_eq_true rfl, Nat.le_of_ble_eq_true rfl⟩ ⟨Nat.zero_le _, Nat.zero_le _⟩ [0, 1] [2] [1, 2, 0] rfl rfl rfl rfl (by decide) rfl rfl rfl rfl rfl hl.1 (by simp only [List.map, List.sum_cons, List.sum_nil, Value.category]; decide) dX5_line_82 (fun H locs hw hn34 => ?_)
          refine lv_if_eq (tgt := 95) hx hb dX5_line_85 (by decide) (fun hc35 => ?_) (fun hc35 => ?_)
          · have hf := if_t hc35 hf
            exact hj30  H locs ls hw (lv_sub hl [0, 1] rfl)  hf
          · have hf := if_f hc35 hf
            refine lv_aload_n hx hb dX5_line_88 rfl (lv_at hl 0 rfl) ?_
            refine lv_aload_n hx hb dX5_line_89 rfl (lv_at hl 1 rfl) ?_
            refine lv_iconst (v := 1) hx hb dX5_line_90 (by decide) ?_
            obtain ⟨r36, w37, w38, w39, w40, w41, w42, w43, w44, w45, w46, hk47, hf⟩ := b11_s hf
            refine rv_i (vq := (RX5, TX5, 8)) (As := [.ref (qf 0), .int (1 : Int32)]) (rest := []) (bs' := [pTe κ qt (qp 0) t_lines w37 w38 w39 w40 w41 w42, pTa κ qp p_bytes p_size, pFr κ qf f_held f_couples f_endJoints f_lengths f_stiffs w43 w44 w45 f_joints f_beams w46]) C0 hw (cTe_loadLine l D κ qt t_lines t_fault t_faultPlace t_kind t_start t_stop t_value qp p_bytes p_size qf f_held f_couples f_endJoints f_lengths f_stiffs f_loadBeams f_loadSizes f_loadPlaces f_joints f_beams f_loads (1 : Int32) r36 w37 w38 w39 w40 w41 w42 w43 w44 w45 w46 hk47) cv_RX5_76 ⟨rfl, rfl, Nat.le_of_ble_eq_true rfl, Nat.le_of_ble_eq_true rfl⟩ ⟨Nat.zero_le _, Nat.zero_le _⟩ [0, 1, 2] [] [0, 1, 2] rfl rfl rfl rfl (by decide) rfl rfl rfl rfl rfl hl.1 (by simp only [List.map, List.sum_cons, List.sum_nil, Value.category]; decide) dX5_line_91 (fun H locs hw hn48 => ?_)
            obtain ⟨rfl, rfl, rfl, rfl, rfl, rfl, rfl, rfl, rfl, rfl, rfl, rfl, rfl, rfl, rfl, rfl, rfl, rfl⟩ := e18_ hf
            exact r_zret C0 hw hn48 dX5_line_94
      refine lv_icmp_ne (tgt := 71) hx hb dX5_line_53 (by decide) (fun hc51 => ?_) (fun hc51 => ?_)
      · have hf := if_f hc51 hf
        exact hj50  H locs ls hw (lv_sub hl [0, 1] rfl)  hf
      · have hf := if_t hc51 hf
        refine lv_aload_n hx hb dX5_line_56 rfl (lv_at hl 0 rfl) ?_
        refine va_ldcS hx hb hown (hE.2.1 2 (by decide)) dX5_line_57 ?_
        obtain ⟨r52, hk53, hf⟩ := b1_s hf
        refine rvX_i (vq := (RX5, TX5, 8)) (As := [.ref (adK 2)]) (rest := []) (bs' := [pTe κ qt (qp 0) t_lines t_fault t_faultPlace t_kind t_start t_stop t_value, pTa κ qp p_bytes p_size, pFr κ qf f_held f_couples f_endJoints f_lengths f_stiffs f_loadBeams f_loadSizes f_loadPlaces f_joints f_beams f_loads]) C0 hw hE (cTe_isWord l D κ adK adV qt t_lines t_fault t_faultPlace t_kind t_start t_stop t_value qp p_bytes p_size 2 r52 (by decide) hk53) cv_RX5_59 ⟨rfl, rfl, Nat.le_of_ble_eq_true rfl, Nat.le_of_ble_eq_true rfl⟩ ⟨Nat.zero_le _, Nat.zero_le _⟩ [0, 1] [2] [1, 2, 0] rfl rfl rfl rfl (by decide) rfl rfl rfl rfl rfl hl.1 (by simp only [List.map, List.sum_cons, List.sum_nil, Value.category]; decide) dX5_line_59 (fun H locs hw hn54 => ?_)
        refine lv_if_eq (tgt := 71) hx hb dX5_line_62 (by decide) (fun hc55 => ?_) (fun hc55 => ?_)
        · have hf := if_t hc55 hf
          exact hj50  H locs ls hw (lv_sub hl [0, 1] rfl)  hf
        · have hf := if_f hc55 hf
          refine lv_aload_n hx hb dX5_line_65 rfl (lv_at hl 0 rfl) ?_
          refine lv_aload_n hx hb dX5_line_66 rfl (lv_at hl 1 rfl) ?_
          obtain ⟨r56, w57, w58, w59, w60, w61, w62, w63, w64, w65, w66, hk67, hf⟩ := b11_s hf
          refine rv_i (vq := (RX5, TX5, 8)) (As := [.ref (qf 0)]) (rest := []) (bs' := [pTe κ qt (qp 0) t_lines w57 w58 w59 w60 w61 w62, pTa κ qp p_bytes p_size, pFr κ qf f_held f_couples w63 w64 w65 f_loadBeams f_loadSizes f_loadPlaces f_joints w66 f_loads]) C0 hw (cTe_beamLine l D κ qt t_lines t_fault t_faultPlace t_kind t_start t_stop t_value qp p_bytes p_size qf f_held f_couples f_endJoints f_lengths f_stiffs f_loadBeams f_loadSizes f_loadPlaces f_joints f_beams f_loads r56 w57 w58 w59 w60 w61 w62 w63 w64 w65 w66 hk67) cv_RX5_71 ⟨rfl, rfl, Nat.le_of_ble_eq_true rfl, Nat.le_of_ble_eq_true rfl⟩ ⟨Nat.zero_le _, Nat.zero_le _⟩ [0, 1, 2] [] [0, 1, 2] rfl rfl rfl rfl (by decide) rfl rfl rfl rfl rfl hl.1 (by simp only [List.map, List.sum_cons, List.sum_nil, Value.category]; decide) dX5_line_67 (fun H locs hw hn68 => ?_)
          obtain ⟨rfl, rfl, rfl, rfl, rfl, rfl, rfl, rfl, rfl, rfl, rfl, rfl, rfl, rfl, rfl, rfl, rfl, rfl⟩ := e18_ hf
          exact r_zret C0 hw hn68 dX5_line_70
    refine lv_icmp_ne (tgt := 48) hx hb dX5_line_29 (by decide) (fun hc71 => ?_) (fun hc71 => ?_)
    · have hf := if_f hc71 hf
      exact hj70  H locs ls hw (lv_sub hl [0, 1] rfl)  hf
    · have hf := if_t hc71 hf
      refine lv_aload_n hx hb dX5_line_32 rfl (lv_at hl 0 rfl) ?_
      refine va_ldcS hx hb hown (hE.2.1 1 (by decide)) dX5_line_33 ?_
      obtain ⟨r72, hk73, hf⟩ := b1_s hf
      refine rvX_i (vq := (RX5, TX5, 8)) (As := [.ref (adK 1)]) (rest := []) (bs' := [pTe κ qt (qp 0) t_lines t_fault t_faultPlace t_kind t_start t_stop t_value, pTa κ qp p_bytes p_size, pFr κ qf f_held f_couples f_endJoints f_lengths f_stiffs f_loadBeams f_loadSizes f_loadPlaces f_joints f_beams f_loads]) C0 hw hE (cTe_isWord l D κ adK adV qt t_lines t_fault t_faultPlace t_kind t_start t_stop t_value qp p_bytes p_size 1 r72 (by decide) hk73) cv_RX5_59 ⟨rfl, rfl, Nat.le_of_ble_eq_true rfl, Nat.le_of_ble_eq_true rfl⟩ ⟨Nat.zero_le _, Nat.zero_le _⟩ [0, 1] [2] [1, 2, 0] rfl rfl rfl rfl (by decide) rfl rfl rfl rfl rfl hl.1 (by simp only [List.map, List.sum_cons, List.sum_nil, Value.category]; decide) dX5_line_35 (fun H locs hw hn74 => ?_)
      refine lv_if_eq (tgt := 48) hx hb dX5_line_38 (by decide) (fun hc75 => ?_) (fun hc75 => ?_)
      · have hf := if_t hc75 hf
        exact hj70  H locs ls hw (lv_sub hl [0, 1] rfl)  hf
      · have hf := if_f hc75 hf
        refine lv_aload_n hx hb dX5_line_41 rfl (lv_at hl 0 rfl) ?_
        refine lv_aload_n hx hb dX5_line_42 rfl (lv_at hl 1 rfl) ?_
        refine lv_iconst (v := 1) hx hb dX5_line_43 (by decide) ?_
        obtain ⟨r76, w77, w78, w79, w80, w81, w82, w83, w84, w85, hk86, hf⟩ := b10_s hf
        refine rv_i (vq := (RX5, TX5, 8)) (As := [.ref (qf 0), .int (1 : Int32)]) (rest := []) (bs' := [pTe κ qt (qp 0) t_lines w77 w78 w79 w80 w81 w82, pTa κ qp p_bytes p_size, pFr κ qf w83 w84 f_endJoints f_lengths f_stiffs f_loadBeams f_loadSizes f_loadPlaces w85 f_beams f_loads]) C0 hw (cTe_jointLine l D κ qt t_lines t_fault t_faultPlace t_kind t_start t_stop t_value qp p_bytes p_size qf f_held f_couples f_endJoints f_lengths f_stiffs f_loadBeams f_loadSizes f_loadPlaces f_joints f_beams f_loads (1 : Int32) r76 w77 w78 w79 w80 w81 w82 w83 w84 w85 hk86) cv_RX5_63 ⟨rfl, rfl, Nat.le_of_ble_eq_true rfl, Nat.le_of_ble_eq_true rfl⟩ ⟨Nat.zero_le _, Nat.zero_le _⟩ [0, 1, 2] [] [0, 1, 2] rfl rfl rfl rfl (by decide) rfl rfl rfl rfl rfl hl.1 (by simp only [List.map, List.sum_cons, List.sum_nil, Value.category]; decide) dX5_line_44 (fun H locs hw hn87 => ?_)
        obtain ⟨rfl, rfl, rfl, rfl, rfl, rfl, rfl, rfl, rfl, rfl, rfl, rfl, rfl, rfl, rfl, rfl, rfl, rfl⟩ := e18_ hf
        exact r_zret C0 hw hn87 dX5_line_47
  refine lv_icmp_ne (tgt := 24) hx hb dX5_line_5 (by decide) (fun hc90 => ?_) (fun hc90 => ?_)
  · have hf := if_f hc90 hf
    exact hj89  H locs ls hw (lv_sub hl [0, 1] rfl)  hf
  · have hf := if_t hc90 hf
    refine lv_aload_n hx hb dX5_line_8 rfl (lv_at hl 0 rfl) ?_
    refine va_ldcS hx hb hown (hE.2.1 0 (by decide)) dX5_line_9 ?_
    obtain ⟨r91, hk92, hf⟩ := b1_s hf
    refine rvX_i (vq := (RX5, TX5, 8)) (As := [.ref (adK 0)]) (rest := []) (bs' := [pTe κ qt (qp 0) t_lines t_fault t_faultPlace t_kind t_start t_stop t_value, pTa κ qp p_bytes p_size, pFr κ qf f_held f_couples f_endJoints f_lengths f_stiffs f_loadBeams f_loadSizes f_loadPlaces f_joints f_beams f_loads]) C0 hw hE (cTe_isWord l D κ adK adV qt t_lines t_fault t_faultPlace t_kind t_start t_stop t_value qp p_bytes p_size 0 r91 (by decide) hk92) cv_RX5_59 ⟨rfl, rfl, Nat.le_of_ble_eq_true rfl, Nat.le_of_ble_eq_true rfl⟩ ⟨Nat.zero_le _, Nat.zero_le _⟩ [0, 1] [2] [1, 2, 0] rfl rfl rfl rfl (by decide) rfl rfl rfl rfl rfl hl.1 (by simp only [List.map, List.sum_cons, List.sum_nil, Value.category]; decide) dX5_line_11 (fun H locs hw hn93 => ?_)
    refine lv_if_eq (tgt := 24) hx hb dX5_line_14 (by decide) (fun hc94 => ?_) (fun hc94 => ?_)
    · have hf := if_t hc94 hf
      exact hj89  H locs ls hw (lv_sub hl [0, 1] rfl)  hf
    · have hf := if_f hc94 hf
      refine lv_aload_n hx hb dX5_line_17 rfl (lv_at hl 0 rfl) ?_
      refine lv_aload_n hx hb dX5_line_18 rfl (lv_at hl 1 rfl) ?_
      refine lv_iconst (v := 0) hx hb dX5_line_19 (by decide) ?_
      obtain ⟨r95, w96, w97, w98, w99, w100, w101, w102, w103, w104, hk105, hf⟩ := b10_s hf
      refine rv_i (vq := (RX5, TX5, 8)) (As := [.ref (qf 0), .int (0 : Int32)]) (rest := []) (bs' := [pTe κ qt (qp 0) t_lines w96 w97 w98 w99 w100 w101, pTa κ qp p_bytes p_size, pFr κ qf w102 w103 f_endJoints f_lengths f_stiffs f_loadBeams f_loadSizes f_loadPlaces w104 f_beams f_loads]) C0 hw (cTe_jointLine l D κ qt t_lines t_fault t_faultPlace t_kind t_start t_stop t_value qp p_bytes p_size qf f_held f_couples f_endJoints f_lengths f_stiffs f_loadBeams f_loadSizes f_loadPlaces f_joints f_beams f_loads (0 : Int32) r95 w96 w97 w98 w99 w100 w101 w102 w103 w104 hk105) cv_RX5_63 ⟨rfl, rfl, Nat.le_of_ble_eq_true rfl, Nat.le_of_ble_eq_true rfl⟩ ⟨Nat.zero_le _, Nat.zero_le _⟩ [0, 1, 2] [] [0, 1, 2] rfl rfl rfl rfl (by decide) rfl rfl rfl rfl rfl hl.1 (by simp only [List.map, List.sum_cons, List.sum_nil, Value.category]; decide) dX5_line_20 (fun H locs hw hn106 => ?_)
      obtain ⟨rfl, rfl, rfl, rfl, rfl, rfl, rfl, rfl, rfl, rfl, rfl, rfl, rfl, rfl, rfl, rfl, rfl, rfl⟩ := e18_ hf
      exact r_zret C0 hw hn106 dX5_line_23
def FTe_tell_L24 (p_bytes : Nat → Int32) (p_size : Int32) (k_ : Int32 → Int32 → Int32 → Int32 → Int32 → Int32 → Int32 → (Nat → Int32) → (Nat → Int32) → (Nat → Int32) → (Nat → Int32) → (Nat → Int32) → (Nat → Int32) → (Nat → Int32) → (Nat → Int32) → Int32 → Int32 → Int32 → Option (Int32 × Int32 × Int32 × Int32 × Int32 × Int32 × Int32 × Int32 × (Nat → Int32) × (Nat → Int32) × (Nat → Int32) × (Nat → Int32) × (Nat → Int32) × (Nat → Int32) × (Nat → Int32) × (Nat → Int32) × Int32 × Int32 × Int32)) : Nat → Int32 → Int32 → Int32 → Int32 → Int32 → Int32 → Int32 → (Nat → Int32) → (Nat → Int32) → (Nat → Int32) → (Nat → Int32) → (Nat → Int32) → (Nat → Int32) → (Nat → Int32) → (Nat → Int32) → Int32 → Int32 → Int32 → Option (Int32 × Int32 × Int32 × Int32 × Int32 × Int32 × Int32 × Int32 × (Nat → Int32) × (Nat → Int32) × (Nat → Int32) × (Nat → Int32) × (Nat → Int32) × (Nat → Int32) × (Nat → Int32) × (Nat → Int32) × Int32 × Int32 × Int32)
  | 0, _, _, _, _, _, _, _, _, _, _, _, _, _, _, _, _, _, _ => none
  | n + 1, t_lines, t_fault, t_faultPlace, t_kind, t_start, t_stop, t_value, f_held, f_couples, f_endJoints, f_lengths, f_stiffs, f_loadBeams, f_loadSizes, f_loadPlaces, f_joints, f_beams, f_loads =>
      lt_ (fun (w6 : Int32) (w7 : Int32) (w8 : Int32) (w9 : Int32) (w10 : Int32) (w11 : Int32) =>
        k_ t_lines w6 w7 w8 w9 w10 w11 f_held f_couples f_endJoints f_lengths f_stiffs f_loadBeams f_loadSizes f_loadPlaces f_joints f_beams f_loads : Int32 → Int32 → Int32 → Int32 → Int32 → Int32 → Option (Int32 × Int32 × Int32 × Int32 × Int32 × Int32 × Int32 × Int32 × (Nat → Int32) × (Nat → Int32) × (Nat → Int32) × (Nat → Int32) × (Nat → Int32) × (Nat → Int32) × (Nat → Int32) × (Nat → Int32) × Int32 × Int32 × Int32)) fun j12 =>
      if p_size < t_lines then
        j12 t_fault t_faultPlace t_kind t_start t_stop t_value
      else
        b7_ (FTe_scan t_fault t_faultPlace t_kind t_stop t_value p_bytes p_size) fun r15 w16 w17 w18 w19 w20 w21 =>
        if r15 = 0 then
          some ((0 : Int32), t_lines, w16, w17, w18, w19, w20, w21, f_held, f_couples, f_endJoints, f_lengths, f_stiffs, f_loadBeams, f_loadSizes, f_loadPlaces, f_joints, f_beams, f_loads)
        else
          if w18 = 0 then
            j12 w16 w17 w18 w19 w20 w21
          else
            b18_ (FTe_line w16 w17 w18 w19 w20 w21 p_bytes p_size f_held f_couples f_endJoints f_lengths f_stiffs f_loadBeams f_loadSizes f_loadPlaces f_joints f_beams f_loads) fun r26 w27 w28 w29 w30 w31 w32 w33 w34 w35 w36 w37 w38 w39 w40 w41 w42 w43 =>
            if r26 = 0 then
              some ((0 : Int32), t_lines, w27, w28, w29, w30, w31, w32, w33, w34, w35, w36, w37, w38, w39, w40, w41, w42, w43)
            else
              lt_ (t_lines + (1 : Int32)) fun v47 =>
              FTe_tell_L24 p_bytes p_size k_ n v47 w27 w28 w29 w30 w31 w32 w33 w34 w35 w36 w37 w38 w39 w40 w41 w42 w43
def FTe_tell (t_kind t_start t_value : Int32) (p_bytes : Nat → Int32) (p_size : Int32) (f_held f_couples f_endJoints f_lengths f_stiffs f_loadBeams f_loadSizes f_loadPlaces : Nat → Int32) : Option (Int32 × Int32 × Int32 × Int32 × Int32 × Int32 × Int32 × Int32 × (Nat → Int32) × (Nat → Int32) × (Nat → Int32) × (Nat → Int32) × (Nat → Int32) × (Nat → Int32) × (Nat → Int32) × (Nat → Int32) × Int32 × Int32 × Int32) :=
  b3_ (FFr_clear) fun w1 w2 w3 =>
  FTe_tell_L24 p_bytes p_size (fun (w48 : Int32) (w49 : Int32) (w50 : Int32) (w51 : Int32) (w52 : Int32) (w53 : Int32) (w54 : Int32) (w55 : Nat → Int32) (w56 : Nat → Int32) (w57 : Nat → Int32) (w58 : Nat → Int32) (w59 : Nat → Int32) (w60 : Nat → Int32) (w61 : Nat → Int32) (w62 : Nat → Int32) (w63 : Int32) (w64 : Int32) (w65 : Int32) =>
      b1_ (FFr_isWhole w57 w58 w60 w62 w63 w64 w65) fun r66 =>
      if r66 = 0 then
        b3_ (FTe_fail (6 : Int32) p_size) fun r70 w71 w72 =>
        if r70 = 0 then
          some ((0 : Int32), w48, w71, w72, w51, w52, w53, w54, w55, w56, w57, w58, w59, w60, w61, w62, w63, w64, w65)
        else
          some ((1 : Int32), w48, w71, w72, w51, w52, w53, w54, w55, w56, w57, w58, w59, w60, w61, w62, w63, w64, w65)
      else
        some ((1 : Int32), w48, w49, w50, w51, w52, w53, w54, w55, w56, w57, w58, w59, w60, w61, w62, w63, w64, w65)) 1000 (0 : Int32) (0 : Int32) (0 : Int32) t_kind t_start (0 : Int32) t_value f_held f_couples f_endJoints f_lengths f_stiffs f_loadBeams f_loadSizes f_loadPlaces w1 w2 w3
set_option maxHeartbeats 4000000 in
set_option maxRecDepth 100000 in
theorem wTe_tell_L24 {p : Program} {l : Launch} {e : Env} {s : State} {m : MethodId} {args : Array Value} {below : List Frame} {meth : Method} {c : Code} {A : Nat → Prop} {D : va_G} {κ : Nat → ClassId} {adK adV : Nat → Nat} (C0 : cx_ p s m meth c args cX5_tell RX5 (some .boolean) 2 A) (hE : ex_ adK adV A s) (qt qp : Nat → Nat) (p_bytes : Nat → Int32) (p_size : Int32) (qf : Nat → Nat) (zr z1 z2 z3 z4 z5 z6 z7 : Int32) (z8 z9 z10 z11 z12 z13 z14 z15 : Nat → Int32) (z16 z17 z18 : Int32) (k_ : Int32 → Int32 → Int32 → Int32 → Int32 → Int32 → Int32 → (Nat → Int32) → (Nat → Int32) → (Nat → Int32) → (Nat → Int32) → (Nat → Int32) → (Nat → Int32) → (Nat → Int32) → (Nat → Int32) → Int32 → Int32 → Int32 → Option (Int32 × Int32 × Int32 × Int32 × Int32 × Int32 × Int32 × Int32 × (Nat → Int32) × (Nat → Int32) × (Nat → Int32) × (Nat → Int32) × (Nat → Int32) × (Nat → Int32) × (Nat → Int32) × (Nat → Int32) × Int32 × Int32 × Int32)) (hk_ : ∀ (t_lines : Int32) (t_fault : Int32) (t_faultPlace : Int32) (t_kind : Int32) (t_start : Int32) (t_stop : Int32) (t_value : Int32) (f_held : Nat → Int32) (f_couples : Nat → Int32) (f_endJoints : Nat → Int32) (f_lengths : Nat → Int32) (f_stiffs : Nat → Int32) (f_loadBeams : Nat → Int32) (f_loadSizes : Nat → Int32) (f_loadPlaces : Nat → Int32) (f_joints : Int32) (f_beams : Int32) (f_loads : Int32) (H : Heap) (locs : List Loc) (ls : Array Slot), wd_ D (tys0 κ) A s (List.flatten [pTe κ qt (qp 0) t_lines t_fault t_faultPlace t_kind t_start t_stop t_value, pTa κ qp p_bytes p_size, pFr κ qf f_held f_couples f_endJoints f_lengths f_stiffs f_loadBeams f_loadSizes f_loadPlaces f_joints f_beams f_loads]) H locs → lv_has ls 2 [(0, .ref (qt 0)), (1, .ref (qf 0))] → k_ t_lines t_fault t_faultPlace t_kind t_start t_stop t_value f_held f_couples f_endJoints f_lengths f_stiffs f_loadBeams f_loadSizes f_loadPlaces f_joints f_beams f_loads = some (zr, z1, z2, z3, z4, z5, z6, z7, z8, z9, z10, z11, z12, z13, z14, z15, z16, z17, z18) → W p l e ({ frames := 6, cells := 0, slots := 0, locals := 128 } : Room) s m args below meth c H locs 0 0 (qI_ D (tys0 κ) A nB_ zr (List.flatten [pTe κ qt (qp 0) z1 z2 z3 z4 z5 z6 z7, pTa κ qp p_bytes p_size, pFr κ qf z8 z9 z10 z11 z12 z13 z14 z15 z16 z17 z18]) below args s) (F0 m 80 ls [])) : ∀ (n : Nat) (t_lines : Int32) (t_fault : Int32) (t_faultPlace : Int32) (t_kind : Int32) (t_start : Int32) (t_stop : Int32) (t_value : Int32) (f_held : Nat → Int32) (f_couples : Nat → Int32) (f_endJoints : Nat → Int32) (f_lengths : Nat → Int32) (f_stiffs : Nat → Int32) (f_loadBeams : Nat → Int32) (f_loadSizes : Nat → Int32) (f_loadPlaces : Nat → Int32) (f_joints : Int32) (f_beams : Int32) (f_loads : Int32) (H : Heap) (locs : List Loc) (ls : Array Slot), wd_ D (tys0 κ) A s (List.flatten [pTe κ qt (qp 0) t_lines t_fault t_faultPlace t_kind t_start t_stop t_value, pTa κ qp p_bytes p_size, pFr κ qf f_held f_couples f_endJoints f_lengths f_stiffs f_loadBeams f_loadSizes f_loadPlaces f_joints f_beams f_loads]) H locs → lv_has ls 2 [(0, .ref (qt 0)), (1, .ref (qf 0))] → FTe_tell_L24 p_bytes p_size k_ n t_lines t_fault t_faultPlace t_kind t_start t_stop t_value f_held f_couples f_endJoints f_lengths f_stiffs f_loadBeams f_loadSizes f_loadPlaces f_joints f_beams f_loads = some (zr, z1, z2, z3, z4, z5, z6, z7, z8, z9, z10, z11, z12, z13, z14, z15, z16, z17, z18) → W p l e ({ frames := 6, cells := 0, slots := 0, locals := 128 } : Room) s m args below meth c H locs 0 0 (qI_ D (tys0 κ) A nB_ zr (List.flatten [pTe κ qt (qp 0) z1 z2 z3 z4 z5 z6 z7, pTa κ qp p_bytes p_size, pFr κ qf z8 z9 z10 z11 z12 z13 z14 z15 z16 z17 z18]) below args s) (F0 m 24 ls []) := by
  obtain ⟨hx, hb, -, hml, hown, hts, -, -⟩ := id C0
  intro n
  induction n with
  | zero =>
    intro t_lines t_fault t_faultPlace t_kind t_start t_stop t_value f_held f_couples f_endJoints f_lengths f_stiffs f_loadBeams f_loadSizes f_loadPlaces f_joints f_beams f_loads H locs ls hw hl  hf
    cases hf
  | succ n ih =>
    intro t_lines t_fault t_faultPlace t_kind t_start t_stop t_value f_held f_couples f_endJoints f_lengths f_stiffs f_loadBeams f_loadSizes f_loadPlaces f_joints f_beams f_loads H locs ls hw hl  hf
    rw [FTe_tell_L24.eq_2] at hf
    refine lv_aload_n hx hb dX5_tell_24 rfl (lv_at hl 0 rfl) ?_
    refine r_get C0 hw 0 1 (v := .int t_lines) rfl rfl inX5 (by decide) lk_X5_23 rfl dX5_tell_25 ?_
    refine lv_aload_n hx hb dX5_tell_28 rfl (lv_at hl 0 rfl) ?_
    refine r_get C0 hw 0 0 (v := .ref (qp 0)) rfl rfl inX5 (by decide) lk_X5_12 rfl dX5_tell_29 ?_
    refine r_get C0 hw 1 1 (v := .int p_size) rfl rfl inX4 (by decide) lk_X5_36 rfl dX5_tell_32 ?_
    obtain ⟨j12, ej12, hf⟩ := lt_e hf
    have hj13 : ∀ (w6 : Int32) (w7 : Int32) (w8 : Int32) (w9 : Int32) (w10 : Int32) (w11 : Int32) (H : Heap) (locs : List Loc) (ls : Array Slot), wd_ D (tys0 κ) A s (List.flatten [pTe κ qt (qp 0) t_lines w6 w7 w8 w9 w10 w11, pTa κ qp p_bytes p_size, pFr κ qf f_held f_couples f_endJoints f_lengths f_stiffs f_loadBeams f_loadSizes f_loadPlaces f_joints f_beams f_loads]) H locs → lv_has ls 2 [(0, .ref (qt 0)), (1, .ref (qf 0))] → j12 w6 w7 w8 w9 w10 w11 = some (zr, z1, z2, z3, z4, z5, z6, z7, z8, z9, z10, z11, z12, z13, z14, z15, z16, z17, z18) → W p l e ({ frames := 6, cells := 0, slots := 0, locals := 128 } : Room) s m args below meth c H locs 0 0 (qI_ D (tys0 κ) A nB_ zr (List.flatten [pTe κ qt (qp 0) z1 z2 z3 z4 z5 z6 z7, pTa κ qp p_bytes p_size, pFr κ qf z8 z9 z10 z11 z12 z13 z14 z15 z16 z17 z18]) below args s) (F0 m 80 ls []) := by
      intro w6 w7 w8 w9 w10 w11 H locs ls hw hl  hf
      have hf : (k_ t_lines w6 w7 w8 w9 w10 w11 f_held f_couples f_endJoints f_lengths f_stiffs f_loadBeams f_loadSizes f_loadPlaces f_joints f_beams f_loads) = some (zr, z1, z2, z3, z4, z5, z6, z7, z8, z9, z10, z11, z12, z13, z14, z15, z16, z17, z18) := by rw [ej12] at hf; exact hf
      exact hk_ t_lines w6 w7 w8 w9 w10 w11 f_held f_couples f_endJoints f_lengths f_stiffs f_loadBeams f_loadSizes f_loadPlaces f_joints f_beams f_loads H locs ls hw (lv_sub hl [0, 1] rfl)  hf
    refine lv_icmp_gt (tgt := 80) hx hb dX5_tell_35 (by decide) (fun hc14 => ?_) (fun hc14 => ?_)
    · have hf := if_t hc14 hf
      exact hj13 t_fault t_faultPlace t_kind t_start t_stop t_value H locs ls hw (lv_sub hl [0, 1] rfl)  hf
    · have hf := if_f hc14 hf
      refine lv_aload_n hx hb dX5_tell_38 rfl (lv_at hl 0 rfl) ?_
      obtain ⟨r15, w16, w17, w18, w19, w20, w21, hk22, hf⟩ := b7_s hf
      refine rv_i (vq := (RX5, TX5, 8)) (As := []) (rest := []) (bs' := [pTe κ qt (qp 0) t_lines w16 w17 w18 w19 w20 w21, pTa κ qp p_bytes p_size, pFr κ qf f_held f_couples f_endJoints f_lengths f_stiffs f_loadBeams f_loadSizes f_loadPlaces f_joints f_beams f_loads]) C0 hw (cTe_scan l D κ qt t_lines t_fault t_faultPlace t_kind t_start t_stop t_value qp p_bytes p_size r15 w16 w17 w18 w19 w20 w21 hk22) cv_RX5_39 ⟨rfl, rfl, Nat.le_of_ble_eq_true rfl, Nat.le_of_ble_eq_true rfl⟩ ⟨Nat.zero_le _, Nat.zero_le _⟩ [0, 1] [2] [1, 2, 0] rfl rfl rfl rfl (by decide) rfl rfl rfl rfl rfl hl.1 (by simp only [List.map, List.sum_cons, List.sum_nil, Value.category]; decide) dX5_tell_39 (fun H locs hw hn23 => ?_)
      refine lv_if_ne (tgt := 47) hx hb dX5_tell_42 (by decide) (fun hc24 => ?_) (fun hc24 => ?_)
      · have hf := if_f hc24 hf
        refine lv_aload_n hx hb dX5_tell_47 rfl (lv_at hl 0 rfl) ?_
        refine r_get C0 hw 0 4 (v := .int w18) rfl rfl inX5 (by decide) lk_X5_43 rfl dX5_tell_48 ?_
        refine lv_if_ne (tgt := 57) hx hb dX5_tell_51 (by decide) (fun hc25 => ?_) (fun hc25 => ?_)
        · have hf := if_f hc25 hf
          refine lv_aload_n hx hb dX5_tell_57 rfl (lv_at hl 0 rfl) ?_
          refine lv_aload_n hx hb dX5_tell_58 rfl (lv_at hl 1 rfl) ?_
          obtain ⟨r26, w27, w28, w29, w30, w31, w32, w33, w34, w35, w36, w37, w38, w39, w40, w41, w42, w43, hk44, hf⟩ := b18_s hf
          refine rvX_i (vq := (RX5, TX5, 8)) (As := [.ref (qf 0)]) (rest := []) (bs' := [pTe κ qt (qp 0) t_lines w27 w28 w29 w30 w31 w32, pTa κ qp p_bytes p_size, pFr κ qf w33 w34 w35 w36 w37 w38 w39 w40 w41 w42 w43]) C0 hw hE (cTe_line l D κ adK adV qt t_lines w16 w17 w18 w19 w20 w21 qp p_bytes p_size qf f_held f_couples f_endJoints f_lengths f_stiffs f_loadBeams f_loadSizes f_loadPlaces f_joints f_beams f_loads r26 w27 w28 w29 w30 w31 w32 w33 w34 w35 w36 w37 w38 w39 w40 w41 w42 w43 hk44) cv_RX5_46 ⟨rfl, rfl, Nat.le_of_ble_eq_true rfl, Nat.le_of_ble_eq_true rfl⟩ ⟨Nat.zero_le _, Nat.zero_le _⟩ [0, 1, 2] [] [0, 1, 2] rfl rfl rfl rfl (by decide) rfl rfl rfl rfl rfl hl.1 (by simp only [List.map, List.sum_cons, List.sum_nil, Value.category]; decide) dX5_tell_59 (fun H locs hw hn45 => ?_)
          refine lv_if_ne (tgt := 67) hx hb dX5_tell_62 (by decide) (fun hc46 => ?_) (fun hc46 => ?_)
          · have hf := if_f hc46 hf
            refine lv_aload_n hx hb dX5_tell_67 rfl (lv_at hl 0 rfl) ?_
            refine lv_dup hx hb dX5_tell_68 rfl ?_
            refine r_get C0 hw 0 1 (v := .int t_lines) rfl rfl inX5 (by decide) lk_X5_23 rfl dX5_tell_69 ?_
            refine lv_iconst (v := 1) hx hb dX5_tell_72 (by decide) ?_
            refine lv_iadd hx hb dX5_tell_73 ?_
            refine lv_topi (fun v47 ev47 => ?_)
            have hf := lt_s_ hf v47 ev47
            refine r_put C0 hw 0 1 (v := .int v47) (ws' := List.flatten [pTe κ qt (qp 0) v47 w27 w28 w29 w30 w31 w32, pTa κ qp p_bytes p_size, pFr κ qf w33 w34 w35 w36 w37 w38 w39 w40 w41 w42 w43]) rfl rfl inX5 tyX5_ok nmX5 (by decide) lk_X5_23 rfl rfl rfl rfl (Nat.le_of_ble_eq_true rfl) dX5_tell_74 rfl (fun H locs hw => ?_)
            refine lv_goto (tgt := 24) hx hb dX5_tell_77 (by decide) ?_
            exact ih v47 w27 w28 w29 w30 w31 w32 w33 w34 w35 w36 w37 w38 w39 w40 w41 w42 w43 H locs ls hw (lv_sub hl [0, 1] rfl)  hf
          · have hf := if_t hc46 hf
            refine lv_iconst (v := 0) hx hb dX5_tell_65 (by decide) ?_
            obtain ⟨rfl, rfl, rfl, rfl, rfl, rfl, rfl, rfl, rfl, rfl, rfl, rfl, rfl, rfl, rfl, rfl, rfl, rfl, rfl⟩ := e19_ hf
            exact r_zret C0 hw (Or.inl rfl) dX5_tell_66
        · have hf := if_t hc25 hf
          refine lv_goto (tgt := 80) hx hb dX5_tell_54 (by decide) ?_
          exact hj13 w16 w17 w18 w19 w20 w21 H locs ls hw (lv_sub hl [0, 1] rfl)  hf
      · have hf := if_t hc24 hf
        refine lv_iconst (v := 0) hx hb dX5_tell_45 (by decide) ?_
        obtain ⟨rfl, rfl, rfl, rfl, rfl, rfl, rfl, rfl, rfl, rfl, rfl, rfl, rfl, rfl, rfl, rfl, rfl, rfl, rfl⟩ := e19_ hf
        exact r_zret C0 hw (Or.inl rfl) dX5_tell_46
set_option maxHeartbeats 4000000 in
set_option maxRecDepth 100000 in
theorem cTe_tell (l : Launch) (D : va_G) (κ : Nat → ClassId) (adK adV : Nat → Nat) (qt : Nat → Nat) (t_lines t_fault t_faultPlace t_kind t_start t_stop t_value : Int32) (qp : Nat → Nat) (p_bytes : Nat → Int32) (p_size : Int32) (qf : Nat → Nat) (f_held f_couples f_endJoints f_lengths f_stiffs f_loadBeams f_loadSizes f_loadPlaces : Nat → Int32) (f_joints f_beams f_loads zr z1 z2 z3 z4 z5 z6 z7 : Int32) (z8 z9 z10 z11 z12 z13 z14 z15 : Nat → Int32) (z16 z17 z18 : Int32) (hf : FTe_tell t_kind t_start t_value p_bytes p_size f_held f_couples f_endJoints f_lengths f_stiffs f_loadBeams f_loadSizes f_loadPlaces = some (zr, z1, z2, z3, z4, z5, z6, z7, z8, z9, z10, z11, z12, z13, z14, z15, z16, z17, z18)) : mIX_ adK adV l yX5_tell (Cond.code yX5_tell cX5_tell 2 (some .boolean) :: uw) ({ frames := 6, cells := 0, slots := 0, locals := 128 } : Room) D (tys0 κ) [.ref (qt 0), .ref (qf 0)] (List.flatten [pTe κ qt (qp 0) t_lines t_fault t_faultPlace t_kind t_start t_stop t_value, pTa κ qp p_bytes p_size, pFr κ qf f_held f_couples f_endJoints f_lengths f_stiffs f_loadBeams f_loadSizes f_loadPlaces f_joints f_beams f_loads]) nB_ zr (List.flatten [pTe κ qt (qp 0) z1 z2 z3 z4 z5 z6 z7, pTa κ qp p_bytes p_size, pFr κ qf z8 z9 z10 z11 z12 z13 z14 z15 z16 z17 z18]) := by
  unfold FTe_tell at hf
  refine mIX_of (by decide +kernel) (Nat.le_of_ble_eq_true rfl) ?_
  intro p e s m below meth c A ls H locs C0 hE hw hl
  obtain ⟨hx, hb, -, hml, hown, hts, -, -⟩ := id C0
  have hl : lv_has ls 2 [(0, .ref (qt 0)), (1, .ref (qf 0))] := hl
  refine lv_aload_n hx hb dX5_tell_0 rfl (lv_at hl 1 rfl) ?_
  obtain ⟨w1, w2, w3, hk4, hf⟩ := b3_s hf
  refine rv_v (vq := (RX2, TX2, 11)) (As := []) (rest := []) (bs' := [pTe κ qt (qp 0) t_lines t_fault t_faultPlace t_kind t_start t_stop t_value, pTa κ qp p_bytes p_size, pFr κ qf f_held f_couples f_endJoints f_lengths f_stiffs f_loadBeams f_loadSizes f_loadPlaces w1 w2 w3]) C0 hw (cFr_clear l D κ qf f_held f_couples f_endJoints f_lengths f_stiffs f_loadBeams f_loadSizes f_loadPlaces f_joints f_beams f_loads w1 w2 w3 hk4) cv_RX5_18 ⟨rfl, rfl, Nat.le_of_ble_eq_true rfl, Nat.le_of_ble_eq_true rfl⟩ ⟨Nat.zero_le _, Nat.zero_le _⟩ [2] [0, 1] [0, 1, 2] rfl rfl rfl rfl (by decide) rfl rfl rfl rfl rfl hl.1 (by simp only [List.map, List.sum_cons, List.sum_nil, Value.category]; decide) dX5_tell_1 (fun H locs hw => ?_)
  refine lv_aload_n hx hb dX5_tell_4 rfl (lv_at hl 0 rfl) ?_
  refine lv_iconst (v := 0) hx hb dX5_tell_5 (by decide) ?_
  refine r_put C0 hw 0 1 (v := .int (0 : Int32)) (ws' := List.flatten [pTe κ qt (qp 0) (0 : Int32) t_fault t_faultPlace t_kind t_start t_stop t_value, pTa κ qp p_bytes p_size, pFr κ qf f_held f_couples f_endJoints f_lengths f_stiffs f_loadBeams f_loadSizes f_loadPlaces w1 w2 w3]) rfl rfl inX5 tyX5_ok nmX5 (by decide) lk_X5_23 rfl rfl rfl rfl (Nat.le_of_ble_eq_true rfl) dX5_tell_6 rfl (fun H locs hw => ?_)
  refine lv_aload_n hx hb dX5_tell_9 rfl (lv_at hl 0 rfl) ?_
  refine lv_iconst (v := 0) hx hb dX5_tell_10 (by decide) ?_
  refine r_put C0 hw 0 2 (v := .int (0 : Int32)) (ws' := List.flatten [pTe κ qt (qp 0) (0 : Int32) (0 : Int32) t_faultPlace t_kind t_start t_stop t_value, pTa κ qp p_bytes p_size, pFr κ qf f_held f_couples f_endJoints f_lengths f_stiffs f_loadBeams f_loadSizes f_loadPlaces w1 w2 w3]) rfl rfl inX5 tyX5_ok nmX5 (by decide) lk_X5_27 rfl rfl rfl rfl (Nat.le_of_ble_eq_true rfl) dX5_tell_11 rfl (fun H locs hw => ?_)
  refine lv_aload_n hx hb dX5_tell_14 rfl (lv_at hl 0 rfl) ?_
  refine lv_iconst (v := 0) hx hb dX5_tell_15 (by decide) ?_
  refine r_put C0 hw 0 3 (v := .int (0 : Int32)) (ws' := List.flatten [pTe κ qt (qp 0) (0 : Int32) (0 : Int32) (0 : Int32) t_kind t_start t_stop t_value, pTa κ qp p_bytes p_size, pFr κ qf f_held f_couples f_endJoints f_lengths f_stiffs f_loadBeams f_loadSizes f_loadPlaces w1 w2 w3]) rfl rfl inX5 tyX5_ok nmX5 (by decide) lk_X5_30 rfl rfl rfl rfl (Nat.le_of_ble_eq_true rfl) dX5_tell_16 rfl (fun H locs hw => ?_)
  refine lv_aload_n hx hb dX5_tell_19 rfl (lv_at hl 0 rfl) ?_
  refine lv_iconst (v := 0) hx hb dX5_tell_20 (by decide) ?_
  refine r_put C0 hw 0 6 (v := .int (0 : Int32)) (ws' := List.flatten [pTe κ qt (qp 0) (0 : Int32) (0 : Int32) (0 : Int32) t_kind t_start (0 : Int32) t_value, pTa κ qp p_bytes p_size, pFr κ qf f_held f_couples f_endJoints f_lengths f_stiffs f_loadBeams f_loadSizes f_loadPlaces w1 w2 w3]) rfl rfl inX5 tyX5_ok nmX5 (by decide) lk_X5_33 rfl rfl rfl rfl (Nat.le_of_ble_eq_true rfl) dX5_tell_21 rfl (fun H locs hw => ?_)
  refine wTe_tell_L24 C0 hE qt qp p_bytes p_size qf zr z1 z2 z3 z4 z5 z6 z7 z8 z9 z10 z11 z12 z13 z14 z15 z16 z17 z18 _ (fun w48 w49 w50 w51 w52 w53 w54 w55 w56 w57 w58 w59 w60 w61 w62 w63 w64 w65 H locs ls hw hl  hf => ?_) 1000 (0 : Int32) (0 : Int32) (0 : Int32) t_kind t_start (0 : Int32) t_value f_held f_couples f_endJoints f_lengths f_stiffs f_loadBeams f_loadSizes f_loadPlaces w1 w2 w3 H locs ls hw (lv_sub hl [0, 1] rfl)  hf
  refine lv_aload_n hx hb dX5_tell_80 rfl (lv_at hl 1 rfl) ?_
  obtain ⟨r66, hk67, hf⟩ := b1_s hf
  refine rv_i (vq := (RX2, TX2, 11)) (As := []) (rest := []) (bs' := [pTe κ qt (qp 0) w48 w49 w50 w51 w52 w53 w54, pTa κ qp p_bytes p_size, pFr κ qf w55 w56 w57 w58 w59 w60 w61 w62 w63 w64 w65]) C0 hw (cFr_isWhole l D κ qf w55 w56 w57 w58 w59 w60 w61 w62 w63 w64 w65 r66 hk67) cv_RX5_50 ⟨rfl, rfl, Nat.le_of_ble_eq_true rfl, Nat.le_of_ble_eq_true rfl⟩ ⟨Nat.zero_le _, Nat.zero_le _⟩ [2] [0, 1] [0, 1, 2] rfl rfl rfl rfl (by decide) rfl rfl rfl rfl rfl hl.1 (by simp only [List.map, List.sum_cons, List.sum_nil, Value.category]; decide) dX5_tell_81 (fun H locs hw hn68 => ?_)
  refine lv_if_ne (tgt := 103) hx hb dX5_tell_84 (by decide) (fun hc69 => ?_) (fun hc69 => ?_)
  · have hf := if_f hc69 hf
    refine lv_iconst (v := 1) hx hb dX5_tell_103 (by decide) ?_
    refine lv_goto (tgt := 108) hx hb dX5_tell_104 (by decide) ?_
    obtain ⟨rfl, rfl, rfl, rfl, rfl, rfl, rfl, rfl, rfl, rfl, rfl, rfl, rfl, rfl, rfl, rfl, rfl, rfl, rfl⟩ := e19_ hf
    exact r_zret C0 hw (Or.inr rfl) dX5_tell_108
  · have hf := if_t hc69 hf
    refine lv_aload_n hx hb dX5_tell_87 rfl (lv_at hl 0 rfl) ?_
    refine lv_bipush (v := 6) hx hb dX5_tell_88 (by decide) ?_
    refine lv_aload_n hx hb dX5_tell_90 rfl (lv_at hl 0 rfl) ?_
    refine r_get C0 hw 0 0 (v := .ref (qp 0)) rfl rfl inX5 (by decide) lk_X5_12 rfl dX5_tell_91 ?_
    refine r_get C0 hw 1 1 (v := .int p_size) rfl rfl inX4 (by decide) lk_X5_36 rfl dX5_tell_94 ?_
    obtain ⟨r70, w71, w72, hk73, hf⟩ := b3_s hf
    refine rv_i (vq := (RX5, TX5, 8)) (As := [.int (6 : Int32), .int p_size]) (rest := []) (bs' := [pTe κ qt (qp 0) w48 w71 w72 w51 w52 w53 w54, pTa κ qp p_bytes p_size, pFr κ qf w55 w56 w57 w58 w59 w60 w61 w62 w63 w64 w65]) C0 hw (cTe_fail l D κ qt w48 w49 w50 w51 w52 w53 w54 qp p_bytes p_size (6 : Int32) p_size r70 w71 w72 hk73) cv_RX5_53 ⟨rfl, rfl, Nat.le_of_ble_eq_true rfl, Nat.le_of_ble_eq_true rfl⟩ ⟨Nat.zero_le _, Nat.zero_le _⟩ [0, 1] [2] [1, 2, 0] rfl rfl rfl rfl (by decide) rfl rfl rfl rfl rfl hl.1 (by simp only [List.map, List.sum_cons, List.sum_nil, Value.category]; decide) dX5_tell_97 (fun H locs hw hn74 => ?_)
    refine lv_if_eq (tgt := 107) hx hb dX5_tell_100 (by decide) (fun hc75 => ?_) (fun hc75 => ?_)
    · have hf := if_t hc75 hf
      refine lv_iconst (v := 0) hx hb dX5_tell_107 (by decide) ?_
      obtain ⟨rfl, rfl, rfl, rfl, rfl, rfl, rfl, rfl, rfl, rfl, rfl, rfl, rfl, rfl, rfl, rfl, rfl, rfl, rfl⟩ := e19_ hf
      exact r_zret C0 hw (Or.inl rfl) dX5_tell_108
    · have hf := if_f hc75 hf
      refine lv_iconst (v := 1) hx hb dX5_tell_103 (by decide) ?_
      refine lv_goto (tgt := 108) hx hb dX5_tell_104 (by decide) ?_
      obtain ⟨rfl, rfl, rfl, rfl, rfl, rfl, rfl, rfl, rfl, rfl, rfl, rfl, rfl, rfl, rfl, rfl, rfl, rfl, rfl⟩ := e19_ hf
      exact r_zret C0 hw (Or.inr rfl) dX5_tell_108
def FJm_text_L66  (k_ : Int32 → (Nat → Int32) → Option (Int32 × (Nat → Int32) × Int32 × Int32 × Int32 × Int32 × Int32 × Int32 × Int32 × Int32 × Int32 × (Nat → Int32) × (Nat → Int32) × (Nat → Int32) × (Nat → Int32) × (Nat → Int32) × (Nat → Int32) × (Nat → Int32) × (Nat → Int32) × Int32 × Int32 × Int32 × (Nat → Int32) × (Nat → Int32) × (Nat → Int32) × (Nat → Int32) × (Nat → Int32) × (Nat → Int32) × Int32 × Int32 × Bool)) : Nat → Int32 → (Nat → Int32) → Option (Int32 × (Nat → Int32) × Int32 × Int32 × Int32 × Int32 × Int32 × Int32 × Int32 × Int32 × Int32 × (Nat → Int32) × (Nat → Int32) × (Nat → Int32) × (Nat → Int32) × (Nat → Int32) × (Nat → Int32) × (Nat → Int32) × (Nat → Int32) × Int32 × Int32 × Int32 × (Nat → Int32) × (Nat → Int32) × (Nat → Int32) × (Nat → Int32) × (Nat → Int32) × (Nat → Int32) × Int32 × Int32 × Bool)
  | 0, _, _ => none
  | n + 1, l3, x_kept =>
      if (2 : Int32) ≤ l3 then
        k_ l3 x_kept
      else
        gd_ l3 2 <|
        lt_ (upd x_kept l3.toNatClampNeg (vp_nar .boolean (0 : Int32))) fun w25 =>
        lt_ (l3 + (1 : Int32)) fun v26 =>
        FJm_text_L66  k_ n v26 w25
def FJm_text (x_kept : Nat → Int32) (t_kind t_start t_value : Int32) (p_bytes : Nat → Int32) (p_size : Int32) (d_held d_couples d_endJoints d_lengths d_stiffs d_loadBeams d_loadSizes d_loadPlaces b_moments b_endStiffs b_outs b_endsAt b_stiffAt b_stepsAt : Nat → Int32) (b_steps b_latest : Int32) : Option (Int32 × (Nat → Int32) × Int32 × Int32 × Int32 × Int32 × Int32 × Int32 × Int32 × Int32 × Int32 × (Nat → Int32) × (Nat → Int32) × (Nat → Int32) × (Nat → Int32) × (Nat → Int32) × (Nat → Int32) × (Nat → Int32) × (Nat → Int32) × Int32 × Int32 × Int32 × (Nat → Int32) × (Nat → Int32) × (Nat → Int32) × (Nat → Int32) × (Nat → Int32) × (Nat → Int32) × Int32 × Int32 × Bool) :=
  b19_ (FTe_tell t_kind t_start t_value p_bytes p_size d_held d_couples d_endJoints d_lengths d_stiffs d_loadBeams d_loadSizes d_loadPlaces) fun r1 w2 w3 w4 w5 w6 w7 w8 w9 w10 w11 w12 w13 w14 w15 w16 w17 w18 w19 =>
  if r1 = 0 then
    some (((-10 : Int32) - w4), x_kept, w3, w2, w3, w4, w5, w6, w7, w8, (0 : Int32), w9, w10, w11, w12, w13, w14, w15, w16, w17, w18, w19, b_moments, b_endStiffs, b_outs, b_endsAt, b_stiffAt, b_stepsAt, b_steps, b_latest, false)
  else
    FJm_text_L66 (fun (v27 : Int32) (w28 : Nat → Int32) =>
        b8_ (FBa_anew b_moments b_endStiffs b_outs b_endsAt b_stiffAt b_stepsAt w10 w11 w12 w13 w14 w15 w16 w18 w19) fun w29 w30 w31 w32 w33 w34 w35 w36 =>
        some (w2, w28, w3, w2, w3, w4, w5, w6, w7, w8, (0 : Int32), w9, w10, w11, w12, w13, w14, w15, w16, w17, w18, w19, w29, w30, w31, w32, w33, w34, w35, w36, true)) 1000 (0 : Int32) x_kept
set_option maxHeartbeats 4000000 in
set_option maxRecDepth 100000 in
theorem wJm_text_L66 {p : Program} {l : Launch} {e : Env} {s : State} {m : MethodId} {args : Array Value} {below : List Frame} {meth : Method} {c : Code} {A : Nat → Prop} {D : va_G} {κ : Nat → ClassId} {adK adV : Nat → Nat} (C0 : cx_ p s m meth c args cX6_text RX6 (some .int) 4 A) (hE : ex_ adK adV A s) (qx : Nat → Nat) (rx_equations rx_images rx_sheets : Nat) (x_textFault x_readFault : Int32) (qt : Nat → Nat) (t_lines t_fault t_faultPlace t_kind t_start t_stop t_value : Int32) (qp : Nat → Nat) (p_bytes : Nat → Int32) (p_size : Int32) (qf : Nat → Nat) (f_held f_couples f_endJoints f_lengths f_stiffs f_loadBeams f_loadSizes f_loadPlaces : Nat → Int32) (f_joints f_beams f_loads : Int32) (qd : Nat → Nat) (d_held d_couples d_endJoints d_lengths d_stiffs d_loadBeams d_loadSizes d_loadPlaces : Nat → Int32) (d_joints d_beams d_loads : Int32) (qb : Nat → Nat) (b_moments b_gains b_topped b_endStiffs b_outs b_endsAt b_stiffAt b_stepsAt : Nat → Int32) (b_steps b_latest : Int32) (zr : Int32) (z1 : Nat → Int32) (z2 z3 z4 z5 z6 z7 z8 z9 z10 : Int32) (z11 z12 z13 z14 z15 z16 z17 z18 : Nat → Int32) (z19 z20 z21 : Int32) (z22 z23 z24 z25 z26 z27 : Nat → Int32) (z28 z29 : Int32) (zs : Bool) (k_ : Int32 → (Nat → Int32) → Option (Int32 × (Nat → Int32) × Int32 × Int32 × Int32 × Int32 × Int32 × Int32 × Int32 × Int32 × Int32 × (Nat → Int32) × (Nat → Int32) × (Nat → Int32) × (Nat → Int32) × (Nat → Int32) × (Nat → Int32) × (Nat → Int32) × (Nat → Int32) × Int32 × Int32 × Int32 × (Nat → Int32) × (Nat → Int32) × (Nat → Int32) × (Nat → Int32) × (Nat → Int32) × (Nat → Int32) × Int32 × Int32 × Bool)) (hk_ : ∀ (l3 : Int32) (x_kept : Nat → Int32) (H : Heap) (locs : List Loc) (ls : Array Slot), wd_ D (tys0 κ) A s (List.flatten [pJm κ qx (qp 0) (qt 0) (qb 0) rx_equations rx_images rx_sheets (qd 0) (qf 0) x_kept x_textFault x_readFault, pTe κ qt (qp 0) t_lines t_fault t_faultPlace t_kind t_start t_stop t_value, pTa κ qp p_bytes p_size, pFr κ qf f_held f_couples f_endJoints f_lengths f_stiffs f_loadBeams f_loadSizes f_loadPlaces f_joints f_beams f_loads, pFr κ qd d_held d_couples d_endJoints d_lengths d_stiffs d_loadBeams d_loadSizes d_loadPlaces d_joints d_beams d_loads, pBa κ qb b_moments b_gains b_topped b_endStiffs b_outs b_endsAt b_stiffAt b_stepsAt b_steps b_latest]) H locs → lv_has ls 4 [(0, .ref (qx 0))] → k_ l3 x_kept = some (zr, z1, z2, z3, z4, z5, z6, z7, z8, z9, z10, z11, z12, z13, z14, z15, z16, z17, z18, z19, z20, z21, z22, z23, z24, z25, z26, z27, z28, z29, zs) → W p l e ({ frames := 7, cells := 0, slots := 0, locals := 149 } : Room) s m args below meth c H locs 0 0 (qI_ D (tys0 κ) A nT_ zr (List.flatten [pJm κ qx (qp 0) (qt 0) (qb 0) rx_equations rx_images rx_sheets (cond zs (qd 0) (qf 0)) (cond zs (qf 0) (qd 0)) z1 z2 x_readFault, pTe κ qt (qp 0) z3 z4 z5 z6 z7 z8 z9, pTa κ qp p_bytes z10, pFr κ qf f_held f_couples f_endJoints f_lengths f_stiffs f_loadBeams f_loadSizes f_loadPlaces f_joints f_beams f_loads, pFr κ qd z11 z12 z13 z14 z15 z16 z17 z18 z19 z20 z21, pBa κ qb z22 b_gains b_topped z23 z24 z25 z26 z27 z28 z29]) below args s) (F0 m 84 ls [])) : ∀ (n : Nat) (l3 : Int32) (x_kept : Nat → Int32) (H : Heap) (locs : List Loc) (ls : Array Slot), wd_ D (tys0 κ) A s (List.flatten [pJm κ qx (qp 0) (qt 0) (qb 0) rx_equations rx_images rx_sheets (qd 0) (qf 0) x_kept x_textFault x_readFault, pTe κ qt (qp 0) t_lines t_fault t_faultPlace t_kind t_start t_stop t_value, pTa κ qp p_bytes p_size, pFr κ qf f_held f_couples f_endJoints f_lengths f_stiffs f_loadBeams f_loadSizes f_loadPlaces f_joints f_beams f_loads, pFr κ qd d_held d_couples d_endJoints d_lengths d_stiffs d_loadBeams d_loadSizes d_loadPlaces d_joints d_beams d_loads, pBa κ qb b_moments b_gains b_topped b_endStiffs b_outs b_endsAt b_stiffAt b_stepsAt b_steps b_latest]) H locs → lv_has ls 4 [(0, .ref (qx 0)), (3, .int l3)] → FJm_text_L66 k_ n l3 x_kept = some (zr, z1, z2, z3, z4, z5, z6, z7, z8, z9, z10, z11, z12, z13, z14, z15, z16, z17, z18, z19, z20, z21, z22, z23, z24, z25, z26, z27, z28, z29, zs) → W p l e ({ frames := 7, cells := 0, slots := 0, locals := 149 } : Room) s m args below meth c H locs 0 0 (qI_ D (tys0 κ) A nT_ zr (List.flatten [pJm κ qx (qp 0) (qt 0) (qb 0) rx_equations rx_images rx_sheets (cond zs (qd 0) (qf 0)) (cond zs (qf 0) (qd 0)) z1 z2 x_readFault, pTe κ qt (qp 0) z3 z4 z5 z6 z7 z8 z9, pTa κ qp p_bytes z10, pFr κ qf f_held f_couples f_endJoints f_lengths f_stiffs f_loadBeams f_loadSizes f_loadPlaces f_joints f_beams f_loads, pFr κ qd z11 z12 z13 z14 z15 z16 z17 z18 z19 z20 z21, pBa κ qb z22 b_gains b_topped z23 z24 z25 z26 z27 z28 z29]) below args s) (F0 m 66 ls []) := by
  obtain ⟨hx, hb, -, hml, hown, hts, -, -⟩ := id C0
  intro n
  induction n with
  | zero =>
    intro l3 x_kept H locs ls hw hl  hf
    cases hf
  | succ n ih =>
    intro l3 x_kept H locs ls hw hl  hf
    rw [FJm_text_L66.eq_2] at hf
    refine lv_iload_n hx hb dX6_text_66 rfl (lv_at hl 1 rfl) ?_
    refine lv_iconst (v := 2) hx hb dX6_text_67 (by decide) ?_
    refine lv_icmp_ge (tgt := 84) hx hb dX6_text_68 (by decide) (fun hc23 => ?_) (fun hc23 => ?_)
    · have hf := if_t hc23 hf
      exact hk_ l3 x_kept H locs ls hw (lv_sub hl [0] rfl)  hf
    · have hf := if_f hc23 hf
      refine lv_aload_n hx hb dX6_text_71 rfl (lv_at hl 0 rfl) ?_
      refine r_get C0 hw 0 5 (v := .ref (qx 1)) rfl rfl inX6 (by decide) lk_X6_49 rfl dX6_text_72 ?_
      refine lv_iload_n hx hb dX6_text_75 rfl (lv_at hl 1 rfl) ?_
      refine lv_iconst (v := 0) hx hb dX6_text_76 (by decide) ?_
      obtain ⟨hi24, hf⟩ := gd_s hf
      obtain ⟨w25, ew25⟩ : ∃ z : Nat → Int32, z = (upd x_kept l3.toNatClampNeg (vp_nar .boolean (0 : Int32))) := ⟨_, rfl⟩
      have hf := lt_s_ hf w25 ew25
      refine r_zast C0 hw 1 1 rfl rfl hi24 dX6_text_77 (ws' := List.flatten [pJm κ qx (qp 0) (qt 0) (qb 0) rx_equations rx_images rx_sheets (qd 0) (qf 0) w25 x_textFault x_readFault, pTe κ qt (qp 0) t_lines t_fault t_faultPlace t_kind t_start t_stop t_value, pTa κ qp p_bytes p_size, pFr κ qf f_held f_couples f_endJoints f_lengths f_stiffs f_loadBeams f_loadSizes f_loadPlaces f_joints f_beams f_loads, pFr κ qd d_held d_couples d_endJoints d_lengths d_stiffs d_loadBeams d_loadSizes d_loadPlaces d_joints d_beams d_loads, pBa κ qb b_moments b_gains b_topped b_endStiffs b_outs b_endsAt b_stiffAt b_stepsAt b_steps b_latest]) (by subst ew25; rfl) (fun H locs hw => ?_)
      obtain ⟨v26, ev26⟩ : ∃ z : Int32, z = (l3 + (1 : Int32)) := ⟨_, rfl⟩
      have hf := lt_s_ hf v26 ev26
      refine lv_iinc (v := v26) (lv' := [(3, .int v26), (0, .ref (qx 0))]) hx hb dX6_text_78 hl (k := 1) rfl (by rw [ev26]; rfl) (by decide) rfl (fun ls hl => ?_)
      refine lv_goto (tgt := 66) hx hb dX6_text_81 (by decide) ?_
      exact ih v26 w25 H locs ls hw (lv_sub hl [1, 0] rfl)  hf
set_option maxHeartbeats 4000000 in
set_option maxRecDepth 100000 in
theorem cJm_text (l : Launch) (D : va_G) (κ : Nat → ClassId) (adK adV : Nat → Nat) (qx : Nat → Nat) (rx_equations rx_images rx_sheets : Nat) (x_kept : Nat → Int32) (x_textFault x_readFault : Int32) (qt : Nat → Nat) (t_lines t_fault t_faultPlace t_kind t_start t_stop t_value : Int32) (qp : Nat → Nat) (p_bytes : Nat → Int32) (p_size : Int32) (qf : Nat → Nat) (f_held f_couples f_endJoints f_lengths f_stiffs f_loadBeams f_loadSizes f_loadPlaces : Nat → Int32) (f_joints f_beams f_loads : Int32) (qd : Nat → Nat) (d_held d_couples d_endJoints d_lengths d_stiffs d_loadBeams d_loadSizes d_loadPlaces : Nat → Int32) (d_joints d_beams d_loads : Int32) (qb : Nat → Nat) (b_moments b_gains b_topped b_endStiffs b_outs b_endsAt b_stiffAt b_stepsAt : Nat → Int32) (b_steps b_latest zr : Int32) (z1 : Nat → Int32) (z2 z3 z4 z5 z6 z7 z8 z9 z10 : Int32) (z11 z12 z13 z14 z15 z16 z17 z18 : Nat → Int32) (z19 z20 z21 : Int32) (z22 z23 z24 z25 z26 z27 : Nat → Int32) (z28 z29 : Int32) (zs : Bool) (hf : FJm_text x_kept t_kind t_start t_value p_bytes p_size d_held d_couples d_endJoints d_lengths d_stiffs d_loadBeams d_loadSizes d_loadPlaces b_moments b_endStiffs b_outs b_endsAt b_stiffAt b_stepsAt b_steps b_latest = some (zr, z1, z2, z3, z4, z5, z6, z7, z8, z9, z10, z11, z12, z13, z14, z15, z16, z17, z18, z19, z20, z21, z22, z23, z24, z25, z26, z27, z28, z29, zs)) : mIX_ adK adV l yX6_text (Cond.code yX6_text cX6_text 4 (some .int) :: uw) ({ frames := 7, cells := 0, slots := 0, locals := 149 } : Room) D (tys0 κ) [.ref (qx 0)] (List.flatten [pJm κ qx (qp 0) (qt 0) (qb 0) rx_equations rx_images rx_sheets (qf 0) (qd 0) x_kept x_textFault x_readFault, pTe κ qt (qp 0) t_lines t_fault t_faultPlace t_kind t_start t_stop t_value, pTa κ qp p_bytes p_size, pFr κ qf f_held f_couples f_endJoints f_lengths f_stiffs f_loadBeams f_loadSizes f_loadPlaces f_joints f_beams f_loads, pFr κ qd d_held d_couples d_endJoints d_lengths d_stiffs d_loadBeams d_loadSizes d_loadPlaces d_joints d_beams d_loads, pBa κ qb b_moments b_gains b_topped b_endStiffs b_outs b_endsAt b_stiffAt b_stepsAt b_steps b_latest]) nT_ zr (List.flatten [pJm κ qx (qp 0) (qt 0) (qb 0) rx_equations rx_images rx_sheets (cond zs (qd 0) (qf 0)) (cond zs (qf 0) (qd 0)) z1 z2 x_readFault, pTe κ qt (qp 0) z3 z4 z5 z6 z7 z8 z9, pTa κ qp p_bytes z10, pFr κ qf f_held f_couples f_endJoints f_lengths f_stiffs f_loadBeams f_loadSizes f_loadPlaces f_joints f_beams f_loads, pFr κ qd z11 z12 z13 z14 z15 z16 z17 z18 z19 z20 z21, pBa κ qb z22 b_gains b_topped z23 z24 z25 z26 z27 z28 z29]) := by
  unfold FJm_text at hf
  refine mIX_of (by decide +kernel) (Nat.le_of_ble_eq_true rfl) ?_
  intro p e s m below meth c A ls H locs C0 hE hw hl
  obtain ⟨hx, hb, -, hml, hown, hts, -, -⟩ := id C0
  have hl : lv_has ls 4 [(0, .ref (qx 0))] := hl
  refine lv_aload_n hx hb dX6_text_0 rfl (lv_at hl 0 rfl) ?_
  refine r_get C0 hw 0 1 (v := .ref (qt 0)) rfl rfl inX6 (by decide) lk_X6_12 rfl dX6_text_1 ?_
  refine lv_aload_n hx hb dX6_text_4 rfl (lv_at hl 0 rfl) ?_
  refine r_get C0 hw 0 8 (v := .ref (qd 0)) rfl rfl inX6 (by decide) lk_X6_42 rfl dX6_text_5 ?_
  obtain ⟨r1, w2, w3, w4, w5, w6, w7, w8, w9, w10, w11, w12, w13, w14, w15, w16, w17, w18, w19, hk20, hf⟩ := b19_s hf
  refine rvX_i (vq := (RX5, TX5, 8)) (As := [.ref (qd 0)]) (rest := []) (bs' := [pJm κ qx (qp 0) (qt 0) (qb 0) rx_equations rx_images rx_sheets (qf 0) (qd 0) x_kept x_textFault x_readFault, pTe κ qt (qp 0) w2 w3 w4 w5 w6 w7 w8, pTa κ qp p_bytes p_size, pFr κ qf f_held f_couples f_endJoints f_lengths f_stiffs f_loadBeams f_loadSizes f_loadPlaces f_joints f_beams f_loads, pFr κ qd w9 w10 w11 w12 w13 w14 w15 w16 w17 w18 w19, pBa κ qb b_moments b_gains b_topped b_endStiffs b_outs b_endsAt b_stiffAt b_stepsAt b_steps b_latest]) C0 hw hE (cTe_tell l D κ adK adV qt t_lines t_fault t_faultPlace t_kind t_start t_stop t_value qp p_bytes p_size qd d_held d_couples d_endJoints d_lengths d_stiffs d_loadBeams d_loadSizes d_loadPlaces d_joints d_beams d_loads r1 w2 w3 w4 w5 w6 w7 w8 w9 w10 w11 w12 w13 w14 w15 w16 w17 w18 w19 hk20) cv_RX6_70 ⟨rfl, rfl, Nat.le_of_ble_eq_true rfl, Nat.le_of_ble_eq_true rfl⟩ ⟨Nat.zero_le _, Nat.zero_le _⟩ [1, 2, 4] [0, 3, 5] [0, 3, 4, 1, 5, 2] rfl rfl rfl rfl (by decide) rfl rfl rfl rfl rfl hl.1 (by simp only [List.map, List.sum_cons, List.sum_nil, Value.category]; decide) dX6_text_8 (fun H locs hw hn21 => ?_)
  refine lv_istore_n (lv' := [(1, .int r1), (0, .ref (qx 0))]) hx hb dX6_text_11 rfl hl (by decide) rfl (fun ls hl => ?_)
  refine lv_aload_n hx hb dX6_text_12 rfl (lv_at hl 1 rfl) ?_
  refine r_get C0 hw 0 0 (v := .ref (qp 0)) rfl rfl inX6 (by decide) lk_X6_20 rfl dX6_text_13 ?_
  refine lv_iconst (v := 0) hx hb dX6_text_16 (by decide) ?_
  refine r_put C0 hw 3 1 (v := .int (0 : Int32)) (ws' := List.flatten [pJm κ qx (qp 0) (qt 0) (qb 0) rx_equations rx_images rx_sheets (qf 0) (qd 0) x_kept x_textFault x_readFault, pTe κ qt (qp 0) w2 w3 w4 w5 w6 w7 w8, pTa κ qp p_bytes (0 : Int32), pFr κ qf f_held f_couples f_endJoints f_lengths f_stiffs f_loadBeams f_loadSizes f_loadPlaces f_joints f_beams f_loads, pFr κ qd w9 w10 w11 w12 w13 w14 w15 w16 w17 w18 w19, pBa κ qb b_moments b_gains b_topped b_endStiffs b_outs b_endsAt b_stiffAt b_stepsAt b_steps b_latest]) rfl rfl inX4 tyX4_ok nmX4 (by decide) lk_X6_60 rfl rfl rfl rfl (Nat.le_of_ble_eq_true rfl) dX6_text_17 rfl (fun H locs hw => ?_)
  refine lv_aload_n hx hb dX6_text_20 rfl (lv_at hl 1 rfl) ?_
  refine lv_aload_n hx hb dX6_text_21 rfl (lv_at hl 1 rfl) ?_
  refine r_get C0 hw 0 1 (v := .ref (qt 0)) rfl rfl inX6 (by decide) lk_X6_12 rfl dX6_text_22 ?_
  refine r_get C0 hw 2 2 (v := .int w3) rfl rfl inX5 (by decide) lk_X6_74 rfl dX6_text_25 ?_
  refine r_put C0 hw 0 9 (v := .int w3) (ws' := List.flatten [pJm κ qx (qp 0) (qt 0) (qb 0) rx_equations rx_images rx_sheets (qf 0) (qd 0) x_kept w3 x_readFault, pTe κ qt (qp 0) w2 w3 w4 w5 w6 w7 w8, pTa κ qp p_bytes (0 : Int32), pFr κ qf f_held f_couples f_endJoints f_lengths f_stiffs f_loadBeams f_loadSizes f_loadPlaces f_joints f_beams f_loads, pFr κ qd w9 w10 w11 w12 w13 w14 w15 w16 w17 w18 w19, pBa κ qb b_moments b_gains b_topped b_endStiffs b_outs b_endsAt b_stiffAt b_stepsAt b_steps b_latest]) rfl rfl inX6 tyX6_ok nmX6 (by decide) lk_X6_77 rfl rfl rfl rfl (Nat.le_of_ble_eq_true rfl) dX6_text_28 rfl (fun H locs hw => ?_)
  refine lv_iload_n hx hb dX6_text_31 rfl (lv_at hl 0 rfl) ?_
  refine lv_if_ne (tgt := 46) hx hb dX6_text_32 (by decide) (fun hc22 => ?_) (fun hc22 => ?_)
  · have hf := if_f hc22 hf
    refine lv_aload_n hx hb dX6_text_46 rfl (lv_at hl 1 rfl) ?_
    refine r_get C0 hw 0 7 (v := .ref (qf 0)) rfl rfl inX6 (by decide) lk_X6_38 rfl dX6_text_47 ?_
    refine lv_astore_n (lv' := [(2, .ref (qf 0)), (1, .int r1), (0, .ref (qx 0))]) hx hb dX6_text_50 rfl hl (by decide) rfl (fun ls hl => ?_)
    refine lv_aload_n hx hb dX6_text_51 rfl (lv_at hl 2 rfl) ?_
    refine lv_aload_n hx hb dX6_text_52 rfl (lv_at hl 2 rfl) ?_
    refine r_get C0 hw 0 8 (v := .ref (qd 0)) rfl rfl inX6 (by decide) lk_X6_42 rfl dX6_text_53 ?_
    refine r_put C0 hw 0 7 (v := .ref (qd 0)) (ws' := List.flatten [pJm κ qx (qp 0) (qt 0) (qb 0) rx_equations rx_images rx_sheets (qd 0) (qd 0) x_kept w3 x_readFault, pTe κ qt (qp 0) w2 w3 w4 w5 w6 w7 w8, pTa κ qp p_bytes (0 : Int32), pFr κ qf f_held f_couples f_endJoints f_lengths f_stiffs f_loadBeams f_loadSizes f_loadPlaces f_joints f_beams f_loads, pFr κ qd w9 w10 w11 w12 w13 w14 w15 w16 w17 w18 w19, pBa κ qb b_moments b_gains b_topped b_endStiffs b_outs b_endsAt b_stiffAt b_stepsAt b_steps b_latest]) rfl rfl inX6 tyX6_ok nmX6 (by decide) lk_X6_38 rfl rfl rfl rfl (Nat.le_of_ble_eq_true rfl) dX6_text_56 rfl (fun H locs hw => ?_)
    refine lv_aload_n hx hb dX6_text_59 rfl (lv_at hl 2 rfl) ?_
    refine lv_aload_n hx hb dX6_text_60 rfl (lv_at hl 0 rfl) ?_
    refine r_put C0 hw 0 8 (v := .ref (qf 0)) (ws' := List.flatten [pJm κ qx (qp 0) (qt 0) (qb 0) rx_equations rx_images rx_sheets (qd 0) (qf 0) x_kept w3 x_readFault, pTe κ qt (qp 0) w2 w3 w4 w5 w6 w7 w8, pTa κ qp p_bytes (0 : Int32), pFr κ qf f_held f_couples f_endJoints f_lengths f_stiffs f_loadBeams f_loadSizes f_loadPlaces f_joints f_beams f_loads, pFr κ qd w9 w10 w11 w12 w13 w14 w15 w16 w17 w18 w19, pBa κ qb b_moments b_gains b_topped b_endStiffs b_outs b_endsAt b_stiffAt b_stepsAt b_steps b_latest]) rfl rfl inX6 tyX6_ok nmX6 (by decide) lk_X6_42 rfl rfl rfl rfl (Nat.le_of_ble_eq_true rfl) dX6_text_61 rfl (fun H locs hw => ?_)
    refine lv_iconst (v := 0) hx hb dX6_text_64 (by decide) ?_
    refine lv_istore_n (lv' := [(3, .int (0 : Int32)), (2, .ref (qf 0)), (1, .int r1), (0, .ref (qx 0))]) hx hb dX6_text_65 rfl hl (by decide) rfl (fun ls hl => ?_)
    refine wJm_text_L66 C0 hE qx rx_equations rx_images rx_sheets w3 x_readFault qt w2 w3 w4 w5 w6 w7 w8 qp p_bytes (0 : Int32) qf f_held f_couples f_endJoints f_lengths f_stiffs f_loadBeams f_loadSizes f_loadPlaces f_joints f_beams f_loads qd w9 w10 w11 w12 w13 w14 w15 w16 w17 w18 w19 qb b_moments b_gains b_topped b_endStiffs b_outs b_endsAt b_stiffAt b_stepsAt b_steps b_latest zr z1 z2 z3 z4 z5 z6 z7 z8 z9 z10 z11 z12 z13 z14 z15 z16 z17 z18 z19 z20 z21 z22 z23 z24 z25 z26 z27 z28 z29 zs _ (fun v27 w28 H locs ls hw hl  hf => ?_) 1000 (0 : Int32) x_kept H locs ls hw (lv_sub hl [3, 0] rfl)  hf
    refine lv_aload_n hx hb dX6_text_84 rfl (lv_at hl 0 rfl) ?_
    refine r_get C0 hw 0 2 (v := .ref (qb 0)) rfl rfl inX6 (by decide) lk_X6_24 rfl dX6_text_85 ?_
    refine lv_aload_n hx hb dX6_text_88 rfl (lv_at hl 0 rfl) ?_
    refine r_get C0 hw 0 7 (v := .ref (qd 0)) rfl rfl inX6 (by decide) lk_X6_38 rfl dX6_text_89 ?_
    obtain ⟨w29, w30, w31, w32, w33, w34, w35, w36, hk37, hf⟩ := b8_s hf
    refine rv_v (vq := (RX0, TX0, 10)) (As := [.ref (qd 0)]) (rest := []) (bs' := [pJm κ qx (qp 0) (qt 0) (qb 0) rx_equations rx_images rx_sheets (qd 0) (qf 0) w28 w3 x_readFault, pTe κ qt (qp 0) w2 w3 w4 w5 w6 w7 w8, pTa κ qp p_bytes (0 : Int32), pFr κ qf f_held f_couples f_endJoints f_lengths f_stiffs f_loadBeams f_loadSizes f_loadPlaces f_joints f_beams f_loads, pFr κ qd w9 w10 w11 w12 w13 w14 w15 w16 w17 w18 w19, pBa κ qb w29 b_gains b_topped w30 w31 w32 w33 w34 w35 w36]) C0 hw (cBa_anew l D κ qb b_moments b_gains b_topped b_endStiffs b_outs b_endsAt b_stiffAt b_stepsAt b_steps b_latest qd w9 w10 w11 w12 w13 w14 w15 w16 w17 w18 w19 w29 w30 w31 w32 w33 w34 w35 w36 hk37) cv_RX6_83 ⟨rfl, rfl, Nat.le_of_ble_eq_true rfl, Nat.le_of_ble_eq_true rfl⟩ ⟨Nat.zero_le _, Nat.zero_le _⟩ [5, 4] [0, 1, 2, 3] [0, 1, 2, 3, 5, 4] rfl rfl rfl rfl (by decide) rfl rfl rfl rfl rfl hl.1 (by simp only [List.map, List.sum_cons, List.sum_nil, Value.category]; decide) dX6_text_92 (fun H locs hw => ?_)
    refine lv_aload_n hx hb dX6_text_95 rfl (lv_at hl 0 rfl) ?_
    refine r_get C0 hw 0 1 (v := .ref (qt 0)) rfl rfl inX6 (by decide) lk_X6_12 rfl dX6_text_96 ?_
    refine r_get C0 hw 2 1 (v := .int w2) rfl rfl inX5 (by decide) lk_X6_87 rfl dX6_text_99 ?_
    obtain ⟨rfl, rfl, rfl, rfl, rfl, rfl, rfl, rfl, rfl, rfl, rfl, rfl, rfl, rfl, rfl, rfl, rfl, rfl, rfl, rfl, rfl, rfl, rfl, rfl, rfl, rfl, rfl, rfl, rfl, rfl, rfl⟩ := e31_ hf
    exact r_iret C0 hw trivial dX6_text_102
  · have hf := if_t hc22 hf
    refine lv_bipush (v := -10) hx hb dX6_text_35 (by decide) ?_
    refine lv_aload_n hx hb dX6_text_37 rfl (lv_at hl 1 rfl) ?_
    refine r_get C0 hw 0 1 (v := .ref (qt 0)) rfl rfl inX6 (by decide) lk_X6_12 rfl dX6_text_38 ?_
    refine r_get C0 hw 2 3 (v := .int w4) rfl rfl inX5 (by decide) lk_X6_80 rfl dX6_text_41 ?_
    refine lv_isub hx hb dX6_text_44 ?_
    obtain ⟨rfl, rfl, rfl, rfl, rfl, rfl, rfl, rfl, rfl, rfl, rfl, rfl, rfl, rfl, rfl, rfl, rfl, rfl, rfl, rfl, rfl, rfl, rfl, rfl, rfl, rfl, rfl, rfl, rfl, rfl, rfl⟩ := e31_ hf
    exact r_iret C0 hw trivial dX6_text_45
