theorem lk_X5_27 : Cond.fieldLink RX5 27 (TX5 2).1 (TX5 2).2.1 (TX5 2).2.2.1 ∈ uw := uw_1 (List.mem_of_getElem? (i := 50) rfl) rfl
theorem lk_X5_30 : Cond.fieldLink RX5 30 (TX5 3).1 (TX5 3).2.1 (TX5 3).2.2.1 ∈ uw := uw_1 (List.mem_of_getElem? (i := 52) rfl) rfl
theorem lk_X5_81 : Cond.fieldLink RX5 81 (TX5 5).1 (TX5 5).2.1 (TX5 5).2.2.1 ∈ uw := uw_1 (List.mem_of_getElem? (i := 55) rfl) rfl
theorem lk_X5_12 : Cond.fieldLink RX5 12 (TX5 0).1 (TX5 0).2.1 (TX5 0).2.2.1 ∈ uw := uw_1 (List.mem_of_getElem? (i := 46) rfl) rfl
theorem lk_X5_36 : Cond.fieldLink RX5 36 (TX4 1).1 (TX4 1).2.1 (TX4 1).2.2.1 ∈ uw := uw_1 (List.mem_of_getElem? (i := 39) rfl) rfl
theorem lk_X5_121 : Cond.fieldLink RX5 121 (TX4 0).1 (TX4 0).2.1 (TX4 0).2.2.1 ∈ uw := uw_1 (List.mem_of_getElem? (i := 36) rfl) rfl
theorem lk_X5_94 : Cond.fieldLink RX5 94 (TX5 7).1 (TX5 7).2.1 (TX5 7).2.2.1 ∈ uw := uw_1 (List.mem_of_getElem? (i := 57) rfl) rfl
theorem lk_X5_33 : Cond.fieldLink RX5 33 (TX5 6).1 (TX5 6).2.1 (TX5 6).2.2.1 ∈ uw := uw_1 (List.mem_of_getElem? (i := 56) rfl) rfl
theorem lk_X5_43 : Cond.fieldLink RX5 43 (TX5 4).1 (TX5 4).2.1 (TX5 4).2.2.1 ∈ uw := uw_1 (List.mem_of_getElem? (i := 54) rfl) rfl
theorem hd_X5_fail : yX5_fail.cls = RX5 ∧ yX5_fail.cls ≠ "java/lang/invoke/MethodHandle" ∧ yX5_fail.cls ≠ "java/lang/invoke/VarHandle" ∧ (parseMethodDescriptor yX5_fail.desc).map (fun d => d.parameters.length) = some 2 := by decide +kernel
theorem cv_RX5_53 : cv_ RX5 53 yX5_fail RX5 cX5_fail 3 (some .boolean) 2 := ⟨uw_2 (List.mem_of_getElem? (i := 53) rfl) rfl, uw_2 (List.mem_of_getElem? (i := 55) rfl) rfl, uw_0 (List.mem_of_getElem? (i := 3) rfl) rfl, uw_1 (List.mem_of_getElem? (i := 2) rfl) rfl, uw_2 (List.mem_of_getElem? (i := 56) rfl) rfl, hd_X5_fail⟩
theorem hd_X5_behindRun : yX5_behindRun.cls = RX5 ∧ yX5_behindRun.cls ≠ "java/lang/invoke/MethodHandle" ∧ yX5_behindRun.cls ≠ "java/lang/invoke/VarHandle" ∧ (parseMethodDescriptor yX5_behindRun.desc).map (fun d => d.parameters.length) = some 2 := by decide +kernel
theorem cv_RX5_125 : cv_ RX5 125 yX5_behindRun RX5 cX5_behindRun 4 (some .int) 2 := ⟨uw_2 (List.mem_of_getElem? (i := 45) rfl) rfl, uw_2 (List.mem_of_getElem? (i := 47) rfl) rfl, uw_0 (List.mem_of_getElem? (i := 1) rfl) rfl, uw_1 (List.mem_of_getElem? (i := 2) rfl) rfl, uw_2 (List.mem_of_getElem? (i := 48) rfl) rfl, hd_X5_behindRun⟩
theorem hd_X5_reckon : yX5_reckon.cls = RX5 ∧ yX5_reckon.cls ≠ "java/lang/invoke/MethodHandle" ∧ yX5_reckon.cls ≠ "java/lang/invoke/VarHandle" ∧ (parseMethodDescriptor yX5_reckon.desc).map (fun d => d.parameters.length) = some 0 := by decide +kernel
theorem cv_RX5_129 : cv_ RX5 129 yX5_reckon RX5 cX5_reckon 2 (some .boolean) 0 := ⟨uw_2 (List.mem_of_getElem? (i := 49) rfl) rfl, uw_2 (List.mem_of_getElem? (i := 51) rfl) rfl, uw_0 (List.mem_of_getElem? (i := 2) rfl) rfl, uw_1 (List.mem_of_getElem? (i := 2) rfl) rfl, uw_2 (List.mem_of_getElem? (i := 52) rfl) rfl, hd_X5_reckon⟩
theorem hd_X5_scan : yX5_scan.cls = RX5 ∧ yX5_scan.cls ≠ "java/lang/invoke/MethodHandle" ∧ yX5_scan.cls ≠ "java/lang/invoke/VarHandle" ∧ (parseMethodDescriptor yX5_scan.desc).map (fun d => d.parameters.length) = some 0 := by decide +kernel
theorem cv_RX5_39 : cv_ RX5 39 yX5_scan RX5 cX5_scan 2 (some .boolean) 0 := ⟨uw_2 (List.mem_of_getElem? (i := 41) rfl) rfl, uw_2 (List.mem_of_getElem? (i := 43) rfl) rfl, uw_0 (List.mem_of_getElem? (i := 0) rfl) rfl, uw_1 (List.mem_of_getElem? (i := 2) rfl) rfl, uw_2 (List.mem_of_getElem? (i := 44) rfl) rfl, hd_X5_scan⟩
theorem hd_X5_isNumber : yX5_isNumber.cls = RX5 ∧ yX5_isNumber.cls ≠ "java/lang/invoke/MethodHandle" ∧ yX5_isNumber.cls ≠ "java/lang/invoke/VarHandle" ∧ (parseMethodDescriptor yX5_isNumber.desc).map (fun d => d.parameters.length) = some 2 := by decide +kernel
theorem cv_RX5_91 : cv_ RX5 91 yX5_isNumber RX5 cX5_isNumber 3 (some .boolean) 2 := ⟨uw_2 (List.mem_of_getElem? (i := 122) rfl) rfl, uw_2 (List.mem_of_getElem? (i := 124) rfl) rfl, uw_0 (List.mem_of_getElem? (i := 7) rfl) rfl, uw_1 (List.mem_of_getElem? (i := 2) rfl) rfl, uw_2 (List.mem_of_getElem? (i := 125) rfl) rfl, hd_X5_isNumber⟩
theorem lk_X5_84 : Cond.fieldLink RX5 84 (TX2 8).1 (TX2 8).2.1 (TX2 8).2.2.1 ∈ uw := uw_1 (List.mem_of_getElem? (i := 168) rfl) rfl
theorem hd_X5_semicolon : yX5_semicolon.cls = RX5 ∧ yX5_semicolon.cls ≠ "java/lang/invoke/MethodHandle" ∧ yX5_semicolon.cls ≠ "java/lang/invoke/VarHandle" ∧ (parseMethodDescriptor yX5_semicolon.desc).map (fun d => d.parameters.length) = some 0 := by decide +kernel
theorem cv_RX5_97 : cv_ RX5 97 yX5_semicolon RX5 cX5_semicolon 1 (some .boolean) 0 := ⟨uw_2 (List.mem_of_getElem? (i := 126) rfl) rfl, uw_2 (List.mem_of_getElem? (i := 128) rfl) rfl, uw_0 (List.mem_of_getElem? (i := 8) rfl) rfl, uw_1 (List.mem_of_getElem? (i := 2) rfl) rfl, uw_2 (List.mem_of_getElem? (i := 129) rfl) rfl, hd_X5_semicolon⟩
theorem hd_X2_addJoint : yX2_addJoint.cls = RX2 ∧ yX2_addJoint.cls ≠ "java/lang/invoke/MethodHandle" ∧ yX2_addJoint.cls ≠ "java/lang/invoke/VarHandle" ∧ (parseMethodDescriptor yX2_addJoint.desc).map (fun d => d.parameters.length) = some 2 := by decide +kernel
theorem cv_RX5_100 : cv_ RX5 100 yX2_addJoint RX2 cX2_addJoint 3 none 2 := ⟨uw_2 (List.mem_of_getElem? (i := 130) rfl) rfl, uw_2 (List.mem_of_getElem? (i := 131) rfl) rfl, uw_2 (List.mem_of_getElem? (i := 132) rfl) rfl, uw_1 (List.mem_of_getElem? (i := 6) rfl) rfl, uw_2 (List.mem_of_getElem? (i := 133) rfl) rfl, hd_X2_addJoint⟩
theorem hd_X2_turning : yX2_turning.cls = RX2 ∧ yX2_turning.cls ≠ "java/lang/invoke/MethodHandle" ∧ yX2_turning.cls ≠ "java/lang/invoke/VarHandle" ∧ (parseMethodDescriptor yX2_turning.desc).map (fun d => d.parameters.length) = some 0 := by decide +kernel
theorem cv_RX5_87 : cv_ RX5 87 yX2_turning RX2 cX2_turning 3 (some .int) 0 := ⟨uw_2 (List.mem_of_getElem? (i := 118) rfl) rfl, uw_2 (List.mem_of_getElem? (i := 119) rfl) rfl, uw_2 (List.mem_of_getElem? (i := 120) rfl) rfl, uw_1 (List.mem_of_getElem? (i := 6) rfl) rfl, uw_2 (List.mem_of_getElem? (i := 121) rfl) rfl, hd_X2_turning⟩
theorem lk_X5_104 : Cond.fieldLink RX5 104 (TX2 9).1 (TX2 9).2.1 (TX2 9).2.2.1 ∈ uw := uw_1 (List.mem_of_getElem? (i := 174) rfl) rfl
theorem hd_X5_number : yX5_number.cls = RX5 ∧ yX5_number.cls ≠ "java/lang/invoke/MethodHandle" ∧ yX5_number.cls ≠ "java/lang/invoke/VarHandle" ∧ (parseMethodDescriptor yX5_number.desc).map (fun d => d.parameters.length) = some 2 := by decide +kernel
theorem cv_RX5_107 : cv_ RX5 107 yX5_number RX5 cX5_number 3 (some .boolean) 2 := ⟨uw_2 (List.mem_of_getElem? (i := 140) rfl) rfl, uw_2 (List.mem_of_getElem? (i := 142) rfl) rfl, uw_0 (List.mem_of_getElem? (i := 10) rfl) rfl, uw_1 (List.mem_of_getElem? (i := 2) rfl) rfl, uw_2 (List.mem_of_getElem? (i := 143) rfl) rfl, hd_X5_number⟩
theorem hd_X2_addBeam : yX2_addBeam.cls = RX2 ∧ yX2_addBeam.cls ≠ "java/lang/invoke/MethodHandle" ∧ yX2_addBeam.cls ≠ "java/lang/invoke/VarHandle" ∧ (parseMethodDescriptor yX2_addBeam.desc).map (fun d => d.parameters.length) = some 4 := by decide +kernel
theorem cv_RX5_110 : cv_ RX5 110 yX2_addBeam RX2 cX2_addBeam 5 none 4 := ⟨uw_2 (List.mem_of_getElem? (i := 144) rfl) rfl, uw_2 (List.mem_of_getElem? (i := 145) rfl) rfl, uw_2 (List.mem_of_getElem? (i := 146) rfl) rfl, uw_1 (List.mem_of_getElem? (i := 6) rfl) rfl, uw_2 (List.mem_of_getElem? (i := 147) rfl) rfl, hd_X2_addBeam⟩
theorem lk_X5_114 : Cond.fieldLink RX5 114 (TX2 10).1 (TX2 10).2.1 (TX2 10).2.2.1 ∈ uw := uw_1 (List.mem_of_getElem? (i := 178) rfl) rfl
theorem cv_RX5_117 : cv_ RX5 117 yX2_addLoad RX2 cX2_addLoad 4 none 3 := ⟨uw_2 (List.mem_of_getElem? (i := 153) rfl) rfl, uw_2 (List.mem_of_getElem? (i := 154) rfl) rfl, uw_2 (List.mem_of_getElem? (i := 155) rfl) rfl, uw_1 (List.mem_of_getElem? (i := 6) rfl) rfl, uw_2 (List.mem_of_getElem? (i := 156) rfl) rfl, hd_X2_addLoad⟩
def FTe_fail (a1 a2 : Int32) : Option (Int32 × Int32 × Int32) :=
  some ((0 : Int32), a1, a2)
set_option maxHeartbeats 4000000 in
set_option maxRecDepth 100000 in
theorem cTe_fail (l : Launch) (D : va_G) (κ : Nat → ClassId) (qt : Nat → Nat) (t_lines t_fault t_faultPlace t_kind t_start t_stop t_value : Int32) (qp : Nat → Nat) (p_bytes : Nat → Int32) (p_size a1 a2 zr z1 z2 : Int32) (hf : FTe_fail a1 a2 = some (zr, z1, z2)) : mI_ l yX5_fail (Cond.code yX5_fail cX5_fail 3 (some .boolean) :: uw) ({ frames := 0, cells := 0, slots := 0, locals := 0 } : Room) D (tys0 κ) [.ref (qt 0), .int a1, .int a2] (List.flatten [pTe κ qt (qp 0) t_lines t_fault t_faultPlace t_kind t_start t_stop t_value, pTa κ qp p_bytes p_size]) nB_ zr (List.flatten [pTe κ qt (qp 0) t_lines z1 z2 t_kind t_start t_stop t_value, pTa κ qp p_bytes p_size]) := by
  unfold FTe_fail at hf
  refine mI_of (by decide) (Nat.le_of_ble_eq_true rfl) ?_
  intro p e s m below meth c A ls H locs C0 hw hl
  obtain ⟨hx, hb, -, hml, hown, hts, -, -⟩ := id C0
  have hl : lv_has ls 3 [(0, .ref (qt 0)), (1, .int a1), (2, .int a2)] := hl
  refine lv_aload_n hx hb dX5_fail_0 rfl (lv_at hl 0 rfl) ?_
  refine lv_iload_n hx hb dX5_fail_1 rfl (lv_at hl 1 rfl) ?_
  refine r_put C0 hw 0 2 (v := .int a1) (ws' := List.flatten [pTe κ qt (qp 0) t_lines a1 t_faultPlace t_kind t_start t_stop t_value, pTa κ qp p_bytes p_size]) rfl rfl inX5 tyX5_ok nmX5 (by decide) lk_X5_27 rfl rfl rfl rfl (Nat.le_of_ble_eq_true rfl) dX5_fail_2 rfl (fun H locs hw => ?_)
  refine lv_aload_n hx hb dX5_fail_5 rfl (lv_at hl 0 rfl) ?_
  refine lv_iload_n hx hb dX5_fail_6 rfl (lv_at hl 2 rfl) ?_
  refine r_put C0 hw 0 3 (v := .int a2) (ws' := List.flatten [pTe κ qt (qp 0) t_lines a1 a2 t_kind t_start t_stop t_value, pTa κ qp p_bytes p_size]) rfl rfl inX5 tyX5_ok nmX5 (by decide) lk_X5_30 rfl rfl rfl rfl (Nat.le_of_ble_eq_true rfl) dX5_fail_7 rfl (fun H locs hw => ?_)
  refine lv_iconst (v := 0) hx hb dX5_fail_10 (by decide) ?_
  obtain ⟨rfl, rfl, rfl⟩ := e3_ hf
  exact r_zret C0 hw (Or.inl rfl) dX5_fail_11
def FTe_behindRun_L5 (p_bytes : Nat → Int32) (p_size l1 l2 : Int32) : Nat → Int32 → Option (Int32)
  | 0, _ => none
  | n + 1, l3 =>
      if p_size ≤ l3 then
        some (l3)
      else
        gd_ l3 320 <|
        if (p_bytes l3.toNatClampNeg) < l1 then
          some (l3)
        else
          gd_ l3 320 <|
          if l2 < (p_bytes l3.toNatClampNeg) then
            some (l3)
          else
            lt_ (l3 + (1 : Int32)) fun v6 =>
            FTe_behindRun_L5 p_bytes p_size l1 l2 n v6
def FTe_behindRun (t_start : Int32) (p_bytes : Nat → Int32) (p_size a1 a2 : Int32) : Option (Int32) :=
  FTe_behindRun_L5 p_bytes p_size a1 a2 1000 t_start
set_option maxHeartbeats 4000000 in
set_option maxRecDepth 100000 in
theorem wTe_behindRun_L5 {p : Program} {l : Launch} {e : Env} {s : State} {m : MethodId} {args : Array Value} {below : List Frame} {meth : Method} {c : Code} {A : Nat → Prop} {D : va_G} {κ : Nat → ClassId} (C0 : cx_ p s m meth c args cX5_behindRun RX5 (some .int) 4 A) (qt : Nat → Nat) (t_lines t_fault t_faultPlace t_kind t_start t_stop t_value : Int32) (qp : Nat → Nat) (p_bytes : Nat → Int32) (p_size l1 l2 : Int32) (zr : Int32) : ∀ (n : Nat) (l3 : Int32) (H : Heap) (locs : List Loc) (ls : Array Slot), wd_ D (tys0 κ) A s (List.flatten [pTe κ qt (qp 0) t_lines t_fault t_faultPlace t_kind t_start t_stop t_value, pTa κ qp p_bytes p_size]) H locs → lv_has ls 4 [(0, .ref (qt 0)), (1, .int l1), (2, .int l2), (3, .int l3)] → FTe_behindRun_L5 p_bytes p_size l1 l2 n l3 = some zr → W p l e ({ frames := 0, cells := 0, slots := 0, locals := 0 } : Room) s m args below meth c H locs 0 0 (qI_ D (tys0 κ) A nT_ zr (List.flatten [pTe κ qt (qp 0) t_lines t_fault t_faultPlace t_kind t_start t_stop t_value, pTa κ qp p_bytes p_size]) below args s) (F0 m 5 ls []) := by
  obtain ⟨hx, hb, -, hml, hown, hts, -, -⟩ := id C0
  intro n
  induction n with
  | zero =>
    intro l3 H locs ls hw hl  hf
    cases hf
  | succ n ih =>
    intro l3 H locs ls hw hl  hf
    rw [FTe_behindRun_L5.eq_2] at hf
    refine lv_iload_n hx hb dX5_behindRun_5 rfl (lv_at hl 3 rfl) ?_
    refine lv_aload_n hx hb dX5_behindRun_6 rfl (lv_at hl 0 rfl) ?_
    refine r_get C0 hw 0 0 (v := .ref (qp 0)) rfl rfl inX5 (by decide) lk_X5_12 rfl dX5_behindRun_7 ?_
    refine r_get C0 hw 1 1 (v := .int p_size) rfl rfl inX4 (by decide) lk_X5_36 rfl dX5_behindRun_10 ?_
    refine lv_icmp_ge (tgt := 48) hx hb dX5_behindRun_13 (by decide) (fun hc1 => ?_) (fun hc1 => ?_)
    · have hf := if_t hc1 hf
      refine lv_iload_n hx hb dX5_behindRun_48 rfl (lv_at hl 3 rfl) ?_
      obtain rfl := e1_ hf
      exact r_iret C0 hw trivial dX5_behindRun_49
    · have hf := if_f hc1 hf
      refine lv_aload_n hx hb dX5_behindRun_16 rfl (lv_at hl 0 rfl) ?_
      refine r_get C0 hw 0 0 (v := .ref (qp 0)) rfl rfl inX5 (by decide) lk_X5_12 rfl dX5_behindRun_17 ?_
      refine r_get C0 hw 1 0 (v := .ref (qp 1)) rfl rfl inX4 (by decide) lk_X5_121 rfl dX5_behindRun_20 ?_
      refine lv_iload_n hx hb dX5_behindRun_23 rfl (lv_at hl 3 rfl) ?_
      obtain ⟨hi2, hf⟩ := gd_s hf
      refine r_bald C0 hw 2 2 rfl rfl hi2 dX5_behindRun_24 ?_
      refine lv_iload_n hx hb dX5_behindRun_25 rfl (lv_at hl 1 rfl) ?_
      refine lv_icmp_lt (tgt := 48) hx hb dX5_behindRun_26 (by decide) (fun hc3 => ?_) (fun hc3 => ?_)
      · have hf := if_t hc3 hf
        refine lv_iload_n hx hb dX5_behindRun_48 rfl (lv_at hl 3 rfl) ?_
        obtain rfl := e1_ hf
        exact r_iret C0 hw trivial dX5_behindRun_49
      · have hf := if_f hc3 hf
        refine lv_aload_n hx hb dX5_behindRun_29 rfl (lv_at hl 0 rfl) ?_
        refine r_get C0 hw 0 0 (v := .ref (qp 0)) rfl rfl inX5 (by decide) lk_X5_12 rfl dX5_behindRun_30 ?_
        refine r_get C0 hw 1 0 (v := .ref (qp 1)) rfl rfl inX4 (by decide) lk_X5_121 rfl dX5_behindRun_33 ?_
        refine lv_iload_n hx hb dX5_behindRun_36 rfl (lv_at hl 3 rfl) ?_
        obtain ⟨hi4, hf⟩ := gd_s hf
        refine r_bald C0 hw 2 2 rfl rfl hi4 dX5_behindRun_37 ?_
        refine lv_iload_n hx hb dX5_behindRun_38 rfl (lv_at hl 2 rfl) ?_
        refine lv_icmp_gt (tgt := 48) hx hb dX5_behindRun_39 (by decide) (fun hc5 => ?_) (fun hc5 => ?_)
        · have hf := if_t hc5 hf
          refine lv_iload_n hx hb dX5_behindRun_48 rfl (lv_at hl 3 rfl) ?_
          obtain rfl := e1_ hf
          exact r_iret C0 hw trivial dX5_behindRun_49
        · have hf := if_f hc5 hf
          obtain ⟨v6, ev6⟩ : ∃ z : Int32, z = (l3 + (1 : Int32)) := ⟨_, rfl⟩
          have hf := lt_s_ hf v6 ev6
          refine lv_iinc (v := v6) (lv' := [(3, .int v6), (0, .ref (qt 0)), (1, .int l1), (2, .int l2)]) hx hb dX5_behindRun_42 hl (k := 3) rfl (by rw [ev6]; rfl) (by decide) rfl (fun ls hl => ?_)
          refine lv_goto (tgt := 5) hx hb dX5_behindRun_45 (by decide) ?_
          exact ih v6 H locs ls hw (lv_sub hl [1, 2, 3, 0] rfl)  hf
set_option maxHeartbeats 4000000 in
set_option maxRecDepth 100000 in
theorem cTe_behindRun (l : Launch) (D : va_G) (κ : Nat → ClassId) (qt : Nat → Nat) (t_lines t_fault t_faultPlace t_kind t_start t_stop t_value : Int32) (qp : Nat → Nat) (p_bytes : Nat → Int32) (p_size a1 a2 zr : Int32) (hf : FTe_behindRun t_start p_bytes p_size a1 a2 = some zr) : mI_ l yX5_behindRun (Cond.code yX5_behindRun cX5_behindRun 4 (some .int) :: uw) ({ frames := 0, cells := 0, slots := 0, locals := 0 } : Room) D (tys0 κ) [.ref (qt 0), .int a1, .int a2] (List.flatten [pTe κ qt (qp 0) t_lines t_fault t_faultPlace t_kind t_start t_stop t_value, pTa κ qp p_bytes p_size]) nT_ zr (List.flatten [pTe κ qt (qp 0) t_lines t_fault t_faultPlace t_kind t_start t_stop t_value, pTa κ qp p_bytes p_size]) := by
  unfold FTe_behindRun at hf
  refine mI_of (by decide) (Nat.le_of_ble_eq_true rfl) ?_
  intro p e s m below meth c A ls H locs C0 hw hl
  obtain ⟨hx, hb, -, hml, hown, hts, -, -⟩ := id C0
  have hl : lv_has ls 4 [(0, .ref (qt 0)), (1, .int a1), (2, .int a2)] := hl
  refine lv_aload_n hx hb dX5_behindRun_0 rfl (lv_at hl 0 rfl) ?_
  refine r_get C0 hw 0 5 (v := .int t_start) rfl rfl inX5 (by decide) lk_X5_81 rfl dX5_behindRun_1 ?_
  refine lv_istore_n (lv' := [(3, .int t_start), (0, .ref (qt 0)), (1, .int a1), (2, .int a2)]) hx hb dX5_behindRun_4 rfl hl (by decide) rfl (fun ls hl => ?_)
  exact wTe_behindRun_L5 C0 qt t_lines t_fault t_faultPlace t_kind t_start t_stop t_value qp p_bytes p_size a1 a2 zr 1000 t_start H locs ls hw (lv_sub hl [1, 2, 3, 0] rfl)  hf
def FTe_reckon_L10 (t_stop : Int32) (p_bytes : Nat → Int32) : Nat → Int32 → Int32 → Option (Int32 × Int32)
  | 0, _, _ => none
  | n + 1, l1, t_value =>
      if t_stop ≤ l1 then
        some ((1 : Int32), t_value)
      else
        gd_ l1 320 <|
        lt_ ((((10 : Int32) * t_value) + (p_bytes l1.toNatClampNeg)) - (48 : Int32)) fun v3 =>
        lt_ (l1 + (1 : Int32)) fun v4 =>
        FTe_reckon_L10 t_stop p_bytes n v4 v3
def FTe_reckon (t_start t_stop : Int32) (p_bytes : Nat → Int32) : Option (Int32 × Int32) :=
  FTe_reckon_L10 t_stop p_bytes 1000 t_start (0 : Int32)
set_option maxHeartbeats 4000000 in
set_option maxRecDepth 100000 in
theorem wTe_reckon_L10 {p : Program} {l : Launch} {e : Env} {s : State} {m : MethodId} {args : Array Value} {below : List Frame} {meth : Method} {c : Code} {A : Nat → Prop} {D : va_G} {κ : Nat → ClassId} (C0 : cx_ p s m meth c args cX5_reckon RX5 (some .boolean) 2 A) (qt : Nat → Nat) (t_lines t_fault t_faultPlace t_kind t_start t_stop : Int32) (qp : Nat → Nat) (p_bytes : Nat → Int32) (p_size : Int32) (zr z1 : Int32) : ∀ (n : Nat) (l1 : Int32) (t_value : Int32) (H : Heap) (locs : List Loc) (ls : Array Slot), wd_ D (tys0 κ) A s (List.flatten [pTe κ qt (qp 0) t_lines t_fault t_faultPlace t_kind t_start t_stop t_value, pTa κ qp p_bytes p_size]) H locs → lv_has ls 2 [(0, .ref (qt 0)), (1, .int l1)] → FTe_reckon_L10 t_stop p_bytes n l1 t_value = some (zr, z1) → W p l e ({ frames := 0, cells := 0, slots := 0, locals := 0 } : Room) s m args below meth c H locs 0 0 (qI_ D (tys0 κ) A nB_ zr (List.flatten [pTe κ qt (qp 0) t_lines t_fault t_faultPlace t_kind t_start t_stop z1, pTa κ qp p_bytes p_size]) below args s) (F0 m 10 ls []) := by
  obtain ⟨hx, hb, -, hml, hown, hts, -, -⟩ := id C0
  intro n
  induction n with
  | zero =>
    intro l1 t_value H locs ls hw hl  hf
    cases hf
  | succ n ih =>
    intro l1 t_value H locs ls hw hl  hf
    rw [FTe_reckon_L10.eq_2] at hf
    refine lv_iload_n hx hb dX5_reckon_10 rfl (lv_at hl 1 rfl) ?_
    refine lv_aload_n hx hb dX5_reckon_11 rfl (lv_at hl 0 rfl) ?_
    refine r_get C0 hw 0 6 (v := .int t_stop) rfl rfl inX5 (by decide) lk_X5_33 rfl dX5_reckon_12 ?_
    refine lv_icmp_ge (tgt := 48) hx hb dX5_reckon_15 (by decide) (fun hc1 => ?_) (fun hc1 => ?_)
    · have hf := if_t hc1 hf
      refine lv_iconst (v := 1) hx hb dX5_reckon_48 (by decide) ?_
      obtain ⟨rfl, rfl⟩ := e2_ hf
      exact r_zret C0 hw (Or.inr rfl) dX5_reckon_49
    · have hf := if_f hc1 hf
      refine lv_aload_n hx hb dX5_reckon_18 rfl (lv_at hl 0 rfl) ?_
      refine lv_bipush (v := 10) hx hb dX5_reckon_19 (by decide) ?_
      refine lv_aload_n hx hb dX5_reckon_21 rfl (lv_at hl 0 rfl) ?_
      refine r_get C0 hw 0 7 (v := .int t_value) rfl rfl inX5 (by decide) lk_X5_94 rfl dX5_reckon_22 ?_
      refine lv_imul hx hb dX5_reckon_25 ?_
      refine lv_aload_n hx hb dX5_reckon_26 rfl (lv_at hl 0 rfl) ?_
      refine r_get C0 hw 0 0 (v := .ref (qp 0)) rfl rfl inX5 (by decide) lk_X5_12 rfl dX5_reckon_27 ?_
      refine r_get C0 hw 1 0 (v := .ref (qp 1)) rfl rfl inX4 (by decide) lk_X5_121 rfl dX5_reckon_30 ?_
      refine lv_iload_n hx hb dX5_reckon_33 rfl (lv_at hl 1 rfl) ?_
      obtain ⟨hi2, hf⟩ := gd_s hf
      refine r_bald C0 hw 2 2 rfl rfl hi2 dX5_reckon_34 ?_
      refine lv_iadd hx hb dX5_reckon_35 ?_
      refine lv_bipush (v := 48) hx hb dX5_reckon_36 (by decide) ?_
      refine lv_isub hx hb dX5_reckon_38 ?_
      refine lv_topi (fun v3 ev3 => ?_)
      have hf := lt_s_ hf v3 ev3
      refine r_put C0 hw 0 7 (v := .int v3) (ws' := List.flatten [pTe κ qt (qp 0) t_lines t_fault t_faultPlace t_kind t_start t_stop v3, pTa κ qp p_bytes p_size]) rfl rfl inX5 tyX5_ok nmX5 (by decide) lk_X5_94 rfl rfl rfl rfl (Nat.le_of_ble_eq_true rfl) dX5_reckon_39 rfl (fun H locs hw => ?_)
      obtain ⟨v4, ev4⟩ : ∃ z : Int32, z = (l1 + (1 : Int32)) := ⟨_, rfl⟩
      have hf := lt_s_ hf v4 ev4
      refine lv_iinc (v := v4) (lv' := [(1, .int v4), (0, .ref (qt 0))]) hx hb dX5_reckon_42 hl (k := 1) rfl (by rw [ev4]; rfl) (by decide) rfl (fun ls hl => ?_)
      refine lv_goto (tgt := 10) hx hb dX5_reckon_45 (by decide) ?_
      exact ih v4 v3 H locs ls hw (lv_sub hl [1, 0] rfl)  hf
set_option maxHeartbeats 4000000 in
set_option maxRecDepth 100000 in
theorem cTe_reckon (l : Launch) (D : va_G) (κ : Nat → ClassId) (qt : Nat → Nat) (t_lines t_fault t_faultPlace t_kind t_start t_stop t_value : Int32) (qp : Nat → Nat) (p_bytes : Nat → Int32) (p_size zr z1 : Int32) (hf : FTe_reckon t_start t_stop p_bytes = some (zr, z1)) : mI_ l yX5_reckon (Cond.code yX5_reckon cX5_reckon 2 (some .boolean) :: uw) ({ frames := 0, cells := 0, slots := 0, locals := 0 } : Room) D (tys0 κ) [.ref (qt 0)] (List.flatten [pTe κ qt (qp 0) t_lines t_fault t_faultPlace t_kind t_start t_stop t_value, pTa κ qp p_bytes p_size]) nB_ zr (List.flatten [pTe κ qt (qp 0) t_lines t_fault t_faultPlace t_kind t_start t_stop z1, pTa κ qp p_bytes p_size]) := by
  unfold FTe_reckon at hf
  refine mI_of (by decide) (Nat.le_of_ble_eq_true rfl) ?_
  intro p e s m below meth c A ls H locs C0 hw hl
  obtain ⟨hx, hb, -, hml, hown, hts, -, -⟩ := id C0
  have hl : lv_has ls 2 [(0, .ref (qt 0))] := hl
  refine lv_aload_n hx hb dX5_reckon_0 rfl (lv_at hl 0 rfl) ?_
  refine lv_iconst (v := 0) hx hb dX5_reckon_1 (by decide) ?_
  refine r_put C0 hw 0 7 (v := .int (0 : Int32)) (ws' := List.flatten [pTe κ qt (qp 0) t_lines t_fault t_faultPlace t_kind t_start t_stop (0 : Int32), pTa κ qp p_bytes p_size]) rfl rfl inX5 tyX5_ok nmX5 (by decide) lk_X5_94 rfl rfl rfl rfl (Nat.le_of_ble_eq_true rfl) dX5_reckon_2 rfl (fun H locs hw => ?_)
  refine lv_aload_n hx hb dX5_reckon_5 rfl (lv_at hl 0 rfl) ?_
  refine r_get C0 hw 0 5 (v := .int t_start) rfl rfl inX5 (by decide) lk_X5_81 rfl dX5_reckon_6 ?_
  refine lv_istore_n (lv' := [(1, .int t_start), (0, .ref (qt 0))]) hx hb dX5_reckon_9 rfl hl (by decide) rfl (fun ls hl => ?_)
  exact wTe_reckon_L10 C0 qt t_lines t_fault t_faultPlace t_kind t_start t_stop qp p_bytes p_size zr z1 1000 t_start (0 : Int32) H locs ls hw (lv_sub hl [1, 0] rfl)  hf
def FTe_scan_L8 (p_bytes : Nat → Int32) (p_size : Int32) (k_ : Int32 → Option (Int32 × Int32 × Int32 × Int32 × Int32 × Int32 × Int32)) : Nat → Int32 → Option (Int32 × Int32 × Int32 × Int32 × Int32 × Int32 × Int32)
  | 0, _ => none
  | n + 1, t_start =>
      lt_ (fun (_ : Unit) =>
        k_ t_start : Unit → Option (Int32 × Int32 × Int32 × Int32 × Int32 × Int32 × Int32)) fun j1 =>
      if p_size ≤ t_start then
        j1 ()
      else
        gd_ t_start 320 <|
        if (p_bytes t_start.toNatClampNeg) = (32 : Int32) then
          lt_ (t_start + (1 : Int32)) fun v6 =>
          FTe_scan_L8 p_bytes p_size k_ n v6
        else
          j1 ()
def FTe_scan (t_fault t_faultPlace t_kind t_stop t_value : Int32) (p_bytes : Nat → Int32) (p_size : Int32) : Option (Int32 × Int32 × Int32 × Int32 × Int32 × Int32 × Int32) :=
  FTe_scan_L8 p_bytes p_size (fun (w7 : Int32) =>
      if w7 < p_size then
        gd_ w7 320 <|
        lt_ (p_bytes w7.toNatClampNeg) fun v10 =>
        lt_ (fun (_ : Unit) =>
          lt_ (fun (_ : Unit) =>
            lt_ (fun (_ : Unit) =>
              if v10 = (45 : Int32) then
                lt_ (w7 + (1 : Int32)) fun v13 =>
                some ((1 : Int32), t_fault, t_faultPlace, (3 : Int32), w7, v13, t_value)
              else
                lt_ (w7 + (1 : Int32)) fun v12 =>
                some ((1 : Int32), t_fault, t_faultPlace, (4 : Int32), w7, v12, t_value) : Unit → Option (Int32 × Int32 × Int32 × Int32 × Int32 × Int32 × Int32)) fun j14 =>
            if v10 = (45 : Int32) then
              j14 ()
            else
              if v10 = (59 : Int32) then
                j14 ()
              else
                b3_ (FTe_fail (1 : Int32) w7) fun r18 w19 w20 =>
                some (r18, w19, w20, t_kind, w7, w7, t_value) : Unit → Option (Int32 × Int32 × Int32 × Int32 × Int32 × Int32 × Int32)) fun j23 =>
          if v10 < (48 : Int32) then
            j23 ()
          else
            if (57 : Int32) < v10 then
              j23 ()
            else
              b1_ (FTe_behindRun w7 p_bytes p_size (48 : Int32) (57 : Int32)) fun r27 =>
              if (4 : Int32) < (r27 - w7) then
                b3_ (FTe_fail (1 : Int32) w7) fun r31 w32 w33 =>
                some (r31, w32, w33, (2 : Int32), w7, r27, t_value)
              else
                b2_ (FTe_reckon w7 r27 p_bytes) fun r36 w37 =>
                some (r36, t_fault, t_faultPlace, (2 : Int32), w7, r27, w37) : Unit → Option (Int32 × Int32 × Int32 × Int32 × Int32 × Int32 × Int32)) fun j40 =>
        if v10 < (97 : Int32) then
          j40 ()
        else
          if (122 : Int32) < v10 then
            j40 ()
          else
            b1_ (FTe_behindRun w7 p_bytes p_size (97 : Int32) (122 : Int32)) fun r44 =>
            some ((1 : Int32), t_fault, t_faultPlace, (1 : Int32), w7, r44, t_value)
      else
        some ((1 : Int32), t_fault, t_faultPlace, (0 : Int32), w7, w7, t_value)) 1000 t_stop
set_option maxHeartbeats 4000000 in
set_option maxRecDepth 100000 in
theorem wTe_scan_L8 {p : Program} {l : Launch} {e : Env} {s : State} {m : MethodId} {args : Array Value} {below : List Frame} {meth : Method} {c : Code} {A : Nat → Prop} {D : va_G} {κ : Nat → ClassId} (C0 : cx_ p s m meth c args cX5_scan RX5 (some .boolean) 2 A) (qt : Nat → Nat) (t_lines t_fault t_faultPlace t_kind t_stop t_value : Int32) (qp : Nat → Nat) (p_bytes : Nat → Int32) (p_size : Int32) (zr z1 z2 z3 z4 z5 z6 : Int32) (k_ : Int32 → Option (Int32 × Int32 × Int32 × Int32 × Int32 × Int32 × Int32)) (hk_ : ∀ (t_start : Int32) (H : Heap) (locs : List Loc) (ls : Array Slot), wd_ D (tys0 κ) A s (List.flatten [pTe κ qt (qp 0) t_lines t_fault t_faultPlace t_kind t_start t_stop t_value, pTa κ qp p_bytes p_size]) H locs → lv_has ls 2 [(0, .ref (qt 0))] → k_ t_start = some (zr, z1, z2, z3, z4, z5, z6) → W p l e ({ frames := 1, cells := 0, slots := 0, locals := 23 } : Room) s m args below meth c H locs 0 0 (qI_ D (tys0 κ) A nB_ zr (List.flatten [pTe κ qt (qp 0) t_lines z1 z2 z3 z4 z5 z6, pTa κ qp p_bytes p_size]) below args s) (F0 m 52 ls [])) : ∀ (n : Nat) (t_start : Int32) (H : Heap) (locs : List Loc) (ls : Array Slot), wd_ D (tys0 κ) A s (List.flatten [pTe κ qt (qp 0) t_lines t_fault t_faultPlace t_kind t_start t_stop t_value, pTa κ qp p_bytes p_size]) H locs → lv_has ls 2 [(0, .ref (qt 0))] → FTe_scan_L8 p_bytes p_size k_ n t_start = some (zr, z1, z2, z3, z4, z5, z6) → W p l e ({ frames := 1, cells := 0, slots := 0, locals := 23 } : Room) s m args below meth c H locs 0 0 (qI_ D (tys0 κ) A nB_ zr (List.flatten [pTe κ qt (qp 0) t_lines z1 z2 z3 z4 z5 z6, pTa κ qp p_bytes p_size]) below args s) (F0 m 8 ls []) := by
  obtain ⟨hx, hb, -, hml, hown, hts, -, -⟩ := id C0
  intro n
  induction n with
  | zero =>
    intro t_start H locs ls hw hl  hf
    cases hf
  | succ n ih =>
    intro t_start H locs ls hw hl  hf
    rw [FTe_scan_L8.eq_2] at hf
    refine lv_aload_n hx hb dX5_scan_8 rfl (lv_at hl 0 rfl) ?_
    refine r_get C0 hw 0 5 (v := .int t_start) rfl rfl inX5 (by decide) lk_X5_81 rfl dX5_scan_9 ?_
    refine lv_aload_n hx hb dX5_scan_12 rfl (lv_at hl 0 rfl) ?_
    refine r_get C0 hw 0 0 (v := .ref (qp 0)) rfl rfl inX5 (by decide) lk_X5_12 rfl dX5_scan_13 ?_
    refine r_get C0 hw 1 1 (v := .int p_size) rfl rfl inX4 (by decide) lk_X5_36 rfl dX5_scan_16 ?_
    obtain ⟨j1, ej1, hf⟩ := lt_e hf
    have hj2 : ∀  (H : Heap) (locs : List Loc) (ls : Array Slot), wd_ D (tys0 κ) A s (List.flatten [pTe κ qt (qp 0) t_lines t_fault t_faultPlace t_kind t_start t_stop t_value, pTa κ qp p_bytes p_size]) H locs → lv_has ls 2 [(0, .ref (qt 0))] → j1 () = some (zr, z1, z2, z3, z4, z5, z6) → W p l e ({ frames := 1, cells := 0, slots := 0, locals := 23 } : Room) s m args below meth c H locs 0 0 (qI_ D (tys0 κ) A nB_ zr (List.flatten [pTe κ qt (qp 0) t_lines z1 z2 z3 z4 z5 z6, pTa κ qp p_bytes p_size]) below args s) (F0 m 52 ls []) := by
      intro  H locs ls hw hl  hf
      have hf : (k_ t_start) = some (zr, z1, z2, z3, z4, z5, z6) := by rw [ej1] at hf; exact hf
      exact hk_ t_start H locs ls hw (lv_sub hl [0] rfl)  hf
    refine lv_icmp_ge (tgt := 52) hx hb dX5_scan_19 (by decide) (fun hc3 => ?_) (fun hc3 => ?_)
    · have hf := if_t hc3 hf
      exact hj2  H locs ls hw (lv_sub hl [0] rfl)  hf
    · have hf := if_f hc3 hf
      refine lv_aload_n hx hb dX5_scan_22 rfl (lv_at hl 0 rfl) ?_
      refine r_get C0 hw 0 0 (v := .ref (qp 0)) rfl rfl inX5 (by decide) lk_X5_12 rfl dX5_scan_23 ?_
      refine r_get C0 hw 1 0 (v := .ref (qp 1)) rfl rfl inX4 (by decide) lk_X5_121 rfl dX5_scan_26 ?_
      refine lv_aload_n hx hb dX5_scan_29 rfl (lv_at hl 0 rfl) ?_
      refine r_get C0 hw 0 5 (v := .int t_start) rfl rfl inX5 (by decide) lk_X5_81 rfl dX5_scan_30 ?_
      obtain ⟨hi4, hf⟩ := gd_s hf
      refine r_bald C0 hw 2 2 rfl rfl hi4 dX5_scan_33 ?_
      refine lv_bipush (v := 32) hx hb dX5_scan_34 (by decide) ?_
      refine lv_icmp_ne (tgt := 52) hx hb dX5_scan_36 (by decide) (fun hc5 => ?_) (fun hc5 => ?_)
      · have hf := if_f hc5 hf
        exact hj2  H locs ls hw (lv_sub hl [0] rfl)  hf
      · have hf := if_t hc5 hf
        refine lv_aload_n hx hb dX5_scan_39 rfl (lv_at hl 0 rfl) ?_
        refine lv_dup hx hb dX5_scan_40 rfl ?_
        refine r_get C0 hw 0 5 (v := .int t_start) rfl rfl inX5 (by decide) lk_X5_81 rfl dX5_scan_41 ?_
        refine lv_iconst (v := 1) hx hb dX5_scan_44 (by decide) ?_
        refine lv_iadd hx hb dX5_scan_45 ?_
        refine lv_topi (fun v6 ev6 => ?_)
        have hf := lt_s_ hf v6 ev6
        refine r_put C0 hw 0 5 (v := .int v6) (ws' := List.flatten [pTe κ qt (qp 0) t_lines t_fault t_faultPlace t_kind v6 t_stop t_value, pTa κ qp p_bytes p_size]) rfl rfl inX5 tyX5_ok nmX5 (by decide) lk_X5_81 rfl rfl rfl rfl (Nat.le_of_ble_eq_true rfl) dX5_scan_46 rfl (fun H locs hw => ?_)
        refine lv_goto (tgt := 8) hx hb dX5_scan_49 (by decide) ?_
        exact ih v6 H locs ls hw (lv_sub hl [0] rfl)  hf
set_option maxHeartbeats 4000000 in
set_option maxRecDepth 100000 in
theorem cTe_scan (l : Launch) (D : va_G) (κ : Nat → ClassId) (qt : Nat → Nat) (t_lines t_fault t_faultPlace t_kind t_start t_stop t_value : Int32) (qp : Nat → Nat) (p_bytes : Nat → Int32) (p_size zr z1 z2 z3 z4 z5 z6 : Int32) (hf : FTe_scan t_fault t_faultPlace t_kind t_stop t_value p_bytes p_size = some (zr, z1, z2, z3, z4, z5, z6)) : mI_ l yX5_scan (Cond.code yX5_scan cX5_scan 2 (some .boolean) :: uw) ({ frames := 1, cells := 0, slots := 0, locals := 23 } : Room) D (tys0 κ) [.ref (qt 0)] (List.flatten [pTe κ qt (qp 0) t_lines t_fault t_faultPlace t_kind t_start t_stop t_value, pTa κ qp p_bytes p_size]) nB_ zr (List.flatten [pTe κ qt (qp 0) t_lines z1 z2 z3 z4 z5 z6, pTa κ qp p_bytes p_size]) := by
  unfold FTe_scan at hf
  refine mI_of (by decide) (Nat.le_of_ble_eq_true rfl) ?_
  intro p e s m below meth c A ls H locs C0 hw hl
  obtain ⟨hx, hb, -, hml, hown, hts, -, -⟩ := id C0
  have hl : lv_has ls 2 [(0, .ref (qt 0))] := hl
  refine lv_aload_n hx hb dX5_scan_0 rfl (lv_at hl 0 rfl) ?_
  refine lv_aload_n hx hb dX5_scan_1 rfl (lv_at hl 0 rfl) ?_
  refine r_get C0 hw 0 6 (v := .int t_stop) rfl rfl inX5 (by decide) lk_X5_33 rfl dX5_scan_2 ?_
  refine r_put C0 hw 0 5 (v := .int t_stop) (ws' := List.flatten [pTe κ qt (qp 0) t_lines t_fault t_faultPlace t_kind t_stop t_stop t_value, pTa κ qp p_bytes p_size]) rfl rfl inX5 tyX5_ok nmX5 (by decide) lk_X5_81 rfl rfl rfl rfl (Nat.le_of_ble_eq_true rfl) dX5_scan_5 rfl (fun H locs hw => ?_)
  refine wTe_scan_L8 C0 qt t_lines t_fault t_faultPlace t_kind t_stop t_value qp p_bytes p_size zr z1 z2 z3 z4 z5 z6 _ (fun w7 H locs ls hw hl  hf => ?_) 1000 t_stop H locs ls hw (lv_sub hl [0] rfl)  hf
  refine lv_aload_n hx hb dX5_scan_52 rfl (lv_at hl 0 rfl) ?_
  refine lv_aload_n hx hb dX5_scan_53 rfl (lv_at hl 0 rfl) ?_
  refine r_get C0 hw 0 5 (v := .int w7) rfl rfl inX5 (by decide) lk_X5_81 rfl dX5_scan_54 ?_
  refine r_put C0 hw 0 6 (v := .int w7) (ws' := List.flatten [pTe κ qt (qp 0) t_lines t_fault t_faultPlace t_kind w7 w7 t_value, pTa κ qp p_bytes p_size]) rfl rfl inX5 tyX5_ok nmX5 (by decide) lk_X5_33 rfl rfl rfl rfl (Nat.le_of_ble_eq_true rfl) dX5_scan_57 rfl (fun H locs hw => ?_)
  refine lv_aload_n hx hb dX5_scan_60 rfl (lv_at hl 0 rfl) ?_
  refine r_get C0 hw 0 5 (v := .int w7) rfl rfl inX5 (by decide) lk_X5_81 rfl dX5_scan_61 ?_
  refine lv_aload_n hx hb dX5_scan_64 rfl (lv_at hl 0 rfl) ?_
  refine r_get C0 hw 0 0 (v := .ref (qp 0)) rfl rfl inX5 (by decide) lk_X5_12 rfl dX5_scan_65 ?_
  refine r_get C0 hw 1 1 (v := .int p_size) rfl rfl inX4 (by decide) lk_X5_36 rfl dX5_scan_68 ?_
  refine lv_icmp_lt (tgt := 81) hx hb dX5_scan_71 (by decide) (fun hc8 => ?_) (fun hc8 => ?_)
  · have hf := if_t hc8 hf
    refine lv_aload_n hx hb dX5_scan_81 rfl (lv_at hl 0 rfl) ?_
    refine r_get C0 hw 0 0 (v := .ref (qp 0)) rfl rfl inX5 (by decide) lk_X5_12 rfl dX5_scan_82 ?_
    refine r_get C0 hw 1 0 (v := .ref (qp 1)) rfl rfl inX4 (by decide) lk_X5_121 rfl dX5_scan_85 ?_
    refine lv_aload_n hx hb dX5_scan_88 rfl (lv_at hl 0 rfl) ?_
    refine r_get C0 hw 0 5 (v := .int w7) rfl rfl inX5 (by decide) lk_X5_81 rfl dX5_scan_89 ?_
    obtain ⟨hi9, hf⟩ := gd_s hf
    refine r_bald C0 hw 2 2 rfl rfl hi9 dX5_scan_92 ?_
    refine lv_topi (fun v10 ev10 => ?_)
    have hf := lt_s_ hf v10 ev10
    refine lv_istore_n (lv' := [(1, .int v10), (0, .ref (qt 0))]) hx hb dX5_scan_93 rfl hl (by decide) rfl (fun ls hl => ?_)
    refine lv_iload_n hx hb dX5_scan_94 rfl (lv_at hl 0 rfl) ?_
    refine lv_bipush (v := 97) hx hb dX5_scan_95 (by decide) ?_
    obtain ⟨j40, ej40, hf⟩ := lt_e hf
    have hj41 : ∀  (H : Heap) (locs : List Loc) (ls : Array Slot), wd_ D (tys0 κ) A s (List.flatten [pTe κ qt (qp 0) t_lines t_fault t_faultPlace t_kind w7 w7 t_value, pTa κ qp p_bytes p_size]) H locs → lv_has ls 2 [(1, .int v10), (0, .ref (qt 0))] → j40 () = some (zr, z1, z2, z3, z4, z5, z6) → W p l e ({ frames := 1, cells := 0, slots := 0, locals := 23 } : Room) s m ([.ref (qt 0)] : List Value).toArray below meth c H locs 0 0 (qI_ D (tys0 κ) A nB_ zr (List.flatten [pTe κ qt (qp 0) t_lines z1 z2 z3 z4 z5 z6, pTa κ qp p_bytes p_size]) below ([.ref (qt 0)] : List Value).toArray s) (F0 m 125 ls []) := by
      intro  H locs ls hw hl  hf
      have hf : (lt_ (fun (_ : Unit) => lt_ (fun (_ : Unit) => if v10 = (45 : Int32) then lt_ (w7 + (1 : Int32)) fun v13 => some ((1 : Int32), t_fault, t_faultPlace, (3 : Int32), w7, v13, t_value) else lt_ (w7 + (1 : Int32)) fun v12 => some ((1 : Int32), t_fault, t_faultPlace, (4 : Int32), w7, v12, t_value) : Unit → Option (Int32 × Int32 × Int32 × Int32 × Int32 × Int32 × Int32)) fun j14 => if v10 = (45 : Int32) then j14 () else if v10 = (59 : Int32) then j14 () else b3_ (FTe_fail (1 : Int32) w7) fun r18 w19 w20 => some (r18, w19, w20, t_kind, w7, w7, t_value) : Unit → Option (Int32 × Int32 × Int32 × Int32 × Int32 × Int32 × Int32)) fun j23 => if v10 < (48 : Int32) then j23 () else if (57 : Int32) < v10 then j23 () else b1_ (FTe_behindRun w7 p_bytes p_size (48 : Int32) (57 : Int32)) fun r27 => if (4 : Int32) < (r27 - w7) then b3_ (FTe_fail (1 : Int32) w7) fun r31 w32 w33 => some (r31, w32, w33, (2 : Int32), w7, r27, t_value) else b2_ (FTe_reckon w7 r27 p_bytes) fun r36 w37 => some (r36, t_fault, t_faultPlace, (2 : Int32), w7, r27, w37)) = some (zr, z1, z2, z3, z4, z5, z6) := by rw [ej40] at hf; exact hf
      refine lv_iload_n hx hb dX5_scan_125 rfl (lv_at hl 0 rfl) ?_
      refine lv_bipush (v := 48) hx hb dX5_scan_126 (by decide) ?_
      obtain ⟨j23, ej23, hf⟩ := lt_e hf
      have hj24 : ∀  (H : Heap) (locs : List Loc) (ls : Array Slot), wd_ D (tys0 κ) A s (List.flatten [pTe κ qt (qp 0) t_lines t_fault t_faultPlace t_kind w7 w7 t_value, pTa κ qp p_bytes p_size]) H locs → lv_has ls 2 [(1, .int v10), (0, .ref (qt 0))] → j23 () = some (zr, z1, z2, z3, z4, z5, z6) → W p l e ({ frames := 1, cells := 0, slots := 0, locals := 23 } : Room) s m ([.ref (qt 0)] : List Value).toArray below meth c H locs 0 0 (qI_ D (tys0 κ) A nB_ zr (List.flatten [pTe κ qt (qp 0) t_lines z1 z2 z3 z4 z5 z6, pTa κ qp p_bytes p_size]) below ([.ref (qt 0)] : List Value).toArray s) (F0 m 184 ls []) := by
        intro  H locs ls hw hl  hf
        have hf : (lt_ (fun (_ : Unit) => if v10 = (45 : Int32) then lt_ (w7 + (1 : Int32)) fun v13 => some ((1 : Int32), t_fault, t_faultPlace, (3 : Int32), w7, v13, t_value) else lt_ (w7 + (1 : Int32)) fun v12 => some ((1 : Int32), t_fault, t_faultPlace, (4 : Int32), w7, v12, t_value) : Unit → Option (Int32 × Int32 × Int32 × Int32 × Int32 × Int32 × Int32)) fun j14 => if v10 = (45 : Int32) then j14 () else if v10 = (59 : Int32) then j14 () else b3_ (FTe_fail (1 : Int32) w7) fun r18 w19 w20 => some (r18, w19, w20, t_kind, w7, w7, t_value)) = some (zr, z1, z2, z3, z4, z5, z6) := by rw [ej23] at hf; exact hf
        refine lv_iload_n hx hb dX5_scan_184 rfl (lv_at hl 0 rfl) ?_
        refine lv_bipush (v := 45) hx hb dX5_scan_185 (by decide) ?_
        obtain ⟨j14, ej14, hf⟩ := lt_e hf
        have hj15 : ∀  (H : Heap) (locs : List Loc) (ls : Array Slot), wd_ D (tys0 κ) A s (List.flatten [pTe κ qt (qp 0) t_lines t_fault t_faultPlace t_kind w7 w7 t_value, pTa κ qp p_bytes p_size]) H locs → lv_has ls 2 [(1, .int v10), (0, .ref (qt 0))] → j14 () = some (zr, z1, z2, z3, z4, z5, z6) → W p l e ({ frames := 1, cells := 0, slots := 0, locals := 23 } : Room) s m ([.ref (qt 0)] : List Value).toArray below meth c H locs 0 0 (qI_ D (tys0 κ) A nB_ zr (List.flatten [pTe κ qt (qp 0) t_lines z1 z2 z3 z4 z5 z6, pTa κ qp p_bytes p_size]) below ([.ref (qt 0)] : List Value).toArray s) (F0 m 206 ls []) := by
          intro  H locs ls hw hl  hf
          have hf : (if v10 = (45 : Int32) then lt_ (w7 + (1 : Int32)) fun v13 => some ((1 : Int32), t_fault, t_faultPlace, (3 : Int32), w7, v13, t_value) else lt_ (w7 + (1 : Int32)) fun v12 => some ((1 : Int32), t_fault, t_faultPlace, (4 : Int32), w7, v12, t_value)) = some (zr, z1, z2, z3, z4, z5, z6) := by rw [ej14] at hf; exact hf
          refine lv_aload_n hx hb dX5_scan_206 rfl (lv_at hl 1 rfl) ?_
          refine lv_iload_n hx hb dX5_scan_207 rfl (lv_at hl 0 rfl) ?_
          refine lv_bipush (v := 45) hx hb dX5_scan_208 (by decide) ?_
          refine lv_icmp_ne (tgt := 217) hx hb dX5_scan_210 (by decide) (fun hc11 => ?_) (fun hc11 => ?_)
          · have hf := if_f hc11 hf
            refine lv_iconst (v := 4) hx hb dX5_scan_217 (by decide) ?_
            refine r_put C0 hw 0 4 (v := .int (4 : Int32)) (ws' := List.flatten [pTe κ qt (qp 0) t_lines t_fault t_faultPlace (4 : Int32) w7 w7 t_value, pTa κ qp p_bytes p_size]) rfl rfl inX5 tyX5_ok nmX5 (by decide) lk_X5_43 rfl rfl rfl rfl (Nat.le_of_ble_eq_true rfl) dX5_scan_218 rfl (fun H locs hw => ?_)
            refine lv_aload_n hx hb dX5_scan_221 rfl (lv_at hl 1 rfl) ?_
            refine lv_aload_n hx hb dX5_scan_222 rfl (lv_at hl 1 rfl) ?_
            refine r_get C0 hw 0 5 (v := .int w7) rfl rfl inX5 (by decide) lk_X5_81 rfl dX5_scan_223 ?_
            refine lv_iconst (v := 1) hx hb dX5_scan_226 (by decide) ?_
            refine lv_iadd hx hb dX5_scan_227 ?_
            refine lv_topi (fun v12 ev12 => ?_)
            have hf := lt_s_ hf v12 ev12
            refine r_put C0 hw 0 6 (v := .int v12) (ws' := List.flatten [pTe κ qt (qp 0) t_lines t_fault t_faultPlace (4 : Int32) w7 v12 t_value, pTa κ qp p_bytes p_size]) rfl rfl inX5 tyX5_ok nmX5 (by decide) lk_X5_33 rfl rfl rfl rfl (Nat.le_of_ble_eq_true rfl) dX5_scan_228 rfl (fun H locs hw => ?_)
            refine lv_iconst (v := 1) hx hb dX5_scan_231 (by decide) ?_
            obtain ⟨rfl, rfl, rfl, rfl, rfl, rfl, rfl⟩ := e7_ hf
            exact r_zret C0 hw (Or.inr rfl) dX5_scan_232
          · have hf := if_t hc11 hf
            refine lv_iconst (v := 3) hx hb dX5_scan_213 (by decide) ?_
            refine lv_goto (tgt := 218) hx hb dX5_scan_214 (by decide) ?_
            refine r_put C0 hw 0 4 (v := .int (3 : Int32)) (ws' := List.flatten [pTe κ qt (qp 0) t_lines t_fault t_faultPlace (3 : Int32) w7 w7 t_value, pTa κ qp p_bytes p_size]) rfl rfl inX5 tyX5_ok nmX5 (by decide) lk_X5_43 rfl rfl rfl rfl (Nat.le_of_ble_eq_true rfl) dX5_scan_218 rfl (fun H locs hw => ?_)
            refine lv_aload_n hx hb dX5_scan_221 rfl (lv_at hl 1 rfl) ?_
            refine lv_aload_n hx hb dX5_scan_222 rfl (lv_at hl 1 rfl) ?_
            refine r_get C0 hw 0 5 (v := .int w7) rfl rfl inX5 (by decide) lk_X5_81 rfl dX5_scan_223 ?_
            refine lv_iconst (v := 1) hx hb dX5_scan_226 (by decide) ?_
            refine lv_iadd hx hb dX5_scan_227 ?_
            refine lv_topi (fun v13 ev13 => ?_)
            have hf := lt_s_ hf v13 ev13
            refine r_put C0 hw 0 6 (v := .int v13) (ws' := List.flatten [pTe κ qt (qp 0) t_lines t_fault t_faultPlace (3 : Int32) w7 v13 t_value, pTa κ qp p_bytes p_size]) rfl rfl inX5 tyX5_ok nmX5 (by decide) lk_X5_33 rfl rfl rfl rfl (Nat.le_of_ble_eq_true rfl) dX5_scan_228 rfl (fun H locs hw => ?_)
            refine lv_iconst (v := 1) hx hb dX5_scan_231 (by decide) ?_
            obtain ⟨rfl, rfl, rfl, rfl, rfl, rfl, rfl⟩ := e7_ hf
            exact r_zret C0 hw (Or.inr rfl) dX5_scan_232
        refine lv_icmp_eq (tgt := 206) hx hb dX5_scan_187 (by decide) (fun hc16 => ?_) (fun hc16 => ?_)
        · have hf := if_t hc16 hf
          exact hj15  H locs ls hw (lv_sub hl [0, 1] rfl)  hf
        · have hf := if_f hc16 hf
          refine lv_iload_n hx hb dX5_scan_190 rfl (lv_at hl 0 rfl) ?_
          refine lv_bipush (v := 59) hx hb dX5_scan_191 (by decide) ?_
          refine lv_icmp_eq (tgt := 206) hx hb dX5_scan_193 (by decide) (fun hc17 => ?_) (fun hc17 => ?_)
          · have hf := if_t hc17 hf
            exact hj15  H locs ls hw (lv_sub hl [0, 1] rfl)  hf
          · have hf := if_f hc17 hf
            refine lv_aload_n hx hb dX5_scan_196 rfl (lv_at hl 1 rfl) ?_
            refine lv_iconst (v := 1) hx hb dX5_scan_197 (by decide) ?_
            refine lv_aload_n hx hb dX5_scan_198 rfl (lv_at hl 1 rfl) ?_
            refine r_get C0 hw 0 5 (v := .int w7) rfl rfl inX5 (by decide) lk_X5_81 rfl dX5_scan_199 ?_
            obtain ⟨r18, w19, w20, hk21, hf⟩ := b3_s hf
            refine rv_i (vq := (RX5, TX5, 8)) (As := [.int (1 : Int32), .int w7]) (rest := []) (bs' := [pTe κ qt (qp 0) t_lines w19 w20 t_kind w7 w7 t_value, pTa κ qp p_bytes p_size]) C0 hw (cTe_fail l D κ qt t_lines t_fault t_faultPlace t_kind w7 w7 t_value qp p_bytes p_size (1 : Int32) w7 r18 w19 w20 hk21) cv_RX5_53 ⟨rfl, rfl, Nat.le_of_ble_eq_true rfl, Nat.le_of_ble_eq_true rfl⟩ ⟨Nat.zero_le _, Nat.zero_le _⟩ [0, 1] [] [0, 1] rfl rfl rfl rfl (by decide) rfl rfl rfl rfl rfl hl.1 (by simp only [List.map, List.sum_cons, List.sum_nil, Value.category]; decide) dX5_scan_202 (fun H locs hw hn22 => ?_)
            obtain ⟨rfl, rfl, rfl, rfl, rfl, rfl, rfl⟩ := e7_ hf
            exact r_zret C0 hw hn22 dX5_scan_205
      refine lv_icmp_lt (tgt := 184) hx hb dX5_scan_128 (by decide) (fun hc25 => ?_) (fun hc25 => ?_)
      · have hf := if_t hc25 hf
        exact hj24  H locs ls hw (lv_sub hl [0, 1] rfl)  hf
      · have hf := if_f hc25 hf
        refine lv_iload_n hx hb dX5_scan_131 rfl (lv_at hl 0 rfl) ?_
        refine lv_bipush (v := 57) hx hb dX5_scan_132 (by decide) ?_
        refine lv_icmp_gt (tgt := 184) hx hb dX5_scan_134 (by decide) (fun hc26 => ?_) (fun hc26 => ?_)
        · have hf := if_t hc26 hf
          exact hj24  H locs ls hw (lv_sub hl [0, 1] rfl)  hf
        · have hf := if_f hc26 hf
          refine lv_aload_n hx hb dX5_scan_137 rfl (lv_at hl 1 rfl) ?_
          refine lv_iconst (v := 2) hx hb dX5_scan_138 (by decide) ?_
          refine r_put C0 hw 0 4 (v := .int (2 : Int32)) (ws' := List.flatten [pTe κ qt (qp 0) t_lines t_fault t_faultPlace (2 : Int32) w7 w7 t_value, pTa κ qp p_bytes p_size]) rfl rfl inX5 tyX5_ok nmX5 (by decide) lk_X5_43 rfl rfl rfl rfl (Nat.le_of_ble_eq_true rfl) dX5_scan_139 rfl (fun H locs hw => ?_)
          refine lv_aload_n hx hb dX5_scan_142 rfl (lv_at hl 1 rfl) ?_
          refine lv_aload_n hx hb dX5_scan_143 rfl (lv_at hl 1 rfl) ?_
          refine lv_bipush (v := 48) hx hb dX5_scan_144 (by decide) ?_
          refine lv_bipush (v := 57) hx hb dX5_scan_146 (by decide) ?_
          obtain ⟨r27, hk28, hf⟩ := b1_s hf
          refine rv_i (vq := (RX5, TX5, 8)) (As := [.int (48 : Int32), .int (57 : Int32)]) (rest := [.ref (qt 0)]) (bs' := [pTe κ qt (qp 0) t_lines t_fault t_faultPlace (2 : Int32) w7 w7 t_value, pTa κ qp p_bytes p_size]) C0 hw (cTe_behindRun l D κ qt t_lines t_fault t_faultPlace (2 : Int32) w7 w7 t_value qp p_bytes p_size (48 : Int32) (57 : Int32) r27 hk28) cv_RX5_125 ⟨rfl, rfl, Nat.le_of_ble_eq_true rfl, Nat.le_of_ble_eq_true rfl⟩ ⟨Nat.zero_le _, Nat.zero_le _⟩ [0, 1] [] [0, 1] rfl rfl rfl rfl (by decide) rfl rfl rfl rfl rfl hl.1 (by simp only [List.map, List.sum_cons, List.sum_nil, Value.category]; decide) dX5_scan_148 (fun H locs hw hn29 => ?_)
          refine r_put C0 hw 0 6 (v := .int r27) (ws' := List.flatten [pTe κ qt (qp 0) t_lines t_fault t_faultPlace (2 : Int32) w7 r27 t_value, pTa κ qp p_bytes p_size]) rfl rfl inX5 tyX5_ok nmX5 (by decide) lk_X5_33 rfl rfl rfl rfl (Nat.le_of_ble_eq_true rfl) dX5_scan_151 rfl (fun H locs hw => ?_)
          refine lv_aload_n hx hb dX5_scan_154 rfl (lv_at hl 1 rfl) ?_
          refine r_get C0 hw 0 6 (v := .int r27) rfl rfl inX5 (by decide) lk_X5_33 rfl dX5_scan_155 ?_
          refine lv_aload_n hx hb dX5_scan_158 rfl (lv_at hl 1 rfl) ?_
          refine r_get C0 hw 0 5 (v := .int w7) rfl rfl inX5 (by decide) lk_X5_81 rfl dX5_scan_159 ?_
          refine lv_isub hx hb dX5_scan_162 ?_
          refine lv_iconst (v := 4) hx hb dX5_scan_163 (by decide) ?_
          refine lv_icmp_gt (tgt := 174) hx hb dX5_scan_164 (by decide) (fun hc30 => ?_) (fun hc30 => ?_)
          · have hf := if_t hc30 hf
            refine lv_aload_n hx hb dX5_scan_174 rfl (lv_at hl 1 rfl) ?_
            refine lv_iconst (v := 1) hx hb dX5_scan_175 (by decide) ?_
            refine lv_aload_n hx hb dX5_scan_176 rfl (lv_at hl 1 rfl) ?_
            refine r_get C0 hw 0 5 (v := .int w7) rfl rfl inX5 (by decide) lk_X5_81 rfl dX5_scan_177 ?_
            obtain ⟨r31, w32, w33, hk34, hf⟩ := b3_s hf
            refine rv_i (vq := (RX5, TX5, 8)) (As := [.int (1 : Int32), .int w7]) (rest := []) (bs' := [pTe κ qt (qp 0) t_lines w32 w33 (2 : Int32) w7 r27 t_value, pTa κ qp p_bytes p_size]) C0 hw (cTe_fail l D κ qt t_lines t_fault t_faultPlace (2 : Int32) w7 r27 t_value qp p_bytes p_size (1 : Int32) w7 r31 w32 w33 hk34) cv_RX5_53 ⟨rfl, rfl, Nat.le_of_ble_eq_true rfl, Nat.le_of_ble_eq_true rfl⟩ ⟨Nat.zero_le _, Nat.zero_le _⟩ [0, 1] [] [0, 1] rfl rfl rfl rfl (by decide) rfl rfl rfl rfl rfl hl.1 (by simp only [List.map, List.sum_cons, List.sum_nil, Value.category]; decide) dX5_scan_180 (fun H locs hw hn35 => ?_)
            obtain ⟨rfl, rfl, rfl, rfl, rfl, rfl, rfl⟩ := e7_ hf
            exact r_zret C0 hw hn35 dX5_scan_183
          · have hf := if_f hc30 hf
            refine lv_aload_n hx hb dX5_scan_167 rfl (lv_at hl 1 rfl) ?_
            obtain ⟨r36, w37, hk38, hf⟩ := b2_s hf
            refine rv_i (vq := (RX5, TX5, 8)) (As := []) (rest := []) (bs' := [pTe κ qt (qp 0) t_lines t_fault t_faultPlace (2 : Int32) w7 r27 w37, pTa κ qp p_bytes p_size]) C0 hw (cTe_reckon l D κ qt t_lines t_fault t_faultPlace (2 : Int32) w7 r27 t_value qp p_bytes p_size r36 w37 hk38) cv_RX5_129 ⟨rfl, rfl, Nat.le_of_ble_eq_true rfl, Nat.le_of_ble_eq_true rfl⟩ ⟨Nat.zero_le _, Nat.zero_le _⟩ [0, 1] [] [0, 1] rfl rfl rfl rfl (by decide) rfl rfl rfl rfl rfl hl.1 (by simp only [List.map, List.sum_cons, List.sum_nil, Value.category]; decide) dX5_scan_168 (fun H locs hw hn39 => ?_)
            refine lv_goto (tgt := 183) hx hb dX5_scan_171 (by decide) ?_
            obtain ⟨rfl, rfl, rfl, rfl, rfl, rfl, rfl⟩ := e7_ hf
            exact r_zret C0 hw hn39 dX5_scan_183
    refine lv_icmp_lt (tgt := 125) hx hb dX5_scan_97 (by decide) (fun hc42 => ?_) (fun hc42 => ?_)
    · have hf := if_t hc42 hf
      exact hj41  H locs ls hw (lv_sub hl [0, 1] rfl)  hf
    · have hf := if_f hc42 hf
      refine lv_iload_n hx hb dX5_scan_100 rfl (lv_at hl 0 rfl) ?_
      refine lv_bipush (v := 122) hx hb dX5_scan_101 (by decide) ?_
      refine lv_icmp_gt (tgt := 125) hx hb dX5_scan_103 (by decide) (fun hc43 => ?_) (fun hc43 => ?_)
      · have hf := if_t hc43 hf
        exact hj41  H locs ls hw (lv_sub hl [0, 1] rfl)  hf
      · have hf := if_f hc43 hf
        refine lv_aload_n hx hb dX5_scan_106 rfl (lv_at hl 1 rfl) ?_
        refine lv_iconst (v := 1) hx hb dX5_scan_107 (by decide) ?_
        refine r_put C0 hw 0 4 (v := .int (1 : Int32)) (ws' := List.flatten [pTe κ qt (qp 0) t_lines t_fault t_faultPlace (1 : Int32) w7 w7 t_value, pTa κ qp p_bytes p_size]) rfl rfl inX5 tyX5_ok nmX5 (by decide) lk_X5_43 rfl rfl rfl rfl (Nat.le_of_ble_eq_true rfl) dX5_scan_108 rfl (fun H locs hw => ?_)
        refine lv_aload_n hx hb dX5_scan_111 rfl (lv_at hl 1 rfl) ?_
        refine lv_aload_n hx hb dX5_scan_112 rfl (lv_at hl 1 rfl) ?_
        refine lv_bipush (v := 97) hx hb dX5_scan_113 (by decide) ?_
        refine lv_bipush (v := 122) hx hb dX5_scan_115 (by decide) ?_
        obtain ⟨r44, hk45, hf⟩ := b1_s hf
        refine rv_i (vq := (RX5, TX5, 8)) (As := [.int (97 : Int32), .int (122 : Int32)]) (rest := [.ref (qt 0)]) (bs' := [pTe κ qt (qp 0) t_lines t_fault t_faultPlace (1 : Int32) w7 w7 t_value, pTa κ qp p_bytes p_size]) C0 hw (cTe_behindRun l D κ qt t_lines t_fault t_faultPlace (1 : Int32) w7 w7 t_value qp p_bytes p_size (97 : Int32) (122 : Int32) r44 hk45) cv_RX5_125 ⟨rfl, rfl, Nat.le_of_ble_eq_true rfl, Nat.le_of_ble_eq_true rfl⟩ ⟨Nat.zero_le _, Nat.zero_le _⟩ [0, 1] [] [0, 1] rfl rfl rfl rfl (by decide) rfl rfl rfl rfl rfl hl.1 (by simp only [List.map, List.sum_cons, List.sum_nil, Value.category]; decide) dX5_scan_117 (fun H locs hw hn46 => ?_)
        refine r_put C0 hw 0 6 (v := .int r44) (ws' := List.flatten [pTe κ qt (qp 0) t_lines t_fault t_faultPlace (1 : Int32) w7 r44 t_value, pTa κ qp p_bytes p_size]) rfl rfl inX5 tyX5_ok nmX5 (by decide) lk_X5_33 rfl rfl rfl rfl (Nat.le_of_ble_eq_true rfl) dX5_scan_120 rfl (fun H locs hw => ?_)
        refine lv_iconst (v := 1) hx hb dX5_scan_123 (by decide) ?_
        obtain ⟨rfl, rfl, rfl, rfl, rfl, rfl, rfl⟩ := e7_ hf
        exact r_zret C0 hw (Or.inr rfl) dX5_scan_124
  · have hf := if_f hc8 hf
    refine lv_aload_n hx hb dX5_scan_74 rfl (lv_at hl 0 rfl) ?_
    refine lv_iconst (v := 0) hx hb dX5_scan_75 (by decide) ?_
    refine r_put C0 hw 0 4 (v := .int (0 : Int32)) (ws' := List.flatten [pTe κ qt (qp 0) t_lines t_fault t_faultPlace (0 : Int32) w7 w7 t_value, pTa κ qp p_bytes p_size]) rfl rfl inX5 tyX5_ok nmX5 (by decide) lk_X5_43 rfl rfl rfl rfl (Nat.le_of_ble_eq_true rfl) dX5_scan_76 rfl (fun H locs hw => ?_)
    refine lv_iconst (v := 1) hx hb dX5_scan_79 (by decide) ?_
    obtain ⟨rfl, rfl, rfl, rfl, rfl, rfl, rfl⟩ := e7_ hf
    exact r_zret C0 hw (Or.inr rfl) dX5_scan_80
def FTe_isNumber (t_fault t_faultPlace t_kind t_start t_value a1 a2 : Int32) : Option (Int32 × Int32 × Int32) :=
  if t_kind = (2 : Int32) then
    lt_ (fun (_ : Unit) =>
      b3_ (FTe_fail (3 : Int32) t_start) fun r2 w3 w4 =>
      if r2 = 0 then
        some ((0 : Int32), w3, w4)
      else
        some ((1 : Int32), w3, w4) : Unit → Option (Int32 × Int32 × Int32)) fun j8 =>
    if t_value < a1 then
      j8 ()
    else
      if t_value ≤ a2 then
        some ((1 : Int32), t_fault, t_faultPlace)
      else
        j8 ()
  else
    b3_ (FTe_fail (2 : Int32) t_start) fun r12 w13 w14 =>
    some (r12, w13, w14)
set_option maxHeartbeats 4000000 in
set_option maxRecDepth 100000 in
theorem cTe_isNumber (l : Launch) (D : va_G) (κ : Nat → ClassId) (qt : Nat → Nat) (t_lines t_fault t_faultPlace t_kind t_start t_stop t_value : Int32) (qp : Nat → Nat) (p_bytes : Nat → Int32) (p_size a1 a2 zr z1 z2 : Int32) (hf : FTe_isNumber t_fault t_faultPlace t_kind t_start t_value a1 a2 = some (zr, z1, z2)) : mI_ l yX5_isNumber (Cond.code yX5_isNumber cX5_isNumber 3 (some .boolean) :: uw) ({ frames := 1, cells := 0, slots := 0, locals := 22 } : Room) D (tys0 κ) [.ref (qt 0), .int a1, .int a2] (List.flatten [pTe κ qt (qp 0) t_lines t_fault t_faultPlace t_kind t_start t_stop t_value, pTa κ qp p_bytes p_size]) nB_ zr (List.flatten [pTe κ qt (qp 0) t_lines z1 z2 t_kind t_start t_stop t_value, pTa κ qp p_bytes p_size]) := by
  unfold FTe_isNumber at hf
  refine mI_of (by decide) (Nat.le_of_ble_eq_true rfl) ?_
  intro p e s m below meth c A ls H locs C0 hw hl
  obtain ⟨hx, hb, -, hml, hown, hts, -, -⟩ := id C0
  have hl : lv_has ls 3 [(0, .ref (qt 0)), (1, .int a1), (2, .int a2)] := hl
  refine lv_aload_n hx hb dX5_isNumber_0 rfl (lv_at hl 0 rfl) ?_
  refine r_get C0 hw 0 4 (v := .int t_kind) rfl rfl inX5 (by decide) lk_X5_43 rfl dX5_isNumber_1 ?_
  refine lv_iconst (v := 2) hx hb dX5_isNumber_4 (by decide) ?_
  refine lv_icmp_eq (tgt := 18) hx hb dX5_isNumber_5 (by decide) (fun hc1 => ?_) (fun hc1 => ?_)
  · have hf := if_t hc1 hf
    refine lv_aload_n hx hb dX5_isNumber_18 rfl (lv_at hl 0 rfl) ?_
    refine r_get C0 hw 0 7 (v := .int t_value) rfl rfl inX5 (by decide) lk_X5_94 rfl dX5_isNumber_19 ?_
    refine lv_iload_n hx hb dX5_isNumber_22 rfl (lv_at hl 1 rfl) ?_
    obtain ⟨j8, ej8, hf⟩ := lt_e hf
    have hj9 : ∀  (H : Heap) (locs : List Loc) (ls : Array Slot), wd_ D (tys0 κ) A s (List.flatten [pTe κ qt (qp 0) t_lines t_fault t_faultPlace t_kind t_start t_stop t_value, pTa κ qp p_bytes p_size]) H locs → lv_has ls 3 [(0, .ref (qt 0))] → j8 () = some (zr, z1, z2) → W p l e ({ frames := 1, cells := 0, slots := 0, locals := 22 } : Room) s m ([.ref (qt 0), .int a1, .int a2] : List Value).toArray below meth c H locs 0 0 (qI_ D (tys0 κ) A nB_ zr (List.flatten [pTe κ qt (qp 0) t_lines z1 z2 t_kind t_start t_stop t_value, pTa κ qp p_bytes p_size]) below ([.ref (qt 0), .int a1, .int a2] : List Value).toArray s) (F0 m 34 ls []) := by
      intro  H locs ls hw hl  hf
      have hf : (b3_ (FTe_fail (3 : Int32) t_start) fun r2 w3 w4 => if r2 = 0 then some ((0 : Int32), w3, w4) else some ((1 : Int32), w3, w4)) = some (zr, z1, z2) := by rw [ej8] at hf; exact hf
      refine lv_aload_n hx hb dX5_isNumber_34 rfl (lv_at hl 0 rfl) ?_
      refine lv_iconst (v := 3) hx hb dX5_isNumber_35 (by decide) ?_
      refine lv_aload_n hx hb dX5_isNumber_36 rfl (lv_at hl 0 rfl) ?_
      refine r_get C0 hw 0 5 (v := .int t_start) rfl rfl inX5 (by decide) lk_X5_81 rfl dX5_isNumber_37 ?_
      obtain ⟨r2, w3, w4, hk5, hf⟩ := b3_s hf
      refine rv_i (vq := (RX5, TX5, 8)) (As := [.int (3 : Int32), .int t_start]) (rest := []) (bs' := [pTe κ qt (qp 0) t_lines w3 w4 t_kind t_start t_stop t_value, pTa κ qp p_bytes p_size]) C0 hw (cTe_fail l D κ qt t_lines t_fault t_faultPlace t_kind t_start t_stop t_value qp p_bytes p_size (3 : Int32) t_start r2 w3 w4 hk5) cv_RX5_53 ⟨rfl, rfl, Nat.le_of_ble_eq_true rfl, Nat.le_of_ble_eq_true rfl⟩ ⟨Nat.zero_le _, Nat.zero_le _⟩ [0, 1] [] [0, 1] rfl rfl rfl rfl (by decide) rfl rfl rfl rfl rfl hl.1 (by simp only [List.map, List.sum_cons, List.sum_nil, Value.category]; decide) dX5_isNumber_40 (fun H locs hw hn6 => ?_)
      refine lv_if_eq (tgt := 50) hx hb dX5_isNumber_43 (by decide) (fun hc7 => ?_) (fun hc7 => ?_)
      · have hf := if_t hc7 hf
        refine lv_iconst (v := 0) hx hb dX5_isNumber_50 (by decide) ?_
        obtain ⟨rfl, rfl, rfl⟩ := e3_ hf
        exact r_zret C0 hw (Or.inl rfl) dX5_isNumber_51
      · have hf := if_f hc7 hf
        refine lv_iconst (v := 1) hx hb dX5_isNumber_46 (by decide) ?_
        refine lv_goto (tgt := 51) hx hb dX5_isNumber_47 (by decide) ?_
        obtain ⟨rfl, rfl, rfl⟩ := e3_ hf
        exact r_zret C0 hw (Or.inr rfl) dX5_isNumber_51
    refine lv_icmp_lt (tgt := 34) hx hb dX5_isNumber_23 (by decide) (fun hc10 => ?_) (fun hc10 => ?_)
    · have hf := if_t hc10 hf
      exact hj9  H locs ls hw (lv_sub hl [0] rfl)  hf
    · have hf := if_f hc10 hf
      refine lv_aload_n hx hb dX5_isNumber_26 rfl (lv_at hl 0 rfl) ?_
      refine r_get C0 hw 0 7 (v := .int t_value) rfl rfl inX5 (by decide) lk_X5_94 rfl dX5_isNumber_27 ?_
      refine lv_iload_n hx hb dX5_isNumber_30 rfl (lv_at hl 2 rfl) ?_
      refine lv_icmp_le (tgt := 46) hx hb dX5_isNumber_31 (by decide) (fun hc11 => ?_) (fun hc11 => ?_)
      · have hf := if_t hc11 hf
        refine lv_iconst (v := 1) hx hb dX5_isNumber_46 (by decide) ?_
        refine lv_goto (tgt := 51) hx hb dX5_isNumber_47 (by decide) ?_
        obtain ⟨rfl, rfl, rfl⟩ := e3_ hf
        exact r_zret C0 hw (Or.inr rfl) dX5_isNumber_51
      · have hf := if_f hc11 hf
        exact hj9  H locs ls hw (lv_sub hl [0] rfl)  hf
  · have hf := if_f hc1 hf
    refine lv_aload_n hx hb dX5_isNumber_8 rfl (lv_at hl 0 rfl) ?_
    refine lv_iconst (v := 2) hx hb dX5_isNumber_9 (by decide) ?_
    refine lv_aload_n hx hb dX5_isNumber_10 rfl (lv_at hl 0 rfl) ?_
    refine r_get C0 hw 0 5 (v := .int t_start) rfl rfl inX5 (by decide) lk_X5_81 rfl dX5_isNumber_11 ?_
    obtain ⟨r12, w13, w14, hk15, hf⟩ := b3_s hf
    refine rv_i (vq := (RX5, TX5, 8)) (As := [.int (2 : Int32), .int t_start]) (rest := []) (bs' := [pTe κ qt (qp 0) t_lines w13 w14 t_kind t_start t_stop t_value, pTa κ qp p_bytes p_size]) C0 hw (cTe_fail l D κ qt t_lines t_fault t_faultPlace t_kind t_start t_stop t_value qp p_bytes p_size (2 : Int32) t_start r12 w13 w14 hk15) cv_RX5_53 ⟨rfl, rfl, Nat.le_of_ble_eq_true rfl, Nat.le_of_ble_eq_true rfl⟩ ⟨Nat.zero_le _, Nat.zero_le _⟩ [0, 1] [] [0, 1] rfl rfl rfl rfl (by decide) rfl rfl rfl rfl rfl hl.1 (by simp only [List.map, List.sum_cons, List.sum_nil, Value.category]; decide) dX5_isNumber_14 (fun H locs hw hn16 => ?_)
    obtain ⟨rfl, rfl, rfl⟩ := e3_ hf
    exact r_zret C0 hw hn16 dX5_isNumber_17
def FTe_number (t_fault t_faultPlace t_kind t_stop t_value : Int32) (p_bytes : Nat → Int32) (p_size a1 a2 : Int32) : Option (Int32 × Int32 × Int32 × Int32 × Int32 × Int32 × Int32) :=
  b7_ (FTe_scan t_fault t_faultPlace t_kind t_stop t_value p_bytes p_size) fun r1 w2 w3 w4 w5 w6 w7 =>
  if r1 = 0 then
    some ((0 : Int32), w2, w3, w4, w5, w6, w7)
  else
    b3_ (FTe_isNumber w2 w3 w4 w5 w7 a1 a2) fun r11 w12 w13 =>
    if r11 = 0 then
      some ((0 : Int32), w12, w13, w4, w5, w6, w7)
    else
      some ((1 : Int32), w12, w13, w4, w5, w6, w7)
set_option maxHeartbeats 4000000 in
set_option maxRecDepth 100000 in
theorem cTe_number (l : Launch) (D : va_G) (κ : Nat → ClassId) (qt : Nat → Nat) (t_lines t_fault t_faultPlace t_kind t_start t_stop t_value : Int32) (qp : Nat → Nat) (p_bytes : Nat → Int32) (p_size a1 a2 zr z1 z2 z3 z4 z5 z6 : Int32) (hf : FTe_number t_fault t_faultPlace t_kind t_stop t_value p_bytes p_size a1 a2 = some (zr, z1, z2, z3, z4, z5, z6)) : mI_ l yX5_number (Cond.code yX5_number cX5_number 3 (some .boolean) :: uw) ({ frames := 2, cells := 0, slots := 0, locals := 44 } : Room) D (tys0 κ) [.ref (qt 0), .int a1, .int a2] (List.flatten [pTe κ qt (qp 0) t_lines t_fault t_faultPlace t_kind t_start t_stop t_value, pTa κ qp p_bytes p_size]) nB_ zr (List.flatten [pTe κ qt (qp 0) t_lines z1 z2 z3 z4 z5 z6, pTa κ qp p_bytes p_size]) := by
  unfold FTe_number at hf
  refine mI_of (by decide) (Nat.le_of_ble_eq_true rfl) ?_
  intro p e s m below meth c A ls H locs C0 hw hl
  obtain ⟨hx, hb, -, hml, hown, hts, -, -⟩ := id C0
  have hl : lv_has ls 3 [(0, .ref (qt 0)), (1, .int a1), (2, .int a2)] := hl
  refine lv_aload_n hx hb dX5_number_0 rfl (lv_at hl 0 rfl) ?_
  obtain ⟨r1, w2, w3, w4, w5, w6, w7, hk8, hf⟩ := b7_s hf
  refine rv_i (vq := (RX5, TX5, 8)) (As := []) (rest := []) (bs' := [pTe κ qt (qp 0) t_lines w2 w3 w4 w5 w6 w7, pTa κ qp p_bytes p_size]) C0 hw (cTe_scan l D κ qt t_lines t_fault t_faultPlace t_kind t_start t_stop t_value qp p_bytes p_size r1 w2 w3 w4 w5 w6 w7 hk8) cv_RX5_39 ⟨rfl, rfl, Nat.le_of_ble_eq_true rfl, Nat.le_of_ble_eq_true rfl⟩ ⟨Nat.zero_le _, Nat.zero_le _⟩ [0, 1] [] [0, 1] rfl rfl rfl rfl (by decide) rfl rfl rfl rfl rfl hl.1 (by simp only [List.map, List.sum_cons, List.sum_nil, Value.category]; decide) dX5_number_1 (fun H locs hw hn9 => ?_)
  refine lv_if_eq (tgt := 20) hx hb dX5_number_4 (by decide) (fun hc10 => ?_) (fun hc10 => ?_)
  · have hf := if_t hc10 hf
    refine lv_iconst (v := 0) hx hb dX5_number_20 (by decide) ?_
    obtain ⟨rfl, rfl, rfl, rfl, rfl, rfl, rfl⟩ := e7_ hf
    exact r_zret C0 hw (Or.inl rfl) dX5_number_21
  · have hf := if_f hc10 hf
    refine lv_aload_n hx hb dX5_number_7 rfl (lv_at hl 0 rfl) ?_
    refine lv_iload_n hx hb dX5_number_8 rfl (lv_at hl 1 rfl) ?_
    refine lv_iload_n hx hb dX5_number_9 rfl (lv_at hl 2 rfl) ?_
    obtain ⟨r11, w12, w13, hk14, hf⟩ := b3_s hf
    refine rv_i (vq := (RX5, TX5, 8)) (As := [.int a1, .int a2]) (rest := []) (bs' := [pTe κ qt (qp 0) t_lines w12 w13 w4 w5 w6 w7, pTa κ qp p_bytes p_size]) C0 hw (cTe_isNumber l D κ qt t_lines w2 w3 w4 w5 w6 w7 qp p_bytes p_size a1 a2 r11 w12 w13 hk14) cv_RX5_91 ⟨rfl, rfl, Nat.le_of_ble_eq_true rfl, Nat.le_of_ble_eq_true rfl⟩ ⟨Nat.zero_le _, Nat.zero_le _⟩ [0, 1] [] [0, 1] rfl rfl rfl rfl (by decide) rfl rfl rfl rfl rfl hl.1 (by simp only [List.map, List.sum_cons, List.sum_nil, Value.category]; decide) dX5_number_10 (fun H locs hw hn15 => ?_)
    refine lv_if_eq (tgt := 20) hx hb dX5_number_13 (by decide) (fun hc16 => ?_) (fun hc16 => ?_)
    · have hf := if_t hc16 hf
      refine lv_iconst (v := 0) hx hb dX5_number_20 (by decide) ?_
      obtain ⟨rfl, rfl, rfl, rfl, rfl, rfl, rfl⟩ := e7_ hf
      exact r_zret C0 hw (Or.inl rfl) dX5_number_21
    · have hf := if_f hc16 hf
      refine lv_iconst (v := 1) hx hb dX5_number_16 (by decide) ?_
      refine lv_goto (tgt := 21) hx hb dX5_number_17 (by decide) ?_
      obtain ⟨rfl, rfl, rfl, rfl, rfl, rfl, rfl⟩ := e7_ hf
      exact r_zret C0 hw (Or.inr rfl) dX5_number_21
def FTe_semicolon (t_fault t_faultPlace t_kind t_stop t_value : Int32) (p_bytes : Nat → Int32) (p_size : Int32) : Option (Int32 × Int32 × Int32 × Int32 × Int32 × Int32 × Int32) :=
  b7_ (FTe_scan t_fault t_faultPlace t_kind t_stop t_value p_bytes p_size) fun r1 w2 w3 w4 w5 w6 w7 =>
  if r1 = 0 then
    some ((0 : Int32), w2, w3, w4, w5, w6, w7)
  else
    if w4 = (4 : Int32) then
      some ((1 : Int32), w2, w3, w4, w5, w6, w7)
    else
      b3_ (FTe_fail (2 : Int32) w5) fun r12 w13 w14 =>
      if r12 = 0 then
        some ((0 : Int32), w13, w14, w4, w5, w6, w7)
      else
        some ((1 : Int32), w13, w14, w4, w5, w6, w7)
set_option maxHeartbeats 4000000 in
set_option maxRecDepth 100000 in
theorem cTe_semicolon (l : Launch) (D : va_G) (κ : Nat → ClassId) (qt : Nat → Nat) (t_lines t_fault t_faultPlace t_kind t_start t_stop t_value : Int32) (qp : Nat → Nat) (p_bytes : Nat → Int32) (p_size zr z1 z2 z3 z4 z5 z6 : Int32) (hf : FTe_semicolon t_fault t_faultPlace t_kind t_stop t_value p_bytes p_size = some (zr, z1, z2, z3, z4, z5, z6)) : mI_ l yX5_semicolon (Cond.code yX5_semicolon cX5_semicolon 1 (some .boolean) :: uw) ({ frames := 2, cells := 0, slots := 0, locals := 44 } : Room) D (tys0 κ) [.ref (qt 0)] (List.flatten [pTe κ qt (qp 0) t_lines t_fault t_faultPlace t_kind t_start t_stop t_value, pTa κ qp p_bytes p_size]) nB_ zr (List.flatten [pTe κ qt (qp 0) t_lines z1 z2 z3 z4 z5 z6, pTa κ qp p_bytes p_size]) := by
  unfold FTe_semicolon at hf
  refine mI_of (by decide) (Nat.le_of_ble_eq_true rfl) ?_
  intro p e s m below meth c A ls H locs C0 hw hl
  obtain ⟨hx, hb, -, hml, hown, hts, -, -⟩ := id C0
  have hl : lv_has ls 1 [(0, .ref (qt 0))] := hl
  refine lv_aload_n hx hb dX5_semicolon_0 rfl (lv_at hl 0 rfl) ?_
  obtain ⟨r1, w2, w3, w4, w5, w6, w7, hk8, hf⟩ := b7_s hf
  refine rv_i (vq := (RX5, TX5, 8)) (As := []) (rest := []) (bs' := [pTe κ qt (qp 0) t_lines w2 w3 w4 w5 w6 w7, pTa κ qp p_bytes p_size]) C0 hw (cTe_scan l D κ qt t_lines t_fault t_faultPlace t_kind t_start t_stop t_value qp p_bytes p_size r1 w2 w3 w4 w5 w6 w7 hk8) cv_RX5_39 ⟨rfl, rfl, Nat.le_of_ble_eq_true rfl, Nat.le_of_ble_eq_true rfl⟩ ⟨Nat.zero_le _, Nat.zero_le _⟩ [0, 1] [] [0, 1] rfl rfl rfl rfl (by decide) rfl rfl rfl rfl rfl hl.1 (by simp only [List.map, List.sum_cons, List.sum_nil, Value.category]; decide) dX5_semicolon_1 (fun H locs hw hn9 => ?_)
  refine lv_if_eq (tgt := 31) hx hb dX5_semicolon_4 (by decide) (fun hc10 => ?_) (fun hc10 => ?_)
  · have hf := if_t hc10 hf
    refine lv_iconst (v := 0) hx hb dX5_semicolon_31 (by decide) ?_
    obtain ⟨rfl, rfl, rfl, rfl, rfl, rfl, rfl⟩ := e7_ hf
    exact r_zret C0 hw (Or.inl rfl) dX5_semicolon_32
  · have hf := if_f hc10 hf
    refine lv_aload_n hx hb dX5_semicolon_7 rfl (lv_at hl 0 rfl) ?_
    refine r_get C0 hw 0 4 (v := .int w4) rfl rfl inX5 (by decide) lk_X5_43 rfl dX5_semicolon_8 ?_
    refine lv_iconst (v := 4) hx hb dX5_semicolon_11 (by decide) ?_
    refine lv_icmp_eq (tgt := 27) hx hb dX5_semicolon_12 (by decide) (fun hc11 => ?_) (fun hc11 => ?_)
    · have hf := if_t hc11 hf
      refine lv_iconst (v := 1) hx hb dX5_semicolon_27 (by decide) ?_
      refine lv_goto (tgt := 32) hx hb dX5_semicolon_28 (by decide) ?_
      obtain ⟨rfl, rfl, rfl, rfl, rfl, rfl, rfl⟩ := e7_ hf
      exact r_zret C0 hw (Or.inr rfl) dX5_semicolon_32
    · have hf := if_f hc11 hf
      refine lv_aload_n hx hb dX5_semicolon_15 rfl (lv_at hl 0 rfl) ?_
      refine lv_iconst (v := 2) hx hb dX5_semicolon_16 (by decide) ?_
      refine lv_aload_n hx hb dX5_semicolon_17 rfl (lv_at hl 0 rfl) ?_
      refine r_get C0 hw 0 5 (v := .int w5) rfl rfl inX5 (by decide) lk_X5_81 rfl dX5_semicolon_18 ?_
      obtain ⟨r12, w13, w14, hk15, hf⟩ := b3_s hf
      refine rv_i (vq := (RX5, TX5, 8)) (As := [.int (2 : Int32), .int w5]) (rest := []) (bs' := [pTe κ qt (qp 0) t_lines w13 w14 w4 w5 w6 w7, pTa κ qp p_bytes p_size]) C0 hw (cTe_fail l D κ qt t_lines w2 w3 w4 w5 w6 w7 qp p_bytes p_size (2 : Int32) w5 r12 w13 w14 hk15) cv_RX5_53 ⟨rfl, rfl, Nat.le_of_ble_eq_true rfl, Nat.le_of_ble_eq_true rfl⟩ ⟨Nat.zero_le _, Nat.zero_le _⟩ [0, 1] [] [0, 1] rfl rfl rfl rfl (by decide) rfl rfl rfl rfl rfl hl.1 (by simp only [List.map, List.sum_cons, List.sum_nil, Value.category]; decide) dX5_semicolon_21 (fun H locs hw hn16 => ?_)
      refine lv_if_eq (tgt := 31) hx hb dX5_semicolon_24 (by decide) (fun hc17 => ?_) (fun hc17 => ?_)
      · have hf := if_t hc17 hf
        refine lv_iconst (v := 0) hx hb dX5_semicolon_31 (by decide) ?_
        obtain ⟨rfl, rfl, rfl, rfl, rfl, rfl, rfl⟩ := e7_ hf
        exact r_zret C0 hw (Or.inl rfl) dX5_semicolon_32
      · have hf := if_f hc17 hf
        refine lv_iconst (v := 1) hx hb dX5_semicolon_27 (by decide) ?_
        refine lv_goto (tgt := 32) hx hb dX5_semicolon_28 (by decide) ?_
        obtain ⟨rfl, rfl, rfl, rfl, rfl, rfl, rfl⟩ := e7_ hf
        exact r_zret C0 hw (Or.inr rfl) dX5_semicolon_32
def FTe_jointLine (t_fault t_faultPlace t_kind t_start t_stop t_value : Int32) (p_bytes : Nat → Int32) (p_size : Int32) (f_held f_couples : Nat → Int32) (f_joints a2 : Int32) : Option (Int32 × Int32 × Int32 × Int32 × Int32 × Int32 × Int32 × (Nat → Int32) × (Nat → Int32) × Int32) :=
  if (6 : Int32) ≤ f_joints then
    b3_ (FTe_fail (5 : Int32) t_start) fun r2 w3 w4 =>
    some (r2, w3, w4, t_kind, t_start, t_stop, t_value, f_held, f_couples, f_joints)
  else
    lt_ (fun (_ : Unit) =>
      b7_ (FTe_scan t_fault t_faultPlace t_kind t_stop t_value p_bytes p_size) fun r7 w8 w9 w10 w11 w12 w13 =>
      if r7 = 0 then
        some ((0 : Int32), w8, w9, w10, w11, w12, w13, f_held, f_couples, f_joints)
      else
        lt_ (fun (v17 : Int32) =>
          lt_ (fun (w18 : Int32) (w19 : Int32) (w20 : Int32) (w21 : Int32) (w22 : Int32) (w23 : Int32) =>
            b3_ (FTe_isNumber w18 w19 w20 w21 w23 (0 : Int32) (9999 : Int32)) fun r24 w25 w26 =>
            if r24 = 0 then
              some ((0 : Int32), w25, w26, w20, w21, w22, w23, f_held, f_couples, f_joints)
            else
              lt_ (fun (v30 : Int32) =>
                b7_ (FTe_semicolon w25 w26 w20 w22 w23 p_bytes p_size) fun r31 w32 w33 w34 w35 w36 w37 =>
                if r31 = 0 then
                  some ((0 : Int32), w32, w33, w34, w35, w36, w37, f_held, f_couples, f_joints)
                else
                  b3_ (FFr_addJoint f_held f_couples f_joints a2 v30) fun w41 w42 w43 =>
                  some ((1 : Int32), w32, w33, w34, w35, w36, w37, w41, w42, w43) : Int32 → Option (Int32 × Int32 × Int32 × Int32 × Int32 × Int32 × Int32 × (Nat → Int32) × (Nat → Int32) × Int32)) fun j46 =>
              if v17 = 0 then
                j46 w23
              else
                j46 (-w23) : Int32 → Int32 → Int32 → Int32 → Int32 → Int32 → Option (Int32 × Int32 × Int32 × Int32 × Int32 × Int32 × Int32 × (Nat → Int32) × (Nat → Int32) × Int32)) fun j49 =>
          if v17 = 0 then
            j49 w8 w9 w10 w11 w12 w13
          else
            b7_ (FTe_scan w8 w9 w10 w12 w13 p_bytes p_size) fun r52 w53 w54 w55 w56 w57 w58 =>
            if r52 = 0 then
              some ((0 : Int32), w53, w54, w55, w56, w57, w58, f_held, f_couples, f_joints)
            else
              j49 w53 w54 w55 w56 w57 w58 : Int32 → Option (Int32 × Int32 × Int32 × Int32 × Int32 × Int32 × Int32 × (Nat → Int32) × (Nat → Int32) × Int32)) fun j62 =>
        if w10 = (3 : Int32) then
          j62 (1 : Int32)
        else
          j62 (0 : Int32) : Unit → Option (Int32 × Int32 × Int32 × Int32 × Int32 × Int32 × Int32 × (Nat → Int32) × (Nat → Int32) × Int32)) fun j65 =>
    if a2 = 0 then
      b1_ (FFr_turning f_held f_joints) fun r68 =>
      if r68 < (4 : Int32) then
        j65 ()
      else
        b3_ (FTe_fail (5 : Int32) t_start) fun r72 w73 w74 =>
        some (r72, w73, w74, t_kind, t_start, t_stop, t_value, f_held, f_couples, f_joints)
    else
      j65 ()
set_option maxHeartbeats 4000000 in
set_option maxRecDepth 100000 in
theorem cTe_jointLine (l : Launch) (D : va_G) (κ : Nat → ClassId) (qt : Nat → Nat) (t_lines t_fault t_faultPlace t_kind t_start t_stop t_value : Int32) (qp : Nat → Nat) (p_bytes : Nat → Int32) (p_size : Int32) (qf : Nat → Nat) (f_held f_couples f_endJoints f_lengths f_stiffs f_loadBeams f_loadSizes f_loadPlaces : Nat → Int32) (f_joints f_beams f_loads a2 zr z1 z2 z3 z4 z5 z6 : Int32) (z7 z8 : Nat → Int32) (z9 : Int32) (hf : FTe_jointLine t_fault t_faultPlace t_kind t_start t_stop t_value p_bytes p_size f_held f_couples f_joints a2 = some (zr, z1, z2, z3, z4, z5, z6, z7, z8, z9)) : mI_ l yX5_jointLine (Cond.code yX5_jointLine cX5_jointLine 5 (some .boolean) :: uw) ({ frames := 3, cells := 0, slots := 0, locals := 64 } : Room) D (tys0 κ) [.ref (qt 0), .ref (qf 0), .int a2] (List.flatten [pTe κ qt (qp 0) t_lines t_fault t_faultPlace t_kind t_start t_stop t_value, pTa κ qp p_bytes p_size, pFr κ qf f_held f_couples f_endJoints f_lengths f_stiffs f_loadBeams f_loadSizes f_loadPlaces f_joints f_beams f_loads]) nB_ zr (List.flatten [pTe κ qt (qp 0) t_lines z1 z2 z3 z4 z5 z6, pTa κ qp p_bytes p_size, pFr κ qf z7 z8 f_endJoints f_lengths f_stiffs f_loadBeams f_loadSizes f_loadPlaces z9 f_beams f_loads]) := by
  unfold FTe_jointLine at hf
  refine mI_of (by decide) (Nat.le_of_ble_eq_true rfl) ?_
  intro p e s m below meth c A ls H locs C0 hw hl
  obtain ⟨hx, hb, -, hml, hown, hts, -, -⟩ := id C0
  have hl : lv_has ls 5 [(0, .ref (qt 0)), (1, .ref (qf 0)), (2, .int a2)] := hl
  refine lv_aload_n hx hb dX5_jointLine_0 rfl (lv_at hl 1 rfl) ?_
  refine r_get C0 hw 3 8 (v := .int f_joints) rfl rfl inX2 (by decide) lk_X5_84 rfl dX5_jointLine_1 ?_
  refine lv_bipush (v := 6) hx hb dX5_jointLine_4 (by decide) ?_
  refine lv_icmp_ge (tgt := 21) hx hb dX5_jointLine_6 (by decide) (fun hc1 => ?_) (fun hc1 => ?_)
  · have hf := if_t hc1 hf
    refine lv_aload_n hx hb dX5_jointLine_21 rfl (lv_at hl 0 rfl) ?_
    refine lv_iconst (v := 5) hx hb dX5_jointLine_22 (by decide) ?_
    refine lv_aload_n hx hb dX5_jointLine_23 rfl (lv_at hl 0 rfl) ?_
    refine r_get C0 hw 0 5 (v := .int t_start) rfl rfl inX5 (by decide) lk_X5_81 rfl dX5_jointLine_24 ?_
    obtain ⟨r2, w3, w4, hk5, hf⟩ := b3_s hf
    refine rv_i (vq := (RX5, TX5, 8)) (As := [.int (5 : Int32), .int t_start]) (rest := []) (bs' := [pTe κ qt (qp 0) t_lines w3 w4 t_kind t_start t_stop t_value, pTa κ qp p_bytes p_size, pFr κ qf f_held f_couples f_endJoints f_lengths f_stiffs f_loadBeams f_loadSizes f_loadPlaces f_joints f_beams f_loads]) C0 hw (cTe_fail l D κ qt t_lines t_fault t_faultPlace t_kind t_start t_stop t_value qp p_bytes p_size (5 : Int32) t_start r2 w3 w4 hk5) cv_RX5_53 ⟨rfl, rfl, Nat.le_of_ble_eq_true rfl, Nat.le_of_ble_eq_true rfl⟩ ⟨Nat.zero_le _, Nat.zero_le _⟩ [0, 1] [2] [1, 2, 0] rfl rfl rfl rfl (by decide) rfl rfl rfl rfl rfl hl.1 (by simp only [List.map, List.sum_cons, List.sum_nil, Value.category]; decide) dX5_jointLine_27 (fun H locs hw hn6 => ?_)
    obtain ⟨rfl, rfl, rfl, rfl, rfl, rfl, rfl, rfl, rfl, rfl⟩ := e10_ hf
    exact r_zret C0 hw hn6 dX5_jointLine_30
  · have hf := if_f hc1 hf
    refine lv_iload_n hx hb dX5_jointLine_9 rfl (lv_at hl 2 rfl) ?_
    obtain ⟨j65, ej65, hf⟩ := lt_e hf
    have hj66 : ∀  (H : Heap) (locs : List Loc) (ls : Array Slot), wd_ D (tys0 κ) A s (List.flatten [pTe κ qt (qp 0) t_lines t_fault t_faultPlace t_kind t_start t_stop t_value, pTa κ qp p_bytes p_size, pFr κ qf f_held f_couples f_endJoints f_lengths f_stiffs f_loadBeams f_loadSizes f_loadPlaces f_joints f_beams f_loads]) H locs → lv_has ls 5 [(0, .ref (qt 0)), (1, .ref (qf 0)), (2, .int a2)] → j65 () = some (zr, z1, z2, z3, z4, z5, z6, z7, z8, z9) → W p l e ({ frames := 3, cells := 0, slots := 0, locals := 64 } : Room) s m ([.ref (qt 0), .ref (qf 0), .int a2] : List Value).toArray below meth c H locs 0 0 (qI_ D (tys0 κ) A nB_ zr (List.flatten [pTe κ qt (qp 0) t_lines z1 z2 z3 z4 z5 z6, pTa κ qp p_bytes p_size, pFr κ qf z7 z8 f_endJoints f_lengths f_stiffs f_loadBeams f_loadSizes f_loadPlaces z9 f_beams f_loads]) below ([.ref (qt 0), .ref (qf 0), .int a2] : List Value).toArray s) (F0 m 31 ls []) := by
      intro  H locs ls hw hl  hf
      have hf : (b7_ (FTe_scan t_fault t_faultPlace t_kind t_stop t_value p_bytes p_size) fun r7 w8 w9 w10 w11 w12 w13 => if r7 = 0 then some ((0 : Int32), w8, w9, w10, w11, w12, w13, f_held, f_couples, f_joints) else lt_ (fun (v17 : Int32) => lt_ (fun (w18 : Int32) (w19 : Int32) (w20 : Int32) (w21 : Int32) (w22 : Int32) (w23 : Int32) => b3_ (FTe_isNumber w18 w19 w20 w21 w23 (0 : Int32) (9999 : Int32)) fun r24 w25 w26 => if r24 = 0 then some ((0 : Int32), w25, w26, w20, w21, w22, w23, f_held, f_couples, f_joints) else lt_ (fun (v30 : Int32) => b7_ (FTe_semicolon w25 w26 w20 w22 w23 p_bytes p_size) fun r31 w32 w33 w34 w35 w36 w37 => if r31 = 0 then some ((0 : Int32), w32, w33, w34, w35, w36, w37, f_held, f_couples, f_joints) else b3_ (FFr_addJoint f_held f_couples f_joints a2 v30) fun w41 w42 w43 => some ((1 : Int32), w32, w33, w34, w35, w36, w37, w41, w42, w43) : Int32 → Option (Int32 × Int32 × Int32 × Int32 × Int32 × Int32 × Int32 × (Nat → Int32) × (Nat → Int32) × Int32)) fun j46 => if v17 = 0 then j46 w23 else j46 (-w23) : Int32 → Int32 → Int32 → Int32 → Int32 → Int32 → Option (Int32 × Int32 × Int32 × Int32 × Int32 × Int32 × Int32 × (Nat → Int32) × (Nat → Int32) × Int32)) fun j49 => if v17 = 0 then j49 w8 w9 w10 w11 w12 w13 else b7_ (FTe_scan w8 w9 w10 w12 w13 p_bytes p_size) fun r52 w53 w54 w55 w56 w57 w58 => if r52 = 0 then some ((0 : Int32), w53, w54, w55, w56, w57, w58, f_held, f_couples, f_joints) else j49 w53 w54 w55 w56 w57 w58 : Int32 → Option (Int32 × Int32 × Int32 × Int32 × Int32 × Int32 × Int32 × (Nat → Int32) × (Nat → Int32) × Int32)) fun j62 => if w10 = (3 : Int32) then j62 (1 : Int32) else j62 (0 : Int32)) = some (zr, z1, z2, z3, z4, z5, z6, z7, z8, z9) := by rw [ej65] at hf; exact hf
      refine lv_aload_n hx hb dX5_jointLine_31 rfl (lv_at hl 0 rfl) ?_
      obtain ⟨r7, w8, w9, w10, w11, w12, w13, hk14, hf⟩ := b7_s hf
      refine rv_i (vq := (RX5, TX5, 8)) (As := []) (rest := []) (bs' := [pTe κ qt (qp 0) t_lines w8 w9 w10 w11 w12 w13, pTa κ qp p_bytes p_size, pFr κ qf f_held f_couples f_endJoints f_lengths f_stiffs f_loadBeams f_loadSizes f_loadPlaces f_joints f_beams f_loads]) C0 hw (cTe_scan l D κ qt t_lines t_fault t_faultPlace t_kind t_start t_stop t_value qp p_bytes p_size r7 w8 w9 w10 w11 w12 w13 hk14) cv_RX5_39 ⟨rfl, rfl, Nat.le_of_ble_eq_true rfl, Nat.le_of_ble_eq_true rfl⟩ ⟨Nat.zero_le _, Nat.zero_le _⟩ [0, 1] [2] [1, 2, 0] rfl rfl rfl rfl (by decide) rfl rfl rfl rfl rfl hl.1 (by simp only [List.map, List.sum_cons, List.sum_nil, Value.category]; decide) dX5_jointLine_32 (fun H locs hw hn15 => ?_)
      refine lv_if_ne (tgt := 40) hx hb dX5_jointLine_35 (by decide) (fun hc16 => ?_) (fun hc16 => ?_)
      · have hf := if_f hc16 hf
        refine lv_aload_n hx hb dX5_jointLine_40 rfl (lv_at hl 0 rfl) ?_
        refine r_get C0 hw 0 4 (v := .int w10) rfl rfl inX5 (by decide) lk_X5_43 rfl dX5_jointLine_41 ?_
        refine lv_iconst (v := 3) hx hb dX5_jointLine_44 (by decide) ?_
        obtain ⟨j62, ej62, hf⟩ := lt_e hf
        have hj63 : ∀ (v17 : Int32) (H : Heap) (locs : List Loc) (ls : Array Slot), wd_ D (tys0 κ) A s (List.flatten [pTe κ qt (qp 0) t_lines w8 w9 w10 w11 w12 w13, pTa κ qp p_bytes p_size, pFr κ qf f_held f_couples f_endJoints f_lengths f_stiffs f_loadBeams f_loadSizes f_loadPlaces f_joints f_beams f_loads]) H locs → lv_has ls 5 [(0, .ref (qt 0)), (1, .ref (qf 0)), (2, .int a2)] → j62 v17 = some (zr, z1, z2, z3, z4, z5, z6, z7, z8, z9) → W p l e ({ frames := 3, cells := 0, slots := 0, locals := 64 } : Room) s m ([.ref (qt 0), .ref (qf 0), .int a2] : List Value).toArray below meth c H locs 0 0 (qI_ D (tys0 κ) A nB_ zr (List.flatten [pTe κ qt (qp 0) t_lines z1 z2 z3 z4 z5 z6, pTa κ qp p_bytes p_size, pFr κ qf z7 z8 f_endJoints f_lengths f_stiffs f_loadBeams f_loadSizes f_loadPlaces z9 f_beams f_loads]) below ([.ref (qt 0), .ref (qf 0), .int a2] : List Value).toArray s) (F0 m 53 ls [.int v17]) := by
          intro v17 H locs ls hw hl  hf
          have hf : (lt_ (fun (w18 : Int32) (w19 : Int32) (w20 : Int32) (w21 : Int32) (w22 : Int32) (w23 : Int32) => b3_ (FTe_isNumber w18 w19 w20 w21 w23 (0 : Int32) (9999 : Int32)) fun r24 w25 w26 => if r24 = 0 then some ((0 : Int32), w25, w26, w20, w21, w22, w23, f_held, f_couples, f_joints) else lt_ (fun (v30 : Int32) => b7_ (FTe_semicolon w25 w26 w20 w22 w23 p_bytes p_size) fun r31 w32 w33 w34 w35 w36 w37 => if r31 = 0 then some ((0 : Int32), w32, w33, w34, w35, w36, w37, f_held, f_couples, f_joints) else b3_ (FFr_addJoint f_held f_couples f_joints a2 v30) fun w41 w42 w43 => some ((1 : Int32), w32, w33, w34, w35, w36, w37, w41, w42, w43) : Int32 → Option (Int32 × Int32 × Int32 × Int32 × Int32 × Int32 × Int32 × (Nat → Int32) × (Nat → Int32) × Int32)) fun j46 => if v17 = 0 then j46 w23 else j46 (-w23) : Int32 → Int32 → Int32 → Int32 → Int32 → Int32 → Option (Int32 × Int32 × Int32 × Int32 × Int32 × Int32 × Int32 × (Nat → Int32) × (Nat → Int32) × Int32)) fun j49 => if v17 = 0 then j49 w8 w9 w10 w11 w12 w13 else b7_ (FTe_scan w8 w9 w10 w12 w13 p_bytes p_size) fun r52 w53 w54 w55 w56 w57 w58 => if r52 = 0 then some ((0 : Int32), w53, w54, w55, w56, w57, w58, f_held, f_couples, f_joints) else j49 w53 w54 w55 w56 w57 w58) = some (zr, z1, z2, z3, z4, z5, z6, z7, z8, z9) := by rw [ej62] at hf; exact hf
          refine lv_istore_n (lv' := [(3, .int v17), (0, .ref (qt 0)), (1, .ref (qf 0)), (2, .int a2)]) hx hb dX5_jointLine_53 rfl hl (by decide) rfl (fun ls hl => ?_)
          refine lv_iload_n hx hb dX5_jointLine_54 rfl (lv_at hl 0 rfl) ?_
          obtain ⟨j49, ej49, hf⟩ := lt_e hf
          have hj50 : ∀ (w18 : Int32) (w19 : Int32) (w20 : Int32) (w21 : Int32) (w22 : Int32) (w23 : Int32) (H : Heap) (locs : List Loc) (ls : Array Slot), wd_ D (tys0 κ) A s (List.flatten [pTe κ qt (qp 0) t_lines w18 w19 w20 w21 w22 w23, pTa κ qp p_bytes p_size, pFr κ qf f_held f_couples f_endJoints f_lengths f_stiffs f_loadBeams f_loadSizes f_loadPlaces f_joints f_beams f_loads]) H locs → lv_has ls 5 [(3, .int v17), (0, .ref (qt 0)), (1, .ref (qf 0)), (2, .int a2)] → j49 w18 w19 w20 w21 w22 w23 = some (zr, z1, z2, z3, z4, z5, z6, z7, z8, z9) → W p l e ({ frames := 3, cells := 0, slots := 0, locals := 64 } : Room) s m ([.ref (qt 0), .ref (qf 0), .int a2] : List Value).toArray below meth c H locs 0 0 (qI_ D (tys0 κ) A nB_ zr (List.flatten [pTe κ qt (qp 0) t_lines z1 z2 z3 z4 z5 z6, pTa κ qp p_bytes p_size, pFr κ qf z7 z8 f_endJoints f_lengths f_stiffs f_loadBeams f_loadSizes f_loadPlaces z9 f_beams f_loads]) below ([.ref (qt 0), .ref (qf 0), .int a2] : List Value).toArray s) (F0 m 67 ls []) := by
            intro w18 w19 w20 w21 w22 w23 H locs ls hw hl  hf
            have hf : (b3_ (FTe_isNumber w18 w19 w20 w21 w23 (0 : Int32) (9999 : Int32)) fun r24 w25 w26 => if r24 = 0 then some ((0 : Int32), w25, w26, w20, w21, w22, w23, f_held, f_couples, f_joints) else lt_ (fun (v30 : Int32) => b7_ (FTe_semicolon w25 w26 w20 w22 w23 p_bytes p_size) fun r31 w32 w33 w34 w35 w36 w37 => if r31 = 0 then some ((0 : Int32), w32, w33, w34, w35, w36, w37, f_held, f_couples, f_joints) else b3_ (FFr_addJoint f_held f_couples f_joints a2 v30) fun w41 w42 w43 => some ((1 : Int32), w32, w33, w34, w35, w36, w37, w41, w42, w43) : Int32 → Option (Int32 × Int32 × Int32 × Int32 × Int32 × Int32 × Int32 × (Nat → Int32) × (Nat → Int32) × Int32)) fun j46 => if v17 = 0 then j46 w23 else j46 (-w23)) = some (zr, z1, z2, z3, z4, z5, z6, z7, z8, z9) := by rw [ej49] at hf; exact hf
            refine lv_aload_n hx hb dX5_jointLine_67 rfl (lv_at hl 1 rfl) ?_
            refine lv_iconst (v := 0) hx hb dX5_jointLine_68 (by decide) ?_
            refine lv_sipush (v := 9999) hx hb dX5_jointLine_69 (by decide) ?_
            obtain ⟨r24, w25, w26, hk27, hf⟩ := b3_s hf
            refine rv_i (vq := (RX5, TX5, 8)) (As := [.int (0 : Int32), .int (9999 : Int32)]) (rest := []) (bs' := [pTe κ qt (qp 0) t_lines w25 w26 w20 w21 w22 w23, pTa κ qp p_bytes p_size, pFr κ qf f_held f_couples f_endJoints f_lengths f_stiffs f_loadBeams f_loadSizes f_loadPlaces f_joints f_beams f_loads]) C0 hw (cTe_isNumber l D κ qt t_lines w18 w19 w20 w21 w22 w23 qp p_bytes p_size (0 : Int32) (9999 : Int32) r24 w25 w26 hk27) cv_RX5_91 ⟨rfl, rfl, Nat.le_of_ble_eq_true rfl, Nat.le_of_ble_eq_true rfl⟩ ⟨Nat.zero_le _, Nat.zero_le _⟩ [0, 1] [2] [1, 2, 0] rfl rfl rfl rfl (by decide) rfl rfl rfl rfl rfl hl.1 (by simp only [List.map, List.sum_cons, List.sum_nil, Value.category]; decide) dX5_jointLine_72 (fun H locs hw hn28 => ?_)
            refine lv_if_ne (tgt := 80) hx hb dX5_jointLine_75 (by decide) (fun hc29 => ?_) (fun hc29 => ?_)
            · have hf := if_f hc29 hf
              refine lv_iload_n hx hb dX5_jointLine_80 rfl (lv_at hl 0 rfl) ?_
              obtain ⟨j46, ej46, hf⟩ := lt_e hf
              have hj47 : ∀ (v30 : Int32) (H : Heap) (locs : List Loc) (ls : Array Slot), wd_ D (tys0 κ) A s (List.flatten [pTe κ qt (qp 0) t_lines w25 w26 w20 w21 w22 w23, pTa κ qp p_bytes p_size, pFr κ qf f_held f_couples f_endJoints f_lengths f_stiffs f_loadBeams f_loadSizes f_loadPlaces f_joints f_beams f_loads]) H locs → lv_has ls 5 [(0, .ref (qt 0)), (1, .ref (qf 0)), (2, .int a2)] → j46 v30 = some (zr, z1, z2, z3, z4, z5, z6, z7, z8, z9) → W p l e ({ frames := 3, cells := 0, slots := 0, locals := 64 } : Room) s m ([.ref (qt 0), .ref (qf 0), .int a2] : List Value).toArray below meth c H locs 0 0 (qI_ D (tys0 κ) A nB_ zr (List.flatten [pTe κ qt (qp 0) t_lines z1 z2 z3 z4 z5 z6, pTa κ qp p_bytes p_size, pFr κ qf z7 z8 f_endJoints f_lengths f_stiffs f_loadBeams f_loadSizes f_loadPlaces z9 f_beams f_loads]) below ([.ref (qt 0), .ref (qf 0), .int a2] : List Value).toArray s) (F0 m 96 ls [.int v30]) := by
                intro v30 H locs ls hw hl  hf
                have hf : (b7_ (FTe_semicolon w25 w26 w20 w22 w23 p_bytes p_size) fun r31 w32 w33 w34 w35 w36 w37 => if r31 = 0 then some ((0 : Int32), w32, w33, w34, w35, w36, w37, f_held, f_couples, f_joints) else b3_ (FFr_addJoint f_held f_couples f_joints a2 v30) fun w41 w42 w43 => some ((1 : Int32), w32, w33, w34, w35, w36, w37, w41, w42, w43)) = some (zr, z1, z2, z3, z4, z5, z6, z7, z8, z9) := by rw [ej46] at hf; exact hf
                refine lv_istore (lv' := [(4, .int v30), (0, .ref (qt 0)), (1, .ref (qf 0)), (2, .int a2)]) hx hb dX5_jointLine_96 hl (by decide) rfl (fun ls hl => ?_)
                refine lv_aload_n hx hb dX5_jointLine_98 rfl (lv_at hl 1 rfl) ?_
                obtain ⟨r31, w32, w33, w34, w35, w36, w37, hk38, hf⟩ := b7_s hf
                refine rv_i (vq := (RX5, TX5, 8)) (As := []) (rest := []) (bs' := [pTe κ qt (qp 0) t_lines w32 w33 w34 w35 w36 w37, pTa κ qp p_bytes p_size, pFr κ qf f_held f_couples f_endJoints f_lengths f_stiffs f_loadBeams f_loadSizes f_loadPlaces f_joints f_beams f_loads]) C0 hw (cTe_semicolon l D κ qt t_lines w25 w26 w20 w21 w22 w23 qp p_bytes p_size r31 w32 w33 w34 w35 w36 w37 hk38) cv_RX5_97 ⟨rfl, rfl, Nat.le_of_ble_eq_true rfl, Nat.le_of_ble_eq_true rfl⟩ ⟨Nat.zero_le _, Nat.zero_le _⟩ [0, 1] [2] [1, 2, 0] rfl rfl rfl rfl (by decide) rfl rfl rfl rfl rfl hl.1 (by simp only [List.map, List.sum_cons, List.sum_nil, Value.category]; decide) dX5_jointLine_99 (fun H locs hw hn39 => ?_)
                refine lv_if_ne (tgt := 107) hx hb dX5_jointLine_102 (by decide) (fun hc40 => ?_) (fun hc40 => ?_)
                · have hf := if_f hc40 hf
                  refine lv_aload_n hx hb dX5_jointLine_107 rfl (lv_at hl 2 rfl) ?_
                  refine lv_iload_n hx hb dX5_jointLine_108 rfl (lv_at hl 3 rfl) ?_
                  refine lv_iload hx hb dX5_jointLine_109 (lv_at hl 0 rfl) ?_
                  obtain ⟨w41, w42, w43, hk44, hf⟩ := b3_s hf
                  refine rv_v (vq := (RX2, TX2, 11)) (As := [.int a2, .int v30]) (rest := []) (bs' := [pTe κ qt (qp 0) t_lines w32 w33 w34 w35 w36 w37, pTa κ qp p_bytes p_size, pFr κ qf w41 w42 f_endJoints f_lengths f_stiffs f_loadBeams f_loadSizes f_loadPlaces w43 f_beams f_loads]) C0 hw (cFr_addJoint l D κ qf f_held f_couples f_endJoints f_lengths f_stiffs f_loadBeams f_loadSizes f_loadPlaces f_joints f_beams f_loads a2 v30 w41 w42 w43 hk44) cv_RX5_100 ⟨rfl, rfl, Nat.le_of_ble_eq_true rfl, Nat.le_of_ble_eq_true rfl⟩ ⟨Nat.zero_le _, Nat.zero_le _⟩ [2] [0, 1] [0, 1, 2] rfl rfl rfl rfl (by decide) rfl rfl rfl rfl rfl hl.1 (by simp only [List.map, List.sum_cons, List.sum_nil, Value.category]; decide) dX5_jointLine_111 (fun H locs hw => ?_)
                  refine lv_iconst (v := 1) hx hb dX5_jointLine_114 (by decide) ?_
                  obtain ⟨rfl, rfl, rfl, rfl, rfl, rfl, rfl, rfl, rfl, rfl⟩ := e10_ hf
                  exact r_zret C0 hw (Or.inr rfl) dX5_jointLine_115
                · have hf := if_t hc40 hf
                  refine lv_iconst (v := 0) hx hb dX5_jointLine_105 (by decide) ?_
                  obtain ⟨rfl, rfl, rfl, rfl, rfl, rfl, rfl, rfl, rfl, rfl⟩ := e10_ hf
                  exact r_zret C0 hw (Or.inl rfl) dX5_jointLine_106
              refine lv_if_eq (tgt := 92) hx hb dX5_jointLine_81 (by decide) (fun hc48 => ?_) (fun hc48 => ?_)
              · have hf := if_t hc48 hf
                refine lv_aload_n hx hb dX5_jointLine_92 rfl (lv_at hl 1 rfl) ?_
                refine r_get C0 hw 0 7 (v := .int w23) rfl rfl inX5 (by decide) lk_X5_94 rfl dX5_jointLine_93 ?_
                exact hj47 w23 H locs ls hw (lv_sub hl [1, 2, 3] rfl)  hf
              · have hf := if_f hc48 hf
                refine lv_aload_n hx hb dX5_jointLine_84 rfl (lv_at hl 1 rfl) ?_
                refine r_get C0 hw 0 7 (v := .int w23) rfl rfl inX5 (by decide) lk_X5_94 rfl dX5_jointLine_85 ?_
                refine lv_ineg hx hb dX5_jointLine_88 ?_
                refine lv_goto (tgt := 96) hx hb dX5_jointLine_89 (by decide) ?_
                exact hj47 (-w23) H locs ls hw (lv_sub hl [1, 2, 3] rfl)  hf
            · have hf := if_t hc29 hf
              refine lv_iconst (v := 0) hx hb dX5_jointLine_78 (by decide) ?_
              obtain ⟨rfl, rfl, rfl, rfl, rfl, rfl, rfl, rfl, rfl, rfl⟩ := e10_ hf
              exact r_zret C0 hw (Or.inl rfl) dX5_jointLine_79
          refine lv_if_eq (tgt := 67) hx hb dX5_jointLine_55 (by decide) (fun hc51 => ?_) (fun hc51 => ?_)
          · have hf := if_t hc51 hf
            exact hj50 w8 w9 w10 w11 w12 w13 H locs ls hw (lv_sub hl [0, 1, 2, 3] rfl)  hf
          · have hf := if_f hc51 hf
            refine lv_aload_n hx hb dX5_jointLine_58 rfl (lv_at hl 1 rfl) ?_
            obtain ⟨r52, w53, w54, w55, w56, w57, w58, hk59, hf⟩ := b7_s hf
            refine rv_i (vq := (RX5, TX5, 8)) (As := []) (rest := []) (bs' := [pTe κ qt (qp 0) t_lines w53 w54 w55 w56 w57 w58, pTa κ qp p_bytes p_size, pFr κ qf f_held f_couples f_endJoints f_lengths f_stiffs f_loadBeams f_loadSizes f_loadPlaces f_joints f_beams f_loads]) C0 hw (cTe_scan l D κ qt t_lines w8 w9 w10 w11 w12 w13 qp p_bytes p_size r52 w53 w54 w55 w56 w57 w58 hk59) cv_RX5_39 ⟨rfl, rfl, Nat.le_of_ble_eq_true rfl, Nat.le_of_ble_eq_true rfl⟩ ⟨Nat.zero_le _, Nat.zero_le _⟩ [0, 1] [2] [1, 2, 0] rfl rfl rfl rfl (by decide) rfl rfl rfl rfl rfl hl.1 (by simp only [List.map, List.sum_cons, List.sum_nil, Value.category]; decide) dX5_jointLine_59 (fun H locs hw hn60 => ?_)
            refine lv_if_ne (tgt := 67) hx hb dX5_jointLine_62 (by decide) (fun hc61 => ?_) (fun hc61 => ?_)
            · have hf := if_f hc61 hf
              exact hj50 w53 w54 w55 w56 w57 w58 H locs ls hw (lv_sub hl [0, 1, 2, 3] rfl)  hf
            · have hf := if_t hc61 hf
              refine lv_iconst (v := 0) hx hb dX5_jointLine_65 (by decide) ?_
              obtain ⟨rfl, rfl, rfl, rfl, rfl, rfl, rfl, rfl, rfl, rfl⟩ := e10_ hf
              exact r_zret C0 hw (Or.inl rfl) dX5_jointLine_66
        refine lv_icmp_ne (tgt := 52) hx hb dX5_jointLine_45 (by decide) (fun hc64 => ?_) (fun hc64 => ?_)
        · have hf := if_f hc64 hf
          refine lv_iconst (v := 0) hx hb dX5_jointLine_52 (by decide) ?_
          exact hj63 (0 : Int32) H locs ls hw (lv_sub hl [0, 1, 2] rfl)  hf
        · have hf := if_t hc64 hf
          refine lv_iconst (v := 1) hx hb dX5_jointLine_48 (by decide) ?_
          refine lv_goto (tgt := 53) hx hb dX5_jointLine_49 (by decide) ?_
          exact hj63 (1 : Int32) H locs ls hw (lv_sub hl [0, 1, 2] rfl)  hf
      · have hf := if_t hc16 hf
        refine lv_iconst (v := 0) hx hb dX5_jointLine_38 (by decide) ?_
        obtain ⟨rfl, rfl, rfl, rfl, rfl, rfl, rfl, rfl, rfl, rfl⟩ := e10_ hf
        exact r_zret C0 hw (Or.inl rfl) dX5_jointLine_39
    refine lv_if_ne (tgt := 31) hx hb dX5_jointLine_10 (by decide) (fun hc67 => ?_) (fun hc67 => ?_)
    · have hf := if_f hc67 hf
      exact hj66  H locs ls hw (lv_sub hl [0, 1, 2] rfl)  hf
    · have hf := if_t hc67 hf
      refine lv_aload_n hx hb dX5_jointLine_13 rfl (lv_at hl 1 rfl) ?_
      obtain ⟨r68, hk69, hf⟩ := b1_s hf
      refine rv_i (vq := (RX2, TX2, 11)) (As := []) (rest := []) (bs' := [pTe κ qt (qp 0) t_lines t_fault t_faultPlace t_kind t_start t_stop t_value, pTa κ qp p_bytes p_size, pFr κ qf f_held f_couples f_endJoints f_lengths f_stiffs f_loadBeams f_loadSizes f_loadPlaces f_joints f_beams f_loads]) C0 hw (cFr_turning l D κ qf f_held f_couples f_endJoints f_lengths f_stiffs f_loadBeams f_loadSizes f_loadPlaces f_joints f_beams f_loads r68 hk69) cv_RX5_87 ⟨rfl, rfl, Nat.le_of_ble_eq_true rfl, Nat.le_of_ble_eq_true rfl⟩ ⟨Nat.zero_le _, Nat.zero_le _⟩ [2] [0, 1] [0, 1, 2] rfl rfl rfl rfl (by decide) rfl rfl rfl rfl rfl hl.1 (by simp only [List.map, List.sum_cons, List.sum_nil, Value.category]; decide) dX5_jointLine_14 (fun H locs hw hn70 => ?_)
      refine lv_iconst (v := 4) hx hb dX5_jointLine_17 (by decide) ?_
      refine lv_icmp_lt (tgt := 31) hx hb dX5_jointLine_18 (by decide) (fun hc71 => ?_) (fun hc71 => ?_)
      · have hf := if_t hc71 hf
        exact hj66  H locs ls hw (lv_sub hl [0, 1, 2] rfl)  hf
      · have hf := if_f hc71 hf
        refine lv_aload_n hx hb dX5_jointLine_21 rfl (lv_at hl 0 rfl) ?_
        refine lv_iconst (v := 5) hx hb dX5_jointLine_22 (by decide) ?_
        refine lv_aload_n hx hb dX5_jointLine_23 rfl (lv_at hl 0 rfl) ?_
        refine r_get C0 hw 0 5 (v := .int t_start) rfl rfl inX5 (by decide) lk_X5_81 rfl dX5_jointLine_24 ?_
        obtain ⟨r72, w73, w74, hk75, hf⟩ := b3_s hf
        refine rv_i (vq := (RX5, TX5, 8)) (As := [.int (5 : Int32), .int t_start]) (rest := []) (bs' := [pTe κ qt (qp 0) t_lines w73 w74 t_kind t_start t_stop t_value, pTa κ qp p_bytes p_size, pFr κ qf f_held f_couples f_endJoints f_lengths f_stiffs f_loadBeams f_loadSizes f_loadPlaces f_joints f_beams f_loads]) C0 hw (cTe_fail l D κ qt t_lines t_fault t_faultPlace t_kind t_start t_stop t_value qp p_bytes p_size (5 : Int32) t_start r72 w73 w74 hk75) cv_RX5_53 ⟨rfl, rfl, Nat.le_of_ble_eq_true rfl, Nat.le_of_ble_eq_true rfl⟩ ⟨Nat.zero_le _, Nat.zero_le _⟩ [0, 1] [2] [1, 2, 0] rfl rfl rfl rfl (by decide) rfl rfl rfl rfl rfl hl.1 (by simp only [List.map, List.sum_cons, List.sum_nil, Value.category]; decide) dX5_jointLine_27 (fun H locs hw hn76 => ?_)
        obtain ⟨rfl, rfl, rfl, rfl, rfl, rfl, rfl, rfl, rfl, rfl⟩ := e10_ hf
        exact r_zret C0 hw hn76 dX5_jointLine_30
def FTe_beamLine (t_fault t_faultPlace t_kind t_start t_stop t_value : Int32) (p_bytes : Nat → Int32) (p_size : Int32) (f_endJoints f_lengths f_stiffs : Nat → Int32) (f_beams : Int32) : Option (Int32 × Int32 × Int32 × Int32 × Int32 × Int32 × Int32 × (Nat → Int32) × (Nat → Int32) × (Nat → Int32) × Int32) :=
  if f_beams < (10 : Int32) then
    b7_ (FTe_number t_fault t_faultPlace t_kind t_stop t_value p_bytes p_size (0 : Int32) (5 : Int32)) fun r2 w3 w4 w5 w6 w7 w8 =>
    if r2 = 0 then
      some ((0 : Int32), w3, w4, w5, w6, w7, w8, f_endJoints, f_lengths, f_stiffs, f_beams)
    else
      b7_ (FTe_number w3 w4 w5 w7 w8 p_bytes p_size (0 : Int32) (5 : Int32)) fun r12 w13 w14 w15 w16 w17 w18 =>
      if r12 = 0 then
        some ((0 : Int32), w13, w14, w15, w16, w17, w18, f_endJoints, f_lengths, f_stiffs, f_beams)
      else
        if w18 = w8 then
          b3_ (FTe_fail (4 : Int32) w16) fun r72 w73 w74 =>
          some (r72, w73, w74, w15, w16, w17, w18, f_endJoints, f_lengths, f_stiffs, f_beams)
        else
          b7_ (FTe_number w13 w14 w15 w17 w18 p_bytes p_size (1 : Int32) (12 : Int32)) fun r23 w24 w25 w26 w27 w28 w29 =>
          if r23 = 0 then
            some ((0 : Int32), w24, w25, w26, w27, w28, w29, f_endJoints, f_lengths, f_stiffs, f_beams)
          else
            if w29 < (1 : Int32) then
              b3_ (FTe_fail (3 : Int32) w27) fun r34 w35 w36 =>
              some (r34, w35, w36, w26, w27, w28, w29, f_endJoints, f_lengths, f_stiffs, f_beams)
            else
              dz_ w29 <|
              if ((12 : Int32) - (12 : Int32) / w29 * w29) = 0 then
                b7_ (FTe_number w24 w25 w26 w28 w29 p_bytes p_size (1 : Int32) (10 : Int32)) fun r41 w42 w43 w44 w45 w46 w47 =>
                if r41 = 0 then
                  some ((0 : Int32), w42, w43, w44, w45, w46, w47, f_endJoints, f_lengths, f_stiffs, f_beams)
                else
                  b7_ (FTe_semicolon w42 w43 w44 w46 w47 p_bytes p_size) fun r51 w52 w53 w54 w55 w56 w57 =>
                  if r51 = 0 then
                    some ((0 : Int32), w52, w53, w54, w55, w56, w57, f_endJoints, f_lengths, f_stiffs, f_beams)
                  else
                    b4_ (FFr_addBeam f_endJoints f_lengths f_stiffs f_beams w8 w18 w29 w47) fun w61 w62 w63 w64 =>
                    some ((1 : Int32), w52, w53, w54, w55, w56, w57, w61, w62, w63, w64)
              else
                b3_ (FTe_fail (3 : Int32) w27) fun r67 w68 w69 =>
                some (r67, w68, w69, w26, w27, w28, w29, f_endJoints, f_lengths, f_stiffs, f_beams)
  else
    b3_ (FTe_fail (5 : Int32) t_start) fun r77 w78 w79 =>
    some (r77, w78, w79, t_kind, t_start, t_stop, t_value, f_endJoints, f_lengths, f_stiffs, f_beams)
set_option maxHeartbeats 4000000 in
set_option maxRecDepth 100000 in
theorem cTe_beamLine (l : Launch) (D : va_G) (κ : Nat → ClassId) (qt : Nat → Nat) (t_lines t_fault t_faultPlace t_kind t_start t_stop t_value : Int32) (qp : Nat → Nat) (p_bytes : Nat → Int32) (p_size : Int32) (qf : Nat → Nat) (f_held f_couples f_endJoints f_lengths f_stiffs f_loadBeams f_loadSizes f_loadPlaces : Nat → Int32) (f_joints f_beams f_loads zr z1 z2 z3 z4 z5 z6 : Int32) (z7 z8 z9 : Nat → Int32) (z10 : Int32) (hf : FTe_beamLine t_fault t_faultPlace t_kind t_start t_stop t_value p_bytes p_size f_endJoints f_lengths f_stiffs f_beams = some (zr, z1, z2, z3, z4, z5, z6, z7, z8, z9, z10)) : mI_ l yX5_beamLine (Cond.code yX5_beamLine cX5_beamLine 6 (some .boolean) :: uw) ({ frames := 3, cells := 0, slots := 0, locals := 66 } : Room) D (tys0 κ) [.ref (qt 0), .ref (qf 0)] (List.flatten [pTe κ qt (qp 0) t_lines t_fault t_faultPlace t_kind t_start t_stop t_value, pTa κ qp p_bytes p_size, pFr κ qf f_held f_couples f_endJoints f_lengths f_stiffs f_loadBeams f_loadSizes f_loadPlaces f_joints f_beams f_loads]) nB_ zr (List.flatten [pTe κ qt (qp 0) t_lines z1 z2 z3 z4 z5 z6, pTa κ qp p_bytes p_size, pFr κ qf f_held f_couples z7 z8 z9 f_loadBeams f_loadSizes f_loadPlaces f_joints z10 f_loads]) := by
  unfold FTe_beamLine at hf
  refine mI_of (by decide) (Nat.le_of_ble_eq_true rfl) ?_
  intro p e s m below meth c A ls H locs C0 hw hl
  obtain ⟨hx, hb, -, hml, hown, hts, -, -⟩ := id C0
  have hl : lv_has ls 6 [(0, .ref (qt 0)), (1, .ref (qf 0))] := hl
  refine lv_aload_n hx hb dX5_beamLine_0 rfl (lv_at hl 1 rfl) ?_
  refine r_get C0 hw 3 9 (v := .int f_beams) rfl rfl inX2 (by decide) lk_X5_104 rfl dX5_beamLine_1 ?_
  refine lv_bipush (v := 10) hx hb dX5_beamLine_4 (by decide) ?_
  refine lv_icmp_lt (tgt := 19) hx hb dX5_beamLine_6 (by decide) (fun hc1 => ?_) (fun hc1 => ?_)
  · have hf := if_t hc1 hf
    refine lv_aload_n hx hb dX5_beamLine_19 rfl (lv_at hl 0 rfl) ?_
    refine lv_iconst (v := 0) hx hb dX5_beamLine_20 (by decide) ?_
    refine lv_iconst (v := 5) hx hb dX5_beamLine_21 (by decide) ?_
    obtain ⟨r2, w3, w4, w5, w6, w7, w8, hk9, hf⟩ := b7_s hf
    refine rv_i (vq := (RX5, TX5, 8)) (As := [.int (0 : Int32), .int (5 : Int32)]) (rest := []) (bs' := [pTe κ qt (qp 0) t_lines w3 w4 w5 w6 w7 w8, pTa κ qp p_bytes p_size, pFr κ qf f_held f_couples f_endJoints f_lengths f_stiffs f_loadBeams f_loadSizes f_loadPlaces f_joints f_beams f_loads]) C0 hw (cTe_number l D κ qt t_lines t_fault t_faultPlace t_kind t_start t_stop t_value qp p_bytes p_size (0 : Int32) (5 : Int32) r2 w3 w4 w5 w6 w7 w8 hk9) cv_RX5_107 ⟨rfl, rfl, Nat.le_of_ble_eq_true rfl, Nat.le_of_ble_eq_true rfl⟩ ⟨Nat.zero_le _, Nat.zero_le _⟩ [0, 1] [2] [1, 2, 0] rfl rfl rfl rfl (by decide) rfl rfl rfl rfl rfl hl.1 (by simp only [List.map, List.sum_cons, List.sum_nil, Value.category]; decide) dX5_beamLine_22 (fun H locs hw hn10 => ?_)
    refine lv_if_ne (tgt := 30) hx hb dX5_beamLine_25 (by decide) (fun hc11 => ?_) (fun hc11 => ?_)
    · have hf := if_f hc11 hf
      refine lv_aload_n hx hb dX5_beamLine_30 rfl (lv_at hl 0 rfl) ?_
      refine r_get C0 hw 0 7 (v := .int w8) rfl rfl inX5 (by decide) lk_X5_94 rfl dX5_beamLine_31 ?_
      refine lv_istore_n (lv' := [(2, .int w8), (0, .ref (qt 0)), (1, .ref (qf 0))]) hx hb dX5_beamLine_34 rfl hl (by decide) rfl (fun ls hl => ?_)
      refine lv_aload_n hx hb dX5_beamLine_35 rfl (lv_at hl 1 rfl) ?_
      refine lv_iconst (v := 0) hx hb dX5_beamLine_36 (by decide) ?_
      refine lv_iconst (v := 5) hx hb dX5_beamLine_37 (by decide) ?_
      obtain ⟨r12, w13, w14, w15, w16, w17, w18, hk19, hf⟩ := b7_s hf
      refine rv_i (vq := (RX5, TX5, 8)) (As := [.int (0 : Int32), .int (5 : Int32)]) (rest := []) (bs' := [pTe κ qt (qp 0) t_lines w13 w14 w15 w16 w17 w18, pTa κ qp p_bytes p_size, pFr κ qf f_held f_couples f_endJoints f_lengths f_stiffs f_loadBeams f_loadSizes f_loadPlaces f_joints f_beams f_loads]) C0 hw (cTe_number l D κ qt t_lines w3 w4 w5 w6 w7 w8 qp p_bytes p_size (0 : Int32) (5 : Int32) r12 w13 w14 w15 w16 w17 w18 hk19) cv_RX5_107 ⟨rfl, rfl, Nat.le_of_ble_eq_true rfl, Nat.le_of_ble_eq_true rfl⟩ ⟨Nat.zero_le _, Nat.zero_le _⟩ [0, 1] [2] [1, 2, 0] rfl rfl rfl rfl (by decide) rfl rfl rfl rfl rfl hl.1 (by simp only [List.map, List.sum_cons, List.sum_nil, Value.category]; decide) dX5_beamLine_38 (fun H locs hw hn20 => ?_)
      refine lv_if_ne (tgt := 46) hx hb dX5_beamLine_41 (by decide) (fun hc21 => ?_) (fun hc21 => ?_)
      · have hf := if_f hc21 hf
        refine lv_aload_n hx hb dX5_beamLine_46 rfl (lv_at hl 1 rfl) ?_
        refine r_get C0 hw 0 7 (v := .int w18) rfl rfl inX5 (by decide) lk_X5_94 rfl dX5_beamLine_47 ?_
        refine lv_istore_n (lv' := [(3, .int w18), (2, .int w8), (0, .ref (qt 0)), (1, .ref (qf 0))]) hx hb dX5_beamLine_50 rfl hl (by decide) rfl (fun ls hl => ?_)
        refine lv_iload_n hx hb dX5_beamLine_51 rfl (lv_at hl 0 rfl) ?_
        refine lv_iload_n hx hb dX5_beamLine_52 rfl (lv_at hl 1 rfl) ?_
        refine lv_icmp_ne (tgt := 66) hx hb dX5_beamLine_53 (by decide) (fun hc22 => ?_) (fun hc22 => ?_)
        · have hf := if_f hc22 hf
          refine lv_aload_n hx hb dX5_beamLine_66 rfl (lv_at hl 2 rfl) ?_
          refine lv_iconst (v := 1) hx hb dX5_beamLine_67 (by decide) ?_
          refine lv_bipush (v := 12) hx hb dX5_beamLine_68 (by decide) ?_
          obtain ⟨r23, w24, w25, w26, w27, w28, w29, hk30, hf⟩ := b7_s hf
          refine rv_i (vq := (RX5, TX5, 8)) (As := [.int (1 : Int32), .int (12 : Int32)]) (rest := []) (bs' := [pTe κ qt (qp 0) t_lines w24 w25 w26 w27 w28 w29, pTa κ qp p_bytes p_size, pFr κ qf f_held f_couples f_endJoints f_lengths f_stiffs f_loadBeams f_loadSizes f_loadPlaces f_joints f_beams f_loads]) C0 hw (cTe_number l D κ qt t_lines w13 w14 w15 w16 w17 w18 qp p_bytes p_size (1 : Int32) (12 : Int32) r23 w24 w25 w26 w27 w28 w29 hk30) cv_RX5_107 ⟨rfl, rfl, Nat.le_of_ble_eq_true rfl, Nat.le_of_ble_eq_true rfl⟩ ⟨Nat.zero_le _, Nat.zero_le _⟩ [0, 1] [2] [1, 2, 0] rfl rfl rfl rfl (by decide) rfl rfl rfl rfl rfl hl.1 (by simp only [List.map, List.sum_cons, List.sum_nil, Value.category]; decide) dX5_beamLine_70 (fun H locs hw hn31 => ?_)
          refine lv_if_ne (tgt := 78) hx hb dX5_beamLine_73 (by decide) (fun hc32 => ?_) (fun hc32 => ?_)
          · have hf := if_f hc32 hf
            refine lv_aload_n hx hb dX5_beamLine_78 rfl (lv_at hl 2 rfl) ?_
            refine r_get C0 hw 0 7 (v := .int w29) rfl rfl inX5 (by decide) lk_X5_94 rfl dX5_beamLine_79 ?_
            refine lv_istore (lv' := [(4, .int w29), (3, .int w18), (2, .int w8), (0, .ref (qt 0)), (1, .ref (qf 0))]) hx hb dX5_beamLine_82 hl (by decide) rfl (fun ls hl => ?_)
            refine lv_iload hx hb dX5_beamLine_84 (lv_at hl 0 rfl) ?_
            refine lv_iconst (v := 1) hx hb dX5_beamLine_86 (by decide) ?_
            refine lv_icmp_lt (tgt := 98) hx hb dX5_beamLine_87 (by decide) (fun hc33 => ?_) (fun hc33 => ?_)
            · have hf := if_t hc33 hf
              refine lv_aload_n hx hb dX5_beamLine_98 rfl (lv_at hl 3 rfl) ?_
              refine lv_iconst (v := 3) hx hb dX5_beamLine_99 (by decide) ?_
              refine lv_aload_n hx hb dX5_beamLine_100 rfl (lv_at hl 3 rfl) ?_
              refine r_get C0 hw 0 5 (v := .int w27) rfl rfl inX5 (by decide) lk_X5_81 rfl dX5_beamLine_101 ?_
              obtain ⟨r34, w35, w36, hk37, hf⟩ := b3_s hf
              refine rv_i (vq := (RX5, TX5, 8)) (As := [.int (3 : Int32), .int w27]) (rest := []) (bs' := [pTe κ qt (qp 0) t_lines w35 w36 w26 w27 w28 w29, pTa κ qp p_bytes p_size, pFr κ qf f_held f_couples f_endJoints f_lengths f_stiffs f_loadBeams f_loadSizes f_loadPlaces f_joints f_beams f_loads]) C0 hw (cTe_fail l D κ qt t_lines w24 w25 w26 w27 w28 w29 qp p_bytes p_size (3 : Int32) w27 r34 w35 w36 hk37) cv_RX5_53 ⟨rfl, rfl, Nat.le_of_ble_eq_true rfl, Nat.le_of_ble_eq_true rfl⟩ ⟨Nat.zero_le _, Nat.zero_le _⟩ [0, 1] [2] [1, 2, 0] rfl rfl rfl rfl (by decide) rfl rfl rfl rfl rfl hl.1 (by simp only [List.map, List.sum_cons, List.sum_nil, Value.category]; decide) dX5_beamLine_104 (fun H locs hw hn38 => ?_)
              obtain ⟨rfl, rfl, rfl, rfl, rfl, rfl, rfl, rfl, rfl, rfl, rfl⟩ := e11_ hf
              exact r_zret C0 hw hn38 dX5_beamLine_107
            · have hf := if_f hc33 hf
              refine lv_bipush (v := 12) hx hb dX5_beamLine_90 (by decide) ?_
              refine lv_iload hx hb dX5_beamLine_92 (lv_at hl 0 rfl) ?_
              obtain ⟨hz39, hf⟩ := dz_s hf
              refine lv_irem hx hb dX5_beamLine_94 hz39 ?_
              refine lv_if_eq (tgt := 108) hx hb dX5_beamLine_95 (by decide) (fun hc40 => ?_) (fun hc40 => ?_)
              · have hf := if_t hc40 hf
                refine lv_aload_n hx hb dX5_beamLine_108 rfl (lv_at hl 3 rfl) ?_
                refine lv_iconst (v := 1) hx hb dX5_beamLine_109 (by decide) ?_
                refine lv_bipush (v := 10) hx hb dX5_beamLine_110 (by decide) ?_
                obtain ⟨r41, w42, w43, w44, w45, w46, w47, hk48, hf⟩ := b7_s hf
                refine rv_i (vq := (RX5, TX5, 8)) (As := [.int (1 : Int32), .int (10 : Int32)]) (rest := []) (bs' := [pTe κ qt (qp 0) t_lines w42 w43 w44 w45 w46 w47, pTa κ qp p_bytes p_size, pFr κ qf f_held f_couples f_endJoints f_lengths f_stiffs f_loadBeams f_loadSizes f_loadPlaces f_joints f_beams f_loads]) C0 hw (cTe_number l D κ qt t_lines w24 w25 w26 w27 w28 w29 qp p_bytes p_size (1 : Int32) (10 : Int32) r41 w42 w43 w44 w45 w46 w47 hk48) cv_RX5_107 ⟨rfl, rfl, Nat.le_of_ble_eq_true rfl, Nat.le_of_ble_eq_true rfl⟩ ⟨Nat.zero_le _, Nat.zero_le _⟩ [0, 1] [2] [1, 2, 0] rfl rfl rfl rfl (by decide) rfl rfl rfl rfl rfl hl.1 (by simp only [List.map, List.sum_cons, List.sum_nil, Value.category]; decide) dX5_beamLine_112 (fun H locs hw hn49 => ?_)
                refine lv_if_ne (tgt := 120) hx hb dX5_beamLine_115 (by decide) (fun hc50 => ?_) (fun hc50 => ?_)
                · have hf := if_f hc50 hf
                  refine lv_aload_n hx hb dX5_beamLine_120 rfl (lv_at hl 3 rfl) ?_
                  refine r_get C0 hw 0 7 (v := .int w47) rfl rfl inX5 (by decide) lk_X5_94 rfl dX5_beamLine_121 ?_
                  refine lv_istore (lv' := [(5, .int w47), (4, .int w29), (3, .int w18), (2, .int w8), (0, .ref (qt 0)), (1, .ref (qf 0))]) hx hb dX5_beamLine_124 hl (by decide) rfl (fun ls hl => ?_)
                  refine lv_aload_n hx hb dX5_beamLine_126 rfl (lv_at hl 4 rfl) ?_
                  obtain ⟨r51, w52, w53, w54, w55, w56, w57, hk58, hf⟩ := b7_s hf
                  refine rv_i (vq := (RX5, TX5, 8)) (As := []) (rest := []) (bs' := [pTe κ qt (qp 0) t_lines w52 w53 w54 w55 w56 w57, pTa κ qp p_bytes p_size, pFr κ qf f_held f_couples f_endJoints f_lengths f_stiffs f_loadBeams f_loadSizes f_loadPlaces f_joints f_beams f_loads]) C0 hw (cTe_semicolon l D κ qt t_lines w42 w43 w44 w45 w46 w47 qp p_bytes p_size r51 w52 w53 w54 w55 w56 w57 hk58) cv_RX5_97 ⟨rfl, rfl, Nat.le_of_ble_eq_true rfl, Nat.le_of_ble_eq_true rfl⟩ ⟨Nat.zero_le _, Nat.zero_le _⟩ [0, 1] [2] [1, 2, 0] rfl rfl rfl rfl (by decide) rfl rfl rfl rfl rfl hl.1 (by simp only [List.map, List.sum_cons, List.sum_nil, Value.category]; decide) dX5_beamLine_127 (fun H locs hw hn59 => ?_)
                  refine lv_if_ne (tgt := 135) hx hb dX5_beamLine_130 (by decide) (fun hc60 => ?_) (fun hc60 => ?_)
                  · have hf := if_f hc60 hf
                    refine lv_aload_n hx hb dX5_beamLine_135 rfl (lv_at hl 5 rfl) ?_
                    refine lv_iload_n hx hb dX5_beamLine_136 rfl (lv_at hl 3 rfl) ?_
                    refine lv_iload_n hx hb dX5_beamLine_137 rfl (lv_at hl 2 rfl) ?_
                    refine lv_iload hx hb dX5_beamLine_138 (lv_at hl 1 rfl) ?_
                    refine lv_iload hx hb dX5_beamLine_140 (lv_at hl 0 rfl) ?_
                    obtain ⟨w61, w62, w63, w64, hk65, hf⟩ := b4_s hf
                    refine rv_v (vq := (RX2, TX2, 11)) (As := [.int w8, .int w18, .int w29, .int w47]) (rest := []) (bs' := [pTe κ qt (qp 0) t_lines w52 w53 w54 w55 w56 w57, pTa κ qp p_bytes p_size, pFr κ qf f_held f_couples w61 w62 w63 f_loadBeams f_loadSizes f_loadPlaces f_joints w64 f_loads]) C0 hw (cFr_addBeam l D κ qf f_held f_couples f_endJoints f_lengths f_stiffs f_loadBeams f_loadSizes f_loadPlaces f_joints f_beams f_loads w8 w18 w29 w47 w61 w62 w63 w64 hk65) cv_RX5_110 ⟨rfl, rfl, Nat.le_of_ble_eq_true rfl, Nat.le_of_ble_eq_true rfl⟩ ⟨Nat.zero_le _, Nat.zero_le _⟩ [2] [0, 1] [0, 1, 2] rfl rfl rfl rfl (by decide) rfl rfl rfl rfl rfl hl.1 (by simp only [List.map, List.sum_cons, List.sum_nil, Value.category]; decide) dX5_beamLine_142 (fun H locs hw => ?_)
                    refine lv_iconst (v := 1) hx hb dX5_beamLine_145 (by decide) ?_
                    obtain ⟨rfl, rfl, rfl, rfl, rfl, rfl, rfl, rfl, rfl, rfl, rfl⟩ := e11_ hf
                    exact r_zret C0 hw (Or.inr rfl) dX5_beamLine_146
                  · have hf := if_t hc60 hf
                    refine lv_iconst (v := 0) hx hb dX5_beamLine_133 (by decide) ?_
                    obtain ⟨rfl, rfl, rfl, rfl, rfl, rfl, rfl, rfl, rfl, rfl, rfl⟩ := e11_ hf
                    exact r_zret C0 hw (Or.inl rfl) dX5_beamLine_134
                · have hf := if_t hc50 hf
                  refine lv_iconst (v := 0) hx hb dX5_beamLine_118 (by decide) ?_
                  obtain ⟨rfl, rfl, rfl, rfl, rfl, rfl, rfl, rfl, rfl, rfl, rfl⟩ := e11_ hf
                  exact r_zret C0 hw (Or.inl rfl) dX5_beamLine_119
              · have hf := if_f hc40 hf
                refine lv_aload_n hx hb dX5_beamLine_98 rfl (lv_at hl 3 rfl) ?_
                refine lv_iconst (v := 3) hx hb dX5_beamLine_99 (by decide) ?_
                refine lv_aload_n hx hb dX5_beamLine_100 rfl (lv_at hl 3 rfl) ?_
                refine r_get C0 hw 0 5 (v := .int w27) rfl rfl inX5 (by decide) lk_X5_81 rfl dX5_beamLine_101 ?_
                obtain ⟨r67, w68, w69, hk70, hf⟩ := b3_s hf
                refine rv_i (vq := (RX5, TX5, 8)) (As := [.int (3 : Int32), .int w27]) (rest := []) (bs' := [pTe κ qt (qp 0) t_lines w68 w69 w26 w27 w28 w29, pTa κ qp p_bytes p_size, pFr κ qf f_held f_couples f_endJoints f_lengths f_stiffs f_loadBeams f_loadSizes f_loadPlaces f_joints f_beams f_loads]) C0 hw (cTe_fail l D κ qt t_lines w24 w25 w26 w27 w28 w29 qp p_bytes p_size (3 : Int32) w27 r67 w68 w69 hk70) cv_RX5_53 ⟨rfl, rfl, Nat.le_of_ble_eq_true rfl, Nat.le_of_ble_eq_true rfl⟩ ⟨Nat.zero_le _, Nat.zero_le _⟩ [0, 1] [2] [1, 2, 0] rfl rfl rfl rfl (by decide) rfl rfl rfl rfl rfl hl.1 (by simp only [List.map, List.sum_cons, List.sum_nil, Value.category]; decide) dX5_beamLine_104 (fun H locs hw hn71 => ?_)
                obtain ⟨rfl, rfl, rfl, rfl, rfl, rfl, rfl, rfl, rfl, rfl, rfl⟩ := e11_ hf
                exact r_zret C0 hw hn71 dX5_beamLine_107
          · have hf := if_t hc32 hf
            refine lv_iconst (v := 0) hx hb dX5_beamLine_76 (by decide) ?_
            obtain ⟨rfl, rfl, rfl, rfl, rfl, rfl, rfl, rfl, rfl, rfl, rfl⟩ := e11_ hf
            exact r_zret C0 hw (Or.inl rfl) dX5_beamLine_77
        · have hf := if_t hc22 hf
          refine lv_aload_n hx hb dX5_beamLine_56 rfl (lv_at hl 2 rfl) ?_
          refine lv_iconst (v := 4) hx hb dX5_beamLine_57 (by decide) ?_
          refine lv_aload_n hx hb dX5_beamLine_58 rfl (lv_at hl 2 rfl) ?_
          refine r_get C0 hw 0 5 (v := .int w16) rfl rfl inX5 (by decide) lk_X5_81 rfl dX5_beamLine_59 ?_
          obtain ⟨r72, w73, w74, hk75, hf⟩ := b3_s hf
          refine rv_i (vq := (RX5, TX5, 8)) (As := [.int (4 : Int32), .int w16]) (rest := []) (bs' := [pTe κ qt (qp 0) t_lines w73 w74 w15 w16 w17 w18, pTa κ qp p_bytes p_size, pFr κ qf f_held f_couples f_endJoints f_lengths f_stiffs f_loadBeams f_loadSizes f_loadPlaces f_joints f_beams f_loads]) C0 hw (cTe_fail l D κ qt t_lines w13 w14 w15 w16 w17 w18 qp p_bytes p_size (4 : Int32) w16 r72 w73 w74 hk75) cv_RX5_53 ⟨rfl, rfl, Nat.le_of_ble_eq_true rfl, Nat.le_of_ble_eq_true rfl⟩ ⟨Nat.zero_le _, Nat.zero_le _⟩ [0, 1] [2] [1, 2, 0] rfl rfl rfl rfl (by decide) rfl rfl rfl rfl rfl hl.1 (by simp only [List.map, List.sum_cons, List.sum_nil, Value.category]; decide) dX5_beamLine_62 (fun H locs hw hn76 => ?_)
          obtain ⟨rfl, rfl, rfl, rfl, rfl, rfl, rfl, rfl, rfl, rfl, rfl⟩ := e11_ hf
          exact r_zret C0 hw hn76 dX5_beamLine_65
      · have hf := if_t hc21 hf
        refine lv_iconst (v := 0) hx hb dX5_beamLine_44 (by decide) ?_
        obtain ⟨rfl, rfl, rfl, rfl, rfl, rfl, rfl, rfl, rfl, rfl, rfl⟩ := e11_ hf
        exact r_zret C0 hw (Or.inl rfl) dX5_beamLine_45
    · have hf := if_t hc11 hf
      refine lv_iconst (v := 0) hx hb dX5_beamLine_28 (by decide) ?_
      obtain ⟨rfl, rfl, rfl, rfl, rfl, rfl, rfl, rfl, rfl, rfl, rfl⟩ := e11_ hf
      exact r_zret C0 hw (Or.inl rfl) dX5_beamLine_29
  · have hf := if_f hc1 hf
    refine lv_aload_n hx hb dX5_beamLine_9 rfl (lv_at hl 0 rfl) ?_
    refine lv_iconst (v := 5) hx hb dX5_beamLine_10 (by decide) ?_
    refine lv_aload_n hx hb dX5_beamLine_11 rfl (lv_at hl 0 rfl) ?_
    refine r_get C0 hw 0 5 (v := .int t_start) rfl rfl inX5 (by decide) lk_X5_81 rfl dX5_beamLine_12 ?_
    obtain ⟨r77, w78, w79, hk80, hf⟩ := b3_s hf
    refine rv_i (vq := (RX5, TX5, 8)) (As := [.int (5 : Int32), .int t_start]) (rest := []) (bs' := [pTe κ qt (qp 0) t_lines w78 w79 t_kind t_start t_stop t_value, pTa κ qp p_bytes p_size, pFr κ qf f_held f_couples f_endJoints f_lengths f_stiffs f_loadBeams f_loadSizes f_loadPlaces f_joints f_beams f_loads]) C0 hw (cTe_fail l D κ qt t_lines t_fault t_faultPlace t_kind t_start t_stop t_value qp p_bytes p_size (5 : Int32) t_start r77 w78 w79 hk80) cv_RX5_53 ⟨rfl, rfl, Nat.le_of_ble_eq_true rfl, Nat.le_of_ble_eq_true rfl⟩ ⟨Nat.zero_le _, Nat.zero_le _⟩ [0, 1] [2] [1, 2, 0] rfl rfl rfl rfl (by decide) rfl rfl rfl rfl rfl hl.1 (by simp only [List.map, List.sum_cons, List.sum_nil, Value.category]; decide) dX5_beamLine_15 (fun H locs hw hn81 => ?_)
    obtain ⟨rfl, rfl, rfl, rfl, rfl, rfl, rfl, rfl, rfl, rfl, rfl⟩ := e11_ hf
    exact r_zret C0 hw hn81 dX5_beamLine_18
def FTe_loadLine (t_fault t_faultPlace t_kind t_start t_stop t_value : Int32) (p_bytes : Nat → Int32) (p_size : Int32) (f_loadBeams f_loadSizes f_loadPlaces : Nat → Int32) (f_loads a2 : Int32) : Option (Int32 × Int32 × Int32 × Int32 × Int32 × Int32 × Int32 × (Nat → Int32) × (Nat → Int32) × (Nat → Int32) × Int32) :=
  if f_loads < (8 : Int32) then
    b7_ (FTe_number t_fault t_faultPlace t_kind t_stop t_value p_bytes p_size (0 : Int32) (9 : Int32)) fun r2 w3 w4 w5 w6 w7 w8 =>
    if r2 = 0 then
      some ((0 : Int32), w3, w4, w5, w6, w7, w8, f_loadBeams, f_loadSizes, f_loadPlaces, f_loads)
    else
      lt_ (fun (v12 : Int32) =>
        b7_ (FTe_number w3 w4 w5 w7 w8 p_bytes p_size (1 : Int32) v12) fun r13 w14 w15 w16 w17 w18 w19 =>
        if r13 = 0 then
          some ((0 : Int32), w14, w15, w16, w17, w18, w19, f_loadBeams, f_loadSizes, f_loadPlaces, f_loads)
        else
          lt_ (fun (w23 : Int32) (w24 : Int32) (w25 : Int32) (w26 : Int32) (w27 : Int32) (w28 : Int32) =>
            lt_ (fun (v29 : Int32) =>
              b7_ (FTe_semicolon w23 w24 w25 w27 w28 p_bytes p_size) fun r30 w31 w32 w33 w34 w35 w36 =>
              if r30 = 0 then
                some ((0 : Int32), w31, w32, w33, w34, w35, w36, f_loadBeams, f_loadSizes, f_loadPlaces, f_loads)
              else
                b4_ (FFr_addLoad f_loadBeams f_loadSizes f_loadPlaces f_loads w8 w19 v29) fun w40 w41 w42 w43 =>
                some ((1 : Int32), w31, w32, w33, w34, w35, w36, w40, w41, w42, w43) : Int32 → Option (Int32 × Int32 × Int32 × Int32 × Int32 × Int32 × Int32 × (Nat → Int32) × (Nat → Int32) × (Nat → Int32) × Int32)) fun j46 =>
            if a2 = 0 then
              j46 (0 : Int32)
            else
              j46 w28 : Int32 → Int32 → Int32 → Int32 → Int32 → Int32 → Option (Int32 × Int32 × Int32 × Int32 × Int32 × Int32 × Int32 × (Nat → Int32) × (Nat → Int32) × (Nat → Int32) × Int32)) fun j49 =>
          if a2 = 0 then
            j49 w14 w15 w16 w17 w18 w19
          else
            b7_ (FTe_number w14 w15 w16 w18 w19 p_bytes p_size (1 : Int32) (11 : Int32)) fun r52 w53 w54 w55 w56 w57 w58 =>
            if r52 = 0 then
              some ((0 : Int32), w53, w54, w55, w56, w57, w58, f_loadBeams, f_loadSizes, f_loadPlaces, f_loads)
            else
              j49 w53 w54 w55 w56 w57 w58 : Int32 → Option (Int32 × Int32 × Int32 × Int32 × Int32 × Int32 × Int32 × (Nat → Int32) × (Nat → Int32) × (Nat → Int32) × Int32)) fun j62 =>
      if a2 = 0 then
        j62 (99 : Int32)
      else
        j62 (999 : Int32)
  else
    b3_ (FTe_fail (5 : Int32) t_start) fun r65 w66 w67 =>
    some (r65, w66, w67, t_kind, t_start, t_stop, t_value, f_loadBeams, f_loadSizes, f_loadPlaces, f_loads)
set_option maxHeartbeats 4000000 in
set_option maxRecDepth 100000 in
theorem cTe_loadLine (l : Launch) (D : va_G) (κ : Nat → ClassId) (qt : Nat → Nat) (t_lines t_fault t_faultPlace t_kind t_start t_stop t_value : Int32) (qp : Nat → Nat) (p_bytes : Nat → Int32) (p_size : Int32) (qf : Nat → Nat) (f_held f_couples f_endJoints f_lengths f_stiffs f_loadBeams f_loadSizes f_loadPlaces : Nat → Int32) (f_joints f_beams f_loads a2 zr z1 z2 z3 z4 z5 z6 : Int32) (z7 z8 z9 : Nat → Int32) (z10 : Int32) (hf : FTe_loadLine t_fault t_faultPlace t_kind t_start t_stop t_value p_bytes p_size f_loadBeams f_loadSizes f_loadPlaces f_loads a2 = some (zr, z1, z2, z3, z4, z5, z6, z7, z8, z9, z10)) : mI_ l yX5_loadLine (Cond.code yX5_loadLine cX5_loadLine 6 (some .boolean) :: uw) ({ frames := 3, cells := 0, slots := 0, locals := 66 } : Room) D (tys0 κ) [.ref (qt 0), .ref (qf 0), .int a2] (List.flatten [pTe κ qt (qp 0) t_lines t_fault t_faultPlace t_kind t_start t_stop t_value, pTa κ qp p_bytes p_size, pFr κ qf f_held f_couples f_endJoints f_lengths f_stiffs f_loadBeams f_loadSizes f_loadPlaces f_joints f_beams f_loads]) nB_ zr (List.flatten [pTe κ qt (qp 0) t_lines z1 z2 z3 z4 z5 z6, pTa κ qp p_bytes p_size, pFr κ qf f_held f_couples f_endJoints f_lengths f_stiffs z7 z8 z9 f_joints f_beams z10]) := by
  unfold FTe_loadLine at hf
  refine mI_of (by decide) (Nat.le_of_ble_eq_true rfl) ?_
  intro p e s m below meth c A ls H locs C0 hw hl
  obtain ⟨hx, hb, -, hml, hown, hts, -, -⟩ := id C0
  have hl : lv_has ls 6 [(0, .ref (qt 0)), (1, .ref (qf 0)), (2, .int a2)] := hl
  refine lv_aload_n hx hb dX5_loadLine_0 rfl (lv_at hl 1 rfl) ?_
  refine r_get C0 hw 3 10 (v := .int f_loads) rfl rfl inX2 (by decide) lk_X5_114 rfl dX5_loadLine_1 ?_
  refine lv_bipush (v := 8) hx hb dX5_loadLine_4 (by decide) ?_
  refine lv_icmp_lt (tgt := 19) hx hb dX5_loadLine_6 (by decide) (fun hc1 => ?_) (fun hc1 => ?_)
  · have hf := if_t hc1 hf
    refine lv_aload_n hx hb dX5_loadLine_19 rfl (lv_at hl 0 rfl) ?_
    refine lv_iconst (v := 0) hx hb dX5_loadLine_20 (by decide) ?_
    refine lv_bipush (v := 9) hx hb dX5_loadLine_21 (by decide) ?_
    obtain ⟨r2, w3, w4, w5, w6, w7, w8, hk9, hf⟩ := b7_s hf
    refine rv_i (vq := (RX5, TX5, 8)) (As := [.int (0 : Int32), .int (9 : Int32)]) (rest := []) (bs' := [pTe κ qt (qp 0) t_lines w3 w4 w5 w6 w7 w8, pTa κ qp p_bytes p_size, pFr κ qf f_held f_couples f_endJoints f_lengths f_stiffs f_loadBeams f_loadSizes f_loadPlaces f_joints f_beams f_loads]) C0 hw (cTe_number l D κ qt t_lines t_fault t_faultPlace t_kind t_start t_stop t_value qp p_bytes p_size (0 : Int32) (9 : Int32) r2 w3 w4 w5 w6 w7 w8 hk9) cv_RX5_107 ⟨rfl, rfl, Nat.le_of_ble_eq_true rfl, Nat.le_of_ble_eq_true rfl⟩ ⟨Nat.zero_le _, Nat.zero_le _⟩ [0, 1] [2] [1, 2, 0] rfl rfl rfl rfl (by decide) rfl rfl rfl rfl rfl hl.1 (by simp only [List.map, List.sum_cons, List.sum_nil, Value.category]; decide) dX5_loadLine_23 (fun H locs hw hn10 => ?_)
    refine lv_if_ne (tgt := 31) hx hb dX5_loadLine_26 (by decide) (fun hc11 => ?_) (fun hc11 => ?_)
    · have hf := if_f hc11 hf
      refine lv_aload_n hx hb dX5_loadLine_31 rfl (lv_at hl 0 rfl) ?_
      refine r_get C0 hw 0 7 (v := .int w8) rfl rfl inX5 (by decide) lk_X5_94 rfl dX5_loadLine_32 ?_
      refine lv_istore_n (lv' := [(3, .int w8), (0, .ref (qt 0)), (1, .ref (qf 0)), (2, .int a2)]) hx hb dX5_loadLine_35 rfl hl (by decide) rfl (fun ls hl => ?_)
      refine lv_aload_n hx hb dX5_loadLine_36 rfl (lv_at hl 1 rfl) ?_
      refine lv_iconst (v := 1) hx hb dX5_loadLine_37 (by decide) ?_
      refine lv_iload_n hx hb dX5_loadLine_38 rfl (lv_at hl 3 rfl) ?_
      obtain ⟨j62, ej62, hf⟩ := lt_e hf
      have hj63 : ∀ (v12 : Int32) (H : Heap) (locs : List Loc) (ls : Array Slot), wd_ D (tys0 κ) A s (List.flatten [pTe κ qt (qp 0) t_lines w3 w4 w5 w6 w7 w8, pTa κ qp p_bytes p_size, pFr κ qf f_held f_couples f_endJoints f_lengths f_stiffs f_loadBeams f_loadSizes f_loadPlaces f_joints f_beams f_loads]) H locs → lv_has ls 6 [(3, .int w8), (0, .ref (qt 0)), (1, .ref (qf 0)), (2, .int a2)] → j62 v12 = some (zr, z1, z2, z3, z4, z5, z6, z7, z8, z9, z10) → W p l e ({ frames := 3, cells := 0, slots := 0, locals := 66 } : Room) s m ([.ref (qt 0), .ref (qf 0), .int a2] : List Value).toArray below meth c H locs 0 0 (qI_ D (tys0 κ) A nB_ zr (List.flatten [pTe κ qt (qp 0) t_lines z1 z2 z3 z4 z5 z6, pTa κ qp p_bytes p_size, pFr κ qf f_held f_couples f_endJoints f_lengths f_stiffs z7 z8 z9 f_joints f_beams z10]) below ([.ref (qt 0), .ref (qf 0), .int a2] : List Value).toArray s) (F0 m 50 ls [.int v12, .int (1 : Int32), .ref (qt 0)]) := by
        intro v12 H locs ls hw hl  hf
        have hf : (b7_ (FTe_number w3 w4 w5 w7 w8 p_bytes p_size (1 : Int32) v12) fun r13 w14 w15 w16 w17 w18 w19 => if r13 = 0 then some ((0 : Int32), w14, w15, w16, w17, w18, w19, f_loadBeams, f_loadSizes, f_loadPlaces, f_loads) else lt_ (fun (w23 : Int32) (w24 : Int32) (w25 : Int32) (w26 : Int32) (w27 : Int32) (w28 : Int32) => lt_ (fun (v29 : Int32) => b7_ (FTe_semicolon w23 w24 w25 w27 w28 p_bytes p_size) fun r30 w31 w32 w33 w34 w35 w36 => if r30 = 0 then some ((0 : Int32), w31, w32, w33, w34, w35, w36, f_loadBeams, f_loadSizes, f_loadPlaces, f_loads) else b4_ (FFr_addLoad f_loadBeams f_loadSizes f_loadPlaces f_loads w8 w19 v29) fun w40 w41 w42 w43 => some ((1 : Int32), w31, w32, w33, w34, w35, w36, w40, w41, w42, w43) : Int32 → Option (Int32 × Int32 × Int32 × Int32 × Int32 × Int32 × Int32 × (Nat → Int32) × (Nat → Int32) × (Nat → Int32) × Int32)) fun j46 => if a2 = 0 then j46 (0 : Int32) else j46 w28 : Int32 → Int32 → Int32 → Int32 → Int32 → Int32 → Option (Int32 × Int32 × Int32 × Int32 × Int32 × Int32 × Int32 × (Nat → Int32) × (Nat → Int32) × (Nat → Int32) × Int32)) fun j49 => if a2 = 0 then j49 w14 w15 w16 w17 w18 w19 else b7_ (FTe_number w14 w15 w16 w18 w19 p_bytes p_size (1 : Int32) (11 : Int32)) fun r52 w53 w54 w55 w56 w57 w58 => if r52 = 0 then some ((0 : Int32), w53, w54, w55, w56, w57, w58, f_loadBeams, f_loadSizes, f_loadPlaces, f_loads) else j49 w53 w54 w55 w56 w57 w58) = some (zr, z1, z2, z3, z4, z5, z6, z7, z8, z9, z10) := by rw [ej62] at hf; exact hf
        obtain ⟨r13, w14, w15, w16, w17, w18, w19, hk20, hf⟩ := b7_s hf
        refine rv_i (vq := (RX5, TX5, 8)) (As := [.int (1 : Int32), .int v12]) (rest := []) (bs' := [pTe κ qt (qp 0) t_lines w14 w15 w16 w17 w18 w19, pTa κ qp p_bytes p_size, pFr κ qf f_held f_couples f_endJoints f_lengths f_stiffs f_loadBeams f_loadSizes f_loadPlaces f_joints f_beams f_loads]) C0 hw (cTe_number l D κ qt t_lines w3 w4 w5 w6 w7 w8 qp p_bytes p_size (1 : Int32) v12 r13 w14 w15 w16 w17 w18 w19 hk20) cv_RX5_107 ⟨rfl, rfl, Nat.le_of_ble_eq_true rfl, Nat.le_of_ble_eq_true rfl⟩ ⟨Nat.zero_le _, Nat.zero_le _⟩ [0, 1] [2] [1, 2, 0] rfl rfl rfl rfl (by decide) rfl rfl rfl rfl rfl hl.1 (by simp only [List.map, List.sum_cons, List.sum_nil, Value.category]; decide) dX5_loadLine_50 (fun H locs hw hn21 => ?_)
        refine lv_if_ne (tgt := 58) hx hb dX5_loadLine_53 (by decide) (fun hc22 => ?_) (fun hc22 => ?_)
        · have hf := if_f hc22 hf
          refine lv_aload_n hx hb dX5_loadLine_58 rfl (lv_at hl 1 rfl) ?_
          refine r_get C0 hw 0 7 (v := .int w19) rfl rfl inX5 (by decide) lk_X5_94 rfl dX5_loadLine_59 ?_
          refine lv_istore (lv' := [(4, .int w19), (3, .int w8), (0, .ref (qt 0)), (1, .ref (qf 0)), (2, .int a2)]) hx hb dX5_loadLine_62 hl (by decide) rfl (fun ls hl => ?_)
          refine lv_iload_n hx hb dX5_loadLine_64 rfl (lv_at hl 4 rfl) ?_
          obtain ⟨j49, ej49, hf⟩ := lt_e hf
          have hj50 : ∀ (w23 : Int32) (w24 : Int32) (w25 : Int32) (w26 : Int32) (w27 : Int32) (w28 : Int32) (H : Heap) (locs : List Loc) (ls : Array Slot), wd_ D (tys0 κ) A s (List.flatten [pTe κ qt (qp 0) t_lines w23 w24 w25 w26 w27 w28, pTa κ qp p_bytes p_size, pFr κ qf f_held f_couples f_endJoints f_lengths f_stiffs f_loadBeams f_loadSizes f_loadPlaces f_joints f_beams f_loads]) H locs → lv_has ls 6 [(4, .int w19), (3, .int w8), (0, .ref (qt 0)), (1, .ref (qf 0)), (2, .int a2)] → j49 w23 w24 w25 w26 w27 w28 = some (zr, z1, z2, z3, z4, z5, z6, z7, z8, z9, z10) → W p l e ({ frames := 3, cells := 0, slots := 0, locals := 66 } : Room) s m ([.ref (qt 0), .ref (qf 0), .int a2] : List Value).toArray below meth c H locs 0 0 (qI_ D (tys0 κ) A nB_ zr (List.flatten [pTe κ qt (qp 0) t_lines z1 z2 z3 z4 z5 z6, pTa κ qp p_bytes p_size, pFr κ qf f_held f_couples f_endJoints f_lengths f_stiffs z7 z8 z9 f_joints f_beams z10]) below ([.ref (qt 0), .ref (qf 0), .int a2] : List Value).toArray s) (F0 m 80 ls []) := by
            intro w23 w24 w25 w26 w27 w28 H locs ls hw hl  hf
            have hf : (lt_ (fun (v29 : Int32) => b7_ (FTe_semicolon w23 w24 w25 w27 w28 p_bytes p_size) fun r30 w31 w32 w33 w34 w35 w36 => if r30 = 0 then some ((0 : Int32), w31, w32, w33, w34, w35, w36, f_loadBeams, f_loadSizes, f_loadPlaces, f_loads) else b4_ (FFr_addLoad f_loadBeams f_loadSizes f_loadPlaces f_loads w8 w19 v29) fun w40 w41 w42 w43 => some ((1 : Int32), w31, w32, w33, w34, w35, w36, w40, w41, w42, w43) : Int32 → Option (Int32 × Int32 × Int32 × Int32 × Int32 × Int32 × Int32 × (Nat → Int32) × (Nat → Int32) × (Nat → Int32) × Int32)) fun j46 => if a2 = 0 then j46 (0 : Int32) else j46 w28) = some (zr, z1, z2, z3, z4, z5, z6, z7, z8, z9, z10) := by rw [ej49] at hf; exact hf
            refine lv_iload_n hx hb dX5_loadLine_80 rfl (lv_at hl 4 rfl) ?_
            obtain ⟨j46, ej46, hf⟩ := lt_e hf
            have hj47 : ∀ (v29 : Int32) (H : Heap) (locs : List Loc) (ls : Array Slot), wd_ D (tys0 κ) A s (List.flatten [pTe κ qt (qp 0) t_lines w23 w24 w25 w26 w27 w28, pTa κ qp p_bytes p_size, pFr κ qf f_held f_couples f_endJoints f_lengths f_stiffs f_loadBeams f_loadSizes f_loadPlaces f_joints f_beams f_loads]) H locs → lv_has ls 6 [(4, .int w19), (3, .int w8), (0, .ref (qt 0)), (1, .ref (qf 0))] → j46 v29 = some (zr, z1, z2, z3, z4, z5, z6, z7, z8, z9, z10) → W p l e ({ frames := 3, cells := 0, slots := 0, locals := 66 } : Room) s m ([.ref (qt 0), .ref (qf 0), .int a2] : List Value).toArray below meth c H locs 0 0 (qI_ D (tys0 κ) A nB_ zr (List.flatten [pTe κ qt (qp 0) t_lines z1 z2 z3 z4 z5 z6, pTa κ qp p_bytes p_size, pFr κ qf f_held f_couples f_endJoints f_lengths f_stiffs z7 z8 z9 f_joints f_beams z10]) below ([.ref (qt 0), .ref (qf 0), .int a2] : List Value).toArray s) (F0 m 92 ls [.int v29]) := by
              intro v29 H locs ls hw hl  hf
              have hf : (b7_ (FTe_semicolon w23 w24 w25 w27 w28 p_bytes p_size) fun r30 w31 w32 w33 w34 w35 w36 => if r30 = 0 then some ((0 : Int32), w31, w32, w33, w34, w35, w36, f_loadBeams, f_loadSizes, f_loadPlaces, f_loads) else b4_ (FFr_addLoad f_loadBeams f_loadSizes f_loadPlaces f_loads w8 w19 v29) fun w40 w41 w42 w43 => some ((1 : Int32), w31, w32, w33, w34, w35, w36, w40, w41, w42, w43)) = some (zr, z1, z2, z3, z4, z5, z6, z7, z8, z9, z10) := by rw [ej46] at hf; exact hf
              refine lv_istore (lv' := [(5, .int v29), (4, .int w19), (3, .int w8), (0, .ref (qt 0)), (1, .ref (qf 0))]) hx hb dX5_loadLine_92 hl (by decide) rfl (fun ls hl => ?_)
              refine lv_aload_n hx hb dX5_loadLine_94 rfl (lv_at hl 3 rfl) ?_
              obtain ⟨r30, w31, w32, w33, w34, w35, w36, hk37, hf⟩ := b7_s hf
              refine rv_i (vq := (RX5, TX5, 8)) (As := []) (rest := []) (bs' := [pTe κ qt (qp 0) t_lines w31 w32 w33 w34 w35 w36, pTa κ qp p_bytes p_size, pFr κ qf f_held f_couples f_endJoints f_lengths f_stiffs f_loadBeams f_loadSizes f_loadPlaces f_joints f_beams f_loads]) C0 hw (cTe_semicolon l D κ qt t_lines w23 w24 w25 w26 w27 w28 qp p_bytes p_size r30 w31 w32 w33 w34 w35 w36 hk37) cv_RX5_97 ⟨rfl, rfl, Nat.le_of_ble_eq_true rfl, Nat.le_of_ble_eq_true rfl⟩ ⟨Nat.zero_le _, Nat.zero_le _⟩ [0, 1] [2] [1, 2, 0] rfl rfl rfl rfl (by decide) rfl rfl rfl rfl rfl hl.1 (by simp only [List.map, List.sum_cons, List.sum_nil, Value.category]; decide) dX5_loadLine_95 (fun H locs hw hn38 => ?_)
              refine lv_if_ne (tgt := 103) hx hb dX5_loadLine_98 (by decide) (fun hc39 => ?_) (fun hc39 => ?_)
              · have hf := if_f hc39 hf
                refine lv_aload_n hx hb dX5_loadLine_103 rfl (lv_at hl 4 rfl) ?_
                refine lv_iload_n hx hb dX5_loadLine_104 rfl (lv_at hl 2 rfl) ?_
                refine lv_iload hx hb dX5_loadLine_105 (lv_at hl 1 rfl) ?_
                refine lv_iload hx hb dX5_loadLine_107 (lv_at hl 0 rfl) ?_
                obtain ⟨w40, w41, w42, w43, hk44, hf⟩ := b4_s hf
                refine rv_v (vq := (RX2, TX2, 11)) (As := [.int w8, .int w19, .int v29]) (rest := []) (bs' := [pTe κ qt (qp 0) t_lines w31 w32 w33 w34 w35 w36, pTa κ qp p_bytes p_size, pFr κ qf f_held f_couples f_endJoints f_lengths f_stiffs w40 w41 w42 f_joints f_beams w43]) C0 hw (cFr_addLoad l D κ qf f_held f_couples f_endJoints f_lengths f_stiffs f_loadBeams f_loadSizes f_loadPlaces f_joints f_beams f_loads w8 w19 v29 w40 w41 w42 w43 hk44) cv_RX5_117 ⟨rfl, rfl, Nat.le_of_ble_eq_true rfl, Nat.le_of_ble_eq_true rfl⟩ ⟨Nat.zero_le _, Nat.zero_le _⟩ [2] [0, 1] [0, 1, 2] rfl rfl rfl rfl (by decide) rfl rfl rfl rfl rfl hl.1 (by simp only [List.map, List.sum_cons, List.sum_nil, Value.category]; decide) dX5_loadLine_109 (fun H locs hw => ?_)
                refine lv_iconst (v := 1) hx hb dX5_loadLine_112 (by decide) ?_
                obtain ⟨rfl, rfl, rfl, rfl, rfl, rfl, rfl, rfl, rfl, rfl, rfl⟩ := e11_ hf
                exact r_zret C0 hw (Or.inr rfl) dX5_loadLine_113
              · have hf := if_t hc39 hf
                refine lv_iconst (v := 0) hx hb dX5_loadLine_101 (by decide) ?_
                obtain ⟨rfl, rfl, rfl, rfl, rfl, rfl, rfl, rfl, rfl, rfl, rfl⟩ := e11_ hf
                exact r_zret C0 hw (Or.inl rfl) dX5_loadLine_102
            refine lv_if_eq (tgt := 91) hx hb dX5_loadLine_81 (by decide) (fun hc48 => ?_) (fun hc48 => ?_)
            · have hf := if_t hc48 hf
              refine lv_iconst (v := 0) hx hb dX5_loadLine_91 (by decide) ?_
              exact hj47 (0 : Int32) H locs ls hw (lv_sub hl [0, 1, 2, 3] rfl)  hf
            · have hf := if_f hc48 hf
              refine lv_aload_n hx hb dX5_loadLine_84 rfl (lv_at hl 2 rfl) ?_
              refine r_get C0 hw 0 7 (v := .int w28) rfl rfl inX5 (by decide) lk_X5_94 rfl dX5_loadLine_85 ?_
              refine lv_goto (tgt := 92) hx hb dX5_loadLine_88 (by decide) ?_
              exact hj47 w28 H locs ls hw (lv_sub hl [0, 1, 2, 3] rfl)  hf
          refine lv_if_eq (tgt := 80) hx hb dX5_loadLine_65 (by decide) (fun hc51 => ?_) (fun hc51 => ?_)
          · have hf := if_t hc51 hf
            exact hj50 w14 w15 w16 w17 w18 w19 H locs ls hw (lv_sub hl [0, 1, 2, 3, 4] rfl)  hf
          · have hf := if_f hc51 hf
            refine lv_aload_n hx hb dX5_loadLine_68 rfl (lv_at hl 2 rfl) ?_
            refine lv_iconst (v := 1) hx hb dX5_loadLine_69 (by decide) ?_
            refine lv_bipush (v := 11) hx hb dX5_loadLine_70 (by decide) ?_
            obtain ⟨r52, w53, w54, w55, w56, w57, w58, hk59, hf⟩ := b7_s hf
            refine rv_i (vq := (RX5, TX5, 8)) (As := [.int (1 : Int32), .int (11 : Int32)]) (rest := []) (bs' := [pTe κ qt (qp 0) t_lines w53 w54 w55 w56 w57 w58, pTa κ qp p_bytes p_size, pFr κ qf f_held f_couples f_endJoints f_lengths f_stiffs f_loadBeams f_loadSizes f_loadPlaces f_joints f_beams f_loads]) C0 hw (cTe_number l D κ qt t_lines w14 w15 w16 w17 w18 w19 qp p_bytes p_size (1 : Int32) (11 : Int32) r52 w53 w54 w55 w56 w57 w58 hk59) cv_RX5_107 ⟨rfl, rfl, Nat.le_of_ble_eq_true rfl, Nat.le_of_ble_eq_true rfl⟩ ⟨Nat.zero_le _, Nat.zero_le _⟩ [0, 1] [2] [1, 2, 0] rfl rfl rfl rfl (by decide) rfl rfl rfl rfl rfl hl.1 (by simp only [List.map, List.sum_cons, List.sum_nil, Value.category]; decide) dX5_loadLine_72 (fun H locs hw hn60 => ?_)
            refine lv_if_ne (tgt := 80) hx hb dX5_loadLine_75 (by decide) (fun hc61 => ?_) (fun hc61 => ?_)
            · have hf := if_f hc61 hf
              exact hj50 w53 w54 w55 w56 w57 w58 H locs ls hw (lv_sub hl [0, 1, 2, 3, 4] rfl)  hf
            · have hf := if_t hc61 hf
              refine lv_iconst (v := 0) hx hb dX5_loadLine_78 (by decide) ?_
              obtain ⟨rfl, rfl, rfl, rfl, rfl, rfl, rfl, rfl, rfl, rfl, rfl⟩ := e11_ hf
              exact r_zret C0 hw (Or.inl rfl) dX5_loadLine_79
        · have hf := if_t hc22 hf
          refine lv_iconst (v := 0) hx hb dX5_loadLine_56 (by decide) ?_
          obtain ⟨rfl, rfl, rfl, rfl, rfl, rfl, rfl, rfl, rfl, rfl, rfl⟩ := e11_ hf
          exact r_zret C0 hw (Or.inl rfl) dX5_loadLine_57
      refine lv_if_eq (tgt := 48) hx hb dX5_loadLine_39 (by decide) (fun hc64 => ?_) (fun hc64 => ?_)
      · have hf := if_t hc64 hf
        refine lv_bipush (v := 99) hx hb dX5_loadLine_48 (by decide) ?_
        exact hj63 (99 : Int32) H locs ls hw (lv_sub hl [0, 1, 2, 3] rfl)  hf
      · have hf := if_f hc64 hf
        refine lv_sipush (v := 999) hx hb dX5_loadLine_42 (by decide) ?_
        refine lv_goto (tgt := 50) hx hb dX5_loadLine_45 (by decide) ?_
        exact hj63 (999 : Int32) H locs ls hw (lv_sub hl [0, 1, 2, 3] rfl)  hf
    · have hf := if_t hc11 hf
      refine lv_iconst (v := 0) hx hb dX5_loadLine_29 (by decide) ?_
      obtain ⟨rfl, rfl, rfl, rfl, rfl, rfl, rfl, rfl, rfl, rfl, rfl⟩ := e11_ hf
      exact r_zret C0 hw (Or.inl rfl) dX5_loadLine_30
  · have hf := if_f hc1 hf
    refine lv_aload_n hx hb dX5_loadLine_9 rfl (lv_at hl 0 rfl) ?_
    refine lv_iconst (v := 5) hx hb dX5_loadLine_10 (by decide) ?_
    refine lv_aload_n hx hb dX5_loadLine_11 rfl (lv_at hl 0 rfl) ?_
    refine r_get C0 hw 0 5 (v := .int t_start) rfl rfl inX5 (by decide) lk_X5_81 rfl dX5_loadLine_12 ?_
    obtain ⟨r65, w66, w67, hk68, hf⟩ := b3_s hf
    refine rv_i (vq := (RX5, TX5, 8)) (As := [.int (5 : Int32), .int t_start]) (rest := []) (bs' := [pTe κ qt (qp 0) t_lines w66 w67 t_kind t_start t_stop t_value, pTa κ qp p_bytes p_size, pFr κ qf f_held f_couples f_endJoints f_lengths f_stiffs f_loadBeams f_loadSizes f_loadPlaces f_joints f_beams f_loads]) C0 hw (cTe_fail l D κ qt t_lines t_fault t_faultPlace t_kind t_start t_stop t_value qp p_bytes p_size (5 : Int32) t_start r65 w66 w67 hk68) cv_RX5_53 ⟨rfl, rfl, Nat.le_of_ble_eq_true rfl, Nat.le_of_ble_eq_true rfl⟩ ⟨Nat.zero_le _, Nat.zero_le _⟩ [0, 1] [2] [1, 2, 0] rfl rfl rfl rfl (by decide) rfl rfl rfl rfl rfl hl.1 (by simp only [List.map, List.sum_cons, List.sum_nil, Value.category]; decide) dX5_loadLine_15 (fun H locs hw hn69 => ?_)
    obtain ⟨rfl, rfl, rfl, rfl, rfl, rfl, rfl, rfl, rfl, rfl, rfl⟩ := e11_ hf
    exact r_zret C0 hw hn69 dX5_loadLine_18
