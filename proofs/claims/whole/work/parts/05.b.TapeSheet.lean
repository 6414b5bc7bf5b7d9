theorem lk_X4_15 : Cond.fieldLink RX4 15 (TX4 1).1 (TX4 1).2.1 (TX4 1).2.2.1 ∈ uw := uw_1 (List.mem_of_getElem? (i := 37) rfl) rfl
theorem lk_X4_9 : Cond.fieldLink RX4 9 (TX4 0).1 (TX4 0).2.1 (TX4 0).2.2.1 ∈ uw := uw_1 (List.mem_of_getElem? (i := 35) rfl) rfl
theorem lk_X3_19 : Cond.fieldLink RX3 19 (TX3 1).1 (TX3 1).2.1 (TX3 1).2.2.1 ∈ uw := uw_1 (List.mem_of_getElem? (i := 212) rfl) rfl
theorem lk_X3_15 : Cond.fieldLink RX3 15 (TX3 2).1 (TX3 2).2.1 (TX3 2).2.2.1 ∈ uw := uw_1 (List.mem_of_getElem? (i := 214) rfl) rfl
theorem lk_X3_9 : Cond.fieldLink RX3 9 (TX3 0).1 (TX3 0).2.1 (TX3 0).2.2.1 ∈ uw := uw_1 (List.mem_of_getElem? (i := 210) rfl) rfl
theorem hd_X3_faultAt : yX3_faultAt.cls = RX3 ∧ yX3_faultAt.cls ≠ "java/lang/invoke/MethodHandle" ∧ yX3_faultAt.cls ≠ "java/lang/invoke/VarHandle" ∧ (parseMethodDescriptor yX3_faultAt.desc).map (fun d => d.parameters.length) = some 2 := by decide +kernel
theorem cv_RX3_22 : cv_ RX3 22 yX3_faultAt RX3 cX3_faultAt 3 (some .int) 2 := ⟨uw_3 (List.mem_of_getElem? (i := 211) rfl) rfl, uw_3 (List.mem_of_getElem? (i := 196) rfl) rfl, uw_3 (List.mem_of_getElem? (i := 197) rfl) rfl, uw_1 (List.mem_of_getElem? (i := 7) rfl) rfl, uw_3 (List.mem_of_getElem? (i := 198) rfl) rfl, hd_X3_faultAt⟩
def FTa_append (p_bytes : Nat → Int32) (p_size a1 : Int32) : Option ((Nat → Int32) × Int32) :=
  if (320 : Int32) ≤ p_size then
    some (p_bytes, p_size)
  else
    gd_ p_size 320 <|
    lt_ (upd p_bytes p_size.toNatClampNeg (vp_nar .byte (a1.toInt8.toInt32))) fun w3 =>
    lt_ (p_size + (1 : Int32)) fun v4 =>
    some (w3, v4)
set_option maxHeartbeats 4000000 in
set_option maxRecDepth 100000 in
theorem cTa_append (l : Launch) (D : va_G) (κ : Nat → ClassId) (qp : Nat → Nat) (p_bytes : Nat → Int32) (p_size a1 : Int32) (z1 : Nat → Int32) (z2 : Int32) (hf : FTa_append p_bytes p_size a1 = some (z1, z2)) : mV_ l yX4_append (Cond.code yX4_append cX4_append 2 none :: uw) ({ frames := 0, cells := 0, slots := 0, locals := 0 } : Room) D (tys0 κ) [.ref (qp 0), .int a1] (List.flatten [pTa κ qp p_bytes p_size])  (List.flatten [pTa κ qp z1 z2]) := by
  unfold FTa_append at hf
  refine mV_of (by decide) (Nat.le_of_ble_eq_true rfl) ?_
  intro p e s m below meth c A ls H locs C0 hw hl
  obtain ⟨hx, hb, -, hml, hown, hts, -, -⟩ := id C0
  have hl : lv_has ls 2 [(0, .ref (qp 0)), (1, .int a1)] := hl
  refine lv_aload_n hx hb dX4_append_0 rfl (lv_at hl 0 rfl) ?_
  refine r_get C0 hw 0 1 (v := .int p_size) rfl rfl inX4 (by decide) lk_X4_15 rfl dX4_append_1 ?_
  refine lv_sipush (v := 320) hx hb dX4_append_4 (by decide) ?_
  refine lv_icmp_ge (tgt := 31) hx hb dX4_append_7 (by decide) (fun hc1 => ?_) (fun hc1 => ?_)
  · have hf := if_t hc1 hf
    obtain ⟨rfl, rfl⟩ := e2_ hf
    exact r_vret C0 hw dX4_append_31
  · have hf := if_f hc1 hf
    refine lv_aload_n hx hb dX4_append_10 rfl (lv_at hl 0 rfl) ?_
    refine r_get C0 hw 0 0 (v := .ref (qp 1)) rfl rfl inX4 (by decide) lk_X4_9 rfl dX4_append_11 ?_
    refine lv_aload_n hx hb dX4_append_14 rfl (lv_at hl 0 rfl) ?_
    refine r_get C0 hw 0 1 (v := .int p_size) rfl rfl inX4 (by decide) lk_X4_15 rfl dX4_append_15 ?_
    refine lv_iload_n hx hb dX4_append_18 rfl (lv_at hl 1 rfl) ?_
    refine lv_i2b hx hb dX4_append_19 rfl ?_
    obtain ⟨hi2, hf⟩ := gd_s hf
    obtain ⟨w3, ew3⟩ : ∃ z : Nat → Int32, z = (upd p_bytes p_size.toNatClampNeg (vp_nar .byte (a1.toInt8.toInt32))) := ⟨_, rfl⟩
    have hf := lt_s_ hf w3 ew3
    refine r_bast C0 hw 1 2 rfl rfl hi2 dX4_append_20 (ws' := List.flatten [pTa κ qp w3 p_size]) (by subst ew3; rfl) (fun H locs hw => ?_)
    refine lv_aload_n hx hb dX4_append_21 rfl (lv_at hl 0 rfl) ?_
    refine lv_dup hx hb dX4_append_22 rfl ?_
    refine r_get C0 hw 0 1 (v := .int p_size) rfl rfl inX4 (by decide) lk_X4_15 rfl dX4_append_23 ?_
    refine lv_iconst (v := 1) hx hb dX4_append_26 (by decide) ?_
    refine lv_iadd hx hb dX4_append_27 ?_
    refine lv_topi (fun v4 ev4 => ?_)
    have hf := lt_s_ hf v4 ev4
    refine r_put C0 hw 0 1 (v := .int v4) (ws' := List.flatten [pTa κ qp w3 v4]) rfl rfl inX4 tyX4_ok nmX4 (by decide) lk_X4_15 rfl rfl rfl rfl (Nat.le_of_ble_eq_true rfl) dX4_append_28 rfl (fun H locs hw => ?_)
    obtain ⟨rfl, rfl⟩ := e2_ hf
    exact r_vret C0 hw dX4_append_31
def FSh_renew_L12 (h_lane h_size : Int32) : Nat → Int32 → (Nat → Int32) → Option ((Nat → Int32) × Int32 × Int32)
  | 0, _, _ => none
  | n + 1, l3, h_cells =>
      if (40 : Int32) ≤ l3 then
        some (h_cells, h_lane, h_size)
      else
        gd_ l3 40 <|
        lt_ (upd h_cells l3.toNatClampNeg (0 : Int32)) fun w3 =>
        lt_ (l3 + (1 : Int32)) fun v4 =>
        FSh_renew_L12 h_lane h_size n v4 w3
def FSh_renew (h_cells : Nat → Int32) (a1 a2 : Int32) : Option ((Nat → Int32) × Int32 × Int32) :=
  FSh_renew_L12 a1 a2 1000 (0 : Int32) h_cells
set_option maxHeartbeats 4000000 in
set_option maxRecDepth 100000 in
theorem wSh_renew_L12 {p : Program} {l : Launch} {e : Env} {s : State} {m : MethodId} {args : Array Value} {below : List Frame} {meth : Method} {c : Code} {A : Nat → Prop} {D : va_G} {κ : Nat → ClassId} (C0 : cx_ p s m meth c args cX3_renew RX3 none 4 A) (qh : Nat → Nat) (h_lane h_size : Int32) (z1 : Nat → Int32) (z2 z3 : Int32) : ∀ (n : Nat) (l3 : Int32) (h_cells : Nat → Int32) (H : Heap) (locs : List Loc) (ls : Array Slot), wd_ D (tys0 κ) A s (List.flatten [pSh κ qh h_cells h_lane h_size]) H locs → lv_has ls 4 [(0, .ref (qh 0)), (3, .int l3)] → FSh_renew_L12 h_lane h_size n l3 h_cells = some (z1, z2, z3) → W p l e ({ frames := 0, cells := 0, slots := 0, locals := 0 } : Room) s m args below meth c H locs 0 0 (qV_ D (tys0 κ) A (List.flatten [pSh κ qh z1 z2 z3]) below args s) (F0 m 12 ls []) := by
  obtain ⟨hx, hb, -, hml, hown, hts, -, -⟩ := id C0
  intro n
  induction n with
  | zero =>
    intro l3 h_cells H locs ls hw hl  hf
    cases hf
  | succ n ih =>
    intro l3 h_cells H locs ls hw hl  hf
    rw [FSh_renew_L12.eq_2] at hf
    refine lv_iload_n hx hb dX3_renew_12 rfl (lv_at hl 1 rfl) ?_
    refine lv_bipush (v := 40) hx hb dX3_renew_13 (by decide) ?_
    refine lv_icmp_ge (tgt := 31) hx hb dX3_renew_15 (by decide) (fun hc1 => ?_) (fun hc1 => ?_)
    · have hf := if_t hc1 hf
      obtain ⟨rfl, rfl, rfl⟩ := e3_ hf
      exact r_vret C0 hw dX3_renew_31
    · have hf := if_f hc1 hf
      refine lv_aload_n hx hb dX3_renew_18 rfl (lv_at hl 0 rfl) ?_
      refine r_get C0 hw 0 0 (v := .ref (qh 1)) rfl rfl inX3 (by decide) lk_X3_9 rfl dX3_renew_19 ?_
      refine lv_iload_n hx hb dX3_renew_22 rfl (lv_at hl 1 rfl) ?_
      refine lv_iconst (v := 0) hx hb dX3_renew_23 (by decide) ?_
      obtain ⟨hi2, hf⟩ := gd_s hf
      obtain ⟨w3, ew3⟩ : ∃ z : Nat → Int32, z = (upd h_cells l3.toNatClampNeg (0 : Int32)) := ⟨_, rfl⟩
      have hf := lt_s_ hf w3 ew3
      refine r_iast C0 hw 1 0 rfl rfl hi2 dX3_renew_24 (ws' := List.flatten [pSh κ qh w3 h_lane h_size]) (by subst ew3; rfl) (fun H locs hw => ?_)
      obtain ⟨v4, ev4⟩ : ∃ z : Int32, z = (l3 + (1 : Int32)) := ⟨_, rfl⟩
      have hf := lt_s_ hf v4 ev4
      refine lv_iinc (v := v4) (lv' := [(3, .int v4), (0, .ref (qh 0))]) hx hb dX3_renew_25 hl (k := 1) rfl (by rw [ev4]; rfl) (by decide) rfl (fun ls hl => ?_)
      refine lv_goto (tgt := 12) hx hb dX3_renew_28 (by decide) ?_
      exact ih v4 w3 H locs ls hw (lv_sub hl [1, 0] rfl)  hf
set_option maxHeartbeats 4000000 in
set_option maxRecDepth 100000 in
theorem cSh_renew (l : Launch) (D : va_G) (κ : Nat → ClassId) (qh : Nat → Nat) (h_cells : Nat → Int32) (h_lane h_size a1 a2 : Int32) (z1 : Nat → Int32) (z2 z3 : Int32) (hf : FSh_renew h_cells a1 a2 = some (z1, z2, z3)) : mV_ l yX3_renew (Cond.code yX3_renew cX3_renew 4 none :: uw) ({ frames := 0, cells := 0, slots := 0, locals := 0 } : Room) D (tys0 κ) [.ref (qh 0), .int a1, .int a2] (List.flatten [pSh κ qh h_cells h_lane h_size])  (List.flatten [pSh κ qh z1 z2 z3]) := by
  unfold FSh_renew at hf
  refine mV_of (by decide) (Nat.le_of_ble_eq_true rfl) ?_
  intro p e s m below meth c A ls H locs C0 hw hl
  obtain ⟨hx, hb, -, hml, hown, hts, -, -⟩ := id C0
  have hl : lv_has ls 4 [(0, .ref (qh 0)), (1, .int a1), (2, .int a2)] := hl
  refine lv_aload_n hx hb dX3_renew_0 rfl (lv_at hl 0 rfl) ?_
  refine lv_iload_n hx hb dX3_renew_1 rfl (lv_at hl 1 rfl) ?_
  refine r_put C0 hw 0 1 (v := .int a1) (ws' := List.flatten [pSh κ qh h_cells a1 h_size]) rfl rfl inX3 tyX3_ok nmX3 (by decide) lk_X3_19 rfl rfl rfl rfl (Nat.le_of_ble_eq_true rfl) dX3_renew_2 rfl (fun H locs hw => ?_)
  refine lv_aload_n hx hb dX3_renew_5 rfl (lv_at hl 0 rfl) ?_
  refine lv_iload_n hx hb dX3_renew_6 rfl (lv_at hl 2 rfl) ?_
  refine r_put C0 hw 0 2 (v := .int a2) (ws' := List.flatten [pSh κ qh h_cells a1 a2]) rfl rfl inX3 tyX3_ok nmX3 (by decide) lk_X3_15 rfl rfl rfl rfl (Nat.le_of_ble_eq_true rfl) dX3_renew_7 rfl (fun H locs hw => ?_)
  refine lv_iconst (v := 0) hx hb dX3_renew_10 (by decide) ?_
  refine lv_istore_n (lv' := [(3, .int (0 : Int32)), (0, .ref (qh 0)), (1, .int a1), (2, .int a2)]) hx hb dX3_renew_11 rfl hl (by decide) rfl (fun ls hl => ?_)
  exact wSh_renew_L12 C0 qh a1 a2 z1 z2 z3 1000 (0 : Int32) h_cells H locs ls hw (lv_sub hl [1, 0] rfl)  hf
def FSh_write (h_cells : Nat → Int32) (h_lane a1 a2 : Int32) : Option ((Nat → Int32)) :=
  if h_lane = 0 then
    gd_ a1 40 <|
    lt_ (upd h_cells a1.toNatClampNeg (a2.toInt8.toInt32)) fun w8 =>
    some (w8)
  else
    if h_lane = (1 : Int32) then
      gd_ a1 40 <|
      lt_ (upd h_cells a1.toNatClampNeg (a2.toInt16.toInt32)) fun w6 =>
      some (w6)
    else
      gd_ a1 40 <|
      lt_ (upd h_cells a1.toNatClampNeg a2) fun w4 =>
      some (w4)
set_option maxHeartbeats 4000000 in
set_option maxRecDepth 100000 in
theorem cSh_write (l : Launch) (D : va_G) (κ : Nat → ClassId) (qh : Nat → Nat) (h_cells : Nat → Int32) (h_lane h_size a1 a2 : Int32) (z1 : Nat → Int32) (hf : FSh_write h_cells h_lane a1 a2 = some z1) : mV_ l yX3_write (Cond.code yX3_write cX3_write 3 none :: uw) ({ frames := 0, cells := 0, slots := 0, locals := 0 } : Room) D (tys0 κ) [.ref (qh 0), .int a1, .int a2] (List.flatten [pSh κ qh h_cells h_lane h_size])  (List.flatten [pSh κ qh z1 h_lane h_size]) := by
  unfold FSh_write at hf
  refine mV_of (by decide) (Nat.le_of_ble_eq_true rfl) ?_
  intro p e s m below meth c A ls H locs C0 hw hl
  obtain ⟨hx, hb, -, hml, hown, hts, -, -⟩ := id C0
  have hl : lv_has ls 3 [(0, .ref (qh 0)), (1, .int a1), (2, .int a2)] := hl
  refine lv_aload_n hx hb dX3_write_0 rfl (lv_at hl 0 rfl) ?_
  refine r_get C0 hw 0 0 (v := .ref (qh 1)) rfl rfl inX3 (by decide) lk_X3_9 rfl dX3_write_1 ?_
  refine lv_iload_n hx hb dX3_write_4 rfl (lv_at hl 1 rfl) ?_
  refine lv_aload_n hx hb dX3_write_5 rfl (lv_at hl 0 rfl) ?_
  refine r_get C0 hw 0 1 (v := .int h_lane) rfl rfl inX3 (by decide) lk_X3_19 rfl dX3_write_6 ?_
  refine lv_if_ne (tgt := 17) hx hb dX3_write_9 (by decide) (fun hc1 => ?_) (fun hc1 => ?_)
  · have hf := if_f hc1 hf
    refine lv_aload_n hx hb dX3_write_17 rfl (lv_at hl 0 rfl) ?_
    refine r_get C0 hw 0 1 (v := .int h_lane) rfl rfl inX3 (by decide) lk_X3_19 rfl dX3_write_18 ?_
    refine lv_iconst (v := 1) hx hb dX3_write_21 (by decide) ?_
    refine lv_icmp_ne (tgt := 30) hx hb dX3_write_22 (by decide) (fun hc2 => ?_) (fun hc2 => ?_)
    · have hf := if_f hc2 hf
      refine lv_iload_n hx hb dX3_write_30 rfl (lv_at hl 2 rfl) ?_
      obtain ⟨hi3, hf⟩ := gd_s hf
      obtain ⟨w4, ew4⟩ : ∃ z : Nat → Int32, z = (upd h_cells a1.toNatClampNeg a2) := ⟨_, rfl⟩
      have hf := lt_s_ hf w4 ew4
      refine r_iast C0 hw 1 0 rfl rfl hi3 dX3_write_31 (ws' := List.flatten [pSh κ qh w4 h_lane h_size]) (by subst ew4; rfl) (fun H locs hw => ?_)
      obtain rfl := e1_ hf
      exact r_vret C0 hw dX3_write_32
    · have hf := if_t hc2 hf
      refine lv_iload_n hx hb dX3_write_25 rfl (lv_at hl 2 rfl) ?_
      refine lv_i2s hx hb dX3_write_26 rfl ?_
      refine lv_goto (tgt := 31) hx hb dX3_write_27 (by decide) ?_
      obtain ⟨hi5, hf⟩ := gd_s hf
      obtain ⟨w6, ew6⟩ : ∃ z : Nat → Int32, z = (upd h_cells a1.toNatClampNeg (a2.toInt16.toInt32)) := ⟨_, rfl⟩
      have hf := lt_s_ hf w6 ew6
      refine r_iast C0 hw 1 0 rfl rfl hi5 dX3_write_31 (ws' := List.flatten [pSh κ qh w6 h_lane h_size]) (by subst ew6; rfl) (fun H locs hw => ?_)
      obtain rfl := e1_ hf
      exact r_vret C0 hw dX3_write_32
  · have hf := if_t hc1 hf
    refine lv_iload_n hx hb dX3_write_12 rfl (lv_at hl 2 rfl) ?_
    refine lv_i2b hx hb dX3_write_13 rfl ?_
    refine lv_goto (tgt := 31) hx hb dX3_write_14 (by decide) ?_
    obtain ⟨hi7, hf⟩ := gd_s hf
    obtain ⟨w8, ew8⟩ : ∃ z : Nat → Int32, z = (upd h_cells a1.toNatClampNeg (a2.toInt8.toInt32)) := ⟨_, rfl⟩
    have hf := lt_s_ hf w8 ew8
    refine r_iast C0 hw 1 0 rfl rfl hi7 dX3_write_31 (ws' := List.flatten [pSh κ qh w8 h_lane h_size]) (by subst ew8; rfl) (fun H locs hw => ?_)
    obtain rfl := e1_ hf
    exact r_vret C0 hw dX3_write_32
def FSh_faultAt (h_lane h_size a1 a2 : Int32) : Option (Int32) :=
  if 0 ≤ h_size then
    if a1 = h_lane then
      if a2 < 0 then
        some ((2 : Int32))
      else
        if a2 < h_size then
          some ((0 : Int32))
        else
          some ((2 : Int32))
    else
      some ((3 : Int32))
  else
    some ((1 : Int32))
set_option maxHeartbeats 4000000 in
set_option maxRecDepth 100000 in
theorem cSh_faultAt (l : Launch) (D : va_G) (κ : Nat → ClassId) (qh : Nat → Nat) (h_cells : Nat → Int32) (h_lane h_size a1 a2 zr : Int32) (hf : FSh_faultAt h_lane h_size a1 a2 = some zr) : mI_ l yX3_faultAt (Cond.code yX3_faultAt cX3_faultAt 3 (some .int) :: uw) ({ frames := 0, cells := 0, slots := 0, locals := 0 } : Room) D (tys0 κ) [.ref (qh 0), .int a1, .int a2] (List.flatten [pSh κ qh h_cells h_lane h_size]) nT_ zr (List.flatten [pSh κ qh h_cells h_lane h_size]) := by
  unfold FSh_faultAt at hf
  refine mI_of (by decide) (Nat.le_of_ble_eq_true rfl) ?_
  intro p e s m below meth c A ls H locs C0 hw hl
  obtain ⟨hx, hb, -, hml, hown, hts, -, -⟩ := id C0
  have hl : lv_has ls 3 [(0, .ref (qh 0)), (1, .int a1), (2, .int a2)] := hl
  refine lv_aload_n hx hb dX3_faultAt_0 rfl (lv_at hl 0 rfl) ?_
  refine r_get C0 hw 0 2 (v := .int h_size) rfl rfl inX3 (by decide) lk_X3_15 rfl dX3_faultAt_1 ?_
  refine lv_if_ge (tgt := 9) hx hb dX3_faultAt_4 (by decide) (fun hc1 => ?_) (fun hc1 => ?_)
  · have hf := if_t hc1 hf
    refine lv_iload_n hx hb dX3_faultAt_9 rfl (lv_at hl 1 rfl) ?_
    refine lv_aload_n hx hb dX3_faultAt_10 rfl (lv_at hl 0 rfl) ?_
    refine r_get C0 hw 0 1 (v := .int h_lane) rfl rfl inX3 (by decide) lk_X3_19 rfl dX3_faultAt_11 ?_
    refine lv_icmp_eq (tgt := 19) hx hb dX3_faultAt_14 (by decide) (fun hc2 => ?_) (fun hc2 => ?_)
    · have hf := if_t hc2 hf
      refine lv_iload_n hx hb dX3_faultAt_19 rfl (lv_at hl 2 rfl) ?_
      refine lv_if_lt (tgt := 31) hx hb dX3_faultAt_20 (by decide) (fun hc3 => ?_) (fun hc3 => ?_)
      · have hf := if_t hc3 hf
        refine lv_iconst (v := 2) hx hb dX3_faultAt_31 (by decide) ?_
        refine lv_goto (tgt := 36) hx hb dX3_faultAt_32 (by decide) ?_
        obtain rfl := e1_ hf
        exact r_iret C0 hw trivial dX3_faultAt_36
      · have hf := if_f hc3 hf
        refine lv_iload_n hx hb dX3_faultAt_23 rfl (lv_at hl 2 rfl) ?_
        refine lv_aload_n hx hb dX3_faultAt_24 rfl (lv_at hl 0 rfl) ?_
        refine r_get C0 hw 0 2 (v := .int h_size) rfl rfl inX3 (by decide) lk_X3_15 rfl dX3_faultAt_25 ?_
        refine lv_icmp_lt (tgt := 35) hx hb dX3_faultAt_28 (by decide) (fun hc4 => ?_) (fun hc4 => ?_)
        · have hf := if_t hc4 hf
          refine lv_iconst (v := 0) hx hb dX3_faultAt_35 (by decide) ?_
          obtain rfl := e1_ hf
          exact r_iret C0 hw trivial dX3_faultAt_36
        · have hf := if_f hc4 hf
          refine lv_iconst (v := 2) hx hb dX3_faultAt_31 (by decide) ?_
          refine lv_goto (tgt := 36) hx hb dX3_faultAt_32 (by decide) ?_
          obtain rfl := e1_ hf
          exact r_iret C0 hw trivial dX3_faultAt_36
    · have hf := if_f hc2 hf
      refine lv_iconst (v := 3) hx hb dX3_faultAt_17 (by decide) ?_
      obtain rfl := e1_ hf
      exact r_iret C0 hw trivial dX3_faultAt_18
  · have hf := if_f hc1 hf
    refine lv_iconst (v := 1) hx hb dX3_faultAt_7 (by decide) ?_
    obtain rfl := e1_ hf
    exact r_iret C0 hw trivial dX3_faultAt_8
def FSh_faultOfTwo (h_lane h_size a1 a2 : Int32) : Option (Int32) :=
  b1_ (FSh_faultAt h_lane h_size a1 a2) fun r1 =>
  if r1 = 0 then
    b1_ (FSh_faultAt h_lane h_size a1 (a2 + (1 : Int32))) fun r5 =>
    some (r5)
  else
    some (r1)
set_option maxHeartbeats 4000000 in
set_option maxRecDepth 100000 in
theorem cSh_faultOfTwo (l : Launch) (D : va_G) (κ : Nat → ClassId) (qh : Nat → Nat) (h_cells : Nat → Int32) (h_lane h_size a1 a2 zr : Int32) (hf : FSh_faultOfTwo h_lane h_size a1 a2 = some zr) : mI_ l yX3_faultOfTwo (Cond.code yX3_faultOfTwo cX3_faultOfTwo 4 (some .int) :: uw) ({ frames := 1, cells := 0, slots := 0, locals := 22 } : Room) D (tys0 κ) [.ref (qh 0), .int a1, .int a2] (List.flatten [pSh κ qh h_cells h_lane h_size]) nT_ zr (List.flatten [pSh κ qh h_cells h_lane h_size]) := by
  unfold FSh_faultOfTwo at hf
  refine mI_of (by decide) (Nat.le_of_ble_eq_true rfl) ?_
  intro p e s m below meth c A ls H locs C0 hw hl
  obtain ⟨hx, hb, -, hml, hown, hts, -, -⟩ := id C0
  have hl : lv_has ls 4 [(0, .ref (qh 0)), (1, .int a1), (2, .int a2)] := hl
  refine lv_aload_n hx hb dX3_faultOfTwo_0 rfl (lv_at hl 0 rfl) ?_
  refine lv_iload_n hx hb dX3_faultOfTwo_1 rfl (lv_at hl 1 rfl) ?_
  refine lv_iload_n hx hb dX3_faultOfTwo_2 rfl (lv_at hl 2 rfl) ?_
  obtain ⟨r1, hk2, hf⟩ := b1_s hf
  refine rv_i (vq := (RX3, TX3, 3)) (As := [.int a1, .int a2]) (rest := []) (bs' := [pSh κ qh h_cells h_lane h_size]) C0 hw (cSh_faultAt l D κ qh h_cells h_lane h_size a1 a2 r1 hk2) cv_RX3_22 ⟨rfl, rfl, Nat.le_of_ble_eq_true rfl, Nat.le_of_ble_eq_true rfl⟩ ⟨Nat.zero_le _, Nat.zero_le _⟩ [0] [] [0] rfl rfl rfl rfl (by decide) rfl rfl rfl rfl rfl hl.1 (by simp only [List.map, List.sum_cons, List.sum_nil, Value.category]; decide) dX3_faultOfTwo_3 (fun H locs hw hn3 => ?_)
  refine lv_istore_n (lv' := [(3, .int r1), (0, .ref (qh 0)), (1, .int a1), (2, .int a2)]) hx hb dX3_faultOfTwo_6 rfl hl (by decide) rfl (fun ls hl => ?_)
  refine lv_iload_n hx hb dX3_faultOfTwo_7 rfl (lv_at hl 0 rfl) ?_
  refine lv_if_eq (tgt := 15) hx hb dX3_faultOfTwo_8 (by decide) (fun hc4 => ?_) (fun hc4 => ?_)
  · have hf := if_t hc4 hf
    refine lv_aload_n hx hb dX3_faultOfTwo_15 rfl (lv_at hl 1 rfl) ?_
    refine lv_iload_n hx hb dX3_faultOfTwo_16 rfl (lv_at hl 2 rfl) ?_
    refine lv_iload_n hx hb dX3_faultOfTwo_17 rfl (lv_at hl 3 rfl) ?_
    refine lv_iconst (v := 1) hx hb dX3_faultOfTwo_18 (by decide) ?_
    refine lv_iadd hx hb dX3_faultOfTwo_19 ?_
    obtain ⟨r5, hk6, hf⟩ := b1_s hf
    refine rv_i (vq := (RX3, TX3, 3)) (As := [.int a1, .int (a2 + (1 : Int32))]) (rest := []) (bs' := [pSh κ qh h_cells h_lane h_size]) C0 hw (cSh_faultAt l D κ qh h_cells h_lane h_size a1 (a2 + (1 : Int32)) r5 hk6) cv_RX3_22 ⟨rfl, rfl, Nat.le_of_ble_eq_true rfl, Nat.le_of_ble_eq_true rfl⟩ ⟨Nat.zero_le _, Nat.zero_le _⟩ [0] [] [0] rfl rfl rfl rfl (by decide) rfl rfl rfl rfl rfl hl.1 (by simp only [List.map, List.sum_cons, List.sum_nil, Value.category]; decide) dX3_faultOfTwo_20 (fun H locs hw hn7 => ?_)
    obtain rfl := e1_ hf
    exact r_iret C0 hw trivial dX3_faultOfTwo_23
  · have hf := if_f hc4 hf
    refine lv_iload_n hx hb dX3_faultOfTwo_11 rfl (lv_at hl 0 rfl) ?_
    refine lv_goto (tgt := 23) hx hb dX3_faultOfTwo_12 (by decide) ?_
    obtain rfl := e1_ hf
    exact r_iret C0 hw trivial dX3_faultOfTwo_23
