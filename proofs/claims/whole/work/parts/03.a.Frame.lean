theorem lk_X2_37 : Cond.fieldLink RX2 37 (TX2 8).1 (TX2 8).2.1 (TX2 8).2.2.1 ∈ uw := uw_1 (List.mem_of_getElem? (i := 166) rfl) rfl
theorem lk_X2_41 : Cond.fieldLink RX2 41 (TX2 9).1 (TX2 9).2.1 (TX2 9).2.2.1 ∈ uw := uw_1 (List.mem_of_getElem? (i := 172) rfl) rfl
theorem lk_X2_44 : Cond.fieldLink RX2 44 (TX2 10).1 (TX2 10).2.1 (TX2 10).2.2.1 ∈ uw := uw_1 (List.mem_of_getElem? (i := 176) rfl) rfl
theorem lk_X2_9 : Cond.fieldLink RX2 9 (TX2 0).1 (TX2 0).2.1 (TX2 0).2.2.1 ∈ uw := uw_1 (List.mem_of_getElem? (i := 147) rfl) rfl
theorem lk_X2_15 : Cond.fieldLink RX2 15 (TX2 1).1 (TX2 1).2.1 (TX2 1).2.2.1 ∈ uw := uw_1 (List.mem_of_getElem? (i := 151) rfl) rfl
theorem lk_X2_19 : Cond.fieldLink RX2 19 (TX2 2).1 (TX2 2).2.1 (TX2 2).2.2.1 ∈ uw := uw_1 (List.mem_of_getElem? (i := 155) rfl) rfl
theorem lk_X2_22 : Cond.fieldLink RX2 22 (TX2 3).1 (TX2 3).2.1 (TX2 3).2.2.1 ∈ uw := uw_1 (List.mem_of_getElem? (i := 156) rfl) rfl
theorem lk_X2_25 : Cond.fieldLink RX2 25 (TX2 4).1 (TX2 4).2.1 (TX2 4).2.2.1 ∈ uw := uw_1 (List.mem_of_getElem? (i := 158) rfl) rfl
theorem lk_X2_28 : Cond.fieldLink RX2 28 (TX2 5).1 (TX2 5).2.1 (TX2 5).2.2.1 ∈ uw := uw_1 (List.mem_of_getElem? (i := 160) rfl) rfl
theorem lk_X2_31 : Cond.fieldLink RX2 31 (TX2 6).1 (TX2 6).2.1 (TX2 6).2.2.1 ∈ uw := uw_1 (List.mem_of_getElem? (i := 162) rfl) rfl
theorem lk_X2_34 : Cond.fieldLink RX2 34 (TX2 7).1 (TX2 7).2.1 (TX2 7).2.2.1 ∈ uw := uw_1 (List.mem_of_getElem? (i := 164) rfl) rfl
theorem hd_X2_addLoad : yX2_addLoad.cls = RX2 ∧ yX2_addLoad.cls ≠ "java/lang/invoke/MethodHandle" ∧ yX2_addLoad.cls ≠ "java/lang/invoke/VarHandle" ∧ (parseMethodDescriptor yX2_addLoad.desc).map (fun d => d.parameters.length) = some 3 := by decide +kernel
theorem cv_RX2_53 : cv_ RX2 53 yX2_addLoad RX2 cX2_addLoad 4 none 3 := ⟨uw_3 (List.mem_of_getElem? (i := 158) rfl) rfl, uw_2 (List.mem_of_getElem? (i := 154) rfl) rfl, uw_2 (List.mem_of_getElem? (i := 155) rfl) rfl, uw_1 (List.mem_of_getElem? (i := 6) rfl) rfl, uw_2 (List.mem_of_getElem? (i := 156) rfl) rfl, hd_X2_addLoad⟩
theorem hd_X2_pressed : yX2_pressed.cls = RX2 ∧ yX2_pressed.cls ≠ "java/lang/invoke/MethodHandle" ∧ yX2_pressed.cls ≠ "java/lang/invoke/VarHandle" ∧ (parseMethodDescriptor yX2_pressed.desc).map (fun d => d.parameters.length) = some 2 := by decide +kernel
theorem cv_RX2_57 : cv_ RX2 57 yX2_pressed RX2 cX2_pressed 7 (some .int) 2 := ⟨uw_2 (List.mem_of_getElem? (i := 186) rfl) rfl, uw_2 (List.mem_of_getElem? (i := 188) rfl) rfl, uw_0 (List.mem_of_getElem? (i := 12) rfl) rfl, uw_1 (List.mem_of_getElem? (i := 6) rfl) rfl, uw_2 (List.mem_of_getElem? (i := 189) rfl) rfl, hd_X2_pressed⟩
theorem hd_X2_isJoint : yX2_isJoint.cls = RX2 ∧ yX2_isJoint.cls ≠ "java/lang/invoke/MethodHandle" ∧ yX2_isJoint.cls ≠ "java/lang/invoke/VarHandle" ∧ (parseMethodDescriptor yX2_isJoint.desc).map (fun d => d.parameters.length) = some 1 := by decide +kernel
theorem cv_RX2_61 : cv_ RX2 61 yX2_isJoint RX2 cX2_isJoint 2 (some .boolean) 1 := ⟨uw_2 (List.mem_of_getElem? (i := 162) rfl) rfl, uw_2 (List.mem_of_getElem? (i := 163) rfl) rfl, uw_2 (List.mem_of_getElem? (i := 164) rfl) rfl, uw_1 (List.mem_of_getElem? (i := 6) rfl) rfl, uw_2 (List.mem_of_getElem? (i := 165) rfl) rfl, hd_X2_isJoint⟩
theorem hd_X2_isBeam : yX2_isBeam.cls = RX2 ∧ yX2_isBeam.cls ≠ "java/lang/invoke/MethodHandle" ∧ yX2_isBeam.cls ≠ "java/lang/invoke/VarHandle" ∧ (parseMethodDescriptor yX2_isBeam.desc).map (fun d => d.parameters.length) = some 1 := by decide +kernel
theorem cv_RX2_65 : cv_ RX2 65 yX2_isBeam RX2 cX2_isBeam 2 (some .boolean) 1 := ⟨uw_2 (List.mem_of_getElem? (i := 166) rfl) rfl, uw_2 (List.mem_of_getElem? (i := 167) rfl) rfl, uw_2 (List.mem_of_getElem? (i := 168) rfl) rfl, uw_1 (List.mem_of_getElem? (i := 6) rfl) rfl, uw_2 (List.mem_of_getElem? (i := 169) rfl) rfl, hd_X2_isBeam⟩
def FFr_isJoint (f_joints a1 : Int32) : Option (Int32) :=
  if a1 < 0 then
    some ((0 : Int32))
  else
    if f_joints ≤ a1 then
      some ((0 : Int32))
    else
      some ((1 : Int32))
set_option maxHeartbeats 4000000 in
set_option maxRecDepth 100000 in
theorem cFr_isJoint (l : Launch) (D : va_G) (κ : Nat → ClassId) (qf : Nat → Nat) (f_held f_couples f_endJoints f_lengths f_stiffs f_loadBeams f_loadSizes f_loadPlaces : Nat → Int32) (f_joints f_beams f_loads a1 zr : Int32) (hf : FFr_isJoint f_joints a1 = some zr) : mI_ l yX2_isJoint (Cond.code yX2_isJoint cX2_isJoint 2 (some .boolean) :: uw) ({ frames := 0, cells := 0, slots := 0, locals := 0 } : Room) D (tys0 κ) [.ref (qf 0), .int a1] (List.flatten [pFr κ qf f_held f_couples f_endJoints f_lengths f_stiffs f_loadBeams f_loadSizes f_loadPlaces f_joints f_beams f_loads]) nB_ zr (List.flatten [pFr κ qf f_held f_couples f_endJoints f_lengths f_stiffs f_loadBeams f_loadSizes f_loadPlaces f_joints f_beams f_loads]) := by
  unfold FFr_isJoint at hf
  refine mI_of (by decide) (Nat.le_of_ble_eq_true rfl) ?_
  intro p e s m below meth c A ls H locs C0 hw hl
  obtain ⟨hx, hb, -, hml, hown, hts, -, -⟩ := id C0
  have hl : lv_has ls 2 [(0, .ref (qf 0)), (1, .int a1)] := hl
  refine lv_iload_n hx hb dX2_isJoint_0 rfl (lv_at hl 1 rfl) ?_
  refine lv_if_lt (tgt := 16) hx hb dX2_isJoint_1 (by decide) (fun hc1 => ?_) (fun hc1 => ?_)
  · have hf := if_t hc1 hf
    refine lv_iconst (v := 0) hx hb dX2_isJoint_16 (by decide) ?_
    obtain rfl := e1_ hf
    exact r_zret C0 hw (Or.inl rfl) dX2_isJoint_17
  · have hf := if_f hc1 hf
    refine lv_iload_n hx hb dX2_isJoint_4 rfl (lv_at hl 1 rfl) ?_
    refine lv_aload_n hx hb dX2_isJoint_5 rfl (lv_at hl 0 rfl) ?_
    refine r_get C0 hw 0 8 (v := .int f_joints) rfl rfl inX2 (by decide) lk_X2_37 rfl dX2_isJoint_6 ?_
    refine lv_icmp_ge (tgt := 16) hx hb dX2_isJoint_9 (by decide) (fun hc2 => ?_) (fun hc2 => ?_)
    · have hf := if_t hc2 hf
      refine lv_iconst (v := 0) hx hb dX2_isJoint_16 (by decide) ?_
      obtain rfl := e1_ hf
      exact r_zret C0 hw (Or.inl rfl) dX2_isJoint_17
    · have hf := if_f hc2 hf
      refine lv_iconst (v := 1) hx hb dX2_isJoint_12 (by decide) ?_
      refine lv_goto (tgt := 17) hx hb dX2_isJoint_13 (by decide) ?_
      obtain rfl := e1_ hf
      exact r_zret C0 hw (Or.inr rfl) dX2_isJoint_17
def FFr_isBeam (f_beams a1 : Int32) : Option (Int32) :=
  if a1 < 0 then
    some ((0 : Int32))
  else
    if f_beams ≤ a1 then
      some ((0 : Int32))
    else
      some ((1 : Int32))
set_option maxHeartbeats 4000000 in
set_option maxRecDepth 100000 in
theorem cFr_isBeam (l : Launch) (D : va_G) (κ : Nat → ClassId) (qf : Nat → Nat) (f_held f_couples f_endJoints f_lengths f_stiffs f_loadBeams f_loadSizes f_loadPlaces : Nat → Int32) (f_joints f_beams f_loads a1 zr : Int32) (hf : FFr_isBeam f_beams a1 = some zr) : mI_ l yX2_isBeam (Cond.code yX2_isBeam cX2_isBeam 2 (some .boolean) :: uw) ({ frames := 0, cells := 0, slots := 0, locals := 0 } : Room) D (tys0 κ) [.ref (qf 0), .int a1] (List.flatten [pFr κ qf f_held f_couples f_endJoints f_lengths f_stiffs f_loadBeams f_loadSizes f_loadPlaces f_joints f_beams f_loads]) nB_ zr (List.flatten [pFr κ qf f_held f_couples f_endJoints f_lengths f_stiffs f_loadBeams f_loadSizes f_loadPlaces f_joints f_beams f_loads]) := by
  unfold FFr_isBeam at hf
  refine mI_of (by decide) (Nat.le_of_ble_eq_true rfl) ?_
  intro p e s m below meth c A ls H locs C0 hw hl
  obtain ⟨hx, hb, -, hml, hown, hts, -, -⟩ := id C0
  have hl : lv_has ls 2 [(0, .ref (qf 0)), (1, .int a1)] := hl
  refine lv_iload_n hx hb dX2_isBeam_0 rfl (lv_at hl 1 rfl) ?_
  refine lv_if_lt (tgt := 16) hx hb dX2_isBeam_1 (by decide) (fun hc1 => ?_) (fun hc1 => ?_)
  · have hf := if_t hc1 hf
    refine lv_iconst (v := 0) hx hb dX2_isBeam_16 (by decide) ?_
    obtain rfl := e1_ hf
    exact r_zret C0 hw (Or.inl rfl) dX2_isBeam_17
  · have hf := if_f hc1 hf
    refine lv_iload_n hx hb dX2_isBeam_4 rfl (lv_at hl 1 rfl) ?_
    refine lv_aload_n hx hb dX2_isBeam_5 rfl (lv_at hl 0 rfl) ?_
    refine r_get C0 hw 0 9 (v := .int f_beams) rfl rfl inX2 (by decide) lk_X2_41 rfl dX2_isBeam_6 ?_
    refine lv_icmp_ge (tgt := 16) hx hb dX2_isBeam_9 (by decide) (fun hc2 => ?_) (fun hc2 => ?_)
    · have hf := if_t hc2 hf
      refine lv_iconst (v := 0) hx hb dX2_isBeam_16 (by decide) ?_
      obtain rfl := e1_ hf
      exact r_zret C0 hw (Or.inl rfl) dX2_isBeam_17
    · have hf := if_f hc2 hf
      refine lv_iconst (v := 1) hx hb dX2_isBeam_12 (by decide) ?_
      refine lv_goto (tgt := 17) hx hb dX2_isBeam_13 (by decide) ?_
      obtain rfl := e1_ hf
      exact r_zret C0 hw (Or.inr rfl) dX2_isBeam_17
def FFr_isEnd (f_beams a1 : Int32) : Option (Int32) :=
  if a1 < 0 then
    some ((0 : Int32))
  else
    if ((2 : Int32) * f_beams) ≤ a1 then
      some ((0 : Int32))
    else
      some ((1 : Int32))
set_option maxHeartbeats 4000000 in
set_option maxRecDepth 100000 in
theorem cFr_isEnd (l : Launch) (D : va_G) (κ : Nat → ClassId) (qf : Nat → Nat) (f_held f_couples f_endJoints f_lengths f_stiffs f_loadBeams f_loadSizes f_loadPlaces : Nat → Int32) (f_joints f_beams f_loads a1 zr : Int32) (hf : FFr_isEnd f_beams a1 = some zr) : mI_ l yX2_isEnd (Cond.code yX2_isEnd cX2_isEnd 2 (some .boolean) :: uw) ({ frames := 0, cells := 0, slots := 0, locals := 0 } : Room) D (tys0 κ) [.ref (qf 0), .int a1] (List.flatten [pFr κ qf f_held f_couples f_endJoints f_lengths f_stiffs f_loadBeams f_loadSizes f_loadPlaces f_joints f_beams f_loads]) nB_ zr (List.flatten [pFr κ qf f_held f_couples f_endJoints f_lengths f_stiffs f_loadBeams f_loadSizes f_loadPlaces f_joints f_beams f_loads]) := by
  unfold FFr_isEnd at hf
  refine mI_of (by decide) (Nat.le_of_ble_eq_true rfl) ?_
  intro p e s m below meth c A ls H locs C0 hw hl
  obtain ⟨hx, hb, -, hml, hown, hts, -, -⟩ := id C0
  have hl : lv_has ls 2 [(0, .ref (qf 0)), (1, .int a1)] := hl
  refine lv_iload_n hx hb dX2_isEnd_0 rfl (lv_at hl 1 rfl) ?_
  refine lv_if_lt (tgt := 18) hx hb dX2_isEnd_1 (by decide) (fun hc1 => ?_) (fun hc1 => ?_)
  · have hf := if_t hc1 hf
    refine lv_iconst (v := 0) hx hb dX2_isEnd_18 (by decide) ?_
    obtain rfl := e1_ hf
    exact r_zret C0 hw (Or.inl rfl) dX2_isEnd_19
  · have hf := if_f hc1 hf
    refine lv_iload_n hx hb dX2_isEnd_4 rfl (lv_at hl 1 rfl) ?_
    refine lv_iconst (v := 2) hx hb dX2_isEnd_5 (by decide) ?_
    refine lv_aload_n hx hb dX2_isEnd_6 rfl (lv_at hl 0 rfl) ?_
    refine r_get C0 hw 0 9 (v := .int f_beams) rfl rfl inX2 (by decide) lk_X2_41 rfl dX2_isEnd_7 ?_
    refine lv_imul hx hb dX2_isEnd_10 ?_
    refine lv_icmp_ge (tgt := 18) hx hb dX2_isEnd_11 (by decide) (fun hc2 => ?_) (fun hc2 => ?_)
    · have hf := if_t hc2 hf
      refine lv_iconst (v := 0) hx hb dX2_isEnd_18 (by decide) ?_
      obtain rfl := e1_ hf
      exact r_zret C0 hw (Or.inl rfl) dX2_isEnd_19
    · have hf := if_f hc2 hf
      refine lv_iconst (v := 1) hx hb dX2_isEnd_14 (by decide) ?_
      refine lv_goto (tgt := 19) hx hb dX2_isEnd_15 (by decide) ?_
      obtain rfl := e1_ hf
      exact r_zret C0 hw (Or.inr rfl) dX2_isEnd_19
def FFr_isLoad (f_loads a1 : Int32) : Option (Int32) :=
  if a1 < 0 then
    some ((0 : Int32))
  else
    if f_loads ≤ a1 then
      some ((0 : Int32))
    else
      some ((1 : Int32))
set_option maxHeartbeats 4000000 in
set_option maxRecDepth 100000 in
theorem cFr_isLoad (l : Launch) (D : va_G) (κ : Nat → ClassId) (qf : Nat → Nat) (f_held f_couples f_endJoints f_lengths f_stiffs f_loadBeams f_loadSizes f_loadPlaces : Nat → Int32) (f_joints f_beams f_loads a1 zr : Int32) (hf : FFr_isLoad f_loads a1 = some zr) : mI_ l yX2_isLoad (Cond.code yX2_isLoad cX2_isLoad 2 (some .boolean) :: uw) ({ frames := 0, cells := 0, slots := 0, locals := 0 } : Room) D (tys0 κ) [.ref (qf 0), .int a1] (List.flatten [pFr κ qf f_held f_couples f_endJoints f_lengths f_stiffs f_loadBeams f_loadSizes f_loadPlaces f_joints f_beams f_loads]) nB_ zr (List.flatten [pFr κ qf f_held f_couples f_endJoints f_lengths f_stiffs f_loadBeams f_loadSizes f_loadPlaces f_joints f_beams f_loads]) := by
  unfold FFr_isLoad at hf
  refine mI_of (by decide) (Nat.le_of_ble_eq_true rfl) ?_
  intro p e s m below meth c A ls H locs C0 hw hl
  obtain ⟨hx, hb, -, hml, hown, hts, -, -⟩ := id C0
  have hl : lv_has ls 2 [(0, .ref (qf 0)), (1, .int a1)] := hl
  refine lv_iload_n hx hb dX2_isLoad_0 rfl (lv_at hl 1 rfl) ?_
  refine lv_if_lt (tgt := 16) hx hb dX2_isLoad_1 (by decide) (fun hc1 => ?_) (fun hc1 => ?_)
  · have hf := if_t hc1 hf
    refine lv_iconst (v := 0) hx hb dX2_isLoad_16 (by decide) ?_
    obtain rfl := e1_ hf
    exact r_zret C0 hw (Or.inl rfl) dX2_isLoad_17
  · have hf := if_f hc1 hf
    refine lv_iload_n hx hb dX2_isLoad_4 rfl (lv_at hl 1 rfl) ?_
    refine lv_aload_n hx hb dX2_isLoad_5 rfl (lv_at hl 0 rfl) ?_
    refine r_get C0 hw 0 10 (v := .int f_loads) rfl rfl inX2 (by decide) lk_X2_44 rfl dX2_isLoad_6 ?_
    refine lv_icmp_ge (tgt := 16) hx hb dX2_isLoad_9 (by decide) (fun hc2 => ?_) (fun hc2 => ?_)
    · have hf := if_t hc2 hf
      refine lv_iconst (v := 0) hx hb dX2_isLoad_16 (by decide) ?_
      obtain rfl := e1_ hf
      exact r_zret C0 hw (Or.inl rfl) dX2_isLoad_17
    · have hf := if_f hc2 hf
      refine lv_iconst (v := 1) hx hb dX2_isLoad_12 (by decide) ?_
      refine lv_goto (tgt := 17) hx hb dX2_isLoad_13 (by decide) ?_
      obtain rfl := e1_ hf
      exact r_zret C0 hw (Or.inr rfl) dX2_isLoad_17
def FFr_clear  : Option (Int32 × Int32 × Int32) :=
  some ((0 : Int32), (0 : Int32), (0 : Int32))
set_option maxHeartbeats 4000000 in
set_option maxRecDepth 100000 in
theorem cFr_clear (l : Launch) (D : va_G) (κ : Nat → ClassId) (qf : Nat → Nat) (f_held f_couples f_endJoints f_lengths f_stiffs f_loadBeams f_loadSizes f_loadPlaces : Nat → Int32) (f_joints f_beams f_loads z1 z2 z3 : Int32) (hf : FFr_clear = some (z1, z2, z3)) : mV_ l yX2_clear (Cond.code yX2_clear cX2_clear 1 none :: uw) ({ frames := 0, cells := 0, slots := 0, locals := 0 } : Room) D (tys0 κ) [.ref (qf 0)] (List.flatten [pFr κ qf f_held f_couples f_endJoints f_lengths f_stiffs f_loadBeams f_loadSizes f_loadPlaces f_joints f_beams f_loads])  (List.flatten [pFr κ qf f_held f_couples f_endJoints f_lengths f_stiffs f_loadBeams f_loadSizes f_loadPlaces z1 z2 z3]) := by
  unfold FFr_clear at hf
  refine mV_of (by decide) (Nat.le_of_ble_eq_true rfl) ?_
  intro p e s m below meth c A ls H locs C0 hw hl
  obtain ⟨hx, hb, -, hml, hown, hts, -, -⟩ := id C0
  have hl : lv_has ls 1 [(0, .ref (qf 0))] := hl
  refine lv_aload_n hx hb dX2_clear_0 rfl (lv_at hl 0 rfl) ?_
  refine lv_iconst (v := 0) hx hb dX2_clear_1 (by decide) ?_
  refine r_put C0 hw 0 8 (v := .int (0 : Int32)) (ws' := List.flatten [pFr κ qf f_held f_couples f_endJoints f_lengths f_stiffs f_loadBeams f_loadSizes f_loadPlaces (0 : Int32) f_beams f_loads]) rfl rfl inX2 tyX2_ok nmX2 (by decide) lk_X2_37 rfl rfl rfl rfl (Nat.le_of_ble_eq_true rfl) dX2_clear_2 rfl (fun H locs hw => ?_)
  refine lv_aload_n hx hb dX2_clear_5 rfl (lv_at hl 0 rfl) ?_
  refine lv_iconst (v := 0) hx hb dX2_clear_6 (by decide) ?_
  refine r_put C0 hw 0 9 (v := .int (0 : Int32)) (ws' := List.flatten [pFr κ qf f_held f_couples f_endJoints f_lengths f_stiffs f_loadBeams f_loadSizes f_loadPlaces (0 : Int32) (0 : Int32) f_loads]) rfl rfl inX2 tyX2_ok nmX2 (by decide) lk_X2_41 rfl rfl rfl rfl (Nat.le_of_ble_eq_true rfl) dX2_clear_7 rfl (fun H locs hw => ?_)
  refine lv_aload_n hx hb dX2_clear_10 rfl (lv_at hl 0 rfl) ?_
  refine lv_iconst (v := 0) hx hb dX2_clear_11 (by decide) ?_
  refine r_put C0 hw 0 10 (v := .int (0 : Int32)) (ws' := List.flatten [pFr κ qf f_held f_couples f_endJoints f_lengths f_stiffs f_loadBeams f_loadSizes f_loadPlaces (0 : Int32) (0 : Int32) (0 : Int32)]) rfl rfl inX2 tyX2_ok nmX2 (by decide) lk_X2_44 rfl rfl rfl rfl (Nat.le_of_ble_eq_true rfl) dX2_clear_12 rfl (fun H locs hw => ?_)
  obtain ⟨rfl, rfl, rfl⟩ := e3_ hf
  exact r_vret C0 hw dX2_clear_15
def FFr_addJoint (f_held f_couples : Nat → Int32) (f_joints a1 a2 : Int32) : Option ((Nat → Int32) × (Nat → Int32) × Int32) :=
  if (6 : Int32) ≤ f_joints then
    some (f_held, f_couples, f_joints)
  else
    gd_ f_joints 6 <|
    lt_ (upd f_held f_joints.toNatClampNeg (vp_nar .boolean a1)) fun w3 =>
    gd_ f_joints 6 <|
    lt_ (upd f_couples f_joints.toNatClampNeg a2) fun w5 =>
    lt_ (f_joints + (1 : Int32)) fun v6 =>
    some (w3, w5, v6)
set_option maxHeartbeats 4000000 in
set_option maxRecDepth 100000 in
theorem cFr_addJoint (l : Launch) (D : va_G) (κ : Nat → ClassId) (qf : Nat → Nat) (f_held f_couples f_endJoints f_lengths f_stiffs f_loadBeams f_loadSizes f_loadPlaces : Nat → Int32) (f_joints f_beams f_loads a1 a2 : Int32) (z1 z2 : Nat → Int32) (z3 : Int32) (hf : FFr_addJoint f_held f_couples f_joints a1 a2 = some (z1, z2, z3)) : mV_ l yX2_addJoint (Cond.code yX2_addJoint cX2_addJoint 3 none :: uw) ({ frames := 0, cells := 0, slots := 0, locals := 0 } : Room) D (tys0 κ) [.ref (qf 0), .int a1, .int a2] (List.flatten [pFr κ qf f_held f_couples f_endJoints f_lengths f_stiffs f_loadBeams f_loadSizes f_loadPlaces f_joints f_beams f_loads])  (List.flatten [pFr κ qf z1 z2 f_endJoints f_lengths f_stiffs f_loadBeams f_loadSizes f_loadPlaces z3 f_beams f_loads]) := by
  unfold FFr_addJoint at hf
  refine mV_of (by decide) (Nat.le_of_ble_eq_true rfl) ?_
  intro p e s m below meth c A ls H locs C0 hw hl
  obtain ⟨hx, hb, -, hml, hown, hts, -, -⟩ := id C0
  have hl : lv_has ls 3 [(0, .ref (qf 0)), (1, .int a1), (2, .int a2)] := hl
  refine lv_aload_n hx hb dX2_addJoint_0 rfl (lv_at hl 0 rfl) ?_
  refine r_get C0 hw 0 8 (v := .int f_joints) rfl rfl inX2 (by decide) lk_X2_37 rfl dX2_addJoint_1 ?_
  refine lv_bipush (v := 6) hx hb dX2_addJoint_4 (by decide) ?_
  refine lv_icmp_ge (tgt := 39) hx hb dX2_addJoint_6 (by decide) (fun hc1 => ?_) (fun hc1 => ?_)
  · have hf := if_t hc1 hf
    obtain ⟨rfl, rfl, rfl⟩ := e3_ hf
    exact r_vret C0 hw dX2_addJoint_39
  · have hf := if_f hc1 hf
    refine lv_aload_n hx hb dX2_addJoint_9 rfl (lv_at hl 0 rfl) ?_
    refine r_get C0 hw 0 0 (v := .ref (qf 1)) rfl rfl inX2 (by decide) lk_X2_9 rfl dX2_addJoint_10 ?_
    refine lv_aload_n hx hb dX2_addJoint_13 rfl (lv_at hl 0 rfl) ?_
    refine r_get C0 hw 0 8 (v := .int f_joints) rfl rfl inX2 (by decide) lk_X2_37 rfl dX2_addJoint_14 ?_
    refine lv_iload_n hx hb dX2_addJoint_17 rfl (lv_at hl 1 rfl) ?_
    obtain ⟨hi2, hf⟩ := gd_s hf
    obtain ⟨w3, ew3⟩ : ∃ z : Nat → Int32, z = (upd f_held f_joints.toNatClampNeg (vp_nar .boolean a1)) := ⟨_, rfl⟩
    have hf := lt_s_ hf w3 ew3
    refine r_zast C0 hw 1 1 rfl rfl hi2 dX2_addJoint_18 (ws' := List.flatten [pFr κ qf w3 f_couples f_endJoints f_lengths f_stiffs f_loadBeams f_loadSizes f_loadPlaces f_joints f_beams f_loads]) (by subst ew3; rfl) (fun H locs hw => ?_)
    refine lv_aload_n hx hb dX2_addJoint_19 rfl (lv_at hl 0 rfl) ?_
    refine r_get C0 hw 0 1 (v := .ref (qf 2)) rfl rfl inX2 (by decide) lk_X2_15 rfl dX2_addJoint_20 ?_
    refine lv_aload_n hx hb dX2_addJoint_23 rfl (lv_at hl 0 rfl) ?_
    refine r_get C0 hw 0 8 (v := .int f_joints) rfl rfl inX2 (by decide) lk_X2_37 rfl dX2_addJoint_24 ?_
    refine lv_iload_n hx hb dX2_addJoint_27 rfl (lv_at hl 2 rfl) ?_
    obtain ⟨hi4, hf⟩ := gd_s hf
    obtain ⟨w5, ew5⟩ : ∃ z : Nat → Int32, z = (upd f_couples f_joints.toNatClampNeg a2) := ⟨_, rfl⟩
    have hf := lt_s_ hf w5 ew5
    refine r_iast C0 hw 2 0 rfl rfl hi4 dX2_addJoint_28 (ws' := List.flatten [pFr κ qf w3 w5 f_endJoints f_lengths f_stiffs f_loadBeams f_loadSizes f_loadPlaces f_joints f_beams f_loads]) (by subst ew5; rfl) (fun H locs hw => ?_)
    refine lv_aload_n hx hb dX2_addJoint_29 rfl (lv_at hl 0 rfl) ?_
    refine lv_dup hx hb dX2_addJoint_30 rfl ?_
    refine r_get C0 hw 0 8 (v := .int f_joints) rfl rfl inX2 (by decide) lk_X2_37 rfl dX2_addJoint_31 ?_
    refine lv_iconst (v := 1) hx hb dX2_addJoint_34 (by decide) ?_
    refine lv_iadd hx hb dX2_addJoint_35 ?_
    refine lv_topi (fun v6 ev6 => ?_)
    have hf := lt_s_ hf v6 ev6
    refine r_put C0 hw 0 8 (v := .int v6) (ws' := List.flatten [pFr κ qf w3 w5 f_endJoints f_lengths f_stiffs f_loadBeams f_loadSizes f_loadPlaces v6 f_beams f_loads]) rfl rfl inX2 tyX2_ok nmX2 (by decide) lk_X2_37 rfl rfl rfl rfl (Nat.le_of_ble_eq_true rfl) dX2_addJoint_36 rfl (fun H locs hw => ?_)
    obtain ⟨rfl, rfl, rfl⟩ := e3_ hf
    exact r_vret C0 hw dX2_addJoint_39
def FFr_addBeam (f_endJoints f_lengths f_stiffs : Nat → Int32) (f_beams a1 a2 a3 a4 : Int32) : Option ((Nat → Int32) × (Nat → Int32) × (Nat → Int32) × Int32) :=
  if (10 : Int32) ≤ f_beams then
    some (f_endJoints, f_lengths, f_stiffs, f_beams)
  else
    gd_ ((2 : Int32) * f_beams) 20 <|
    lt_ (upd f_endJoints ((2 : Int32) * f_beams).toNatClampNeg a1) fun w3 =>
    gd_ (((2 : Int32) * f_beams) + (1 : Int32)) 20 <|
    lt_ (upd w3 (((2 : Int32) * f_beams) + (1 : Int32)).toNatClampNeg a2) fun w5 =>
    gd_ f_beams 10 <|
    lt_ (upd f_lengths f_beams.toNatClampNeg a3) fun w7 =>
    gd_ f_beams 10 <|
    lt_ (upd f_stiffs f_beams.toNatClampNeg a4) fun w9 =>
    lt_ (f_beams + (1 : Int32)) fun v10 =>
    some (w5, w7, w9, v10)
set_option maxHeartbeats 4000000 in
set_option maxRecDepth 100000 in
theorem cFr_addBeam (l : Launch) (D : va_G) (κ : Nat → ClassId) (qf : Nat → Nat) (f_held f_couples f_endJoints f_lengths f_stiffs f_loadBeams f_loadSizes f_loadPlaces : Nat → Int32) (f_joints f_beams f_loads a1 a2 a3 a4 : Int32) (z1 z2 z3 : Nat → Int32) (z4 : Int32) (hf : FFr_addBeam f_endJoints f_lengths f_stiffs f_beams a1 a2 a3 a4 = some (z1, z2, z3, z4)) : mV_ l yX2_addBeam (Cond.code yX2_addBeam cX2_addBeam 5 none :: uw) ({ frames := 0, cells := 0, slots := 0, locals := 0 } : Room) D (tys0 κ) [.ref (qf 0), .int a1, .int a2, .int a3, .int a4] (List.flatten [pFr κ qf f_held f_couples f_endJoints f_lengths f_stiffs f_loadBeams f_loadSizes f_loadPlaces f_joints f_beams f_loads])  (List.flatten [pFr κ qf f_held f_couples z1 z2 z3 f_loadBeams f_loadSizes f_loadPlaces f_joints z4 f_loads]) := by
  unfold FFr_addBeam at hf
  refine mV_of (by decide) (Nat.le_of_ble_eq_true rfl) ?_
  intro p e s m below meth c A ls H locs C0 hw hl
  obtain ⟨hx, hb, -, hml, hown, hts, -, -⟩ := id C0
  have hl : lv_has ls 5 [(0, .ref (qf 0)), (1, .int a1), (2, .int a2), (3, .int a3), (4, .int a4)] := hl
  refine lv_aload_n hx hb dX2_addBeam_0 rfl (lv_at hl 0 rfl) ?_
  refine r_get C0 hw 0 9 (v := .int f_beams) rfl rfl inX2 (by decide) lk_X2_41 rfl dX2_addBeam_1 ?_
  refine lv_bipush (v := 10) hx hb dX2_addBeam_4 (by decide) ?_
  refine lv_icmp_ge (tgt := 66) hx hb dX2_addBeam_6 (by decide) (fun hc1 => ?_) (fun hc1 => ?_)
  · have hf := if_t hc1 hf
    obtain ⟨rfl, rfl, rfl, rfl⟩ := e4_ hf
    exact r_vret C0 hw dX2_addBeam_66
  · have hf := if_f hc1 hf
    refine lv_aload_n hx hb dX2_addBeam_9 rfl (lv_at hl 0 rfl) ?_
    refine r_get C0 hw 0 2 (v := .ref (qf 3)) rfl rfl inX2 (by decide) lk_X2_19 rfl dX2_addBeam_10 ?_
    refine lv_iconst (v := 2) hx hb dX2_addBeam_13 (by decide) ?_
    refine lv_aload_n hx hb dX2_addBeam_14 rfl (lv_at hl 0 rfl) ?_
    refine r_get C0 hw 0 9 (v := .int f_beams) rfl rfl inX2 (by decide) lk_X2_41 rfl dX2_addBeam_15 ?_
    refine lv_imul hx hb dX2_addBeam_18 ?_
    refine lv_iload_n hx hb dX2_addBeam_19 rfl (lv_at hl 1 rfl) ?_
    obtain ⟨hi2, hf⟩ := gd_s hf
    obtain ⟨w3, ew3⟩ : ∃ z : Nat → Int32, z = (upd f_endJoints ((2 : Int32) * f_beams).toNatClampNeg a1) := ⟨_, rfl⟩
    have hf := lt_s_ hf w3 ew3
    refine r_iast C0 hw 3 0 rfl rfl hi2 dX2_addBeam_20 (ws' := List.flatten [pFr κ qf f_held f_couples w3 f_lengths f_stiffs f_loadBeams f_loadSizes f_loadPlaces f_joints f_beams f_loads]) (by subst ew3; rfl) (fun H locs hw => ?_)
    refine lv_aload_n hx hb dX2_addBeam_21 rfl (lv_at hl 0 rfl) ?_
    refine r_get C0 hw 0 2 (v := .ref (qf 3)) rfl rfl inX2 (by decide) lk_X2_19 rfl dX2_addBeam_22 ?_
    refine lv_iconst (v := 2) hx hb dX2_addBeam_25 (by decide) ?_
    refine lv_aload_n hx hb dX2_addBeam_26 rfl (lv_at hl 0 rfl) ?_
    refine r_get C0 hw 0 9 (v := .int f_beams) rfl rfl inX2 (by decide) lk_X2_41 rfl dX2_addBeam_27 ?_
    refine lv_imul hx hb dX2_addBeam_30 ?_
    refine lv_iconst (v := 1) hx hb dX2_addBeam_31 (by decide) ?_
    refine lv_iadd hx hb dX2_addBeam_32 ?_
    refine lv_iload_n hx hb dX2_addBeam_33 rfl (lv_at hl 2 rfl) ?_
    obtain ⟨hi4, hf⟩ := gd_s hf
    obtain ⟨w5, ew5⟩ : ∃ z : Nat → Int32, z = (upd w3 (((2 : Int32) * f_beams) + (1 : Int32)).toNatClampNeg a2) := ⟨_, rfl⟩
    have hf := lt_s_ hf w5 ew5
    refine r_iast C0 hw 3 0 rfl rfl hi4 dX2_addBeam_34 (ws' := List.flatten [pFr κ qf f_held f_couples w5 f_lengths f_stiffs f_loadBeams f_loadSizes f_loadPlaces f_joints f_beams f_loads]) (by subst ew5; rfl) (fun H locs hw => ?_)
    refine lv_aload_n hx hb dX2_addBeam_35 rfl (lv_at hl 0 rfl) ?_
    refine r_get C0 hw 0 3 (v := .ref (qf 4)) rfl rfl inX2 (by decide) lk_X2_22 rfl dX2_addBeam_36 ?_
    refine lv_aload_n hx hb dX2_addBeam_39 rfl (lv_at hl 0 rfl) ?_
    refine r_get C0 hw 0 9 (v := .int f_beams) rfl rfl inX2 (by decide) lk_X2_41 rfl dX2_addBeam_40 ?_
    refine lv_iload_n hx hb dX2_addBeam_43 rfl (lv_at hl 3 rfl) ?_
    obtain ⟨hi6, hf⟩ := gd_s hf
    obtain ⟨w7, ew7⟩ : ∃ z : Nat → Int32, z = (upd f_lengths f_beams.toNatClampNeg a3) := ⟨_, rfl⟩
    have hf := lt_s_ hf w7 ew7
    refine r_iast C0 hw 4 0 rfl rfl hi6 dX2_addBeam_44 (ws' := List.flatten [pFr κ qf f_held f_couples w5 w7 f_stiffs f_loadBeams f_loadSizes f_loadPlaces f_joints f_beams f_loads]) (by subst ew7; rfl) (fun H locs hw => ?_)
    refine lv_aload_n hx hb dX2_addBeam_45 rfl (lv_at hl 0 rfl) ?_
    refine r_get C0 hw 0 4 (v := .ref (qf 5)) rfl rfl inX2 (by decide) lk_X2_25 rfl dX2_addBeam_46 ?_
    refine lv_aload_n hx hb dX2_addBeam_49 rfl (lv_at hl 0 rfl) ?_
    refine r_get C0 hw 0 9 (v := .int f_beams) rfl rfl inX2 (by decide) lk_X2_41 rfl dX2_addBeam_50 ?_
    refine lv_iload hx hb dX2_addBeam_53 (lv_at hl 4 rfl) ?_
    obtain ⟨hi8, hf⟩ := gd_s hf
    obtain ⟨w9, ew9⟩ : ∃ z : Nat → Int32, z = (upd f_stiffs f_beams.toNatClampNeg a4) := ⟨_, rfl⟩
    have hf := lt_s_ hf w9 ew9
    refine r_iast C0 hw 5 0 rfl rfl hi8 dX2_addBeam_55 (ws' := List.flatten [pFr κ qf f_held f_couples w5 w7 w9 f_loadBeams f_loadSizes f_loadPlaces f_joints f_beams f_loads]) (by subst ew9; rfl) (fun H locs hw => ?_)
    refine lv_aload_n hx hb dX2_addBeam_56 rfl (lv_at hl 0 rfl) ?_
    refine lv_dup hx hb dX2_addBeam_57 rfl ?_
    refine r_get C0 hw 0 9 (v := .int f_beams) rfl rfl inX2 (by decide) lk_X2_41 rfl dX2_addBeam_58 ?_
    refine lv_iconst (v := 1) hx hb dX2_addBeam_61 (by decide) ?_
    refine lv_iadd hx hb dX2_addBeam_62 ?_
    refine lv_topi (fun v10 ev10 => ?_)
    have hf := lt_s_ hf v10 ev10
    refine r_put C0 hw 0 9 (v := .int v10) (ws' := List.flatten [pFr κ qf f_held f_couples w5 w7 w9 f_loadBeams f_loadSizes f_loadPlaces f_joints v10 f_loads]) rfl rfl inX2 tyX2_ok nmX2 (by decide) lk_X2_41 rfl rfl rfl rfl (Nat.le_of_ble_eq_true rfl) dX2_addBeam_63 rfl (fun H locs hw => ?_)
    obtain ⟨rfl, rfl, rfl, rfl⟩ := e4_ hf
    exact r_vret C0 hw dX2_addBeam_66
def FFr_addLoad (f_loadBeams f_loadSizes f_loadPlaces : Nat → Int32) (f_loads a1 a2 a3 : Int32) : Option ((Nat → Int32) × (Nat → Int32) × (Nat → Int32) × Int32) :=
  if (8 : Int32) ≤ f_loads then
    some (f_loadBeams, f_loadSizes, f_loadPlaces, f_loads)
  else
    gd_ f_loads 8 <|
    lt_ (upd f_loadBeams f_loads.toNatClampNeg a1) fun w3 =>
    gd_ f_loads 8 <|
    lt_ (upd f_loadSizes f_loads.toNatClampNeg a2) fun w5 =>
    gd_ f_loads 8 <|
    lt_ (upd f_loadPlaces f_loads.toNatClampNeg a3) fun w7 =>
    lt_ (f_loads + (1 : Int32)) fun v8 =>
    some (w3, w5, w7, v8)
set_option maxHeartbeats 4000000 in
set_option maxRecDepth 100000 in
theorem cFr_addLoad (l : Launch) (D : va_G) (κ : Nat → ClassId) (qf : Nat → Nat) (f_held f_couples f_endJoints f_lengths f_stiffs f_loadBeams f_loadSizes f_loadPlaces : Nat → Int32) (f_joints f_beams f_loads a1 a2 a3 : Int32) (z1 z2 z3 : Nat → Int32) (z4 : Int32) (hf : FFr_addLoad f_loadBeams f_loadSizes f_loadPlaces f_loads a1 a2 a3 = some (z1, z2, z3, z4)) : mV_ l yX2_addLoad (Cond.code yX2_addLoad cX2_addLoad 4 none :: uw) ({ frames := 0, cells := 0, slots := 0, locals := 0 } : Room) D (tys0 κ) [.ref (qf 0), .int a1, .int a2, .int a3] (List.flatten [pFr κ qf f_held f_couples f_endJoints f_lengths f_stiffs f_loadBeams f_loadSizes f_loadPlaces f_joints f_beams f_loads])  (List.flatten [pFr κ qf f_held f_couples f_endJoints f_lengths f_stiffs z1 z2 z3 f_joints f_beams z4]) := by
  unfold FFr_addLoad at hf
  refine mV_of (by decide) (Nat.le_of_ble_eq_true rfl) ?_
  intro p e s m below meth c A ls H locs C0 hw hl
  obtain ⟨hx, hb, -, hml, hown, hts, -, -⟩ := id C0
  have hl : lv_has ls 4 [(0, .ref (qf 0)), (1, .int a1), (2, .int a2), (3, .int a3)] := hl
  refine lv_aload_n hx hb dX2_addLoad_0 rfl (lv_at hl 0 rfl) ?_
  refine r_get C0 hw 0 10 (v := .int f_loads) rfl rfl inX2 (by decide) lk_X2_44 rfl dX2_addLoad_1 ?_
  refine lv_bipush (v := 8) hx hb dX2_addLoad_4 (by decide) ?_
  refine lv_icmp_ge (tgt := 49) hx hb dX2_addLoad_6 (by decide) (fun hc1 => ?_) (fun hc1 => ?_)
  · have hf := if_t hc1 hf
    obtain ⟨rfl, rfl, rfl, rfl⟩ := e4_ hf
    exact r_vret C0 hw dX2_addLoad_49
  · have hf := if_f hc1 hf
    refine lv_aload_n hx hb dX2_addLoad_9 rfl (lv_at hl 0 rfl) ?_
    refine r_get C0 hw 0 5 (v := .ref (qf 6)) rfl rfl inX2 (by decide) lk_X2_28 rfl dX2_addLoad_10 ?_
    refine lv_aload_n hx hb dX2_addLoad_13 rfl (lv_at hl 0 rfl) ?_
    refine r_get C0 hw 0 10 (v := .int f_loads) rfl rfl inX2 (by decide) lk_X2_44 rfl dX2_addLoad_14 ?_
    refine lv_iload_n hx hb dX2_addLoad_17 rfl (lv_at hl 1 rfl) ?_
    obtain ⟨hi2, hf⟩ := gd_s hf
    obtain ⟨w3, ew3⟩ : ∃ z : Nat → Int32, z = (upd f_loadBeams f_loads.toNatClampNeg a1) := ⟨_, rfl⟩
    have hf := lt_s_ hf w3 ew3
    refine r_iast C0 hw 6 0 rfl rfl hi2 dX2_addLoad_18 (ws' := List.flatten [pFr κ qf f_held f_couples f_endJoints f_lengths f_stiffs w3 f_loadSizes f_loadPlaces f_joints f_beams f_loads]) (by subst ew3; rfl) (fun H locs hw => ?_)
    refine lv_aload_n hx hb dX2_addLoad_19 rfl (lv_at hl 0 rfl) ?_
    refine r_get C0 hw 0 6 (v := .ref (qf 7)) rfl rfl inX2 (by decide) lk_X2_31 rfl dX2_addLoad_20 ?_
    refine lv_aload_n hx hb dX2_addLoad_23 rfl (lv_at hl 0 rfl) ?_
    refine r_get C0 hw 0 10 (v := .int f_loads) rfl rfl inX2 (by decide) lk_X2_44 rfl dX2_addLoad_24 ?_
    refine lv_iload_n hx hb dX2_addLoad_27 rfl (lv_at hl 2 rfl) ?_
    obtain ⟨hi4, hf⟩ := gd_s hf
    obtain ⟨w5, ew5⟩ : ∃ z : Nat → Int32, z = (upd f_loadSizes f_loads.toNatClampNeg a2) := ⟨_, rfl⟩
    have hf := lt_s_ hf w5 ew5
    refine r_iast C0 hw 7 0 rfl rfl hi4 dX2_addLoad_28 (ws' := List.flatten [pFr κ qf f_held f_couples f_endJoints f_lengths f_stiffs w3 w5 f_loadPlaces f_joints f_beams f_loads]) (by subst ew5; rfl) (fun H locs hw => ?_)
    refine lv_aload_n hx hb dX2_addLoad_29 rfl (lv_at hl 0 rfl) ?_
    refine r_get C0 hw 0 7 (v := .ref (qf 8)) rfl rfl inX2 (by decide) lk_X2_34 rfl dX2_addLoad_30 ?_
    refine lv_aload_n hx hb dX2_addLoad_33 rfl (lv_at hl 0 rfl) ?_
    refine r_get C0 hw 0 10 (v := .int f_loads) rfl rfl inX2 (by decide) lk_X2_44 rfl dX2_addLoad_34 ?_
    refine lv_iload_n hx hb dX2_addLoad_37 rfl (lv_at hl 3 rfl) ?_
    obtain ⟨hi6, hf⟩ := gd_s hf
    obtain ⟨w7, ew7⟩ : ∃ z : Nat → Int32, z = (upd f_loadPlaces f_loads.toNatClampNeg a3) := ⟨_, rfl⟩
    have hf := lt_s_ hf w7 ew7
    refine r_iast C0 hw 8 0 rfl rfl hi6 dX2_addLoad_38 (ws' := List.flatten [pFr κ qf f_held f_couples f_endJoints f_lengths f_stiffs w3 w5 w7 f_joints f_beams f_loads]) (by subst ew7; rfl) (fun H locs hw => ?_)
    refine lv_aload_n hx hb dX2_addLoad_39 rfl (lv_at hl 0 rfl) ?_
    refine lv_dup hx hb dX2_addLoad_40 rfl ?_
    refine r_get C0 hw 0 10 (v := .int f_loads) rfl rfl inX2 (by decide) lk_X2_44 rfl dX2_addLoad_41 ?_
    refine lv_iconst (v := 1) hx hb dX2_addLoad_44 (by decide) ?_
    refine lv_iadd hx hb dX2_addLoad_45 ?_
    refine lv_topi (fun v8 ev8 => ?_)
    have hf := lt_s_ hf v8 ev8
    refine r_put C0 hw 0 10 (v := .int v8) (ws' := List.flatten [pFr κ qf f_held f_couples f_endJoints f_lengths f_stiffs w3 w5 w7 f_joints f_beams v8]) rfl rfl inX2 tyX2_ok nmX2 (by decide) lk_X2_44 rfl rfl rfl rfl (Nat.le_of_ble_eq_true rfl) dX2_addLoad_46 rfl (fun H locs hw => ?_)
    obtain ⟨rfl, rfl, rfl, rfl⟩ := e4_ hf
    exact r_vret C0 hw dX2_addLoad_49
def FFr_removeLoad_L4 (f_loads : Int32) : Nat → Int32 → (Nat → Int32) → (Nat → Int32) → (Nat → Int32) → Option ((Nat → Int32) × (Nat → Int32) × (Nat → Int32) × Int32)
  | 0, _, _, _, _ => none
  | n + 1, l2, f_loadBeams, f_loadSizes, f_loadPlaces =>
      if f_loads ≤ l2 then
        lt_ (f_loads - (1 : Int32)) fun v3 =>
        some (f_loadBeams, f_loadSizes, f_loadPlaces, v3)
      else
        gd_ l2 8 <|
        gd_ (l2 - (1 : Int32)) 8 <|
        lt_ (upd f_loadBeams (l2 - (1 : Int32)).toNatClampNeg (f_loadBeams l2.toNatClampNeg)) fun w6 =>
        gd_ l2 8 <|
        gd_ (l2 - (1 : Int32)) 8 <|
        lt_ (upd f_loadSizes (l2 - (1 : Int32)).toNatClampNeg (f_loadSizes l2.toNatClampNeg)) fun w9 =>
        gd_ l2 8 <|
        gd_ (l2 - (1 : Int32)) 8 <|
        lt_ (upd f_loadPlaces (l2 - (1 : Int32)).toNatClampNeg (f_loadPlaces l2.toNatClampNeg)) fun w12 =>
        lt_ (l2 + (1 : Int32)) fun v13 =>
        FFr_removeLoad_L4 f_loads n v13 w6 w9 w12
def FFr_removeLoad (f_loadBeams f_loadSizes f_loadPlaces : Nat → Int32) (f_loads a1 : Int32) : Option ((Nat → Int32) × (Nat → Int32) × (Nat → Int32) × Int32) :=
  lt_ (a1 + (1 : Int32)) fun v1 =>
  FFr_removeLoad_L4 f_loads 1000 v1 f_loadBeams f_loadSizes f_loadPlaces
set_option maxHeartbeats 4000000 in
set_option maxRecDepth 100000 in
theorem wFr_removeLoad_L4 {p : Program} {l : Launch} {e : Env} {s : State} {m : MethodId} {args : Array Value} {below : List Frame} {meth : Method} {c : Code} {A : Nat → Prop} {D : va_G} {κ : Nat → ClassId} (C0 : cx_ p s m meth c args cX2_removeLoad RX2 none 3 A) (qf : Nat → Nat) (f_held f_couples f_endJoints f_lengths f_stiffs : Nat → Int32) (f_joints f_beams f_loads : Int32) (z1 z2 z3 : Nat → Int32) (z4 : Int32) : ∀ (n : Nat) (l2 : Int32) (f_loadBeams : Nat → Int32) (f_loadSizes : Nat → Int32) (f_loadPlaces : Nat → Int32) (H : Heap) (locs : List Loc) (ls : Array Slot), wd_ D (tys0 κ) A s (List.flatten [pFr κ qf f_held f_couples f_endJoints f_lengths f_stiffs f_loadBeams f_loadSizes f_loadPlaces f_joints f_beams f_loads]) H locs → lv_has ls 3 [(0, .ref (qf 0)), (2, .int l2)] → FFr_removeLoad_L4 f_loads n l2 f_loadBeams f_loadSizes f_loadPlaces = some (z1, z2, z3, z4) → W p l e ({ frames := 0, cells := 0, slots := 0, locals := 0 } : Room) s m args below meth c H locs 0 0 (qV_ D (tys0 κ) A (List.flatten [pFr κ qf f_held f_couples f_endJoints f_lengths f_stiffs z1 z2 z3 f_joints f_beams z4]) below args s) (F0 m 4 ls []) := by
  obtain ⟨hx, hb, -, hml, hown, hts, -, -⟩ := id C0
  intro n
  induction n with
  | zero =>
    intro l2 f_loadBeams f_loadSizes f_loadPlaces H locs ls hw hl  hf
    cases hf
  | succ n ih =>
    intro l2 f_loadBeams f_loadSizes f_loadPlaces H locs ls hw hl  hf
    rw [FFr_removeLoad_L4.eq_2] at hf
    refine lv_iload_n hx hb dX2_removeLoad_4 rfl (lv_at hl 1 rfl) ?_
    refine lv_aload_n hx hb dX2_removeLoad_5 rfl (lv_at hl 0 rfl) ?_
    refine r_get C0 hw 0 10 (v := .int f_loads) rfl rfl inX2 (by decide) lk_X2_44 rfl dX2_removeLoad_6 ?_
    refine lv_icmp_ge (tgt := 60) hx hb dX2_removeLoad_9 (by decide) (fun hc2 => ?_) (fun hc2 => ?_)
    · have hf := if_t hc2 hf
      refine lv_aload_n hx hb dX2_removeLoad_60 rfl (lv_at hl 0 rfl) ?_
      refine lv_dup hx hb dX2_removeLoad_61 rfl ?_
      refine r_get C0 hw 0 10 (v := .int f_loads) rfl rfl inX2 (by decide) lk_X2_44 rfl dX2_removeLoad_62 ?_
      refine lv_iconst (v := 1) hx hb dX2_removeLoad_65 (by decide) ?_
      refine lv_isub hx hb dX2_removeLoad_66 ?_
      refine lv_topi (fun v3 ev3 => ?_)
      have hf := lt_s_ hf v3 ev3
      refine r_put C0 hw 0 10 (v := .int v3) (ws' := List.flatten [pFr κ qf f_held f_couples f_endJoints f_lengths f_stiffs f_loadBeams f_loadSizes f_loadPlaces f_joints f_beams v3]) rfl rfl inX2 tyX2_ok nmX2 (by decide) lk_X2_44 rfl rfl rfl rfl (Nat.le_of_ble_eq_true rfl) dX2_removeLoad_67 rfl (fun H locs hw => ?_)
      obtain ⟨rfl, rfl, rfl, rfl⟩ := e4_ hf
      exact r_vret C0 hw dX2_removeLoad_70
    · have hf := if_f hc2 hf
      refine lv_aload_n hx hb dX2_removeLoad_12 rfl (lv_at hl 0 rfl) ?_
      refine r_get C0 hw 0 5 (v := .ref (qf 6)) rfl rfl inX2 (by decide) lk_X2_28 rfl dX2_removeLoad_13 ?_
      refine lv_iload_n hx hb dX2_removeLoad_16 rfl (lv_at hl 1 rfl) ?_
      refine lv_iconst (v := 1) hx hb dX2_removeLoad_17 (by decide) ?_
      refine lv_isub hx hb dX2_removeLoad_18 ?_
      refine lv_aload_n hx hb dX2_removeLoad_19 rfl (lv_at hl 0 rfl) ?_
      refine r_get C0 hw 0 5 (v := .ref (qf 6)) rfl rfl inX2 (by decide) lk_X2_28 rfl dX2_removeLoad_20 ?_
      refine lv_iload_n hx hb dX2_removeLoad_23 rfl (lv_at hl 1 rfl) ?_
      obtain ⟨hi4, hf⟩ := gd_s hf
      refine r_iald C0 hw 6 0 rfl rfl hi4 dX2_removeLoad_24 ?_
      obtain ⟨hi5, hf⟩ := gd_s hf
      obtain ⟨w6, ew6⟩ : ∃ z : Nat → Int32, z = (upd f_loadBeams (l2 - (1 : Int32)).toNatClampNeg (f_loadBeams l2.toNatClampNeg)) := ⟨_, rfl⟩
      have hf := lt_s_ hf w6 ew6
      refine r_iast C0 hw 6 0 rfl rfl hi5 dX2_removeLoad_25 (ws' := List.flatten [pFr κ qf f_held f_couples f_endJoints f_lengths f_stiffs w6 f_loadSizes f_loadPlaces f_joints f_beams f_loads]) (by subst ew6; rfl) (fun H locs hw => ?_)
      refine lv_aload_n hx hb dX2_removeLoad_26 rfl (lv_at hl 0 rfl) ?_
      refine r_get C0 hw 0 6 (v := .ref (qf 7)) rfl rfl inX2 (by decide) lk_X2_31 rfl dX2_removeLoad_27 ?_
      refine lv_iload_n hx hb dX2_removeLoad_30 rfl (lv_at hl 1 rfl) ?_
      refine lv_iconst (v := 1) hx hb dX2_removeLoad_31 (by decide) ?_
      refine lv_isub hx hb dX2_removeLoad_32 ?_
      refine lv_aload_n hx hb dX2_removeLoad_33 rfl (lv_at hl 0 rfl) ?_
      refine r_get C0 hw 0 6 (v := .ref (qf 7)) rfl rfl inX2 (by decide) lk_X2_31 rfl dX2_removeLoad_34 ?_
      refine lv_iload_n hx hb dX2_removeLoad_37 rfl (lv_at hl 1 rfl) ?_
      obtain ⟨hi7, hf⟩ := gd_s hf
      refine r_iald C0 hw 7 0 rfl rfl hi7 dX2_removeLoad_38 ?_
      obtain ⟨hi8, hf⟩ := gd_s hf
      obtain ⟨w9, ew9⟩ : ∃ z : Nat → Int32, z = (upd f_loadSizes (l2 - (1 : Int32)).toNatClampNeg (f_loadSizes l2.toNatClampNeg)) := ⟨_, rfl⟩
      have hf := lt_s_ hf w9 ew9
      refine r_iast C0 hw 7 0 rfl rfl hi8 dX2_removeLoad_39 (ws' := List.flatten [pFr κ qf f_held f_couples f_endJoints f_lengths f_stiffs w6 w9 f_loadPlaces f_joints f_beams f_loads]) (by subst ew9; rfl) (fun H locs hw => ?_)
      refine lv_aload_n hx hb dX2_removeLoad_40 rfl (lv_at hl 0 rfl) ?_
      refine r_get C0 hw 0 7 (v := .ref (qf 8)) rfl rfl inX2 (by decide) lk_X2_34 rfl dX2_removeLoad_41 ?_
      refine lv_iload_n hx hb dX2_removeLoad_44 rfl (lv_at hl 1 rfl) ?_
      refine lv_iconst (v := 1) hx hb dX2_removeLoad_45 (by decide) ?_
      refine lv_isub hx hb dX2_removeLoad_46 ?_
      refine lv_aload_n hx hb dX2_removeLoad_47 rfl (lv_at hl 0 rfl) ?_
      refine r_get C0 hw 0 7 (v := .ref (qf 8)) rfl rfl inX2 (by decide) lk_X2_34 rfl dX2_removeLoad_48 ?_
      refine lv_iload_n hx hb dX2_removeLoad_51 rfl (lv_at hl 1 rfl) ?_
      obtain ⟨hi10, hf⟩ := gd_s hf
      refine r_iald C0 hw 8 0 rfl rfl hi10 dX2_removeLoad_52 ?_
      obtain ⟨hi11, hf⟩ := gd_s hf
      obtain ⟨w12, ew12⟩ : ∃ z : Nat → Int32, z = (upd f_loadPlaces (l2 - (1 : Int32)).toNatClampNeg (f_loadPlaces l2.toNatClampNeg)) := ⟨_, rfl⟩
      have hf := lt_s_ hf w12 ew12
      refine r_iast C0 hw 8 0 rfl rfl hi11 dX2_removeLoad_53 (ws' := List.flatten [pFr κ qf f_held f_couples f_endJoints f_lengths f_stiffs w6 w9 w12 f_joints f_beams f_loads]) (by subst ew12; rfl) (fun H locs hw => ?_)
      obtain ⟨v13, ev13⟩ : ∃ z : Int32, z = (l2 + (1 : Int32)) := ⟨_, rfl⟩
      have hf := lt_s_ hf v13 ev13
      refine lv_iinc (v := v13) (lv' := [(2, .int v13), (0, .ref (qf 0))]) hx hb dX2_removeLoad_54 hl (k := 1) rfl (by rw [ev13]; rfl) (by decide) rfl (fun ls hl => ?_)
      refine lv_goto (tgt := 4) hx hb dX2_removeLoad_57 (by decide) ?_
      exact ih v13 w6 w9 w12 H locs ls hw (lv_sub hl [1, 0] rfl)  hf
set_option maxHeartbeats 4000000 in
set_option maxRecDepth 100000 in
theorem cFr_removeLoad (l : Launch) (D : va_G) (κ : Nat → ClassId) (qf : Nat → Nat) (f_held f_couples f_endJoints f_lengths f_stiffs f_loadBeams f_loadSizes f_loadPlaces : Nat → Int32) (f_joints f_beams f_loads a1 : Int32) (z1 z2 z3 : Nat → Int32) (z4 : Int32) (hf : FFr_removeLoad f_loadBeams f_loadSizes f_loadPlaces f_loads a1 = some (z1, z2, z3, z4)) : mV_ l yX2_removeLoad (Cond.code yX2_removeLoad cX2_removeLoad 3 none :: uw) ({ frames := 0, cells := 0, slots := 0, locals := 0 } : Room) D (tys0 κ) [.ref (qf 0), .int a1] (List.flatten [pFr κ qf f_held f_couples f_endJoints f_lengths f_stiffs f_loadBeams f_loadSizes f_loadPlaces f_joints f_beams f_loads])  (List.flatten [pFr κ qf f_held f_couples f_endJoints f_lengths f_stiffs z1 z2 z3 f_joints f_beams z4]) := by
  unfold FFr_removeLoad at hf
  refine mV_of (by decide) (Nat.le_of_ble_eq_true rfl) ?_
  intro p e s m below meth c A ls H locs C0 hw hl
  obtain ⟨hx, hb, -, hml, hown, hts, -, -⟩ := id C0
  have hl : lv_has ls 3 [(0, .ref (qf 0)), (1, .int a1)] := hl
  refine lv_iload_n hx hb dX2_removeLoad_0 rfl (lv_at hl 1 rfl) ?_
  refine lv_iconst (v := 1) hx hb dX2_removeLoad_1 (by decide) ?_
  refine lv_iadd hx hb dX2_removeLoad_2 ?_
  refine lv_topi (fun v1 ev1 => ?_)
  have hf := lt_s_ hf v1 ev1
  refine lv_istore_n (lv' := [(2, .int v1), (0, .ref (qf 0)), (1, .int a1)]) hx hb dX2_removeLoad_3 rfl hl (by decide) rfl (fun ls hl => ?_)
  exact wFr_removeLoad_L4 C0 qf f_held f_couples f_endJoints f_lengths f_stiffs f_joints f_beams f_loads z1 z2 z3 z4 1000 v1 f_loadBeams f_loadSizes f_loadPlaces H locs ls hw (lv_sub hl [1, 0] rfl)  hf
def FFr_drop (f_lengths f_loadBeams f_loadSizes f_loadPlaces : Nat → Int32) (f_beams f_loads a1 : Int32) : Option ((Nat → Int32) × (Nat → Int32) × (Nat → Int32) × Int32) :=
  if (1 : Int32) ≤ f_beams then
    dz_ f_beams <|
    lt_ (a1 - a1 / f_beams * f_beams) fun v3 =>
    gd_ v3 10 <|
    lt_ (f_lengths v3.toNatClampNeg) fun v5 =>
    if (1 : Int32) ≤ v5 then
      dz_ v5 <|
      lt_ ((a1 / (16 : Int32)) - (a1 / (16 : Int32)) / v5 * v5) fun v8 =>
      lt_ (fun (v9 : Int32) =>
        dz_ v9 <|
        lt_ (((a1 / (8 : Int32)) - (a1 / (8 : Int32)) / v9 * v9) + (1 : Int32)) fun v11 =>
        b4_ (FFr_addLoad f_loadBeams f_loadSizes f_loadPlaces f_loads v3 v11 v8) fun w12 w13 w14 w15 =>
        some (w12, w13, w14, w15) : Int32 → Option ((Nat → Int32) × (Nat → Int32) × (Nat → Int32) × Int32)) fun j18 =>
      if v8 = 0 then
        j18 (99 : Int32)
      else
        j18 (999 : Int32)
    else
      some (f_loadBeams, f_loadSizes, f_loadPlaces, f_loads)
  else
    some (f_loadBeams, f_loadSizes, f_loadPlaces, f_loads)
set_option maxHeartbeats 4000000 in
set_option maxRecDepth 100000 in
theorem cFr_drop (l : Launch) (D : va_G) (κ : Nat → ClassId) (qf : Nat → Nat) (f_held f_couples f_endJoints f_lengths f_stiffs f_loadBeams f_loadSizes f_loadPlaces : Nat → Int32) (f_joints f_beams f_loads a1 : Int32) (z1 z2 z3 : Nat → Int32) (z4 : Int32) (hf : FFr_drop f_lengths f_loadBeams f_loadSizes f_loadPlaces f_beams f_loads a1 = some (z1, z2, z3, z4)) : mV_ l yX2_drop (Cond.code yX2_drop cX2_drop 6 none :: uw) ({ frames := 1, cells := 0, slots := 0, locals := 23 } : Room) D (tys0 κ) [.ref (qf 0), .int a1] (List.flatten [pFr κ qf f_held f_couples f_endJoints f_lengths f_stiffs f_loadBeams f_loadSizes f_loadPlaces f_joints f_beams f_loads])  (List.flatten [pFr κ qf f_held f_couples f_endJoints f_lengths f_stiffs z1 z2 z3 f_joints f_beams z4]) := by
  unfold FFr_drop at hf
  refine mV_of (by decide) (Nat.le_of_ble_eq_true rfl) ?_
  intro p e s m below meth c A ls H locs C0 hw hl
  obtain ⟨hx, hb, -, hml, hown, hts, -, -⟩ := id C0
  have hl : lv_has ls 6 [(0, .ref (qf 0)), (1, .int a1)] := hl
  refine lv_aload_n hx hb dX2_drop_0 rfl (lv_at hl 0 rfl) ?_
  refine r_get C0 hw 0 9 (v := .int f_beams) rfl rfl inX2 (by decide) lk_X2_41 rfl dX2_drop_1 ?_
  refine lv_iconst (v := 1) hx hb dX2_drop_4 (by decide) ?_
  refine lv_icmp_ge (tgt := 9) hx hb dX2_drop_5 (by decide) (fun hc1 => ?_) (fun hc1 => ?_)
  · have hf := if_t hc1 hf
    refine lv_iload_n hx hb dX2_drop_9 rfl (lv_at hl 1 rfl) ?_
    refine lv_aload_n hx hb dX2_drop_10 rfl (lv_at hl 0 rfl) ?_
    refine r_get C0 hw 0 9 (v := .int f_beams) rfl rfl inX2 (by decide) lk_X2_41 rfl dX2_drop_11 ?_
    obtain ⟨hz2, hf⟩ := dz_s hf
    refine lv_irem hx hb dX2_drop_14 hz2 ?_
    refine lv_topi (fun v3 ev3 => ?_)
    have hf := lt_s_ hf v3 ev3
    refine lv_istore_n (lv' := [(2, .int v3), (0, .ref (qf 0)), (1, .int a1)]) hx hb dX2_drop_15 rfl hl (by decide) rfl (fun ls hl => ?_)
    refine lv_aload_n hx hb dX2_drop_16 rfl (lv_at hl 1 rfl) ?_
    refine r_get C0 hw 0 3 (v := .ref (qf 4)) rfl rfl inX2 (by decide) lk_X2_22 rfl dX2_drop_17 ?_
    refine lv_iload_n hx hb dX2_drop_20 rfl (lv_at hl 0 rfl) ?_
    obtain ⟨hi4, hf⟩ := gd_s hf
    refine r_iald C0 hw 4 0 rfl rfl hi4 dX2_drop_21 ?_
    refine lv_topi (fun v5 ev5 => ?_)
    have hf := lt_s_ hf v5 ev5
    refine lv_istore_n (lv' := [(3, .int v5), (2, .int v3), (0, .ref (qf 0)), (1, .int a1)]) hx hb dX2_drop_22 rfl hl (by decide) rfl (fun ls hl => ?_)
    refine lv_iload_n hx hb dX2_drop_23 rfl (lv_at hl 0 rfl) ?_
    refine lv_iconst (v := 1) hx hb dX2_drop_24 (by decide) ?_
    refine lv_icmp_ge (tgt := 29) hx hb dX2_drop_25 (by decide) (fun hc6 => ?_) (fun hc6 => ?_)
    · have hf := if_t hc6 hf
      refine lv_iload_n hx hb dX2_drop_29 rfl (lv_at hl 3 rfl) ?_
      refine lv_bipush (v := 16) hx hb dX2_drop_30 (by decide) ?_
      refine lv_idiv hx hb dX2_drop_32 (by decide) ?_
      refine lv_iload_n hx hb dX2_drop_33 rfl (lv_at hl 0 rfl) ?_
      obtain ⟨hz7, hf⟩ := dz_s hf
      refine lv_irem hx hb dX2_drop_34 hz7 ?_
      refine lv_topi (fun v8 ev8 => ?_)
      have hf := lt_s_ hf v8 ev8
      refine lv_istore (lv' := [(4, .int v8), (3, .int v5), (2, .int v3), (0, .ref (qf 0)), (1, .int a1)]) hx hb dX2_drop_35 hl (by decide) rfl (fun ls hl => ?_)
      refine lv_iload_n hx hb dX2_drop_37 rfl (lv_at hl 4 rfl) ?_
      refine lv_bipush (v := 8) hx hb dX2_drop_38 (by decide) ?_
      refine lv_idiv hx hb dX2_drop_40 (by decide) ?_
      refine lv_iload hx hb dX2_drop_41 (lv_at hl 0 rfl) ?_
      obtain ⟨j18, ej18, hf⟩ := lt_e hf
      have hj19 : ∀ (v9 : Int32) (H : Heap) (locs : List Loc) (ls : Array Slot), wd_ D (tys0 κ) A s (List.flatten [pFr κ qf f_held f_couples f_endJoints f_lengths f_stiffs f_loadBeams f_loadSizes f_loadPlaces f_joints f_beams f_loads]) H locs → lv_has ls 6 [(4, .int v8), (2, .int v3), (0, .ref (qf 0))] → j18 v9 = some (z1, z2, z3, z4) → W p l e ({ frames := 1, cells := 0, slots := 0, locals := 23 } : Room) s m ([.ref (qf 0), .int a1] : List Value).toArray below meth c H locs 0 0 (qV_ D (tys0 κ) A (List.flatten [pFr κ qf f_held f_couples f_endJoints f_lengths f_stiffs z1 z2 z3 f_joints f_beams z4]) below ([.ref (qf 0), .int a1] : List Value).toArray s) (F0 m 54 ls [.int v9, .int (a1 / (8 : Int32))]) := by
        intro v9 H locs ls hw hl  hf
        have hf : (dz_ v9 <| lt_ (((a1 / (8 : Int32)) - (a1 / (8 : Int32)) / v9 * v9) + (1 : Int32)) fun v11 => b4_ (FFr_addLoad f_loadBeams f_loadSizes f_loadPlaces f_loads v3 v11 v8) fun w12 w13 w14 w15 => some (w12, w13, w14, w15)) = some (z1, z2, z3, z4) := by rw [ej18] at hf; exact hf
        obtain ⟨hz10, hf⟩ := dz_s hf
        refine lv_irem hx hb dX2_drop_54 hz10 ?_
        refine lv_iconst (v := 1) hx hb dX2_drop_55 (by decide) ?_
        refine lv_iadd hx hb dX2_drop_56 ?_
        refine lv_topi (fun v11 ev11 => ?_)
        have hf := lt_s_ hf v11 ev11
        refine lv_istore (lv' := [(5, .int v11), (4, .int v8), (2, .int v3), (0, .ref (qf 0))]) hx hb dX2_drop_57 hl (by decide) rfl (fun ls hl => ?_)
        refine lv_aload_n hx hb dX2_drop_59 rfl (lv_at hl 3 rfl) ?_
        refine lv_iload_n hx hb dX2_drop_60 rfl (lv_at hl 2 rfl) ?_
        refine lv_iload hx hb dX2_drop_61 (lv_at hl 0 rfl) ?_
        refine lv_iload hx hb dX2_drop_63 (lv_at hl 1 rfl) ?_
        obtain ⟨w12, w13, w14, w15, hk16, hf⟩ := b4_s hf
        refine rv_v (vq := (RX2, TX2, 11)) (As := [.int v3, .int v11, .int v8]) (rest := []) (bs' := [pFr κ qf f_held f_couples f_endJoints f_lengths f_stiffs w12 w13 w14 f_joints f_beams w15]) C0 hw (cFr_addLoad l D κ qf f_held f_couples f_endJoints f_lengths f_stiffs f_loadBeams f_loadSizes f_loadPlaces f_joints f_beams f_loads v3 v11 v8 w12 w13 w14 w15 hk16) cv_RX2_53 ⟨rfl, rfl, Nat.le_of_ble_eq_true rfl, Nat.le_of_ble_eq_true rfl⟩ ⟨Nat.zero_le _, Nat.zero_le _⟩ [0] [] [0] rfl rfl rfl rfl (by decide) rfl rfl rfl rfl rfl hl.1 (by simp only [List.map, List.sum_cons, List.sum_nil, Value.category]; decide) dX2_drop_65 (fun H locs hw => ?_)
        obtain ⟨rfl, rfl, rfl, rfl⟩ := e4_ hf
        exact r_vret C0 hw dX2_drop_68
      refine lv_if_ne (tgt := 51) hx hb dX2_drop_43 (by decide) (fun hc20 => ?_) (fun hc20 => ?_)
      · have hf := if_f hc20 hf
        refine lv_sipush (v := 999) hx hb dX2_drop_51 (by decide) ?_
        exact hj19 (999 : Int32) H locs ls hw (lv_sub hl [0, 2, 3] rfl)  hf
      · have hf := if_t hc20 hf
        refine lv_bipush (v := 99) hx hb dX2_drop_46 (by decide) ?_
        refine lv_goto (tgt := 54) hx hb dX2_drop_48 (by decide) ?_
        exact hj19 (99 : Int32) H locs ls hw (lv_sub hl [0, 2, 3] rfl)  hf
    · have hf := if_f hc6 hf
      obtain ⟨rfl, rfl, rfl, rfl⟩ := e4_ hf
      exact r_vret C0 hw dX2_drop_28
  · have hf := if_f hc1 hf
    obtain ⟨rfl, rfl, rfl, rfl⟩ := e4_ hf
    exact r_vret C0 hw dX2_drop_8
def FFr_turning_L4 (f_held : Nat → Int32) (f_joints : Int32) : Nat → Int32 → Int32 → Option (Int32)
  | 0, _, _ => none
  | n + 1, l1, l2 =>
      if f_joints ≤ l2 then
        some (l1)
      else
        gd_ l2 6 <|
        if (f_held l2.toNatClampNeg) = 0 then
          lt_ (l1 + (1 : Int32)) fun v5 =>
          lt_ (l2 + (1 : Int32)) fun v6 =>
          FFr_turning_L4 f_held f_joints n v5 v6
        else
          lt_ (l2 + (1 : Int32)) fun v4 =>
          FFr_turning_L4 f_held f_joints n l1 v4
def FFr_turning (f_held : Nat → Int32) (f_joints : Int32) : Option (Int32) :=
  FFr_turning_L4 f_held f_joints 1000 (0 : Int32) (0 : Int32)
set_option maxHeartbeats 4000000 in
set_option maxRecDepth 100000 in
theorem wFr_turning_L4 {p : Program} {l : Launch} {e : Env} {s : State} {m : MethodId} {args : Array Value} {below : List Frame} {meth : Method} {c : Code} {A : Nat → Prop} {D : va_G} {κ : Nat → ClassId} (C0 : cx_ p s m meth c args cX2_turning RX2 (some .int) 3 A) (qf : Nat → Nat) (f_held f_couples f_endJoints f_lengths f_stiffs f_loadBeams f_loadSizes f_loadPlaces : Nat → Int32) (f_joints f_beams f_loads : Int32) (zr : Int32) : ∀ (n : Nat) (l1 : Int32) (l2 : Int32) (H : Heap) (locs : List Loc) (ls : Array Slot), wd_ D (tys0 κ) A s (List.flatten [pFr κ qf f_held f_couples f_endJoints f_lengths f_stiffs f_loadBeams f_loadSizes f_loadPlaces f_joints f_beams f_loads]) H locs → lv_has ls 3 [(0, .ref (qf 0)), (1, .int l1), (2, .int l2)] → FFr_turning_L4 f_held f_joints n l1 l2 = some zr → W p l e ({ frames := 0, cells := 0, slots := 0, locals := 0 } : Room) s m args below meth c H locs 0 0 (qI_ D (tys0 κ) A nT_ zr (List.flatten [pFr κ qf f_held f_couples f_endJoints f_lengths f_stiffs f_loadBeams f_loadSizes f_loadPlaces f_joints f_beams f_loads]) below args s) (F0 m 4 ls []) := by
  obtain ⟨hx, hb, -, hml, hown, hts, -, -⟩ := id C0
  intro n
  induction n with
  | zero =>
    intro l1 l2 H locs ls hw hl  hf
    cases hf
  | succ n ih =>
    intro l1 l2 H locs ls hw hl  hf
    rw [FFr_turning_L4.eq_2] at hf
    refine lv_iload_n hx hb dX2_turning_4 rfl (lv_at hl 2 rfl) ?_
    refine lv_aload_n hx hb dX2_turning_5 rfl (lv_at hl 0 rfl) ?_
    refine r_get C0 hw 0 8 (v := .int f_joints) rfl rfl inX2 (by decide) lk_X2_37 rfl dX2_turning_6 ?_
    refine lv_icmp_ge (tgt := 30) hx hb dX2_turning_9 (by decide) (fun hc1 => ?_) (fun hc1 => ?_)
    · have hf := if_t hc1 hf
      refine lv_iload_n hx hb dX2_turning_30 rfl (lv_at hl 1 rfl) ?_
      obtain rfl := e1_ hf
      exact r_iret C0 hw trivial dX2_turning_31
    · have hf := if_f hc1 hf
      refine lv_aload_n hx hb dX2_turning_12 rfl (lv_at hl 0 rfl) ?_
      refine r_get C0 hw 0 0 (v := .ref (qf 1)) rfl rfl inX2 (by decide) lk_X2_9 rfl dX2_turning_13 ?_
      refine lv_iload_n hx hb dX2_turning_16 rfl (lv_at hl 2 rfl) ?_
      obtain ⟨hi2, hf⟩ := gd_s hf
      refine r_zald C0 hw 1 1 rfl rfl hi2 dX2_turning_17 ?_
      refine lv_if_ne (tgt := 24) hx hb dX2_turning_18 (by decide) (fun hc3 => ?_) (fun hc3 => ?_)
      · have hf := if_f hc3 hf
        obtain ⟨v4, ev4⟩ : ∃ z : Int32, z = (l2 + (1 : Int32)) := ⟨_, rfl⟩
        have hf := lt_s_ hf v4 ev4
        refine lv_iinc (v := v4) (lv' := [(2, .int v4), (0, .ref (qf 0)), (1, .int l1)]) hx hb dX2_turning_24 hl (k := 2) rfl (by rw [ev4]; rfl) (by decide) rfl (fun ls hl => ?_)
        refine lv_goto (tgt := 4) hx hb dX2_turning_27 (by decide) ?_
        exact ih l1 v4 H locs ls hw (lv_sub hl [1, 2, 0] rfl)  hf
      · have hf := if_t hc3 hf
        obtain ⟨v5, ev5⟩ : ∃ z : Int32, z = (l1 + (1 : Int32)) := ⟨_, rfl⟩
        have hf := lt_s_ hf v5 ev5
        refine lv_iinc (v := v5) (lv' := [(1, .int v5), (0, .ref (qf 0)), (2, .int l2)]) hx hb dX2_turning_21 hl (k := 1) rfl (by rw [ev5]; rfl) (by decide) rfl (fun ls hl => ?_)
        obtain ⟨v6, ev6⟩ : ∃ z : Int32, z = (l2 + (1 : Int32)) := ⟨_, rfl⟩
        have hf := lt_s_ hf v6 ev6
        refine lv_iinc (v := v6) (lv' := [(2, .int v6), (1, .int v5), (0, .ref (qf 0))]) hx hb dX2_turning_24 hl (k := 2) rfl (by rw [ev6]; rfl) (by decide) rfl (fun ls hl => ?_)
        refine lv_goto (tgt := 4) hx hb dX2_turning_27 (by decide) ?_
        exact ih v5 v6 H locs ls hw (lv_sub hl [2, 1, 0] rfl)  hf
set_option maxHeartbeats 4000000 in
set_option maxRecDepth 100000 in
theorem cFr_turning (l : Launch) (D : va_G) (κ : Nat → ClassId) (qf : Nat → Nat) (f_held f_couples f_endJoints f_lengths f_stiffs f_loadBeams f_loadSizes f_loadPlaces : Nat → Int32) (f_joints f_beams f_loads zr : Int32) (hf : FFr_turning f_held f_joints = some zr) : mI_ l yX2_turning (Cond.code yX2_turning cX2_turning 3 (some .int) :: uw) ({ frames := 0, cells := 0, slots := 0, locals := 0 } : Room) D (tys0 κ) [.ref (qf 0)] (List.flatten [pFr κ qf f_held f_couples f_endJoints f_lengths f_stiffs f_loadBeams f_loadSizes f_loadPlaces f_joints f_beams f_loads]) nT_ zr (List.flatten [pFr κ qf f_held f_couples f_endJoints f_lengths f_stiffs f_loadBeams f_loadSizes f_loadPlaces f_joints f_beams f_loads]) := by
  unfold FFr_turning at hf
  refine mI_of (by decide) (Nat.le_of_ble_eq_true rfl) ?_
  intro p e s m below meth c A ls H locs C0 hw hl
  obtain ⟨hx, hb, -, hml, hown, hts, -, -⟩ := id C0
  have hl : lv_has ls 3 [(0, .ref (qf 0))] := hl
  refine lv_iconst (v := 0) hx hb dX2_turning_0 (by decide) ?_
  refine lv_istore_n (lv' := [(1, .int (0 : Int32)), (0, .ref (qf 0))]) hx hb dX2_turning_1 rfl hl (by decide) rfl (fun ls hl => ?_)
  refine lv_iconst (v := 0) hx hb dX2_turning_2 (by decide) ?_
  refine lv_istore_n (lv' := [(2, .int (0 : Int32)), (1, .int (0 : Int32)), (0, .ref (qf 0))]) hx hb dX2_turning_3 rfl hl (by decide) rfl (fun ls hl => ?_)
  exact wFr_turning_L4 C0 qf f_held f_couples f_endJoints f_lengths f_stiffs f_loadBeams f_loadSizes f_loadPlaces f_joints f_beams f_loads zr 1000 (0 : Int32) (0 : Int32) H locs ls hw (lv_sub hl [2, 1, 0] rfl)  hf
def FFr_jointOf (f_endJoints : Nat → Int32) (a1 : Int32) : Option (Int32) :=
  gd_ a1 20 <|
  some ((f_endJoints a1.toNatClampNeg))
set_option maxHeartbeats 4000000 in
set_option maxRecDepth 100000 in
theorem cFr_jointOf (l : Launch) (D : va_G) (κ : Nat → ClassId) (qf : Nat → Nat) (f_held f_couples f_endJoints f_lengths f_stiffs f_loadBeams f_loadSizes f_loadPlaces : Nat → Int32) (f_joints f_beams f_loads a1 zr : Int32) (hf : FFr_jointOf f_endJoints a1 = some zr) : mI_ l yX2_jointOf (Cond.code yX2_jointOf cX2_jointOf 2 (some .int) :: uw) ({ frames := 0, cells := 0, slots := 0, locals := 0 } : Room) D (tys0 κ) [.ref (qf 0), .int a1] (List.flatten [pFr κ qf f_held f_couples f_endJoints f_lengths f_stiffs f_loadBeams f_loadSizes f_loadPlaces f_joints f_beams f_loads]) nT_ zr (List.flatten [pFr κ qf f_held f_couples f_endJoints f_lengths f_stiffs f_loadBeams f_loadSizes f_loadPlaces f_joints f_beams f_loads]) := by
  unfold FFr_jointOf at hf
  refine mI_of (by decide) (Nat.le_of_ble_eq_true rfl) ?_
  intro p e s m below meth c A ls H locs C0 hw hl
  obtain ⟨hx, hb, -, hml, hown, hts, -, -⟩ := id C0
  have hl : lv_has ls 2 [(0, .ref (qf 0)), (1, .int a1)] := hl
  refine lv_aload_n hx hb dX2_jointOf_0 rfl (lv_at hl 0 rfl) ?_
  refine r_get C0 hw 0 2 (v := .ref (qf 3)) rfl rfl inX2 (by decide) lk_X2_19 rfl dX2_jointOf_1 ?_
  refine lv_iload_n hx hb dX2_jointOf_4 rfl (lv_at hl 1 rfl) ?_
  obtain ⟨hi1, hf⟩ := gd_s hf
  refine r_iald C0 hw 3 0 rfl rfl hi1 dX2_jointOf_5 ?_
  obtain rfl := e1_ hf
  exact r_iret C0 hw trivial dX2_jointOf_6
def FFr_otherEnd (a1 : Int32) : Option (Int32) :=
  some ((a1 ^^^ (1 : Int32)))
set_option maxHeartbeats 4000000 in
set_option maxRecDepth 100000 in
theorem cFr_otherEnd (l : Launch) (D : va_G) (κ : Nat → ClassId) (qf : Nat → Nat) (f_held f_couples f_endJoints f_lengths f_stiffs f_loadBeams f_loadSizes f_loadPlaces : Nat → Int32) (f_joints f_beams f_loads a1 zr : Int32) (hf : FFr_otherEnd a1 = some zr) : mI_ l yX2_otherEnd (Cond.code yX2_otherEnd cX2_otherEnd 2 (some .int) :: uw) ({ frames := 0, cells := 0, slots := 0, locals := 0 } : Room) D (tys0 κ) [.ref (qf 0), .int a1] (List.flatten [pFr κ qf f_held f_couples f_endJoints f_lengths f_stiffs f_loadBeams f_loadSizes f_loadPlaces f_joints f_beams f_loads]) nT_ zr (List.flatten [pFr κ qf f_held f_couples f_endJoints f_lengths f_stiffs f_loadBeams f_loadSizes f_loadPlaces f_joints f_beams f_loads]) := by
  unfold FFr_otherEnd at hf
  refine mI_of (by decide) (Nat.le_of_ble_eq_true rfl) ?_
  intro p e s m below meth c A ls H locs C0 hw hl
  obtain ⟨hx, hb, -, hml, hown, hts, -, -⟩ := id C0
  have hl : lv_has ls 2 [(0, .ref (qf 0)), (1, .int a1)] := hl
  refine lv_iload_n hx hb dX2_otherEnd_0 rfl (lv_at hl 1 rfl) ?_
  refine lv_iconst (v := 1) hx hb dX2_otherEnd_1 (by decide) ?_
  refine lv_ixor hx hb dX2_otherEnd_2 ?_
  obtain rfl := e1_ hf
  exact r_iret C0 hw trivial dX2_otherEnd_3
def FFr_stiffness (f_lengths f_stiffs : Nat → Int32) (a1 : Int32) : Option (Int32) :=
  gd_ a1 10 <|
  if (1 : Int32) ≤ (f_lengths a1.toNatClampNeg) then
    gd_ a1 10 <|
    gd_ a1 10 <|
    dz_ (f_lengths a1.toNatClampNeg) <|
    some ((((12 : Int32) * (f_stiffs a1.toNatClampNeg)) / (f_lengths a1.toNatClampNeg)))
  else
    some ((0 : Int32))
set_option maxHeartbeats 4000000 in
set_option maxRecDepth 100000 in
theorem cFr_stiffness (l : Launch) (D : va_G) (κ : Nat → ClassId) (qf : Nat → Nat) (f_held f_couples f_endJoints f_lengths f_stiffs f_loadBeams f_loadSizes f_loadPlaces : Nat → Int32) (f_joints f_beams f_loads a1 zr : Int32) (hf : FFr_stiffness f_lengths f_stiffs a1 = some zr) : mI_ l yX2_stiffness (Cond.code yX2_stiffness cX2_stiffness 2 (some .int) :: uw) ({ frames := 0, cells := 0, slots := 0, locals := 0 } : Room) D (tys0 κ) [.ref (qf 0), .int a1] (List.flatten [pFr κ qf f_held f_couples f_endJoints f_lengths f_stiffs f_loadBeams f_loadSizes f_loadPlaces f_joints f_beams f_loads]) nT_ zr (List.flatten [pFr κ qf f_held f_couples f_endJoints f_lengths f_stiffs f_loadBeams f_loadSizes f_loadPlaces f_joints f_beams f_loads]) := by
  unfold FFr_stiffness at hf
  refine mI_of (by decide) (Nat.le_of_ble_eq_true rfl) ?_
  intro p e s m below meth c A ls H locs C0 hw hl
  obtain ⟨hx, hb, -, hml, hown, hts, -, -⟩ := id C0
  have hl : lv_has ls 2 [(0, .ref (qf 0)), (1, .int a1)] := hl
  refine lv_aload_n hx hb dX2_stiffness_0 rfl (lv_at hl 0 rfl) ?_
  refine r_get C0 hw 0 3 (v := .ref (qf 4)) rfl rfl inX2 (by decide) lk_X2_22 rfl dX2_stiffness_1 ?_
  refine lv_iload_n hx hb dX2_stiffness_4 rfl (lv_at hl 1 rfl) ?_
  obtain ⟨hi1, hf⟩ := gd_s hf
  refine r_iald C0 hw 4 0 rfl rfl hi1 dX2_stiffness_5 ?_
  refine lv_iconst (v := 1) hx hb dX2_stiffness_6 (by decide) ?_
  refine lv_icmp_ge (tgt := 14) hx hb dX2_stiffness_7 (by decide) (fun hc2 => ?_) (fun hc2 => ?_)
  · have hf := if_t hc2 hf
    refine lv_bipush (v := 12) hx hb dX2_stiffness_14 (by decide) ?_
    refine lv_aload_n hx hb dX2_stiffness_16 rfl (lv_at hl 0 rfl) ?_
    refine r_get C0 hw 0 4 (v := .ref (qf 5)) rfl rfl inX2 (by decide) lk_X2_25 rfl dX2_stiffness_17 ?_
    refine lv_iload_n hx hb dX2_stiffness_20 rfl (lv_at hl 1 rfl) ?_
    obtain ⟨hi3, hf⟩ := gd_s hf
    refine r_iald C0 hw 5 0 rfl rfl hi3 dX2_stiffness_21 ?_
    refine lv_imul hx hb dX2_stiffness_22 ?_
    refine lv_aload_n hx hb dX2_stiffness_23 rfl (lv_at hl 0 rfl) ?_
    refine r_get C0 hw 0 3 (v := .ref (qf 4)) rfl rfl inX2 (by decide) lk_X2_22 rfl dX2_stiffness_24 ?_
    refine lv_iload_n hx hb dX2_stiffness_27 rfl (lv_at hl 1 rfl) ?_
    obtain ⟨hi4, hf⟩ := gd_s hf
    refine r_iald C0 hw 4 0 rfl rfl hi4 dX2_stiffness_28 ?_
    obtain ⟨hz5, hf⟩ := dz_s hf
    refine lv_idiv hx hb dX2_stiffness_29 hz5 ?_
    obtain rfl := e1_ hf
    exact r_iret C0 hw trivial dX2_stiffness_30
  · have hf := if_f hc2 hf
    refine lv_iconst (v := 0) hx hb dX2_stiffness_10 (by decide) ?_
    refine lv_goto (tgt := 30) hx hb dX2_stiffness_11 (by decide) ?_
    obtain rfl := e1_ hf
    exact r_iret C0 hw trivial dX2_stiffness_30
def FFr_loadsOn_L4 (f_loadBeams : Nat → Int32) (f_loads l1 : Int32) : Nat → Int32 → Int32 → Option (Int32)
  | 0, _, _ => none
  | n + 1, l2, l3 =>
      if f_loads ≤ l3 then
        some (l2)
      else
        gd_ l3 8 <|
        if (f_loadBeams l3.toNatClampNeg) = l1 then
          lt_ (l2 + (1 : Int32)) fun v5 =>
          lt_ (l3 + (1 : Int32)) fun v6 =>
          FFr_loadsOn_L4 f_loadBeams f_loads l1 n v5 v6
        else
          lt_ (l3 + (1 : Int32)) fun v4 =>
          FFr_loadsOn_L4 f_loadBeams f_loads l1 n l2 v4
def FFr_loadsOn (f_loadBeams : Nat → Int32) (f_loads a1 : Int32) : Option (Int32) :=
  FFr_loadsOn_L4 f_loadBeams f_loads a1 1000 (0 : Int32) (0 : Int32)
set_option maxHeartbeats 4000000 in
set_option maxRecDepth 100000 in
theorem wFr_loadsOn_L4 {p : Program} {l : Launch} {e : Env} {s : State} {m : MethodId} {args : Array Value} {below : List Frame} {meth : Method} {c : Code} {A : Nat → Prop} {D : va_G} {κ : Nat → ClassId} (C0 : cx_ p s m meth c args cX2_loadsOn RX2 (some .int) 4 A) (qf : Nat → Nat) (f_held f_couples f_endJoints f_lengths f_stiffs f_loadBeams f_loadSizes f_loadPlaces : Nat → Int32) (f_joints f_beams f_loads l1 : Int32) (zr : Int32) : ∀ (n : Nat) (l2 : Int32) (l3 : Int32) (H : Heap) (locs : List Loc) (ls : Array Slot), wd_ D (tys0 κ) A s (List.flatten [pFr κ qf f_held f_couples f_endJoints f_lengths f_stiffs f_loadBeams f_loadSizes f_loadPlaces f_joints f_beams f_loads]) H locs → lv_has ls 4 [(0, .ref (qf 0)), (1, .int l1), (2, .int l2), (3, .int l3)] → FFr_loadsOn_L4 f_loadBeams f_loads l1 n l2 l3 = some zr → W p l e ({ frames := 0, cells := 0, slots := 0, locals := 0 } : Room) s m args below meth c H locs 0 0 (qI_ D (tys0 κ) A nT_ zr (List.flatten [pFr κ qf f_held f_couples f_endJoints f_lengths f_stiffs f_loadBeams f_loadSizes f_loadPlaces f_joints f_beams f_loads]) below args s) (F0 m 4 ls []) := by
  obtain ⟨hx, hb, -, hml, hown, hts, -, -⟩ := id C0
  intro n
  induction n with
  | zero =>
    intro l2 l3 H locs ls hw hl  hf
    cases hf
  | succ n ih =>
    intro l2 l3 H locs ls hw hl  hf
    rw [FFr_loadsOn_L4.eq_2] at hf
    refine lv_iload_n hx hb dX2_loadsOn_4 rfl (lv_at hl 3 rfl) ?_
    refine lv_aload_n hx hb dX2_loadsOn_5 rfl (lv_at hl 0 rfl) ?_
    refine r_get C0 hw 0 10 (v := .int f_loads) rfl rfl inX2 (by decide) lk_X2_44 rfl dX2_loadsOn_6 ?_
    refine lv_icmp_ge (tgt := 31) hx hb dX2_loadsOn_9 (by decide) (fun hc1 => ?_) (fun hc1 => ?_)
    · have hf := if_t hc1 hf
      refine lv_iload_n hx hb dX2_loadsOn_31 rfl (lv_at hl 2 rfl) ?_
      obtain rfl := e1_ hf
      exact r_iret C0 hw trivial dX2_loadsOn_32
    · have hf := if_f hc1 hf
      refine lv_aload_n hx hb dX2_loadsOn_12 rfl (lv_at hl 0 rfl) ?_
      refine r_get C0 hw 0 5 (v := .ref (qf 6)) rfl rfl inX2 (by decide) lk_X2_28 rfl dX2_loadsOn_13 ?_
      refine lv_iload_n hx hb dX2_loadsOn_16 rfl (lv_at hl 3 rfl) ?_
      obtain ⟨hi2, hf⟩ := gd_s hf
      refine r_iald C0 hw 6 0 rfl rfl hi2 dX2_loadsOn_17 ?_
      refine lv_iload_n hx hb dX2_loadsOn_18 rfl (lv_at hl 1 rfl) ?_
      refine lv_icmp_ne (tgt := 25) hx hb dX2_loadsOn_19 (by decide) (fun hc3 => ?_) (fun hc3 => ?_)
      · have hf := if_f hc3 hf
        obtain ⟨v4, ev4⟩ : ∃ z : Int32, z = (l3 + (1 : Int32)) := ⟨_, rfl⟩
        have hf := lt_s_ hf v4 ev4
        refine lv_iinc (v := v4) (lv' := [(3, .int v4), (0, .ref (qf 0)), (1, .int l1), (2, .int l2)]) hx hb dX2_loadsOn_25 hl (k := 3) rfl (by rw [ev4]; rfl) (by decide) rfl (fun ls hl => ?_)
        refine lv_goto (tgt := 4) hx hb dX2_loadsOn_28 (by decide) ?_
        exact ih l2 v4 H locs ls hw (lv_sub hl [1, 2, 3, 0] rfl)  hf
      · have hf := if_t hc3 hf
        obtain ⟨v5, ev5⟩ : ∃ z : Int32, z = (l2 + (1 : Int32)) := ⟨_, rfl⟩
        have hf := lt_s_ hf v5 ev5
        refine lv_iinc (v := v5) (lv' := [(2, .int v5), (0, .ref (qf 0)), (1, .int l1), (3, .int l3)]) hx hb dX2_loadsOn_22 hl (k := 2) rfl (by rw [ev5]; rfl) (by decide) rfl (fun ls hl => ?_)
        obtain ⟨v6, ev6⟩ : ∃ z : Int32, z = (l3 + (1 : Int32)) := ⟨_, rfl⟩
        have hf := lt_s_ hf v6 ev6
        refine lv_iinc (v := v6) (lv' := [(3, .int v6), (2, .int v5), (0, .ref (qf 0)), (1, .int l1)]) hx hb dX2_loadsOn_25 hl (k := 3) rfl (by rw [ev6]; rfl) (by decide) rfl (fun ls hl => ?_)
        refine lv_goto (tgt := 4) hx hb dX2_loadsOn_28 (by decide) ?_
        exact ih v5 v6 H locs ls hw (lv_sub hl [2, 3, 1, 0] rfl)  hf
set_option maxHeartbeats 4000000 in
set_option maxRecDepth 100000 in
theorem cFr_loadsOn (l : Launch) (D : va_G) (κ : Nat → ClassId) (qf : Nat → Nat) (f_held f_couples f_endJoints f_lengths f_stiffs f_loadBeams f_loadSizes f_loadPlaces : Nat → Int32) (f_joints f_beams f_loads a1 zr : Int32) (hf : FFr_loadsOn f_loadBeams f_loads a1 = some zr) : mI_ l yX2_loadsOn (Cond.code yX2_loadsOn cX2_loadsOn 4 (some .int) :: uw) ({ frames := 0, cells := 0, slots := 0, locals := 0 } : Room) D (tys0 κ) [.ref (qf 0), .int a1] (List.flatten [pFr κ qf f_held f_couples f_endJoints f_lengths f_stiffs f_loadBeams f_loadSizes f_loadPlaces f_joints f_beams f_loads]) nT_ zr (List.flatten [pFr κ qf f_held f_couples f_endJoints f_lengths f_stiffs f_loadBeams f_loadSizes f_loadPlaces f_joints f_beams f_loads]) := by
  unfold FFr_loadsOn at hf
  refine mI_of (by decide) (Nat.le_of_ble_eq_true rfl) ?_
  intro p e s m below meth c A ls H locs C0 hw hl
  obtain ⟨hx, hb, -, hml, hown, hts, -, -⟩ := id C0
  have hl : lv_has ls 4 [(0, .ref (qf 0)), (1, .int a1)] := hl
  refine lv_iconst (v := 0) hx hb dX2_loadsOn_0 (by decide) ?_
  refine lv_istore_n (lv' := [(2, .int (0 : Int32)), (0, .ref (qf 0)), (1, .int a1)]) hx hb dX2_loadsOn_1 rfl hl (by decide) rfl (fun ls hl => ?_)
  refine lv_iconst (v := 0) hx hb dX2_loadsOn_2 (by decide) ?_
  refine lv_istore_n (lv' := [(3, .int (0 : Int32)), (2, .int (0 : Int32)), (0, .ref (qf 0)), (1, .int a1)]) hx hb dX2_loadsOn_3 rfl hl (by decide) rfl (fun ls hl => ?_)
  exact wFr_loadsOn_L4 C0 qf f_held f_couples f_endJoints f_lengths f_stiffs f_loadBeams f_loadSizes f_loadPlaces f_joints f_beams f_loads a1 zr 1000 (0 : Int32) (0 : Int32) H locs ls hw (lv_sub hl [2, 3, 1, 0] rfl)  hf
def FFr_pressed (f_lengths f_loadBeams f_loadSizes f_loadPlaces : Nat → Int32) (a1 a2 : Int32) : Option (Int32) :=
  gd_ a1 8 <|
  gd_ (f_loadBeams a1.toNatClampNeg) 10 <|
  lt_ (f_lengths (f_loadBeams a1.toNatClampNeg).toNatClampNeg) fun v3 =>
  if (1 : Int32) ≤ v3 then
    gd_ a1 8 <|
    lt_ (f_loadPlaces a1.toNatClampNeg) fun v6 =>
    if v6 = 0 then
      gd_ a1 8 <|
      some ((((((100 : Int32) * (f_loadSizes a1.toNatClampNeg)) * v3) * v3) / (12 : Int32)))
    else
      lt_ (v3 - v6) fun v8 =>
      lt_ (fun (v9 : Int32) =>
        gd_ a1 8 <|
        dz_ (v3 * v3) <|
        some (((((((100 : Int32) * (f_loadSizes a1.toNatClampNeg)) * v6) * v8) * v9) / (v3 * v3))) : Int32 → Option (Int32)) fun j12 =>
      if a2 = 0 then
        j12 v6
      else
        j12 v8
  else
    some ((0 : Int32))
set_option maxHeartbeats 4000000 in
set_option maxRecDepth 100000 in
theorem cFr_pressed (l : Launch) (D : va_G) (κ : Nat → ClassId) (qf : Nat → Nat) (f_held f_couples f_endJoints f_lengths f_stiffs f_loadBeams f_loadSizes f_loadPlaces : Nat → Int32) (f_joints f_beams f_loads a1 a2 zr : Int32) (hf : FFr_pressed f_lengths f_loadBeams f_loadSizes f_loadPlaces a1 a2 = some zr) : mI_ l yX2_pressed (Cond.code yX2_pressed cX2_pressed 7 (some .int) :: uw) ({ frames := 0, cells := 0, slots := 0, locals := 0 } : Room) D (tys0 κ) [.ref (qf 0), .int a1, .int a2] (List.flatten [pFr κ qf f_held f_couples f_endJoints f_lengths f_stiffs f_loadBeams f_loadSizes f_loadPlaces f_joints f_beams f_loads]) nT_ zr (List.flatten [pFr κ qf f_held f_couples f_endJoints f_lengths f_stiffs f_loadBeams f_loadSizes f_loadPlaces f_joints f_beams f_loads]) := by
  unfold FFr_pressed at hf
  refine mI_of (by decide) (Nat.le_of_ble_eq_true rfl) ?_
  intro p e s m below meth c A ls H locs C0 hw hl
  obtain ⟨hx, hb, -, hml, hown, hts, -, -⟩ := id C0
  have hl : lv_has ls 7 [(0, .ref (qf 0)), (1, .int a1), (2, .int a2)] := hl
  refine lv_aload_n hx hb dX2_pressed_0 rfl (lv_at hl 0 rfl) ?_
  refine r_get C0 hw 0 3 (v := .ref (qf 4)) rfl rfl inX2 (by decide) lk_X2_22 rfl dX2_pressed_1 ?_
  refine lv_aload_n hx hb dX2_pressed_4 rfl (lv_at hl 0 rfl) ?_
  refine r_get C0 hw 0 5 (v := .ref (qf 6)) rfl rfl inX2 (by decide) lk_X2_28 rfl dX2_pressed_5 ?_
  refine lv_iload_n hx hb dX2_pressed_8 rfl (lv_at hl 1 rfl) ?_
  obtain ⟨hi1, hf⟩ := gd_s hf
  refine r_iald C0 hw 6 0 rfl rfl hi1 dX2_pressed_9 ?_
  obtain ⟨hi2, hf⟩ := gd_s hf
  refine r_iald C0 hw 4 0 rfl rfl hi2 dX2_pressed_10 ?_
  refine lv_topi (fun v3 ev3 => ?_)
  have hf := lt_s_ hf v3 ev3
  refine lv_istore_n (lv' := [(3, .int v3), (0, .ref (qf 0)), (1, .int a1), (2, .int a2)]) hx hb dX2_pressed_11 rfl hl (by decide) rfl (fun ls hl => ?_)
  refine lv_iload_n hx hb dX2_pressed_12 rfl (lv_at hl 0 rfl) ?_
  refine lv_iconst (v := 1) hx hb dX2_pressed_13 (by decide) ?_
  refine lv_icmp_ge (tgt := 19) hx hb dX2_pressed_14 (by decide) (fun hc4 => ?_) (fun hc4 => ?_)
  · have hf := if_t hc4 hf
    refine lv_aload_n hx hb dX2_pressed_19 rfl (lv_at hl 1 rfl) ?_
    refine r_get C0 hw 0 7 (v := .ref (qf 8)) rfl rfl inX2 (by decide) lk_X2_34 rfl dX2_pressed_20 ?_
    refine lv_iload_n hx hb dX2_pressed_23 rfl (lv_at hl 2 rfl) ?_
    obtain ⟨hi5, hf⟩ := gd_s hf
    refine r_iald C0 hw 8 0 rfl rfl hi5 dX2_pressed_24 ?_
    refine lv_topi (fun v6 ev6 => ?_)
    have hf := lt_s_ hf v6 ev6
    refine lv_istore (lv' := [(4, .int v6), (3, .int v3), (0, .ref (qf 0)), (1, .int a1), (2, .int a2)]) hx hb dX2_pressed_25 hl (by decide) rfl (fun ls hl => ?_)
    refine lv_iload hx hb dX2_pressed_27 (lv_at hl 0 rfl) ?_
    refine lv_if_ne (tgt := 49) hx hb dX2_pressed_29 (by decide) (fun hc7 => ?_) (fun hc7 => ?_)
    · have hf := if_f hc7 hf
      refine lv_iload_n hx hb dX2_pressed_49 rfl (lv_at hl 1 rfl) ?_
      refine lv_iload hx hb dX2_pressed_50 (lv_at hl 0 rfl) ?_
      refine lv_isub hx hb dX2_pressed_52 ?_
      refine lv_topi (fun v8 ev8 => ?_)
      have hf := lt_s_ hf v8 ev8
      refine lv_istore (lv' := [(5, .int v8), (4, .int v6), (3, .int v3), (0, .ref (qf 0)), (1, .int a1), (2, .int a2)]) hx hb dX2_pressed_53 hl (by decide) rfl (fun ls hl => ?_)
      refine lv_iload_n hx hb dX2_pressed_55 rfl (lv_at hl 5 rfl) ?_
      obtain ⟨j12, ej12, hf⟩ := lt_e hf
      have hj13 : ∀ (v9 : Int32) (H : Heap) (locs : List Loc) (ls : Array Slot), wd_ D (tys0 κ) A s (List.flatten [pFr κ qf f_held f_couples f_endJoints f_lengths f_stiffs f_loadBeams f_loadSizes f_loadPlaces f_joints f_beams f_loads]) H locs → lv_has ls 7 [(5, .int v8), (4, .int v6), (3, .int v3), (0, .ref (qf 0)), (1, .int a1)] → j12 v9 = some zr → W p l e ({ frames := 0, cells := 0, slots := 0, locals := 0 } : Room) s m ([.ref (qf 0), .int a1, .int a2] : List Value).toArray below meth c H locs 0 0 (qI_ D (tys0 κ) A nT_ zr (List.flatten [pFr κ qf f_held f_couples f_endJoints f_lengths f_stiffs f_loadBeams f_loadSizes f_loadPlaces f_joints f_beams f_loads]) below ([.ref (qf 0), .int a1, .int a2] : List Value).toArray s) (F0 m 66 ls [.int v9]) := by
        intro v9 H locs ls hw hl  hf
        have hf : (gd_ a1 8 <| dz_ (v3 * v3) <| some (((((((100 : Int32) * (f_loadSizes a1.toNatClampNeg)) * v6) * v8) * v9) / (v3 * v3)))) = some zr := by rw [ej12] at hf; exact hf
        refine lv_istore (lv' := [(6, .int v9), (5, .int v8), (4, .int v6), (3, .int v3), (0, .ref (qf 0)), (1, .int a1)]) hx hb dX2_pressed_66 hl (by decide) rfl (fun ls hl => ?_)
        refine lv_bipush (v := 100) hx hb dX2_pressed_68 (by decide) ?_
        refine lv_aload_n hx hb dX2_pressed_70 rfl (lv_at hl 4 rfl) ?_
        refine r_get C0 hw 0 6 (v := .ref (qf 7)) rfl rfl inX2 (by decide) lk_X2_31 rfl dX2_pressed_71 ?_
        refine lv_iload_n hx hb dX2_pressed_74 rfl (lv_at hl 5 rfl) ?_
        obtain ⟨hi10, hf⟩ := gd_s hf
        refine r_iald C0 hw 7 0 rfl rfl hi10 dX2_pressed_75 ?_
        refine lv_imul hx hb dX2_pressed_76 ?_
        refine lv_iload hx hb dX2_pressed_77 (lv_at hl 2 rfl) ?_
        refine lv_imul hx hb dX2_pressed_79 ?_
        refine lv_iload hx hb dX2_pressed_80 (lv_at hl 1 rfl) ?_
        refine lv_imul hx hb dX2_pressed_82 ?_
        refine lv_iload hx hb dX2_pressed_83 (lv_at hl 0 rfl) ?_
        refine lv_imul hx hb dX2_pressed_85 ?_
        refine lv_iload_n hx hb dX2_pressed_86 rfl (lv_at hl 3 rfl) ?_
        refine lv_iload_n hx hb dX2_pressed_87 rfl (lv_at hl 3 rfl) ?_
        refine lv_imul hx hb dX2_pressed_88 ?_
        obtain ⟨hz11, hf⟩ := dz_s hf
        refine lv_idiv hx hb dX2_pressed_89 hz11 ?_
        obtain rfl := e1_ hf
        exact r_iret C0 hw trivial dX2_pressed_90
      refine lv_if_eq (tgt := 64) hx hb dX2_pressed_56 (by decide) (fun hc14 => ?_) (fun hc14 => ?_)
      · have hf := if_t hc14 hf
        refine lv_iload hx hb dX2_pressed_64 (lv_at hl 1 rfl) ?_
        exact hj13 v6 H locs ls hw (lv_sub hl [0, 1, 2, 3, 4] rfl)  hf
      · have hf := if_f hc14 hf
        refine lv_iload hx hb dX2_pressed_59 (lv_at hl 0 rfl) ?_
        refine lv_goto (tgt := 66) hx hb dX2_pressed_61 (by decide) ?_
        exact hj13 v8 H locs ls hw (lv_sub hl [0, 1, 2, 3, 4] rfl)  hf
    · have hf := if_t hc7 hf
      refine lv_bipush (v := 100) hx hb dX2_pressed_32 (by decide) ?_
      refine lv_aload_n hx hb dX2_pressed_34 rfl (lv_at hl 2 rfl) ?_
      refine r_get C0 hw 0 6 (v := .ref (qf 7)) rfl rfl inX2 (by decide) lk_X2_31 rfl dX2_pressed_35 ?_
      refine lv_iload_n hx hb dX2_pressed_38 rfl (lv_at hl 3 rfl) ?_
      obtain ⟨hi15, hf⟩ := gd_s hf
      refine r_iald C0 hw 7 0 rfl rfl hi15 dX2_pressed_39 ?_
      refine lv_imul hx hb dX2_pressed_40 ?_
      refine lv_iload_n hx hb dX2_pressed_41 rfl (lv_at hl 1 rfl) ?_
      refine lv_imul hx hb dX2_pressed_42 ?_
      refine lv_iload_n hx hb dX2_pressed_43 rfl (lv_at hl 1 rfl) ?_
      refine lv_imul hx hb dX2_pressed_44 ?_
      refine lv_bipush (v := 12) hx hb dX2_pressed_45 (by decide) ?_
      refine lv_idiv hx hb dX2_pressed_47 (by decide) ?_
      obtain rfl := e1_ hf
      exact r_iret C0 hw trivial dX2_pressed_48
  · have hf := if_f hc4 hf
    refine lv_iconst (v := 0) hx hb dX2_pressed_17 (by decide) ?_
    obtain rfl := e1_ hf
    exact r_iret C0 hw trivial dX2_pressed_18
def FFr_first_L4 (f_lengths f_loadBeams f_loadSizes f_loadPlaces : Nat → Int32) (f_loads l1 : Int32) : Nat → Int32 → Int32 → Option (Int32)
  | 0, _, _ => none
  | n + 1, l2, l3 =>
      if f_loads ≤ l3 then
        some (l2)
      else
        gd_ l3 8 <|
        if (f_loadBeams l3.toNatClampNeg) = (l1 / (2 : Int32)) then
          if (l1 - l1 / (2 : Int32) * (2 : Int32)) = 0 then
            b1_ (FFr_pressed f_lengths f_loadBeams f_loadSizes f_loadPlaces l3 (1 : Int32)) fun r11 =>
            lt_ (l2 + (-r11)) fun v14 =>
            lt_ (l3 + (1 : Int32)) fun v15 =>
            FFr_first_L4 f_lengths f_loadBeams f_loadSizes f_loadPlaces f_loads l1 n v14 v15
          else
            b1_ (FFr_pressed f_lengths f_loadBeams f_loadSizes f_loadPlaces l3 (0 : Int32)) fun r6 =>
            lt_ (l2 + r6) fun v9 =>
            lt_ (l3 + (1 : Int32)) fun v10 =>
            FFr_first_L4 f_lengths f_loadBeams f_loadSizes f_loadPlaces f_loads l1 n v9 v10
        else
          lt_ (l3 + (1 : Int32)) fun v4 =>
          FFr_first_L4 f_lengths f_loadBeams f_loadSizes f_loadPlaces f_loads l1 n l2 v4
def FFr_first (f_lengths f_loadBeams f_loadSizes f_loadPlaces : Nat → Int32) (f_loads a1 : Int32) : Option (Int32) :=
  FFr_first_L4 f_lengths f_loadBeams f_loadSizes f_loadPlaces f_loads a1 1000 (0 : Int32) (0 : Int32)
set_option maxHeartbeats 4000000 in
set_option maxRecDepth 100000 in
theorem wFr_first_L4 {p : Program} {l : Launch} {e : Env} {s : State} {m : MethodId} {args : Array Value} {below : List Frame} {meth : Method} {c : Code} {A : Nat → Prop} {D : va_G} {κ : Nat → ClassId} (C0 : cx_ p s m meth c args cX2_first RX2 (some .int) 4 A) (qf : Nat → Nat) (f_held f_couples f_endJoints f_lengths f_stiffs f_loadBeams f_loadSizes f_loadPlaces : Nat → Int32) (f_joints f_beams f_loads l1 : Int32) (zr : Int32) : ∀ (n : Nat) (l2 : Int32) (l3 : Int32) (H : Heap) (locs : List Loc) (ls : Array Slot), wd_ D (tys0 κ) A s (List.flatten [pFr κ qf f_held f_couples f_endJoints f_lengths f_stiffs f_loadBeams f_loadSizes f_loadPlaces f_joints f_beams f_loads]) H locs → lv_has ls 4 [(0, .ref (qf 0)), (1, .int l1), (2, .int l2), (3, .int l3)] → FFr_first_L4 f_lengths f_loadBeams f_loadSizes f_loadPlaces f_loads l1 n l2 l3 = some zr → W p l e ({ frames := 1, cells := 0, slots := 0, locals := 26 } : Room) s m args below meth c H locs 0 0 (qI_ D (tys0 κ) A nT_ zr (List.flatten [pFr κ qf f_held f_couples f_endJoints f_lengths f_stiffs f_loadBeams f_loadSizes f_loadPlaces f_joints f_beams f_loads]) below args s) (F0 m 4 ls []) := by
  obtain ⟨hx, hb, -, hml, hown, hts, -, -⟩ := id C0
  intro n
  induction n with
  | zero =>
    intro l2 l3 H locs ls hw hl  hf
    cases hf
  | succ n ih =>
    intro l2 l3 H locs ls hw hl  hf
    rw [FFr_first_L4.eq_2] at hf
    refine lv_iload_n hx hb dX2_first_4 rfl (lv_at hl 3 rfl) ?_
    refine lv_aload_n hx hb dX2_first_5 rfl (lv_at hl 0 rfl) ?_
    refine r_get C0 hw 0 10 (v := .int f_loads) rfl rfl inX2 (by decide) lk_X2_44 rfl dX2_first_6 ?_
    refine lv_icmp_ge (tgt := 55) hx hb dX2_first_9 (by decide) (fun hc1 => ?_) (fun hc1 => ?_)
    · have hf := if_t hc1 hf
      refine lv_iload_n hx hb dX2_first_55 rfl (lv_at hl 2 rfl) ?_
      obtain rfl := e1_ hf
      exact r_iret C0 hw trivial dX2_first_56
    · have hf := if_f hc1 hf
      refine lv_aload_n hx hb dX2_first_12 rfl (lv_at hl 0 rfl) ?_
      refine r_get C0 hw 0 5 (v := .ref (qf 6)) rfl rfl inX2 (by decide) lk_X2_28 rfl dX2_first_13 ?_
      refine lv_iload_n hx hb dX2_first_16 rfl (lv_at hl 3 rfl) ?_
      obtain ⟨hi2, hf⟩ := gd_s hf
      refine r_iald C0 hw 6 0 rfl rfl hi2 dX2_first_17 ?_
      refine lv_iload_n hx hb dX2_first_18 rfl (lv_at hl 1 rfl) ?_
      refine lv_iconst (v := 2) hx hb dX2_first_19 (by decide) ?_
      refine lv_idiv hx hb dX2_first_20 (by decide) ?_
      refine lv_icmp_ne (tgt := 49) hx hb dX2_first_21 (by decide) (fun hc3 => ?_) (fun hc3 => ?_)
      · have hf := if_f hc3 hf
        obtain ⟨v4, ev4⟩ : ∃ z : Int32, z = (l3 + (1 : Int32)) := ⟨_, rfl⟩
        have hf := lt_s_ hf v4 ev4
        refine lv_iinc (v := v4) (lv' := [(3, .int v4), (0, .ref (qf 0)), (1, .int l1), (2, .int l2)]) hx hb dX2_first_49 hl (k := 3) rfl (by rw [ev4]; rfl) (by decide) rfl (fun ls hl => ?_)
        refine lv_goto (tgt := 4) hx hb dX2_first_52 (by decide) ?_
        exact ih l2 v4 H locs ls hw (lv_sub hl [1, 2, 3, 0] rfl)  hf
      · have hf := if_t hc3 hf
        refine lv_iload_n hx hb dX2_first_24 rfl (lv_at hl 2 rfl) ?_
        refine lv_iload_n hx hb dX2_first_25 rfl (lv_at hl 1 rfl) ?_
        refine lv_iconst (v := 2) hx hb dX2_first_26 (by decide) ?_
        refine lv_irem hx hb dX2_first_27 (by decide) ?_
        refine lv_if_ne (tgt := 41) hx hb dX2_first_28 (by decide) (fun hc5 => ?_) (fun hc5 => ?_)
        · have hf := if_f hc5 hf
          refine lv_aload_n hx hb dX2_first_41 rfl (lv_at hl 0 rfl) ?_
          refine lv_iload_n hx hb dX2_first_42 rfl (lv_at hl 3 rfl) ?_
          refine lv_iconst (v := 0) hx hb dX2_first_43 (by decide) ?_
          obtain ⟨r6, hk7, hf⟩ := b1_s hf
          refine rv_i (vq := (RX2, TX2, 11)) (As := [.int l3, .int (0 : Int32)]) (rest := [.int l2]) (bs' := [pFr κ qf f_held f_couples f_endJoints f_lengths f_stiffs f_loadBeams f_loadSizes f_loadPlaces f_joints f_beams f_loads]) C0 hw (cFr_pressed l D κ qf f_held f_couples f_endJoints f_lengths f_stiffs f_loadBeams f_loadSizes f_loadPlaces f_joints f_beams f_loads l3 (0 : Int32) r6 hk7) cv_RX2_57 ⟨rfl, rfl, Nat.le_of_ble_eq_true rfl, Nat.le_of_ble_eq_true rfl⟩ ⟨Nat.zero_le _, Nat.zero_le _⟩ [0] [] [0] rfl rfl rfl rfl (by decide) rfl rfl rfl rfl rfl hl.1 (by simp only [List.map, List.sum_cons, List.sum_nil, Value.category]; decide) dX2_first_44 (fun H locs hw hn8 => ?_)
          refine lv_iadd hx hb dX2_first_47 ?_
          refine lv_topi (fun v9 ev9 => ?_)
          have hf := lt_s_ hf v9 ev9
          refine lv_istore_n (lv' := [(2, .int v9), (0, .ref (qf 0)), (1, .int l1), (3, .int l3)]) hx hb dX2_first_48 rfl hl (by decide) rfl (fun ls hl => ?_)
          obtain ⟨v10, ev10⟩ : ∃ z : Int32, z = (l3 + (1 : Int32)) := ⟨_, rfl⟩
          have hf := lt_s_ hf v10 ev10
          refine lv_iinc (v := v10) (lv' := [(3, .int v10), (2, .int v9), (0, .ref (qf 0)), (1, .int l1)]) hx hb dX2_first_49 hl (k := 3) rfl (by rw [ev10]; rfl) (by decide) rfl (fun ls hl => ?_)
          refine lv_goto (tgt := 4) hx hb dX2_first_52 (by decide) ?_
          exact ih v9 v10 H locs ls hw (lv_sub hl [2, 3, 1, 0] rfl)  hf
        · have hf := if_t hc5 hf
          refine lv_aload_n hx hb dX2_first_31 rfl (lv_at hl 0 rfl) ?_
          refine lv_iload_n hx hb dX2_first_32 rfl (lv_at hl 3 rfl) ?_
          refine lv_iconst (v := 1) hx hb dX2_first_33 (by decide) ?_
          obtain ⟨r11, hk12, hf⟩ := b1_s hf
          refine rv_i (vq := (RX2, TX2, 11)) (As := [.int l3, .int (1 : Int32)]) (rest := [.int l2]) (bs' := [pFr κ qf f_held f_couples f_endJoints f_lengths f_stiffs f_loadBeams f_loadSizes f_loadPlaces f_joints f_beams f_loads]) C0 hw (cFr_pressed l D κ qf f_held f_couples f_endJoints f_lengths f_stiffs f_loadBeams f_loadSizes f_loadPlaces f_joints f_beams f_loads l3 (1 : Int32) r11 hk12) cv_RX2_57 ⟨rfl, rfl, Nat.le_of_ble_eq_true rfl, Nat.le_of_ble_eq_true rfl⟩ ⟨Nat.zero_le _, Nat.zero_le _⟩ [0] [] [0] rfl rfl rfl rfl (by decide) rfl rfl rfl rfl rfl hl.1 (by simp only [List.map, List.sum_cons, List.sum_nil, Value.category]; decide) dX2_first_34 (fun H locs hw hn13 => ?_)
          refine lv_ineg hx hb dX2_first_37 ?_
          refine lv_goto (tgt := 47) hx hb dX2_first_38 (by decide) ?_
          refine lv_iadd hx hb dX2_first_47 ?_
          refine lv_topi (fun v14 ev14 => ?_)
          have hf := lt_s_ hf v14 ev14
          refine lv_istore_n (lv' := [(2, .int v14), (0, .ref (qf 0)), (1, .int l1), (3, .int l3)]) hx hb dX2_first_48 rfl hl (by decide) rfl (fun ls hl => ?_)
          obtain ⟨v15, ev15⟩ : ∃ z : Int32, z = (l3 + (1 : Int32)) := ⟨_, rfl⟩
          have hf := lt_s_ hf v15 ev15
          refine lv_iinc (v := v15) (lv' := [(3, .int v15), (2, .int v14), (0, .ref (qf 0)), (1, .int l1)]) hx hb dX2_first_49 hl (k := 3) rfl (by rw [ev15]; rfl) (by decide) rfl (fun ls hl => ?_)
          refine lv_goto (tgt := 4) hx hb dX2_first_52 (by decide) ?_
          exact ih v14 v15 H locs ls hw (lv_sub hl [2, 3, 1, 0] rfl)  hf
set_option maxHeartbeats 4000000 in
set_option maxRecDepth 100000 in
theorem cFr_first (l : Launch) (D : va_G) (κ : Nat → ClassId) (qf : Nat → Nat) (f_held f_couples f_endJoints f_lengths f_stiffs f_loadBeams f_loadSizes f_loadPlaces : Nat → Int32) (f_joints f_beams f_loads a1 zr : Int32) (hf : FFr_first f_lengths f_loadBeams f_loadSizes f_loadPlaces f_loads a1 = some zr) : mI_ l yX2_first (Cond.code yX2_first cX2_first 4 (some .int) :: uw) ({ frames := 1, cells := 0, slots := 0, locals := 26 } : Room) D (tys0 κ) [.ref (qf 0), .int a1] (List.flatten [pFr κ qf f_held f_couples f_endJoints f_lengths f_stiffs f_loadBeams f_loadSizes f_loadPlaces f_joints f_beams f_loads]) nT_ zr (List.flatten [pFr κ qf f_held f_couples f_endJoints f_lengths f_stiffs f_loadBeams f_loadSizes f_loadPlaces f_joints f_beams f_loads]) := by
  unfold FFr_first at hf
  refine mI_of (by decide) (Nat.le_of_ble_eq_true rfl) ?_
  intro p e s m below meth c A ls H locs C0 hw hl
  obtain ⟨hx, hb, -, hml, hown, hts, -, -⟩ := id C0
  have hl : lv_has ls 4 [(0, .ref (qf 0)), (1, .int a1)] := hl
  refine lv_iconst (v := 0) hx hb dX2_first_0 (by decide) ?_
  refine lv_istore_n (lv' := [(2, .int (0 : Int32)), (0, .ref (qf 0)), (1, .int a1)]) hx hb dX2_first_1 rfl hl (by decide) rfl (fun ls hl => ?_)
  refine lv_iconst (v := 0) hx hb dX2_first_2 (by decide) ?_
  refine lv_istore_n (lv' := [(3, .int (0 : Int32)), (2, .int (0 : Int32)), (0, .ref (qf 0)), (1, .int a1)]) hx hb dX2_first_3 rfl hl (by decide) rfl (fun ls hl => ?_)
  exact wFr_first_L4 C0 qf f_held f_couples f_endJoints f_lengths f_stiffs f_loadBeams f_loadSizes f_loadPlaces f_joints f_beams f_loads a1 zr 1000 (0 : Int32) (0 : Int32) H locs ls hw (lv_sub hl [2, 3, 1, 0] rfl)  hf
def FFr_isWhole_L2 (f_endJoints : Nat → Int32) (f_joints f_beams : Int32) (k_ : Int32 → Option (Int32)) : Nat → Int32 → Option (Int32)
  | 0, _ => none
  | n + 1, l1 =>
      if ((2 : Int32) * f_beams) ≤ l1 then
        k_ l1
      else
        gd_ l1 20 <|
        b1_ (FFr_isJoint f_joints (f_endJoints l1.toNatClampNeg)) fun r3 =>
        if r3 = 0 then
          some ((0 : Int32))
        else
          lt_ (l1 + (1 : Int32)) fun v7 =>
          FFr_isWhole_L2 f_endJoints f_joints f_beams k_ n v7
def FFr_isWhole_L35 (f_lengths f_loadBeams f_loadPlaces : Nat → Int32) (f_beams f_loads : Int32) : Nat → Int32 → Option (Int32)
  | 0, _ => none
  | n + 1, l1 =>
      if f_loads ≤ l1 then
        some ((1 : Int32))
      else
        gd_ l1 8 <|
        b1_ (FFr_isBeam f_beams (f_loadBeams l1.toNatClampNeg)) fun r11 =>
        if r11 = 0 then
          some ((0 : Int32))
        else
          gd_ l1 8 <|
          gd_ l1 8 <|
          gd_ (f_loadBeams l1.toNatClampNeg) 10 <|
          if (f_loadPlaces l1.toNatClampNeg) < (f_lengths (f_loadBeams l1.toNatClampNeg).toNatClampNeg) then
            lt_ (l1 + (1 : Int32)) fun v19 =>
            FFr_isWhole_L35 f_lengths f_loadBeams f_loadPlaces f_beams f_loads n v19
          else
            some ((0 : Int32))
def FFr_isWhole (f_endJoints f_lengths f_loadBeams f_loadPlaces : Nat → Int32) (f_joints f_beams f_loads : Int32) : Option (Int32) :=
  FFr_isWhole_L2 f_endJoints f_joints f_beams (fun (v8 : Int32) =>
      FFr_isWhole_L35 f_lengths f_loadBeams f_loadPlaces f_beams f_loads 1000 (0 : Int32)) 1000 (0 : Int32)
set_option maxHeartbeats 4000000 in
set_option maxRecDepth 100000 in
theorem wFr_isWhole_L2 {p : Program} {l : Launch} {e : Env} {s : State} {m : MethodId} {args : Array Value} {below : List Frame} {meth : Method} {c : Code} {A : Nat → Prop} {D : va_G} {κ : Nat → ClassId} (C0 : cx_ p s m meth c args cX2_isWhole RX2 (some .boolean) 2 A) (qf : Nat → Nat) (f_held f_couples f_endJoints f_lengths f_stiffs f_loadBeams f_loadSizes f_loadPlaces : Nat → Int32) (f_joints f_beams f_loads : Int32) (zr : Int32) (k_ : Int32 → Option (Int32)) (hk_ : ∀ (l1 : Int32) (H : Heap) (locs : List Loc) (ls : Array Slot), wd_ D (tys0 κ) A s (List.flatten [pFr κ qf f_held f_couples f_endJoints f_lengths f_stiffs f_loadBeams f_loadSizes f_loadPlaces f_joints f_beams f_loads]) H locs → lv_has ls 2 [(0, .ref (qf 0))] → k_ l1 = some zr → W p l e ({ frames := 1, cells := 0, slots := 0, locals := 21 } : Room) s m args below meth c H locs 0 0 (qI_ D (tys0 κ) A nB_ zr (List.flatten [pFr κ qf f_held f_couples f_endJoints f_lengths f_stiffs f_loadBeams f_loadSizes f_loadPlaces f_joints f_beams f_loads]) below args s) (F0 m 33 ls [])) : ∀ (n : Nat) (l1 : Int32) (H : Heap) (locs : List Loc) (ls : Array Slot), wd_ D (tys0 κ) A s (List.flatten [pFr κ qf f_held f_couples f_endJoints f_lengths f_stiffs f_loadBeams f_loadSizes f_loadPlaces f_joints f_beams f_loads]) H locs → lv_has ls 2 [(0, .ref (qf 0)), (1, .int l1)] → FFr_isWhole_L2 f_endJoints f_joints f_beams k_ n l1 = some zr → W p l e ({ frames := 1, cells := 0, slots := 0, locals := 21 } : Room) s m args below meth c H locs 0 0 (qI_ D (tys0 κ) A nB_ zr (List.flatten [pFr κ qf f_held f_couples f_endJoints f_lengths f_stiffs f_loadBeams f_loadSizes f_loadPlaces f_joints f_beams f_loads]) below args s) (F0 m 2 ls []) := by
  obtain ⟨hx, hb, -, hml, hown, hts, -, -⟩ := id C0
  intro n
  induction n with
  | zero =>
    intro l1 H locs ls hw hl  hf
    cases hf
  | succ n ih =>
    intro l1 H locs ls hw hl  hf
    rw [FFr_isWhole_L2.eq_2] at hf
    refine lv_iload_n hx hb dX2_isWhole_2 rfl (lv_at hl 1 rfl) ?_
    refine lv_iconst (v := 2) hx hb dX2_isWhole_3 (by decide) ?_
    refine lv_aload_n hx hb dX2_isWhole_4 rfl (lv_at hl 0 rfl) ?_
    refine r_get C0 hw 0 9 (v := .int f_beams) rfl rfl inX2 (by decide) lk_X2_41 rfl dX2_isWhole_5 ?_
    refine lv_imul hx hb dX2_isWhole_8 ?_
    refine lv_icmp_ge (tgt := 33) hx hb dX2_isWhole_9 (by decide) (fun hc1 => ?_) (fun hc1 => ?_)
    · have hf := if_t hc1 hf
      exact hk_ l1 H locs ls hw (lv_sub hl [0] rfl)  hf
    · have hf := if_f hc1 hf
      refine lv_aload_n hx hb dX2_isWhole_12 rfl (lv_at hl 0 rfl) ?_
      refine lv_aload_n hx hb dX2_isWhole_13 rfl (lv_at hl 0 rfl) ?_
      refine r_get C0 hw 0 2 (v := .ref (qf 3)) rfl rfl inX2 (by decide) lk_X2_19 rfl dX2_isWhole_14 ?_
      refine lv_iload_n hx hb dX2_isWhole_17 rfl (lv_at hl 1 rfl) ?_
      obtain ⟨hi2, hf⟩ := gd_s hf
      refine r_iald C0 hw 3 0 rfl rfl hi2 dX2_isWhole_18 ?_
      obtain ⟨r3, hk4, hf⟩ := b1_s hf
      refine rv_i (vq := (RX2, TX2, 11)) (As := [.int (f_endJoints l1.toNatClampNeg)]) (rest := []) (bs' := [pFr κ qf f_held f_couples f_endJoints f_lengths f_stiffs f_loadBeams f_loadSizes f_loadPlaces f_joints f_beams f_loads]) C0 hw (cFr_isJoint l D κ qf f_held f_couples f_endJoints f_lengths f_stiffs f_loadBeams f_loadSizes f_loadPlaces f_joints f_beams f_loads (f_endJoints l1.toNatClampNeg) r3 hk4) cv_RX2_61 ⟨rfl, rfl, Nat.le_of_ble_eq_true rfl, Nat.le_of_ble_eq_true rfl⟩ ⟨Nat.zero_le _, Nat.zero_le _⟩ [0] [] [0] rfl rfl rfl rfl (by decide) rfl rfl rfl rfl rfl hl.1 (by simp only [List.map, List.sum_cons, List.sum_nil, Value.category]; decide) dX2_isWhole_19 (fun H locs hw hn5 => ?_)
      refine lv_if_ne (tgt := 27) hx hb dX2_isWhole_22 (by decide) (fun hc6 => ?_) (fun hc6 => ?_)
      · have hf := if_f hc6 hf
        obtain ⟨v7, ev7⟩ : ∃ z : Int32, z = (l1 + (1 : Int32)) := ⟨_, rfl⟩
        have hf := lt_s_ hf v7 ev7
        refine lv_iinc (v := v7) (lv' := [(1, .int v7), (0, .ref (qf 0))]) hx hb dX2_isWhole_27 hl (k := 1) rfl (by rw [ev7]; rfl) (by decide) rfl (fun ls hl => ?_)
        refine lv_goto (tgt := 2) hx hb dX2_isWhole_30 (by decide) ?_
        exact ih v7 H locs ls hw (lv_sub hl [1, 0] rfl)  hf
      · have hf := if_t hc6 hf
        refine lv_iconst (v := 0) hx hb dX2_isWhole_25 (by decide) ?_
        obtain rfl := e1_ hf
        exact r_zret C0 hw (Or.inl rfl) dX2_isWhole_26
set_option maxHeartbeats 4000000 in
set_option maxRecDepth 100000 in
theorem wFr_isWhole_L35 {p : Program} {l : Launch} {e : Env} {s : State} {m : MethodId} {args : Array Value} {below : List Frame} {meth : Method} {c : Code} {A : Nat → Prop} {D : va_G} {κ : Nat → ClassId} (C0 : cx_ p s m meth c args cX2_isWhole RX2 (some .boolean) 2 A) (qf : Nat → Nat) (f_held f_couples f_endJoints f_lengths f_stiffs f_loadBeams f_loadSizes f_loadPlaces : Nat → Int32) (f_joints f_beams f_loads : Int32) (zr : Int32) : ∀ (n : Nat) (l1 : Int32) (H : Heap) (locs : List Loc) (ls : Array Slot), wd_ D (tys0 κ) A s (List.flatten [pFr κ qf f_held f_couples f_endJoints f_lengths f_stiffs f_loadBeams f_loadSizes f_loadPlaces f_joints f_beams f_loads]) H locs → lv_has ls 2 [(0, .ref (qf 0)), (1, .int l1)] → FFr_isWhole_L35 f_lengths f_loadBeams f_loadPlaces f_beams f_loads n l1 = some zr → W p l e ({ frames := 1, cells := 0, slots := 0, locals := 21 } : Room) s m args below meth c H locs 0 0 (qI_ D (tys0 κ) A nB_ zr (List.flatten [pFr κ qf f_held f_couples f_endJoints f_lengths f_stiffs f_loadBeams f_loadSizes f_loadPlaces f_joints f_beams f_loads]) below args s) (F0 m 35 ls []) := by
  obtain ⟨hx, hb, -, hml, hown, hts, -, -⟩ := id C0
  intro n
  induction n with
  | zero =>
    intro l1 H locs ls hw hl  hf
    cases hf
  | succ n ih =>
    intro l1 H locs ls hw hl  hf
    rw [FFr_isWhole_L35.eq_2] at hf
    refine lv_iload_n hx hb dX2_isWhole_35 rfl (lv_at hl 1 rfl) ?_
    refine lv_aload_n hx hb dX2_isWhole_36 rfl (lv_at hl 0 rfl) ?_
    refine r_get C0 hw 0 10 (v := .int f_loads) rfl rfl inX2 (by decide) lk_X2_44 rfl dX2_isWhole_37 ?_
    refine lv_icmp_ge (tgt := 84) hx hb dX2_isWhole_40 (by decide) (fun hc9 => ?_) (fun hc9 => ?_)
    · have hf := if_t hc9 hf
      refine lv_iconst (v := 1) hx hb dX2_isWhole_84 (by decide) ?_
      obtain rfl := e1_ hf
      exact r_zret C0 hw (Or.inr rfl) dX2_isWhole_85
    · have hf := if_f hc9 hf
      refine lv_aload_n hx hb dX2_isWhole_43 rfl (lv_at hl 0 rfl) ?_
      refine lv_aload_n hx hb dX2_isWhole_44 rfl (lv_at hl 0 rfl) ?_
      refine r_get C0 hw 0 5 (v := .ref (qf 6)) rfl rfl inX2 (by decide) lk_X2_28 rfl dX2_isWhole_45 ?_
      refine lv_iload_n hx hb dX2_isWhole_48 rfl (lv_at hl 1 rfl) ?_
      obtain ⟨hi10, hf⟩ := gd_s hf
      refine r_iald C0 hw 6 0 rfl rfl hi10 dX2_isWhole_49 ?_
      obtain ⟨r11, hk12, hf⟩ := b1_s hf
      refine rv_i (vq := (RX2, TX2, 11)) (As := [.int (f_loadBeams l1.toNatClampNeg)]) (rest := []) (bs' := [pFr κ qf f_held f_couples f_endJoints f_lengths f_stiffs f_loadBeams f_loadSizes f_loadPlaces f_joints f_beams f_loads]) C0 hw (cFr_isBeam l D κ qf f_held f_couples f_endJoints f_lengths f_stiffs f_loadBeams f_loadSizes f_loadPlaces f_joints f_beams f_loads (f_loadBeams l1.toNatClampNeg) r11 hk12) cv_RX2_65 ⟨rfl, rfl, Nat.le_of_ble_eq_true rfl, Nat.le_of_ble_eq_true rfl⟩ ⟨Nat.zero_le _, Nat.zero_le _⟩ [0] [] [0] rfl rfl rfl rfl (by decide) rfl rfl rfl rfl rfl hl.1 (by simp only [List.map, List.sum_cons, List.sum_nil, Value.category]; decide) dX2_isWhole_50 (fun H locs hw hn13 => ?_)
      refine lv_if_eq (tgt := 76) hx hb dX2_isWhole_53 (by decide) (fun hc14 => ?_) (fun hc14 => ?_)
      · have hf := if_t hc14 hf
        refine lv_iconst (v := 0) hx hb dX2_isWhole_76 (by decide) ?_
        obtain rfl := e1_ hf
        exact r_zret C0 hw (Or.inl rfl) dX2_isWhole_77
      · have hf := if_f hc14 hf
        refine lv_aload_n hx hb dX2_isWhole_56 rfl (lv_at hl 0 rfl) ?_
        refine r_get C0 hw 0 7 (v := .ref (qf 8)) rfl rfl inX2 (by decide) lk_X2_34 rfl dX2_isWhole_57 ?_
        refine lv_iload_n hx hb dX2_isWhole_60 rfl (lv_at hl 1 rfl) ?_
        obtain ⟨hi15, hf⟩ := gd_s hf
        refine r_iald C0 hw 8 0 rfl rfl hi15 dX2_isWhole_61 ?_
        refine lv_aload_n hx hb dX2_isWhole_62 rfl (lv_at hl 0 rfl) ?_
        refine r_get C0 hw 0 3 (v := .ref (qf 4)) rfl rfl inX2 (by decide) lk_X2_22 rfl dX2_isWhole_63 ?_
        refine lv_aload_n hx hb dX2_isWhole_66 rfl (lv_at hl 0 rfl) ?_
        refine r_get C0 hw 0 5 (v := .ref (qf 6)) rfl rfl inX2 (by decide) lk_X2_28 rfl dX2_isWhole_67 ?_
        refine lv_iload_n hx hb dX2_isWhole_70 rfl (lv_at hl 1 rfl) ?_
        obtain ⟨hi16, hf⟩ := gd_s hf
        refine r_iald C0 hw 6 0 rfl rfl hi16 dX2_isWhole_71 ?_
        obtain ⟨hi17, hf⟩ := gd_s hf
        refine r_iald C0 hw 4 0 rfl rfl hi17 dX2_isWhole_72 ?_
        refine lv_icmp_lt (tgt := 78) hx hb dX2_isWhole_73 (by decide) (fun hc18 => ?_) (fun hc18 => ?_)
        · have hf := if_t hc18 hf
          obtain ⟨v19, ev19⟩ : ∃ z : Int32, z = (l1 + (1 : Int32)) := ⟨_, rfl⟩
          have hf := lt_s_ hf v19 ev19
          refine lv_iinc (v := v19) (lv' := [(1, .int v19), (0, .ref (qf 0))]) hx hb dX2_isWhole_78 hl (k := 1) rfl (by rw [ev19]; rfl) (by decide) rfl (fun ls hl => ?_)
          refine lv_goto (tgt := 35) hx hb dX2_isWhole_81 (by decide) ?_
          exact ih v19 H locs ls hw (lv_sub hl [1, 0] rfl)  hf
        · have hf := if_f hc18 hf
          refine lv_iconst (v := 0) hx hb dX2_isWhole_76 (by decide) ?_
          obtain rfl := e1_ hf
          exact r_zret C0 hw (Or.inl rfl) dX2_isWhole_77
set_option maxHeartbeats 4000000 in
set_option maxRecDepth 100000 in
theorem cFr_isWhole (l : Launch) (D : va_G) (κ : Nat → ClassId) (qf : Nat → Nat) (f_held f_couples f_endJoints f_lengths f_stiffs f_loadBeams f_loadSizes f_loadPlaces : Nat → Int32) (f_joints f_beams f_loads zr : Int32) (hf : FFr_isWhole f_endJoints f_lengths f_loadBeams f_loadPlaces f_joints f_beams f_loads = some zr) : mI_ l yX2_isWhole (Cond.code yX2_isWhole cX2_isWhole 2 (some .boolean) :: uw) ({ frames := 1, cells := 0, slots := 0, locals := 21 } : Room) D (tys0 κ) [.ref (qf 0)] (List.flatten [pFr κ qf f_held f_couples f_endJoints f_lengths f_stiffs f_loadBeams f_loadSizes f_loadPlaces f_joints f_beams f_loads]) nB_ zr (List.flatten [pFr κ qf f_held f_couples f_endJoints f_lengths f_stiffs f_loadBeams f_loadSizes f_loadPlaces f_joints f_beams f_loads]) := by
  unfold FFr_isWhole at hf
  refine mI_of (by decide) (Nat.le_of_ble_eq_true rfl) ?_
  intro p e s m below meth c A ls H locs C0 hw hl
  obtain ⟨hx, hb, -, hml, hown, hts, -, -⟩ := id C0
  have hl : lv_has ls 2 [(0, .ref (qf 0))] := hl
  refine lv_iconst (v := 0) hx hb dX2_isWhole_0 (by decide) ?_
  refine lv_istore_n (lv' := [(1, .int (0 : Int32)), (0, .ref (qf 0))]) hx hb dX2_isWhole_1 rfl hl (by decide) rfl (fun ls hl => ?_)
  refine wFr_isWhole_L2 C0 qf f_held f_couples f_endJoints f_lengths f_stiffs f_loadBeams f_loadSizes f_loadPlaces f_joints f_beams f_loads zr _ (fun v8 H locs ls hw hl  hf => ?_) 1000 (0 : Int32) H locs ls hw (lv_sub hl [1, 0] rfl)  hf
  refine lv_iconst (v := 0) hx hb dX2_isWhole_33 (by decide) ?_
  refine lv_istore_n (lv' := [(1, .int (0 : Int32)), (0, .ref (qf 0))]) hx hb dX2_isWhole_34 rfl hl (by decide) rfl (fun ls hl => ?_)
  exact wFr_isWhole_L35 C0 qf f_held f_couples f_endJoints f_lengths f_stiffs f_loadBeams f_loadSizes f_loadPlaces f_joints f_beams f_loads zr 1000 (0 : Int32) H locs ls hw (lv_sub hl [1, 0] rfl)  hf
