theorem hs_X6_isImage : yX6_isImage.cls ≠ "java/lang/invoke/MethodHandle" ∧ yX6_isImage.cls ≠ "java/lang/invoke/VarHandle" ∧ (parseMethodDescriptor yX6_isImage.desc).map (fun d => d.parameters.length) = some 1 := by decide +kernel
theorem cs_X6_225 : cs_ RX6 225 yX6_isImage cX6_isImage 1 (some .boolean) 1 := ⟨uw_3 (List.mem_of_getElem? (i := 163) rfl) rfl, uw_3 (List.mem_of_getElem? (i := 164) rfl) rfl, uw_1 (List.mem_of_getElem? (i := 1) rfl) rfl, uw_3 (List.mem_of_getElem? (i := 165) rfl) rfl, hs_X6_isImage⟩
theorem lk_X6_49 : Cond.fieldLink RX6 49 (TX6 5).1 (TX6 5).2.1 (TX6 5).2.2.1 ∈ uw := uw_1 (List.mem_of_getElem? (i := 228) rfl) rfl
theorem lk_X6_45 : Cond.fieldLink RX6 45 (TX6 4).1 (TX6 4).2.1 (TX6 4).2.2.1 ∈ uw := uw_1 (List.mem_of_getElem? (i := 227) rfl) rfl
theorem hd_X2_copy : yX2_copy.cls = RX2 ∧ yX2_copy.cls ≠ "java/lang/invoke/MethodHandle" ∧ yX2_copy.cls ≠ "java/lang/invoke/VarHandle" ∧ (parseMethodDescriptor yX2_copy.desc).map (fun d => d.parameters.length) = some 1 := by decide +kernel
theorem cv_RX6_228 : cv_ RX6 228 yX2_copy RX2 cX2_copy 3 none 1 := ⟨uw_3 (List.mem_of_getElem? (i := 166) rfl) rfl, uw_3 (List.mem_of_getElem? (i := 167) rfl) rfl, uw_3 (List.mem_of_getElem? (i := 168) rfl) rfl, uw_1 (List.mem_of_getElem? (i := 6) rfl) rfl, uw_3 (List.mem_of_getElem? (i := 169) rfl) rfl, hd_X2_copy⟩
theorem lk_X6_254 : Cond.fieldLink RX6 254 (TX3 0).1 (TX3 0).2.1 (TX3 0).2.2.1 ∈ uw := uw_1 (List.mem_of_getElem? (i := 211) rfl) rfl
theorem hs_X6_isSheet : yX6_isSheet.cls ≠ "java/lang/invoke/MethodHandle" ∧ yX6_isSheet.cls ≠ "java/lang/invoke/VarHandle" ∧ (parseMethodDescriptor yX6_isSheet.desc).map (fun d => d.parameters.length) = some 1 := by decide +kernel
theorem cs_X6_231 : cs_ RX6 231 yX6_isSheet cX6_isSheet 1 (some .boolean) 1 := ⟨uw_3 (List.mem_of_getElem? (i := 181) rfl) rfl, uw_3 (List.mem_of_getElem? (i := 182) rfl) rfl, uw_1 (List.mem_of_getElem? (i := 1) rfl) rfl, uw_3 (List.mem_of_getElem? (i := 183) rfl) rfl, hs_X6_isSheet⟩
theorem hs_X6_isLane : yX6_isLane.cls ≠ "java/lang/invoke/MethodHandle" ∧ yX6_isLane.cls ≠ "java/lang/invoke/VarHandle" ∧ (parseMethodDescriptor yX6_isLane.desc).map (fun d => d.parameters.length) = some 1 := by decide +kernel
theorem cs_X6_234 : cs_ RX6 234 yX6_isLane cX6_isLane 1 (some .boolean) 1 := ⟨uw_3 (List.mem_of_getElem? (i := 184) rfl) rfl, uw_3 (List.mem_of_getElem? (i := 185) rfl) rfl, uw_1 (List.mem_of_getElem? (i := 1) rfl) rfl, uw_3 (List.mem_of_getElem? (i := 186) rfl) rfl, hs_X6_isLane⟩
theorem lk_X6_55 : Cond.fieldLink RX6 55 (TX6 6).1 (TX6 6).2.1 (TX6 6).2.2.1 ∈ uw := uw_1 (List.mem_of_getElem? (i := 229) rfl) rfl
theorem hd_X3_renew : yX3_renew.cls = RX3 ∧ yX3_renew.cls ≠ "java/lang/invoke/MethodHandle" ∧ yX3_renew.cls ≠ "java/lang/invoke/VarHandle" ∧ (parseMethodDescriptor yX3_renew.desc).map (fun d => d.parameters.length) = some 2 := by decide +kernel
theorem cv_RX6_237 : cv_ RX6 237 yX3_renew RX3 cX3_renew 4 none 2 := ⟨uw_3 (List.mem_of_getElem? (i := 187) rfl) rfl, uw_3 (List.mem_of_getElem? (i := 188) rfl) rfl, uw_3 (List.mem_of_getElem? (i := 189) rfl) rfl, uw_1 (List.mem_of_getElem? (i := 7) rfl) rfl, uw_3 (List.mem_of_getElem? (i := 190) rfl) rfl, hd_X3_renew⟩
theorem lk_X6_241 : Cond.fieldLink RX6 241 (TX3 1).1 (TX3 1).2.1 (TX3 1).2.2.1 ∈ uw := uw_1 (List.mem_of_getElem? (i := 213) rfl) rfl
theorem cv_RX6_244 : cv_ RX6 244 yX3_faultAt RX3 cX3_faultAt 3 (some .int) 2 := ⟨uw_3 (List.mem_of_getElem? (i := 195) rfl) rfl, uw_3 (List.mem_of_getElem? (i := 196) rfl) rfl, uw_3 (List.mem_of_getElem? (i := 197) rfl) rfl, uw_1 (List.mem_of_getElem? (i := 7) rfl) rfl, uw_3 (List.mem_of_getElem? (i := 198) rfl) rfl, hd_X3_faultAt⟩
theorem hd_X3_write : yX3_write.cls = RX3 ∧ yX3_write.cls ≠ "java/lang/invoke/MethodHandle" ∧ yX3_write.cls ≠ "java/lang/invoke/VarHandle" ∧ (parseMethodDescriptor yX3_write.desc).map (fun d => d.parameters.length) = some 2 := by decide +kernel
theorem cv_RX6_248 : cv_ RX6 248 yX3_write RX3 cX3_write 3 none 2 := ⟨uw_3 (List.mem_of_getElem? (i := 199) rfl) rfl, uw_3 (List.mem_of_getElem? (i := 200) rfl) rfl, uw_3 (List.mem_of_getElem? (i := 201) rfl) rfl, uw_1 (List.mem_of_getElem? (i := 7) rfl) rfl, uw_3 (List.mem_of_getElem? (i := 202) rfl) rfl, hd_X3_write⟩
theorem hd_X3_faultOfTwo : yX3_faultOfTwo.cls = RX3 ∧ yX3_faultOfTwo.cls ≠ "java/lang/invoke/MethodHandle" ∧ yX3_faultOfTwo.cls ≠ "java/lang/invoke/VarHandle" ∧ (parseMethodDescriptor yX3_faultOfTwo.desc).map (fun d => d.parameters.length) = some 2 := by decide +kernel
theorem cv_RX6_251 : cv_ RX6 251 yX3_faultOfTwo RX3 cX3_faultOfTwo 4 (some .int) 2 := ⟨uw_3 (List.mem_of_getElem? (i := 207) rfl) rfl, uw_3 (List.mem_of_getElem? (i := 208) rfl) rfl, uw_3 (List.mem_of_getElem? (i := 209) rfl) rfl, uw_1 (List.mem_of_getElem? (i := 7) rfl) rfl, uw_3 (List.mem_of_getElem? (i := 210) rfl) rfl, hd_X3_faultOfTwo⟩
theorem hd_X6_takeCouples : yX6_takeCouples.cls = RX6 ∧ yX6_takeCouples.cls ≠ "java/lang/invoke/MethodHandle" ∧ yX6_takeCouples.cls ≠ "java/lang/invoke/VarHandle" ∧ (parseMethodDescriptor yX6_takeCouples.desc).map (fun d => d.parameters.length) = some 3 := by decide +kernel
theorem cv_RX6_260 : cv_ RX6 260 yX6_takeCouples RX6 cX6_takeCouples 5 none 3 := ⟨uw_3 (List.mem_of_getElem? (i := 212) rfl) rfl, uw_3 (List.mem_of_getElem? (i := 214) rfl) rfl, uw_0 (List.mem_of_getElem? (i := 22) rfl) rfl, uw_1 (List.mem_of_getElem? (i := 1) rfl) rfl, uw_3 (List.mem_of_getElem? (i := 215) rfl) rfl, hd_X6_takeCouples⟩
theorem lk_X6_264 : Cond.fieldLink RX6 264 (TX3 2).1 (TX3 2).2.1 (TX3 2).2.2.1 ∈ uw := uw_1 (List.mem_of_getElem? (i := 215) rfl) rfl
theorem hd_X0_bare : yX0_bare.cls = RX0 ∧ yX0_bare.cls ≠ "java/lang/invoke/MethodHandle" ∧ yX0_bare.cls ≠ "java/lang/invoke/VarHandle" ∧ (parseMethodDescriptor yX0_bare.desc).map (fun d => d.parameters.length) = some 1 := by decide +kernel
theorem cv_RX6_265 : cv_ RX6 265 yX0_bare RX0 cX0_bare 4 (some .int) 1 := ⟨uw_3 (List.mem_of_getElem? (i := 224) rfl) rfl, uw_3 (List.mem_of_getElem? (i := 225) rfl) rfl, uw_3 (List.mem_of_getElem? (i := 226) rfl) rfl, uw_1 (List.mem_of_getElem? (i := 4) rfl) rfl, uw_3 (List.mem_of_getElem? (i := 227) rfl) rfl, hd_X0_bare⟩
def FJm_keep (x_kept f_held f_couples f_endJoints f_lengths f_stiffs f_loadBeams f_loadSizes f_loadPlaces : Nat → Int32) (f_joints f_beams f_loads : Int32) (i0_held i0_couples i0_endJoints i0_lengths i0_stiffs i0_loadBeams i0_loadSizes i0_loadPlaces : Nat → Int32) (i0_joints i0_beams i0_loads : Int32) (i1_held i1_couples i1_endJoints i1_lengths i1_stiffs i1_loadBeams i1_loadSizes i1_loadPlaces : Nat → Int32) (i1_joints i1_beams i1_loads a1 : Int32) : Option (Int32 × (Nat → Int32) × (Nat → Int32) × (Nat → Int32) × (Nat → Int32) × (Nat → Int32) × (Nat → Int32) × (Nat → Int32) × (Nat → Int32) × (Nat → Int32) × Int32 × Int32 × Int32 × (Nat → Int32) × (Nat → Int32) × (Nat → Int32) × (Nat → Int32) × (Nat → Int32) × (Nat → Int32) × (Nat → Int32) × (Nat → Int32) × Int32 × Int32 × Int32) :=
  b1_ (FJm_isImage a1) fun r1 =>
  if r1 = 0 then
    some ((-1 : Int32), x_kept, i0_held, i0_couples, i0_endJoints, i0_lengths, i0_stiffs, i0_loadBeams, i0_loadSizes, i0_loadPlaces, i0_joints, i0_beams, i0_loads, i1_held, i1_couples, i1_endJoints, i1_lengths, i1_stiffs, i1_loadBeams, i1_loadSizes, i1_loadPlaces, i1_joints, i1_beams, i1_loads)
  else
    gd_ a1 2 <|
    lt_ (fun (v6 : Int32) =>
      gd_ a1 2 <|
      if a1 = 0 then
        b11_ (FFr_copy i0_held i0_couples i0_endJoints i0_lengths i0_stiffs i0_loadBeams i0_loadSizes i0_loadPlaces f_held f_couples f_endJoints f_lengths f_stiffs f_loadBeams f_loadSizes f_loadPlaces f_joints f_beams f_loads) fun w9 w10 w11 w12 w13 w14 w15 w16 w17 w18 w19 =>
        gd_ a1 2 <|
        lt_ (upd x_kept a1.toNatClampNeg (vp_nar .boolean (1 : Int32))) fun w23 =>
        some (v6, w23, w9, w10, w11, w12, w13, w14, w15, w16, w17, w18, w19, i1_held, i1_couples, i1_endJoints, i1_lengths, i1_stiffs, i1_loadBeams, i1_loadSizes, i1_loadPlaces, i1_joints, i1_beams, i1_loads)
      else
      if a1 = 1 then
        b11_ (FFr_copy i1_held i1_couples i1_endJoints i1_lengths i1_stiffs i1_loadBeams i1_loadSizes i1_loadPlaces f_held f_couples f_endJoints f_lengths f_stiffs f_loadBeams f_loadSizes f_loadPlaces f_joints f_beams f_loads) fun w25 w26 w27 w28 w29 w30 w31 w32 w33 w34 w35 =>
        gd_ a1 2 <|
        lt_ (upd x_kept a1.toNatClampNeg (vp_nar .boolean (1 : Int32))) fun w39 =>
        some (v6, w39, i0_held, i0_couples, i0_endJoints, i0_lengths, i0_stiffs, i0_loadBeams, i0_loadSizes, i0_loadPlaces, i0_joints, i0_beams, i0_loads, w25, w26, w27, w28, w29, w30, w31, w32, w33, w34, w35)
      else
      none : Int32 → Option (Int32 × (Nat → Int32) × (Nat → Int32) × (Nat → Int32) × (Nat → Int32) × (Nat → Int32) × (Nat → Int32) × (Nat → Int32) × (Nat → Int32) × (Nat → Int32) × Int32 × Int32 × Int32 × (Nat → Int32) × (Nat → Int32) × (Nat → Int32) × (Nat → Int32) × (Nat → Int32) × (Nat → Int32) × (Nat → Int32) × (Nat → Int32) × Int32 × Int32 × Int32)) fun j40 =>
    if (x_kept a1.toNatClampNeg) = 0 then
      j40 (0 : Int32)
    else
      j40 (1 : Int32)
set_option maxHeartbeats 4000000 in
set_option maxRecDepth 100000 in
theorem cJm_keep (l : Launch) (D : va_G) (κ : Nat → ClassId) (qx : Nat → Nat) (rx_tape rx_teller rx_balance rx_equations rx_sheets rx_draft : Nat) (x_kept : Nat → Int32) (x_textFault x_readFault : Int32) (qf : Nat → Nat) (f_held f_couples f_endJoints f_lengths f_stiffs f_loadBeams f_loadSizes f_loadPlaces : Nat → Int32) (f_joints f_beams f_loads : Int32) (qia qi0 : Nat → Nat) (i0_held i0_couples i0_endJoints i0_lengths i0_stiffs i0_loadBeams i0_loadSizes i0_loadPlaces : Nat → Int32) (i0_joints i0_beams i0_loads : Int32) (qi1 : Nat → Nat) (i1_held i1_couples i1_endJoints i1_lengths i1_stiffs i1_loadBeams i1_loadSizes i1_loadPlaces : Nat → Int32) (i1_joints i1_beams i1_loads a1 zr : Int32) (z1 z2 z3 z4 z5 z6 z7 z8 z9 : Nat → Int32) (z10 z11 z12 : Int32) (z13 z14 z15 z16 z17 z18 z19 z20 : Nat → Int32) (z21 z22 z23 : Int32) (hf : FJm_keep x_kept f_held f_couples f_endJoints f_lengths f_stiffs f_loadBeams f_loadSizes f_loadPlaces f_joints f_beams f_loads i0_held i0_couples i0_endJoints i0_lengths i0_stiffs i0_loadBeams i0_loadSizes i0_loadPlaces i0_joints i0_beams i0_loads i1_held i1_couples i1_endJoints i1_lengths i1_stiffs i1_loadBeams i1_loadSizes i1_loadPlaces i1_joints i1_beams i1_loads a1 = some (zr, z1, z2, z3, z4, z5, z6, z7, z8, z9, z10, z11, z12, z13, z14, z15, z16, z17, z18, z19, z20, z21, z22, z23)) : mI_ l yX6_keep (Cond.code yX6_keep cX6_keep 3 (some .int) :: uw) ({ frames := 2, cells := 0, slots := 0, locals := 82 } : Room) D (tys0 κ) [.ref (qx 0), .int a1] (List.flatten [pJm κ qx rx_tape rx_teller rx_balance rx_equations (qia 0) rx_sheets (qf 0) rx_draft x_kept x_textFault x_readFault, pFr κ qf f_held f_couples f_endJoints f_lengths f_stiffs f_loadBeams f_loadSizes f_loadPlaces f_joints f_beams f_loads, pOa (κ 4) 2 qia [qi0 0, qi1 0], pFr κ qi0 i0_held i0_couples i0_endJoints i0_lengths i0_stiffs i0_loadBeams i0_loadSizes i0_loadPlaces i0_joints i0_beams i0_loads, pFr κ qi1 i1_held i1_couples i1_endJoints i1_lengths i1_stiffs i1_loadBeams i1_loadSizes i1_loadPlaces i1_joints i1_beams i1_loads]) nT_ zr (List.flatten [pJm κ qx rx_tape rx_teller rx_balance rx_equations (qia 0) rx_sheets (qf 0) rx_draft z1 x_textFault x_readFault, pFr κ qf f_held f_couples f_endJoints f_lengths f_stiffs f_loadBeams f_loadSizes f_loadPlaces f_joints f_beams f_loads, pOa (κ 4) 2 qia [qi0 0, qi1 0], pFr κ qi0 z2 z3 z4 z5 z6 z7 z8 z9 z10 z11 z12, pFr κ qi1 z13 z14 z15 z16 z17 z18 z19 z20 z21 z22 z23]) := by
  unfold FJm_keep at hf
  refine mI_of (by decide) (Nat.le_of_ble_eq_true rfl) ?_
  intro p e s m below meth c A ls H locs C0 hw hl
  obtain ⟨hx, hb, -, hml, hown, hts, -, -⟩ := id C0
  have hl : lv_has ls 3 [(0, .ref (qx 0)), (1, .int a1)] := hl
  refine lv_iload_n hx hb dX6_keep_0 rfl (lv_at hl 1 rfl) ?_
  obtain ⟨r1, hk2, hf⟩ := b1_s hf
  refine rs_i (As := [.int a1]) (rest := []) (bs' := [pJm κ qx rx_tape rx_teller rx_balance rx_equations (qia 0) rx_sheets (qf 0) rx_draft x_kept x_textFault x_readFault, pFr κ qf f_held f_couples f_endJoints f_lengths f_stiffs f_loadBeams f_loadSizes f_loadPlaces f_joints f_beams f_loads, pOa (κ 4) 2 qia [qi0 0, qi1 0], pFr κ qi0 i0_held i0_couples i0_endJoints i0_lengths i0_stiffs i0_loadBeams i0_loadSizes i0_loadPlaces i0_joints i0_beams i0_loads, pFr κ qi1 i1_held i1_couples i1_endJoints i1_lengths i1_stiffs i1_loadBeams i1_loadSizes i1_loadPlaces i1_joints i1_beams i1_loads]) C0 hw (cJm_isImage l D κ a1 r1 hk2) cs_X6_225 ⟨rfl, rfl, Nat.le_of_ble_eq_true rfl, Nat.le_of_ble_eq_true rfl⟩ ⟨Nat.zero_le _, Nat.zero_le _⟩ [] [0, 1, 2, 3, 4] [0, 1, 2, 3, 4] rfl rfl rfl rfl (by decide) rfl rfl rfl hl.1 (by simp only [List.map, List.sum_cons, List.sum_nil, Value.category]; decide) dX6_keep_1 (fun H locs hw hn3 => ?_)
  refine lv_if_ne (tgt := 9) hx hb dX6_keep_4 (by decide) (fun hc4 => ?_) (fun hc4 => ?_)
  · have hf := if_f hc4 hf
    refine lv_aload_n hx hb dX6_keep_9 rfl (lv_at hl 0 rfl) ?_
    refine r_get C0 hw 0 5 (v := .ref (qx 1)) rfl rfl inX6 (by decide) lk_X6_49 rfl dX6_keep_10 ?_
    refine lv_iload_n hx hb dX6_keep_13 rfl (lv_at hl 1 rfl) ?_
    obtain ⟨hi5, hf⟩ := gd_s hf
    refine r_zald C0 hw 1 1 rfl rfl hi5 dX6_keep_14 ?_
    obtain ⟨j40, ej40, hf⟩ := lt_e hf
    have hj41 : ∀ (v6 : Int32) (H : Heap) (locs : List Loc) (ls : Array Slot), wd_ D (tys0 κ) A s (List.flatten [pJm κ qx rx_tape rx_teller rx_balance rx_equations (qia 0) rx_sheets (qf 0) rx_draft x_kept x_textFault x_readFault, pFr κ qf f_held f_couples f_endJoints f_lengths f_stiffs f_loadBeams f_loadSizes f_loadPlaces f_joints f_beams f_loads, pOa (κ 4) 2 qia [qi0 0, qi1 0], pFr κ qi0 i0_held i0_couples i0_endJoints i0_lengths i0_stiffs i0_loadBeams i0_loadSizes i0_loadPlaces i0_joints i0_beams i0_loads, pFr κ qi1 i1_held i1_couples i1_endJoints i1_lengths i1_stiffs i1_loadBeams i1_loadSizes i1_loadPlaces i1_joints i1_beams i1_loads]) H locs → lv_has ls 3 [(0, .ref (qx 0)), (1, .int a1)] → j40 v6 = some (zr, z1, z2, z3, z4, z5, z6, z7, z8, z9, z10, z11, z12, z13, z14, z15, z16, z17, z18, z19, z20, z21, z22, z23) → W p l e ({ frames := 2, cells := 0, slots := 0, locals := 82 } : Room) s m ([.ref (qx 0), .int a1] : List Value).toArray below meth c H locs 0 0 (qI_ D (tys0 κ) A nT_ zr (List.flatten [pJm κ qx rx_tape rx_teller rx_balance rx_equations (qia 0) rx_sheets (qf 0) rx_draft z1 x_textFault x_readFault, pFr κ qf f_held f_couples f_endJoints f_lengths f_stiffs f_loadBeams f_loadSizes f_loadPlaces f_joints f_beams f_loads, pOa (κ 4) 2 qia [qi0 0, qi1 0], pFr κ qi0 z2 z3 z4 z5 z6 z7 z8 z9 z10 z11 z12, pFr κ qi1 z13 z14 z15 z16 z17 z18 z19 z20 z21 z22 z23]) below ([.ref (qx 0), .int a1] : List Value).toArray s) (F0 m 23 ls [.int v6]) := by
      intro v6 H locs ls hw hl  hf
      have hf : (gd_ a1 2 <| if a1 = 0 then b11_ (FFr_copy i0_held i0_couples i0_endJoints i0_lengths i0_stiffs i0_loadBeams i0_loadSizes i0_loadPlaces f_held f_couples f_endJoints f_lengths f_stiffs f_loadBeams f_loadSizes f_loadPlaces f_joints f_beams f_loads) fun w9 w10 w11 w12 w13 w14 w15 w16 w17 w18 w19 => gd_ a1 2 <| lt_ (upd x_kept a1.toNatClampNeg (vp_nar .boolean (1 : Int32))) fun w23 => some (v6, w23, w9, w10, w11, w12, w13, w14, w15, w16, w17, w18, w19, i1_held, i1_couples, i1_endJoints, i1_lengths, i1_stiffs, i1_loadBeams, i1_loadSizes, i1_loadPlaces, i1_joints, i1_beams, i1_loads) else if a1 = 1 then b11_ (FFr_copy i1_held i1_couples i1_endJoints i1_lengths i1_stiffs i1_loadBeams i1_loadSizes i1_loadPlaces f_held f_couples f_endJoints f_lengths f_stiffs f_loadBeams f_loadSizes f_loadPlaces f_joints f_beams f_loads) fun w25 w26 w27 w28 w29 w30 w31 w32 w33 w34 w35 => gd_ a1 2 <| lt_ (upd x_kept a1.toNatClampNeg (vp_nar .boolean (1 : Int32))) fun w39 => some (v6, w39, i0_held, i0_couples, i0_endJoints, i0_lengths, i0_stiffs, i0_loadBeams, i0_loadSizes, i0_loadPlaces, i0_joints, i0_beams, i0_loads, w25, w26, w27, w28, w29, w30, w31, w32, w33, w34, w35) else none) = some (zr, z1, z2, z3, z4, z5, z6, z7, z8, z9, z10, z11, z12, z13, z14, z15, z16, z17, z18, z19, z20, z21, z22, z23) := by rw [ej40] at hf; exact hf
      refine lv_istore_n (lv' := [(2, .int v6), (0, .ref (qx 0)), (1, .int a1)]) hx hb dX6_keep_23 rfl hl (by decide) rfl (fun ls hl => ?_)
      refine lv_aload_n hx hb dX6_keep_24 rfl (lv_at hl 1 rfl) ?_
      refine r_get C0 hw 0 4 (v := .ref (qia 0)) rfl rfl inX6 (by decide) lk_X6_45 rfl dX6_keep_25 ?_
      refine lv_iload_n hx hb dX6_keep_28 rfl (lv_at hl 2 rfl) ?_
      obtain ⟨hi7, hf⟩ := gd_s hf
      by_cases hc8 : a1 = 0
      · have hf := if_t hc8 hf
        refine r_aldo C0 hw 11 4 (b := qi0 0) rfl rfl hi7 (by rw [hc8]; rfl) dX6_keep_29 ?_
        refine lv_aload_n hx hb dX6_keep_30 rfl (lv_at hl 1 rfl) ?_
        refine r_get C0 hw 0 7 (v := .ref (qf 0)) rfl rfl inX6 (by decide) lk_X6_38 rfl dX6_keep_31 ?_
        obtain ⟨w9, w10, w11, w12, w13, w14, w15, w16, w17, w18, w19, hk20, hf⟩ := b11_s hf
        refine rv_v (vq := (RX2, TX2, 11)) (As := [.ref (qf 0)]) (rest := []) (bs' := [pJm κ qx rx_tape rx_teller rx_balance rx_equations (qia 0) rx_sheets (qf 0) rx_draft x_kept x_textFault x_readFault, pFr κ qf f_held f_couples f_endJoints f_lengths f_stiffs f_loadBeams f_loadSizes f_loadPlaces f_joints f_beams f_loads, pOa (κ 4) 2 qia [qi0 0, qi1 0], pFr κ qi0 w9 w10 w11 w12 w13 w14 w15 w16 w17 w18 w19, pFr κ qi1 i1_held i1_couples i1_endJoints i1_lengths i1_stiffs i1_loadBeams i1_loadSizes i1_loadPlaces i1_joints i1_beams i1_loads]) C0 hw (cFr_copy l D κ qi0 i0_held i0_couples i0_endJoints i0_lengths i0_stiffs i0_loadBeams i0_loadSizes i0_loadPlaces i0_joints i0_beams i0_loads qf f_held f_couples f_endJoints f_lengths f_stiffs f_loadBeams f_loadSizes f_loadPlaces f_joints f_beams f_loads w9 w10 w11 w12 w13 w14 w15 w16 w17 w18 w19 hk20) cv_RX6_228 ⟨rfl, rfl, Nat.le_of_ble_eq_true rfl, Nat.le_of_ble_eq_true rfl⟩ ⟨Nat.zero_le _, Nat.zero_le _⟩ [3, 1] [0, 2, 4] [0, 4, 1, 3, 2] rfl rfl rfl rfl (by decide) rfl rfl rfl rfl rfl hl.1 (by simp only [List.map, List.sum_cons, List.sum_nil, Value.category]; decide) dX6_keep_34 (fun H locs hw => ?_)
        refine lv_aload_n hx hb dX6_keep_37 rfl (lv_at hl 1 rfl) ?_
        refine r_get C0 hw 0 5 (v := .ref (qx 1)) rfl rfl inX6 (by decide) lk_X6_49 rfl dX6_keep_38 ?_
        refine lv_iload_n hx hb dX6_keep_41 rfl (lv_at hl 2 rfl) ?_
        refine lv_iconst (v := 1) hx hb dX6_keep_42 (by decide) ?_
        obtain ⟨hi22, hf⟩ := gd_s hf
        obtain ⟨w23, ew23⟩ : ∃ z : Nat → Int32, z = (upd x_kept a1.toNatClampNeg (vp_nar .boolean (1 : Int32))) := ⟨_, rfl⟩
        have hf := lt_s_ hf w23 ew23
        refine r_zast C0 hw 1 1 rfl rfl hi22 dX6_keep_43 (ws' := List.flatten [pJm κ qx rx_tape rx_teller rx_balance rx_equations (qia 0) rx_sheets (qf 0) rx_draft w23 x_textFault x_readFault, pFr κ qf f_held f_couples f_endJoints f_lengths f_stiffs f_loadBeams f_loadSizes f_loadPlaces f_joints f_beams f_loads, pOa (κ 4) 2 qia [qi0 0, qi1 0], pFr κ qi0 w9 w10 w11 w12 w13 w14 w15 w16 w17 w18 w19, pFr κ qi1 i1_held i1_couples i1_endJoints i1_lengths i1_stiffs i1_loadBeams i1_loadSizes i1_loadPlaces i1_joints i1_beams i1_loads]) (by subst ew23; rfl) (fun H locs hw => ?_)
        refine lv_iload_n hx hb dX6_keep_44 rfl (lv_at hl 0 rfl) ?_
        obtain ⟨rfl, rfl, rfl, rfl, rfl, rfl, rfl, rfl, rfl, rfl, rfl, rfl, rfl, rfl, rfl, rfl, rfl, rfl, rfl, rfl, rfl, rfl, rfl, rfl⟩ := e24_ hf
        exact r_iret C0 hw trivial dX6_keep_45
      have hf := if_f hc8 hf
      by_cases hc24 : a1 = 1
      · have hf := if_t hc24 hf
        refine r_aldo C0 hw 11 4 (b := qi1 0) rfl rfl hi7 (by rw [hc24]; rfl) dX6_keep_29 ?_
        refine lv_aload_n hx hb dX6_keep_30 rfl (lv_at hl 1 rfl) ?_
        refine r_get C0 hw 0 7 (v := .ref (qf 0)) rfl rfl inX6 (by decide) lk_X6_38 rfl dX6_keep_31 ?_
        obtain ⟨w25, w26, w27, w28, w29, w30, w31, w32, w33, w34, w35, hk36, hf⟩ := b11_s hf
        refine rv_v (vq := (RX2, TX2, 11)) (As := [.ref (qf 0)]) (rest := []) (bs' := [pJm κ qx rx_tape rx_teller rx_balance rx_equations (qia 0) rx_sheets (qf 0) rx_draft x_kept x_textFault x_readFault, pFr κ qf f_held f_couples f_endJoints f_lengths f_stiffs f_loadBeams f_loadSizes f_loadPlaces f_joints f_beams f_loads, pOa (κ 4) 2 qia [qi0 0, qi1 0], pFr κ qi0 i0_held i0_couples i0_endJoints i0_lengths i0_stiffs i0_loadBeams i0_loadSizes i0_loadPlaces i0_joints i0_beams i0_loads, pFr κ qi1 w25 w26 w27 w28 w29 w30 w31 w32 w33 w34 w35]) C0 hw (cFr_copy l D κ qi1 i1_held i1_couples i1_endJoints i1_lengths i1_stiffs i1_loadBeams i1_loadSizes i1_loadPlaces i1_joints i1_beams i1_loads qf f_held f_couples f_endJoints f_lengths f_stiffs f_loadBeams f_loadSizes f_loadPlaces f_joints f_beams f_loads w25 w26 w27 w28 w29 w30 w31 w32 w33 w34 w35 hk36) cv_RX6_228 ⟨rfl, rfl, Nat.le_of_ble_eq_true rfl, Nat.le_of_ble_eq_true rfl⟩ ⟨Nat.zero_le _, Nat.zero_le _⟩ [4, 1] [0, 2, 3] [0, 4, 1, 2, 3] rfl rfl rfl rfl (by decide) rfl rfl rfl rfl rfl hl.1 (by simp only [List.map, List.sum_cons, List.sum_nil, Value.category]; decide) dX6_keep_34 (fun H locs hw => ?_)
        refine lv_aload_n hx hb dX6_keep_37 rfl (lv_at hl 1 rfl) ?_
        refine r_get C0 hw 0 5 (v := .ref (qx 1)) rfl rfl inX6 (by decide) lk_X6_49 rfl dX6_keep_38 ?_
        refine lv_iload_n hx hb dX6_keep_41 rfl (lv_at hl 2 rfl) ?_
        refine lv_iconst (v := 1) hx hb dX6_keep_42 (by decide) ?_
        obtain ⟨hi38, hf⟩ := gd_s hf
        obtain ⟨w39, ew39⟩ : ∃ z : Nat → Int32, z = (upd x_kept a1.toNatClampNeg (vp_nar .boolean (1 : Int32))) := ⟨_, rfl⟩
        have hf := lt_s_ hf w39 ew39
        refine r_zast C0 hw 1 1 rfl rfl hi38 dX6_keep_43 (ws' := List.flatten [pJm κ qx rx_tape rx_teller rx_balance rx_equations (qia 0) rx_sheets (qf 0) rx_draft w39 x_textFault x_readFault, pFr κ qf f_held f_couples f_endJoints f_lengths f_stiffs f_loadBeams f_loadSizes f_loadPlaces f_joints f_beams f_loads, pOa (κ 4) 2 qia [qi0 0, qi1 0], pFr κ qi0 i0_held i0_couples i0_endJoints i0_lengths i0_stiffs i0_loadBeams i0_loadSizes i0_loadPlaces i0_joints i0_beams i0_loads, pFr κ qi1 w25 w26 w27 w28 w29 w30 w31 w32 w33 w34 w35]) (by subst ew39; rfl) (fun H locs hw => ?_)
        refine lv_iload_n hx hb dX6_keep_44 rfl (lv_at hl 0 rfl) ?_
        obtain ⟨rfl, rfl, rfl, rfl, rfl, rfl, rfl, rfl, rfl, rfl, rfl, rfl, rfl, rfl, rfl, rfl, rfl, rfl, rfl, rfl, rfl, rfl, rfl, rfl⟩ := e24_ hf
        exact r_iret C0 hw trivial dX6_keep_45
      have hf := if_f hc24 hf
      cases hf
    refine lv_if_eq (tgt := 22) hx hb dX6_keep_15 (by decide) (fun hc42 => ?_) (fun hc42 => ?_)
    · have hf := if_t hc42 hf
      refine lv_iconst (v := 0) hx hb dX6_keep_22 (by decide) ?_
      exact hj41 (0 : Int32) H locs ls hw (lv_sub hl [0, 1] rfl)  hf
    · have hf := if_f hc42 hf
      refine lv_iconst (v := 1) hx hb dX6_keep_18 (by decide) ?_
      refine lv_goto (tgt := 23) hx hb dX6_keep_19 (by decide) ?_
      exact hj41 (1 : Int32) H locs ls hw (lv_sub hl [0, 1] rfl)  hf
  · have hf := if_t hc4 hf
    refine lv_iconst (v := -1) hx hb dX6_keep_7 (by decide) ?_
    obtain ⟨rfl, rfl, rfl, rfl, rfl, rfl, rfl, rfl, rfl, rfl, rfl, rfl, rfl, rfl, rfl, rfl, rfl, rfl, rfl, rfl, rfl, rfl, rfl, rfl⟩ := e24_ hf
    exact r_iret C0 hw trivial dX6_keep_8
def FJm_back (x_kept b_moments b_endStiffs b_outs b_endsAt b_stiffAt b_stepsAt : Nat → Int32) (b_steps b_latest : Int32) (f_held f_couples f_endJoints f_lengths f_stiffs f_loadBeams f_loadSizes f_loadPlaces : Nat → Int32) (f_joints f_beams f_loads : Int32) (i0_held i0_couples i0_endJoints i0_lengths i0_stiffs i0_loadBeams i0_loadSizes i0_loadPlaces : Nat → Int32) (i0_joints i0_beams i0_loads : Int32) (i1_held i1_couples i1_endJoints i1_lengths i1_stiffs i1_loadBeams i1_loadSizes i1_loadPlaces : Nat → Int32) (i1_joints i1_beams i1_loads a1 : Int32) : Option (Int32 × (Nat → Int32) × (Nat → Int32) × (Nat → Int32) × (Nat → Int32) × (Nat → Int32) × (Nat → Int32) × Int32 × Int32 × (Nat → Int32) × (Nat → Int32) × (Nat → Int32) × (Nat → Int32) × (Nat → Int32) × (Nat → Int32) × (Nat → Int32) × (Nat → Int32) × Int32 × Int32 × Int32) :=
  b1_ (FJm_isImage a1) fun r1 =>
  if r1 = 0 then
    some ((-1 : Int32), b_moments, b_endStiffs, b_outs, b_endsAt, b_stiffAt, b_stepsAt, b_steps, b_latest, f_held, f_couples, f_endJoints, f_lengths, f_stiffs, f_loadBeams, f_loadSizes, f_loadPlaces, f_joints, f_beams, f_loads)
  else
    gd_ a1 2 <|
    if (x_kept a1.toNatClampNeg) = 0 then
      some ((-2 : Int32), b_moments, b_endStiffs, b_outs, b_endsAt, b_stiffAt, b_stepsAt, b_steps, b_latest, f_held, f_couples, f_endJoints, f_lengths, f_stiffs, f_loadBeams, f_loadSizes, f_loadPlaces, f_joints, f_beams, f_loads)
    else
      gd_ a1 2 <|
      if a1 = 0 then
        b11_ (FFr_copy f_held f_couples f_endJoints f_lengths f_stiffs f_loadBeams f_loadSizes f_loadPlaces i0_held i0_couples i0_endJoints i0_lengths i0_stiffs i0_loadBeams i0_loadSizes i0_loadPlaces i0_joints i0_beams i0_loads) fun w9 w10 w11 w12 w13 w14 w15 w16 w17 w18 w19 =>
        b8_ (FBa_anew b_moments b_endStiffs b_outs b_endsAt b_stiffAt b_stepsAt w10 w11 w12 w13 w14 w15 w16 w18 w19) fun w22 w23 w24 w25 w26 w27 w28 w29 =>
        some (w17, w22, w23, w24, w25, w26, w27, w28, w29, w9, w10, w11, w12, w13, w14, w15, w16, w17, w18, w19)
      else
      if a1 = 1 then
        b11_ (FFr_copy f_held f_couples f_endJoints f_lengths f_stiffs f_loadBeams f_loadSizes f_loadPlaces i1_held i1_couples i1_endJoints i1_lengths i1_stiffs i1_loadBeams i1_loadSizes i1_loadPlaces i1_joints i1_beams i1_loads) fun w33 w34 w35 w36 w37 w38 w39 w40 w41 w42 w43 =>
        b8_ (FBa_anew b_moments b_endStiffs b_outs b_endsAt b_stiffAt b_stepsAt w34 w35 w36 w37 w38 w39 w40 w42 w43) fun w46 w47 w48 w49 w50 w51 w52 w53 =>
        some (w41, w46, w47, w48, w49, w50, w51, w52, w53, w33, w34, w35, w36, w37, w38, w39, w40, w41, w42, w43)
      else
      none
set_option maxHeartbeats 4000000 in
set_option maxRecDepth 100000 in
theorem cJm_back (l : Launch) (D : va_G) (κ : Nat → ClassId) (qx : Nat → Nat) (rx_tape rx_teller rx_equations rx_sheets rx_draft : Nat) (x_kept : Nat → Int32) (x_textFault x_readFault : Int32) (qb : Nat → Nat) (b_moments b_gains b_topped b_endStiffs b_outs b_endsAt b_stiffAt b_stepsAt : Nat → Int32) (b_steps b_latest : Int32) (qf : Nat → Nat) (f_held f_couples f_endJoints f_lengths f_stiffs f_loadBeams f_loadSizes f_loadPlaces : Nat → Int32) (f_joints f_beams f_loads : Int32) (qia qi0 : Nat → Nat) (i0_held i0_couples i0_endJoints i0_lengths i0_stiffs i0_loadBeams i0_loadSizes i0_loadPlaces : Nat → Int32) (i0_joints i0_beams i0_loads : Int32) (qi1 : Nat → Nat) (i1_held i1_couples i1_endJoints i1_lengths i1_stiffs i1_loadBeams i1_loadSizes i1_loadPlaces : Nat → Int32) (i1_joints i1_beams i1_loads a1 zr : Int32) (z1 z2 z3 z4 z5 z6 : Nat → Int32) (z7 z8 : Int32) (z9 z10 z11 z12 z13 z14 z15 z16 : Nat → Int32) (z17 z18 z19 : Int32) (hf : FJm_back x_kept b_moments b_endStiffs b_outs b_endsAt b_stiffAt b_stepsAt b_steps b_latest f_held f_couples f_endJoints f_lengths f_stiffs f_loadBeams f_loadSizes f_loadPlaces f_joints f_beams f_loads i0_held i0_couples i0_endJoints i0_lengths i0_stiffs i0_loadBeams i0_loadSizes i0_loadPlaces i0_joints i0_beams i0_loads i1_held i1_couples i1_endJoints i1_lengths i1_stiffs i1_loadBeams i1_loadSizes i1_loadPlaces i1_joints i1_beams i1_loads a1 = some (zr, z1, z2, z3, z4, z5, z6, z7, z8, z9, z10, z11, z12, z13, z14, z15, z16, z17, z18, z19)) : mI_ l yX6_back (Cond.code yX6_back cX6_back 2 (some .int) :: uw) ({ frames := 3, cells := 0, slots := 0, locals := 82 } : Room) D (tys0 κ) [.ref (qx 0), .int a1] (List.flatten [pJm κ qx rx_tape rx_teller (qb 0) rx_equations (qia 0) rx_sheets (qf 0) rx_draft x_kept x_textFault x_readFault, pBa κ qb b_moments b_gains b_topped b_endStiffs b_outs b_endsAt b_stiffAt b_stepsAt b_steps b_latest, pFr κ qf f_held f_couples f_endJoints f_lengths f_stiffs f_loadBeams f_loadSizes f_loadPlaces f_joints f_beams f_loads, pOa (κ 4) 2 qia [qi0 0, qi1 0], pFr κ qi0 i0_held i0_couples i0_endJoints i0_lengths i0_stiffs i0_loadBeams i0_loadSizes i0_loadPlaces i0_joints i0_beams i0_loads, pFr κ qi1 i1_held i1_couples i1_endJoints i1_lengths i1_stiffs i1_loadBeams i1_loadSizes i1_loadPlaces i1_joints i1_beams i1_loads]) nT_ zr (List.flatten [pJm κ qx rx_tape rx_teller (qb 0) rx_equations (qia 0) rx_sheets (qf 0) rx_draft x_kept x_textFault x_readFault, pBa κ qb z1 b_gains b_topped z2 z3 z4 z5 z6 z7 z8, pFr κ qf z9 z10 z11 z12 z13 z14 z15 z16 z17 z18 z19, pOa (κ 4) 2 qia [qi0 0, qi1 0], pFr κ qi0 i0_held i0_couples i0_endJoints i0_lengths i0_stiffs i0_loadBeams i0_loadSizes i0_loadPlaces i0_joints i0_beams i0_loads, pFr κ qi1 i1_held i1_couples i1_endJoints i1_lengths i1_stiffs i1_loadBeams i1_loadSizes i1_loadPlaces i1_joints i1_beams i1_loads]) := by
  unfold FJm_back at hf
  refine mI_of (by decide) (Nat.le_of_ble_eq_true rfl) ?_
  intro p e s m below meth c A ls H locs C0 hw hl
  obtain ⟨hx, hb, -, hml, hown, hts, -, -⟩ := id C0
  have hl : lv_has ls 2 [(0, .ref (qx 0)), (1, .int a1)] := hl
  refine lv_iload_n hx hb dX6_back_0 rfl (lv_at hl 1 rfl) ?_
  obtain ⟨r1, hk2, hf⟩ := b1_s hf
  refine rs_i (As := [.int a1]) (rest := []) (bs' := [pJm κ qx rx_tape rx_teller (qb 0) rx_equations (qia 0) rx_sheets (qf 0) rx_draft x_kept x_textFault x_readFault, pBa κ qb b_moments b_gains b_topped b_endStiffs b_outs b_endsAt b_stiffAt b_stepsAt b_steps b_latest, pFr κ qf f_held f_couples f_endJoints f_lengths f_stiffs f_loadBeams f_loadSizes f_loadPlaces f_joints f_beams f_loads, pOa (κ 4) 2 qia [qi0 0, qi1 0], pFr κ qi0 i0_held i0_couples i0_endJoints i0_lengths i0_stiffs i0_loadBeams i0_loadSizes i0_loadPlaces i0_joints i0_beams i0_loads, pFr κ qi1 i1_held i1_couples i1_endJoints i1_lengths i1_stiffs i1_loadBeams i1_loadSizes i1_loadPlaces i1_joints i1_beams i1_loads]) C0 hw (cJm_isImage l D κ a1 r1 hk2) cs_X6_225 ⟨rfl, rfl, Nat.le_of_ble_eq_true rfl, Nat.le_of_ble_eq_true rfl⟩ ⟨Nat.zero_le _, Nat.zero_le _⟩ [] [0, 1, 2, 3, 4, 5] [0, 1, 2, 3, 4, 5] rfl rfl rfl rfl (by decide) rfl rfl rfl hl.1 (by simp only [List.map, List.sum_cons, List.sum_nil, Value.category]; decide) dX6_back_1 (fun H locs hw hn3 => ?_)
  refine lv_if_ne (tgt := 9) hx hb dX6_back_4 (by decide) (fun hc4 => ?_) (fun hc4 => ?_)
  · have hf := if_f hc4 hf
    refine lv_aload_n hx hb dX6_back_9 rfl (lv_at hl 0 rfl) ?_
    refine r_get C0 hw 0 5 (v := .ref (qx 1)) rfl rfl inX6 (by decide) lk_X6_49 rfl dX6_back_10 ?_
    refine lv_iload_n hx hb dX6_back_13 rfl (lv_at hl 1 rfl) ?_
    obtain ⟨hi5, hf⟩ := gd_s hf
    refine r_zald C0 hw 1 1 rfl rfl hi5 dX6_back_14 ?_
    refine lv_if_ne (tgt := 21) hx hb dX6_back_15 (by decide) (fun hc6 => ?_) (fun hc6 => ?_)
    · have hf := if_f hc6 hf
      refine lv_aload_n hx hb dX6_back_21 rfl (lv_at hl 0 rfl) ?_
      refine r_get C0 hw 0 7 (v := .ref (qf 0)) rfl rfl inX6 (by decide) lk_X6_38 rfl dX6_back_22 ?_
      refine lv_aload_n hx hb dX6_back_25 rfl (lv_at hl 0 rfl) ?_
      refine r_get C0 hw 0 4 (v := .ref (qia 0)) rfl rfl inX6 (by decide) lk_X6_45 rfl dX6_back_26 ?_
      refine lv_iload_n hx hb dX6_back_29 rfl (lv_at hl 1 rfl) ?_
      obtain ⟨hi7, hf⟩ := gd_s hf
      by_cases hc8 : a1 = 0
      · have hf := if_t hc8 hf
        refine r_aldo C0 hw 20 4 (b := qi0 0) rfl rfl hi7 (by rw [hc8]; rfl) dX6_back_30 ?_
        obtain ⟨w9, w10, w11, w12, w13, w14, w15, w16, w17, w18, w19, hk20, hf⟩ := b11_s hf
        refine rv_v (vq := (RX2, TX2, 11)) (As := [.ref (qi0 0)]) (rest := []) (bs' := [pJm κ qx rx_tape rx_teller (qb 0) rx_equations (qia 0) rx_sheets (qf 0) rx_draft x_kept x_textFault x_readFault, pBa κ qb b_moments b_gains b_topped b_endStiffs b_outs b_endsAt b_stiffAt b_stepsAt b_steps b_latest, pFr κ qf w9 w10 w11 w12 w13 w14 w15 w16 w17 w18 w19, pOa (κ 4) 2 qia [qi0 0, qi1 0], pFr κ qi0 i0_held i0_couples i0_endJoints i0_lengths i0_stiffs i0_loadBeams i0_loadSizes i0_loadPlaces i0_joints i0_beams i0_loads, pFr κ qi1 i1_held i1_couples i1_endJoints i1_lengths i1_stiffs i1_loadBeams i1_loadSizes i1_loadPlaces i1_joints i1_beams i1_loads]) C0 hw (cFr_copy l D κ qf f_held f_couples f_endJoints f_lengths f_stiffs f_loadBeams f_loadSizes f_loadPlaces f_joints f_beams f_loads qi0 i0_held i0_couples i0_endJoints i0_lengths i0_stiffs i0_loadBeams i0_loadSizes i0_loadPlaces i0_joints i0_beams i0_loads w9 w10 w11 w12 w13 w14 w15 w16 w17 w18 w19 hk20) cv_RX6_228 ⟨rfl, rfl, Nat.le_of_ble_eq_true rfl, Nat.le_of_ble_eq_true rfl⟩ ⟨Nat.zero_le _, Nat.zero_le _⟩ [2, 4] [0, 1, 3, 5] [0, 1, 4, 2, 5, 3] rfl rfl rfl rfl (by decide) rfl rfl rfl rfl rfl hl.1 (by simp only [List.map, List.sum_cons, List.sum_nil, Value.category]; decide) dX6_back_31 (fun H locs hw => ?_)
        refine lv_aload_n hx hb dX6_back_34 rfl (lv_at hl 0 rfl) ?_
        refine r_get C0 hw 0 2 (v := .ref (qb 0)) rfl rfl inX6 (by decide) lk_X6_24 rfl dX6_back_35 ?_
        refine lv_aload_n hx hb dX6_back_38 rfl (lv_at hl 0 rfl) ?_
        refine r_get C0 hw 0 7 (v := .ref (qf 0)) rfl rfl inX6 (by decide) lk_X6_38 rfl dX6_back_39 ?_
        obtain ⟨w22, w23, w24, w25, w26, w27, w28, w29, hk30, hf⟩ := b8_s hf
        refine rv_v (vq := (RX0, TX0, 10)) (As := [.ref (qf 0)]) (rest := []) (bs' := [pJm κ qx rx_tape rx_teller (qb 0) rx_equations (qia 0) rx_sheets (qf 0) rx_draft x_kept x_textFault x_readFault, pBa κ qb w22 b_gains b_topped w23 w24 w25 w26 w27 w28 w29, pFr κ qf w9 w10 w11 w12 w13 w14 w15 w16 w17 w18 w19, pOa (κ 4) 2 qia [qi0 0, qi1 0], pFr κ qi0 i0_held i0_couples i0_endJoints i0_lengths i0_stiffs i0_loadBeams i0_loadSizes i0_loadPlaces i0_joints i0_beams i0_loads, pFr κ qi1 i1_held i1_couples i1_endJoints i1_lengths i1_stiffs i1_loadBeams i1_loadSizes i1_loadPlaces i1_joints i1_beams i1_loads]) C0 hw (cBa_anew l D κ qb b_moments b_gains b_topped b_endStiffs b_outs b_endsAt b_stiffAt b_stepsAt b_steps b_latest qf w9 w10 w11 w12 w13 w14 w15 w16 w17 w18 w19 w22 w23 w24 w25 w26 w27 w28 w29 hk30) cv_RX6_83 ⟨rfl, rfl, Nat.le_of_ble_eq_true rfl, Nat.le_of_ble_eq_true rfl⟩ ⟨Nat.zero_le _, Nat.zero_le _⟩ [1, 2] [0, 3, 4, 5] [0, 4, 5, 1, 2, 3] rfl rfl rfl rfl (by decide) rfl rfl rfl rfl rfl hl.1 (by simp only [List.map, List.sum_cons, List.sum_nil, Value.category]; decide) dX6_back_42 (fun H locs hw => ?_)
        refine lv_aload_n hx hb dX6_back_45 rfl (lv_at hl 0 rfl) ?_
        refine r_get C0 hw 0 7 (v := .ref (qf 0)) rfl rfl inX6 (by decide) lk_X6_38 rfl dX6_back_46 ?_
        refine r_get C0 hw 11 8 (v := .int w17) rfl rfl inX2 (by decide) lk_X6_90 rfl dX6_back_49 ?_
        obtain ⟨rfl, rfl, rfl, rfl, rfl, rfl, rfl, rfl, rfl, rfl, rfl, rfl, rfl, rfl, rfl, rfl, rfl, rfl, rfl, rfl⟩ := e20_ hf
        exact r_iret C0 hw trivial dX6_back_52
      have hf := if_f hc8 hf
      by_cases hc32 : a1 = 1
      · have hf := if_t hc32 hf
        refine r_aldo C0 hw 20 4 (b := qi1 0) rfl rfl hi7 (by rw [hc32]; rfl) dX6_back_30 ?_
        obtain ⟨w33, w34, w35, w36, w37, w38, w39, w40, w41, w42, w43, hk44, hf⟩ := b11_s hf
        refine rv_v (vq := (RX2, TX2, 11)) (As := [.ref (qi1 0)]) (rest := []) (bs' := [pJm κ qx rx_tape rx_teller (qb 0) rx_equations (qia 0) rx_sheets (qf 0) rx_draft x_kept x_textFault x_readFault, pBa κ qb b_moments b_gains b_topped b_endStiffs b_outs b_endsAt b_stiffAt b_stepsAt b_steps b_latest, pFr κ qf w33 w34 w35 w36 w37 w38 w39 w40 w41 w42 w43, pOa (κ 4) 2 qia [qi0 0, qi1 0], pFr κ qi0 i0_held i0_couples i0_endJoints i0_lengths i0_stiffs i0_loadBeams i0_loadSizes i0_loadPlaces i0_joints i0_beams i0_loads, pFr κ qi1 i1_held i1_couples i1_endJoints i1_lengths i1_stiffs i1_loadBeams i1_loadSizes i1_loadPlaces i1_joints i1_beams i1_loads]) C0 hw (cFr_copy l D κ qf f_held f_couples f_endJoints f_lengths f_stiffs f_loadBeams f_loadSizes f_loadPlaces f_joints f_beams f_loads qi1 i1_held i1_couples i1_endJoints i1_lengths i1_stiffs i1_loadBeams i1_loadSizes i1_loadPlaces i1_joints i1_beams i1_loads w33 w34 w35 w36 w37 w38 w39 w40 w41 w42 w43 hk44) cv_RX6_228 ⟨rfl, rfl, Nat.le_of_ble_eq_true rfl, Nat.le_of_ble_eq_true rfl⟩ ⟨Nat.zero_le _, Nat.zero_le _⟩ [2, 5] [0, 1, 3, 4] [0, 1, 4, 2, 3, 5] rfl rfl rfl rfl (by decide) rfl rfl rfl rfl rfl hl.1 (by simp only [List.map, List.sum_cons, List.sum_nil, Value.category]; decide) dX6_back_31 (fun H locs hw => ?_)
        refine lv_aload_n hx hb dX6_back_34 rfl (lv_at hl 0 rfl) ?_
        refine r_get C0 hw 0 2 (v := .ref (qb 0)) rfl rfl inX6 (by decide) lk_X6_24 rfl dX6_back_35 ?_
        refine lv_aload_n hx hb dX6_back_38 rfl (lv_at hl 0 rfl) ?_
        refine r_get C0 hw 0 7 (v := .ref (qf 0)) rfl rfl inX6 (by decide) lk_X6_38 rfl dX6_back_39 ?_
        obtain ⟨w46, w47, w48, w49, w50, w51, w52, w53, hk54, hf⟩ := b8_s hf
        refine rv_v (vq := (RX0, TX0, 10)) (As := [.ref (qf 0)]) (rest := []) (bs' := [pJm κ qx rx_tape rx_teller (qb 0) rx_equations (qia 0) rx_sheets (qf 0) rx_draft x_kept x_textFault x_readFault, pBa κ qb w46 b_gains b_topped w47 w48 w49 w50 w51 w52 w53, pFr κ qf w33 w34 w35 w36 w37 w38 w39 w40 w41 w42 w43, pOa (κ 4) 2 qia [qi0 0, qi1 0], pFr κ qi0 i0_held i0_couples i0_endJoints i0_lengths i0_stiffs i0_loadBeams i0_loadSizes i0_loadPlaces i0_joints i0_beams i0_loads, pFr κ qi1 i1_held i1_couples i1_endJoints i1_lengths i1_stiffs i1_loadBeams i1_loadSizes i1_loadPlaces i1_joints i1_beams i1_loads]) C0 hw (cBa_anew l D κ qb b_moments b_gains b_topped b_endStiffs b_outs b_endsAt b_stiffAt b_stepsAt b_steps b_latest qf w33 w34 w35 w36 w37 w38 w39 w40 w41 w42 w43 w46 w47 w48 w49 w50 w51 w52 w53 hk54) cv_RX6_83 ⟨rfl, rfl, Nat.le_of_ble_eq_true rfl, Nat.le_of_ble_eq_true rfl⟩ ⟨Nat.zero_le _, Nat.zero_le _⟩ [1, 2] [0, 3, 4, 5] [0, 4, 5, 1, 2, 3] rfl rfl rfl rfl (by decide) rfl rfl rfl rfl rfl hl.1 (by simp only [List.map, List.sum_cons, List.sum_nil, Value.category]; decide) dX6_back_42 (fun H locs hw => ?_)
        refine lv_aload_n hx hb dX6_back_45 rfl (lv_at hl 0 rfl) ?_
        refine r_get C0 hw 0 7 (v := .ref (qf 0)) rfl rfl inX6 (by decide) lk_X6_38 rfl dX6_back_46 ?_
        refine r_get C0 hw 11 8 (v := .int w41) rfl rfl inX2 (by decide) lk_X6_90 rfl dX6_back_49 ?_
        obtain ⟨rfl, rfl, rfl, rfl, rfl, rfl, rfl, rfl, rfl, rfl, rfl, rfl, rfl, rfl, rfl, rfl, rfl, rfl, rfl, rfl⟩ := e20_ hf
        exact r_iret C0 hw trivial dX6_back_52
      have hf := if_f hc32 hf
      cases hf
    · have hf := if_t hc6 hf
      refine lv_bipush (v := -2) hx hb dX6_back_18 (by decide) ?_
      obtain ⟨rfl, rfl, rfl, rfl, rfl, rfl, rfl, rfl, rfl, rfl, rfl, rfl, rfl, rfl, rfl, rfl, rfl, rfl, rfl, rfl⟩ := e20_ hf
      exact r_iret C0 hw trivial dX6_back_20
  · have hf := if_t hc4 hf
    refine lv_iconst (v := -1) hx hb dX6_back_7 (by decide) ?_
    obtain ⟨rfl, rfl, rfl, rfl, rfl, rfl, rfl, rfl, rfl, rfl, rfl, rfl, rfl, rfl, rfl, rfl, rfl, rfl, rfl, rfl⟩ := e20_ hf
    exact r_iret C0 hw trivial dX6_back_8
def FJm_takeCouples_L3 (h_cells : Nat → Int32) (l2 l3 : Int32) (k_ : Int32 → (Nat → Int32) → Option ((Nat → Int32) × (Nat → Int32) × (Nat → Int32) × (Nat → Int32) × (Nat → Int32) × (Nat → Int32) × Int32 × Int32 × (Nat → Int32))) : Nat → Int32 → (Nat → Int32) → Option ((Nat → Int32) × (Nat → Int32) × (Nat → Int32) × (Nat → Int32) × (Nat → Int32) × (Nat → Int32) × Int32 × Int32 × (Nat → Int32))
  | 0, _, _ => none
  | n + 1, l4, f_couples =>
      if l3 ≤ l4 then
        k_ l4 f_couples
      else
        gd_ (l2 + ((2 : Int32) * l4)) 40 <|
        gd_ ((l2 + ((2 : Int32) * l4)) + (1 : Int32)) 40 <|
        gd_ (h_cells (l2 + ((2 : Int32) * l4)).toNatClampNeg) 6 <|
        lt_ (upd f_couples (h_cells (l2 + ((2 : Int32) * l4)).toNatClampNeg).toNatClampNeg (h_cells ((l2 + ((2 : Int32) * l4)) + (1 : Int32)).toNatClampNeg)) fun w5 =>
        lt_ (l4 + (1 : Int32)) fun v6 =>
        FJm_takeCouples_L3 h_cells l2 l3 k_ n v6 w5
def FJm_takeCouples (b_moments b_endStiffs b_outs b_endsAt b_stiffAt b_stepsAt : Nat → Int32) (b_steps b_latest : Int32) (f_couples f_endJoints f_lengths f_stiffs f_loadBeams f_loadSizes f_loadPlaces : Nat → Int32) (f_beams f_loads : Int32) (h_cells : Nat → Int32) (a2 a3 : Int32) : Option ((Nat → Int32) × (Nat → Int32) × (Nat → Int32) × (Nat → Int32) × (Nat → Int32) × (Nat → Int32) × Int32 × Int32 × (Nat → Int32)) :=
  FJm_takeCouples_L3 h_cells a2 a3 (fun (v7 : Int32) (w8 : Nat → Int32) =>
      if a3 ≤ 0 then
        some (b_moments, b_endStiffs, b_outs, b_endsAt, b_stiffAt, b_stepsAt, b_steps, b_latest, w8)
      else
        b8_ (FBa_anew b_moments b_endStiffs b_outs b_endsAt b_stiffAt b_stepsAt w8 f_endJoints f_lengths f_stiffs f_loadBeams f_loadSizes f_loadPlaces f_beams f_loads) fun w10 w11 w12 w13 w14 w15 w16 w17 =>
        some (w10, w11, w12, w13, w14, w15, w16, w17, w8)) 1000 (0 : Int32) f_couples
set_option maxHeartbeats 4000000 in
set_option maxRecDepth 100000 in
theorem wJm_takeCouples_L3 {p : Program} {l : Launch} {e : Env} {s : State} {m : MethodId} {args : Array Value} {below : List Frame} {meth : Method} {c : Code} {A : Nat → Prop} {D : va_G} {κ : Nat → ClassId} (C0 : cx_ p s m meth c args cX6_takeCouples RX6 none 5 A) (qx : Nat → Nat) (rx_tape rx_teller rx_equations rx_images rx_sheets rx_draft : Nat) (x_kept : Nat → Int32) (x_textFault x_readFault : Int32) (qb : Nat → Nat) (b_moments b_gains b_topped b_endStiffs b_outs b_endsAt b_stiffAt b_stepsAt : Nat → Int32) (b_steps b_latest : Int32) (qf : Nat → Nat) (f_held f_endJoints f_lengths f_stiffs f_loadBeams f_loadSizes f_loadPlaces : Nat → Int32) (f_joints f_beams f_loads : Int32) (qh : Nat → Nat) (h_cells : Nat → Int32) (h_lane h_size l2 l3 : Int32) (z1 z2 z3 z4 z5 z6 : Nat → Int32) (z7 z8 : Int32) (z9 : Nat → Int32) (k_ : Int32 → (Nat → Int32) → Option ((Nat → Int32) × (Nat → Int32) × (Nat → Int32) × (Nat → Int32) × (Nat → Int32) × (Nat → Int32) × Int32 × Int32 × (Nat → Int32))) (hk_ : ∀ (l4 : Int32) (f_couples : Nat → Int32) (H : Heap) (locs : List Loc) (ls : Array Slot), wd_ D (tys0 κ) A s (List.flatten [pJm κ qx rx_tape rx_teller (qb 0) rx_equations rx_images rx_sheets (qf 0) rx_draft x_kept x_textFault x_readFault, pBa κ qb b_moments b_gains b_topped b_endStiffs b_outs b_endsAt b_stiffAt b_stepsAt b_steps b_latest, pFr κ qf f_held f_couples f_endJoints f_lengths f_stiffs f_loadBeams f_loadSizes f_loadPlaces f_joints f_beams f_loads, pSh κ qh h_cells h_lane h_size]) H locs → lv_has ls 5 [(0, .ref (qx 0)), (3, .int l3)] → k_ l4 f_couples = some (z1, z2, z3, z4, z5, z6, z7, z8, z9) → W p l e ({ frames := 3, cells := 0, slots := 0, locals := 72 } : Room) s m args below meth c H locs 0 0 (qV_ D (tys0 κ) A (List.flatten [pJm κ qx rx_tape rx_teller (qb 0) rx_equations rx_images rx_sheets (qf 0) rx_draft x_kept x_textFault x_readFault, pBa κ qb z1 b_gains b_topped z2 z3 z4 z5 z6 z7 z8, pFr κ qf f_held z9 f_endJoints f_lengths f_stiffs f_loadBeams f_loadSizes f_loadPlaces f_joints f_beams f_loads, pSh κ qh h_cells h_lane h_size]) below args s) (F0 m 47 ls [])) : ∀ (n : Nat) (l4 : Int32) (f_couples : Nat → Int32) (H : Heap) (locs : List Loc) (ls : Array Slot), wd_ D (tys0 κ) A s (List.flatten [pJm κ qx rx_tape rx_teller (qb 0) rx_equations rx_images rx_sheets (qf 0) rx_draft x_kept x_textFault x_readFault, pBa κ qb b_moments b_gains b_topped b_endStiffs b_outs b_endsAt b_stiffAt b_stepsAt b_steps b_latest, pFr κ qf f_held f_couples f_endJoints f_lengths f_stiffs f_loadBeams f_loadSizes f_loadPlaces f_joints f_beams f_loads, pSh κ qh h_cells h_lane h_size]) H locs → lv_has ls 5 [(0, .ref (qx 0)), (1, .ref (qh 0)), (2, .int l2), (3, .int l3), (4, .int l4)] → FJm_takeCouples_L3 h_cells l2 l3 k_ n l4 f_couples = some (z1, z2, z3, z4, z5, z6, z7, z8, z9) → W p l e ({ frames := 3, cells := 0, slots := 0, locals := 72 } : Room) s m args below meth c H locs 0 0 (qV_ D (tys0 κ) A (List.flatten [pJm κ qx rx_tape rx_teller (qb 0) rx_equations rx_images rx_sheets (qf 0) rx_draft x_kept x_textFault x_readFault, pBa κ qb z1 b_gains b_topped z2 z3 z4 z5 z6 z7 z8, pFr κ qf f_held z9 f_endJoints f_lengths f_stiffs f_loadBeams f_loadSizes f_loadPlaces f_joints f_beams f_loads, pSh κ qh h_cells h_lane h_size]) below args s) (F0 m 3 ls []) := by
  obtain ⟨hx, hb, -, hml, hown, hts, -, -⟩ := id C0
  intro n
  induction n with
  | zero =>
    intro l4 f_couples H locs ls hw hl  hf
    cases hf
  | succ n ih =>
    intro l4 f_couples H locs ls hw hl  hf
    rw [FJm_takeCouples_L3.eq_2] at hf
    refine lv_iload hx hb dX6_takeCouples_3 (lv_at hl 4 rfl) ?_
    refine lv_iload_n hx hb dX6_takeCouples_5 rfl (lv_at hl 3 rfl) ?_
    refine lv_icmp_ge (tgt := 47) hx hb dX6_takeCouples_6 (by decide) (fun hc1 => ?_) (fun hc1 => ?_)
    · have hf := if_t hc1 hf
      exact hk_ l4 f_couples H locs ls hw (lv_sub hl [0, 3] rfl)  hf
    · have hf := if_f hc1 hf
      refine lv_aload_n hx hb dX6_takeCouples_9 rfl (lv_at hl 0 rfl) ?_
      refine r_get C0 hw 0 7 (v := .ref (qf 0)) rfl rfl inX6 (by decide) lk_X6_38 rfl dX6_takeCouples_10 ?_
      refine r_get C0 hw 11 1 (v := .ref (qf 2)) rfl rfl inX2 (by decide) lk_X6_138 rfl dX6_takeCouples_13 ?_
      refine lv_aload_n hx hb dX6_takeCouples_16 rfl (lv_at hl 1 rfl) ?_
      refine r_get C0 hw 20 0 (v := .ref (qh 1)) rfl rfl inX3 (by decide) lk_X6_254 rfl dX6_takeCouples_17 ?_
      refine lv_iload_n hx hb dX6_takeCouples_20 rfl (lv_at hl 2 rfl) ?_
      refine lv_iconst (v := 2) hx hb dX6_takeCouples_21 (by decide) ?_
      refine lv_iload hx hb dX6_takeCouples_22 (lv_at hl 4 rfl) ?_
      refine lv_imul hx hb dX6_takeCouples_24 ?_
      refine lv_iadd hx hb dX6_takeCouples_25 ?_
      obtain ⟨hi2, hf⟩ := gd_s hf
      refine r_iald C0 hw 21 0 rfl rfl hi2 dX6_takeCouples_26 ?_
      refine lv_aload_n hx hb dX6_takeCouples_27 rfl (lv_at hl 1 rfl) ?_
      refine r_get C0 hw 20 0 (v := .ref (qh 1)) rfl rfl inX3 (by decide) lk_X6_254 rfl dX6_takeCouples_28 ?_
      refine lv_iload_n hx hb dX6_takeCouples_31 rfl (lv_at hl 2 rfl) ?_
      refine lv_iconst (v := 2) hx hb dX6_takeCouples_32 (by decide) ?_
      refine lv_iload hx hb dX6_takeCouples_33 (lv_at hl 4 rfl) ?_
      refine lv_imul hx hb dX6_takeCouples_35 ?_
      refine lv_iadd hx hb dX6_takeCouples_36 ?_
      refine lv_iconst (v := 1) hx hb dX6_takeCouples_37 (by decide) ?_
      refine lv_iadd hx hb dX6_takeCouples_38 ?_
      obtain ⟨hi3, hf⟩ := gd_s hf
      refine r_iald C0 hw 21 0 rfl rfl hi3 dX6_takeCouples_39 ?_
      obtain ⟨hi4, hf⟩ := gd_s hf
      obtain ⟨w5, ew5⟩ : ∃ z : Nat → Int32, z = (upd f_couples (h_cells (l2 + ((2 : Int32) * l4)).toNatClampNeg).toNatClampNeg (h_cells ((l2 + ((2 : Int32) * l4)) + (1 : Int32)).toNatClampNeg)) := ⟨_, rfl⟩
      have hf := lt_s_ hf w5 ew5
      refine r_iast C0 hw 13 0 rfl rfl hi4 dX6_takeCouples_40 (ws' := List.flatten [pJm κ qx rx_tape rx_teller (qb 0) rx_equations rx_images rx_sheets (qf 0) rx_draft x_kept x_textFault x_readFault, pBa κ qb b_moments b_gains b_topped b_endStiffs b_outs b_endsAt b_stiffAt b_stepsAt b_steps b_latest, pFr κ qf f_held w5 f_endJoints f_lengths f_stiffs f_loadBeams f_loadSizes f_loadPlaces f_joints f_beams f_loads, pSh κ qh h_cells h_lane h_size]) (by subst ew5; rfl) (fun H locs hw => ?_)
      obtain ⟨v6, ev6⟩ : ∃ z : Int32, z = (l4 + (1 : Int32)) := ⟨_, rfl⟩
      have hf := lt_s_ hf v6 ev6
      refine lv_iinc (v := v6) (lv' := [(4, .int v6), (0, .ref (qx 0)), (1, .ref (qh 0)), (2, .int l2), (3, .int l3)]) hx hb dX6_takeCouples_41 hl (k := 4) rfl (by rw [ev6]; rfl) (by decide) rfl (fun ls hl => ?_)
      refine lv_goto (tgt := 3) hx hb dX6_takeCouples_44 (by decide) ?_
      exact ih v6 w5 H locs ls hw (lv_sub hl [1, 2, 3, 4, 0] rfl)  hf
set_option maxHeartbeats 4000000 in
set_option maxRecDepth 100000 in
theorem cJm_takeCouples (l : Launch) (D : va_G) (κ : Nat → ClassId) (qx : Nat → Nat) (rx_tape rx_teller rx_equations rx_images rx_sheets rx_draft : Nat) (x_kept : Nat → Int32) (x_textFault x_readFault : Int32) (qb : Nat → Nat) (b_moments b_gains b_topped b_endStiffs b_outs b_endsAt b_stiffAt b_stepsAt : Nat → Int32) (b_steps b_latest : Int32) (qf : Nat → Nat) (f_held f_couples f_endJoints f_lengths f_stiffs f_loadBeams f_loadSizes f_loadPlaces : Nat → Int32) (f_joints f_beams f_loads : Int32) (qh : Nat → Nat) (h_cells : Nat → Int32) (h_lane h_size a2 a3 : Int32) (z1 z2 z3 z4 z5 z6 : Nat → Int32) (z7 z8 : Int32) (z9 : Nat → Int32) (hf : FJm_takeCouples b_moments b_endStiffs b_outs b_endsAt b_stiffAt b_stepsAt b_steps b_latest f_couples f_endJoints f_lengths f_stiffs f_loadBeams f_loadSizes f_loadPlaces f_beams f_loads h_cells a2 a3 = some (z1, z2, z3, z4, z5, z6, z7, z8, z9)) : mV_ l yX6_takeCouples (Cond.code yX6_takeCouples cX6_takeCouples 5 none :: uw) ({ frames := 3, cells := 0, slots := 0, locals := 72 } : Room) D (tys0 κ) [.ref (qx 0), .ref (qh 0), .int a2, .int a3] (List.flatten [pJm κ qx rx_tape rx_teller (qb 0) rx_equations rx_images rx_sheets (qf 0) rx_draft x_kept x_textFault x_readFault, pBa κ qb b_moments b_gains b_topped b_endStiffs b_outs b_endsAt b_stiffAt b_stepsAt b_steps b_latest, pFr κ qf f_held f_couples f_endJoints f_lengths f_stiffs f_loadBeams f_loadSizes f_loadPlaces f_joints f_beams f_loads, pSh κ qh h_cells h_lane h_size])  (List.flatten [pJm κ qx rx_tape rx_teller (qb 0) rx_equations rx_images rx_sheets (qf 0) rx_draft x_kept x_textFault x_readFault, pBa κ qb z1 b_gains b_topped z2 z3 z4 z5 z6 z7 z8, pFr κ qf f_held z9 f_endJoints f_lengths f_stiffs f_loadBeams f_loadSizes f_loadPlaces f_joints f_beams f_loads, pSh κ qh h_cells h_lane h_size]) := by
  unfold FJm_takeCouples at hf
  refine mV_of (by decide) (Nat.le_of_ble_eq_true rfl) ?_
  intro p e s m below meth c A ls H locs C0 hw hl
  obtain ⟨hx, hb, -, hml, hown, hts, -, -⟩ := id C0
  have hl : lv_has ls 5 [(0, .ref (qx 0)), (1, .ref (qh 0)), (2, .int a2), (3, .int a3)] := hl
  refine lv_iconst (v := 0) hx hb dX6_takeCouples_0 (by decide) ?_
  refine lv_istore (lv' := [(4, .int (0 : Int32)), (0, .ref (qx 0)), (1, .ref (qh 0)), (2, .int a2), (3, .int a3)]) hx hb dX6_takeCouples_1 hl (by decide) rfl (fun ls hl => ?_)
  refine wJm_takeCouples_L3 C0 qx rx_tape rx_teller rx_equations rx_images rx_sheets rx_draft x_kept x_textFault x_readFault qb b_moments b_gains b_topped b_endStiffs b_outs b_endsAt b_stiffAt b_stepsAt b_steps b_latest qf f_held f_endJoints f_lengths f_stiffs f_loadBeams f_loadSizes f_loadPlaces f_joints f_beams f_loads qh h_cells h_lane h_size a2 a3 z1 z2 z3 z4 z5 z6 z7 z8 z9 _ (fun v7 w8 H locs ls hw hl  hf => ?_) 1000 (0 : Int32) f_couples H locs ls hw (lv_sub hl [1, 2, 3, 4, 0] rfl)  hf
  refine lv_iload_n hx hb dX6_takeCouples_47 rfl (lv_at hl 1 rfl) ?_
  refine lv_if_le (tgt := 62) hx hb dX6_takeCouples_48 (by decide) (fun hc9 => ?_) (fun hc9 => ?_)
  · have hf := if_t hc9 hf
    obtain ⟨rfl, rfl, rfl, rfl, rfl, rfl, rfl, rfl, rfl⟩ := e9_ hf
    exact r_vret C0 hw dX6_takeCouples_62
  · have hf := if_f hc9 hf
    refine lv_aload_n hx hb dX6_takeCouples_51 rfl (lv_at hl 0 rfl) ?_
    refine r_get C0 hw 0 2 (v := .ref (qb 0)) rfl rfl inX6 (by decide) lk_X6_24 rfl dX6_takeCouples_52 ?_
    refine lv_aload_n hx hb dX6_takeCouples_55 rfl (lv_at hl 0 rfl) ?_
    refine r_get C0 hw 0 7 (v := .ref (qf 0)) rfl rfl inX6 (by decide) lk_X6_38 rfl dX6_takeCouples_56 ?_
    obtain ⟨w10, w11, w12, w13, w14, w15, w16, w17, hk18, hf⟩ := b8_s hf
    refine rv_v (vq := (RX0, TX0, 10)) (As := [.ref (qf 0)]) (rest := []) (bs' := [pJm κ qx rx_tape rx_teller (qb 0) rx_equations rx_images rx_sheets (qf 0) rx_draft x_kept x_textFault x_readFault, pBa κ qb w10 b_gains b_topped w11 w12 w13 w14 w15 w16 w17, pFr κ qf f_held w8 f_endJoints f_lengths f_stiffs f_loadBeams f_loadSizes f_loadPlaces f_joints f_beams f_loads, pSh κ qh h_cells h_lane h_size]) C0 hw (cBa_anew l D κ qb b_moments b_gains b_topped b_endStiffs b_outs b_endsAt b_stiffAt b_stepsAt b_steps b_latest qf f_held w8 f_endJoints f_lengths f_stiffs f_loadBeams f_loadSizes f_loadPlaces f_joints f_beams f_loads w10 w11 w12 w13 w14 w15 w16 w17 hk18) cv_RX6_83 ⟨rfl, rfl, Nat.le_of_ble_eq_true rfl, Nat.le_of_ble_eq_true rfl⟩ ⟨Nat.zero_le _, Nat.zero_le _⟩ [1, 2] [0, 3] [0, 2, 3, 1] rfl rfl rfl rfl (by decide) rfl rfl rfl rfl rfl hl.1 (by simp only [List.map, List.sum_cons, List.sum_nil, Value.category]; decide) dX6_takeCouples_59 (fun H locs hw => ?_)
    obtain ⟨rfl, rfl, rfl, rfl, rfl, rfl, rfl, rfl, rfl⟩ := e9_ hf
    exact r_vret C0 hw dX6_takeCouples_62
def FJm_sheet (h0_cells : Nat → Int32) (h0_lane h0_size : Int32) (h1_cells : Nat → Int32) (h1_lane h1_size : Int32) (h2_cells : Nat → Int32) (h2_lane h2_size : Int32) (h3_cells : Nat → Int32) (h3_lane h3_size a1 a2 a3 : Int32) : Option (Int32 × (Nat → Int32) × Int32 × Int32 × (Nat → Int32) × Int32 × Int32 × (Nat → Int32) × Int32 × Int32 × (Nat → Int32) × Int32 × Int32) :=
  b1_ (FJm_isSheet a1) fun r1 =>
  if r1 = 0 then
    some ((-1 : Int32), h0_cells, h0_lane, h0_size, h1_cells, h1_lane, h1_size, h2_cells, h2_lane, h2_size, h3_cells, h3_lane, h3_size)
  else
    b1_ (FJm_isLane a2) fun r5 =>
    if r5 = 0 then
      some ((-1 : Int32), h0_cells, h0_lane, h0_size, h1_cells, h1_lane, h1_size, h2_cells, h2_lane, h2_size, h3_cells, h3_lane, h3_size)
    else
      if a3 ≤ (40 : Int32) then
        if 0 ≤ a3 then
          gd_ a1 4 <|
          if a1 = 0 then
            b3_ (FSh_renew h0_cells a2 a3) fun w13 w14 w15 =>
            some ((1 : Int32), w13, w14, w15, h1_cells, h1_lane, h1_size, h2_cells, h2_lane, h2_size, h3_cells, h3_lane, h3_size)
          else
          if a1 = 1 then
            b3_ (FSh_renew h1_cells a2 a3) fun w19 w20 w21 =>
            some ((1 : Int32), h0_cells, h0_lane, h0_size, w19, w20, w21, h2_cells, h2_lane, h2_size, h3_cells, h3_lane, h3_size)
          else
          if a1 = 2 then
            b3_ (FSh_renew h2_cells a2 a3) fun w25 w26 w27 =>
            some ((1 : Int32), h0_cells, h0_lane, h0_size, h1_cells, h1_lane, h1_size, w25, w26, w27, h3_cells, h3_lane, h3_size)
          else
          if a1 = 3 then
            b3_ (FSh_renew h3_cells a2 a3) fun w31 w32 w33 =>
            some ((1 : Int32), h0_cells, h0_lane, h0_size, h1_cells, h1_lane, h1_size, h2_cells, h2_lane, h2_size, w31, w32, w33)
          else
          none
        else
          some ((-14 : Int32), h0_cells, h0_lane, h0_size, h1_cells, h1_lane, h1_size, h2_cells, h2_lane, h2_size, h3_cells, h3_lane, h3_size)
      else
        some ((-1 : Int32), h0_cells, h0_lane, h0_size, h1_cells, h1_lane, h1_size, h2_cells, h2_lane, h2_size, h3_cells, h3_lane, h3_size)
set_option maxHeartbeats 4000000 in
set_option maxRecDepth 100000 in
theorem cJm_sheet (l : Launch) (D : va_G) (κ : Nat → ClassId) (qx : Nat → Nat) (rx_tape rx_teller rx_balance rx_equations rx_images rx_frame rx_draft : Nat) (x_kept : Nat → Int32) (x_textFault x_readFault : Int32) (qsa qh0 : Nat → Nat) (h0_cells : Nat → Int32) (h0_lane h0_size : Int32) (qh1 : Nat → Nat) (h1_cells : Nat → Int32) (h1_lane h1_size : Int32) (qh2 : Nat → Nat) (h2_cells : Nat → Int32) (h2_lane h2_size : Int32) (qh3 : Nat → Nat) (h3_cells : Nat → Int32) (h3_lane h3_size a1 a2 a3 zr : Int32) (z1 : Nat → Int32) (z2 z3 : Int32) (z4 : Nat → Int32) (z5 z6 : Int32) (z7 : Nat → Int32) (z8 z9 : Int32) (z10 : Nat → Int32) (z11 z12 : Int32) (hf : FJm_sheet h0_cells h0_lane h0_size h1_cells h1_lane h1_size h2_cells h2_lane h2_size h3_cells h3_lane h3_size a1 a2 a3 = some (zr, z1, z2, z3, z4, z5, z6, z7, z8, z9, z10, z11, z12)) : mI_ l yX6_sheet (Cond.code yX6_sheet cX6_sheet 4 (some .int) :: uw) ({ frames := 1, cells := 0, slots := 0, locals := 23 } : Room) D (tys0 κ) [.ref (qx 0), .int a1, .int a2, .int a3] (List.flatten [pJm κ qx rx_tape rx_teller rx_balance rx_equations rx_images (qsa 0) rx_frame rx_draft x_kept x_textFault x_readFault, pOa (κ 5) 4 qsa [qh0 0, qh1 0, qh2 0, qh3 0], pSh κ qh0 h0_cells h0_lane h0_size, pSh κ qh1 h1_cells h1_lane h1_size, pSh κ qh2 h2_cells h2_lane h2_size, pSh κ qh3 h3_cells h3_lane h3_size]) nT_ zr (List.flatten [pJm κ qx rx_tape rx_teller rx_balance rx_equations rx_images (qsa 0) rx_frame rx_draft x_kept x_textFault x_readFault, pOa (κ 5) 4 qsa [qh0 0, qh1 0, qh2 0, qh3 0], pSh κ qh0 z1 z2 z3, pSh κ qh1 z4 z5 z6, pSh κ qh2 z7 z8 z9, pSh κ qh3 z10 z11 z12]) := by
  unfold FJm_sheet at hf
  refine mI_of (by decide) (Nat.le_of_ble_eq_true rfl) ?_
  intro p e s m below meth c A ls H locs C0 hw hl
  obtain ⟨hx, hb, -, hml, hown, hts, -, -⟩ := id C0
  have hl : lv_has ls 4 [(0, .ref (qx 0)), (1, .int a1), (2, .int a2), (3, .int a3)] := hl
  refine lv_iload_n hx hb dX6_sheet_0 rfl (lv_at hl 1 rfl) ?_
  obtain ⟨r1, hk2, hf⟩ := b1_s hf
  refine rs_i (As := [.int a1]) (rest := []) (bs' := [pJm κ qx rx_tape rx_teller rx_balance rx_equations rx_images (qsa 0) rx_frame rx_draft x_kept x_textFault x_readFault, pOa (κ 5) 4 qsa [qh0 0, qh1 0, qh2 0, qh3 0], pSh κ qh0 h0_cells h0_lane h0_size, pSh κ qh1 h1_cells h1_lane h1_size, pSh κ qh2 h2_cells h2_lane h2_size, pSh κ qh3 h3_cells h3_lane h3_size]) C0 hw (cJm_isSheet l D κ a1 r1 hk2) cs_X6_231 ⟨rfl, rfl, Nat.le_of_ble_eq_true rfl, Nat.le_of_ble_eq_true rfl⟩ ⟨Nat.zero_le _, Nat.zero_le _⟩ [] [0, 1, 2, 3, 4, 5] [0, 1, 2, 3, 4, 5] rfl rfl rfl rfl (by decide) rfl rfl rfl hl.1 (by simp only [List.map, List.sum_cons, List.sum_nil, Value.category]; decide) dX6_sheet_1 (fun H locs hw hn3 => ?_)
  refine lv_if_eq (tgt := 20) hx hb dX6_sheet_4 (by decide) (fun hc4 => ?_) (fun hc4 => ?_)
  · have hf := if_t hc4 hf
    refine lv_iconst (v := -1) hx hb dX6_sheet_20 (by decide) ?_
    obtain ⟨rfl, rfl, rfl, rfl, rfl, rfl, rfl, rfl, rfl, rfl, rfl, rfl, rfl⟩ := e13_ hf
    exact r_iret C0 hw trivial dX6_sheet_21
  · have hf := if_f hc4 hf
    refine lv_iload_n hx hb dX6_sheet_7 rfl (lv_at hl 2 rfl) ?_
    obtain ⟨r5, hk6, hf⟩ := b1_s hf
    refine rs_i (As := [.int a2]) (rest := []) (bs' := [pJm κ qx rx_tape rx_teller rx_balance rx_equations rx_images (qsa 0) rx_frame rx_draft x_kept x_textFault x_readFault, pOa (κ 5) 4 qsa [qh0 0, qh1 0, qh2 0, qh3 0], pSh κ qh0 h0_cells h0_lane h0_size, pSh κ qh1 h1_cells h1_lane h1_size, pSh κ qh2 h2_cells h2_lane h2_size, pSh κ qh3 h3_cells h3_lane h3_size]) C0 hw (cJm_isLane l D κ a2 r5 hk6) cs_X6_234 ⟨rfl, rfl, Nat.le_of_ble_eq_true rfl, Nat.le_of_ble_eq_true rfl⟩ ⟨Nat.zero_le _, Nat.zero_le _⟩ [] [0, 1, 2, 3, 4, 5] [0, 1, 2, 3, 4, 5] rfl rfl rfl rfl (by decide) rfl rfl rfl hl.1 (by simp only [List.map, List.sum_cons, List.sum_nil, Value.category]; decide) dX6_sheet_8 (fun H locs hw hn7 => ?_)
    refine lv_if_eq (tgt := 20) hx hb dX6_sheet_11 (by decide) (fun hc8 => ?_) (fun hc8 => ?_)
    · have hf := if_t hc8 hf
      refine lv_iconst (v := -1) hx hb dX6_sheet_20 (by decide) ?_
      obtain ⟨rfl, rfl, rfl, rfl, rfl, rfl, rfl, rfl, rfl, rfl, rfl, rfl, rfl⟩ := e13_ hf
      exact r_iret C0 hw trivial dX6_sheet_21
    · have hf := if_f hc8 hf
      refine lv_iload_n hx hb dX6_sheet_14 rfl (lv_at hl 3 rfl) ?_
      refine lv_bipush (v := 40) hx hb dX6_sheet_15 (by decide) ?_
      refine lv_icmp_le (tgt := 22) hx hb dX6_sheet_17 (by decide) (fun hc9 => ?_) (fun hc9 => ?_)
      · have hf := if_t hc9 hf
        refine lv_iload_n hx hb dX6_sheet_22 rfl (lv_at hl 3 rfl) ?_
        refine lv_if_ge (tgt := 29) hx hb dX6_sheet_23 (by decide) (fun hc10 => ?_) (fun hc10 => ?_)
        · have hf := if_t hc10 hf
          refine lv_aload_n hx hb dX6_sheet_29 rfl (lv_at hl 0 rfl) ?_
          refine r_get C0 hw 0 6 (v := .ref (qsa 0)) rfl rfl inX6 (by decide) lk_X6_55 rfl dX6_sheet_30 ?_
          refine lv_iload_n hx hb dX6_sheet_33 rfl (lv_at hl 1 rfl) ?_
          obtain ⟨hi11, hf⟩ := gd_s hf
          by_cases hc12 : a1 = 0
          · have hf := if_t hc12 hf
            refine r_aldo C0 hw 2 5 (b := qh0 0) rfl rfl hi11 (by rw [hc12]; rfl) dX6_sheet_34 ?_
            refine lv_iload_n hx hb dX6_sheet_35 rfl (lv_at hl 2 rfl) ?_
            refine lv_iload_n hx hb dX6_sheet_36 rfl (lv_at hl 3 rfl) ?_
            obtain ⟨w13, w14, w15, hk16, hf⟩ := b3_s hf
            refine rv_v (vq := (RX3, TX3, 3)) (As := [.int a2, .int a3]) (rest := []) (bs' := [pJm κ qx rx_tape rx_teller rx_balance rx_equations rx_images (qsa 0) rx_frame rx_draft x_kept x_textFault x_readFault, pOa (κ 5) 4 qsa [qh0 0, qh1 0, qh2 0, qh3 0], pSh κ qh0 w13 w14 w15, pSh κ qh1 h1_cells h1_lane h1_size, pSh κ qh2 h2_cells h2_lane h2_size, pSh κ qh3 h3_cells h3_lane h3_size]) C0 hw (cSh_renew l D κ qh0 h0_cells h0_lane h0_size a2 a3 w13 w14 w15 hk16) cv_RX6_237 ⟨rfl, rfl, Nat.le_of_ble_eq_true rfl, Nat.le_of_ble_eq_true rfl⟩ ⟨Nat.zero_le _, Nat.zero_le _⟩ [2] [0, 1, 3, 4, 5] [0, 1, 5, 2, 3, 4] rfl rfl rfl rfl (by decide) rfl rfl rfl rfl rfl hl.1 (by simp only [List.map, List.sum_cons, List.sum_nil, Value.category]; decide) dX6_sheet_37 (fun H locs hw => ?_)
            refine lv_iconst (v := 1) hx hb dX6_sheet_40 (by decide) ?_
            obtain ⟨rfl, rfl, rfl, rfl, rfl, rfl, rfl, rfl, rfl, rfl, rfl, rfl, rfl⟩ := e13_ hf
            exact r_iret C0 hw trivial dX6_sheet_41
          have hf := if_f hc12 hf
          by_cases hc18 : a1 = 1
          · have hf := if_t hc18 hf
            refine r_aldo C0 hw 2 5 (b := qh1 0) rfl rfl hi11 (by rw [hc18]; rfl) dX6_sheet_34 ?_
            refine lv_iload_n hx hb dX6_sheet_35 rfl (lv_at hl 2 rfl) ?_
            refine lv_iload_n hx hb dX6_sheet_36 rfl (lv_at hl 3 rfl) ?_
            obtain ⟨w19, w20, w21, hk22, hf⟩ := b3_s hf
            refine rv_v (vq := (RX3, TX3, 3)) (As := [.int a2, .int a3]) (rest := []) (bs' := [pJm κ qx rx_tape rx_teller rx_balance rx_equations rx_images (qsa 0) rx_frame rx_draft x_kept x_textFault x_readFault, pOa (κ 5) 4 qsa [qh0 0, qh1 0, qh2 0, qh3 0], pSh κ qh0 h0_cells h0_lane h0_size, pSh κ qh1 w19 w20 w21, pSh κ qh2 h2_cells h2_lane h2_size, pSh κ qh3 h3_cells h3_lane h3_size]) C0 hw (cSh_renew l D κ qh1 h1_cells h1_lane h1_size a2 a3 w19 w20 w21 hk22) cv_RX6_237 ⟨rfl, rfl, Nat.le_of_ble_eq_true rfl, Nat.le_of_ble_eq_true rfl⟩ ⟨Nat.zero_le _, Nat.zero_le _⟩ [3] [0, 1, 2, 4, 5] [0, 1, 2, 5, 3, 4] rfl rfl rfl rfl (by decide) rfl rfl rfl rfl rfl hl.1 (by simp only [List.map, List.sum_cons, List.sum_nil, Value.category]; decide) dX6_sheet_37 (fun H locs hw => ?_)
            refine lv_iconst (v := 1) hx hb dX6_sheet_40 (by decide) ?_
            obtain ⟨rfl, rfl, rfl, rfl, rfl, rfl, rfl, rfl, rfl, rfl, rfl, rfl, rfl⟩ := e13_ hf
            exact r_iret C0 hw trivial dX6_sheet_41
          have hf := if_f hc18 hf
          by_cases hc24 : a1 = 2
          · have hf := if_t hc24 hf
            refine r_aldo C0 hw 2 5 (b := qh2 0) rfl rfl hi11 (by rw [hc24]; rfl) dX6_sheet_34 ?_
            refine lv_iload_n hx hb dX6_sheet_35 rfl (lv_at hl 2 rfl) ?_
            refine lv_iload_n hx hb dX6_sheet_36 rfl (lv_at hl 3 rfl) ?_
            obtain ⟨w25, w26, w27, hk28, hf⟩ := b3_s hf
            refine rv_v (vq := (RX3, TX3, 3)) (As := [.int a2, .int a3]) (rest := []) (bs' := [pJm κ qx rx_tape rx_teller rx_balance rx_equations rx_images (qsa 0) rx_frame rx_draft x_kept x_textFault x_readFault, pOa (κ 5) 4 qsa [qh0 0, qh1 0, qh2 0, qh3 0], pSh κ qh0 h0_cells h0_lane h0_size, pSh κ qh1 h1_cells h1_lane h1_size, pSh κ qh2 w25 w26 w27, pSh κ qh3 h3_cells h3_lane h3_size]) C0 hw (cSh_renew l D κ qh2 h2_cells h2_lane h2_size a2 a3 w25 w26 w27 hk28) cv_RX6_237 ⟨rfl, rfl, Nat.le_of_ble_eq_true rfl, Nat.le_of_ble_eq_true rfl⟩ ⟨Nat.zero_le _, Nat.zero_le _⟩ [4] [0, 1, 2, 3, 5] [0, 1, 2, 3, 5, 4] rfl rfl rfl rfl (by decide) rfl rfl rfl rfl rfl hl.1 (by simp only [List.map, List.sum_cons, List.sum_nil, Value.category]; decide) dX6_sheet_37 (fun H locs hw => ?_)
            refine lv_iconst (v := 1) hx hb dX6_sheet_40 (by decide) ?_
            obtain ⟨rfl, rfl, rfl, rfl, rfl, rfl, rfl, rfl, rfl, rfl, rfl, rfl, rfl⟩ := e13_ hf
            exact r_iret C0 hw trivial dX6_sheet_41
          have hf := if_f hc24 hf
          by_cases hc30 : a1 = 3
          · have hf := if_t hc30 hf
            refine r_aldo C0 hw 2 5 (b := qh3 0) rfl rfl hi11 (by rw [hc30]; rfl) dX6_sheet_34 ?_
            refine lv_iload_n hx hb dX6_sheet_35 rfl (lv_at hl 2 rfl) ?_
            refine lv_iload_n hx hb dX6_sheet_36 rfl (lv_at hl 3 rfl) ?_
            obtain ⟨w31, w32, w33, hk34, hf⟩ := b3_s hf
            refine rv_v (vq := (RX3, TX3, 3)) (As := [.int a2, .int a3]) (rest := []) (bs' := [pJm κ qx rx_tape rx_teller rx_balance rx_equations rx_images (qsa 0) rx_frame rx_draft x_kept x_textFault x_readFault, pOa (κ 5) 4 qsa [qh0 0, qh1 0, qh2 0, qh3 0], pSh κ qh0 h0_cells h0_lane h0_size, pSh κ qh1 h1_cells h1_lane h1_size, pSh κ qh2 h2_cells h2_lane h2_size, pSh κ qh3 w31 w32 w33]) C0 hw (cSh_renew l D κ qh3 h3_cells h3_lane h3_size a2 a3 w31 w32 w33 hk34) cv_RX6_237 ⟨rfl, rfl, Nat.le_of_ble_eq_true rfl, Nat.le_of_ble_eq_true rfl⟩ ⟨Nat.zero_le _, Nat.zero_le _⟩ [5] [0, 1, 2, 3, 4] [0, 1, 2, 3, 4, 5] rfl rfl rfl rfl (by decide) rfl rfl rfl rfl rfl hl.1 (by simp only [List.map, List.sum_cons, List.sum_nil, Value.category]; decide) dX6_sheet_37 (fun H locs hw => ?_)
            refine lv_iconst (v := 1) hx hb dX6_sheet_40 (by decide) ?_
            obtain ⟨rfl, rfl, rfl, rfl, rfl, rfl, rfl, rfl, rfl, rfl, rfl, rfl, rfl⟩ := e13_ hf
            exact r_iret C0 hw trivial dX6_sheet_41
          have hf := if_f hc30 hf
          cases hf
        · have hf := if_f hc10 hf
          refine lv_bipush (v := -14) hx hb dX6_sheet_26 (by decide) ?_
          obtain ⟨rfl, rfl, rfl, rfl, rfl, rfl, rfl, rfl, rfl, rfl, rfl, rfl, rfl⟩ := e13_ hf
          exact r_iret C0 hw trivial dX6_sheet_28
      · have hf := if_f hc9 hf
        refine lv_iconst (v := -1) hx hb dX6_sheet_20 (by decide) ?_
        obtain ⟨rfl, rfl, rfl, rfl, rfl, rfl, rfl, rfl, rfl, rfl, rfl, rfl, rfl⟩ := e13_ hf
        exact r_iret C0 hw trivial dX6_sheet_21
def FJm_lay (h0_cells : Nat → Int32) (h0_lane h0_size : Int32) (h1_cells : Nat → Int32) (h1_lane h1_size : Int32) (h2_cells : Nat → Int32) (h2_lane h2_size : Int32) (h3_cells : Nat → Int32) (h3_lane h3_size a1 a2 a3 : Int32) : Option (Int32 × (Nat → Int32) × (Nat → Int32) × (Nat → Int32) × (Nat → Int32)) :=
  b1_ (FJm_isSheet a1) fun r1 =>
  if r1 = 0 then
    some ((-1 : Int32), h0_cells, h1_cells, h2_cells, h3_cells)
  else
    gd_ a1 4 <|
    if a1 = 0 then
      b1_ (FSh_faultAt h0_lane h0_size h0_lane a2) fun r7 =>
      if r7 = 0 then
        b1_ (FSh_write h0_cells h0_lane a2 a3) fun w11 =>
        some ((1 : Int32), w11, h1_cells, h2_cells, h3_cells)
      else
        some (((-10 : Int32) - r7), h0_cells, h1_cells, h2_cells, h3_cells)
    else
    if a1 = 1 then
      b1_ (FSh_faultAt h1_lane h1_size h1_lane a2) fun r15 =>
      if r15 = 0 then
        b1_ (FSh_write h1_cells h1_lane a2 a3) fun w19 =>
        some ((1 : Int32), h0_cells, w19, h2_cells, h3_cells)
      else
        some (((-10 : Int32) - r15), h0_cells, h1_cells, h2_cells, h3_cells)
    else
    if a1 = 2 then
      b1_ (FSh_faultAt h2_lane h2_size h2_lane a2) fun r23 =>
      if r23 = 0 then
        b1_ (FSh_write h2_cells h2_lane a2 a3) fun w27 =>
        some ((1 : Int32), h0_cells, h1_cells, w27, h3_cells)
      else
        some (((-10 : Int32) - r23), h0_cells, h1_cells, h2_cells, h3_cells)
    else
    if a1 = 3 then
      b1_ (FSh_faultAt h3_lane h3_size h3_lane a2) fun r31 =>
      if r31 = 0 then
        b1_ (FSh_write h3_cells h3_lane a2 a3) fun w35 =>
        some ((1 : Int32), h0_cells, h1_cells, h2_cells, w35)
      else
        some (((-10 : Int32) - r31), h0_cells, h1_cells, h2_cells, h3_cells)
    else
    none
set_option maxHeartbeats 4000000 in
set_option maxRecDepth 100000 in
theorem cJm_lay (l : Launch) (D : va_G) (κ : Nat → ClassId) (qx : Nat → Nat) (rx_tape rx_teller rx_balance rx_equations rx_images rx_frame rx_draft : Nat) (x_kept : Nat → Int32) (x_textFault x_readFault : Int32) (qsa qh0 : Nat → Nat) (h0_cells : Nat → Int32) (h0_lane h0_size : Int32) (qh1 : Nat → Nat) (h1_cells : Nat → Int32) (h1_lane h1_size : Int32) (qh2 : Nat → Nat) (h2_cells : Nat → Int32) (h2_lane h2_size : Int32) (qh3 : Nat → Nat) (h3_cells : Nat → Int32) (h3_lane h3_size a1 a2 a3 zr : Int32) (z1 z2 z3 z4 : Nat → Int32) (hf : FJm_lay h0_cells h0_lane h0_size h1_cells h1_lane h1_size h2_cells h2_lane h2_size h3_cells h3_lane h3_size a1 a2 a3 = some (zr, z1, z2, z3, z4)) : mI_ l yX6_lay (Cond.code yX6_lay cX6_lay 6 (some .int) :: uw) ({ frames := 1, cells := 0, slots := 0, locals := 22 } : Room) D (tys0 κ) [.ref (qx 0), .int a1, .int a2, .int a3] (List.flatten [pJm κ qx rx_tape rx_teller rx_balance rx_equations rx_images (qsa 0) rx_frame rx_draft x_kept x_textFault x_readFault, pOa (κ 5) 4 qsa [qh0 0, qh1 0, qh2 0, qh3 0], pSh κ qh0 h0_cells h0_lane h0_size, pSh κ qh1 h1_cells h1_lane h1_size, pSh κ qh2 h2_cells h2_lane h2_size, pSh κ qh3 h3_cells h3_lane h3_size]) nT_ zr (List.flatten [pJm κ qx rx_tape rx_teller rx_balance rx_equations rx_images (qsa 0) rx_frame rx_draft x_kept x_textFault x_readFault, pOa (κ 5) 4 qsa [qh0 0, qh1 0, qh2 0, qh3 0], pSh κ qh0 z1 h0_lane h0_size, pSh κ qh1 z2 h1_lane h1_size, pSh κ qh2 z3 h2_lane h2_size, pSh κ qh3 z4 h3_lane h3_size]) := by
  unfold FJm_lay at hf
  refine mI_of (by decide) (Nat.le_of_ble_eq_true rfl) ?_
  intro p e s m below meth c A ls H locs C0 hw hl
  obtain ⟨hx, hb, -, hml, hown, hts, -, -⟩ := id C0
  have hl : lv_has ls 6 [(0, .ref (qx 0)), (1, .int a1), (2, .int a2), (3, .int a3)] := hl
  refine lv_iload_n hx hb dX6_lay_0 rfl (lv_at hl 1 rfl) ?_
  obtain ⟨r1, hk2, hf⟩ := b1_s hf
  refine rs_i (As := [.int a1]) (rest := []) (bs' := [pJm κ qx rx_tape rx_teller rx_balance rx_equations rx_images (qsa 0) rx_frame rx_draft x_kept x_textFault x_readFault, pOa (κ 5) 4 qsa [qh0 0, qh1 0, qh2 0, qh3 0], pSh κ qh0 h0_cells h0_lane h0_size, pSh κ qh1 h1_cells h1_lane h1_size, pSh κ qh2 h2_cells h2_lane h2_size, pSh κ qh3 h3_cells h3_lane h3_size]) C0 hw (cJm_isSheet l D κ a1 r1 hk2) cs_X6_231 ⟨rfl, rfl, Nat.le_of_ble_eq_true rfl, Nat.le_of_ble_eq_true rfl⟩ ⟨Nat.zero_le _, Nat.zero_le _⟩ [] [0, 1, 2, 3, 4, 5] [0, 1, 2, 3, 4, 5] rfl rfl rfl rfl (by decide) rfl rfl rfl hl.1 (by simp only [List.map, List.sum_cons, List.sum_nil, Value.category]; decide) dX6_lay_1 (fun H locs hw hn3 => ?_)
  refine lv_if_ne (tgt := 9) hx hb dX6_lay_4 (by decide) (fun hc4 => ?_) (fun hc4 => ?_)
  · have hf := if_f hc4 hf
    refine lv_aload_n hx hb dX6_lay_9 rfl (lv_at hl 0 rfl) ?_
    refine r_get C0 hw 0 6 (v := .ref (qsa 0)) rfl rfl inX6 (by decide) lk_X6_55 rfl dX6_lay_10 ?_
    refine lv_iload_n hx hb dX6_lay_13 rfl (lv_at hl 1 rfl) ?_
    obtain ⟨hi5, hf⟩ := gd_s hf
    by_cases hc6 : a1 = 0
    · have hf := if_t hc6 hf
      refine r_aldo C0 hw 2 5 (b := qh0 0) rfl rfl hi5 (by rw [hc6]; rfl) dX6_lay_14 ?_
      refine lv_astore (lv' := [(4, .ref (qh0 0)), (0, .ref (qx 0)), (1, .int a1), (2, .int a2), (3, .int a3)]) hx hb dX6_lay_15 hl (by decide) rfl (fun ls hl => ?_)
      refine lv_aload hx hb dX6_lay_17 (lv_at hl 0 rfl) ?_
      refine lv_aload hx hb dX6_lay_19 (lv_at hl 0 rfl) ?_
      refine r_get C0 hw 3 1 (v := .int h0_lane) rfl rfl inX3 (by decide) lk_X6_241 rfl dX6_lay_21 ?_
      refine lv_iload_n hx hb dX6_lay_24 rfl (lv_at hl 3 rfl) ?_
      obtain ⟨r7, hk8, hf⟩ := b1_s hf
      refine rv_i (vq := (RX3, TX3, 3)) (As := [.int h0_lane, .int a2]) (rest := []) (bs' := [pJm κ qx rx_tape rx_teller rx_balance rx_equations rx_images (qsa 0) rx_frame rx_draft x_kept x_textFault x_readFault, pOa (κ 5) 4 qsa [qh0 0, qh1 0, qh2 0, qh3 0], pSh κ qh0 h0_cells h0_lane h0_size, pSh κ qh1 h1_cells h1_lane h1_size, pSh κ qh2 h2_cells h2_lane h2_size, pSh κ qh3 h3_cells h3_lane h3_size]) C0 hw (cSh_faultAt l D κ qh0 h0_cells h0_lane h0_size h0_lane a2 r7 hk8) cv_RX6_244 ⟨rfl, rfl, Nat.le_of_ble_eq_true rfl, Nat.le_of_ble_eq_true rfl⟩ ⟨Nat.zero_le _, Nat.zero_le _⟩ [2] [0, 1, 3, 4, 5] [0, 1, 5, 2, 3, 4] rfl rfl rfl rfl (by decide) rfl rfl rfl rfl rfl hl.1 (by simp only [List.map, List.sum_cons, List.sum_nil, Value.category]; decide) dX6_lay_25 (fun H locs hw hn9 => ?_)
      refine lv_istore (lv' := [(5, .int r7), (4, .ref (qh0 0)), (0, .ref (qx 0)), (1, .int a1), (2, .int a2), (3, .int a3)]) hx hb dX6_lay_28 hl (by decide) rfl (fun ls hl => ?_)
      refine lv_iload hx hb dX6_lay_30 (lv_at hl 0 rfl) ?_
      refine lv_if_eq (tgt := 41) hx hb dX6_lay_32 (by decide) (fun hc10 => ?_) (fun hc10 => ?_)
      · have hf := if_t hc10 hf
        refine lv_aload hx hb dX6_lay_41 (lv_at hl 1 rfl) ?_
        refine lv_iload_n hx hb dX6_lay_43 rfl (lv_at hl 4 rfl) ?_
        refine lv_iload_n hx hb dX6_lay_44 rfl (lv_at hl 5 rfl) ?_
        obtain ⟨w11, hk12, hf⟩ := b1_s hf
        refine rv_v (vq := (RX3, TX3, 3)) (As := [.int a2, .int a3]) (rest := []) (bs' := [pJm κ qx rx_tape rx_teller rx_balance rx_equations rx_images (qsa 0) rx_frame rx_draft x_kept x_textFault x_readFault, pOa (κ 5) 4 qsa [qh0 0, qh1 0, qh2 0, qh3 0], pSh κ qh0 w11 h0_lane h0_size, pSh κ qh1 h1_cells h1_lane h1_size, pSh κ qh2 h2_cells h2_lane h2_size, pSh κ qh3 h3_cells h3_lane h3_size]) C0 hw (cSh_write l D κ qh0 h0_cells h0_lane h0_size a2 a3 w11 hk12) cv_RX6_248 ⟨rfl, rfl, Nat.le_of_ble_eq_true rfl, Nat.le_of_ble_eq_true rfl⟩ ⟨Nat.zero_le _, Nat.zero_le _⟩ [2] [0, 1, 3, 4, 5] [0, 1, 5, 2, 3, 4] rfl rfl rfl rfl (by decide) rfl rfl rfl rfl rfl hl.1 (by simp only [List.map, List.sum_cons, List.sum_nil, Value.category]; decide) dX6_lay_45 (fun H locs hw => ?_)
        refine lv_iconst (v := 1) hx hb dX6_lay_48 (by decide) ?_
        obtain ⟨rfl, rfl, rfl, rfl, rfl⟩ := e5_ hf
        exact r_iret C0 hw trivial dX6_lay_49
      · have hf := if_f hc10 hf
        refine lv_bipush (v := -10) hx hb dX6_lay_35 (by decide) ?_
        refine lv_iload hx hb dX6_lay_37 (lv_at hl 0 rfl) ?_
        refine lv_isub hx hb dX6_lay_39 ?_
        obtain ⟨rfl, rfl, rfl, rfl, rfl⟩ := e5_ hf
        exact r_iret C0 hw trivial dX6_lay_40
    have hf := if_f hc6 hf
    by_cases hc14 : a1 = 1
    · have hf := if_t hc14 hf
      refine r_aldo C0 hw 2 5 (b := qh1 0) rfl rfl hi5 (by rw [hc14]; rfl) dX6_lay_14 ?_
      refine lv_astore (lv' := [(4, .ref (qh1 0)), (0, .ref (qx 0)), (1, .int a1), (2, .int a2), (3, .int a3)]) hx hb dX6_lay_15 hl (by decide) rfl (fun ls hl => ?_)
      refine lv_aload hx hb dX6_lay_17 (lv_at hl 0 rfl) ?_
      refine lv_aload hx hb dX6_lay_19 (lv_at hl 0 rfl) ?_
      refine r_get C0 hw 5 1 (v := .int h1_lane) rfl rfl inX3 (by decide) lk_X6_241 rfl dX6_lay_21 ?_
      refine lv_iload_n hx hb dX6_lay_24 rfl (lv_at hl 3 rfl) ?_
      obtain ⟨r15, hk16, hf⟩ := b1_s hf
      refine rv_i (vq := (RX3, TX3, 3)) (As := [.int h1_lane, .int a2]) (rest := []) (bs' := [pJm κ qx rx_tape rx_teller rx_balance rx_equations rx_images (qsa 0) rx_frame rx_draft x_kept x_textFault x_readFault, pOa (κ 5) 4 qsa [qh0 0, qh1 0, qh2 0, qh3 0], pSh κ qh0 h0_cells h0_lane h0_size, pSh κ qh1 h1_cells h1_lane h1_size, pSh κ qh2 h2_cells h2_lane h2_size, pSh κ qh3 h3_cells h3_lane h3_size]) C0 hw (cSh_faultAt l D κ qh1 h1_cells h1_lane h1_size h1_lane a2 r15 hk16) cv_RX6_244 ⟨rfl, rfl, Nat.le_of_ble_eq_true rfl, Nat.le_of_ble_eq_true rfl⟩ ⟨Nat.zero_le _, Nat.zero_le _⟩ [3] [0, 1, 2, 4, 5] [0, 1, 2, 5, 3, 4] rfl rfl rfl rfl (by decide) rfl rfl rfl rfl rfl hl.1 (by simp only [List.map, List.sum_cons, List.sum_nil, Value.category]; decide) dX6_lay_25 (fun H locs hw hn17 => ?_)
      refine lv_istore (lv' := [(5, .int r15), (4, .ref (qh1 0)), (0, .ref (qx 0)), (1, .int a1), (2, .int a2), (3, .int a3)]) hx hb dX6_lay_28 hl (by decide) rfl (fun ls hl => ?_)
      refine lv_iload hx hb dX6_lay_30 (lv_at hl 0 rfl) ?_
      refine lv_if_eq (tgt := 41) hx hb dX6_lay_32 (by decide) (fun hc18 => ?_) (fun hc18 => ?_)
      · have hf := if_t hc18 hf
        refine lv_aload hx hb dX6_lay_41 (lv_at hl 1 rfl) ?_
        refine lv_iload_n hx hb dX6_lay_43 rfl (lv_at hl 4 rfl) ?_
        refine lv_iload_n hx hb dX6_lay_44 rfl (lv_at hl 5 rfl) ?_
        obtain ⟨w19, hk20, hf⟩ := b1_s hf
        refine rv_v (vq := (RX3, TX3, 3)) (As := [.int a2, .int a3]) (rest := []) (bs' := [pJm κ qx rx_tape rx_teller rx_balance rx_equations rx_images (qsa 0) rx_frame rx_draft x_kept x_textFault x_readFault, pOa (κ 5) 4 qsa [qh0 0, qh1 0, qh2 0, qh3 0], pSh κ qh0 h0_cells h0_lane h0_size, pSh κ qh1 w19 h1_lane h1_size, pSh κ qh2 h2_cells h2_lane h2_size, pSh κ qh3 h3_cells h3_lane h3_size]) C0 hw (cSh_write l D κ qh1 h1_cells h1_lane h1_size a2 a3 w19 hk20) cv_RX6_248 ⟨rfl, rfl, Nat.le_of_ble_eq_true rfl, Nat.le_of_ble_eq_true rfl⟩ ⟨Nat.zero_le _, Nat.zero_le _⟩ [3] [0, 1, 2, 4, 5] [0, 1, 2, 5, 3, 4] rfl rfl rfl rfl (by decide) rfl rfl rfl rfl rfl hl.1 (by simp only [List.map, List.sum_cons, List.sum_nil, Value.category]; decide) dX6_lay_45 (fun H locs hw => ?_)
        refine lv_iconst (v := 1) hx hb dX6_lay_48 (by decide) ?_
        obtain ⟨rfl, rfl, rfl, rfl, rfl⟩ := e5_ hf
        exact r_iret C0 hw trivial dX6_lay_49
      · have hf := if_f hc18 hf
        refine lv_bipush (v := -10) hx hb dX6_lay_35 (by decide) ?_
        refine lv_iload hx hb dX6_lay_37 (lv_at hl 0 rfl) ?_
        refine lv_isub hx hb dX6_lay_39 ?_
        obtain ⟨rfl, rfl, rfl, rfl, rfl⟩ := e5_ hf
        exact r_iret C0 hw trivial dX6_lay_40
    have hf := if_f hc14 hf
    by_cases hc22 : a1 = 2
    · have hf := if_t hc22 hf
      refine r_aldo C0 hw 2 5 (b := qh2 0) rfl rfl hi5 (by rw [hc22]; rfl) dX6_lay_14 ?_
      refine lv_astore (lv' := [(4, .ref (qh2 0)), (0, .ref (qx 0)), (1, .int a1), (2, .int a2), (3, .int a3)]) hx hb dX6_lay_15 hl (by decide) rfl (fun ls hl => ?_)
      refine lv_aload hx hb dX6_lay_17 (lv_at hl 0 rfl) ?_
      refine lv_aload hx hb dX6_lay_19 (lv_at hl 0 rfl) ?_
      refine r_get C0 hw 7 1 (v := .int h2_lane) rfl rfl inX3 (by decide) lk_X6_241 rfl dX6_lay_21 ?_
      refine lv_iload_n hx hb dX6_lay_24 rfl (lv_at hl 3 rfl) ?_
      obtain ⟨r23, hk24, hf⟩ := b1_s hf
      refine rv_i (vq := (RX3, TX3, 3)) (As := [.int h2_lane, .int a2]) (rest := []) (bs' := [pJm κ qx rx_tape rx_teller rx_balance rx_equations rx_images (qsa 0) rx_frame rx_draft x_kept x_textFault x_readFault, pOa (κ 5) 4 qsa [qh0 0, qh1 0, qh2 0, qh3 0], pSh κ qh0 h0_cells h0_lane h0_size, pSh κ qh1 h1_cells h1_lane h1_size, pSh κ qh2 h2_cells h2_lane h2_size, pSh κ qh3 h3_cells h3_lane h3_size]) C0 hw (cSh_faultAt l D κ qh2 h2_cells h2_lane h2_size h2_lane a2 r23 hk24) cv_RX6_244 ⟨rfl, rfl, Nat.le_of_ble_eq_true rfl, Nat.le_of_ble_eq_true rfl⟩ ⟨Nat.zero_le _, Nat.zero_le _⟩ [4] [0, 1, 2, 3, 5] [0, 1, 2, 3, 5, 4] rfl rfl rfl rfl (by decide) rfl rfl rfl rfl rfl hl.1 (by simp only [List.map, List.sum_cons, List.sum_nil, Value.category]; decide) dX6_lay_25 (fun H locs hw hn25 => ?_)
      refine lv_istore (lv' := [(5, .int r23), (4, .ref (qh2 0)), (0, .ref (qx 0)), (1, .int a1), (2, .int a2), (3, .int a3)]) hx hb dX6_lay_28 hl (by decide) rfl (fun ls hl => ?_)
      refine lv_iload hx hb dX6_lay_30 (lv_at hl 0 rfl) ?_
      refine lv_if_eq (tgt := 41) hx hb dX6_lay_32 (by decide) (fun hc26 => ?_) (fun hc26 => ?_)
      · have hf := if_t hc26 hf
        refine lv_aload hx hb dX6_lay_41 (lv_at hl 1 rfl) ?_
        refine lv_iload_n hx hb dX6_lay_43 rfl (lv_at hl 4 rfl) ?_
        refine lv_iload_n hx hb dX6_lay_44 rfl (lv_at hl 5 rfl) ?_
        obtain ⟨w27, hk28, hf⟩ := b1_s hf
        refine rv_v (vq := (RX3, TX3, 3)) (As := [.int a2, .int a3]) (rest := []) (bs' := [pJm κ qx rx_tape rx_teller rx_balance rx_equations rx_images (qsa 0) rx_frame rx_draft x_kept x_textFault x_readFault, pOa (κ 5) 4 qsa [qh0 0, qh1 0, qh2 0, qh3 0], pSh κ qh0 h0_cells h0_lane h0_size, pSh κ qh1 h1_cells h1_lane h1_size, pSh κ qh2 w27 h2_lane h2_size, pSh κ qh3 h3_cells h3_lane h3_size]) C0 hw (cSh_write l D κ qh2 h2_cells h2_lane h2_size a2 a3 w27 hk28) cv_RX6_248 ⟨rfl, rfl, Nat.le_of_ble_eq_true rfl, Nat.le_of_ble_eq_true rfl⟩ ⟨Nat.zero_le _, Nat.zero_le _⟩ [4] [0, 1, 2, 3, 5] [0, 1, 2, 3, 5, 4] rfl rfl rfl rfl (by decide) rfl rfl rfl rfl rfl hl.1 (by simp only [List.map, List.sum_cons, List.sum_nil, Value.category]; decide) dX6_lay_45 (fun H locs hw => ?_)
        refine lv_iconst (v := 1) hx hb dX6_lay_48 (by decide) ?_
        obtain ⟨rfl, rfl, rfl, rfl, rfl⟩ := e5_ hf
        exact r_iret C0 hw trivial dX6_lay_49
      · have hf := if_f hc26 hf
        refine lv_bipush (v := -10) hx hb dX6_lay_35 (by decide) ?_
        refine lv_iload hx hb dX6_lay_37 (lv_at hl 0 rfl) ?_
        refine lv_isub hx hb dX6_lay_39 ?_
        obtain ⟨rfl, rfl, rfl, rfl, rfl⟩ := e5_ hf
        exact r_iret C0 hw trivial dX6_lay_40
    have hf := if_f hc22 hf
    by_cases hc30 : a1 = 3
    · have hf := if_t hc30 hf
      refine r_aldo C0 hw 2 5 (b := qh3 0) rfl rfl hi5 (by rw [hc30]; rfl) dX6_lay_14 ?_
      refine lv_astore (lv' := [(4, .ref (qh3 0)), (0, .ref (qx 0)), (1, .int a1), (2, .int a2), (3, .int a3)]) hx hb dX6_lay_15 hl (by decide) rfl (fun ls hl => ?_)
      refine lv_aload hx hb dX6_lay_17 (lv_at hl 0 rfl) ?_
      refine lv_aload hx hb dX6_lay_19 (lv_at hl 0 rfl) ?_
      refine r_get C0 hw 9 1 (v := .int h3_lane) rfl rfl inX3 (by decide) lk_X6_241 rfl dX6_lay_21 ?_
      refine lv_iload_n hx hb dX6_lay_24 rfl (lv_at hl 3 rfl) ?_
      obtain ⟨r31, hk32, hf⟩ := b1_s hf
      refine rv_i (vq := (RX3, TX3, 3)) (As := [.int h3_lane, .int a2]) (rest := []) (bs' := [pJm κ qx rx_tape rx_teller rx_balance rx_equations rx_images (qsa 0) rx_frame rx_draft x_kept x_textFault x_readFault, pOa (κ 5) 4 qsa [qh0 0, qh1 0, qh2 0, qh3 0], pSh κ qh0 h0_cells h0_lane h0_size, pSh κ qh1 h1_cells h1_lane h1_size, pSh κ qh2 h2_cells h2_lane h2_size, pSh κ qh3 h3_cells h3_lane h3_size]) C0 hw (cSh_faultAt l D κ qh3 h3_cells h3_lane h3_size h3_lane a2 r31 hk32) cv_RX6_244 ⟨rfl, rfl, Nat.le_of_ble_eq_true rfl, Nat.le_of_ble_eq_true rfl⟩ ⟨Nat.zero_le _, Nat.zero_le _⟩ [5] [0, 1, 2, 3, 4] [0, 1, 2, 3, 4, 5] rfl rfl rfl rfl (by decide) rfl rfl rfl rfl rfl hl.1 (by simp only [List.map, List.sum_cons, List.sum_nil, Value.category]; decide) dX6_lay_25 (fun H locs hw hn33 => ?_)
      refine lv_istore (lv' := [(5, .int r31), (4, .ref (qh3 0)), (0, .ref (qx 0)), (1, .int a1), (2, .int a2), (3, .int a3)]) hx hb dX6_lay_28 hl (by decide) rfl (fun ls hl => ?_)
      refine lv_iload hx hb dX6_lay_30 (lv_at hl 0 rfl) ?_
      refine lv_if_eq (tgt := 41) hx hb dX6_lay_32 (by decide) (fun hc34 => ?_) (fun hc34 => ?_)
      · have hf := if_t hc34 hf
        refine lv_aload hx hb dX6_lay_41 (lv_at hl 1 rfl) ?_
        refine lv_iload_n hx hb dX6_lay_43 rfl (lv_at hl 4 rfl) ?_
        refine lv_iload_n hx hb dX6_lay_44 rfl (lv_at hl 5 rfl) ?_
        obtain ⟨w35, hk36, hf⟩ := b1_s hf
        refine rv_v (vq := (RX3, TX3, 3)) (As := [.int a2, .int a3]) (rest := []) (bs' := [pJm κ qx rx_tape rx_teller rx_balance rx_equations rx_images (qsa 0) rx_frame rx_draft x_kept x_textFault x_readFault, pOa (κ 5) 4 qsa [qh0 0, qh1 0, qh2 0, qh3 0], pSh κ qh0 h0_cells h0_lane h0_size, pSh κ qh1 h1_cells h1_lane h1_size, pSh κ qh2 h2_cells h2_lane h2_size, pSh κ qh3 w35 h3_lane h3_size]) C0 hw (cSh_write l D κ qh3 h3_cells h3_lane h3_size a2 a3 w35 hk36) cv_RX6_248 ⟨rfl, rfl, Nat.le_of_ble_eq_true rfl, Nat.le_of_ble_eq_true rfl⟩ ⟨Nat.zero_le _, Nat.zero_le _⟩ [5] [0, 1, 2, 3, 4] [0, 1, 2, 3, 4, 5] rfl rfl rfl rfl (by decide) rfl rfl rfl rfl rfl hl.1 (by simp only [List.map, List.sum_cons, List.sum_nil, Value.category]; decide) dX6_lay_45 (fun H locs hw => ?_)
        refine lv_iconst (v := 1) hx hb dX6_lay_48 (by decide) ?_
        obtain ⟨rfl, rfl, rfl, rfl, rfl⟩ := e5_ hf
        exact r_iret C0 hw trivial dX6_lay_49
      · have hf := if_f hc34 hf
        refine lv_bipush (v := -10) hx hb dX6_lay_35 (by decide) ?_
        refine lv_iload hx hb dX6_lay_37 (lv_at hl 0 rfl) ?_
        refine lv_isub hx hb dX6_lay_39 ?_
        obtain ⟨rfl, rfl, rfl, rfl, rfl⟩ := e5_ hf
        exact r_iret C0 hw trivial dX6_lay_40
    have hf := if_f hc30 hf
    cases hf
  · have hf := if_t hc4 hf
    refine lv_iconst (v := -1) hx hb dX6_lay_7 (by decide) ?_
    obtain ⟨rfl, rfl, rfl, rfl, rfl⟩ := e5_ hf
    exact r_iret C0 hw trivial dX6_lay_8
def FJm_read_L42_0 (x_readFault : Int32) (b_moments b_endStiffs b_outs b_endsAt b_stiffAt b_stepsAt : Nat → Int32) (b_steps b_latest : Int32) (f_couples : Nat → Int32) (f_joints : Int32) (h0_cells : Nat → Int32) (h0_lane h0_size l2 l3 l4 : Int32) (k_ : Int32 → Int32 → Option (Int32 × Int32 × (Nat → Int32) × (Nat → Int32) × (Nat → Int32) × (Nat → Int32) × (Nat → Int32) × (Nat → Int32) × Int32 × Int32 × (Nat → Int32))) : Nat → Int32 → Int32 → Option (Int32 × Int32 × (Nat → Int32) × (Nat → Int32) × (Nat → Int32) × (Nat → Int32) × (Nat → Int32) × (Nat → Int32) × Int32 × Int32 × (Nat → Int32))
  | 0, _, _ => none
  | n + 1, l6, l7 =>
      lt_ (fun (v13 : Int32) =>
        k_ v13 l7 : Int32 → Option (Int32 × Int32 × (Nat → Int32) × (Nat → Int32) × (Nat → Int32) × (Nat → Int32) × (Nat → Int32) × (Nat → Int32) × Int32 × Int32 × (Nat → Int32))) fun j14 =>
      if l4 ≤ l7 then
        j14 l6
      else
        lt_ (l3 + ((2 : Int32) * l7)) fun v17 =>
        b1_ (FSh_faultOfTwo h0_lane h0_size l2 v17) fun r18 =>
        if r18 = 0 then
          gd_ v17 40 <|
          gd_ (v17 + (1 : Int32)) 40 <|
          b1_ (FJm_mayCouple f_joints (h0_cells v17.toNatClampNeg) (h0_cells (v17 + (1 : Int32)).toNatClampNeg)) fun r24 =>
          if r24 = 0 then
            some (((-20 : Int32) - l7), x_readFault, b_moments, b_endStiffs, b_outs, b_endsAt, b_stiffAt, b_stepsAt, b_steps, b_latest, f_couples)
          else
            lt_ (l7 + (1 : Int32)) fun v28 =>
            FJm_read_L42_0 x_readFault b_moments b_endStiffs b_outs b_endsAt b_stiffAt b_stepsAt b_steps b_latest f_couples f_joints h0_cells h0_lane h0_size l2 l3 l4 k_ n r18 v28
        else
          j14 r18
def FJm_read_L42_1 (x_readFault : Int32) (b_moments b_endStiffs b_outs b_endsAt b_stiffAt b_stepsAt : Nat → Int32) (b_steps b_latest : Int32) (f_couples : Nat → Int32) (f_joints : Int32) (h1_cells : Nat → Int32) (h1_lane h1_size l2 l3 l4 : Int32) (k_ : Int32 → Int32 → Option (Int32 × Int32 × (Nat → Int32) × (Nat → Int32) × (Nat → Int32) × (Nat → Int32) × (Nat → Int32) × (Nat → Int32) × Int32 × Int32 × (Nat → Int32))) : Nat → Int32 → Int32 → Option (Int32 × Int32 × (Nat → Int32) × (Nat → Int32) × (Nat → Int32) × (Nat → Int32) × (Nat → Int32) × (Nat → Int32) × Int32 × Int32 × (Nat → Int32))
  | 0, _, _ => none
  | n + 1, l6, l7 =>
      lt_ (fun (v45 : Int32) =>
        k_ v45 l7 : Int32 → Option (Int32 × Int32 × (Nat → Int32) × (Nat → Int32) × (Nat → Int32) × (Nat → Int32) × (Nat → Int32) × (Nat → Int32) × Int32 × Int32 × (Nat → Int32))) fun j46 =>
      if l4 ≤ l7 then
        j46 l6
      else
        lt_ (l3 + ((2 : Int32) * l7)) fun v49 =>
        b1_ (FSh_faultOfTwo h1_lane h1_size l2 v49) fun r50 =>
        if r50 = 0 then
          gd_ v49 40 <|
          gd_ (v49 + (1 : Int32)) 40 <|
          b1_ (FJm_mayCouple f_joints (h1_cells v49.toNatClampNeg) (h1_cells (v49 + (1 : Int32)).toNatClampNeg)) fun r56 =>
          if r56 = 0 then
            some (((-20 : Int32) - l7), x_readFault, b_moments, b_endStiffs, b_outs, b_endsAt, b_stiffAt, b_stepsAt, b_steps, b_latest, f_couples)
          else
            lt_ (l7 + (1 : Int32)) fun v60 =>
            FJm_read_L42_1 x_readFault b_moments b_endStiffs b_outs b_endsAt b_stiffAt b_stepsAt b_steps b_latest f_couples f_joints h1_cells h1_lane h1_size l2 l3 l4 k_ n r50 v60
        else
          j46 r50
def FJm_read_L42_2 (x_readFault : Int32) (b_moments b_endStiffs b_outs b_endsAt b_stiffAt b_stepsAt : Nat → Int32) (b_steps b_latest : Int32) (f_couples : Nat → Int32) (f_joints : Int32) (h2_cells : Nat → Int32) (h2_lane h2_size l2 l3 l4 : Int32) (k_ : Int32 → Int32 → Option (Int32 × Int32 × (Nat → Int32) × (Nat → Int32) × (Nat → Int32) × (Nat → Int32) × (Nat → Int32) × (Nat → Int32) × Int32 × Int32 × (Nat → Int32))) : Nat → Int32 → Int32 → Option (Int32 × Int32 × (Nat → Int32) × (Nat → Int32) × (Nat → Int32) × (Nat → Int32) × (Nat → Int32) × (Nat → Int32) × Int32 × Int32 × (Nat → Int32))
  | 0, _, _ => none
  | n + 1, l6, l7 =>
      lt_ (fun (v77 : Int32) =>
        k_ v77 l7 : Int32 → Option (Int32 × Int32 × (Nat → Int32) × (Nat → Int32) × (Nat → Int32) × (Nat → Int32) × (Nat → Int32) × (Nat → Int32) × Int32 × Int32 × (Nat → Int32))) fun j78 =>
      if l4 ≤ l7 then
        j78 l6
      else
        lt_ (l3 + ((2 : Int32) * l7)) fun v81 =>
        b1_ (FSh_faultOfTwo h2_lane h2_size l2 v81) fun r82 =>
        if r82 = 0 then
          gd_ v81 40 <|
          gd_ (v81 + (1 : Int32)) 40 <|
          b1_ (FJm_mayCouple f_joints (h2_cells v81.toNatClampNeg) (h2_cells (v81 + (1 : Int32)).toNatClampNeg)) fun r88 =>
          if r88 = 0 then
            some (((-20 : Int32) - l7), x_readFault, b_moments, b_endStiffs, b_outs, b_endsAt, b_stiffAt, b_stepsAt, b_steps, b_latest, f_couples)
          else
            lt_ (l7 + (1 : Int32)) fun v92 =>
            FJm_read_L42_2 x_readFault b_moments b_endStiffs b_outs b_endsAt b_stiffAt b_stepsAt b_steps b_latest f_couples f_joints h2_cells h2_lane h2_size l2 l3 l4 k_ n r82 v92
        else
          j78 r82
def FJm_read_L42_3 (x_readFault : Int32) (b_moments b_endStiffs b_outs b_endsAt b_stiffAt b_stepsAt : Nat → Int32) (b_steps b_latest : Int32) (f_couples : Nat → Int32) (f_joints : Int32) (h3_cells : Nat → Int32) (h3_lane h3_size l2 l3 l4 : Int32) (k_ : Int32 → Int32 → Option (Int32 × Int32 × (Nat → Int32) × (Nat → Int32) × (Nat → Int32) × (Nat → Int32) × (Nat → Int32) × (Nat → Int32) × Int32 × Int32 × (Nat → Int32))) : Nat → Int32 → Int32 → Option (Int32 × Int32 × (Nat → Int32) × (Nat → Int32) × (Nat → Int32) × (Nat → Int32) × (Nat → Int32) × (Nat → Int32) × Int32 × Int32 × (Nat → Int32))
  | 0, _, _ => none
  | n + 1, l6, l7 =>
      lt_ (fun (v109 : Int32) =>
        k_ v109 l7 : Int32 → Option (Int32 × Int32 × (Nat → Int32) × (Nat → Int32) × (Nat → Int32) × (Nat → Int32) × (Nat → Int32) × (Nat → Int32) × Int32 × Int32 × (Nat → Int32))) fun j110 =>
      if l4 ≤ l7 then
        j110 l6
      else
        lt_ (l3 + ((2 : Int32) * l7)) fun v113 =>
        b1_ (FSh_faultOfTwo h3_lane h3_size l2 v113) fun r114 =>
        if r114 = 0 then
          gd_ v113 40 <|
          gd_ (v113 + (1 : Int32)) 40 <|
          b1_ (FJm_mayCouple f_joints (h3_cells v113.toNatClampNeg) (h3_cells (v113 + (1 : Int32)).toNatClampNeg)) fun r120 =>
          if r120 = 0 then
            some (((-20 : Int32) - l7), x_readFault, b_moments, b_endStiffs, b_outs, b_endsAt, b_stiffAt, b_stepsAt, b_steps, b_latest, f_couples)
          else
            lt_ (l7 + (1 : Int32)) fun v124 =>
            FJm_read_L42_3 x_readFault b_moments b_endStiffs b_outs b_endsAt b_stiffAt b_stepsAt b_steps b_latest f_couples f_joints h3_cells h3_lane h3_size l2 l3 l4 k_ n r114 v124
        else
          j110 r114
def FJm_read (x_readFault : Int32) (b_moments b_endStiffs b_outs b_endsAt b_stiffAt b_stepsAt : Nat → Int32) (b_steps b_latest : Int32) (f_couples f_endJoints f_lengths f_stiffs f_loadBeams f_loadSizes f_loadPlaces : Nat → Int32) (f_joints f_beams f_loads : Int32) (h0_cells : Nat → Int32) (h0_lane h0_size : Int32) (h1_cells : Nat → Int32) (h1_lane h1_size : Int32) (h2_cells : Nat → Int32) (h2_lane h2_size : Int32) (h3_cells : Nat → Int32) (h3_lane h3_size a1 a2 a3 a4 : Int32) : Option (Int32 × Int32 × (Nat → Int32) × (Nat → Int32) × (Nat → Int32) × (Nat → Int32) × (Nat → Int32) × (Nat → Int32) × Int32 × Int32 × (Nat → Int32)) :=
  b1_ (FJm_isSheet a1) fun r1 =>
  if r1 = 0 then
    some ((-1 : Int32), x_readFault, b_moments, b_endStiffs, b_outs, b_endsAt, b_stiffAt, b_stepsAt, b_steps, b_latest, f_couples)
  else
    b1_ (FJm_isLane a2) fun r5 =>
    if r5 = 0 then
      some ((-1 : Int32), x_readFault, b_moments, b_endStiffs, b_outs, b_endsAt, b_stiffAt, b_stepsAt, b_steps, b_latest, f_couples)
    else
      if a4 < 0 then
        some ((-1 : Int32), x_readFault, b_moments, b_endStiffs, b_outs, b_endsAt, b_stiffAt, b_stepsAt, b_steps, b_latest, f_couples)
      else
        if a4 ≤ (20 : Int32) then
          gd_ a1 4 <|
          if a1 = 0 then
            FJm_read_L42_0 x_readFault b_moments b_endStiffs b_outs b_endsAt b_stiffAt b_stepsAt b_steps b_latest f_couples f_joints h0_cells h0_lane h0_size a2 a3 a4 (fun (v31 : Int32) (v32 : Int32) =>
                b9_ (FJm_takeCouples b_moments b_endStiffs b_outs b_endsAt b_stiffAt b_stepsAt b_steps b_latest f_couples f_endJoints f_lengths f_stiffs f_loadBeams f_loadSizes f_loadPlaces f_beams f_loads h0_cells a3 v32) fun w33 w34 w35 w36 w37 w38 w39 w40 w41 =>
                some (v32, v31, w33, w34, w35, w36, w37, w38, w39, w40, w41)) 1000 (0 : Int32) (0 : Int32)
          else
          if a1 = 1 then
            FJm_read_L42_1 x_readFault b_moments b_endStiffs b_outs b_endsAt b_stiffAt b_stepsAt b_steps b_latest f_couples f_joints h1_cells h1_lane h1_size a2 a3 a4 (fun (v63 : Int32) (v64 : Int32) =>
                b9_ (FJm_takeCouples b_moments b_endStiffs b_outs b_endsAt b_stiffAt b_stepsAt b_steps b_latest f_couples f_endJoints f_lengths f_stiffs f_loadBeams f_loadSizes f_loadPlaces f_beams f_loads h1_cells a3 v64) fun w65 w66 w67 w68 w69 w70 w71 w72 w73 =>
                some (v64, v63, w65, w66, w67, w68, w69, w70, w71, w72, w73)) 1000 (0 : Int32) (0 : Int32)
          else
          if a1 = 2 then
            FJm_read_L42_2 x_readFault b_moments b_endStiffs b_outs b_endsAt b_stiffAt b_stepsAt b_steps b_latest f_couples f_joints h2_cells h2_lane h2_size a2 a3 a4 (fun (v95 : Int32) (v96 : Int32) =>
                b9_ (FJm_takeCouples b_moments b_endStiffs b_outs b_endsAt b_stiffAt b_stepsAt b_steps b_latest f_couples f_endJoints f_lengths f_stiffs f_loadBeams f_loadSizes f_loadPlaces f_beams f_loads h2_cells a3 v96) fun w97 w98 w99 w100 w101 w102 w103 w104 w105 =>
                some (v96, v95, w97, w98, w99, w100, w101, w102, w103, w104, w105)) 1000 (0 : Int32) (0 : Int32)
          else
          if a1 = 3 then
            FJm_read_L42_3 x_readFault b_moments b_endStiffs b_outs b_endsAt b_stiffAt b_stepsAt b_steps b_latest f_couples f_joints h3_cells h3_lane h3_size a2 a3 a4 (fun (v127 : Int32) (v128 : Int32) =>
                b9_ (FJm_takeCouples b_moments b_endStiffs b_outs b_endsAt b_stiffAt b_stepsAt b_steps b_latest f_couples f_endJoints f_lengths f_stiffs f_loadBeams f_loadSizes f_loadPlaces f_beams f_loads h3_cells a3 v128) fun w129 w130 w131 w132 w133 w134 w135 w136 w137 =>
                some (v128, v127, w129, w130, w131, w132, w133, w134, w135, w136, w137)) 1000 (0 : Int32) (0 : Int32)
          else
          none
        else
          some ((-1 : Int32), x_readFault, b_moments, b_endStiffs, b_outs, b_endsAt, b_stiffAt, b_stepsAt, b_steps, b_latest, f_couples)
set_option maxHeartbeats 4000000 in
set_option maxRecDepth 100000 in
theorem wJm_read_L42_0 {p : Program} {l : Launch} {e : Env} {s : State} {m : MethodId} {args : Array Value} {below : List Frame} {meth : Method} {c : Code} {A : Nat → Prop} {D : va_G} {κ : Nat → ClassId} (C0 : cx_ p s m meth c args cX6_read RX6 (some .int) 9 A) (qx : Nat → Nat) (rx_tape rx_teller rx_equations rx_images rx_draft : Nat) (x_kept : Nat → Int32) (x_textFault x_readFault : Int32) (qb : Nat → Nat) (b_moments b_gains b_topped b_endStiffs b_outs b_endsAt b_stiffAt b_stepsAt : Nat → Int32) (b_steps b_latest : Int32) (qf : Nat → Nat) (f_held f_couples f_endJoints f_lengths f_stiffs f_loadBeams f_loadSizes f_loadPlaces : Nat → Int32) (f_joints f_beams f_loads : Int32) (qsa qh0 : Nat → Nat) (h0_cells : Nat → Int32) (h0_lane h0_size : Int32) (qh1 : Nat → Nat) (h1_cells : Nat → Int32) (h1_lane h1_size : Int32) (qh2 : Nat → Nat) (h2_cells : Nat → Int32) (h2_lane h2_size : Int32) (qh3 : Nat → Nat) (h3_cells : Nat → Int32) (h3_lane h3_size l2 l3 l4 : Int32) (zr z1 : Int32) (z2 z3 z4 z5 z6 z7 : Nat → Int32) (z8 z9 : Int32) (z10 : Nat → Int32) (k_ : Int32 → Int32 → Option (Int32 × Int32 × (Nat → Int32) × (Nat → Int32) × (Nat → Int32) × (Nat → Int32) × (Nat → Int32) × (Nat → Int32) × Int32 × Int32 × (Nat → Int32))) (hk_ : ∀ (l6 : Int32) (l7 : Int32) (H : Heap) (locs : List Loc) (ls : Array Slot), wd_ D (tys0 κ) A s (List.flatten [pJm κ qx rx_tape rx_teller (qb 0) rx_equations rx_images (qsa 0) (qf 0) rx_draft x_kept x_textFault x_readFault, pBa κ qb b_moments b_gains b_topped b_endStiffs b_outs b_endsAt b_stiffAt b_stepsAt b_steps b_latest, pFr κ qf f_held f_couples f_endJoints f_lengths f_stiffs f_loadBeams f_loadSizes f_loadPlaces f_joints f_beams f_loads, pOa (κ 5) 4 qsa [qh0 0, qh1 0, qh2 0, qh3 0], pSh κ qh0 h0_cells h0_lane h0_size, pSh κ qh1 h1_cells h1_lane h1_size, pSh κ qh2 h2_cells h2_lane h2_size, pSh κ qh3 h3_cells h3_lane h3_size]) H locs → lv_has ls 9 [(0, .ref (qx 0)), (3, .int l3), (5, .ref (qh0 0)), (6, .int l6), (7, .int l7)] → k_ l6 l7 = some (zr, z1, z2, z3, z4, z5, z6, z7, z8, z9, z10) → W p l e ({ frames := 4, cells := 0, slots := 0, locals := 96 } : Room) s m args below meth c H locs 0 0 (qI_ D (tys0 κ) A nT_ zr (List.flatten [pJm κ qx rx_tape rx_teller (qb 0) rx_equations rx_images (qsa 0) (qf 0) rx_draft x_kept x_textFault z1, pBa κ qb z2 b_gains b_topped z3 z4 z5 z6 z7 z8 z9, pFr κ qf f_held z10 f_endJoints f_lengths f_stiffs f_loadBeams f_loadSizes f_loadPlaces f_joints f_beams f_loads, pOa (κ 5) 4 qsa [qh0 0, qh1 0, qh2 0, qh3 0], pSh κ qh0 h0_cells h0_lane h0_size, pSh κ qh1 h1_cells h1_lane h1_size, pSh κ qh2 h2_cells h2_lane h2_size, pSh κ qh3 h3_cells h3_lane h3_size]) below args s) (F0 m 112 ls [])) : ∀ (n : Nat) (l6 : Int32) (l7 : Int32) (H : Heap) (locs : List Loc) (ls : Array Slot), wd_ D (tys0 κ) A s (List.flatten [pJm κ qx rx_tape rx_teller (qb 0) rx_equations rx_images (qsa 0) (qf 0) rx_draft x_kept x_textFault x_readFault, pBa κ qb b_moments b_gains b_topped b_endStiffs b_outs b_endsAt b_stiffAt b_stepsAt b_steps b_latest, pFr κ qf f_held f_couples f_endJoints f_lengths f_stiffs f_loadBeams f_loadSizes f_loadPlaces f_joints f_beams f_loads, pOa (κ 5) 4 qsa [qh0 0, qh1 0, qh2 0, qh3 0], pSh κ qh0 h0_cells h0_lane h0_size, pSh κ qh1 h1_cells h1_lane h1_size, pSh κ qh2 h2_cells h2_lane h2_size, pSh κ qh3 h3_cells h3_lane h3_size]) H locs → lv_has ls 9 [(0, .ref (qx 0)), (2, .int l2), (3, .int l3), (4, .int l4), (5, .ref (qh0 0)), (6, .int l6), (7, .int l7)] → FJm_read_L42_0 x_readFault b_moments b_endStiffs b_outs b_endsAt b_stiffAt b_stepsAt b_steps b_latest f_couples f_joints h0_cells h0_lane h0_size l2 l3 l4 k_ n l6 l7 = some (zr, z1, z2, z3, z4, z5, z6, z7, z8, z9, z10) → W p l e ({ frames := 4, cells := 0, slots := 0, locals := 96 } : Room) s m args below meth c H locs 0 0 (qI_ D (tys0 κ) A nT_ zr (List.flatten [pJm κ qx rx_tape rx_teller (qb 0) rx_equations rx_images (qsa 0) (qf 0) rx_draft x_kept x_textFault z1, pBa κ qb z2 b_gains b_topped z3 z4 z5 z6 z7 z8 z9, pFr κ qf f_held z10 f_endJoints f_lengths f_stiffs f_loadBeams f_loadSizes f_loadPlaces f_joints f_beams f_loads, pOa (κ 5) 4 qsa [qh0 0, qh1 0, qh2 0, qh3 0], pSh κ qh0 h0_cells h0_lane h0_size, pSh κ qh1 h1_cells h1_lane h1_size, pSh κ qh2 h2_cells h2_lane h2_size, pSh κ qh3 h3_cells h3_lane h3_size]) below args s) (F0 m 42 ls []) := by
  obtain ⟨hx, hb, -, hml, hown, hts, -, -⟩ := id C0
  intro n
  induction n with
  | zero =>
    intro l6 l7 H locs ls hw hl  hf
    cases hf
  | succ n ih =>
    intro l6 l7 H locs ls hw hl  hf
    rw [FJm_read_L42_0.eq_2] at hf
    refine lv_iload hx hb dX6_read_42 (lv_at hl 6 rfl) ?_
    refine lv_iload hx hb dX6_read_44 (lv_at hl 3 rfl) ?_
    obtain ⟨j14, ej14, hf⟩ := lt_e hf
    have hj15 : ∀ (v13 : Int32) (H : Heap) (locs : List Loc) (ls : Array Slot), wd_ D (tys0 κ) A s (List.flatten [pJm κ qx rx_tape rx_teller (qb 0) rx_equations rx_images (qsa 0) (qf 0) rx_draft x_kept x_textFault x_readFault, pBa κ qb b_moments b_gains b_topped b_endStiffs b_outs b_endsAt b_stiffAt b_stepsAt b_steps b_latest, pFr κ qf f_held f_couples f_endJoints f_lengths f_stiffs f_loadBeams f_loadSizes f_loadPlaces f_joints f_beams f_loads, pOa (κ 5) 4 qsa [qh0 0, qh1 0, qh2 0, qh3 0], pSh κ qh0 h0_cells h0_lane h0_size, pSh κ qh1 h1_cells h1_lane h1_size, pSh κ qh2 h2_cells h2_lane h2_size, pSh κ qh3 h3_cells h3_lane h3_size]) H locs → lv_has ls 9 [(0, .ref (qx 0)), (3, .int l3), (5, .ref (qh0 0)), (7, .int l7), (6, .int v13)] → j14 v13 = some (zr, z1, z2, z3, z4, z5, z6, z7, z8, z9, z10) → W p l e ({ frames := 4, cells := 0, slots := 0, locals := 96 } : Room) s m args below meth c H locs 0 0 (qI_ D (tys0 κ) A nT_ zr (List.flatten [pJm κ qx rx_tape rx_teller (qb 0) rx_equations rx_images (qsa 0) (qf 0) rx_draft x_kept x_textFault z1, pBa κ qb z2 b_gains b_topped z3 z4 z5 z6 z7 z8 z9, pFr κ qf f_held z10 f_endJoints f_lengths f_stiffs f_loadBeams f_loadSizes f_loadPlaces f_joints f_beams f_loads, pOa (κ 5) 4 qsa [qh0 0, qh1 0, qh2 0, qh3 0], pSh κ qh0 h0_cells h0_lane h0_size, pSh κ qh1 h1_cells h1_lane h1_size, pSh κ qh2 h2_cells h2_lane h2_size, pSh κ qh3 h3_cells h3_lane h3_size]) below args s) (F0 m 112 ls []) := by
      intro v13 H locs ls hw hl  hf
      have hf : (k_ v13 l7) = some (zr, z1, z2, z3, z4, z5, z6, z7, z8, z9, z10) := by rw [ej14] at hf; exact hf
      exact hk_ v13 l7 H locs ls hw (lv_sub hl [0, 1, 2, 4, 3] rfl)  hf
    refine lv_icmp_ge (tgt := 112) hx hb dX6_read_46 (by decide) (fun hc16 => ?_) (fun hc16 => ?_)
    · have hf := if_t hc16 hf
      exact hj15 l6 H locs ls hw (lv_sub hl [0, 2, 4, 6, 5] rfl)  hf
    · have hf := if_f hc16 hf
      refine lv_iload_n hx hb dX6_read_49 rfl (lv_at hl 2 rfl) ?_
      refine lv_iconst (v := 2) hx hb dX6_read_50 (by decide) ?_
      refine lv_iload hx hb dX6_read_51 (lv_at hl 6 rfl) ?_
      refine lv_imul hx hb dX6_read_53 ?_
      refine lv_iadd hx hb dX6_read_54 ?_
      refine lv_topi (fun v17 ev17 => ?_)
      have hf := lt_s_ hf v17 ev17
      refine lv_istore (lv' := [(8, .int v17), (0, .ref (qx 0)), (2, .int l2), (3, .int l3), (4, .int l4), (5, .ref (qh0 0)), (6, .int l6), (7, .int l7)]) hx hb dX6_read_55 hl (by decide) rfl (fun ls hl => ?_)
      refine lv_aload hx hb dX6_read_57 (lv_at hl 5 rfl) ?_
      refine lv_iload_n hx hb dX6_read_59 rfl (lv_at hl 2 rfl) ?_
      refine lv_iload hx hb dX6_read_60 (lv_at hl 0 rfl) ?_
      obtain ⟨r18, hk19, hf⟩ := b1_s hf
      refine rv_i (vq := (RX3, TX3, 3)) (As := [.int l2, .int v17]) (rest := []) (bs' := [pJm κ qx rx_tape rx_teller (qb 0) rx_equations rx_images (qsa 0) (qf 0) rx_draft x_kept x_textFault x_readFault, pBa κ qb b_moments b_gains b_topped b_endStiffs b_outs b_endsAt b_stiffAt b_stepsAt b_steps b_latest, pFr κ qf f_held f_couples f_endJoints f_lengths f_stiffs f_loadBeams f_loadSizes f_loadPlaces f_joints f_beams f_loads, pOa (κ 5) 4 qsa [qh0 0, qh1 0, qh2 0, qh3 0], pSh κ qh0 h0_cells h0_lane h0_size, pSh κ qh1 h1_cells h1_lane h1_size, pSh κ qh2 h2_cells h2_lane h2_size, pSh κ qh3 h3_cells h3_lane h3_size]) C0 hw (cSh_faultOfTwo l D κ qh0 h0_cells h0_lane h0_size l2 v17 r18 hk19) cv_RX6_251 ⟨rfl, rfl, Nat.le_of_ble_eq_true rfl, Nat.le_of_ble_eq_true rfl⟩ ⟨Nat.zero_le _, Nat.zero_le _⟩ [4] [0, 1, 2, 3, 5, 6, 7] [0, 1, 2, 3, 7, 4, 5, 6] rfl rfl rfl rfl (by decide) rfl rfl rfl rfl rfl hl.1 (by simp only [List.map, List.sum_cons, List.sum_nil, Value.category]; decide) dX6_read_62 (fun H locs hw hn20 => ?_)
      refine lv_istore (lv' := [(6, .int r18), (8, .int v17), (0, .ref (qx 0)), (2, .int l2), (3, .int l3), (4, .int l4), (5, .ref (qh0 0)), (7, .int l7)]) hx hb dX6_read_65 hl (by decide) rfl (fun ls hl => ?_)
      refine lv_iload hx hb dX6_read_67 (lv_at hl 0 rfl) ?_
      refine lv_if_eq (tgt := 75) hx hb dX6_read_69 (by decide) (fun hc21 => ?_) (fun hc21 => ?_)
      · have hf := if_t hc21 hf
        refine lv_aload_n hx hb dX6_read_75 rfl (lv_at hl 2 rfl) ?_
        refine lv_aload hx hb dX6_read_76 (lv_at hl 6 rfl) ?_
        refine r_get C0 hw 21 0 (v := .ref (qh0 1)) rfl rfl inX3 (by decide) lk_X6_254 rfl dX6_read_78 ?_
        refine lv_iload hx hb dX6_read_81 (lv_at hl 1 rfl) ?_
        obtain ⟨hi22, hf⟩ := gd_s hf
        refine r_iald C0 hw 22 0 rfl rfl hi22 dX6_read_83 ?_
        refine lv_aload hx hb dX6_read_84 (lv_at hl 6 rfl) ?_
        refine r_get C0 hw 21 0 (v := .ref (qh0 1)) rfl rfl inX3 (by decide) lk_X6_254 rfl dX6_read_86 ?_
        refine lv_iload hx hb dX6_read_89 (lv_at hl 1 rfl) ?_
        refine lv_iconst (v := 1) hx hb dX6_read_91 (by decide) ?_
        refine lv_iadd hx hb dX6_read_92 ?_
        obtain ⟨hi23, hf⟩ := gd_s hf
        refine r_iald C0 hw 22 0 rfl rfl hi23 dX6_read_93 ?_
        obtain ⟨r24, hk25, hf⟩ := b1_s hf
        refine rv_i (vq := (RX6, TX6, 11)) (As := [.int (h0_cells v17.toNatClampNeg), .int (h0_cells (v17 + (1 : Int32)).toNatClampNeg)]) (rest := []) (bs' := [pJm κ qx rx_tape rx_teller (qb 0) rx_equations rx_images (qsa 0) (qf 0) rx_draft x_kept x_textFault x_readFault, pBa κ qb b_moments b_gains b_topped b_endStiffs b_outs b_endsAt b_stiffAt b_stepsAt b_steps b_latest, pFr κ qf f_held f_couples f_endJoints f_lengths f_stiffs f_loadBeams f_loadSizes f_loadPlaces f_joints f_beams f_loads, pOa (κ 5) 4 qsa [qh0 0, qh1 0, qh2 0, qh3 0], pSh κ qh0 h0_cells h0_lane h0_size, pSh κ qh1 h1_cells h1_lane h1_size, pSh κ qh2 h2_cells h2_lane h2_size, pSh κ qh3 h3_cells h3_lane h3_size]) C0 hw (cJm_mayCouple l D κ qx _ _ _ _ _ _ _ x_kept x_textFault x_readFault qf f_held f_couples f_endJoints f_lengths f_stiffs f_loadBeams f_loadSizes f_loadPlaces f_joints f_beams f_loads (h0_cells v17.toNatClampNeg) (h0_cells (v17 + (1 : Int32)).toNatClampNeg) r24 hk25) cv_RX6_210 ⟨rfl, rfl, Nat.le_of_ble_eq_true rfl, Nat.le_of_ble_eq_true rfl⟩ ⟨Nat.zero_le _, Nat.zero_le _⟩ [0, 2] [1, 3, 4, 5, 6, 7] [6, 0, 7, 1, 2, 3, 4, 5] rfl rfl rfl rfl (by decide) rfl rfl rfl rfl rfl hl.1 (by simp only [List.map, List.sum_cons, List.sum_nil, Value.category]; decide) dX6_read_94 (fun H locs hw hn26 => ?_)
        refine lv_if_ne (tgt := 106) hx hb dX6_read_97 (by decide) (fun hc27 => ?_) (fun hc27 => ?_)
        · have hf := if_f hc27 hf
          obtain ⟨v28, ev28⟩ : ∃ z : Int32, z = (l7 + (1 : Int32)) := ⟨_, rfl⟩
          have hf := lt_s_ hf v28 ev28
          refine lv_iinc (v := v28) (lv' := [(7, .int v28), (6, .int r18), (8, .int v17), (0, .ref (qx 0)), (2, .int l2), (3, .int l3), (4, .int l4), (5, .ref (qh0 0))]) hx hb dX6_read_106 hl (k := 7) rfl (by rw [ev28]; rfl) (by decide) rfl (fun ls hl => ?_)
          refine lv_goto (tgt := 42) hx hb dX6_read_109 (by decide) ?_
          exact ih r18 v28 H locs ls hw (lv_sub hl [3, 4, 5, 6, 7, 1, 0] rfl)  hf
        · have hf := if_t hc27 hf
          refine lv_bipush (v := -20) hx hb dX6_read_100 (by decide) ?_
          refine lv_iload hx hb dX6_read_102 (lv_at hl 7 rfl) ?_
          refine lv_isub hx hb dX6_read_104 ?_
          obtain ⟨rfl, rfl, rfl, rfl, rfl, rfl, rfl, rfl, rfl, rfl, rfl⟩ := e11_ hf
          exact r_iret C0 hw trivial dX6_read_105
      · have hf := if_f hc21 hf
        refine lv_goto (tgt := 112) hx hb dX6_read_72 (by decide) ?_
        exact hj15 r18 H locs ls hw (lv_sub hl [2, 4, 6, 7, 0] rfl)  hf
set_option maxHeartbeats 4000000 in
set_option maxRecDepth 100000 in
theorem wJm_read_L42_1 {p : Program} {l : Launch} {e : Env} {s : State} {m : MethodId} {args : Array Value} {below : List Frame} {meth : Method} {c : Code} {A : Nat → Prop} {D : va_G} {κ : Nat → ClassId} (C0 : cx_ p s m meth c args cX6_read RX6 (some .int) 9 A) (qx : Nat → Nat) (rx_tape rx_teller rx_equations rx_images rx_draft : Nat) (x_kept : Nat → Int32) (x_textFault x_readFault : Int32) (qb : Nat → Nat) (b_moments b_gains b_topped b_endStiffs b_outs b_endsAt b_stiffAt b_stepsAt : Nat → Int32) (b_steps b_latest : Int32) (qf : Nat → Nat) (f_held f_couples f_endJoints f_lengths f_stiffs f_loadBeams f_loadSizes f_loadPlaces : Nat → Int32) (f_joints f_beams f_loads : Int32) (qsa qh0 : Nat → Nat) (h0_cells : Nat → Int32) (h0_lane h0_size : Int32) (qh1 : Nat → Nat) (h1_cells : Nat → Int32) (h1_lane h1_size : Int32) (qh2 : Nat → Nat) (h2_cells : Nat → Int32) (h2_lane h2_size : Int32) (qh3 : Nat → Nat) (h3_cells : Nat → Int32) (h3_lane h3_size l2 l3 l4 : Int32) (zr z1 : Int32) (z2 z3 z4 z5 z6 z7 : Nat → Int32) (z8 z9 : Int32) (z10 : Nat → Int32) (k_ : Int32 → Int32 → Option (Int32 × Int32 × (Nat → Int32) × (Nat → Int32) × (Nat → Int32) × (Nat → Int32) × (Nat → Int32) × (Nat → Int32) × Int32 × Int32 × (Nat → Int32))) (hk_ : ∀ (l6 : Int32) (l7 : Int32) (H : Heap) (locs : List Loc) (ls : Array Slot), wd_ D (tys0 κ) A s (List.flatten [pJm κ qx rx_tape rx_teller (qb 0) rx_equations rx_images (qsa 0) (qf 0) rx_draft x_kept x_textFault x_readFault, pBa κ qb b_moments b_gains b_topped b_endStiffs b_outs b_endsAt b_stiffAt b_stepsAt b_steps b_latest, pFr κ qf f_held f_couples f_endJoints f_lengths f_stiffs f_loadBeams f_loadSizes f_loadPlaces f_joints f_beams f_loads, pOa (κ 5) 4 qsa [qh0 0, qh1 0, qh2 0, qh3 0], pSh κ qh0 h0_cells h0_lane h0_size, pSh κ qh1 h1_cells h1_lane h1_size, pSh κ qh2 h2_cells h2_lane h2_size, pSh κ qh3 h3_cells h3_lane h3_size]) H locs → lv_has ls 9 [(0, .ref (qx 0)), (3, .int l3), (5, .ref (qh1 0)), (6, .int l6), (7, .int l7)] → k_ l6 l7 = some (zr, z1, z2, z3, z4, z5, z6, z7, z8, z9, z10) → W p l e ({ frames := 4, cells := 0, slots := 0, locals := 96 } : Room) s m args below meth c H locs 0 0 (qI_ D (tys0 κ) A nT_ zr (List.flatten [pJm κ qx rx_tape rx_teller (qb 0) rx_equations rx_images (qsa 0) (qf 0) rx_draft x_kept x_textFault z1, pBa κ qb z2 b_gains b_topped z3 z4 z5 z6 z7 z8 z9, pFr κ qf f_held z10 f_endJoints f_lengths f_stiffs f_loadBeams f_loadSizes f_loadPlaces f_joints f_beams f_loads, pOa (κ 5) 4 qsa [qh0 0, qh1 0, qh2 0, qh3 0], pSh κ qh0 h0_cells h0_lane h0_size, pSh κ qh1 h1_cells h1_lane h1_size, pSh κ qh2 h2_cells h2_lane h2_size, pSh κ qh3 h3_cells h3_lane h3_size]) below args s) (F0 m 112 ls [])) : ∀ (n : Nat) (l6 : Int32) (l7 : Int32) (H : Heap) (locs : List Loc) (ls : Array Slot), wd_ D (tys0 κ) A s (List.flatten [pJm κ qx rx_tape rx_teller (qb 0) rx_equations rx_images (qsa 0) (qf 0) rx_draft x_kept x_textFault x_readFault, pBa κ qb b_moments b_gains b_topped b_endStiffs b_outs b_endsAt b_stiffAt b_stepsAt b_steps b_latest, pFr κ qf f_held f_couples f_endJoints f_lengths f_stiffs f_loadBeams f_loadSizes f_loadPlaces f_joints f_beams f_loads, pOa (κ 5) 4 qsa [qh0 0, qh1 0, qh2 0, qh3 0], pSh κ qh0 h0_cells h0_lane h0_size, pSh κ qh1 h1_cells h1_lane h1_size, pSh κ qh2 h2_cells h2_lane h2_size, pSh κ qh3 h3_cells h3_lane h3_size]) H locs → lv_has ls 9 [(0, .ref (qx 0)), (2, .int l2), (3, .int l3), (4, .int l4), (5, .ref (qh1 0)), (6, .int l6), (7, .int l7)] → FJm_read_L42_1 x_readFault b_moments b_endStiffs b_outs b_endsAt b_stiffAt b_stepsAt b_steps b_latest f_couples f_joints h1_cells h1_lane h1_size l2 l3 l4 k_ n l6 l7 = some (zr, z1, z2, z3, z4, z5, z6, z7, z8, z9, z10) → W p l e ({ frames := 4, cells := 0, slots := 0, locals := 96 } : Room) s m args below meth c H locs 0 0 (qI_ D (tys0 κ) A nT_ zr (List.flatten [pJm κ qx rx_tape rx_teller (qb 0) rx_equations rx_images (qsa 0) (qf 0) rx_draft x_kept x_textFault z1, pBa κ qb z2 b_gains b_topped z3 z4 z5 z6 z7 z8 z9, pFr κ qf f_held z10 f_endJoints f_lengths f_stiffs f_loadBeams f_loadSizes f_loadPlaces f_joints f_beams f_loads, pOa (κ 5) 4 qsa [qh0 0, qh1 0, qh2 0, qh3 0], pSh κ qh0 h0_cells h0_lane h0_size, pSh κ qh1 h1_cells h1_lane h1_size, pSh κ qh2 h2_cells h2_lane h2_size, pSh κ qh3 h3_cells h3_lane h3_size]) below args s) (F0 m 42 ls []) := by
  obtain ⟨hx, hb, -, hml, hown, hts, -, -⟩ := id C0
  intro n
  induction n with
  | zero =>
    intro l6 l7 H locs ls hw hl  hf
    cases hf
  | succ n ih =>
    intro l6 l7 H locs ls hw hl  hf
    rw [FJm_read_L42_1.eq_2] at hf
    refine lv_iload hx hb dX6_read_42 (lv_at hl 6 rfl) ?_
    refine lv_iload hx hb dX6_read_44 (lv_at hl 3 rfl) ?_
    obtain ⟨j46, ej46, hf⟩ := lt_e hf
    have hj47 : ∀ (v45 : Int32) (H : Heap) (locs : List Loc) (ls : Array Slot), wd_ D (tys0 κ) A s (List.flatten [pJm κ qx rx_tape rx_teller (qb 0) rx_equations rx_images (qsa 0) (qf 0) rx_draft x_kept x_textFault x_readFault, pBa κ qb b_moments b_gains b_topped b_endStiffs b_outs b_endsAt b_stiffAt b_stepsAt b_steps b_latest, pFr κ qf f_held f_couples f_endJoints f_lengths f_stiffs f_loadBeams f_loadSizes f_loadPlaces f_joints f_beams f_loads, pOa (κ 5) 4 qsa [qh0 0, qh1 0, qh2 0, qh3 0], pSh κ qh0 h0_cells h0_lane h0_size, pSh κ qh1 h1_cells h1_lane h1_size, pSh κ qh2 h2_cells h2_lane h2_size, pSh κ qh3 h3_cells h3_lane h3_size]) H locs → lv_has ls 9 [(0, .ref (qx 0)), (3, .int l3), (5, .ref (qh1 0)), (7, .int l7), (6, .int v45)] → j46 v45 = some (zr, z1, z2, z3, z4, z5, z6, z7, z8, z9, z10) → W p l e ({ frames := 4, cells := 0, slots := 0, locals := 96 } : Room) s m args below meth c H locs 0 0 (qI_ D (tys0 κ) A nT_ zr (List.flatten [pJm κ qx rx_tape rx_teller (qb 0) rx_equations rx_images (qsa 0) (qf 0) rx_draft x_kept x_textFault z1, pBa κ qb z2 b_gains b_topped z3 z4 z5 z6 z7 z8 z9, pFr κ qf f_held z10 f_endJoints f_lengths f_stiffs f_loadBeams f_loadSizes f_loadPlaces f_joints f_beams f_loads, pOa (κ 5) 4 qsa [qh0 0, qh1 0, qh2 0, qh3 0], pSh κ qh0 h0_cells h0_lane h0_size, pSh κ qh1 h1_cells h1_lane h1_size, pSh κ qh2 h2_cells h2_lane h2_size, pSh κ qh3 h3_cells h3_lane h3_size]) below args s) (F0 m 112 ls []) := by
      intro v45 H locs ls hw hl  hf
      have hf : (k_ v45 l7) = some (zr, z1, z2, z3, z4, z5, z6, z7, z8, z9, z10) := by rw [ej46] at hf; exact hf
      exact hk_ v45 l7 H locs ls hw (lv_sub hl [0, 1, 2, 4, 3] rfl)  hf
    refine lv_icmp_ge (tgt := 112) hx hb dX6_read_46 (by decide) (fun hc48 => ?_) (fun hc48 => ?_)
    · have hf := if_t hc48 hf
      exact hj47 l6 H locs ls hw (lv_sub hl [0, 2, 4, 6, 5] rfl)  hf
    · have hf := if_f hc48 hf
      refine lv_iload_n hx hb dX6_read_49 rfl (lv_at hl 2 rfl) ?_
      refine lv_iconst (v := 2) hx hb dX6_read_50 (by decide) ?_
      refine lv_iload hx hb dX6_read_51 (lv_at hl 6 rfl) ?_
      refine lv_imul hx hb dX6_read_53 ?_
      refine lv_iadd hx hb dX6_read_54 ?_
      refine lv_topi (fun v49 ev49 => ?_)
      have hf := lt_s_ hf v49 ev49
      refine lv_istore (lv' := [(8, .int v49), (0, .ref (qx 0)), (2, .int l2), (3, .int l3), (4, .int l4), (5, .ref (qh1 0)), (6, .int l6), (7, .int l7)]) hx hb dX6_read_55 hl (by decide) rfl (fun ls hl => ?_)
      refine lv_aload hx hb dX6_read_57 (lv_at hl 5 rfl) ?_
      refine lv_iload_n hx hb dX6_read_59 rfl (lv_at hl 2 rfl) ?_
      refine lv_iload hx hb dX6_read_60 (lv_at hl 0 rfl) ?_
      obtain ⟨r50, hk51, hf⟩ := b1_s hf
      refine rv_i (vq := (RX3, TX3, 3)) (As := [.int l2, .int v49]) (rest := []) (bs' := [pJm κ qx rx_tape rx_teller (qb 0) rx_equations rx_images (qsa 0) (qf 0) rx_draft x_kept x_textFault x_readFault, pBa κ qb b_moments b_gains b_topped b_endStiffs b_outs b_endsAt b_stiffAt b_stepsAt b_steps b_latest, pFr κ qf f_held f_couples f_endJoints f_lengths f_stiffs f_loadBeams f_loadSizes f_loadPlaces f_joints f_beams f_loads, pOa (κ 5) 4 qsa [qh0 0, qh1 0, qh2 0, qh3 0], pSh κ qh0 h0_cells h0_lane h0_size, pSh κ qh1 h1_cells h1_lane h1_size, pSh κ qh2 h2_cells h2_lane h2_size, pSh κ qh3 h3_cells h3_lane h3_size]) C0 hw (cSh_faultOfTwo l D κ qh1 h1_cells h1_lane h1_size l2 v49 r50 hk51) cv_RX6_251 ⟨rfl, rfl, Nat.le_of_ble_eq_true rfl, Nat.le_of_ble_eq_true rfl⟩ ⟨Nat.zero_le _, Nat.zero_le _⟩ [5] [0, 1, 2, 3, 4, 6, 7] [0, 1, 2, 3, 4, 7, 5, 6] rfl rfl rfl rfl (by decide) rfl rfl rfl rfl rfl hl.1 (by simp only [List.map, List.sum_cons, List.sum_nil, Value.category]; decide) dX6_read_62 (fun H locs hw hn52 => ?_)
      refine lv_istore (lv' := [(6, .int r50), (8, .int v49), (0, .ref (qx 0)), (2, .int l2), (3, .int l3), (4, .int l4), (5, .ref (qh1 0)), (7, .int l7)]) hx hb dX6_read_65 hl (by decide) rfl (fun ls hl => ?_)
      refine lv_iload hx hb dX6_read_67 (lv_at hl 0 rfl) ?_
      refine lv_if_eq (tgt := 75) hx hb dX6_read_69 (by decide) (fun hc53 => ?_) (fun hc53 => ?_)
      · have hf := if_t hc53 hf
        refine lv_aload_n hx hb dX6_read_75 rfl (lv_at hl 2 rfl) ?_
        refine lv_aload hx hb dX6_read_76 (lv_at hl 6 rfl) ?_
        refine r_get C0 hw 23 0 (v := .ref (qh1 1)) rfl rfl inX3 (by decide) lk_X6_254 rfl dX6_read_78 ?_
        refine lv_iload hx hb dX6_read_81 (lv_at hl 1 rfl) ?_
        obtain ⟨hi54, hf⟩ := gd_s hf
        refine r_iald C0 hw 24 0 rfl rfl hi54 dX6_read_83 ?_
        refine lv_aload hx hb dX6_read_84 (lv_at hl 6 rfl) ?_
        refine r_get C0 hw 23 0 (v := .ref (qh1 1)) rfl rfl inX3 (by decide) lk_X6_254 rfl dX6_read_86 ?_
        refine lv_iload hx hb dX6_read_89 (lv_at hl 1 rfl) ?_
        refine lv_iconst (v := 1) hx hb dX6_read_91 (by decide) ?_
        refine lv_iadd hx hb dX6_read_92 ?_
        obtain ⟨hi55, hf⟩ := gd_s hf
        refine r_iald C0 hw 24 0 rfl rfl hi55 dX6_read_93 ?_
        obtain ⟨r56, hk57, hf⟩ := b1_s hf
        refine rv_i (vq := (RX6, TX6, 11)) (As := [.int (h1_cells v49.toNatClampNeg), .int (h1_cells (v49 + (1 : Int32)).toNatClampNeg)]) (rest := []) (bs' := [pJm κ qx rx_tape rx_teller (qb 0) rx_equations rx_images (qsa 0) (qf 0) rx_draft x_kept x_textFault x_readFault, pBa κ qb b_moments b_gains b_topped b_endStiffs b_outs b_endsAt b_stiffAt b_stepsAt b_steps b_latest, pFr κ qf f_held f_couples f_endJoints f_lengths f_stiffs f_loadBeams f_loadSizes f_loadPlaces f_joints f_beams f_loads, pOa (κ 5) 4 qsa [qh0 0, qh1 0, qh2 0, qh3 0], pSh κ qh0 h0_cells h0_lane h0_size, pSh κ qh1 h1_cells h1_lane h1_size, pSh κ qh2 h2_cells h2_lane h2_size, pSh κ qh3 h3_cells h3_lane h3_size]) C0 hw (cJm_mayCouple l D κ qx _ _ _ _ _ _ _ x_kept x_textFault x_readFault qf f_held f_couples f_endJoints f_lengths f_stiffs f_loadBeams f_loadSizes f_loadPlaces f_joints f_beams f_loads (h1_cells v49.toNatClampNeg) (h1_cells (v49 + (1 : Int32)).toNatClampNeg) r56 hk57) cv_RX6_210 ⟨rfl, rfl, Nat.le_of_ble_eq_true rfl, Nat.le_of_ble_eq_true rfl⟩ ⟨Nat.zero_le _, Nat.zero_le _⟩ [0, 2] [1, 3, 4, 5, 6, 7] [6, 0, 7, 1, 2, 3, 4, 5] rfl rfl rfl rfl (by decide) rfl rfl rfl rfl rfl hl.1 (by simp only [List.map, List.sum_cons, List.sum_nil, Value.category]; decide) dX6_read_94 (fun H locs hw hn58 => ?_)
        refine lv_if_ne (tgt := 106) hx hb dX6_read_97 (by decide) (fun hc59 => ?_) (fun hc59 => ?_)
        · have hf := if_f hc59 hf
          obtain ⟨v60, ev60⟩ : ∃ z : Int32, z = (l7 + (1 : Int32)) := ⟨_, rfl⟩
          have hf := lt_s_ hf v60 ev60
          refine lv_iinc (v := v60) (lv' := [(7, .int v60), (6, .int r50), (8, .int v49), (0, .ref (qx 0)), (2, .int l2), (3, .int l3), (4, .int l4), (5, .ref (qh1 0))]) hx hb dX6_read_106 hl (k := 7) rfl (by rw [ev60]; rfl) (by decide) rfl (fun ls hl => ?_)
          refine lv_goto (tgt := 42) hx hb dX6_read_109 (by decide) ?_
          exact ih r50 v60 H locs ls hw (lv_sub hl [3, 4, 5, 6, 7, 1, 0] rfl)  hf
        · have hf := if_t hc59 hf
          refine lv_bipush (v := -20) hx hb dX6_read_100 (by decide) ?_
          refine lv_iload hx hb dX6_read_102 (lv_at hl 7 rfl) ?_
          refine lv_isub hx hb dX6_read_104 ?_
          obtain ⟨rfl, rfl, rfl, rfl, rfl, rfl, rfl, rfl, rfl, rfl, rfl⟩ := e11_ hf
          exact r_iret C0 hw trivial dX6_read_105
      · have hf := if_f hc53 hf
        refine lv_goto (tgt := 112) hx hb dX6_read_72 (by decide) ?_
        exact hj47 r50 H locs ls hw (lv_sub hl [2, 4, 6, 7, 0] rfl)  hf
set_option maxHeartbeats 4000000 in
set_option maxRecDepth 100000 in
theorem wJm_read_L42_2 {p : Program} {l : Launch} {e : Env} {s : State} {m : MethodId} {args : Array Value} {below : List Frame} {meth : Method} {c : Code} {A : Nat → Prop} {D : va_G} {κ : Nat → ClassId} (C0 : cx_ p s m meth c args cX6_read RX6 (some .int) 9 A) (qx : Nat → Nat) (rx_tape rx_teller rx_equations rx_images rx_draft : Nat) (x_kept : Nat → Int32) (x_textFault x_readFault : Int32) (qb : Nat → Nat) (b_moments b_gains b_topped b_endStiffs b_outs b_endsAt b_stiffAt b_stepsAt : Nat → Int32) (b_steps b_latest : Int32) (qf : Nat → Nat) (f_held f_couples f_endJoints f_lengths f_stiffs f_loadBeams f_loadSizes f_loadPlaces : Nat → Int32) (f_joints f_beams f_loads : Int32) (qsa qh0 : Nat → Nat) (h0_cells : Nat → Int32) (h0_lane h0_size : Int32) (qh1 : Nat → Nat) (h1_cells : Nat → Int32) (h1_lane h1_size : Int32) (qh2 : Nat → Nat) (h2_cells : Nat → Int32) (h2_lane h2_size : Int32) (qh3 : Nat → Nat) (h3_cells : Nat → Int32) (h3_lane h3_size l2 l3 l4 : Int32) (zr z1 : Int32) (z2 z3 z4 z5 z6 z7 : Nat → Int32) (z8 z9 : Int32) (z10 : Nat → Int32) (k_ : Int32 → Int32 → Option (Int32 × Int32 × (Nat → Int32) × (Nat → Int32) × (Nat → Int32) × (Nat → Int32) × (Nat → Int32) × (Nat → Int32) × Int32 × Int32 × (Nat → Int32))) (hk_ : ∀ (l6 : Int32) (l7 : Int32) (H : Heap) (locs : List Loc) (ls : Array Slot), wd_ D (tys0 κ) A s (List.flatten [pJm κ qx rx_tape rx_teller (qb 0) rx_equations rx_images (qsa 0) (qf 0) rx_draft x_kept x_textFault x_readFault, pBa κ qb b_moments b_gains b_topped b_endStiffs b_outs b_endsAt b_stiffAt b_stepsAt b_steps b_latest, pFr κ qf f_held f_couples f_endJoints f_lengths f_stiffs f_loadBeams f_loadSizes f_loadPlaces f_joints f_beams f_loads, pOa (κ 5) 4 qsa [qh0 0, qh1 0, qh2 0, qh3 0], pSh κ qh0 h0_cells h0_lane h0_size, pSh κ qh1 h1_cells h1_lane h1_size, pSh κ qh2 h2_cells h2_lane h2_size, pSh κ qh3 h3_cells h3_lane h3_size]) H locs → lv_has ls 9 [(0, .ref (qx 0)), (3, .int l3), (5, .ref (qh2 0)), (6, .int l6), (7, .int l7)] → k_ l6 l7 = some (zr, z1, z2, z3, z4, z5, z6, z7, z8, z9, z10) → W p l e ({ frames := 4, cells := 0, slots := 0, locals := 96 } : Room) s m args below meth c H locs 0 0 (qI_ D (tys0 κ) A nT_ zr (List.flatten [pJm κ qx rx_tape rx_teller (qb 0) rx_equations rx_images (qsa 0) (qf 0) rx_draft x_kept x_textFault z1, pBa κ qb z2 b_gains b_topped z3 z4 z5 z6 z7 z8 z9, pFr κ qf f_held z10 f_endJoints f_lengths f_stiffs f_loadBeams f_loadSizes f_loadPlaces f_joints f_beams f_loads, pOa (κ 5) 4 qsa [qh0 0, qh1 0, qh2 0, qh3 0], pSh κ qh0 h0_cells h0_lane h0_size, pSh κ qh1 h1_cells h1_lane h1_size, pSh κ qh2 h2_cells h2_lane h2_size, pSh κ qh3 h3_cells h3_lane h3_size]) below args s) (F0 m 112 ls [])) : ∀ (n : Nat) (l6 : Int32) (l7 : Int32) (H : Heap) (locs : List Loc) (ls : Array Slot), wd_ D (tys0 κ) A s (List.flatten [pJm κ qx rx_tape rx_teller (qb 0) rx_equations rx_images (qsa 0) (qf 0) rx_draft x_kept x_textFault x_readFault, pBa κ qb b_moments b_gains b_topped b_endStiffs b_outs b_endsAt b_stiffAt b_stepsAt b_steps b_latest, pFr κ qf f_held f_couples f_endJoints f_lengths f_stiffs f_loadBeams f_loadSizes f_loadPlaces f_joints f_beams f_loads, pOa (κ 5) 4 qsa [qh0 0, qh1 0, qh2 0, qh3 0], pSh κ qh0 h0_cells h0_lane h0_size, pSh κ qh1 h1_cells h1_lane h1_size, pSh κ qh2 h2_cells h2_lane h2_size, pSh κ qh3 h3_cells h3_lane h3_size]) H locs → lv_has ls 9 [(0, .ref (qx 0)), (2, .int l2), (3, .int l3), (4, .int l4), (5, .ref (qh2 0)), (6, .int l6), (7, .int l7)] → FJm_read_L42_2 x_readFault b_moments b_endStiffs b_outs b_endsAt b_stiffAt b_stepsAt b_steps b_latest f_couples f_joints h2_cells h2_lane h2_size l2 l3 l4 k_ n l6 l7 = some (zr, z1, z2, z3, z4, z5, z6, z7, z8, z9, z10) → W p l e ({ frames := 4, cells := 0, slots := 0, locals := 96 } : Room) s m args below meth c H locs 0 0 (qI_ D (tys0 κ) A nT_ zr (List.flatten [pJm κ qx rx_tape rx_teller (qb 0) rx_equations rx_images (qsa 0) (qf 0) rx_draft x_kept x_textFault z1, pBa κ qb z2 b_gains b_topped z3 z4 z5 z6 z7 z8 z9, pFr κ qf f_held z10 f_endJoints f_lengths f_stiffs f_loadBeams f_loadSizes f_loadPlaces f_joints f_beams f_loads, pOa (κ 5) 4 qsa [qh0 0, qh1 0, qh2 0, qh3 0], pSh κ qh0 h0_cells h0_lane h0_size, pSh κ qh1 h1_cells h1_lane h1_size, pSh κ qh2 h2_cells h2_lane h2_size, pSh κ qh3 h3_cells h3_lane h3_size]) below args s) (F0 m 42 ls []) := by
  obtain ⟨hx, hb, -, hml, hown, hts, -, -⟩ := id C0
  intro n
  induction n with
  | zero =>
    intro l6 l7 H locs ls hw hl  hf
    cases hf
  | succ n ih =>
    intro l6 l7 H locs ls hw hl  hf
    rw [FJm_read_L42_2.eq_2] at hf
    refine lv_iload hx hb dX6_read_42 (lv_at hl 6 rfl) ?_
    refine lv_iload hx hb dX6_read_44 (lv_at hl 3 rfl) ?_
    obtain ⟨j78, ej78, hf⟩ := lt_e hf
    have hj79 : ∀ (v77 : Int32) (H : Heap) (locs : List Loc) (ls : Array Slot), wd_ D (tys0 κ) A s (List.flatten [pJm κ qx rx_tape rx_teller (qb 0) rx_equations rx_images (qsa 0) (qf 0) rx_draft x_kept x_textFault x_readFault, pBa κ qb b_moments b_gains b_topped b_endStiffs b_outs b_endsAt b_stiffAt b_stepsAt b_steps b_latest, pFr κ qf f_held f_couples f_endJoints f_lengths f_stiffs f_loadBeams f_loadSizes f_loadPlaces f_joints f_beams f_loads, pOa (κ 5) 4 qsa [qh0 0, qh1 0, qh2 0, qh3 0], pSh κ qh0 h0_cells h0_lane h0_size, pSh κ qh1 h1_cells h1_lane h1_size, pSh κ qh2 h2_cells h2_lane h2_size, pSh κ qh3 h3_cells h3_lane h3_size]) H locs → lv_has ls 9 [(0, .ref (qx 0)), (3, .int l3), (5, .ref (qh2 0)), (7, .int l7), (6, .int v77)] → j78 v77 = some (zr, z1, z2, z3, z4, z5, z6, z7, z8, z9, z10) → W p l e ({ frames := 4, cells := 0, slots := 0, locals := 96 } : Room) s m args below meth c H locs 0 0 (qI_ D (tys0 κ) A nT_ zr (List.flatten [pJm κ qx rx_tape rx_teller (qb 0) rx_equations rx_images (qsa 0) (qf 0) rx_draft x_kept x_textFault z1, pBa κ qb z2 b_gains b_topped z3 z4 z5 z6 z7 z8 z9, pFr κ qf f_held z10 f_endJoints f_lengths f_stiffs f_loadBeams f_loadSizes f_loadPlaces f_joints f_beams f_loads, pOa (κ 5) 4 qsa [qh0 0, qh1 0, qh2 0, qh3 0], pSh κ qh0 h0_cells h0_lane h0_size, pSh κ qh1 h1_cells h1_lane h1_size, pSh κ qh2 h2_cells h2_lane h2_size, pSh κ qh3 h3_cells h3_lane h3_size]) below args s) (F0 m 112 ls []) := by
      intro v77 H locs ls hw hl  hf
      have hf : (k_ v77 l7) = some (zr, z1, z2, z3, z4, z5, z6, z7, z8, z9, z10) := by rw [ej78] at hf; exact hf
      exact hk_ v77 l7 H locs ls hw (lv_sub hl [0, 1, 2, 4, 3] rfl)  hf
    refine lv_icmp_ge (tgt := 112) hx hb dX6_read_46 (by decide) (fun hc80 => ?_) (fun hc80 => ?_)
    · have hf := if_t hc80 hf
      exact hj79 l6 H locs ls hw (lv_sub hl [0, 2, 4, 6, 5] rfl)  hf
    · have hf := if_f hc80 hf
      refine lv_iload_n hx hb dX6_read_49 rfl (lv_at hl 2 rfl) ?_
      refine lv_iconst (v := 2) hx hb dX6_read_50 (by decide) ?_
      refine lv_iload hx hb dX6_read_51 (lv_at hl 6 rfl) ?_
      refine lv_imul hx hb dX6_read_53 ?_
      refine lv_iadd hx hb dX6_read_54 ?_
      refine lv_topi (fun v81 ev81 => ?_)
      have hf := lt_s_ hf v81 ev81
      refine lv_istore (lv' := [(8, .int v81), (0, .ref (qx 0)), (2, .int l2), (3, .int l3), (4, .int l4), (5, .ref (qh2 0)), (6, .int l6), (7, .int l7)]) hx hb dX6_read_55 hl (by decide) rfl (fun ls hl => ?_)
      refine lv_aload hx hb dX6_read_57 (lv_at hl 5 rfl) ?_
      refine lv_iload_n hx hb dX6_read_59 rfl (lv_at hl 2 rfl) ?_
      refine lv_iload hx hb dX6_read_60 (lv_at hl 0 rfl) ?_
      obtain ⟨r82, hk83, hf⟩ := b1_s hf
      refine rv_i (vq := (RX3, TX3, 3)) (As := [.int l2, .int v81]) (rest := []) (bs' := [pJm κ qx rx_tape rx_teller (qb 0) rx_equations rx_images (qsa 0) (qf 0) rx_draft x_kept x_textFault x_readFault, pBa κ qb b_moments b_gains b_topped b_endStiffs b_outs b_endsAt b_stiffAt b_stepsAt b_steps b_latest, pFr κ qf f_held f_couples f_endJoints f_lengths f_stiffs f_loadBeams f_loadSizes f_loadPlaces f_joints f_beams f_loads, pOa (κ 5) 4 qsa [qh0 0, qh1 0, qh2 0, qh3 0], pSh κ qh0 h0_cells h0_lane h0_size, pSh κ qh1 h1_cells h1_lane h1_size, pSh κ qh2 h2_cells h2_lane h2_size, pSh κ qh3 h3_cells h3_lane h3_size]) C0 hw (cSh_faultOfTwo l D κ qh2 h2_cells h2_lane h2_size l2 v81 r82 hk83) cv_RX6_251 ⟨rfl, rfl, Nat.le_of_ble_eq_true rfl, Nat.le_of_ble_eq_true rfl⟩ ⟨Nat.zero_le _, Nat.zero_le _⟩ [6] [0, 1, 2, 3, 4, 5, 7] [0, 1, 2, 3, 4, 5, 7, 6] rfl rfl rfl rfl (by decide) rfl rfl rfl rfl rfl hl.1 (by simp only [List.map, List.sum_cons, List.sum_nil, Value.category]; decide) dX6_read_62 (fun H locs hw hn84 => ?_)
      refine lv_istore (lv' := [(6, .int r82), (8, .int v81), (0, .ref (qx 0)), (2, .int l2), (3, .int l3), (4, .int l4), (5, .ref (qh2 0)), (7, .int l7)]) hx hb dX6_read_65 hl (by decide) rfl (fun ls hl => ?_)
      refine lv_iload hx hb dX6_read_67 (lv_at hl 0 rfl) ?_
      refine lv_if_eq (tgt := 75) hx hb dX6_read_69 (by decide) (fun hc85 => ?_) (fun hc85 => ?_)
      · have hf := if_t hc85 hf
        refine lv_aload_n hx hb dX6_read_75 rfl (lv_at hl 2 rfl) ?_
        refine lv_aload hx hb dX6_read_76 (lv_at hl 6 rfl) ?_
        refine r_get C0 hw 25 0 (v := .ref (qh2 1)) rfl rfl inX3 (by decide) lk_X6_254 rfl dX6_read_78 ?_
        refine lv_iload hx hb dX6_read_81 (lv_at hl 1 rfl) ?_
        obtain ⟨hi86, hf⟩ := gd_s hf
        refine r_iald C0 hw 26 0 rfl rfl hi86 dX6_read_83 ?_
        refine lv_aload hx hb dX6_read_84 (lv_at hl 6 rfl) ?_
        refine r_get C0 hw 25 0 (v := .ref (qh2 1)) rfl rfl inX3 (by decide) lk_X6_254 rfl dX6_read_86 ?_
        refine lv_iload hx hb dX6_read_89 (lv_at hl 1 rfl) ?_
        refine lv_iconst (v := 1) hx hb dX6_read_91 (by decide) ?_
        refine lv_iadd hx hb dX6_read_92 ?_
        obtain ⟨hi87, hf⟩ := gd_s hf
        refine r_iald C0 hw 26 0 rfl rfl hi87 dX6_read_93 ?_
        obtain ⟨r88, hk89, hf⟩ := b1_s hf
        refine rv_i (vq := (RX6, TX6, 11)) (As := [.int (h2_cells v81.toNatClampNeg), .int (h2_cells (v81 + (1 : Int32)).toNatClampNeg)]) (rest := []) (bs' := [pJm κ qx rx_tape rx_teller (qb 0) rx_equations rx_images (qsa 0) (qf 0) rx_draft x_kept x_textFault x_readFault, pBa κ qb b_moments b_gains b_topped b_endStiffs b_outs b_endsAt b_stiffAt b_stepsAt b_steps b_latest, pFr κ qf f_held f_couples f_endJoints f_lengths f_stiffs f_loadBeams f_loadSizes f_loadPlaces f_joints f_beams f_loads, pOa (κ 5) 4 qsa [qh0 0, qh1 0, qh2 0, qh3 0], pSh κ qh0 h0_cells h0_lane h0_size, pSh κ qh1 h1_cells h1_lane h1_size, pSh κ qh2 h2_cells h2_lane h2_size, pSh κ qh3 h3_cells h3_lane h3_size]) C0 hw (cJm_mayCouple l D κ qx _ _ _ _ _ _ _ x_kept x_textFault x_readFault qf f_held f_couples f_endJoints f_lengths f_stiffs f_loadBeams f_loadSizes f_loadPlaces f_joints f_beams f_loads (h2_cells v81.toNatClampNeg) (h2_cells (v81 + (1 : Int32)).toNatClampNeg) r88 hk89) cv_RX6_210 ⟨rfl, rfl, Nat.le_of_ble_eq_true rfl, Nat.le_of_ble_eq_true rfl⟩ ⟨Nat.zero_le _, Nat.zero_le _⟩ [0, 2] [1, 3, 4, 5, 6, 7] [6, 0, 7, 1, 2, 3, 4, 5] rfl rfl rfl rfl (by decide) rfl rfl rfl rfl rfl hl.1 (by simp only [List.map, List.sum_cons, List.sum_nil, Value.category]; decide) dX6_read_94 (fun H locs hw hn90 => ?_)
        refine lv_if_ne (tgt := 106) hx hb dX6_read_97 (by decide) (fun hc91 => ?_) (fun hc91 => ?_)
        · have hf := if_f hc91 hf
          obtain ⟨v92, ev92⟩ : ∃ z : Int32, z = (l7 + (1 : Int32)) := ⟨_, rfl⟩
          have hf := lt_s_ hf v92 ev92
          refine lv_iinc (v := v92) (lv' := [(7, .int v92), (6, .int r82), (8, .int v81), (0, .ref (qx 0)), (2, .int l2), (3, .int l3), (4, .int l4), (5, .ref (qh2 0))]) hx hb dX6_read_106 hl (k := 7) rfl (by rw [ev92]; rfl) (by decide) rfl (fun ls hl => ?_)
          refine lv_goto (tgt := 42) hx hb dX6_read_109 (by decide) ?_
          exact ih r82 v92 H locs ls hw (lv_sub hl [3, 4, 5, 6, 7, 1, 0] rfl)  hf
        · have hf := if_t hc91 hf
          refine lv_bipush (v := -20) hx hb dX6_read_100 (by decide) ?_
          refine lv_iload hx hb dX6_read_102 (lv_at hl 7 rfl) ?_
          refine lv_isub hx hb dX6_read_104 ?_
          obtain ⟨rfl, rfl, rfl, rfl, rfl, rfl, rfl, rfl, rfl, rfl, rfl⟩ := e11_ hf
          exact r_iret C0 hw trivial dX6_read_105
      · have hf := if_f hc85 hf
        refine lv_goto (tgt := 112) hx hb dX6_read_72 (by decide) ?_
        exact hj79 r82 H locs ls hw (lv_sub hl [2, 4, 6, 7, 0] rfl)  hf
set_option maxHeartbeats 4000000 in
set_option maxRecDepth 100000 in
theorem wJm_read_L42_3 {p : Program} {l : Launch} {e : Env} {s : State} {m : MethodId} {args : Array Value} {below : List Frame} {meth : Method} {c : Code} {A : Nat → Prop} {D : va_G} {κ : Nat → ClassId} (C0 : cx_ p s m meth c args cX6_read RX6 (some .int) 9 A) (qx : Nat → Nat) (rx_tape rx_teller rx_equations rx_images rx_draft : Nat) (x_kept : Nat → Int32) (x_textFault x_readFault : Int32) (qb : Nat → Nat) (b_moments b_gains b_topped b_endStiffs b_outs b_endsAt b_stiffAt b_stepsAt : Nat → Int32) (b_steps b_latest : Int32) (qf : Nat → Nat) (f_held f_couples f_endJoints f_lengths f_stiffs f_loadBeams f_loadSizes f_loadPlaces : Nat → Int32) (f_joints f_beams f_loads : Int32) (qsa qh0 : Nat → Nat) (h0_cells : Nat → Int32) (h0_lane h0_size : Int32) (qh1 : Nat → Nat) (h1_cells : Nat → Int32) (h1_lane h1_size : Int32) (qh2 : Nat → Nat) (h2_cells : Nat → Int32) (h2_lane h2_size : Int32) (qh3 : Nat → Nat) (h3_cells : Nat → Int32) (h3_lane h3_size l2 l3 l4 : Int32) (zr z1 : Int32) (z2 z3 z4 z5 z6 z7 : Nat → Int32) (z8 z9 : Int32) (z10 : Nat → Int32) (k_ : Int32 → Int32 → Option (Int32 × Int32 × (Nat → Int32) × (Nat → Int32) × (Nat → Int32) × (Nat → Int32) × (Nat → Int32) × (Nat → Int32) × Int32 × Int32 × (Nat → Int32))) (hk_ : ∀ (l6 : Int32) (l7 : Int32) (H : Heap) (locs : List Loc) (ls : Array Slot), wd_ D (tys0 κ) A s (List.flatten [pJm κ qx rx_tape rx_teller (qb 0) rx_equations rx_images (qsa 0) (qf 0) rx_draft x_kept x_textFault x_readFault, pBa κ qb b_moments b_gains b_topped b_endStiffs b_outs b_endsAt b_stiffAt b_stepsAt b_steps b_latest, pFr κ qf f_held f_couples f_endJoints f_lengths f_stiffs f_loadBeams f_loadSizes f_loadPlaces f_joints f_beams f_loads, pOa (κ 5) 4 qsa [qh0 0, qh1 0, qh2 0, qh3 0], pSh κ qh0 h0_cells h0_lane h0_size, pSh κ qh1 h1_cells h1_lane h1_size, pSh κ qh2 h2_cells h2_lane h2_size, pSh κ qh3 h3_cells h3_lane h3_size]) H locs → lv_has ls 9 [(0, .ref (qx 0)), (3, .int l3), (5, .ref (qh3 0)), (6, .int l6), (7, .int l7)] → k_ l6 l7 = some (zr, z1, z2, z3, z4, z5, z6, z7, z8, z9, z10) → W p l e ({ frames := 4, cells := 0, slots := 0, locals := 96 } : Room) s m args below meth c H locs 0 0 (qI_ D (tys0 κ) A nT_ zr (List.flatten [pJm κ qx rx_tape rx_teller (qb 0) rx_equations rx_images (qsa 0) (qf 0) rx_draft x_kept x_textFault z1, pBa κ qb z2 b_gains b_topped z3 z4 z5 z6 z7 z8 z9, pFr κ qf f_held z10 f_endJoints f_lengths f_stiffs f_loadBeams f_loadSizes f_loadPlaces f_joints f_beams f_loads, pOa (κ 5) 4 qsa [qh0 0, qh1 0, qh2 0, qh3 0], pSh κ qh0 h0_cells h0_lane h0_size, pSh κ qh1 h1_cells h1_lane h1_size, pSh κ qh2 h2_cells h2_lane h2_size, pSh κ qh3 h3_cells h3_lane h3_size]) below args s) (F0 m 112 ls [])) : ∀ (n : Nat) (l6 : Int32) (l7 : Int32) (H : Heap) (locs : List Loc) (ls : Array Slot), wd_ D (tys0 κ) A s (List.flatten [pJm κ qx rx_tape rx_teller (qb 0) rx_equations rx_images (qsa 0) (qf 0) rx_draft x_kept x_textFault x_readFault, pBa κ qb b_moments b_gains b_topped b_endStiffs b_outs b_endsAt b_stiffAt b_stepsAt b_steps b_latest, pFr κ qf f_held f_couples f_endJoints f_lengths f_stiffs f_loadBeams f_loadSizes f_loadPlaces f_joints f_beams f_loads, pOa (κ 5) 4 qsa [qh0 0, qh1 0, qh2 0, qh3 0], pSh κ qh0 h0_cells h0_lane h0_size, pSh κ qh1 h1_cells h1_lane h1_size, pSh κ qh2 h2_cells h2_lane h2_size, pSh κ qh3 h3_cells h3_lane h3_size]) H locs → lv_has ls 9 [(0, .ref (qx 0)), (2, .int l2), (3, .int l3), (4, .int l4), (5, .ref (qh3 0)), (6, .int l6), (7, .int l7)] → FJm_read_L42_3 x_readFault b_moments b_endStiffs b_outs b_endsAt b_stiffAt b_stepsAt b_steps b_latest f_couples f_joints h3_cells h3_lane h3_size l2 l3 l4 k_ n l6 l7 = some (zr, z1, z2, z3, z4, z5, z6, z7, z8, z9, z10) → W p l e ({ frames := 4, cells := 0, slots := 0, locals := 96 } : Room) s m args below meth c H locs 0 0 (qI_ D (tys0 κ) A nT_ zr (List.flatten [pJm κ qx rx_tape rx_teller (qb 0) rx_equations rx_images (qsa 0) (qf 0) rx_draft x_kept x_textFault z1, pBa κ qb z2 b_gains b_topped z3 z4 z5 z6 z7 z8 z9, pFr κ qf f_held z10 f_endJoints f_lengths f_stiffs f_loadBeams f_loadSizes f_loadPlaces f_joints f_beams f_loads, pOa (κ 5) 4 qsa [qh0 0, qh1 0, qh2 0, qh3 0], pSh κ qh0 h0_cells h0_lane h0_size, pSh κ qh1 h1_cells h1_lane h1_size, pSh κ qh2 h2_cells h2_lane h2_size, pSh κ qh3 h3_cells h3_lane h3_size]) below args s) (F0 m 42 ls []) := by
  obtain ⟨hx, hb, -, hml, hown, hts, -, -⟩ := id C0
  intro n
  induction n with
  | zero =>
    intro l6 l7 H locs ls hw hl  hf
    cases hf
  | succ n ih =>
    intro l6 l7 H locs ls hw hl  hf
    rw [FJm_read_L42_3.eq_2] at hf
    refine lv_iload hx hb dX6_read_42 (lv_at hl 6 rfl) ?_
    refine lv_iload hx hb dX6_read_44 (lv_at hl 3 rfl) ?_
    obtain ⟨j110, ej110, hf⟩ := lt_e hf
    have hj111 : ∀ (v109 : Int32) (H : Heap) (locs : List Loc) (ls : Array Slot), wd_ D (tys0 κ) A s (List.flatten [pJm κ qx rx_tape rx_teller (qb 0) rx_equations rx_images (qsa 0) (qf 0) rx_draft x_kept x_textFault x_readFault, pBa κ qb b_moments b_gains b_topped b_endStiffs b_outs b_endsAt b_stiffAt b_stepsAt b_steps b_latest, pFr κ qf f_held f_couples f_endJoints f_lengths f_stiffs f_loadBeams f_loadSizes f_loadPlaces f_joints f_beams f_loads, pOa (κ 5) 4 qsa [qh0 0, qh1 0, qh2 0, qh3 0], pSh κ qh0 h0_cells h0_lane h0_size, pSh κ qh1 h1_cells h1_lane h1_size, pSh κ qh2 h2_cells h2_lane h2_size, pSh κ qh3 h3_cells h3_lane h3_size]) H locs → lv_has ls 9 [(0, .ref (qx 0)), (3, .int l3), (5, .ref (qh3 0)), (7, .int l7), (6, .int v109)] → j110 v109 = some (zr, z1, z2, z3, z4, z5, z6, z7, z8, z9, z10) → W p l e ({ frames := 4, cells := 0, slots := 0, locals := 96 } : Room) s m args below meth c H locs 0 0 (qI_ D (tys0 κ) A nT_ zr (List.flatten [pJm κ qx rx_tape rx_teller (qb 0) rx_equations rx_images (qsa 0) (qf 0) rx_draft x_kept x_textFault z1, pBa κ qb z2 b_gains b_topped z3 z4 z5 z6 z7 z8 z9, pFr κ qf f_held z10 f_endJoints f_lengths f_stiffs f_loadBeams f_loadSizes f_loadPlaces f_joints f_beams f_loads, pOa (κ 5) 4 qsa [qh0 0, qh1 0, qh2 0, qh3 0], pSh κ qh0 h0_cells h0_lane h0_size, pSh κ qh1 h1_cells h1_lane h1_size, pSh κ qh2 h2_cells h2_lane h2_size, pSh κ qh3 h3_cells h3_lane h3_size]) below args s) (F0 m 112 ls []) := by
      intro v109 H locs ls hw hl  hf
      have hf : (k_ v109 l7) = some (zr, z1, z2, z3, z4, z5, z6, z7, z8, z9, z10) := by rw [ej110] at hf; exact hf
      exact hk_ v109 l7 H locs ls hw (lv_sub hl [0, 1, 2, 4, 3] rfl)  hf
    refine lv_icmp_ge (tgt := 112) hx hb dX6_read_46 (by decide) (fun hc112 => ?_) (fun hc112 => ?_)
    · have hf := if_t hc112 hf
      exact hj111 l6 H locs ls hw (lv_sub hl [0, 2, 4, 6, 5] rfl)  hf
    · have hf := if_f hc112 hf
      refine lv_iload_n hx hb dX6_read_49 rfl (lv_at hl 2 rfl) ?_
      refine lv_iconst (v := 2) hx hb dX6_read_50 (by decide) ?_
      refine lv_iload hx hb dX6_read_51 (lv_at hl 6 rfl) ?_
      refine lv_imul hx hb dX6_read_53 ?_
      refine lv_iadd hx hb dX6_read_54 ?_
      refine lv_topi (fun v113 ev113 => ?_)
      have hf := lt_s_ hf v113 ev113
      refine lv_istore (lv' := [(8, .int v113), (0, .ref (qx 0)), (2, .int l2), (3, .int l3), (4, .int l4), (5, .ref (qh3 0)), (6, .int l6), (7, .int l7)]) hx hb dX6_read_55 hl (by decide) rfl (fun ls hl => ?_)
      refine lv_aload hx hb dX6_read_57 (lv_at hl 5 rfl) ?_
      refine lv_iload_n hx hb dX6_read_59 rfl (lv_at hl 2 rfl) ?_
      refine lv_iload hx hb dX6_read_60 (lv_at hl 0 rfl) ?_
      obtain ⟨r114, hk115, hf⟩ := b1_s hf
      refine rv_i (vq := (RX3, TX3, 3)) (As := [.int l2, .int v113]) (rest := []) (bs' := [pJm κ qx rx_tape rx_teller (qb 0) rx_equations rx_images (qsa 0) (qf 0) rx_draft x_kept x_textFault x_readFault, pBa κ qb b_moments b_gains b_topped b_endStiffs b_outs b_endsAt b_stiffAt b_stepsAt b_steps b_latest, pFr κ qf f_held f_couples f_endJoints f_lengths f_stiffs f_loadBeams f_loadSizes f_loadPlaces f_joints f_beams f_loads, pOa (κ 5) 4 qsa [qh0 0, qh1 0, qh2 0, qh3 0], pSh κ qh0 h0_cells h0_lane h0_size, pSh κ qh1 h1_cells h1_lane h1_size, pSh κ qh2 h2_cells h2_lane h2_size, pSh κ qh3 h3_cells h3_lane h3_size]) C0 hw (cSh_faultOfTwo l D κ qh3 h3_cells h3_lane h3_size l2 v113 r114 hk115) cv_RX6_251 ⟨rfl, rfl, Nat.le_of_ble_eq_true rfl, Nat.le_of_ble_eq_true rfl⟩ ⟨Nat.zero_le _, Nat.zero_le _⟩ [7] [0, 1, 2, 3, 4, 5, 6] [0, 1, 2, 3, 4, 5, 6, 7] rfl rfl rfl rfl (by decide) rfl rfl rfl rfl rfl hl.1 (by simp only [List.map, List.sum_cons, List.sum_nil, Value.category]; decide) dX6_read_62 (fun H locs hw hn116 => ?_)
      refine lv_istore (lv' := [(6, .int r114), (8, .int v113), (0, .ref (qx 0)), (2, .int l2), (3, .int l3), (4, .int l4), (5, .ref (qh3 0)), (7, .int l7)]) hx hb dX6_read_65 hl (by decide) rfl (fun ls hl => ?_)
      refine lv_iload hx hb dX6_read_67 (lv_at hl 0 rfl) ?_
      refine lv_if_eq (tgt := 75) hx hb dX6_read_69 (by decide) (fun hc117 => ?_) (fun hc117 => ?_)
      · have hf := if_t hc117 hf
        refine lv_aload_n hx hb dX6_read_75 rfl (lv_at hl 2 rfl) ?_
        refine lv_aload hx hb dX6_read_76 (lv_at hl 6 rfl) ?_
        refine r_get C0 hw 27 0 (v := .ref (qh3 1)) rfl rfl inX3 (by decide) lk_X6_254 rfl dX6_read_78 ?_
        refine lv_iload hx hb dX6_read_81 (lv_at hl 1 rfl) ?_
        obtain ⟨hi118, hf⟩ := gd_s hf
        refine r_iald C0 hw 28 0 rfl rfl hi118 dX6_read_83 ?_
        refine lv_aload hx hb dX6_read_84 (lv_at hl 6 rfl) ?_
        refine r_get C0 hw 27 0 (v := .ref (qh3 1)) rfl rfl inX3 (by decide) lk_X6_254 rfl dX6_read_86 ?_
        refine lv_iload hx hb dX6_read_89 (lv_at hl 1 rfl) ?_
        refine lv_iconst (v := 1) hx hb dX6_read_91 (by decide) ?_
        refine lv_iadd hx hb dX6_read_92 ?_
        obtain ⟨hi119, hf⟩ := gd_s hf
        refine r_iald C0 hw 28 0 rfl rfl hi119 dX6_read_93 ?_
        obtain ⟨r120, hk121, hf⟩ := b1_s hf
        refine rv_i (vq := (RX6, TX6, 11)) (As := [.int (h3_cells v113.toNatClampNeg), .int (h3_cells (v113 + (1 : Int32)).toNatClampNeg)]) (rest := []) (bs' := [pJm κ qx rx_tape rx_teller (qb 0) rx_equations rx_images (qsa 0) (qf 0) rx_draft x_kept x_textFault x_readFault, pBa κ qb b_moments b_gains b_topped b_endStiffs b_outs b_endsAt b_stiffAt b_stepsAt b_steps b_latest, pFr κ qf f_held f_couples f_endJoints f_lengths f_stiffs f_loadBeams f_loadSizes f_loadPlaces f_joints f_beams f_loads, pOa (κ 5) 4 qsa [qh0 0, qh1 0, qh2 0, qh3 0], pSh κ qh0 h0_cells h0_lane h0_size, pSh κ qh1 h1_cells h1_lane h1_size, pSh κ qh2 h2_cells h2_lane h2_size, pSh κ qh3 h3_cells h3_lane h3_size]) C0 hw (cJm_mayCouple l D κ qx _ _ _ _ _ _ _ x_kept x_textFault x_readFault qf f_held f_couples f_endJoints f_lengths f_stiffs f_loadBeams f_loadSizes f_loadPlaces f_joints f_beams f_loads (h3_cells v113.toNatClampNeg) (h3_cells (v113 + (1 : Int32)).toNatClampNeg) r120 hk121) cv_RX6_210 ⟨rfl, rfl, Nat.le_of_ble_eq_true rfl, Nat.le_of_ble_eq_true rfl⟩ ⟨Nat.zero_le _, Nat.zero_le _⟩ [0, 2] [1, 3, 4, 5, 6, 7] [6, 0, 7, 1, 2, 3, 4, 5] rfl rfl rfl rfl (by decide) rfl rfl rfl rfl rfl hl.1 (by simp only [List.map, List.sum_cons, List.sum_nil, Value.category]; decide) dX6_read_94 (fun H locs hw hn122 => ?_)
        refine lv_if_ne (tgt := 106) hx hb dX6_read_97 (by decide) (fun hc123 => ?_) (fun hc123 => ?_)
        · have hf := if_f hc123 hf
          obtain ⟨v124, ev124⟩ : ∃ z : Int32, z = (l7 + (1 : Int32)) := ⟨_, rfl⟩
          have hf := lt_s_ hf v124 ev124
          refine lv_iinc (v := v124) (lv' := [(7, .int v124), (6, .int r114), (8, .int v113), (0, .ref (qx 0)), (2, .int l2), (3, .int l3), (4, .int l4), (5, .ref (qh3 0))]) hx hb dX6_read_106 hl (k := 7) rfl (by rw [ev124]; rfl) (by decide) rfl (fun ls hl => ?_)
          refine lv_goto (tgt := 42) hx hb dX6_read_109 (by decide) ?_
          exact ih r114 v124 H locs ls hw (lv_sub hl [3, 4, 5, 6, 7, 1, 0] rfl)  hf
        · have hf := if_t hc123 hf
          refine lv_bipush (v := -20) hx hb dX6_read_100 (by decide) ?_
          refine lv_iload hx hb dX6_read_102 (lv_at hl 7 rfl) ?_
          refine lv_isub hx hb dX6_read_104 ?_
          obtain ⟨rfl, rfl, rfl, rfl, rfl, rfl, rfl, rfl, rfl, rfl, rfl⟩ := e11_ hf
          exact r_iret C0 hw trivial dX6_read_105
      · have hf := if_f hc117 hf
        refine lv_goto (tgt := 112) hx hb dX6_read_72 (by decide) ?_
        exact hj111 r114 H locs ls hw (lv_sub hl [2, 4, 6, 7, 0] rfl)  hf
set_option maxHeartbeats 4000000 in
set_option maxRecDepth 100000 in
theorem cJm_read (l : Launch) (D : va_G) (κ : Nat → ClassId) (qx : Nat → Nat) (rx_tape rx_teller rx_equations rx_images rx_draft : Nat) (x_kept : Nat → Int32) (x_textFault x_readFault : Int32) (qb : Nat → Nat) (b_moments b_gains b_topped b_endStiffs b_outs b_endsAt b_stiffAt b_stepsAt : Nat → Int32) (b_steps b_latest : Int32) (qf : Nat → Nat) (f_held f_couples f_endJoints f_lengths f_stiffs f_loadBeams f_loadSizes f_loadPlaces : Nat → Int32) (f_joints f_beams f_loads : Int32) (qsa qh0 : Nat → Nat) (h0_cells : Nat → Int32) (h0_lane h0_size : Int32) (qh1 : Nat → Nat) (h1_cells : Nat → Int32) (h1_lane h1_size : Int32) (qh2 : Nat → Nat) (h2_cells : Nat → Int32) (h2_lane h2_size : Int32) (qh3 : Nat → Nat) (h3_cells : Nat → Int32) (h3_lane h3_size a1 a2 a3 a4 zr z1 : Int32) (z2 z3 z4 z5 z6 z7 : Nat → Int32) (z8 z9 : Int32) (z10 : Nat → Int32) (hf : FJm_read x_readFault b_moments b_endStiffs b_outs b_endsAt b_stiffAt b_stepsAt b_steps b_latest f_couples f_endJoints f_lengths f_stiffs f_loadBeams f_loadSizes f_loadPlaces f_joints f_beams f_loads h0_cells h0_lane h0_size h1_cells h1_lane h1_size h2_cells h2_lane h2_size h3_cells h3_lane h3_size a1 a2 a3 a4 = some (zr, z1, z2, z3, z4, z5, z6, z7, z8, z9, z10)) : mI_ l yX6_read (Cond.code yX6_read cX6_read 9 (some .int) :: uw) ({ frames := 4, cells := 0, slots := 0, locals := 96 } : Room) D (tys0 κ) [.ref (qx 0), .int a1, .int a2, .int a3, .int a4] (List.flatten [pJm κ qx rx_tape rx_teller (qb 0) rx_equations rx_images (qsa 0) (qf 0) rx_draft x_kept x_textFault x_readFault, pBa κ qb b_moments b_gains b_topped b_endStiffs b_outs b_endsAt b_stiffAt b_stepsAt b_steps b_latest, pFr κ qf f_held f_couples f_endJoints f_lengths f_stiffs f_loadBeams f_loadSizes f_loadPlaces f_joints f_beams f_loads, pOa (κ 5) 4 qsa [qh0 0, qh1 0, qh2 0, qh3 0], pSh κ qh0 h0_cells h0_lane h0_size, pSh κ qh1 h1_cells h1_lane h1_size, pSh κ qh2 h2_cells h2_lane h2_size, pSh κ qh3 h3_cells h3_lane h3_size]) nT_ zr (List.flatten [pJm κ qx rx_tape rx_teller (qb 0) rx_equations rx_images (qsa 0) (qf 0) rx_draft x_kept x_textFault z1, pBa κ qb z2 b_gains b_topped z3 z4 z5 z6 z7 z8 z9, pFr κ qf f_held z10 f_endJoints f_lengths f_stiffs f_loadBeams f_loadSizes f_loadPlaces f_joints f_beams f_loads, pOa (κ 5) 4 qsa [qh0 0, qh1 0, qh2 0, qh3 0], pSh κ qh0 h0_cells h0_lane h0_size, pSh κ qh1 h1_cells h1_lane h1_size, pSh κ qh2 h2_cells h2_lane h2_size, pSh κ qh3 h3_cells h3_lane h3_size]) := by
  unfold FJm_read at hf
  refine mI_of (by decide) (Nat.le_of_ble_eq_true rfl) ?_
  intro p e s m below meth c A ls H locs C0 hw hl
  obtain ⟨hx, hb, -, hml, hown, hts, -, -⟩ := id C0
  have hl : lv_has ls 9 [(0, .ref (qx 0)), (1, .int a1), (2, .int a2), (3, .int a3), (4, .int a4)] := hl
  refine lv_iload_n hx hb dX6_read_0 rfl (lv_at hl 1 rfl) ?_
  obtain ⟨r1, hk2, hf⟩ := b1_s hf
  refine rs_i (As := [.int a1]) (rest := []) (bs' := [pJm κ qx rx_tape rx_teller (qb 0) rx_equations rx_images (qsa 0) (qf 0) rx_draft x_kept x_textFault x_readFault, pBa κ qb b_moments b_gains b_topped b_endStiffs b_outs b_endsAt b_stiffAt b_stepsAt b_steps b_latest, pFr κ qf f_held f_couples f_endJoints f_lengths f_stiffs f_loadBeams f_loadSizes f_loadPlaces f_joints f_beams f_loads, pOa (κ 5) 4 qsa [qh0 0, qh1 0, qh2 0, qh3 0], pSh κ qh0 h0_cells h0_lane h0_size, pSh κ qh1 h1_cells h1_lane h1_size, pSh κ qh2 h2_cells h2_lane h2_size, pSh κ qh3 h3_cells h3_lane h3_size]) C0 hw (cJm_isSheet l D κ a1 r1 hk2) cs_X6_231 ⟨rfl, rfl, Nat.le_of_ble_eq_true rfl, Nat.le_of_ble_eq_true rfl⟩ ⟨Nat.zero_le _, Nat.zero_le _⟩ [] [0, 1, 2, 3, 4, 5, 6, 7] [0, 1, 2, 3, 4, 5, 6, 7] rfl rfl rfl rfl (by decide) rfl rfl rfl hl.1 (by simp only [List.map, List.sum_cons, List.sum_nil, Value.category]; decide) dX6_read_1 (fun H locs hw hn3 => ?_)
  refine lv_if_eq (tgt := 26) hx hb dX6_read_4 (by decide) (fun hc4 => ?_) (fun hc4 => ?_)
  · have hf := if_t hc4 hf
    refine lv_iconst (v := -1) hx hb dX6_read_26 (by decide) ?_
    obtain ⟨rfl, rfl, rfl, rfl, rfl, rfl, rfl, rfl, rfl, rfl, rfl⟩ := e11_ hf
    exact r_iret C0 hw trivial dX6_read_27
  · have hf := if_f hc4 hf
    refine lv_iload_n hx hb dX6_read_7 rfl (lv_at hl 2 rfl) ?_
    obtain ⟨r5, hk6, hf⟩ := b1_s hf
    refine rs_i (As := [.int a2]) (rest := []) (bs' := [pJm κ qx rx_tape rx_teller (qb 0) rx_equations rx_images (qsa 0) (qf 0) rx_draft x_kept x_textFault x_readFault, pBa κ qb b_moments b_gains b_topped b_endStiffs b_outs b_endsAt b_stiffAt b_stepsAt b_steps b_latest, pFr κ qf f_held f_couples f_endJoints f_lengths f_stiffs f_loadBeams f_loadSizes f_loadPlaces f_joints f_beams f_loads, pOa (κ 5) 4 qsa [qh0 0, qh1 0, qh2 0, qh3 0], pSh κ qh0 h0_cells h0_lane h0_size, pSh κ qh1 h1_cells h1_lane h1_size, pSh κ qh2 h2_cells h2_lane h2_size, pSh κ qh3 h3_cells h3_lane h3_size]) C0 hw (cJm_isLane l D κ a2 r5 hk6) cs_X6_234 ⟨rfl, rfl, Nat.le_of_ble_eq_true rfl, Nat.le_of_ble_eq_true rfl⟩ ⟨Nat.zero_le _, Nat.zero_le _⟩ [] [0, 1, 2, 3, 4, 5, 6, 7] [0, 1, 2, 3, 4, 5, 6, 7] rfl rfl rfl rfl (by decide) rfl rfl rfl hl.1 (by simp only [List.map, List.sum_cons, List.sum_nil, Value.category]; decide) dX6_read_8 (fun H locs hw hn7 => ?_)
    refine lv_if_eq (tgt := 26) hx hb dX6_read_11 (by decide) (fun hc8 => ?_) (fun hc8 => ?_)
    · have hf := if_t hc8 hf
      refine lv_iconst (v := -1) hx hb dX6_read_26 (by decide) ?_
      obtain ⟨rfl, rfl, rfl, rfl, rfl, rfl, rfl, rfl, rfl, rfl, rfl⟩ := e11_ hf
      exact r_iret C0 hw trivial dX6_read_27
    · have hf := if_f hc8 hf
      refine lv_iload hx hb dX6_read_14 (lv_at hl 4 rfl) ?_
      refine lv_if_lt (tgt := 26) hx hb dX6_read_16 (by decide) (fun hc9 => ?_) (fun hc9 => ?_)
      · have hf := if_t hc9 hf
        refine lv_iconst (v := -1) hx hb dX6_read_26 (by decide) ?_
        obtain ⟨rfl, rfl, rfl, rfl, rfl, rfl, rfl, rfl, rfl, rfl, rfl⟩ := e11_ hf
        exact r_iret C0 hw trivial dX6_read_27
      · have hf := if_f hc9 hf
        refine lv_iload hx hb dX6_read_19 (lv_at hl 4 rfl) ?_
        refine lv_bipush (v := 20) hx hb dX6_read_21 (by decide) ?_
        refine lv_icmp_le (tgt := 28) hx hb dX6_read_23 (by decide) (fun hc10 => ?_) (fun hc10 => ?_)
        · have hf := if_t hc10 hf
          refine lv_aload_n hx hb dX6_read_28 rfl (lv_at hl 0 rfl) ?_
          refine r_get C0 hw 0 6 (v := .ref (qsa 0)) rfl rfl inX6 (by decide) lk_X6_55 rfl dX6_read_29 ?_
          refine lv_iload_n hx hb dX6_read_32 rfl (lv_at hl 1 rfl) ?_
          obtain ⟨hi11, hf⟩ := gd_s hf
          by_cases hc12 : a1 = 0
          · have hf := if_t hc12 hf
            refine r_aldo C0 hw 20 5 (b := qh0 0) rfl rfl hi11 (by rw [hc12]; rfl) dX6_read_33 ?_
            refine lv_astore (lv' := [(5, .ref (qh0 0)), (0, .ref (qx 0)), (1, .int a1), (2, .int a2), (3, .int a3), (4, .int a4)]) hx hb dX6_read_34 hl (by decide) rfl (fun ls hl => ?_)
            refine lv_iconst (v := 0) hx hb dX6_read_36 (by decide) ?_
            refine lv_istore (lv' := [(6, .int (0 : Int32)), (5, .ref (qh0 0)), (0, .ref (qx 0)), (1, .int a1), (2, .int a2), (3, .int a3), (4, .int a4)]) hx hb dX6_read_37 hl (by decide) rfl (fun ls hl => ?_)
            refine lv_iconst (v := 0) hx hb dX6_read_39 (by decide) ?_
            refine lv_istore (lv' := [(7, .int (0 : Int32)), (6, .int (0 : Int32)), (5, .ref (qh0 0)), (0, .ref (qx 0)), (1, .int a1), (2, .int a2), (3, .int a3), (4, .int a4)]) hx hb dX6_read_40 hl (by decide) rfl (fun ls hl => ?_)
            refine wJm_read_L42_0 C0 qx rx_tape rx_teller rx_equations rx_images rx_draft x_kept x_textFault x_readFault qb b_moments b_gains b_topped b_endStiffs b_outs b_endsAt b_stiffAt b_stepsAt b_steps b_latest qf f_held f_couples f_endJoints f_lengths f_stiffs f_loadBeams f_loadSizes f_loadPlaces f_joints f_beams f_loads qsa qh0 h0_cells h0_lane h0_size qh1 h1_cells h1_lane h1_size qh2 h2_cells h2_lane h2_size qh3 h3_cells h3_lane h3_size a2 a3 a4 zr z1 z2 z3 z4 z5 z6 z7 z8 z9 z10 _ (fun v31 v32 H locs ls hw hl  hf => ?_) 1000 (0 : Int32) (0 : Int32) H locs ls hw (lv_sub hl [3, 5, 6, 7, 2, 1, 0] rfl)  hf
            refine lv_aload_n hx hb dX6_read_112 rfl (lv_at hl 0 rfl) ?_
            refine lv_iload hx hb dX6_read_113 (lv_at hl 3 rfl) ?_
            refine r_put C0 hw 0 10 (v := .int v31) (ws' := List.flatten [pJm κ qx rx_tape rx_teller (qb 0) rx_equations rx_images (qsa 0) (qf 0) rx_draft x_kept x_textFault v31, pBa κ qb b_moments b_gains b_topped b_endStiffs b_outs b_endsAt b_stiffAt b_stepsAt b_steps b_latest, pFr κ qf f_held f_couples f_endJoints f_lengths f_stiffs f_loadBeams f_loadSizes f_loadPlaces f_joints f_beams f_loads, pOa (κ 5) 4 qsa [qh0 0, qh1 0, qh2 0, qh3 0], pSh κ qh0 h0_cells h0_lane h0_size, pSh κ qh1 h1_cells h1_lane h1_size, pSh κ qh2 h2_cells h2_lane h2_size, pSh κ qh3 h3_cells h3_lane h3_size]) rfl rfl inX6 tyX6_ok nmX6 (by decide) lk_X6_257 rfl rfl rfl rfl (Nat.le_of_ble_eq_true rfl) dX6_read_115 rfl (fun H locs hw => ?_)
            refine lv_aload_n hx hb dX6_read_118 rfl (lv_at hl 0 rfl) ?_
            refine lv_aload hx hb dX6_read_119 (lv_at hl 2 rfl) ?_
            refine lv_iload_n hx hb dX6_read_121 rfl (lv_at hl 1 rfl) ?_
            refine lv_iload hx hb dX6_read_122 (lv_at hl 4 rfl) ?_
            obtain ⟨w33, w34, w35, w36, w37, w38, w39, w40, w41, hk42, hf⟩ := b9_s hf
            refine rv_v (vq := (RX6, TX6, 11)) (As := [.ref (qh0 0), .int a3, .int v32]) (rest := []) (bs' := [pJm κ qx rx_tape rx_teller (qb 0) rx_equations rx_images (qsa 0) (qf 0) rx_draft x_kept x_textFault v31, pBa κ qb w33 b_gains b_topped w34 w35 w36 w37 w38 w39 w40, pFr κ qf f_held w41 f_endJoints f_lengths f_stiffs f_loadBeams f_loadSizes f_loadPlaces f_joints f_beams f_loads, pOa (κ 5) 4 qsa [qh0 0, qh1 0, qh2 0, qh3 0], pSh κ qh0 h0_cells h0_lane h0_size, pSh κ qh1 h1_cells h1_lane h1_size, pSh κ qh2 h2_cells h2_lane h2_size, pSh κ qh3 h3_cells h3_lane h3_size]) C0 hw (cJm_takeCouples l D κ qx _ _ _ _ _ _ x_kept x_textFault v31 qb b_moments b_gains b_topped b_endStiffs b_outs b_endsAt b_stiffAt b_stepsAt b_steps b_latest qf f_held f_couples f_endJoints f_lengths f_stiffs f_loadBeams f_loadSizes f_loadPlaces f_joints f_beams f_loads qh0 h0_cells h0_lane h0_size a3 v32 w33 w34 w35 w36 w37 w38 w39 w40 w41 hk42) cv_RX6_260 ⟨rfl, rfl, Nat.le_of_ble_eq_true rfl, Nat.le_of_ble_eq_true rfl⟩ ⟨Nat.zero_le _, Nat.zero_le _⟩ [0, 1, 2, 4] [3, 5, 6, 7] [4, 5, 6, 0, 7, 1, 2, 3] rfl rfl rfl rfl (by decide) rfl rfl rfl rfl rfl hl.1 (by simp only [List.map, List.sum_cons, List.sum_nil, Value.category]; decide) dX6_read_124 (fun H locs hw => ?_)
            refine lv_iload hx hb dX6_read_127 (lv_at hl 4 rfl) ?_
            obtain ⟨rfl, rfl, rfl, rfl, rfl, rfl, rfl, rfl, rfl, rfl, rfl⟩ := e11_ hf
            exact r_iret C0 hw trivial dX6_read_129
          have hf := if_f hc12 hf
          by_cases hc44 : a1 = 1
          · have hf := if_t hc44 hf
            refine r_aldo C0 hw 20 5 (b := qh1 0) rfl rfl hi11 (by rw [hc44]; rfl) dX6_read_33 ?_
            refine lv_astore (lv' := [(5, .ref (qh1 0)), (0, .ref (qx 0)), (1, .int a1), (2, .int a2), (3, .int a3), (4, .int a4)]) hx hb dX6_read_34 hl (by decide) rfl (fun ls hl => ?_)
            refine lv_iconst (v := 0) hx hb dX6_read_36 (by decide) ?_
            refine lv_istore (lv' := [(6, .int (0 : Int32)), (5, .ref (qh1 0)), (0, .ref (qx 0)), (1, .int a1), (2, .int a2), (3, .int a3), (4, .int a4)]) hx hb dX6_read_37 hl (by decide) rfl (fun ls hl => ?_)
            refine lv_iconst (v := 0) hx hb dX6_read_39 (by decide) ?_
            refine lv_istore (lv' := [(7, .int (0 : Int32)), (6, .int (0 : Int32)), (5, .ref (qh1 0)), (0, .ref (qx 0)), (1, .int a1), (2, .int a2), (3, .int a3), (4, .int a4)]) hx hb dX6_read_40 hl (by decide) rfl (fun ls hl => ?_)
            refine wJm_read_L42_1 C0 qx rx_tape rx_teller rx_equations rx_images rx_draft x_kept x_textFault x_readFault qb b_moments b_gains b_topped b_endStiffs b_outs b_endsAt b_stiffAt b_stepsAt b_steps b_latest qf f_held f_couples f_endJoints f_lengths f_stiffs f_loadBeams f_loadSizes f_loadPlaces f_joints f_beams f_loads qsa qh0 h0_cells h0_lane h0_size qh1 h1_cells h1_lane h1_size qh2 h2_cells h2_lane h2_size qh3 h3_cells h3_lane h3_size a2 a3 a4 zr z1 z2 z3 z4 z5 z6 z7 z8 z9 z10 _ (fun v63 v64 H locs ls hw hl  hf => ?_) 1000 (0 : Int32) (0 : Int32) H locs ls hw (lv_sub hl [3, 5, 6, 7, 2, 1, 0] rfl)  hf
            refine lv_aload_n hx hb dX6_read_112 rfl (lv_at hl 0 rfl) ?_
            refine lv_iload hx hb dX6_read_113 (lv_at hl 3 rfl) ?_
            refine r_put C0 hw 0 10 (v := .int v63) (ws' := List.flatten [pJm κ qx rx_tape rx_teller (qb 0) rx_equations rx_images (qsa 0) (qf 0) rx_draft x_kept x_textFault v63, pBa κ qb b_moments b_gains b_topped b_endStiffs b_outs b_endsAt b_stiffAt b_stepsAt b_steps b_latest, pFr κ qf f_held f_couples f_endJoints f_lengths f_stiffs f_loadBeams f_loadSizes f_loadPlaces f_joints f_beams f_loads, pOa (κ 5) 4 qsa [qh0 0, qh1 0, qh2 0, qh3 0], pSh κ qh0 h0_cells h0_lane h0_size, pSh κ qh1 h1_cells h1_lane h1_size, pSh κ qh2 h2_cells h2_lane h2_size, pSh κ qh3 h3_cells h3_lane h3_size]) rfl rfl inX6 tyX6_ok nmX6 (by decide) lk_X6_257 rfl rfl rfl rfl (Nat.le_of_ble_eq_true rfl) dX6_read_115 rfl (fun H locs hw => ?_)
            refine lv_aload_n hx hb dX6_read_118 rfl (lv_at hl 0 rfl) ?_
            refine lv_aload hx hb dX6_read_119 (lv_at hl 2 rfl) ?_
            refine lv_iload_n hx hb dX6_read_121 rfl (lv_at hl 1 rfl) ?_
            refine lv_iload hx hb dX6_read_122 (lv_at hl 4 rfl) ?_
            obtain ⟨w65, w66, w67, w68, w69, w70, w71, w72, w73, hk74, hf⟩ := b9_s hf
            refine rv_v (vq := (RX6, TX6, 11)) (As := [.ref (qh1 0), .int a3, .int v64]) (rest := []) (bs' := [pJm κ qx rx_tape rx_teller (qb 0) rx_equations rx_images (qsa 0) (qf 0) rx_draft x_kept x_textFault v63, pBa κ qb w65 b_gains b_topped w66 w67 w68 w69 w70 w71 w72, pFr κ qf f_held w73 f_endJoints f_lengths f_stiffs f_loadBeams f_loadSizes f_loadPlaces f_joints f_beams f_loads, pOa (κ 5) 4 qsa [qh0 0, qh1 0, qh2 0, qh3 0], pSh κ qh0 h0_cells h0_lane h0_size, pSh κ qh1 h1_cells h1_lane h1_size, pSh κ qh2 h2_cells h2_lane h2_size, pSh κ qh3 h3_cells h3_lane h3_size]) C0 hw (cJm_takeCouples l D κ qx _ _ _ _ _ _ x_kept x_textFault v63 qb b_moments b_gains b_topped b_endStiffs b_outs b_endsAt b_stiffAt b_stepsAt b_steps b_latest qf f_held f_couples f_endJoints f_lengths f_stiffs f_loadBeams f_loadSizes f_loadPlaces f_joints f_beams f_loads qh1 h1_cells h1_lane h1_size a3 v64 w65 w66 w67 w68 w69 w70 w71 w72 w73 hk74) cv_RX6_260 ⟨rfl, rfl, Nat.le_of_ble_eq_true rfl, Nat.le_of_ble_eq_true rfl⟩ ⟨Nat.zero_le _, Nat.zero_le _⟩ [0, 1, 2, 5] [3, 4, 6, 7] [4, 5, 6, 0, 1, 7, 2, 3] rfl rfl rfl rfl (by decide) rfl rfl rfl rfl rfl hl.1 (by simp only [List.map, List.sum_cons, List.sum_nil, Value.category]; decide) dX6_read_124 (fun H locs hw => ?_)
            refine lv_iload hx hb dX6_read_127 (lv_at hl 4 rfl) ?_
            obtain ⟨rfl, rfl, rfl, rfl, rfl, rfl, rfl, rfl, rfl, rfl, rfl⟩ := e11_ hf
            exact r_iret C0 hw trivial dX6_read_129
          have hf := if_f hc44 hf
          by_cases hc76 : a1 = 2
          · have hf := if_t hc76 hf
            refine r_aldo C0 hw 20 5 (b := qh2 0) rfl rfl hi11 (by rw [hc76]; rfl) dX6_read_33 ?_
            refine lv_astore (lv' := [(5, .ref (qh2 0)), (0, .ref (qx 0)), (1, .int a1), (2, .int a2), (3, .int a3), (4, .int a4)]) hx hb dX6_read_34 hl (by decide) rfl (fun ls hl => ?_)
            refine lv_iconst (v := 0) hx hb dX6_read_36 (by decide) ?_
            refine lv_istore (lv' := [(6, .int (0 : Int32)), (5, .ref (qh2 0)), (0, .ref (qx 0)), (1, .int a1), (2, .int a2), (3, .int a3), (4, .int a4)]) hx hb dX6_read_37 hl (by decide) rfl (fun ls hl => ?_)
            refine lv_iconst (v := 0) hx hb dX6_read_39 (by decide) ?_
            refine lv_istore (lv' := [(7, .int (0 : Int32)), (6, .int (0 : Int32)), (5, .ref (qh2 0)), (0, .ref (qx 0)), (1, .int a1), (2, .int a2), (3, .int a3), (4, .int a4)]) hx hb dX6_read_40 hl (by decide) rfl (fun ls hl => ?_)
            refine wJm_read_L42_2 C0 qx rx_tape rx_teller rx_equations rx_images rx_draft x_kept x_textFault x_readFault qb b_moments b_gains b_topped b_endStiffs b_outs b_endsAt b_stiffAt b_stepsAt b_steps b_latest qf f_held f_couples f_endJoints f_lengths f_stiffs f_loadBeams f_loadSizes f_loadPlaces f_joints f_beams f_loads qsa qh0 h0_cells h0_lane h0_size qh1 h1_cells h1_lane h1_size qh2 h2_cells h2_lane h2_size qh3 h3_cells h3_lane h3_size a2 a3 a4 zr z1 z2 z3 z4 z5 z6 z7 z8 z9 z10 _ (fun v95 v96 H locs ls hw hl  hf => ?_) 1000 (0 : Int32) (0 : Int32) H locs ls hw (lv_sub hl [3, 5, 6, 7, 2, 1, 0] rfl)  hf
            refine lv_aload_n hx hb dX6_read_112 rfl (lv_at hl 0 rfl) ?_
            refine lv_iload hx hb dX6_read_113 (lv_at hl 3 rfl) ?_
            refine r_put C0 hw 0 10 (v := .int v95) (ws' := List.flatten [pJm κ qx rx_tape rx_teller (qb 0) rx_equations rx_images (qsa 0) (qf 0) rx_draft x_kept x_textFault v95, pBa κ qb b_moments b_gains b_topped b_endStiffs b_outs b_endsAt b_stiffAt b_stepsAt b_steps b_latest, pFr κ qf f_held f_couples f_endJoints f_lengths f_stiffs f_loadBeams f_loadSizes f_loadPlaces f_joints f_beams f_loads, pOa (κ 5) 4 qsa [qh0 0, qh1 0, qh2 0, qh3 0], pSh κ qh0 h0_cells h0_lane h0_size, pSh κ qh1 h1_cells h1_lane h1_size, pSh κ qh2 h2_cells h2_lane h2_size, pSh κ qh3 h3_cells h3_lane h3_size]) rfl rfl inX6 tyX6_ok nmX6 (by decide) lk_X6_257 rfl rfl rfl rfl (Nat.le_of_ble_eq_true rfl) dX6_read_115 rfl (fun H locs hw => ?_)
            refine lv_aload_n hx hb dX6_read_118 rfl (lv_at hl 0 rfl) ?_
            refine lv_aload hx hb dX6_read_119 (lv_at hl 2 rfl) ?_
            refine lv_iload_n hx hb dX6_read_121 rfl (lv_at hl 1 rfl) ?_
            refine lv_iload hx hb dX6_read_122 (lv_at hl 4 rfl) ?_
            obtain ⟨w97, w98, w99, w100, w101, w102, w103, w104, w105, hk106, hf⟩ := b9_s hf
            refine rv_v (vq := (RX6, TX6, 11)) (As := [.ref (qh2 0), .int a3, .int v96]) (rest := []) (bs' := [pJm κ qx rx_tape rx_teller (qb 0) rx_equations rx_images (qsa 0) (qf 0) rx_draft x_kept x_textFault v95, pBa κ qb w97 b_gains b_topped w98 w99 w100 w101 w102 w103 w104, pFr κ qf f_held w105 f_endJoints f_lengths f_stiffs f_loadBeams f_loadSizes f_loadPlaces f_joints f_beams f_loads, pOa (κ 5) 4 qsa [qh0 0, qh1 0, qh2 0, qh3 0], pSh κ qh0 h0_cells h0_lane h0_size, pSh κ qh1 h1_cells h1_lane h1_size, pSh κ qh2 h2_cells h2_lane h2_size, pSh κ qh3 h3_cells h3_lane h3_size]) C0 hw (cJm_takeCouples l D κ qx _ _ _ _ _ _ x_kept x_textFault v95 qb b_moments b_gains b_topped b_endStiffs b_outs b_endsAt b_stiffAt b_stepsAt b_steps b_latest qf f_held f_couples f_endJoints f_lengths f_stiffs f_loadBeams f_loadSizes f_loadPlaces f_joints f_beams f_loads qh2 h2_cells h2_lane h2_size a3 v96 w97 w98 w99 w100 w101 w102 w103 w104 w105 hk106) cv_RX6_260 ⟨rfl, rfl, Nat.le_of_ble_eq_true rfl, Nat.le_of_ble_eq_true rfl⟩ ⟨Nat.zero_le _, Nat.zero_le _⟩ [0, 1, 2, 6] [3, 4, 5, 7] [4, 5, 6, 0, 1, 2, 7, 3] rfl rfl rfl rfl (by decide) rfl rfl rfl rfl rfl hl.1 (by simp only [List.map, List.sum_cons, List.sum_nil, Value.category]; decide) dX6_read_124 (fun H locs hw => ?_)
            refine lv_iload hx hb dX6_read_127 (lv_at hl 4 rfl) ?_
            obtain ⟨rfl, rfl, rfl, rfl, rfl, rfl, rfl, rfl, rfl, rfl, rfl⟩ := e11_ hf
            exact r_iret C0 hw trivial dX6_read_129
          have hf := if_f hc76 hf
          by_cases hc108 : a1 = 3
          · have hf := if_t hc108 hf
            refine r_aldo C0 hw 20 5 (b := qh3 0) rfl rfl hi11 (by rw [hc108]; rfl) dX6_read_33 ?_
            refine lv_astore (lv' := [(5, .ref (qh3 0)), (0, .ref (qx 0)), (1, .int a1), (2, .int a2), (3, .int a3), (4, .int a4)]) hx hb dX6_read_34 hl (by decide) rfl (fun ls hl => ?_)
            refine lv_iconst (v := 0) hx hb dX6_read_36 (by decide) ?_
            refine lv_istore (lv' := [(6, .int (0 : Int32)), (5, .ref (qh3 0)), (0, .ref (qx 0)), (1, .int a1), (2, .int a2), (3, .int a3), (4, .int a4)]) hx hb dX6_read_37 hl (by decide) rfl (fun ls hl => ?_)
            refine lv_iconst (v := 0) hx hb dX6_read_39 (by decide) ?_
            refine lv_istore (lv' := [(7, .int (0 : Int32)), (6, .int (0 : Int32)), (5, .ref (qh3 0)), (0, .ref (qx 0)), (1, .int a1), (2, .int a2), (3, .int a3), (4, .int a4)]) hx hb dX6_read_40 hl (by decide) rfl (fun ls hl => ?_)
            refine wJm_read_L42_3 C0 qx rx_tape rx_teller rx_equations rx_images rx_draft x_kept x_textFault x_readFault qb b_moments b_gains b_topped b_endStiffs b_outs b_endsAt b_stiffAt b_stepsAt b_steps b_latest qf f_held f_couples f_endJoints f_lengths f_stiffs f_loadBeams f_loadSizes f_loadPlaces f_joints f_beams f_loads qsa qh0 h0_cells h0_lane h0_size qh1 h1_cells h1_lane h1_size qh2 h2_cells h2_lane h2_size qh3 h3_cells h3_lane h3_size a2 a3 a4 zr z1 z2 z3 z4 z5 z6 z7 z8 z9 z10 _ (fun v127 v128 H locs ls hw hl  hf => ?_) 1000 (0 : Int32) (0 : Int32) H locs ls hw (lv_sub hl [3, 5, 6, 7, 2, 1, 0] rfl)  hf
            refine lv_aload_n hx hb dX6_read_112 rfl (lv_at hl 0 rfl) ?_
            refine lv_iload hx hb dX6_read_113 (lv_at hl 3 rfl) ?_
            refine r_put C0 hw 0 10 (v := .int v127) (ws' := List.flatten [pJm κ qx rx_tape rx_teller (qb 0) rx_equations rx_images (qsa 0) (qf 0) rx_draft x_kept x_textFault v127, pBa κ qb b_moments b_gains b_topped b_endStiffs b_outs b_endsAt b_stiffAt b_stepsAt b_steps b_latest, pFr κ qf f_held f_couples f_endJoints f_lengths f_stiffs f_loadBeams f_loadSizes f_loadPlaces f_joints f_beams f_loads, pOa (κ 5) 4 qsa [qh0 0, qh1 0, qh2 0, qh3 0], pSh κ qh0 h0_cells h0_lane h0_size, pSh κ qh1 h1_cells h1_lane h1_size, pSh κ qh2 h2_cells h2_lane h2_size, pSh κ qh3 h3_cells h3_lane h3_size]) rfl rfl inX6 tyX6_ok nmX6 (by decide) lk_X6_257 rfl rfl rfl rfl (Nat.le_of_ble_eq_true rfl) dX6_read_115 rfl (fun H locs hw => ?_)
            refine lv_aload_n hx hb dX6_read_118 rfl (lv_at hl 0 rfl) ?_
            refine lv_aload hx hb dX6_read_119 (lv_at hl 2 rfl) ?_
            refine lv_iload_n hx hb dX6_read_121 rfl (lv_at hl 1 rfl) ?_
            refine lv_iload hx hb dX6_read_122 (lv_at hl 4 rfl) ?_
            obtain ⟨w129, w130, w131, w132, w133, w134, w135, w136, w137, hk138, hf⟩ := b9_s hf
            refine rv_v (vq := (RX6, TX6, 11)) (As := [.ref (qh3 0), .int a3, .int v128]) (rest := []) (bs' := [pJm κ qx rx_tape rx_teller (qb 0) rx_equations rx_images (qsa 0) (qf 0) rx_draft x_kept x_textFault v127, pBa κ qb w129 b_gains b_topped w130 w131 w132 w133 w134 w135 w136, pFr κ qf f_held w137 f_endJoints f_lengths f_stiffs f_loadBeams f_loadSizes f_loadPlaces f_joints f_beams f_loads, pOa (κ 5) 4 qsa [qh0 0, qh1 0, qh2 0, qh3 0], pSh κ qh0 h0_cells h0_lane h0_size, pSh κ qh1 h1_cells h1_lane h1_size, pSh κ qh2 h2_cells h2_lane h2_size, pSh κ qh3 h3_cells h3_lane h3_size]) C0 hw (cJm_takeCouples l D κ qx _ _ _ _ _ _ x_kept x_textFault v127 qb b_moments b_gains b_topped b_endStiffs b_outs b_endsAt b_stiffAt b_stepsAt b_steps b_latest qf f_held f_couples f_endJoints f_lengths f_stiffs f_loadBeams f_loadSizes f_loadPlaces f_joints f_beams f_loads qh3 h3_cells h3_lane h3_size a3 v128 w129 w130 w131 w132 w133 w134 w135 w136 w137 hk138) cv_RX6_260 ⟨rfl, rfl, Nat.le_of_ble_eq_true rfl, Nat.le_of_ble_eq_true rfl⟩ ⟨Nat.zero_le _, Nat.zero_le _⟩ [0, 1, 2, 7] [3, 4, 5, 6] [4, 5, 6, 0, 1, 2, 3, 7] rfl rfl rfl rfl (by decide) rfl rfl rfl rfl rfl hl.1 (by simp only [List.map, List.sum_cons, List.sum_nil, Value.category]; decide) dX6_read_124 (fun H locs hw => ?_)
            refine lv_iload hx hb dX6_read_127 (lv_at hl 4 rfl) ?_
            obtain ⟨rfl, rfl, rfl, rfl, rfl, rfl, rfl, rfl, rfl, rfl, rfl⟩ := e11_ hf
            exact r_iret C0 hw trivial dX6_read_129
          have hf := if_f hc108 hf
          cases hf
        · have hf := if_f hc10 hf
          refine lv_iconst (v := -1) hx hb dX6_read_26 (by decide) ?_
          obtain ⟨rfl, rfl, rfl, rfl, rfl, rfl, rfl, rfl, rfl, rfl, rfl⟩ := e11_ hf
          exact r_iret C0 hw trivial dX6_read_27
def FJm_count (x_kept b_endsAt : Nat → Int32) (f_joints p_size h0_size a1 : Int32) : Option (Int32) :=
  if a1 = 0 then
    gd_ (0 : Int32) 2 <|
    if (x_kept (0 : Int32).toNatClampNeg) = 0 then
      gd_ (1 : Int32) 2 <|
      if (x_kept (1 : Int32).toNatClampNeg) = 0 then
        some (((0 : Int32) + (0 : Int32)))
      else
        some (((0 : Int32) + (1 : Int32)))
    else
      gd_ (1 : Int32) 2 <|
      if (x_kept (1 : Int32).toNatClampNeg) = 0 then
        some (((1 : Int32) + (0 : Int32)))
      else
        some (((1 : Int32) + (1 : Int32)))
  else
  if a1 = 1 then
    some (p_size)
  else
  if a1 = 2 then
    if 0 ≤ h0_size then
      some (h0_size)
    else
      some ((-4 : Int32))
  else
  if a1 = 3 then
    b1_ (FBa_bare b_endsAt f_joints) fun r14 =>
    some (r14)
  else
  some ((-1 : Int32))
set_option maxHeartbeats 4000000 in
set_option maxRecDepth 100000 in
theorem cJm_count (l : Launch) (D : va_G) (κ : Nat → ClassId) (qx : Nat → Nat) (rx_teller rx_equations rx_images rx_draft : Nat) (x_kept : Nat → Int32) (x_textFault x_readFault : Int32) (qb : Nat → Nat) (b_moments b_gains b_topped b_endStiffs b_outs b_endsAt b_stiffAt b_stepsAt : Nat → Int32) (b_steps b_latest : Int32) (qf : Nat → Nat) (f_held f_couples f_endJoints f_lengths f_stiffs f_loadBeams f_loadSizes f_loadPlaces : Nat → Int32) (f_joints f_beams f_loads : Int32) (qp : Nat → Nat) (p_bytes : Nat → Int32) (p_size : Int32) (qsa qh0 : Nat → Nat) (h0_cells : Nat → Int32) (h0_lane h0_size : Int32) (qh1 : Nat → Nat) (h1_cells : Nat → Int32) (h1_lane h1_size : Int32) (qh2 : Nat → Nat) (h2_cells : Nat → Int32) (h2_lane h2_size : Int32) (qh3 : Nat → Nat) (h3_cells : Nat → Int32) (h3_lane h3_size a1 zr : Int32) (hf : FJm_count x_kept b_endsAt f_joints p_size h0_size a1 = some zr) : mI_ l yX6_count (Cond.code yX6_count cX6_count 2 (some .int) :: uw) ({ frames := 1, cells := 0, slots := 0, locals := 23 } : Room) D (tys0 κ) [.ref (qx 0), .int a1] (List.flatten [pJm κ qx (qp 0) rx_teller (qb 0) rx_equations rx_images (qsa 0) (qf 0) rx_draft x_kept x_textFault x_readFault, pBa κ qb b_moments b_gains b_topped b_endStiffs b_outs b_endsAt b_stiffAt b_stepsAt b_steps b_latest, pFr κ qf f_held f_couples f_endJoints f_lengths f_stiffs f_loadBeams f_loadSizes f_loadPlaces f_joints f_beams f_loads, pTa κ qp p_bytes p_size, pOa (κ 5) 4 qsa [qh0 0, qh1 0, qh2 0, qh3 0], pSh κ qh0 h0_cells h0_lane h0_size, pSh κ qh1 h1_cells h1_lane h1_size, pSh κ qh2 h2_cells h2_lane h2_size, pSh κ qh3 h3_cells h3_lane h3_size]) nT_ zr (List.flatten [pJm κ qx (qp 0) rx_teller (qb 0) rx_equations rx_images (qsa 0) (qf 0) rx_draft x_kept x_textFault x_readFault, pBa κ qb b_moments b_gains b_topped b_endStiffs b_outs b_endsAt b_stiffAt b_stepsAt b_steps b_latest, pFr κ qf f_held f_couples f_endJoints f_lengths f_stiffs f_loadBeams f_loadSizes f_loadPlaces f_joints f_beams f_loads, pTa κ qp p_bytes p_size, pOa (κ 5) 4 qsa [qh0 0, qh1 0, qh2 0, qh3 0], pSh κ qh0 h0_cells h0_lane h0_size, pSh κ qh1 h1_cells h1_lane h1_size, pSh κ qh2 h2_cells h2_lane h2_size, pSh κ qh3 h3_cells h3_lane h3_size]) := by
  unfold FJm_count at hf
  refine mI_of (by decide) (Nat.le_of_ble_eq_true rfl) ?_
  intro p e s m below meth c A ls H locs C0 hw hl
  obtain ⟨hx, hb, -, hml, hown, hts, -, -⟩ := id C0
  have hl : lv_has ls 2 [(0, .ref (qx 0)), (1, .int a1)] := hl
  refine lv_iload_n hx hb dX6_count_0 rfl (lv_at hl 1 rfl) ?_
  by_cases hc1 : a1 = 0
  · have hf := if_t hc1 hf
    refine lv_tableIn (tgt := 32) hx hb dX6_count_1 (by rw [hc1]; decide) (by rw [hc1]; decide) (by rw [hc1]; rfl) (by decide) ?_
    refine lv_aload_n hx hb dX6_count_32 rfl (lv_at hl 0 rfl) ?_
    refine r_get C0 hw 0 5 (v := .ref (qx 1)) rfl rfl inX6 (by decide) lk_X6_49 rfl dX6_count_33 ?_
    refine lv_iconst (v := 0) hx hb dX6_count_36 (by decide) ?_
    obtain ⟨hi2, hf⟩ := gd_s hf
    refine r_zald C0 hw 1 1 rfl rfl hi2 dX6_count_37 ?_
    refine lv_if_eq (tgt := 45) hx hb dX6_count_38 (by decide) (fun hc3 => ?_) (fun hc3 => ?_)
    · have hf := if_t hc3 hf
      refine lv_iconst (v := 0) hx hb dX6_count_45 (by decide) ?_
      refine lv_aload_n hx hb dX6_count_46 rfl (lv_at hl 0 rfl) ?_
      refine r_get C0 hw 0 5 (v := .ref (qx 1)) rfl rfl inX6 (by decide) lk_X6_49 rfl dX6_count_47 ?_
      refine lv_iconst (v := 1) hx hb dX6_count_50 (by decide) ?_
      obtain ⟨hi4, hf⟩ := gd_s hf
      refine r_zald C0 hw 1 1 rfl rfl hi4 dX6_count_51 ?_
      refine lv_if_eq (tgt := 59) hx hb dX6_count_52 (by decide) (fun hc5 => ?_) (fun hc5 => ?_)
      · have hf := if_t hc5 hf
        refine lv_iconst (v := 0) hx hb dX6_count_59 (by decide) ?_
        refine lv_iadd hx hb dX6_count_60 ?_
        obtain rfl := e1_ hf
        exact r_iret C0 hw trivial dX6_count_61
      · have hf := if_f hc5 hf
        refine lv_iconst (v := 1) hx hb dX6_count_55 (by decide) ?_
        refine lv_goto (tgt := 60) hx hb dX6_count_56 (by decide) ?_
        refine lv_iadd hx hb dX6_count_60 ?_
        obtain rfl := e1_ hf
        exact r_iret C0 hw trivial dX6_count_61
    · have hf := if_f hc3 hf
      refine lv_iconst (v := 1) hx hb dX6_count_41 (by decide) ?_
      refine lv_goto (tgt := 46) hx hb dX6_count_42 (by decide) ?_
      refine lv_aload_n hx hb dX6_count_46 rfl (lv_at hl 0 rfl) ?_
      refine r_get C0 hw 0 5 (v := .ref (qx 1)) rfl rfl inX6 (by decide) lk_X6_49 rfl dX6_count_47 ?_
      refine lv_iconst (v := 1) hx hb dX6_count_50 (by decide) ?_
      obtain ⟨hi6, hf⟩ := gd_s hf
      refine r_zald C0 hw 1 1 rfl rfl hi6 dX6_count_51 ?_
      refine lv_if_eq (tgt := 59) hx hb dX6_count_52 (by decide) (fun hc7 => ?_) (fun hc7 => ?_)
      · have hf := if_t hc7 hf
        refine lv_iconst (v := 0) hx hb dX6_count_59 (by decide) ?_
        refine lv_iadd hx hb dX6_count_60 ?_
        obtain rfl := e1_ hf
        exact r_iret C0 hw trivial dX6_count_61
      · have hf := if_f hc7 hf
        refine lv_iconst (v := 1) hx hb dX6_count_55 (by decide) ?_
        refine lv_goto (tgt := 60) hx hb dX6_count_56 (by decide) ?_
        refine lv_iadd hx hb dX6_count_60 ?_
        obtain rfl := e1_ hf
        exact r_iret C0 hw trivial dX6_count_61
  have hf := if_f hc1 hf
  by_cases hc8 : a1 = 1
  · have hf := if_t hc8 hf
    refine lv_tableIn (tgt := 62) hx hb dX6_count_1 (by rw [hc8]; decide) (by rw [hc8]; decide) (by rw [hc8]; rfl) (by decide) ?_
    refine lv_aload_n hx hb dX6_count_62 rfl (lv_at hl 0 rfl) ?_
    refine r_get C0 hw 0 0 (v := .ref (qp 0)) rfl rfl inX6 (by decide) lk_X6_20 rfl dX6_count_63 ?_
    refine r_get C0 hw 20 1 (v := .int p_size) rfl rfl inX4 (by decide) lk_X6_60 rfl dX6_count_66 ?_
    obtain rfl := e1_ hf
    exact r_iret C0 hw trivial dX6_count_69
  have hf := if_f hc8 hf
  by_cases hc9 : a1 = 2
  · have hf := if_t hc9 hf
    refine lv_tableIn (tgt := 70) hx hb dX6_count_1 (by rw [hc9]; decide) (by rw [hc9]; decide) (by rw [hc9]; rfl) (by decide) ?_
    refine lv_aload_n hx hb dX6_count_70 rfl (lv_at hl 0 rfl) ?_
    refine r_get C0 hw 0 6 (v := .ref (qsa 0)) rfl rfl inX6 (by decide) lk_X6_55 rfl dX6_count_71 ?_
    refine lv_iconst (v := 0) hx hb dX6_count_74 (by decide) ?_
    refine r_aldo C0 hw 22 5 (b := qh0 0) rfl rfl (by unfold vp_in; decide) rfl dX6_count_75 ?_
    refine r_get C0 hw 23 2 (v := .int h0_size) rfl rfl inX3 (by decide) lk_X6_264 rfl dX6_count_76 ?_
    refine lv_if_ge (tgt := 87) hx hb dX6_count_79 (by decide) (fun hc11 => ?_) (fun hc11 => ?_)
    · have hf := if_t hc11 hf
      refine lv_aload_n hx hb dX6_count_87 rfl (lv_at hl 0 rfl) ?_
      refine r_get C0 hw 0 6 (v := .ref (qsa 0)) rfl rfl inX6 (by decide) lk_X6_55 rfl dX6_count_88 ?_
      refine lv_iconst (v := 0) hx hb dX6_count_91 (by decide) ?_
      refine r_aldo C0 hw 22 5 (b := qh0 0) rfl rfl (by unfold vp_in; decide) rfl dX6_count_92 ?_
      refine r_get C0 hw 23 2 (v := .int h0_size) rfl rfl inX3 (by decide) lk_X6_264 rfl dX6_count_93 ?_
      obtain rfl := e1_ hf
      exact r_iret C0 hw trivial dX6_count_96
    · have hf := if_f hc11 hf
      refine lv_bipush (v := -4) hx hb dX6_count_82 (by decide) ?_
      refine lv_goto (tgt := 96) hx hb dX6_count_84 (by decide) ?_
      obtain rfl := e1_ hf
      exact r_iret C0 hw trivial dX6_count_96
  have hf := if_f hc9 hf
  by_cases hc13 : a1 = 3
  · have hf := if_t hc13 hf
    refine lv_tableIn (tgt := 97) hx hb dX6_count_1 (by rw [hc13]; decide) (by rw [hc13]; decide) (by rw [hc13]; rfl) (by decide) ?_
    refine lv_aload_n hx hb dX6_count_97 rfl (lv_at hl 0 rfl) ?_
    refine r_get C0 hw 0 2 (v := .ref (qb 0)) rfl rfl inX6 (by decide) lk_X6_24 rfl dX6_count_98 ?_
    refine lv_aload_n hx hb dX6_count_101 rfl (lv_at hl 0 rfl) ?_
    refine r_get C0 hw 0 7 (v := .ref (qf 0)) rfl rfl inX6 (by decide) lk_X6_38 rfl dX6_count_102 ?_
    obtain ⟨r14, hk15, hf⟩ := b1_s hf
    refine rv_i (vq := (RX0, TX0, 10)) (As := [.ref (qf 0)]) (rest := []) (bs' := [pJm κ qx (qp 0) rx_teller (qb 0) rx_equations rx_images (qsa 0) (qf 0) rx_draft x_kept x_textFault x_readFault, pBa κ qb b_moments b_gains b_topped b_endStiffs b_outs b_endsAt b_stiffAt b_stepsAt b_steps b_latest, pFr κ qf f_held f_couples f_endJoints f_lengths f_stiffs f_loadBeams f_loadSizes f_loadPlaces f_joints f_beams f_loads, pTa κ qp p_bytes p_size, pOa (κ 5) 4 qsa [qh0 0, qh1 0, qh2 0, qh3 0], pSh κ qh0 h0_cells h0_lane h0_size, pSh κ qh1 h1_cells h1_lane h1_size, pSh κ qh2 h2_cells h2_lane h2_size, pSh κ qh3 h3_cells h3_lane h3_size]) C0 hw (cBa_bare l D κ qb b_moments b_gains b_topped b_endStiffs b_outs b_endsAt b_stiffAt b_stepsAt b_steps b_latest qf f_held f_couples f_endJoints f_lengths f_stiffs f_loadBeams f_loadSizes f_loadPlaces f_joints f_beams f_loads r14 hk15) cv_RX6_265 ⟨rfl, rfl, Nat.le_of_ble_eq_true rfl, Nat.le_of_ble_eq_true rfl⟩ ⟨Nat.zero_le _, Nat.zero_le _⟩ [1, 2] [0, 3, 4, 5, 6, 7, 8] [0, 7, 8, 1, 2, 3, 4, 5, 6] rfl rfl rfl rfl (by decide) rfl rfl rfl rfl rfl hl.1 (by simp only [List.map, List.sum_cons, List.sum_nil, Value.category]; decide) dX6_count_105 (fun H locs hw hn16 => ?_)
    obtain rfl := e1_ hf
    exact r_iret C0 hw trivial dX6_count_108
  have hf := if_f hc13 hf
  have hc1 := lv_neT (a := 0) hc1 (by decide)
  have hc8 := lv_neT (a := 1) hc8 (by decide)
  have hc9 := lv_neT (a := 2) hc9 (by decide)
  have hc13 := lv_neT (a := 3) hc13 (by decide)
  refine lv_tableOut (tgt := 109) hx hb dX6_count_1 (by omega) (by decide) ?_
  refine lv_iconst (v := -1) hx hb dX6_count_109 (by decide) ?_
  obtain rfl := e1_ hf
  exact r_iret C0 hw trivial dX6_count_110
