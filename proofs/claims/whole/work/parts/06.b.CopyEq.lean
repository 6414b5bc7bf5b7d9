abbrev pEq (κ : Nat → ClassId) (q : Nat → Nat) (r_sides : Nat) (unknowns : Nat → Int32) (size : Int32) : va_W := [(q 0, .inr (1, [.ref r_sides, .ref (q 1), .int size])), (q 1, .inl (κ 0, 6, .inl unknowns))]
theorem ac_X2_47 : Cond.methodLink RX2 47 arraycopyName ∈ uw := uw_3 (List.mem_of_getElem? (i := 170) rfl) rfl
theorem ac_n : Cond.native arraycopyName ∈ uw := uw_3 (List.mem_of_getElem? (i := 172) rfl) rfl
theorem ac_s : Cond.static arraycopyName ∈ uw := uw_3 (List.mem_of_getElem? (i := 171) rfl) rfl
theorem ac_i : Cond.initialized "java/lang/System" ∈ uw := uw_1 (List.mem_of_getElem? (i := 14) rfl) rfl
theorem lk_X1_62 : Cond.fieldLink RX1 62 (TX2 9).1 (TX2 9).2.1 (TX2 9).2.2.1 ∈ uw := uw_1 (List.mem_of_getElem? (i := 173) rfl) rfl
theorem cv_RX1_38 : cv_ RX1 38 yX2_jointOf RX2 cX2_jointOf 2 (some .int) 1 := ⟨uw_3 (List.mem_of_getElem? (i := 36) rfl) rfl, uw_2 (List.mem_of_getElem? (i := 175) rfl) rfl, uw_2 (List.mem_of_getElem? (i := 176) rfl) rfl, uw_1 (List.mem_of_getElem? (i := 6) rfl) rfl, uw_2 (List.mem_of_getElem? (i := 177) rfl) rfl, hd_X2_jointOf⟩
theorem lk_X1_24 : Cond.fieldLink RX1 24 (TX1 2).1 (TX1 2).2.1 (TX1 2).2.2.1 ∈ uw := uw_1 (List.mem_of_getElem? (i := 132) rfl) rfl
theorem lk_X1_65 : Cond.fieldLink RX1 65 (TX2 8).1 (TX2 8).2.1 (TX2 8).2.2.1 ∈ uw := uw_1 (List.mem_of_getElem? (i := 167) rfl) rfl
theorem lk_X1_16 : Cond.fieldLink RX1 16 (TX1 1).1 (TX1 1).2.1 (TX1 1).2.2.1 ∈ uw := uw_1 (List.mem_of_getElem? (i := 131) rfl) rfl
theorem lk_X1_68 : Cond.fieldLink RX1 68 (TX2 0).1 (TX2 0).2.1 (TX2 0).2.2.1 ∈ uw := uw_1 (List.mem_of_getElem? (i := 149) rfl) rfl
theorem hs_X1_hasEnds : yX1_hasEnds.cls ≠ "java/lang/invoke/MethodHandle" ∧ yX1_hasEnds.cls ≠ "java/lang/invoke/VarHandle" ∧ (parseMethodDescriptor yX1_hasEnds.desc).map (fun d => d.parameters.length) = some 2 := by decide +kernel
theorem cs_X1_72 : cs_ RX1 72 yX1_hasEnds cX1_hasEnds 3 (some .boolean) 2 := ⟨uw_3 (List.mem_of_getElem? (i := 33) rfl) rfl, uw_3 (List.mem_of_getElem? (i := 34) rfl) rfl, uw_1 (List.mem_of_getElem? (i := 5) rfl) rfl, uw_3 (List.mem_of_getElem? (i := 35) rfl) rfl, hs_X1_hasEnds⟩
theorem lk_X1_11 : Cond.fieldLink RX1 11 (TX1 0).1 (TX1 0).2.1 (TX1 0).2.2.1 ∈ uw := uw_1 (List.mem_of_getElem? (i := 130) rfl) rfl
theorem lk_X1_76 : Cond.fieldLink RX1 76 (TX2 1).1 (TX2 1).2.1 (TX2 1).2.2.1 ∈ uw := uw_1 (List.mem_of_getElem? (i := 153) rfl) rfl
theorem hd_X1_number : yX1_number.cls = RX1 ∧ yX1_number.cls ≠ "java/lang/invoke/MethodHandle" ∧ yX1_number.cls ≠ "java/lang/invoke/VarHandle" ∧ (parseMethodDescriptor yX1_number.desc).map (fun d => d.parameters.length) = some 1 := by decide +kernel
theorem cv_RX1_59 : cv_ RX1 59 yX1_number RX1 cX1_number 4 none 1 := ⟨uw_3 (List.mem_of_getElem? (i := 29) rfl) rfl, uw_3 (List.mem_of_getElem? (i := 31) rfl) rfl, uw_0 (List.mem_of_getElem? (i := 14) rfl) rfl, uw_1 (List.mem_of_getElem? (i := 5) rfl) rfl, uw_3 (List.mem_of_getElem? (i := 32) rfl) rfl, hd_X1_number⟩
theorem cv_RX1_48 : cv_ RX1 48 yX2_stiffness RX2 cX2_stiffness 2 (some .int) 1 := ⟨uw_3 (List.mem_of_getElem? (i := 37) rfl) rfl, uw_2 (List.mem_of_getElem? (i := 179) rfl) rfl, uw_2 (List.mem_of_getElem? (i := 180) rfl) rfl, uw_1 (List.mem_of_getElem? (i := 6) rfl) rfl, uw_2 (List.mem_of_getElem? (i := 181) rfl) rfl, hd_X2_stiffness⟩
theorem cv_RX1_45 : cv_ RX1 45 yX2_otherEnd RX2 cX2_otherEnd 2 (some .int) 1 := ⟨uw_3 (List.mem_of_getElem? (i := 38) rfl) rfl, uw_3 (List.mem_of_getElem? (i := 39) rfl) rfl, uw_3 (List.mem_of_getElem? (i := 40) rfl) rfl, uw_1 (List.mem_of_getElem? (i := 6) rfl) rfl, uw_3 (List.mem_of_getElem? (i := 41) rfl) rfl, hd_X2_otherEnd⟩
theorem cv_RX1_32 : cv_ RX1 32 yX2_first RX2 cX2_first 4 (some .int) 1 := ⟨uw_3 (List.mem_of_getElem? (i := 42) rfl) rfl, uw_2 (List.mem_of_getElem? (i := 183) rfl) rfl, uw_2 (List.mem_of_getElem? (i := 184) rfl) rfl, uw_1 (List.mem_of_getElem? (i := 6) rfl) rfl, uw_2 (List.mem_of_getElem? (i := 185) rfl) rfl, hd_X2_first⟩
def FFr_copy_L26 (g_held : Nat → Int32) (k_ : Int32 → (Nat → Int32) → Option ((Nat → Int32) × (Nat → Int32) × (Nat → Int32) × (Nat → Int32) × (Nat → Int32) × (Nat → Int32) × (Nat → Int32) × (Nat → Int32) × Int32 × Int32 × Int32)) : Nat → Int32 → (Nat → Int32) → Option ((Nat → Int32) × (Nat → Int32) × (Nat → Int32) × (Nat → Int32) × (Nat → Int32) × (Nat → Int32) × (Nat → Int32) × (Nat → Int32) × Int32 × Int32 × Int32)
  | 0, _, _ => none
  | n + 1, l2, f_held =>
      if (6 : Int32) ≤ l2 then
        k_ l2 f_held
      else
        gd_ l2 6 <|
        gd_ l2 6 <|
        lt_ (upd f_held l2.toNatClampNeg (vp_nar .boolean (g_held l2.toNatClampNeg))) fun w4 =>
        lt_ (l2 + (1 : Int32)) fun v5 =>
        FFr_copy_L26 g_held k_ n v5 w4
def FFr_copy (f_held f_couples f_endJoints f_lengths f_stiffs f_loadBeams f_loadSizes f_loadPlaces g_held g_couples g_endJoints g_lengths g_stiffs g_loadBeams g_loadSizes g_loadPlaces : Nat → Int32) (g_joints g_beams g_loads : Int32) : Option ((Nat → Int32) × (Nat → Int32) × (Nat → Int32) × (Nat → Int32) × (Nat → Int32) × (Nat → Int32) × (Nat → Int32) × (Nat → Int32) × Int32 × Int32 × Int32) :=
  FFr_copy_L26 g_held (fun (v6 : Int32) (w7 : Nat → Int32) =>
      lt_ (va_cpy g_couples f_couples 0 0 6) fun w8 =>
      lt_ (va_cpy g_endJoints f_endJoints 0 0 20) fun w9 =>
      lt_ (va_cpy g_lengths f_lengths 0 0 10) fun w10 =>
      lt_ (va_cpy g_stiffs f_stiffs 0 0 10) fun w11 =>
      lt_ (va_cpy g_loadBeams f_loadBeams 0 0 8) fun w12 =>
      lt_ (va_cpy g_loadSizes f_loadSizes 0 0 8) fun w13 =>
      lt_ (va_cpy g_loadPlaces f_loadPlaces 0 0 8) fun w14 =>
      some (w7, w8, w9, w10, w11, w12, w13, w14, g_joints, g_beams, g_loads)) 1000 (0 : Int32) f_held
set_option maxHeartbeats 4000000 in
set_option maxRecDepth 100000 in
theorem wFr_copy_L26 {p : Program} {l : Launch} {e : Env} {s : State} {m : MethodId} {args : Array Value} {below : List Frame} {meth : Method} {c : Code} {A : Nat → Prop} {D : va_G} {κ : Nat → ClassId} (C0 : cx_ p s m meth c args cX2_copy RX2 none 3 A) (qf : Nat → Nat) (f_couples f_endJoints f_lengths f_stiffs f_loadBeams f_loadSizes f_loadPlaces : Nat → Int32) (f_joints f_beams f_loads : Int32) (qg : Nat → Nat) (g_held g_couples g_endJoints g_lengths g_stiffs g_loadBeams g_loadSizes g_loadPlaces : Nat → Int32) (g_joints g_beams g_loads : Int32) (z1 z2 z3 z4 z5 z6 z7 z8 : Nat → Int32) (z9 z10 z11 : Int32) (k_ : Int32 → (Nat → Int32) → Option ((Nat → Int32) × (Nat → Int32) × (Nat → Int32) × (Nat → Int32) × (Nat → Int32) × (Nat → Int32) × (Nat → Int32) × (Nat → Int32) × Int32 × Int32 × Int32)) (hk_ : ∀ (l2 : Int32) (f_held : Nat → Int32) (H : Heap) (locs : List Loc) (ls : Array Slot), wd_ D (tys0 κ) A s (List.flatten [pFr κ qf f_held f_couples f_endJoints f_lengths f_stiffs f_loadBeams f_loadSizes f_loadPlaces f_joints f_beams f_loads, pFr κ qg g_held g_couples g_endJoints g_lengths g_stiffs g_loadBeams g_loadSizes g_loadPlaces g_joints g_beams g_loads]) H locs → lv_has ls 3 [(0, .ref (qf 0)), (1, .ref (qg 0))] → k_ l2 f_held = some (z1, z2, z3, z4, z5, z6, z7, z8, z9, z10, z11) → W p l e ({ frames := 1, cells := 0, slots := 0, locals := 60 } : Room) s m args below meth c H locs 0 0 (qV_ D (tys0 κ) A (List.flatten [pFr κ qf z1 z2 z3 z4 z5 z6 z7 z8 z9 z10 z11, pFr κ qg g_held g_couples g_endJoints g_lengths g_stiffs g_loadBeams g_loadSizes g_loadPlaces g_joints g_beams g_loads]) below args s) (F0 m 50 ls [])) : ∀ (n : Nat) (l2 : Int32) (f_held : Nat → Int32) (H : Heap) (locs : List Loc) (ls : Array Slot), wd_ D (tys0 κ) A s (List.flatten [pFr κ qf f_held f_couples f_endJoints f_lengths f_stiffs f_loadBeams f_loadSizes f_loadPlaces f_joints f_beams f_loads, pFr κ qg g_held g_couples g_endJoints g_lengths g_stiffs g_loadBeams g_loadSizes g_loadPlaces g_joints g_beams g_loads]) H locs → lv_has ls 3 [(0, .ref (qf 0)), (1, .ref (qg 0)), (2, .int l2)] → FFr_copy_L26 g_held k_ n l2 f_held = some (z1, z2, z3, z4, z5, z6, z7, z8, z9, z10, z11) → W p l e ({ frames := 1, cells := 0, slots := 0, locals := 60 } : Room) s m args below meth c H locs 0 0 (qV_ D (tys0 κ) A (List.flatten [pFr κ qf z1 z2 z3 z4 z5 z6 z7 z8 z9 z10 z11, pFr κ qg g_held g_couples g_endJoints g_lengths g_stiffs g_loadBeams g_loadSizes g_loadPlaces g_joints g_beams g_loads]) below args s) (F0 m 26 ls []) := by
  obtain ⟨hx, hb, -, hml, hown, hts, -, -⟩ := id C0
  intro n
  induction n with
  | zero =>
    intro l2 f_held H locs ls hw hl  hf
    cases hf
  | succ n ih =>
    intro l2 f_held H locs ls hw hl  hf
    rw [FFr_copy_L26.eq_2] at hf
    refine lv_iload_n hx hb dX2_copy_26 rfl (lv_at hl 2 rfl) ?_
    refine lv_bipush (v := 6) hx hb dX2_copy_27 (by decide) ?_
    refine lv_icmp_ge (tgt := 50) hx hb dX2_copy_29 (by decide) (fun hc1 => ?_) (fun hc1 => ?_)
    · have hf := if_t hc1 hf
      exact hk_ l2 f_held H locs ls hw (lv_sub hl [0, 1] rfl)  hf
    · have hf := if_f hc1 hf
      refine lv_aload_n hx hb dX2_copy_32 rfl (lv_at hl 0 rfl) ?_
      refine r_get C0 hw 0 0 (v := .ref (qf 1)) rfl rfl inX2 (by decide) lk_X2_9 rfl dX2_copy_33 ?_
      refine lv_iload_n hx hb dX2_copy_36 rfl (lv_at hl 2 rfl) ?_
      refine lv_aload_n hx hb dX2_copy_37 rfl (lv_at hl 1 rfl) ?_
      refine r_get C0 hw 9 0 (v := .ref (qg 1)) rfl rfl inX2 (by decide) lk_X2_9 rfl dX2_copy_38 ?_
      refine lv_iload_n hx hb dX2_copy_41 rfl (lv_at hl 2 rfl) ?_
      obtain ⟨hi2, hf⟩ := gd_s hf
      refine r_zald C0 hw 10 1 rfl rfl hi2 dX2_copy_42 ?_
      obtain ⟨hi3, hf⟩ := gd_s hf
      obtain ⟨w4, ew4⟩ : ∃ z : Nat → Int32, z = (upd f_held l2.toNatClampNeg (vp_nar .boolean (g_held l2.toNatClampNeg))) := ⟨_, rfl⟩
      have hf := lt_s_ hf w4 ew4
      refine r_zast C0 hw 1 1 rfl rfl hi3 dX2_copy_43 (ws' := List.flatten [pFr κ qf w4 f_couples f_endJoints f_lengths f_stiffs f_loadBeams f_loadSizes f_loadPlaces f_joints f_beams f_loads, pFr κ qg g_held g_couples g_endJoints g_lengths g_stiffs g_loadBeams g_loadSizes g_loadPlaces g_joints g_beams g_loads]) (by subst ew4; rfl) (fun H locs hw => ?_)
      obtain ⟨v5, ev5⟩ : ∃ z : Int32, z = (l2 + (1 : Int32)) := ⟨_, rfl⟩
      have hf := lt_s_ hf v5 ev5
      refine lv_iinc (v := v5) (lv' := [(2, .int v5), (0, .ref (qf 0)), (1, .ref (qg 0))]) hx hb dX2_copy_44 hl (k := 2) rfl (by rw [ev5]; rfl) (by decide) rfl (fun ls hl => ?_)
      refine lv_goto (tgt := 26) hx hb dX2_copy_47 (by decide) ?_
      exact ih v5 w4 H locs ls hw (lv_sub hl [1, 2, 0] rfl)  hf
set_option maxHeartbeats 4000000 in
set_option maxRecDepth 100000 in
theorem cFr_copy (l : Launch) (D : va_G) (κ : Nat → ClassId) (qf : Nat → Nat) (f_held f_couples f_endJoints f_lengths f_stiffs f_loadBeams f_loadSizes f_loadPlaces : Nat → Int32) (f_joints f_beams f_loads : Int32) (qg : Nat → Nat) (g_held g_couples g_endJoints g_lengths g_stiffs g_loadBeams g_loadSizes g_loadPlaces : Nat → Int32) (g_joints g_beams g_loads : Int32) (z1 z2 z3 z4 z5 z6 z7 z8 : Nat → Int32) (z9 z10 z11 : Int32) (hf : FFr_copy f_held f_couples f_endJoints f_lengths f_stiffs f_loadBeams f_loadSizes f_loadPlaces g_held g_couples g_endJoints g_lengths g_stiffs g_loadBeams g_loadSizes g_loadPlaces g_joints g_beams g_loads = some (z1, z2, z3, z4, z5, z6, z7, z8, z9, z10, z11)) : mV_ l yX2_copy (Cond.code yX2_copy cX2_copy 3 none :: uw) ({ frames := 1, cells := 0, slots := 0, locals := 60 } : Room) D (tys0 κ) [.ref (qf 0), .ref (qg 0)] (List.flatten [pFr κ qf f_held f_couples f_endJoints f_lengths f_stiffs f_loadBeams f_loadSizes f_loadPlaces f_joints f_beams f_loads, pFr κ qg g_held g_couples g_endJoints g_lengths g_stiffs g_loadBeams g_loadSizes g_loadPlaces g_joints g_beams g_loads])  (List.flatten [pFr κ qf z1 z2 z3 z4 z5 z6 z7 z8 z9 z10 z11, pFr κ qg g_held g_couples g_endJoints g_lengths g_stiffs g_loadBeams g_loadSizes g_loadPlaces g_joints g_beams g_loads]) := by
  unfold FFr_copy at hf
  refine mV_of (by decide) (Nat.le_of_ble_eq_true rfl) ?_
  intro p e s m below meth c A ls H locs C0 hw hl
  obtain ⟨hx, hb, -, hml, hown, hts, -, -⟩ := id C0
  have hl : lv_has ls 3 [(0, .ref (qf 0)), (1, .ref (qg 0))] := hl
  refine lv_aload_n hx hb dX2_copy_0 rfl (lv_at hl 0 rfl) ?_
  refine lv_aload_n hx hb dX2_copy_1 rfl (lv_at hl 1 rfl) ?_
  refine r_get C0 hw 9 8 (v := .int g_joints) rfl rfl inX2 (by decide) lk_X2_37 rfl dX2_copy_2 ?_
  refine r_put C0 hw 0 8 (v := .int g_joints) (ws' := List.flatten [pFr κ qf f_held f_couples f_endJoints f_lengths f_stiffs f_loadBeams f_loadSizes f_loadPlaces g_joints f_beams f_loads, pFr κ qg g_held g_couples g_endJoints g_lengths g_stiffs g_loadBeams g_loadSizes g_loadPlaces g_joints g_beams g_loads]) rfl rfl inX2 tyX2_ok nmX2 (by decide) lk_X2_37 rfl rfl rfl rfl (Nat.le_of_ble_eq_true rfl) dX2_copy_5 rfl (fun H locs hw => ?_)
  refine lv_aload_n hx hb dX2_copy_8 rfl (lv_at hl 0 rfl) ?_
  refine lv_aload_n hx hb dX2_copy_9 rfl (lv_at hl 1 rfl) ?_
  refine r_get C0 hw 9 9 (v := .int g_beams) rfl rfl inX2 (by decide) lk_X2_41 rfl dX2_copy_10 ?_
  refine r_put C0 hw 0 9 (v := .int g_beams) (ws' := List.flatten [pFr κ qf f_held f_couples f_endJoints f_lengths f_stiffs f_loadBeams f_loadSizes f_loadPlaces g_joints g_beams f_loads, pFr κ qg g_held g_couples g_endJoints g_lengths g_stiffs g_loadBeams g_loadSizes g_loadPlaces g_joints g_beams g_loads]) rfl rfl inX2 tyX2_ok nmX2 (by decide) lk_X2_41 rfl rfl rfl rfl (Nat.le_of_ble_eq_true rfl) dX2_copy_13 rfl (fun H locs hw => ?_)
  refine lv_aload_n hx hb dX2_copy_16 rfl (lv_at hl 0 rfl) ?_
  refine lv_aload_n hx hb dX2_copy_17 rfl (lv_at hl 1 rfl) ?_
  refine r_get C0 hw 9 10 (v := .int g_loads) rfl rfl inX2 (by decide) lk_X2_44 rfl dX2_copy_18 ?_
  refine r_put C0 hw 0 10 (v := .int g_loads) (ws' := List.flatten [pFr κ qf f_held f_couples f_endJoints f_lengths f_stiffs f_loadBeams f_loadSizes f_loadPlaces g_joints g_beams g_loads, pFr κ qg g_held g_couples g_endJoints g_lengths g_stiffs g_loadBeams g_loadSizes g_loadPlaces g_joints g_beams g_loads]) rfl rfl inX2 tyX2_ok nmX2 (by decide) lk_X2_44 rfl rfl rfl rfl (Nat.le_of_ble_eq_true rfl) dX2_copy_21 rfl (fun H locs hw => ?_)
  refine lv_iconst (v := 0) hx hb dX2_copy_24 (by decide) ?_
  refine lv_istore_n (lv' := [(2, .int (0 : Int32)), (0, .ref (qf 0)), (1, .ref (qg 0))]) hx hb dX2_copy_25 rfl hl (by decide) rfl (fun ls hl => ?_)
  refine wFr_copy_L26 C0 qf f_couples f_endJoints f_lengths f_stiffs f_loadBeams f_loadSizes f_loadPlaces g_joints g_beams g_loads qg g_held g_couples g_endJoints g_lengths g_stiffs g_loadBeams g_loadSizes g_loadPlaces g_joints g_beams g_loads z1 z2 z3 z4 z5 z6 z7 z8 z9 z10 z11 _ (fun v6 w7 H locs ls hw hl  hf => ?_) 1000 (0 : Int32) f_held H locs ls hw (lv_sub hl [1, 2, 0] rfl)  hf
  refine lv_aload_n hx hb dX2_copy_50 rfl (lv_at hl 1 rfl) ?_
  refine r_get C0 hw 9 1 (v := .ref (qg 2)) rfl rfl inX2 (by decide) lk_X2_15 rfl dX2_copy_51 ?_
  refine lv_iconst (v := 0) hx hb dX2_copy_54 (by decide) ?_
  refine lv_aload_n hx hb dX2_copy_55 rfl (lv_at hl 0 rfl) ?_
  refine r_get C0 hw 0 1 (v := .ref (qf 2)) rfl rfl inX2 (by decide) lk_X2_15 rfl dX2_copy_56 ?_
  refine lv_iconst (v := 0) hx hb dX2_copy_59 (by decide) ?_
  refine lv_bipush (v := 6) hx hb dX2_copy_60 (by decide) ?_
  obtain ⟨w8, ew8⟩ : ∃ z : Nat → Int32, z = (va_cpy g_couples f_couples 0 0 6) := ⟨_, rfl⟩
  have hf := lt_s_ hf w8 ew8
  refine r_copy C0 hw ac_X2_47 ac_n ac_s ac_i 11 2 0 rfl rfl rfl rfl (by decide) (by decide) (by decide) (fun _ _ => rfl) hl.1 (by decide) (by decide) dX2_copy_62 (ws' := List.flatten [pFr κ qf w7 w8 f_endJoints f_lengths f_stiffs f_loadBeams f_loadSizes f_loadPlaces g_joints g_beams g_loads, pFr κ qg g_held g_couples g_endJoints g_lengths g_stiffs g_loadBeams g_loadSizes g_loadPlaces g_joints g_beams g_loads]) (by subst ew8; rfl) (fun H locs hw => ?_)
  refine lv_aload_n hx hb dX2_copy_65 rfl (lv_at hl 1 rfl) ?_
  refine r_get C0 hw 9 2 (v := .ref (qg 3)) rfl rfl inX2 (by decide) lk_X2_19 rfl dX2_copy_66 ?_
  refine lv_iconst (v := 0) hx hb dX2_copy_69 (by decide) ?_
  refine lv_aload_n hx hb dX2_copy_70 rfl (lv_at hl 0 rfl) ?_
  refine r_get C0 hw 0 2 (v := .ref (qf 3)) rfl rfl inX2 (by decide) lk_X2_19 rfl dX2_copy_71 ?_
  refine lv_iconst (v := 0) hx hb dX2_copy_74 (by decide) ?_
  refine lv_bipush (v := 20) hx hb dX2_copy_75 (by decide) ?_
  obtain ⟨w9, ew9⟩ : ∃ z : Nat → Int32, z = (va_cpy g_endJoints f_endJoints 0 0 20) := ⟨_, rfl⟩
  have hf := lt_s_ hf w9 ew9
  refine r_copy C0 hw ac_X2_47 ac_n ac_s ac_i 12 3 0 rfl rfl rfl rfl (by decide) (by decide) (by decide) (fun _ _ => rfl) hl.1 (by decide) (by decide) dX2_copy_77 (ws' := List.flatten [pFr κ qf w7 w8 w9 f_lengths f_stiffs f_loadBeams f_loadSizes f_loadPlaces g_joints g_beams g_loads, pFr κ qg g_held g_couples g_endJoints g_lengths g_stiffs g_loadBeams g_loadSizes g_loadPlaces g_joints g_beams g_loads]) (by subst ew9; rfl) (fun H locs hw => ?_)
  refine lv_aload_n hx hb dX2_copy_80 rfl (lv_at hl 1 rfl) ?_
  refine r_get C0 hw 9 3 (v := .ref (qg 4)) rfl rfl inX2 (by decide) lk_X2_22 rfl dX2_copy_81 ?_
  refine lv_iconst (v := 0) hx hb dX2_copy_84 (by decide) ?_
  refine lv_aload_n hx hb dX2_copy_85 rfl (lv_at hl 0 rfl) ?_
  refine r_get C0 hw 0 3 (v := .ref (qf 4)) rfl rfl inX2 (by decide) lk_X2_22 rfl dX2_copy_86 ?_
  refine lv_iconst (v := 0) hx hb dX2_copy_89 (by decide) ?_
  refine lv_bipush (v := 10) hx hb dX2_copy_90 (by decide) ?_
  obtain ⟨w10, ew10⟩ : ∃ z : Nat → Int32, z = (va_cpy g_lengths f_lengths 0 0 10) := ⟨_, rfl⟩
  have hf := lt_s_ hf w10 ew10
  refine r_copy C0 hw ac_X2_47 ac_n ac_s ac_i 13 4 0 rfl rfl rfl rfl (by decide) (by decide) (by decide) (fun _ _ => rfl) hl.1 (by decide) (by decide) dX2_copy_92 (ws' := List.flatten [pFr κ qf w7 w8 w9 w10 f_stiffs f_loadBeams f_loadSizes f_loadPlaces g_joints g_beams g_loads, pFr κ qg g_held g_couples g_endJoints g_lengths g_stiffs g_loadBeams g_loadSizes g_loadPlaces g_joints g_beams g_loads]) (by subst ew10; rfl) (fun H locs hw => ?_)
  refine lv_aload_n hx hb dX2_copy_95 rfl (lv_at hl 1 rfl) ?_
  refine r_get C0 hw 9 4 (v := .ref (qg 5)) rfl rfl inX2 (by decide) lk_X2_25 rfl dX2_copy_96 ?_
  refine lv_iconst (v := 0) hx hb dX2_copy_99 (by decide) ?_
  refine lv_aload_n hx hb dX2_copy_100 rfl (lv_at hl 0 rfl) ?_
  refine r_get C0 hw 0 4 (v := .ref (qf 5)) rfl rfl inX2 (by decide) lk_X2_25 rfl dX2_copy_101 ?_
  refine lv_iconst (v := 0) hx hb dX2_copy_104 (by decide) ?_
  refine lv_bipush (v := 10) hx hb dX2_copy_105 (by decide) ?_
  obtain ⟨w11, ew11⟩ : ∃ z : Nat → Int32, z = (va_cpy g_stiffs f_stiffs 0 0 10) := ⟨_, rfl⟩
  have hf := lt_s_ hf w11 ew11
  refine r_copy C0 hw ac_X2_47 ac_n ac_s ac_i 14 5 0 rfl rfl rfl rfl (by decide) (by decide) (by decide) (fun _ _ => rfl) hl.1 (by decide) (by decide) dX2_copy_107 (ws' := List.flatten [pFr κ qf w7 w8 w9 w10 w11 f_loadBeams f_loadSizes f_loadPlaces g_joints g_beams g_loads, pFr κ qg g_held g_couples g_endJoints g_lengths g_stiffs g_loadBeams g_loadSizes g_loadPlaces g_joints g_beams g_loads]) (by subst ew11; rfl) (fun H locs hw => ?_)
  refine lv_aload_n hx hb dX2_copy_110 rfl (lv_at hl 1 rfl) ?_
  refine r_get C0 hw 9 5 (v := .ref (qg 6)) rfl rfl inX2 (by decide) lk_X2_28 rfl dX2_copy_111 ?_
  refine lv_iconst (v := 0) hx hb dX2_copy_114 (by decide) ?_
  refine lv_aload_n hx hb dX2_copy_115 rfl (lv_at hl 0 rfl) ?_
  refine r_get C0 hw 0 5 (v := .ref (qf 6)) rfl rfl inX2 (by decide) lk_X2_28 rfl dX2_copy_116 ?_
  refine lv_iconst (v := 0) hx hb dX2_copy_119 (by decide) ?_
  refine lv_bipush (v := 8) hx hb dX2_copy_120 (by decide) ?_
  obtain ⟨w12, ew12⟩ : ∃ z : Nat → Int32, z = (va_cpy g_loadBeams f_loadBeams 0 0 8) := ⟨_, rfl⟩
  have hf := lt_s_ hf w12 ew12
  refine r_copy C0 hw ac_X2_47 ac_n ac_s ac_i 15 6 0 rfl rfl rfl rfl (by decide) (by decide) (by decide) (fun _ _ => rfl) hl.1 (by decide) (by decide) dX2_copy_122 (ws' := List.flatten [pFr κ qf w7 w8 w9 w10 w11 w12 f_loadSizes f_loadPlaces g_joints g_beams g_loads, pFr κ qg g_held g_couples g_endJoints g_lengths g_stiffs g_loadBeams g_loadSizes g_loadPlaces g_joints g_beams g_loads]) (by subst ew12; rfl) (fun H locs hw => ?_)
  refine lv_aload_n hx hb dX2_copy_125 rfl (lv_at hl 1 rfl) ?_
  refine r_get C0 hw 9 6 (v := .ref (qg 7)) rfl rfl inX2 (by decide) lk_X2_31 rfl dX2_copy_126 ?_
  refine lv_iconst (v := 0) hx hb dX2_copy_129 (by decide) ?_
  refine lv_aload_n hx hb dX2_copy_130 rfl (lv_at hl 0 rfl) ?_
  refine r_get C0 hw 0 6 (v := .ref (qf 7)) rfl rfl inX2 (by decide) lk_X2_31 rfl dX2_copy_131 ?_
  refine lv_iconst (v := 0) hx hb dX2_copy_134 (by decide) ?_
  refine lv_bipush (v := 8) hx hb dX2_copy_135 (by decide) ?_
  obtain ⟨w13, ew13⟩ : ∃ z : Nat → Int32, z = (va_cpy g_loadSizes f_loadSizes 0 0 8) := ⟨_, rfl⟩
  have hf := lt_s_ hf w13 ew13
  refine r_copy C0 hw ac_X2_47 ac_n ac_s ac_i 16 7 0 rfl rfl rfl rfl (by decide) (by decide) (by decide) (fun _ _ => rfl) hl.1 (by decide) (by decide) dX2_copy_137 (ws' := List.flatten [pFr κ qf w7 w8 w9 w10 w11 w12 w13 f_loadPlaces g_joints g_beams g_loads, pFr κ qg g_held g_couples g_endJoints g_lengths g_stiffs g_loadBeams g_loadSizes g_loadPlaces g_joints g_beams g_loads]) (by subst ew13; rfl) (fun H locs hw => ?_)
  refine lv_aload_n hx hb dX2_copy_140 rfl (lv_at hl 1 rfl) ?_
  refine r_get C0 hw 9 7 (v := .ref (qg 8)) rfl rfl inX2 (by decide) lk_X2_34 rfl dX2_copy_141 ?_
  refine lv_iconst (v := 0) hx hb dX2_copy_144 (by decide) ?_
  refine lv_aload_n hx hb dX2_copy_145 rfl (lv_at hl 0 rfl) ?_
  refine r_get C0 hw 0 7 (v := .ref (qf 8)) rfl rfl inX2 (by decide) lk_X2_34 rfl dX2_copy_146 ?_
  refine lv_iconst (v := 0) hx hb dX2_copy_149 (by decide) ?_
  refine lv_bipush (v := 8) hx hb dX2_copy_150 (by decide) ?_
  obtain ⟨w14, ew14⟩ : ∃ z : Nat → Int32, z = (va_cpy g_loadPlaces f_loadPlaces 0 0 8) := ⟨_, rfl⟩
  have hf := lt_s_ hf w14 ew14
  refine r_copy C0 hw ac_X2_47 ac_n ac_s ac_i 17 8 0 rfl rfl rfl rfl (by decide) (by decide) (by decide) (fun _ _ => rfl) hl.1 (by decide) (by decide) dX2_copy_152 (ws' := List.flatten [pFr κ qf w7 w8 w9 w10 w11 w12 w13 w14 g_joints g_beams g_loads, pFr κ qg g_held g_couples g_endJoints g_lengths g_stiffs g_loadBeams g_loadSizes g_loadPlaces g_joints g_beams g_loads]) (by subst ew14; rfl) (fun H locs hw => ?_)
  obtain ⟨rfl, rfl, rfl, rfl, rfl, rfl, rfl, rfl, rfl, rfl, rfl⟩ := e11_ hf
  exact r_vret C0 hw dX2_copy_155
def FEq_hasEnds_L2 (f_endJoints : Nat → Int32) (f_beams l1 : Int32) : Nat → Int32 → Option (Int32)
  | 0, _ => none
  | n + 1, l2 =>
      if ((2 : Int32) * f_beams) ≤ l2 then
        some ((0 : Int32))
      else
        b1_ (FFr_jointOf f_endJoints l2) fun r2 =>
        if r2 = l1 then
          some ((1 : Int32))
        else
          lt_ (l2 + (1 : Int32)) fun v6 =>
          FEq_hasEnds_L2 f_endJoints f_beams l1 n v6
def FEq_hasEnds (f_endJoints : Nat → Int32) (f_beams a2 : Int32) : Option (Int32) :=
  FEq_hasEnds_L2 f_endJoints f_beams a2 1000 (0 : Int32)
set_option maxHeartbeats 4000000 in
set_option maxRecDepth 100000 in
theorem wEq_hasEnds_L2 {p : Program} {l : Launch} {e : Env} {s : State} {m : MethodId} {args : Array Value} {below : List Frame} {meth : Method} {c : Code} {A : Nat → Prop} {D : va_G} {κ : Nat → ClassId} (C0 : cx_ p s m meth c args cX1_hasEnds RX1 (some .boolean) 3 A) (qf : Nat → Nat) (f_held f_couples f_endJoints f_lengths f_stiffs f_loadBeams f_loadSizes f_loadPlaces : Nat → Int32) (f_joints f_beams f_loads l1 : Int32) (zr : Int32) : ∀ (n : Nat) (l2 : Int32) (H : Heap) (locs : List Loc) (ls : Array Slot), wd_ D (tys0 κ) A s (List.flatten [pFr κ qf f_held f_couples f_endJoints f_lengths f_stiffs f_loadBeams f_loadSizes f_loadPlaces f_joints f_beams f_loads]) H locs → lv_has ls 3 [(0, .ref (qf 0)), (1, .int l1), (2, .int l2)] → FEq_hasEnds_L2 f_endJoints f_beams l1 n l2 = some zr → W p l e ({ frames := 1, cells := 0, slots := 0, locals := 21 } : Room) s m args below meth c H locs 0 0 (qI_ D (tys0 κ) A nB_ zr (List.flatten [pFr κ qf f_held f_couples f_endJoints f_lengths f_stiffs f_loadBeams f_loadSizes f_loadPlaces f_joints f_beams f_loads]) below args s) (F0 m 2 ls []) := by
  obtain ⟨hx, hb, -, hml, hown, hts, -, -⟩ := id C0
  intro n
  induction n with
  | zero =>
    intro l2 H locs ls hw hl  hf
    cases hf
  | succ n ih =>
    intro l2 H locs ls hw hl  hf
    rw [FEq_hasEnds_L2.eq_2] at hf
    refine lv_iload_n hx hb dX1_hasEnds_2 rfl (lv_at hl 2 rfl) ?_
    refine lv_iconst (v := 2) hx hb dX1_hasEnds_3 (by decide) ?_
    refine lv_aload_n hx hb dX1_hasEnds_4 rfl (lv_at hl 0 rfl) ?_
    refine r_get C0 hw 0 9 (v := .int f_beams) rfl rfl inX2 (by decide) lk_X1_62 rfl dX1_hasEnds_5 ?_
    refine lv_imul hx hb dX1_hasEnds_8 ?_
    refine lv_icmp_ge (tgt := 29) hx hb dX1_hasEnds_9 (by decide) (fun hc1 => ?_) (fun hc1 => ?_)
    · have hf := if_t hc1 hf
      refine lv_iconst (v := 0) hx hb dX1_hasEnds_29 (by decide) ?_
      obtain rfl := e1_ hf
      exact r_zret C0 hw (Or.inl rfl) dX1_hasEnds_30
    · have hf := if_f hc1 hf
      refine lv_aload_n hx hb dX1_hasEnds_12 rfl (lv_at hl 0 rfl) ?_
      refine lv_iload_n hx hb dX1_hasEnds_13 rfl (lv_at hl 2 rfl) ?_
      obtain ⟨r2, hk3, hf⟩ := b1_s hf
      refine rv_i (vq := (RX2, TX2, 11)) (As := [.int l2]) (rest := []) (bs' := [pFr κ qf f_held f_couples f_endJoints f_lengths f_stiffs f_loadBeams f_loadSizes f_loadPlaces f_joints f_beams f_loads]) C0 hw (cFr_jointOf l D κ qf f_held f_couples f_endJoints f_lengths f_stiffs f_loadBeams f_loadSizes f_loadPlaces f_joints f_beams f_loads l2 r2 hk3) cv_RX1_38 ⟨rfl, rfl, Nat.le_of_ble_eq_true rfl, Nat.le_of_ble_eq_true rfl⟩ ⟨Nat.zero_le _, Nat.zero_le _⟩ [0] [] [0] rfl rfl rfl rfl (by decide) rfl rfl rfl rfl rfl hl.1 (by simp only [List.map, List.sum_cons, List.sum_nil, Value.category]; decide) dX1_hasEnds_14 (fun H locs hw hn4 => ?_)
      refine lv_iload_n hx hb dX1_hasEnds_17 rfl (lv_at hl 1 rfl) ?_
      refine lv_icmp_ne (tgt := 23) hx hb dX1_hasEnds_18 (by decide) (fun hc5 => ?_) (fun hc5 => ?_)
      · have hf := if_f hc5 hf
        obtain ⟨v6, ev6⟩ : ∃ z : Int32, z = (l2 + (1 : Int32)) := ⟨_, rfl⟩
        have hf := lt_s_ hf v6 ev6
        refine lv_iinc (v := v6) (lv' := [(2, .int v6), (0, .ref (qf 0)), (1, .int l1)]) hx hb dX1_hasEnds_23 hl (k := 2) rfl (by rw [ev6]; rfl) (by decide) rfl (fun ls hl => ?_)
        refine lv_goto (tgt := 2) hx hb dX1_hasEnds_26 (by decide) ?_
        exact ih v6 H locs ls hw (lv_sub hl [1, 2, 0] rfl)  hf
      · have hf := if_t hc5 hf
        refine lv_iconst (v := 1) hx hb dX1_hasEnds_21 (by decide) ?_
        obtain rfl := e1_ hf
        exact r_zret C0 hw (Or.inr rfl) dX1_hasEnds_22
set_option maxHeartbeats 4000000 in
set_option maxRecDepth 100000 in
theorem cEq_hasEnds (l : Launch) (D : va_G) (κ : Nat → ClassId) (qf : Nat → Nat) (f_held f_couples f_endJoints f_lengths f_stiffs f_loadBeams f_loadSizes f_loadPlaces : Nat → Int32) (f_joints f_beams f_loads a2 zr : Int32) (hf : FEq_hasEnds f_endJoints f_beams a2 = some zr) : mI_ l yX1_hasEnds (Cond.code yX1_hasEnds cX1_hasEnds 3 (some .boolean) :: uw) ({ frames := 1, cells := 0, slots := 0, locals := 21 } : Room) D (tys0 κ) [.ref (qf 0), .int a2] (List.flatten [pFr κ qf f_held f_couples f_endJoints f_lengths f_stiffs f_loadBeams f_loadSizes f_loadPlaces f_joints f_beams f_loads]) nB_ zr (List.flatten [pFr κ qf f_held f_couples f_endJoints f_lengths f_stiffs f_loadBeams f_loadSizes f_loadPlaces f_joints f_beams f_loads]) := by
  unfold FEq_hasEnds at hf
  refine mI_of (by decide) (Nat.le_of_ble_eq_true rfl) ?_
  intro p e s m below meth c A ls H locs C0 hw hl
  obtain ⟨hx, hb, -, hml, hown, hts, -, -⟩ := id C0
  have hl : lv_has ls 3 [(0, .ref (qf 0)), (1, .int a2)] := hl
  refine lv_iconst (v := 0) hx hb dX1_hasEnds_0 (by decide) ?_
  refine lv_istore_n (lv' := [(2, .int (0 : Int32)), (0, .ref (qf 0)), (1, .int a2)]) hx hb dX1_hasEnds_1 rfl hl (by decide) rfl (fun ls hl => ?_)
  exact wEq_hasEnds_L2 C0 qf f_held f_couples f_endJoints f_lengths f_stiffs f_loadBeams f_loadSizes f_loadPlaces f_joints f_beams f_loads a2 zr 1000 (0 : Int32) H locs ls hw (lv_sub hl [1, 2, 0] rfl)  hf
def FEq_number_L53 (u_size : Int32) (k_ : Int32 → (Nat → Nat → Int64) → Option ((Nat → Int32) × Int32 × (Nat → Nat → Int64))) : Nat → Int32 → (Nat → Nat → Int64) → Option ((Nat → Int32) × Int32 × (Nat → Nat → Int64))
  | 0, _, _ => none
  | n + 1, l3, g_M =>
      if (4 : Int32) ≤ l3 then
        k_ l3 g_M
      else
        gd_ u_size 4 <|
        gd_ l3 5 <|
        lt_ (gM_ g_M u_size.toNatClampNeg l3.toNatClampNeg (0 : Int64)) fun w16 =>
        lt_ (l3 + (1 : Int32)) fun v17 =>
        FEq_number_L53 u_size k_ n v17 w16
def FEq_number_L7 (f_held f_couples f_endJoints : Nat → Int32) (f_joints f_beams : Int32) : Nat → Int32 → (Nat → Int32) → Int32 → (Nat → Nat → Int64) → Option ((Nat → Int32) × Int32 × (Nat → Nat → Int64))
  | 0, _, _, _, _ => none
  | n + 1, l2, u_unknowns, u_size, g_M =>
      if f_joints ≤ l2 then
        some (u_unknowns, u_size, g_M)
      else
        gd_ l2 6 <|
        lt_ (upd u_unknowns l2.toNatClampNeg (-4 : Int32)) fun w3 =>
        gd_ l2 6 <|
        if (f_held l2.toNatClampNeg) = 0 then
          b1_ (FEq_hasEnds f_endJoints f_beams l2) fun r7 =>
          if r7 = 0 then
            lt_ (l2 + (1 : Int32)) fun v11 =>
            FEq_number_L7 f_held f_couples f_endJoints f_joints f_beams n v11 w3 u_size g_M
          else
            if u_size < (4 : Int32) then
              FEq_number_L53 u_size (fun (v18 : Int32) (w19 : Nat → Nat → Int64) =>
                  gd_ u_size 4 <|
                  gd_ l2 6 <|
                  lt_ ((-(f_couples l2.toNatClampNeg)).toInt64) fun v22 =>
                  gd_ (4 : Int32) 5 <|
                  lt_ (gM_ w19 u_size.toNatClampNeg (4 : Int32).toNatClampNeg v22) fun w24 =>
                  gd_ l2 6 <|
                  lt_ (upd w3 l2.toNatClampNeg u_size) fun w26 =>
                  lt_ (u_size + (1 : Int32)) fun v27 =>
                  lt_ (l2 + (1 : Int32)) fun v28 =>
                  FEq_number_L7 f_held f_couples f_endJoints f_joints f_beams n v28 w26 v27 w24) 1000 (0 : Int32) g_M
            else
              lt_ (l2 + (1 : Int32)) fun v29 =>
              FEq_number_L7 f_held f_couples f_endJoints f_joints f_beams n v29 w3 u_size g_M
        else
          lt_ (l2 + (1 : Int32)) fun v6 =>
          FEq_number_L7 f_held f_couples f_endJoints f_joints f_beams n v6 w3 u_size g_M
def FEq_number (u_unknowns : Nat → Int32) (g_M : Nat → Nat → Int64) (f_held f_couples f_endJoints : Nat → Int32) (f_joints f_beams : Int32) : Option ((Nat → Int32) × Int32 × (Nat → Nat → Int64)) :=
  FEq_number_L7 f_held f_couples f_endJoints f_joints f_beams 1000 (0 : Int32) u_unknowns (0 : Int32) g_M
set_option maxHeartbeats 4000000 in
set_option maxRecDepth 100000 in
theorem wEq_number_L53 {p : Program} {l : Launch} {e : Env} {s : State} {m : MethodId} {args : Array Value} {below : List Frame} {meth : Method} {c : Code} {A : Nat → Prop} {D : va_G} {κ : Nat → ClassId} (C0 : cx_ p s m meth c args cX1_number RX1 none 4 A) (qu : Nat → Nat) (u_unknowns : Nat → Int32) (u_size : Int32) (qg qf : Nat → Nat) (f_held f_couples f_endJoints f_lengths f_stiffs f_loadBeams f_loadSizes f_loadPlaces : Nat → Int32) (f_joints f_beams f_loads l2 : Int32) (z1 : Nat → Int32) (z2 : Int32) (z3 : Nat → Nat → Int64) (k_ : Int32 → (Nat → Nat → Int64) → Option ((Nat → Int32) × Int32 × (Nat → Nat → Int64))) (hk_ : ∀ (l3 : Int32) (g_M : Nat → Nat → Int64) (H : Heap) (locs : List Loc) (ls : Array Slot), wd_ D (tys0 κ) A s (List.flatten [pEq κ qu (qg 0) u_unknowns u_size, pGr κ qg g_M, pFr κ qf f_held f_couples f_endJoints f_lengths f_stiffs f_loadBeams f_loadSizes f_loadPlaces f_joints f_beams f_loads]) H locs → lv_has ls 4 [(0, .ref (qu 0)), (1, .ref (qf 0)), (2, .int l2)] → k_ l3 g_M = some (z1, z2, z3) → W p l e ({ frames := 2, cells := 0, slots := 0, locals := 43 } : Room) s m args below meth c H locs 0 0 (qV_ D (tys0 κ) A (List.flatten [pEq κ qu (qg 0) z1 z2, pGr κ qg z3, pFr κ qf f_held f_couples f_endJoints f_lengths f_stiffs f_loadBeams f_loadSizes f_loadPlaces f_joints f_beams f_loads]) below args s) (F0 m 76 ls [])) : ∀ (n : Nat) (l3 : Int32) (g_M : Nat → Nat → Int64) (H : Heap) (locs : List Loc) (ls : Array Slot), wd_ D (tys0 κ) A s (List.flatten [pEq κ qu (qg 0) u_unknowns u_size, pGr κ qg g_M, pFr κ qf f_held f_couples f_endJoints f_lengths f_stiffs f_loadBeams f_loadSizes f_loadPlaces f_joints f_beams f_loads]) H locs → lv_has ls 4 [(0, .ref (qu 0)), (1, .ref (qf 0)), (2, .int l2), (3, .int l3)] → FEq_number_L53 u_size k_ n l3 g_M = some (z1, z2, z3) → W p l e ({ frames := 2, cells := 0, slots := 0, locals := 43 } : Room) s m args below meth c H locs 0 0 (qV_ D (tys0 κ) A (List.flatten [pEq κ qu (qg 0) z1 z2, pGr κ qg z3, pFr κ qf f_held f_couples f_endJoints f_lengths f_stiffs f_loadBeams f_loadSizes f_loadPlaces f_joints f_beams f_loads]) below args s) (F0 m 53 ls []) := by
  obtain ⟨hx, hb, -, hml, hown, hts, -, -⟩ := id C0
  intro n
  induction n with
  | zero =>
    intro l3 g_M H locs ls hw hl  hf
    cases hf
  | succ n ih =>
    intro l3 g_M H locs ls hw hl  hf
    rw [FEq_number_L53.eq_2] at hf
    refine lv_iload_n hx hb dX1_number_53 rfl (lv_at hl 3 rfl) ?_
    refine lv_iconst (v := 4) hx hb dX1_number_54 (by decide) ?_
    refine lv_icmp_ge (tgt := 76) hx hb dX1_number_55 (by decide) (fun hc13 => ?_) (fun hc13 => ?_)
    · have hf := if_t hc13 hf
      exact hk_ l3 g_M H locs ls hw (lv_sub hl [0, 1, 2] rfl)  hf
    · have hf := if_f hc13 hf
      refine lv_aload_n hx hb dX1_number_58 rfl (lv_at hl 0 rfl) ?_
      refine r_get C0 hw 0 0 (v := .ref (qg 0)) rfl rfl inX1 (by decide) lk_X1_11 rfl dX1_number_59 ?_
      refine lv_aload_n hx hb dX1_number_62 rfl (lv_at hl 0 rfl) ?_
      refine r_get C0 hw 0 2 (v := .int u_size) rfl rfl inX1 (by decide) lk_X1_24 rfl dX1_number_63 ?_
      obtain ⟨hi14, hf⟩ := gd_s hf
      refine r_aldg C0 hw 2 6 rfl rfl hi14 rfl dX1_number_66 ?_
      refine lv_iload_n hx hb dX1_number_67 rfl (lv_at hl 3 rfl) ?_
      refine lv_lconst (v := 0) hx hb dX1_number_68 (by decide) ?_
      obtain ⟨hi15, hf⟩ := gd_s hf
      obtain ⟨w16, ew16⟩ : ∃ z : Nat → Nat → Int64, z = (gM_ g_M u_size.toNatClampNeg l3.toNatClampNeg (0 : Int64)) := ⟨_, rfl⟩
      have hf := lt_s_ hf w16 ew16
      refine r_gast C0 hw 2 3 (M := g_M) (WF := fun Z_ => List.flatten [pEq κ qu (qg 0) u_unknowns u_size, pGr κ qg Z_, pFr κ qf f_held f_couples f_endJoints f_lengths f_stiffs f_loadBeams f_loadSizes f_loadPlaces f_joints f_beams f_loads]) rfl rfl rfl rfl rfl hi14 hi15 rfl rfl rfl rfl dX1_number_69 (fun H locs hw => ?_)
      rw [← ew16] at hw
      obtain ⟨v17, ev17⟩ : ∃ z : Int32, z = (l3 + (1 : Int32)) := ⟨_, rfl⟩
      have hf := lt_s_ hf v17 ev17
      refine lv_iinc (v := v17) (lv' := [(3, .int v17), (0, .ref (qu 0)), (1, .ref (qf 0)), (2, .int l2)]) hx hb dX1_number_70 hl (k := 3) rfl (by rw [ev17]; rfl) (by decide) rfl (fun ls hl => ?_)
      refine lv_goto (tgt := 53) hx hb dX1_number_73 (by decide) ?_
      exact ih v17 w16 H locs ls hw (lv_sub hl [1, 2, 3, 0] rfl)  hf
set_option maxHeartbeats 4000000 in
set_option maxRecDepth 100000 in
theorem wEq_number_L7 {p : Program} {l : Launch} {e : Env} {s : State} {m : MethodId} {args : Array Value} {below : List Frame} {meth : Method} {c : Code} {A : Nat → Prop} {D : va_G} {κ : Nat → ClassId} (C0 : cx_ p s m meth c args cX1_number RX1 none 4 A) (qu qg qf : Nat → Nat) (f_held f_couples f_endJoints f_lengths f_stiffs f_loadBeams f_loadSizes f_loadPlaces : Nat → Int32) (f_joints f_beams f_loads : Int32) (z1 : Nat → Int32) (z2 : Int32) (z3 : Nat → Nat → Int64) : ∀ (n : Nat) (l2 : Int32) (u_unknowns : Nat → Int32) (u_size : Int32) (g_M : Nat → Nat → Int64) (H : Heap) (locs : List Loc) (ls : Array Slot), wd_ D (tys0 κ) A s (List.flatten [pEq κ qu (qg 0) u_unknowns u_size, pGr κ qg g_M, pFr κ qf f_held f_couples f_endJoints f_lengths f_stiffs f_loadBeams f_loadSizes f_loadPlaces f_joints f_beams f_loads]) H locs → lv_has ls 4 [(0, .ref (qu 0)), (1, .ref (qf 0)), (2, .int l2)] → FEq_number_L7 f_held f_couples f_endJoints f_joints f_beams n l2 u_unknowns u_size g_M = some (z1, z2, z3) → W p l e ({ frames := 2, cells := 0, slots := 0, locals := 43 } : Room) s m args below meth c H locs 0 0 (qV_ D (tys0 κ) A (List.flatten [pEq κ qu (qg 0) z1 z2, pGr κ qg z3, pFr κ qf f_held f_couples f_endJoints f_lengths f_stiffs f_loadBeams f_loadSizes f_loadPlaces f_joints f_beams f_loads]) below args s) (F0 m 7 ls []) := by
  obtain ⟨hx, hb, -, hml, hown, hts, -, -⟩ := id C0
  intro n
  induction n with
  | zero =>
    intro l2 u_unknowns u_size g_M H locs ls hw hl  hf
    cases hf
  | succ n ih =>
    intro l2 u_unknowns u_size g_M H locs ls hw hl  hf
    rw [FEq_number_L7.eq_2] at hf
    refine lv_iload_n hx hb dX1_number_7 rfl (lv_at hl 2 rfl) ?_
    refine lv_aload_n hx hb dX1_number_8 rfl (lv_at hl 1 rfl) ?_
    refine r_get C0 hw 7 8 (v := .int f_joints) rfl rfl inX2 (by decide) lk_X1_65 rfl dX1_number_9 ?_
    refine lv_icmp_ge (tgt := 121) hx hb dX1_number_12 (by decide) (fun hc1 => ?_) (fun hc1 => ?_)
    · have hf := if_t hc1 hf
      obtain ⟨rfl, rfl, rfl⟩ := e3_ hf
      exact r_vret C0 hw dX1_number_121
    · have hf := if_f hc1 hf
      refine lv_aload_n hx hb dX1_number_15 rfl (lv_at hl 0 rfl) ?_
      refine r_get C0 hw 0 1 (v := .ref (qu 1)) rfl rfl inX1 (by decide) lk_X1_16 rfl dX1_number_16 ?_
      refine lv_iload_n hx hb dX1_number_19 rfl (lv_at hl 2 rfl) ?_
      refine lv_bipush (v := -4) hx hb dX1_number_20 (by decide) ?_
      obtain ⟨hi2, hf⟩ := gd_s hf
      obtain ⟨w3, ew3⟩ : ∃ z : Nat → Int32, z = (upd u_unknowns l2.toNatClampNeg (-4 : Int32)) := ⟨_, rfl⟩
      have hf := lt_s_ hf w3 ew3
      refine r_iast C0 hw 1 0 rfl rfl hi2 dX1_number_22 (ws' := List.flatten [pEq κ qu (qg 0) w3 u_size, pGr κ qg g_M, pFr κ qf f_held f_couples f_endJoints f_lengths f_stiffs f_loadBeams f_loadSizes f_loadPlaces f_joints f_beams f_loads]) (by subst ew3; rfl) (fun H locs hw => ?_)
      refine lv_aload_n hx hb dX1_number_23 rfl (lv_at hl 1 rfl) ?_
      refine r_get C0 hw 7 0 (v := .ref (qf 1)) rfl rfl inX2 (by decide) lk_X1_68 rfl dX1_number_24 ?_
      refine lv_iload_n hx hb dX1_number_27 rfl (lv_at hl 2 rfl) ?_
      obtain ⟨hi4, hf⟩ := gd_s hf
      refine r_zald C0 hw 8 1 rfl rfl hi4 dX1_number_28 ?_
      refine lv_if_ne (tgt := 115) hx hb dX1_number_29 (by decide) (fun hc5 => ?_) (fun hc5 => ?_)
      · have hf := if_f hc5 hf
        obtain ⟨v6, ev6⟩ : ∃ z : Int32, z = (l2 + (1 : Int32)) := ⟨_, rfl⟩
        have hf := lt_s_ hf v6 ev6
        refine lv_iinc (v := v6) (lv' := [(2, .int v6), (0, .ref (qu 0)), (1, .ref (qf 0))]) hx hb dX1_number_115 hl (k := 2) rfl (by rw [ev6]; rfl) (by decide) rfl (fun ls hl => ?_)
        refine lv_goto (tgt := 7) hx hb dX1_number_118 (by decide) ?_
        exact ih v6 w3 u_size g_M H locs ls hw (lv_sub hl [1, 2, 0] rfl)  hf
      · have hf := if_t hc5 hf
        refine lv_aload_n hx hb dX1_number_32 rfl (lv_at hl 1 rfl) ?_
        refine lv_iload_n hx hb dX1_number_33 rfl (lv_at hl 2 rfl) ?_
        obtain ⟨r7, hk8, hf⟩ := b1_s hf
        refine rs_i (As := [.ref (qf 0), .int l2]) (rest := []) (bs' := [pEq κ qu (qg 0) w3 u_size, pGr κ qg g_M, pFr κ qf f_held f_couples f_endJoints f_lengths f_stiffs f_loadBeams f_loadSizes f_loadPlaces f_joints f_beams f_loads]) C0 hw (cEq_hasEnds l D κ qf f_held f_couples f_endJoints f_lengths f_stiffs f_loadBeams f_loadSizes f_loadPlaces f_joints f_beams f_loads l2 r7 hk8) cs_X1_72 ⟨rfl, rfl, Nat.le_of_ble_eq_true rfl, Nat.le_of_ble_eq_true rfl⟩ ⟨Nat.zero_le _, Nat.zero_le _⟩ [2] [0, 1] [0, 1, 2] rfl rfl rfl rfl (by decide) rfl rfl rfl hl.1 (by simp only [List.map, List.sum_cons, List.sum_nil, Value.category]; decide) dX1_number_34 (fun H locs hw hn9 => ?_)
        refine lv_if_eq (tgt := 115) hx hb dX1_number_37 (by decide) (fun hc10 => ?_) (fun hc10 => ?_)
        · have hf := if_t hc10 hf
          obtain ⟨v11, ev11⟩ : ∃ z : Int32, z = (l2 + (1 : Int32)) := ⟨_, rfl⟩
          have hf := lt_s_ hf v11 ev11
          refine lv_iinc (v := v11) (lv' := [(2, .int v11), (0, .ref (qu 0)), (1, .ref (qf 0))]) hx hb dX1_number_115 hl (k := 2) rfl (by rw [ev11]; rfl) (by decide) rfl (fun ls hl => ?_)
          refine lv_goto (tgt := 7) hx hb dX1_number_118 (by decide) ?_
          exact ih v11 w3 u_size g_M H locs ls hw (lv_sub hl [1, 2, 0] rfl)  hf
        · have hf := if_f hc10 hf
          refine lv_aload_n hx hb dX1_number_40 rfl (lv_at hl 0 rfl) ?_
          refine r_get C0 hw 0 2 (v := .int u_size) rfl rfl inX1 (by decide) lk_X1_24 rfl dX1_number_41 ?_
          refine lv_iconst (v := 4) hx hb dX1_number_44 (by decide) ?_
          refine lv_icmp_lt (tgt := 51) hx hb dX1_number_45 (by decide) (fun hc12 => ?_) (fun hc12 => ?_)
          · have hf := if_t hc12 hf
            refine lv_iconst (v := 0) hx hb dX1_number_51 (by decide) ?_
            refine lv_istore_n (lv' := [(3, .int (0 : Int32)), (0, .ref (qu 0)), (1, .ref (qf 0)), (2, .int l2)]) hx hb dX1_number_52 rfl hl (by decide) rfl (fun ls hl => ?_)
            refine wEq_number_L53 C0 qu w3 u_size qg qf f_held f_couples f_endJoints f_lengths f_stiffs f_loadBeams f_loadSizes f_loadPlaces f_joints f_beams f_loads l2 z1 z2 z3 _ (fun v18 w19 H locs ls hw hl  hf => ?_) 1000 (0 : Int32) g_M H locs ls hw (lv_sub hl [1, 2, 3, 0] rfl)  hf
            refine lv_aload_n hx hb dX1_number_76 rfl (lv_at hl 0 rfl) ?_
            refine r_get C0 hw 0 0 (v := .ref (qg 0)) rfl rfl inX1 (by decide) lk_X1_11 rfl dX1_number_77 ?_
            refine lv_aload_n hx hb dX1_number_80 rfl (lv_at hl 0 rfl) ?_
            refine r_get C0 hw 0 2 (v := .int u_size) rfl rfl inX1 (by decide) lk_X1_24 rfl dX1_number_81 ?_
            obtain ⟨hi20, hf⟩ := gd_s hf
            refine r_aldg C0 hw 2 6 rfl rfl hi20 rfl dX1_number_84 ?_
            refine lv_iconst (v := 4) hx hb dX1_number_85 (by decide) ?_
            refine lv_aload_n hx hb dX1_number_86 rfl (lv_at hl 1 rfl) ?_
            refine r_get C0 hw 7 1 (v := .ref (qf 2)) rfl rfl inX2 (by decide) lk_X1_76 rfl dX1_number_87 ?_
            refine lv_iload_n hx hb dX1_number_90 rfl (lv_at hl 2 rfl) ?_
            obtain ⟨hi21, hf⟩ := gd_s hf
            refine r_iald C0 hw 9 0 rfl rfl hi21 dX1_number_91 ?_
            refine lv_ineg hx hb dX1_number_92 ?_
            refine lv_i2l hx hb dX1_number_93 rfl ?_
            refine lv_topl (fun v22 ev22 => ?_)
            have hf := lt_s_ hf v22 ev22
            obtain ⟨hi23, hf⟩ := gd_s hf
            obtain ⟨w24, ew24⟩ : ∃ z : Nat → Nat → Int64, z = (gM_ w19 u_size.toNatClampNeg (4 : Int32).toNatClampNeg v22) := ⟨_, rfl⟩
            have hf := lt_s_ hf w24 ew24
            refine r_gast C0 hw 2 3 (M := w19) (WF := fun Z_ => List.flatten [pEq κ qu (qg 0) w3 u_size, pGr κ qg Z_, pFr κ qf f_held f_couples f_endJoints f_lengths f_stiffs f_loadBeams f_loadSizes f_loadPlaces f_joints f_beams f_loads]) rfl rfl rfl rfl rfl hi20 hi23 rfl rfl rfl rfl dX1_number_94 (fun H locs hw => ?_)
            rw [← ew24] at hw
            refine lv_aload_n hx hb dX1_number_95 rfl (lv_at hl 0 rfl) ?_
            refine r_get C0 hw 0 1 (v := .ref (qu 1)) rfl rfl inX1 (by decide) lk_X1_16 rfl dX1_number_96 ?_
            refine lv_iload_n hx hb dX1_number_99 rfl (lv_at hl 2 rfl) ?_
            refine lv_aload_n hx hb dX1_number_100 rfl (lv_at hl 0 rfl) ?_
            refine r_get C0 hw 0 2 (v := .int u_size) rfl rfl inX1 (by decide) lk_X1_24 rfl dX1_number_101 ?_
            obtain ⟨hi25, hf⟩ := gd_s hf
            obtain ⟨w26, ew26⟩ : ∃ z : Nat → Int32, z = (upd w3 l2.toNatClampNeg u_size) := ⟨_, rfl⟩
            have hf := lt_s_ hf w26 ew26
            refine r_iast C0 hw 1 0 rfl rfl hi25 dX1_number_104 (ws' := List.flatten [pEq κ qu (qg 0) w26 u_size, pGr κ qg w24, pFr κ qf f_held f_couples f_endJoints f_lengths f_stiffs f_loadBeams f_loadSizes f_loadPlaces f_joints f_beams f_loads]) (by subst ew26; rfl) (fun H locs hw => ?_)
            refine lv_aload_n hx hb dX1_number_105 rfl (lv_at hl 0 rfl) ?_
            refine lv_dup hx hb dX1_number_106 rfl ?_
            refine r_get C0 hw 0 2 (v := .int u_size) rfl rfl inX1 (by decide) lk_X1_24 rfl dX1_number_107 ?_
            refine lv_iconst (v := 1) hx hb dX1_number_110 (by decide) ?_
            refine lv_iadd hx hb dX1_number_111 ?_
            refine lv_topi (fun v27 ev27 => ?_)
            have hf := lt_s_ hf v27 ev27
            refine r_put C0 hw 0 2 (v := .int v27) (ws' := List.flatten [pEq κ qu (qg 0) w26 v27, pGr κ qg w24, pFr κ qf f_held f_couples f_endJoints f_lengths f_stiffs f_loadBeams f_loadSizes f_loadPlaces f_joints f_beams f_loads]) rfl rfl inX1 tyX1_ok nmX1 (by decide) lk_X1_24 rfl rfl rfl rfl (Nat.le_of_ble_eq_true rfl) dX1_number_112 rfl (fun H locs hw => ?_)
            obtain ⟨v28, ev28⟩ : ∃ z : Int32, z = (l2 + (1 : Int32)) := ⟨_, rfl⟩
            have hf := lt_s_ hf v28 ev28
            refine lv_iinc (v := v28) (lv' := [(2, .int v28), (0, .ref (qu 0)), (1, .ref (qf 0))]) hx hb dX1_number_115 hl (k := 2) rfl (by rw [ev28]; rfl) (by decide) rfl (fun ls hl => ?_)
            refine lv_goto (tgt := 7) hx hb dX1_number_118 (by decide) ?_
            exact ih v28 w26 v27 w24 H locs ls hw (lv_sub hl [1, 2, 0] rfl)  hf
          · have hf := if_f hc12 hf
            refine lv_goto (tgt := 115) hx hb dX1_number_48 (by decide) ?_
            obtain ⟨v29, ev29⟩ : ∃ z : Int32, z = (l2 + (1 : Int32)) := ⟨_, rfl⟩
            have hf := lt_s_ hf v29 ev29
            refine lv_iinc (v := v29) (lv' := [(2, .int v29), (0, .ref (qu 0)), (1, .ref (qf 0))]) hx hb dX1_number_115 hl (k := 2) rfl (by rw [ev29]; rfl) (by decide) rfl (fun ls hl => ?_)
            refine lv_goto (tgt := 7) hx hb dX1_number_118 (by decide) ?_
            exact ih v29 w3 u_size g_M H locs ls hw (lv_sub hl [1, 2, 0] rfl)  hf
set_option maxHeartbeats 4000000 in
set_option maxRecDepth 100000 in
theorem cEq_number (l : Launch) (D : va_G) (κ : Nat → ClassId) (qu : Nat → Nat) (u_unknowns : Nat → Int32) (u_size : Int32) (qg : Nat → Nat) (g_M : Nat → Nat → Int64) (qf : Nat → Nat) (f_held f_couples f_endJoints f_lengths f_stiffs f_loadBeams f_loadSizes f_loadPlaces : Nat → Int32) (f_joints f_beams f_loads : Int32) (z1 : Nat → Int32) (z2 : Int32) (z3 : Nat → Nat → Int64) (hf : FEq_number u_unknowns g_M f_held f_couples f_endJoints f_joints f_beams = some (z1, z2, z3)) : mV_ l yX1_number (Cond.code yX1_number cX1_number 4 none :: uw) ({ frames := 2, cells := 0, slots := 0, locals := 43 } : Room) D (tys0 κ) [.ref (qu 0), .ref (qf 0)] (List.flatten [pEq κ qu (qg 0) u_unknowns u_size, pGr κ qg g_M, pFr κ qf f_held f_couples f_endJoints f_lengths f_stiffs f_loadBeams f_loadSizes f_loadPlaces f_joints f_beams f_loads])  (List.flatten [pEq κ qu (qg 0) z1 z2, pGr κ qg z3, pFr κ qf f_held f_couples f_endJoints f_lengths f_stiffs f_loadBeams f_loadSizes f_loadPlaces f_joints f_beams f_loads]) := by
  unfold FEq_number at hf
  refine mV_of (by decide) (Nat.le_of_ble_eq_true rfl) ?_
  intro p e s m below meth c A ls H locs C0 hw hl
  obtain ⟨hx, hb, -, hml, hown, hts, -, -⟩ := id C0
  have hl : lv_has ls 4 [(0, .ref (qu 0)), (1, .ref (qf 0))] := hl
  refine lv_aload_n hx hb dX1_number_0 rfl (lv_at hl 0 rfl) ?_
  refine lv_iconst (v := 0) hx hb dX1_number_1 (by decide) ?_
  refine r_put C0 hw 0 2 (v := .int (0 : Int32)) (ws' := List.flatten [pEq κ qu (qg 0) u_unknowns (0 : Int32), pGr κ qg g_M, pFr κ qf f_held f_couples f_endJoints f_lengths f_stiffs f_loadBeams f_loadSizes f_loadPlaces f_joints f_beams f_loads]) rfl rfl inX1 tyX1_ok nmX1 (by decide) lk_X1_24 rfl rfl rfl rfl (Nat.le_of_ble_eq_true rfl) dX1_number_2 rfl (fun H locs hw => ?_)
  refine lv_iconst (v := 0) hx hb dX1_number_5 (by decide) ?_
  refine lv_istore_n (lv' := [(2, .int (0 : Int32)), (0, .ref (qu 0)), (1, .ref (qf 0))]) hx hb dX1_number_6 rfl hl (by decide) rfl (fun ls hl => ?_)
  exact wEq_number_L7 C0 qu qg qf f_held f_couples f_endJoints f_lengths f_stiffs f_loadBeams f_loadSizes f_loadPlaces f_joints f_beams f_loads z1 z2 z3 1000 (0 : Int32) u_unknowns (0 : Int32) g_M H locs ls hw (lv_sub hl [1, 2, 0] rfl)  hf
def FEq_write_L7 (u_unknowns : Nat → Int32) (u_size : Int32) (f_endJoints f_lengths f_stiffs f_loadBeams f_loadSizes f_loadPlaces : Nat → Int32) (f_beams f_loads : Int32) : Nat → Int32 → (Nat → Nat → Int64) → Option ((Nat → Int32) × Int32 × (Nat → Nat → Int64))
  | 0, _, _ => none
  | n + 1, l2, g_M =>
      if ((2 : Int32) * f_beams) ≤ l2 then
        some (u_unknowns, u_size, g_M)
      else
        b1_ (FFr_jointOf f_endJoints l2) fun r7 =>
        gd_ r7 6 <|
        lt_ (u_unknowns r7.toNatClampNeg) fun v11 =>
        if 0 ≤ v11 then
          b1_ (FFr_stiffness f_lengths f_stiffs (l2 / (2 : Int32))) fun r13 =>
          b1_ (FFr_otherEnd l2) fun r16 =>
          b1_ (FFr_jointOf f_endJoints r16) fun r19 =>
          gd_ r19 6 <|
          lt_ (u_unknowns r19.toNatClampNeg) fun v23 =>
          gd_ v11 4 <|
          gd_ v11 5 <|
          lt_ ((g_M v11.toNatClampNeg v11.toNatClampNeg) + (((2 : Int32) * r13).toInt64)) fun v26 =>
          gd_ v11 5 <|
          lt_ (gM_ g_M v11.toNatClampNeg v11.toNatClampNeg v26) fun w28 =>
          lt_ (fun (w29 : Nat → Nat → Int64) =>
            gd_ v11 4 <|
            gd_ (4 : Int32) 5 <|
            b1_ (FFr_first f_lengths f_loadBeams f_loadSizes f_loadPlaces f_loads l2) fun r32 =>
            lt_ ((w29 v11.toNatClampNeg (4 : Int32).toNatClampNeg) - (r32.toInt64)) fun v35 =>
            gd_ (4 : Int32) 5 <|
            lt_ (gM_ w29 v11.toNatClampNeg (4 : Int32).toNatClampNeg v35) fun w37 =>
            lt_ (l2 + (1 : Int32)) fun v38 =>
            FEq_write_L7 u_unknowns u_size f_endJoints f_lengths f_stiffs f_loadBeams f_loadSizes f_loadPlaces f_beams f_loads n v38 w37 : (Nat → Nat → Int64) → Option ((Nat → Int32) × Int32 × (Nat → Nat → Int64))) fun j39 =>
          if v23 < 0 then
            j39 w28
          else
            gd_ v11 4 <|
            gd_ v23 5 <|
            lt_ ((w28 v11.toNatClampNeg v23.toNatClampNeg) + (r13.toInt64)) fun v44 =>
            gd_ v23 5 <|
            lt_ (gM_ w28 v11.toNatClampNeg v23.toNatClampNeg v44) fun w46 =>
            j39 w46
        else
          lt_ (l2 + (1 : Int32)) fun v47 =>
          FEq_write_L7 u_unknowns u_size f_endJoints f_lengths f_stiffs f_loadBeams f_loadSizes f_loadPlaces f_beams f_loads n v47 g_M
def FEq_write (u_unknowns : Nat → Int32) (g_M : Nat → Nat → Int64) (f_held f_couples f_endJoints f_lengths f_stiffs f_loadBeams f_loadSizes f_loadPlaces : Nat → Int32) (f_joints f_beams f_loads : Int32) : Option ((Nat → Int32) × Int32 × (Nat → Nat → Int64)) :=
  b3_ (FEq_number u_unknowns g_M f_held f_couples f_endJoints f_joints f_beams) fun w1 w2 w3 =>
  FEq_write_L7 w1 w2 f_endJoints f_lengths f_stiffs f_loadBeams f_loadSizes f_loadPlaces f_beams f_loads 1000 (0 : Int32) w3
set_option maxHeartbeats 4000000 in
set_option maxRecDepth 100000 in
theorem wEq_write_L7 {p : Program} {l : Launch} {e : Env} {s : State} {m : MethodId} {args : Array Value} {below : List Frame} {meth : Method} {c : Code} {A : Nat → Prop} {D : va_G} {κ : Nat → ClassId} (C0 : cx_ p s m meth c args cX1_write RX1 none 6 A) (qu : Nat → Nat) (u_unknowns : Nat → Int32) (u_size : Int32) (qg qf : Nat → Nat) (f_held f_couples f_endJoints f_lengths f_stiffs f_loadBeams f_loadSizes f_loadPlaces : Nat → Int32) (f_joints f_beams f_loads : Int32) (z1 : Nat → Int32) (z2 : Int32) (z3 : Nat → Nat → Int64) : ∀ (n : Nat) (l2 : Int32) (g_M : Nat → Nat → Int64) (H : Heap) (locs : List Loc) (ls : Array Slot), wd_ D (tys0 κ) A s (List.flatten [pEq κ qu (qg 0) u_unknowns u_size, pGr κ qg g_M, pFr κ qf f_held f_couples f_endJoints f_lengths f_stiffs f_loadBeams f_loadSizes f_loadPlaces f_joints f_beams f_loads]) H locs → lv_has ls 6 [(0, .ref (qu 0)), (1, .ref (qf 0)), (2, .int l2)] → FEq_write_L7 u_unknowns u_size f_endJoints f_lengths f_stiffs f_loadBeams f_loadSizes f_loadPlaces f_beams f_loads n l2 g_M = some (z1, z2, z3) → W p l e ({ frames := 3, cells := 0, slots := 0, locals := 66 } : Room) s m args below meth c H locs 0 0 (qV_ D (tys0 κ) A (List.flatten [pEq κ qu (qg 0) z1 z2, pGr κ qg z3, pFr κ qf f_held f_couples f_endJoints f_lengths f_stiffs f_loadBeams f_loadSizes f_loadPlaces f_joints f_beams f_loads]) below args s) (F0 m 7 ls []) := by
  obtain ⟨hx, hb, -, hml, hown, hts, -, -⟩ := id C0
  intro n
  induction n with
  | zero =>
    intro l2 g_M H locs ls hw hl  hf
    cases hf
  | succ n ih =>
    intro l2 g_M H locs ls hw hl  hf
    rw [FEq_write_L7.eq_2] at hf
    refine lv_iload_n hx hb dX1_write_7 rfl (lv_at hl 2 rfl) ?_
    refine lv_iconst (v := 2) hx hb dX1_write_8 (by decide) ?_
    refine lv_aload_n hx hb dX1_write_9 rfl (lv_at hl 1 rfl) ?_
    refine r_get C0 hw 7 9 (v := .int f_beams) rfl rfl inX2 (by decide) lk_X1_62 rfl dX1_write_10 ?_
    refine lv_imul hx hb dX1_write_13 ?_
    refine lv_icmp_ge (tgt := 119) hx hb dX1_write_14 (by decide) (fun hc6 => ?_) (fun hc6 => ?_)
    · have hf := if_t hc6 hf
      obtain ⟨rfl, rfl, rfl⟩ := e3_ hf
      exact r_vret C0 hw dX1_write_119
    · have hf := if_f hc6 hf
      refine lv_aload_n hx hb dX1_write_17 rfl (lv_at hl 0 rfl) ?_
      refine r_get C0 hw 0 1 (v := .ref (qu 1)) rfl rfl inX1 (by decide) lk_X1_16 rfl dX1_write_18 ?_
      refine lv_aload_n hx hb dX1_write_21 rfl (lv_at hl 1 rfl) ?_
      refine lv_iload_n hx hb dX1_write_22 rfl (lv_at hl 2 rfl) ?_
      obtain ⟨r7, hk8, hf⟩ := b1_s hf
      refine rv_i (vq := (RX2, TX2, 11)) (As := [.int l2]) (rest := [.ref (qu 1)]) (bs' := [pEq κ qu (qg 0) u_unknowns u_size, pGr κ qg g_M, pFr κ qf f_held f_couples f_endJoints f_lengths f_stiffs f_loadBeams f_loadSizes f_loadPlaces f_joints f_beams f_loads]) C0 hw (cFr_jointOf l D κ qf f_held f_couples f_endJoints f_lengths f_stiffs f_loadBeams f_loadSizes f_loadPlaces f_joints f_beams f_loads l2 r7 hk8) cv_RX1_38 ⟨rfl, rfl, Nat.le_of_ble_eq_true rfl, Nat.le_of_ble_eq_true rfl⟩ ⟨Nat.zero_le _, Nat.zero_le _⟩ [2] [0, 1] [0, 1, 2] rfl rfl rfl rfl (by decide) rfl rfl rfl rfl rfl hl.1 (by simp only [List.map, List.sum_cons, List.sum_nil, Value.category]; decide) dX1_write_23 (fun H locs hw hn9 => ?_)
      obtain ⟨hi10, hf⟩ := gd_s hf
      refine r_iald C0 hw 1 0 rfl rfl hi10 dX1_write_26 ?_
      refine lv_topi (fun v11 ev11 => ?_)
      have hf := lt_s_ hf v11 ev11
      refine lv_istore_n (lv' := [(3, .int v11), (0, .ref (qu 0)), (1, .ref (qf 0)), (2, .int l2)]) hx hb dX1_write_27 rfl hl (by decide) rfl (fun ls hl => ?_)
      refine lv_iload_n hx hb dX1_write_28 rfl (lv_at hl 0 rfl) ?_
      refine lv_if_ge (tgt := 35) hx hb dX1_write_29 (by decide) (fun hc12 => ?_) (fun hc12 => ?_)
      · have hf := if_t hc12 hf
        refine lv_aload_n hx hb dX1_write_35 rfl (lv_at hl 2 rfl) ?_
        refine lv_iload_n hx hb dX1_write_36 rfl (lv_at hl 3 rfl) ?_
        refine lv_iconst (v := 2) hx hb dX1_write_37 (by decide) ?_
        refine lv_idiv hx hb dX1_write_38 (by decide) ?_
        obtain ⟨r13, hk14, hf⟩ := b1_s hf
        refine rv_i (vq := (RX2, TX2, 11)) (As := [.int (l2 / (2 : Int32))]) (rest := []) (bs' := [pEq κ qu (qg 0) u_unknowns u_size, pGr κ qg g_M, pFr κ qf f_held f_couples f_endJoints f_lengths f_stiffs f_loadBeams f_loadSizes f_loadPlaces f_joints f_beams f_loads]) C0 hw (cFr_stiffness l D κ qf f_held f_couples f_endJoints f_lengths f_stiffs f_loadBeams f_loadSizes f_loadPlaces f_joints f_beams f_loads (l2 / (2 : Int32)) r13 hk14) cv_RX1_48 ⟨rfl, rfl, Nat.le_of_ble_eq_true rfl, Nat.le_of_ble_eq_true rfl⟩ ⟨Nat.zero_le _, Nat.zero_le _⟩ [2] [0, 1] [0, 1, 2] rfl rfl rfl rfl (by decide) rfl rfl rfl rfl rfl hl.1 (by simp only [List.map, List.sum_cons, List.sum_nil, Value.category]; decide) dX1_write_39 (fun H locs hw hn15 => ?_)
        refine lv_istore (lv' := [(4, .int r13), (3, .int v11), (0, .ref (qu 0)), (1, .ref (qf 0)), (2, .int l2)]) hx hb dX1_write_42 hl (by decide) rfl (fun ls hl => ?_)
        refine lv_aload_n hx hb dX1_write_44 rfl (lv_at hl 2 rfl) ?_
        refine r_get C0 hw 0 1 (v := .ref (qu 1)) rfl rfl inX1 (by decide) lk_X1_16 rfl dX1_write_45 ?_
        refine lv_aload_n hx hb dX1_write_48 rfl (lv_at hl 3 rfl) ?_
        refine lv_aload_n hx hb dX1_write_49 rfl (lv_at hl 3 rfl) ?_
        refine lv_iload_n hx hb dX1_write_50 rfl (lv_at hl 4 rfl) ?_
        obtain ⟨r16, hk17, hf⟩ := b1_s hf
        refine rv_i (vq := (RX2, TX2, 11)) (As := [.int l2]) (rest := [.ref (qf 0), .ref (qu 1)]) (bs' := [pEq κ qu (qg 0) u_unknowns u_size, pGr κ qg g_M, pFr κ qf f_held f_couples f_endJoints f_lengths f_stiffs f_loadBeams f_loadSizes f_loadPlaces f_joints f_beams f_loads]) C0 hw (cFr_otherEnd l D κ qf f_held f_couples f_endJoints f_lengths f_stiffs f_loadBeams f_loadSizes f_loadPlaces f_joints f_beams f_loads l2 r16 hk17) cv_RX1_45 ⟨rfl, rfl, Nat.le_of_ble_eq_true rfl, Nat.le_of_ble_eq_true rfl⟩ ⟨Nat.zero_le _, Nat.zero_le _⟩ [2] [0, 1] [0, 1, 2] rfl rfl rfl rfl (by decide) rfl rfl rfl rfl rfl hl.1 (by simp only [List.map, List.sum_cons, List.sum_nil, Value.category]; decide) dX1_write_51 (fun H locs hw hn18 => ?_)
        obtain ⟨r19, hk20, hf⟩ := b1_s hf
        refine rv_i (vq := (RX2, TX2, 11)) (As := [.int r16]) (rest := [.ref (qu 1)]) (bs' := [pEq κ qu (qg 0) u_unknowns u_size, pGr κ qg g_M, pFr κ qf f_held f_couples f_endJoints f_lengths f_stiffs f_loadBeams f_loadSizes f_loadPlaces f_joints f_beams f_loads]) C0 hw (cFr_jointOf l D κ qf f_held f_couples f_endJoints f_lengths f_stiffs f_loadBeams f_loadSizes f_loadPlaces f_joints f_beams f_loads r16 r19 hk20) cv_RX1_38 ⟨rfl, rfl, Nat.le_of_ble_eq_true rfl, Nat.le_of_ble_eq_true rfl⟩ ⟨Nat.zero_le _, Nat.zero_le _⟩ [2] [0, 1] [0, 1, 2] rfl rfl rfl rfl (by decide) rfl rfl rfl rfl rfl hl.1 (by simp only [List.map, List.sum_cons, List.sum_nil, Value.category]; decide) dX1_write_54 (fun H locs hw hn21 => ?_)
        obtain ⟨hi22, hf⟩ := gd_s hf
        refine r_iald C0 hw 1 0 rfl rfl hi22 dX1_write_57 ?_
        refine lv_topi (fun v23 ev23 => ?_)
        have hf := lt_s_ hf v23 ev23
        refine lv_istore (lv' := [(5, .int v23), (4, .int r13), (3, .int v11), (0, .ref (qu 0)), (1, .ref (qf 0)), (2, .int l2)]) hx hb dX1_write_58 hl (by decide) rfl (fun ls hl => ?_)
        refine lv_aload_n hx hb dX1_write_60 rfl (lv_at hl 3 rfl) ?_
        refine r_get C0 hw 0 0 (v := .ref (qg 0)) rfl rfl inX1 (by decide) lk_X1_11 rfl dX1_write_61 ?_
        refine lv_iload_n hx hb dX1_write_64 rfl (lv_at hl 2 rfl) ?_
        obtain ⟨hi24, hf⟩ := gd_s hf
        refine r_aldg C0 hw 2 6 rfl rfl hi24 rfl dX1_write_65 ?_
        refine lv_iload_n hx hb dX1_write_66 rfl (lv_at hl 2 rfl) ?_
        refine lv_dup2_11 hx hb dX1_write_67 rfl rfl ?_
        obtain ⟨hi25, hf⟩ := gd_s hf
        refine r_gald C0 hw 2 3 (M := g_M) rfl rfl rfl rfl rfl hi24 hi25 dX1_write_68 ?_
        refine lv_iconst (v := 2) hx hb dX1_write_69 (by decide) ?_
        refine lv_iload hx hb dX1_write_70 (lv_at hl 1 rfl) ?_
        refine lv_imul hx hb dX1_write_72 ?_
        refine lv_i2l hx hb dX1_write_73 rfl ?_
        refine lv_ladd hx hb dX1_write_74 ?_
        refine lv_topl (fun v26 ev26 => ?_)
        have hf := lt_s_ hf v26 ev26
        obtain ⟨hi27, hf⟩ := gd_s hf
        obtain ⟨w28, ew28⟩ : ∃ z : Nat → Nat → Int64, z = (gM_ g_M v11.toNatClampNeg v11.toNatClampNeg v26) := ⟨_, rfl⟩
        have hf := lt_s_ hf w28 ew28
        refine r_gast C0 hw 2 3 (M := g_M) (WF := fun Z_ => List.flatten [pEq κ qu (qg 0) u_unknowns u_size, pGr κ qg Z_, pFr κ qf f_held f_couples f_endJoints f_lengths f_stiffs f_loadBeams f_loadSizes f_loadPlaces f_joints f_beams f_loads]) rfl rfl rfl rfl rfl hi24 hi27 rfl rfl rfl rfl dX1_write_75 (fun H locs hw => ?_)
        rw [← ew28] at hw
        refine lv_iload hx hb dX1_write_76 (lv_at hl 0 rfl) ?_
        obtain ⟨j39, ej39, hf⟩ := lt_e hf
        have hj40 : ∀ (w29 : Nat → Nat → Int64) (H : Heap) (locs : List Loc) (ls : Array Slot), wd_ D (tys0 κ) A s (List.flatten [pEq κ qu (qg 0) u_unknowns u_size, pGr κ qg w29, pFr κ qf f_held f_couples f_endJoints f_lengths f_stiffs f_loadBeams f_loadSizes f_loadPlaces f_joints f_beams f_loads]) H locs → lv_has ls 6 [(3, .int v11), (0, .ref (qu 0)), (1, .ref (qf 0)), (2, .int l2)] → j39 w29 = some (z1, z2, z3) → W p l e ({ frames := 3, cells := 0, slots := 0, locals := 66 } : Room) s m args below meth c H locs 0 0 (qV_ D (tys0 κ) A (List.flatten [pEq κ qu (qg 0) z1 z2, pGr κ qg z3, pFr κ qf f_held f_couples f_endJoints f_lengths f_stiffs f_loadBeams f_loadSizes f_loadPlaces f_joints f_beams f_loads]) below args s) (F0 m 96 ls []) := by
          intro w29 H locs ls hw hl  hf
          have hf : (gd_ v11 4 <| gd_ (4 : Int32) 5 <| b1_ (FFr_first f_lengths f_loadBeams f_loadSizes f_loadPlaces f_loads l2) fun r32 => lt_ ((w29 v11.toNatClampNeg (4 : Int32).toNatClampNeg) - (r32.toInt64)) fun v35 => gd_ (4 : Int32) 5 <| lt_ (gM_ w29 v11.toNatClampNeg (4 : Int32).toNatClampNeg v35) fun w37 => lt_ (l2 + (1 : Int32)) fun v38 => FEq_write_L7 u_unknowns u_size f_endJoints f_lengths f_stiffs f_loadBeams f_loadSizes f_loadPlaces f_beams f_loads n v38 w37) = some (z1, z2, z3) := by rw [ej39] at hf; exact hf
          refine lv_aload_n hx hb dX1_write_96 rfl (lv_at hl 1 rfl) ?_
          refine r_get C0 hw 0 0 (v := .ref (qg 0)) rfl rfl inX1 (by decide) lk_X1_11 rfl dX1_write_97 ?_
          refine lv_iload_n hx hb dX1_write_100 rfl (lv_at hl 0 rfl) ?_
          obtain ⟨hi30, hf⟩ := gd_s hf
          refine r_aldg C0 hw 2 6 rfl rfl hi30 rfl dX1_write_101 ?_
          refine lv_iconst (v := 4) hx hb dX1_write_102 (by decide) ?_
          refine lv_dup2_11 hx hb dX1_write_103 rfl rfl ?_
          obtain ⟨hi31, hf⟩ := gd_s hf
          refine r_gald C0 hw 2 3 (M := w29) rfl rfl rfl rfl rfl hi30 hi31 dX1_write_104 ?_
          refine lv_aload_n hx hb dX1_write_105 rfl (lv_at hl 2 rfl) ?_
          refine lv_iload_n hx hb dX1_write_106 rfl (lv_at hl 3 rfl) ?_
          obtain ⟨r32, hk33, hf⟩ := b1_s hf
          refine rv_i (vq := (RX2, TX2, 11)) (As := [.int l2]) (rest := [.long (w29 v11.toNatClampNeg (4 : Int32).toNatClampNeg), .int (4 : Int32), .ref (qg (v11.toNatClampNeg + 1))]) (bs' := [pEq κ qu (qg 0) u_unknowns u_size, pGr κ qg w29, pFr κ qf f_held f_couples f_endJoints f_lengths f_stiffs f_loadBeams f_loadSizes f_loadPlaces f_joints f_beams f_loads]) C0 hw (cFr_first l D κ qf f_held f_couples f_endJoints f_lengths f_stiffs f_loadBeams f_loadSizes f_loadPlaces f_joints f_beams f_loads l2 r32 hk33) cv_RX1_32 ⟨rfl, rfl, Nat.le_of_ble_eq_true rfl, Nat.le_of_ble_eq_true rfl⟩ ⟨Nat.zero_le _, Nat.zero_le _⟩ [2] [0, 1] [0, 1, 2] rfl rfl rfl rfl (by decide) rfl rfl rfl rfl rfl hl.1 (by simp only [List.map, List.sum_cons, List.sum_nil, Value.category]; decide) dX1_write_107 (fun H locs hw hn34 => ?_)
          refine lv_i2l hx hb dX1_write_110 rfl ?_
          refine lv_lsub hx hb dX1_write_111 ?_
          refine lv_topl (fun v35 ev35 => ?_)
          have hf := lt_s_ hf v35 ev35
          obtain ⟨hi36, hf⟩ := gd_s hf
          obtain ⟨w37, ew37⟩ : ∃ z : Nat → Nat → Int64, z = (gM_ w29 v11.toNatClampNeg (4 : Int32).toNatClampNeg v35) := ⟨_, rfl⟩
          have hf := lt_s_ hf w37 ew37
          refine r_gast C0 hw 2 3 (M := w29) (WF := fun Z_ => List.flatten [pEq κ qu (qg 0) u_unknowns u_size, pGr κ qg Z_, pFr κ qf f_held f_couples f_endJoints f_lengths f_stiffs f_loadBeams f_loadSizes f_loadPlaces f_joints f_beams f_loads]) rfl rfl rfl rfl rfl hi30 hi36 rfl rfl rfl rfl dX1_write_112 (fun H locs hw => ?_)
          rw [← ew37] at hw
          obtain ⟨v38, ev38⟩ : ∃ z : Int32, z = (l2 + (1 : Int32)) := ⟨_, rfl⟩
          have hf := lt_s_ hf v38 ev38
          refine lv_iinc (v := v38) (lv' := [(2, .int v38), (3, .int v11), (0, .ref (qu 0)), (1, .ref (qf 0))]) hx hb dX1_write_113 hl (k := 3) rfl (by rw [ev38]; rfl) (by decide) rfl (fun ls hl => ?_)
          refine lv_goto (tgt := 7) hx hb dX1_write_116 (by decide) ?_
          exact ih v38 w37 H locs ls hw (lv_sub hl [2, 3, 0] rfl)  hf
        refine lv_if_lt (tgt := 96) hx hb dX1_write_78 (by decide) (fun hc41 => ?_) (fun hc41 => ?_)
        · have hf := if_t hc41 hf
          exact hj40 w28 H locs ls hw (lv_sub hl [2, 3, 4, 5] rfl)  hf
        · have hf := if_f hc41 hf
          refine lv_aload_n hx hb dX1_write_81 rfl (lv_at hl 3 rfl) ?_
          refine r_get C0 hw 0 0 (v := .ref (qg 0)) rfl rfl inX1 (by decide) lk_X1_11 rfl dX1_write_82 ?_
          refine lv_iload_n hx hb dX1_write_85 rfl (lv_at hl 2 rfl) ?_
          obtain ⟨hi42, hf⟩ := gd_s hf
          refine r_aldg C0 hw 2 6 rfl rfl hi42 rfl dX1_write_86 ?_
          refine lv_iload hx hb dX1_write_87 (lv_at hl 0 rfl) ?_
          refine lv_dup2_11 hx hb dX1_write_89 rfl rfl ?_
          obtain ⟨hi43, hf⟩ := gd_s hf
          refine r_gald C0 hw 2 3 (M := w28) rfl rfl rfl rfl rfl hi42 hi43 dX1_write_90 ?_
          refine lv_iload hx hb dX1_write_91 (lv_at hl 1 rfl) ?_
          refine lv_i2l hx hb dX1_write_93 rfl ?_
          refine lv_ladd hx hb dX1_write_94 ?_
          refine lv_topl (fun v44 ev44 => ?_)
          have hf := lt_s_ hf v44 ev44
          obtain ⟨hi45, hf⟩ := gd_s hf
          obtain ⟨w46, ew46⟩ : ∃ z : Nat → Nat → Int64, z = (gM_ w28 v11.toNatClampNeg v23.toNatClampNeg v44) := ⟨_, rfl⟩
          have hf := lt_s_ hf w46 ew46
          refine r_gast C0 hw 2 3 (M := w28) (WF := fun Z_ => List.flatten [pEq κ qu (qg 0) u_unknowns u_size, pGr κ qg Z_, pFr κ qf f_held f_couples f_endJoints f_lengths f_stiffs f_loadBeams f_loadSizes f_loadPlaces f_joints f_beams f_loads]) rfl rfl rfl rfl rfl hi42 hi45 rfl rfl rfl rfl dX1_write_95 (fun H locs hw => ?_)
          rw [← ew46] at hw
          exact hj40 w46 H locs ls hw (lv_sub hl [2, 3, 4, 5] rfl)  hf
      · have hf := if_f hc12 hf
        refine lv_goto (tgt := 113) hx hb dX1_write_32 (by decide) ?_
        obtain ⟨v47, ev47⟩ : ∃ z : Int32, z = (l2 + (1 : Int32)) := ⟨_, rfl⟩
        have hf := lt_s_ hf v47 ev47
        refine lv_iinc (v := v47) (lv' := [(2, .int v47), (3, .int v11), (0, .ref (qu 0)), (1, .ref (qf 0))]) hx hb dX1_write_113 hl (k := 3) rfl (by rw [ev47]; rfl) (by decide) rfl (fun ls hl => ?_)
        refine lv_goto (tgt := 7) hx hb dX1_write_116 (by decide) ?_
        exact ih v47 g_M H locs ls hw (lv_sub hl [2, 3, 0] rfl)  hf
set_option maxHeartbeats 4000000 in
set_option maxRecDepth 100000 in
theorem cEq_write (l : Launch) (D : va_G) (κ : Nat → ClassId) (qu : Nat → Nat) (u_unknowns : Nat → Int32) (u_size : Int32) (qg : Nat → Nat) (g_M : Nat → Nat → Int64) (qf : Nat → Nat) (f_held f_couples f_endJoints f_lengths f_stiffs f_loadBeams f_loadSizes f_loadPlaces : Nat → Int32) (f_joints f_beams f_loads : Int32) (z1 : Nat → Int32) (z2 : Int32) (z3 : Nat → Nat → Int64) (hf : FEq_write u_unknowns g_M f_held f_couples f_endJoints f_lengths f_stiffs f_loadBeams f_loadSizes f_loadPlaces f_joints f_beams f_loads = some (z1, z2, z3)) : mV_ l yX1_write (Cond.code yX1_write cX1_write 6 none :: uw) ({ frames := 3, cells := 0, slots := 0, locals := 66 } : Room) D (tys0 κ) [.ref (qu 0), .ref (qf 0)] (List.flatten [pEq κ qu (qg 0) u_unknowns u_size, pGr κ qg g_M, pFr κ qf f_held f_couples f_endJoints f_lengths f_stiffs f_loadBeams f_loadSizes f_loadPlaces f_joints f_beams f_loads])  (List.flatten [pEq κ qu (qg 0) z1 z2, pGr κ qg z3, pFr κ qf f_held f_couples f_endJoints f_lengths f_stiffs f_loadBeams f_loadSizes f_loadPlaces f_joints f_beams f_loads]) := by
  unfold FEq_write at hf
  refine mV_of (by decide) (Nat.le_of_ble_eq_true rfl) ?_
  intro p e s m below meth c A ls H locs C0 hw hl
  obtain ⟨hx, hb, -, hml, hown, hts, -, -⟩ := id C0
  have hl : lv_has ls 6 [(0, .ref (qu 0)), (1, .ref (qf 0))] := hl
  refine lv_aload_n hx hb dX1_write_0 rfl (lv_at hl 0 rfl) ?_
  refine lv_aload_n hx hb dX1_write_1 rfl (lv_at hl 1 rfl) ?_
  obtain ⟨w1, w2, w3, hk4, hf⟩ := b3_s hf
  refine rv_v (vq := (RX1, TX1, 3)) (As := [.ref (qf 0)]) (rest := []) (bs' := [pEq κ qu (qg 0) w1 w2, pGr κ qg w3, pFr κ qf f_held f_couples f_endJoints f_lengths f_stiffs f_loadBeams f_loadSizes f_loadPlaces f_joints f_beams f_loads]) C0 hw (cEq_number l D κ qu u_unknowns u_size qg g_M qf f_held f_couples f_endJoints f_lengths f_stiffs f_loadBeams f_loadSizes f_loadPlaces f_joints f_beams f_loads w1 w2 w3 hk4) cv_RX1_59 ⟨rfl, rfl, Nat.le_of_ble_eq_true rfl, Nat.le_of_ble_eq_true rfl⟩ ⟨Nat.zero_le _, Nat.zero_le _⟩ [0, 1, 2] [] [0, 1, 2] rfl rfl rfl rfl (by decide) rfl rfl rfl rfl rfl hl.1 (by simp only [List.map, List.sum_cons, List.sum_nil, Value.category]; decide) dX1_write_2 (fun H locs hw => ?_)
  refine lv_iconst (v := 0) hx hb dX1_write_5 (by decide) ?_
  refine lv_istore_n (lv' := [(2, .int (0 : Int32)), (0, .ref (qu 0)), (1, .ref (qf 0))]) hx hb dX1_write_6 rfl hl (by decide) rfl (fun ls hl => ?_)
  exact wEq_write_L7 C0 qu w1 w2 qg qf f_held f_couples f_endJoints f_lengths f_stiffs f_loadBeams f_loadSizes f_loadPlaces f_joints f_beams f_loads z1 z2 z3 1000 (0 : Int32) w3 H locs ls hw (lv_sub hl [1, 2, 0] rfl)  hf
