theorem lk_X0_41 : Cond.fieldLink RX0 41 (TX0 8).1 (TX0 8).2.1 (TX0 8).2.2.1 ∈ uw := uw_1 (List.mem_of_getElem? (i := 95) rfl) rfl
theorem lk_X0_37 : Cond.fieldLink RX0 37 (TX0 9).1 (TX0 9).2.1 (TX0 9).2.2.1 ∈ uw := uw_1 (List.mem_of_getElem? (i := 97) rfl) rfl
theorem lk_X0_28 : Cond.fieldLink RX0 28 (TX0 5).1 (TX0 5).2.1 (TX0 5).2.2.1 ∈ uw := uw_1 (List.mem_of_getElem? (i := 89) rfl) rfl
theorem lk_X0_31 : Cond.fieldLink RX0 31 (TX0 6).1 (TX0 6).2.1 (TX0 6).2.2.1 ∈ uw := uw_1 (List.mem_of_getElem? (i := 91) rfl) rfl
theorem lk_X0_34 : Cond.fieldLink RX0 34 (TX0 7).1 (TX0 7).2.1 (TX0 7).2.2.1 ∈ uw := uw_1 (List.mem_of_getElem? (i := 93) rfl) rfl
theorem lk_X0_25 : Cond.fieldLink RX0 25 (TX0 4).1 (TX0 4).2.1 (TX0 4).2.2.1 ∈ uw := uw_1 (List.mem_of_getElem? (i := 87) rfl) rfl
theorem lk_X0_44 : Cond.fieldLink RX0 44 (TX2 1).1 (TX2 1).2.1 (TX2 1).2.2.1 ∈ uw := uw_1 (List.mem_of_getElem? (i := 152) rfl) rfl
theorem lk_X0_49 : Cond.fieldLink RX0 49 (TX2 9).1 (TX2 9).2.1 (TX2 9).2.2.1 ∈ uw := uw_1 (List.mem_of_getElem? (i := 171) rfl) rfl
theorem hd_X2_jointOf : yX2_jointOf.cls = RX2 ∧ yX2_jointOf.cls ≠ "java/lang/invoke/MethodHandle" ∧ yX2_jointOf.cls ≠ "java/lang/invoke/VarHandle" ∧ (parseMethodDescriptor yX2_jointOf.desc).map (fun d => d.parameters.length) = some 1 := by decide +kernel
theorem cv_RX0_52 : cv_ RX0 52 yX2_jointOf RX2 cX2_jointOf 2 (some .int) 1 := ⟨uw_2 (List.mem_of_getElem? (i := 174) rfl) rfl, uw_2 (List.mem_of_getElem? (i := 175) rfl) rfl, uw_2 (List.mem_of_getElem? (i := 176) rfl) rfl, uw_1 (List.mem_of_getElem? (i := 6) rfl) rfl, uw_2 (List.mem_of_getElem? (i := 177) rfl) rfl, hd_X2_jointOf⟩
theorem lk_X0_22 : Cond.fieldLink RX0 22 (TX0 3).1 (TX0 3).2.1 (TX0 3).2.2.1 ∈ uw := uw_1 (List.mem_of_getElem? (i := 86) rfl) rfl
theorem hd_X2_stiffness : yX2_stiffness.cls = RX2 ∧ yX2_stiffness.cls ≠ "java/lang/invoke/MethodHandle" ∧ yX2_stiffness.cls ≠ "java/lang/invoke/VarHandle" ∧ (parseMethodDescriptor yX2_stiffness.desc).map (fun d => d.parameters.length) = some 1 := by decide +kernel
theorem cv_RX0_56 : cv_ RX0 56 yX2_stiffness RX2 cX2_stiffness 2 (some .int) 1 := ⟨uw_2 (List.mem_of_getElem? (i := 178) rfl) rfl, uw_2 (List.mem_of_getElem? (i := 179) rfl) rfl, uw_2 (List.mem_of_getElem? (i := 180) rfl) rfl, uw_1 (List.mem_of_getElem? (i := 6) rfl) rfl, uw_2 (List.mem_of_getElem? (i := 181) rfl) rfl, hd_X2_stiffness⟩
theorem lk_X0_9 : Cond.fieldLink RX0 9 (TX0 0).1 (TX0 0).2.1 (TX0 0).2.2.1 ∈ uw := uw_1 (List.mem_of_getElem? (i := 81) rfl) rfl
theorem hd_X2_first : yX2_first.cls = RX2 ∧ yX2_first.cls ≠ "java/lang/invoke/MethodHandle" ∧ yX2_first.cls ≠ "java/lang/invoke/VarHandle" ∧ (parseMethodDescriptor yX2_first.desc).map (fun d => d.parameters.length) = some 1 := by decide +kernel
theorem cv_RX0_59 : cv_ RX0 59 yX2_first RX2 cX2_first 4 (some .int) 1 := ⟨uw_2 (List.mem_of_getElem? (i := 182) rfl) rfl, uw_2 (List.mem_of_getElem? (i := 183) rfl) rfl, uw_2 (List.mem_of_getElem? (i := 184) rfl) rfl, uw_1 (List.mem_of_getElem? (i := 6) rfl) rfl, uw_2 (List.mem_of_getElem? (i := 185) rfl) rfl, hd_X2_first⟩
theorem lk_X0_62 : Cond.fieldLink RX0 62 (TX2 0).1 (TX2 0).2.1 (TX2 0).2.2.1 ∈ uw := uw_1 (List.mem_of_getElem? (i := 148) rfl) rfl
theorem hd_X0_canTurn : yX0_canTurn.cls = RX0 ∧ yX0_canTurn.cls ≠ "java/lang/invoke/MethodHandle" ∧ yX0_canTurn.cls ≠ "java/lang/invoke/VarHandle" ∧ (parseMethodDescriptor yX0_canTurn.desc).map (fun d => d.parameters.length) = some 2 := by decide +kernel
theorem cv_RX0_65 : cv_ RX0 65 yX0_canTurn RX0 cX0_canTurn 3 (some .boolean) 2 := ⟨uw_2 (List.mem_of_getElem? (i := 207) rfl) rfl, uw_2 (List.mem_of_getElem? (i := 208) rfl) rfl, uw_2 (List.mem_of_getElem? (i := 209) rfl) rfl, uw_1 (List.mem_of_getElem? (i := 4) rfl) rfl, uw_2 (List.mem_of_getElem? (i := 210) rfl) rfl, hd_X0_canTurn⟩
theorem lk_X0_69 : Cond.fieldLink RX0 69 (TX2 8).1 (TX2 8).2.1 (TX2 8).2.2.1 ∈ uw := uw_1 (List.mem_of_getElem? (i := 169) rfl) rfl
theorem hd_X0_isLoose : yX0_isLoose.cls = RX0 ∧ yX0_isLoose.cls ≠ "java/lang/invoke/MethodHandle" ∧ yX0_isLoose.cls ≠ "java/lang/invoke/VarHandle" ∧ (parseMethodDescriptor yX0_isLoose.desc).map (fun d => d.parameters.length) = some 2 := by decide +kernel
theorem cv_RX0_72 : cv_ RX0 72 yX0_isLoose RX0 cX0_isLoose 3 (some .boolean) 2 := ⟨uw_2 (List.mem_of_getElem? (i := 203) rfl) rfl, uw_2 (List.mem_of_getElem? (i := 204) rfl) rfl, uw_2 (List.mem_of_getElem? (i := 205) rfl) rfl, uw_1 (List.mem_of_getElem? (i := 4) rfl) rfl, uw_2 (List.mem_of_getElem? (i := 206) rfl) rfl, hd_X0_isLoose⟩
theorem ab_X0_75 : Cond.methodLink RX0 75 Lib.Math.abs.name ∈ uw := uw_2 (List.mem_of_getElem? (i := 215) rfl) rfl
theorem ab_s : Cond.static Lib.Math.abs.name ∈ uw := uw_2 (List.mem_of_getElem? (i := 216) rfl) rfl
theorem ab_i : Cond.initialized "java/lang/Math" ∈ uw := uw_1 (List.mem_of_getElem? (i := 13) rfl) rfl
theorem ab_c : Cond.code Lib.Math.abs.name Lib.Math.abs.code 1 (some .int) ∈ uw := uw_2 (List.mem_of_getElem? (i := 217) rfl) rfl
theorem hd_X0_byTurns : yX0_byTurns.cls = RX0 ∧ yX0_byTurns.cls ≠ "java/lang/invoke/MethodHandle" ∧ yX0_byTurns.cls ≠ "java/lang/invoke/VarHandle" ∧ (parseMethodDescriptor yX0_byTurns.desc).map (fun d => d.parameters.length) = some 1 := by decide +kernel
theorem cv_RX0_84 : cv_ RX0 84 yX0_byTurns RX0 cX0_byTurns 5 (some .int) 1 := ⟨uw_3 (List.mem_of_getElem? (i := 93) rfl) rfl, uw_3 (List.mem_of_getElem? (i := 95) rfl) rfl, uw_0 (List.mem_of_getElem? (i := 19) rfl) rfl, uw_1 (List.mem_of_getElem? (i := 4) rfl) rfl, uw_3 (List.mem_of_getElem? (i := 96) rfl) rfl, hd_X0_byTurns⟩
theorem hd_X0_worst : yX0_worst.cls = RX0 ∧ yX0_worst.cls ≠ "java/lang/invoke/MethodHandle" ∧ yX0_worst.cls ≠ "java/lang/invoke/VarHandle" ∧ (parseMethodDescriptor yX0_worst.desc).map (fun d => d.parameters.length) = some 1 := by decide +kernel
theorem cv_RX0_80 : cv_ RX0 80 yX0_worst RX0 cX0_worst 5 (some .int) 1 := ⟨uw_3 (List.mem_of_getElem? (i := 89) rfl) rfl, uw_3 (List.mem_of_getElem? (i := 91) rfl) rfl, uw_0 (List.mem_of_getElem? (i := 18) rfl) rfl, uw_1 (List.mem_of_getElem? (i := 4) rfl) rfl, uw_3 (List.mem_of_getElem? (i := 92) rfl) rfl, hd_X0_worst⟩
theorem hd_X0_looseAhead : yX0_looseAhead.cls = RX0 ∧ yX0_looseAhead.cls ≠ "java/lang/invoke/MethodHandle" ∧ yX0_looseAhead.cls ≠ "java/lang/invoke/VarHandle" ∧ (parseMethodDescriptor yX0_looseAhead.desc).map (fun d => d.parameters.length) = some 2 := by decide +kernel
theorem cv_RX0_87 : cv_ RX0 87 yX0_looseAhead RX0 cX0_looseAhead 7 (some .int) 2 := ⟨uw_3 (List.mem_of_getElem? (i := 74) rfl) rfl, uw_3 (List.mem_of_getElem? (i := 76) rfl) rfl, uw_0 (List.mem_of_getElem? (i := 17) rfl) rfl, uw_1 (List.mem_of_getElem? (i := 4) rfl) rfl, uw_3 (List.mem_of_getElem? (i := 77) rfl) rfl, hd_X0_looseAhead⟩
theorem lk_X0_18 : Cond.fieldLink RX0 18 (TX0 2).1 (TX0 2).2.1 (TX0 2).2.2.1 ∈ uw := uw_1 (List.mem_of_getElem? (i := 85) rfl) rfl
theorem lk_X0_15 : Cond.fieldLink RX0 15 (TX0 1).1 (TX0 1).2.1 (TX0 1).2.2.1 ∈ uw := uw_1 (List.mem_of_getElem? (i := 83) rfl) rfl
theorem hd_X0_stiffestBare : yX0_stiffestBare.cls = RX0 ∧ yX0_stiffestBare.cls ≠ "java/lang/invoke/MethodHandle" ∧ yX0_stiffestBare.cls ≠ "java/lang/invoke/VarHandle" ∧ (parseMethodDescriptor yX0_stiffestBare.desc).map (fun d => d.parameters.length) = some 2 := by decide +kernel
theorem cv_RX0_91 : cv_ RX0 91 yX0_stiffestBare RX0 cX0_stiffestBare 6 (some .int) 2 := ⟨uw_3 (List.mem_of_getElem? (i := 62) rfl) rfl, uw_3 (List.mem_of_getElem? (i := 64) rfl) rfl, uw_0 (List.mem_of_getElem? (i := 16) rfl) rfl, uw_1 (List.mem_of_getElem? (i := 4) rfl) rfl, uw_3 (List.mem_of_getElem? (i := 65) rfl) rfl, hd_X0_stiffestBare⟩
theorem hd_X0_shareOut : yX0_shareOut.cls = RX0 ∧ yX0_shareOut.cls ≠ "java/lang/invoke/MethodHandle" ∧ yX0_shareOut.cls ≠ "java/lang/invoke/VarHandle" ∧ (parseMethodDescriptor yX0_shareOut.desc).map (fun d => d.parameters.length) = some 2 := by decide +kernel
theorem cv_RX0_94 : cv_ RX0 94 yX0_shareOut RX0 cX0_shareOut 10 none 2 := ⟨uw_3 (List.mem_of_getElem? (i := 106) rfl) rfl, uw_3 (List.mem_of_getElem? (i := 59) rfl) rfl, uw_3 (List.mem_of_getElem? (i := 60) rfl) rfl, uw_1 (List.mem_of_getElem? (i := 4) rfl) rfl, uw_3 (List.mem_of_getElem? (i := 61) rfl) rfl, hd_X0_shareOut⟩
theorem hd_X0_comeTo : yX0_comeTo.cls = RX0 ∧ yX0_comeTo.cls ≠ "java/lang/invoke/MethodHandle" ∧ yX0_comeTo.cls ≠ "java/lang/invoke/VarHandle" ∧ (parseMethodDescriptor yX0_comeTo.desc).map (fun d => d.parameters.length) = some 3 := by decide +kernel
theorem cv_RX0_98 : cv_ RX0 98 yX0_comeTo RX0 cX0_comeTo 4 none 3 := ⟨uw_3 (List.mem_of_getElem? (i := 107) rfl) rfl, uw_3 (List.mem_of_getElem? (i := 109) rfl) rfl, uw_0 (List.mem_of_getElem? (i := 20) rfl) rfl, uw_1 (List.mem_of_getElem? (i := 4) rfl) rfl, uw_3 (List.mem_of_getElem? (i := 110) rfl) rfl, hd_X0_comeTo⟩
theorem hd_X2_otherEnd : yX2_otherEnd.cls = RX2 ∧ yX2_otherEnd.cls ≠ "java/lang/invoke/MethodHandle" ∧ yX2_otherEnd.cls ≠ "java/lang/invoke/VarHandle" ∧ (parseMethodDescriptor yX2_otherEnd.desc).map (fun d => d.parameters.length) = some 1 := by decide +kernel
theorem cv_RX0_102 : cv_ RX0 102 yX2_otherEnd RX2 cX2_otherEnd 2 (some .int) 1 := ⟨uw_3 (List.mem_of_getElem? (i := 111) rfl) rfl, uw_3 (List.mem_of_getElem? (i := 39) rfl) rfl, uw_3 (List.mem_of_getElem? (i := 40) rfl) rfl, uw_1 (List.mem_of_getElem? (i := 6) rfl) rfl, uw_3 (List.mem_of_getElem? (i := 41) rfl) rfl, hd_X2_otherEnd⟩
def FBa_anew_L13 (f_couples : Nat → Int32) (k_ : Int32 → (Nat → Int32) → (Nat → Int32) → (Nat → Int32) → (Nat → Int32) → Option ((Nat → Int32) × (Nat → Int32) × (Nat → Int32) × (Nat → Int32) × (Nat → Int32) × (Nat → Int32) × Int32 × Int32)) : Nat → Int32 → (Nat → Int32) → (Nat → Int32) → (Nat → Int32) → (Nat → Int32) → Option ((Nat → Int32) × (Nat → Int32) × (Nat → Int32) × (Nat → Int32) × (Nat → Int32) × (Nat → Int32) × Int32 × Int32)
  | 0, _, _, _, _, _ => none
  | n + 1, l2, b_outs, b_endsAt, b_stiffAt, b_stepsAt =>
      if (6 : Int32) ≤ l2 then
        k_ l2 b_outs b_endsAt b_stiffAt b_stepsAt
      else
        gd_ l2 6 <|
        lt_ (upd b_endsAt l2.toNatClampNeg (0 : Int32)) fun w3 =>
        gd_ l2 6 <|
        lt_ (upd b_stiffAt l2.toNatClampNeg (0 : Int32)) fun w5 =>
        gd_ l2 6 <|
        lt_ (upd b_stepsAt l2.toNatClampNeg (0 : Int32)) fun w7 =>
        gd_ l2 6 <|
        gd_ l2 6 <|
        lt_ (upd b_outs l2.toNatClampNeg (f_couples l2.toNatClampNeg)) fun w10 =>
        lt_ (l2 + (1 : Int32)) fun v11 =>
        FBa_anew_L13 f_couples k_ n v11 w10 w3 w5 w7
def FBa_anew_L60 (b_stepsAt : Nat → Int32) (b_steps b_latest : Int32) (f_endJoints f_lengths f_stiffs f_loadBeams f_loadSizes f_loadPlaces : Nat → Int32) (f_beams f_loads : Int32) : Nat → Int32 → (Nat → Int32) → (Nat → Int32) → (Nat → Int32) → (Nat → Int32) → (Nat → Int32) → Option ((Nat → Int32) × (Nat → Int32) × (Nat → Int32) × (Nat → Int32) × (Nat → Int32) × (Nat → Int32) × Int32 × Int32)
  | 0, _, _, _, _, _, _ => none
  | n + 1, l2, b_moments, b_endStiffs, b_outs, b_endsAt, b_stiffAt =>
      if ((2 : Int32) * f_beams) ≤ l2 then
        some (b_moments, b_endStiffs, b_outs, b_endsAt, b_stiffAt, b_stepsAt, b_steps, b_latest)
      else
        b1_ (FFr_jointOf f_endJoints l2) fun r18 =>
        b1_ (FFr_stiffness f_lengths f_stiffs (l2 / (2 : Int32))) fun r21 =>
        gd_ l2 20 <|
        lt_ (upd b_endStiffs l2.toNatClampNeg r21) fun w25 =>
        b1_ (FFr_first f_lengths f_loadBeams f_loadSizes f_loadPlaces f_loads l2) fun r26 =>
        gd_ l2 20 <|
        lt_ (upd b_moments l2.toNatClampNeg r26) fun w30 =>
        gd_ r18 6 <|
        gd_ r18 6 <|
        lt_ (upd b_endsAt r18.toNatClampNeg ((b_endsAt r18.toNatClampNeg) + (1 : Int32))) fun w33 =>
        gd_ r18 6 <|
        gd_ l2 20 <|
        gd_ r18 6 <|
        lt_ (upd b_stiffAt r18.toNatClampNeg ((b_stiffAt r18.toNatClampNeg) + (w25 l2.toNatClampNeg))) fun w37 =>
        gd_ r18 6 <|
        gd_ l2 20 <|
        gd_ r18 6 <|
        lt_ (upd b_outs r18.toNatClampNeg ((b_outs r18.toNatClampNeg) + (w30 l2.toNatClampNeg))) fun w41 =>
        lt_ (l2 + (1 : Int32)) fun v42 =>
        FBa_anew_L60 b_stepsAt b_steps b_latest f_endJoints f_lengths f_stiffs f_loadBeams f_loadSizes f_loadPlaces f_beams f_loads n v42 w30 w25 w41 w33 w37
def FBa_anew (b_moments b_endStiffs b_outs b_endsAt b_stiffAt b_stepsAt f_couples f_endJoints f_lengths f_stiffs f_loadBeams f_loadSizes f_loadPlaces : Nat → Int32) (f_beams f_loads : Int32) : Option ((Nat → Int32) × (Nat → Int32) × (Nat → Int32) × (Nat → Int32) × (Nat → Int32) × (Nat → Int32) × Int32 × Int32) :=
  FBa_anew_L13 f_couples (fun (v12 : Int32) (w13 : Nat → Int32) (w14 : Nat → Int32) (w15 : Nat → Int32) (w16 : Nat → Int32) =>
      FBa_anew_L60 w16 (0 : Int32) (-4 : Int32) f_endJoints f_lengths f_stiffs f_loadBeams f_loadSizes f_loadPlaces f_beams f_loads 1000 (0 : Int32) b_moments b_endStiffs w13 w14 w15) 1000 (0 : Int32) b_outs b_endsAt b_stiffAt b_stepsAt
set_option maxHeartbeats 4000000 in
set_option maxRecDepth 100000 in
theorem wBa_anew_L13 {p : Program} {l : Launch} {e : Env} {s : State} {m : MethodId} {args : Array Value} {below : List Frame} {meth : Method} {c : Code} {A : Nat → Prop} {D : va_G} {κ : Nat → ClassId} (C0 : cx_ p s m meth c args cX0_anew RX0 none 4 A) (qb : Nat → Nat) (b_moments b_gains b_topped b_endStiffs : Nat → Int32) (b_steps b_latest : Int32) (qf : Nat → Nat) (f_held f_couples f_endJoints f_lengths f_stiffs f_loadBeams f_loadSizes f_loadPlaces : Nat → Int32) (f_joints f_beams f_loads : Int32) (z1 z2 z3 z4 z5 z6 : Nat → Int32) (z7 z8 : Int32) (k_ : Int32 → (Nat → Int32) → (Nat → Int32) → (Nat → Int32) → (Nat → Int32) → Option ((Nat → Int32) × (Nat → Int32) × (Nat → Int32) × (Nat → Int32) × (Nat → Int32) × (Nat → Int32) × Int32 × Int32)) (hk_ : ∀ (l2 : Int32) (b_outs : Nat → Int32) (b_endsAt : Nat → Int32) (b_stiffAt : Nat → Int32) (b_stepsAt : Nat → Int32) (H : Heap) (locs : List Loc) (ls : Array Slot), wd_ D (tys0 κ) A s (List.flatten [pBa κ qb b_moments b_gains b_topped b_endStiffs b_outs b_endsAt b_stiffAt b_stepsAt b_steps b_latest, pFr κ qf f_held f_couples f_endJoints f_lengths f_stiffs f_loadBeams f_loadSizes f_loadPlaces f_joints f_beams f_loads]) H locs → lv_has ls 4 [(0, .ref (qb 0)), (1, .ref (qf 0))] → k_ l2 b_outs b_endsAt b_stiffAt b_stepsAt = some (z1, z2, z3, z4, z5, z6, z7, z8) → W p l e ({ frames := 2, cells := 0, slots := 0, locals := 49 } : Room) s m args below meth c H locs 0 0 (qV_ D (tys0 κ) A (List.flatten [pBa κ qb z1 b_gains b_topped z2 z3 z4 z5 z6 z7 z8, pFr κ qf f_held f_couples f_endJoints f_lengths f_stiffs f_loadBeams f_loadSizes f_loadPlaces f_joints f_beams f_loads]) below args s) (F0 m 58 ls [])) : ∀ (n : Nat) (l2 : Int32) (b_outs : Nat → Int32) (b_endsAt : Nat → Int32) (b_stiffAt : Nat → Int32) (b_stepsAt : Nat → Int32) (H : Heap) (locs : List Loc) (ls : Array Slot), wd_ D (tys0 κ) A s (List.flatten [pBa κ qb b_moments b_gains b_topped b_endStiffs b_outs b_endsAt b_stiffAt b_stepsAt b_steps b_latest, pFr κ qf f_held f_couples f_endJoints f_lengths f_stiffs f_loadBeams f_loadSizes f_loadPlaces f_joints f_beams f_loads]) H locs → lv_has ls 4 [(0, .ref (qb 0)), (1, .ref (qf 0)), (2, .int l2)] → FBa_anew_L13 f_couples k_ n l2 b_outs b_endsAt b_stiffAt b_stepsAt = some (z1, z2, z3, z4, z5, z6, z7, z8) → W p l e ({ frames := 2, cells := 0, slots := 0, locals := 49 } : Room) s m args below meth c H locs 0 0 (qV_ D (tys0 κ) A (List.flatten [pBa κ qb z1 b_gains b_topped z2 z3 z4 z5 z6 z7 z8, pFr κ qf f_held f_couples f_endJoints f_lengths f_stiffs f_loadBeams f_loadSizes f_loadPlaces f_joints f_beams f_loads]) below args s) (F0 m 13 ls []) := by
  obtain ⟨hx, hb, -, hml, hown, hts, -, -⟩ := id C0
  intro n
  induction n with
  | zero =>
    intro l2 b_outs b_endsAt b_stiffAt b_stepsAt H locs ls hw hl  hf
    cases hf
  | succ n ih =>
    intro l2 b_outs b_endsAt b_stiffAt b_stepsAt H locs ls hw hl  hf
    rw [FBa_anew_L13.eq_2] at hf
    refine lv_iload_n hx hb dX0_anew_13 rfl (lv_at hl 2 rfl) ?_
    refine lv_bipush (v := 6) hx hb dX0_anew_14 (by decide) ?_
    refine lv_icmp_ge (tgt := 58) hx hb dX0_anew_16 (by decide) (fun hc1 => ?_) (fun hc1 => ?_)
    · have hf := if_t hc1 hf
      exact hk_ l2 b_outs b_endsAt b_stiffAt b_stepsAt H locs ls hw (lv_sub hl [0, 1] rfl)  hf
    · have hf := if_f hc1 hf
      refine lv_aload_n hx hb dX0_anew_19 rfl (lv_at hl 0 rfl) ?_
      refine r_get C0 hw 0 5 (v := .ref (qb 6)) rfl rfl inX0 (by decide) lk_X0_28 rfl dX0_anew_20 ?_
      refine lv_iload_n hx hb dX0_anew_23 rfl (lv_at hl 2 rfl) ?_
      refine lv_iconst (v := 0) hx hb dX0_anew_24 (by decide) ?_
      obtain ⟨hi2, hf⟩ := gd_s hf
      obtain ⟨w3, ew3⟩ : ∃ z : Nat → Int32, z = (upd b_endsAt l2.toNatClampNeg (0 : Int32)) := ⟨_, rfl⟩
      have hf := lt_s_ hf w3 ew3
      refine r_iast C0 hw 6 0 rfl rfl hi2 dX0_anew_25 (ws' := List.flatten [pBa κ qb b_moments b_gains b_topped b_endStiffs b_outs w3 b_stiffAt b_stepsAt b_steps b_latest, pFr κ qf f_held f_couples f_endJoints f_lengths f_stiffs f_loadBeams f_loadSizes f_loadPlaces f_joints f_beams f_loads]) (by subst ew3; rfl) (fun H locs hw => ?_)
      refine lv_aload_n hx hb dX0_anew_26 rfl (lv_at hl 0 rfl) ?_
      refine r_get C0 hw 0 6 (v := .ref (qb 7)) rfl rfl inX0 (by decide) lk_X0_31 rfl dX0_anew_27 ?_
      refine lv_iload_n hx hb dX0_anew_30 rfl (lv_at hl 2 rfl) ?_
      refine lv_iconst (v := 0) hx hb dX0_anew_31 (by decide) ?_
      obtain ⟨hi4, hf⟩ := gd_s hf
      obtain ⟨w5, ew5⟩ : ∃ z : Nat → Int32, z = (upd b_stiffAt l2.toNatClampNeg (0 : Int32)) := ⟨_, rfl⟩
      have hf := lt_s_ hf w5 ew5
      refine r_iast C0 hw 7 0 rfl rfl hi4 dX0_anew_32 (ws' := List.flatten [pBa κ qb b_moments b_gains b_topped b_endStiffs b_outs w3 w5 b_stepsAt b_steps b_latest, pFr κ qf f_held f_couples f_endJoints f_lengths f_stiffs f_loadBeams f_loadSizes f_loadPlaces f_joints f_beams f_loads]) (by subst ew5; rfl) (fun H locs hw => ?_)
      refine lv_aload_n hx hb dX0_anew_33 rfl (lv_at hl 0 rfl) ?_
      refine r_get C0 hw 0 7 (v := .ref (qb 8)) rfl rfl inX0 (by decide) lk_X0_34 rfl dX0_anew_34 ?_
      refine lv_iload_n hx hb dX0_anew_37 rfl (lv_at hl 2 rfl) ?_
      refine lv_iconst (v := 0) hx hb dX0_anew_38 (by decide) ?_
      obtain ⟨hi6, hf⟩ := gd_s hf
      obtain ⟨w7, ew7⟩ : ∃ z : Nat → Int32, z = (upd b_stepsAt l2.toNatClampNeg (0 : Int32)) := ⟨_, rfl⟩
      have hf := lt_s_ hf w7 ew7
      refine r_iast C0 hw 8 0 rfl rfl hi6 dX0_anew_39 (ws' := List.flatten [pBa κ qb b_moments b_gains b_topped b_endStiffs b_outs w3 w5 w7 b_steps b_latest, pFr κ qf f_held f_couples f_endJoints f_lengths f_stiffs f_loadBeams f_loadSizes f_loadPlaces f_joints f_beams f_loads]) (by subst ew7; rfl) (fun H locs hw => ?_)
      refine lv_aload_n hx hb dX0_anew_40 rfl (lv_at hl 0 rfl) ?_
      refine r_get C0 hw 0 4 (v := .ref (qb 5)) rfl rfl inX0 (by decide) lk_X0_25 rfl dX0_anew_41 ?_
      refine lv_iload_n hx hb dX0_anew_44 rfl (lv_at hl 2 rfl) ?_
      refine lv_aload_n hx hb dX0_anew_45 rfl (lv_at hl 1 rfl) ?_
      refine r_get C0 hw 9 1 (v := .ref (qf 2)) rfl rfl inX2 (by decide) lk_X0_44 rfl dX0_anew_46 ?_
      refine lv_iload_n hx hb dX0_anew_49 rfl (lv_at hl 2 rfl) ?_
      obtain ⟨hi8, hf⟩ := gd_s hf
      refine r_iald C0 hw 11 0 rfl rfl hi8 dX0_anew_50 ?_
      obtain ⟨hi9, hf⟩ := gd_s hf
      obtain ⟨w10, ew10⟩ : ∃ z : Nat → Int32, z = (upd b_outs l2.toNatClampNeg (f_couples l2.toNatClampNeg)) := ⟨_, rfl⟩
      have hf := lt_s_ hf w10 ew10
      refine r_iast C0 hw 5 0 rfl rfl hi9 dX0_anew_51 (ws' := List.flatten [pBa κ qb b_moments b_gains b_topped b_endStiffs w10 w3 w5 w7 b_steps b_latest, pFr κ qf f_held f_couples f_endJoints f_lengths f_stiffs f_loadBeams f_loadSizes f_loadPlaces f_joints f_beams f_loads]) (by subst ew10; rfl) (fun H locs hw => ?_)
      obtain ⟨v11, ev11⟩ : ∃ z : Int32, z = (l2 + (1 : Int32)) := ⟨_, rfl⟩
      have hf := lt_s_ hf v11 ev11
      refine lv_iinc (v := v11) (lv' := [(2, .int v11), (0, .ref (qb 0)), (1, .ref (qf 0))]) hx hb dX0_anew_52 hl (k := 2) rfl (by rw [ev11]; rfl) (by decide) rfl (fun ls hl => ?_)
      refine lv_goto (tgt := 13) hx hb dX0_anew_55 (by decide) ?_
      exact ih v11 w10 w3 w5 w7 H locs ls hw (lv_sub hl [1, 2, 0] rfl)  hf
set_option maxHeartbeats 4000000 in
set_option maxRecDepth 100000 in
theorem wBa_anew_L60 {p : Program} {l : Launch} {e : Env} {s : State} {m : MethodId} {args : Array Value} {below : List Frame} {meth : Method} {c : Code} {A : Nat → Prop} {D : va_G} {κ : Nat → ClassId} (C0 : cx_ p s m meth c args cX0_anew RX0 none 4 A) (qb : Nat → Nat) (b_gains b_topped b_stepsAt : Nat → Int32) (b_steps b_latest : Int32) (qf : Nat → Nat) (f_held f_couples f_endJoints f_lengths f_stiffs f_loadBeams f_loadSizes f_loadPlaces : Nat → Int32) (f_joints f_beams f_loads : Int32) (z1 z2 z3 z4 z5 z6 : Nat → Int32) (z7 z8 : Int32) : ∀ (n : Nat) (l2 : Int32) (b_moments : Nat → Int32) (b_endStiffs : Nat → Int32) (b_outs : Nat → Int32) (b_endsAt : Nat → Int32) (b_stiffAt : Nat → Int32) (H : Heap) (locs : List Loc) (ls : Array Slot), wd_ D (tys0 κ) A s (List.flatten [pBa κ qb b_moments b_gains b_topped b_endStiffs b_outs b_endsAt b_stiffAt b_stepsAt b_steps b_latest, pFr κ qf f_held f_couples f_endJoints f_lengths f_stiffs f_loadBeams f_loadSizes f_loadPlaces f_joints f_beams f_loads]) H locs → lv_has ls 4 [(0, .ref (qb 0)), (1, .ref (qf 0)), (2, .int l2)] → FBa_anew_L60 b_stepsAt b_steps b_latest f_endJoints f_lengths f_stiffs f_loadBeams f_loadSizes f_loadPlaces f_beams f_loads n l2 b_moments b_endStiffs b_outs b_endsAt b_stiffAt = some (z1, z2, z3, z4, z5, z6, z7, z8) → W p l e ({ frames := 2, cells := 0, slots := 0, locals := 49 } : Room) s m args below meth c H locs 0 0 (qV_ D (tys0 κ) A (List.flatten [pBa κ qb z1 b_gains b_topped z2 z3 z4 z5 z6 z7 z8, pFr κ qf f_held f_couples f_endJoints f_lengths f_stiffs f_loadBeams f_loadSizes f_loadPlaces f_joints f_beams f_loads]) below args s) (F0 m 60 ls []) := by
  obtain ⟨hx, hb, -, hml, hown, hts, -, -⟩ := id C0
  intro n
  induction n with
  | zero =>
    intro l2 b_moments b_endStiffs b_outs b_endsAt b_stiffAt H locs ls hw hl  hf
    cases hf
  | succ n ih =>
    intro l2 b_moments b_endStiffs b_outs b_endsAt b_stiffAt H locs ls hw hl  hf
    rw [FBa_anew_L60.eq_2] at hf
    refine lv_iload_n hx hb dX0_anew_60 rfl (lv_at hl 2 rfl) ?_
    refine lv_iconst (v := 2) hx hb dX0_anew_61 (by decide) ?_
    refine lv_aload_n hx hb dX0_anew_62 rfl (lv_at hl 1 rfl) ?_
    refine r_get C0 hw 9 9 (v := .int f_beams) rfl rfl inX2 (by decide) lk_X0_49 rfl dX0_anew_63 ?_
    refine lv_imul hx hb dX0_anew_66 ?_
    refine lv_icmp_ge (tgt := 146) hx hb dX0_anew_67 (by decide) (fun hc17 => ?_) (fun hc17 => ?_)
    · have hf := if_t hc17 hf
      obtain ⟨rfl, rfl, rfl, rfl, rfl, rfl, rfl, rfl⟩ := e8_ hf
      exact r_vret C0 hw dX0_anew_146
    · have hf := if_f hc17 hf
      refine lv_aload_n hx hb dX0_anew_70 rfl (lv_at hl 1 rfl) ?_
      refine lv_iload_n hx hb dX0_anew_71 rfl (lv_at hl 2 rfl) ?_
      obtain ⟨r18, hk19, hf⟩ := b1_s hf
      refine rv_i (vq := (RX2, TX2, 11)) (As := [.int l2]) (rest := []) (bs' := [pBa κ qb b_moments b_gains b_topped b_endStiffs b_outs b_endsAt b_stiffAt b_stepsAt b_steps b_latest, pFr κ qf f_held f_couples f_endJoints f_lengths f_stiffs f_loadBeams f_loadSizes f_loadPlaces f_joints f_beams f_loads]) C0 hw (cFr_jointOf l D κ qf f_held f_couples f_endJoints f_lengths f_stiffs f_loadBeams f_loadSizes f_loadPlaces f_joints f_beams f_loads l2 r18 hk19) cv_RX0_52 ⟨rfl, rfl, Nat.le_of_ble_eq_true rfl, Nat.le_of_ble_eq_true rfl⟩ ⟨Nat.zero_le _, Nat.zero_le _⟩ [1] [0] [0, 1] rfl rfl rfl rfl (by decide) rfl rfl rfl rfl rfl hl.1 (by simp only [List.map, List.sum_cons, List.sum_nil, Value.category]; decide) dX0_anew_72 (fun H locs hw hn20 => ?_)
      refine lv_istore_n (lv' := [(3, .int r18), (0, .ref (qb 0)), (1, .ref (qf 0)), (2, .int l2)]) hx hb dX0_anew_75 rfl hl (by decide) rfl (fun ls hl => ?_)
      refine lv_aload_n hx hb dX0_anew_76 rfl (lv_at hl 1 rfl) ?_
      refine r_get C0 hw 0 3 (v := .ref (qb 4)) rfl rfl inX0 (by decide) lk_X0_22 rfl dX0_anew_77 ?_
      refine lv_iload_n hx hb dX0_anew_80 rfl (lv_at hl 3 rfl) ?_
      refine lv_aload_n hx hb dX0_anew_81 rfl (lv_at hl 2 rfl) ?_
      refine lv_iload_n hx hb dX0_anew_82 rfl (lv_at hl 3 rfl) ?_
      refine lv_iconst (v := 2) hx hb dX0_anew_83 (by decide) ?_
      refine lv_idiv hx hb dX0_anew_84 (by decide) ?_
      obtain ⟨r21, hk22, hf⟩ := b1_s hf
      refine rv_i (vq := (RX2, TX2, 11)) (As := [.int (l2 / (2 : Int32))]) (rest := [.int l2, .ref (qb 4)]) (bs' := [pBa κ qb b_moments b_gains b_topped b_endStiffs b_outs b_endsAt b_stiffAt b_stepsAt b_steps b_latest, pFr κ qf f_held f_couples f_endJoints f_lengths f_stiffs f_loadBeams f_loadSizes f_loadPlaces f_joints f_beams f_loads]) C0 hw (cFr_stiffness l D κ qf f_held f_couples f_endJoints f_lengths f_stiffs f_loadBeams f_loadSizes f_loadPlaces f_joints f_beams f_loads (l2 / (2 : Int32)) r21 hk22) cv_RX0_56 ⟨rfl, rfl, Nat.le_of_ble_eq_true rfl, Nat.le_of_ble_eq_true rfl⟩ ⟨Nat.zero_le _, Nat.zero_le _⟩ [1] [0] [0, 1] rfl rfl rfl rfl (by decide) rfl rfl rfl rfl rfl hl.1 (by simp only [List.map, List.sum_cons, List.sum_nil, Value.category]; decide) dX0_anew_85 (fun H locs hw hn23 => ?_)
      obtain ⟨hi24, hf⟩ := gd_s hf
      obtain ⟨w25, ew25⟩ : ∃ z : Nat → Int32, z = (upd b_endStiffs l2.toNatClampNeg r21) := ⟨_, rfl⟩
      have hf := lt_s_ hf w25 ew25
      refine r_iast C0 hw 4 0 rfl rfl hi24 dX0_anew_88 (ws' := List.flatten [pBa κ qb b_moments b_gains b_topped w25 b_outs b_endsAt b_stiffAt b_stepsAt b_steps b_latest, pFr κ qf f_held f_couples f_endJoints f_lengths f_stiffs f_loadBeams f_loadSizes f_loadPlaces f_joints f_beams f_loads]) (by subst ew25; rfl) (fun H locs hw => ?_)
      refine lv_aload_n hx hb dX0_anew_89 rfl (lv_at hl 1 rfl) ?_
      refine r_get C0 hw 0 0 (v := .ref (qb 1)) rfl rfl inX0 (by decide) lk_X0_9 rfl dX0_anew_90 ?_
      refine lv_iload_n hx hb dX0_anew_93 rfl (lv_at hl 3 rfl) ?_
      refine lv_aload_n hx hb dX0_anew_94 rfl (lv_at hl 2 rfl) ?_
      refine lv_iload_n hx hb dX0_anew_95 rfl (lv_at hl 3 rfl) ?_
      obtain ⟨r26, hk27, hf⟩ := b1_s hf
      refine rv_i (vq := (RX2, TX2, 11)) (As := [.int l2]) (rest := [.int l2, .ref (qb 1)]) (bs' := [pBa κ qb b_moments b_gains b_topped w25 b_outs b_endsAt b_stiffAt b_stepsAt b_steps b_latest, pFr κ qf f_held f_couples f_endJoints f_lengths f_stiffs f_loadBeams f_loadSizes f_loadPlaces f_joints f_beams f_loads]) C0 hw (cFr_first l D κ qf f_held f_couples f_endJoints f_lengths f_stiffs f_loadBeams f_loadSizes f_loadPlaces f_joints f_beams f_loads l2 r26 hk27) cv_RX0_59 ⟨rfl, rfl, Nat.le_of_ble_eq_true rfl, Nat.le_of_ble_eq_true rfl⟩ ⟨Nat.zero_le _, Nat.zero_le _⟩ [1] [0] [0, 1] rfl rfl rfl rfl (by decide) rfl rfl rfl rfl rfl hl.1 (by simp only [List.map, List.sum_cons, List.sum_nil, Value.category]; decide) dX0_anew_96 (fun H locs hw hn28 => ?_)
      obtain ⟨hi29, hf⟩ := gd_s hf
      obtain ⟨w30, ew30⟩ : ∃ z : Nat → Int32, z = (upd b_moments l2.toNatClampNeg r26) := ⟨_, rfl⟩
      have hf := lt_s_ hf w30 ew30
      refine r_iast C0 hw 1 0 rfl rfl hi29 dX0_anew_99 (ws' := List.flatten [pBa κ qb w30 b_gains b_topped w25 b_outs b_endsAt b_stiffAt b_stepsAt b_steps b_latest, pFr κ qf f_held f_couples f_endJoints f_lengths f_stiffs f_loadBeams f_loadSizes f_loadPlaces f_joints f_beams f_loads]) (by subst ew30; rfl) (fun H locs hw => ?_)
      refine lv_aload_n hx hb dX0_anew_100 rfl (lv_at hl 1 rfl) ?_
      refine r_get C0 hw 0 5 (v := .ref (qb 6)) rfl rfl inX0 (by decide) lk_X0_28 rfl dX0_anew_101 ?_
      refine lv_iload_n hx hb dX0_anew_104 rfl (lv_at hl 0 rfl) ?_
      refine lv_dup2_11 hx hb dX0_anew_105 rfl rfl ?_
      obtain ⟨hi31, hf⟩ := gd_s hf
      refine r_iald C0 hw 6 0 rfl rfl hi31 dX0_anew_106 ?_
      refine lv_iconst (v := 1) hx hb dX0_anew_107 (by decide) ?_
      refine lv_iadd hx hb dX0_anew_108 ?_
      obtain ⟨hi32, hf⟩ := gd_s hf
      obtain ⟨w33, ew33⟩ : ∃ z : Nat → Int32, z = (upd b_endsAt r18.toNatClampNeg ((b_endsAt r18.toNatClampNeg) + (1 : Int32))) := ⟨_, rfl⟩
      have hf := lt_s_ hf w33 ew33
      refine r_iast C0 hw 6 0 rfl rfl hi32 dX0_anew_109 (ws' := List.flatten [pBa κ qb w30 b_gains b_topped w25 b_outs w33 b_stiffAt b_stepsAt b_steps b_latest, pFr κ qf f_held f_couples f_endJoints f_lengths f_stiffs f_loadBeams f_loadSizes f_loadPlaces f_joints f_beams f_loads]) (by subst ew33; rfl) (fun H locs hw => ?_)
      refine lv_aload_n hx hb dX0_anew_110 rfl (lv_at hl 1 rfl) ?_
      refine r_get C0 hw 0 6 (v := .ref (qb 7)) rfl rfl inX0 (by decide) lk_X0_31 rfl dX0_anew_111 ?_
      refine lv_iload_n hx hb dX0_anew_114 rfl (lv_at hl 0 rfl) ?_
      refine lv_dup2_11 hx hb dX0_anew_115 rfl rfl ?_
      obtain ⟨hi34, hf⟩ := gd_s hf
      refine r_iald C0 hw 7 0 rfl rfl hi34 dX0_anew_116 ?_
      refine lv_aload_n hx hb dX0_anew_117 rfl (lv_at hl 1 rfl) ?_
      refine r_get C0 hw 0 3 (v := .ref (qb 4)) rfl rfl inX0 (by decide) lk_X0_22 rfl dX0_anew_118 ?_
      refine lv_iload_n hx hb dX0_anew_121 rfl (lv_at hl 3 rfl) ?_
      obtain ⟨hi35, hf⟩ := gd_s hf
      refine r_iald C0 hw 4 0 rfl rfl hi35 dX0_anew_122 ?_
      refine lv_iadd hx hb dX0_anew_123 ?_
      obtain ⟨hi36, hf⟩ := gd_s hf
      obtain ⟨w37, ew37⟩ : ∃ z : Nat → Int32, z = (upd b_stiffAt r18.toNatClampNeg ((b_stiffAt r18.toNatClampNeg) + (w25 l2.toNatClampNeg))) := ⟨_, rfl⟩
      have hf := lt_s_ hf w37 ew37
      refine r_iast C0 hw 7 0 rfl rfl hi36 dX0_anew_124 (ws' := List.flatten [pBa κ qb w30 b_gains b_topped w25 b_outs w33 w37 b_stepsAt b_steps b_latest, pFr κ qf f_held f_couples f_endJoints f_lengths f_stiffs f_loadBeams f_loadSizes f_loadPlaces f_joints f_beams f_loads]) (by subst ew37; rfl) (fun H locs hw => ?_)
      refine lv_aload_n hx hb dX0_anew_125 rfl (lv_at hl 1 rfl) ?_
      refine r_get C0 hw 0 4 (v := .ref (qb 5)) rfl rfl inX0 (by decide) lk_X0_25 rfl dX0_anew_126 ?_
      refine lv_iload_n hx hb dX0_anew_129 rfl (lv_at hl 0 rfl) ?_
      refine lv_dup2_11 hx hb dX0_anew_130 rfl rfl ?_
      obtain ⟨hi38, hf⟩ := gd_s hf
      refine r_iald C0 hw 5 0 rfl rfl hi38 dX0_anew_131 ?_
      refine lv_aload_n hx hb dX0_anew_132 rfl (lv_at hl 1 rfl) ?_
      refine r_get C0 hw 0 0 (v := .ref (qb 1)) rfl rfl inX0 (by decide) lk_X0_9 rfl dX0_anew_133 ?_
      refine lv_iload_n hx hb dX0_anew_136 rfl (lv_at hl 3 rfl) ?_
      obtain ⟨hi39, hf⟩ := gd_s hf
      refine r_iald C0 hw 1 0 rfl rfl hi39 dX0_anew_137 ?_
      refine lv_iadd hx hb dX0_anew_138 ?_
      obtain ⟨hi40, hf⟩ := gd_s hf
      obtain ⟨w41, ew41⟩ : ∃ z : Nat → Int32, z = (upd b_outs r18.toNatClampNeg ((b_outs r18.toNatClampNeg) + (w30 l2.toNatClampNeg))) := ⟨_, rfl⟩
      have hf := lt_s_ hf w41 ew41
      refine r_iast C0 hw 5 0 rfl rfl hi40 dX0_anew_139 (ws' := List.flatten [pBa κ qb w30 b_gains b_topped w25 w41 w33 w37 b_stepsAt b_steps b_latest, pFr κ qf f_held f_couples f_endJoints f_lengths f_stiffs f_loadBeams f_loadSizes f_loadPlaces f_joints f_beams f_loads]) (by subst ew41; rfl) (fun H locs hw => ?_)
      obtain ⟨v42, ev42⟩ : ∃ z : Int32, z = (l2 + (1 : Int32)) := ⟨_, rfl⟩
      have hf := lt_s_ hf v42 ev42
      refine lv_iinc (v := v42) (lv' := [(2, .int v42), (3, .int r18), (0, .ref (qb 0)), (1, .ref (qf 0))]) hx hb dX0_anew_140 hl (k := 3) rfl (by rw [ev42]; rfl) (by decide) rfl (fun ls hl => ?_)
      refine lv_goto (tgt := 60) hx hb dX0_anew_143 (by decide) ?_
      exact ih v42 w30 w25 w41 w33 w37 H locs ls hw (lv_sub hl [2, 3, 0] rfl)  hf
set_option maxHeartbeats 4000000 in
set_option maxRecDepth 100000 in
theorem cBa_anew (l : Launch) (D : va_G) (κ : Nat → ClassId) (qb : Nat → Nat) (b_moments b_gains b_topped b_endStiffs b_outs b_endsAt b_stiffAt b_stepsAt : Nat → Int32) (b_steps b_latest : Int32) (qf : Nat → Nat) (f_held f_couples f_endJoints f_lengths f_stiffs f_loadBeams f_loadSizes f_loadPlaces : Nat → Int32) (f_joints f_beams f_loads : Int32) (z1 z2 z3 z4 z5 z6 : Nat → Int32) (z7 z8 : Int32) (hf : FBa_anew b_moments b_endStiffs b_outs b_endsAt b_stiffAt b_stepsAt f_couples f_endJoints f_lengths f_stiffs f_loadBeams f_loadSizes f_loadPlaces f_beams f_loads = some (z1, z2, z3, z4, z5, z6, z7, z8)) : mV_ l yX0_anew (Cond.code yX0_anew cX0_anew 4 none :: uw) ({ frames := 2, cells := 0, slots := 0, locals := 49 } : Room) D (tys0 κ) [.ref (qb 0), .ref (qf 0)] (List.flatten [pBa κ qb b_moments b_gains b_topped b_endStiffs b_outs b_endsAt b_stiffAt b_stepsAt b_steps b_latest, pFr κ qf f_held f_couples f_endJoints f_lengths f_stiffs f_loadBeams f_loadSizes f_loadPlaces f_joints f_beams f_loads])  (List.flatten [pBa κ qb z1 b_gains b_topped z2 z3 z4 z5 z6 z7 z8, pFr κ qf f_held f_couples f_endJoints f_lengths f_stiffs f_loadBeams f_loadSizes f_loadPlaces f_joints f_beams f_loads]) := by
  unfold FBa_anew at hf
  refine mV_of (by decide) (Nat.le_of_ble_eq_true rfl) ?_
  intro p e s m below meth c A ls H locs C0 hw hl
  obtain ⟨hx, hb, -, hml, hown, hts, -, -⟩ := id C0
  have hl : lv_has ls 4 [(0, .ref (qb 0)), (1, .ref (qf 0))] := hl
  refine lv_aload_n hx hb dX0_anew_0 rfl (lv_at hl 0 rfl) ?_
  refine lv_iconst (v := 0) hx hb dX0_anew_1 (by decide) ?_
  refine r_put C0 hw 0 8 (v := .int (0 : Int32)) (ws' := List.flatten [pBa κ qb b_moments b_gains b_topped b_endStiffs b_outs b_endsAt b_stiffAt b_stepsAt (0 : Int32) b_latest, pFr κ qf f_held f_couples f_endJoints f_lengths f_stiffs f_loadBeams f_loadSizes f_loadPlaces f_joints f_beams f_loads]) rfl rfl inX0 tyX0_ok nmX0 (by decide) lk_X0_41 rfl rfl rfl rfl (Nat.le_of_ble_eq_true rfl) dX0_anew_2 rfl (fun H locs hw => ?_)
  refine lv_aload_n hx hb dX0_anew_5 rfl (lv_at hl 0 rfl) ?_
  refine lv_bipush (v := -4) hx hb dX0_anew_6 (by decide) ?_
  refine r_put C0 hw 0 9 (v := .int (-4 : Int32)) (ws' := List.flatten [pBa κ qb b_moments b_gains b_topped b_endStiffs b_outs b_endsAt b_stiffAt b_stepsAt (0 : Int32) (-4 : Int32), pFr κ qf f_held f_couples f_endJoints f_lengths f_stiffs f_loadBeams f_loadSizes f_loadPlaces f_joints f_beams f_loads]) rfl rfl inX0 tyX0_ok nmX0 (by decide) lk_X0_37 rfl rfl rfl rfl (Nat.le_of_ble_eq_true rfl) dX0_anew_8 rfl (fun H locs hw => ?_)
  refine lv_iconst (v := 0) hx hb dX0_anew_11 (by decide) ?_
  refine lv_istore_n (lv' := [(2, .int (0 : Int32)), (0, .ref (qb 0)), (1, .ref (qf 0))]) hx hb dX0_anew_12 rfl hl (by decide) rfl (fun ls hl => ?_)
  refine wBa_anew_L13 C0 qb b_moments b_gains b_topped b_endStiffs (0 : Int32) (-4 : Int32) qf f_held f_couples f_endJoints f_lengths f_stiffs f_loadBeams f_loadSizes f_loadPlaces f_joints f_beams f_loads z1 z2 z3 z4 z5 z6 z7 z8 _ (fun v12 w13 w14 w15 w16 H locs ls hw hl  hf => ?_) 1000 (0 : Int32) b_outs b_endsAt b_stiffAt b_stepsAt H locs ls hw (lv_sub hl [1, 2, 0] rfl)  hf
  refine lv_iconst (v := 0) hx hb dX0_anew_58 (by decide) ?_
  refine lv_istore_n (lv' := [(2, .int (0 : Int32)), (0, .ref (qb 0)), (1, .ref (qf 0))]) hx hb dX0_anew_59 rfl hl (by decide) rfl (fun ls hl => ?_)
  exact wBa_anew_L60 C0 qb b_gains b_topped w16 (0 : Int32) (-4 : Int32) qf f_held f_couples f_endJoints f_lengths f_stiffs f_loadBeams f_loadSizes f_loadPlaces f_joints f_beams f_loads z1 z2 z3 z4 z5 z6 z7 z8 1000 (0 : Int32) b_moments b_endStiffs w13 w14 w15 H locs ls hw (lv_sub hl [1, 2, 0] rfl)  hf
def FBa_canTurn (b_endsAt f_held : Nat → Int32) (a2 : Int32) : Option (Int32) :=
  gd_ a2 6 <|
  if (f_held a2.toNatClampNeg) = 0 then
    gd_ a2 6 <|
    if (b_endsAt a2.toNatClampNeg) ≤ 0 then
      some ((0 : Int32))
    else
      some ((1 : Int32))
  else
    some ((0 : Int32))
set_option maxHeartbeats 4000000 in
set_option maxRecDepth 100000 in
theorem cBa_canTurn (l : Launch) (D : va_G) (κ : Nat → ClassId) (qb : Nat → Nat) (b_moments b_gains b_topped b_endStiffs b_outs b_endsAt b_stiffAt b_stepsAt : Nat → Int32) (b_steps b_latest : Int32) (qf : Nat → Nat) (f_held f_couples f_endJoints f_lengths f_stiffs f_loadBeams f_loadSizes f_loadPlaces : Nat → Int32) (f_joints f_beams f_loads a2 zr : Int32) (hf : FBa_canTurn b_endsAt f_held a2 = some zr) : mI_ l yX0_canTurn (Cond.code yX0_canTurn cX0_canTurn 3 (some .boolean) :: uw) ({ frames := 0, cells := 0, slots := 0, locals := 0 } : Room) D (tys0 κ) [.ref (qb 0), .ref (qf 0), .int a2] (List.flatten [pBa κ qb b_moments b_gains b_topped b_endStiffs b_outs b_endsAt b_stiffAt b_stepsAt b_steps b_latest, pFr κ qf f_held f_couples f_endJoints f_lengths f_stiffs f_loadBeams f_loadSizes f_loadPlaces f_joints f_beams f_loads]) nB_ zr (List.flatten [pBa κ qb b_moments b_gains b_topped b_endStiffs b_outs b_endsAt b_stiffAt b_stepsAt b_steps b_latest, pFr κ qf f_held f_couples f_endJoints f_lengths f_stiffs f_loadBeams f_loadSizes f_loadPlaces f_joints f_beams f_loads]) := by
  unfold FBa_canTurn at hf
  refine mI_of (by decide) (Nat.le_of_ble_eq_true rfl) ?_
  intro p e s m below meth c A ls H locs C0 hw hl
  obtain ⟨hx, hb, -, hml, hown, hts, -, -⟩ := id C0
  have hl : lv_has ls 3 [(0, .ref (qb 0)), (1, .ref (qf 0)), (2, .int a2)] := hl
  refine lv_aload_n hx hb dX0_canTurn_0 rfl (lv_at hl 1 rfl) ?_
  refine r_get C0 hw 9 0 (v := .ref (qf 1)) rfl rfl inX2 (by decide) lk_X0_62 rfl dX0_canTurn_1 ?_
  refine lv_iload_n hx hb dX0_canTurn_4 rfl (lv_at hl 2 rfl) ?_
  obtain ⟨hi1, hf⟩ := gd_s hf
  refine r_zald C0 hw 10 1 rfl rfl hi1 dX0_canTurn_5 ?_
  refine lv_if_ne (tgt := 22) hx hb dX0_canTurn_6 (by decide) (fun hc2 => ?_) (fun hc2 => ?_)
  · have hf := if_f hc2 hf
    refine lv_iconst (v := 0) hx hb dX0_canTurn_22 (by decide) ?_
    obtain rfl := e1_ hf
    exact r_zret C0 hw (Or.inl rfl) dX0_canTurn_23
  · have hf := if_t hc2 hf
    refine lv_aload_n hx hb dX0_canTurn_9 rfl (lv_at hl 0 rfl) ?_
    refine r_get C0 hw 0 5 (v := .ref (qb 6)) rfl rfl inX0 (by decide) lk_X0_28 rfl dX0_canTurn_10 ?_
    refine lv_iload_n hx hb dX0_canTurn_13 rfl (lv_at hl 2 rfl) ?_
    obtain ⟨hi3, hf⟩ := gd_s hf
    refine r_iald C0 hw 6 0 rfl rfl hi3 dX0_canTurn_14 ?_
    refine lv_if_le (tgt := 22) hx hb dX0_canTurn_15 (by decide) (fun hc4 => ?_) (fun hc4 => ?_)
    · have hf := if_t hc4 hf
      refine lv_iconst (v := 0) hx hb dX0_canTurn_22 (by decide) ?_
      obtain rfl := e1_ hf
      exact r_zret C0 hw (Or.inl rfl) dX0_canTurn_23
    · have hf := if_f hc4 hf
      refine lv_iconst (v := 1) hx hb dX0_canTurn_18 (by decide) ?_
      refine lv_goto (tgt := 23) hx hb dX0_canTurn_19 (by decide) ?_
      obtain rfl := e1_ hf
      exact r_zret C0 hw (Or.inr rfl) dX0_canTurn_23
def FBa_isLoose (b_outs b_endsAt f_held : Nat → Int32) (a2 : Int32) : Option (Int32) :=
  b1_ (FBa_canTurn b_endsAt f_held a2) fun r1 =>
  if r1 = 0 then
    some ((0 : Int32))
  else
    gd_ a2 6 <|
    if (b_outs a2.toNatClampNeg) = 0 then
      some ((0 : Int32))
    else
      some ((1 : Int32))
set_option maxHeartbeats 4000000 in
set_option maxRecDepth 100000 in
theorem cBa_isLoose (l : Launch) (D : va_G) (κ : Nat → ClassId) (qb : Nat → Nat) (b_moments b_gains b_topped b_endStiffs b_outs b_endsAt b_stiffAt b_stepsAt : Nat → Int32) (b_steps b_latest : Int32) (qf : Nat → Nat) (f_held f_couples f_endJoints f_lengths f_stiffs f_loadBeams f_loadSizes f_loadPlaces : Nat → Int32) (f_joints f_beams f_loads a2 zr : Int32) (hf : FBa_isLoose b_outs b_endsAt f_held a2 = some zr) : mI_ l yX0_isLoose (Cond.code yX0_isLoose cX0_isLoose 3 (some .boolean) :: uw) ({ frames := 1, cells := 0, slots := 0, locals := 22 } : Room) D (tys0 κ) [.ref (qb 0), .ref (qf 0), .int a2] (List.flatten [pBa κ qb b_moments b_gains b_topped b_endStiffs b_outs b_endsAt b_stiffAt b_stepsAt b_steps b_latest, pFr κ qf f_held f_couples f_endJoints f_lengths f_stiffs f_loadBeams f_loadSizes f_loadPlaces f_joints f_beams f_loads]) nB_ zr (List.flatten [pBa κ qb b_moments b_gains b_topped b_endStiffs b_outs b_endsAt b_stiffAt b_stepsAt b_steps b_latest, pFr κ qf f_held f_couples f_endJoints f_lengths f_stiffs f_loadBeams f_loadSizes f_loadPlaces f_joints f_beams f_loads]) := by
  unfold FBa_isLoose at hf
  refine mI_of (by decide) (Nat.le_of_ble_eq_true rfl) ?_
  intro p e s m below meth c A ls H locs C0 hw hl
  obtain ⟨hx, hb, -, hml, hown, hts, -, -⟩ := id C0
  have hl : lv_has ls 3 [(0, .ref (qb 0)), (1, .ref (qf 0)), (2, .int a2)] := hl
  refine lv_aload_n hx hb dX0_isLoose_0 rfl (lv_at hl 0 rfl) ?_
  refine lv_aload_n hx hb dX0_isLoose_1 rfl (lv_at hl 1 rfl) ?_
  refine lv_iload_n hx hb dX0_isLoose_2 rfl (lv_at hl 2 rfl) ?_
  obtain ⟨r1, hk2, hf⟩ := b1_s hf
  refine rv_i (vq := (RX0, TX0, 10)) (As := [.ref (qf 0), .int a2]) (rest := []) (bs' := [pBa κ qb b_moments b_gains b_topped b_endStiffs b_outs b_endsAt b_stiffAt b_stepsAt b_steps b_latest, pFr κ qf f_held f_couples f_endJoints f_lengths f_stiffs f_loadBeams f_loadSizes f_loadPlaces f_joints f_beams f_loads]) C0 hw (cBa_canTurn l D κ qb b_moments b_gains b_topped b_endStiffs b_outs b_endsAt b_stiffAt b_stepsAt b_steps b_latest qf f_held f_couples f_endJoints f_lengths f_stiffs f_loadBeams f_loadSizes f_loadPlaces f_joints f_beams f_loads a2 r1 hk2) cv_RX0_65 ⟨rfl, rfl, Nat.le_of_ble_eq_true rfl, Nat.le_of_ble_eq_true rfl⟩ ⟨Nat.zero_le _, Nat.zero_le _⟩ [0, 1] [] [0, 1] rfl rfl rfl rfl (by decide) rfl rfl rfl rfl rfl hl.1 (by simp only [List.map, List.sum_cons, List.sum_nil, Value.category]; decide) dX0_isLoose_3 (fun H locs hw hn3 => ?_)
  refine lv_if_eq (tgt := 22) hx hb dX0_isLoose_6 (by decide) (fun hc4 => ?_) (fun hc4 => ?_)
  · have hf := if_t hc4 hf
    refine lv_iconst (v := 0) hx hb dX0_isLoose_22 (by decide) ?_
    obtain rfl := e1_ hf
    exact r_zret C0 hw (Or.inl rfl) dX0_isLoose_23
  · have hf := if_f hc4 hf
    refine lv_aload_n hx hb dX0_isLoose_9 rfl (lv_at hl 0 rfl) ?_
    refine r_get C0 hw 0 4 (v := .ref (qb 5)) rfl rfl inX0 (by decide) lk_X0_25 rfl dX0_isLoose_10 ?_
    refine lv_iload_n hx hb dX0_isLoose_13 rfl (lv_at hl 2 rfl) ?_
    obtain ⟨hi5, hf⟩ := gd_s hf
    refine r_iald C0 hw 5 0 rfl rfl hi5 dX0_isLoose_14 ?_
    refine lv_if_eq (tgt := 22) hx hb dX0_isLoose_15 (by decide) (fun hc6 => ?_) (fun hc6 => ?_)
    · have hf := if_t hc6 hf
      refine lv_iconst (v := 0) hx hb dX0_isLoose_22 (by decide) ?_
      obtain rfl := e1_ hf
      exact r_zret C0 hw (Or.inl rfl) dX0_isLoose_23
    · have hf := if_f hc6 hf
      refine lv_iconst (v := 1) hx hb dX0_isLoose_18 (by decide) ?_
      refine lv_goto (tgt := 23) hx hb dX0_isLoose_19 (by decide) ?_
      obtain rfl := e1_ hf
      exact r_zret C0 hw (Or.inr rfl) dX0_isLoose_23
def FBa_loose_L4 (b_outs b_endsAt f_held : Nat → Int32) (f_joints : Int32) : Nat → Int32 → Int32 → Option (Int32)
  | 0, _, _ => none
  | n + 1, l2, l3 =>
      if f_joints ≤ l3 then
        some (l2)
      else
        b1_ (FBa_isLoose b_outs b_endsAt f_held l3) fun r2 =>
        if r2 = 0 then
          lt_ (l3 + (1 : Int32)) fun v6 =>
          FBa_loose_L4 b_outs b_endsAt f_held f_joints n l2 v6
        else
          lt_ (l2 + (1 : Int32)) fun v7 =>
          lt_ (l3 + (1 : Int32)) fun v8 =>
          FBa_loose_L4 b_outs b_endsAt f_held f_joints n v7 v8
def FBa_loose (b_outs b_endsAt f_held : Nat → Int32) (f_joints : Int32) : Option (Int32) :=
  FBa_loose_L4 b_outs b_endsAt f_held f_joints 1000 (0 : Int32) (0 : Int32)
set_option maxHeartbeats 4000000 in
set_option maxRecDepth 100000 in
theorem wBa_loose_L4 {p : Program} {l : Launch} {e : Env} {s : State} {m : MethodId} {args : Array Value} {below : List Frame} {meth : Method} {c : Code} {A : Nat → Prop} {D : va_G} {κ : Nat → ClassId} (C0 : cx_ p s m meth c args cX0_loose RX0 (some .int) 4 A) (qb : Nat → Nat) (b_moments b_gains b_topped b_endStiffs b_outs b_endsAt b_stiffAt b_stepsAt : Nat → Int32) (b_steps b_latest : Int32) (qf : Nat → Nat) (f_held f_couples f_endJoints f_lengths f_stiffs f_loadBeams f_loadSizes f_loadPlaces : Nat → Int32) (f_joints f_beams f_loads : Int32) (zr : Int32) : ∀ (n : Nat) (l2 : Int32) (l3 : Int32) (H : Heap) (locs : List Loc) (ls : Array Slot), wd_ D (tys0 κ) A s (List.flatten [pBa κ qb b_moments b_gains b_topped b_endStiffs b_outs b_endsAt b_stiffAt b_stepsAt b_steps b_latest, pFr κ qf f_held f_couples f_endJoints f_lengths f_stiffs f_loadBeams f_loadSizes f_loadPlaces f_joints f_beams f_loads]) H locs → lv_has ls 4 [(0, .ref (qb 0)), (1, .ref (qf 0)), (2, .int l2), (3, .int l3)] → FBa_loose_L4 b_outs b_endsAt f_held f_joints n l2 l3 = some zr → W p l e ({ frames := 2, cells := 0, slots := 0, locals := 44 } : Room) s m args below meth c H locs 0 0 (qI_ D (tys0 κ) A nT_ zr (List.flatten [pBa κ qb b_moments b_gains b_topped b_endStiffs b_outs b_endsAt b_stiffAt b_stepsAt b_steps b_latest, pFr κ qf f_held f_couples f_endJoints f_lengths f_stiffs f_loadBeams f_loadSizes f_loadPlaces f_joints f_beams f_loads]) below args s) (F0 m 4 ls []) := by
  obtain ⟨hx, hb, -, hml, hown, hts, -, -⟩ := id C0
  intro n
  induction n with
  | zero =>
    intro l2 l3 H locs ls hw hl  hf
    cases hf
  | succ n ih =>
    intro l2 l3 H locs ls hw hl  hf
    rw [FBa_loose_L4.eq_2] at hf
    refine lv_iload_n hx hb dX0_loose_4 rfl (lv_at hl 3 rfl) ?_
    refine lv_aload_n hx hb dX0_loose_5 rfl (lv_at hl 1 rfl) ?_
    refine r_get C0 hw 9 8 (v := .int f_joints) rfl rfl inX2 (by decide) lk_X0_69 rfl dX0_loose_6 ?_
    refine lv_icmp_ge (tgt := 30) hx hb dX0_loose_9 (by decide) (fun hc1 => ?_) (fun hc1 => ?_)
    · have hf := if_t hc1 hf
      refine lv_iload_n hx hb dX0_loose_30 rfl (lv_at hl 2 rfl) ?_
      obtain rfl := e1_ hf
      exact r_iret C0 hw trivial dX0_loose_31
    · have hf := if_f hc1 hf
      refine lv_aload_n hx hb dX0_loose_12 rfl (lv_at hl 0 rfl) ?_
      refine lv_aload_n hx hb dX0_loose_13 rfl (lv_at hl 1 rfl) ?_
      refine lv_iload_n hx hb dX0_loose_14 rfl (lv_at hl 3 rfl) ?_
      obtain ⟨r2, hk3, hf⟩ := b1_s hf
      refine rv_i (vq := (RX0, TX0, 10)) (As := [.ref (qf 0), .int l3]) (rest := []) (bs' := [pBa κ qb b_moments b_gains b_topped b_endStiffs b_outs b_endsAt b_stiffAt b_stepsAt b_steps b_latest, pFr κ qf f_held f_couples f_endJoints f_lengths f_stiffs f_loadBeams f_loadSizes f_loadPlaces f_joints f_beams f_loads]) C0 hw (cBa_isLoose l D κ qb b_moments b_gains b_topped b_endStiffs b_outs b_endsAt b_stiffAt b_stepsAt b_steps b_latest qf f_held f_couples f_endJoints f_lengths f_stiffs f_loadBeams f_loadSizes f_loadPlaces f_joints f_beams f_loads l3 r2 hk3) cv_RX0_72 ⟨rfl, rfl, Nat.le_of_ble_eq_true rfl, Nat.le_of_ble_eq_true rfl⟩ ⟨Nat.zero_le _, Nat.zero_le _⟩ [0, 1] [] [0, 1] rfl rfl rfl rfl (by decide) rfl rfl rfl rfl rfl hl.1 (by simp only [List.map, List.sum_cons, List.sum_nil, Value.category]; decide) dX0_loose_15 (fun H locs hw hn4 => ?_)
      refine lv_if_eq (tgt := 24) hx hb dX0_loose_18 (by decide) (fun hc5 => ?_) (fun hc5 => ?_)
      · have hf := if_t hc5 hf
        obtain ⟨v6, ev6⟩ : ∃ z : Int32, z = (l3 + (1 : Int32)) := ⟨_, rfl⟩
        have hf := lt_s_ hf v6 ev6
        refine lv_iinc (v := v6) (lv' := [(3, .int v6), (0, .ref (qb 0)), (1, .ref (qf 0)), (2, .int l2)]) hx hb dX0_loose_24 hl (k := 3) rfl (by rw [ev6]; rfl) (by decide) rfl (fun ls hl => ?_)
        refine lv_goto (tgt := 4) hx hb dX0_loose_27 (by decide) ?_
        exact ih l2 v6 H locs ls hw (lv_sub hl [1, 2, 3, 0] rfl)  hf
      · have hf := if_f hc5 hf
        obtain ⟨v7, ev7⟩ : ∃ z : Int32, z = (l2 + (1 : Int32)) := ⟨_, rfl⟩
        have hf := lt_s_ hf v7 ev7
        refine lv_iinc (v := v7) (lv' := [(2, .int v7), (0, .ref (qb 0)), (1, .ref (qf 0)), (3, .int l3)]) hx hb dX0_loose_21 hl (k := 2) rfl (by rw [ev7]; rfl) (by decide) rfl (fun ls hl => ?_)
        obtain ⟨v8, ev8⟩ : ∃ z : Int32, z = (l3 + (1 : Int32)) := ⟨_, rfl⟩
        have hf := lt_s_ hf v8 ev8
        refine lv_iinc (v := v8) (lv' := [(3, .int v8), (2, .int v7), (0, .ref (qb 0)), (1, .ref (qf 0))]) hx hb dX0_loose_24 hl (k := 3) rfl (by rw [ev8]; rfl) (by decide) rfl (fun ls hl => ?_)
        refine lv_goto (tgt := 4) hx hb dX0_loose_27 (by decide) ?_
        exact ih v7 v8 H locs ls hw (lv_sub hl [2, 3, 1, 0] rfl)  hf
set_option maxHeartbeats 4000000 in
set_option maxRecDepth 100000 in
theorem cBa_loose (l : Launch) (D : va_G) (κ : Nat → ClassId) (qb : Nat → Nat) (b_moments b_gains b_topped b_endStiffs b_outs b_endsAt b_stiffAt b_stepsAt : Nat → Int32) (b_steps b_latest : Int32) (qf : Nat → Nat) (f_held f_couples f_endJoints f_lengths f_stiffs f_loadBeams f_loadSizes f_loadPlaces : Nat → Int32) (f_joints f_beams f_loads zr : Int32) (hf : FBa_loose b_outs b_endsAt f_held f_joints = some zr) : mI_ l yX0_loose (Cond.code yX0_loose cX0_loose 4 (some .int) :: uw) ({ frames := 2, cells := 0, slots := 0, locals := 44 } : Room) D (tys0 κ) [.ref (qb 0), .ref (qf 0)] (List.flatten [pBa κ qb b_moments b_gains b_topped b_endStiffs b_outs b_endsAt b_stiffAt b_stepsAt b_steps b_latest, pFr κ qf f_held f_couples f_endJoints f_lengths f_stiffs f_loadBeams f_loadSizes f_loadPlaces f_joints f_beams f_loads]) nT_ zr (List.flatten [pBa κ qb b_moments b_gains b_topped b_endStiffs b_outs b_endsAt b_stiffAt b_stepsAt b_steps b_latest, pFr κ qf f_held f_couples f_endJoints f_lengths f_stiffs f_loadBeams f_loadSizes f_loadPlaces f_joints f_beams f_loads]) := by
  unfold FBa_loose at hf
  refine mI_of (by decide) (Nat.le_of_ble_eq_true rfl) ?_
  intro p e s m below meth c A ls H locs C0 hw hl
  obtain ⟨hx, hb, -, hml, hown, hts, -, -⟩ := id C0
  have hl : lv_has ls 4 [(0, .ref (qb 0)), (1, .ref (qf 0))] := hl
  refine lv_iconst (v := 0) hx hb dX0_loose_0 (by decide) ?_
  refine lv_istore_n (lv' := [(2, .int (0 : Int32)), (0, .ref (qb 0)), (1, .ref (qf 0))]) hx hb dX0_loose_1 rfl hl (by decide) rfl (fun ls hl => ?_)
  refine lv_iconst (v := 0) hx hb dX0_loose_2 (by decide) ?_
  refine lv_istore_n (lv' := [(3, .int (0 : Int32)), (2, .int (0 : Int32)), (0, .ref (qb 0)), (1, .ref (qf 0))]) hx hb dX0_loose_3 rfl hl (by decide) rfl (fun ls hl => ?_)
  exact wBa_loose_L4 C0 qb b_moments b_gains b_topped b_endStiffs b_outs b_endsAt b_stiffAt b_stepsAt b_steps b_latest qf f_held f_couples f_endJoints f_lengths f_stiffs f_loadBeams f_loadSizes f_loadPlaces f_joints f_beams f_loads zr 1000 (0 : Int32) (0 : Int32) H locs ls hw (lv_sub hl [2, 3, 1, 0] rfl)  hf
def FBa_left_L4 (b_outs b_endsAt f_held : Nat → Int32) (f_joints : Int32) : Nat → Int32 → Int32 → Option (Int32)
  | 0, _, _ => none
  | n + 1, l2, l3 =>
      if f_joints ≤ l3 then
        some (l2)
      else
        b1_ (FBa_canTurn b_endsAt f_held l3) fun r2 =>
        if r2 = 0 then
          lt_ (l3 + (1 : Int32)) fun v6 =>
          FBa_left_L4 b_outs b_endsAt f_held f_joints n l2 v6
        else
          gd_ l3 6 <|
          lt_ (l2 + (if 0 ≤ (b_outs l3.toNatClampNeg) then (b_outs l3.toNatClampNeg) else 0 - (b_outs l3.toNatClampNeg))) fun v8 =>
          lt_ (l3 + (1 : Int32)) fun v9 =>
          FBa_left_L4 b_outs b_endsAt f_held f_joints n v8 v9
def FBa_left (b_outs b_endsAt f_held : Nat → Int32) (f_joints : Int32) : Option (Int32) :=
  FBa_left_L4 b_outs b_endsAt f_held f_joints 1000 (0 : Int32) (0 : Int32)
set_option maxHeartbeats 4000000 in
set_option maxRecDepth 100000 in
theorem wBa_left_L4 {p : Program} {l : Launch} {e : Env} {s : State} {m : MethodId} {args : Array Value} {below : List Frame} {meth : Method} {c : Code} {A : Nat → Prop} {D : va_G} {κ : Nat → ClassId} (C0 : cx_ p s m meth c args cX0_left RX0 (some .int) 4 A) (qb : Nat → Nat) (b_moments b_gains b_topped b_endStiffs b_outs b_endsAt b_stiffAt b_stepsAt : Nat → Int32) (b_steps b_latest : Int32) (qf : Nat → Nat) (f_held f_couples f_endJoints f_lengths f_stiffs f_loadBeams f_loadSizes f_loadPlaces : Nat → Int32) (f_joints f_beams f_loads : Int32) (zr : Int32) : ∀ (n : Nat) (l2 : Int32) (l3 : Int32) (H : Heap) (locs : List Loc) (ls : Array Slot), wd_ D (tys0 κ) A s (List.flatten [pBa κ qb b_moments b_gains b_topped b_endStiffs b_outs b_endsAt b_stiffAt b_stepsAt b_steps b_latest, pFr κ qf f_held f_couples f_endJoints f_lengths f_stiffs f_loadBeams f_loadSizes f_loadPlaces f_joints f_beams f_loads]) H locs → lv_has ls 4 [(0, .ref (qb 0)), (1, .ref (qf 0)), (2, .int l2), (3, .int l3)] → FBa_left_L4 b_outs b_endsAt f_held f_joints n l2 l3 = some zr → W p l e ({ frames := 1, cells := 0, slots := 0, locals := 22 } : Room) s m args below meth c H locs 0 0 (qI_ D (tys0 κ) A nT_ zr (List.flatten [pBa κ qb b_moments b_gains b_topped b_endStiffs b_outs b_endsAt b_stiffAt b_stepsAt b_steps b_latest, pFr κ qf f_held f_couples f_endJoints f_lengths f_stiffs f_loadBeams f_loadSizes f_loadPlaces f_joints f_beams f_loads]) below args s) (F0 m 4 ls []) := by
  obtain ⟨hx, hb, -, hml, hown, hts, -, -⟩ := id C0
  intro n
  induction n with
  | zero =>
    intro l2 l3 H locs ls hw hl  hf
    cases hf
  | succ n ih =>
    intro l2 l3 H locs ls hw hl  hf
    rw [FBa_left_L4.eq_2] at hf
    refine lv_iload_n hx hb dX0_left_4 rfl (lv_at hl 3 rfl) ?_
    refine lv_aload_n hx hb dX0_left_5 rfl (lv_at hl 1 rfl) ?_
    refine r_get C0 hw 9 8 (v := .int f_joints) rfl rfl inX2 (by decide) lk_X0_69 rfl dX0_left_6 ?_
    refine lv_icmp_ge (tgt := 39) hx hb dX0_left_9 (by decide) (fun hc1 => ?_) (fun hc1 => ?_)
    · have hf := if_t hc1 hf
      refine lv_iload_n hx hb dX0_left_39 rfl (lv_at hl 2 rfl) ?_
      obtain rfl := e1_ hf
      exact r_iret C0 hw trivial dX0_left_40
    · have hf := if_f hc1 hf
      refine lv_aload_n hx hb dX0_left_12 rfl (lv_at hl 0 rfl) ?_
      refine lv_aload_n hx hb dX0_left_13 rfl (lv_at hl 1 rfl) ?_
      refine lv_iload_n hx hb dX0_left_14 rfl (lv_at hl 3 rfl) ?_
      obtain ⟨r2, hk3, hf⟩ := b1_s hf
      refine rv_i (vq := (RX0, TX0, 10)) (As := [.ref (qf 0), .int l3]) (rest := []) (bs' := [pBa κ qb b_moments b_gains b_topped b_endStiffs b_outs b_endsAt b_stiffAt b_stepsAt b_steps b_latest, pFr κ qf f_held f_couples f_endJoints f_lengths f_stiffs f_loadBeams f_loadSizes f_loadPlaces f_joints f_beams f_loads]) C0 hw (cBa_canTurn l D κ qb b_moments b_gains b_topped b_endStiffs b_outs b_endsAt b_stiffAt b_stepsAt b_steps b_latest qf f_held f_couples f_endJoints f_lengths f_stiffs f_loadBeams f_loadSizes f_loadPlaces f_joints f_beams f_loads l3 r2 hk3) cv_RX0_65 ⟨rfl, rfl, Nat.le_of_ble_eq_true rfl, Nat.le_of_ble_eq_true rfl⟩ ⟨Nat.zero_le _, Nat.zero_le _⟩ [0, 1] [] [0, 1] rfl rfl rfl rfl (by decide) rfl rfl rfl rfl rfl hl.1 (by simp only [List.map, List.sum_cons, List.sum_nil, Value.category]; decide) dX0_left_15 (fun H locs hw hn4 => ?_)
      refine lv_if_eq (tgt := 33) hx hb dX0_left_18 (by decide) (fun hc5 => ?_) (fun hc5 => ?_)
      · have hf := if_t hc5 hf
        obtain ⟨v6, ev6⟩ : ∃ z : Int32, z = (l3 + (1 : Int32)) := ⟨_, rfl⟩
        have hf := lt_s_ hf v6 ev6
        refine lv_iinc (v := v6) (lv' := [(3, .int v6), (0, .ref (qb 0)), (1, .ref (qf 0)), (2, .int l2)]) hx hb dX0_left_33 hl (k := 3) rfl (by rw [ev6]; rfl) (by decide) rfl (fun ls hl => ?_)
        refine lv_goto (tgt := 4) hx hb dX0_left_36 (by decide) ?_
        exact ih l2 v6 H locs ls hw (lv_sub hl [1, 2, 3, 0] rfl)  hf
      · have hf := if_f hc5 hf
        refine lv_iload_n hx hb dX0_left_21 rfl (lv_at hl 2 rfl) ?_
        refine lv_aload_n hx hb dX0_left_22 rfl (lv_at hl 0 rfl) ?_
        refine r_get C0 hw 0 4 (v := .ref (qb 5)) rfl rfl inX0 (by decide) lk_X0_25 rfl dX0_left_23 ?_
        refine lv_iload_n hx hb dX0_left_26 rfl (lv_at hl 3 rfl) ?_
        obtain ⟨hi7, hf⟩ := gd_s hf
        refine r_iald C0 hw 5 0 rfl rfl hi7 dX0_left_27 ?_
        refine va_mabs hx hb (hml.trans hl.1.symm) hown (hts _ ab_X0_75) (hts _ ab_s) (hts _ ab_i) (hts _ ab_c) (by decide) (by simp only [List.map, List.sum_cons, List.sum_nil, Value.category]; decide) (by decide) (by decide) dX0_left_28 ?_
        refine lv_iadd hx hb dX0_left_31 ?_
        refine lv_topi (fun v8 ev8 => ?_)
        have hf := lt_s_ hf v8 ev8
        refine lv_istore_n (lv' := [(2, .int v8), (0, .ref (qb 0)), (1, .ref (qf 0)), (3, .int l3)]) hx hb dX0_left_32 rfl hl (by decide) rfl (fun ls hl => ?_)
        obtain ⟨v9, ev9⟩ : ∃ z : Int32, z = (l3 + (1 : Int32)) := ⟨_, rfl⟩
        have hf := lt_s_ hf v9 ev9
        refine lv_iinc (v := v9) (lv' := [(3, .int v9), (2, .int v8), (0, .ref (qb 0)), (1, .ref (qf 0))]) hx hb dX0_left_33 hl (k := 3) rfl (by rw [ev9]; rfl) (by decide) rfl (fun ls hl => ?_)
        refine lv_goto (tgt := 4) hx hb dX0_left_36 (by decide) ?_
        exact ih v8 v9 H locs ls hw (lv_sub hl [2, 3, 1, 0] rfl)  hf
set_option maxHeartbeats 4000000 in
set_option maxRecDepth 100000 in
theorem cBa_left (l : Launch) (D : va_G) (κ : Nat → ClassId) (qb : Nat → Nat) (b_moments b_gains b_topped b_endStiffs b_outs b_endsAt b_stiffAt b_stepsAt : Nat → Int32) (b_steps b_latest : Int32) (qf : Nat → Nat) (f_held f_couples f_endJoints f_lengths f_stiffs f_loadBeams f_loadSizes f_loadPlaces : Nat → Int32) (f_joints f_beams f_loads zr : Int32) (hf : FBa_left b_outs b_endsAt f_held f_joints = some zr) : mI_ l yX0_left (Cond.code yX0_left cX0_left 4 (some .int) :: uw) ({ frames := 1, cells := 0, slots := 0, locals := 22 } : Room) D (tys0 κ) [.ref (qb 0), .ref (qf 0)] (List.flatten [pBa κ qb b_moments b_gains b_topped b_endStiffs b_outs b_endsAt b_stiffAt b_stepsAt b_steps b_latest, pFr κ qf f_held f_couples f_endJoints f_lengths f_stiffs f_loadBeams f_loadSizes f_loadPlaces f_joints f_beams f_loads]) nT_ zr (List.flatten [pBa κ qb b_moments b_gains b_topped b_endStiffs b_outs b_endsAt b_stiffAt b_stepsAt b_steps b_latest, pFr κ qf f_held f_couples f_endJoints f_lengths f_stiffs f_loadBeams f_loadSizes f_loadPlaces f_joints f_beams f_loads]) := by
  unfold FBa_left at hf
  refine mI_of (by decide) (Nat.le_of_ble_eq_true rfl) ?_
  intro p e s m below meth c A ls H locs C0 hw hl
  obtain ⟨hx, hb, -, hml, hown, hts, -, -⟩ := id C0
  have hl : lv_has ls 4 [(0, .ref (qb 0)), (1, .ref (qf 0))] := hl
  refine lv_iconst (v := 0) hx hb dX0_left_0 (by decide) ?_
  refine lv_istore_n (lv' := [(2, .int (0 : Int32)), (0, .ref (qb 0)), (1, .ref (qf 0))]) hx hb dX0_left_1 rfl hl (by decide) rfl (fun ls hl => ?_)
  refine lv_iconst (v := 0) hx hb dX0_left_2 (by decide) ?_
  refine lv_istore_n (lv' := [(3, .int (0 : Int32)), (2, .int (0 : Int32)), (0, .ref (qb 0)), (1, .ref (qf 0))]) hx hb dX0_left_3 rfl hl (by decide) rfl (fun ls hl => ?_)
  exact wBa_left_L4 C0 qb b_moments b_gains b_topped b_endStiffs b_outs b_endsAt b_stiffAt b_stepsAt b_steps b_latest qf f_held f_couples f_endJoints f_lengths f_stiffs f_loadBeams f_loadSizes f_loadPlaces f_joints f_beams f_loads zr 1000 (0 : Int32) (0 : Int32) H locs ls hw (lv_sub hl [2, 3, 1, 0] rfl)  hf
def FBa_bare_L4 (b_endsAt : Nat → Int32) (f_joints : Int32) : Nat → Int32 → Int32 → Option (Int32)
  | 0, _, _ => none
  | n + 1, l2, l3 =>
      if f_joints ≤ l3 then
        some (l2)
      else
        gd_ l3 6 <|
        if (b_endsAt l3.toNatClampNeg) = 0 then
          lt_ (l2 + (1 : Int32)) fun v5 =>
          lt_ (l3 + (1 : Int32)) fun v6 =>
          FBa_bare_L4 b_endsAt f_joints n v5 v6
        else
          lt_ (l3 + (1 : Int32)) fun v4 =>
          FBa_bare_L4 b_endsAt f_joints n l2 v4
def FBa_bare (b_endsAt : Nat → Int32) (f_joints : Int32) : Option (Int32) :=
  FBa_bare_L4 b_endsAt f_joints 1000 (0 : Int32) (0 : Int32)
set_option maxHeartbeats 4000000 in
set_option maxRecDepth 100000 in
theorem wBa_bare_L4 {p : Program} {l : Launch} {e : Env} {s : State} {m : MethodId} {args : Array Value} {below : List Frame} {meth : Method} {c : Code} {A : Nat → Prop} {D : va_G} {κ : Nat → ClassId} (C0 : cx_ p s m meth c args cX0_bare RX0 (some .int) 4 A) (qb : Nat → Nat) (b_moments b_gains b_topped b_endStiffs b_outs b_endsAt b_stiffAt b_stepsAt : Nat → Int32) (b_steps b_latest : Int32) (qf : Nat → Nat) (f_held f_couples f_endJoints f_lengths f_stiffs f_loadBeams f_loadSizes f_loadPlaces : Nat → Int32) (f_joints f_beams f_loads : Int32) (zr : Int32) : ∀ (n : Nat) (l2 : Int32) (l3 : Int32) (H : Heap) (locs : List Loc) (ls : Array Slot), wd_ D (tys0 κ) A s (List.flatten [pBa κ qb b_moments b_gains b_topped b_endStiffs b_outs b_endsAt b_stiffAt b_stepsAt b_steps b_latest, pFr κ qf f_held f_couples f_endJoints f_lengths f_stiffs f_loadBeams f_loadSizes f_loadPlaces f_joints f_beams f_loads]) H locs → lv_has ls 4 [(0, .ref (qb 0)), (1, .ref (qf 0)), (2, .int l2), (3, .int l3)] → FBa_bare_L4 b_endsAt f_joints n l2 l3 = some zr → W p l e ({ frames := 0, cells := 0, slots := 0, locals := 0 } : Room) s m args below meth c H locs 0 0 (qI_ D (tys0 κ) A nT_ zr (List.flatten [pBa κ qb b_moments b_gains b_topped b_endStiffs b_outs b_endsAt b_stiffAt b_stepsAt b_steps b_latest, pFr κ qf f_held f_couples f_endJoints f_lengths f_stiffs f_loadBeams f_loadSizes f_loadPlaces f_joints f_beams f_loads]) below args s) (F0 m 4 ls []) := by
  obtain ⟨hx, hb, -, hml, hown, hts, -, -⟩ := id C0
  intro n
  induction n with
  | zero =>
    intro l2 l3 H locs ls hw hl  hf
    cases hf
  | succ n ih =>
    intro l2 l3 H locs ls hw hl  hf
    rw [FBa_bare_L4.eq_2] at hf
    refine lv_iload_n hx hb dX0_bare_4 rfl (lv_at hl 3 rfl) ?_
    refine lv_aload_n hx hb dX0_bare_5 rfl (lv_at hl 1 rfl) ?_
    refine r_get C0 hw 9 8 (v := .int f_joints) rfl rfl inX2 (by decide) lk_X0_69 rfl dX0_bare_6 ?_
    refine lv_icmp_ge (tgt := 30) hx hb dX0_bare_9 (by decide) (fun hc1 => ?_) (fun hc1 => ?_)
    · have hf := if_t hc1 hf
      refine lv_iload_n hx hb dX0_bare_30 rfl (lv_at hl 2 rfl) ?_
      obtain rfl := e1_ hf
      exact r_iret C0 hw trivial dX0_bare_31
    · have hf := if_f hc1 hf
      refine lv_aload_n hx hb dX0_bare_12 rfl (lv_at hl 0 rfl) ?_
      refine r_get C0 hw 0 5 (v := .ref (qb 6)) rfl rfl inX0 (by decide) lk_X0_28 rfl dX0_bare_13 ?_
      refine lv_iload_n hx hb dX0_bare_16 rfl (lv_at hl 3 rfl) ?_
      obtain ⟨hi2, hf⟩ := gd_s hf
      refine r_iald C0 hw 6 0 rfl rfl hi2 dX0_bare_17 ?_
      refine lv_if_ne (tgt := 24) hx hb dX0_bare_18 (by decide) (fun hc3 => ?_) (fun hc3 => ?_)
      · have hf := if_f hc3 hf
        obtain ⟨v4, ev4⟩ : ∃ z : Int32, z = (l3 + (1 : Int32)) := ⟨_, rfl⟩
        have hf := lt_s_ hf v4 ev4
        refine lv_iinc (v := v4) (lv' := [(3, .int v4), (0, .ref (qb 0)), (1, .ref (qf 0)), (2, .int l2)]) hx hb dX0_bare_24 hl (k := 3) rfl (by rw [ev4]; rfl) (by decide) rfl (fun ls hl => ?_)
        refine lv_goto (tgt := 4) hx hb dX0_bare_27 (by decide) ?_
        exact ih l2 v4 H locs ls hw (lv_sub hl [1, 2, 3, 0] rfl)  hf
      · have hf := if_t hc3 hf
        obtain ⟨v5, ev5⟩ : ∃ z : Int32, z = (l2 + (1 : Int32)) := ⟨_, rfl⟩
        have hf := lt_s_ hf v5 ev5
        refine lv_iinc (v := v5) (lv' := [(2, .int v5), (0, .ref (qb 0)), (1, .ref (qf 0)), (3, .int l3)]) hx hb dX0_bare_21 hl (k := 2) rfl (by rw [ev5]; rfl) (by decide) rfl (fun ls hl => ?_)
        obtain ⟨v6, ev6⟩ : ∃ z : Int32, z = (l3 + (1 : Int32)) := ⟨_, rfl⟩
        have hf := lt_s_ hf v6 ev6
        refine lv_iinc (v := v6) (lv' := [(3, .int v6), (2, .int v5), (0, .ref (qb 0)), (1, .ref (qf 0))]) hx hb dX0_bare_24 hl (k := 3) rfl (by rw [ev6]; rfl) (by decide) rfl (fun ls hl => ?_)
        refine lv_goto (tgt := 4) hx hb dX0_bare_27 (by decide) ?_
        exact ih v5 v6 H locs ls hw (lv_sub hl [2, 3, 1, 0] rfl)  hf
set_option maxHeartbeats 4000000 in
set_option maxRecDepth 100000 in
theorem cBa_bare (l : Launch) (D : va_G) (κ : Nat → ClassId) (qb : Nat → Nat) (b_moments b_gains b_topped b_endStiffs b_outs b_endsAt b_stiffAt b_stepsAt : Nat → Int32) (b_steps b_latest : Int32) (qf : Nat → Nat) (f_held f_couples f_endJoints f_lengths f_stiffs f_loadBeams f_loadSizes f_loadPlaces : Nat → Int32) (f_joints f_beams f_loads zr : Int32) (hf : FBa_bare b_endsAt f_joints = some zr) : mI_ l yX0_bare (Cond.code yX0_bare cX0_bare 4 (some .int) :: uw) ({ frames := 0, cells := 0, slots := 0, locals := 0 } : Room) D (tys0 κ) [.ref (qb 0), .ref (qf 0)] (List.flatten [pBa κ qb b_moments b_gains b_topped b_endStiffs b_outs b_endsAt b_stiffAt b_stepsAt b_steps b_latest, pFr κ qf f_held f_couples f_endJoints f_lengths f_stiffs f_loadBeams f_loadSizes f_loadPlaces f_joints f_beams f_loads]) nT_ zr (List.flatten [pBa κ qb b_moments b_gains b_topped b_endStiffs b_outs b_endsAt b_stiffAt b_stepsAt b_steps b_latest, pFr κ qf f_held f_couples f_endJoints f_lengths f_stiffs f_loadBeams f_loadSizes f_loadPlaces f_joints f_beams f_loads]) := by
  unfold FBa_bare at hf
  refine mI_of (by decide) (Nat.le_of_ble_eq_true rfl) ?_
  intro p e s m below meth c A ls H locs C0 hw hl
  obtain ⟨hx, hb, -, hml, hown, hts, -, -⟩ := id C0
  have hl : lv_has ls 4 [(0, .ref (qb 0)), (1, .ref (qf 0))] := hl
  refine lv_iconst (v := 0) hx hb dX0_bare_0 (by decide) ?_
  refine lv_istore_n (lv' := [(2, .int (0 : Int32)), (0, .ref (qb 0)), (1, .ref (qf 0))]) hx hb dX0_bare_1 rfl hl (by decide) rfl (fun ls hl => ?_)
  refine lv_iconst (v := 0) hx hb dX0_bare_2 (by decide) ?_
  refine lv_istore_n (lv' := [(3, .int (0 : Int32)), (2, .int (0 : Int32)), (0, .ref (qb 0)), (1, .ref (qf 0))]) hx hb dX0_bare_3 rfl hl (by decide) rfl (fun ls hl => ?_)
  exact wBa_bare_L4 C0 qb b_moments b_gains b_topped b_endStiffs b_outs b_endsAt b_stiffAt b_stepsAt b_steps b_latest qf f_held f_couples f_endJoints f_lengths f_stiffs f_loadBeams f_loadSizes f_loadPlaces f_joints f_beams f_loads zr 1000 (0 : Int32) (0 : Int32) H locs ls hw (lv_sub hl [2, 3, 1, 0] rfl)  hf
def FBa_worst_L8 (b_outs b_endsAt f_held : Nat → Int32) (f_joints : Int32) : Nat → Int32 → Int32 → Int32 → Option (Int32)
  | 0, _, _, _ => none
  | n + 1, l2, l3, l4 =>
      if f_joints ≤ l4 then
        some (l2)
      else
        b1_ (FBa_canTurn b_endsAt f_held l4) fun r2 =>
        if r2 = 0 then
          lt_ (l4 + (1 : Int32)) fun v6 =>
          FBa_worst_L8 b_outs b_endsAt f_held f_joints n l2 l3 v6
        else
          gd_ l4 6 <|
          if (if 0 ≤ (b_outs l4.toNatClampNeg) then (b_outs l4.toNatClampNeg) else 0 - (b_outs l4.toNatClampNeg)) ≤ l3 then
            lt_ (l4 + (1 : Int32)) fun v9 =>
            FBa_worst_L8 b_outs b_endsAt f_held f_joints n l2 l3 v9
          else
            gd_ l4 6 <|
            lt_ (if 0 ≤ (b_outs l4.toNatClampNeg) then (b_outs l4.toNatClampNeg) else 0 - (b_outs l4.toNatClampNeg)) fun v11 =>
            lt_ (l4 + (1 : Int32)) fun v12 =>
            FBa_worst_L8 b_outs b_endsAt f_held f_joints n l4 v11 v12
def FBa_worst (b_outs b_endsAt f_held : Nat → Int32) (f_joints : Int32) : Option (Int32) :=
  FBa_worst_L8 b_outs b_endsAt f_held f_joints 1000 (-4 : Int32) (0 : Int32) (0 : Int32)
set_option maxHeartbeats 4000000 in
set_option maxRecDepth 100000 in
theorem wBa_worst_L8 {p : Program} {l : Launch} {e : Env} {s : State} {m : MethodId} {args : Array Value} {below : List Frame} {meth : Method} {c : Code} {A : Nat → Prop} {D : va_G} {κ : Nat → ClassId} (C0 : cx_ p s m meth c args cX0_worst RX0 (some .int) 5 A) (qb : Nat → Nat) (b_moments b_gains b_topped b_endStiffs b_outs b_endsAt b_stiffAt b_stepsAt : Nat → Int32) (b_steps b_latest : Int32) (qf : Nat → Nat) (f_held f_couples f_endJoints f_lengths f_stiffs f_loadBeams f_loadSizes f_loadPlaces : Nat → Int32) (f_joints f_beams f_loads : Int32) (zr : Int32) : ∀ (n : Nat) (l2 : Int32) (l3 : Int32) (l4 : Int32) (H : Heap) (locs : List Loc) (ls : Array Slot), wd_ D (tys0 κ) A s (List.flatten [pBa κ qb b_moments b_gains b_topped b_endStiffs b_outs b_endsAt b_stiffAt b_stepsAt b_steps b_latest, pFr κ qf f_held f_couples f_endJoints f_lengths f_stiffs f_loadBeams f_loadSizes f_loadPlaces f_joints f_beams f_loads]) H locs → lv_has ls 5 [(0, .ref (qb 0)), (1, .ref (qf 0)), (2, .int l2), (3, .int l3), (4, .int l4)] → FBa_worst_L8 b_outs b_endsAt f_held f_joints n l2 l3 l4 = some zr → W p l e ({ frames := 1, cells := 0, slots := 0, locals := 22 } : Room) s m args below meth c H locs 0 0 (qI_ D (tys0 κ) A nT_ zr (List.flatten [pBa κ qb b_moments b_gains b_topped b_endStiffs b_outs b_endsAt b_stiffAt b_stepsAt b_steps b_latest, pFr κ qf f_held f_couples f_endJoints f_lengths f_stiffs f_loadBeams f_loadSizes f_loadPlaces f_joints f_beams f_loads]) below args s) (F0 m 8 ls []) := by
  obtain ⟨hx, hb, -, hml, hown, hts, -, -⟩ := id C0
  intro n
  induction n with
  | zero =>
    intro l2 l3 l4 H locs ls hw hl  hf
    cases hf
  | succ n ih =>
    intro l2 l3 l4 H locs ls hw hl  hf
    rw [FBa_worst_L8.eq_2] at hf
    refine lv_iload hx hb dX0_worst_8 (lv_at hl 4 rfl) ?_
    refine lv_aload_n hx hb dX0_worst_10 rfl (lv_at hl 1 rfl) ?_
    refine r_get C0 hw 9 8 (v := .int f_joints) rfl rfl inX2 (by decide) lk_X0_69 rfl dX0_worst_11 ?_
    refine lv_icmp_ge (tgt := 61) hx hb dX0_worst_14 (by decide) (fun hc1 => ?_) (fun hc1 => ?_)
    · have hf := if_t hc1 hf
      refine lv_iload_n hx hb dX0_worst_61 rfl (lv_at hl 2 rfl) ?_
      obtain rfl := e1_ hf
      exact r_iret C0 hw trivial dX0_worst_62
    · have hf := if_f hc1 hf
      refine lv_aload_n hx hb dX0_worst_17 rfl (lv_at hl 0 rfl) ?_
      refine lv_aload_n hx hb dX0_worst_18 rfl (lv_at hl 1 rfl) ?_
      refine lv_iload hx hb dX0_worst_19 (lv_at hl 4 rfl) ?_
      obtain ⟨r2, hk3, hf⟩ := b1_s hf
      refine rv_i (vq := (RX0, TX0, 10)) (As := [.ref (qf 0), .int l4]) (rest := []) (bs' := [pBa κ qb b_moments b_gains b_topped b_endStiffs b_outs b_endsAt b_stiffAt b_stepsAt b_steps b_latest, pFr κ qf f_held f_couples f_endJoints f_lengths f_stiffs f_loadBeams f_loadSizes f_loadPlaces f_joints f_beams f_loads]) C0 hw (cBa_canTurn l D κ qb b_moments b_gains b_topped b_endStiffs b_outs b_endsAt b_stiffAt b_stepsAt b_steps b_latest qf f_held f_couples f_endJoints f_lengths f_stiffs f_loadBeams f_loadSizes f_loadPlaces f_joints f_beams f_loads l4 r2 hk3) cv_RX0_65 ⟨rfl, rfl, Nat.le_of_ble_eq_true rfl, Nat.le_of_ble_eq_true rfl⟩ ⟨Nat.zero_le _, Nat.zero_le _⟩ [0, 1] [] [0, 1] rfl rfl rfl rfl (by decide) rfl rfl rfl rfl rfl hl.1 (by simp only [List.map, List.sum_cons, List.sum_nil, Value.category]; decide) dX0_worst_21 (fun H locs hw hn4 => ?_)
      refine lv_if_eq (tgt := 55) hx hb dX0_worst_24 (by decide) (fun hc5 => ?_) (fun hc5 => ?_)
      · have hf := if_t hc5 hf
        obtain ⟨v6, ev6⟩ : ∃ z : Int32, z = (l4 + (1 : Int32)) := ⟨_, rfl⟩
        have hf := lt_s_ hf v6 ev6
        refine lv_iinc (v := v6) (lv' := [(4, .int v6), (0, .ref (qb 0)), (1, .ref (qf 0)), (2, .int l2), (3, .int l3)]) hx hb dX0_worst_55 hl (k := 4) rfl (by rw [ev6]; rfl) (by decide) rfl (fun ls hl => ?_)
        refine lv_goto (tgt := 8) hx hb dX0_worst_58 (by decide) ?_
        exact ih l2 l3 v6 H locs ls hw (lv_sub hl [1, 2, 3, 4, 0] rfl)  hf
      · have hf := if_f hc5 hf
        refine lv_aload_n hx hb dX0_worst_27 rfl (lv_at hl 0 rfl) ?_
        refine r_get C0 hw 0 4 (v := .ref (qb 5)) rfl rfl inX0 (by decide) lk_X0_25 rfl dX0_worst_28 ?_
        refine lv_iload hx hb dX0_worst_31 (lv_at hl 4 rfl) ?_
        obtain ⟨hi7, hf⟩ := gd_s hf
        refine r_iald C0 hw 5 0 rfl rfl hi7 dX0_worst_33 ?_
        refine va_mabs hx hb (hml.trans hl.1.symm) hown (hts _ ab_X0_75) (hts _ ab_s) (hts _ ab_i) (hts _ ab_c) (by decide) (by simp only [List.map, List.sum_cons, List.sum_nil, Value.category]; decide) (by decide) (by decide) dX0_worst_34 ?_
        refine lv_iload_n hx hb dX0_worst_37 rfl (lv_at hl 3 rfl) ?_
        refine lv_icmp_le (tgt := 55) hx hb dX0_worst_38 (by decide) (fun hc8 => ?_) (fun hc8 => ?_)
        · have hf := if_t hc8 hf
          obtain ⟨v9, ev9⟩ : ∃ z : Int32, z = (l4 + (1 : Int32)) := ⟨_, rfl⟩
          have hf := lt_s_ hf v9 ev9
          refine lv_iinc (v := v9) (lv' := [(4, .int v9), (0, .ref (qb 0)), (1, .ref (qf 0)), (2, .int l2), (3, .int l3)]) hx hb dX0_worst_55 hl (k := 4) rfl (by rw [ev9]; rfl) (by decide) rfl (fun ls hl => ?_)
          refine lv_goto (tgt := 8) hx hb dX0_worst_58 (by decide) ?_
          exact ih l2 l3 v9 H locs ls hw (lv_sub hl [1, 2, 3, 4, 0] rfl)  hf
        · have hf := if_f hc8 hf
          refine lv_iload hx hb dX0_worst_41 (lv_at hl 4 rfl) ?_
          refine lv_istore_n (lv' := [(2, .int l4), (0, .ref (qb 0)), (1, .ref (qf 0)), (3, .int l3), (4, .int l4)]) hx hb dX0_worst_43 rfl hl (by decide) rfl (fun ls hl => ?_)
          refine lv_aload_n hx hb dX0_worst_44 rfl (lv_at hl 1 rfl) ?_
          refine r_get C0 hw 0 4 (v := .ref (qb 5)) rfl rfl inX0 (by decide) lk_X0_25 rfl dX0_worst_45 ?_
          refine lv_iload hx hb dX0_worst_48 (lv_at hl 4 rfl) ?_
          obtain ⟨hi10, hf⟩ := gd_s hf
          refine r_iald C0 hw 5 0 rfl rfl hi10 dX0_worst_50 ?_
          refine va_mabs hx hb (hml.trans hl.1.symm) hown (hts _ ab_X0_75) (hts _ ab_s) (hts _ ab_i) (hts _ ab_c) (by decide) (by simp only [List.map, List.sum_cons, List.sum_nil, Value.category]; decide) (by decide) (by decide) dX0_worst_51 ?_
          refine lv_topi (fun v11 ev11 => ?_)
          have hf := lt_s_ hf v11 ev11
          refine lv_istore_n (lv' := [(3, .int v11), (2, .int l4), (0, .ref (qb 0)), (1, .ref (qf 0)), (4, .int l4)]) hx hb dX0_worst_54 rfl hl (by decide) rfl (fun ls hl => ?_)
          obtain ⟨v12, ev12⟩ : ∃ z : Int32, z = (l4 + (1 : Int32)) := ⟨_, rfl⟩
          have hf := lt_s_ hf v12 ev12
          refine lv_iinc (v := v12) (lv' := [(4, .int v12), (3, .int v11), (2, .int l4), (0, .ref (qb 0)), (1, .ref (qf 0))]) hx hb dX0_worst_55 hl (k := 4) rfl (by rw [ev12]; rfl) (by decide) rfl (fun ls hl => ?_)
          refine lv_goto (tgt := 8) hx hb dX0_worst_58 (by decide) ?_
          exact ih l4 v11 v12 H locs ls hw (lv_sub hl [3, 4, 2, 1, 0] rfl)  hf
set_option maxHeartbeats 4000000 in
set_option maxRecDepth 100000 in
theorem cBa_worst (l : Launch) (D : va_G) (κ : Nat → ClassId) (qb : Nat → Nat) (b_moments b_gains b_topped b_endStiffs b_outs b_endsAt b_stiffAt b_stepsAt : Nat → Int32) (b_steps b_latest : Int32) (qf : Nat → Nat) (f_held f_couples f_endJoints f_lengths f_stiffs f_loadBeams f_loadSizes f_loadPlaces : Nat → Int32) (f_joints f_beams f_loads zr : Int32) (hf : FBa_worst b_outs b_endsAt f_held f_joints = some zr) : mI_ l yX0_worst (Cond.code yX0_worst cX0_worst 5 (some .int) :: uw) ({ frames := 1, cells := 0, slots := 0, locals := 22 } : Room) D (tys0 κ) [.ref (qb 0), .ref (qf 0)] (List.flatten [pBa κ qb b_moments b_gains b_topped b_endStiffs b_outs b_endsAt b_stiffAt b_stepsAt b_steps b_latest, pFr κ qf f_held f_couples f_endJoints f_lengths f_stiffs f_loadBeams f_loadSizes f_loadPlaces f_joints f_beams f_loads]) nT_ zr (List.flatten [pBa κ qb b_moments b_gains b_topped b_endStiffs b_outs b_endsAt b_stiffAt b_stepsAt b_steps b_latest, pFr κ qf f_held f_couples f_endJoints f_lengths f_stiffs f_loadBeams f_loadSizes f_loadPlaces f_joints f_beams f_loads]) := by
  unfold FBa_worst at hf
  refine mI_of (by decide) (Nat.le_of_ble_eq_true rfl) ?_
  intro p e s m below meth c A ls H locs C0 hw hl
  obtain ⟨hx, hb, -, hml, hown, hts, -, -⟩ := id C0
  have hl : lv_has ls 5 [(0, .ref (qb 0)), (1, .ref (qf 0))] := hl
  refine lv_bipush (v := -4) hx hb dX0_worst_0 (by decide) ?_
  refine lv_istore_n (lv' := [(2, .int (-4 : Int32)), (0, .ref (qb 0)), (1, .ref (qf 0))]) hx hb dX0_worst_2 rfl hl (by decide) rfl (fun ls hl => ?_)
  refine lv_iconst (v := 0) hx hb dX0_worst_3 (by decide) ?_
  refine lv_istore_n (lv' := [(3, .int (0 : Int32)), (2, .int (-4 : Int32)), (0, .ref (qb 0)), (1, .ref (qf 0))]) hx hb dX0_worst_4 rfl hl (by decide) rfl (fun ls hl => ?_)
  refine lv_iconst (v := 0) hx hb dX0_worst_5 (by decide) ?_
  refine lv_istore (lv' := [(4, .int (0 : Int32)), (3, .int (0 : Int32)), (2, .int (-4 : Int32)), (0, .ref (qb 0)), (1, .ref (qf 0))]) hx hb dX0_worst_6 hl (by decide) rfl (fun ls hl => ?_)
  exact wBa_worst_L8 C0 qb b_moments b_gains b_topped b_endStiffs b_outs b_endsAt b_stiffAt b_stepsAt b_steps b_latest qf f_held f_couples f_endJoints f_lengths f_stiffs f_loadBeams f_loadSizes f_loadPlaces f_joints f_beams f_loads zr 1000 (-4 : Int32) (0 : Int32) (0 : Int32) H locs ls hw (lv_sub hl [3, 4, 2, 1, 0] rfl)  hf
def FBa_byTurns_L20 (b_outs b_endsAt f_held : Nat → Int32) (f_joints l2 : Int32) : Nat → Int32 → Option (Int32)
  | 0, _ => none
  | n + 1, l3 =>
      if f_joints ≤ l3 then
        some ((-4 : Int32))
      else
        dz_ f_joints <|
        lt_ ((l2 + l3) - (l2 + l3) / f_joints * f_joints) fun v4 =>
        b1_ (FBa_isLoose b_outs b_endsAt f_held v4) fun r5 =>
        if r5 = 0 then
          lt_ (l3 + (1 : Int32)) fun v9 =>
          FBa_byTurns_L20 b_outs b_endsAt f_held f_joints l2 n v9
        else
          some (v4)
def FBa_byTurns (b_outs b_endsAt : Nat → Int32) (b_latest : Int32) (f_held : Nat → Int32) (f_joints : Int32) : Option (Int32) :=
  lt_ (fun (v1 : Int32) =>
    FBa_byTurns_L20 b_outs b_endsAt f_held f_joints v1 1000 (0 : Int32) : Int32 → Option (Int32)) fun j10 =>
  if 0 ≤ b_latest then
    j10 (b_latest + (1 : Int32))
  else
    j10 (0 : Int32)
set_option maxHeartbeats 4000000 in
set_option maxRecDepth 100000 in
theorem wBa_byTurns_L20 {p : Program} {l : Launch} {e : Env} {s : State} {m : MethodId} {args : Array Value} {below : List Frame} {meth : Method} {c : Code} {A : Nat → Prop} {D : va_G} {κ : Nat → ClassId} (C0 : cx_ p s m meth c args cX0_byTurns RX0 (some .int) 5 A) (qb : Nat → Nat) (b_moments b_gains b_topped b_endStiffs b_outs b_endsAt b_stiffAt b_stepsAt : Nat → Int32) (b_steps b_latest : Int32) (qf : Nat → Nat) (f_held f_couples f_endJoints f_lengths f_stiffs f_loadBeams f_loadSizes f_loadPlaces : Nat → Int32) (f_joints f_beams f_loads l2 : Int32) (zr : Int32) : ∀ (n : Nat) (l3 : Int32) (H : Heap) (locs : List Loc) (ls : Array Slot), wd_ D (tys0 κ) A s (List.flatten [pBa κ qb b_moments b_gains b_topped b_endStiffs b_outs b_endsAt b_stiffAt b_stepsAt b_steps b_latest, pFr κ qf f_held f_couples f_endJoints f_lengths f_stiffs f_loadBeams f_loadSizes f_loadPlaces f_joints f_beams f_loads]) H locs → lv_has ls 5 [(0, .ref (qb 0)), (1, .ref (qf 0)), (2, .int l2), (3, .int l3)] → FBa_byTurns_L20 b_outs b_endsAt f_held f_joints l2 n l3 = some zr → W p l e ({ frames := 2, cells := 0, slots := 0, locals := 44 } : Room) s m args below meth c H locs 0 0 (qI_ D (tys0 κ) A nT_ zr (List.flatten [pBa κ qb b_moments b_gains b_topped b_endStiffs b_outs b_endsAt b_stiffAt b_stepsAt b_steps b_latest, pFr κ qf f_held f_couples f_endJoints f_lengths f_stiffs f_loadBeams f_loadSizes f_loadPlaces f_joints f_beams f_loads]) below args s) (F0 m 20 ls []) := by
  obtain ⟨hx, hb, -, hml, hown, hts, -, -⟩ := id C0
  intro n
  induction n with
  | zero =>
    intro l3 H locs ls hw hl  hf
    cases hf
  | succ n ih =>
    intro l3 H locs ls hw hl  hf
    rw [FBa_byTurns_L20.eq_2] at hf
    refine lv_iload_n hx hb dX0_byTurns_20 rfl (lv_at hl 3 rfl) ?_
    refine lv_aload_n hx hb dX0_byTurns_21 rfl (lv_at hl 1 rfl) ?_
    refine r_get C0 hw 9 8 (v := .int f_joints) rfl rfl inX2 (by decide) lk_X0_69 rfl dX0_byTurns_22 ?_
    refine lv_icmp_ge (tgt := 57) hx hb dX0_byTurns_25 (by decide) (fun hc2 => ?_) (fun hc2 => ?_)
    · have hf := if_t hc2 hf
      refine lv_bipush (v := -4) hx hb dX0_byTurns_57 (by decide) ?_
      obtain rfl := e1_ hf
      exact r_iret C0 hw trivial dX0_byTurns_59
    · have hf := if_f hc2 hf
      refine lv_iload_n hx hb dX0_byTurns_28 rfl (lv_at hl 2 rfl) ?_
      refine lv_iload_n hx hb dX0_byTurns_29 rfl (lv_at hl 3 rfl) ?_
      refine lv_iadd hx hb dX0_byTurns_30 ?_
      refine lv_aload_n hx hb dX0_byTurns_31 rfl (lv_at hl 1 rfl) ?_
      refine r_get C0 hw 9 8 (v := .int f_joints) rfl rfl inX2 (by decide) lk_X0_69 rfl dX0_byTurns_32 ?_
      obtain ⟨hz3, hf⟩ := dz_s hf
      refine lv_irem hx hb dX0_byTurns_35 hz3 ?_
      refine lv_topi (fun v4 ev4 => ?_)
      have hf := lt_s_ hf v4 ev4
      refine lv_istore (lv' := [(4, .int v4), (0, .ref (qb 0)), (1, .ref (qf 0)), (2, .int l2), (3, .int l3)]) hx hb dX0_byTurns_36 hl (by decide) rfl (fun ls hl => ?_)
      refine lv_aload_n hx hb dX0_byTurns_38 rfl (lv_at hl 1 rfl) ?_
      refine lv_aload_n hx hb dX0_byTurns_39 rfl (lv_at hl 2 rfl) ?_
      refine lv_iload hx hb dX0_byTurns_40 (lv_at hl 0 rfl) ?_
      obtain ⟨r5, hk6, hf⟩ := b1_s hf
      refine rv_i (vq := (RX0, TX0, 10)) (As := [.ref (qf 0), .int v4]) (rest := []) (bs' := [pBa κ qb b_moments b_gains b_topped b_endStiffs b_outs b_endsAt b_stiffAt b_stepsAt b_steps b_latest, pFr κ qf f_held f_couples f_endJoints f_lengths f_stiffs f_loadBeams f_loadSizes f_loadPlaces f_joints f_beams f_loads]) C0 hw (cBa_isLoose l D κ qb b_moments b_gains b_topped b_endStiffs b_outs b_endsAt b_stiffAt b_stepsAt b_steps b_latest qf f_held f_couples f_endJoints f_lengths f_stiffs f_loadBeams f_loadSizes f_loadPlaces f_joints f_beams f_loads v4 r5 hk6) cv_RX0_72 ⟨rfl, rfl, Nat.le_of_ble_eq_true rfl, Nat.le_of_ble_eq_true rfl⟩ ⟨Nat.zero_le _, Nat.zero_le _⟩ [0, 1] [] [0, 1] rfl rfl rfl rfl (by decide) rfl rfl rfl rfl rfl hl.1 (by simp only [List.map, List.sum_cons, List.sum_nil, Value.category]; decide) dX0_byTurns_42 (fun H locs hw hn7 => ?_)
      refine lv_if_eq (tgt := 51) hx hb dX0_byTurns_45 (by decide) (fun hc8 => ?_) (fun hc8 => ?_)
      · have hf := if_t hc8 hf
        obtain ⟨v9, ev9⟩ : ∃ z : Int32, z = (l3 + (1 : Int32)) := ⟨_, rfl⟩
        have hf := lt_s_ hf v9 ev9
        refine lv_iinc (v := v9) (lv' := [(3, .int v9), (4, .int v4), (0, .ref (qb 0)), (1, .ref (qf 0)), (2, .int l2)]) hx hb dX0_byTurns_51 hl (k := 4) rfl (by rw [ev9]; rfl) (by decide) rfl (fun ls hl => ?_)
        refine lv_goto (tgt := 20) hx hb dX0_byTurns_54 (by decide) ?_
        exact ih v9 H locs ls hw (lv_sub hl [2, 3, 4, 0] rfl)  hf
      · have hf := if_f hc8 hf
        refine lv_iload hx hb dX0_byTurns_48 (lv_at hl 0 rfl) ?_
        obtain rfl := e1_ hf
        exact r_iret C0 hw trivial dX0_byTurns_50
set_option maxHeartbeats 4000000 in
set_option maxRecDepth 100000 in
theorem cBa_byTurns (l : Launch) (D : va_G) (κ : Nat → ClassId) (qb : Nat → Nat) (b_moments b_gains b_topped b_endStiffs b_outs b_endsAt b_stiffAt b_stepsAt : Nat → Int32) (b_steps b_latest : Int32) (qf : Nat → Nat) (f_held f_couples f_endJoints f_lengths f_stiffs f_loadBeams f_loadSizes f_loadPlaces : Nat → Int32) (f_joints f_beams f_loads zr : Int32) (hf : FBa_byTurns b_outs b_endsAt b_latest f_held f_joints = some zr) : mI_ l yX0_byTurns (Cond.code yX0_byTurns cX0_byTurns 5 (some .int) :: uw) ({ frames := 2, cells := 0, slots := 0, locals := 44 } : Room) D (tys0 κ) [.ref (qb 0), .ref (qf 0)] (List.flatten [pBa κ qb b_moments b_gains b_topped b_endStiffs b_outs b_endsAt b_stiffAt b_stepsAt b_steps b_latest, pFr κ qf f_held f_couples f_endJoints f_lengths f_stiffs f_loadBeams f_loadSizes f_loadPlaces f_joints f_beams f_loads]) nT_ zr (List.flatten [pBa κ qb b_moments b_gains b_topped b_endStiffs b_outs b_endsAt b_stiffAt b_stepsAt b_steps b_latest, pFr κ qf f_held f_couples f_endJoints f_lengths f_stiffs f_loadBeams f_loadSizes f_loadPlaces f_joints f_beams f_loads]) := by
  unfold FBa_byTurns at hf
  refine mI_of (by decide) (Nat.le_of_ble_eq_true rfl) ?_
  intro p e s m below meth c A ls H locs C0 hw hl
  obtain ⟨hx, hb, -, hml, hown, hts, -, -⟩ := id C0
  have hl : lv_has ls 5 [(0, .ref (qb 0)), (1, .ref (qf 0))] := hl
  refine lv_aload_n hx hb dX0_byTurns_0 rfl (lv_at hl 0 rfl) ?_
  refine r_get C0 hw 0 9 (v := .int b_latest) rfl rfl inX0 (by decide) lk_X0_37 rfl dX0_byTurns_1 ?_
  obtain ⟨j10, ej10, hf⟩ := lt_e hf
  have hj11 : ∀ (v1 : Int32) (H : Heap) (locs : List Loc) (ls : Array Slot), wd_ D (tys0 κ) A s (List.flatten [pBa κ qb b_moments b_gains b_topped b_endStiffs b_outs b_endsAt b_stiffAt b_stepsAt b_steps b_latest, pFr κ qf f_held f_couples f_endJoints f_lengths f_stiffs f_loadBeams f_loadSizes f_loadPlaces f_joints f_beams f_loads]) H locs → lv_has ls 5 [(0, .ref (qb 0)), (1, .ref (qf 0))] → j10 v1 = some zr → W p l e ({ frames := 2, cells := 0, slots := 0, locals := 44 } : Room) s m ([.ref (qb 0), .ref (qf 0)] : List Value).toArray below meth c H locs 0 0 (qI_ D (tys0 κ) A nT_ zr (List.flatten [pBa κ qb b_moments b_gains b_topped b_endStiffs b_outs b_endsAt b_stiffAt b_stepsAt b_steps b_latest, pFr κ qf f_held f_couples f_endJoints f_lengths f_stiffs f_loadBeams f_loadSizes f_loadPlaces f_joints f_beams f_loads]) below ([.ref (qb 0), .ref (qf 0)] : List Value).toArray s) (F0 m 17 ls [.int v1]) := by
    intro v1 H locs ls hw hl  hf
    have hf : (FBa_byTurns_L20 b_outs b_endsAt f_held f_joints v1 1000 (0 : Int32)) = some zr := by rw [ej10] at hf; exact hf
    refine lv_istore_n (lv' := [(2, .int v1), (0, .ref (qb 0)), (1, .ref (qf 0))]) hx hb dX0_byTurns_17 rfl hl (by decide) rfl (fun ls hl => ?_)
    refine lv_iconst (v := 0) hx hb dX0_byTurns_18 (by decide) ?_
    refine lv_istore_n (lv' := [(3, .int (0 : Int32)), (2, .int v1), (0, .ref (qb 0)), (1, .ref (qf 0))]) hx hb dX0_byTurns_19 rfl hl (by decide) rfl (fun ls hl => ?_)
    exact wBa_byTurns_L20 C0 qb b_moments b_gains b_topped b_endStiffs b_outs b_endsAt b_stiffAt b_stepsAt b_steps b_latest qf f_held f_couples f_endJoints f_lengths f_stiffs f_loadBeams f_loadSizes f_loadPlaces f_joints f_beams f_loads v1 zr 1000 (0 : Int32) H locs ls hw (lv_sub hl [2, 3, 1, 0] rfl)  hf
  refine lv_if_ge (tgt := 11) hx hb dX0_byTurns_4 (by decide) (fun hc12 => ?_) (fun hc12 => ?_)
  · have hf := if_t hc12 hf
    refine lv_aload_n hx hb dX0_byTurns_11 rfl (lv_at hl 0 rfl) ?_
    refine r_get C0 hw 0 9 (v := .int b_latest) rfl rfl inX0 (by decide) lk_X0_37 rfl dX0_byTurns_12 ?_
    refine lv_iconst (v := 1) hx hb dX0_byTurns_15 (by decide) ?_
    refine lv_iadd hx hb dX0_byTurns_16 ?_
    exact hj11 (b_latest + (1 : Int32)) H locs ls hw (lv_sub hl [0, 1] rfl)  hf
  · have hf := if_f hc12 hf
    refine lv_iconst (v := 0) hx hb dX0_byTurns_7 (by decide) ?_
    refine lv_goto (tgt := 17) hx hb dX0_byTurns_8 (by decide) ?_
    exact hj11 (0 : Int32) H locs ls hw (lv_sub hl [0, 1] rfl)  hf
def FBa_chosen (b_outs b_endsAt : Nat → Int32) (b_latest : Int32) (f_held : Nat → Int32) (f_joints a2 : Int32) : Option (Int32) :=
  if a2 = 0 then
    b1_ (FBa_worst b_outs b_endsAt f_held f_joints) fun r5 =>
    some (r5)
  else
    b1_ (FBa_byTurns b_outs b_endsAt b_latest f_held f_joints) fun r2 =>
    some (r2)
set_option maxHeartbeats 4000000 in
set_option maxRecDepth 100000 in
theorem cBa_chosen (l : Launch) (D : va_G) (κ : Nat → ClassId) (qb : Nat → Nat) (b_moments b_gains b_topped b_endStiffs b_outs b_endsAt b_stiffAt b_stepsAt : Nat → Int32) (b_steps b_latest : Int32) (qf : Nat → Nat) (f_held f_couples f_endJoints f_lengths f_stiffs f_loadBeams f_loadSizes f_loadPlaces : Nat → Int32) (f_joints f_beams f_loads a2 zr : Int32) (hf : FBa_chosen b_outs b_endsAt b_latest f_held f_joints a2 = some zr) : mI_ l yX0_chosen (Cond.code yX0_chosen cX0_chosen 3 (some .int) :: uw) ({ frames := 3, cells := 0, slots := 0, locals := 68 } : Room) D (tys0 κ) [.ref (qb 0), .ref (qf 0), .int a2] (List.flatten [pBa κ qb b_moments b_gains b_topped b_endStiffs b_outs b_endsAt b_stiffAt b_stepsAt b_steps b_latest, pFr κ qf f_held f_couples f_endJoints f_lengths f_stiffs f_loadBeams f_loadSizes f_loadPlaces f_joints f_beams f_loads]) nT_ zr (List.flatten [pBa κ qb b_moments b_gains b_topped b_endStiffs b_outs b_endsAt b_stiffAt b_stepsAt b_steps b_latest, pFr κ qf f_held f_couples f_endJoints f_lengths f_stiffs f_loadBeams f_loadSizes f_loadPlaces f_joints f_beams f_loads]) := by
  unfold FBa_chosen at hf
  refine mI_of (by decide) (Nat.le_of_ble_eq_true rfl) ?_
  intro p e s m below meth c A ls H locs C0 hw hl
  obtain ⟨hx, hb, -, hml, hown, hts, -, -⟩ := id C0
  have hl : lv_has ls 3 [(0, .ref (qb 0)), (1, .ref (qf 0)), (2, .int a2)] := hl
  refine lv_iload_n hx hb dX0_chosen_0 rfl (lv_at hl 2 rfl) ?_
  refine lv_if_ne (tgt := 12) hx hb dX0_chosen_1 (by decide) (fun hc1 => ?_) (fun hc1 => ?_)
  · have hf := if_f hc1 hf
    refine lv_aload_n hx hb dX0_chosen_12 rfl (lv_at hl 0 rfl) ?_
    refine lv_aload_n hx hb dX0_chosen_13 rfl (lv_at hl 1 rfl) ?_
    obtain ⟨r2, hk3, hf⟩ := b1_s hf
    refine rv_i (vq := (RX0, TX0, 10)) (As := [.ref (qf 0)]) (rest := []) (bs' := [pBa κ qb b_moments b_gains b_topped b_endStiffs b_outs b_endsAt b_stiffAt b_stepsAt b_steps b_latest, pFr κ qf f_held f_couples f_endJoints f_lengths f_stiffs f_loadBeams f_loadSizes f_loadPlaces f_joints f_beams f_loads]) C0 hw (cBa_byTurns l D κ qb b_moments b_gains b_topped b_endStiffs b_outs b_endsAt b_stiffAt b_stepsAt b_steps b_latest qf f_held f_couples f_endJoints f_lengths f_stiffs f_loadBeams f_loadSizes f_loadPlaces f_joints f_beams f_loads r2 hk3) cv_RX0_84 ⟨rfl, rfl, Nat.le_of_ble_eq_true rfl, Nat.le_of_ble_eq_true rfl⟩ ⟨Nat.zero_le _, Nat.zero_le _⟩ [0, 1] [] [0, 1] rfl rfl rfl rfl (by decide) rfl rfl rfl rfl rfl hl.1 (by simp only [List.map, List.sum_cons, List.sum_nil, Value.category]; decide) dX0_chosen_14 (fun H locs hw hn4 => ?_)
    obtain rfl := e1_ hf
    exact r_iret C0 hw trivial dX0_chosen_17
  · have hf := if_t hc1 hf
    refine lv_aload_n hx hb dX0_chosen_4 rfl (lv_at hl 0 rfl) ?_
    refine lv_aload_n hx hb dX0_chosen_5 rfl (lv_at hl 1 rfl) ?_
    obtain ⟨r5, hk6, hf⟩ := b1_s hf
    refine rv_i (vq := (RX0, TX0, 10)) (As := [.ref (qf 0)]) (rest := []) (bs' := [pBa κ qb b_moments b_gains b_topped b_endStiffs b_outs b_endsAt b_stiffAt b_stepsAt b_steps b_latest, pFr κ qf f_held f_couples f_endJoints f_lengths f_stiffs f_loadBeams f_loadSizes f_loadPlaces f_joints f_beams f_loads]) C0 hw (cBa_worst l D κ qb b_moments b_gains b_topped b_endStiffs b_outs b_endsAt b_stiffAt b_stepsAt b_steps b_latest qf f_held f_couples f_endJoints f_lengths f_stiffs f_loadBeams f_loadSizes f_loadPlaces f_joints f_beams f_loads r5 hk6) cv_RX0_80 ⟨rfl, rfl, Nat.le_of_ble_eq_true rfl, Nat.le_of_ble_eq_true rfl⟩ ⟨Nat.zero_le _, Nat.zero_le _⟩ [0, 1] [] [0, 1] rfl rfl rfl rfl (by decide) rfl rfl rfl rfl rfl hl.1 (by simp only [List.map, List.sum_cons, List.sum_nil, Value.category]; decide) dX0_chosen_6 (fun H locs hw hn7 => ?_)
    refine lv_goto (tgt := 17) hx hb dX0_chosen_9 (by decide) ?_
    obtain rfl := e1_ hf
    exact r_iret C0 hw trivial dX0_chosen_17
def FBa_looseAhead_L16 (b_outs b_endsAt f_held : Nat → Int32) (f_joints l2 l3 : Int32) : Nat → Int32 → Int32 → Option (Int32)
  | 0, _, _ => none
  | n + 1, l4, l5 =>
      if f_joints ≤ l5 then
        some (l4)
      else
        gd_ l5 6 <|
        lt_ (if 0 ≤ (b_outs l5.toNatClampNeg) then (b_outs l5.toNatClampNeg) else 0 - (b_outs l5.toNatClampNeg)) fun v5 =>
        b1_ (FBa_isLoose b_outs b_endsAt f_held l5) fun r6 =>
        if r6 = 0 then
          lt_ (l5 + (1 : Int32)) fun v10 =>
          FBa_looseAhead_L16 b_outs b_endsAt f_held f_joints l2 l3 n l4 v10
        else
          if l3 < v5 then
            lt_ (l4 + (1 : Int32)) fun v12 =>
            lt_ (l5 + (1 : Int32)) fun v13 =>
            FBa_looseAhead_L16 b_outs b_endsAt f_held f_joints l2 l3 n v12 v13
          else
            if v5 = l3 then
              if l2 ≤ l5 then
                lt_ (l5 + (1 : Int32)) fun v17 =>
                FBa_looseAhead_L16 b_outs b_endsAt f_held f_joints l2 l3 n l4 v17
              else
                lt_ (l4 + (1 : Int32)) fun v18 =>
                lt_ (l5 + (1 : Int32)) fun v19 =>
                FBa_looseAhead_L16 b_outs b_endsAt f_held f_joints l2 l3 n v18 v19
            else
              lt_ (l5 + (1 : Int32)) fun v15 =>
              FBa_looseAhead_L16 b_outs b_endsAt f_held f_joints l2 l3 n l4 v15
def FBa_looseAhead (b_outs b_endsAt f_held : Nat → Int32) (f_joints a2 : Int32) : Option (Int32) :=
  gd_ a2 6 <|
  lt_ (if 0 ≤ (b_outs a2.toNatClampNeg) then (b_outs a2.toNatClampNeg) else 0 - (b_outs a2.toNatClampNeg)) fun v2 =>
  FBa_looseAhead_L16 b_outs b_endsAt f_held f_joints a2 v2 1000 (0 : Int32) (0 : Int32)
set_option maxHeartbeats 4000000 in
set_option maxRecDepth 100000 in
theorem wBa_looseAhead_L16 {p : Program} {l : Launch} {e : Env} {s : State} {m : MethodId} {args : Array Value} {below : List Frame} {meth : Method} {c : Code} {A : Nat → Prop} {D : va_G} {κ : Nat → ClassId} (C0 : cx_ p s m meth c args cX0_looseAhead RX0 (some .int) 7 A) (qb : Nat → Nat) (b_moments b_gains b_topped b_endStiffs b_outs b_endsAt b_stiffAt b_stepsAt : Nat → Int32) (b_steps b_latest : Int32) (qf : Nat → Nat) (f_held f_couples f_endJoints f_lengths f_stiffs f_loadBeams f_loadSizes f_loadPlaces : Nat → Int32) (f_joints f_beams f_loads l2 l3 : Int32) (zr : Int32) : ∀ (n : Nat) (l4 : Int32) (l5 : Int32) (H : Heap) (locs : List Loc) (ls : Array Slot), wd_ D (tys0 κ) A s (List.flatten [pBa κ qb b_moments b_gains b_topped b_endStiffs b_outs b_endsAt b_stiffAt b_stepsAt b_steps b_latest, pFr κ qf f_held f_couples f_endJoints f_lengths f_stiffs f_loadBeams f_loadSizes f_loadPlaces f_joints f_beams f_loads]) H locs → lv_has ls 7 [(0, .ref (qb 0)), (1, .ref (qf 0)), (2, .int l2), (3, .int l3), (4, .int l4), (5, .int l5)] → FBa_looseAhead_L16 b_outs b_endsAt f_held f_joints l2 l3 n l4 l5 = some zr → W p l e ({ frames := 2, cells := 0, slots := 0, locals := 44 } : Room) s m args below meth c H locs 0 0 (qI_ D (tys0 κ) A nT_ zr (List.flatten [pBa κ qb b_moments b_gains b_topped b_endStiffs b_outs b_endsAt b_stiffAt b_stepsAt b_steps b_latest, pFr κ qf f_held f_couples f_endJoints f_lengths f_stiffs f_loadBeams f_loadSizes f_loadPlaces f_joints f_beams f_loads]) below args s) (F0 m 16 ls []) := by
  obtain ⟨hx, hb, -, hml, hown, hts, -, -⟩ := id C0
  intro n
  induction n with
  | zero =>
    intro l4 l5 H locs ls hw hl  hf
    cases hf
  | succ n ih =>
    intro l4 l5 H locs ls hw hl  hf
    rw [FBa_looseAhead_L16.eq_2] at hf
    refine lv_iload hx hb dX0_looseAhead_16 (lv_at hl 5 rfl) ?_
    refine lv_aload_n hx hb dX0_looseAhead_18 rfl (lv_at hl 1 rfl) ?_
    refine r_get C0 hw 9 8 (v := .int f_joints) rfl rfl inX2 (by decide) lk_X0_69 rfl dX0_looseAhead_19 ?_
    refine lv_icmp_ge (tgt := 74) hx hb dX0_looseAhead_22 (by decide) (fun hc3 => ?_) (fun hc3 => ?_)
    · have hf := if_t hc3 hf
      refine lv_iload hx hb dX0_looseAhead_74 (lv_at hl 4 rfl) ?_
      obtain rfl := e1_ hf
      exact r_iret C0 hw trivial dX0_looseAhead_76
    · have hf := if_f hc3 hf
      refine lv_aload_n hx hb dX0_looseAhead_25 rfl (lv_at hl 0 rfl) ?_
      refine r_get C0 hw 0 4 (v := .ref (qb 5)) rfl rfl inX0 (by decide) lk_X0_25 rfl dX0_looseAhead_26 ?_
      refine lv_iload hx hb dX0_looseAhead_29 (lv_at hl 5 rfl) ?_
      obtain ⟨hi4, hf⟩ := gd_s hf
      refine r_iald C0 hw 5 0 rfl rfl hi4 dX0_looseAhead_31 ?_
      refine va_mabs hx hb (hml.trans hl.1.symm) hown (hts _ ab_X0_75) (hts _ ab_s) (hts _ ab_i) (hts _ ab_c) (by decide) (by simp only [List.map, List.sum_cons, List.sum_nil, Value.category]; decide) (by decide) (by decide) dX0_looseAhead_32 ?_
      refine lv_topi (fun v5 ev5 => ?_)
      have hf := lt_s_ hf v5 ev5
      refine lv_istore (lv' := [(6, .int v5), (0, .ref (qb 0)), (1, .ref (qf 0)), (2, .int l2), (3, .int l3), (4, .int l4), (5, .int l5)]) hx hb dX0_looseAhead_35 hl (by decide) rfl (fun ls hl => ?_)
      refine lv_aload_n hx hb dX0_looseAhead_37 rfl (lv_at hl 1 rfl) ?_
      refine lv_aload_n hx hb dX0_looseAhead_38 rfl (lv_at hl 2 rfl) ?_
      refine lv_iload hx hb dX0_looseAhead_39 (lv_at hl 6 rfl) ?_
      obtain ⟨r6, hk7, hf⟩ := b1_s hf
      refine rv_i (vq := (RX0, TX0, 10)) (As := [.ref (qf 0), .int l5]) (rest := []) (bs' := [pBa κ qb b_moments b_gains b_topped b_endStiffs b_outs b_endsAt b_stiffAt b_stepsAt b_steps b_latest, pFr κ qf f_held f_couples f_endJoints f_lengths f_stiffs f_loadBeams f_loadSizes f_loadPlaces f_joints f_beams f_loads]) C0 hw (cBa_isLoose l D κ qb b_moments b_gains b_topped b_endStiffs b_outs b_endsAt b_stiffAt b_stepsAt b_steps b_latest qf f_held f_couples f_endJoints f_lengths f_stiffs f_loadBeams f_loadSizes f_loadPlaces f_joints f_beams f_loads l5 r6 hk7) cv_RX0_72 ⟨rfl, rfl, Nat.le_of_ble_eq_true rfl, Nat.le_of_ble_eq_true rfl⟩ ⟨Nat.zero_le _, Nat.zero_le _⟩ [0, 1] [] [0, 1] rfl rfl rfl rfl (by decide) rfl rfl rfl rfl rfl hl.1 (by simp only [List.map, List.sum_cons, List.sum_nil, Value.category]; decide) dX0_looseAhead_41 (fun H locs hw hn8 => ?_)
      refine lv_if_eq (tgt := 68) hx hb dX0_looseAhead_44 (by decide) (fun hc9 => ?_) (fun hc9 => ?_)
      · have hf := if_t hc9 hf
        obtain ⟨v10, ev10⟩ : ∃ z : Int32, z = (l5 + (1 : Int32)) := ⟨_, rfl⟩
        have hf := lt_s_ hf v10 ev10
        refine lv_iinc (v := v10) (lv' := [(5, .int v10), (6, .int v5), (0, .ref (qb 0)), (1, .ref (qf 0)), (2, .int l2), (3, .int l3), (4, .int l4)]) hx hb dX0_looseAhead_68 hl (k := 6) rfl (by rw [ev10]; rfl) (by decide) rfl (fun ls hl => ?_)
        refine lv_goto (tgt := 16) hx hb dX0_looseAhead_71 (by decide) ?_
        exact ih l4 v10 H locs ls hw (lv_sub hl [2, 3, 4, 5, 6, 0] rfl)  hf
      · have hf := if_f hc9 hf
        refine lv_iload hx hb dX0_looseAhead_47 (lv_at hl 0 rfl) ?_
        refine lv_iload_n hx hb dX0_looseAhead_49 rfl (lv_at hl 4 rfl) ?_
        refine lv_icmp_gt (tgt := 65) hx hb dX0_looseAhead_50 (by decide) (fun hc11 => ?_) (fun hc11 => ?_)
        · have hf := if_t hc11 hf
          obtain ⟨v12, ev12⟩ : ∃ z : Int32, z = (l4 + (1 : Int32)) := ⟨_, rfl⟩
          have hf := lt_s_ hf v12 ev12
          refine lv_iinc (v := v12) (lv' := [(4, .int v12), (6, .int v5), (0, .ref (qb 0)), (1, .ref (qf 0)), (2, .int l2), (3, .int l3), (5, .int l5)]) hx hb dX0_looseAhead_65 hl (k := 5) rfl (by rw [ev12]; rfl) (by decide) rfl (fun ls hl => ?_)
          obtain ⟨v13, ev13⟩ : ∃ z : Int32, z = (l5 + (1 : Int32)) := ⟨_, rfl⟩
          have hf := lt_s_ hf v13 ev13
          refine lv_iinc (v := v13) (lv' := [(5, .int v13), (4, .int v12), (6, .int v5), (0, .ref (qb 0)), (1, .ref (qf 0)), (2, .int l2), (3, .int l3)]) hx hb dX0_looseAhead_68 hl (k := 6) rfl (by rw [ev13]; rfl) (by decide) rfl (fun ls hl => ?_)
          refine lv_goto (tgt := 16) hx hb dX0_looseAhead_71 (by decide) ?_
          exact ih v12 v13 H locs ls hw (lv_sub hl [3, 4, 5, 6, 1, 0] rfl)  hf
        · have hf := if_f hc11 hf
          refine lv_iload hx hb dX0_looseAhead_53 (lv_at hl 0 rfl) ?_
          refine lv_iload_n hx hb dX0_looseAhead_55 rfl (lv_at hl 4 rfl) ?_
          refine lv_icmp_ne (tgt := 68) hx hb dX0_looseAhead_56 (by decide) (fun hc14 => ?_) (fun hc14 => ?_)
          · have hf := if_f hc14 hf
            obtain ⟨v15, ev15⟩ : ∃ z : Int32, z = (l5 + (1 : Int32)) := ⟨_, rfl⟩
            have hf := lt_s_ hf v15 ev15
            refine lv_iinc (v := v15) (lv' := [(5, .int v15), (6, .int v5), (0, .ref (qb 0)), (1, .ref (qf 0)), (2, .int l2), (3, .int l3), (4, .int l4)]) hx hb dX0_looseAhead_68 hl (k := 6) rfl (by rw [ev15]; rfl) (by decide) rfl (fun ls hl => ?_)
            refine lv_goto (tgt := 16) hx hb dX0_looseAhead_71 (by decide) ?_
            exact ih l4 v15 H locs ls hw (lv_sub hl [2, 3, 4, 5, 6, 0] rfl)  hf
          · have hf := if_t hc14 hf
            refine lv_iload hx hb dX0_looseAhead_59 (lv_at hl 6 rfl) ?_
            refine lv_iload_n hx hb dX0_looseAhead_61 rfl (lv_at hl 3 rfl) ?_
            refine lv_icmp_ge (tgt := 68) hx hb dX0_looseAhead_62 (by decide) (fun hc16 => ?_) (fun hc16 => ?_)
            · have hf := if_t hc16 hf
              obtain ⟨v17, ev17⟩ : ∃ z : Int32, z = (l5 + (1 : Int32)) := ⟨_, rfl⟩
              have hf := lt_s_ hf v17 ev17
              refine lv_iinc (v := v17) (lv' := [(5, .int v17), (6, .int v5), (0, .ref (qb 0)), (1, .ref (qf 0)), (2, .int l2), (3, .int l3), (4, .int l4)]) hx hb dX0_looseAhead_68 hl (k := 6) rfl (by rw [ev17]; rfl) (by decide) rfl (fun ls hl => ?_)
              refine lv_goto (tgt := 16) hx hb dX0_looseAhead_71 (by decide) ?_
              exact ih l4 v17 H locs ls hw (lv_sub hl [2, 3, 4, 5, 6, 0] rfl)  hf
            · have hf := if_f hc16 hf
              obtain ⟨v18, ev18⟩ : ∃ z : Int32, z = (l4 + (1 : Int32)) := ⟨_, rfl⟩
              have hf := lt_s_ hf v18 ev18
              refine lv_iinc (v := v18) (lv' := [(4, .int v18), (6, .int v5), (0, .ref (qb 0)), (1, .ref (qf 0)), (2, .int l2), (3, .int l3), (5, .int l5)]) hx hb dX0_looseAhead_65 hl (k := 5) rfl (by rw [ev18]; rfl) (by decide) rfl (fun ls hl => ?_)
              obtain ⟨v19, ev19⟩ : ∃ z : Int32, z = (l5 + (1 : Int32)) := ⟨_, rfl⟩
              have hf := lt_s_ hf v19 ev19
              refine lv_iinc (v := v19) (lv' := [(5, .int v19), (4, .int v18), (6, .int v5), (0, .ref (qb 0)), (1, .ref (qf 0)), (2, .int l2), (3, .int l3)]) hx hb dX0_looseAhead_68 hl (k := 6) rfl (by rw [ev19]; rfl) (by decide) rfl (fun ls hl => ?_)
              refine lv_goto (tgt := 16) hx hb dX0_looseAhead_71 (by decide) ?_
              exact ih v18 v19 H locs ls hw (lv_sub hl [3, 4, 5, 6, 1, 0] rfl)  hf
set_option maxHeartbeats 4000000 in
set_option maxRecDepth 100000 in
theorem cBa_looseAhead (l : Launch) (D : va_G) (κ : Nat → ClassId) (qb : Nat → Nat) (b_moments b_gains b_topped b_endStiffs b_outs b_endsAt b_stiffAt b_stepsAt : Nat → Int32) (b_steps b_latest : Int32) (qf : Nat → Nat) (f_held f_couples f_endJoints f_lengths f_stiffs f_loadBeams f_loadSizes f_loadPlaces : Nat → Int32) (f_joints f_beams f_loads a2 zr : Int32) (hf : FBa_looseAhead b_outs b_endsAt f_held f_joints a2 = some zr) : mI_ l yX0_looseAhead (Cond.code yX0_looseAhead cX0_looseAhead 7 (some .int) :: uw) ({ frames := 2, cells := 0, slots := 0, locals := 44 } : Room) D (tys0 κ) [.ref (qb 0), .ref (qf 0), .int a2] (List.flatten [pBa κ qb b_moments b_gains b_topped b_endStiffs b_outs b_endsAt b_stiffAt b_stepsAt b_steps b_latest, pFr κ qf f_held f_couples f_endJoints f_lengths f_stiffs f_loadBeams f_loadSizes f_loadPlaces f_joints f_beams f_loads]) nT_ zr (List.flatten [pBa κ qb b_moments b_gains b_topped b_endStiffs b_outs b_endsAt b_stiffAt b_stepsAt b_steps b_latest, pFr κ qf f_held f_couples f_endJoints f_lengths f_stiffs f_loadBeams f_loadSizes f_loadPlaces f_joints f_beams f_loads]) := by
  unfold FBa_looseAhead at hf
  refine mI_of (by decide) (Nat.le_of_ble_eq_true rfl) ?_
  intro p e s m below meth c A ls H locs C0 hw hl
  obtain ⟨hx, hb, -, hml, hown, hts, -, -⟩ := id C0
  have hl : lv_has ls 7 [(0, .ref (qb 0)), (1, .ref (qf 0)), (2, .int a2)] := hl
  refine lv_aload_n hx hb dX0_looseAhead_0 rfl (lv_at hl 0 rfl) ?_
  refine r_get C0 hw 0 4 (v := .ref (qb 5)) rfl rfl inX0 (by decide) lk_X0_25 rfl dX0_looseAhead_1 ?_
  refine lv_iload_n hx hb dX0_looseAhead_4 rfl (lv_at hl 2 rfl) ?_
  obtain ⟨hi1, hf⟩ := gd_s hf
  refine r_iald C0 hw 5 0 rfl rfl hi1 dX0_looseAhead_5 ?_
  refine va_mabs hx hb (hml.trans hl.1.symm) hown (hts _ ab_X0_75) (hts _ ab_s) (hts _ ab_i) (hts _ ab_c) (by decide) (by simp only [List.map, List.sum_cons, List.sum_nil, Value.category]; decide) (by decide) (by decide) dX0_looseAhead_6 ?_
  refine lv_topi (fun v2 ev2 => ?_)
  have hf := lt_s_ hf v2 ev2
  refine lv_istore_n (lv' := [(3, .int v2), (0, .ref (qb 0)), (1, .ref (qf 0)), (2, .int a2)]) hx hb dX0_looseAhead_9 rfl hl (by decide) rfl (fun ls hl => ?_)
  refine lv_iconst (v := 0) hx hb dX0_looseAhead_10 (by decide) ?_
  refine lv_istore (lv' := [(4, .int (0 : Int32)), (3, .int v2), (0, .ref (qb 0)), (1, .ref (qf 0)), (2, .int a2)]) hx hb dX0_looseAhead_11 hl (by decide) rfl (fun ls hl => ?_)
  refine lv_iconst (v := 0) hx hb dX0_looseAhead_13 (by decide) ?_
  refine lv_istore (lv' := [(5, .int (0 : Int32)), (4, .int (0 : Int32)), (3, .int v2), (0, .ref (qb 0)), (1, .ref (qf 0)), (2, .int a2)]) hx hb dX0_looseAhead_14 hl (by decide) rfl (fun ls hl => ?_)
  exact wBa_looseAhead_L16 C0 qb b_moments b_gains b_topped b_endStiffs b_outs b_endsAt b_stiffAt b_stepsAt b_steps b_latest qf f_held f_couples f_endJoints f_lengths f_stiffs f_loadBeams f_loadSizes f_loadPlaces f_joints f_beams f_loads a2 v2 zr 1000 (0 : Int32) (0 : Int32) H locs ls hw (lv_sub hl [3, 4, 5, 2, 1, 0] rfl)  hf
def FBa_ranked_L2 (b_outs b_endsAt f_held : Nat → Int32) (f_joints l2 : Int32) : Nat → Int32 → Option (Int32)
  | 0, _ => none
  | n + 1, l3 =>
      if f_joints ≤ l3 then
        some ((-4 : Int32))
      else
        b1_ (FBa_isLoose b_outs b_endsAt f_held l3) fun r2 =>
        if r2 = 0 then
          lt_ (l3 + (1 : Int32)) fun v6 =>
          FBa_ranked_L2 b_outs b_endsAt f_held f_joints l2 n v6
        else
          b1_ (FBa_looseAhead b_outs b_endsAt f_held f_joints l3) fun r7 =>
          if r7 = l2 then
            some (l3)
          else
            lt_ (l3 + (1 : Int32)) fun v11 =>
            FBa_ranked_L2 b_outs b_endsAt f_held f_joints l2 n v11
def FBa_ranked (b_outs b_endsAt f_held : Nat → Int32) (f_joints a2 : Int32) : Option (Int32) :=
  FBa_ranked_L2 b_outs b_endsAt f_held f_joints a2 1000 (0 : Int32)
set_option maxHeartbeats 4000000 in
set_option maxRecDepth 100000 in
theorem wBa_ranked_L2 {p : Program} {l : Launch} {e : Env} {s : State} {m : MethodId} {args : Array Value} {below : List Frame} {meth : Method} {c : Code} {A : Nat → Prop} {D : va_G} {κ : Nat → ClassId} (C0 : cx_ p s m meth c args cX0_ranked RX0 (some .int) 4 A) (qb : Nat → Nat) (b_moments b_gains b_topped b_endStiffs b_outs b_endsAt b_stiffAt b_stepsAt : Nat → Int32) (b_steps b_latest : Int32) (qf : Nat → Nat) (f_held f_couples f_endJoints f_lengths f_stiffs f_loadBeams f_loadSizes f_loadPlaces : Nat → Int32) (f_joints f_beams f_loads l2 : Int32) (zr : Int32) : ∀ (n : Nat) (l3 : Int32) (H : Heap) (locs : List Loc) (ls : Array Slot), wd_ D (tys0 κ) A s (List.flatten [pBa κ qb b_moments b_gains b_topped b_endStiffs b_outs b_endsAt b_stiffAt b_stepsAt b_steps b_latest, pFr κ qf f_held f_couples f_endJoints f_lengths f_stiffs f_loadBeams f_loadSizes f_loadPlaces f_joints f_beams f_loads]) H locs → lv_has ls 4 [(0, .ref (qb 0)), (1, .ref (qf 0)), (2, .int l2), (3, .int l3)] → FBa_ranked_L2 b_outs b_endsAt f_held f_joints l2 n l3 = some zr → W p l e ({ frames := 3, cells := 0, slots := 0, locals := 70 } : Room) s m args below meth c H locs 0 0 (qI_ D (tys0 κ) A nT_ zr (List.flatten [pBa κ qb b_moments b_gains b_topped b_endStiffs b_outs b_endsAt b_stiffAt b_stepsAt b_steps b_latest, pFr κ qf f_held f_couples f_endJoints f_lengths f_stiffs f_loadBeams f_loadSizes f_loadPlaces f_joints f_beams f_loads]) below args s) (F0 m 2 ls []) := by
  obtain ⟨hx, hb, -, hml, hown, hts, -, -⟩ := id C0
  intro n
  induction n with
  | zero =>
    intro l3 H locs ls hw hl  hf
    cases hf
  | succ n ih =>
    intro l3 H locs ls hw hl  hf
    rw [FBa_ranked_L2.eq_2] at hf
    refine lv_iload_n hx hb dX0_ranked_2 rfl (lv_at hl 3 rfl) ?_
    refine lv_aload_n hx hb dX0_ranked_3 rfl (lv_at hl 1 rfl) ?_
    refine r_get C0 hw 9 8 (v := .int f_joints) rfl rfl inX2 (by decide) lk_X0_69 rfl dX0_ranked_4 ?_
    refine lv_icmp_ge (tgt := 37) hx hb dX0_ranked_7 (by decide) (fun hc1 => ?_) (fun hc1 => ?_)
    · have hf := if_t hc1 hf
      refine lv_bipush (v := -4) hx hb dX0_ranked_37 (by decide) ?_
      obtain rfl := e1_ hf
      exact r_iret C0 hw trivial dX0_ranked_39
    · have hf := if_f hc1 hf
      refine lv_aload_n hx hb dX0_ranked_10 rfl (lv_at hl 0 rfl) ?_
      refine lv_aload_n hx hb dX0_ranked_11 rfl (lv_at hl 1 rfl) ?_
      refine lv_iload_n hx hb dX0_ranked_12 rfl (lv_at hl 3 rfl) ?_
      obtain ⟨r2, hk3, hf⟩ := b1_s hf
      refine rv_i (vq := (RX0, TX0, 10)) (As := [.ref (qf 0), .int l3]) (rest := []) (bs' := [pBa κ qb b_moments b_gains b_topped b_endStiffs b_outs b_endsAt b_stiffAt b_stepsAt b_steps b_latest, pFr κ qf f_held f_couples f_endJoints f_lengths f_stiffs f_loadBeams f_loadSizes f_loadPlaces f_joints f_beams f_loads]) C0 hw (cBa_isLoose l D κ qb b_moments b_gains b_topped b_endStiffs b_outs b_endsAt b_stiffAt b_stepsAt b_steps b_latest qf f_held f_couples f_endJoints f_lengths f_stiffs f_loadBeams f_loadSizes f_loadPlaces f_joints f_beams f_loads l3 r2 hk3) cv_RX0_72 ⟨rfl, rfl, Nat.le_of_ble_eq_true rfl, Nat.le_of_ble_eq_true rfl⟩ ⟨Nat.zero_le _, Nat.zero_le _⟩ [0, 1] [] [0, 1] rfl rfl rfl rfl (by decide) rfl rfl rfl rfl rfl hl.1 (by simp only [List.map, List.sum_cons, List.sum_nil, Value.category]; decide) dX0_ranked_13 (fun H locs hw hn4 => ?_)
      refine lv_if_eq (tgt := 31) hx hb dX0_ranked_16 (by decide) (fun hc5 => ?_) (fun hc5 => ?_)
      · have hf := if_t hc5 hf
        obtain ⟨v6, ev6⟩ : ∃ z : Int32, z = (l3 + (1 : Int32)) := ⟨_, rfl⟩
        have hf := lt_s_ hf v6 ev6
        refine lv_iinc (v := v6) (lv' := [(3, .int v6), (0, .ref (qb 0)), (1, .ref (qf 0)), (2, .int l2)]) hx hb dX0_ranked_31 hl (k := 3) rfl (by rw [ev6]; rfl) (by decide) rfl (fun ls hl => ?_)
        refine lv_goto (tgt := 2) hx hb dX0_ranked_34 (by decide) ?_
        exact ih v6 H locs ls hw (lv_sub hl [1, 2, 3, 0] rfl)  hf
      · have hf := if_f hc5 hf
        refine lv_aload_n hx hb dX0_ranked_19 rfl (lv_at hl 0 rfl) ?_
        refine lv_aload_n hx hb dX0_ranked_20 rfl (lv_at hl 1 rfl) ?_
        refine lv_iload_n hx hb dX0_ranked_21 rfl (lv_at hl 3 rfl) ?_
        obtain ⟨r7, hk8, hf⟩ := b1_s hf
        refine rv_i (vq := (RX0, TX0, 10)) (As := [.ref (qf 0), .int l3]) (rest := []) (bs' := [pBa κ qb b_moments b_gains b_topped b_endStiffs b_outs b_endsAt b_stiffAt b_stepsAt b_steps b_latest, pFr κ qf f_held f_couples f_endJoints f_lengths f_stiffs f_loadBeams f_loadSizes f_loadPlaces f_joints f_beams f_loads]) C0 hw (cBa_looseAhead l D κ qb b_moments b_gains b_topped b_endStiffs b_outs b_endsAt b_stiffAt b_stepsAt b_steps b_latest qf f_held f_couples f_endJoints f_lengths f_stiffs f_loadBeams f_loadSizes f_loadPlaces f_joints f_beams f_loads l3 r7 hk8) cv_RX0_87 ⟨rfl, rfl, Nat.le_of_ble_eq_true rfl, Nat.le_of_ble_eq_true rfl⟩ ⟨Nat.zero_le _, Nat.zero_le _⟩ [0, 1] [] [0, 1] rfl rfl rfl rfl (by decide) rfl rfl rfl rfl rfl hl.1 (by simp only [List.map, List.sum_cons, List.sum_nil, Value.category]; decide) dX0_ranked_22 (fun H locs hw hn9 => ?_)
        refine lv_iload_n hx hb dX0_ranked_25 rfl (lv_at hl 2 rfl) ?_
        refine lv_icmp_ne (tgt := 31) hx hb dX0_ranked_26 (by decide) (fun hc10 => ?_) (fun hc10 => ?_)
        · have hf := if_f hc10 hf
          obtain ⟨v11, ev11⟩ : ∃ z : Int32, z = (l3 + (1 : Int32)) := ⟨_, rfl⟩
          have hf := lt_s_ hf v11 ev11
          refine lv_iinc (v := v11) (lv' := [(3, .int v11), (0, .ref (qb 0)), (1, .ref (qf 0)), (2, .int l2)]) hx hb dX0_ranked_31 hl (k := 3) rfl (by rw [ev11]; rfl) (by decide) rfl (fun ls hl => ?_)
          refine lv_goto (tgt := 2) hx hb dX0_ranked_34 (by decide) ?_
          exact ih v11 H locs ls hw (lv_sub hl [1, 2, 3, 0] rfl)  hf
        · have hf := if_t hc10 hf
          refine lv_iload_n hx hb dX0_ranked_29 rfl (lv_at hl 3 rfl) ?_
          obtain rfl := e1_ hf
          exact r_iret C0 hw trivial dX0_ranked_30
set_option maxHeartbeats 4000000 in
set_option maxRecDepth 100000 in
theorem cBa_ranked (l : Launch) (D : va_G) (κ : Nat → ClassId) (qb : Nat → Nat) (b_moments b_gains b_topped b_endStiffs b_outs b_endsAt b_stiffAt b_stepsAt : Nat → Int32) (b_steps b_latest : Int32) (qf : Nat → Nat) (f_held f_couples f_endJoints f_lengths f_stiffs f_loadBeams f_loadSizes f_loadPlaces : Nat → Int32) (f_joints f_beams f_loads a2 zr : Int32) (hf : FBa_ranked b_outs b_endsAt f_held f_joints a2 = some zr) : mI_ l yX0_ranked (Cond.code yX0_ranked cX0_ranked 4 (some .int) :: uw) ({ frames := 3, cells := 0, slots := 0, locals := 70 } : Room) D (tys0 κ) [.ref (qb 0), .ref (qf 0), .int a2] (List.flatten [pBa κ qb b_moments b_gains b_topped b_endStiffs b_outs b_endsAt b_stiffAt b_stepsAt b_steps b_latest, pFr κ qf f_held f_couples f_endJoints f_lengths f_stiffs f_loadBeams f_loadSizes f_loadPlaces f_joints f_beams f_loads]) nT_ zr (List.flatten [pBa κ qb b_moments b_gains b_topped b_endStiffs b_outs b_endsAt b_stiffAt b_stepsAt b_steps b_latest, pFr κ qf f_held f_couples f_endJoints f_lengths f_stiffs f_loadBeams f_loadSizes f_loadPlaces f_joints f_beams f_loads]) := by
  unfold FBa_ranked at hf
  refine mI_of (by decide) (Nat.le_of_ble_eq_true rfl) ?_
  intro p e s m below meth c A ls H locs C0 hw hl
  obtain ⟨hx, hb, -, hml, hown, hts, -, -⟩ := id C0
  have hl : lv_has ls 4 [(0, .ref (qb 0)), (1, .ref (qf 0)), (2, .int a2)] := hl
  refine lv_iconst (v := 0) hx hb dX0_ranked_0 (by decide) ?_
  refine lv_istore_n (lv' := [(3, .int (0 : Int32)), (0, .ref (qb 0)), (1, .ref (qf 0)), (2, .int a2)]) hx hb dX0_ranked_1 rfl hl (by decide) rfl (fun ls hl => ?_)
  exact wBa_ranked_L2 C0 qb b_moments b_gains b_topped b_endStiffs b_outs b_endsAt b_stiffAt b_stepsAt b_steps b_latest qf f_held f_couples f_endJoints f_lengths f_stiffs f_loadBeams f_loadSizes f_loadPlaces f_joints f_beams f_loads a2 zr 1000 (0 : Int32) H locs ls hw (lv_sub hl [1, 2, 3, 0] rfl)  hf
def FBa_stiffestBare_L9 (b_topped b_endStiffs f_endJoints : Nat → Int32) (f_beams l2 : Int32) : Nat → Int32 → Int32 → Int32 → Option (Int32)
  | 0, _, _, _ => none
  | n + 1, l3, l4, l5 =>
      if ((2 : Int32) * f_beams) ≤ l5 then
        some (l3)
      else
        b1_ (FFr_jointOf f_endJoints l5) fun r2 =>
        if r2 = l2 then
          gd_ l5 20 <|
          if (b_topped l5.toNatClampNeg) = 0 then
            gd_ l5 20 <|
            if (b_endStiffs l5.toNatClampNeg) ≤ l4 then
              lt_ (l5 + (1 : Int32)) fun v12 =>
              FBa_stiffestBare_L9 b_topped b_endStiffs f_endJoints f_beams l2 n l3 l4 v12
            else
              gd_ l5 20 <|
              lt_ (b_endStiffs l5.toNatClampNeg) fun v14 =>
              lt_ (l5 + (1 : Int32)) fun v15 =>
              FBa_stiffestBare_L9 b_topped b_endStiffs f_endJoints f_beams l2 n l5 v14 v15
          else
            lt_ (l5 + (1 : Int32)) fun v9 =>
            FBa_stiffestBare_L9 b_topped b_endStiffs f_endJoints f_beams l2 n l3 l4 v9
        else
          lt_ (l5 + (1 : Int32)) fun v6 =>
          FBa_stiffestBare_L9 b_topped b_endStiffs f_endJoints f_beams l2 n l3 l4 v6
def FBa_stiffestBare (b_topped b_endStiffs f_endJoints : Nat → Int32) (f_beams a2 : Int32) : Option (Int32) :=
  FBa_stiffestBare_L9 b_topped b_endStiffs f_endJoints f_beams a2 1000 (-4 : Int32) (0 : Int32) (0 : Int32)
set_option maxHeartbeats 4000000 in
set_option maxRecDepth 100000 in
theorem wBa_stiffestBare_L9 {p : Program} {l : Launch} {e : Env} {s : State} {m : MethodId} {args : Array Value} {below : List Frame} {meth : Method} {c : Code} {A : Nat → Prop} {D : va_G} {κ : Nat → ClassId} (C0 : cx_ p s m meth c args cX0_stiffestBare RX0 (some .int) 6 A) (qb : Nat → Nat) (b_moments b_gains b_topped b_endStiffs b_outs b_endsAt b_stiffAt b_stepsAt : Nat → Int32) (b_steps b_latest : Int32) (qf : Nat → Nat) (f_held f_couples f_endJoints f_lengths f_stiffs f_loadBeams f_loadSizes f_loadPlaces : Nat → Int32) (f_joints f_beams f_loads l2 : Int32) (zr : Int32) : ∀ (n : Nat) (l3 : Int32) (l4 : Int32) (l5 : Int32) (H : Heap) (locs : List Loc) (ls : Array Slot), wd_ D (tys0 κ) A s (List.flatten [pBa κ qb b_moments b_gains b_topped b_endStiffs b_outs b_endsAt b_stiffAt b_stepsAt b_steps b_latest, pFr κ qf f_held f_couples f_endJoints f_lengths f_stiffs f_loadBeams f_loadSizes f_loadPlaces f_joints f_beams f_loads]) H locs → lv_has ls 6 [(0, .ref (qb 0)), (1, .ref (qf 0)), (2, .int l2), (3, .int l3), (4, .int l4), (5, .int l5)] → FBa_stiffestBare_L9 b_topped b_endStiffs f_endJoints f_beams l2 n l3 l4 l5 = some zr → W p l e ({ frames := 1, cells := 0, slots := 0, locals := 21 } : Room) s m args below meth c H locs 0 0 (qI_ D (tys0 κ) A nT_ zr (List.flatten [pBa κ qb b_moments b_gains b_topped b_endStiffs b_outs b_endsAt b_stiffAt b_stepsAt b_steps b_latest, pFr κ qf f_held f_couples f_endJoints f_lengths f_stiffs f_loadBeams f_loadSizes f_loadPlaces f_joints f_beams f_loads]) below args s) (F0 m 9 ls []) := by
  obtain ⟨hx, hb, -, hml, hown, hts, -, -⟩ := id C0
  intro n
  induction n with
  | zero =>
    intro l3 l4 l5 H locs ls hw hl  hf
    cases hf
  | succ n ih =>
    intro l3 l4 l5 H locs ls hw hl  hf
    rw [FBa_stiffestBare_L9.eq_2] at hf
    refine lv_iload hx hb dX0_stiffestBare_9 (lv_at hl 5 rfl) ?_
    refine lv_iconst (v := 2) hx hb dX0_stiffestBare_11 (by decide) ?_
    refine lv_aload_n hx hb dX0_stiffestBare_12 rfl (lv_at hl 1 rfl) ?_
    refine r_get C0 hw 9 9 (v := .int f_beams) rfl rfl inX2 (by decide) lk_X0_49 rfl dX0_stiffestBare_13 ?_
    refine lv_imul hx hb dX0_stiffestBare_16 ?_
    refine lv_icmp_ge (tgt := 70) hx hb dX0_stiffestBare_17 (by decide) (fun hc1 => ?_) (fun hc1 => ?_)
    · have hf := if_t hc1 hf
      refine lv_iload_n hx hb dX0_stiffestBare_70 rfl (lv_at hl 3 rfl) ?_
      obtain rfl := e1_ hf
      exact r_iret C0 hw trivial dX0_stiffestBare_71
    · have hf := if_f hc1 hf
      refine lv_aload_n hx hb dX0_stiffestBare_20 rfl (lv_at hl 1 rfl) ?_
      refine lv_iload hx hb dX0_stiffestBare_21 (lv_at hl 5 rfl) ?_
      obtain ⟨r2, hk3, hf⟩ := b1_s hf
      refine rv_i (vq := (RX2, TX2, 11)) (As := [.int l5]) (rest := []) (bs' := [pBa κ qb b_moments b_gains b_topped b_endStiffs b_outs b_endsAt b_stiffAt b_stepsAt b_steps b_latest, pFr κ qf f_held f_couples f_endJoints f_lengths f_stiffs f_loadBeams f_loadSizes f_loadPlaces f_joints f_beams f_loads]) C0 hw (cFr_jointOf l D κ qf f_held f_couples f_endJoints f_lengths f_stiffs f_loadBeams f_loadSizes f_loadPlaces f_joints f_beams f_loads l5 r2 hk3) cv_RX0_52 ⟨rfl, rfl, Nat.le_of_ble_eq_true rfl, Nat.le_of_ble_eq_true rfl⟩ ⟨Nat.zero_le _, Nat.zero_le _⟩ [1] [0] [0, 1] rfl rfl rfl rfl (by decide) rfl rfl rfl rfl rfl hl.1 (by simp only [List.map, List.sum_cons, List.sum_nil, Value.category]; decide) dX0_stiffestBare_23 (fun H locs hw hn4 => ?_)
      refine lv_iload_n hx hb dX0_stiffestBare_26 rfl (lv_at hl 2 rfl) ?_
      refine lv_icmp_ne (tgt := 64) hx hb dX0_stiffestBare_27 (by decide) (fun hc5 => ?_) (fun hc5 => ?_)
      · have hf := if_f hc5 hf
        obtain ⟨v6, ev6⟩ : ∃ z : Int32, z = (l5 + (1 : Int32)) := ⟨_, rfl⟩
        have hf := lt_s_ hf v6 ev6
        refine lv_iinc (v := v6) (lv' := [(5, .int v6), (0, .ref (qb 0)), (1, .ref (qf 0)), (2, .int l2), (3, .int l3), (4, .int l4)]) hx hb dX0_stiffestBare_64 hl (k := 5) rfl (by rw [ev6]; rfl) (by decide) rfl (fun ls hl => ?_)
        refine lv_goto (tgt := 9) hx hb dX0_stiffestBare_67 (by decide) ?_
        exact ih l3 l4 v6 H locs ls hw (lv_sub hl [1, 2, 3, 4, 5, 0] rfl)  hf
      · have hf := if_t hc5 hf
        refine lv_aload_n hx hb dX0_stiffestBare_30 rfl (lv_at hl 0 rfl) ?_
        refine r_get C0 hw 0 2 (v := .ref (qb 3)) rfl rfl inX0 (by decide) lk_X0_18 rfl dX0_stiffestBare_31 ?_
        refine lv_iload hx hb dX0_stiffestBare_34 (lv_at hl 5 rfl) ?_
        obtain ⟨hi7, hf⟩ := gd_s hf
        refine r_zald C0 hw 3 1 rfl rfl hi7 dX0_stiffestBare_36 ?_
        refine lv_if_ne (tgt := 64) hx hb dX0_stiffestBare_37 (by decide) (fun hc8 => ?_) (fun hc8 => ?_)
        · have hf := if_f hc8 hf
          obtain ⟨v9, ev9⟩ : ∃ z : Int32, z = (l5 + (1 : Int32)) := ⟨_, rfl⟩
          have hf := lt_s_ hf v9 ev9
          refine lv_iinc (v := v9) (lv' := [(5, .int v9), (0, .ref (qb 0)), (1, .ref (qf 0)), (2, .int l2), (3, .int l3), (4, .int l4)]) hx hb dX0_stiffestBare_64 hl (k := 5) rfl (by rw [ev9]; rfl) (by decide) rfl (fun ls hl => ?_)
          refine lv_goto (tgt := 9) hx hb dX0_stiffestBare_67 (by decide) ?_
          exact ih l3 l4 v9 H locs ls hw (lv_sub hl [1, 2, 3, 4, 5, 0] rfl)  hf
        · have hf := if_t hc8 hf
          refine lv_aload_n hx hb dX0_stiffestBare_40 rfl (lv_at hl 0 rfl) ?_
          refine r_get C0 hw 0 3 (v := .ref (qb 4)) rfl rfl inX0 (by decide) lk_X0_22 rfl dX0_stiffestBare_41 ?_
          refine lv_iload hx hb dX0_stiffestBare_44 (lv_at hl 5 rfl) ?_
          obtain ⟨hi10, hf⟩ := gd_s hf
          refine r_iald C0 hw 4 0 rfl rfl hi10 dX0_stiffestBare_46 ?_
          refine lv_iload hx hb dX0_stiffestBare_47 (lv_at hl 4 rfl) ?_
          refine lv_icmp_le (tgt := 64) hx hb dX0_stiffestBare_49 (by decide) (fun hc11 => ?_) (fun hc11 => ?_)
          · have hf := if_t hc11 hf
            obtain ⟨v12, ev12⟩ : ∃ z : Int32, z = (l5 + (1 : Int32)) := ⟨_, rfl⟩
            have hf := lt_s_ hf v12 ev12
            refine lv_iinc (v := v12) (lv' := [(5, .int v12), (0, .ref (qb 0)), (1, .ref (qf 0)), (2, .int l2), (3, .int l3), (4, .int l4)]) hx hb dX0_stiffestBare_64 hl (k := 5) rfl (by rw [ev12]; rfl) (by decide) rfl (fun ls hl => ?_)
            refine lv_goto (tgt := 9) hx hb dX0_stiffestBare_67 (by decide) ?_
            exact ih l3 l4 v12 H locs ls hw (lv_sub hl [1, 2, 3, 4, 5, 0] rfl)  hf
          · have hf := if_f hc11 hf
            refine lv_iload hx hb dX0_stiffestBare_52 (lv_at hl 5 rfl) ?_
            refine lv_istore_n (lv' := [(3, .int l5), (0, .ref (qb 0)), (1, .ref (qf 0)), (2, .int l2), (4, .int l4), (5, .int l5)]) hx hb dX0_stiffestBare_54 rfl hl (by decide) rfl (fun ls hl => ?_)
            refine lv_aload_n hx hb dX0_stiffestBare_55 rfl (lv_at hl 1 rfl) ?_
            refine r_get C0 hw 0 3 (v := .ref (qb 4)) rfl rfl inX0 (by decide) lk_X0_22 rfl dX0_stiffestBare_56 ?_
            refine lv_iload hx hb dX0_stiffestBare_59 (lv_at hl 5 rfl) ?_
            obtain ⟨hi13, hf⟩ := gd_s hf
            refine r_iald C0 hw 4 0 rfl rfl hi13 dX0_stiffestBare_61 ?_
            refine lv_topi (fun v14 ev14 => ?_)
            have hf := lt_s_ hf v14 ev14
            refine lv_istore (lv' := [(4, .int v14), (3, .int l5), (0, .ref (qb 0)), (1, .ref (qf 0)), (2, .int l2), (5, .int l5)]) hx hb dX0_stiffestBare_62 hl (by decide) rfl (fun ls hl => ?_)
            obtain ⟨v15, ev15⟩ : ∃ z : Int32, z = (l5 + (1 : Int32)) := ⟨_, rfl⟩
            have hf := lt_s_ hf v15 ev15
            refine lv_iinc (v := v15) (lv' := [(5, .int v15), (4, .int v14), (3, .int l5), (0, .ref (qb 0)), (1, .ref (qf 0)), (2, .int l2)]) hx hb dX0_stiffestBare_64 hl (k := 5) rfl (by rw [ev15]; rfl) (by decide) rfl (fun ls hl => ?_)
            refine lv_goto (tgt := 9) hx hb dX0_stiffestBare_67 (by decide) ?_
            exact ih l5 v14 v15 H locs ls hw (lv_sub hl [3, 4, 5, 2, 1, 0] rfl)  hf
set_option maxHeartbeats 4000000 in
set_option maxRecDepth 100000 in
theorem cBa_stiffestBare (l : Launch) (D : va_G) (κ : Nat → ClassId) (qb : Nat → Nat) (b_moments b_gains b_topped b_endStiffs b_outs b_endsAt b_stiffAt b_stepsAt : Nat → Int32) (b_steps b_latest : Int32) (qf : Nat → Nat) (f_held f_couples f_endJoints f_lengths f_stiffs f_loadBeams f_loadSizes f_loadPlaces : Nat → Int32) (f_joints f_beams f_loads a2 zr : Int32) (hf : FBa_stiffestBare b_topped b_endStiffs f_endJoints f_beams a2 = some zr) : mI_ l yX0_stiffestBare (Cond.code yX0_stiffestBare cX0_stiffestBare 6 (some .int) :: uw) ({ frames := 1, cells := 0, slots := 0, locals := 21 } : Room) D (tys0 κ) [.ref (qb 0), .ref (qf 0), .int a2] (List.flatten [pBa κ qb b_moments b_gains b_topped b_endStiffs b_outs b_endsAt b_stiffAt b_stepsAt b_steps b_latest, pFr κ qf f_held f_couples f_endJoints f_lengths f_stiffs f_loadBeams f_loadSizes f_loadPlaces f_joints f_beams f_loads]) nT_ zr (List.flatten [pBa κ qb b_moments b_gains b_topped b_endStiffs b_outs b_endsAt b_stiffAt b_stepsAt b_steps b_latest, pFr κ qf f_held f_couples f_endJoints f_lengths f_stiffs f_loadBeams f_loadSizes f_loadPlaces f_joints f_beams f_loads]) := by
  unfold FBa_stiffestBare at hf
  refine mI_of (by decide) (Nat.le_of_ble_eq_true rfl) ?_
  intro p e s m below meth c A ls H locs C0 hw hl
  obtain ⟨hx, hb, -, hml, hown, hts, -, -⟩ := id C0
  have hl : lv_has ls 6 [(0, .ref (qb 0)), (1, .ref (qf 0)), (2, .int a2)] := hl
  refine lv_bipush (v := -4) hx hb dX0_stiffestBare_0 (by decide) ?_
  refine lv_istore_n (lv' := [(3, .int (-4 : Int32)), (0, .ref (qb 0)), (1, .ref (qf 0)), (2, .int a2)]) hx hb dX0_stiffestBare_2 rfl hl (by decide) rfl (fun ls hl => ?_)
  refine lv_iconst (v := 0) hx hb dX0_stiffestBare_3 (by decide) ?_
  refine lv_istore (lv' := [(4, .int (0 : Int32)), (3, .int (-4 : Int32)), (0, .ref (qb 0)), (1, .ref (qf 0)), (2, .int a2)]) hx hb dX0_stiffestBare_4 hl (by decide) rfl (fun ls hl => ?_)
  refine lv_iconst (v := 0) hx hb dX0_stiffestBare_6 (by decide) ?_
  refine lv_istore (lv' := [(5, .int (0 : Int32)), (4, .int (0 : Int32)), (3, .int (-4 : Int32)), (0, .ref (qb 0)), (1, .ref (qf 0)), (2, .int a2)]) hx hb dX0_stiffestBare_7 hl (by decide) rfl (fun ls hl => ?_)
  exact wBa_stiffestBare_L9 C0 qb b_moments b_gains b_topped b_endStiffs b_outs b_endsAt b_stiffAt b_stepsAt b_steps b_latest qf f_held f_couples f_endJoints f_lengths f_stiffs f_loadBeams f_loadSizes f_loadPlaces f_joints f_beams f_loads a2 zr 1000 (-4 : Int32) (0 : Int32) (0 : Int32) H locs ls hw (lv_sub hl [3, 4, 5, 2, 1, 0] rfl)  hf
def FBa_shareOut_L31 (b_endStiffs f_endJoints : Nat → Int32) (f_beams l2 l3 : Int32) (l4 : Int64) (k_ : Int32 → Int32 → (Nat → Int32) → (Nat → Int32) → Option ((Nat → Int32) × (Nat → Int32))) : Nat → Int32 → Int32 → (Nat → Int32) → (Nat → Int32) → Option ((Nat → Int32) × (Nat → Int32))
  | 0, _, _, _, _ => none
  | n + 1, l6, l7, b_gains, b_topped =>
      if ((2 : Int32) * f_beams) ≤ l7 then
        k_ l6 l7 b_gains b_topped
      else
        b1_ (FFr_jointOf f_endJoints l7) fun r8 =>
        if r8 = l2 then
          gd_ l7 20 <|
          dl_ (l3.toInt64) <|
          gd_ l7 20 <|
          lt_ (upd b_gains l7.toNatClampNeg (((l4 * ((b_endStiffs l7.toNatClampNeg).toInt64)) / (l3.toInt64)).toInt32)) fun w16 =>
          gd_ l7 20 <|
          lt_ (upd b_topped l7.toNatClampNeg (vp_nar .boolean (0 : Int32))) fun w18 =>
          gd_ l7 20 <|
          lt_ (l6 - (w16 l7.toNatClampNeg)) fun v20 =>
          lt_ (l7 + (1 : Int32)) fun v21 =>
          FBa_shareOut_L31 b_endStiffs f_endJoints f_beams l2 l3 l4 k_ n v20 v21 w16 w18
        else
          lt_ (l7 + (1 : Int32)) fun v12 =>
          FBa_shareOut_L31 b_endStiffs f_endJoints f_beams l2 l3 l4 k_ n l6 v12 b_gains b_topped
def FBa_shareOut_L115 (b_endStiffs f_endJoints : Nat → Int32) (f_beams l2 l7 : Int32) : Nat → Int32 → Int32 → (Nat → Int32) → (Nat → Int32) → Option ((Nat → Int32) × (Nat → Int32))
  | 0, _, _, _, _ => none
  | n + 1, l6, l8, b_gains, b_topped =>
      if (20 : Int32) ≤ l8 then
        some (b_gains, b_topped)
      else
        if l6 = 0 then
          some (b_gains, b_topped)
        else
          b1_ (FBa_stiffestBare b_topped b_endStiffs f_endJoints f_beams l2) fun r30 =>
          if 0 ≤ r30 then
            gd_ r30 20 <|
            gd_ r30 20 <|
            lt_ (upd b_gains r30.toNatClampNeg ((b_gains r30.toNatClampNeg) + l7)) fun w36 =>
            gd_ r30 20 <|
            lt_ (upd b_topped r30.toNatClampNeg (vp_nar .boolean (1 : Int32))) fun w38 =>
            lt_ (l6 - l7) fun v39 =>
            lt_ (l8 + (1 : Int32)) fun v40 =>
            FBa_shareOut_L115 b_endStiffs f_endJoints f_beams l2 l7 n v39 v40 w36 w38
          else
            some (b_gains, b_topped)
def FBa_shareOut (b_gains b_topped b_endStiffs b_outs b_stiffAt f_endJoints : Nat → Int32) (f_beams a2 : Int32) : Option ((Nat → Int32) × (Nat → Int32)) :=
  gd_ a2 6 <|
  lt_ (b_stiffAt a2.toNatClampNeg) fun v2 =>
  if (1 : Int32) ≤ v2 then
    gd_ a2 6 <|
    lt_ (-((b_outs a2.toNatClampNeg).toInt64)) fun v5 =>
    lt_ (v5.toInt32) fun v6 =>
    FBa_shareOut_L31 b_endStiffs f_endJoints f_beams a2 v2 v5 (fun (v23 : Int32) (v24 : Int32) (w25 : Nat → Int32) (w26 : Nat → Int32) =>
        lt_ (fun (v27 : Int32) =>
          FBa_shareOut_L115 b_endStiffs f_endJoints f_beams a2 v27 1000 v23 (0 : Int32) w25 w26 : Int32 → Option ((Nat → Int32) × (Nat → Int32))) fun j41 =>
        if 0 ≤ v23 then
          j41 (1 : Int32)
        else
          j41 (-1 : Int32)) 1000 v6 (0 : Int32) b_gains b_topped
  else
    some (b_gains, b_topped)
set_option maxHeartbeats 4000000 in
set_option maxRecDepth 100000 in
theorem wBa_shareOut_L31 {p : Program} {l : Launch} {e : Env} {s : State} {m : MethodId} {args : Array Value} {below : List Frame} {meth : Method} {c : Code} {A : Nat → Prop} {D : va_G} {κ : Nat → ClassId} (C0 : cx_ p s m meth c args cX0_shareOut RX0 none 10 A) (qb : Nat → Nat) (b_moments b_endStiffs b_outs b_endsAt b_stiffAt b_stepsAt : Nat → Int32) (b_steps b_latest : Int32) (qf : Nat → Nat) (f_held f_couples f_endJoints f_lengths f_stiffs f_loadBeams f_loadSizes f_loadPlaces : Nat → Int32) (f_joints f_beams f_loads l2 l3 : Int32) (l4 : Int64) (z1 z2 : Nat → Int32) (k_ : Int32 → Int32 → (Nat → Int32) → (Nat → Int32) → Option ((Nat → Int32) × (Nat → Int32))) (hk_ : ∀ (l6 : Int32) (l7 : Int32) (b_gains : Nat → Int32) (b_topped : Nat → Int32) (H : Heap) (locs : List Loc) (ls : Array Slot), wd_ D (tys0 κ) A s (List.flatten [pBa κ qb b_moments b_gains b_topped b_endStiffs b_outs b_endsAt b_stiffAt b_stepsAt b_steps b_latest, pFr κ qf f_held f_couples f_endJoints f_lengths f_stiffs f_loadBeams f_loadSizes f_loadPlaces f_joints f_beams f_loads]) H locs → lv_has ls 10 [(0, .ref (qb 0)), (1, .ref (qf 0)), (2, .int l2), (6, .int l6)] → k_ l6 l7 b_gains b_topped = some (z1, z2) → W p l e ({ frames := 2, cells := 0, slots := 0, locals := 46 } : Room) s m args below meth c H locs 0 0 (qV_ D (tys0 κ) A (List.flatten [pBa κ qb b_moments z1 z2 b_endStiffs b_outs b_endsAt b_stiffAt b_stepsAt b_steps b_latest, pFr κ qf f_held f_couples f_endJoints f_lengths f_stiffs f_loadBeams f_loadSizes f_loadPlaces f_joints f_beams f_loads]) below args s) (F0 m 100 ls [])) : ∀ (n : Nat) (l6 : Int32) (l7 : Int32) (b_gains : Nat → Int32) (b_topped : Nat → Int32) (H : Heap) (locs : List Loc) (ls : Array Slot), wd_ D (tys0 κ) A s (List.flatten [pBa κ qb b_moments b_gains b_topped b_endStiffs b_outs b_endsAt b_stiffAt b_stepsAt b_steps b_latest, pFr κ qf f_held f_couples f_endJoints f_lengths f_stiffs f_loadBeams f_loadSizes f_loadPlaces f_joints f_beams f_loads]) H locs → lv_has ls 10 [(0, .ref (qb 0)), (1, .ref (qf 0)), (2, .int l2), (3, .int l3), (4, .long l4), (6, .int l6), (7, .int l7)] → FBa_shareOut_L31 b_endStiffs f_endJoints f_beams l2 l3 l4 k_ n l6 l7 b_gains b_topped = some (z1, z2) → W p l e ({ frames := 2, cells := 0, slots := 0, locals := 46 } : Room) s m args below meth c H locs 0 0 (qV_ D (tys0 κ) A (List.flatten [pBa κ qb b_moments z1 z2 b_endStiffs b_outs b_endsAt b_stiffAt b_stepsAt b_steps b_latest, pFr κ qf f_held f_couples f_endJoints f_lengths f_stiffs f_loadBeams f_loadSizes f_loadPlaces f_joints f_beams f_loads]) below args s) (F0 m 31 ls []) := by
  obtain ⟨hx, hb, -, hml, hown, hts, -, -⟩ := id C0
  intro n
  induction n with
  | zero =>
    intro l6 l7 b_gains b_topped H locs ls hw hl  hf
    cases hf
  | succ n ih =>
    intro l6 l7 b_gains b_topped H locs ls hw hl  hf
    rw [FBa_shareOut_L31.eq_2] at hf
    refine lv_iload hx hb dX0_shareOut_31 (lv_at hl 6 rfl) ?_
    refine lv_iconst (v := 2) hx hb dX0_shareOut_33 (by decide) ?_
    refine lv_aload_n hx hb dX0_shareOut_34 rfl (lv_at hl 1 rfl) ?_
    refine r_get C0 hw 9 9 (v := .int f_beams) rfl rfl inX2 (by decide) lk_X0_49 rfl dX0_shareOut_35 ?_
    refine lv_imul hx hb dX0_shareOut_38 ?_
    refine lv_icmp_ge (tgt := 100) hx hb dX0_shareOut_39 (by decide) (fun hc7 => ?_) (fun hc7 => ?_)
    · have hf := if_t hc7 hf
      exact hk_ l6 l7 b_gains b_topped H locs ls hw (lv_sub hl [0, 1, 2, 5] rfl)  hf
    · have hf := if_f hc7 hf
      refine lv_aload_n hx hb dX0_shareOut_42 rfl (lv_at hl 1 rfl) ?_
      refine lv_iload hx hb dX0_shareOut_43 (lv_at hl 6 rfl) ?_
      obtain ⟨r8, hk9, hf⟩ := b1_s hf
      refine rv_i (vq := (RX2, TX2, 11)) (As := [.int l7]) (rest := []) (bs' := [pBa κ qb b_moments b_gains b_topped b_endStiffs b_outs b_endsAt b_stiffAt b_stepsAt b_steps b_latest, pFr κ qf f_held f_couples f_endJoints f_lengths f_stiffs f_loadBeams f_loadSizes f_loadPlaces f_joints f_beams f_loads]) C0 hw (cFr_jointOf l D κ qf f_held f_couples f_endJoints f_lengths f_stiffs f_loadBeams f_loadSizes f_loadPlaces f_joints f_beams f_loads l7 r8 hk9) cv_RX0_52 ⟨rfl, rfl, Nat.le_of_ble_eq_true rfl, Nat.le_of_ble_eq_true rfl⟩ ⟨Nat.zero_le _, Nat.zero_le _⟩ [1] [0] [0, 1] rfl rfl rfl rfl (by decide) rfl rfl rfl rfl rfl hl.1 (by simp only [List.map, List.sum_cons, List.sum_nil, Value.category]; decide) dX0_shareOut_45 (fun H locs hw hn10 => ?_)
      refine lv_iload_n hx hb dX0_shareOut_48 rfl (lv_at hl 2 rfl) ?_
      refine lv_icmp_ne (tgt := 94) hx hb dX0_shareOut_49 (by decide) (fun hc11 => ?_) (fun hc11 => ?_)
      · have hf := if_f hc11 hf
        obtain ⟨v12, ev12⟩ : ∃ z : Int32, z = (l7 + (1 : Int32)) := ⟨_, rfl⟩
        have hf := lt_s_ hf v12 ev12
        refine lv_iinc (v := v12) (lv' := [(7, .int v12), (0, .ref (qb 0)), (1, .ref (qf 0)), (2, .int l2), (3, .int l3), (4, .long l4), (6, .int l6)]) hx hb dX0_shareOut_94 hl (k := 6) rfl (by rw [ev12]; rfl) (by decide) rfl (fun ls hl => ?_)
        refine lv_goto (tgt := 31) hx hb dX0_shareOut_97 (by decide) ?_
        exact ih l6 v12 b_gains b_topped H locs ls hw (lv_sub hl [1, 2, 3, 4, 5, 6, 0] rfl)  hf
      · have hf := if_t hc11 hf
        refine lv_aload_n hx hb dX0_shareOut_52 rfl (lv_at hl 0 rfl) ?_
        refine r_get C0 hw 0 1 (v := .ref (qb 2)) rfl rfl inX0 (by decide) lk_X0_15 rfl dX0_shareOut_53 ?_
        refine lv_iload hx hb dX0_shareOut_56 (lv_at hl 6 rfl) ?_
        refine lv_lload hx hb dX0_shareOut_58 (lv_at hl 4 rfl) ?_
        refine lv_aload_n hx hb dX0_shareOut_60 rfl (lv_at hl 0 rfl) ?_
        refine r_get C0 hw 0 3 (v := .ref (qb 4)) rfl rfl inX0 (by decide) lk_X0_22 rfl dX0_shareOut_61 ?_
        refine lv_iload hx hb dX0_shareOut_64 (lv_at hl 6 rfl) ?_
        obtain ⟨hi13, hf⟩ := gd_s hf
        refine r_iald C0 hw 4 0 rfl rfl hi13 dX0_shareOut_66 ?_
        refine lv_i2l hx hb dX0_shareOut_67 rfl ?_
        refine lv_lmul hx hb dX0_shareOut_68 ?_
        refine lv_iload_n hx hb dX0_shareOut_69 rfl (lv_at hl 3 rfl) ?_
        refine lv_i2l hx hb dX0_shareOut_70 rfl ?_
        obtain ⟨hz14, hf⟩ := dl_s hf
        refine lv_ldiv hx hb dX0_shareOut_71 hz14 ?_
        refine lv_l2i hx hb dX0_shareOut_72 rfl ?_
        obtain ⟨hi15, hf⟩ := gd_s hf
        obtain ⟨w16, ew16⟩ : ∃ z : Nat → Int32, z = (upd b_gains l7.toNatClampNeg (((l4 * ((b_endStiffs l7.toNatClampNeg).toInt64)) / (l3.toInt64)).toInt32)) := ⟨_, rfl⟩
        have hf := lt_s_ hf w16 ew16
        refine r_iast C0 hw 2 0 rfl rfl hi15 dX0_shareOut_73 (ws' := List.flatten [pBa κ qb b_moments w16 b_topped b_endStiffs b_outs b_endsAt b_stiffAt b_stepsAt b_steps b_latest, pFr κ qf f_held f_couples f_endJoints f_lengths f_stiffs f_loadBeams f_loadSizes f_loadPlaces f_joints f_beams f_loads]) (by subst ew16; rfl) (fun H locs hw => ?_)
        refine lv_aload_n hx hb dX0_shareOut_74 rfl (lv_at hl 0 rfl) ?_
        refine r_get C0 hw 0 2 (v := .ref (qb 3)) rfl rfl inX0 (by decide) lk_X0_18 rfl dX0_shareOut_75 ?_
        refine lv_iload hx hb dX0_shareOut_78 (lv_at hl 6 rfl) ?_
        refine lv_iconst (v := 0) hx hb dX0_shareOut_80 (by decide) ?_
        obtain ⟨hi17, hf⟩ := gd_s hf
        obtain ⟨w18, ew18⟩ : ∃ z : Nat → Int32, z = (upd b_topped l7.toNatClampNeg (vp_nar .boolean (0 : Int32))) := ⟨_, rfl⟩
        have hf := lt_s_ hf w18 ew18
        refine r_zast C0 hw 3 1 rfl rfl hi17 dX0_shareOut_81 (ws' := List.flatten [pBa κ qb b_moments w16 w18 b_endStiffs b_outs b_endsAt b_stiffAt b_stepsAt b_steps b_latest, pFr κ qf f_held f_couples f_endJoints f_lengths f_stiffs f_loadBeams f_loadSizes f_loadPlaces f_joints f_beams f_loads]) (by subst ew18; rfl) (fun H locs hw => ?_)
        refine lv_iload hx hb dX0_shareOut_82 (lv_at hl 5 rfl) ?_
        refine lv_aload_n hx hb dX0_shareOut_84 rfl (lv_at hl 0 rfl) ?_
        refine r_get C0 hw 0 1 (v := .ref (qb 2)) rfl rfl inX0 (by decide) lk_X0_15 rfl dX0_shareOut_85 ?_
        refine lv_iload hx hb dX0_shareOut_88 (lv_at hl 6 rfl) ?_
        obtain ⟨hi19, hf⟩ := gd_s hf
        refine r_iald C0 hw 2 0 rfl rfl hi19 dX0_shareOut_90 ?_
        refine lv_isub hx hb dX0_shareOut_91 ?_
        refine lv_topi (fun v20 ev20 => ?_)
        have hf := lt_s_ hf v20 ev20
        refine lv_istore (lv' := [(6, .int v20), (0, .ref (qb 0)), (1, .ref (qf 0)), (2, .int l2), (3, .int l3), (4, .long l4), (7, .int l7)]) hx hb dX0_shareOut_92 hl (by decide) rfl (fun ls hl => ?_)
        obtain ⟨v21, ev21⟩ : ∃ z : Int32, z = (l7 + (1 : Int32)) := ⟨_, rfl⟩
        have hf := lt_s_ hf v21 ev21
        refine lv_iinc (v := v21) (lv' := [(7, .int v21), (6, .int v20), (0, .ref (qb 0)), (1, .ref (qf 0)), (2, .int l2), (3, .int l3), (4, .long l4)]) hx hb dX0_shareOut_94 hl (k := 6) rfl (by rw [ev21]; rfl) (by decide) rfl (fun ls hl => ?_)
        refine lv_goto (tgt := 31) hx hb dX0_shareOut_97 (by decide) ?_
        exact ih v20 v21 w16 w18 H locs ls hw (lv_sub hl [2, 3, 4, 5, 6, 1, 0] rfl)  hf
set_option maxHeartbeats 4000000 in
set_option maxRecDepth 100000 in
theorem wBa_shareOut_L115 {p : Program} {l : Launch} {e : Env} {s : State} {m : MethodId} {args : Array Value} {below : List Frame} {meth : Method} {c : Code} {A : Nat → Prop} {D : va_G} {κ : Nat → ClassId} (C0 : cx_ p s m meth c args cX0_shareOut RX0 none 10 A) (qb : Nat → Nat) (b_moments b_endStiffs b_outs b_endsAt b_stiffAt b_stepsAt : Nat → Int32) (b_steps b_latest : Int32) (qf : Nat → Nat) (f_held f_couples f_endJoints f_lengths f_stiffs f_loadBeams f_loadSizes f_loadPlaces : Nat → Int32) (f_joints f_beams f_loads l2 l7 : Int32) (z1 z2 : Nat → Int32) : ∀ (n : Nat) (l6 : Int32) (l8 : Int32) (b_gains : Nat → Int32) (b_topped : Nat → Int32) (H : Heap) (locs : List Loc) (ls : Array Slot), wd_ D (tys0 κ) A s (List.flatten [pBa κ qb b_moments b_gains b_topped b_endStiffs b_outs b_endsAt b_stiffAt b_stepsAt b_steps b_latest, pFr κ qf f_held f_couples f_endJoints f_lengths f_stiffs f_loadBeams f_loadSizes f_loadPlaces f_joints f_beams f_loads]) H locs → lv_has ls 10 [(0, .ref (qb 0)), (1, .ref (qf 0)), (2, .int l2), (6, .int l6), (7, .int l7), (8, .int l8)] → FBa_shareOut_L115 b_endStiffs f_endJoints f_beams l2 l7 n l6 l8 b_gains b_topped = some (z1, z2) → W p l e ({ frames := 2, cells := 0, slots := 0, locals := 46 } : Room) s m args below meth c H locs 0 0 (qV_ D (tys0 κ) A (List.flatten [pBa κ qb b_moments z1 z2 b_endStiffs b_outs b_endsAt b_stiffAt b_stepsAt b_steps b_latest, pFr κ qf f_held f_couples f_endJoints f_lengths f_stiffs f_loadBeams f_loadSizes f_loadPlaces f_joints f_beams f_loads]) below args s) (F0 m 115 ls []) := by
  obtain ⟨hx, hb, -, hml, hown, hts, -, -⟩ := id C0
  intro n
  induction n with
  | zero =>
    intro l6 l8 b_gains b_topped H locs ls hw hl  hf
    cases hf
  | succ n ih =>
    intro l6 l8 b_gains b_topped H locs ls hw hl  hf
    rw [FBa_shareOut_L115.eq_2] at hf
    refine lv_iload hx hb dX0_shareOut_115 (lv_at hl 5 rfl) ?_
    refine lv_bipush (v := 20) hx hb dX0_shareOut_117 (by decide) ?_
    refine lv_icmp_ge (tgt := 176) hx hb dX0_shareOut_119 (by decide) (fun hc28 => ?_) (fun hc28 => ?_)
    · have hf := if_t hc28 hf
      obtain ⟨rfl, rfl⟩ := e2_ hf
      exact r_vret C0 hw dX0_shareOut_176
    · have hf := if_f hc28 hf
      refine lv_iload hx hb dX0_shareOut_122 (lv_at hl 3 rfl) ?_
      refine lv_if_eq (tgt := 176) hx hb dX0_shareOut_124 (by decide) (fun hc29 => ?_) (fun hc29 => ?_)
      · have hf := if_t hc29 hf
        obtain ⟨rfl, rfl⟩ := e2_ hf
        exact r_vret C0 hw dX0_shareOut_176
      · have hf := if_f hc29 hf
        refine lv_aload_n hx hb dX0_shareOut_127 rfl (lv_at hl 0 rfl) ?_
        refine lv_aload_n hx hb dX0_shareOut_128 rfl (lv_at hl 1 rfl) ?_
        refine lv_iload_n hx hb dX0_shareOut_129 rfl (lv_at hl 2 rfl) ?_
        obtain ⟨r30, hk31, hf⟩ := b1_s hf
        refine rv_i (vq := (RX0, TX0, 10)) (As := [.ref (qf 0), .int l2]) (rest := []) (bs' := [pBa κ qb b_moments b_gains b_topped b_endStiffs b_outs b_endsAt b_stiffAt b_stepsAt b_steps b_latest, pFr κ qf f_held f_couples f_endJoints f_lengths f_stiffs f_loadBeams f_loadSizes f_loadPlaces f_joints f_beams f_loads]) C0 hw (cBa_stiffestBare l D κ qb b_moments b_gains b_topped b_endStiffs b_outs b_endsAt b_stiffAt b_stepsAt b_steps b_latest qf f_held f_couples f_endJoints f_lengths f_stiffs f_loadBeams f_loadSizes f_loadPlaces f_joints f_beams f_loads l2 r30 hk31) cv_RX0_91 ⟨rfl, rfl, Nat.le_of_ble_eq_true rfl, Nat.le_of_ble_eq_true rfl⟩ ⟨Nat.zero_le _, Nat.zero_le _⟩ [0, 1] [] [0, 1] rfl rfl rfl rfl (by decide) rfl rfl rfl rfl rfl hl.1 (by simp only [List.map, List.sum_cons, List.sum_nil, Value.category]; decide) dX0_shareOut_130 (fun H locs hw hn32 => ?_)
        refine lv_istore (lv' := [(9, .int r30), (0, .ref (qb 0)), (1, .ref (qf 0)), (2, .int l2), (6, .int l6), (7, .int l7), (8, .int l8)]) hx hb dX0_shareOut_133 hl (by decide) rfl (fun ls hl => ?_)
        refine lv_iload hx hb dX0_shareOut_135 (lv_at hl 0 rfl) ?_
        refine lv_if_ge (tgt := 143) hx hb dX0_shareOut_137 (by decide) (fun hc33 => ?_) (fun hc33 => ?_)
        · have hf := if_t hc33 hf
          refine lv_aload_n hx hb dX0_shareOut_143 rfl (lv_at hl 1 rfl) ?_
          refine r_get C0 hw 0 1 (v := .ref (qb 2)) rfl rfl inX0 (by decide) lk_X0_15 rfl dX0_shareOut_144 ?_
          refine lv_iload hx hb dX0_shareOut_147 (lv_at hl 0 rfl) ?_
          refine lv_dup2_11 hx hb dX0_shareOut_149 rfl rfl ?_
          obtain ⟨hi34, hf⟩ := gd_s hf
          refine r_iald C0 hw 2 0 rfl rfl hi34 dX0_shareOut_150 ?_
          refine lv_iload hx hb dX0_shareOut_151 (lv_at hl 5 rfl) ?_
          refine lv_iadd hx hb dX0_shareOut_153 ?_
          obtain ⟨hi35, hf⟩ := gd_s hf
          obtain ⟨w36, ew36⟩ : ∃ z : Nat → Int32, z = (upd b_gains r30.toNatClampNeg ((b_gains r30.toNatClampNeg) + l7)) := ⟨_, rfl⟩
          have hf := lt_s_ hf w36 ew36
          refine r_iast C0 hw 2 0 rfl rfl hi35 dX0_shareOut_154 (ws' := List.flatten [pBa κ qb b_moments w36 b_topped b_endStiffs b_outs b_endsAt b_stiffAt b_stepsAt b_steps b_latest, pFr κ qf f_held f_couples f_endJoints f_lengths f_stiffs f_loadBeams f_loadSizes f_loadPlaces f_joints f_beams f_loads]) (by subst ew36; rfl) (fun H locs hw => ?_)
          refine lv_aload_n hx hb dX0_shareOut_155 rfl (lv_at hl 1 rfl) ?_
          refine r_get C0 hw 0 2 (v := .ref (qb 3)) rfl rfl inX0 (by decide) lk_X0_18 rfl dX0_shareOut_156 ?_
          refine lv_iload hx hb dX0_shareOut_159 (lv_at hl 0 rfl) ?_
          refine lv_iconst (v := 1) hx hb dX0_shareOut_161 (by decide) ?_
          obtain ⟨hi37, hf⟩ := gd_s hf
          obtain ⟨w38, ew38⟩ : ∃ z : Nat → Int32, z = (upd b_topped r30.toNatClampNeg (vp_nar .boolean (1 : Int32))) := ⟨_, rfl⟩
          have hf := lt_s_ hf w38 ew38
          refine r_zast C0 hw 3 1 rfl rfl hi37 dX0_shareOut_162 (ws' := List.flatten [pBa κ qb b_moments w36 w38 b_endStiffs b_outs b_endsAt b_stiffAt b_stepsAt b_steps b_latest, pFr κ qf f_held f_couples f_endJoints f_lengths f_stiffs f_loadBeams f_loadSizes f_loadPlaces f_joints f_beams f_loads]) (by subst ew38; rfl) (fun H locs hw => ?_)
          refine lv_iload hx hb dX0_shareOut_163 (lv_at hl 4 rfl) ?_
          refine lv_iload hx hb dX0_shareOut_165 (lv_at hl 5 rfl) ?_
          refine lv_isub hx hb dX0_shareOut_167 ?_
          refine lv_topi (fun v39 ev39 => ?_)
          have hf := lt_s_ hf v39 ev39
          refine lv_istore (lv' := [(6, .int v39), (9, .int r30), (0, .ref (qb 0)), (1, .ref (qf 0)), (2, .int l2), (7, .int l7), (8, .int l8)]) hx hb dX0_shareOut_168 hl (by decide) rfl (fun ls hl => ?_)
          obtain ⟨v40, ev40⟩ : ∃ z : Int32, z = (l8 + (1 : Int32)) := ⟨_, rfl⟩
          have hf := lt_s_ hf v40 ev40
          refine lv_iinc (v := v40) (lv' := [(8, .int v40), (6, .int v39), (9, .int r30), (0, .ref (qb 0)), (1, .ref (qf 0)), (2, .int l2), (7, .int l7)]) hx hb dX0_shareOut_170 hl (k := 6) rfl (by rw [ev40]; rfl) (by decide) rfl (fun ls hl => ?_)
          refine lv_goto (tgt := 115) hx hb dX0_shareOut_173 (by decide) ?_
          exact ih v39 v40 w36 w38 H locs ls hw (lv_sub hl [3, 4, 5, 1, 6, 0] rfl)  hf
        · have hf := if_f hc33 hf
          refine lv_goto (tgt := 176) hx hb dX0_shareOut_140 (by decide) ?_
          obtain ⟨rfl, rfl⟩ := e2_ hf
          exact r_vret C0 hw dX0_shareOut_176
set_option maxHeartbeats 4000000 in
set_option maxRecDepth 100000 in
theorem cBa_shareOut (l : Launch) (D : va_G) (κ : Nat → ClassId) (qb : Nat → Nat) (b_moments b_gains b_topped b_endStiffs b_outs b_endsAt b_stiffAt b_stepsAt : Nat → Int32) (b_steps b_latest : Int32) (qf : Nat → Nat) (f_held f_couples f_endJoints f_lengths f_stiffs f_loadBeams f_loadSizes f_loadPlaces : Nat → Int32) (f_joints f_beams f_loads a2 : Int32) (z1 z2 : Nat → Int32) (hf : FBa_shareOut b_gains b_topped b_endStiffs b_outs b_stiffAt f_endJoints f_beams a2 = some (z1, z2)) : mV_ l yX0_shareOut (Cond.code yX0_shareOut cX0_shareOut 10 none :: uw) ({ frames := 2, cells := 0, slots := 0, locals := 46 } : Room) D (tys0 κ) [.ref (qb 0), .ref (qf 0), .int a2] (List.flatten [pBa κ qb b_moments b_gains b_topped b_endStiffs b_outs b_endsAt b_stiffAt b_stepsAt b_steps b_latest, pFr κ qf f_held f_couples f_endJoints f_lengths f_stiffs f_loadBeams f_loadSizes f_loadPlaces f_joints f_beams f_loads])  (List.flatten [pBa κ qb b_moments z1 z2 b_endStiffs b_outs b_endsAt b_stiffAt b_stepsAt b_steps b_latest, pFr κ qf f_held f_couples f_endJoints f_lengths f_stiffs f_loadBeams f_loadSizes f_loadPlaces f_joints f_beams f_loads]) := by
  unfold FBa_shareOut at hf
  refine mV_of (by decide) (Nat.le_of_ble_eq_true rfl) ?_
  intro p e s m below meth c A ls H locs C0 hw hl
  obtain ⟨hx, hb, -, hml, hown, hts, -, -⟩ := id C0
  have hl : lv_has ls 10 [(0, .ref (qb 0)), (1, .ref (qf 0)), (2, .int a2)] := hl
  refine lv_aload_n hx hb dX0_shareOut_0 rfl (lv_at hl 0 rfl) ?_
  refine r_get C0 hw 0 6 (v := .ref (qb 7)) rfl rfl inX0 (by decide) lk_X0_31 rfl dX0_shareOut_1 ?_
  refine lv_iload_n hx hb dX0_shareOut_4 rfl (lv_at hl 2 rfl) ?_
  obtain ⟨hi1, hf⟩ := gd_s hf
  refine r_iald C0 hw 7 0 rfl rfl hi1 dX0_shareOut_5 ?_
  refine lv_topi (fun v2 ev2 => ?_)
  have hf := lt_s_ hf v2 ev2
  refine lv_istore_n (lv' := [(3, .int v2), (0, .ref (qb 0)), (1, .ref (qf 0)), (2, .int a2)]) hx hb dX0_shareOut_6 rfl hl (by decide) rfl (fun ls hl => ?_)
  refine lv_iload_n hx hb dX0_shareOut_7 rfl (lv_at hl 0 rfl) ?_
  refine lv_iconst (v := 1) hx hb dX0_shareOut_8 (by decide) ?_
  refine lv_icmp_ge (tgt := 13) hx hb dX0_shareOut_9 (by decide) (fun hc3 => ?_) (fun hc3 => ?_)
  · have hf := if_t hc3 hf
    refine lv_aload_n hx hb dX0_shareOut_13 rfl (lv_at hl 1 rfl) ?_
    refine r_get C0 hw 0 4 (v := .ref (qb 5)) rfl rfl inX0 (by decide) lk_X0_25 rfl dX0_shareOut_14 ?_
    refine lv_iload_n hx hb dX0_shareOut_17 rfl (lv_at hl 3 rfl) ?_
    obtain ⟨hi4, hf⟩ := gd_s hf
    refine r_iald C0 hw 5 0 rfl rfl hi4 dX0_shareOut_18 ?_
    refine lv_i2l hx hb dX0_shareOut_19 rfl ?_
    refine lv_lneg hx hb dX0_shareOut_20 ?_
    refine lv_topl (fun v5 ev5 => ?_)
    have hf := lt_s_ hf v5 ev5
    refine lv_lstore (lv' := [(4, .long v5), (3, .int v2), (0, .ref (qb 0)), (1, .ref (qf 0)), (2, .int a2)]) hx hb dX0_shareOut_21 hl (by decide) rfl (fun ls hl => ?_)
    refine lv_lload hx hb dX0_shareOut_23 (lv_at hl 0 rfl) ?_
    refine lv_l2i hx hb dX0_shareOut_25 rfl ?_
    refine lv_topi (fun v6 ev6 => ?_)
    have hf := lt_s_ hf v6 ev6
    refine lv_istore (lv' := [(6, .int v6), (4, .long v5), (3, .int v2), (0, .ref (qb 0)), (1, .ref (qf 0)), (2, .int a2)]) hx hb dX0_shareOut_26 hl (by decide) rfl (fun ls hl => ?_)
    refine lv_iconst (v := 0) hx hb dX0_shareOut_28 (by decide) ?_
    refine lv_istore (lv' := [(7, .int (0 : Int32)), (6, .int v6), (4, .long v5), (3, .int v2), (0, .ref (qb 0)), (1, .ref (qf 0)), (2, .int a2)]) hx hb dX0_shareOut_29 hl (by decide) rfl (fun ls hl => ?_)
    refine wBa_shareOut_L31 C0 qb b_moments b_endStiffs b_outs b_endsAt b_stiffAt b_stepsAt b_steps b_latest qf f_held f_couples f_endJoints f_lengths f_stiffs f_loadBeams f_loadSizes f_loadPlaces f_joints f_beams f_loads a2 v2 v5 z1 z2 _ (fun v23 v24 w25 w26 H locs ls hw hl  hf => ?_) 1000 v6 (0 : Int32) b_gains b_topped H locs ls hw (lv_sub hl [4, 5, 6, 3, 2, 1, 0] rfl)  hf
    refine lv_iload hx hb dX0_shareOut_100 (lv_at hl 3 rfl) ?_
    obtain ⟨j41, ej41, hf⟩ := lt_e hf
    have hj42 : ∀ (v27 : Int32) (H : Heap) (locs : List Loc) (ls : Array Slot), wd_ D (tys0 κ) A s (List.flatten [pBa κ qb b_moments w25 w26 b_endStiffs b_outs b_endsAt b_stiffAt b_stepsAt b_steps b_latest, pFr κ qf f_held f_couples f_endJoints f_lengths f_stiffs f_loadBeams f_loadSizes f_loadPlaces f_joints f_beams f_loads]) H locs → lv_has ls 10 [(0, .ref (qb 0)), (1, .ref (qf 0)), (2, .int a2), (6, .int v23)] → j41 v27 = some (z1, z2) → W p l e ({ frames := 2, cells := 0, slots := 0, locals := 46 } : Room) s m ([.ref (qb 0), .ref (qf 0), .int a2] : List Value).toArray below meth c H locs 0 0 (qV_ D (tys0 κ) A (List.flatten [pBa κ qb b_moments z1 z2 b_endStiffs b_outs b_endsAt b_stiffAt b_stepsAt b_steps b_latest, pFr κ qf f_held f_couples f_endJoints f_lengths f_stiffs f_loadBeams f_loadSizes f_loadPlaces f_joints f_beams f_loads]) below ([.ref (qb 0), .ref (qf 0), .int a2] : List Value).toArray s) (F0 m 110 ls [.int v27]) := by
      intro v27 H locs ls hw hl  hf
      have hf : (FBa_shareOut_L115 b_endStiffs f_endJoints f_beams a2 v27 1000 v23 (0 : Int32) w25 w26) = some (z1, z2) := by rw [ej41] at hf; exact hf
      refine lv_istore (lv' := [(7, .int v27), (0, .ref (qb 0)), (1, .ref (qf 0)), (2, .int a2), (6, .int v23)]) hx hb dX0_shareOut_110 hl (by decide) rfl (fun ls hl => ?_)
      refine lv_iconst (v := 0) hx hb dX0_shareOut_112 (by decide) ?_
      refine lv_istore (lv' := [(8, .int (0 : Int32)), (7, .int v27), (0, .ref (qb 0)), (1, .ref (qf 0)), (2, .int a2), (6, .int v23)]) hx hb dX0_shareOut_113 hl (by decide) rfl (fun ls hl => ?_)
      exact wBa_shareOut_L115 C0 qb b_moments b_endStiffs b_outs b_endsAt b_stiffAt b_stepsAt b_steps b_latest qf f_held f_couples f_endJoints f_lengths f_stiffs f_loadBeams f_loadSizes f_loadPlaces f_joints f_beams f_loads a2 v27 z1 z2 1000 v23 (0 : Int32) w25 w26 H locs ls hw (lv_sub hl [2, 3, 4, 5, 1, 0] rfl)  hf
    refine lv_if_ge (tgt := 109) hx hb dX0_shareOut_102 (by decide) (fun hc43 => ?_) (fun hc43 => ?_)
    · have hf := if_t hc43 hf
      refine lv_iconst (v := 1) hx hb dX0_shareOut_109 (by decide) ?_
      exact hj42 (1 : Int32) H locs ls hw (lv_sub hl [0, 1, 2, 3] rfl)  hf
    · have hf := if_f hc43 hf
      refine lv_iconst (v := -1) hx hb dX0_shareOut_105 (by decide) ?_
      refine lv_goto (tgt := 110) hx hb dX0_shareOut_106 (by decide) ?_
      exact hj42 (-1 : Int32) H locs ls hw (lv_sub hl [0, 1, 2, 3] rfl)  hf
  · have hf := if_f hc3 hf
    obtain ⟨rfl, rfl⟩ := e2_ hf
    exact r_vret C0 hw dX0_shareOut_12
def FBa_comeTo (b_moments b_outs f_endJoints : Nat → Int32) (a2 a3 : Int32) : Option ((Nat → Int32) × (Nat → Int32)) :=
  gd_ a2 20 <|
  gd_ a2 20 <|
  lt_ (upd b_moments a2.toNatClampNeg ((b_moments a2.toNatClampNeg) + a3)) fun w3 =>
  b1_ (FFr_jointOf f_endJoints a2) fun r4 =>
  gd_ r4 6 <|
  gd_ r4 6 <|
  lt_ (upd b_outs r4.toNatClampNeg ((b_outs r4.toNatClampNeg) + a3)) fun w9 =>
  some (w3, w9)
set_option maxHeartbeats 4000000 in
set_option maxRecDepth 100000 in
theorem cBa_comeTo (l : Launch) (D : va_G) (κ : Nat → ClassId) (qb : Nat → Nat) (b_moments b_gains b_topped b_endStiffs b_outs b_endsAt b_stiffAt b_stepsAt : Nat → Int32) (b_steps b_latest : Int32) (qf : Nat → Nat) (f_held f_couples f_endJoints f_lengths f_stiffs f_loadBeams f_loadSizes f_loadPlaces : Nat → Int32) (f_joints f_beams f_loads a2 a3 : Int32) (z1 z2 : Nat → Int32) (hf : FBa_comeTo b_moments b_outs f_endJoints a2 a3 = some (z1, z2)) : mV_ l yX0_comeTo (Cond.code yX0_comeTo cX0_comeTo 4 none :: uw) ({ frames := 1, cells := 0, slots := 0, locals := 21 } : Room) D (tys0 κ) [.ref (qb 0), .ref (qf 0), .int a2, .int a3] (List.flatten [pBa κ qb b_moments b_gains b_topped b_endStiffs b_outs b_endsAt b_stiffAt b_stepsAt b_steps b_latest, pFr κ qf f_held f_couples f_endJoints f_lengths f_stiffs f_loadBeams f_loadSizes f_loadPlaces f_joints f_beams f_loads])  (List.flatten [pBa κ qb z1 b_gains b_topped b_endStiffs z2 b_endsAt b_stiffAt b_stepsAt b_steps b_latest, pFr κ qf f_held f_couples f_endJoints f_lengths f_stiffs f_loadBeams f_loadSizes f_loadPlaces f_joints f_beams f_loads]) := by
  unfold FBa_comeTo at hf
  refine mV_of (by decide) (Nat.le_of_ble_eq_true rfl) ?_
  intro p e s m below meth c A ls H locs C0 hw hl
  obtain ⟨hx, hb, -, hml, hown, hts, -, -⟩ := id C0
  have hl : lv_has ls 4 [(0, .ref (qb 0)), (1, .ref (qf 0)), (2, .int a2), (3, .int a3)] := hl
  refine lv_aload_n hx hb dX0_comeTo_0 rfl (lv_at hl 0 rfl) ?_
  refine r_get C0 hw 0 0 (v := .ref (qb 1)) rfl rfl inX0 (by decide) lk_X0_9 rfl dX0_comeTo_1 ?_
  refine lv_iload_n hx hb dX0_comeTo_4 rfl (lv_at hl 2 rfl) ?_
  refine lv_dup2_11 hx hb dX0_comeTo_5 rfl rfl ?_
  obtain ⟨hi1, hf⟩ := gd_s hf
  refine r_iald C0 hw 1 0 rfl rfl hi1 dX0_comeTo_6 ?_
  refine lv_iload_n hx hb dX0_comeTo_7 rfl (lv_at hl 3 rfl) ?_
  refine lv_iadd hx hb dX0_comeTo_8 ?_
  obtain ⟨hi2, hf⟩ := gd_s hf
  obtain ⟨w3, ew3⟩ : ∃ z : Nat → Int32, z = (upd b_moments a2.toNatClampNeg ((b_moments a2.toNatClampNeg) + a3)) := ⟨_, rfl⟩
  have hf := lt_s_ hf w3 ew3
  refine r_iast C0 hw 1 0 rfl rfl hi2 dX0_comeTo_9 (ws' := List.flatten [pBa κ qb w3 b_gains b_topped b_endStiffs b_outs b_endsAt b_stiffAt b_stepsAt b_steps b_latest, pFr κ qf f_held f_couples f_endJoints f_lengths f_stiffs f_loadBeams f_loadSizes f_loadPlaces f_joints f_beams f_loads]) (by subst ew3; rfl) (fun H locs hw => ?_)
  refine lv_aload_n hx hb dX0_comeTo_10 rfl (lv_at hl 0 rfl) ?_
  refine r_get C0 hw 0 4 (v := .ref (qb 5)) rfl rfl inX0 (by decide) lk_X0_25 rfl dX0_comeTo_11 ?_
  refine lv_aload_n hx hb dX0_comeTo_14 rfl (lv_at hl 1 rfl) ?_
  refine lv_iload_n hx hb dX0_comeTo_15 rfl (lv_at hl 2 rfl) ?_
  obtain ⟨r4, hk5, hf⟩ := b1_s hf
  refine rv_i (vq := (RX2, TX2, 11)) (As := [.int a2]) (rest := [.ref (qb 5)]) (bs' := [pBa κ qb w3 b_gains b_topped b_endStiffs b_outs b_endsAt b_stiffAt b_stepsAt b_steps b_latest, pFr κ qf f_held f_couples f_endJoints f_lengths f_stiffs f_loadBeams f_loadSizes f_loadPlaces f_joints f_beams f_loads]) C0 hw (cFr_jointOf l D κ qf f_held f_couples f_endJoints f_lengths f_stiffs f_loadBeams f_loadSizes f_loadPlaces f_joints f_beams f_loads a2 r4 hk5) cv_RX0_52 ⟨rfl, rfl, Nat.le_of_ble_eq_true rfl, Nat.le_of_ble_eq_true rfl⟩ ⟨Nat.zero_le _, Nat.zero_le _⟩ [1] [0] [0, 1] rfl rfl rfl rfl (by decide) rfl rfl rfl rfl rfl hl.1 (by simp only [List.map, List.sum_cons, List.sum_nil, Value.category]; decide) dX0_comeTo_16 (fun H locs hw hn6 => ?_)
  refine lv_dup2_11 hx hb dX0_comeTo_19 rfl rfl ?_
  obtain ⟨hi7, hf⟩ := gd_s hf
  refine r_iald C0 hw 5 0 rfl rfl hi7 dX0_comeTo_20 ?_
  refine lv_iload_n hx hb dX0_comeTo_21 rfl (lv_at hl 3 rfl) ?_
  refine lv_iadd hx hb dX0_comeTo_22 ?_
  obtain ⟨hi8, hf⟩ := gd_s hf
  obtain ⟨w9, ew9⟩ : ∃ z : Nat → Int32, z = (upd b_outs r4.toNatClampNeg ((b_outs r4.toNatClampNeg) + a3)) := ⟨_, rfl⟩
  have hf := lt_s_ hf w9 ew9
  refine r_iast C0 hw 5 0 rfl rfl hi8 dX0_comeTo_23 (ws' := List.flatten [pBa κ qb w3 b_gains b_topped b_endStiffs w9 b_endsAt b_stiffAt b_stepsAt b_steps b_latest, pFr κ qf f_held f_couples f_endJoints f_lengths f_stiffs f_loadBeams f_loadSizes f_loadPlaces f_joints f_beams f_loads]) (by subst ew9; rfl) (fun H locs hw => ?_)
  obtain ⟨rfl, rfl⟩ := e2_ hf
  exact r_vret C0 hw dX0_comeTo_24
def FBa_letGo_L8 (b_gains f_endJoints : Nat → Int32) (f_beams l2 : Int32) (k_ : Int32 → (Nat → Int32) → (Nat → Int32) → Option ((Nat → Int32) × (Nat → Int32) × (Nat → Int32) × (Nat → Int32) × (Nat → Int32) × Int32 × Int32)) : Nat → Int32 → (Nat → Int32) → (Nat → Int32) → Option ((Nat → Int32) × (Nat → Int32) × (Nat → Int32) × (Nat → Int32) × (Nat → Int32) × Int32 × Int32)
  | 0, _, _, _ => none
  | n + 1, l3, b_moments, b_outs =>
      if ((2 : Int32) * f_beams) ≤ l3 then
        k_ l3 b_moments b_outs
      else
        b1_ (FFr_jointOf f_endJoints l3) fun r6 =>
        if r6 = l2 then
          gd_ l3 20 <|
          b2_ (FBa_comeTo b_moments b_outs f_endJoints l3 (b_gains l3.toNatClampNeg)) fun w12 w13 =>
          b1_ (FFr_otherEnd l3) fun r16 =>
          gd_ l3 20 <|
          b2_ (FBa_comeTo w12 w13 f_endJoints r16 ((b_gains l3.toNatClampNeg) / (2 : Int32))) fun w20 w21 =>
          lt_ (l3 + (1 : Int32)) fun v24 =>
          FBa_letGo_L8 b_gains f_endJoints f_beams l2 k_ n v24 w20 w21
        else
          lt_ (l3 + (1 : Int32)) fun v10 =>
          FBa_letGo_L8 b_gains f_endJoints f_beams l2 k_ n v10 b_moments b_outs
def FBa_letGo (b_moments b_gains b_topped b_endStiffs b_outs b_stiffAt b_stepsAt : Nat → Int32) (b_steps : Int32) (f_endJoints : Nat → Int32) (f_beams a2 : Int32) : Option ((Nat → Int32) × (Nat → Int32) × (Nat → Int32) × (Nat → Int32) × (Nat → Int32) × Int32 × Int32) :=
  b2_ (FBa_shareOut b_gains b_topped b_endStiffs b_outs b_stiffAt f_endJoints f_beams a2) fun w1 w2 =>
  FBa_letGo_L8 w1 f_endJoints f_beams a2 (fun (v25 : Int32) (w26 : Nat → Int32) (w27 : Nat → Int32) =>
      gd_ a2 6 <|
      gd_ a2 6 <|
      lt_ (upd b_stepsAt a2.toNatClampNeg ((b_stepsAt a2.toNatClampNeg) + (1 : Int32))) fun w30 =>
      lt_ (b_steps + (1 : Int32)) fun v31 =>
      some (w26, w1, w2, w27, w30, v31, a2)) 1000 (0 : Int32) b_moments b_outs
set_option maxHeartbeats 4000000 in
set_option maxRecDepth 100000 in
theorem wBa_letGo_L8 {p : Program} {l : Launch} {e : Env} {s : State} {m : MethodId} {args : Array Value} {below : List Frame} {meth : Method} {c : Code} {A : Nat → Prop} {D : va_G} {κ : Nat → ClassId} (C0 : cx_ p s m meth c args cX0_letGo RX0 none 4 A) (qb : Nat → Nat) (b_gains b_topped b_endStiffs b_endsAt b_stiffAt b_stepsAt : Nat → Int32) (b_steps b_latest : Int32) (qf : Nat → Nat) (f_held f_couples f_endJoints f_lengths f_stiffs f_loadBeams f_loadSizes f_loadPlaces : Nat → Int32) (f_joints f_beams f_loads l2 : Int32) (z1 z2 z3 z4 z5 : Nat → Int32) (z6 z7 : Int32) (k_ : Int32 → (Nat → Int32) → (Nat → Int32) → Option ((Nat → Int32) × (Nat → Int32) × (Nat → Int32) × (Nat → Int32) × (Nat → Int32) × Int32 × Int32)) (hk_ : ∀ (l3 : Int32) (b_moments : Nat → Int32) (b_outs : Nat → Int32) (H : Heap) (locs : List Loc) (ls : Array Slot), wd_ D (tys0 κ) A s (List.flatten [pBa κ qb b_moments b_gains b_topped b_endStiffs b_outs b_endsAt b_stiffAt b_stepsAt b_steps b_latest, pFr κ qf f_held f_couples f_endJoints f_lengths f_stiffs f_loadBeams f_loadSizes f_loadPlaces f_joints f_beams f_loads]) H locs → lv_has ls 4 [(0, .ref (qb 0)), (2, .int l2)] → k_ l3 b_moments b_outs = some (z1, z2, z3, z4, z5, z6, z7) → W p l e ({ frames := 3, cells := 0, slots := 0, locals := 75 } : Room) s m args below meth c H locs 0 0 (qV_ D (tys0 κ) A (List.flatten [pBa κ qb z1 z2 z3 b_endStiffs z4 b_endsAt b_stiffAt z5 z6 z7, pFr κ qf f_held f_couples f_endJoints f_lengths f_stiffs f_loadBeams f_loadSizes f_loadPlaces f_joints f_beams f_loads]) below args s) (F0 m 63 ls [])) : ∀ (n : Nat) (l3 : Int32) (b_moments : Nat → Int32) (b_outs : Nat → Int32) (H : Heap) (locs : List Loc) (ls : Array Slot), wd_ D (tys0 κ) A s (List.flatten [pBa κ qb b_moments b_gains b_topped b_endStiffs b_outs b_endsAt b_stiffAt b_stepsAt b_steps b_latest, pFr κ qf f_held f_couples f_endJoints f_lengths f_stiffs f_loadBeams f_loadSizes f_loadPlaces f_joints f_beams f_loads]) H locs → lv_has ls 4 [(0, .ref (qb 0)), (1, .ref (qf 0)), (2, .int l2), (3, .int l3)] → FBa_letGo_L8 b_gains f_endJoints f_beams l2 k_ n l3 b_moments b_outs = some (z1, z2, z3, z4, z5, z6, z7) → W p l e ({ frames := 3, cells := 0, slots := 0, locals := 75 } : Room) s m args below meth c H locs 0 0 (qV_ D (tys0 κ) A (List.flatten [pBa κ qb z1 z2 z3 b_endStiffs z4 b_endsAt b_stiffAt z5 z6 z7, pFr κ qf f_held f_couples f_endJoints f_lengths f_stiffs f_loadBeams f_loadSizes f_loadPlaces f_joints f_beams f_loads]) below args s) (F0 m 8 ls []) := by
  obtain ⟨hx, hb, -, hml, hown, hts, -, -⟩ := id C0
  intro n
  induction n with
  | zero =>
    intro l3 b_moments b_outs H locs ls hw hl  hf
    cases hf
  | succ n ih =>
    intro l3 b_moments b_outs H locs ls hw hl  hf
    rw [FBa_letGo_L8.eq_2] at hf
    refine lv_iload_n hx hb dX0_letGo_8 rfl (lv_at hl 3 rfl) ?_
    refine lv_iconst (v := 2) hx hb dX0_letGo_9 (by decide) ?_
    refine lv_aload_n hx hb dX0_letGo_10 rfl (lv_at hl 1 rfl) ?_
    refine r_get C0 hw 9 9 (v := .int f_beams) rfl rfl inX2 (by decide) lk_X0_49 rfl dX0_letGo_11 ?_
    refine lv_imul hx hb dX0_letGo_14 ?_
    refine lv_icmp_ge (tgt := 63) hx hb dX0_letGo_15 (by decide) (fun hc5 => ?_) (fun hc5 => ?_)
    · have hf := if_t hc5 hf
      exact hk_ l3 b_moments b_outs H locs ls hw (lv_sub hl [0, 2] rfl)  hf
    · have hf := if_f hc5 hf
      refine lv_aload_n hx hb dX0_letGo_18 rfl (lv_at hl 1 rfl) ?_
      refine lv_iload_n hx hb dX0_letGo_19 rfl (lv_at hl 3 rfl) ?_
      obtain ⟨r6, hk7, hf⟩ := b1_s hf
      refine rv_i (vq := (RX2, TX2, 11)) (As := [.int l3]) (rest := []) (bs' := [pBa κ qb b_moments b_gains b_topped b_endStiffs b_outs b_endsAt b_stiffAt b_stepsAt b_steps b_latest, pFr κ qf f_held f_couples f_endJoints f_lengths f_stiffs f_loadBeams f_loadSizes f_loadPlaces f_joints f_beams f_loads]) C0 hw (cFr_jointOf l D κ qf f_held f_couples f_endJoints f_lengths f_stiffs f_loadBeams f_loadSizes f_loadPlaces f_joints f_beams f_loads l3 r6 hk7) cv_RX0_52 ⟨rfl, rfl, Nat.le_of_ble_eq_true rfl, Nat.le_of_ble_eq_true rfl⟩ ⟨Nat.zero_le _, Nat.zero_le _⟩ [1] [0] [0, 1] rfl rfl rfl rfl (by decide) rfl rfl rfl rfl rfl hl.1 (by simp only [List.map, List.sum_cons, List.sum_nil, Value.category]; decide) dX0_letGo_20 (fun H locs hw hn8 => ?_)
      refine lv_iload_n hx hb dX0_letGo_23 rfl (lv_at hl 2 rfl) ?_
      refine lv_icmp_ne (tgt := 57) hx hb dX0_letGo_24 (by decide) (fun hc9 => ?_) (fun hc9 => ?_)
      · have hf := if_f hc9 hf
        obtain ⟨v10, ev10⟩ : ∃ z : Int32, z = (l3 + (1 : Int32)) := ⟨_, rfl⟩
        have hf := lt_s_ hf v10 ev10
        refine lv_iinc (v := v10) (lv' := [(3, .int v10), (0, .ref (qb 0)), (1, .ref (qf 0)), (2, .int l2)]) hx hb dX0_letGo_57 hl (k := 3) rfl (by rw [ev10]; rfl) (by decide) rfl (fun ls hl => ?_)
        refine lv_goto (tgt := 8) hx hb dX0_letGo_60 (by decide) ?_
        exact ih v10 b_moments b_outs H locs ls hw (lv_sub hl [1, 2, 3, 0] rfl)  hf
      · have hf := if_t hc9 hf
        refine lv_aload_n hx hb dX0_letGo_27 rfl (lv_at hl 0 rfl) ?_
        refine lv_aload_n hx hb dX0_letGo_28 rfl (lv_at hl 1 rfl) ?_
        refine lv_iload_n hx hb dX0_letGo_29 rfl (lv_at hl 3 rfl) ?_
        refine lv_aload_n hx hb dX0_letGo_30 rfl (lv_at hl 0 rfl) ?_
        refine r_get C0 hw 0 1 (v := .ref (qb 2)) rfl rfl inX0 (by decide) lk_X0_15 rfl dX0_letGo_31 ?_
        refine lv_iload_n hx hb dX0_letGo_34 rfl (lv_at hl 3 rfl) ?_
        obtain ⟨hi11, hf⟩ := gd_s hf
        refine r_iald C0 hw 2 0 rfl rfl hi11 dX0_letGo_35 ?_
        obtain ⟨w12, w13, hk14, hf⟩ := b2_s hf
        refine rv_v (vq := (RX0, TX0, 10)) (As := [.ref (qf 0), .int l3, .int (b_gains l3.toNatClampNeg)]) (rest := []) (bs' := [pBa κ qb w12 b_gains b_topped b_endStiffs w13 b_endsAt b_stiffAt b_stepsAt b_steps b_latest, pFr κ qf f_held f_couples f_endJoints f_lengths f_stiffs f_loadBeams f_loadSizes f_loadPlaces f_joints f_beams f_loads]) C0 hw (cBa_comeTo l D κ qb b_moments b_gains b_topped b_endStiffs b_outs b_endsAt b_stiffAt b_stepsAt b_steps b_latest qf f_held f_couples f_endJoints f_lengths f_stiffs f_loadBeams f_loadSizes f_loadPlaces f_joints f_beams f_loads l3 (b_gains l3.toNatClampNeg) w12 w13 hk14) cv_RX0_98 ⟨rfl, rfl, Nat.le_of_ble_eq_true rfl, Nat.le_of_ble_eq_true rfl⟩ ⟨Nat.zero_le _, Nat.zero_le _⟩ [0, 1] [] [0, 1] rfl rfl rfl rfl (by decide) rfl rfl rfl rfl rfl hl.1 (by simp only [List.map, List.sum_cons, List.sum_nil, Value.category]; decide) dX0_letGo_36 (fun H locs hw => ?_)
        refine lv_aload_n hx hb dX0_letGo_39 rfl (lv_at hl 0 rfl) ?_
        refine lv_aload_n hx hb dX0_letGo_40 rfl (lv_at hl 1 rfl) ?_
        refine lv_aload_n hx hb dX0_letGo_41 rfl (lv_at hl 1 rfl) ?_
        refine lv_iload_n hx hb dX0_letGo_42 rfl (lv_at hl 3 rfl) ?_
        obtain ⟨r16, hk17, hf⟩ := b1_s hf
        refine rv_i (vq := (RX2, TX2, 11)) (As := [.int l3]) (rest := [.ref (qf 0), .ref (qb 0)]) (bs' := [pBa κ qb w12 b_gains b_topped b_endStiffs w13 b_endsAt b_stiffAt b_stepsAt b_steps b_latest, pFr κ qf f_held f_couples f_endJoints f_lengths f_stiffs f_loadBeams f_loadSizes f_loadPlaces f_joints f_beams f_loads]) C0 hw (cFr_otherEnd l D κ qf f_held f_couples f_endJoints f_lengths f_stiffs f_loadBeams f_loadSizes f_loadPlaces f_joints f_beams f_loads l3 r16 hk17) cv_RX0_102 ⟨rfl, rfl, Nat.le_of_ble_eq_true rfl, Nat.le_of_ble_eq_true rfl⟩ ⟨Nat.zero_le _, Nat.zero_le _⟩ [1] [0] [0, 1] rfl rfl rfl rfl (by decide) rfl rfl rfl rfl rfl hl.1 (by simp only [List.map, List.sum_cons, List.sum_nil, Value.category]; decide) dX0_letGo_43 (fun H locs hw hn18 => ?_)
        refine lv_aload_n hx hb dX0_letGo_46 rfl (lv_at hl 0 rfl) ?_
        refine r_get C0 hw 0 1 (v := .ref (qb 2)) rfl rfl inX0 (by decide) lk_X0_15 rfl dX0_letGo_47 ?_
        refine lv_iload_n hx hb dX0_letGo_50 rfl (lv_at hl 3 rfl) ?_
        obtain ⟨hi19, hf⟩ := gd_s hf
        refine r_iald C0 hw 2 0 rfl rfl hi19 dX0_letGo_51 ?_
        refine lv_iconst (v := 2) hx hb dX0_letGo_52 (by decide) ?_
        refine lv_idiv hx hb dX0_letGo_53 (by decide) ?_
        obtain ⟨w20, w21, hk22, hf⟩ := b2_s hf
        refine rv_v (vq := (RX0, TX0, 10)) (As := [.ref (qf 0), .int r16, .int ((b_gains l3.toNatClampNeg) / (2 : Int32))]) (rest := []) (bs' := [pBa κ qb w20 b_gains b_topped b_endStiffs w21 b_endsAt b_stiffAt b_stepsAt b_steps b_latest, pFr κ qf f_held f_couples f_endJoints f_lengths f_stiffs f_loadBeams f_loadSizes f_loadPlaces f_joints f_beams f_loads]) C0 hw (cBa_comeTo l D κ qb w12 b_gains b_topped b_endStiffs w13 b_endsAt b_stiffAt b_stepsAt b_steps b_latest qf f_held f_couples f_endJoints f_lengths f_stiffs f_loadBeams f_loadSizes f_loadPlaces f_joints f_beams f_loads r16 ((b_gains l3.toNatClampNeg) / (2 : Int32)) w20 w21 hk22) cv_RX0_98 ⟨rfl, rfl, Nat.le_of_ble_eq_true rfl, Nat.le_of_ble_eq_true rfl⟩ ⟨Nat.zero_le _, Nat.zero_le _⟩ [0, 1] [] [0, 1] rfl rfl rfl rfl (by decide) rfl rfl rfl rfl rfl hl.1 (by simp only [List.map, List.sum_cons, List.sum_nil, Value.category]; decide) dX0_letGo_54 (fun H locs hw => ?_)
        obtain ⟨v24, ev24⟩ : ∃ z : Int32, z = (l3 + (1 : Int32)) := ⟨_, rfl⟩
        have hf := lt_s_ hf v24 ev24
        refine lv_iinc (v := v24) (lv' := [(3, .int v24), (0, .ref (qb 0)), (1, .ref (qf 0)), (2, .int l2)]) hx hb dX0_letGo_57 hl (k := 3) rfl (by rw [ev24]; rfl) (by decide) rfl (fun ls hl => ?_)
        refine lv_goto (tgt := 8) hx hb dX0_letGo_60 (by decide) ?_
        exact ih v24 w20 w21 H locs ls hw (lv_sub hl [1, 2, 3, 0] rfl)  hf
set_option maxHeartbeats 4000000 in
set_option maxRecDepth 100000 in
theorem cBa_letGo (l : Launch) (D : va_G) (κ : Nat → ClassId) (qb : Nat → Nat) (b_moments b_gains b_topped b_endStiffs b_outs b_endsAt b_stiffAt b_stepsAt : Nat → Int32) (b_steps b_latest : Int32) (qf : Nat → Nat) (f_held f_couples f_endJoints f_lengths f_stiffs f_loadBeams f_loadSizes f_loadPlaces : Nat → Int32) (f_joints f_beams f_loads a2 : Int32) (z1 z2 z3 z4 z5 : Nat → Int32) (z6 z7 : Int32) (hf : FBa_letGo b_moments b_gains b_topped b_endStiffs b_outs b_stiffAt b_stepsAt b_steps f_endJoints f_beams a2 = some (z1, z2, z3, z4, z5, z6, z7)) : mV_ l yX0_letGo (Cond.code yX0_letGo cX0_letGo 4 none :: uw) ({ frames := 3, cells := 0, slots := 0, locals := 75 } : Room) D (tys0 κ) [.ref (qb 0), .ref (qf 0), .int a2] (List.flatten [pBa κ qb b_moments b_gains b_topped b_endStiffs b_outs b_endsAt b_stiffAt b_stepsAt b_steps b_latest, pFr κ qf f_held f_couples f_endJoints f_lengths f_stiffs f_loadBeams f_loadSizes f_loadPlaces f_joints f_beams f_loads])  (List.flatten [pBa κ qb z1 z2 z3 b_endStiffs z4 b_endsAt b_stiffAt z5 z6 z7, pFr κ qf f_held f_couples f_endJoints f_lengths f_stiffs f_loadBeams f_loadSizes f_loadPlaces f_joints f_beams f_loads]) := by
  unfold FBa_letGo at hf
  refine mV_of (by decide) (Nat.le_of_ble_eq_true rfl) ?_
  intro p e s m below meth c A ls H locs C0 hw hl
  obtain ⟨hx, hb, -, hml, hown, hts, -, -⟩ := id C0
  have hl : lv_has ls 4 [(0, .ref (qb 0)), (1, .ref (qf 0)), (2, .int a2)] := hl
  refine lv_aload_n hx hb dX0_letGo_0 rfl (lv_at hl 0 rfl) ?_
  refine lv_aload_n hx hb dX0_letGo_1 rfl (lv_at hl 1 rfl) ?_
  refine lv_iload_n hx hb dX0_letGo_2 rfl (lv_at hl 2 rfl) ?_
  obtain ⟨w1, w2, hk3, hf⟩ := b2_s hf
  refine rv_v (vq := (RX0, TX0, 10)) (As := [.ref (qf 0), .int a2]) (rest := []) (bs' := [pBa κ qb b_moments w1 w2 b_endStiffs b_outs b_endsAt b_stiffAt b_stepsAt b_steps b_latest, pFr κ qf f_held f_couples f_endJoints f_lengths f_stiffs f_loadBeams f_loadSizes f_loadPlaces f_joints f_beams f_loads]) C0 hw (cBa_shareOut l D κ qb b_moments b_gains b_topped b_endStiffs b_outs b_endsAt b_stiffAt b_stepsAt b_steps b_latest qf f_held f_couples f_endJoints f_lengths f_stiffs f_loadBeams f_loadSizes f_loadPlaces f_joints f_beams f_loads a2 w1 w2 hk3) cv_RX0_94 ⟨rfl, rfl, Nat.le_of_ble_eq_true rfl, Nat.le_of_ble_eq_true rfl⟩ ⟨Nat.zero_le _, Nat.zero_le _⟩ [0, 1] [] [0, 1] rfl rfl rfl rfl (by decide) rfl rfl rfl rfl rfl hl.1 (by simp only [List.map, List.sum_cons, List.sum_nil, Value.category]; decide) dX0_letGo_3 (fun H locs hw => ?_)
  refine lv_iconst (v := 0) hx hb dX0_letGo_6 (by decide) ?_
  refine lv_istore_n (lv' := [(3, .int (0 : Int32)), (0, .ref (qb 0)), (1, .ref (qf 0)), (2, .int a2)]) hx hb dX0_letGo_7 rfl hl (by decide) rfl (fun ls hl => ?_)
  refine wBa_letGo_L8 C0 qb w1 w2 b_endStiffs b_endsAt b_stiffAt b_stepsAt b_steps b_latest qf f_held f_couples f_endJoints f_lengths f_stiffs f_loadBeams f_loadSizes f_loadPlaces f_joints f_beams f_loads a2 z1 z2 z3 z4 z5 z6 z7 _ (fun v25 w26 w27 H locs ls hw hl  hf => ?_) 1000 (0 : Int32) b_moments b_outs H locs ls hw (lv_sub hl [1, 2, 3, 0] rfl)  hf
  refine lv_aload_n hx hb dX0_letGo_63 rfl (lv_at hl 0 rfl) ?_
  refine r_get C0 hw 0 7 (v := .ref (qb 8)) rfl rfl inX0 (by decide) lk_X0_34 rfl dX0_letGo_64 ?_
  refine lv_iload_n hx hb dX0_letGo_67 rfl (lv_at hl 1 rfl) ?_
  refine lv_dup2_11 hx hb dX0_letGo_68 rfl rfl ?_
  obtain ⟨hi28, hf⟩ := gd_s hf
  refine r_iald C0 hw 8 0 rfl rfl hi28 dX0_letGo_69 ?_
  refine lv_iconst (v := 1) hx hb dX0_letGo_70 (by decide) ?_
  refine lv_iadd hx hb dX0_letGo_71 ?_
  obtain ⟨hi29, hf⟩ := gd_s hf
  obtain ⟨w30, ew30⟩ : ∃ z : Nat → Int32, z = (upd b_stepsAt a2.toNatClampNeg ((b_stepsAt a2.toNatClampNeg) + (1 : Int32))) := ⟨_, rfl⟩
  have hf := lt_s_ hf w30 ew30
  refine r_iast C0 hw 8 0 rfl rfl hi29 dX0_letGo_72 (ws' := List.flatten [pBa κ qb w26 w1 w2 b_endStiffs w27 b_endsAt b_stiffAt w30 b_steps b_latest, pFr κ qf f_held f_couples f_endJoints f_lengths f_stiffs f_loadBeams f_loadSizes f_loadPlaces f_joints f_beams f_loads]) (by subst ew30; rfl) (fun H locs hw => ?_)
  refine lv_aload_n hx hb dX0_letGo_73 rfl (lv_at hl 0 rfl) ?_
  refine lv_dup hx hb dX0_letGo_74 rfl ?_
  refine r_get C0 hw 0 8 (v := .int b_steps) rfl rfl inX0 (by decide) lk_X0_41 rfl dX0_letGo_75 ?_
  refine lv_iconst (v := 1) hx hb dX0_letGo_78 (by decide) ?_
  refine lv_iadd hx hb dX0_letGo_79 ?_
  refine lv_topi (fun v31 ev31 => ?_)
  have hf := lt_s_ hf v31 ev31
  refine r_put C0 hw 0 8 (v := .int v31) (ws' := List.flatten [pBa κ qb w26 w1 w2 b_endStiffs w27 b_endsAt b_stiffAt w30 v31 b_latest, pFr κ qf f_held f_couples f_endJoints f_lengths f_stiffs f_loadBeams f_loadSizes f_loadPlaces f_joints f_beams f_loads]) rfl rfl inX0 tyX0_ok nmX0 (by decide) lk_X0_41 rfl rfl rfl rfl (Nat.le_of_ble_eq_true rfl) dX0_letGo_80 rfl (fun H locs hw => ?_)
  refine lv_aload_n hx hb dX0_letGo_83 rfl (lv_at hl 0 rfl) ?_
  refine lv_iload_n hx hb dX0_letGo_84 rfl (lv_at hl 1 rfl) ?_
  refine r_put C0 hw 0 9 (v := .int a2) (ws' := List.flatten [pBa κ qb w26 w1 w2 b_endStiffs w27 b_endsAt b_stiffAt w30 v31 a2, pFr κ qf f_held f_couples f_endJoints f_lengths f_stiffs f_loadBeams f_loadSizes f_loadPlaces f_joints f_beams f_loads]) rfl rfl inX0 tyX0_ok nmX0 (by decide) lk_X0_37 rfl rfl rfl rfl (Nat.le_of_ble_eq_true rfl) dX0_letGo_85 rfl (fun H locs hw => ?_)
  obtain ⟨rfl, rfl, rfl, rfl, rfl, rfl, rfl⟩ := e7_ hf
  exact r_vret C0 hw dX0_letGo_88
