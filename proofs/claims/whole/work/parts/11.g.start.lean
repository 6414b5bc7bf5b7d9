theorem in_X6 : Cond.instantiable RX6 11 ∈ uw := uw_1 (List.mem_of_getElem? (i := 16) rfl) rfl
theorem in_X7 : Cond.instantiable RX7 28 ∈ uw := uw_3 (List.mem_of_getElem? (i := 229) rfl) rfl
theorem it_X6 : Cond.initialized RX6 ∈ uw := uw_1 (List.mem_of_getElem? (i := 1) rfl) rfl
theorem it_X7 : Cond.initialized RX7 ∈ uw := uw_1 (List.mem_of_getElem? (i := 8) rfl) rfl
theorem cl_L_7 : Cond.classLink R_law 7 RX6 ∈ uw := uw_1 (List.mem_of_getElem? (i := 15) rfl) rfl
theorem cl_L_10 : Cond.classLink R_law 10 RX7 ∈ uw := uw_3 (List.mem_of_getElem? (i := 228) rfl) rfl
theorem ml_L_9 : Cond.methodLink R_law 9 yX6_init ∈ uw := uw_1 (List.mem_of_getElem? (i := 17) rfl) rfl
theorem ml_L_12 : Cond.methodLink R_law 12 yX7_init ∈ uw := uw_3 (List.mem_of_getElem? (i := 230) rfl) rfl
theorem cc_X6 : Cond.code yX6_init cX6_init 2 none ∈ uw := uw_1 (List.mem_of_getElem? (i := 19) rfl) rfl
theorem cc_X7 : Cond.code yX7_init cX7_init 1 none ∈ uw := uw_3 (List.mem_of_getElem? (i := 232) rfl) rfl
theorem ci_X6 : Cond.instanceMethod yX6_init ∈ uw := uw_1 (List.mem_of_getElem? (i := 18) rfl) rfl
theorem ci_X7 : Cond.instanceMethod yX7_init ∈ uw := uw_3 (List.mem_of_getElem? (i := 231) rfl) rfl
theorem hs_X6_init : yX6_init.cls ≠ "java/lang/invoke/MethodHandle" ∧ yX6_init.cls ≠ "java/lang/invoke/VarHandle" ∧ (parseMethodDescriptor yX6_init.desc).map (fun d => d.parameters.length) = some 0 := by decide +kernel
theorem hs_X7_init : yX7_init.cls ≠ "java/lang/invoke/MethodHandle" ∧ yX7_init.cls ≠ "java/lang/invoke/VarHandle" ∧ (parseMethodDescriptor yX7_init.desc).map (fun d => d.parameters.length) = some 0 := by decide +kernel
theorem sr_57 : Cond.stringRef RX5 57 "turn" ∈ lw_tbl := List.mem_append_right _ (List.mem_append_right _ (List.mem_append_left _ (List.mem_of_getElem? (i := 61) rfl)))
theorem sr_67 : Cond.stringRef RX5 67 "hold" ∈ lw_tbl := List.mem_append_right _ (List.mem_append_right _ (List.mem_append_left _ (List.mem_of_getElem? (i := 134) rfl)))
theorem sr_69 : Cond.stringRef RX5 69 "beam" ∈ lw_tbl := List.mem_append_right _ (List.mem_append_right _ (List.mem_append_left _ (List.mem_of_getElem? (i := 135) rfl)))
theorem sr_74 : Cond.stringRef RX5 74 "point" ∈ lw_tbl := List.mem_append_right _ (List.mem_append_right _ (List.mem_append_left _ (List.mem_of_getElem? (i := 148) rfl)))
theorem sr_79 : Cond.stringRef RX5 79 "all" ∈ lw_tbl := List.mem_append_right _ (List.mem_append_right _ (List.mem_append_left _ (List.mem_of_getElem? (i := 157) rfl)))
theorem zl_0 : Cond.laysStatic "java/lang/String" "COMPACT_STRINGS" "Z" ∈ lw_tbl := List.mem_append_right _ (List.mem_append_right _ (List.mem_append_left _ (List.mem_of_getElem? (i := 75) rfl)))
theorem zl_1 : Cond.laysStatic "jdk/internal/util/Preconditions" "SIOOBE_FORMATTER" "Ljava/util/function/BiFunction;" ∈ lw_tbl := List.mem_append_right _ (List.mem_append_right _ (List.mem_append_left _ (List.mem_of_getElem? (i := 91) rfl)))
theorem zi_0 : Cond.initialized "java/lang/String" ∈ uw := uw_1 (List.mem_of_getElem? (i := 9) rfl) rfl
theorem zi_1 : Cond.initialized "jdk/internal/util/Preconditions" ∈ uw := uw_1 (List.mem_of_getElem? (i := 11) rfl) rfl
/-! the law's start -/
theorem law_K {s : State} {args : Array Value} (hts : ∀ w ∈ uw, w.before args s = true) (h4 : va_AO RX2 s) (h5 : va_AO RX3 s) (h6 : (Cond.arrayOver (.array .long)).before #[] s = true) : ∃ (D : va_G) (κ : Nat → ClassId), va_K D vwCl (tys0 κ) s := by
  obtain ⟨c0, n0, u0⟩ := u_known (C := RX0) (T := TX0) (N := 10) (n := 10) hts inX0 (hts _ in_X0)
  obtain ⟨c1, n1, u1⟩ := u_known (C := RX1) (T := TX1) (N := 3) (n := 3) hts inX1 (hts _ in_X1)
  obtain ⟨c2, n2, u2⟩ := u_known (C := RX2) (T := TX2) (N := 11) (n := 11) hts inX2 (hts _ in_X2)
  obtain ⟨c3, n3, u3⟩ := u_known (C := RX3) (T := TX3) (N := 3) (n := 3) hts inX3 (hts _ in_X3)
  obtain ⟨c4, n4, u4⟩ := u_known (C := RX4) (T := TX4) (N := 2) (n := 2) hts inX4 (hts _ in_X4)
  obtain ⟨c5, n5, u5⟩ := u_known (C := RX5) (T := TX5) (N := 8) (n := 8) hts inX5 (hts _ in_X5)
  obtain ⟨c6, n6, u6⟩ := u_known (C := RX6) (T := TX6) (N := 11) (n := 11) hts inX6 (hts _ in_X6)
  obtain ⟨c7, n7, u7⟩ := u_known (C := RX7) (T := TX7) (N := 28) (n := 28) hts inX7 (hts _ in_X7)
  obtain ⟨k0, a0, p0, x0, y0, z0⟩ := Cond.arrayClass_spec (hts _ an_int)
  obtain ⟨k1, a1, p1, x1, y1, z1⟩ := Cond.arrayClass_spec (hts _ an_boolean)
  obtain ⟨k2, a2, p2, x2, y2, z2⟩ := Cond.arrayClass_spec (hts _ an_byte)
  obtain ⟨k3, a3, p3, x3, y3, z3⟩ := Cond.arrayClass_spec (hts _ an_long)
  obtain ⟨p4, k4, a4, w4, -, y4, z4, x4⟩ := Cond.arrayOver_spec h4
  obtain ⟨p5, k5, a5, w5, -, y5, z5, x5⟩ := Cond.arrayOver_spec h5
  obtain ⟨p6, k6, a6, w6, -, y6, z6, x6⟩ := Jvm.Stand.arrayOver_specB h6
  refine ⟨(fun k => [c0, c1, c2, c3, c4, c5, c6, c7].getD k 0, fun k => [n0, n1, n2, n3, n4, n5, n6, n7].getD k (fun _ => 0)), fun k => [k0, k1, k2, k3, k4, k5, k6].getD k 0, ?_, ?_⟩
  · intro k q hq
    match k, hq with
    | 0, hq => cases hq; exact u0
    | 1, hq => cases hq; exact u1
    | 2, hq => cases hq; exact u2
    | 3, hq => cases hq; exact u3
    | 4, hq => cases hq; exact u4
    | 5, hq => cases hq; exact u5
    | 6, hq => cases hq; exact u6
    | 7, hq => cases hq; exact u7
    | k + 8, hq => simp [vwCl] at hq
  · intro k q hq
    match k, hq with
    | 0, hq => cases hq; exact ⟨fun N z => ⟨fun k h => (by cases h), a0, y0, p0, z0⟩, x0⟩
    | 1, hq => cases hq; exact ⟨fun N z => ⟨fun k h => (by cases h), a1, y1, p1, z1⟩, x1⟩
    | 2, hq => cases hq; exact ⟨fun N z => ⟨fun k h => (by cases h), a2, y2, p2, z2⟩, x2⟩
    | 3, hq => cases hq; exact ⟨fun N z => ⟨fun k h => (by cases h), a3, y3, p3, z3⟩, x3⟩
    | 4, hq => cases hq; exact ⟨fun N z => ⟨fun k h => (by cases h), a4, y4, p4, z4⟩, a4, p4, y4, z4, w4, x4⟩
    | 5, hq => cases hq; exact ⟨fun N z => ⟨fun k h => (by cases h), a5, y5, p5, z5⟩, a5, p5, y5, z5, w5, x5⟩
    | 6, hq => cases hq; exact ⟨fun N z => ⟨fun k h => (by cases h), a6, y6, p6, z6⟩, x6⟩
    | k + 7, hq => simp [tys0] at hq
def tmS : Nat → Term := fun i => ([.string "JointMoments$Teller" 57, .string "JointMoments$Teller" 67, .string "JointMoments$Teller" 69, .string "JointMoments$Teller" 74, .string "JointMoments$Teller" 79] : List Term).getD i .null
set_option maxRecDepth 100000 in
set_option maxHeartbeats 4000000 in
theorem law_ex {s : State} {b : Nat} (ht0 : ∀ w ∈ lw_tbl, w.before #[Value.ref b] s = true) (hts : ∀ w ∈ uw, w.before #[Value.ref b] s = true) (hgv : (Jvm.Cond.and given_1 narrow_1).before #[Value.ref b] s = true) : ∃ adK adV : Nat → Nat, ex_ adK adV (fun q : Nat => s.heap.size ≤ q) s := by
  have hs := flat_of_before _ hgv
  have hA : ∀ a : Nat, a < s.heap.size → ¬ (fun q : Nat => s.heap.size ≤ q) a := fun a h => Nat.not_le.mpr h
  obtain ⟨adK, adV, h1, h2⟩ := vk_Sof (args := #[Value.ref b]) (s := s) (N := 5) (tm := tmS) (len := slen) (byt := sbyt) (A := fun q : Nat => s.heap.size ≤ q)
    (fun i hi => by rcases (show i = 0 ∨ i = 1 ∨ i = 2 ∨ i = 3 ∨ i = 4 by omega) with rfl | rfl | rfl | rfl | rfl <;> decide)
    (fun i hi => by rcases (show i = 0 ∨ i = 1 ∨ i = 2 ∨ i = 3 ∨ i = 4 by omega) with rfl | rfl | rfl | rfl | rfl <;> exact hs _ (by decide +kernel))
    (fun i hi => by rcases (show i = 0 ∨ i = 1 ∨ i = 2 ∨ i = 3 ∨ i = 4 by omega) with rfl | rfl | rfl | rfl | rfl <;> exact hs _ (by decide +kernel))
    (fun i hi => by rcases (show i = 0 ∨ i = 1 ∨ i = 2 ∨ i = 3 ∨ i = 4 by omega) with rfl | rfl | rfl | rfl | rfl <;> exact hs _ (by decide +kernel))
    (fun i hi => by rcases (show i = 0 ∨ i = 1 ∨ i = 2 ∨ i = 3 ∨ i = 4 by omega) with rfl | rfl | rfl | rfl | rfl <;> exact hs _ (by decide +kernel))
    (fun i hi j hj => by
      have hj5 : j < 5 := Nat.lt_of_lt_of_le hj (by rcases (show i = 0 ∨ i = 1 ∨ i = 2 ∨ i = 3 ∨ i = 4 by omega) with rfl | rfl | rfl | rfl | rfl <;> decide)
      rcases (show j = 0 ∨ j = 1 ∨ j = 2 ∨ j = 3 ∨ j = 4 by omega) with rfl | rfl | rfl | rfl | rfl <;> rcases (show i = 0 ∨ i = 1 ∨ i = 2 ∨ i = 3 ∨ i = 4 by omega) with rfl | rfl | rfl | rfl | rfl <;> first | exact absurd hj (by decide) | exact hs _ (by decide +kernel))
    (fun i j hi hj hij => by
      rcases (show j = 0 ∨ j = 1 ∨ j = 2 ∨ j = 3 ∨ j = 4 by omega) with rfl | rfl | rfl | rfl | rfl <;> rcases (show i = 0 ∨ i = 1 ∨ i = 2 ∨ i = 3 ∨ i = 4 by omega) with rfl | rfl | rfl | rfl | rfl <;> first | exact absurd rfl hij | exact Or.inl (hs _ (by decide +kernel)) | exact Or.inr (hs _ (by decide +kernel))) hA
  refine ⟨adK, adV, h1, fun i hi => ?_, va_Zof (ht0 _ zl_0) (hts _ zi_0) (va_eqi (hs _ (by decide +kernel))) hA, va_Zqof (ht0 _ zl_1) (hts _ zi_1) (hs _ (by decide +kernel)) hA⟩
  rcases (show i = 0 ∨ i = 1 ∨ i = 2 ∨ i = 3 ∨ i = 4 by omega) with rfl | rfl | rfl | rfl | rfl
  · exact vk_R.of (ht0 _ sr_57) (h2 0 hi)
  · exact vk_R.of (ht0 _ sr_67) (h2 1 hi)
  · exact vk_R.of (ht0 _ sr_69) (h2 2 hi)
  · exact vk_R.of (ht0 _ sr_74) (h2 3 hi)
  · exact vk_R.of (ht0 _ sr_79) (h2 4 hi)
theorem law_nx {s : State} {b : Nat} (hts : ∀ w ∈ lw_tbl, w.before #[Value.ref b] s = true) : nx_ s := ⟨⟨va_Nw.of rfl (hts _ (List.mem_append_right _ (List.mem_append_left _ (List.mem_of_getElem? (i := 25) rfl)))), va_Nw.of rfl (hts _ (List.mem_append_right _ (List.mem_append_left _ (List.mem_of_getElem? (i := 31) rfl))))⟩, va_Nw.of rfl (hts _ (List.mem_append_right _ (List.mem_append_left _ (List.mem_of_getElem? (i := 77) rfl)))), va_Nw.of rfl (hts _ (List.mem_append_right _ (List.mem_append_left _ (List.mem_of_getElem? (i := 124) rfl)))), va_Nw.of rfl (hts _ (List.mem_append_right _ (List.mem_append_left _ (List.mem_of_getElem? (i := 143) rfl)))), va_Nw.of rfl (hts _ (List.mem_append_right _ (List.mem_append_left _ (List.mem_of_getElem? (i := 206) rfl)))), hts _ (List.mem_append_right _ (List.mem_append_left _ (List.mem_of_getElem? (i := 202) rfl))), hts _ (List.mem_append_right _ (List.mem_append_left _ (List.mem_of_getElem? (i := 204) rfl))), hts _ (List.mem_append_right _ (List.mem_append_left _ (List.mem_of_getElem? (i := 129) rfl)))⟩
theorem nx_warm {s U : State} (h : nx_ s) (hW : s.WarmedH U.vm) : nx_ U := ⟨⟨va_Nw.warmM hW h.1.1, va_Nw.warmM hW h.1.2⟩, va_Nw.warmM hW h.2.1, va_Nw.warmM hW h.2.2.1, va_Nw.warmM hW h.2.2.2.1, va_Nw.warmM hW h.2.2.2.2.1, va_AO.moved hW.alike h.2.2.2.2.2.1, va_AO.moved hW.alike h.2.2.2.2.2.2.1, nx_ao hW h.2.2.2.2.2.2.2⟩
theorem nx_blind {U : State} {g : JFrame} {mk : MethodId} {a : Array Value} (h : nx_ U) : nx_ (U.calling g mk a) := ⟨⟨va_Nw.same rfl rfl h.1.1, va_Nw.same rfl rfl h.1.2⟩, va_Nw.same rfl rfl h.2.1, va_Nw.same rfl rfl h.2.2.1, va_Nw.same rfl rfl h.2.2.2.1, va_Nw.same rfl rfl h.2.2.2.2.1, va_AO.moved (u := U) (U := U.calling g mk a) (Vm.Alike.refl U.vm) h.2.2.2.2.2.1, va_AO.moved (u := U) (U := U.calling g mk a) (Vm.Alike.refl U.vm) h.2.2.2.2.2.2.1, Jvm.Stand.arrayOver_alikeB (U := U.calling g mk a) (Vm.Alike.refl U.vm) h.2.2.2.2.2.2.2⟩
theorem INV0 : INV (fun _ => 0) 0 0 (fun _ => 0) 0 (fun _ => 0) (fun _ => 0) (fun _ => 0) (fun _ => 0) (fun _ => 0) (fun _ => 0) 0 (-4 : Int32) (fun _ => 0) (fun _ => 0) (fun _ => 0) (fun _ => 0) (fun _ => 0) (fun _ => 0) (fun _ => 0) (fun _ => 0) 0 0 0 (fun _ => 0) (fun _ => 0) (fun _ => 0) (fun _ => 0) (fun _ => 0) (fun _ => 0) (fun _ => 0) (fun _ => 0) (fun _ => 0) 0 0 0 (fun _ => 0) (fun _ => 0) (fun _ => 0) (fun _ => 0) (fun _ => 0) (fun _ => 0) (fun _ => 0) (fun _ => 0) 0 0 0 (fun _ => 0) 0 (-1 : Int32) (fun _ => 0) 0 (-1 : Int32) (fun _ => 0) 0 (-1 : Int32) (fun _ => 0) 0 (-1 : Int32) (fun _ => 0) (fun _ => 0) 0 0 (upd (upd (upd (upd (upd (upd (fun _ => 0) (0 : Int32).toNatClampNeg (0 : Int32)) (1 : Int32).toNatClampNeg (4 : Int32)) (2 : Int32).toNatClampNeg (8 : Int32)) (3 : Int32).toNatClampNeg (12 : Int32)) (4 : Int32).toNatClampNeg (17 : Int32)) (5 : Int32).toNatClampNeg (20 : Int32)) (upd (upd (upd (upd (upd (upd (upd (upd (upd (upd (upd (upd (upd (upd (upd (upd (upd (upd (upd (upd (fun _ => 0) (0 : Int32).toNatClampNeg (116 : Int32)) (1 : Int32).toNatClampNeg (117 : Int32)) (2 : Int32).toNatClampNeg (114 : Int32)) (3 : Int32).toNatClampNeg (110 : Int32)) (4 : Int32).toNatClampNeg (104 : Int32)) (5 : Int32).toNatClampNeg (111 : Int32)) (6 : Int32).toNatClampNeg (108 : Int32)) (7 : Int32).toNatClampNeg (100 : Int32)) (8 : Int32).toNatClampNeg (98 : Int32)) (9 : Int32).toNatClampNeg (101 : Int32)) (10 : Int32).toNatClampNeg (97 : Int32)) (11 : Int32).toNatClampNeg (109 : Int32)) (12 : Int32).toNatClampNeg (112 : Int32)) (13 : Int32).toNatClampNeg (111 : Int32)) (14 : Int32).toNatClampNeg (105 : Int32)) (15 : Int32).toNatClampNeg (110 : Int32)) (16 : Int32).toNatClampNeg (116 : Int32)) (17 : Int32).toNatClampNeg (97 : Int32)) (18 : Int32).toNatClampNeg (108 : Int32)) (19 : Int32).toNatClampNeg (108 : Int32)) (fun _ => 0) (fun _ => 0) 0 (-4 : Int32) (upd (upd (fun _ => 0) (0 : Int32).toNatClampNeg (vp_nar .boolean (0 : Int32))) (1 : Int32).toNatClampNeg (vp_nar .boolean (0 : Int32))) (upd (upd (upd (upd (fun _ => 0) (0 : Int32).toNatClampNeg (-4 : Int32)) (1 : Int32).toNatClampNeg (-4 : Int32)) (2 : Int32).toNatClampNeg (-4 : Int32)) (3 : Int32).toNatClampNeg (-4 : Int32)) (upd (upd (upd (upd (fun _ => 0) (0 : Int32).toNatClampNeg (0 : Int32)) (1 : Int32).toNatClampNeg (0 : Int32)) (2 : Int32).toNatClampNeg (0 : Int32)) (3 : Int32).toNatClampNeg (0 : Int32)) (fun _ => 0) 0 := by
  refine ⟨0, 0, 0, ⟨rfl, rfl, rfl⟩, ⟨⟨by omega, by omega, by omega, rfl, rfl, rfl, fun j hj => absurd hj (by omega), fun j hj => absurd hj (by omega), fun j hj => absurd hj (by omega)⟩, ⟨fun _ _ => Or.inl rfl, fun j hj => absurd hj (by omega), fun j hj => absurd hj (by omega), fun j hj => absurd hj (by omega), fun j hj => absurd hj (by omega), fun j hj => absurd hj (by omega), fun j hj => absurd hj (by omega)⟩, Nat.zero_le _⟩, ⟨fun j hj => absurd hj (by omega), fun j hj => absurd hj (by omega), fun j hj => absurd hj (by omega), rfl, rfl, Or.inl rfl, Nat.zero_le _⟩, ⟨by decide, Or.inl rfl, fun z => absurd rfl z⟩, ⟨by decide, Or.inl rfl, fun z => absurd rfl z⟩, ⟨0, by omega, rfl, rfl, fun j hj => absurd hj (by omega)⟩, ⟨⟨fun _ _ => rfl, Or.inl ⟨by decide, by decide⟩⟩, ⟨fun _ _ => rfl, Or.inl ⟨by decide, by decide⟩⟩, ⟨fun _ _ => rfl, Or.inl ⟨by decide, by decide⟩⟩, ⟨fun _ _ => rfl, Or.inl ⟨by decide, by decide⟩⟩⟩, rfl, rfl, ⟨by decide +kernel, by decide +kernel⟩, fun _ _ => Or.inl rfl⟩
