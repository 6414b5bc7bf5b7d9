/-! layer 2: the sure moment -/
theorem fl_alg {f K D t x y X0 X1 : Int} (hD : 0 < D) (ht : 0 < t) (hx : 2 * x = t * X0) (hy : 2 * y = t * X1) : f + 2 * K * (2 * (x / (t * D)) + y / (t * D)) + (2 * K * (2 * (x - x / (t * D) * (t * D)) + (y - y / (t * D) * (t * D)))) / (t * D) = (f * D + K * (2 * X0 + X1)) / D := by
  have hW : t * D ≠ 0 := Int.ne_of_gt (Int.mul_pos ht hD)
  have e1 : 2 * K * (2 * (x - x / (t * D) * (t * D)) + (y - y / (t * D) * (t * D))) = t * (K * (2 * X0 + X1)) + (-(2 * K * (2 * (x / (t * D)) + y / (t * D)))) * (t * D) := by
    generalize x / (t * D) = a
    generalize y / (t * D) = b
    grind
  rw [e1, Int.add_mul_ediv_right _ _ hW, Int.mul_ediv_mul_of_pos _ _ ht, Int.add_comm (f * D), Int.add_mul_ediv_right _ _ (Int.ne_of_gt hD)]
  omega
theorem mul_b {a b A B : Int} (h1 : -A ≤ a) (h2 : a ≤ A) (h3 : 0 ≤ b) (h4 : b ≤ B) : -(A * B) ≤ a * b ∧ a * b ≤ A * B := by
  have hA : 0 ≤ A := by omega
  have h5 : a * b ≤ A * b := Int.mul_le_mul_of_nonneg_right h2 h3
  have h6 : (-A) * b ≤ a * b := Int.mul_le_mul_of_nonneg_right h1 h3
  have h7 : A * b ≤ A * B := Int.mul_le_mul_of_nonneg_left h4 hA
  rw [Int.neg_mul] at h6
  omega
theorem Xx_b {J B L : Nat} {fh fc fe fl fs fb fz fp bn : Nat → Int32} (hJ : J ≤ 6) (hB : B ≤ 10) (hL : L ≤ 8) (v : VF J B L fh fc fe fl fs fb fz fp) (hb : ∀ j, j < J → bn j = sI (atJ fe j (fun _ => 1)) 0 (2 * B)) (h4 : rkN (tq bn fh) J ≤ 4) {j : Nat} (hj : j < J) : -11750432598120528 ≤ Xx J B L fc fe fl fs fb fz fp (tq bn fh) j ∧ Xx J B L fc fe fl fs fb fz fp (tq bn fh) j ≤ 11750432598120528 := by
  unfold Xx
  by_cases hp : tq bn fh j = true
  · rw [if_pos hp]
    exact Nx_b hJ hB hL v hb h4 (rk_lt hp hj)
  · rw [if_neg hp]; omega
theorem Xx_2 {J B L : Nat} {fc fe fl fs fb fz fp : Nat → Int32} {p : Nat → Bool} {j : Nat} (hj : j < J) : 2 * (2 ^ (rkN p J - 1) * Xx J B L fc fe fl fs fb fz fp p j) = 2 ^ rkN p J * Xx J B L fc fe fl fs fb fz fp p j := by
  by_cases h : rkN p J = 0
  · have : ¬ p j = true := fun hp => by have := rk_lt hp hj; omega
    unfold Xx
    rw [if_neg this]
    simp
  · obtain ⟨n, hn⟩ : ∃ n, rkN p J = n + 1 := ⟨rkN p J - 1, by omega⟩
    rw [hn, Nat.add_sub_cancel, Int.pow_succ, Int.mul_comm (2 ^ n) 2, Int.mul_assoc]
theorem sure_e {J B L : Nat} {fh fc fe fl fs fb fz fp m mo bo bn bk : Nat → Int32} (g : GF 0 J B L fh fc fe fl fs fb fz fp m) (o : RO J fh m mo bo bn bk) (hb : ∀ j, j < J → bn j = sI (atJ fe j (fun _ => 1)) 0 (2 * B)) (hk : ∀ j, j < J → bk j = sI (atJ fe j (fun e => kB fl fs (e / 2))) 0 (2 * B)) {e : Nat} (he : e < 2 * B) (un0 : Nat → Int32) (g0 : Nat → Nat → Int64) (mat0 sd0 tr0 an0 : Nat → Int64) (ro0 : Nat → Int32) : ∃ (r : Int32) (un : Nat → Int32) (sz : Int32) (g' : Nat → Nat → Int64) (mat sd tr an : Nat → Int64) (ro : Nat → Int32) (w : Int64), FEq_sure un0 g0 fh fc fe fl fs fb fz fp (nI J) (nI B) (nI L) (nI e) = some (r, un, sz, g') ∧ FMo_sureOf m mat0 sd0 tr0 an0 ro0 (nI e) = some (r, mat, sd, tr, an, ro, w) := by
  have hJ := g.1.1
  have hB := g.1.2.1
  have hL := g.1.2.2.1
  have v := g.2.1
  have h4 : rkN (tq bn fh) J ≤ 4 := Nat.le_trans (rk_tn (p := tq bn fh) (fh := fh) J (fun j hj hp => ((tq_ends hB hb hj).mp hp).1)) g.2.2
  obtain ⟨un, g', c1, c2, c3⟩ := eqC g hb h4 un0 g0
  obtain ⟨mat, sd, tr, an, ro, r1, r2⟩ := eqS g o hk h4 mat0 sd0 tr0 an0 ro0
  obtain ⟨o1, o2, o3⟩ := ot_b he
  obtain ⟨j0, hj0, e0⟩ := vp_in_of (v.2.2.1 e he) (by omega)
  obtain ⟨j1, hj1, e1⟩ := vp_in_of (v.2.2.1 (ot e) o1) (by omega)
  obtain ⟨d1, d2⟩ := Dx_b hJ hB v hb
  have x0 := Xx_b hJ hB hL v hb h4 hj0
  have x1 := Xx_b hJ hB hL v hb h4 hj1
  have t0 := Xx_2 (B := B) (L := L) (fc := fc) (fe := fe) (fl := fl) (fs := fs) (fb := fb) (fz := fz) (fp := fp) (p := tq bn fh) hj0
  have t1 := Xx_2 (B := B) (L := L) (fc := fc) (fe := fe) (fl := fl) (fs := fs) (fb := fb) (fz := fz) (fp := fp) (p := tq bn fh) hj1
  have a0 := r2 j0 hj0 (by omega)
  have a1 := r2 j1 hj1 (by omega)
  have n0 := c3 j0 hj0
  have n1 := c3 j1 hj1
  have hp1 : (0 : Int) < 2 ^ rkN (tq bn fh) J ∧ (2 : Int) ^ rkN (tq bn fh) J ≤ 16 ∧ (0 : Int) < 2 ^ (rkN (tq bn fh) J - 1) ∧ (2 : Int) ^ (rkN (tq bn fh) J - 1) ≤ 8 := by
    rcases (show rkN (tq bn fh) J = 0 ∨ rkN (tq bn fh) J = 1 ∨ rkN (tq bn fh) J = 2 ∨ rkN (tq bn fh) J = 3 ∨ rkN (tq bn fh) J = 4 by omega) with z | z | z | z | z <;> rw [z] <;> decide
  have k1 := kk_e v he
  have k2 := (kB64 v he).1
  have f1 := fg_b hB hL v e
  have f2 := first_e g.1 v (e := e) (by omega)
  have q1 : nI e / (2 : Int32) = nI (e / 2) := pk_div (a := e) (d := 2) (by omega) (by omega) (by omega)
  have q2 : FFr_stiffness fl fs (nI (e / 2)) = some (kB fl fs (e / 2)) := Fr_stiffness hB v (by omega)
  have q3 : FFr_otherEnd (nI e) = some (nI (ot e)) := by
    unfold FFr_otherEnd
    rw [ot_x e (by omega)]
  have q4 : FFr_jointOf fe (nI (ot e)) = some (nI j1) := by rw [Fr_jointOf (by omega), e1]
  have q5 : FFr_jointOf fe (nI e) = some (nI j0) := by rw [Fr_jointOf (by omega), e0]
  have p3 : FMo_otherOf (nI e) = some (nI (ot e)) := Mo_otherOf (by omega)
  have p4 : FMo_jointOf m (nI (ot e)) = some (nI j1) := by rw [Mo_jointOf g.1 o1, e1]
  have p5 : FMo_jointOf m (nI e) = some (nI j0) := by rw [Mo_jointOf g.1 he, e0]
  have p6 : FMo_stiffOf m (nI e) = some (kB fl fs (e / 2)) := Mo_stiffOf g.1 v he
  have x64 : (fg fl fb fz fp L e).toInt64 = zL (fg fl fb fz fp L e).toInt := toInt64_z _
  have g60 : ∀ {α : Type} {o : Option α}, gd_ (nI j0) 6 o = o := fun {α o} => nI_gd (by omega) (by omega)
  have g61 : ∀ {α : Type} {o : Option α}, gd_ (nI j1) 6 o = o := fun {α o} => nI_gd (by omega) (by omega)
  have cj0 := nI_clamp (n := j0) (by omega)
  have cj1 := nI_clamp (n := j1) (by omega)
  have z2 : (2 : Int64) = zL 2 := by decide
  generalize Dx J B fe fl fs (tq bn fh) = D at *
  generalize Xx J B L fc fe fl fs fb fz fp (tq bn fh) j0 = X0 at *
  generalize Xx J B L fc fe fl fs fb fz fp (tq bn fh) j1 = X1 at *
  generalize (2 : Int) ^ rkN (tq bn fh) J = t at *
  generalize (2 : Int) ^ (rkN (tq bn fh) J - 1) = s at *
  have hf : -1420800 ≤ (fg fl fb fz fp L e).toInt ∧ (fg fl fb fz fp L e).toInt ≤ 1420800 := by
    clear t0 t1 hp1
    omega
  have hK : (0 : Int) ≤ ((kk fl fs e : Nat) : Int) ∧ ((kk fl fs e : Nat) : Int) ≤ 120 := by
    have := k1.2
    clear t0 t1 hp1 hf
    omega
  generalize (fg fl fb fz fp L e).toInt = f at *
  generalize ((kk fl fs e : Nat) : Int) = K at *
  have b1 := mul_b hf.1 hf.2 (Int.le_of_lt d1) d2
  have b2 : -1269046720597017024 * 4 ≤ (2 * X0 + X1) * K ∧ (2 * X0 + X1) * K ≤ 1269046720597017024 * 4 := by
    have := mul_b (a := 2 * X0 + X1) (A := 35251297794361584) (by omega) (by omega) hK.1 hK.2
    omega
  have bW := mul_b (a := t) (A := 16) (by omega) hp1.2.1 (Int.le_of_lt d1) d2
  have hW : 0 < t * D := Int.mul_pos hp1.1 d1
  have bx := mul_b (a := X0) (A := 11750432598120528) x0.1 x0.2 (Int.le_of_lt hp1.2.2.1) hp1.2.2.2
  have by_ := mul_b (a := X1) (A := 11750432598120528) x1.1 x1.2 (Int.le_of_lt hp1.2.2.1) hp1.2.2.2
  rw [Int.mul_comm X0 s] at bx
  rw [Int.mul_comm X1 s] at by_
  have m0 := Int.emod_nonneg (s * X0) (Int.ne_of_gt hW)
  have m1 := Int.emod_lt_of_pos (s * X0) hW
  have m2 := Int.emod_nonneg (s * X1) (Int.ne_of_gt hW)
  have m3 := Int.emod_lt_of_pos (s * X1) hW
  rw [Int.emod_def, Int.mul_comm (t * D)] at m0 m1 m2 m3
  have bv := mul_b (a := 2 * K) (b := 2 * (s * X0 - s * X0 / (t * D) * (t * D)) + (s * X1 - s * X1 / (t * D) * (t * D))) (A := 240) (B := 99864990950448) (by omega) (by omega) (by omega) (by omega)
  refine ⟨(zL ((f * D + K * (2 * X0 + X1)) / D)).toInt32, un, nI (rkN (tq bn fh) J), g', mat, sd, tr, an, ro, zL (t * D), ?_, ?_⟩
  · unfold FEq_sure
    rw [c1, b3_so2, c2, b1_so2, f2.1, b1_so2, if_pos (by rw [lg_cmp_ge, Int64.le_iff_toInt_le, i64r (by omega) (by omega), show (1 : Int64).toInt = 1 from by decide]; omega), q5, b1_so2, n0, b1_so2, q3, b1_so2, q4, b1_so2, n1, b1_so2, q1, q2, b1_so2, lt_eq2, k2, x64, z2, zL_mul, zL_mul, zL_add, zL_mul, zL_add, floorDiv_e (by rw [Int.mul_comm K]; omega) (by rw [Int.mul_comm K]; omega) d1 (by omega), b1_so2]
  · unfold FMo_sureOf
    rw [r1, b6_so2, p5, b1_so2, g60, cj0, a0, lt_eq2, p3, b1_so2, p4, b1_so2, g61, cj1, a1, lt_eq2, down_e (by omega) (by omega) hW (by omega), b1_so2, down_e (by omega) (by omega) hW (by omega), b1_so2, p6, b1_so2, lt_eq2, lt_eq2, f2.2, b1_so2, k2, x64, z2]
    simp only [zL_mul, zL_add, zL_sub]
    rw [down_e (by omega) (by omega) hW (by omega), b1_so2, zL_add, fl_alg d1 hp1.1 t0 t1]
