/-! layer 2: the equations, bounds -/
theorem mpM {x a b c n1 n2 n3 n4 D u M U : Int} (h : x * n1 + a * n2 + b * n3 + c * n4 = D * u) (hx : 0 ≤ x) (ha : 0 ≤ a) (hb : 0 ≤ b) (hc : 0 ≤ c) (hd : 2 * (a + b + c) ≤ x) (hD : 0 ≤ D) (hM : 0 ≤ M) (e1 : n1 = M ∨ n1 = -M) (e2 : -M ≤ n2 ∧ n2 ≤ M) (e3 : -M ≤ n3 ∧ n3 ≤ M) (e4 : -M ≤ n4 ∧ n4 ≤ M) (hu : -U ≤ u ∧ u ≤ U) : x * M ≤ 2 * (D * U) := by
  have a1 := Int.mul_le_mul_of_nonneg_left e2.1 ha
  have a2 := Int.mul_le_mul_of_nonneg_left e2.2 ha
  have b1 := Int.mul_le_mul_of_nonneg_left e3.1 hb
  have b2 := Int.mul_le_mul_of_nonneg_left e3.2 hb
  have c1 := Int.mul_le_mul_of_nonneg_left e4.1 hc
  have c2 := Int.mul_le_mul_of_nonneg_left e4.2 hc
  have d1 := Int.mul_le_mul_of_nonneg_left hu.1 hD
  have d2 := Int.mul_le_mul_of_nonneg_left hu.2 hD
  have m1 := Int.mul_le_mul_of_nonneg_right hd hM
  have m2 : 2 * (a + b + c) * M = 2 * (a * M) + 2 * (b * M) + 2 * (c * M) := by grind
  rw [m2] at m1
  rw [Int.mul_neg] at a1 b1 c1 d1
  rcases e1 with rfl | rfl
  · generalize x * n1 = A at *
    generalize a * n1 = B at *
    generalize b * n1 = C at *
    generalize c * n1 = E at *
    generalize a * n2 = F at *
    generalize b * n3 = G at *
    generalize c * n4 = H at *
    generalize D * u = I at *
    generalize D * U = K at *
    clear m2 hu hd e2 e3 e4
    omega
  · rw [Int.mul_neg] at h
    generalize x * M = A at *
    generalize a * M = B at *
    generalize b * M = C at *
    generalize c * M = E at *
    generalize a * n2 = F at *
    generalize b * n3 = G at *
    generalize c * n4 = H at *
    generalize D * u = I at *
    generalize D * U = K at *
    clear m2 hu hd e2 e3 e4
    omega
theorem mpQ {x y z w D M U Q : Int} (hx : 1 ≤ x) (hM : x * M ≤ 2 * (D * U)) (hD : D ≤ x * (y * z * w)) (hU : 0 ≤ U) (hQ : y * z * w ≤ Q) : M ≤ 2 * (Q * U) := by
  have h1 := Int.mul_le_mul_of_nonneg_right hD hU
  have h2 : x * (y * z * w) * U = x * (y * z * w * U) := Int.mul_assoc _ _ _
  rw [h2] at h1
  have h3 : x * M ≤ x * (2 * (y * z * w * U)) := by
    have e : x * (2 * (y * z * w * U)) = 2 * (x * (y * z * w * U)) := by grind
    rw [e]
    generalize x * M = A at *
    generalize x * (y * z * w * U) = B at *
    generalize D * U = C at *
    clear h2 e
    omega
  have h4 := Int.le_of_mul_le_mul_left h3 (by omega)
  have h5 := Int.mul_le_mul_of_nonneg_right hQ hU
  generalize y * z * w * U = A at *
  generalize Q * U = B at *
  clear h1 h2 h3
  omega
theorem max4 (n1 n2 n3 n4 : Int) : ∃ M : Int, 0 ≤ M ∧ (-M ≤ n1 ∧ n1 ≤ M) ∧ (-M ≤ n2 ∧ n2 ≤ M) ∧ (-M ≤ n3 ∧ n3 ≤ M) ∧ (-M ≤ n4 ∧ n4 ≤ M) ∧ ((n1 = M ∨ n1 = -M) ∨ (n2 = M ∨ n2 = -M) ∨ (n3 = M ∨ n3 = -M) ∨ (n4 = M ∨ n4 = -M)) := by
  have two : ∀ x y : Int, ∃ M : Int, 0 ≤ M ∧ (-M ≤ x ∧ x ≤ M) ∧ (-M ≤ y ∧ y ≤ M) ∧ ((x = M ∨ x = -M) ∨ (y = M ∨ y = -M)) := by
    intro x y
    by_cases h : x.natAbs ≤ y.natAbs
    · exact ⟨y.natAbs, by omega, by omega, by omega, by omega⟩
    · exact ⟨x.natAbs, by omega, by omega, by omega, by omega⟩
  obtain ⟨A, a1, a2, a3, a4⟩ := two n1 n2
  obtain ⟨B, b1, b2, b3, b4⟩ := two n3 n4
  by_cases h : A ≤ B
  · exact ⟨B, b1, by omega, by omega, b2, b3, Or.inr (Or.inr b4)⟩
  · refine ⟨A, a1, a2, a3, by omega, by omega, ?_⟩
    rcases a4 with a4 | a4
    · exact Or.inl a4
    · exact Or.inr (Or.inl a4)
theorem cram_b {x1 x2 x3 x4 a b c e f g u1 u2 u3 u4 U Q : Int} (ha : 0 ≤ a) (hb : 0 ≤ b) (hc : 0 ≤ c) (he : 0 ≤ e) (hf : 0 ≤ f) (hg : 0 ≤ g) (p1 : 1 ≤ x1) (p2 : 1 ≤ x2) (p3 : 1 ≤ x3) (p4 : 1 ≤ x4) (h1 : 2 * (a + b + c) ≤ x1) (h2 : 2 * (a + e + f) ≤ x2) (h3 : 2 * (b + e + g) ≤ x3) (h4 : 2 * (c + f + g) ≤ x4) (hU : 0 ≤ U) (v1 : -U ≤ u1 ∧ u1 ≤ U) (v2 : -U ≤ u2 ∧ u2 ≤ U) (v3 : -U ≤ u3 ∧ u3 ≤ U) (v4 : -U ≤ u4 ∧ u4 ≤ U) (q1 : x2 * x3 * x4 ≤ Q) (q2 : x1 * x3 * x4 ≤ Q) (q3 : x1 * x2 * x4 ≤ Q) (q4 : x1 * x2 * x3 ≤ Q) : ∃ M : Int, M ≤ 2 * (Q * U) ∧ (-M ≤ N1 x1 a b c a x2 e f b e x3 g c f g x4 u1 u2 u3 u4 ∧ N1 x1 a b c a x2 e f b e x3 g c f g x4 u1 u2 u3 u4 ≤ M) ∧ (-M ≤ N2 x1 a b c a x2 e f b e x3 g c f g x4 u1 u2 u3 u4 ∧ N2 x1 a b c a x2 e f b e x3 g c f g x4 u1 u2 u3 u4 ≤ M) ∧ (-M ≤ N3 x1 a b c a x2 e f b e x3 g c f g x4 u1 u2 u3 u4 ∧ N3 x1 a b c a x2 e f b e x3 g c f g x4 u1 u2 u3 u4 ≤ M) ∧ (-M ≤ N4 x1 a b c a x2 e f b e x3 g c f g x4 u1 u2 u3 u4 ∧ N4 x1 a b c a x2 e f b e x3 g c f g x4 u1 u2 u3 u4 ≤ M) := by
  obtain ⟨D0, D1⟩ := det_b ha hb hc he hf hg p1 p2 p3 p4 h1 h2 h3 h4
  have k1 := cram1 x1 a b c a x2 e f b e x3 g c f g x4 u1 u2 u3 u4
  have k2 := cram2 x1 a b c a x2 e f b e x3 g c f g x4 u1 u2 u3 u4
  have k3 := cram3 x1 a b c a x2 e f b e x3 g c f g x4 u1 u2 u3 u4
  have k4 := cram4 x1 a b c a x2 e f b e x3 g c f g x4 u1 u2 u3 u4
  generalize N1 x1 a b c a x2 e f b e x3 g c f g x4 u1 u2 u3 u4 = n1 at *
  generalize N2 x1 a b c a x2 e f b e x3 g c f g x4 u1 u2 u3 u4 = n2 at *
  generalize N3 x1 a b c a x2 e f b e x3 g c f g x4 u1 u2 u3 u4 = n3 at *
  generalize N4 x1 a b c a x2 e f b e x3 g c f g x4 u1 u2 u3 u4 = n4 at *
  generalize D4 x1 a b c a x2 e f b e x3 g c f g x4 = D at *
  obtain ⟨M, m0, m1, m2, m3, m4, m5⟩ := max4 n1 n2 n3 n4
  have o1 : x1 * x2 * x3 * x4 = x1 * (x2 * x3 * x4) := by grind
  have o2 : x1 * x2 * x3 * x4 = x2 * (x1 * x3 * x4) := by grind
  have o3 : x1 * x2 * x3 * x4 = x3 * (x1 * x2 * x4) := by grind
  have o4 : x1 * x2 * x3 * x4 = x4 * (x1 * x2 * x3) := by grind
  refine ⟨M, ?_, m1, m2, m3, m4⟩
  rcases m5 with m5 | m5 | m5 | m5
  · refine mpQ p1 (mpM k1 (by omega) ha hb hc h1 (by omega) m0 m5 m2 m3 m4 v1) (by rw [← o1]; exact D1) hU q1
  · refine mpQ p2 (mpM (by rw [← k2]; grind) (by omega) ha he hf h2 (by omega) m0 m5 m1 m3 m4 v2) (by rw [← o2]; exact D1) hU q2
  · refine mpQ p3 (mpM (by rw [← k3]; grind) (by omega) hb he hg h3 (by omega) m0 m5 m1 m2 m4 v3) (by rw [← o3]; exact D1) hU q3
  · refine mpQ p4 (mpM (by rw [← k4]; grind) (by omega) hc hf hg h4 (by omega) m0 m5 m1 m2 m3 v4) (by rw [← o4]; exact D1) hU q4
theorem am3 {x y z : Int} (hx : 0 ≤ x) (hy : 0 ≤ y) (hz : 0 ≤ z) (hs : x + y + z ≤ 4804) : x * y * z ≤ 4106248536 := by
  have c1 := Int.mul_nonneg (Int.add_nonneg (Int.add_nonneg hx hy) hz) (Int.add_nonneg (Int.add_nonneg (sq0 (x - y)) (sq0 (y - z))) (sq0 (z - x)))
  have c2 := Int.add_nonneg (Int.add_nonneg (Int.mul_nonneg hx (sq0 (y - z))) (Int.mul_nonneg hy (sq0 (z - x)))) (Int.mul_nonneg hz (sq0 (x - y)))
  have e : 2 * ((x + y + z) * (x + y + z) * (x + y + z)) = 54 * (x * y * z) + (x + y + z) * ((x - y) * (x - y) + (y - z) * (y - z) + (z - x) * (z - x)) + 6 * (x * ((y - z) * (y - z)) + y * ((z - x) * (z - x)) + z * ((x - y) * (x - y))) := by grind
  have h0 : 0 ≤ x + y + z := by omega
  generalize hS : x + y + z = S at *
  have b1 : S * S ≤ 4804 * 4804 := Int.mul_le_mul hs hs h0 (by omega)
  have b2 : S * S * S ≤ 4804 * 4804 * 4804 := Int.mul_le_mul b1 hs h0 (by omega)
  generalize S * S * S = A at *
  generalize S * ((x - y) * (x - y) + (y - z) * (y - z) + (z - x) * (z - x)) = B at *
  generalize x * ((y - z) * (y - z)) + y * ((z - x) * (z - x)) + z * ((x - y) * (x - y)) = C at *
  generalize x * y * z = E at *
  clear b1 hS
  omega
theorem am2 {x y : Int} : 4 * (x * y) ≤ (x + y) * (x + y) := by
  have h := sq0 (x - y)
  have e : (x + y) * (x + y) = (x - y) * (x - y) + 4 * (x * y) := by grind
  rw [e]
  generalize (x - y) * (x - y) = A at *
  generalize x * y = B at *
  clear e
  omega
theorem am4 {x y z w : Int} (hx : 0 ≤ x) (hy : 0 ≤ y) (hz : 0 ≤ z) (hw : 0 ≤ w) (hs : x + y + z + w ≤ 4804) : x * y * z * w ≤ 2080520644801 := by
  have h1 := am2 (x := x) (y := y)
  have h2 := am2 (x := z) (y := w)
  have h3 := am2 (x := x + y) (y := z + w)
  have p1 := Int.mul_le_mul h1 h2 (by have := Int.mul_nonneg hz hw; omega) (sq0 _)
  have e1 : 4 * (x * y) * (4 * (z * w)) = 16 * (x * y * z * w) := by grind
  have e2 : (x + y) * (x + y) * ((z + w) * (z + w)) = ((x + y) * (z + w)) * ((x + y) * (z + w)) := by grind
  have h0 : 0 ≤ x + y + (z + w) := by omega
  have hs2 : x + y + (z + w) ≤ 4804 := by omega
  have b1 : (x + y + (z + w)) * (x + y + (z + w)) ≤ 4804 * 4804 := Int.mul_le_mul hs2 hs2 h0 (by omega)
  have n1 := Int.mul_nonneg (Int.add_nonneg hx hy) (Int.add_nonneg hz hw)
  rw [e1, e2] at p1
  generalize (x + y) * (z + w) = A at *
  have b2 : A ≤ 5769604 := by
    generalize (x + y + (z + w)) * (x + y + (z + w)) = B at *
    clear p1 e1 e2
    omega
  have b3 : A * A ≤ 5769604 * 5769604 := Int.mul_le_mul b2 b2 n1 (by omega)
  generalize A * A = C at *
  generalize x * y * z * w = E at *
  clear e1 e2 h1 h2 h3
  omega
