/-! layer 2: the equations, their algebra -/
def D3 (a b c d e f g h i : Int) : Int := a * (e * i - f * h) - b * (d * i - f * g) + c * (d * h - e * g)
def D4 (a b c d e f g h i j k l p q r s : Int) : Int := a * D3 f g h j k l q r s - b * D3 e g h i k l p r s + c * D3 e f h i j l p q s - d * D3 e f g i j k p q r
theorem tri_ {e f g x y z : Int} (he : 0 ≤ e) (hf : 0 ≤ f) (hg : 0 ≤ g) (hx : 2 * (e + f) ≤ x) (hy : 2 * (e + g) ≤ y) (hz : 2 * (f + g) ≤ z) : 12 * (e * f * g) ≤ x * (g * g) + y * (f * f) + z * (e * e) := by
  have h1 : 2 * (e + f) * (g * g) ≤ x * (g * g) := Int.mul_le_mul_of_nonneg_right hx (Int.mul_nonneg hg hg)
  have h2 : 2 * (e + g) * (f * f) ≤ y * (f * f) := Int.mul_le_mul_of_nonneg_right hy (Int.mul_nonneg hf hf)
  have h3 : 2 * (f + g) * (e * e) ≤ z * (e * e) := Int.mul_le_mul_of_nonneg_right hz (Int.mul_nonneg he he)
  have q : ∀ x y : Int, 0 ≤ (x - y) * (x - y) := fun x y => by
    rcases Int.le_total 0 (x - y) with h | h
    · exact Int.mul_nonneg h h
    · exact Int.mul_nonneg_of_nonpos_of_nonpos h h
  have h4 := Int.mul_nonneg he (q f g)
  have h5 := Int.mul_nonneg hf (q e g)
  have h6 := Int.mul_nonneg hg (q e f)
  have e1 : 2 * (e + f) * (g * g) + 2 * (e + g) * (f * f) + 2 * (f + g) * (e * e) = 12 * (e * f * g) + 2 * (e * ((f - g) * (f - g))) + 2 * (f * ((e - g) * (e - g))) + 2 * (g * ((e - f) * (e - f))) := by grind
  omega
theorem sq0 (x : Int) : 0 ≤ x * x := by
  rcases Int.le_total 0 x with h | h
  · exact Int.mul_nonneg h h
  · exact Int.mul_nonneg_of_nonpos_of_nonpos h h
theorem up4 {t1 t2 t3 t4 p1 p2 p3 p4 p5 p6 : Int} (h1 : 12 * t1 ≤ p1 + p2 + p3) (h2 : 12 * t2 ≤ p1 + p4 + p5) (h3 : 12 * t3 ≤ p2 + p4 + p6) (h4 : 12 * t4 ≤ p3 + p5 + p6) : 12 * (t1 + t2 + t3 + t4) ≤ 2 * (p1 + p2 + p3 + p4 + p5 + p6) := by omega
theorem up3 {s1 s2 s3 p1 p2 p3 p4 p5 p6 : Int} (h1 : 4 * s1 ≤ p1) (h2 : 4 * s1 ≤ p6) (h3 : 4 * s2 ≤ p2) (h4 : 4 * s2 ≤ p5) (h5 : 4 * s3 ≤ p3) (h6 : 4 * s3 ≤ p4) : 8 * (s1 + s2 + s3) ≤ p1 + p2 + p3 + p4 + p5 + p6 := by omega
theorem upE {P p t s k : Int} (h1 : 12 * t ≤ 2 * p) (h2 : 8 * s ≤ p) (h3 : 0 ≤ p) (h4 : 0 ≤ k) : P - p + 2 * t + s - 2 * k ≤ P := by omega
theorem loE {P p t s k : Int} (hP : 0 < P) (h1 : 0 ≤ t) (h2 : 2 * k ≤ 2 * s) (h3 : 16 * s ≤ 3 * P) (h4 : 2 * p ≤ P) : 0 < P - p + 2 * t + s - 2 * k := by omega
theorem sqp_ {x y z : Int} (hz : 0 ≤ z) (hx : 2 * z ≤ x) (hy : 2 * z ≤ y) : 4 * (z * z) ≤ x * y := by
  have h1 := Int.mul_le_mul hx hy (by omega) (by omega)
  have e2 : 2 * z * (2 * z) = 4 * (z * z) := by grind
  rw [e2] at h1
  exact h1
theorem row_ {x p q r t : Int} (ht : 0 ≤ t) (hx : 2 * (p + q + r) ≤ x) : 2 * (t * (p + q + r)) ≤ t * x := by
  have h1 := Int.mul_le_mul_of_nonneg_left hx ht
  have e2 : t * (2 * (p + q + r)) = 2 * (t * (p + q + r)) := by grind
  rw [e2] at h1
  exact h1
theorem prd_ {x y z p q : Int} (hz : 0 ≤ z) (hx : 0 ≤ x) (hy : 0 ≤ y) (hp : 2 * z ≤ p) (hq : 2 * z ≤ q) : 4 * (x * (y * (z * z))) ≤ (q * x * y + p * x * y) * z := by
  have e1 := Int.mul_le_mul_of_nonneg_left hp (Int.mul_nonneg (Int.mul_nonneg hx hy) hz)
  have e2 := Int.mul_le_mul_of_nonneg_left hq (Int.mul_nonneg (Int.mul_nonneg hx hy) hz)
  have e3 : x * y * z * (2 * z) = 2 * (x * (y * (z * z))) := by grind
  have e4 : (q * x * y + p * x * y) * z = x * y * z * p + x * y * z * q := by grind
  rw [e3] at e1 e2
  rw [e4]
  generalize x * (y * (z * z)) = A at *
  generalize x * y * z * p = B at *
  generalize x * y * z * q = C at *
  omega
theorem tr_ {w x y z e f g : Int} (hw : 0 ≤ w) (he : 0 ≤ e) (hf : 0 ≤ f) (hg : 0 ≤ g) (hx : 2 * (e + f) ≤ x) (hy : 2 * (e + g) ≤ y) (hz : 2 * (f + g) ≤ z) : 12 * (w * (e * f * g)) ≤ w * (x * (g * g)) + w * (y * (f * f)) + w * (z * (e * e)) := by
  have h1 := Int.mul_le_mul_of_nonneg_left (tri_ he hf hg hx hy hz) hw
  have s1 : w * (12 * (e * f * g)) = 12 * (w * (e * f * g)) := by grind
  have u1 : w * (x * (g * g) + y * (f * f) + z * (e * e)) = w * (x * (g * g)) + w * (y * (f * f)) + w * (z * (e * e)) := by grind
  rw [s1, u1] at h1
  exact h1
theorem sg_ {x y z g : Int} (hz : 0 ≤ z) (hx : 2 * z ≤ x) (hy : 2 * z ≤ y) : 4 * ((z * g) * (z * g)) ≤ x * (y * (g * g)) := by
  have h1 := Int.mul_le_mul_of_nonneg_right (sqp_ hz hx hy) (sq0 g)
  have e1 : 4 * (z * z) * (g * g) = 4 * ((z * g) * (z * g)) := by grind
  rw [e1, Int.mul_assoc x y] at h1
  exact h1
theorem cy_ {u v w : Int} : 2 * (u * v + u * w + v * w) ≤ 2 * (u * u + v * v + w * w) := by
  have c1 := sq0 (u - v)
  have c2 := sq0 (u - w)
  have c3 := sq0 (v - w)
  have d1 : (u - v) * (u - v) = u * u - 2 * (u * v) + v * v := by grind
  have d2 : (u - w) * (u - w) = u * u - 2 * (u * w) + w * w := by grind
  have d3 : (v - w) * (v - w) = v * v - 2 * (v * w) + w * w := by grind
  rw [d1] at c1
  rw [d2] at c2
  rw [d3] at c3
  generalize u * u = A at *
  generalize v * v = B at *
  generalize w * w = C at *
  generalize u * v = E at *
  generalize u * w = F at *
  generalize v * w = G at *
  omega
theorem dd_ {x y z w a g : Int} (ha : 0 ≤ a) (hg : 0 ≤ g) (hx : 2 * a ≤ x) (hy : 2 * a ≤ y) (hz : 2 * g ≤ z) (hw : 2 * g ≤ w) : 16 * ((a * g) * (a * g)) ≤ x * y * (z * w) := by
  have h1 := Int.mul_le_mul (sqp_ ha hx hy) (sqp_ hg hz hw) (by have := sq0 g; omega) (Int.mul_nonneg (by omega) (by omega))
  have e1 : 4 * (a * a) * (4 * (g * g)) = 16 * ((a * g) * (a * g)) := by grind
  rw [e1] at h1
  exact h1
theorem det_e (x1 x2 x3 x4 a b c e f g : Int) : D4 x1 a b c a x2 e f b e x3 g c f g x4 = x1 * x2 * x3 * x4 - (x1 * (x2 * (g * g)) + x1 * (x3 * (f * f)) + x1 * (x4 * (e * e)) + x2 * (x3 * (c * c)) + x2 * (x4 * (b * b)) + x3 * (x4 * (a * a))) + 2 * (x1 * (e * f * g) + x2 * (b * c * g) + x3 * (a * c * f) + x4 * (a * b * e)) + ((a * g) * (a * g) + (b * f) * (b * f) + (c * e) * (c * e)) - 2 * ((a * g) * (b * f) + (a * g) * (c * e) + (b * f) * (c * e)) := by
  unfold D4 D3
  grind
theorem prs_ (x1 x2 x3 x4 a b c e f g : Int) : (x2 * x3 * x4 + x1 * x3 * x4) * a + (x3 * x2 * x4 + x1 * x2 * x4) * b + (x4 * x2 * x3 + x1 * x2 * x3) * c + (x3 * x1 * x4 + x2 * x1 * x4) * e + (x4 * x1 * x3 + x2 * x1 * x3) * f + (x4 * x1 * x2 + x3 * x1 * x2) * g = x2 * x3 * x4 * (a + b + c) + x1 * x3 * x4 * (a + e + f) + x1 * x2 * x4 * (b + e + g) + x1 * x2 * x3 * (c + f + g) := by grind
theorem pL_ {P p1 p2 p3 p4 p5 p6 r1 r2 r3 r4 r5 r6 q1 q2 q3 q4 : Int} (h1 : 4 * p1 ≤ r1) (h2 : 4 * p2 ≤ r2) (h3 : 4 * p3 ≤ r3) (h4 : 4 * p4 ≤ r4) (h5 : 4 * p5 ≤ r5) (h6 : 4 * p6 ≤ r6) (hs : r1 + r2 + r3 + r4 + r5 + r6 = q1 + q2 + q3 + q4) (k1 : 2 * q1 ≤ P) (k2 : 2 * q2 ≤ P) (k3 : 2 * q3 ≤ P) (k4 : 2 * q4 ≤ P) : 2 * (p1 + p2 + p3 + p4 + p5 + p6) ≤ P := by
  have g1 : 4 * (p1 + p2 + p3 + p4 + p5 + p6) ≤ r1 + r2 + r3 + r4 + r5 + r6 := by clear hs k1 k2 k3 k4; omega
  have g2 : 2 * (q1 + q2 + q3 + q4) ≤ 4 * P := by clear h1 h2 h3 h4 h5 h6 hs g1; omega
  rw [hs] at g1
  generalize q1 + q2 + q3 + q4 = Q at *
  generalize p1 + p2 + p3 + p4 + p5 + p6 = R at *
  clear h1 h2 h3 h4 h5 h6 k1 k2 k3 k4 hs
  omega
theorem det_b {x1 x2 x3 x4 a b c e f g : Int} (ha : 0 ≤ a) (hb : 0 ≤ b) (hc : 0 ≤ c) (he : 0 ≤ e) (hf : 0 ≤ f) (hg : 0 ≤ g) (p1 : 1 ≤ x1) (p2 : 1 ≤ x2) (p3 : 1 ≤ x3) (p4 : 1 ≤ x4) (h1 : 2 * (a + b + c) ≤ x1) (h2 : 2 * (a + e + f) ≤ x2) (h3 : 2 * (b + e + g) ≤ x3) (h4 : 2 * (c + f + g) ≤ x4) : 0 < D4 x1 a b c a x2 e f b e x3 g c f g x4 ∧ D4 x1 a b c a x2 e f b e x3 g c f g x4 ≤ x1 * x2 * x3 * x4 := by
  have n1 : 0 ≤ x1 := by omega
  have n2 : 0 ≤ x2 := by omega
  have n3 : 0 ≤ x3 := by omega
  have n4 : 0 ≤ x4 := by omega
  have A1 : 2 * a ≤ x1 := by omega
  have A2 : 2 * a ≤ x2 := by omega
  have B1 : 2 * b ≤ x1 := by omega
  have B3 : 2 * b ≤ x3 := by omega
  have C1 : 2 * c ≤ x1 := by omega
  have C4 : 2 * c ≤ x4 := by omega
  have E2 : 2 * e ≤ x2 := by omega
  have E3 : 2 * e ≤ x3 := by omega
  have F2 : 2 * f ≤ x2 := by omega
  have F4 : 2 * f ≤ x4 := by omega
  have G3 : 2 * g ≤ x3 := by omega
  have G4 : 2 * g ≤ x4 := by omega
  have t1 := tr_ (x := x2) (y := x3) (z := x4) n1 he hf hg (by omega) (by omega) (by omega)
  have t2 := tr_ (x := x1) (y := x3) (z := x4) n2 hb hc hg (by omega) (by omega) (by omega)
  have t3 := tr_ (x := x1) (y := x2) (z := x4) n3 ha hc hf (by omega) (by omega) (by omega)
  have t4 := tr_ (x := x1) (y := x2) (z := x3) n4 ha hb he (by omega) (by omega) (by omega)
  rw [Int.mul_left_comm x2 x1] at t2
  rw [Int.mul_left_comm x3 x1, Int.mul_left_comm x3 x2] at t3
  rw [Int.mul_left_comm x4 x1, Int.mul_left_comm x4 x2, Int.mul_left_comm x4 x3] at t4
  have T := up4 t1 t2 t3 t4
  have v1 := sg_ (g := g) ha A1 A2
  have v2 := sg_ (g := a) hg G3 G4
  have v3 := sg_ (g := f) hb B1 B3
  have v4 := sg_ (g := b) hf F2 F4
  have v5 := sg_ (g := e) hc C1 C4
  have v6 := sg_ (g := c) he E2 E3
  rw [Int.mul_comm g a] at v2
  rw [Int.mul_comm f b] at v4
  rw [Int.mul_comm e c] at v6
  have S := up3 v1 v2 v3 v4 v5 v6
  have z1 := Int.mul_nonneg n1 (Int.mul_nonneg n2 (sq0 g))
  have z2 := Int.mul_nonneg n1 (Int.mul_nonneg n3 (sq0 f))
  have z3 := Int.mul_nonneg n1 (Int.mul_nonneg n4 (sq0 e))
  have z4 := Int.mul_nonneg n2 (Int.mul_nonneg n3 (sq0 c))
  have z5 := Int.mul_nonneg n2 (Int.mul_nonneg n4 (sq0 b))
  have z6 := Int.mul_nonneg n3 (Int.mul_nonneg n4 (sq0 a))
  have Z := Int.add_nonneg (Int.add_nonneg (Int.add_nonneg (Int.add_nonneg (Int.add_nonneg z1 z2) z3) z4) z5) z6
  have ag := Int.mul_nonneg ha hg
  have bf := Int.mul_nonneg hb hf
  have ce := Int.mul_nonneg hc he
  have K := Int.add_nonneg (Int.add_nonneg (Int.mul_nonneg ag bf) (Int.mul_nonneg ag ce)) (Int.mul_nonneg bf ce)
  rw [det_e]
  refine ⟨?_, upE T S Z K⟩
  have P : 0 < x1 * x2 * x3 * x4 := Int.mul_pos (Int.mul_pos (Int.mul_pos (by omega) (by omega)) (by omega)) (by omega)
  have TT := Int.add_nonneg (Int.add_nonneg (Int.add_nonneg (Int.mul_nonneg n1 (Int.mul_nonneg (Int.mul_nonneg he hf) hg)) (Int.mul_nonneg n2 (Int.mul_nonneg (Int.mul_nonneg hb hc) hg))) (Int.mul_nonneg n3 (Int.mul_nonneg (Int.mul_nonneg ha hc) hf))) (Int.mul_nonneg n4 (Int.mul_nonneg (Int.mul_nonneg ha hb) he))
  have i1 : x1 * x2 * (x3 * x4) = x1 * x2 * x3 * x4 := by grind
  have i2 : x1 * x3 * (x2 * x4) = x1 * x2 * x3 * x4 := by grind
  have i3 : x1 * x4 * (x2 * x3) = x1 * x2 * x3 * x4 := by grind
  have m1 := dd_ ha hg A1 A2 G3 G4
  have m2 := dd_ hb hf B1 B3 F2 F4
  have m3 := dd_ hc he C1 C4 E2 E3
  rw [i1] at m1
  rw [i2] at m2
  rw [i3] at m3
  have M : 16 * ((a * g) * (a * g) + (b * f) * (b * f) + (c * e) * (c * e)) ≤ 3 * (x1 * x2 * x3 * x4) := by
    generalize (a * g) * (a * g) = U at *
    generalize (b * f) * (b * f) = V at *
    generalize (c * e) * (c * e) = W at *
    generalize x1 * x2 * x3 * x4 = Q at *
    clear T S Z K t1 t2 t3 t4 v1 v2 v3 v4 v5 v6 z1 z2 z3 z4 z5 z6 TT i1 i2 i3
    omega
  have q1 := row_ (x := x1) (t := x2 * x3 * x4) (Int.mul_nonneg (Int.mul_nonneg n2 n3) n4) h1
  have q2 := row_ (x := x2) (t := x1 * x3 * x4) (Int.mul_nonneg (Int.mul_nonneg n1 n3) n4) h2
  have q3 := row_ (x := x3) (t := x1 * x2 * x4) (Int.mul_nonneg (Int.mul_nonneg n1 n2) n4) h3
  have q4 := row_ (x := x4) (t := x1 * x2 * x3) (Int.mul_nonneg (Int.mul_nonneg n1 n2) n3) h4
  have o1 : x2 * x3 * x4 * x1 = x1 * x2 * x3 * x4 := by grind
  have o2 : x1 * x3 * x4 * x2 = x1 * x2 * x3 * x4 := by grind
  have o3 : x1 * x2 * x4 * x3 = x1 * x2 * x3 * x4 := by grind
  rw [o1] at q1
  rw [o2] at q2
  rw [o3] at q3
  have j1 := prd_ (x := x3) (y := x4) (z := a) (p := x1) (q := x2) ha n3 n4 A1 A2
  have j2 := prd_ (x := x2) (y := x4) (z := b) (p := x1) (q := x3) hb n2 n4 B1 B3
  have j3 := prd_ (x := x2) (y := x3) (z := c) (p := x1) (q := x4) hc n2 n3 C1 C4
  have j4 := prd_ (x := x1) (y := x4) (z := e) (p := x2) (q := x3) he n1 n4 E2 E3
  have j5 := prd_ (x := x1) (y := x3) (z := f) (p := x2) (q := x4) hf n1 n3 F2 F4
  have j6 := prd_ (x := x1) (y := x2) (z := g) (p := x3) (q := x4) hg n1 n2 G3 G4
  have Q := pL_ j1 j2 j3 j4 j5 j6 (prs_ x1 x2 x3 x4 a b c e f g) q1 q2 q3 q4
  refine loE P TT cy_ M ?_
  have ord : x1 * (x2 * (g * g)) + x1 * (x3 * (f * f)) + x1 * (x4 * (e * e)) + x2 * (x3 * (c * c)) + x2 * (x4 * (b * b)) + x3 * (x4 * (a * a)) = x3 * (x4 * (a * a)) + x2 * (x4 * (b * b)) + x2 * (x3 * (c * c)) + x1 * (x4 * (e * e)) + x1 * (x3 * (f * f)) + x1 * (x2 * (g * g)) := by
    generalize x3 * (x4 * (a * a)) = a1
    generalize x2 * (x4 * (b * b)) = a2
    generalize x2 * (x3 * (c * c)) = a3
    generalize x1 * (x4 * (e * e)) = a4
    generalize x1 * (x3 * (f * f)) = a5
    generalize x1 * (x2 * (g * g)) = a6
    clear T S Z K t1 t2 t3 t4 v1 v2 v3 v4 v5 v6 z1 z2 z3 z4 z5 z6 TT i1 i2 i3 m1 m2 m3 M q1 q2 q3 q4 o1 o2 o3 j1 j2 j3 j4 j5 j6 Q
    omega
  rw [ord]
  exact Q
/-- Cramer's rule, by columns -/
def N1 (a b c d e f g h i j k l p q r s u1 u2 u3 u4 : Int) : Int := D4 u1 b c d u2 f g h u3 j k l u4 q r s
def N2 (a b c d e f g h i j k l p q r s u1 u2 u3 u4 : Int) : Int := D4 a u1 c d e u2 g h i u3 k l p u4 r s
def N3 (a b c d e f g h i j k l p q r s u1 u2 u3 u4 : Int) : Int := D4 a b u1 d e f u2 h i j u3 l p q u4 s
def N4 (a b c d e f g h i j k l p q r s u1 u2 u3 u4 : Int) : Int := D4 a b c u1 e f g u2 i j k u3 p q r u4
theorem cram1 (a b c d e f g h i j k l p q r s u1 u2 u3 u4 : Int) : a * N1 a b c d e f g h i j k l p q r s u1 u2 u3 u4 + b * N2 a b c d e f g h i j k l p q r s u1 u2 u3 u4 + c * N3 a b c d e f g h i j k l p q r s u1 u2 u3 u4 + d * N4 a b c d e f g h i j k l p q r s u1 u2 u3 u4 = D4 a b c d e f g h i j k l p q r s * u1 := by
  unfold N1 N2 N3 N4 D4 D3
  grind
theorem cram2 (a b c d e f g h i j k l p q r s u1 u2 u3 u4 : Int) : e * N1 a b c d e f g h i j k l p q r s u1 u2 u3 u4 + f * N2 a b c d e f g h i j k l p q r s u1 u2 u3 u4 + g * N3 a b c d e f g h i j k l p q r s u1 u2 u3 u4 + h * N4 a b c d e f g h i j k l p q r s u1 u2 u3 u4 = D4 a b c d e f g h i j k l p q r s * u2 := by
  unfold N1 N2 N3 N4 D4 D3
  grind
theorem cram3 (a b c d e f g h i j k l p q r s u1 u2 u3 u4 : Int) : i * N1 a b c d e f g h i j k l p q r s u1 u2 u3 u4 + j * N2 a b c d e f g h i j k l p q r s u1 u2 u3 u4 + k * N3 a b c d e f g h i j k l p q r s u1 u2 u3 u4 + l * N4 a b c d e f g h i j k l p q r s u1 u2 u3 u4 = D4 a b c d e f g h i j k l p q r s * u3 := by
  unfold N1 N2 N3 N4 D4 D3
  grind
theorem cram4 (a b c d e f g h i j k l p q r s u1 u2 u3 u4 : Int) : p * N1 a b c d e f g h i j k l p q r s u1 u2 u3 u4 + q * N2 a b c d e f g h i j k l p q r s u1 u2 u3 u4 + r * N3 a b c d e f g h i j k l p q r s u1 u2 u3 u4 + s * N4 a b c d e f g h i j k l p q r s u1 u2 u3 u4 = D4 a b c d e f g h i j k l p q r s * u4 := by
  unfold N1 N2 N3 N4 D4 D3
  grind
