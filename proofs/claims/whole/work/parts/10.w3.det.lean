/-! layer 2: the class's determinant -/
theorem zL_add (x y : Int) : zL x + zL y = zL (x + y) := (Int64.ofInt_add x y).symm
theorem zL_mul (x y : Int) : zL x * zL y = zL (x * y) := (Int64.ofInt_mul x y).symm
theorem zL_sub (x y : Int) : zL x - zL y = zL (x - y) := (Int64.ofInt_sub x y).symm
theorem zL_neg (x : Int) : -zL x = zL (-x) := (Int64.ofInt_neg x).symm
theorem zL0 : (0 : Int64) = zL 0 := by decide
theorem zL1 : (1 : Int64) = zL 1 := by decide
def cC (g : Nat → Nat → Int64) (sw : Int32) (r c : Nat) : Int64 := if nI c = sw then g r 4 else g r c
theorem L16_t {rc : Int32 → Int32 → Int32 → Int32 → Option Int64} {g : Nat → Nat → Int64} {sw l4 l7 m2 : Int32} {s row c n : Nat} {acc m q : Int} (hs : s ≤ 4) (hr : row < 4) (hc : c < s) (hb : ((l4 >>> (nI c &&& 31)) &&& (1 : Int32)) = 0) (hm : (l4 ||| ((1 : Int32) <<< (nI c &&& 31))) = m2) (hrec : rc (nI s) sw (nI (row + 1)) m2 = some (zL q)) (hC : cC g sw row c = zL m) : FEq_determinant_L16 rc g (nI s) sw (nI row) l4 (n + 1) (zL acc) l7 (nI c) = FEq_determinant_L16 rc g (nI s) sw (nI row) l4 n (zL (if l7 = 0 then acc + m * q else acc + -(m * q))) (if l7 = 0 then 1 else 0) (nI (c + 1)) := by
  rw [FEq_determinant_L16.eq_2, if_neg (nI_ge hc (by omega)), if_pos hb, nI_gd (by omega) (by omega), lt_eq2, nI_clamp (by omega), hm, nI_1, nI_1, hrec]
  have key : ∀ v : Int64, v = zL m → (if lg_cmp v 0 = 0 then if l7 = 0 then lt_ (nI (c + 1)) fun v11 => FEq_determinant_L16 rc g (nI s) sw (nI row) l4 n (zL acc) 1 v11 else lt_ (nI (c + 1)) fun v10 => FEq_determinant_L16 rc g (nI s) sw (nI row) l4 n (zL acc) 0 v10 else b1_ (some (zL q)) fun r12 => lt_ (v * r12) fun v15 => if l7 = 0 then lt_ (zL acc + v15) fun v17 => if l7 = 0 then lt_ (nI (c + 1)) fun v20 => FEq_determinant_L16 rc g (nI s) sw (nI row) l4 n v17 1 v20 else lt_ (nI (c + 1)) fun v19 => FEq_determinant_L16 rc g (nI s) sw (nI row) l4 n v17 0 v19 else lt_ (zL acc + (-v15)) fun v21 => if l7 = 0 then lt_ (nI (c + 1)) fun v24 => FEq_determinant_L16 rc g (nI s) sw (nI row) l4 n v21 1 v24 else lt_ (nI (c + 1)) fun v23 => FEq_determinant_L16 rc g (nI s) sw (nI row) l4 n v21 0 v23) = FEq_determinant_L16 rc g (nI s) sw (nI row) l4 n (zL (if l7 = 0 then acc + m * q else acc + -(m * q))) (if l7 = 0 then 1 else 0) (nI (c + 1)) := by
    intro v hv
    by_cases hz : v = 0
    · rw [if_pos ((lg_cmp_eq v 0).mpr hz)]
      have e : zL (acc + m * q) = zL acc ∧ zL (acc + -(m * q)) = zL acc := by
        rw [← zL_add, ← zL_add, ← zL_neg, ← zL_mul, ← hv, hz, Int64.zero_mul, Int64.neg_zero, Int64.add_zero]
        exact ⟨rfl, rfl⟩
      by_cases h7 : l7 = 0
      · rw [if_pos h7, if_pos h7, if_pos h7, lt_eq2, e.1]
      · rw [if_neg h7, if_neg h7, if_neg h7, lt_eq2, e.2]
    · rw [if_neg (fun q => hz ((lg_cmp_eq v 0).mp q)), b1_so2, lt_eq2, hv, zL_mul]
      by_cases h7 : l7 = 0
      · simp only [if_pos h7, lt_eq2, zL_add]
      · simp only [if_neg h7, lt_eq2, zL_add, zL_neg]
  unfold cC at hC
  by_cases hsw : nI c = sw
  · rw [if_pos hsw] at hC
    rw [if_pos hsw]
    dsimp only
    rw [show gd_ (4 : Int32) 5 = fun (k : Option Int64) => k from by funext k; exact nI_gd (i := 4) (by omega) (by omega), lt_eq2]
    exact key _ hC
  · rw [if_neg hsw] at hC
    rw [if_neg hsw]
    dsimp only
    rw [nI_gd (by omega) (by omega), lt_eq2, nI_clamp (by omega)]
    exact key _ hC
theorem L16_p {rc : Int32 → Int32 → Int32 → Int32 → Option Int64} {g : Nat → Nat → Int64} {sw l4 m2 : Int32} {s row c n : Nat} {acc m q : Int} (hs : s ≤ 4) (hr : row < 4) (hc : c < s) (hb : ((l4 >>> (nI c &&& 31)) &&& (1 : Int32)) = 0) (hm : (l4 ||| ((1 : Int32) <<< (nI c &&& 31))) = m2) (hrec : rc (nI s) sw (nI (row + 1)) m2 = some (zL q)) (hC : cC g sw row c = zL m) : FEq_determinant_L16 rc g (nI s) sw (nI row) l4 (n + 1) (zL acc) 0 (nI c) = FEq_determinant_L16 rc g (nI s) sw (nI row) l4 n (zL (acc + m * q)) 1 (nI (c + 1)) := by
  rw [L16_t hs hr hc hb hm hrec hC, if_pos rfl, if_pos rfl]
theorem L16_m {rc : Int32 → Int32 → Int32 → Int32 → Option Int64} {g : Nat → Nat → Int64} {sw l4 m2 : Int32} {s row c n : Nat} {acc m q : Int} (hs : s ≤ 4) (hr : row < 4) (hc : c < s) (hb : ((l4 >>> (nI c &&& 31)) &&& (1 : Int32)) = 0) (hm : (l4 ||| ((1 : Int32) <<< (nI c &&& 31))) = m2) (hrec : rc (nI s) sw (nI (row + 1)) m2 = some (zL q)) (hC : cC g sw row c = zL m) : FEq_determinant_L16 rc g (nI s) sw (nI row) l4 (n + 1) (zL acc) 1 (nI c) = FEq_determinant_L16 rc g (nI s) sw (nI row) l4 n (zL (acc + -(m * q))) 0 (nI (c + 1)) := by
  rw [L16_t hs hr hc hb hm hrec hC, if_neg (by decide), if_neg (by decide)]
theorem L16_s {rc : Int32 → Int32 → Int32 → Int32 → Option Int64} {g : Nat → Nat → Int64} {sw l4 l7 l3 : Int32} {l5 : Int64} {s c n : Nat} (hs : s ≤ 4) (hc : c < s) (hb : ¬ ((l4 >>> (nI c &&& 31)) &&& (1 : Int32)) = 0) : FEq_determinant_L16 rc g (nI s) sw l3 l4 (n + 1) l5 l7 (nI c) = FEq_determinant_L16 rc g (nI s) sw l3 l4 n l5 l7 (nI (c + 1)) := by
  rw [FEq_determinant_L16.eq_2, if_neg (nI_ge hc (by omega)), if_neg hb, lt_eq2, nI_1]
theorem L16_e {rc : Int32 → Int32 → Int32 → Int32 → Option Int64} {g : Nat → Nat → Int64} {sw l4 l7 l3 : Int32} {l5 : Int64} {s n : Nat} (hs : s ≤ 4) : FEq_determinant_L16 rc g (nI s) sw l3 l4 (n + 1) l5 l7 (nI s) = some l5 := by
  rw [FEq_determinant_L16.eq_2, if_pos (nI_le (Nat.le_refl _) (by omega))]
def Q0_0_0 (_ : Nat → Nat → Int) : Int := 1
theorem dt0_0_0 {g : Nat → Nat → Int64} {sw : Int32} {m : Nat → Nat → Int} : FEq_determinant g 8 (nI 0) sw (nI 0) (nI 0) = some (zL (Q0_0_0 m)) := by
  rw [show (8 : Nat) = 7 + 1 from rfl, FEq_determinant.eq_2, if_neg (by decide), zL1]
  rfl
def Q1_1_1 (_ : Nat → Nat → Int) : Int := 1
theorem dt1_1_1 {g : Nat → Nat → Int64} {sw : Int32} {m : Nat → Nat → Int} : FEq_determinant g 7 (nI 1) sw (nI 1) (nI 1) = some (zL (Q1_1_1 m)) := by
  rw [show (7 : Nat) = 6 + 1 from rfl, FEq_determinant.eq_2, if_neg (by decide), zL1]
  rfl
def Q1_0_0 (m : Nat → Nat → Int) : Int := 0 + m 0 0 * Q1_1_1 m
theorem dt1_0_0 {g : Nat → Nat → Int64} {sw : Int32} {m : Nat → Nat → Int} (hC : ∀ r c, r < 1 → c < 1 → cC g sw r c = zL (m r c)) : FEq_determinant g 8 (nI 1) sw (nI 0) (nI 0) = some (zL (Q1_0_0 m)) := by
  rw [show (8 : Nat) = 7 + 1 from rfl, FEq_determinant.eq_2, if_pos (by decide)]
  show FEq_determinant_L16 (FEq_determinant g 7) g (nI 1) sw (nI 0) (nI 0) (995 + 1 + 1 + 1 + 1 + 1) (zL 0) 0 (nI 0) = _
  rw [L16_p (c := 0) (m2 := nI 1) (m := m 0 0) (q := Q1_1_1 m) (by omega) (by omega) (by omega) (by decide) (by decide) (dt1_1_1 (m := m)) (hC 0 0 (by omega) (by omega))]
  rw [L16_e (by omega)]
  rfl
def Q2_2_3 (_ : Nat → Nat → Int) : Int := 1
theorem dt2_2_3 {g : Nat → Nat → Int64} {sw : Int32} {m : Nat → Nat → Int} : FEq_determinant g 6 (nI 2) sw (nI 2) (nI 3) = some (zL (Q2_2_3 m)) := by
  rw [show (6 : Nat) = 5 + 1 from rfl, FEq_determinant.eq_2, if_neg (by decide), zL1]
  rfl
def Q2_1_1 (m : Nat → Nat → Int) : Int := 0 + m 1 1 * Q2_2_3 m
theorem dt2_1_1 {g : Nat → Nat → Int64} {sw : Int32} {m : Nat → Nat → Int} (hC : ∀ r c, r < 2 → c < 2 → cC g sw r c = zL (m r c)) : FEq_determinant g 7 (nI 2) sw (nI 1) (nI 1) = some (zL (Q2_1_1 m)) := by
  rw [show (7 : Nat) = 6 + 1 from rfl, FEq_determinant.eq_2, if_pos (by decide)]
  show FEq_determinant_L16 (FEq_determinant g 6) g (nI 2) sw (nI 1) (nI 1) (995 + 1 + 1 + 1 + 1 + 1) (zL 0) 0 (nI 0) = _
  rw [L16_s (c := 0) (by omega) (by omega) (by decide)]
  rw [L16_p (c := 1) (m2 := nI 3) (m := m 1 1) (q := Q2_2_3 m) (by omega) (by omega) (by omega) (by decide) (by decide) (dt2_2_3 (m := m)) (hC 1 1 (by omega) (by omega))]
  rw [L16_e (by omega)]
  rfl
def Q2_1_2 (m : Nat → Nat → Int) : Int := 0 + m 1 0 * Q2_2_3 m
theorem dt2_1_2 {g : Nat → Nat → Int64} {sw : Int32} {m : Nat → Nat → Int} (hC : ∀ r c, r < 2 → c < 2 → cC g sw r c = zL (m r c)) : FEq_determinant g 7 (nI 2) sw (nI 1) (nI 2) = some (zL (Q2_1_2 m)) := by
  rw [show (7 : Nat) = 6 + 1 from rfl, FEq_determinant.eq_2, if_pos (by decide)]
  show FEq_determinant_L16 (FEq_determinant g 6) g (nI 2) sw (nI 1) (nI 2) (995 + 1 + 1 + 1 + 1 + 1) (zL 0) 0 (nI 0) = _
  rw [L16_p (c := 0) (m2 := nI 3) (m := m 1 0) (q := Q2_2_3 m) (by omega) (by omega) (by omega) (by decide) (by decide) (dt2_2_3 (m := m)) (hC 1 0 (by omega) (by omega))]
  rw [L16_s (c := 1) (by omega) (by omega) (by decide)]
  rw [L16_e (by omega)]
  rfl
def Q2_0_0 (m : Nat → Nat → Int) : Int := 0 + m 0 0 * Q2_1_1 m + -(m 0 1 * Q2_1_2 m)
theorem dt2_0_0 {g : Nat → Nat → Int64} {sw : Int32} {m : Nat → Nat → Int} (hC : ∀ r c, r < 2 → c < 2 → cC g sw r c = zL (m r c)) : FEq_determinant g 8 (nI 2) sw (nI 0) (nI 0) = some (zL (Q2_0_0 m)) := by
  rw [show (8 : Nat) = 7 + 1 from rfl, FEq_determinant.eq_2, if_pos (by decide)]
  show FEq_determinant_L16 (FEq_determinant g 7) g (nI 2) sw (nI 0) (nI 0) (995 + 1 + 1 + 1 + 1 + 1) (zL 0) 0 (nI 0) = _
  rw [L16_p (c := 0) (m2 := nI 1) (m := m 0 0) (q := Q2_1_1 m) (by omega) (by omega) (by omega) (by decide) (by decide) (dt2_1_1 (m := m) hC) (hC 0 0 (by omega) (by omega))]
  rw [L16_m (c := 1) (m2 := nI 2) (m := m 0 1) (q := Q2_1_2 m) (by omega) (by omega) (by omega) (by decide) (by decide) (dt2_1_2 (m := m) hC) (hC 0 1 (by omega) (by omega))]
  rw [L16_e (by omega)]
  rfl
def Q3_3_7 (_ : Nat → Nat → Int) : Int := 1
theorem dt3_3_7 {g : Nat → Nat → Int64} {sw : Int32} {m : Nat → Nat → Int} : FEq_determinant g 5 (nI 3) sw (nI 3) (nI 7) = some (zL (Q3_3_7 m)) := by
  rw [show (5 : Nat) = 4 + 1 from rfl, FEq_determinant.eq_2, if_neg (by decide), zL1]
  rfl
def Q3_2_3 (m : Nat → Nat → Int) : Int := 0 + m 2 2 * Q3_3_7 m
theorem dt3_2_3 {g : Nat → Nat → Int64} {sw : Int32} {m : Nat → Nat → Int} (hC : ∀ r c, r < 3 → c < 3 → cC g sw r c = zL (m r c)) : FEq_determinant g 6 (nI 3) sw (nI 2) (nI 3) = some (zL (Q3_2_3 m)) := by
  rw [show (6 : Nat) = 5 + 1 from rfl, FEq_determinant.eq_2, if_pos (by decide)]
  show FEq_determinant_L16 (FEq_determinant g 5) g (nI 3) sw (nI 2) (nI 3) (995 + 1 + 1 + 1 + 1 + 1) (zL 0) 0 (nI 0) = _
  rw [L16_s (c := 0) (by omega) (by omega) (by decide)]
  rw [L16_s (c := 1) (by omega) (by omega) (by decide)]
  rw [L16_p (c := 2) (m2 := nI 7) (m := m 2 2) (q := Q3_3_7 m) (by omega) (by omega) (by omega) (by decide) (by decide) (dt3_3_7 (m := m)) (hC 2 2 (by omega) (by omega))]
  rw [L16_e (by omega)]
  rfl
def Q3_2_5 (m : Nat → Nat → Int) : Int := 0 + m 2 1 * Q3_3_7 m
theorem dt3_2_5 {g : Nat → Nat → Int64} {sw : Int32} {m : Nat → Nat → Int} (hC : ∀ r c, r < 3 → c < 3 → cC g sw r c = zL (m r c)) : FEq_determinant g 6 (nI 3) sw (nI 2) (nI 5) = some (zL (Q3_2_5 m)) := by
  rw [show (6 : Nat) = 5 + 1 from rfl, FEq_determinant.eq_2, if_pos (by decide)]
  show FEq_determinant_L16 (FEq_determinant g 5) g (nI 3) sw (nI 2) (nI 5) (995 + 1 + 1 + 1 + 1 + 1) (zL 0) 0 (nI 0) = _
  rw [L16_s (c := 0) (by omega) (by omega) (by decide)]
  rw [L16_p (c := 1) (m2 := nI 7) (m := m 2 1) (q := Q3_3_7 m) (by omega) (by omega) (by omega) (by decide) (by decide) (dt3_3_7 (m := m)) (hC 2 1 (by omega) (by omega))]
  rw [L16_s (c := 2) (by omega) (by omega) (by decide)]
  rw [L16_e (by omega)]
  rfl
def Q3_2_6 (m : Nat → Nat → Int) : Int := 0 + m 2 0 * Q3_3_7 m
theorem dt3_2_6 {g : Nat → Nat → Int64} {sw : Int32} {m : Nat → Nat → Int} (hC : ∀ r c, r < 3 → c < 3 → cC g sw r c = zL (m r c)) : FEq_determinant g 6 (nI 3) sw (nI 2) (nI 6) = some (zL (Q3_2_6 m)) := by
  rw [show (6 : Nat) = 5 + 1 from rfl, FEq_determinant.eq_2, if_pos (by decide)]
  show FEq_determinant_L16 (FEq_determinant g 5) g (nI 3) sw (nI 2) (nI 6) (995 + 1 + 1 + 1 + 1 + 1) (zL 0) 0 (nI 0) = _
  rw [L16_p (c := 0) (m2 := nI 7) (m := m 2 0) (q := Q3_3_7 m) (by omega) (by omega) (by omega) (by decide) (by decide) (dt3_3_7 (m := m)) (hC 2 0 (by omega) (by omega))]
  rw [L16_s (c := 1) (by omega) (by omega) (by decide)]
  rw [L16_s (c := 2) (by omega) (by omega) (by decide)]
  rw [L16_e (by omega)]
  rfl
def Q3_1_1 (m : Nat → Nat → Int) : Int := 0 + m 1 1 * Q3_2_3 m + -(m 1 2 * Q3_2_5 m)
theorem dt3_1_1 {g : Nat → Nat → Int64} {sw : Int32} {m : Nat → Nat → Int} (hC : ∀ r c, r < 3 → c < 3 → cC g sw r c = zL (m r c)) : FEq_determinant g 7 (nI 3) sw (nI 1) (nI 1) = some (zL (Q3_1_1 m)) := by
  rw [show (7 : Nat) = 6 + 1 from rfl, FEq_determinant.eq_2, if_pos (by decide)]
  show FEq_determinant_L16 (FEq_determinant g 6) g (nI 3) sw (nI 1) (nI 1) (995 + 1 + 1 + 1 + 1 + 1) (zL 0) 0 (nI 0) = _
  rw [L16_s (c := 0) (by omega) (by omega) (by decide)]
  rw [L16_p (c := 1) (m2 := nI 3) (m := m 1 1) (q := Q3_2_3 m) (by omega) (by omega) (by omega) (by decide) (by decide) (dt3_2_3 (m := m) hC) (hC 1 1 (by omega) (by omega))]
  rw [L16_m (c := 2) (m2 := nI 5) (m := m 1 2) (q := Q3_2_5 m) (by omega) (by omega) (by omega) (by decide) (by decide) (dt3_2_5 (m := m) hC) (hC 1 2 (by omega) (by omega))]
  rw [L16_e (by omega)]
  rfl
def Q3_1_2 (m : Nat → Nat → Int) : Int := 0 + m 1 0 * Q3_2_3 m + -(m 1 2 * Q3_2_6 m)
theorem dt3_1_2 {g : Nat → Nat → Int64} {sw : Int32} {m : Nat → Nat → Int} (hC : ∀ r c, r < 3 → c < 3 → cC g sw r c = zL (m r c)) : FEq_determinant g 7 (nI 3) sw (nI 1) (nI 2) = some (zL (Q3_1_2 m)) := by
  rw [show (7 : Nat) = 6 + 1 from rfl, FEq_determinant.eq_2, if_pos (by decide)]
  show FEq_determinant_L16 (FEq_determinant g 6) g (nI 3) sw (nI 1) (nI 2) (995 + 1 + 1 + 1 + 1 + 1) (zL 0) 0 (nI 0) = _
  rw [L16_p (c := 0) (m2 := nI 3) (m := m 1 0) (q := Q3_2_3 m) (by omega) (by omega) (by omega) (by decide) (by decide) (dt3_2_3 (m := m) hC) (hC 1 0 (by omega) (by omega))]
  rw [L16_s (c := 1) (by omega) (by omega) (by decide)]
  rw [L16_m (c := 2) (m2 := nI 6) (m := m 1 2) (q := Q3_2_6 m) (by omega) (by omega) (by omega) (by decide) (by decide) (dt3_2_6 (m := m) hC) (hC 1 2 (by omega) (by omega))]
  rw [L16_e (by omega)]
  rfl
def Q3_1_4 (m : Nat → Nat → Int) : Int := 0 + m 1 0 * Q3_2_5 m + -(m 1 1 * Q3_2_6 m)
theorem dt3_1_4 {g : Nat → Nat → Int64} {sw : Int32} {m : Nat → Nat → Int} (hC : ∀ r c, r < 3 → c < 3 → cC g sw r c = zL (m r c)) : FEq_determinant g 7 (nI 3) sw (nI 1) (nI 4) = some (zL (Q3_1_4 m)) := by
  rw [show (7 : Nat) = 6 + 1 from rfl, FEq_determinant.eq_2, if_pos (by decide)]
  show FEq_determinant_L16 (FEq_determinant g 6) g (nI 3) sw (nI 1) (nI 4) (995 + 1 + 1 + 1 + 1 + 1) (zL 0) 0 (nI 0) = _
  rw [L16_p (c := 0) (m2 := nI 5) (m := m 1 0) (q := Q3_2_5 m) (by omega) (by omega) (by omega) (by decide) (by decide) (dt3_2_5 (m := m) hC) (hC 1 0 (by omega) (by omega))]
  rw [L16_m (c := 1) (m2 := nI 6) (m := m 1 1) (q := Q3_2_6 m) (by omega) (by omega) (by omega) (by decide) (by decide) (dt3_2_6 (m := m) hC) (hC 1 1 (by omega) (by omega))]
  rw [L16_s (c := 2) (by omega) (by omega) (by decide)]
  rw [L16_e (by omega)]
  rfl
def Q3_0_0 (m : Nat → Nat → Int) : Int := 0 + m 0 0 * Q3_1_1 m + -(m 0 1 * Q3_1_2 m) + m 0 2 * Q3_1_4 m
theorem dt3_0_0 {g : Nat → Nat → Int64} {sw : Int32} {m : Nat → Nat → Int} (hC : ∀ r c, r < 3 → c < 3 → cC g sw r c = zL (m r c)) : FEq_determinant g 8 (nI 3) sw (nI 0) (nI 0) = some (zL (Q3_0_0 m)) := by
  rw [show (8 : Nat) = 7 + 1 from rfl, FEq_determinant.eq_2, if_pos (by decide)]
  show FEq_determinant_L16 (FEq_determinant g 7) g (nI 3) sw (nI 0) (nI 0) (995 + 1 + 1 + 1 + 1 + 1) (zL 0) 0 (nI 0) = _
  rw [L16_p (c := 0) (m2 := nI 1) (m := m 0 0) (q := Q3_1_1 m) (by omega) (by omega) (by omega) (by decide) (by decide) (dt3_1_1 (m := m) hC) (hC 0 0 (by omega) (by omega))]
  rw [L16_m (c := 1) (m2 := nI 2) (m := m 0 1) (q := Q3_1_2 m) (by omega) (by omega) (by omega) (by decide) (by decide) (dt3_1_2 (m := m) hC) (hC 0 1 (by omega) (by omega))]
  rw [L16_p (c := 2) (m2 := nI 4) (m := m 0 2) (q := Q3_1_4 m) (by omega) (by omega) (by omega) (by decide) (by decide) (dt3_1_4 (m := m) hC) (hC 0 2 (by omega) (by omega))]
  rw [L16_e (by omega)]
  rfl
def Q4_4_15 (_ : Nat → Nat → Int) : Int := 1
theorem dt4_4_15 {g : Nat → Nat → Int64} {sw : Int32} {m : Nat → Nat → Int} : FEq_determinant g 4 (nI 4) sw (nI 4) (nI 15) = some (zL (Q4_4_15 m)) := by
  rw [show (4 : Nat) = 3 + 1 from rfl, FEq_determinant.eq_2, if_neg (by decide), zL1]
  rfl
def Q4_3_7 (m : Nat → Nat → Int) : Int := 0 + m 3 3 * Q4_4_15 m
theorem dt4_3_7 {g : Nat → Nat → Int64} {sw : Int32} {m : Nat → Nat → Int} (hC : ∀ r c, r < 4 → c < 4 → cC g sw r c = zL (m r c)) : FEq_determinant g 5 (nI 4) sw (nI 3) (nI 7) = some (zL (Q4_3_7 m)) := by
  rw [show (5 : Nat) = 4 + 1 from rfl, FEq_determinant.eq_2, if_pos (by decide)]
  show FEq_determinant_L16 (FEq_determinant g 4) g (nI 4) sw (nI 3) (nI 7) (995 + 1 + 1 + 1 + 1 + 1) (zL 0) 0 (nI 0) = _
  rw [L16_s (c := 0) (by omega) (by omega) (by decide)]
  rw [L16_s (c := 1) (by omega) (by omega) (by decide)]
  rw [L16_s (c := 2) (by omega) (by omega) (by decide)]
  rw [L16_p (c := 3) (m2 := nI 15) (m := m 3 3) (q := Q4_4_15 m) (by omega) (by omega) (by omega) (by decide) (by decide) (dt4_4_15 (m := m)) (hC 3 3 (by omega) (by omega))]
  rw [L16_e (by omega)]
  rfl
def Q4_3_11 (m : Nat → Nat → Int) : Int := 0 + m 3 2 * Q4_4_15 m
theorem dt4_3_11 {g : Nat → Nat → Int64} {sw : Int32} {m : Nat → Nat → Int} (hC : ∀ r c, r < 4 → c < 4 → cC g sw r c = zL (m r c)) : FEq_determinant g 5 (nI 4) sw (nI 3) (nI 11) = some (zL (Q4_3_11 m)) := by
  rw [show (5 : Nat) = 4 + 1 from rfl, FEq_determinant.eq_2, if_pos (by decide)]
  show FEq_determinant_L16 (FEq_determinant g 4) g (nI 4) sw (nI 3) (nI 11) (995 + 1 + 1 + 1 + 1 + 1) (zL 0) 0 (nI 0) = _
  rw [L16_s (c := 0) (by omega) (by omega) (by decide)]
  rw [L16_s (c := 1) (by omega) (by omega) (by decide)]
  rw [L16_p (c := 2) (m2 := nI 15) (m := m 3 2) (q := Q4_4_15 m) (by omega) (by omega) (by omega) (by decide) (by decide) (dt4_4_15 (m := m)) (hC 3 2 (by omega) (by omega))]
  rw [L16_s (c := 3) (by omega) (by omega) (by decide)]
  rw [L16_e (by omega)]
  rfl
def Q4_3_13 (m : Nat → Nat → Int) : Int := 0 + m 3 1 * Q4_4_15 m
theorem dt4_3_13 {g : Nat → Nat → Int64} {sw : Int32} {m : Nat → Nat → Int} (hC : ∀ r c, r < 4 → c < 4 → cC g sw r c = zL (m r c)) : FEq_determinant g 5 (nI 4) sw (nI 3) (nI 13) = some (zL (Q4_3_13 m)) := by
  rw [show (5 : Nat) = 4 + 1 from rfl, FEq_determinant.eq_2, if_pos (by decide)]
  show FEq_determinant_L16 (FEq_determinant g 4) g (nI 4) sw (nI 3) (nI 13) (995 + 1 + 1 + 1 + 1 + 1) (zL 0) 0 (nI 0) = _
  rw [L16_s (c := 0) (by omega) (by omega) (by decide)]
  rw [L16_p (c := 1) (m2 := nI 15) (m := m 3 1) (q := Q4_4_15 m) (by omega) (by omega) (by omega) (by decide) (by decide) (dt4_4_15 (m := m)) (hC 3 1 (by omega) (by omega))]
  rw [L16_s (c := 2) (by omega) (by omega) (by decide)]
  rw [L16_s (c := 3) (by omega) (by omega) (by decide)]
  rw [L16_e (by omega)]
  rfl
def Q4_3_14 (m : Nat → Nat → Int) : Int := 0 + m 3 0 * Q4_4_15 m
theorem dt4_3_14 {g : Nat → Nat → Int64} {sw : Int32} {m : Nat → Nat → Int} (hC : ∀ r c, r < 4 → c < 4 → cC g sw r c = zL (m r c)) : FEq_determinant g 5 (nI 4) sw (nI 3) (nI 14) = some (zL (Q4_3_14 m)) := by
  rw [show (5 : Nat) = 4 + 1 from rfl, FEq_determinant.eq_2, if_pos (by decide)]
  show FEq_determinant_L16 (FEq_determinant g 4) g (nI 4) sw (nI 3) (nI 14) (995 + 1 + 1 + 1 + 1 + 1) (zL 0) 0 (nI 0) = _
  rw [L16_p (c := 0) (m2 := nI 15) (m := m 3 0) (q := Q4_4_15 m) (by omega) (by omega) (by omega) (by decide) (by decide) (dt4_4_15 (m := m)) (hC 3 0 (by omega) (by omega))]
  rw [L16_s (c := 1) (by omega) (by omega) (by decide)]
  rw [L16_s (c := 2) (by omega) (by omega) (by decide)]
  rw [L16_s (c := 3) (by omega) (by omega) (by decide)]
  rw [L16_e (by omega)]
  rfl
def Q4_2_3 (m : Nat → Nat → Int) : Int := 0 + m 2 2 * Q4_3_7 m + -(m 2 3 * Q4_3_11 m)
theorem dt4_2_3 {g : Nat → Nat → Int64} {sw : Int32} {m : Nat → Nat → Int} (hC : ∀ r c, r < 4 → c < 4 → cC g sw r c = zL (m r c)) : FEq_determinant g 6 (nI 4) sw (nI 2) (nI 3) = some (zL (Q4_2_3 m)) := by
  rw [show (6 : Nat) = 5 + 1 from rfl, FEq_determinant.eq_2, if_pos (by decide)]
  show FEq_determinant_L16 (FEq_determinant g 5) g (nI 4) sw (nI 2) (nI 3) (995 + 1 + 1 + 1 + 1 + 1) (zL 0) 0 (nI 0) = _
  rw [L16_s (c := 0) (by omega) (by omega) (by decide)]
  rw [L16_s (c := 1) (by omega) (by omega) (by decide)]
  rw [L16_p (c := 2) (m2 := nI 7) (m := m 2 2) (q := Q4_3_7 m) (by omega) (by omega) (by omega) (by decide) (by decide) (dt4_3_7 (m := m) hC) (hC 2 2 (by omega) (by omega))]
  rw [L16_m (c := 3) (m2 := nI 11) (m := m 2 3) (q := Q4_3_11 m) (by omega) (by omega) (by omega) (by decide) (by decide) (dt4_3_11 (m := m) hC) (hC 2 3 (by omega) (by omega))]
  rw [L16_e (by omega)]
  rfl
def Q4_2_5 (m : Nat → Nat → Int) : Int := 0 + m 2 1 * Q4_3_7 m + -(m 2 3 * Q4_3_13 m)
theorem dt4_2_5 {g : Nat → Nat → Int64} {sw : Int32} {m : Nat → Nat → Int} (hC : ∀ r c, r < 4 → c < 4 → cC g sw r c = zL (m r c)) : FEq_determinant g 6 (nI 4) sw (nI 2) (nI 5) = some (zL (Q4_2_5 m)) := by
  rw [show (6 : Nat) = 5 + 1 from rfl, FEq_determinant.eq_2, if_pos (by decide)]
  show FEq_determinant_L16 (FEq_determinant g 5) g (nI 4) sw (nI 2) (nI 5) (995 + 1 + 1 + 1 + 1 + 1) (zL 0) 0 (nI 0) = _
  rw [L16_s (c := 0) (by omega) (by omega) (by decide)]
  rw [L16_p (c := 1) (m2 := nI 7) (m := m 2 1) (q := Q4_3_7 m) (by omega) (by omega) (by omega) (by decide) (by decide) (dt4_3_7 (m := m) hC) (hC 2 1 (by omega) (by omega))]
  rw [L16_s (c := 2) (by omega) (by omega) (by decide)]
  rw [L16_m (c := 3) (m2 := nI 13) (m := m 2 3) (q := Q4_3_13 m) (by omega) (by omega) (by omega) (by decide) (by decide) (dt4_3_13 (m := m) hC) (hC 2 3 (by omega) (by omega))]
  rw [L16_e (by omega)]
  rfl
def Q4_2_6 (m : Nat → Nat → Int) : Int := 0 + m 2 0 * Q4_3_7 m + -(m 2 3 * Q4_3_14 m)
theorem dt4_2_6 {g : Nat → Nat → Int64} {sw : Int32} {m : Nat → Nat → Int} (hC : ∀ r c, r < 4 → c < 4 → cC g sw r c = zL (m r c)) : FEq_determinant g 6 (nI 4) sw (nI 2) (nI 6) = some (zL (Q4_2_6 m)) := by
  rw [show (6 : Nat) = 5 + 1 from rfl, FEq_determinant.eq_2, if_pos (by decide)]
  show FEq_determinant_L16 (FEq_determinant g 5) g (nI 4) sw (nI 2) (nI 6) (995 + 1 + 1 + 1 + 1 + 1) (zL 0) 0 (nI 0) = _
  rw [L16_p (c := 0) (m2 := nI 7) (m := m 2 0) (q := Q4_3_7 m) (by omega) (by omega) (by omega) (by decide) (by decide) (dt4_3_7 (m := m) hC) (hC 2 0 (by omega) (by omega))]
  rw [L16_s (c := 1) (by omega) (by omega) (by decide)]
  rw [L16_s (c := 2) (by omega) (by omega) (by decide)]
  rw [L16_m (c := 3) (m2 := nI 14) (m := m 2 3) (q := Q4_3_14 m) (by omega) (by omega) (by omega) (by decide) (by decide) (dt4_3_14 (m := m) hC) (hC 2 3 (by omega) (by omega))]
  rw [L16_e (by omega)]
  rfl
def Q4_2_9 (m : Nat → Nat → Int) : Int := 0 + m 2 1 * Q4_3_11 m + -(m 2 2 * Q4_3_13 m)
theorem dt4_2_9 {g : Nat → Nat → Int64} {sw : Int32} {m : Nat → Nat → Int} (hC : ∀ r c, r < 4 → c < 4 → cC g sw r c = zL (m r c)) : FEq_determinant g 6 (nI 4) sw (nI 2) (nI 9) = some (zL (Q4_2_9 m)) := by
  rw [show (6 : Nat) = 5 + 1 from rfl, FEq_determinant.eq_2, if_pos (by decide)]
  show FEq_determinant_L16 (FEq_determinant g 5) g (nI 4) sw (nI 2) (nI 9) (995 + 1 + 1 + 1 + 1 + 1) (zL 0) 0 (nI 0) = _
  rw [L16_s (c := 0) (by omega) (by omega) (by decide)]
  rw [L16_p (c := 1) (m2 := nI 11) (m := m 2 1) (q := Q4_3_11 m) (by omega) (by omega) (by omega) (by decide) (by decide) (dt4_3_11 (m := m) hC) (hC 2 1 (by omega) (by omega))]
  rw [L16_m (c := 2) (m2 := nI 13) (m := m 2 2) (q := Q4_3_13 m) (by omega) (by omega) (by omega) (by decide) (by decide) (dt4_3_13 (m := m) hC) (hC 2 2 (by omega) (by omega))]
  rw [L16_s (c := 3) (by omega) (by omega) (by decide)]
  rw [L16_e (by omega)]
  rfl
def Q4_2_10 (m : Nat → Nat → Int) : Int := 0 + m 2 0 * Q4_3_11 m + -(m 2 2 * Q4_3_14 m)
theorem dt4_2_10 {g : Nat → Nat → Int64} {sw : Int32} {m : Nat → Nat → Int} (hC : ∀ r c, r < 4 → c < 4 → cC g sw r c = zL (m r c)) : FEq_determinant g 6 (nI 4) sw (nI 2) (nI 10) = some (zL (Q4_2_10 m)) := by
  rw [show (6 : Nat) = 5 + 1 from rfl, FEq_determinant.eq_2, if_pos (by decide)]
  show FEq_determinant_L16 (FEq_determinant g 5) g (nI 4) sw (nI 2) (nI 10) (995 + 1 + 1 + 1 + 1 + 1) (zL 0) 0 (nI 0) = _
  rw [L16_p (c := 0) (m2 := nI 11) (m := m 2 0) (q := Q4_3_11 m) (by omega) (by omega) (by omega) (by decide) (by decide) (dt4_3_11 (m := m) hC) (hC 2 0 (by omega) (by omega))]
  rw [L16_s (c := 1) (by omega) (by omega) (by decide)]
  rw [L16_m (c := 2) (m2 := nI 14) (m := m 2 2) (q := Q4_3_14 m) (by omega) (by omega) (by omega) (by decide) (by decide) (dt4_3_14 (m := m) hC) (hC 2 2 (by omega) (by omega))]
  rw [L16_s (c := 3) (by omega) (by omega) (by decide)]
  rw [L16_e (by omega)]
  rfl
def Q4_2_12 (m : Nat → Nat → Int) : Int := 0 + m 2 0 * Q4_3_13 m + -(m 2 1 * Q4_3_14 m)
theorem dt4_2_12 {g : Nat → Nat → Int64} {sw : Int32} {m : Nat → Nat → Int} (hC : ∀ r c, r < 4 → c < 4 → cC g sw r c = zL (m r c)) : FEq_determinant g 6 (nI 4) sw (nI 2) (nI 12) = some (zL (Q4_2_12 m)) := by
  rw [show (6 : Nat) = 5 + 1 from rfl, FEq_determinant.eq_2, if_pos (by decide)]
  show FEq_determinant_L16 (FEq_determinant g 5) g (nI 4) sw (nI 2) (nI 12) (995 + 1 + 1 + 1 + 1 + 1) (zL 0) 0 (nI 0) = _
  rw [L16_p (c := 0) (m2 := nI 13) (m := m 2 0) (q := Q4_3_13 m) (by omega) (by omega) (by omega) (by decide) (by decide) (dt4_3_13 (m := m) hC) (hC 2 0 (by omega) (by omega))]
  rw [L16_m (c := 1) (m2 := nI 14) (m := m 2 1) (q := Q4_3_14 m) (by omega) (by omega) (by omega) (by decide) (by decide) (dt4_3_14 (m := m) hC) (hC 2 1 (by omega) (by omega))]
  rw [L16_s (c := 2) (by omega) (by omega) (by decide)]
  rw [L16_s (c := 3) (by omega) (by omega) (by decide)]
  rw [L16_e (by omega)]
  rfl
def Q4_1_1 (m : Nat → Nat → Int) : Int := 0 + m 1 1 * Q4_2_3 m + -(m 1 2 * Q4_2_5 m) + m 1 3 * Q4_2_9 m
theorem dt4_1_1 {g : Nat → Nat → Int64} {sw : Int32} {m : Nat → Nat → Int} (hC : ∀ r c, r < 4 → c < 4 → cC g sw r c = zL (m r c)) : FEq_determinant g 7 (nI 4) sw (nI 1) (nI 1) = some (zL (Q4_1_1 m)) := by
  rw [show (7 : Nat) = 6 + 1 from rfl, FEq_determinant.eq_2, if_pos (by decide)]
  show FEq_determinant_L16 (FEq_determinant g 6) g (nI 4) sw (nI 1) (nI 1) (995 + 1 + 1 + 1 + 1 + 1) (zL 0) 0 (nI 0) = _
  rw [L16_s (c := 0) (by omega) (by omega) (by decide)]
  rw [L16_p (c := 1) (m2 := nI 3) (m := m 1 1) (q := Q4_2_3 m) (by omega) (by omega) (by omega) (by decide) (by decide) (dt4_2_3 (m := m) hC) (hC 1 1 (by omega) (by omega))]
  rw [L16_m (c := 2) (m2 := nI 5) (m := m 1 2) (q := Q4_2_5 m) (by omega) (by omega) (by omega) (by decide) (by decide) (dt4_2_5 (m := m) hC) (hC 1 2 (by omega) (by omega))]
  rw [L16_p (c := 3) (m2 := nI 9) (m := m 1 3) (q := Q4_2_9 m) (by omega) (by omega) (by omega) (by decide) (by decide) (dt4_2_9 (m := m) hC) (hC 1 3 (by omega) (by omega))]
  rw [L16_e (by omega)]
  rfl
def Q4_1_2 (m : Nat → Nat → Int) : Int := 0 + m 1 0 * Q4_2_3 m + -(m 1 2 * Q4_2_6 m) + m 1 3 * Q4_2_10 m
theorem dt4_1_2 {g : Nat → Nat → Int64} {sw : Int32} {m : Nat → Nat → Int} (hC : ∀ r c, r < 4 → c < 4 → cC g sw r c = zL (m r c)) : FEq_determinant g 7 (nI 4) sw (nI 1) (nI 2) = some (zL (Q4_1_2 m)) := by
  rw [show (7 : Nat) = 6 + 1 from rfl, FEq_determinant.eq_2, if_pos (by decide)]
  show FEq_determinant_L16 (FEq_determinant g 6) g (nI 4) sw (nI 1) (nI 2) (995 + 1 + 1 + 1 + 1 + 1) (zL 0) 0 (nI 0) = _
  rw [L16_p (c := 0) (m2 := nI 3) (m := m 1 0) (q := Q4_2_3 m) (by omega) (by omega) (by omega) (by decide) (by decide) (dt4_2_3 (m := m) hC) (hC 1 0 (by omega) (by omega))]
  rw [L16_s (c := 1) (by omega) (by omega) (by decide)]
  rw [L16_m (c := 2) (m2 := nI 6) (m := m 1 2) (q := Q4_2_6 m) (by omega) (by omega) (by omega) (by decide) (by decide) (dt4_2_6 (m := m) hC) (hC 1 2 (by omega) (by omega))]
  rw [L16_p (c := 3) (m2 := nI 10) (m := m 1 3) (q := Q4_2_10 m) (by omega) (by omega) (by omega) (by decide) (by decide) (dt4_2_10 (m := m) hC) (hC 1 3 (by omega) (by omega))]
  rw [L16_e (by omega)]
  rfl
def Q4_1_4 (m : Nat → Nat → Int) : Int := 0 + m 1 0 * Q4_2_5 m + -(m 1 1 * Q4_2_6 m) + m 1 3 * Q4_2_12 m
theorem dt4_1_4 {g : Nat → Nat → Int64} {sw : Int32} {m : Nat → Nat → Int} (hC : ∀ r c, r < 4 → c < 4 → cC g sw r c = zL (m r c)) : FEq_determinant g 7 (nI 4) sw (nI 1) (nI 4) = some (zL (Q4_1_4 m)) := by
  rw [show (7 : Nat) = 6 + 1 from rfl, FEq_determinant.eq_2, if_pos (by decide)]
  show FEq_determinant_L16 (FEq_determinant g 6) g (nI 4) sw (nI 1) (nI 4) (995 + 1 + 1 + 1 + 1 + 1) (zL 0) 0 (nI 0) = _
  rw [L16_p (c := 0) (m2 := nI 5) (m := m 1 0) (q := Q4_2_5 m) (by omega) (by omega) (by omega) (by decide) (by decide) (dt4_2_5 (m := m) hC) (hC 1 0 (by omega) (by omega))]
  rw [L16_m (c := 1) (m2 := nI 6) (m := m 1 1) (q := Q4_2_6 m) (by omega) (by omega) (by omega) (by decide) (by decide) (dt4_2_6 (m := m) hC) (hC 1 1 (by omega) (by omega))]
  rw [L16_s (c := 2) (by omega) (by omega) (by decide)]
  rw [L16_p (c := 3) (m2 := nI 12) (m := m 1 3) (q := Q4_2_12 m) (by omega) (by omega) (by omega) (by decide) (by decide) (dt4_2_12 (m := m) hC) (hC 1 3 (by omega) (by omega))]
  rw [L16_e (by omega)]
  rfl
def Q4_1_8 (m : Nat → Nat → Int) : Int := 0 + m 1 0 * Q4_2_9 m + -(m 1 1 * Q4_2_10 m) + m 1 2 * Q4_2_12 m
theorem dt4_1_8 {g : Nat → Nat → Int64} {sw : Int32} {m : Nat → Nat → Int} (hC : ∀ r c, r < 4 → c < 4 → cC g sw r c = zL (m r c)) : FEq_determinant g 7 (nI 4) sw (nI 1) (nI 8) = some (zL (Q4_1_8 m)) := by
  rw [show (7 : Nat) = 6 + 1 from rfl, FEq_determinant.eq_2, if_pos (by decide)]
  show FEq_determinant_L16 (FEq_determinant g 6) g (nI 4) sw (nI 1) (nI 8) (995 + 1 + 1 + 1 + 1 + 1) (zL 0) 0 (nI 0) = _
  rw [L16_p (c := 0) (m2 := nI 9) (m := m 1 0) (q := Q4_2_9 m) (by omega) (by omega) (by omega) (by decide) (by decide) (dt4_2_9 (m := m) hC) (hC 1 0 (by omega) (by omega))]
  rw [L16_m (c := 1) (m2 := nI 10) (m := m 1 1) (q := Q4_2_10 m) (by omega) (by omega) (by omega) (by decide) (by decide) (dt4_2_10 (m := m) hC) (hC 1 1 (by omega) (by omega))]
  rw [L16_p (c := 2) (m2 := nI 12) (m := m 1 2) (q := Q4_2_12 m) (by omega) (by omega) (by omega) (by decide) (by decide) (dt4_2_12 (m := m) hC) (hC 1 2 (by omega) (by omega))]
  rw [L16_s (c := 3) (by omega) (by omega) (by decide)]
  rw [L16_e (by omega)]
  rfl
def Q4_0_0 (m : Nat → Nat → Int) : Int := 0 + m 0 0 * Q4_1_1 m + -(m 0 1 * Q4_1_2 m) + m 0 2 * Q4_1_4 m + -(m 0 3 * Q4_1_8 m)
theorem dt4_0_0 {g : Nat → Nat → Int64} {sw : Int32} {m : Nat → Nat → Int} (hC : ∀ r c, r < 4 → c < 4 → cC g sw r c = zL (m r c)) : FEq_determinant g 8 (nI 4) sw (nI 0) (nI 0) = some (zL (Q4_0_0 m)) := by
  rw [show (8 : Nat) = 7 + 1 from rfl, FEq_determinant.eq_2, if_pos (by decide)]
  show FEq_determinant_L16 (FEq_determinant g 7) g (nI 4) sw (nI 0) (nI 0) (995 + 1 + 1 + 1 + 1 + 1) (zL 0) 0 (nI 0) = _
  rw [L16_p (c := 0) (m2 := nI 1) (m := m 0 0) (q := Q4_1_1 m) (by omega) (by omega) (by omega) (by decide) (by decide) (dt4_1_1 (m := m) hC) (hC 0 0 (by omega) (by omega))]
  rw [L16_m (c := 1) (m2 := nI 2) (m := m 0 1) (q := Q4_1_2 m) (by omega) (by omega) (by omega) (by decide) (by decide) (dt4_1_2 (m := m) hC) (hC 0 1 (by omega) (by omega))]
  rw [L16_p (c := 2) (m2 := nI 4) (m := m 0 2) (q := Q4_1_4 m) (by omega) (by omega) (by omega) (by decide) (by decide) (dt4_1_4 (m := m) hC) (hC 0 2 (by omega) (by omega))]
  rw [L16_m (c := 3) (m2 := nI 8) (m := m 0 3) (q := Q4_1_8 m) (by omega) (by omega) (by omega) (by decide) (by decide) (dt4_1_8 (m := m) hC) (hC 0 3 (by omega) (by omega))]
  rw [L16_e (by omega)]
  rfl
def DM (m : Nat → Nat → Int) : Int := D4 (m 0 0) (m 0 1) (m 0 2) (m 0 3) (m 1 0) (m 1 1) (m 1 2) (m 1 3) (m 2 0) (m 2 1) (m 2 2) (m 2 3) (m 3 0) (m 3 1) (m 3 2) (m 3 3)
def pm (n : Nat) (m : Nat → Nat → Int) (r c : Nat) : Int := if r < n ∧ c < n then m r c else if r = c then 1 else 0
theorem detC {g : Nat → Nat → Int64} {sw : Int32} {m : Nat → Nat → Int} {n : Nat} (hn : n ≤ 4) (hC : ∀ r c, r < n → c < n → cC g sw r c = zL (m r c)) : FEq_determinant g 8 (nI n) sw 0 0 = some (zL (DM (pm n m))) := by
  rcases (show n = 0 ∨ n = 1 ∨ n = 2 ∨ n = 3 ∨ n = 4 by omega) with rfl | rfl | rfl | rfl | rfl
  · rw [show (0 : Int32) = nI 0 from rfl, dt0_0_0 (m := m)]
    congr 2
  · rw [show (0 : Int32) = nI 0 from rfl, dt1_0_0 hC]
    congr 2
    unfold Q1_0_0 Q1_1_1 DM pm D4 D3
    simp
    try grind
  · rw [show (0 : Int32) = nI 0 from rfl, dt2_0_0 hC]
    congr 2
    unfold Q2_0_0 Q2_1_1 Q2_1_2 Q2_2_3 DM pm D4 D3
    simp
    try grind
  · rw [show (0 : Int32) = nI 0 from rfl, dt3_0_0 hC]
    congr 2
    unfold Q3_0_0 Q3_1_1 Q3_1_2 Q3_1_4 Q3_2_3 Q3_2_5 Q3_2_6 Q3_3_7 DM pm D4 D3
    simp
    try grind
  · rw [show (0 : Int32) = nI 0 from rfl, dt4_0_0 hC]
    congr 2
    unfold Q4_0_0 Q4_1_1 Q4_1_2 Q4_1_4 Q4_1_8 Q4_2_3 Q4_2_5 Q4_2_6 Q4_2_9 Q4_2_10 Q4_2_12 Q4_3_7 Q4_3_11 Q4_3_13 Q4_3_14 Q4_4_15 DM pm D4 D3
    simp
    try grind
