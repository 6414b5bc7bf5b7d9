/-! layer 2: the reference's determinant -/
theorem two_e {tr : Nat → Int64} {m : Nat → Nat → Int} (h : ∀ r c, r < 4 → c < 4 → tr (4 * r + c) = zL (m r c)) {r a b : Nat} (hr : r < 3) (ha : a < 4) (hb : b < 4) : FMo_two tr (nI r) (nI a) (nI b) = some (zL (m r a * m (r + 1) b - m r b * m (r + 1) a)) := by
  unfold FMo_two
  rw [show (4 : Int32) = nI 4 from rfl, pk_mul, nI_add, nI_add, nI_add, nI_add, nI_add, nI_gd (by omega) (by omega), nI_gd (by omega) (by omega), nI_gd (by omega) (by omega), nI_gd (by omega) (by omega), nI_clamp (by omega), nI_clamp (by omega), nI_clamp (by omega), nI_clamp (by omega)]
  rw [show 4 * r + 4 + b = 4 * (r + 1) + b by omega, show 4 * r + 4 + a = 4 * (r + 1) + a by omega, h r a (by omega) ha, h r b (by omega) hb, h (r + 1) a (by omega) ha, h (r + 1) b (by omega) hb, zL_mul, zL_mul, zL_sub]
theorem detR {tr : Nat → Int64} {m : Nat → Nat → Int} (h : ∀ r c, r < 4 → c < 4 → tr (4 * r + c) = zL (m r c)) : FMo_determinant tr = some (zL (DM m)) := by
  have t1 : FMo_two tr (0 : Int32) (0 : Int32) (1 : Int32) = _ := two_e h (r := 0) (a := 0) (b := 1) (by omega) (by omega) (by omega)
  have t2 : FMo_two tr (2 : Int32) (2 : Int32) (3 : Int32) = _ := two_e h (r := 2) (a := 2) (b := 3) (by omega) (by omega) (by omega)
  have t3 : FMo_two tr (0 : Int32) (0 : Int32) (2 : Int32) = _ := two_e h (r := 0) (a := 0) (b := 2) (by omega) (by omega) (by omega)
  have t4 : FMo_two tr (2 : Int32) (1 : Int32) (3 : Int32) = _ := two_e h (r := 2) (a := 1) (b := 3) (by omega) (by omega) (by omega)
  have t5 : FMo_two tr (0 : Int32) (0 : Int32) (3 : Int32) = _ := two_e h (r := 0) (a := 0) (b := 3) (by omega) (by omega) (by omega)
  have t6 : FMo_two tr (2 : Int32) (1 : Int32) (2 : Int32) = _ := two_e h (r := 2) (a := 1) (b := 2) (by omega) (by omega) (by omega)
  have t7 : FMo_two tr (0 : Int32) (1 : Int32) (2 : Int32) = _ := two_e h (r := 0) (a := 1) (b := 2) (by omega) (by omega) (by omega)
  have t8 : FMo_two tr (2 : Int32) (0 : Int32) (3 : Int32) = _ := two_e h (r := 2) (a := 0) (b := 3) (by omega) (by omega) (by omega)
  have t9 : FMo_two tr (0 : Int32) (1 : Int32) (3 : Int32) = _ := two_e h (r := 0) (a := 1) (b := 3) (by omega) (by omega) (by omega)
  have t10 : FMo_two tr (2 : Int32) (0 : Int32) (2 : Int32) = _ := two_e h (r := 2) (a := 0) (b := 2) (by omega) (by omega) (by omega)
  have t11 : FMo_two tr (0 : Int32) (2 : Int32) (3 : Int32) = _ := two_e h (r := 0) (a := 2) (b := 3) (by omega) (by omega) (by omega)
  have t12 : FMo_two tr (2 : Int32) (0 : Int32) (1 : Int32) = _ := two_e h (r := 2) (a := 0) (b := 1) (by omega) (by omega) (by omega)
  unfold FMo_determinant
  rw [t1, b1_so2, t2, b1_so2, t3, b1_so2, t4, b1_so2, t5, b1_so2, t6, b1_so2, t7, b1_so2, t8, b1_so2, t9, b1_so2, t10, b1_so2, t11, b1_so2, t12, b1_so2]
  simp only [zL_mul, zL_sub, zL_add]
  congr 2
  unfold DM D4 D3
  clear t1 t2 t3 t4 t5 t6 t7 t8 t9 t10 t11 t12 h
  grind
theorem solved2 {mat sd : Nat → Int64} {col : Int32} {A : Nat → Nat → Int} {s : Nat → Int} (hA : ∀ r c, r < 4 → c < 4 → mat (4 * r + c) = zL (A r c)) (hS : ∀ r, r < 4 → sd r = zL (s r)) : ∀ (f k : Nat) (tr : Nat → Int64), k ≤ 16 → 16 - k < f → (∀ i, i < k → tr i = if nI (i % 4) = col then sd (i / 4) else mat i) → ∃ tr' : Nat → Int64, FMo_solved_L2 mat sd col f (nI k) tr = some (zL (DM (fun r c => if nI c = col then s r else A r c)), tr') := by
  intro f
  induction f with
  | zero => intro k tr h1 h2; omega
  | succ f ih =>
    intro k tr h1 h2 h3
    rw [FMo_solved_L2.eq_2, show (16 : Int32) = nI 16 from rfl]
    by_cases hk : k = 16
    · subst hk
      rw [if_pos (nI_le (Nat.le_refl _) (by omega)), detR (m := fun r c => if nI c = col then s r else A r c) (fun r c hr hc => by
        rw [h3 (4 * r + c) (by omega), show (4 * r + c) % 4 = c by omega, show (4 * r + c) / 4 = r by omega, hA r c hr hc, hS r hr]
        by_cases q : nI c = col
        · rw [if_pos q, if_pos q]
        · rw [if_neg q, if_neg q]), b1_so2]
      exact ⟨tr, rfl⟩
    · rw [if_neg (nI_ge (by omega) (by omega)), show (4 : Int32) = nI 4 from rfl, pk_rem (by omega) (by omega) (by omega), pk_div (by omega) (by omega) (by omega)]
      simp (disch := omega) only [nI_gd, nI_clamp, lt_eq2, nI_1]
      by_cases q : nI (k % 4) = col
      · rw [if_pos q]
        refine ih (k + 1) _ (by omega) (by omega) (fun i hi => ?_)
        by_cases e : i = k
        · subst e; rw [pk_uLs, if_pos q]
        · rw [pk_uLn e]; exact h3 i (by omega)
      · rw [if_neg q]
        refine ih (k + 1) _ (by omega) (by omega) (fun i hi => ?_)
        by_cases e : i = k
        · subst e; rw [pk_uLs, if_neg q]
        · rw [pk_uLn e]; exact h3 i (by omega)
theorem solved_e {mat sd : Nat → Int64} {A : Nat → Nat → Int} {s : Nat → Int} (hA : ∀ r c, r < 4 → c < 4 → mat (4 * r + c) = zL (A r c)) (hS : ∀ r, r < 4 → sd r = zL (s r)) (col : Int32) (tr : Nat → Int64) : ∃ tr' : Nat → Int64, FMo_solved mat sd tr col = some (zL (DM (fun r c => if nI c = col then s r else A r c)), tr') :=
  solved2 (col := col) hA hS 1000 0 tr (by omega) (by omega) (fun i hi => by omega)
theorem DM_congr {m m' : Nat → Nat → Int} (h : ∀ r c, r < 4 → c < 4 → m r c = m' r c) : DM m = DM m' := by
  unfold DM
  rw [h 0 0 (by omega) (by omega), h 0 1 (by omega) (by omega), h 0 2 (by omega) (by omega), h 0 3 (by omega) (by omega), h 1 0 (by omega) (by omega), h 1 1 (by omega) (by omega), h 1 2 (by omega) (by omega), h 1 3 (by omega) (by omega), h 2 0 (by omega) (by omega), h 2 1 (by omega) (by omega), h 2 2 (by omega) (by omega), h 2 3 (by omega) (by omega), h 3 0 (by omega) (by omega), h 3 1 (by omega) (by omega), h 3 2 (by omega) (by omega), h 3 3 (by omega) (by omega)]
theorem sc0 {n : Nat} (hn : n ≤ 4) (M : Nat → Nat → Int) : DM (pm n (fun r c => 2 * M r c)) = 2 ^ n * DM (pm n M) := by
  rcases (show n = 0 ∨ n = 1 ∨ n = 2 ∨ n = 3 ∨ n = 4 by omega) with rfl | rfl | rfl | rfl | rfl
  all_goals
    unfold DM pm D4 D3
    simp
    try grind
theorem sc1 {n i : Nat} (hn : n ≤ 4) (hi : i < n) (M : Nat → Nat → Int) (u : Nat → Int) : DM (fun r c => if c = i then (if r < n then u r else 0) else pm n (fun r c => 2 * M r c) r c) = 2 ^ (n - 1) * DM (pm n (fun r c => if c = i then u r else M r c)) := by
  rcases (show n = 1 ∨ n = 2 ∨ n = 3 ∨ n = 4 by omega) with rfl | rfl | rfl | rfl
  · obtain rfl : i = 0 := by omega
    unfold DM pm D4 D3
    simp
  · rcases (show i = 0 ∨ i = 1 by omega) with rfl | rfl
    all_goals
      unfold DM pm D4 D3
      simp
      try grind
  · rcases (show i = 0 ∨ i = 1 ∨ i = 2 by omega) with rfl | rfl | rfl
    all_goals
      unfold DM pm D4 D3
      simp
      try grind
  · rcases (show i = 0 ∨ i = 1 ∨ i = 2 ∨ i = 3 by omega) with rfl | rfl | rfl | rfl
    all_goals
      unfold DM pm D4 D3
      simp
      try grind
