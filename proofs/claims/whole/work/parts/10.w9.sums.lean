/-! layer 2: the equations, what their numbers are bounded by -/
theorem sN_add (f g : Nat → Nat) : ∀ n : Nat, sN f n + sN g n = sN (fun e => f e + g e) n
  | 0 => rfl
  | n + 1 => by
    show sN f n + f n + (sN g n + g n) = sN (fun e => f e + g e) n + (f n + g n)
    rw [← sN_add f g n]
    omega
theorem S4_b {B : Nat} {fe : Nat → Int32} {K : Nat → Nat} {i0 i1 i2 i3 : Nat} (hB : B ≤ 10) (hK : ∀ e, e < 2 * B → K e ≤ 120) (h01 : i0 ≠ i1) (h02 : i0 ≠ i2) (h03 : i0 ≠ i3) (h12 : i1 ≠ i2) (h13 : i1 ≠ i3) (h23 : i2 ≠ i3) (hb : i0 < 1000 ∧ i1 < 1000 ∧ i2 < 1000 ∧ i3 < 1000) : sN (at_ fe i0 K) (2 * B) + sN (at_ fe i1 K) (2 * B) + sN (at_ fe i2 K) (2 * B) + sN (at_ fe i3 K) (2 * B) ≤ 2400 := by
  rw [sN_add, sN_add, sN_add]
  have h := sN_le (f := fun e => at_ fe i0 K e + at_ fe i1 K e + at_ fe i2 K e + at_ fe i3 K e) (g := fun _ => 120) (2 * B) (fun e he => by
    have hk := hK e he
    have ne : ∀ a b : Nat, a < 1000 → b < 1000 → a ≠ b → fe e = nI a → ¬ fe e = nI b := fun a b ha hb hab q1 q2 => by
      rw [q1, nI_eq (by omega) (by omega)] at q2; exact hab q2
    unfold at_
    by_cases q0 : fe e = nI i0
    · rw [if_pos q0, if_neg (ne i0 i1 (by omega) (by omega) h01 q0), if_neg (ne i0 i2 (by omega) (by omega) h02 q0), if_neg (ne i0 i3 (by omega) (by omega) h03 q0)]; omega
    · rw [if_neg q0]
      by_cases q1 : fe e = nI i1
      · rw [if_pos q1, if_neg (ne i1 i2 (by omega) (by omega) h12 q1), if_neg (ne i1 i3 (by omega) (by omega) h13 q1)]; omega
      · rw [if_neg q1]
        by_cases q2 : fe e = nI i2
        · rw [if_pos q2, if_neg (ne i2 i3 (by omega) (by omega) h23 q2)]; omega
        · rw [if_neg q2]
          by_cases q3 : fe e = nI i3
          · rw [if_pos q3]; omega
          · rw [if_neg q3]; omega)
  rw [sN_const] at h
  have : 2 * B * 120 ≤ 2400 := by omega
  omega
theorem A3_b {B : Nat} {fe : Nat → Int32} {K : Nat → Nat} {i i1 i2 i3 : Nat} (h12 : i1 ≠ i2) (h13 : i1 ≠ i3) (h23 : i2 ≠ i3) (hb : i1 < 1000 ∧ i2 < 1000 ∧ i3 < 1000) : Aj fe K i i1 (2 * B) + Aj fe K i i2 (2 * B) + Aj fe K i i3 (2 * B) ≤ sN (at_ fe i K) (2 * B) := by
  unfold Aj
  rw [sN_add, sN_add]
  apply sN_le
  intro e he
  have ne : ∀ a b : Nat, a < 1000 → b < 1000 → a ≠ b → fe (ot e) = nI a → ¬ fe (ot e) = nI b := fun a b ha hb hab q1 q2 => by
    rw [q1, nI_eq (by omega) (by omega)] at q2; exact hab q2
  unfold at_
  by_cases q : fe e = nI i
  · rw [if_pos q]
    by_cases q1 : fe (ot e) = nI i1
    · rw [if_pos ⟨q, q1⟩, if_neg (fun z => ne i1 i2 (by omega) (by omega) h12 q1 z.2), if_neg (fun z => ne i1 i3 (by omega) (by omega) h13 q1 z.2)]; omega
    · rw [if_neg (fun z => q1 z.2)]
      by_cases q2 : fe (ot e) = nI i2
      · rw [if_pos ⟨q, q2⟩, if_neg (fun z => ne i2 i3 (by omega) (by omega) h23 q2 z.2)]; omega
      · rw [if_neg (fun z => q2 z.2)]
        by_cases q3 : fe (ot e) = nI i3
        · rw [if_pos ⟨q, q3⟩]; omega
        · rw [if_neg (fun z => q3 z.2)]; omega
  · rw [if_neg q, if_neg (fun z => q z.1), if_neg (fun z => q z.1), if_neg (fun z => q z.1)]
    exact Nat.le_refl _
theorem Aj_sym {fe : Nat → Int32} {K : Nat → Nat} {i i' : Nat} : ∀ b : Nat, (∀ x, x < b → K (2 * x) = K (2 * x + 1)) → Aj fe K i i' (2 * b) = Aj fe K i' i (2 * b)
  | 0, _ => rfl
  | b + 1, h => by
    have h1 := Aj_sym (fe := fe) (K := K) (i := i) (i' := i') b (fun x hx => h x (by omega))
    have hk := h b (by omega)
    have e1 : ∀ a a' : Nat, Aj fe K a a' (2 * (b + 1)) = Aj fe K a a' (2 * b) + (if fe (2 * b) = nI a ∧ fe (2 * b + 1) = nI a' then K (2 * b) else 0) + (if fe (2 * b + 1) = nI a ∧ fe (2 * b) = nI a' then K (2 * b + 1) else 0) := by
      intro a a'
      have o1 : ot (2 * b) = 2 * b + 1 := by unfold ot; rw [if_pos (by omega)]
      have o2 : ot (2 * b + 1) = 2 * b := by unfold ot; rw [if_neg (by omega)]; omega
      show Aj fe K a a' (2 * b) + (if fe (2 * b) = nI a ∧ fe (ot (2 * b)) = nI a' then K (2 * b) else 0) + (if fe (2 * b + 1) = nI a ∧ fe (ot (2 * b + 1)) = nI a' then K (2 * b + 1) else 0) = _
      rw [o1, o2]
    rw [e1, e1, h1, hk]
    have c1 : (fe (2 * b) = nI i ∧ fe (2 * b + 1) = nI i') ↔ (fe (2 * b + 1) = nI i' ∧ fe (2 * b) = nI i) := And.comm
    have c2 : (fe (2 * b + 1) = nI i ∧ fe (2 * b) = nI i') ↔ (fe (2 * b) = nI i' ∧ fe (2 * b + 1) = nI i) := And.comm
    by_cases q1 : fe (2 * b) = nI i ∧ fe (2 * b + 1) = nI i'
    · rw [if_pos q1, if_pos (c1.mp q1)]
      by_cases q2 : fe (2 * b + 1) = nI i ∧ fe (2 * b) = nI i'
      · rw [if_pos q2, if_pos (c2.mp q2)]
      · rw [if_neg q2, if_neg (fun z => q2 (c2.mpr z))]; omega
    · rw [if_neg q1, if_neg (c := fe (2 * b + 1) = nI i' ∧ fe (2 * b) = nI i) (fun z => q1 (c1.mpr z))]
      by_cases q2 : fe (2 * b + 1) = nI i ∧ fe (2 * b) = nI i'
      · rw [if_pos q2, if_pos (c2.mp q2)]; omega
      · rw [if_neg q2, if_neg (fun z => q2 (c2.mpr z))]
theorem sZ_b {f : Nat → Int} {M : Int} : ∀ n : Nat, (∀ k, k < n → -M ≤ f k ∧ f k ≤ M) → -((n : Int) * M) ≤ sZ f n ∧ sZ f n ≤ (n : Int) * M
  | 0, _ => by
    show -(((0 : Nat) : Int) * M) ≤ 0 ∧ 0 ≤ ((0 : Nat) : Int) * M
    rw [show ((0 : Nat) : Int) = 0 from rfl, Int.zero_mul]
    omega
  | n + 1, h => by
    have h1 := sZ_b n (fun k hk => h k (by omega))
    have h2 := h n (by omega)
    show -(((n + 1 : Nat) : Int) * M) ≤ sZ f n + f n ∧ sZ f n + f n ≤ ((n + 1 : Nat) : Int) * M
    rw [show ((n + 1 : Nat) : Int) = (n : Int) + 1 from rfl, Int.add_mul, Int.one_mul]
    omega
theorem sZ_congr {f g : Nat → Int} : ∀ n : Nat, (∀ k, k < n → f k = g k) → sZ f n = sZ g n
  | 0, _ => rfl
  | n + 1, h => by
    show sZ f n + f n = sZ g n + g n
    rw [sZ_congr n (fun k hk => h k (by omega)), h n (by omega)]
theorem sZ_add (f g : Nat → Int) : ∀ n : Nat, sZ f n + sZ g n = sZ (fun e => f e + g e) n
  | 0 => rfl
  | n + 1 => by
    show sZ f n + f n + (sZ g n + g n) = sZ (fun e => f e + g e) n + (f n + g n)
    rw [← sZ_add f g n]
    omega
theorem sZ_0 : ∀ n : Nat, sZ (fun _ => 0) n = 0
  | 0 => rfl
  | n + 1 => by
    show sZ (fun _ => 0) n + 0 = 0
    rw [sZ_0 n, Int.add_zero]
theorem sZ_swap (f : Nat → Nat → Int) (n : Nat) : ∀ m : Nat, sZ (fun a => sZ (fun b => f a b) m) n = sZ (fun b => sZ (fun a => f a b) n) m
  | 0 => by
    show sZ (fun _ => 0) n = 0
    exact sZ_0 n
  | m + 1 => by
    show sZ (fun a => sZ (fun b => f a b) m + f a m) n = sZ (fun b => sZ (fun a => f a b) n) m + sZ (fun a => f a m) n
    rw [← sZ_add, sZ_swap f n m]
theorem fg_Z {f : Nat → Int32} : ∀ n : Nat, n ≤ 8 → (∀ k, k < n → (f k).toInt.natAbs ≤ 177600) → (sI f 0 n).toInt = sZ (fun l => (f l).toInt) n
  | 0, _, _ => by
    show (0 : Int32).toInt = 0
    decide
  | n + 1, hn, h => by
    have h1 := fg_Z (f := f) n (by omega) (fun k hk => h k (by omega))
    have h2 := sI_b (f := f) (M := 177600) n 0 (fun k _ hk => h k (by omega)) (by omega)
    have h3 := h n (by omega)
    rw [sI_snoc, Nat.zero_add, add_toInt (by omega) (by omega), h1]
    rfl
theorem pair_s {f : Nat → Int} {b : Nat} (h : ∀ e, e / 2 ≠ b → f e = 0) : ∀ k : Nat, sZ f (2 * k) = if b < k then f (2 * b) + f (2 * b + 1) else 0
  | 0 => by rw [if_neg (by omega)]; rfl
  | k + 1 => by
    have h1 := pair_s h k
    show sZ f (2 * k) + f (2 * k) + f (2 * k + 1) = _
    by_cases e : k = b
    · subst e
      rw [h1, if_neg (by omega), if_pos (by omega)]
      omega
    · rw [h (2 * k) (by omega), h (2 * k + 1) (by omega), h1]
      by_cases q : b < k
      · rw [if_pos q, if_pos (by omega)]; omega
      · rw [if_neg q, if_neg (by omega)]; rfl
theorem Fj_b {J B L : Nat} {fh fc fe fl fs fb fz fp : Nat → Int32} (hB : B ≤ 10) (hL : L ≤ 8) (hJ : J ≤ 6) (v : VF J B L fh fc fe fl fs fb fz fp) {i : Nat} (hi : i < J) : -1420800 ≤ Fj fe (fun d => (fg fl fb fz fp L d).toInt) i (2 * B) ∧ Fj fe (fun d => (fg fl fb fz fp L d).toInt) i (2 * B) ≤ 1420800 := by
  have e1 : Fj fe (fun d => (fg fl fb fz fp L d).toInt) i (2 * B) = sZ (fun e => sZ (fun l => if fe e = nI i then (fiF fl fb fz fp e l).toInt else 0) L) (2 * B) := by
    unfold Fj
    apply sZ_congr
    intro e he
    by_cases q : fe e = nI i
    · rw [if_pos q]
      skip
      show (sI (fiF fl fb fz fp e) 0 L).toInt = _
      rw [fg_Z (f := fiF fl fb fz fp e) L hL (fun k hk => fiF_b hB v e hk)]
      apply sZ_congr
      intro l _
      rw [if_pos q]
    · rw [if_neg q]
      exact ((sZ_congr L (fun l _ => if_neg q)).trans (sZ_0 L)).symm
  rw [e1, sZ_swap]
  have h := sZ_b (f := fun l => sZ (fun e => if fe e = nI i then (fiF fl fb fz fp e l).toInt else 0) (2 * B)) (M := 177600) L (fun l hl => by
    obtain ⟨b, z, a, k, w1, w2, -⟩ := v.2.2.2.2.2.2 l hl
    have hz : ∀ e, e / 2 ≠ b → (if fe e = nI i then (fiF fl fb fz fp e l).toInt else 0) = 0 ∨ ¬ e < 2 * B := by
      intro e hne
      by_cases he : e < 2 * B
      · left
        have : fiF fl fb fz fp e l = 0 := by
          unfold fiF
          rw [if_neg (by rw [w1, nI_eq (by omega) (by omega)]; omega)]
        rw [this]
        split
        · decide
        · rfl
      · exact Or.inr he
    have hcut : sZ (fun e => if fe e = nI i then (fiF fl fb fz fp e l).toInt else 0) (2 * B) = sZ (fun e => if e / 2 = b then (if fe e = nI i then (fiF fl fb fz fp e l).toInt else 0) else 0) (2 * B) := by
      apply sZ_congr
      intro e he
      by_cases q : e / 2 = b
      · rw [if_pos q]
      · rw [if_neg q]
        exact (hz e q).resolve_right (fun z => z he)
    rw [hcut, pair_s (b := b) (fun e hne => if_neg hne), if_pos w2]
    rw [if_pos (show 2 * b / 2 = b by omega), if_pos (show (2 * b + 1) / 2 = b by omega)]
    have hd := v.2.2.2.1 b w2
    have f1 := fiF_b hB v (2 * b) hl
    have f2 := fiF_b hB v (2 * b + 1) hl
    by_cases q : fe (2 * b) = nI i
    · rw [if_pos q, if_neg (fun z => hd (by rw [q, z]))]
      omega
    · rw [if_neg q]
      by_cases q2 : fe (2 * b + 1) = nI i
      · rw [if_pos q2]; omega
      · rw [if_neg q2]; omega)
  have h8 : (L : Int) * 177600 ≤ 1420800 := by omega
  omega
