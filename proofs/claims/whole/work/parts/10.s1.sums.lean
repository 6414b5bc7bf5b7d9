/-! layer 2: sharing, its numbers -/
theorem toInt64_z (x : Int32) : x.toInt64 = zL x.toInt := by
  rw [← Int32.toInt_toInt64]
  exact (Int64.ofInt_toInt _).symm
theorem cell_v {sg : Int} {V k a : Nat} (hs : sg = 1 ∨ sg = -1) (hV : V ≤ 1000000000) (hk : k ≤ 120) (ha : 1 ≤ a) (ha2 : a ≤ 2400) : ((zL (sg * V) * (nI k).toInt64) / (nI a).toInt64).toInt32 = zI (sg * ((V * k / a : Nat) : Int)) := by
  have h1 : V * k ≤ 1000000000 * 120 := Nat.mul_le_mul hV hk
  have e1 : Int64.minValue.toInt = -9223372036854775808 := by decide
  have e2 : Int64.maxValue.toInt = 9223372036854775807 := by decide
  have h2 : sg * (V : Int) * (k : Int) = sg * ((V * k : Nat) : Int) := by rw [Int.natCast_mul, Int.mul_assoc]
  rw [toInt64_z, toInt64_z, nI_toInt (by omega), nI_toInt (by omega)]
  unfold zL
  rw [← Int64.ofInt_mul, h2]
  rcases hs with rfl | rfl
  · rw [Int.one_mul, Int.one_mul, ← Int64.ofInt_tdiv (by omega) (by omega) (by omega) (by omega), Int64.toInt32_ofInt, ← Int.ofNat_tdiv]
    rfl
  · rw [Int.neg_mul, Int.neg_mul, Int.one_mul, Int.one_mul, ← Int64.ofInt_tdiv (by omega) (by omega) (by omega) (by omega), Int64.toInt32_ofInt, Int.neg_tdiv, ← Int.ofNat_tdiv]
    rfl
/-- sums of naturals, of the first n -/
def sN (f : Nat → Nat) : Nat → Nat
  | 0 => 0
  | n + 1 => sN f n + f n
theorem sN_congr {f g : Nat → Nat} : ∀ n : Nat, (∀ k, k < n → f k = g k) → sN f n = sN g n
  | 0, _ => rfl
  | n + 1, h => by
    show sN f n + f n = sN g n + g n
    rw [sN_congr n (fun k hk => h k (by omega)), h n (by omega)]
theorem sN_le {f g : Nat → Nat} : ∀ n : Nat, (∀ k, k < n → f k ≤ g k) → sN f n ≤ sN g n
  | 0, _ => Nat.le_refl 0
  | n + 1, h => by
    show sN f n + f n ≤ sN g n + g n
    have := sN_le n (fun k hk => h k (by omega))
    have := h n (by omega)
    omega
theorem sN_mem {f : Nat → Nat} : ∀ (n k : Nat), k < n → f k ≤ sN f n
  | 0, _, h => by omega
  | n + 1, k, h => by
    show f k ≤ sN f n + f n
    by_cases e : k = n
    · subst e; omega
    · have := sN_mem (f := f) n k (by omega)
      omega
theorem sN_lt {f g : Nat → Nat} {j : Nat} : ∀ n : Nat, (∀ k, k < n → f k ≤ g k) → j < n → f j < g j → sN f n < sN g n
  | 0, _, h, _ => by omega
  | n + 1, h, hj, hlt => by
    show sN f n + f n < sN g n + g n
    have h1 := h n (by omega)
    by_cases e : j = n
    · subst e
      have := sN_le (f := f) (g := g) j (fun k hk => h k (by omega))
      omega
    · have := sN_lt (f := f) (g := g) n (fun k hk => h k (by omega)) (by omega) hlt
      omega
theorem sN_const (M : Nat) : ∀ n : Nat, sN (fun _ => M) n = n * M
  | 0 => (Nat.zero_mul M).symm
  | n + 1 => by
    show sN (fun _ => M) n + M = _
    rw [sN_const M n, Nat.succ_mul]
theorem sN_I {f : Nat → Int32} {g : Nat → Nat} : ∀ n : Nat, (∀ k, k < n → f k = nI (g k)) → sI f 0 n = nI (sN g n)
  | 0, _ => rfl
  | n + 1, h => by
    rw [sI_snoc, sN_I n (fun k hk => h k (by omega)), Nat.zero_add, h n (by omega), nI_add]
    rfl
/-- what lies at a JOINT -/
def at_ (fe : Nat → Int32) (j : Nat) (x : Nat → Nat) (e : Nat) : Nat := if fe e = nI j then x e else 0
theorem at_I {fe : Nat → Int32} {j : Nat} {x : Nat → Nat} {y : Nat → Int32} {n : Nat} (h : ∀ e, e < n → y e = nI (x e)) : sI (atJ fe j y) 0 n = nI (sN (at_ fe j x) n) := by
  apply sN_I
  intro e he
  unfold atJ at_
  split
  · exact h e he
  · rfl
/-- K of an END -/
def kk (fl fs : Nat → Int32) (e : Nat) : Nat := (kB fl fs (e / 2)).toNatClampNeg
theorem kk_e {J B L : Nat} {fh fc fe fl fs fb fz fp : Nat → Int32} (v : VF J B L fh fc fe fl fs fb fz fp) {e : Nat} (he : e < 2 * B) : kB fl fs (e / 2) = nI (kk fl fs e) ∧ 1 ≤ kk fl fs e ∧ kk fl fs e ≤ 120 := by
  obtain ⟨k, h1, h2⟩ := v.2.2.2.2.1 (e / 2) (by omega)
  obtain ⟨s, h3, h4, h5⟩ := v.2.2.2.2.2.1 (e / 2) (by omega)
  have e1 : kB fl fs (e / 2) = nI (12 * s / k) := by
    unfold kB
    rw [h1, h3, l12_, pk_mul, pk_div (by omega) (by omega) (by omega)]
  have h6 : 1 ≤ 12 * s / k ∧ 12 * s / k ≤ 120 := by
    rcases h2 with rfl | rfl | rfl | rfl | rfl | rfl <;> omega
  unfold kk
  rw [e1, nI_clamp (by omega)]
  exact ⟨rfl, h6.1, h6.2⟩
/-- what is shared, of n that add up to a: V k / a each, and a rest smaller than their number -/
theorem share_rest {p : Nat → Bool} {k : Nat → Nat} {V a N : Nat} (ha : 1 ≤ a) : ∀ n : Nat, V * sN (fun e => if p e then k e else 0) n ≤ a * sN (fun e => if p e then V * k e / a else 0) n + (a - 1) * sN (fun e => if p e then 1 else 0) n ∧ a * sN (fun e => if p e then V * k e / a else 0) n ≤ V * sN (fun e => if p e then k e else 0) n
  | 0 => by
    show V * 0 ≤ a * 0 + (a - 1) * 0 ∧ a * 0 ≤ V * 0
    omega
  | n + 1 => by
    obtain ⟨h1, h2⟩ := share_rest (p := p) (k := k) (V := V) (a := a) (N := N) ha n
    show V * (sN _ n + _) ≤ a * (sN _ n + _) + (a - 1) * (sN _ n + _) ∧ a * (sN _ n + _) ≤ V * (sN _ n + _)
    rw [Nat.mul_add, Nat.mul_add, Nat.mul_add]
    dsimp only
    by_cases hp : p n
    · rw [if_pos hp, if_pos hp, if_pos hp]
      have h3 := Nat.div_add_mod (V * k n) a
      have h4 := Nat.mod_lt (V * k n) (show 0 < a by omega)
      omega
    · rw [if_neg hp, if_neg hp, if_neg hp]
      omega
theorem share_R {fe : Nat → Int32} {j V a n : Nat} {k : Nat → Nat} (ha : a = sN (at_ fe j k) n) (ha1 : 1 ≤ a) : sN (at_ fe j (fun e => V * k e / a)) n ≤ V ∧ (V = 0 ∨ V - sN (at_ fe j (fun e => V * k e / a)) n < sN (at_ fe j (fun _ => 1)) n) := by
  have h := share_rest (p := fun e => decide (fe e = nI j)) (k := k) (V := V) (a := a) (N := 0) ha1 n
  have e : ∀ x : Nat → Nat, sN (fun e => if decide (fe e = nI j) = true then x e else 0) n = sN (at_ fe j x) n := by
    intro x
    apply sN_congr
    intro i _
    unfold at_
    by_cases q : fe i = nI j
    · rw [if_pos q, if_pos (decide_eq_true q)]
    · rw [if_neg q, if_neg (by rw [decide_eq_true_iff]; exact q)]
  rw [e k, e (fun e => V * k e / a), e (fun _ => 1), ← ha] at h
  obtain ⟨h1, h2⟩ := h
  have h3 : sN (at_ fe j (fun e => V * k e / a)) n ≤ V := by
    rw [Nat.mul_comm V a] at h2
    exact Nat.le_of_mul_le_mul_left h2 (by omega)
  refine ⟨h3, ?_⟩
  by_cases hV : V = 0
  · exact Or.inl hV
  · right
    apply Nat.lt_of_not_le
    intro h4
    have h5 : a * sN (at_ fe j (fun _ => 1)) n ≤ a * (V - sN (at_ fe j (fun e => V * k e / a)) n) := Nat.mul_le_mul_left a h4
    rw [Nat.mul_sub] at h5
    have h6 : a * sN (at_ fe j (fun e => V * k e / a)) n ≤ a * V := Nat.mul_le_mul_left a h3
    rw [Nat.mul_comm V a] at h1
    have h7 : a * sN (at_ fe j (fun _ => 1)) n = (a - 1) * sN (at_ fe j (fun _ => 1)) n + sN (at_ fe j (fun _ => 1)) n := by
      rw [← Nat.succ_mul]
      congr 1
      omega
    have h8 : 0 < sN (at_ fe j (fun _ => 1)) n := by
      have h9 : sN (at_ fe j k) n ≤ sN (at_ fe j k) n := Nat.le_refl _
      apply Nat.lt_of_not_le
      intro h10
      have h11 : ∀ m : Nat, sN (at_ fe j (fun _ => 1)) m ≤ 0 → sN (at_ fe j k) m = 0 := by
        intro m
        induction m with
        | zero => intro _; rfl
        | succ m ih =>
          intro hh
          have hh2 : sN (at_ fe j (fun _ => 1)) m + at_ fe j (fun _ => 1) m ≤ 0 := hh
          show sN (at_ fe j k) m + at_ fe j k m = 0
          have g1 : at_ fe j (fun _ => 1) m = if fe m = nI j then 1 else 0 := rfl
          have g2 : at_ fe j k m = if fe m = nI j then k m else 0 := rfl
          rw [ih (by omega), g2]
          rw [g1] at hh2
          by_cases q : fe m = nI j
          · rw [if_pos q] at hh2
            omega
          · rw [if_neg q]
      have := h11 n h10
      omega
    omega
