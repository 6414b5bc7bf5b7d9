/-! the reference's page P holds the class's frame -/
def RF (P J B L : Nat) (fh fc fe fl fs fb fz fp m : Nat → Int32) : Prop :=
  J ≤ 6 ∧ B ≤ 10 ∧ L ≤ 8 ∧ m (P + 76) = nI J ∧ m (P + 77) = nI B ∧ m (P + 78) = nI L ∧ (∀ j, j < J → m (P + j) = fh j ∧ m (P + 6 + j) = fc j) ∧ (∀ b, b < B → m (P + 12 + b) = fe (2 * b) ∧ m (P + 22 + b) = fe (2 * b + 1) ∧ m (P + 32 + b) = fl b ∧ m (P + 42 + b) = fs b) ∧ (∀ i, i < L → m (P + 52 + i) = fb i ∧ m (P + 60 + i) = fz i ∧ m (P + 68 + i) = fp i)
theorem l2_ : (2 : Int32) = nI 2 := rfl
theorem l12_ : (12 : Int32) = nI 12 := rfl
theorem l22_ : (22 : Int32) = nI 22 := rfl
theorem l32_ : (32 : Int32) = nI 32 := rfl
theorem l42_ : (42 : Int32) = nI 42 := rfl
theorem l0_ : (0 : Int32) = nI 0 := rfl
theorem ix_ {i n : Nat} {α : Type} {k : Option α} (h : i < n) (hn : n < 2147483648) : gd_ (nI i) n k = k := nI_gd h hn
theorem Mo_jointOf {J B L : Nat} {fh fc fe fl fs fb fz fp m : Nat → Int32} (h : RF 0 J B L fh fc fe fl fs fb fz fp m) {e : Nat} (he : e < 2 * B) : FMo_jointOf m (nI e) = some (fe e) := by
  obtain ⟨h1, h2, h3, h4, h5, h6, h7, h8, h9⟩ := h
  have hb := h8 (e / 2) (by omega)
  unfold FMo_jointOf
  rw [l2_, l12_, l22_, pk_rem (by omega) (by omega) (by omega), pk_div (by omega) (by omega) (by omega), nI_add, nI_add, l0_]
  by_cases h0 : e % 2 = 0
  · rw [if_pos (by rw [h0]), ix_ (by omega) (by omega), nI_clamp (by omega)]
    have e1 : 2 * (e / 2) = e := by omega
    have e2 := hb.1
    rw [e1] at e2
    rw [← e2, Nat.zero_add]
  · rw [if_neg (by rw [nI_eq (by omega) (by omega)]; exact h0), ix_ (by omega) (by omega), nI_clamp (by omega)]
    have e1 : 2 * (e / 2) + 1 = e := by omega
    have e2 := hb.2.1
    rw [e1] at e2
    rw [← e2, Nat.zero_add]
def VF (J B L : Nat) (fh fc fe fl fs fb fz fp : Nat → Int32) : Prop :=
  (∀ j, j < 6 → fh j = 0 ∨ fh j = 1) ∧ (∀ j, j < J → -9999 ≤ (fc j).toInt ∧ (fc j).toInt ≤ 9999) ∧ (∀ e, e < 2 * B → vp_in (fe e) J) ∧ (∀ b, b < B → ¬ fe (2 * b) = fe (2 * b + 1)) ∧ (∀ b, b < B → ∃ k : Nat, fl b = nI k ∧ (k = 1 ∨ k = 2 ∨ k = 3 ∨ k = 4 ∨ k = 6 ∨ k = 12)) ∧ (∀ b, b < B → ∃ k : Nat, fs b = nI k ∧ 1 ≤ k ∧ k ≤ 10) ∧ (∀ i, i < L → ∃ b z a k : Nat, fb i = nI b ∧ b < B ∧ fz i = nI z ∧ fp i = nI a ∧ fl b = nI k ∧ (a < k ∧ k ≤ 12) ∧ 1 ≤ z ∧ (z ≤ 99 ∨ 0 < a ∧ z ≤ 999))
theorem Mo_joints {J B L : Nat} {fh fc fe fl fs fb fz fp m : Nat → Int32} (h : RF 0 J B L fh fc fe fl fs fb fz fp m) : FMo_joints m = some (nI J) := by
  rw [← h.2.2.2.1]; rfl
theorem Mo_beams {J B L : Nat} {fh fc fe fl fs fb fz fp m : Nat → Int32} (h : RF 0 J B L fh fc fe fl fs fb fz fp m) : FMo_beams m = some (nI B) := by
  rw [← h.2.2.2.2.1]; rfl
theorem Mo_loads {J B L : Nat} {fh fc fe fl fs fb fz fp m : Nat → Int32} (h : RF 0 J B L fh fc fe fl fs fb fz fp m) : FMo_loads m = some (nI L) := by
  rw [← h.2.2.2.2.2.1]; rfl
theorem Fr_jointOf {fe : Nat → Int32} {e : Nat} (he : e < 20) : FFr_jointOf fe (nI e) = some (fe e) := by
  unfold FFr_jointOf
  rw [ix_ (by omega) (by omega), nI_clamp (by omega)]
