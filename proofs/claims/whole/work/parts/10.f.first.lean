theorem Mo_on {J B L : Nat} {fh fc fe fl fs fb fz fp m : Nat → Int32} (h : RF 0 J B L fh fc fe fl fs fb fz fp m) {i : Nat} (hi : i < L) : m (52 + i) = fb i := by
  have := (h.2.2.2.2.2.2.2.2 i hi).1
  rw [Nat.zero_add] at this
  exact this
/-- FIRST of an END: the sum over the LOADS from i on -/
def fiF (fl fb fz fp : Nat → Int32) (e : Nat) (i : Nat) : Int32 := if fb i = nI (e / 2) then (if e % 2 = 0 then -prA (fl (fb i).toNatClampNeg) (fz i) (fp i) else prB (fl (fb i).toNatClampNeg) (fz i) (fp i)) else 0
theorem first_loops {J B L : Nat} {fh fc fe fl fs fb fz fp m : Nat → Int32} (h : RF 0 J B L fh fc fe fl fs fb fz fp m) (v : VF J B L fh fc fe fl fs fb fz fp) {e : Nat} (he : e < 20) :
    ∀ (n i : Nat) (acc : Int32), i ≤ L → L - i < n → FFr_first_L4 fl fb fz fp (nI L) (nI e) n acc (nI i) = some (acc + sI (fiF fl fb fz fp e) i (L - i)) ∧ FMo_firstOf_L4 m (nI e) n acc (nI i) = some (acc + sI (fiF fl fb fz fp e) i (L - i)) := by
  have hL := h.2.2.1
  have hB := h.2.1
  intro n
  induction n with
  | zero => intro i acc h1 h2; omega
  | succ n ih =>
    intro i acc h1 h2
    rw [FFr_first_L4.eq_2, FMo_firstOf_L4.eq_2, Mo_loads h]
    simp only [b1_some, lt_eq]
    by_cases hi : i = L
    · subst hi
      rw [if_pos (nI_le (Nat.le_refl i) (by omega)), if_pos (nI_le (Nat.le_refl i) (by omega)), Nat.sub_self]
      show some acc = some (acc + 0) ∧ some acc = some (acc + 0)
      rw [Int32.add_zero]
      exact ⟨rfl, rfl⟩
    · have hlt : i < L := by omega
      have hd : L - i = (L - (i + 1)) + 1 := by omega
      have hs : sI (fiF fl fb fz fp e) i (L - i) = fiF fl fb fz fp e i + sI (fiF fl fb fz fp e) (i + 1) (L - (i + 1)) := by rw [hd]; rfl
      rw [if_neg (nI_ge hlt (by omega)), if_neg (nI_ge hlt (by omega)), hs, l52_, nI_add, ix_ (by omega) (by omega), ix_ (by omega) (by omega), nI_clamp (n := i) (by omega), nI_clamp (n := 52 + i) (by omega), Mo_on h hlt, nI_1, l2_, pk_rem (by omega) (by omega) (by omega), pk_div (by omega) (by omega) (by omega)]
      obtain ⟨p1, p2⟩ := Fr_pressed hB hL v hlt
      obtain ⟨p3, p4⟩ := Mo_pressed h v hlt
      rw [p1, p2, p3, p4]
      simp only [b1_some]
      have hih := fun a => ih (i + 1) a (by omega) (by omega)
      have hfi : fiF fl fb fz fp e i = if fb i = nI (e / 2) then (if e % 2 = 0 then -prA (fl (fb i).toNatClampNeg) (fz i) (fp i) else prB (fl (fb i).toNatClampNeg) (fz i) (fp i)) else 0 := rfl
      by_cases hb : fb i = nI (e / 2)
      · rw [if_pos hb] at hfi
        rw [if_pos hb, if_pos hb, l0_]
        by_cases h0 : e % 2 = 0
        · rw [if_pos h0] at hfi
          rw [if_pos (by rw [h0]), if_pos (by rw [h0]), hfi, ← Int32.add_assoc]
          exact hih _
        · rw [if_neg h0] at hfi
          rw [if_neg (by rw [nI_eq (by omega) (by omega)]; exact h0), if_neg (by rw [nI_eq (by omega) (by omega)]; exact h0), hfi, ← Int32.add_assoc]
          exact hih _
      · rw [if_neg hb] at hfi
        rw [if_neg hb, if_neg hb, hfi, Int32.zero_add, Int32.add_zero]
        exact hih _
