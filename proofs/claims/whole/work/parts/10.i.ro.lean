/-! layer 2: what is only read -/
/-- whether a JOINT can turn, is LOOSE; OUT without sign -/
def cT (bn fh : Nat → Int32) (j : Nat) : Int32 := if fh j = 0 then (if bn j ≤ 0 then 0 else 1) else 0
def lo (bo bn fh : Nat → Int32) (j : Nat) : Int32 := if cT bn fh j = 0 then 0 else if bo j = 0 then 0 else 1
def ab (x : Int32) : Int32 := if 0 ≤ x then x else 0 - x
/-- what the readers know of the reference's page 0 -/
def RO (J : Nat) (fh m mo bo bn bk : Nat → Int32) : Prop :=
  J ≤ 6 ∧ FMo_joints m = some (nI J) ∧ (∀ j, j < J → m j = fh j) ∧ (∀ j, j < J → FMo_endsAt m (nI j) = some (bn j)) ∧ (∀ j, j < J → FMo_stiffAt m (nI j) = some (bk j)) ∧ (∀ j, j < J → FMo_outOf m mo (nI j) = some (bo j))
theorem Ba_canTurn {bn fh : Nat → Int32} {j : Nat} (hj : j < 6) : FBa_canTurn bn fh (nI j) = some (cT bn fh j) := by
  unfold FBa_canTurn cT
  simp (disch := omega) only [nI_gd, nI_clamp]
  by_cases h0 : fh j = 0
  · rw [if_pos h0, if_pos h0]
    by_cases h1 : bn j ≤ 0
    · rw [if_pos h1, if_pos h1]
    · rw [if_neg h1, if_neg h1]
  · rw [if_neg h0, if_neg h0]
theorem Ba_isLoose {bo bn fh : Nat → Int32} {j : Nat} (hj : j < 6) : FBa_isLoose bo bn fh (nI j) = some (lo bo bn fh j) := by
  unfold FBa_isLoose lo
  rw [Ba_canTurn hj]
  simp (disch := omega) only [nI_gd, nI_clamp, b1_some]
  by_cases h0 : cT bn fh j = 0
  · rw [if_pos h0, if_pos h0]
  · rw [if_neg h0, if_neg h0]
    by_cases h1 : bo j = 0
    · rw [if_pos h1, if_pos h1]
    · rw [if_neg h1, if_neg h1]
theorem Mo_isTurning {J : Nat} {fh m mo bo bn bk : Nat → Int32} (h : RO J fh m mo bo bn bk) {j : Nat} (hj : j < J) : FMo_isTurning m (nI j) = some (cT bn fh j) := by
  have hJ := h.1
  unfold FMo_isTurning cT
  simp (disch := omega) only [nI_gd, nI_clamp, h.2.2.1 j hj, h.2.2.2.1 j hj, b1_some]
  by_cases h0 : fh j = 0
  · rw [if_pos h0, if_pos h0]
    by_cases h1 : bn j ≤ 0
    · rw [if_pos h1, if_pos h1]
    · rw [if_neg h1, if_neg h1]
  · rw [if_neg h0, if_neg h0]
theorem Mo_isLoose {J : Nat} {fh m mo bo bn bk : Nat → Int32} (h : RO J fh m mo bo bn bk) {j : Nat} (hj : j < J) : FMo_isLoose m mo (nI j) = some (lo bo bn fh j) := by
  have hJ := h.1
  unfold FMo_isLoose lo
  rw [Mo_isTurning h hj]
  simp only [b1_some, h.2.2.2.2.2 j hj]
  by_cases h0 : cT bn fh j = 0
  · rw [if_pos h0, if_pos h0]
  · rw [if_neg h0, if_neg h0]
    by_cases h1 : bo j = 0
    · rw [if_pos h1, if_pos h1]
    · rw [if_neg h1, if_neg h1]
theorem Mo_size (x : Int32) : FMo_size x = some (ab x) := by
  unfold FMo_size ab
  by_cases h : 0 ≤ x
  · rw [if_pos h, if_pos h]
  · rw [if_neg h, if_neg h, Int32.zero_sub]
theorem loose_s {J : Nat} {fh m mo bo bn bk : Nat → Int32} (h : RO J fh m mo bo bn bk) : ∀ (n i : Nat) (acc : Int32), i ≤ J → J - i < n → ∃ r, FBa_loose_L4 bo bn fh (nI J) n acc (nI i) = some r ∧ FMo_looseMany_L4 m mo n acc (nI i) = some r := by
  have hJ := h.1
  intro n
  induction n with
  | zero => intro i acc h1 h2; omega
  | succ n ih =>
    intro i acc h1 h2
    rw [FBa_loose_L4.eq_2, FMo_looseMany_L4.eq_2, h.2.1]
    simp only [b1_some, lt_eq]
    by_cases hi : i = J
    · subst hi
      rw [if_pos (nI_le (Nat.le_refl i) (by omega)), if_pos (nI_le (Nat.le_refl i) (by omega))]
      exact ⟨acc, rfl, rfl⟩
    · have hlt : i < J := by omega
      rw [if_neg (nI_ge hlt (by omega)), if_neg (nI_ge hlt (by omega)), Ba_isLoose (by omega), Mo_isLoose h hlt]
      simp only [b1_some, nI_1, Int32.add_zero]
      by_cases h0 : lo bo bn fh i = 0
      · rw [if_pos h0, if_pos h0]
        exact ih (i + 1) _ (by omega) (by omega)
      · rw [if_neg h0, if_neg h0]
        exact ih (i + 1) _ (by omega) (by omega)
theorem left_s {J : Nat} {fh m mo bo bn bk : Nat → Int32} (h : RO J fh m mo bo bn bk) : ∀ (n i : Nat) (acc : Int32), i ≤ J → J - i < n → ∃ r, FBa_left_L4 bo bn fh (nI J) n acc (nI i) = some r ∧ FMo_outAll_L4 m mo n acc (nI i) = some r := by
  have hJ := h.1
  intro n
  induction n with
  | zero => intro i acc h1 h2; omega
  | succ n ih =>
    intro i acc h1 h2
    rw [FBa_left_L4.eq_2, FMo_outAll_L4.eq_2, h.2.1]
    simp only [b1_some, lt_eq]
    by_cases hi : i = J
    · subst hi
      rw [if_pos (nI_le (Nat.le_refl i) (by omega)), if_pos (nI_le (Nat.le_refl i) (by omega))]
      exact ⟨acc, rfl, rfl⟩
    · have hlt : i < J := by omega
      rw [if_neg (nI_ge hlt (by omega)), if_neg (nI_ge hlt (by omega)), Ba_canTurn (by omega), Mo_isTurning h hlt]
      simp (disch := omega) only [b1_some, nI_1, Int32.add_zero, nI_gd, nI_clamp, h.2.2.2.2.2 i hlt, Mo_size]
      by_cases h0 : cT bn fh i = 0
      · rw [if_pos h0, if_pos h0]
        exact ih (i + 1) _ (by omega) (by omega)
      · rw [if_neg h0, if_neg h0]
        exact ih (i + 1) _ (by omega) (by omega)
theorem bare_s {J : Nat} {fh m mo bo bn bk : Nat → Int32} (h : RO J fh m mo bo bn bk) : ∀ (n i : Nat) (acc : Int32), i ≤ J → J - i < n → ∃ r, FBa_bare_L4 bn (nI J) n acc (nI i) = some r ∧ FMo_bare_L4 m n acc (nI i) = some r := by
  have hJ := h.1
  intro n
  induction n with
  | zero => intro i acc h1 h2; omega
  | succ n ih =>
    intro i acc h1 h2
    rw [FBa_bare_L4.eq_2, FMo_bare_L4.eq_2, h.2.1]
    simp only [b1_some, lt_eq]
    by_cases hi : i = J
    · subst hi
      rw [if_pos (nI_le (Nat.le_refl i) (by omega)), if_pos (nI_le (Nat.le_refl i) (by omega))]
      exact ⟨acc, rfl, rfl⟩
    · have hlt : i < J := by omega
      rw [if_neg (nI_ge hlt (by omega)), if_neg (nI_ge hlt (by omega))]
      simp (disch := omega) only [b1_some, nI_1, Int32.add_zero, nI_gd, nI_clamp, h.2.2.2.1 i hlt]
      by_cases h0 : bn i = 0
      · rw [if_pos h0, if_pos h0]
        exact ih (i + 1) _ (by omega) (by omega)
      · rw [if_neg h0, if_neg h0]
        exact ih (i + 1) _ (by omega) (by omega)
/-- JOINTS that TURN, of n from i on -/
def tn (fh : Nat → Int32) : Nat → Nat → Nat
  | _, 0 => 0
  | i, n + 1 => (if fh i = 0 then 1 else 0) + tn fh (i + 1) n
theorem turning_s {P J : Nat} (hP : P ≤ 316) (hJ : J ≤ 6) {fh m : Nat → Int32} (hm : m (P + 76) = nI J) (h01 : ∀ j, j < J → fh j = 0 ∨ fh j = 1) (hH : ∀ j, j < J → m (P + j) = fh j) : ∀ (n i a : Nat), i ≤ J → J - i < n → FFr_turning_L4 fh (nI J) n (nI a) (nI i) = some (nI (a + tn fh i (J - i))) ∧ FMo_turning_L4 m (nI P) n (nI a) (nI i) = some (nI (a + tn fh i (J - i))) := by
  intro n
  induction n with
  | zero => intro i a h1 h2; omega
  | succ n ih =>
    intro i a h1 h2
    rw [FFr_turning_L4.eq_2, FMo_turning_L4.eq_2]
    simp (disch := omega) only [show (76 : Int32) = nI 76 from rfl, nI_add, lt_eq, nI_gd, nI_clamp, hm]
    by_cases hi : i = J
    · subst hi
      rw [if_pos (nI_le (Nat.le_refl i) (by omega)), if_pos (nI_le (Nat.le_refl i) (by omega)), Nat.sub_self]
      exact ⟨rfl, rfl⟩
    · have hlt : i < J := by omega
      rw [if_neg (nI_ge hlt (by omega)), if_neg (nI_ge hlt (by omega)), hH i hlt, show J - i = (J - (i + 1)) + 1 by omega]
      show _ = some (nI (a + ((if fh i = 0 then 1 else 0) + tn fh (i + 1) (J - (i + 1))))) ∧ _ = some (nI (a + ((if fh i = 0 then 1 else 0) + tn fh (i + 1) (J - (i + 1)))))
      rw [nI_gd (by omega) (by omega)]
      rcases h01 i hlt with h0 | h0
      · rw [if_pos h0, if_pos h0, h0, ← Nat.add_assoc, Int32.sub_zero, nI_1, nI_1]
        exact ih (i + 1) (a + 1) (by omega) (by omega)
      · rw [if_neg (by rw [h0]; decide), if_neg (by rw [h0]; decide), h0, Nat.zero_add, nI_1, show nI a + (1 - 1) = nI a from by rw [show (1 : Int32) - 1 = 0 from by decide, Int32.add_zero]]
        exact ih (i + 1) a (by omega) (by omega)
theorem turning_e {P J : Nat} (hP : P ≤ 316) (hJ : J ≤ 6) {fh m : Nat → Int32} (hm : m (P + 76) = nI J) (h01 : ∀ j, j < J → fh j = 0 ∨ fh j = 1) (hH : ∀ j, j < J → m (P + j) = fh j) : FFr_turning fh (nI J) = some (nI (tn fh 0 J)) ∧ FMo_turning m (nI P) = some (nI (tn fh 0 J)) := by
  have := turning_s hP hJ hm h01 hH 1000 0 0 (by omega) (by omega)
  rw [Nat.zero_add, Nat.sub_zero] at this
  exact this
