/-! layer 2: ranks -/
/-- whether k stands ahead of j, and how many of n from i on -/
def ah (bo bn fh : Nat → Int32) (j k : Nat) : Nat := if lo bo bn fh k = 0 then 0 else if ab (bo j) < ab (bo k) then 1 else if ab (bo k) = ab (bo j) then (if j ≤ k then 0 else 1) else 0
def ahN (bo bn fh : Nat → Int32) (j : Nat) : Nat → Nat → Nat
  | _, 0 => 0
  | i, n + 1 => ah bo bn fh j i + ahN bo bn fh j (i + 1) n
theorem looseAhead_s {J : Nat} (hJ : J ≤ 6) {bo bn fh : Nat → Int32} {j : Nat} (hj : j < J) : ∀ (n i a : Nat), i ≤ J → J - i < n → FBa_looseAhead_L16 bo bn fh (nI J) (nI j) (ab (bo j)) n (nI a) (nI i) = some (nI (a + ahN bo bn fh j i (J - i))) := by
  intro n
  induction n with
  | zero => intro i a h1 h2; omega
  | succ n ih =>
    intro i a h1 h2
    rw [FBa_looseAhead_L16.eq_2]
    simp only [lt_eq]
    by_cases hi : i = J
    · subst hi
      rw [if_pos (nI_le (Nat.le_refl i) (by omega)), Nat.sub_self]
      rfl
    · have hlt : i < J := by omega
      rw [if_neg (nI_ge hlt (by omega)), Ba_isLoose (by omega), show J - i = (J - (i + 1)) + 1 by omega]
      simp (disch := omega) only [nI_gd, nI_clamp, b1_some, nI_1, nI_leI]
      show _ = some (nI (a + (ah bo bn fh j i + ahN bo bn fh j (i + 1) (J - (i + 1)))))
      have e : (if 0 ≤ bo i then bo i else 0 - bo i) = ab (bo i) := rfl
      rw [e, ← Nat.add_assoc]
      unfold ah
      by_cases h0 : lo bo bn fh i = 0
      · rw [if_pos h0, if_pos h0]
        exact ih (i + 1) _ (by omega) (by omega)
      · rw [if_neg h0, if_neg h0]
        by_cases h3 : ab (bo j) < ab (bo i)
        · rw [if_pos h3, if_pos h3]
          exact ih (i + 1) _ (by omega) (by omega)
        · rw [if_neg h3, if_neg h3]
          by_cases h4 : ab (bo i) = ab (bo j)
          · rw [if_pos h4, if_pos h4]
            by_cases h5 : j ≤ i
            · rw [if_pos h5, if_pos h5]
              exact ih (i + 1) _ (by omega) (by omega)
            · rw [if_neg h5, if_neg h5]
              exact ih (i + 1) _ (by omega) (by omega)
          · rw [if_neg h4, if_neg h4]
            exact ih (i + 1) _ (by omega) (by omega)
theorem looseAhead_e {J : Nat} (hJ : J ≤ 6) {bo bn fh : Nat → Int32} {j : Nat} (hj : j < J) : FBa_looseAhead bo bn fh (nI J) (nI j) = some (nI (ahN bo bn fh j 0 J)) := by
  unfold FBa_looseAhead
  simp (disch := omega) only [nI_gd, nI_clamp, lt_eq]
  have := looseAhead_s hJ (bo := bo) (bn := bn) (fh := fh) hj 1000 0 0 (by omega) (by omega)
  rw [Nat.zero_add, Nat.sub_zero] at this
  exact this
theorem rank21_s {J : Nat} {fh m mo bo bn bk : Nat → Int32} (h : RO J fh m mo bo bn bk) {j : Nat} (hj : j < J) (k : Int32 → Int32 → Option Int32) : ∀ (n i a : Nat), i ≤ J → J - i < n → FMo_rank_L21 m mo (nI j) k n (nI a) (nI i) = k (nI (a + ahN bo bn fh j i (J - i))) (nI J) := by
  have hJ := h.1
  intro n
  induction n with
  | zero => intro i a h1 h2; omega
  | succ n ih =>
    intro i a h1 h2
    rw [FMo_rank_L21.eq_2, h.2.1]
    simp only [lt_eq, b1_some]
    by_cases hi : i = J
    · subst hi
      rw [if_pos (nI_le (Nat.le_refl i) (by omega)), Nat.sub_self]
      rfl
    · have hlt : i < J := by omega
      rw [if_neg (nI_ge hlt (by omega)), Mo_isLoose h hlt, h.2.2.2.2.2 i hlt, h.2.2.2.2.2 j hj, show J - i = (J - (i + 1)) + 1 by omega]
      simp (disch := omega) only [b1_some, Mo_size, nI_1, nI_leI, Int32.add_zero]
      show _ = k (nI (a + (ah bo bn fh j i + ahN bo bn fh j (i + 1) (J - (i + 1))))) _
      rw [← Nat.add_assoc]
      unfold ah
      by_cases h0 : lo bo bn fh i = 0
      · rw [if_pos h0, if_pos h0]
        exact ih (i + 1) _ (by omega) (by omega)
      · rw [if_neg h0, if_neg h0]
        by_cases h3 : ab (bo j) < ab (bo i)
        · rw [if_pos h3, if_pos h3]
          exact ih (i + 1) _ (by omega) (by omega)
        · rw [if_neg h3, if_neg h3]
          by_cases h4 : ab (bo i) = ab (bo j)
          · rw [if_pos h4, if_pos h4]
            by_cases h5 : j ≤ i
            · rw [if_pos h5, if_pos h5]
              exact ih (i + 1) _ (by omega) (by omega)
            · rw [if_neg h5, if_neg h5]
              exact ih (i + 1) _ (by omega) (by omega)
          · rw [if_neg h4, if_neg h4]
            exact ih (i + 1) _ (by omega) (by omega)
theorem rank8_s {J : Nat} {fh m mo bo bn bk : Nat → Int32} (h : RO J fh m mo bo bn bk) (x : Int32) : ∀ (n i : Nat), i ≤ J → J - i < n → ∃ r, FBa_ranked_L2 bo bn fh (nI J) x n (nI i) = some r ∧ FMo_rank_L8 m mo x n (nI i) = some r := by
  have hJ := h.1
  intro n
  induction n with
  | zero => intro i h1 h2; omega
  | succ n ih =>
    intro i h1 h2
    rw [FBa_ranked_L2.eq_2, FMo_rank_L8.eq_2, h.2.1]
    simp only [lt_eq, b1_some]
    by_cases hi : i = J
    · subst hi
      rw [if_pos (nI_le (Nat.le_refl i) (by omega)), if_pos (nI_le (Nat.le_refl i) (by omega))]
      exact ⟨_, rfl, rfl⟩
    · have hlt : i < J := by omega
      rw [if_neg (nI_ge hlt (by omega)), if_neg (nI_ge hlt (by omega)), Ba_isLoose (by omega), looseAhead_e hJ hlt, l0_, rank21_s h hlt _ 1000 0 0 (by omega) (by omega), Mo_isLoose h hlt, Nat.zero_add, Nat.sub_zero]
      simp only [b1_some, nI_1]
      by_cases h0 : lo bo bn fh i = nI 0
      · rw [if_pos h0, if_pos h0]
        exact ih (i + 1) (by omega) (by omega)
      · rw [if_neg h0, if_neg h0]
        by_cases h3 : nI (ahN bo bn fh i 0 J) = x
        · rw [if_pos h3, if_pos h3]
          exact ⟨_, rfl, rfl⟩
        · rw [if_neg h3, if_neg h3]
          exact ih (i + 1) (by omega) (by omega)
theorem ahN_zero {bo bn fh : Nat → Int32} {j : Nat} : ∀ (n i : Nat), (∀ k, i ≤ k → k < i + n → ah bo bn fh j k = 0) → ahN bo bn fh j i n = 0
  | 0, _, _ => rfl
  | n + 1, i, h => by
    show ah bo bn fh j i + ahN bo bn fh j (i + 1) n = 0
    rw [h i (Nat.le_refl i) (by omega), ahN_zero n (i + 1) (fun k h1 h2 => h k (by omega) (by omega))]
theorem ahN_pos {bo bn fh : Nat → Int32} {j k : Nat} (hk : 0 < ah bo bn fh j k) : ∀ (n i : Nat), i ≤ k → k < i + n → 0 < ahN bo bn fh j i n
  | 0, _, _, _ => by omega
  | n + 1, i, h1, h2 => by
    show 0 < ah bo bn fh j i + ahN bo bn fh j (i + 1) n
    by_cases e : i = k
    · subst e; omega
    · have := ahN_pos hk n (i + 1) (by omega) (by omega)
      omega
theorem ah_le (bo bn fh : Nat → Int32) (j k : Nat) : ah bo bn fh j k ≤ 1 := by
  unfold ah
  repeat' split
  all_goals omega
theorem ahN_le (bo bn fh : Nat → Int32) (j : Nat) : ∀ (n i : Nat), ahN bo bn fh j i n ≤ n
  | 0, _ => Nat.le_refl 0
  | n + 1, i => by
    show ah bo bn fh j i + ahN bo bn fh j (i + 1) n ≤ n + 1
    have h1 := ah_le bo bn fh j i
    have h2 := ahN_le bo bn fh j n (i + 1)
    omega
/-- the first of the LOOSE ones of greatest OUT -/
def wP (J : Nat) (bo bn fh : Nat → Int32) (r : Int32) : Prop :=
  (r = -4 ∧ ∀ k, k < J → lo bo bn fh k = 0) ∨ ∃ j, j < J ∧ r = nI j ∧ ¬ lo bo bn fh j = 0 ∧ ∀ k, k < J → ¬ lo bo bn fh k = 0 → (ab (bo k)).toInt ≤ (ab (bo j)).toInt ∧ (k < j → (ab (bo k)).toInt < (ab (bo j)).toInt)
theorem ab_toInt {x : Int32} (h : -2147483648 < x.toInt) : (ab x).toInt = if 0 ≤ x.toInt then x.toInt else -x.toInt := by
  have h5 := Int32.toInt_lt x
  unfold ab
  by_cases h0 : 0 ≤ x
  · rw [if_pos h0]
    rw [Int32.le_iff_toInt_le, show (0 : Int32).toInt = 0 from by decide] at h0
    rw [if_pos h0]
  · rw [if_neg h0]
    rw [Int32.le_iff_toInt_le, show (0 : Int32).toInt = 0 from by decide] at h0
    rw [if_neg h0, Int32.toInt_sub, show (0 : Int32).toInt = 0 from by decide]
    rw [Int.bmod_eq_of_le (by omega) (by omega)]
    omega
theorem lo_ne {bo bn fh : Nat → Int32} {j : Nat} : ¬ lo bo bn fh j = 0 ↔ ¬ cT bn fh j = 0 ∧ ¬ bo j = 0 := by
  unfold lo
  by_cases h0 : cT bn fh j = 0
  · rw [if_pos h0]
    exact ⟨fun h => absurd rfl h, fun h => absurd h0 h.1⟩
  · rw [if_neg h0]
    by_cases h1 : bo j = 0
    · rw [if_pos h1]
      exact ⟨fun h => absurd rfl h, fun h => absurd h1 h.2⟩
    · rw [if_neg h1]
      exact ⟨fun _ => ⟨h0, h1⟩, fun _ => by decide⟩
theorem eq0_toInt {x : Int32} : x = 0 ↔ x.toInt = 0 := by
  constructor
  · intro h; rw [h]; decide
  · intro h; apply Int32.toInt_inj.mp; rw [h]; decide
theorem worst_s {J : Nat} (hJ : J ≤ 6) {bo bn fh : Nat → Int32} (hM : ∀ j, j < J → -2147483648 < (bo j).toInt) : ∀ (n i : Nat) (r x : Int32), i ≤ J → J - i < n → wP i bo bn fh r → ((r = -4 ∧ x = 0) ∨ ∃ j, r = nI j ∧ j < i ∧ x = ab (bo j)) → ∃ q, FBa_worst_L8 bo bn fh (nI J) n r x (nI i) = some q ∧ wP J bo bn fh q := by
  intro n
  induction n with
  | zero => intro i r x h1 h2; omega
  | succ n ih =>
    intro i r x h1 h2 hw hx
    rw [FBa_worst_L8.eq_2]
    simp only [lt_eq]
    by_cases hi : i = J
    · subst hi
      rw [if_pos (nI_le (Nat.le_refl i) (by omega))]
      exact ⟨_, rfl, hw⟩
    · have hlt : i < J := by omega
      rw [if_neg (nI_ge hlt (by omega)), Ba_canTurn (by omega)]
      simp (disch := omega) only [nI_gd, nI_clamp, b1_some, nI_1]
      have e : (if 0 ≤ bo i then bo i else 0 - bo i) = ab (bo i) := rfl
      rw [e]
      have hMi := ab_toInt (hM i hlt)
      have hskip : lo bo bn fh i = 0 ∨ (∃ j, r = nI j ∧ j < i ∧ (ab (bo i)).toInt ≤ (ab (bo j)).toInt) → wP (i + 1) bo bn fh r := by
        intro hs
        rcases hw with ⟨q1, q2⟩ | ⟨j, q1, q2, q3, q4⟩
        · left
          refine ⟨q1, fun k hk => ?_⟩
          by_cases hki : k = i
          · subst hki
            rcases hs with hs | ⟨j, hs, hj, -⟩
            · exact hs
            · rw [q1] at hs
              exact absurd hs (by intro hh; have := congrArg Int32.toInt hh; rw [nI_toInt (by omega), show ((-4 : Int32)).toInt = -4 from by decide] at this; omega)
          · exact q2 k (by omega)
        · right
          refine ⟨j, by omega, q2, q3, fun k hk hl => ?_⟩
          by_cases hki : k = i
          · subst hki
            rcases hs with hs | ⟨j', hs, hj, hle⟩
            · exact absurd hs hl
            · rw [q2, nI_eq (by omega) (by omega)] at hs
              subst hs
              exact ⟨hle, fun hh => by omega⟩
          · exact q4 k (by omega) hl
      by_cases h0 : cT bn fh i = 0
      · rw [if_pos h0]
        refine ih (i + 1) r x (by omega) (by omega) (hskip (Or.inl (by unfold lo; rw [if_pos h0]))) ?_
        rcases hx with hx | ⟨j, p1, p2, p3⟩
        · exact Or.inl hx
        · exact Or.inr ⟨j, p1, by omega, p3⟩
      · rw [if_neg h0]
        by_cases h3 : ab (bo i) ≤ x
        · rw [if_pos h3]
          rw [Int32.le_iff_toInt_le] at h3
          refine ih (i + 1) r x (by omega) (by omega) (hskip ?_) ?_
          · rcases hx with ⟨p1, p2⟩ | ⟨j, p1, p2, p3⟩
            · left
              rw [p2, show (0 : Int32).toInt = 0 from by decide, hMi] at h3
              unfold lo
              rw [if_neg h0, if_pos]
              rw [eq0_toInt]
              split at h3 <;> omega
            · right
              rw [p3] at h3
              exact ⟨j, p1, p2, h3⟩
          · rcases hx with hx | ⟨j, p1, p2, p3⟩
            · exact Or.inl hx
            · exact Or.inr ⟨j, p1, by omega, p3⟩
        · rw [if_neg h3]
          rw [Int32.le_iff_toInt_le] at h3
          refine ih (i + 1) (nI i) (ab (bo i)) (by omega) (by omega) ?_ (Or.inr ⟨i, rfl, by omega, rfl⟩)
          right
          refine ⟨i, by omega, rfl, ?_, ?_⟩
          · rw [lo_ne]
            refine ⟨h0, fun hz => h3 ?_⟩
            rw [eq0_toInt] at hz
            rw [hMi, hz]
            rcases hx with ⟨p1, p2⟩ | ⟨j, p1, p2, p3⟩
            · rw [p2]; decide
            · rw [p3, ab_toInt (hM j (by omega))]
              split <;> split <;> omega
          · intro k hk hl
            by_cases hki : k = i
            · subst hki
              exact ⟨Int.le_refl _, fun hh => by omega⟩
            · have hlt2 : (ab (bo k)).toInt < (ab (bo i)).toInt := by
                rcases hx with ⟨p1, p2⟩ | ⟨j, p1, p2, p3⟩
                · rcases hw with ⟨q1, q2⟩ | ⟨j, q1, q2, q3, q4⟩
                  · exact absurd (q2 k (by omega)) hl
                  · rw [p1] at q2
                    exact absurd q2.symm (by intro hh; have := congrArg Int32.toInt hh; rw [nI_toInt (by omega), show ((-4 : Int32)).toInt = -4 from by decide] at this; omega)
                · rw [p3] at h3
                  rcases hw with ⟨q1, q2⟩ | ⟨j', q1, q2, q3, q4⟩
                  · exact absurd (q2 k (by omega)) hl
                  · rw [p1, nI_eq (by omega) (by omega)] at q2
                    subst q2
                    have := (q4 k (by omega) hl).1
                    omega
              exact ⟨by omega, fun _ => hlt2⟩
theorem rank0_s {J : Nat} {fh m mo bo bn bk : Nat → Int32} (h : RO J fh m mo bo bn bk) {r : Int32} (hw : wP J bo bn fh r) : ∀ (n i : Nat), i ≤ J → J - i < n → (∀ j, r = nI j → j < J → i ≤ j) → FMo_rank_L8 m mo 0 n (nI i) = some r := by
  have hJ := h.1
  intro n
  induction n with
  | zero => intro i h1 h2; omega
  | succ n ih =>
    intro i h1 h2 hr
    rw [FMo_rank_L8.eq_2, h.2.1]
    simp only [lt_eq, b1_some]
    by_cases hi : i = J
    · subst hi
      rw [if_pos (nI_le (Nat.le_refl i) (by omega))]
      rcases hw with ⟨q1, q2⟩ | ⟨j, q1, q2, q3, q4⟩
      · rw [q1]
      · have := hr j q2 q1
        omega
    · have hlt : i < J := by omega
      rw [if_neg (nI_ge hlt (by omega)), l0_, rank21_s h hlt _ 1000 0 0 (by omega) (by omega), Mo_isLoose h hlt, Nat.zero_add, Nat.sub_zero]
      simp only [b1_some, nI_1]
      have hle := ahN_le bo bn fh i J 0
      by_cases h0 : lo bo bn fh i = nI 0
      · rw [if_pos h0]
        refine ih (i + 1) (by omega) (by omega) (fun j e hj => ?_)
        have h5 := hr j e hj
        rcases hw with ⟨q1, q2⟩ | ⟨j', q1, q2, q3, q4⟩
        · rw [q1] at e
          exact absurd e (by intro hh; have := congrArg Int32.toInt hh; rw [nI_toInt (by omega), show ((-4 : Int32)).toInt = -4 from by decide] at this; omega)
        · rw [q2, nI_eq (by omega) (by omega)] at e
          subst e
          by_cases e2 : j' = i
          · subst e2; exact absurd h0 q3
          · omega
      · rw [if_neg h0]
        have hz : nI (ahN bo bn fh i 0 J) = nI 0 ↔ ahN bo bn fh i 0 J = 0 := nI_eq (by omega) (by omega)
        rcases hw with ⟨q1, q2⟩ | ⟨j, q1, q2, q3, q4⟩
        · exact absurd (q2 i hlt) h0
        · by_cases e2 : i = j
          · subst e2
            rw [if_pos (hz.mpr ?_), q2]
            apply ahN_zero
            intro k _ hk
            unfold ah
            by_cases hl : lo bo bn fh k = 0
            · rw [if_pos hl]
            · obtain ⟨g1, g2⟩ := q4 k (by omega) hl
              rw [if_neg hl, if_neg (by rw [Int32.lt_iff_toInt_lt]; omega)]
              by_cases g3 : ab (bo k) = ab (bo i)
              · rw [if_pos g3, if_pos]
                rw [← Int32.toInt_inj] at g3
                by_cases g4 : k < i
                · have := g2 g4; omega
                · omega
              · rw [if_neg g3]
          · have h5 := hr j q2 q1
            rw [if_neg (fun hh => ?_)]
            · refine ih (i + 1) (by omega) (by omega) (fun j' e hj => ?_)
              rw [q2, nI_eq (by omega) (by omega)] at e
              omega
            · have hh := hz.mp hh
              have : 0 < ahN bo bn fh i 0 J := by
                apply ahN_pos (k := j) _ J 0 (by omega) (by omega)
                unfold ah
                have g := (q4 i hlt h0).2 (by omega)
                rw [if_neg q3, if_pos (by rw [Int32.lt_iff_toInt_lt]; omega)]
                omega
              omega
theorem ranked_e {J : Nat} {fh m mo bo bn bk : Nat → Int32} (h : RO J fh m mo bo bn bk) (x : Int32) : ∃ r, FJm_rank bo bn fh (nI J) x = some r ∧ FMo_rank m mo x = some r := by
  have hJ := h.1
  unfold FJm_rank FMo_rank FBa_ranked
  by_cases h0 : 0 ≤ x
  · rw [if_pos h0, if_pos h0]
    obtain ⟨r, h1, h2⟩ := rank8_s h x 1000 0 (by omega) (by omega)
    rw [l0_, h1, h2]
    exact ⟨r, rfl, rfl⟩
  · rw [if_neg h0, if_neg h0]
    exact ⟨_, rfl, rfl⟩
/-- the latest STEP's JOINT -/
def laP (J : Nat) (x : Int32) : Prop := x = -4 ∨ ∃ j, j < J ∧ x = nI j
theorem turns_s {J f : Nat} {fh m mo bo bn bk : Nat → Int32} {la : Int32} (hf : f ≤ 6) (h : RO J fh m mo bo bn bk) (hl : (la = -4 ∧ f = 0) ∨ (∃ j, j < J ∧ la = nI j ∧ f = j + 1)) : ∀ (n i : Nat), i ≤ J → J - i < n → ∃ r, FBa_byTurns_L20 bo bn fh (nI J) (nI f) n (nI i) = some r ∧ FMo_nextOf_L12 m mo la n (nI (i + 1)) = some r ∧ (r = -4 ∨ ∃ j, j < J ∧ r = nI j ∧ ¬ lo bo bn fh j = 0) := by
  have hJ := h.1
  intro n
  induction n with
  | zero => intro i h1 h2; omega
  | succ n ih =>
    intro i h1 h2
    rw [FBa_byTurns_L20.eq_2, FMo_nextOf_L12.eq_2, h.2.1]
    simp only [lt_eq, b1_some]
    by_cases hi : i = J
    · subst hi
      rw [if_pos (nI_le (Nat.le_refl i) (by omega)), if_pos (nI_lt (by omega) (by omega))]
      exact ⟨_, rfl, rfl, Or.inl rfl⟩
    · have hlt : i < J := by omega
      have hm : (f + i) % J < J := Nat.mod_lt _ (by omega)
      have key : ∃ r, b1_ (some (lo bo bn fh ((f + i) % J))) (fun r5 => if r5 = 0 then FBa_byTurns_L20 bo bn fh (nI J) (nI f) n (nI (i + 1)) else some (nI ((f + i) % J))) = some r ∧ b1_ (some (lo bo bn fh ((f + i) % J))) (fun r12 => if r12 = 0 then FMo_nextOf_L12 m mo la n (nI (i + 1 + 1)) else some (nI ((f + i) % J))) = some r ∧ (r = -4 ∨ ∃ j, j < J ∧ r = nI j ∧ ¬ lo bo bn fh j = 0) := by
        simp only [b1_some]
        by_cases h0 : lo bo bn fh ((f + i) % J) = 0
        · rw [if_pos h0, if_pos h0]
          exact ih (i + 1) (by omega) (by omega)
        · rw [if_neg h0, if_neg h0]
          exact ⟨_, rfl, rfl, Or.inr ⟨_, hm, rfl, h0⟩⟩
      rw [if_neg (nI_ge hlt (by omega)), if_neg (nI_nlt (by omega) (by omega)), dz_ne (nI_ne0 (by omega) (by omega)), nI_add, pk_rem (by omega) (by omega) (by omega), Ba_isLoose (by omega), nI_1, nI_1]
      rcases hl with ⟨e1, e2⟩ | ⟨j, e0, e1, e2⟩
      · subst e1 e2
        rw [if_pos rfl]
        rw [dz_ne (nI_ne0 (by omega) (by omega)), show (-1 : Int32) + nI (i + 1) = nI i from by rw [Int32.add_comm]; exact pk_m1 i]
        rw [Nat.zero_add] at key ⊢
        rw [pk_rem (by omega) (by omega) (by omega), Mo_isLoose h (by rw [Nat.zero_add] at hm; exact hm)]
        exact key
      · subst e1 e2
        rw [if_neg (by intro hh; have := congrArg Int32.toInt hh; rw [nI_toInt (by omega), show ((-4 : Int32)).toInt = -4 from by decide] at this; omega)]
        rw [dz_ne (nI_ne0 (by omega) (by omega)), nI_add, pk_rem (by omega) (by omega) (by omega)]
        rw [show j + (i + 1) = j + 1 + i by omega, Mo_isLoose h hm]
        exact key
theorem chosen_e {J : Nat} {fh m mo bo bn bk : Nat → Int32} {la : Int32} (h : RO J fh m mo bo bn bk) (hM : ∀ j, j < J → -2147483648 < (bo j).toInt) (hl : laP J la) (w : Int32) : ∃ r, FBa_chosen bo bn la fh (nI J) w = some r ∧ FMo_nextOf m mo la w = some r ∧ (r = -4 ∨ ∃ j, j < J ∧ r = nI j ∧ ¬ lo bo bn fh j = 0) := by
  have hJ := h.1
  unfold FBa_chosen FMo_nextOf
  by_cases h0 : w = 0
  · rw [if_pos h0, if_pos h0]
    obtain ⟨r, h1, h2⟩ := worst_s hJ (bn := bn) (fh := fh) hM 1000 0 (-4) 0 (by omega) (by omega) (Or.inl ⟨rfl, fun k hk => by omega⟩) (Or.inl ⟨rfl, rfl⟩)
    have h3 := rank0_s h h2 1000 0 (by omega) (by omega) (fun j _ _ => by omega)
    unfold FBa_worst FMo_rank
    rw [← l0_] at h1 h3
    rw [if_pos (show (0 : Int32) ≤ 0 by decide), h1, h3]
    refine ⟨r, rfl, rfl, ?_⟩
    rcases h2 with ⟨q1, -⟩ | ⟨j, q1, q2, q3, -⟩
    · exact Or.inl q1
    · exact Or.inr ⟨j, q1, q2, q3⟩
  · rw [if_neg h0, if_neg h0]
    unfold FBa_byTurns
    simp only [lt_eq]
    rcases hl with e | ⟨j, hj, e⟩
    · rw [e, if_neg (by decide)]
      obtain ⟨r, h1, h2, h3⟩ := turns_s (f := 0) (by omega) h (Or.inl ⟨rfl, rfl⟩) 1000 0 (by omega) (by omega)
      rw [l0_, h1]
      rw [Nat.zero_add] at h2
      rw [l1_, h2]
      exact ⟨r, rfl, rfl, h3⟩
    · rw [e, if_pos (nI_pos' (by omega)), nI_1]
      obtain ⟨r, h1, h2, h3⟩ := turns_s (f := j + 1) (by omega) h (Or.inr ⟨j, hj, rfl, rfl⟩) 1000 0 (by omega) (by omega)
      rw [l0_, h1]
      rw [Nat.zero_add] at h2
      rw [l1_, h2]
      exact ⟨r, rfl, rfl, h3⟩
