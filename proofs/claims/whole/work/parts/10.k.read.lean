/-! layer 2: the calls that only read -/
theorem n10_ : ((1 : Int32) = 0) = False := eq_false (by decide)
theorem dup_ {o : Option Int32} (h : ∃ r, o = some r) : ∃ r, o = some r ∧ o = some r := by
  obtain ⟨r, h⟩ := h
  exact ⟨r, h, h⟩
theorem Jm_rule {J B L : Nat} {fh fc fe fl fs fb fz fp m mo bo bn bk : Nat → Int32} (hf : RF 0 J B L fh fc fe fl fs fb fz fp m) (v : VF J B L fh fc fe fl fs fb fz fp) (h : RO J fh m mo bo bn bk) (st la w : Int32) : ∃ r, FJm_rule bo bn st la fh (nI J) (nI B) (nI L) w = some r ∧ FMo_rule m mo st la w = some r := by
  have hJ := h.1
  have ht := turning_e (P := 0) (J := J) (fh := fh) (m := m) (by omega) hJ (by rw [← hf.2.2.2.1]) (fun j hj => v.1 j (by omega)) (fun j hj => by rw [Nat.zero_add]; exact h.2.2.1 j hj)
  rw [← l0_] at ht
  obtain ⟨r1, a1, b1⟩ := loose_s h 1000 0 0 (by omega) (by omega)
  obtain ⟨r2, a2, b2⟩ := left_s h 1000 0 0 (by omega) (by omega)
  rw [← l0_] at a1 b1 a2 b2
  unfold FJm_rule FMo_rule
  rw [Mo_joints hf, Mo_beams hf, Mo_loads hf, ht.1, ht.2]
  unfold FBa_loose FMo_looseMany FBa_left FMo_outAll
  rw [a1, b1, a2, b2]
  simp only [b1_some]
  refine dup_ ?_
  repeat' split
  all_goals exact ⟨_, rfl⟩
theorem Jm_joint {J B L : Nat} {fh fc fe fl fs fb fz fp m mo bo bn bk bs ms : Nat → Int32} (v : VF J B L fh fc fe fl fs fb fz fp) (h : RO J fh m mo bo bn bk) (hs : ∀ j, j < J → bs j = ms j) (a w : Int32) : ∃ r, FJm_joint bo bn bk bs fh (nI J) a w = some r ∧ FMo_joint m mo ms a w = some r := by
  have hJ := h.1
  unfold FJm_joint FMo_joint
  rcases isJoint_c (J := J) (by omega) h.2.1 a with ⟨j, hj, rfl, e1, e2⟩ | ⟨e1, e2⟩
  · rw [e1, e2]
    simp (disch := omega) only [b1_some, nI_gd, nI_clamp, Ba_isLoose, Mo_isLoose h hj, h.2.2.1 j hj, h.2.2.2.1 j hj, h.2.2.2.2.1 j hj, hs j hj]
    simp only [n10_, if_false]
    by_cases h0 : w = 0
    · simp only [if_pos h0]
      rcases v.1 j (by omega) with hh | hh
      · rw [if_pos hh, hh]; exact ⟨_, rfl, rfl⟩
      · rw [if_neg (by rw [hh]; decide), hh]; exact ⟨_, rfl, rfl⟩
    simp only [if_neg h0]
    by_cases h0 : w = 1
    · simp only [if_pos h0]; exact ⟨_, rfl, rfl⟩
    simp only [if_neg h0]
    by_cases h0 : w = 2
    · simp only [if_pos h0]; exact ⟨_, rfl, rfl⟩
    simp only [if_neg h0]
    by_cases h0 : w = 3
    · simp only [if_pos h0]; exact ⟨_, rfl, rfl⟩
    simp only [if_neg h0]
    by_cases h0 : w = 4
    · simp only [if_pos h0]
      by_cases hl : lo bo bn fh j = 0
      · rw [if_pos hl]; exact ⟨_, rfl, rfl⟩
      · rw [if_neg hl]; exact ⟨_, rfl, rfl⟩
    simp only [if_neg h0]
    exact ⟨_, rfl, rfl⟩
  · rw [e1, e2]
    simp only [b1_some]
    simp only [if_true]
    exact ⟨_, rfl, rfl⟩
theorem Jm_out {J : Nat} {fh fc m mo bo bn bk : Nat → Int32} (h : RO J fh m mo bo bn bk) (hc : ∀ j, j < J → m (6 + j) = fc j) (a w : Int32) : ∃ r, FJm_out bo fc (nI J) a w = some r ∧ FMo_out m mo a w = some r := by
  have hJ := h.1
  unfold FJm_out FMo_out
  rcases isJoint_c (J := J) (by omega) h.2.1 a with ⟨j, hj, rfl, e1, e2⟩ | ⟨e1, e2⟩
  · rw [e1, e2, l6_, nI_add]
    simp (disch := omega) only [b1_some, nI_gd, nI_clamp, h.2.2.2.2.2 j hj, hc j hj]
    simp only [n10_, if_false]
    rcases rc_cases 0 1 (by omega) (by omega) w 0 1 (by decide) (by decide) with ⟨k, h1, h2, rfl, e3⟩ | ⟨e3, h1⟩
    · rw [e3]
      simp only [b1_some]
      simp only [n10_, if_false]
      rcases (show k = 0 ∨ k = 1 by omega) with rfl | rfl
      · rw [if_pos (show nI 0 = 0 from rfl), if_pos (show nI 0 = 0 from rfl)]
        exact ⟨_, rfl, rfl⟩
      · rw [if_neg (show ¬ nI 1 = 0 by decide), if_neg (show ¬ nI 1 = 0 by decide), if_pos (show nI 1 = 1 from rfl)]
        exact ⟨_, rfl, rfl⟩
    · rw [e3]
      simp only [b1_some]
      have h0 : ¬ w = 0 := by rintro rfl; revert h1; decide
      have h2 : ¬ w = 1 := by rintro rfl; revert h1; decide
      simp only [if_neg h0, if_neg h2, if_true]
      exact ⟨_, rfl, rfl⟩
  · rw [e1, e2]
    simp only [b1_some]
    simp only [if_true]
    exact ⟨_, rfl, rfl⟩
theorem at_s {J B L : Nat} {fh fc fe fl fs fb fz fp m : Nat → Int32} (h : RF 0 J B L fh fc fe fl fs fb fz fp m) (j x : Int32) : ∀ (n e : Nat) (a b : Int32), e ≤ 2 * B → 2 * B - e < n → b = x - a → ∃ r, FJm_at_L22 fe (nI B) j x n a (nI e) = some r ∧ FMo_at_L19 m j n b (nI e) = some r := by
  have hB := h.2.1
  intro n
  induction n with
  | zero => intro e a b h1 h2; omega
  | succ n ih =>
    intro e a b h1 h2 hb
    rw [FJm_at_L22.eq_2, FMo_at_L19.eq_2, Mo_beams h]
    simp only [b1_some, lt_eq]
    rw [l2_, pk_mul]
    by_cases he : e = 2 * B
    · subst he
      rw [if_pos (nI_le (Nat.le_refl _) (by omega)), if_pos (nI_le (Nat.le_refl _) (by omega))]
      exact ⟨_, rfl, rfl⟩
    · have hlt : e < 2 * B := by omega
      rw [if_neg (nI_ge hlt (by omega)), if_neg (nI_ge hlt (by omega)), Mo_jointOf h hlt, Fr_jointOf (by omega)]
      simp only [b1_some, nI_1]
      by_cases hj : fe e = j
      · simp only [if_pos hj]
        by_cases hx : a = x
        · rw [if_pos hx, if_pos (by rw [hb, hx, Int32.sub_self])]
          exact ⟨_, rfl, rfl⟩
        · rw [if_neg hx, if_neg (by rw [hb]; intro hh; apply hx; grind)]
          exact ih (e + 1) _ _ (by omega) (by omega) (by rw [hb]; grind)
      · simp only [if_neg hj]
        exact ih (e + 1) _ _ (by omega) (by omega) hb
theorem Jm_at {J B L : Nat} {fh fc fe fl fs fb fz fp m : Nat → Int32} (h : RF 0 J B L fh fc fe fl fs fb fz fp m) (a w : Int32) : ∃ r, FJm_at fe (nI J) (nI B) a w = some r ∧ FMo_at m a w = some r := by
  have hJ := h.1
  have hB := h.2.1
  unfold FJm_at FMo_at
  rcases isJoint_c (J := J) (by omega) (Mo_joints h) a with ⟨j, hj, rfl, e1, e2⟩ | ⟨e1, e2⟩
  · rw [e1, e2]
    simp only [b1_some]
    simp only [n10_, if_false]
    by_cases h0 : 0 ≤ w
    · simp only [if_pos h0]
      exact at_s h (nI j) w 1000 0 0 w (by omega) (by omega) (by rw [Int32.sub_zero])
    · rw [if_neg h0, if_neg h0]
      exact ⟨_, rfl, rfl⟩
  · rw [e1, e2]
    simp only [b1_some]
    simp only [if_true]
    exact ⟨_, rfl, rfl⟩
theorem loadsOn_s {J B L : Nat} {fh fc fe fl fs fb fz fp m : Nat → Int32} (h : RF 0 J B L fh fc fe fl fs fb fz fp m) (b : Int32) : ∀ (n i : Nat) (a : Int32), i ≤ L → L - i < n → ∃ r, FFr_loadsOn_L4 fb (nI L) b n a (nI i) = some r ∧ FMo_loadsOn_L4 m b n a (nI i) = some r := by
  have hL := h.2.2.1
  intro n
  induction n with
  | zero => intro i a h1 h2; omega
  | succ n ih =>
    intro i a h1 h2
    rw [FFr_loadsOn_L4.eq_2, FMo_loadsOn_L4.eq_2, Mo_loads h]
    simp only [b1_some, lt_eq]
    by_cases hi : i = L
    · subst hi
      rw [if_pos (nI_le (Nat.le_refl _) (by omega)), if_pos (nI_le (Nat.le_refl _) (by omega))]
      exact ⟨_, rfl, rfl⟩
    · have hlt : i < L := by omega
      rw [if_neg (nI_ge hlt (by omega)), if_neg (nI_ge hlt (by omega)), l52_, nI_add]
      simp (disch := omega) only [nI_gd, nI_clamp, Mo_on h hlt, nI_1, Int32.add_zero]
      by_cases hj : fb i = b
      · simp only [if_pos hj]
        exact ih (i + 1) _ (by omega) (by omega)
      · simp only [if_neg hj]
        exact ih (i + 1) _ (by omega) (by omega)
theorem Jm_beam {J B L : Nat} {fh fc fe fl fs fb fz fp m : Nat → Int32} (h : RF 0 J B L fh fc fe fl fs fb fz fp m) (v : VF J B L fh fc fe fl fs fb fz fp) (a w : Int32) : ∃ r, FJm_beam fe fl fs fb (nI B) (nI L) a w = some r ∧ FMo_beam m a w = some r := by
  have hB := h.2.1
  have hL := h.2.2.1
  unfold FJm_beam FMo_beam
  rcases isBeam_c (J := B) (by omega) (Mo_beams h) a with ⟨b, hb, rfl, e1, e2⟩ | ⟨e1, e2⟩
  · obtain ⟨q1, q2, q3, q4⟩ := h.2.2.2.2.2.2.2.1 b hb
    rw [Nat.zero_add] at q1 q2 q3 q4
    rw [e1, e2]
    simp only [b1_some]
    simp only [n10_, if_false]
    obtain ⟨r5, a5, b5⟩ := loadsOn_s h (nI b) 1000 0 0 (by omega) (by omega)
    rw [← l0_] at a5 b5
    rw [l2_, pk_mul, nI_1, Fr_jointOf (by omega), Fr_jointOf (by omega), Fr_stiffness hB v hb, Mo_stiffOf h v (by omega)]
    unfold FFr_loadsOn FMo_loadsOn
    rw [a5, b5]
    have e3 : 2 * b / 2 = b := by omega
    rw [e3]
    rcases rc_cases 0 5 (by omega) (by omega) w 0 5 (by decide) (by decide) with ⟨k, h1, h2, rfl, e3⟩ | ⟨e3, h1⟩
    · rw [e3]
      simp only [b1_some]
      simp only [n10_, if_false]
      simp (disch := omega) only [l12_, show (10 : Int32) = nI 10 from rfl, pk_mul, nI_add, nI_gd, nI_clamp]
      rcases (show k = 0 ∨ k = 1 ∨ k = 2 ∨ k = 3 ∨ k = 4 ∨ k = 5 by omega) with rfl | rfl | rfl | rfl | rfl | rfl
      · rw [if_pos (by decide), if_neg (by decide)]
        refine ⟨_, rfl, ?_⟩
        rw [show 12 + 10 * 0 + b = 12 + b by omega, q1]
      · rw [if_neg (by decide), if_pos (by decide), if_neg (by decide)]
        refine ⟨_, rfl, ?_⟩
        rw [show 12 + 10 * 1 + b = 22 + b by omega, q2]
      · rw [if_neg (by decide), if_neg (by decide), if_pos (by decide), if_neg (by decide)]
        refine ⟨_, rfl, ?_⟩
        rw [show 12 + 10 * 2 + b = 32 + b by omega, q3]
      · rw [if_neg (by decide), if_neg (by decide), if_neg (by decide), if_pos (by decide), if_neg (by decide)]
        refine ⟨_, rfl, ?_⟩
        rw [show 12 + 10 * 3 + b = 42 + b by omega, q4]
      · rw [if_neg (by decide), if_neg (by decide), if_neg (by decide), if_neg (by decide), if_pos (by decide), if_pos (by decide), if_pos (by decide)]
        exact ⟨_, rfl, rfl⟩
      · rw [if_neg (by decide), if_neg (by decide), if_neg (by decide), if_neg (by decide), if_neg (by decide), if_pos (by decide), if_pos (by decide), if_neg (by decide)]
        exact ⟨_, rfl, rfl⟩
    · rw [e3]
      simp only [b1_some]
      simp only [if_true]
      have hn : ∀ k : Nat, k ≤ 5 → ¬ w = nI k := by
        intro k hk e
        rw [e] at h1
        rcases h1 with h1 | h1
        · rw [nI_ltI (by omega) (by omega)] at h1; omega
        · rw [nI_ltI (by omega) (by omega)] at h1; omega
      rw [if_neg (show ¬ w = 0 from hn 0 (by omega)), if_neg (show ¬ w = 1 from hn 1 (by omega)), if_neg (hn 2 (by omega)), if_neg (show ¬ w = 3 from hn 3 (by omega)), if_neg (show ¬ w = 4 from hn 4 (by omega)), if_neg (show ¬ w = 5 from hn 5 (by omega))]
      exact ⟨_, rfl, rfl⟩
  · rw [e1, e2]
    simp only [b1_some]
    simp only [if_true]
    exact ⟨_, rfl, rfl⟩
theorem Jm_load {J B L : Nat} {fh fc fe fl fs fb fz fp m : Nat → Int32} (h : RF 0 J B L fh fc fe fl fs fb fz fp m) (a w : Int32) : ∃ r, FJm_load fb fz fp (nI L) a w = some r ∧ FMo_load m a w = some r := by
  have hL := h.2.2.1
  unfold FJm_load FMo_load
  rw [Mo_loads h]
  simp only [b1_some, lt_eq]
  rcases isLoad_c (J := L) (by omega) a with ⟨i, hi, rfl, e1, e2⟩ | ⟨e1, e2⟩
  · obtain ⟨q1, q2, q3⟩ := h.2.2.2.2.2.2.2.2 i hi
    rw [Nat.zero_add] at q1 q2 q3
    rw [e1, e2]
    simp (disch := omega) only [b1_some, l52_, l60_, l68_, nI_add, nI_gd, nI_clamp, q1, q2, q3]
    simp only [n10_, if_false]
    by_cases hp : fp i ≤ 0
    · simp only [if_pos hp]
      by_cases h0 : w = 0
      · simp only [if_pos h0]; exact ⟨_, rfl, rfl⟩
      simp only [if_neg h0]
      by_cases h0 : w = 1
      · simp only [if_pos h0]; exact ⟨_, rfl, rfl⟩
      simp only [if_neg h0]
      by_cases h0 : w = 2
      · simp only [if_pos h0]; exact ⟨_, rfl, rfl⟩
      simp only [if_neg h0]
      by_cases h0 : w = 3
      · simp only [if_pos h0]; exact ⟨_, rfl, rfl⟩
      simp only [if_neg h0]
      exact ⟨_, rfl, rfl⟩
    · simp only [if_neg hp]
      by_cases h0 : w = 0
      · simp only [if_pos h0]; exact ⟨_, rfl, rfl⟩
      simp only [if_neg h0]
      by_cases h0 : w = 1
      · simp only [if_pos h0]; exact ⟨_, rfl, rfl⟩
      simp only [if_neg h0]
      by_cases h0 : w = 2
      · simp only [if_pos h0]; exact ⟨_, rfl, rfl⟩
      simp only [if_neg h0]
      by_cases h0 : w = 3
      · simp only [if_pos h0]; exact ⟨_, rfl, rfl⟩
      simp only [if_neg h0]
      exact ⟨_, rfl, rfl⟩
  · rw [e1, e2]
    simp only [b1_some]
    simp only [if_true]
    exact ⟨_, rfl, rfl⟩
theorem Jm_next {J : Nat} {fh m mo bo bn bk : Nat → Int32} {la : Int32} (h : RO J fh m mo bo bn bk) (hM : ∀ j, j < J → -2147483648 < (bo j).toInt) (hl : laP J la) (w : Int32) : ∃ r, FJm_next bo bn la fh (nI J) w = some r ∧ FMo_next m mo la w = some r := by
  unfold FJm_next FMo_next FJm_isWay
  obtain ⟨r, h1, h2, -⟩ := chosen_e h hM hl w
  rw [h1, h2]
  rcases rc_cases 0 1 (by omega) (by omega) w 0 1 (by decide) (by decide) with ⟨k, h3, h4, rfl, e3⟩ | ⟨e3, h3⟩
  · rw [e3]
    rcases (show k = 0 ∨ k = 1 by omega) with rfl | rfl
    · rw [if_pos (show nI 0 = 0 from rfl)]
      simp only [b1_some]
      simp only [n10_, if_false]
      exact ⟨_, rfl, rfl⟩
    · rw [if_neg (show ¬ nI 1 = 0 by decide), if_pos (show nI 1 = 1 from rfl)]
      simp only [b1_some]
      simp only [n10_, if_false]
      exact ⟨_, rfl, rfl⟩
  · rw [e3]
    have h0 : ¬ w = 0 := by rintro rfl; revert h3; decide
    have h2 : ¬ w = 1 := by rintro rfl; revert h3; decide
    rw [if_neg h0, if_neg h2]
    simp only [b1_some]
    simp only [if_true]
    exact ⟨_, rfl, rfl⟩
