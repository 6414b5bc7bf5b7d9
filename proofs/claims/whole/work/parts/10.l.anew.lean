/-! layer 2: begun anew -/
/-- FIRST of an END -/
def fg (fl fb fz fp : Nat → Int32) (L e : Nat) : Int32 := sI (fiF fl fb fz fp e) 0 L
theorem first_e {J B L : Nat} {fh fc fe fl fs fb fz fp m : Nat → Int32} (h : RF 0 J B L fh fc fe fl fs fb fz fp m) (v : VF J B L fh fc fe fl fs fb fz fp) {e : Nat} (he : e < 20) : FFr_first fl fb fz fp (nI L) (nI e) = some (fg fl fb fz fp L e) ∧ FMo_firstOf m (nI e) = some (fg fl fb fz fp L e) := by
  have hL := h.2.2.1
  have := first_loops h v he 1000 0 0 (by omega) (by omega)
  rw [Int32.zero_add, Nat.sub_zero] at this
  exact this
theorem anew13 (fc : Nat → Int32) (k : Int32 → (Nat → Int32) → (Nat → Int32) → (Nat → Int32) → (Nat → Int32) → Option ((Nat → Int32) × (Nat → Int32) × (Nat → Int32) × (Nat → Int32) × (Nat → Int32) × (Nat → Int32) × Int32 × Int32)) : ∀ (n i : Nat) (o e s t : Nat → Int32), i ≤ 6 → 6 - i < n → (∀ j, j < i → o j = fc j ∧ e j = 0 ∧ s j = 0 ∧ t j = 0) → ∃ o' e' s' t' : Nat → Int32, FBa_anew_L13 fc k n (nI i) o e s t = k (nI 6) o' e' s' t' ∧ ∀ j, j < 6 → o' j = fc j ∧ e' j = 0 ∧ s' j = 0 ∧ t' j = 0 := by
  intro n
  induction n with
  | zero => intro i o e s t h1 h2; omega
  | succ n ih =>
    intro i o e s t h1 h2 h3
    rw [FBa_anew_L13.eq_2, l6_]
    by_cases hi : i = 6
    · subst hi
      rw [if_pos (nI_le (Nat.le_refl _) (by omega))]
      exact ⟨o, e, s, t, rfl, h3⟩
    · rw [if_neg (nI_ge (by omega) (by omega))]
      simp (disch := omega) only [lt_eq, nI_gd, nI_clamp, nI_1]
      refine ih (i + 1) _ _ _ _ (by omega) (by omega) (fun j hj => ?_)
      by_cases e1 : j = i
      · subst e1
        exact ⟨pk_us, pk_us, pk_us, pk_us⟩
      · rw [pk_un e1, pk_un e1, pk_un e1, pk_un e1]
        exact h3 j (by omega)
theorem atJ_step {fe : Nat → Int32} {j0 e : Nat} {x : Nat → Int32} (h0 : fe e = nI j0) (hj0 : j0 < 6) {j : Nat} (hj : j < 6) (f : Nat → Int32) (a y : Int32) (hy : x e = y) (hf : f j = a + sI (atJ fe j x) 0 e) : upd f j0 (f j0 + y) j = a + sI (atJ fe j x) 0 (e + 1) := by
  rw [sI_snoc, Nat.zero_add]
  by_cases e1 : j = j0
  · subst e1
    rw [pk_us, hf]
    unfold atJ
    rw [if_pos h0, hy, Int32.add_assoc]
  · rw [pk_un e1, hf]
    unfold atJ
    rw [if_neg (c := fe e = nI j) (by rw [h0, nI_eq (by omega) (by omega)]; omega), Int32.add_zero]
theorem anew60 {J B L : Nat} {fh fc fe fl fs fb fz fp m : Nat → Int32} (h : RF 0 J B L fh fc fe fl fs fb fz fp m) (v : VF J B L fh fc fe fl fs fb fz fp) (bs : Nat → Int32) (st la : Int32) : ∀ (n e : Nat) (bm be bo bn bk : Nat → Int32), e ≤ 2 * B → 2 * B - e < n → (∀ i, i < e → bm i = fg fl fb fz fp L i ∧ be i = kB fl fs (i / 2)) → (∀ j, j < 6 → bo j = fc j + sI (atJ fe j (fg fl fb fz fp L)) 0 e ∧ bn j = 0 + sI (atJ fe j (fun _ => 1)) 0 e ∧ bk j = 0 + sI (atJ fe j (fun e => kB fl fs (e / 2))) 0 e) → ∃ bm' be' bo' bn' bk' : Nat → Int32, FBa_anew_L60 bs st la fe fl fs fb fz fp (nI B) (nI L) n (nI e) bm be bo bn bk = some (bm', be', bo', bn', bk', bs, st, la) ∧ (∀ i, i < 2 * B → bm' i = fg fl fb fz fp L i ∧ be' i = kB fl fs (i / 2)) ∧ (∀ j, j < 6 → bo' j = fc j + sI (atJ fe j (fg fl fb fz fp L)) 0 (2 * B) ∧ bn' j = 0 + sI (atJ fe j (fun _ => 1)) 0 (2 * B) ∧ bk' j = 0 + sI (atJ fe j (fun e => kB fl fs (e / 2))) 0 (2 * B)) := by
  have hB := h.2.1
  have hJ := h.1
  intro n
  induction n with
  | zero => intro e bm be bo bn bk h1 h2; omega
  | succ n ih =>
    intro e bm be bo bn bk h1 h2 h3 h4
    rw [FBa_anew_L60.eq_2, l2_, pk_mul]
    by_cases he : e = 2 * B
    · subst he
      rw [if_pos (nI_le (Nat.le_refl _) (by omega))]
      exact ⟨bm, be, bo, bn, bk, rfl, h3, h4⟩
    · have hlt : e < 2 * B := by omega
      obtain ⟨j0, hj0, e0⟩ := vp_in_of (v.2.2.1 e hlt) (by omega)
      rw [if_neg (nI_ge hlt (by omega)), Fr_jointOf (by omega), pk_div (by omega) (by omega) (by omega), Fr_stiffness hB v (by omega), (first_e h v (by omega)).1, e0]
      simp (disch := omega) only [b1_some, lt_eq, nI_gd, nI_clamp, nI_1, pk_us]
      refine ih (e + 1) _ _ _ _ _ (by omega) (by omega) (fun i hi => ?_) (fun j hj => ?_)
      · by_cases e1 : i = e
        · subst e1
          exact ⟨pk_us, pk_us⟩
        · rw [pk_un e1, pk_un e1]
          exact h3 i (by omega)
      · obtain ⟨g1, g2, g3⟩ := h4 j hj
        exact ⟨atJ_step e0 (by omega) hj bo _ _ rfl g1, atJ_step e0 (by omega) hj bn _ _ rfl g2, atJ_step e0 (by omega) hj bk _ _ rfl g3⟩
theorem anew_e {J B L : Nat} {fh fc fe fl fs fb fz fp m : Nat → Int32} (h : RF 0 J B L fh fc fe fl fs fb fz fp m) (v : VF J B L fh fc fe fl fs fb fz fp) (bm0 be0 bo0 bn0 bk0 bs0 : Nat → Int32) : ∃ bm be bo bn bk bs : Nat → Int32, FBa_anew bm0 be0 bo0 bn0 bk0 bs0 fc fe fl fs fb fz fp (nI B) (nI L) = some (bm, be, bo, bn, bk, bs, 0, -4) ∧ (∀ i, i < 2 * B → bm i = fg fl fb fz fp L i ∧ be i = kB fl fs (i / 2)) ∧ (∀ j, j < 6 → bo j = fc j + sI (atJ fe j (fg fl fb fz fp L)) 0 (2 * B) ∧ bn j = sI (atJ fe j (fun _ => 1)) 0 (2 * B) ∧ bk j = sI (atJ fe j (fun e => kB fl fs (e / 2))) 0 (2 * B) ∧ bs j = 0) := by
  have hB := h.2.1
  unfold FBa_anew
  obtain ⟨o, e, s, t, h1, h2⟩ := anew13 fc (fun (v12 : Int32) (w13 : Nat → Int32) (w14 : Nat → Int32) (w15 : Nat → Int32) (w16 : Nat → Int32) =>
      FBa_anew_L60 w16 (0 : Int32) (-4 : Int32) fe fl fs fb fz fp (nI B) (nI L) 1000 (0 : Int32) bm0 be0 w13 w14 w15) 1000 0 bo0 bn0 bk0 bs0 (by omega) (by omega) (fun j hj => by omega)
  rw [← l0_] at h1
  rw [h1]
  obtain ⟨bm, be, bo, bn, bk, h3, h4, h5⟩ := anew60 h v t 0 (-4) 1000 0 bm0 be0 o e s (by omega) (by omega) (fun i hi => by omega) (fun j hj => by
    obtain ⟨g1, g2, g3, g4⟩ := h2 j hj
    rw [g1, g2, g3]
    exact ⟨(Int32.add_zero _).symm, (Int32.add_zero _).symm, (Int32.add_zero _).symm⟩)
  refine ⟨bm, be, bo, bn, bk, t, h3, h4, fun j hj => ?_⟩
  obtain ⟨g1, g2, g3⟩ := h5 j hj
  rw [Int32.zero_add] at g2 g3
  exact ⟨g1, g2, g3, (h2 j hj).2.2.2⟩
theorem begins7 {J B L : Nat} {fh fc fe fl fs fb fz fp m : Nat → Int32} (h : RF 0 J B L fh fc fe fl fs fb fz fp m) (v : VF J B L fh fc fe fl fs fb fz fp) (k : Int32 → (Nat → Int32) → Option (Int32 × (Nat → Int32) × (Nat → Int32) × Int32 × Int32)) : ∀ (n e : Nat) (mo : Nat → Int32), e ≤ 20 → 20 - e < n → (∀ i, i < e → i < 2 * B → mo i = fg fl fb fz fp L i) → ∃ mo' : Nat → Int32, FMo_begins_L7 m k n (nI e) mo = k (nI 20) mo' ∧ ∀ i, i < 2 * B → mo' i = fg fl fb fz fp L i := by
  have hB := h.2.1
  intro n
  induction n with
  | zero => intro e mo h1 h2; omega
  | succ n ih =>
    intro e mo h1 h2 h3
    rw [FMo_begins_L7.eq_2, Mo_beams h, show (20 : Int32) = nI 20 from rfl]
    simp only [b1_some, lt_eq]
    rw [l2_, pk_mul]
    by_cases he : e = 20
    · subst he
      rw [if_pos (nI_le (Nat.le_refl _) (by omega))]
      exact ⟨mo, rfl, fun i hi => h3 i (by omega) hi⟩
    · rw [if_neg (nI_ge (by omega) (by omega)), (first_e h v (by omega)).2]
      simp (disch := omega) only [b1_some, nI_gd, nI_clamp, nI_1, nI_leI]
      by_cases hb : 2 * B ≤ e
      · rw [if_pos hb]
        refine ih (e + 1) _ (by omega) (by omega) (fun i hi hi2 => ?_)
        rw [pk_un (by omega)]
        exact h3 i (by omega) hi2
      · rw [if_neg hb]
        refine ih (e + 1) _ (by omega) (by omega) (fun i hi hi2 => ?_)
        by_cases e1 : i = e
        · subst e1; exact pk_us
        · rw [pk_un e1]
          exact h3 i (by omega) hi2
theorem begins46 (mo : Nat → Int32) (st : Int32) : ∀ (n i : Nat) (ms : Nat → Int32), i ≤ 6 → 6 - i < n → (∀ j, j < i → ms j = 0) → ∃ ms' : Nat → Int32, FMo_begins_L46 mo st n (nI i) ms = some (st, mo, ms', 0, -4) ∧ ∀ j, j < 6 → ms' j = 0 := by
  intro n
  induction n with
  | zero => intro i ms h1 h2; omega
  | succ n ih =>
    intro i ms h1 h2 h3
    rw [FMo_begins_L46.eq_2, l6_]
    by_cases hi : i = 6
    · subst hi
      rw [if_pos (nI_le (Nat.le_refl _) (by omega))]
      exact ⟨ms, rfl, h3⟩
    · rw [if_neg (nI_ge (by omega) (by omega))]
      simp (disch := omega) only [lt_eq, nI_gd, nI_clamp, nI_1]
      refine ih (i + 1) _ (by omega) (by omega) (fun j hj => ?_)
      by_cases e1 : j = i
      · subst e1; exact pk_us
      · rw [pk_un e1]
        exact h3 j (by omega)
theorem begins_e {J B L : Nat} {fh fc fe fl fs fb fz fp m : Nat → Int32} (h : RF 0 J B L fh fc fe fl fs fb fz fp m) (v : VF J B L fh fc fe fl fs fb fz fp) (mo ms : Nat → Int32) (st : Int32) : ∃ mo' ms' : Nat → Int32, FMo_begins m mo ms st = some (st, mo', ms', 0, -4) ∧ (∀ i, i < 2 * B → mo' i = fg fl fb fz fp L i) ∧ ∀ j, j < 6 → ms' j = 0 := by
  unfold FMo_begins
  obtain ⟨mo', h1, h2⟩ := begins7 h v (fun (v15 : Int32) (w16 : Nat → Int32) => FMo_begins_L46 w16 st 1000 (0 : Int32) ms) 1000 0 mo (by omega) (by omega) (fun i hi => by omega)
  obtain ⟨ms', h3, h4⟩ := begins46 mo' st 1000 0 ms (by omega) (by omega) (fun j hj => by omega)
  rw [← l0_] at h1 h3
  rw [h1]
  exact ⟨mo', ms', h3, h2, h4⟩
