/-! layer 2: the equations, the reference's -/
theorem eq4 (k : Int32 → (Nat → Int64) → Option ((Nat → Int64) × (Nat → Int64) × (Nat → Int32))) : ∀ (f i : Nat) (mat : Nat → Int64), i ≤ 16 → 16 - i < f → (∀ x, x < i → mat x = if x % 5 = 0 then zL 1 else zL 0) → ∃ mat' : Nat → Int64, FMo_equations_L4 k f (nI i) mat = k (nI 16) mat' ∧ ∀ x, x < 16 → mat' x = if x % 5 = 0 then zL 1 else zL 0 := by
  intro f
  induction f with
  | zero => intro i mat h1 h2; omega
  | succ f ih =>
    intro i mat h1 h2 h3
    rw [FMo_equations_L4.eq_2, show (16 : Int32) = nI 16 from rfl]
    by_cases hi : i = 16
    · subst hi
      rw [if_pos (nI_le (Nat.le_refl _) (by omega))]
      exact ⟨mat, rfl, h3⟩
    · rw [if_neg (nI_ge (by omega) (by omega)), show (5 : Int32) = nI 5 from rfl, pk_rem (by omega) (by omega) (by omega)]
      simp (disch := omega) only [nI_gd, nI_clamp, lt_eq2, nI_1]
      by_cases q : i % 5 = 0
      · rw [if_pos (by rw [q]; rfl)]
        refine ih (i + 1) _ (by omega) (by omega) (fun x hx => ?_)
        by_cases e : x = i
        · subst e; rw [pk_uLs, if_pos q]; exact zL1
        · rw [pk_uLn e]; exact h3 x (by omega)
      · rw [if_neg (nI_ne0 (by omega) (by omega))]
        refine ih (i + 1) _ (by omega) (by omega) (fun x hx => ?_)
        by_cases e : x = i
        · subst e; rw [pk_uLs, if_neg q]; exact zL0
        · rw [pk_uLn e]; exact h3 x (by omega)
theorem eq35 {J : Nat} {fh m mo bo bn bk : Nat → Int32} (h : RO J fh m mo bo bn bk) (k : Int32 → Int32 → (Nat → Int32) → Option ((Nat → Int64) × (Nat → Int64) × (Nat → Int32))) : ∀ (f j : Nat) (ro : Nat → Int32), j ≤ 6 → 6 - j < f → (∀ i, i < j → ro i = if i < J then uI (tq bn fh) i else -4) → ∃ ro' : Nat → Int32, FMo_equations_L35 m k f (nI (rkN (tq bn fh) (if j < J then j else J))) (nI j) ro = k (nI (rkN (tq bn fh) J)) (nI 6) ro' ∧ ∀ i, i < 6 → ro' i = if i < J then uI (tq bn fh) i else -4 := by
  have hJ := h.1
  intro f
  induction f with
  | zero => intro j ro h1 h2; omega
  | succ f ih =>
    intro j ro h1 h2 h3
    rw [FMo_equations_L35.eq_2, l6_, h.2.1]
    by_cases hj : j = 6
    · subst hj
      rw [if_pos (nI_le (Nat.le_refl _) (by omega)), if_neg (by omega)]
      exact ⟨ro, rfl, h3⟩
    · have g6 : ∀ {α : Type} {o : Option α}, gd_ (nI j) 6 o = o := fun {α o} => nI_gd (by omega) (by omega)
      have cl := nI_clamp (n := j) (by omega)
      rw [if_neg (nI_ge (by omega) (by omega))]
      simp only [b1_so2, lt_eq2, g6, cl, nI_1, n10_, if_true, if_false, Int32.add_zero]
      by_cases hJj : j < J
      · rw [if_neg (nI_ge hJj (by omega)), Mo_isTurning h hJj, b1_so2, if_pos hJj]
        have hs1 : rkN (tq bn fh) (j + 1) = rkN (tq bn fh) j + (if tq bn fh j then 1 else 0) := rfl
        have e1 : (if j + 1 < J then j + 1 else J) = j + 1 := by split <;> omega
        by_cases hc : cT bn fh j = 0
        · have hn : ¬ tq bn fh j = true := fun q => (tq_t.mp q) hc
          rw [if_pos hc]
          rw [if_neg hn] at hs1
          have := ih (j + 1) (upd ro j (-4)) (by omega) (by omega) (fun i hi => by
            by_cases e : i = j
            · subst e; rw [pk_us, if_pos hJj, uI_neg hn]
            · rw [pk_un e]; exact h3 i (by omega))
          rw [e1, hs1] at this
          exact this
        · have hp : tq bn fh j = true := tq_t.mpr hc
          rw [if_neg hc]
          rw [if_pos hp] at hs1
          have := ih (j + 1) (upd ro j (nI (rkN (tq bn fh) j))) (by omega) (by omega) (fun i hi => by
            by_cases e : i = j
            · subst e; rw [pk_us, if_pos hJj, uI_pos hp]
            · rw [pk_un e]; exact h3 i (by omega))
          rw [e1, hs1] at this
          exact this
      · rw [if_pos (nI_le (by omega) (by omega)), if_neg hJj]
        have := ih (j + 1) (upd ro j (-4)) (by omega) (by omega) (fun i hi => by
          by_cases e : i = j
          · subst e; rw [pk_us, if_neg hJj]
          · rw [pk_un e]; exact h3 i (by omega))
        rw [if_neg (by omega)] at this
        exact this
theorem eq99 (k : Int32 → (Nat → Int64) → Option ((Nat → Int64) × (Nat → Int64) × (Nat → Int32))) : ∀ (f i : Nat) (sd : Nat → Int64), i ≤ 4 → 4 - i < f → (∀ x, x < i → sd x = zL 0) → ∃ sd' : Nat → Int64, FMo_equations_L99 k f (nI i) sd = k (nI 4) sd' ∧ ∀ x, x < 4 → sd' x = zL 0 := by
  intro f
  induction f with
  | zero => intro i sd h1 h2; omega
  | succ f ih =>
    intro i sd h1 h2 h3
    rw [FMo_equations_L99.eq_2, show (4 : Int32) = nI 4 from rfl]
    by_cases hi : i = 4
    · subst hi
      rw [if_pos (nI_le (Nat.le_refl _) (by omega))]
      exact ⟨sd, rfl, h3⟩
    · rw [if_neg (nI_ge (by omega) (by omega))]
      simp (disch := omega) only [nI_gd, nI_clamp, lt_eq2, nI_1]
      refine ih (i + 1) _ (by omega) (by omega) (fun x hx => ?_)
      by_cases e : x = i
      · subst e; rw [pk_uLs]; exact zL0
      · rw [pk_uLn e]; exact h3 x (by omega)
theorem eq119 {J : Nat} {fh fc m mo bo bn bk ro : Nat → Int32} {S : Nat → Nat} (h : RO J fh m mo bo bn bk) (hcp : ∀ j, j < J → m (6 + j) = fc j) (hc : ∀ j, j < J → -9999 ≤ (fc j).toInt ∧ (fc j).toInt ≤ 9999) (hS : ∀ j, j < J → bk j = nI (S j) ∧ S j ≤ 2400) (h4 : rkN (tq bn fh) J ≤ 4) (hro : ∀ i, i < 6 → ro i = if i < J then uI (tq bn fh) i else -4) (k : Int32 → (Nat → Int64) → (Nat → Int64) → Option ((Nat → Int64) × (Nat → Int64) × (Nat → Int32))) : ∀ (f j : Nat) (mat sd : Nat → Int64), j ≤ J → J - j < f → (∀ i, i < j → tq bn fh i = true → mat (5 * rkN (tq bn fh) i) = zL (4 * ((S i : Nat) : Int)) ∧ sd (rkN (tq bn fh) i) = zL (-(fc i).toInt)) → (∀ x, x < 16 → (∀ i, i < j → tq bn fh i = true → x ≠ 5 * rkN (tq bn fh) i) → mat x = if x % 5 = 0 then zL 1 else zL 0) → (∀ x, x < 4 → (∀ i, i < j → tq bn fh i = true → x ≠ rkN (tq bn fh) i) → sd x = zL 0) → ∃ mat' sd' : Nat → Int64, FMo_equations_L119 m ro k f (nI j) mat sd = k (nI J) mat' sd' ∧ (∀ i, i < J → tq bn fh i = true → mat' (5 * rkN (tq bn fh) i) = zL (4 * ((S i : Nat) : Int)) ∧ sd' (rkN (tq bn fh) i) = zL (-(fc i).toInt)) ∧ (∀ x, x < 16 → (∀ i, i < J → tq bn fh i = true → x ≠ 5 * rkN (tq bn fh) i) → mat' x = if x % 5 = 0 then zL 1 else zL 0) ∧ (∀ x, x < 4 → (∀ i, i < J → tq bn fh i = true → x ≠ rkN (tq bn fh) i) → sd' x = zL 0) := by
  have hJ := h.1
  intro f
  induction f with
  | zero => intro j mat sd h1 h2; omega
  | succ f ih =>
    intro j mat sd h1 h2 h3 h5 h6
    rw [FMo_equations_L119.eq_2, h.2.1, b1_so2]
    by_cases hj : j = J
    · subst hj
      rw [if_pos (nI_le (Nat.le_refl _) (by omega))]
      exact ⟨mat, sd, rfl, h3, h5, h6⟩
    · have hlt : j < J := by omega
      have g6 : ∀ {α : Type} {o : Option α}, gd_ (nI j) 6 o = o := fun {α o} => nI_gd (by omega) (by omega)
      have cl := nI_clamp (n := j) (by omega)
      have hr := hro j (by omega)
      rw [if_pos hlt] at hr
      rw [if_neg (nI_ge hlt (by omega)), g6, cl, hr, lt_eq2, nI_1]
      by_cases hp : tq bn fh j = true
      · have hr0 := rk_lt hp hlt
        obtain ⟨s1, s2⟩ := hS j hlt
        rw [uI_pos hp, if_neg (nI_pos (by omega)), g6, h.2.2.2.2.1 j hlt, b1_so2, show (5 : Int32) = nI 5 from rfl, pk_mul, nI_gd (by omega) (by omega), nI_clamp (by omega), lt_eq2, g6, l6_, nI_add, nI_gd (by omega) (by omega), nI_clamp (n := 6 + j) (by omega), hcp j hlt, nI_gd (by omega) (by omega), nI_clamp (n := rkN (tq bn fh) j) (by omega), lt_eq2, lt_eq2, s1]
        have v1 : (4 : Int64) * (nI (S j)).toInt64 = zL (4 * ((S j : Nat) : Int)) := by
          rw [toInt64_z, nI_toInt (by omega), show (4 : Int64) = zL 4 from by decide, zL_mul]
        have v2 : (-(fc j)).toInt64 = zL (-(fc j).toInt) := by
          rw [toInt64_z, neg_toInt (by have := hc j hlt; omega)]
        rw [v1, v2]
        refine ih (j + 1) _ _ (by omega) (by omega) (fun i hi hpi => ?_) (fun x hx hn => ?_) (fun x hx hn => ?_)
        · by_cases e : i = j
          · subst e; exact ⟨pk_uLs, pk_uLs⟩
          · have hne : ¬ rkN (tq bn fh) i = rkN (tq bn fh) j := fun z => e (rk_inj hpi hp z)
            rw [pk_uLn (by omega), pk_uLn hne]
            exact h3 i (by omega) hpi
        · rw [pk_uLn (hn j (by omega) hp)]
          exact h5 x hx (fun i hi hpi => hn i (by omega) hpi)
        · rw [pk_uLn (hn j (by omega) hp)]
          exact h6 x hx (fun i hi hpi => hn i (by omega) hpi)
      · rw [uI_neg hp, if_pos (by decide)]
        refine ih (j + 1) mat sd (by omega) (by omega) (fun i hi hpi => ?_) (fun x hx hn => ?_) (fun x hx hn => ?_)
        · by_cases e : i = j
          · subst e; exact absurd hpi hp
          · exact h3 i (by omega) hpi
        · exact h5 x hx (fun i hi hpi => hn i (by omega) hpi)
        · exact h6 x hx (fun i hi hpi => hn i (by omega) hpi)
/-- a row of the reference, of the first e ENDS -/
def rowR (J : Nat) (fc fe : Nat → Int32) (K : Nat → Nat) (X : Nat → Int) (S : Nat → Nat) (p : Nat → Bool) (mat sd : Nat → Int64) (e i : Nat) : Prop :=
  mat (5 * rkN p i) = zL (4 * ((S i : Nat) : Int)) ∧ (∀ i', i' < J → p i' = true → i' ≠ i → mat (4 * rkN p i + rkN p i') = zL (2 * ((Aj fe K i i' e : Nat) : Int))) ∧ sd (rkN p i) = zL (-(fc i).toInt - Fj fe X i e)
theorem eq189 {J B L : Nat} {fh fc fe fl fs fb fz fp m bn ro : Nat → Int32} {S : Nat → Nat} (h : RF 0 J B L fh fc fe fl fs fb fz fp m) (v : VF J B L fh fc fe fl fs fb fz fp) (h4 : rkN (tq bn fh) J ≤ 4) (hro : ∀ i, i < 6 → ro i = if i < J then uI (tq bn fh) i else -4) : ∀ (f e : Nat) (mat sd : Nat → Int64), e ≤ 2 * B → 2 * B - e < f → (∀ i, i < J → tq bn fh i = true → rowR J fc fe (kk fl fs) (fun d => (fg fl fb fz fp L d).toInt) S (tq bn fh) mat sd e i) → (∀ r c, r < 4 → c < 4 → (rkN (tq bn fh) J ≤ r ∨ rkN (tq bn fh) J ≤ c) → mat (4 * r + c) = if r = c then zL 1 else zL 0) → (∀ r, r < 4 → rkN (tq bn fh) J ≤ r → sd r = zL 0) → ∃ mat' sd' : Nat → Int64, FMo_equations_L189 m ro f (nI e) mat sd = some (mat', sd', ro) ∧ (∀ i, i < J → tq bn fh i = true → rowR J fc fe (kk fl fs) (fun d => (fg fl fb fz fp L d).toInt) S (tq bn fh) mat' sd' (2 * B) i) ∧ (∀ r c, r < 4 → c < 4 → (rkN (tq bn fh) J ≤ r ∨ rkN (tq bn fh) J ≤ c) → mat' (4 * r + c) = if r = c then zL 1 else zL 0) ∧ (∀ r, r < 4 → rkN (tq bn fh) J ≤ r → sd' r = zL 0) := by
  have hJ := h.1
  have hB := h.2.1
  intro f
  induction f with
  | zero => intro e mat sd h1 h2; omega
  | succ f ih =>
    intro e mat sd h1 h2 h3 h5 h6
    rw [FMo_equations_L189.eq_2, Mo_beams h, b1_so2, m2_]
    by_cases he : e = 2 * B
    · subst he
      rw [if_pos (nI_le (Nat.le_refl _) (by omega))]
      exact ⟨mat, sd, rfl, h3, h5, h6⟩
    · have hlt : e < 2 * B := by omega
      obtain ⟨o1, o2, o3⟩ := ot_b hlt
      obtain ⟨j0, hj0, e0⟩ := vp_in_of (v.2.2.1 e hlt) (by omega)
      obtain ⟨j1, hj1, e1⟩ := vp_in_of (v.2.2.1 (ot e) o1) (by omega)
      have hne : j1 ≠ j0 := by
        rintro rfl
        exact ot_j v hlt (by rw [e1, e0])
      have nj : ∀ i, i < J → i ≠ j0 → ¬ fe e = nI i := fun i hi hn q => by
        rw [e0, nI_eq (by omega) (by omega)] at q; omega
      have nj1 : ∀ i, i < J → i ≠ j1 → ¬ fe (ot e) = nI i := fun i hi hn q => by
        rw [e1, nI_eq (by omega) (by omega)] at q; omega
      have q4 : FMo_jointOf m (nI (ot e)) = some (nI j1) := by rw [Mo_jointOf h o1, e1]
      have q5 : FMo_jointOf m (nI e) = some (nI j0) := by rw [Mo_jointOf h hlt, e0]
      have q6 := (first_e h v (e := e) (by omega)).2
      have q7 := (kB64 v hlt).1
      have q9 := Mo_stiffOf h v hlt
      have q10 := Mo_otherOf (e := e) (by omega)
      have g60 : ∀ {α : Type} {o : Option α}, gd_ (nI j0) 6 o = o := fun {α o} => nI_gd (by omega) (by omega)
      have g61 : ∀ {α : Type} {o : Option α}, gd_ (nI j1) 6 o = o := fun {α o} => nI_gd (by omega) (by omega)
      have cj0 := nI_clamp (n := j0) (by omega)
      have cj1 := nI_clamp (n := j1) (by omega)
      have hu0 : ro j0 = uI (tq bn fh) j0 := by rw [hro j0 (by omega), if_pos hj0]
      have hu1 : ro j1 = uI (tq bn fh) j1 := by rw [hro j1 (by omega), if_pos hj1]
      have x64 : (fg fl fb fz fp L e).toInt64 = zL (fg fl fb fz fp L e).toInt := toInt64_z _
      rw [if_neg (nI_ge hlt (by omega))]
      simp only [q4, q5, q6, q9, q10, g60, g61, cj0, cj1, hu0, hu1, b1_so2, lt_eq2, nI_1, x64, q7]
      by_cases hp0 : tq bn fh j0 = true
      · have hr0 := rk_lt hp0 hj0
        have g4 : ∀ {α : Type} {o : Option α}, gd_ (nI (rkN (tq bn fh) j0)) 4 o = o := fun {α o} => nI_gd (by omega) (by omega)
        have cl0 := nI_clamp (n := rkN (tq bn fh) j0) (by omega)
        obtain ⟨a1, a2, a3⟩ := h3 j0 hj0 hp0
        have hsd : ∀ (mat' : Nat → Int64), (∀ i, i < J → tq bn fh i = true → mat' (5 * rkN (tq bn fh) i) = mat (5 * rkN (tq bn fh) i)) → (∀ i, i < J → tq bn fh i = true → ∀ i', i' < J → tq bn fh i' = true → i' ≠ i → mat' (4 * rkN (tq bn fh) i + rkN (tq bn fh) i') = zL (2 * ((Aj fe (kk fl fs) i i' (e + 1) : Nat) : Int))) → ∀ i, i < J → tq bn fh i = true → rowR J fc fe (kk fl fs) (fun d => (fg fl fb fz fp L d).toInt) S (tq bn fh) mat' (vp_updL sd (rkN (tq bn fh) j0) (zL (-(fc j0).toInt - Fj fe (fun d => (fg fl fb fz fp L d).toInt) j0 e - (fg fl fb fz fp L e).toInt))) (e + 1) i := by
          intro mat' k1 k2 i hi hp
          obtain ⟨c1, c2, c3⟩ := h3 i hi hp
          refine ⟨by rw [k1 i hi hp]; exact c1, k2 i hi hp, ?_⟩
          by_cases ei : i = j0
          · subst ei
            rw [pk_uLs, Fj_1 e0]
            congr 1
            omega
          · rw [pk_uLn (fun z => ei (rk_inj hp hp0 z)), Fj_0 (nj i hi ei)]
            exact c3
        have hs6 : ∀ r, r < 4 → rkN (tq bn fh) J ≤ r → vp_updL sd (rkN (tq bn fh) j0) (zL (-(fc j0).toInt - Fj fe (fun d => (fg fl fb fz fp L d).toInt) j0 e - (fg fl fb fz fp L e).toInt)) r = zL 0 := fun r hr hn => by
          rw [pk_uLn (by omega)]; exact h6 r hr hn
        rw [uI_pos hp0]
        simp only [if_neg (nI_pos (n := rkN (tq bn fh) j0) (by omega)), g4, cl0]
        rw [a3, zL_sub]
        by_cases hp1 : tq bn fh j1 = true
        · have hr1 := rk_lt hp1 hj1
          have hrr : ¬ rkN (tq bn fh) j1 = rkN (tq bn fh) j0 := fun z => hne (rk_inj hp1 hp0 z)
          rw [uI_pos hp1, if_neg (nI_pos (by omega)), show (4 : Int32) = nI 4 from rfl, pk_mul, nI_add, nI_gd (by omega) (by omega), nI_gd (by omega) (by omega), nI_clamp (by omega), a2 j1 hj1 hp1 hne, show (2 : Int64) = zL 2 from by decide, zL_mul, zL_add]
          refine ih (e + 1) _ _ (by omega) (by omega) (hsd _ (fun i hi hp => ?_) (fun i hi hp i' hi' hp' hn' => ?_)) (fun r c hr hc hn => ?_) hs6
          · have hri := rk_lt hp hi
            rw [pk_uLn (by omega)]
          · have hri := rk_lt hp hi
            have hri' := rk_lt hp' hi'
            have hrr' : ¬ rkN (tq bn fh) i' = rkN (tq bn fh) i := fun z => hn' (rk_inj hp' hp z)
            by_cases ei : i = j0 ∧ i' = j1
            · obtain ⟨rfl, rfl⟩ := ei
              rw [pk_uLs, Aj_1 ⟨e0, e1⟩]
              congr 1
              omega
            · have hne2 : 4 * rkN (tq bn fh) i + rkN (tq bn fh) i' ≠ 4 * rkN (tq bn fh) j0 + rkN (tq bn fh) j1 := by
                intro z
                apply ei
                exact ⟨rk_inj hp hp0 (by omega), rk_inj hp' hp1 (by omega)⟩
              rw [pk_uLn hne2, Aj_0]
              · exact (h3 i hi hp).2.1 i' hi' hp' hn'
              · rintro ⟨z1, z2⟩
                apply ei
                refine ⟨?_, ?_⟩
                · apply Classical.byContradiction; intro z; exact nj i hi z z1
                · apply Classical.byContradiction; intro z; exact nj1 i' hi' z z2
          · rw [pk_uLn (by omega)]
            exact h5 r c hr hc hn
        · rw [uI_neg hp1, if_pos (by decide)]
          refine ih (e + 1) _ _ (by omega) (by omega) (hsd mat (fun _ _ _ => rfl) (fun i hi hp i' hi' hp' hn' => ?_)) h5 hs6
          rw [Aj_0]
          · exact (h3 i hi hp).2.1 i' hi' hp' hn'
          · rintro ⟨z1, z2⟩
            have : i' = j1 := by apply Classical.byContradiction; intro z; exact nj1 i' hi' z z2
            exact hp1 (by rw [← this]; exact hp')
      · rw [uI_neg hp0]
        simp only [if_pos (show (-4 : Int32) < 0 by decide)]
        refine ih (e + 1) mat sd (by omega) (by omega) (fun i hi hp => ?_) h5 h6
        have ei : i ≠ j0 := fun z => hp0 (by rw [← z]; exact hp)
        obtain ⟨c1, c2, c3⟩ := h3 i hi hp
        refine ⟨c1, fun i' hi' hp' hn' => ?_, ?_⟩
        · rw [Aj_0 (fun q => nj i hi ei q.1)]; exact c2 i' hi' hp' hn'
        · rw [Fj_0 (nj i hi ei)]; exact c3
