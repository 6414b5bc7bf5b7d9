/-! layer 2: the equations, written -/
def sZ (f : Nat → Int) : Nat → Int
  | 0 => 0
  | n + 1 => sZ f n + f n
/-- FIRST at a JOINT, K at it and to another one -/
def Fj (fe : Nat → Int32) (X : Nat → Int) (i : Nat) : Nat → Int := sZ (fun d => if fe d = nI i then X d else 0)
def Aj (fe : Nat → Int32) (K : Nat → Nat) (i i' : Nat) : Nat → Nat := sN (fun d => if fe d = nI i ∧ fe (ot d) = nI i' then K d else 0)
theorem gM_at (g : Nat → Nat → Int64) (r c : Nat) (x : Int64) (r' c' : Nat) : gM_ g r c x r' c' = if r' = r ∧ c' = c then x else g r' c' := by
  unfold gM_
  by_cases h1 : r' = r
  · rw [if_pos h1]
    by_cases h2 : c' = c
    · subst h2; rw [pk_uLs, if_pos ⟨h1, rfl⟩]
    · rw [pk_uLn h2, if_neg (fun q => h2 q.2)]
  · rw [if_neg h1, if_neg (fun q => h1 q.1)]
/-- a row of the class, of the first e ENDS -/
def rowW (J : Nat) (fc fe : Nat → Int32) (K : Nat → Nat) (X : Nat → Int) (p : Nat → Bool) (g : Nat → Nat → Int64) (e i : Nat) : Prop :=
  g (rkN p i) (rkN p i) = zL (2 * ((sN (at_ fe i K) e : Nat) : Int)) ∧ (∀ i', i' < J → p i' = true → i' ≠ i → g (rkN p i) (rkN p i') = zL ((Aj fe K i i' e : Nat) : Int)) ∧ g (rkN p i) 4 = zL (-(fc i).toInt - Fj fe X i e)
theorem at_0 {fe : Nat → Int32} {K : Nat → Nat} {i e : Nat} (h : ¬ fe e = nI i) : sN (at_ fe i K) (e + 1) = sN (at_ fe i K) e := by
  show sN (at_ fe i K) e + at_ fe i K e = _
  rw [show at_ fe i K e = 0 from if_neg h]; rfl
theorem at_1 {fe : Nat → Int32} {K : Nat → Nat} {i e : Nat} (h : fe e = nI i) : sN (at_ fe i K) (e + 1) = sN (at_ fe i K) e + K e := by
  show sN (at_ fe i K) e + at_ fe i K e = _
  rw [show at_ fe i K e = K e from if_pos h]
theorem Aj_0 {fe : Nat → Int32} {K : Nat → Nat} {i i' e : Nat} (h : ¬ (fe e = nI i ∧ fe (ot e) = nI i')) : Aj fe K i i' (e + 1) = Aj fe K i i' e := by
  show Aj fe K i i' e + (if fe e = nI i ∧ fe (ot e) = nI i' then K e else 0) = _
  rw [if_neg h]; rfl
theorem Aj_1 {fe : Nat → Int32} {K : Nat → Nat} {i i' e : Nat} (h : fe e = nI i ∧ fe (ot e) = nI i') : Aj fe K i i' (e + 1) = Aj fe K i i' e + K e := by
  show Aj fe K i i' e + (if fe e = nI i ∧ fe (ot e) = nI i' then K e else 0) = _
  rw [if_pos h]
theorem Fj_0 {fe : Nat → Int32} {X : Nat → Int} {i e : Nat} (h : ¬ fe e = nI i) : Fj fe X i (e + 1) = Fj fe X i e := by
  show Fj fe X i e + (if fe e = nI i then X e else 0) = _
  rw [if_neg h, Int.add_zero]
theorem Fj_1 {fe : Nat → Int32} {X : Nat → Int} {i e : Nat} (h : fe e = nI i) : Fj fe X i (e + 1) = Fj fe X i e + X e := by
  show Fj fe X i e + (if fe e = nI i then X e else 0) = _
  rw [if_pos h]
theorem kB64 {J B L : Nat} {fh fc fe fl fs fb fz fp : Nat → Int32} (v : VF J B L fh fc fe fl fs fb fz fp) {e : Nat} (he : e < 2 * B) : (kB fl fs (e / 2)).toInt64 = zL ((kk fl fs e : Nat) : Int) ∧ ((2 : Int32) * kB fl fs (e / 2)).toInt64 = zL (2 * ((kk fl fs e : Nat) : Int)) := by
  obtain ⟨k1, k2, k3⟩ := kk_e v he
  rw [k1, m2_, toInt64_z, toInt64_z, nI_toInt (by omega), nI_toInt (by omega)]
  refine ⟨rfl, ?_⟩
  rw [Int.natCast_mul]; rfl
theorem write7 {J B L : Nat} {fh fc fe fl fs fb fz fp m bn un : Nat → Int32} {n : Nat} (h : RF 0 J B L fh fc fe fl fs fb fz fp m) (v : VF J B L fh fc fe fl fs fb fz fp) (h4 : rkN (tq bn fh) J ≤ 4) (hu : ∀ i, i < J → un i = uI (tq bn fh) i) : ∀ (f e : Nat) (g : Nat → Nat → Int64), e ≤ 2 * B → 2 * B - e < f → (∀ i, i < J → tq bn fh i = true → rowW J fc fe (kk fl fs) (fun d => (fg fl fb fz fp L d).toInt) (tq bn fh) g e i) → ∃ g' : Nat → Nat → Int64, FEq_write_L7 un (nI n) fe fl fs fb fz fp (nI B) (nI L) f (nI e) g = some (un, nI n, g') ∧ (∀ i, i < J → tq bn fh i = true → rowW J fc fe (kk fl fs) (fun d => (fg fl fb fz fp L d).toInt) (tq bn fh) g' (2 * B) i) := by
  have hJ := h.1
  have hB := h.2.1
  intro f
  induction f with
  | zero => intro e g h1 h2; omega
  | succ f ih =>
    intro e g h1 h2 h3
    rw [FEq_write_L7.eq_2, m2_]
    by_cases he : e = 2 * B
    · subst he
      rw [if_pos (nI_le (Nat.le_refl _) (by omega))]
      exact ⟨g, rfl, h3⟩
    · have hlt : e < 2 * B := by omega
      obtain ⟨o1, o2, o3⟩ := ot_b hlt
      obtain ⟨j0, hj0, e0⟩ := vp_in_of (v.2.2.1 e hlt) (by omega)
      obtain ⟨j1, hj1, e1⟩ := vp_in_of (v.2.2.1 (ot e) o1) (by omega)
      have hne : j1 ≠ j0 := by
        rintro rfl
        exact ot_j v hlt (by rw [e1, e0])
      have nj : ∀ i, i < J → i ≠ j0 → ¬ fe e = nI i := fun i hi hn q => by
        rw [e0, nI_eq (by omega) (by omega)] at q; omega
      have nj1 : ∀ i, i < J → i ≠ j1 → ¬ fe (ot e) = nI i := fun i hi hn q => by
        rw [e1, nI_eq (by omega) (by omega)] at q; omega
      have oth : ∀ g' : Nat → Nat → Int64, (∀ i, i < J → tq bn fh i = true → i ≠ j0 → ∀ c, g' (rkN (tq bn fh) i) c = g (rkN (tq bn fh) i) c) → ∀ i, i < J → tq bn fh i = true → i ≠ j0 → rowW J fc fe (kk fl fs) (fun d => (fg fl fb fz fp L d).toInt) (tq bn fh) g' (e + 1) i := by
        intro g' hg i hi hp hn
        obtain ⟨a1, a2, a3⟩ := h3 i hi hp
        refine ⟨?_, fun i' hi' hp' hn' => ?_, ?_⟩
        · rw [hg i hi hp hn, at_0 (nj i hi hn)]; exact a1
        · rw [hg i hi hp hn, Aj_0 (fun q => nj i hi hn q.1)]; exact a2 i' hi' hp' hn'
        · rw [hg i hi hp hn, Fj_0 (nj i hi hn)]; exact a3
      have q1 : nI e / (2 : Int32) = nI (e / 2) := pk_div (a := e) (d := 2) (by omega) (by omega) (by omega)
      have q2 : FFr_stiffness fl fs (nI (e / 2)) = _ := Fr_stiffness hB v (by omega)
      have q3 : FFr_otherEnd (nI e) = some (nI (ot e)) := by
        unfold FFr_otherEnd
        rw [ot_x e (by omega)]
      have q4 : FFr_jointOf fe (nI (ot e)) = some (nI j1) := by rw [Fr_jointOf (by omega), e1]
      have q5 : FFr_jointOf fe (nI e) = some (nI j0) := by rw [Fr_jointOf (by omega), e0]
      have q6 := (first_e h v (e := e) (by omega)).1
      have q7 := (kB64 v hlt).1
      have q8 := (kB64 v hlt).2
      have g60 : ∀ {α : Type} {o : Option α}, gd_ (nI j0) 6 o = o := fun {α o} => nI_gd (by omega) (by omega)
      have g61 : ∀ {α : Type} {o : Option α}, gd_ (nI j1) 6 o = o := fun {α o} => nI_gd (by omega) (by omega)
      have cj0 := nI_clamp (n := j0) (by omega)
      have cj1 := nI_clamp (n := j1) (by omega)
      have hu0 := hu j0 hj0
      have hu1 := hu j1 hj1
      have x64 : (fg fl fb fz fp L e).toInt64 = zL (fg fl fb fz fp L e).toInt := toInt64_z _
      rw [if_neg (nI_ge hlt (by omega))]
      simp only [q1, q2, q3, q4, q5, q6, q7, q8, g60, g61, cj0, cj1, hu0, hu1, b1_so2, lt_eq2, nI_1, x64, g45, show (4 : Int32).toNatClampNeg = 4 from rfl]
      by_cases hp0 : tq bn fh j0 = true
      · have hr0 := rk_lt hp0 hj0
        rw [uI_pos hp0, if_pos (nI_pos' (by omega))]
        have g4 : ∀ {α : Type} {o : Option α}, gd_ (nI (rkN (tq bn fh) j0)) 4 o = o := fun {α o} => nI_gd (by omega) (by omega)
        have g5 : ∀ {α : Type} {o : Option α}, gd_ (nI (rkN (tq bn fh) j0)) 5 o = o := fun {α o} => nI_gd (by omega) (by omega)
        have cl0 := nI_clamp (n := rkN (tq bn fh) j0) (by omega)
        obtain ⟨a1, a2, a3⟩ := h3 j0 hj0 hp0
        simp only [g4, g5, cl0]
        rw [a1, zL_add]
        by_cases hp1 : tq bn fh j1 = true
        · have hr1 := rk_lt hp1 hj1
          have hrr : ¬ rkN (tq bn fh) j1 = rkN (tq bn fh) j0 := fun z => hne (rk_inj hp1 hp0 z)
          have cl1 := nI_clamp (n := rkN (tq bn fh) j1) (by omega)
          rw [uI_pos hp1, if_neg (nI_pos (by omega)), nI_gd (n := 5) (by omega) (by omega), nI_gd (n := 5) (by omega) (by omega), cl1]
          rw [gM_at g _ _ _ (rkN (tq bn fh) j0) (rkN (tq bn fh) j1), if_neg (fun q => hrr q.2), a2 j1 hj1 hp1 hne, zL_add, gM_at _ _ _ _ (rkN (tq bn fh) j0) 4, if_neg (by omega), gM_at _ _ _ _ (rkN (tq bn fh) j0) 4, if_neg (by omega), a3, zL_sub]
          refine ih (e + 1) _ (by omega) (by omega) (fun i hi hp => ?_)
          by_cases ei : i = j0
          · subst ei
            refine ⟨?_, fun i' hi' hp' hn' => ?_, ?_⟩
            · rw [gM_at, if_neg (by omega), gM_at, if_neg (by omega), gM_at, if_pos ⟨rfl, rfl⟩, at_1 e0]
              congr 1
              omega
            · have hrr' : ¬ rkN (tq bn fh) i' = rkN (tq bn fh) i := fun z => hn' (rk_inj hp' hp0 z)
              have hr' := rk_lt hp' hi'
              rw [gM_at, if_neg (by omega), gM_at]
              by_cases ei' : i' = j1
              · subst ei'
                rw [if_pos ⟨rfl, rfl⟩, Aj_1 ⟨e0, e1⟩]
                congr 1
              · rw [if_neg (fun q => ei' (rk_inj hp' hp1 q.2)), gM_at, if_neg (fun q => hrr' q.2), Aj_0 (fun q => nj1 i' hi' ei' q.2)]
                exact a2 i' hi' hp' hn'
            · rw [gM_at, if_pos ⟨rfl, rfl⟩, Fj_1 e0]
              congr 1
              omega
          · refine oth _ (fun i hi hp hn c => ?_) i hi hp ei
            have hrr' : ¬ rkN (tq bn fh) i = rkN (tq bn fh) j0 := fun z => hn (rk_inj hp hp0 z)
            rw [gM_at, if_neg (fun q => hrr' q.1), gM_at, if_neg (fun q => hrr' q.1), gM_at, if_neg (fun q => hrr' q.1)]
        · rw [uI_neg hp1, if_pos (by decide), gM_at _ _ _ _ (rkN (tq bn fh) j0) 4, if_neg (by omega), a3, zL_sub]
          refine ih (e + 1) _ (by omega) (by omega) (fun i hi hp => ?_)
          by_cases ei : i = j0
          · subst ei
            refine ⟨?_, fun i' hi' hp' hn' => ?_, ?_⟩
            · rw [gM_at, if_neg (by omega), gM_at, if_pos ⟨rfl, rfl⟩, at_1 e0]
              congr 1
              omega
            · have hrr' : ¬ rkN (tq bn fh) i' = rkN (tq bn fh) i := fun z => hn' (rk_inj hp' hp0 z)
              have hr' := rk_lt hp' hi'
              have ei' : i' ≠ j1 := fun z => hp1 (by rw [← z]; exact hp')
              rw [gM_at, if_neg (by omega), gM_at, if_neg (fun q => hrr' q.2), Aj_0 (fun q => nj1 i' hi' ei' q.2)]
              exact a2 i' hi' hp' hn'
            · rw [gM_at, if_pos ⟨rfl, rfl⟩, Fj_1 e0]
              congr 1
              omega
          · refine oth _ (fun i hi hp hn c => ?_) i hi hp ei
            have hrr' : ¬ rkN (tq bn fh) i = rkN (tq bn fh) j0 := fun z => hn (rk_inj hp hp0 z)
            rw [gM_at, if_neg (fun q => hrr' q.1), gM_at, if_neg (fun q => hrr' q.1)]
      · rw [uI_neg hp0, if_neg (by decide)]
        refine ih (e + 1) g (by omega) (by omega) (fun i hi hp => ?_)
        exact oth g (fun _ _ _ _ _ => rfl) i hi hp (fun z => hp0 (by rw [← z]; exact hp))
