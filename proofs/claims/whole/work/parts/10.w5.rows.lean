/-! layer 2: the equations, their rows -/
def rkN (p : Nat → Bool) : Nat → Nat
  | 0 => 0
  | j + 1 => rkN p j + (if p j then 1 else 0)
def uI (p : Nat → Bool) (j : Nat) : Int32 := if p j then nI (rkN p j) else -4
def jrF (p : Nat → Bool) : Nat → Nat → Nat
  | 0, _ => 0
  | J + 1, r => if p J ∧ rkN p J = r then J else jrF p J r
theorem rk_mono {p : Nat → Bool} {i : Nat} : ∀ j : Nat, i ≤ j → rkN p i ≤ rkN p j
  | 0, h => by rw [show i = 0 by omega]; exact Nat.le_refl _
  | j + 1, h => by
    by_cases e : i = j + 1
    · subst e; exact Nat.le_refl _
    · have := rk_mono (p := p) (i := i) j (by omega)
      show rkN p i ≤ rkN p j + _
      omega
theorem rk_lt {p : Nat → Bool} {i j : Nat} (hi : p i = true) (hij : i < j) : rkN p i < rkN p j := by
  have h1 := rk_mono (p := p) (i := i + 1) j (by omega)
  have h2 : rkN p (i + 1) = rkN p i + 1 := by
    show rkN p i + (if p i then 1 else 0) = _
    rw [if_pos hi]
  omega
theorem rk_inj {p : Nat → Bool} {i j : Nat} (hi : p i = true) (hj : p j = true) (h : rkN p i = rkN p j) : i = j := by
  by_cases h1 : i < j
  · have := rk_lt hi h1; omega
  · by_cases h2 : j < i
    · have := rk_lt hj h2; omega
    · omega
theorem jr_s {p : Nat → Bool} {r : Nat} : ∀ J : Nat, r < rkN p J → jrF p J r < J ∧ p (jrF p J r) = true ∧ rkN p (jrF p J r) = r
  | 0, h => absurd h (Nat.not_lt_zero r)
  | J + 1, h => by
    have h2 : r < rkN p J + (if p J then 1 else 0) := h
    show (if p J ∧ rkN p J = r then J else jrF p J r) < J + 1 ∧ p (if p J ∧ rkN p J = r then J else jrF p J r) = true ∧ rkN p (if p J ∧ rkN p J = r then J else jrF p J r) = r
    by_cases q : p J = true ∧ rkN p J = r
    · rw [if_pos q]
      exact ⟨by omega, q.1, q.2⟩
    · rw [if_neg q]
      have : r < rkN p J := by
        by_cases pj : p J = true
        · rw [if_pos pj] at h2
          have : ¬ rkN p J = r := fun z => q ⟨pj, z⟩
          omega
        · rw [if_neg pj] at h2
          omega
      obtain ⟨a, b, c⟩ := jr_s (p := p) (r := r) J this
      exact ⟨by omega, b, c⟩
theorem rk_tn {p : Nat → Bool} {fh : Nat → Int32} : ∀ n : Nat, (∀ j, j < n → p j = true → fh j = 0) → rkN p n ≤ tn fh 0 n
  | 0, _ => Nat.le_refl 0
  | n + 1, h => by
    have h1 := rk_tn (p := p) (fh := fh) n (fun j hj => h j (by omega))
    rw [tn_snoc, Nat.zero_add]
    show rkN p n + _ ≤ _
    by_cases q : p n = true
    · rw [if_pos q, if_pos (h n (by omega) q)]; omega
    · rw [if_neg q]; omega
theorem uI_neg {p : Nat → Bool} {j : Nat} (h : ¬ p j = true) : uI p j = -4 := if_neg h
theorem uI_pos {p : Nat → Bool} {j : Nat} (h : p j = true) : uI p j = nI (rkN p j) := if_pos h
/-- the JOINTS whose X is unknown -/
def tq (bn fh : Nat → Int32) (j : Nat) : Bool := decide (¬ cT bn fh j = 0)
theorem tq_t {bn fh : Nat → Int32} {j : Nat} : tq bn fh j = true ↔ ¬ cT bn fh j = 0 := by
  unfold tq
  exact decide_eq_true_iff
theorem cT01 (bn fh : Nat → Int32) (j : Nat) : cT bn fh j = 0 ∨ cT bn fh j = 1 := by
  unfold cT
  split
  · split
    · exact Or.inl rfl
    · exact Or.inr rfl
  · exact Or.inl rfl
theorem hasEnds_s {B : Nat} {fe : Nat → Int32} {j : Nat} (hB : B ≤ 10) : ∀ (f e : Nat), e ≤ 2 * B → 2 * B - e < f → ((∃ x, e ≤ x ∧ x < 2 * B ∧ fe x = nI j) → FEq_hasEnds_L2 fe (nI B) (nI j) f (nI e) = some 1) ∧ ((¬ ∃ x, e ≤ x ∧ x < 2 * B ∧ fe x = nI j) → FEq_hasEnds_L2 fe (nI B) (nI j) f (nI e) = some 0) := by
  intro f
  induction f with
  | zero => intro e h1 h2; omega
  | succ f ih =>
    intro e h1 h2
    rw [FEq_hasEnds_L2.eq_2, m2_]
    by_cases he : e = 2 * B
    · subst he
      rw [if_pos (nI_le (Nat.le_refl _) (by omega))]
      exact ⟨fun ⟨x, g1, g2, _⟩ => by omega, fun _ => rfl⟩
    · obtain ⟨i1, i2⟩ := ih (e + 1) (by omega) (by omega)
      rw [if_neg (nI_ge (by omega) (by omega)), Fr_jointOf (by omega), b1_so2, lt_eq2, nI_1]
      by_cases q : fe e = nI j
      · rw [if_pos q]
        exact ⟨fun _ => rfl, fun g => absurd ⟨e, Nat.le_refl _, by omega, q⟩ g⟩
      · rw [if_neg q]
        refine ⟨fun ⟨x, g1, g2, g3⟩ => i1 ⟨x, ?_, g2, g3⟩, fun g => i2 (fun ⟨x, g1, g2, g3⟩ => g ⟨x, by omega, g2, g3⟩)⟩
        by_cases ex : x = e
        · subst ex; exact absurd g3 q
        · omega
theorem at_zero {fe : Nat → Int32} {j : Nat} : ∀ n : Nat, (¬ ∃ e, e < n ∧ fe e = nI j) → sN (at_ fe j (fun _ => 1)) n = 0
  | 0, _ => rfl
  | n + 1, h => by
    show sN (at_ fe j (fun _ => 1)) n + at_ fe j (fun _ => 1) n = 0
    rw [at_zero n (fun ⟨e, h1, h2⟩ => h ⟨e, by omega, h2⟩), show at_ fe j (fun _ => 1) n = 0 from if_neg (fun q => h ⟨n, by omega, q⟩)]
theorem at_one {fe : Nat → Int32} {j e : Nat} (h : fe e = nI j) : ∀ n : Nat, e < n → 0 < sN (at_ fe j (fun _ => 1)) n := by
  intro n hn
  have h1 := sN_mem (f := at_ fe j (fun _ => 1)) n e hn
  have h2 : at_ fe j (fun _ => 1) e = 1 := if_pos h
  omega
theorem tq_ends {J B : Nat} {fe bn fh : Nat → Int32} (hB : B ≤ 10) (hb : ∀ j, j < J → bn j = sI (atJ fe j (fun _ => 1)) 0 (2 * B)) {j : Nat} (hj : j < J) : (tq bn fh j = true ↔ fh j = 0 ∧ ∃ x, 0 ≤ x ∧ x < 2 * B ∧ fe x = nI j) := by
  have h1 : bn j = nI (sN (at_ fe j (fun _ => 1)) (2 * B)) := by
    rw [hb j hj]
    exact at_I (fun e he => rfl)
  have hle : sN (at_ fe j (fun _ => 1)) (2 * B) ≤ 2 * B := by
    have := sN_le (f := at_ fe j (fun _ => 1)) (g := fun _ => 1) (2 * B) (fun k _ => by unfold at_; dsimp only; split <;> omega)
    rw [sN_const] at this
    omega
  rw [tq_t]
  unfold cT
  by_cases h0 : fh j = 0
  · rw [if_pos h0, h1]
    by_cases hx : ∃ e, e < 2 * B ∧ fe e = nI j
    · obtain ⟨e, e1, e2⟩ := hx
      have := at_one e2 (2 * B) e1
      rw [if_neg (nI_nle (by omega) (by omega))]
      exact ⟨fun _ => ⟨h0, e, by omega, e1, e2⟩, fun _ => by decide⟩
    · rw [at_zero _ hx, if_pos (by decide)]
      exact ⟨fun q => absurd rfl q, fun ⟨_, e, _, e1, e2⟩ => absurd ⟨e, e1, e2⟩ hx⟩
  · rw [if_neg h0]
    exact ⟨fun q => absurd rfl q, fun q => absurd q.1 h0⟩
theorem g45 {α : Type} {k : Option α} : gd_ (4 : Int32) 5 k = k := nI_gd (i := 4) (by omega) (by omega)
/-- the class: numbers and COUPLES -/
theorem num53 {s : Nat} (hs : s < 4) (k : Int32 → (Nat → Nat → Int64) → Option ((Nat → Int32) × Int32 × (Nat → Nat → Int64))) {g0 : Nat → Nat → Int64} : ∀ (f c : Nat) (g : Nat → Nat → Int64), c ≤ 4 → 4 - c < f → (∀ r x, g r x = if r = s ∧ x < c then 0 else g0 r x) → ∃ g' : Nat → Nat → Int64, FEq_number_L53 (nI s) k f (nI c) g = k (nI 4) g' ∧ ∀ r x, g' r x = if r = s ∧ x < 4 then 0 else g0 r x := by
  intro f
  induction f with
  | zero => intro c g h1 h2; omega
  | succ f ih =>
    intro c g h1 h2 h3
    rw [FEq_number_L53.eq_2, show (4 : Int32) = nI 4 from rfl]
    by_cases hc : c = 4
    · subst hc
      rw [if_pos (nI_le (Nat.le_refl _) (by omega))]
      exact ⟨g, rfl, h3⟩
    · rw [if_neg (nI_ge (by omega) (by omega))]
      simp (disch := omega) only [nI_gd, nI_clamp, lt_eq2, nI_1]
      refine ih (c + 1) _ (by omega) (by omega) (fun r x => ?_)
      unfold gM_
      by_cases er : r = s
      · subst er
        rw [if_pos rfl]
        by_cases ex : x = c
        · subst ex; rw [pk_uLs, if_pos (by omega)]
        · rw [pk_uLn ex, h3]
          by_cases q : r = r ∧ x < c
          · rw [if_pos q, if_pos (by omega)]
          · rw [if_neg q, if_neg (by omega)]
      · rw [if_neg er, h3, if_neg (fun q => er q.1), if_neg (fun q => er q.1)]
/-- a row begun: nothing but the COUPLE -/
def rowI (fc : Nat → Int32) (p : Nat → Bool) (g : Nat → Nat → Int64) (i : Nat) : Prop := (∀ c, c < 4 → g (rkN p i) c = zL 0) ∧ g (rkN p i) 4 = zL (-(fc i).toInt)
theorem num7 {J B : Nat} {fh fc fe bn : Nat → Int32} (hJ : J ≤ 6) (hB : B ≤ 10) (hb : ∀ j, j < J → bn j = sI (atJ fe j (fun _ => 1)) 0 (2 * B)) (h01 : ∀ j, j < 6 → fh j = 0 ∨ fh j = 1) (hc : ∀ j, j < J → -9999 ≤ (fc j).toInt ∧ (fc j).toInt ≤ 9999) (h4 : rkN (tq bn fh) J ≤ 4) : ∀ (f j : Nat) (un : Nat → Int32) (g : Nat → Nat → Int64), j ≤ J → J - j < f → (∀ i, i < j → un i = uI (tq bn fh) i) → (∀ i, i < j → tq bn fh i = true → rowI fc (tq bn fh) g i) → ∃ (un' : Nat → Int32) (g' : Nat → Nat → Int64), FEq_number_L7 fh fc fe (nI J) (nI B) f (nI j) un (nI (rkN (tq bn fh) j)) g = some (un', nI (rkN (tq bn fh) J), g') ∧ (∀ i, i < J → un' i = uI (tq bn fh) i) ∧ (∀ i, i < J → tq bn fh i = true → rowI fc (tq bn fh) g' i) := by
  intro f
  induction f with
  | zero => intro j un g h1 h2; omega
  | succ f ih =>
    intro j un g h1 h2 h3 h5
    rw [FEq_number_L7.eq_2]
    by_cases hj : j = J
    · subst hj
      rw [if_pos (nI_le (Nat.le_refl _) (by omega))]
      exact ⟨un, g, rfl, h3, h5⟩
    · have hlt : j < J := by omega
      have g6 : ∀ {α : Type} {o : Option α}, gd_ (nI j) 6 o = o := fun {α o} => nI_gd (by omega) (by omega)
      have cl := nI_clamp (n := j) (by omega)
      have te := tq_ends (fh := fh) hB hb hlt
      have hs1 : rkN (tq bn fh) (j + 1) = rkN (tq bn fh) j + (if tq bn fh j then 1 else 0) := rfl
      have hun : ∀ i, i < j → upd un j (-4) i = uI (tq bn fh) i := fun i hi => by rw [pk_un (by omega)]; exact h3 i hi
      have skip : ¬ tq bn fh j = true → ∃ (un' : Nat → Int32) (g' : Nat → Nat → Int64), FEq_number_L7 fh fc fe (nI J) (nI B) f (nI (j + 1)) (upd un j (-4)) (nI (rkN (tq bn fh) j)) g = some (un', nI (rkN (tq bn fh) J), g') ∧ (∀ i, i < J → un' i = uI (tq bn fh) i) ∧ (∀ i, i < J → tq bn fh i = true → rowI fc (tq bn fh) g' i) := by
        intro hn
        have hs2 : rkN (tq bn fh) (j + 1) = rkN (tq bn fh) j := by rw [hs1, if_neg hn]; rfl
        rw [← hs2]
        refine ih (j + 1) _ g (by omega) (by omega) (fun i hi => ?_) (fun i hi hp => ?_)
        · by_cases e : i = j
          · subst e; rw [pk_us, uI_neg hn]
          · exact hun i (by omega)
        · by_cases e : i = j
          · subst e; exact absurd hp hn
          · exact h5 i (by omega) hp
      rw [if_neg (nI_ge hlt (by omega)), g6, lt_eq2, g6, cl, nI_1]
      simp only [lt_eq2, cl]
      by_cases h0 : fh j = 0
      · rw [if_pos h0]
        unfold FEq_hasEnds
        obtain ⟨e1, e2⟩ := hasEnds_s (fe := fe) (j := j) hB 1000 0 (by omega) (by omega)
        rw [← l0_] at e1 e2
        by_cases hx : ∃ x, 0 ≤ x ∧ x < 2 * B ∧ fe x = nI j
        · have ht : tq bn fh j = true := te.mpr ⟨h0, hx⟩
          rw [if_pos ht] at hs1
          have hr4 : rkN (tq bn fh) j < 4 := by
            have := rk_lt ht hlt
            omega
          rw [e1 hx, b1_so2, if_neg (by decide), if_pos (show nI (rkN (tq bn fh) j) < 4 from nI_lt (b := 4) hr4 (by omega))]
          obtain ⟨g1, w1, w2⟩ := num53 hr4 (fun (v18 : Int32) (w19 : Nat → Nat → Int64) => gd_ (nI (rkN (tq bn fh) j)) 4 <| gd_ (nI j) 6 <| gd_ (4 : Int32) 5 <| gd_ (nI j) 6 <| FEq_number_L7 fh fc fe (nI J) (nI B) f (nI (j + 1)) (upd (upd un j (-4)) j (nI (rkN (tq bn fh) j))) (nI (rkN (tq bn fh) j) + 1) (gM_ w19 (nI (rkN (tq bn fh) j)).toNatClampNeg (4 : Int32).toNatClampNeg ((-(fc j)).toInt64))) (g0 := g) 1000 0 g (by omega) (by omega) (fun r x => by rw [if_neg (by omega)])
          rw [← l0_] at w1
          rw [w1]
          rw [nI_gd hr4 (by omega), g6, g45, g6, nI_1, ← hs1, nI_clamp (by omega)]
          have hneg : (-(fc j)).toInt64 = zL (-(fc j).toInt) := by
            rw [toInt64_z, neg_toInt (by have := hc j hlt; omega)]
          rw [hneg]
          have w3 : ∀ r x, gM_ g1 (rkN (tq bn fh) j) (4 : Int32).toNatClampNeg (zL (-(fc j).toInt)) r x = if r = rkN (tq bn fh) j then (if x = 4 then zL (-(fc j).toInt) else if x < 4 then 0 else g r x) else g r x := by
            intro r x
            unfold gM_
            rw [show (4 : Int32).toNatClampNeg = 4 from rfl]
            by_cases er : r = rkN (tq bn fh) j
            · rw [if_pos er, if_pos er]
              by_cases ex : x = 4
              · subst ex; rw [pk_uLs, if_pos rfl]
              · rw [pk_uLn ex, if_neg ex, w2]
                by_cases q : x < 4
                · rw [if_pos ⟨er, q⟩, if_pos q]
                · rw [if_neg (fun z => q z.2), if_neg q]
            · rw [if_neg er, if_neg er, w2, if_neg (fun z => er z.1)]
          refine ih (j + 1) _ _ (by omega) (by omega) (fun i hi => ?_) (fun i hi hp => ?_)
          · by_cases e : i = j
            · subst e; rw [pk_us, uI_pos ht]
            · rw [pk_un e]; exact hun i (by omega)
          · by_cases e : i = j
            · subst e
              refine ⟨fun c hc => ?_, ?_⟩
              · rw [w3, if_pos rfl, if_neg (by omega), if_pos hc]; exact zL0
              · rw [w3, if_pos rfl, if_pos rfl]
            · have hne : ¬ rkN (tq bn fh) i = rkN (tq bn fh) j := fun z => e (rk_inj hp ht z)
              obtain ⟨a1, a2⟩ := h5 i (by omega) hp
              refine ⟨fun c hc => ?_, ?_⟩
              · rw [w3, if_neg hne]; exact a1 c hc
              · rw [w3, if_neg hne]; exact a2
        · rw [e2 hx, b1_so2, if_pos rfl]
          exact skip (fun q => hx (te.mp q).2)
      · rw [if_neg h0]
        exact skip (fun q => h0 (te.mp q).1)
