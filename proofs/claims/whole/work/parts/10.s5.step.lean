/-! layer 2: share, step, sweep -/
theorem b2_so2 {A B G : Type} (a : A) (b : B) (k : A → B → Option G) : b2_ (some (a, b)) k = k a b := Eq.symm (Eq.symm rfl)
theorem m2_ (B : Nat) : (2 : Int32) * nI B = nI (2 * B) := pk_mul 2 B
theorem Jm_share {J B L : Nat} {fh fc fe fl fs fb fz fp m mo ms bm be bo bn bk bs : Nat → Int32} {mst mla bst bla : Int32} (g : GF 0 J B L fh fc fe fl fs fb fz fp m) (b : BI J B fc fe fl fs mo ms mst mla bm be bo bn bk bs bst bla) (bg bt sh : Nat → Int32) (a w : Int32) : ∃ (r : Int32) (bg' bt' sh' : Nat → Int32), FJm_share bg bt be bo bk fh fe (nI B) a w = some (r, bg', bt') ∧ FMo_share m mo sh a w = some (r, sh') := by
  have hJ := g.1.1
  have hB := g.1.2.1
  unfold FJm_share FMo_share
  rcases isEnd_c (B := B) (by omega) (Mo_beams g.1) a with ⟨e, he, rfl, e1, e2⟩ | ⟨e1, e2⟩
  · rw [e1, e2]
    obtain ⟨j, hj, ej⟩ := vp_in_of (g.2.1.2.2.1 e he) (by omega)
    have hH : m j = fh j := by
      have := (g.1.2.2.2.2.2.2.1 j hj).1
      rw [Nat.zero_add] at this
      exact this
    obtain ⟨g1, t1, s1, N, sg, V, w1, w2, w3, w4, w5, w6⟩ := shares_e g b hj ⟨e, he, ej⟩ bg bt sh
    obtain ⟨w7, w8⟩ := w5 e he ej
    have c6 : ∀ {α : Type} {k : Option α}, gd_ (nI j) 6 k = k := fun {α k} => nI_gd (by omega) (by omega)
    have c395 : ∀ {α : Type} {k : Option α}, gd_ (nI j) 395 k = k := fun {α k} => nI_gd (by omega) (by omega)
    have c20 : ∀ {α : Type} {k : Option α}, gd_ (nI e) 20 k = k := fun {α k} => nI_gd (by omega) (by omega)
    have c1 := nI_clamp (n := j) (by omega)
    have c2 := nI_clamp (n := e) (by omega)
    rw [Fr_jointOf (by omega), Mo_jointOf g.1 he, ej]
    simp only [b1_so2, b2_so2, n10_, if_false, c6, c395, c20, c1, c2, hH, w1, w2]
    rcases rc_cases 0 1 (by omega) (by omega) w 0 1 (by decide) (by decide) with ⟨k, h1, h2, rfl, e3⟩ | ⟨e3, h1⟩
    · rw [e3]
      simp only [b1_so2, n10_, if_false]
      rw [if_neg (nI_pos (by omega)), if_pos (show nI k ≤ 1 from nI_le (b := 1) h2 (by omega))]
      rcases g.2.1.1 j (by omega) with h0 | h0
      · rw [if_pos h0, if_neg (c := fh j = 1) (by rw [h0]; decide)]
        rcases (show k = 0 ∨ k = 1 by omega) with rfl | rfl
        · simp only [if_pos (show nI 0 = 0 from rfl)]
          refine ⟨g1 e, g1, t1, s1, rfl, ?_⟩
          rw [w7, w8]
        · simp only [if_neg (show ¬ nI 1 = 0 by decide)]
          refine ⟨g1 e / 2, g1, t1, s1, rfl, ?_⟩
          rw [w7, w8]
      · rw [if_neg (by rw [h0]; decide), if_pos h0]
        exact ⟨_, _, _, _, rfl, rfl⟩
    · rw [e3]
      simp only [b1_so2, if_true]
      by_cases h2 : w < 0
      · rw [if_pos h2]
        exact ⟨_, _, _, _, rfl, rfl⟩
      · rw [if_neg h2, if_neg (by rw [Int32.not_le]; exact h1.resolve_left h2)]
        exact ⟨_, _, _, _, rfl, rfl⟩
  · rw [e1, e2]
    exact ⟨_, _, _, _, rfl, rfl⟩
/-- the other END -/
def ot (e : Nat) : Nat := if e % 2 = 0 then e + 1 else e - 1
theorem ot_x : ∀ e : Nat, e < 20 → (nI e ^^^ (1 : Int32)) = nI (ot e) := by decide +kernel
theorem ot_b {e B : Nat} (he : e < 2 * B) : ot e < 2 * B ∧ ot e / 2 = e / 2 ∧ ot e ≠ e := by
  unfold ot
  split <;> omega
theorem Mo_otherOf {e : Nat} (he : e < 20) : FMo_otherOf (nI e) = some (nI (ot e)) := by
  unfold FMo_otherOf ot
  rw [l2_, pk_rem (by omega) (by omega) (by omega), l0_]
  by_cases h : e % 2 = 0
  · rw [if_pos (by rw [h]), if_pos h, nI_1]
  · rw [if_neg (by rw [nI_eq (by omega) (by omega)]; exact h), if_neg h, l1_, pk_sub (by omega)]
theorem ot_j {J B L : Nat} {fh fc fe fl fs fb fz fp : Nat → Int32} (v : VF J B L fh fc fe fl fs fb fz fp) {e : Nat} (he : e < 2 * B) : ¬ fe (ot e) = fe e := by
  have h := v.2.2.2.1 (e / 2) (by omega)
  unfold ot
  by_cases h0 : e % 2 = 0
  · rw [if_pos h0]
    rw [show 2 * (e / 2) = e by omega] at h
    exact fun q => h q.symm
  · rw [if_neg h0]
    rw [show 2 * (e / 2) + 1 = e by omega, show 2 * (e / 2) = e - 1 by omega] at h
    exact h
theorem sum_upd {fe mo : Nat → Int32} {j e : Nat} {x : Int32} : ∀ n : Nat, (e < n → sI (atJ fe j (upd mo e (mo e + x))) 0 n = sI (atJ fe j mo) 0 n + (if fe e = nI j then x else 0)) ∧ (n ≤ e → sI (atJ fe j (upd mo e (mo e + x))) 0 n = sI (atJ fe j mo) 0 n)
  | 0 => ⟨fun h => by omega, fun _ => rfl⟩
  | n + 1 => by
    obtain ⟨h1, h2⟩ := sum_upd (fe := fe) (mo := mo) (j := j) (e := e) (x := x) n
    rw [sI_snoc, sI_snoc, Nat.zero_add]
    constructor
    · intro h
      by_cases en : e = n
      · subst en
        rw [h2 (Nat.le_refl _)]
        unfold atJ
        rw [pk_us]
        by_cases q : fe e = nI j
        · rw [if_pos q, if_pos q, if_pos q, Int32.add_assoc]
        · rw [if_neg q, if_neg q, if_neg q, Int32.add_zero, Int32.add_zero]
      · rw [h1 (by omega)]
        have : atJ fe j (upd mo e (mo e + x)) n = atJ fe j mo n := by unfold atJ; rw [pk_un (by omega)]
        rw [this, Int32.add_assoc, Int32.add_assoc, Int32.add_comm (if fe e = nI j then x else 0)]
    · intro h
      rw [h2 (by omega)]
      have : atJ fe j (upd mo e (mo e + x)) n = atJ fe j mo n := by unfold atJ; rw [pk_un (by omega)]
      rw [this]
def OI (J B : Nat) (fc fe mo bo : Nat → Int32) : Prop := ∀ j, j < J → bo j = fc j + sI (atJ fe j mo) 0 (2 * B)
theorem OI_come {J B : Nat} {fc fe mo bo : Nat → Int32} (h : OI J B fc fe mo bo) (hJ : J ≤ 6) {e j1 : Nat} (he : e < 2 * B) (hj : j1 < J) (hej : fe e = nI j1) (x : Int32) : OI J B fc fe (upd mo e (mo e + x)) (upd bo j1 (bo j1 + x)) := by
  intro j hjJ
  rw [(sum_upd (2 * B)).1 he]
  by_cases ej : j = j1
  · subst ej
    rw [pk_us, if_pos hej, h j hjJ, Int32.add_assoc]
  · rw [pk_un ej, if_neg (by rw [hej, nI_eq (by omega) (by omega)]; omega), Int32.add_zero]
    exact h j hjJ
theorem ph_upd {bo : Nat → Int32} {x : Int32} {j : Nat} : ∀ n : Nat, (j < n → ph (upd bo j x) n + (bo j).toInt.natAbs = ph bo n + x.toInt.natAbs) ∧ (n ≤ j → ph (upd bo j x) n = ph bo n)
  | 0 => ⟨fun h => by omega, fun _ => rfl⟩
  | n + 1 => by
    obtain ⟨h1, h2⟩ := ph_upd (bo := bo) (x := x) (j := j) n
    show (j < n + 1 → ph (upd bo j x) n + (upd bo j x n).toInt.natAbs + _ = ph bo n + (bo n).toInt.natAbs + _) ∧ (n + 1 ≤ j → ph (upd bo j x) n + (upd bo j x n).toInt.natAbs = ph bo n + (bo n).toInt.natAbs)
    constructor
    · intro h
      by_cases e : j = n
      · subst e
        rw [pk_us, h2 (Nat.le_refl _)]
        omega
      · rw [pk_un (by omega)]
        have := h1 (by omega)
        omega
    · intro h
      rw [pk_un (by omega), h2 (by omega)]
theorem comeTo_e {bm bo fe : Nat → Int32} {e j1 : Nat} (he : e < 20) (hj : j1 < 6) (hej : fe e = nI j1) (x : Int32) : FBa_comeTo bm bo fe (nI e) x = some (upd bm e (bm e + x), upd bo j1 (bo j1 + x)) := by
  unfold FBa_comeTo
  rw [Fr_jointOf he, hej]
  simp (disch := omega) only [b1_so2, lt_eq2, nI_gd, nI_clamp]
theorem half_z {sg : Int} {n : Nat} (hs : sg = 1 ∨ sg = -1) (hn : n ≤ 1000000000) : zI (sg * (n : Int)) / 2 = zI (sg * ((n / 2 : Nat) : Int)) := by
  have e1 : Int32.minValue.toInt = -2147483648 := by decide
  have e2 : Int32.maxValue.toInt = 2147483647 := by decide
  have e3 : (2 : Int32) = Int32.ofInt 2 := by decide
  unfold zI
  rcases hs with rfl | rfl
  · rw [Int.one_mul, Int.one_mul, e3, ← Int32.ofInt_tdiv (by omega) (by omega) (by omega) (by omega)]
    congr 1
  · rw [Int.neg_mul, Int.neg_mul, Int.one_mul, Int.one_mul, e3, ← Int32.ofInt_tdiv (by omega) (by omega) (by omega) (by omega), Int.neg_tdiv]
    congr 1
theorem step8 {J B L : Nat} {fh fc fe fl fs fb fz fp m g1 s1 : Nat → Int32} (h : RF 0 J B L fh fc fe fl fs fb fz fp m) (v : VF J B L fh fc fe fl fs fb fz fp) {j V M : Nat} {sg : Int} {N : Nat → Nat} (hj : j < J) (hM : M ≤ 1000000000) (hVM : V ≤ 1000000000) (hsg : sg = 1 ∨ sg = -1) (hg : ∀ d, d < 2 * B → fe d = nI j → g1 d = zI (sg * (N d : Int)) ∧ s1 d = zI (sg * (N d : Int))) (hN : sN (at_ fe j N) (2 * B) = V) (k : Int32 → (Nat → Int32) → (Nat → Int32) → Option ((Nat → Int32) × (Nat → Int32) × (Nat → Int32) × (Nat → Int32) × (Nat → Int32) × Int32 × Int32)) (k' : Int32 → (Nat → Int32) → Option ((Nat → Int32) × (Nat → Int32) × Int32 × Int32 × (Nat → Int32))) : ∀ (n e : Nat) (bm bo mo : Nat → Int32), e ≤ 2 * B → 2 * B - e < n → (∀ d, d < 2 * B → bm d = mo d) → OI J B fc fe mo bo → (bo j).toInt = -(sg * ((V : Int) - (sN (at_ fe j N) e : Nat))) → ph bo J ≤ M → ∃ bm' bo' mo' : Nat → Int32, FBa_letGo_L8 g1 fe (nI B) (nI j) k n (nI e) bm bo = k (nI (2 * B)) bm' bo' ∧ FMo_doesStep_L7 m s1 (nI j) k' n (nI e) mo = k' (nI (2 * B)) mo' ∧ (∀ d, d < 2 * B → bm' d = mo' d) ∧ OI J B fc fe mo' bo' ∧ ph bo' J ≤ M := by
  have hJ := h.1
  have hB := h.2.1
  intro n
  induction n with
  | zero => intro e bm bo mo h1 h2; omega
  | succ n ih =>
    intro e bm bo mo h1 h2 h3 h4 h5 h6
    rw [FBa_letGo_L8.eq_2, FMo_doesStep_L7.eq_2, Mo_beams h, b1_so2, m2_]
    by_cases he : e = 2 * B
    · subst he
      rw [if_pos (nI_le (Nat.le_refl _) (by omega)), if_pos (nI_le (Nat.le_refl _) (by omega))]
      exact ⟨bm, bo, mo, rfl, rfl, h3, h4, h6⟩
    · have hlt : e < 2 * B := by omega
      rw [if_neg (nI_ge hlt (by omega)), if_neg (nI_ge hlt (by omega)), Fr_jointOf (by omega), Mo_jointOf h hlt, b1_so2, b1_so2]
      have hsn : (sN (at_ fe j N) (e + 1) : Nat) = sN (at_ fe j N) e + at_ fe j N e := rfl
      by_cases hej : fe e = nI j
      · obtain ⟨o1, o2, o3⟩ := ot_b hlt
        obtain ⟨j2, hj2, ej2⟩ := vp_in_of (v.2.2.1 (ot e) o1) (by omega)
        have hne : j2 ≠ j := by
          rintro rfl
          exact ot_j v hlt (by rw [ej2, hej])
        have hne2 : j ≠ j2 := fun q => hne q.symm
        obtain ⟨q1, q2⟩ := hg e hlt hej
        have hNe : N e ≤ V := by
          have := sN_mem (f := at_ fe j N) (2 * B) e hlt
          have e1 : at_ fe j N e = N e := if_pos hej
          omega
        have hat : at_ fe j N e = N e := if_pos hej
        have hle : sN (at_ fe j N) (e + 1) ≤ V := by
          have hmono : ∀ a b : Nat, a ≤ b → sN (at_ fe j N) a ≤ sN (at_ fe j N) b := by
            intro a b
            induction b with
            | zero => intro q; rw [show a = 0 by omega]; exact Nat.le_refl _
            | succ b ihb =>
              intro q
              by_cases e1 : a = b + 1
              · subst e1; exact Nat.le_refl _
              · have := ihb (by omega)
                show _ ≤ sN (at_ fe j N) b + at_ fe j N b
                omega
          rw [← hN]
          exact hmono _ _ (by omega)
        rw [if_pos hej, if_pos hej]
        have c1 := comeTo_e (bm := bm) (bo := bo) (e := e) (by omega) (show j < 6 by omega) hej (g1 e)
        have c2 := comeTo_e (bm := upd bm e (bm e + g1 e)) (bo := upd bo j (bo j + g1 e)) (e := ot e) (by omega) (show j2 < 6 by omega) ej2 (g1 e / 2)
        have c3 : FFr_otherEnd (nI e) = some (nI (ot e)) := by
          unfold FFr_otherEnd
          rw [ot_x e (by omega)]
        have e20 : ∀ {α : Type} {k : Option α}, gd_ (nI e) 20 k = k := fun {α k} => nI_gd (by omega) (by omega)
        have o20 : ∀ {α : Type} {k : Option α}, gd_ (nI (ot e)) 20 k = k := fun {α k} => nI_gd (by omega) (by omega)
        have cl1 := nI_clamp (n := e) (by omega)
        have cl2 := nI_clamp (n := ot e) (by omega)
        have hS : (sN (at_ fe j N) e : Nat) + N e = sN (at_ fe j N) (e + 1) := by rw [hsn, hat]
        have t1 : (bo j + g1 e).toInt = -(sg * ((V : Int) - (sN (at_ fe j N) (e + 1) : Nat))) := by
          rw [q1, add_toInt, h5, zI_toInt]
          all_goals (try rw [h5])
          all_goals (try rw [zI_toInt])
          all_goals (rcases hsg with rfl | rfl <;> omega)
        have p1 := (ph_upd (bo := bo) (x := bo j + g1 e) (j := j) J).1 hj
        have p2 := (ph_upd (bo := upd bo j (bo j + g1 e)) (x := upd bo j (bo j + g1 e) j2 + g1 e / 2) (j := j2) J).1 hj2
        have hb2 := ph_ge (bo := bo) J j2 hj2
        have e2 : upd bo j (bo j + g1 e) j2 = bo j2 := pk_un hne
        have hh : (g1 e / 2).toInt = sg * ((N e / 2 : Nat) : Int) := by
          rw [q1, half_z hsg (by omega), zI_toInt]
          all_goals (rcases hsg with rfl | rfl <;> omega)
        rw [e2] at p2
        have t2 : (bo j2 + g1 e / 2).toInt = (bo j2).toInt + sg * ((N e / 2 : Nat) : Int) := by
          rw [add_toInt, hh]
          all_goals (try rw [hh])
          all_goals (rcases hsg with rfl | rfl <;> omega)
        have hph : ph (upd (upd bo j (bo j + g1 e)) j2 (bo j2 + g1 e / 2)) J ≤ M := by
          rw [t1, h5] at p1
          rw [t2] at p2
          rcases hsg with rfl | rfl <;> omega
        have c4 := OI_come h4 hJ hlt hj hej (g1 e)
        have c5 := OI_come c4 hJ o1 hj2 ej2 (g1 e / 2)
        have m1 : g1 e = s1 e := by rw [q1, q2]
        obtain ⟨bm', bo', mo', i1, i2, i3⟩ := ih (e + 1) _ _ _ (by omega) (by omega) (show ∀ d, d < 2 * B → upd (upd bm e (bm e + g1 e)) (ot e) (upd bm e (bm e + g1 e) (ot e) + g1 e / 2) d = upd (upd mo e (mo e + g1 e)) (ot e) (upd mo e (mo e + g1 e) (ot e) + g1 e / 2) d from by
          intro d hd
          by_cases d1 : d = ot e
          · subst d1
            rw [pk_us, pk_us, pk_un o3, pk_un o3, h3 _ o1]
          · rw [pk_un d1, pk_un d1]
            by_cases d2 : d = e
            · subst d2; rw [pk_us, pk_us, h3 _ hlt]
            · rw [pk_un d2, pk_un d2, h3 d hd]) c5 (by rw [pk_un hne2, pk_us, t1]) (by rw [e2]; exact hph)
        refine ⟨bm', bo', mo', ?_, ?_, i3⟩
        · rw [e20, cl1, c1, b2_so2, c3, b1_so2, e20, c2, b2_so2, lt_eq2, nI_1]
          exact i1
        · simp only [e20, o20, cl1, cl2, lt_eq2, b1_so2, Mo_otherOf (show e < 20 by omega), nI_1]
          rw [m1] at i2
          exact i2
      · rw [if_neg hej, if_neg hej, lt_eq2, lt_eq2, nI_1]
        have e1 : (sN (at_ fe j N) (e + 1) : Nat) = sN (at_ fe j N) e := by
          rw [hsn, show at_ fe j N e = 0 from if_neg hej]; rfl
        exact ih (e + 1) bm bo mo (by omega) (by omega) h3 h4 (by rw [e1]; exact h5) h6
