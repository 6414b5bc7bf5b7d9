/-! layer 2: sharing, what is left goes by ones -/
/-- whether END d stands ahead of END e at a JOINT -/
def aB (fe : Nat → Int32) (K : Nat → Nat) (j e d : Nat) : Nat := if fe d = nI j ∧ (K e < K d ∨ K d = K e ∧ d < e) then 1 else 0
theorem aB1 {fe : Nat → Int32} {K : Nat → Nat} {j e d : Nat} (h : fe d = nI j ∧ (K e < K d ∨ K d = K e ∧ d < e)) : aB fe K j e d = 1 := if_pos h
theorem aB0 {fe : Nat → Int32} {K : Nat → Nat} {j e d : Nat} (h : ¬ (fe d = nI j ∧ (K e < K d ∨ K d = K e ∧ d < e))) : aB fe K j e d = 0 := if_neg h
theorem nS18 {J B L : Nat} {fh fc fe fl fs fb fz fp m : Nat → Int32} (h : RF 0 J B L fh fc fe fl fs fb fz fp m) (v : VF J B L fh fc fe fl fs fb fz fp) {j e : Nat} (he : e < 2 * B) (k : Int32 → Int32 → Option Int32) : ∀ (n d : Nat), d ≤ 2 * B → 2 * B - d < n → FMo_nextStiff_L18 m (nI j) (nI e) k n (nI (sN (aB fe (kk fl fs) j e) d)) (nI d) = k (nI (sN (aB fe (kk fl fs) j e) (2 * B))) (nI (2 * B)) := by
  have hB := h.2.1
  intro n
  induction n with
  | zero => intro d h1 h2; omega
  | succ n ih =>
    intro d h1 h2
    rw [FMo_nextStiff_L18.eq_2, Mo_beams h, l2_, b1_so2, pk_mul]
    by_cases hd : d = 2 * B
    · subst hd
      rw [if_pos (nI_le (Nat.le_refl _) (by omega))]
    · have hlt : d < 2 * B := by omega
      obtain ⟨k1, -, k2⟩ := kk_e v hlt
      obtain ⟨k3, -, k4⟩ := kk_e v he
      have q1 : (nI (kk fl fs e) < nI (kk fl fs d)) = (kk fl fs e < kk fl fs d) := propext (nI_ltI (by omega) (by omega))
      have q2 : (nI (kk fl fs d) = nI (kk fl fs e)) = (kk fl fs d = kk fl fs e) := propext (nI_eq (by omega) (by omega))
      have q3 : (nI e ≤ nI d) = (e ≤ d) := propext (nI_leI (by omega) (by omega))
      rw [if_neg (nI_ge hlt (by omega)), Mo_stiffOf h v hlt, Mo_stiffOf h v he, Mo_jointOf h hlt, k1, k3]
      simp only [b1_so2, lt_eq2, nI_1, Int32.add_zero, q1, q2, q3, n10_, if_true, if_false]
      have i1 := ih (d + 1) (by omega) (by omega)
      have hs : sN (aB fe (kk fl fs) j e) (d + 1) = sN (aB fe (kk fl fs) j e) d + aB fe (kk fl fs) j e d := rfl
      rw [hs] at i1
      unfold aB at i1
      by_cases hj : fe d = nI j
      · by_cases h3 : kk fl fs e < kk fl fs d
        · rw [if_pos ⟨hj, Or.inl h3⟩] at i1
          rw [if_pos h3, if_pos hj]
          exact i1
        · rw [if_neg h3]
          by_cases h4 : kk fl fs d = kk fl fs e
          · rw [if_pos h4]
            by_cases h5 : e ≤ d
            · rw [if_neg (by omega)] at i1
              rw [if_pos h5, if_pos hj]
              exact i1
            · rw [if_pos ⟨hj, Or.inr ⟨h4, by omega⟩⟩] at i1
              rw [if_neg h5, if_pos hj]
              exact i1
          · rw [if_neg (by omega)] at i1
            rw [if_neg h4, if_pos hj]
            exact i1
      · rw [if_neg (fun q => hj q.1)] at i1
        simp only [if_neg hj, ite_self]
        exact i1
theorem nS2 {J B L : Nat} {fh fc fe fl fs fb fz fp m : Nat → Int32} (h : RF 0 J B L fh fc fe fl fs fb fz fp m) (v : VF J B L fh fc fe fl fs fb fz fp) {j i x : Nat} (hi : i < 1000) (hx : x < 2 * B) (hxj : fe x = nI j) (hxi : sN (aB fe (kk fl fs) j x) (2 * B) = i) (hu : ∀ e, e < 2 * B → fe e = nI j → sN (aB fe (kk fl fs) j e) (2 * B) = i → e = x) : ∀ (n e : Nat), e ≤ x → 2 * B - e < n → FMo_nextStiff_L2 m (nI j) (nI i) n (nI e) = some (nI x) := by
  have hB := h.2.1
  have hle : ∀ e, sN (aB fe (kk fl fs) j e) (2 * B) ≤ 2 * B := by
    intro e
    have := sN_le (f := aB fe (kk fl fs) j e) (g := fun _ => 1) (2 * B) (fun k _ => by unfold aB; split <;> omega)
    rw [sN_const] at this
    omega
  intro n
  induction n with
  | zero => intro e h1 h2; omega
  | succ n ih =>
    intro e h1 h2
    have hlt : e < 2 * B := by omega
    rw [FMo_nextStiff_L2.eq_2, Mo_beams h, l2_, b1_so2, pk_mul, if_neg (nI_ge hlt (by omega))]
    have h18 := nS18 h v (j := j) hlt (fun (v43 : Int32) (v44 : Int32) => b1_ (FMo_jointOf m (nI e)) fun r45 => if r45 = nI j then if v43 = nI i then some (nI e) else lt_ (nI e + (1 : Int32)) fun v51 => FMo_nextStiff_L2 m (nI j) (nI i) n v51 else lt_ (nI e + (1 : Int32)) fun v49 => FMo_nextStiff_L2 m (nI j) (nI i) n v49) 1000 0 (by omega) (by omega)
    have e0 : nI (sN (aB fe (kk fl fs) j e) 0) = 0 := rfl
    rw [e0, ← l0_] at h18
    rw [h18]
    clear h18
    have q := hle e
    rw [Mo_jointOf h hlt]
    simp only [b1_so2, lt_eq2, nI_1]
    by_cases hj : fe e = nI j
    · rw [if_pos hj]
      by_cases hr : sN (aB fe (kk fl fs) j e) (2 * B) = i
      · rw [if_pos (by rw [hr])]
        rw [hu e hlt hj hr]
      · rw [if_neg (by rw [nI_eq (by omega) (by omega)]; exact hr)]
        exact ih (e + 1) (by
          by_cases ex : e = x
          · subst ex; exact absurd hxi hr
          · omega) (by omega)
    · rw [if_neg hj]
      exact ih (e + 1) (by
        by_cases ex : e = x
        · subst ex; exact absurd hxj hj
        · omega) (by omega)
theorem sB9 {B : Nat} {fe be t : Nat → Int32} {K : Nat → Nat} {j : Nat} (hB : B ≤ 10) (hk : ∀ e, e < 2 * B → be e = nI (K e) ∧ 1 ≤ K e ∧ K e ≤ 120) : ∀ (n e : Nat) (r y : Int32), e ≤ 2 * B → 2 * B - e < n → ((r = -4 ∧ y = 0 ∧ ∀ d, d < e → fe d = nI j → ¬ t d = 0) ∨ ∃ x, x < e ∧ r = nI x ∧ y = nI (K x) ∧ fe x = nI j ∧ t x = 0 ∧ ∀ d, d < e → fe d = nI j → t d = 0 → K d ≤ K x ∧ (d < x → K d < K x)) → ∃ r', FBa_stiffestBare_L9 t be fe (nI B) (nI j) n r y (nI e) = some r' ∧ ((r' = -4 ∧ ∀ d, d < 2 * B → fe d = nI j → ¬ t d = 0) ∨ ∃ x, x < 2 * B ∧ r' = nI x ∧ fe x = nI j ∧ t x = 0 ∧ ∀ d, d < 2 * B → fe d = nI j → t d = 0 → K d ≤ K x ∧ (d < x → K d < K x)) := by
  intro n
  induction n with
  | zero => intro e r y h1 h2; omega
  | succ n ih =>
    intro e r y h1 h2 h3
    rw [FBa_stiffestBare_L9.eq_2, l2_, pk_mul]
    by_cases he : e = 2 * B
    · subst he
      rw [if_pos (nI_le (Nat.le_refl _) (by omega))]
      refine ⟨r, rfl, ?_⟩
      rcases h3 with ⟨q1, q2, q3⟩ | ⟨x, q1, q2, q3, q4, q5, q6⟩
      · exact Or.inl ⟨q1, q3⟩
      · exact Or.inr ⟨x, q1, q2, q4, q5, q6⟩
    · have hlt : e < 2 * B := by omega
      obtain ⟨k1, k2, k3⟩ := hk e hlt
      rw [if_neg (nI_ge hlt (by omega)), Fr_jointOf (by omega)]
      simp (disch := omega) only [b1_so2, lt_eq2, nI_gd, nI_clamp, nI_1, k1]
      have hskip : ¬ (fe e = nI j ∧ t e = 0) ∨ (∃ x, x < e ∧ r = nI x ∧ K e ≤ K x) → ((r = -4 ∧ y = 0 ∧ ∀ d, d < e + 1 → fe d = nI j → ¬ t d = 0) ∨ ∃ x, x < e + 1 ∧ r = nI x ∧ y = nI (K x) ∧ fe x = nI j ∧ t x = 0 ∧ ∀ d, d < e + 1 → fe d = nI j → t d = 0 → K d ≤ K x ∧ (d < x → K d < K x)) := by
        intro hs
        rcases h3 with ⟨q1, q2, q3⟩ | ⟨x, q1, q2, q3, q4, q5, q6⟩
        · left
          refine ⟨q1, q2, fun d hd hj => ?_⟩
          by_cases ed : d = e
          · subst ed
            rcases hs with hs | ⟨x, g1, g2, g3⟩
            · exact fun ht => hs ⟨hj, ht⟩
            · rw [q1] at g2
              exact absurd g2 (by intro hh; have := congrArg Int32.toInt hh; rw [nI_toInt (by omega), show ((-4 : Int32)).toInt = -4 from by decide] at this; omega)
          · exact q3 d (by omega) hj
        · right
          refine ⟨x, by omega, q2, q3, q4, q5, fun d hd hj ht => ?_⟩
          by_cases ed : d = e
          · subst ed
            rcases hs with hs | ⟨x', g1, g2, g3⟩
            · exact absurd ⟨hj, ht⟩ hs
            · rw [q2, nI_eq (by omega) (by omega)] at g2
              subst g2
              exact ⟨g3, fun _ => by omega⟩
          · exact q6 d (by omega) hj ht
      by_cases hj : fe e = nI j
      · rw [if_pos hj]
        by_cases ht : t e = 0
        · rw [if_pos ht]
          rcases h3 with ⟨q1, q2, q3⟩ | ⟨x, q1, q2, q3, q4, q5, q6⟩
          · rw [q2, if_neg (nI_nle (by omega) (by omega))]
            refine ih (e + 1) (nI e) (nI (K e)) (by omega) (by omega) (Or.inr ⟨e, by omega, rfl, rfl, hj, ht, fun d hd hj2 ht2 => ?_⟩)
            by_cases ed : d = e
            · subst ed; exact ⟨Nat.le_refl _, fun _ => by omega⟩
            · exact absurd ht2 (q3 d (by omega) hj2)
          · obtain ⟨-, k4, k5⟩ := hk x (by omega)
            by_cases h5 : K e ≤ K x
            · rw [q3, if_pos (nI_le h5 (by omega)), ← q3]
              exact ih (e + 1) r y (by omega) (by omega) (hskip (Or.inr ⟨x, q1, q2, h5⟩))
            · rw [q3, if_neg (nI_ge (by omega) (by omega))]
              refine ih (e + 1) (nI e) (nI (K e)) (by omega) (by omega) (Or.inr ⟨e, by omega, rfl, rfl, hj, ht, fun d hd hj2 ht2 => ?_⟩)
              by_cases ed : d = e
              · subst ed; exact ⟨Nat.le_refl _, fun _ => by omega⟩
              · have := (q6 d (by omega) hj2 ht2).1
                exact ⟨by omega, fun _ => by omega⟩
        · rw [if_neg ht]
          exact ih (e + 1) r y (by omega) (by omega) (hskip (Or.inl (fun q => ht q.2)))
      · rw [if_neg hj]
        exact ih (e + 1) r y (by omega) (by omega) (hskip (Or.inl (fun q => hj q.1)))
/-- how many ENDS at a JOINT are topped -/
def tp (fe t : Nat → Int32) (j d : Nat) : Nat := if fe d = nI j ∧ ¬ t d = 0 then 1 else 0
theorem tp1 {fe t : Nat → Int32} {j d : Nat} (h : fe d = nI j ∧ ¬ t d = 0) : tp fe t j d = 1 := if_pos h
theorem tp0 {fe t : Nat → Int32} {j d : Nat} (h : ¬ (fe d = nI j ∧ ¬ t d = 0)) : tp fe t j d = 0 := if_neg h
theorem sN_upd {f g : Nat → Nat} {x : Nat} : ∀ n : Nat, x < n → (∀ d, d < n → d ≠ x → g d = f d) → sN g n + f x = sN f n + g x
  | 0, h, _ => by omega
  | n + 1, h, hd => by
    show sN g n + g n + f x = sN f n + f n + g x
    by_cases e : x = n
    · subst e
      rw [sN_congr (f := g) (g := f) x (fun k hk => hd k (by omega) (by omega))]
      omega
    · have h1 := sN_upd (f := f) (g := g) (x := x) n (by omega) (fun d h1 h2 => hd d (by omega) h2)
      have h2 := hd n (by omega) (by omega)
      omega
theorem top_s {J B L : Nat} {fh fc fe fl fs fb fz fp m be : Nat → Int32} (h : RF 0 J B L fh fc fe fl fs fb fz fp m) (v : VF J B L fh fc fe fl fs fb fz fp) (hk : ∀ e, e < 2 * B → be e = nI (kk fl fs e)) {j R : Nat} {sg : Int} {one : Int32} (hone0 : 0 < R → one = zI sg) (hsg : sg = 1 ∨ sg = -1) (hR : R = 0 ∨ R < sN (at_ fe j (fun _ => 1)) (2 * B)) : ∀ (q i n1 n2 : Nat) (g t s : Nat → Int32) (N : Nat → Nat), i + q = R → q < n1 → q < n2 → sN (tp fe t j) (2 * B) = i → (∀ d d', d < 2 * B → d' < 2 * B → fe d = nI j → fe d' = nI j → ¬ t d = 0 → t d' = 0 → kk fl fs d' < kk fl fs d ∨ kk fl fs d = kk fl fs d' ∧ d < d') → (∀ d, d < 2 * B → fe d = nI j → g d = zI (sg * (N d : Int)) ∧ s d = zI (sg * (N d : Int))) → ∃ (g' t' s' : Nat → Int32) (N' : Nat → Nat), FBa_shareOut_L115 be fe (nI B) (nI j) one n1 (zI (sg * (q : Int))) (nI i) g t = some (g', t') ∧ FMo_sharesOf_L122 m (nI j) (zI (sg * (R : Int))) one n2 (nI q) s = some s' ∧ (∀ d, d < 2 * B → fe d = nI j → g' d = zI (sg * (N' d : Int)) ∧ s' d = zI (sg * (N' d : Int))) ∧ sN (at_ fe j N') (2 * B) = sN (at_ fe j N) (2 * B) + q := by
  have hB := h.2.1
  have hnE : sN (at_ fe j (fun _ => 1)) (2 * B) ≤ 2 * B := by
    have := sN_le (f := at_ fe j (fun _ => 1)) (g := fun _ => 1) (2 * B) (fun k _ => by unfold at_; dsimp only; split <;> omega)
    rw [sN_const] at this
    omega
  intro q
  induction q with
  | zero =>
    intro i n1 n2 g t s N h1 h2 h3 h4 h5 h6
    obtain ⟨n1, rfl⟩ : ∃ k, n1 = k + 1 := ⟨n1 - 1, by omega⟩
    obtain ⟨n2, rfl⟩ : ∃ k, n2 = k + 1 := ⟨n2 - 1, by omega⟩
    refine ⟨g, t, s, N, ?_, ?_, h6, rfl⟩
    · rw [FBa_shareOut_L115.eq_2]
      have e1 : zI (sg * ((0 : Nat) : Int)) = 0 := by rw [show sg * ((0 : Nat) : Int) = 0 from Int.mul_zero sg]; exact zI0
      rw [e1, if_pos rfl]
      split <;> rfl
    · rw [FMo_sharesOf_L122.eq_2, if_pos (by decide)]
  | succ q ih =>
    intro i n1 n2 g t s N h1 h2 h3 h4 h5 h6
    obtain ⟨n1, rfl⟩ : ∃ k, n1 = k + 1 := ⟨n1 - 1, by omega⟩
    obtain ⟨n2, rfl⟩ : ∃ k, n2 = k + 1 := ⟨n2 - 1, by omega⟩
    have hone := hone0 (by omega)
    have hiR : i < sN (at_ fe j (fun _ => 1)) (2 * B) := by omega
    have hi20 : i < 20 := by omega
    obtain ⟨r, w1, w2⟩ := sB9 (t := t) (j := j) hB (fun e he => ⟨hk e he, (kk_e v he).2.1, (kk_e v he).2.2⟩) 1000 0 (-4) 0 (by omega) (by omega) (Or.inl ⟨rfl, rfl, fun d hd => by omega⟩)
    rcases w2 with ⟨-, w3⟩ | ⟨x, x1, rfl, x2, x3, x4⟩
    · exfalso
      have : sN (tp fe t j) (2 * B) = sN (at_ fe j (fun _ => 1)) (2 * B) := by
        apply sN_congr
        intro d hd
        unfold tp at_
        by_cases hj : fe d = nI j
        · rw [if_pos ⟨hj, w3 d hd hj⟩, if_pos hj]
        · rw [if_neg (fun q => hj q.1), if_neg hj]
      omega
    · have hah : ∀ d, d < 2 * B → fe d = nI j → t d = 0 → d ≠ x → kk fl fs d < kk fl fs x ∨ kk fl fs x = kk fl fs d ∧ x < d := by
        intro d hd hj ht hne
        obtain ⟨g1, g2⟩ := x4 d hd hj ht
        by_cases e : kk fl fs d = kk fl fs x
        · right
          refine ⟨e.symm, ?_⟩
          by_cases e2 : d < x
          · have := g2 e2; omega
          · omega
        · omega
      have hrx : sN (aB fe (kk fl fs) j x) (2 * B) = i := by
        rw [← h4]
        apply sN_congr
        intro d hd
        by_cases hj : fe d = nI j
        · by_cases ht : t d = 0
          · rw [tp0 (fun q => q.2 ht), aB0]
            rintro ⟨-, q⟩
            obtain ⟨g1, g2⟩ := x4 d hd hj ht
            rcases q with q | ⟨q1, q2⟩
            · omega
            · have := g2 q2; omega
          · rw [tp1 ⟨hj, ht⟩, aB1 ⟨hj, h5 d x hd x1 hj x2 ht x3⟩]
        · rw [tp0 (fun q => hj q.1), aB0 (fun q => hj q.1)]
      have hux : ∀ e, e < 2 * B → fe e = nI j → sN (aB fe (kk fl fs) j e) (2 * B) = i → e = x := by
        intro e he hj hr
        apply Classical.byContradiction
        intro hne
        by_cases ht : t e = 0
        · have : sN (tp fe t j) (2 * B) < sN (aB fe (kk fl fs) j e) (2 * B) := by
            apply sN_lt (j := x) (2 * B) _ x1
            · rw [tp0 (fun q => q.2 x3), aB1 ⟨x2, hah e he hj ht hne⟩]
              omega
            · intro d hd
              by_cases q : fe d = nI j ∧ ¬ t d = 0
              · rw [tp1 q, aB1 ⟨q.1, h5 d e hd he q.1 hj q.2 ht⟩]
                omega
              · rw [tp0 q]; omega
          omega
        · have : sN (aB fe (kk fl fs) j e) (2 * B) < sN (tp fe t j) (2 * B) := by
            apply sN_lt (j := e) (2 * B) _ he
            · rw [tp1 ⟨hj, ht⟩, aB0 (by omega)]
              omega
            · intro d hd
              by_cases q : fe d = nI j ∧ (kk fl fs e < kk fl fs d ∨ kk fl fs d = kk fl fs e ∧ d < e)
              · by_cases ht2 : t d = 0
                · have := h5 e d he hd hj q.1 ht ht2
                  omega
                · rw [tp1 ⟨q.1, ht2⟩, aB1 q]
                  omega
              · rw [aB0 q]; omega
          omega
      have hn := nS2 h v (by omega) x1 x2 hrx hux 1000 0 (by omega) (by omega)
      rw [← l0_] at hn w1
      obtain ⟨gx, sx⟩ := h6 x x1 x2
      have hz : zI (sg * (N x : Int)) + one = zI (sg * ((N x + 1 : Nat) : Int)) := by
        rw [hone, zI_add]
        congr 1
        rw [Int.natCast_add, Int.mul_add]
        omega
      obtain ⟨g', t', s', N', i1, i2, i3, i4⟩ := ih (i + 1) n1 n2 (upd g x (g x + one)) (upd t x 1) (upd s x (s x + one)) (fun d => if d = x then N d + 1 else N d) (by omega) (by omega) (by omega) (by
        have := sN_upd (f := tp fe t j) (g := tp fe (upd t x 1) j) (x := x) (2 * B) x1 (fun d hd hne => by
          unfold tp
          rw [pk_un hne])
        have e1 : tp fe t j x = 0 := by unfold tp; rw [if_neg (fun q => q.2 x3)]
        have e2 : tp fe (upd t x 1) j x = 1 := by unfold tp; rw [pk_us, if_pos ⟨x2, by decide⟩]
        omega) (by
        intro d d' hd hd' hj hj' ht ht'
        by_cases ed' : d' = x
        · subst ed'
          rw [pk_us] at ht'
          exact absurd ht' (by decide)
        · rw [pk_un ed'] at ht'
          by_cases ed : d = x
          · subst ed
            exact hah d' hd' hj' ht' ed'
          · rw [pk_un ed] at ht
            exact h5 d d' hd hd' hj hj' ht ht') (by
        intro d hd hj
        by_cases ed : d = x
        · subst ed
          rw [pk_us, pk_us, gx, sx, if_pos rfl, hz]
          exact ⟨rfl, rfl⟩
        · rw [pk_un ed, pk_un ed, if_neg ed]
          exact h6 d hd hj)
      refine ⟨g', t', s', N', ?_, ?_, i3, ?_⟩
      · rw [FBa_shareOut_L115.eq_2]
        unfold FBa_stiffestBare
        rw [w1, if_neg (show ¬ (20 : Int32) ≤ nI i from nI_ge (b := 20) (by omega) (by omega)), if_neg (by
          intro hh
          have := congrArg Int32.toInt hh
          rw [zI_toInt (by rcases hsg with rfl | rfl <;> omega) (by rcases hsg with rfl | rfl <;> omega), show (0 : Int32).toInt = 0 from by decide] at this
          rcases hsg with rfl | rfl <;> omega)]
        simp (disch := omega) only [b1_so2, lt_eq2, nI_gd, nI_clamp, nI_1]
        rw [if_pos (nI_pos' (by omega)), show vp_nar .boolean 1 = 1 from rfl, hone, zI_sub, show sg * ((q + 1 : Nat) : Int) - sg = sg * (q : Int) from by rw [Int.natCast_add, Int.mul_add]; omega, ← hone]
        exact i1
      · rw [FMo_sharesOf_L122.eq_2, if_neg (nI_nle (by omega) (by omega)), Mo_size]
        have e1 : ab (zI (sg * (R : Int))) = nI R := by
          apply Int32.toInt_inj.mp
          rw [ab_toInt (by rw [zI_toInt (by rcases hsg with rfl | rfl <;> omega) (by rcases hsg with rfl | rfl <;> omega)]; rcases hsg with rfl | rfl <;> omega), zI_toInt (by rcases hsg with rfl | rfl <;> omega) (by rcases hsg with rfl | rfl <;> omega), nI_toInt (by omega)]
          rcases hsg with rfl | rfl <;> split <;> omega
        unfold FMo_nextStiff
        rw [b1_so2, e1, pk_sub (by omega), show R - (q + 1) = i by omega, hn]
        simp (disch := omega) only [b1_so2, lt_eq2, nI_gd, nI_clamp, pk_m1]
        exact i2
      · rw [i4]
        have := sN_upd (f := at_ fe j N) (g := at_ fe j (fun d => if d = x then N d + 1 else N d)) (x := x) (2 * B) x1 (fun d hd hne => by
          unfold at_
          dsimp only
          rw [if_neg hne])
        have e1 : at_ fe j N x = N x := if_pos x2
        have e2 : at_ fe j (fun d => if d = x then N d + 1 else N d) x = N x + 1 := by
          unfold at_; dsimp only; rw [if_pos x2, if_pos rfl]
        omega
