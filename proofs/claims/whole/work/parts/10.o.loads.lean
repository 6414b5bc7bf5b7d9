/-! layer 2: STIFF, LOADS -/
theorem GF_stiffen {J B L : Nat} {fh fc fe fl fs fb fz fp m : Nat → Int32} (g : GF 0 J B L fh fc fe fl fs fb fz fp m) {b v : Nat} (hb : b < B) (h1 : 1 ≤ v) (h2 : v ≤ 10) : GF 0 J B L fh fc fe fl (upd fs b (nI v)) fb fz fp (upd m (42 + b) (nI v)) := by
  obtain ⟨⟨a1, a2, a3, a4, a5, a6, a7, a8, a9⟩, ⟨b1, b2, b3, b4, b5, b6, b7⟩, c1⟩ := g
  refine ⟨⟨a1, a2, a3, ?_, ?_, ?_, fun i hi => ?_, fun i hi => ?_, fun i hi => ?_⟩, ⟨b1, b2, b3, b4, b5, fun i hi => ?_, b7⟩, c1⟩
  · rw [pk_un (by omega), a4]
  · rw [pk_un (by omega), a5]
  · rw [pk_un (by omega), a6]
  · rw [pk_un (by omega), pk_un (by omega)]
    exact a7 i hi
  · have := a8 i hi
    rw [pk_un (k := 42 + b) (j := 0 + 12 + i) (by omega), pk_un (k := 42 + b) (j := 0 + 22 + i) (by omega), pk_un (k := 42 + b) (j := 0 + 32 + i) (by omega)]
    refine ⟨this.1, this.2.1, this.2.2.1, ?_⟩
    by_cases e : i = b
    · subst e; rw [Nat.zero_add, pk_us, pk_us]
    · rw [pk_un (by omega), pk_un e]; exact this.2.2.2
  · rw [pk_un (by omega), pk_un (by omega), pk_un (by omega)]
    exact a9 i hi
  · by_cases e : i = b
    · subst e; rw [pk_us]; exact ⟨v, rfl, h1, h2⟩
    · rw [pk_un e]; exact b6 i hi
theorem Jm_stiffen {J B L : Nat} {fh fc fe fl fs fb fz fp m mo ms bm be bo bn bk bs : Nat → Int32} {mst mla bst bla : Int32} (g : GF 0 J B L fh fc fe fl fs fb fz fp m) (b : BI J B fc fe fl fs mo ms mst mla bm be bo bn bk bs bst bla) (a c : Int32) : ∃ (r : Int32) (bm' be' bo' bn' bk' bs' fs' m' mo' ms' : Nat → Int32) (bst' bla' mst' mla' : Int32), FJm_stiffen bm be bo bn bk bs bst bla fc fe fl fs fb fz fp (nI B) (nI L) a c = some (r, bm', be', bo', bn', bk', bs', bst', bla', fs') ∧ FMo_stiffen m mo ms mst mla a c = some (r, m', mo', ms', mst', mla') ∧ GF 0 J B L fh fc fe fl fs' fb fz fp m' ∧ BI J B fc fe fl fs' mo' ms' mst' mla' bm' be' bo' bn' bk' bs' bst' bla' ∧ pg m m' := by
  have hB := g.1.2.1
  unfold FJm_stiffen FMo_stiffen
  rcases isBeam_c (J := B) (by omega) (Mo_beams g.1) a with ⟨j, hj, rfl, e1, e2⟩ | ⟨e1, e2⟩
  · rw [e1, e2]
    rcases rc_cases 1 10 (by omega) (by omega) c 1 10 (by decide) (by decide) with ⟨k, h1, h2, rfl, e3⟩ | ⟨e3, h1⟩
    · rw [e3]
      have g' := GF_stiffen g hj h1 h2
      obtain ⟨bm', be', bo', bn', bk', bs', mo', ms', h3, h4, h5⟩ := anew_BI g'.1 g'.2.1 bm be bo bn bk bs mo ms mst
      have q1 : (nI k < 1) = False := eq_false (nI_nlt (b := 1) (by omega) (by omega))
      have q2 : (nI k ≤ 10) = True := eq_true (nI_le (b := 10) (by omega) (by omega))
      have q3 : m (42 + j) = fs j := by
        have := (g.1.2.2.2.2.2.2.2.1 j hj).2.2.2
        rw [Nat.zero_add] at this
        exact this
      simp (disch := omega) only [b1_some, n10_, if_false, if_true, q1, q2, l42_, nI_add, nI_gd, nI_clamp, lt_eq, h3, h4, q3]
      exact ⟨_, _, _, _, _, _, _, _, _, _, _, _, _, _, _, rfl, rfl, g', h5, fun i hi _ => pk_un (by omega)⟩
    · rw [e3]
      dsimp only [b1_some]
      simp only [n10_, if_false, if_true]
      by_cases h2 : c < 1
      · rw [if_pos h2]
        exact ⟨_, _, _, _, _, _, _, _, _, _, _, _, _, _, _, rfl, rfl, g, b, fun i _ _ => rfl⟩
      · have h3 := h1.resolve_left h2
        rw [if_neg h2, if_neg (by rw [Int32.not_le]; exact h3)]
        exact ⟨_, _, _, _, _, _, _, _, _, _, _, _, _, _, _, rfl, rfl, g, b, fun i _ _ => rfl⟩
  · rw [e1, e2]
    exact ⟨_, _, _, _, _, _, _, _, _, _, _, _, _, _, _, rfl, rfl, g, b, fun i _ _ => rfl⟩
/-- a LOAD more -/
theorem GF_put {J B L : Nat} {fh fc fe fl fs fb fz fp m : Nat → Int32} (g : GF 0 J B L fh fc fe fl fs fb fz fp m) (hL : L < 8) {b z a k : Nat} (hb : b < B) (hk : fl b = nI k) (hk2 : k ≤ 12) (ha : a < k) (h1 : 1 ≤ z) (h2 : z ≤ 99 ∨ 0 < a ∧ z ≤ 999) : GF 0 J B (L + 1) fh fc fe fl fs (upd fb L (nI b)) (upd fz L (nI z)) (upd fp L (nI a)) (upd (upd (upd (upd m (52 + L) (nI b)) (60 + L) (nI z)) (68 + L) (nI a)) 78 (nI (L + 1))) := by
  obtain ⟨⟨a1, a2, a3, a4, a5, a6, a7, a8, a9⟩, ⟨b1, b2, b3, b4, b5, b6, b7⟩, c1⟩ := g
  have hu : ∀ y, y ≠ 52 + L → y ≠ 60 + L → y ≠ 68 + L → y ≠ 78 → upd (upd (upd (upd m (52 + L) (nI b)) (60 + L) (nI z)) (68 + L) (nI a)) 78 (nI (L + 1)) y = m y := by
    intro y q1 q2 q3 q4
    rw [pk_un q4, pk_un q3, pk_un q2, pk_un q1]
  refine ⟨⟨a1, a2, by omega, ?_, ?_, ?_, fun i hi => ?_, fun i hi => ?_, fun i hi => ?_⟩, ⟨b1, b2, b3, b4, b5, b6, fun i hi => ?_⟩, c1⟩
  · rw [hu _ (by omega) (by omega) (by omega) (by omega), a4]
  · rw [hu _ (by omega) (by omega) (by omega) (by omega), a5]
  · exact pk_us
  · rw [hu _ (by omega) (by omega) (by omega) (by omega), hu _ (by omega) (by omega) (by omega) (by omega)]
    exact a7 i hi
  · rw [hu _ (by omega) (by omega) (by omega) (by omega), hu _ (by omega) (by omega) (by omega) (by omega), hu _ (by omega) (by omega) (by omega) (by omega), hu _ (by omega) (by omega) (by omega) (by omega)]
    exact a8 i hi
  · by_cases e : i = L
    · subst e
      rw [pk_us, pk_us, pk_us]
      refine ⟨?_, ?_, ?_⟩
      · rw [pk_un (by omega), pk_un (by omega), pk_un (by omega), Nat.zero_add, pk_us]
      · rw [pk_un (by omega), pk_un (by omega), Nat.zero_add, pk_us]
      · rw [pk_un (by omega), Nat.zero_add, pk_us]
    · rw [pk_un e, pk_un e, pk_un e, hu _ (by omega) (by omega) (by omega) (by omega), hu _ (by omega) (by omega) (by omega) (by omega), hu _ (by omega) (by omega) (by omega) (by omega)]
      exact a9 i (by omega)
  · by_cases e : i = L
    · subst e
      rw [pk_us, pk_us, pk_us]
      exact ⟨b, z, a, k, rfl, hb, rfl, rfl, hk, ⟨ha, hk2⟩, h1, h2⟩
    · rw [pk_un e, pk_un e, pk_un e]
      exact b7 i (by omega)
theorem Fr_addLoad {L : Nat} (hL : L < 8) (fb fz fp : Nat → Int32) (x y z : Int32) : FFr_addLoad fb fz fp (nI L) x y z = some (upd fb L x, upd fz L y, upd fp L z, nI (L + 1)) := by
  unfold FFr_addLoad
  rw [if_neg (show ¬ (8 : Int32) ≤ nI L from nI_ge (b := 8) hL (by omega))]
  simp (disch := omega) only [nI_gd, nI_clamp, lt_eq, nI_1]
theorem Mo_puts {J B L : Nat} {fh fc fe fl fs fb fz fp m : Nat → Int32} (h : RF 0 J B L fh fc fe fl fs fb fz fp m) (hL : L < 8) (x y z : Int32) : FMo_puts m x y z = some (upd (upd (upd (upd m (52 + L) x) (60 + L) y) (68 + L) z) 78 (nI (L + 1))) := by
  unfold FMo_puts
  rw [Mo_loads h]
  simp (disch := omega) only [b1_some, l52_, l60_, l68_, show (78 : Int32) = nI 78 from rfl, nI_add, nI_gd, nI_clamp, lt_eq]
  rw [pk_un (show 78 ≠ 68 + L by omega), pk_un (show 78 ≠ 60 + L by omega), pk_un (show 78 ≠ 52 + L by omega)]
  have : m 78 = nI L := by rw [← h.2.2.2.2.2.1]
  rw [this, nI_1]
theorem Jm_put {J B L : Nat} {fh fc fe fl fs fb fz fp m mo ms bm be bo bn bk bs : Nat → Int32} {mst mla bst bla : Int32} (g : GF 0 J B L fh fc fe fl fs fb fz fp m) (b : BI J B fc fe fl fs mo ms mst mla bm be bo bn bk bs bst bla) (a p c : Int32) : ∃ (r : Int32) (L' : Nat) (bm' be' bo' bn' bk' bs' fb' fz' fp' m' mo' ms' : Nat → Int32) (bst' bla' mst' mla' : Int32), FJm_put bm be bo bn bk bs bst bla fc fe fl fs fb fz fp (nI B) (nI L) a p c = some (r, bm', be', bo', bn', bk', bs', bst', bla', fb', fz', fp', nI L') ∧ FMo_put m mo ms mst mla a p c = some (r, m', mo', ms', mst', mla') ∧ GF 0 J B L' fh fc fe fl fs fb' fz' fp' m' ∧ BI J B fc fe fl fs mo' ms' mst' mla' bm' be' bo' bn' bk' bs' bst' bla' ∧ pg m m' := by
  have hB := g.1.2.1
  have hL8 := g.1.2.2.1
  have hno : ∀ r : Int32, ∃ (r' : Int32) (L' : Nat) (bm' be' bo' bn' bk' bs' fb' fz' fp' m' mo' ms' : Nat → Int32) (bst' bla' mst' mla' : Int32), some (r, bm, be, bo, bn, bk, bs, bst, bla, fb, fz, fp, nI L) = some (r', bm', be', bo', bn', bk', bs', bst', bla', fb', fz', fp', nI L') ∧ some (r, m, mo, ms, mst, mla) = some (r', m', mo', ms', mst', mla') ∧ GF 0 J B L' fh fc fe fl fs fb' fz' fp' m' ∧ BI J B fc fe fl fs mo' ms' mst' mla' bm' be' bo' bn' bk' bs' bst' bla' ∧ pg m m' := fun r => ⟨r, L, bm, be, bo, bn, bk, bs, fb, fz, fp, m, mo, ms, bst, bla, mst, mla, rfl, rfl, g, b, fun i _ _ => rfl⟩
  unfold FJm_put FMo_put
  rcases isBeam_c (J := B) (by omega) (Mo_beams g.1) a with ⟨j, hj, rfl, e1, e2⟩ | ⟨e1, e2⟩
  · rw [e1, e2]
    obtain ⟨k, hk, hk2⟩ := g.2.1.2.2.2.2.1 j hj
    have hk3 := len_b hk2
    have q3 : m (32 + j) = nI k := by
      have := (g.1.2.2.2.2.2.2.2.1 j hj).2.2.1
      rw [Nat.zero_add] at this
      rw [this, hk]
    have c1 := nI_clamp (n := j) (by omega)
    have c2 := nI_clamp (n := 32 + j) (by omega)
    have c10 : ∀ {α : Type} {k : Option α}, gd_ (nI j) 10 k = k := fun {α k} => nI_gd (by omega) (by omega)
    have c395 : ∀ {α : Type} {k : Option α}, gd_ (nI (32 + j)) 395 k = k := fun {α k} => nI_gd (by omega) (by omega)
    dsimp only [lt_, b1_some]
    simp only [n10_, if_false, l32_, nI_add, c10, c395, c1, c2, q3, hk]
    rcases rg_cases k (by omega) c with ⟨x, h1, rfl, e3, h4, h5⟩ | ⟨e3, h4⟩
    · rw [e3, if_neg h4, if_pos (nI_lt h1 (by omega))]
      dsimp only [b1_some]
      simp only [n10_, if_false]
      have key : ∀ (u : Nat) (w : Int64), w.toInt = u → (u = 99 ∨ u = 999) → (u = 999 → 0 < x) → ∃ (r : Int32) (L' : Nat) (bm' be' bo' bn' bk' bs' fb' fz' fp' m' mo' ms' : Nat → Int32) (bst' bla' mst' mla' : Int32), (if p < 1 then some ((-1 : Int32), bm, be, bo, bn, bk, bs, bst, bla, fb, fz, fp, nI L) else if p ≤ nI u then
              if nI L < (8 : Int32) then
                b4_ (FFr_addLoad fb fz fp (nI L) (nI j) p (nI x)) fun w12 w13 w14 w15 =>
                b8_ (FBa_anew bm be bo bn bk bs fc fe fl fs w12 w13 w14 (nI B) w15) fun w18 w19 w20 w21 w22 w23 w24 w25 =>
                some (w15, w18, w19, w20, w21, w22, w23, w24, w25, w12, w13, w14, w15)
              else
                some ((-3 : Int32), bm, be, bo, bn, bk, bs, bst, bla, fb, fz, fp, nI L)
            else
              some ((-1 : Int32), bm, be, bo, bn, bk, bs, bst, bla, fb, fz, fp, nI L)) = some (r, bm', be', bo', bn', bk', bs', bst', bla', fb', fz', fp', nI L') ∧ (b1_ (FMo_in (p.toInt64) (1 : Int64) w) fun r11 =>
        if r11 = 0 then
          some ((-1 : Int32), m, mo, ms, mst, mla)
        else
          b1_ (FMo_loads m) fun r15 =>
          if r15 = (8 : Int32) then
            some ((-3 : Int32), m, mo, ms, mst, mla)
          else
            b1_ (FMo_puts m (nI j) p (nI x)) fun w19 =>
            b5_ (FMo_begins w19 mo ms mst) fun r22 w23 w24 w25 w26 =>
            b1_ (FMo_loads w19) fun r29 =>
            some (r29, w19, w23, w24, w25, w26)) = some (r, m', mo', ms', mst', mla') ∧ GF 0 J B L' fh fc fe fl fs fb' fz' fp' m' ∧ BI J B fc fe fl fs mo' ms' mst' mla' bm' be' bo' bn' bk' bs' bst' bla' ∧ pg m m' := by
        intro u w hw hu hx
        rcases rc_cases 1 u (by omega) (by omega) p 1 w (by decide) hw with ⟨z, h6, h7, rfl, e4⟩ | ⟨e4, h6⟩
        · rw [e4, if_neg (show ¬ nI z < 1 from nI_nlt (b := 1) (by omega) (by omega)), if_pos (nI_le h7 (by omega)), Mo_loads g.1]
          dsimp only [b1_some]
          rw [if_neg (c := (1 : Int32) = 0) (by decide)]
          by_cases h8 : L = 8
          · rw [if_neg (show ¬ nI L < 8 from nI_nlt (b := 8) (by omega) (by omega)), if_pos (by rw [h8]; rfl)]
            exact hno (-3)
          · rw [if_pos (show nI L < 8 from nI_lt (b := 8) (by omega) (by omega)), if_neg (show ¬ nI L = 8 from fun q => h8 ((nI_eq (b := 8) (by omega) (by omega)).mp q)), Fr_addLoad (by omega), Mo_puts g.1 (by omega)]
            have g' := GF_put g (by omega) hj hk hk3.2 h1 h6 (a := x) (z := z) (by omega)
            obtain ⟨bm', be', bo', bn', bk', bs', mo', ms', h9, h10, h11⟩ := anew_BI g'.1 g'.2.1 bm be bo bn bk bs mo ms mst
            refine ⟨nI (L + 1), L + 1, bm', be', bo', bn', bk', bs', _, _, _, _, mo', ms', 0, -4, 0, -4, ?_, ?_, g', h11, fun i hi _ => ?_⟩
            · show b8_ (FBa_anew bm be bo bn bk bs fc fe fl fs _ _ _ (nI B) (nI (L + 1))) _ = _
              rw [h9]; rfl
            · dsimp only [b1_some]
              rw [h10, Mo_loads g'.1]; rfl
            · rw [pk_un (by omega), pk_un (by omega), pk_un (by omega), pk_un (by omega)]
        · rw [e4]
          dsimp only [b1_some]
          simp only [if_true]
          by_cases h7 : p < 1
          · rw [if_pos h7]; exact hno (-1)
          · rw [if_neg h7, if_neg (by rw [Int32.not_le]; exact h6.resolve_left h7)]; exact hno (-1)
      by_cases hx : x = 0
      · subst hx
        rw [if_pos (show nI 0 = 0 from rfl), if_pos (show nI 0 = 0 from rfl)]
        exact key 99 99 (by decide) (by omega) (by omega)
      · have hx2 : ¬ nI x = 0 := nI_ne0 (by omega) (by omega)
        rw [if_neg hx2, if_neg hx2]
        exact key 999 999 (by decide) (by omega) (by omega)
    · rw [e3]
      dsimp only [b1_some]
      simp only [if_true]
      by_cases h5 : c < 0
      · rw [if_pos h5]; exact hno (-1)
      · rw [if_neg h5, if_neg (by rw [Int32.not_lt]; exact h4.resolve_left h5)]; exact hno (-1)
  · rw [e1, e2]
    exact hno (-1)
