/-! layer 2: sharing, the whole part -/
theorem zI0 : zI 0 = 0 := by decide
theorem nb0_ : vp_nar .boolean 0 = 0 := rfl
/-- the shares so far, of the first n ENDS -/
theorem sO31 {B : Nat} {fe be : Nat → Int32} {k : Nat → Nat} {j a V : Nat} {sg : Int} (hB : B ≤ 10) (hk : ∀ e, e < 2 * B → be e = nI (k e) ∧ k e ≤ 120) (hs : sg = 1 ∨ sg = -1) (hV : V ≤ 1000000000) (ha : 1 ≤ a) (ha2 : a ≤ 2400) (kf : Int32 → Int32 → (Nat → Int32) → (Nat → Int32) → Option ((Nat → Int32) × (Nat → Int32))) : ∀ (n e : Nat) (g t : Nat → Int32), e ≤ 2 * B → 2 * B - e < n → (∀ d, d < e → fe d = nI j → g d = zI (sg * ((V * k d / a : Nat) : Int)) ∧ t d = 0) → ∃ g' t' : Nat → Int32, FBa_shareOut_L31 be fe (nI B) (nI j) (nI a) (zL (sg * V)) kf n (zI (sg * ((V : Int) - (sN (at_ fe j (fun e => V * k e / a)) e : Nat)))) (nI e) g t = kf (zI (sg * ((V : Int) - (sN (at_ fe j (fun e => V * k e / a)) (2 * B) : Nat)))) (nI (2 * B)) g' t' ∧ (∀ d, d < 2 * B → fe d = nI j → g' d = zI (sg * ((V * k d / a : Nat) : Int)) ∧ t' d = 0) := by
  intro n
  induction n with
  | zero => intro e g t h1 h2; omega
  | succ n ih =>
    intro e g t h1 h2 h3
    rw [FBa_shareOut_L31.eq_2, l2_, pk_mul]
    by_cases he : e = 2 * B
    · subst he
      rw [if_pos (nI_le (Nat.le_refl _) (by omega))]
      exact ⟨g, t, rfl, h3⟩
    · have hlt : e < 2 * B := by omega
      obtain ⟨k1, k2⟩ := hk e hlt
      rw [if_neg (nI_ge hlt (by omega)), Fr_jointOf (by omega)]
      simp (disch := omega) only [b1_so2, lt_eq2, nI_gd, nI_clamp, nI_1, pk_us, nb0_, k1]
      have hd : ∀ {o : Option ((Nat → Int32) × (Nat → Int32))}, dl_ (nI a).toInt64 o = o := by
        intro o
        unfold dl_
        rw [if_neg]
        intro hh
        have := congrArg Int64.toInt hh
        rw [Int32.toInt_toInt64, nI_toInt (by omega), show (0 : Int64).toInt = 0 from by decide] at this
        omega
      have hsn : (sN (at_ fe j (fun e => V * k e / a)) (e + 1) : Nat) = sN (at_ fe j (fun e => V * k e / a)) e + at_ fe j (fun e => V * k e / a) e := rfl
      by_cases hj : fe e = nI j
      · rw [if_pos hj, hd, cell_v hs hV k2 ha ha2, zI_sub]
        have e1 : sg * ((V : Int) - (sN (at_ fe j (fun e => V * k e / a)) e : Nat)) - sg * ((V * k e / a : Nat) : Int) = sg * ((V : Int) - (sN (at_ fe j (fun e => V * k e / a)) (e + 1) : Nat)) := by
          rw [hsn, show at_ fe j (fun e => V * k e / a) e = V * k e / a from if_pos hj, ← Int.mul_sub]
          congr 1
          omega
        rw [e1]
        refine ih (e + 1) _ _ (by omega) (by omega) (fun d hd2 hjd => ?_)
        by_cases ed : d = e
        · subst ed; exact ⟨pk_us, pk_us⟩
        · rw [pk_un ed, pk_un ed]; exact h3 d (by omega) hjd
      · rw [if_neg hj]
        have e1 : (sN (at_ fe j (fun e => V * k e / a)) (e + 1) : Nat) = sN (at_ fe j (fun e => V * k e / a)) e := by
          rw [hsn, show at_ fe j (fun e => V * k e / a) e = 0 from if_neg hj]; rfl
        have := ih (e + 1) g t (by omega) (by omega) (fun d hd2 hjd => by
          by_cases ed : d = e
          · subst ed; exact absurd hjd hj
          · exact h3 d (by omega) hjd)
        rw [e1] at this
        exact this
theorem sO19 (kf : Int32 → (Nat → Int32) → Option (Nat → Int32)) : ∀ (n e : Nat) (s : Nat → Int32), e ≤ 20 → 20 - e < n → ∃ s' : Nat → Int32, FMo_sharesOf_L19 kf n (nI e) s = kf (nI 20) s' := by
  intro n
  induction n with
  | zero => intro e s h1 h2; omega
  | succ n ih =>
    intro e s h1 h2
    rw [FMo_sharesOf_L19.eq_2, show (20 : Int32) = nI 20 from rfl]
    by_cases he : e = 20
    · subst he
      rw [if_pos (nI_le (Nat.le_refl _) (by omega))]
      exact ⟨s, rfl⟩
    · rw [if_neg (nI_ge (by omega) (by omega))]
      simp (disch := omega) only [lt_eq2, nI_gd, nI_clamp, nI_1]
      exact ih (e + 1) _ (by omega) (by omega)
theorem sO43 {J B L : Nat} {fh fc fe fl fs fb fz fp m : Nat → Int32} (h : RF 0 J B L fh fc fe fl fs fb fz fp m) (v : VF J B L fh fc fe fl fs fb fz fp) {j a V : Nat} {sg : Int} {u : Int32} (hs : sg = 1 ∨ sg = -1) (hV : V ≤ 1000000000) (ha : 1 ≤ a) (ha2 : a ≤ 2400) (hu : u.toInt64 = zL (sg * V)) (kf : Int32 → Int32 → (Nat → Int32) → Option (Nat → Int32)) : ∀ (n e : Nat) (g : Nat → Int32), e ≤ 2 * B → 2 * B - e < n → (∀ d, d < e → fe d = nI j → g d = zI (sg * ((V * kk fl fs d / a : Nat) : Int))) → ∃ g' : Nat → Int32, FMo_sharesOf_L43 m (nI j) u (nI a) kf n (zI (sg * ((V : Int) - (sN (at_ fe j (fun e => V * kk fl fs e / a)) e : Nat)))) (nI e) g = kf (zI (sg * ((V : Int) - (sN (at_ fe j (fun e => V * kk fl fs e / a)) (2 * B) : Nat)))) (nI (2 * B)) g' ∧ (∀ d, d < 2 * B → fe d = nI j → g' d = zI (sg * ((V * kk fl fs d / a : Nat) : Int))) := by
  have hB := h.2.1
  intro n
  induction n with
  | zero => intro e g h1 h2; omega
  | succ n ih =>
    intro e g h1 h2 h3
    rw [FMo_sharesOf_L43.eq_2, Mo_beams h, l2_, b1_so2, pk_mul]
    by_cases he : e = 2 * B
    · subst he
      rw [if_pos (nI_le (Nat.le_refl _) (by omega))]
      exact ⟨g, rfl, h3⟩
    · have hlt : e < 2 * B := by omega
      obtain ⟨k1, -, k2⟩ := kk_e v hlt
      rw [if_neg (nI_ge hlt (by omega)), Mo_jointOf h hlt, Mo_stiffOf h v hlt, k1]
      simp (disch := omega) only [b1_so2, lt_eq2, nI_gd, nI_clamp, nI_1, pk_us, hu]
      have hd : ∀ {o : Option (Nat → Int32)}, dl_ (nI a).toInt64 o = o := by
        intro o
        unfold dl_
        rw [if_neg]
        intro hh
        have := congrArg Int64.toInt hh
        rw [Int32.toInt_toInt64, nI_toInt (by omega), show (0 : Int64).toInt = 0 from by decide] at this
        omega
      have hsn : (sN (at_ fe j (fun e => V * kk fl fs e / a)) (e + 1) : Nat) = sN (at_ fe j (fun e => V * kk fl fs e / a)) e + at_ fe j (fun e => V * kk fl fs e / a) e := rfl
      by_cases hj : fe e = nI j
      · rw [if_pos hj, hd, cell_v hs hV k2 ha ha2, zI_sub]
        have e1 : sg * ((V : Int) - (sN (at_ fe j (fun e => V * kk fl fs e / a)) e : Nat)) - sg * ((V * kk fl fs e / a : Nat) : Int) = sg * ((V : Int) - (sN (at_ fe j (fun e => V * kk fl fs e / a)) (e + 1) : Nat)) := by
          rw [hsn, show at_ fe j (fun e => V * kk fl fs e / a) e = V * kk fl fs e / a from if_pos hj, ← Int.mul_sub]
          congr 1
          omega
        rw [e1]
        refine ih (e + 1) _ (by omega) (by omega) (fun d hd2 hjd => ?_)
        by_cases ed : d = e
        · subst ed; exact pk_us
        · rw [pk_un ed]; exact h3 d (by omega) hjd
      · rw [if_neg hj]
        have e1 : (sN (at_ fe j (fun e => V * kk fl fs e / a)) (e + 1) : Nat) = sN (at_ fe j (fun e => V * kk fl fs e / a)) e := by
          rw [hsn, show at_ fe j (fun e => V * kk fl fs e / a) e = 0 from if_neg hj]; rfl
        have := ih (e + 1) g (by omega) (by omega) (fun d hd2 hjd => by
          by_cases ed : d = e
          · subst ed; exact absurd hjd hj
          · exact h3 d (by omega) hjd)
        rw [e1] at this
        exact this
