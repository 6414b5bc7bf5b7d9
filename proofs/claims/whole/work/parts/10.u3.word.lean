/-! layer 2: the NAMES -/
def enN (i : Nat) : Nat := [0, 4, 8, 12, 17, 20].getD i 0
def leN (i : Nat) : Nat := [116, 117, 114, 110, 104, 111, 108, 100, 98, 101, 97, 109, 112, 111, 105, 110, 116, 97, 108, 108].getD i 0
def EL (me ml : Nat → Int32) : Prop := (∀ i, i < 6 → me i = nI (enN i)) ∧ (∀ i, i < 20 → ml i = nI (leN i))
theorem sch_e : ∀ i : Nat, i < 5 → ∀ k : Nat, k < slen.getD i 0 → sch i k = nI (leN (enN i + k)) ∧ enN i + k < 20 := by decide +kernel
theorem slen_e : ∀ i : Nat, i < 5 → slen.getD i 0 = enN (i + 1) - enN i ∧ enN i ≤ enN (i + 1) ∧ slen.getD i 0 ≤ 5 ∧ enN (i + 1) ≤ 20 := by decide +kernel
theorem leN_b : ∀ i : Nat, i < 20 → leN i < 128 := by decide +kernel
/-- whether the bytes from q on are a word's, from its k-th on -/
theorem word_s {n : Nat} {T : Nat → Nat} {pb mt me ml : Nat → Int32} (h : TT n T pb mt) (el : EL me ml) {si q q' : Nat} (hsi : si < 5) (hq : q ≤ q') (hq' : q' ≤ n) (hlen : q' - q = slen.getD si 0) (k : Int32 → Int32 → Option Int32) : ∀ (f x : Nat), x ≤ slen.getD si 0 → slen.getD si 0 - x < f → ∃ (r : Int32) (y : Int32), (r = 0 ∨ r = 1) ∧ FTe_isWord_L20 si (nI q) pb f (nI x) = some r ∧ FMo_nameHere_L50 mt (nI n) (nI q') (nI q) me ml (nI si) k (f + 1) 1 (nI x) = k r y := by
  have hn := h.1
  obtain ⟨s1, s2, s3, s4⟩ := slen_e si hsi
  intro f
  induction f with
  | zero => intro x h1 h2; omega
  | succ f ih =>
    intro x h1 h2
    rw [FTe_isWord_L20.eq_2, FMo_nameHere_L50.eq_2, if_neg (c := (1 : Int32) = 0) (by decide), pk_sub hq, hlen]
    by_cases hx : x = slen.getD si 0
    · subst hx
      rw [if_pos (show Int32.ofNat (slen.getD si 0) ≤ nI (slen.getD si 0) from nI_le (Nat.le_refl _) (by omega)), if_pos (nI_le (Nat.le_refl _) (by omega))]
      exact ⟨1, _, Or.inr rfl, rfl, rfl⟩
    · obtain ⟨c1, c2⟩ := sch_e si hsi x (by omega)
      have hl : q + x < n := by omega
      obtain ⟨b1, b2, b3⟩ := h.2 (q + x) hl
      have hlb := leN_b (enN si + x) c2
      rw [if_neg (show ¬ Int32.ofNat (slen.getD si 0) ≤ nI x from nI_ge (by omega) (by omega)), if_neg (nI_ge (by omega) (by omega)), nI_add, byteAt_e h (by omega), if_pos hl, b1_so2, nI_gd (by omega) (by omega), nI_gd (by omega) (by omega), nI_gd (by omega) (by omega), nI_clamp (by omega), nI_clamp (by omega), nI_clamp (by omega), el.1 si (by omega), nI_add, nI_gd (by omega) (by omega), nI_clamp (by omega), el.2 _ c2, b1, c1]
      by_cases hm : T (q + x) = leN (enN si + x)
      · rw [if_pos (by rw [hm]), if_pos (by rw [hm]), lt_eq2, lt_eq2, nI_1]
        exact ih (x + 1) (by omega) (by omega)
      · have hm2 : ¬ nI (T (q + x)) = nI (leN (enN si + x)) := by rw [nI_eq (by omega) (by omega)]; exact hm
        rw [if_neg hm2, if_neg hm2, lt_eq2, FMo_nameHere_L50.eq_2, if_pos rfl]
        exact ⟨0, _, Or.inl rfl, rfl, rfl⟩
/-- class and reference on word si -/
theorem word_e {n : Nat} {T : Nat → Nat} {pb mt me ml : Nat → Int32} (h : TT n T pb mt) (el : EL me ml) {si q q' : Nat} (hsi : si < 5) (hq : q ≤ q') (hq' : q' ≤ n) : ∃ r : Int32, (r = 0 ∨ r = 1) ∧ FTe_isWord (nI q) (nI q') pb si = some r ∧ ∀ f : Nat, FMo_nameHere_L2 mt (nI n) (nI q') (nI q) 1 me ml (f + 1) (nI si) = if r = 0 then FMo_nameHere_L2 mt (nI n) (nI q') (nI q) 1 me ml f (nI (si + 1)) else some (nI si) := by
  have hn := h.1
  obtain ⟨s1, s2, s3, s4⟩ := slen_e si hsi
  have key : ∀ f : Nat, FMo_nameHere_L2 mt (nI n) (nI q') (nI q) 1 me ml (f + 1) (nI si) = FMo_nameHere_L50 mt (nI n) (nI q') (nI q) me ml (nI si) (fun (v17 : Int32) (v18 : Int32) => if v17 = 0 then FMo_nameHere_L2 mt (nI n) (nI q') (nI q) 1 me ml f (nI (si + 1)) else some (nI si)) 1000 (if q' - q = slen.getD si 0 then 1 else 0) 0 := by
    intro f
    rw [FMo_nameHere_L2.eq_2, if_neg (show ¬ (5 : Int32) ≤ nI si from nI_ge (b := 5) hsi (by omega)), if_pos rfl, nI_1, nI_gd (by omega) (by omega), nI_gd (by omega) (by omega), lt_eq2, nI_clamp (by omega), nI_clamp (by omega), el.1 si (by omega), el.1 (si + 1) (by omega), pk_sub hq, pk_sub s2, ← s1]
    simp only [lt_eq2]
    by_cases hl : q' - q = slen.getD si 0
    · rw [if_pos (by rw [hl]), if_pos hl]
    · rw [if_neg (by rw [nI_eq (by omega) (by omega)]; exact hl), if_neg hl]
  by_cases hl : q' - q = slen.getD si 0
  · have hw := fun f => word_s h el hsi hq hq' hl (fun (v17 : Int32) (v18 : Int32) => if v17 = 0 then FMo_nameHere_L2 mt (nI n) (nI q') (nI q) 1 me ml f (nI (si + 1)) else some (nI si)) 999 0 (by omega) (by omega)
    obtain ⟨r, y, r1, r2, r3⟩ := word_s h el hsi hq hq' hl (fun _ _ => none) 1000 0 (by omega) (by omega)
    refine ⟨r, r1, ?_, fun f => ?_⟩
    · unfold FTe_isWord
      rw [pk_sub hq, if_pos (show nI (q' - q) = Int32.ofNat (slen.getD si 0) from by rw [hl]; rfl)]
      exact r2
    · obtain ⟨r', y', w1, w2, w3⟩ := hw f
      rw [key f, if_pos hl]
      have e : r' = r := by
        have h2 : ∀ (a b x : Nat), a ≤ b → ∀ z : Int32, FTe_isWord_L20 si (nI q) pb a (nI x) = some z → FTe_isWord_L20 si (nI q) pb b (nI x) = some z := by
          intro a
          induction a with
          | zero => intro b x hab z hz; exact absurd hz (by intro q; cases q)
          | succ a iha =>
            intro b x hab z hz
            obtain ⟨b, rfl⟩ : ∃ b', b = b' + 1 := ⟨b - 1, by omega⟩
            rw [FTe_isWord_L20.eq_2] at hz ⊢
            by_cases c1 : Int32.ofNat (slen.getD si 0) ≤ nI x
            · rw [if_pos c1] at hz ⊢; exact hz
            · rw [if_neg c1] at hz ⊢
              unfold gd_ at hz ⊢
              by_cases c2 : (nI q + nI x < 0 ∨ 320 ≤ (nI q + nI x).toNatClampNeg)
              · rw [if_pos c2] at hz; exact absurd hz (by intro q; cases q)
              · rw [if_neg c2] at hz ⊢
                by_cases c3 : (nI x < 0 ∨ slen.getD si 0 ≤ (nI x).toNatClampNeg)
                · rw [if_pos c3] at hz; exact absurd hz (by intro q; cases q)
                · rw [if_neg c3] at hz ⊢
                  by_cases c4 : pb (nI q + nI x).toNatClampNeg = sch si (nI x).toNatClampNeg
                  · rw [if_pos c4, lt_eq2, nI_1] at hz ⊢
                    exact iha b (x + 1) (by omega) z hz
                  · rw [if_neg c4] at hz ⊢; exact hz
        have h3 := h2 999 1000 0 (by omega) r' w2
        rw [r2] at h3
        exact (Option.some.inj h3).symm
      rw [← e]
      exact w3
  · refine ⟨0, Or.inl rfl, ?_, fun f => ?_⟩
    · unfold FTe_isWord
      rw [pk_sub hq, if_neg (show ¬ nI (q' - q) = Int32.ofNat (slen.getD si 0) from (show ¬ nI (q' - q) = nI (slen.getD si 0) by rw [nI_eq (by omega) (by omega)]; exact hl))]
    · rw [key f, if_neg hl, show (1000 : Nat) = 999 + 1 from rfl, FMo_nameHere_L50.eq_2, if_pos rfl]
