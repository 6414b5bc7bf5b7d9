/-! layer 2: THE TAPE, SHEETS -/
def TA (pb mt : Nat → Int32) (ps mp : Int32) : Prop := ∃ n : Nat, n ≤ 320 ∧ ps = nI n ∧ mp = nI n ∧ ∀ i, i < n → ∃ c : Nat, c < 128 ∧ pb i = nI c ∧ mt i = nI c
theorem byte_n : ∀ c : Nat, c < 128 → vp_nar .byte ((nI c).toInt8.toInt32) = nI c := by decide +kernel
theorem Jm_feed {pb mt : Nat → Int32} {ps mp : Int32} (t : TA pb mt ps mp) (a : Int32) : ∃ (r : Int32) (pb' mt' : Nat → Int32) (ps' mp' : Int32), FJm_feed pb ps a = some (r, pb', ps') ∧ FMo_feed mt mp a = some (r, mt', mp') ∧ TA pb' mt' ps' mp' := by
  have t0 := t
  obtain ⟨n, hn, rfl, rfl, hb⟩ := t
  unfold FJm_feed FMo_feed
  rcases rc_cases 0 127 (by omega) (by omega) a 0 127 (by decide) (by decide) with ⟨c, h1, h2, rfl, e3⟩ | ⟨e3, h1⟩
  · rw [e3, b1_so2, if_neg (c := (1 : Int32) = 0) (by decide), if_neg (nI_pos (by omega)), if_pos (show nI c ≤ 127 from nI_le (b := 127) h2 (by omega))]
    by_cases h3 : n = 320
    · subst h3
      rw [if_neg (show ¬ nI 320 < 320 by decide), if_pos (show nI 320 = 320 from rfl)]
      exact ⟨_, _, _, _, _, rfl, rfl, t0⟩
    · rw [if_pos (show nI n < 320 from nI_lt (b := 320) (by omega) (by omega)), if_neg (show ¬ nI n = 320 from fun q => h3 ((nI_eq (b := 320) (by omega) (by omega)).mp q))]
      unfold FTa_append
      rw [if_neg (show ¬ (320 : Int32) ≤ nI n from nI_ge (b := 320) (by omega) (by omega))]
      simp (disch := omega) only [nI_gd, nI_clamp, lt_eq2, b2_so2, nI_1, byte_n c (by omega)]
      refine ⟨_, _, _, _, _, rfl, rfl, n + 1, by omega, rfl, rfl, fun i hi => ?_⟩
      by_cases e : i = n
      · subst e
        exact ⟨c, by omega, pk_us, pk_us⟩
      · rw [pk_un e, pk_un e]
        exact hb i (by omega)
  · rw [e3, b1_so2, if_pos rfl]
    by_cases h2 : a < 0
    · rw [if_pos h2]
      exact ⟨_, _, _, _, _, rfl, rfl, t0⟩
    · rw [if_neg h2, if_neg (by rw [Int32.not_le]; exact h1.resolve_left h2)]
      exact ⟨_, _, _, _, _, rfl, rfl, t0⟩
theorem Jm_end {pb mt : Nat → Int32} {ps mp : Int32} (t : TA pb mt ps mp) (a : Int32) : ∃ (r : Int32) (ps' mp' : Int32), FJm_end ps a = some (r, ps') ∧ FMo_end mp a = some (r, mp') ∧ TA pb mt ps' mp' := by
  have t0 := t
  obtain ⟨n, hn, rfl, rfl, hb⟩ := t
  unfold FJm_end FMo_end
  rw [Mo_in64, Int32.toInt_toInt64, Int32.toInt_toInt64, nI_toInt (by omega), show (0 : Int64).toInt = 0 from by decide, b1_so2]
  by_cases h1 : a < 0
  · have h2 := lt0_toInt h1
    rw [if_pos h1, if_neg (c := 0 ≤ a.toInt ∧ a.toInt ≤ (n : Int)) (by omega), if_pos rfl]
    exact ⟨_, _, _, rfl, rfl, t0⟩
  · obtain ⟨k, hk, rfl⟩ := nI_of h1
    rw [if_neg h1, nI_toInt (by omega)]
    by_cases h3 : k ≤ n
    · rw [if_pos (nI_le h3 (by omega)), if_pos (c := 0 ≤ (k : Int) ∧ (k : Int) ≤ (n : Int)) (by omega), if_neg (by decide)]
      exact ⟨_, _, _, rfl, rfl, k, by omega, rfl, rfl, fun i hi => hb i (by omega)⟩
    · rw [if_neg (nI_ge (by omega) (by omega)), if_neg (c := 0 ≤ (k : Int) ∧ (k : Int) ≤ (n : Int)) (by omega), if_pos rfl]
      exact ⟨_, _, _, rfl, rfl, t0⟩
/-- SHEET k -/
def SH (k : Nat) (hc : Nat → Int32) (hl hs : Int32) (ml mg mc : Nat → Int32) : Prop := (∀ i, i < 40 → mc (40 * k + i) = hc i) ∧ ((hs < 0 ∧ ml k = -4) ∨ ∃ l n : Nat, l ≤ 2 ∧ n ≤ 40 ∧ hl = nI l ∧ hs = nI n ∧ ml k = nI l ∧ mg k = nI n)
theorem SH_keep {k : Nat} {hc : Nat → Int32} {hl hs : Int32} {ml mg mc ml' mg' mc' : Nat → Int32} (h : SH k hc hl hs ml mg mc) (h1 : ml' k = ml k) (h2 : mg' k = mg k) (h3 : ∀ i, i < 40 → mc' (40 * k + i) = mc (40 * k + i)) : SH k hc hl hs ml' mg' mc' := by
  refine ⟨fun i hi => by rw [h3 i hi, h.1 i hi], ?_⟩
  rw [h1, h2]
  exact h.2
theorem renew_s (l s : Int32) : ∀ (n i : Nat) (hc : Nat → Int32), i ≤ 40 → 40 - i < n → (∀ x, x < i → hc x = 0) → ∃ hc' : Nat → Int32, FSh_renew_L12 l s n (nI i) hc = some (hc', l, s) ∧ ∀ x, x < 40 → hc' x = 0 := by
  intro n
  induction n with
  | zero => intro i hc h1 h2; omega
  | succ n ih =>
    intro i hc h1 h2 h3
    rw [FSh_renew_L12.eq_2, show (40 : Int32) = nI 40 from rfl]
    by_cases hi : i = 40
    · subst hi
      rw [if_pos (nI_le (Nat.le_refl _) (by omega))]
      exact ⟨hc, rfl, h3⟩
    · rw [if_neg (nI_ge (by omega) (by omega))]
      simp (disch := omega) only [nI_gd, nI_clamp, lt_eq2, nI_1]
      refine ih (i + 1) _ (by omega) (by omega) (fun x hx => ?_)
      by_cases e : x = i
      · subst e; exact pk_us
      · rw [pk_un e]; exact h3 x (by omega)
theorem sheet56 {k : Nat} (hk : k < 4) (ml mg : Nat → Int32) : ∀ (n i : Nat) (mc0 mc : Nat → Int32), i ≤ 40 → 40 - i < n → (∀ x, mc x = if 40 * k ≤ x ∧ x < 40 * k + i then 0 else mc0 x) → ∃ mc' : Nat → Int32, FMo_sheet_L56 ml mg (nI k) n (nI i) mc = some (1, ml, mg, mc') ∧ ∀ x, mc' x = if 40 * k ≤ x ∧ x < 40 * k + 40 then 0 else mc0 x := by
  intro n
  induction n with
  | zero => intro i mc0 mc h1 h2; omega
  | succ n ih =>
    intro i mc0 mc h1 h2 h3
    rw [FMo_sheet_L56.eq_2, show (40 : Int32) = nI 40 from rfl]
    by_cases hi : i = 40
    · subst hi
      rw [if_pos (nI_le (Nat.le_refl _) (by omega))]
      exact ⟨mc, rfl, h3⟩
    · rw [if_neg (nI_ge (by omega) (by omega))]
      simp (disch := omega) only [pk_mul, nI_add, nI_gd, nI_clamp, lt_eq2, nI_1]
      refine ih (i + 1) mc0 _ (by omega) (by omega) (fun x => ?_)
      by_cases e : x = 40 * k + i
      · subst e; rw [pk_us, if_pos (by omega)]
      · rw [pk_un e, h3]
        by_cases q : 40 * k ≤ x ∧ x < 40 * k + i
        · rw [if_pos q, if_pos (by omega)]
        · rw [if_neg q, if_neg (by omega)]
theorem isSheet_c (a : Int32) : (∃ k : Nat, k < 4 ∧ a = nI k ∧ FJm_isSheet a = some 1 ∧ FMo_in a.toInt64 0 3 = some 1) ∨ (FJm_isSheet a = some 0 ∧ FMo_in a.toInt64 0 3 = some 0) := by
  unfold FJm_isSheet
  rcases rc_cases 0 3 (by omega) (by omega) a 0 3 (by decide) (by decide) with ⟨k, h3, h4, rfl, e3⟩ | ⟨e3, h3⟩
  · left
    refine ⟨k, by omega, rfl, ?_, e3⟩
    rw [if_neg (nI_pos (by omega)), if_neg (show ¬ (4 : Int32) ≤ nI k from nI_ge (b := 4) (by omega) (by omega))]
  · right
    refine ⟨?_, e3⟩
    by_cases h : a < 0
    · rw [if_pos h]
    · have h5 := h3.resolve_left h
      rw [if_neg h, if_pos]
      rw [Int32.lt_iff_toInt_lt, nI_toInt (by omega)] at h5
      rw [Int32.le_iff_toInt_le, show (4 : Int32).toInt = 4 from by decide]
      omega
theorem isLane_c (a : Int32) : (∃ k : Nat, k ≤ 2 ∧ a = nI k ∧ FJm_isLane a = some 1 ∧ FMo_in a.toInt64 0 2 = some 1) ∨ (FJm_isLane a = some 0 ∧ FMo_in a.toInt64 0 2 = some 0) := by
  unfold FJm_isLane
  rcases rc_cases 0 2 (by omega) (by omega) a 0 2 (by decide) (by decide) with ⟨k, h3, h4, rfl, e3⟩ | ⟨e3, h3⟩
  · left
    refine ⟨k, by omega, rfl, ?_, e3⟩
    rw [if_neg (nI_pos (by omega)), if_neg (show ¬ (2 : Int32) < nI k from nI_nlt (a := 2) (by omega) (by omega))]
  · right
    refine ⟨?_, e3⟩
    by_cases h : a < 0
    · rw [if_pos h]
    · rw [if_neg h, if_pos (show (2 : Int32) < a from h3.resolve_left h)]
theorem b3_so2 {A B C G : Type} (a : A) (b : B) (c : C) (k : A → B → C → Option G) : b3_ (some (a, b, c)) k = k a b c := Eq.symm (Eq.symm rfl)
theorem Jm_sheet {ml mg mc h0c h1c h2c h3c : Nat → Int32} {h0l h0s h1l h1s h2l h2s h3l h3s : Int32} (s0 : SH 0 h0c h0l h0s ml mg mc) (s1 : SH 1 h1c h1l h1s ml mg mc) (s2 : SH 2 h2c h2l h2s ml mg mc) (s3 : SH 3 h3c h3l h3s ml mg mc) (a l n : Int32) : ∃ (r : Int32) (ml' mg' mc' h0c' h1c' h2c' h3c' : Nat → Int32) (h0l' h0s' h1l' h1s' h2l' h2s' h3l' h3s' : Int32), FJm_sheet h0c h0l h0s h1c h1l h1s h2c h2l h2s h3c h3l h3s a l n = some (r, h0c', h0l', h0s', h1c', h1l', h1s', h2c', h2l', h2s', h3c', h3l', h3s') ∧ FMo_sheet ml mg mc a l n = some (r, ml', mg', mc') ∧ SH 0 h0c' h0l' h0s' ml' mg' mc' ∧ SH 1 h1c' h1l' h1s' ml' mg' mc' ∧ SH 2 h2c' h2l' h2s' ml' mg' mc' ∧ SH 3 h3c' h3l' h3s' ml' mg' mc' := by
  have hno : ∀ r : Int32, ∃ (r' : Int32) (ml' mg' mc' h0c' h1c' h2c' h3c' : Nat → Int32) (h0l' h0s' h1l' h1s' h2l' h2s' h3l' h3s' : Int32), some (r, h0c, h0l, h0s, h1c, h1l, h1s, h2c, h2l, h2s, h3c, h3l, h3s) = some (r', h0c', h0l', h0s', h1c', h1l', h1s', h2c', h2l', h2s', h3c', h3l', h3s') ∧ some (r, ml, mg, mc) = some (r', ml', mg', mc') ∧ SH 0 h0c' h0l' h0s' ml' mg' mc' ∧ SH 1 h1c' h1l' h1s' ml' mg' mc' ∧ SH 2 h2c' h2l' h2s' ml' mg' mc' ∧ SH 3 h3c' h3l' h3s' ml' mg' mc' := fun r => ⟨_, _, _, _, _, _, _, _, _, _, _, _, _, _, _, _, rfl, rfl, s0, s1, s2, s3⟩
  unfold FJm_sheet FMo_sheet
  rcases isSheet_c a with ⟨k, hk, rfl, e1, e2⟩ | ⟨e1, e2⟩
  · rw [e1, e2, b1_so2, b1_so2, if_neg (c := (1 : Int32) = 0) (by decide), if_neg (c := (1 : Int32) = 0) (by decide)]
    rcases isLane_c l with ⟨l, hl, rfl, e3, e4⟩ | ⟨e3, e4⟩
    · rw [e3, e4, b1_so2, b1_so2, if_neg (c := (1 : Int32) = 0) (by decide), if_neg (c := (1 : Int32) = 0) (by decide)]
      by_cases h1 : n ≤ 40
      · rw [if_pos h1, if_pos h1]
        by_cases h2 : 0 ≤ n
        · rw [if_pos h2, if_pos h2]
          obtain ⟨n, hn, rfl⟩ := nI_of2 (M := 40) (n := 40) (by decide) (by rw [Int32.not_lt]; exact h2) h1
          obtain ⟨mc', q1, q2⟩ := sheet56 hk (upd ml k (nI l)) (upd mg k (nI n)) 1000 0 mc mc (by omega) (by omega) (fun x => by rw [if_neg (by omega)])
          rw [← l0_] at q1
          have cl := nI_clamp (n := k) (by omega)
          have g4 : ∀ {α : Type} {o : Option α}, gd_ (nI k) 4 o = o := fun {α o} => nI_gd (by omega) (by omega)
          simp only [cl, g4, lt_eq2, q1]
          have hnew : ∀ c : Nat → Int32, (∀ x, x < 40 → c x = 0) → SH k c (nI l) (nI n) (upd ml k (nI l)) (upd mg k (nI n)) mc' := fun c hc => ⟨fun i hi => by rw [q2, if_pos (by omega), hc i hi], Or.inr ⟨l, n, hl, hn, rfl, rfl, pk_us, pk_us⟩⟩
          have hold : ∀ (j : Nat) (c : Nat → Int32) (x y : Int32), j ≠ k → SH j c x y ml mg mc → SH j c x y (upd ml k (nI l)) (upd mg k (nI n)) mc' := fun j c x y hj hs => SH_keep hs (pk_un hj) (pk_un hj) (fun i hi => by rw [q2, if_neg (by omega)])
          rcases (show k = 0 ∨ k = 1 ∨ k = 2 ∨ k = 3 by omega) with rfl | rfl | rfl | rfl
          · obtain ⟨c', c1, c2⟩ := renew_s (nI l) (nI n) 1000 0 h0c (by omega) (by omega) (fun x hx => by omega)
            rw [← l0_] at c1
            rw [if_pos (show nI 0 = 0 from rfl)]
            unfold FSh_renew
            rw [c1, b3_so2]
            exact ⟨_, _, _, _, _, _, _, _, _, _, _, _, _, _, _, _, rfl, rfl, hnew _ c2, hold 1 _ _ _ (by omega) s1, hold 2 _ _ _ (by omega) s2, hold 3 _ _ _ (by omega) s3⟩
          · obtain ⟨c', c1, c2⟩ := renew_s (nI l) (nI n) 1000 0 h1c (by omega) (by omega) (fun x hx => by omega)
            rw [← l0_] at c1
            rw [if_neg (show ¬ nI 1 = 0 by decide), if_pos (show nI 1 = 1 from rfl)]
            unfold FSh_renew
            rw [c1, b3_so2]
            exact ⟨_, _, _, _, _, _, _, _, _, _, _, _, _, _, _, _, rfl, rfl, hold 0 _ _ _ (by omega) s0, hnew _ c2, hold 2 _ _ _ (by omega) s2, hold 3 _ _ _ (by omega) s3⟩
          · obtain ⟨c', c1, c2⟩ := renew_s (nI l) (nI n) 1000 0 h2c (by omega) (by omega) (fun x hx => by omega)
            rw [← l0_] at c1
            rw [if_neg (show ¬ nI 2 = 0 by decide), if_neg (show ¬ nI 2 = 1 by decide), if_pos (show nI 2 = 2 from rfl)]
            unfold FSh_renew
            rw [c1, b3_so2]
            exact ⟨_, _, _, _, _, _, _, _, _, _, _, _, _, _, _, _, rfl, rfl, hold 0 _ _ _ (by omega) s0, hold 1 _ _ _ (by omega) s1, hnew _ c2, hold 3 _ _ _ (by omega) s3⟩
          · obtain ⟨c', c1, c2⟩ := renew_s (nI l) (nI n) 1000 0 h3c (by omega) (by omega) (fun x hx => by omega)
            rw [← l0_] at c1
            rw [if_neg (show ¬ nI 3 = 0 by decide), if_neg (show ¬ nI 3 = 1 by decide), if_neg (show ¬ nI 3 = 2 by decide), if_pos (show nI 3 = 3 from rfl)]
            unfold FSh_renew
            rw [c1, b3_so2]
            exact ⟨_, _, _, _, _, _, _, _, _, _, _, _, _, _, _, _, rfl, rfl, hold 0 _ _ _ (by omega) s0, hold 1 _ _ _ (by omega) s1, hold 2 _ _ _ (by omega) s2, hnew _ c2⟩
        · rw [if_neg h2, if_neg h2]; exact hno (-14)
      · rw [if_neg h1, if_neg h1]; exact hno (-1)
    · rw [e3, e4, b1_so2, b1_so2, if_pos rfl, if_pos rfl]; exact hno (-1)
  · rw [e1, e2, b1_so2, b1_so2, if_pos rfl, if_pos rfl]; exact hno (-1)
theorem nar8 (a : Int32) : (a <<< ((24 : Int32) &&& 31)) >>> ((24 : Int32) &&& 31) = a.toInt8.toInt32 := by
  apply Int32.toInt_inj.mp
  have h1 := pk_shl a ((24 : Int32) &&& 31) 24 (by decide)
  have h2 := pk_shr (a <<< ((24 : Int32) &&& 31)) ((24 : Int32) &&& 31) 24 (by decide)
  have h3 : ∀ y : Int32, y.toInt = if 2 * y.toBitVec.toNat < 2 ^ 32 then (y.toBitVec.toNat : Int) else (y.toBitVec.toNat : Int) - (2 ^ 32 : Nat) := fun y => BitVec.toInt_eq_toNat_cond y.toBitVec
  rw [h2, Int8.toInt_toInt32, Int32.toInt_toInt8, h3 a, h3 (a <<< ((24 : Int32) &&& 31)), h1, Int.shiftRight_eq_div_pow, Int.bmod_def]
  have h4 := a.toBitVec.isLt
  generalize a.toBitVec.toNat = X at *
  split <;> split <;> split <;> omega
theorem nar16 (a : Int32) : (a <<< ((16 : Int32) &&& 31)) >>> ((16 : Int32) &&& 31) = a.toInt16.toInt32 := by
  apply Int32.toInt_inj.mp
  have h1 := pk_shl a ((16 : Int32) &&& 31) 16 (by decide)
  have h2 := pk_shr (a <<< ((16 : Int32) &&& 31)) ((16 : Int32) &&& 31) 16 (by decide)
  have h3 : ∀ y : Int32, y.toInt = if 2 * y.toBitVec.toNat < 2 ^ 32 then (y.toBitVec.toNat : Int) else (y.toBitVec.toNat : Int) - (2 ^ 32 : Nat) := fun y => BitVec.toInt_eq_toNat_cond y.toBitVec
  rw [h2, Int16.toInt_toInt32, Int32.toInt_toInt16, h3 a, h3 (a <<< ((16 : Int32) &&& 31)), h1, Int.shiftRight_eq_div_pow, Int.bmod_def]
  have h4 := a.toBitVec.isLt
  generalize a.toBitVec.toNat = X at *
  split <;> split <;> split <;> omega
theorem faultAt_s {hl : Int32} {n : Nat} (hn : n ≤ 40) (a : Int32) : (∃ i, i < n ∧ a = nI i ∧ FSh_faultAt hl (nI n) hl a = some 0 ∧ FMo_in a.toInt64 0 (nI n - 1).toInt64 = some 1) ∨ (FSh_faultAt hl (nI n) hl a = some 2 ∧ FMo_in a.toInt64 0 (nI n - 1).toInt64 = some 0) := by
  unfold FSh_faultAt
  rw [if_pos (nI_pos' (by omega)), if_pos rfl]
  rcases rg_cases n (by omega) a with ⟨k, h1, h2, h3, h4, h5⟩ | ⟨h1, h2⟩
  · left
    rw [h3, if_neg h4, if_pos (by rw [← Int32.not_le]; exact h5)]
    exact ⟨k, h1, h2, rfl, rfl⟩
  · right
    rw [h1]
    refine ⟨?_, rfl⟩
    by_cases h0 : a < 0
    · rw [if_pos h0]
    · rw [if_neg h0, if_neg (by rw [Int32.not_lt]; exact h2.resolve_left h0)]
/-- a CELL written, in class and reference -/
theorem lay_core {k : Nat} (hk : k < 4) {hc ml mg mc : Nat → Int32} {hl hs : Int32} (s : SH k hc hl hs ml mg mc) (i v : Int32) : ∃ (r : Int32) (hc' mc' : Nat → Int32), (b1_ (FSh_faultAt hl hs hl i) fun r7 => if r7 = 0 then b1_ (FSh_write hc hl i v) fun w11 => some ((1 : Int32), w11) else some (((-10 : Int32) - r7), hc)) = some (r, hc') ∧ FMo_lay ml mg mc (nI k) i v = some (r, mc') ∧ SH k hc' hl hs ml mg mc' ∧ ∀ x, x < 40 * k ∨ 40 * k + 40 ≤ x → mc' x = mc x := by
  have e2 : FMo_in (nI k).toInt64 0 3 = some 1 := by
    rw [Mo_in64, Int32.toInt_toInt64, nI_toInt (by omega), show (0 : Int64).toInt = 0 from by decide, show (3 : Int64).toInt = 3 from by decide, if_pos (by omega)]
  have cl := nI_clamp (n := k) (by omega)
  have g4 : ∀ {α : Type} {o : Option α}, gd_ (nI k) 4 o = o := fun {α o} => nI_gd (by omega) (by omega)
  unfold FMo_lay
  rw [e2, b1_so2, if_neg (c := (1 : Int32) = 0) (by decide)]
  simp only [g4, cl]
  obtain ⟨s1, s2⟩ := id s
  rcases s2 with ⟨h1, h2⟩ | ⟨l, n, h1, h2, rfl, rfl, h3, h4⟩
  · unfold FSh_faultAt
    rw [if_neg (by rw [Int32.not_le]; exact h1), if_pos h2, b1_so2, if_neg (by decide)]
    exact ⟨_, _, _, rfl, rfl, s, fun x _ => rfl⟩
  · rw [h3, h4, if_neg (by intro hh; have := congrArg Int32.toInt hh; rw [nI_toInt (by omega), show ((-4 : Int32)).toInt = -4 from by decide] at this; omega)]
    rcases faultAt_s (hl := nI l) h2 i with ⟨x, hx, rfl, f1, f2⟩ | ⟨f1, f2⟩
    · rw [f1, f2, b1_so2, b1_so2, if_pos rfl, if_neg (c := (1 : Int32) = 0) (by decide)]
      have cx := nI_clamp (n := x) (by omega)
      have cy := nI_clamp (n := 40 * k + x) (by omega)
      have g40 : ∀ {α : Type} {o : Option α}, gd_ (nI x) 40 o = o := fun {α o} => nI_gd (by omega) (by omega)
      have g160 : ∀ {α : Type} {o : Option α}, gd_ (nI (40 * k + x)) 160 o = o := fun {α o} => nI_gd (by omega) (by omega)
      have hnew : ∀ y : Int32, SH k (upd hc x y) (nI l) (nI n) ml mg (upd mc (40 * k + x) y) := by
        intro y
        refine ⟨fun j hj => ?_, Or.inr ⟨l, n, h1, h2, rfl, rfl, h3, h4⟩⟩
        by_cases e : j = x
        · subst e; rw [pk_us, pk_us]
        · rw [pk_un (by omega), pk_un e]; exact s1 j hj
      have hold : ∀ (y : Int32) (j : Nat), j < 40 * k ∨ 40 * k + 40 ≤ j → upd mc (40 * k + x) y j = mc j := fun y j hj => pk_un (by omega)
      unfold FSh_write
      simp only [show (40 : Int32) = nI 40 from rfl, pk_mul, nI_add, cx, cy, g40, g160, lt_eq2, nar8, nar16]
      rcases (show l = 0 ∨ l = 1 ∨ l = 2 by omega) with rfl | rfl | rfl
      · rw [if_pos (show nI 0 = 0 from rfl), if_pos (show nI 0 = 0 from rfl), b1_so2]
        exact ⟨_, _, _, rfl, rfl, hnew _, hold _⟩
      · rw [if_neg (show ¬ nI 1 = 0 by decide), if_neg (show ¬ nI 1 = 0 by decide), if_pos (show nI 1 = 1 from rfl), if_pos (show nI 1 = 1 from rfl), b1_so2]
        exact ⟨_, _, _, rfl, rfl, hnew _, hold _⟩
      · rw [if_neg (show ¬ nI 2 = 0 by decide), if_neg (show ¬ nI 2 = 0 by decide), if_neg (show ¬ nI 2 = 1 by decide), if_neg (show ¬ nI 2 = 1 by decide), b1_so2]
        exact ⟨_, _, _, rfl, rfl, hnew _, hold _⟩
    · rw [f1, f2, b1_so2, b1_so2, if_neg (by decide), if_pos rfl]
      exact ⟨_, _, _, rfl, rfl, s, fun x _ => rfl⟩
theorem Jm_lay {ml mg mc h0c h1c h2c h3c : Nat → Int32} {h0l h0s h1l h1s h2l h2s h3l h3s : Int32} (s0 : SH 0 h0c h0l h0s ml mg mc) (s1 : SH 1 h1c h1l h1s ml mg mc) (s2 : SH 2 h2c h2l h2s ml mg mc) (s3 : SH 3 h3c h3l h3s ml mg mc) (a i v : Int32) : ∃ (r : Int32) (mc' h0c' h1c' h2c' h3c' : Nat → Int32), FJm_lay h0c h0l h0s h1c h1l h1s h2c h2l h2s h3c h3l h3s a i v = some (r, h0c', h1c', h2c', h3c') ∧ FMo_lay ml mg mc a i v = some (r, mc') ∧ SH 0 h0c' h0l h0s ml mg mc' ∧ SH 1 h1c' h1l h1s ml mg mc' ∧ SH 2 h2c' h2l h2s ml mg mc' ∧ SH 3 h3c' h3l h3s ml mg mc' := by
  unfold FJm_lay
  rcases isSheet_c a with ⟨k, hk, rfl, e1, e2⟩ | ⟨e1, e2⟩
  · have g4 : ∀ {α : Type} {o : Option α}, gd_ (nI k) 4 o = o := fun {α o} => nI_gd (by omega) (by omega)
    rw [e1, b1_so2, if_neg (c := (1 : Int32) = 0) (by decide), g4]
    rcases (show k = 0 ∨ k = 1 ∨ k = 2 ∨ k = 3 by omega) with rfl | rfl | rfl | rfl
    · obtain ⟨r, c', mc', q1, q2, q3, q4⟩ := lay_core (k := 0) (by omega) s0 i v
      rw [if_pos (show nI 0 = 0 from rfl)]
      refine ⟨r, mc', c', h1c, h2c, h3c, ?_, q2, q3, SH_keep s1 rfl rfl (fun y hy => q4 _ (by omega)), SH_keep s2 rfl rfl (fun y hy => q4 _ (by omega)), SH_keep s3 rfl rfl (fun y hy => q4 _ (by omega))⟩
      cases hf : FSh_faultAt h0l h0s h0l i with
      | none => rw [hf] at q1; exact absurd q1 (by intro q; cases q)
      | some x =>
        rw [hf, b1_so2] at q1
        rw [b1_so2]
        by_cases hx : x = 0
        · rw [if_pos hx] at q1 ⊢
          cases hw : FSh_write h0c h0l i v with
          | none => rw [hw] at q1; exact absurd q1 (by intro q; cases q)
          | some y =>
            rw [hw, b1_so2] at q1
            rw [b1_so2]
            obtain ⟨rfl, rfl⟩ := e2_ q1
            rfl
        · rw [if_neg hx] at q1 ⊢
          obtain ⟨rfl, rfl⟩ := e2_ q1
          rfl
    · obtain ⟨r, c', mc', q1, q2, q3, q4⟩ := lay_core (k := 1) (by omega) s1 i v
      rw [if_neg (show ¬ nI 1 = 0 by decide), if_pos (show nI 1 = 1 from rfl)]
      refine ⟨r, mc', h0c, c', h2c, h3c, ?_, q2, SH_keep s0 rfl rfl (fun y hy => q4 _ (by omega)), q3, SH_keep s2 rfl rfl (fun y hy => q4 _ (by omega)), SH_keep s3 rfl rfl (fun y hy => q4 _ (by omega))⟩
      cases hf : FSh_faultAt h1l h1s h1l i with
      | none => rw [hf] at q1; exact absurd q1 (by intro q; cases q)
      | some x =>
        rw [hf, b1_so2] at q1
        rw [b1_so2]
        by_cases hx : x = 0
        · rw [if_pos hx] at q1 ⊢
          cases hw : FSh_write h1c h1l i v with
          | none => rw [hw] at q1; exact absurd q1 (by intro q; cases q)
          | some y =>
            rw [hw, b1_so2] at q1
            rw [b1_so2]
            obtain ⟨rfl, rfl⟩ := e2_ q1
            rfl
        · rw [if_neg hx] at q1 ⊢
          obtain ⟨rfl, rfl⟩ := e2_ q1
          rfl
    · obtain ⟨r, c', mc', q1, q2, q3, q4⟩ := lay_core (k := 2) (by omega) s2 i v
      rw [if_neg (show ¬ nI 2 = 0 by decide), if_neg (show ¬ nI 2 = 1 by decide), if_pos (show nI 2 = 2 from rfl)]
      refine ⟨r, mc', h0c, h1c, c', h3c, ?_, q2, SH_keep s0 rfl rfl (fun y hy => q4 _ (by omega)), SH_keep s1 rfl rfl (fun y hy => q4 _ (by omega)), q3, SH_keep s3 rfl rfl (fun y hy => q4 _ (by omega))⟩
      cases hf : FSh_faultAt h2l h2s h2l i with
      | none => rw [hf] at q1; exact absurd q1 (by intro q; cases q)
      | some x =>
        rw [hf, b1_so2] at q1
        rw [b1_so2]
        by_cases hx : x = 0
        · rw [if_pos hx] at q1 ⊢
          cases hw : FSh_write h2c h2l i v with
          | none => rw [hw] at q1; exact absurd q1 (by intro q; cases q)
          | some y =>
            rw [hw, b1_so2] at q1
            rw [b1_so2]
            obtain ⟨rfl, rfl⟩ := e2_ q1
            rfl
        · rw [if_neg hx] at q1 ⊢
          obtain ⟨rfl, rfl⟩ := e2_ q1
          rfl
    · obtain ⟨r, c', mc', q1, q2, q3, q4⟩ := lay_core (k := 3) (by omega) s3 i v
      rw [if_neg (show ¬ nI 3 = 0 by decide), if_neg (show ¬ nI 3 = 1 by decide), if_neg (show ¬ nI 3 = 2 by decide), if_pos (show nI 3 = 3 from rfl)]
      refine ⟨r, mc', h0c, h1c, h2c, c', ?_, q2, SH_keep s0 rfl rfl (fun y hy => q4 _ (by omega)), SH_keep s1 rfl rfl (fun y hy => q4 _ (by omega)), SH_keep s2 rfl rfl (fun y hy => q4 _ (by omega)), q3⟩
      cases hf : FSh_faultAt h3l h3s h3l i with
      | none => rw [hf] at q1; exact absurd q1 (by intro q; cases q)
      | some x =>
        rw [hf, b1_so2] at q1
        rw [b1_so2]
        by_cases hx : x = 0
        · rw [if_pos hx] at q1 ⊢
          cases hw : FSh_write h3c h3l i v with
          | none => rw [hw] at q1; exact absurd q1 (by intro q; cases q)
          | some y =>
            rw [hw, b1_so2] at q1
            rw [b1_so2]
            obtain ⟨rfl, rfl⟩ := e2_ q1
            rfl
        · rw [if_neg hx] at q1 ⊢
          obtain ⟨rfl, rfl⟩ := e2_ q1
          rfl
  · rw [e1, b1_so2, if_pos rfl]
    refine ⟨-1, mc, h0c, h1c, h2c, h3c, rfl, ?_, s0, s1, s2, s3⟩
    unfold FMo_lay
    rw [e2, b1_so2, if_pos rfl]
theorem Jm_count {J : Nat} {fh m mo bo bn bk xk mk ml mg mc h0c : Nat → Int32} {h0l h0s ps mp : Int32} (h : RO J fh m mo bo bn bk) (k0 : xk 0 = mk 0) (k1 : xk 1 = mk 1) (ht : ps = mp) (s0 : SH 0 h0c h0l h0s ml mg mc) (w : Int32) : ∃ r, FJm_count xk bn (nI J) ps h0s w = some r ∧ FMo_count m mp mk ml mg w = some r := by
  have hJ := h.1
  obtain ⟨r1, a1, b1⟩ := bare_s h 1000 0 0 (by omega) (by omega)
  rw [← l0_] at a1 b1
  unfold FJm_count FMo_count FBa_bare FMo_bare
  rw [a1, b1, ht]
  have g04 : ∀ {α : Type} {o : Option α}, gd_ (0 : Int32) 4 o = o := fun {α o} => nI_gd (i := 0) (by omega) (by omega)
  simp only [b1_so2, g02, g12, g04, c00, c11, k0, k1]
  have h2 : (if 0 ≤ h0s then some h0s else some (-4)) = (if ml 0 = -4 then some (-4) else some (mg 0)) := by
    rcases s0.2 with ⟨q1, q2⟩ | ⟨l, n, q1, q2, rfl, rfl, q3, q4⟩
    · rw [if_neg (by rw [Int32.not_le]; exact q1), if_pos q2]
    · rw [if_pos (nI_pos' (by omega)), q3, q4, if_neg (by intro hh; have := congrArg Int32.toInt hh; rw [nI_toInt (by omega), show ((-4 : Int32)).toInt = -4 from by decide] at this; omega)]
  rw [h2]
  refine dup_ ?_
  repeat' split
  all_goals exact ⟨_, rfl⟩
