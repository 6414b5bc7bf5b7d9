/-! layer 2: a NUMBER, the end of a line -/
theorem b6_so2 {A B C D E F G : Type} (a : A) (b : B) (c : C) (d : D) (e : E) (f : F) (k : A → B → C → D → E → F → Option G) : b6_ (some (a, b, c, d, e, f)) k = k a b c d e f := Eq.symm (Eq.symm rfl)
theorem readsOn_b {mt : Nat → Int32} {N ba sp hh t w : Int32} {k : Nat} (hk : 0 < k) (hk2 : k < 1000) : FMo_readsOn mt N (nI k) ba sp hh t w = some (nI k, ba, sp, hh, t, w) := by
  unfold FMo_readsOn
  rw [if_neg (nI_nle hk (by omega))]
theorem numR_b {mt : Nat → Int32} {N ba sp hh t w lo hi : Int32} {k : Nat} (hk : 0 < k) (hk2 : k < 1000) : FMo_numberRead mt N (nI k) ba sp hh t w lo hi = some (lo, nI k, ba, sp, hh, t, w) := by
  have h0 : ¬ nI k = 0 := nI_ne0 hk (by omega)
  unfold FMo_numberRead
  simp only [lt_eq2, if_neg h0, readsOn_b hk hk2, b6_so2]
theorem in_n {v lo hi : Nat} (h1 : v < 100000) (h2 : lo < 100000) (h3 : hi < 100000) : FMo_in (nI v).toInt64 (nI lo).toInt64 (nI hi).toInt64 = some (if lo ≤ v ∧ v ≤ hi then 1 else 0) := by
  rw [Mo_in64, Int32.toInt_toInt64, Int32.toInt_toInt64, Int32.toInt_toInt64, nI_toInt (by omega), nI_toInt (by omega), nI_toInt (by omega)]
  by_cases h : lo ≤ v ∧ v ≤ hi
  · rw [if_pos h, if_pos (by omega)]
  · rw [if_neg h, if_neg (by omega)]
theorem numR_ok {mt : Nat → Int32} {N ba sp hh : Int32} {v lo hi : Nat} (h1 : v < 100000) (h2 : lo < 100000) (h3 : hi < 100000) (hv : lo ≤ v ∧ v ≤ hi) : FMo_numberRead mt N 0 ba sp hh 2 (nI v) (nI lo) (nI hi) = b6_ (FMo_readsOn mt N 0 ba sp hh 2 (nI v)) fun w14 w15 w16 w17 w18 w19 => some (nI v, w14, w15, w16, w17, w18, w19) := by
  unfold FMo_numberRead
  simp only [lt_eq2, if_true, in_n h1 h2 h3, if_pos hv, b1_so2, n10_, if_false]
theorem numR_3 {mt : Nat → Int32} {N ba sp hh : Int32} {v lo hi : Nat} (h1 : v < 100000) (h2 : lo < 100000) (h3 : hi < 100000) (hv : ¬ (lo ≤ v ∧ v ≤ hi)) : FMo_numberRead mt N 0 ba sp hh 2 (nI v) (nI lo) (nI hi) = some (nI lo, nI 3, hh, sp, hh, 2, nI v) := by
  have e3 : FMo_readsOn mt N 3 hh sp hh 2 (nI v) = some (nI 3, hh, sp, hh, 2, nI v) := readsOn_b (k := 3) (by omega) (by omega)
  have n30 : ((3 : Int32) = 0) = False := eq_false (by decide)
  unfold FMo_numberRead FMo_fails
  simp only [lt_eq2, if_true, in_n h1 h2 h3, if_neg hv, b1_so2, b2_so2, n30, if_false, e3, b6_so2]
theorem numR_2 {mt : Nat → Int32} {N ba sp hh t w lo hi : Int32} (ht : ¬ t = 2) : FMo_numberRead mt N 0 ba sp hh t w lo hi = some (lo, nI 2, hh, sp, hh, t, w) := by
  have e3 : FMo_readsOn mt N 2 hh sp hh t w = some (nI 2, hh, sp, hh, t, w) := readsOn_b (k := 2) (by omega) (by omega)
  have n20 : ((2 : Int32) = 0) = False := eq_false (by decide)
  unfold FMo_numberRead FMo_fails
  simp only [lt_eq2, if_true, if_neg ht, b2_so2, n20, if_false, e3, b6_so2]
theorem isN_ok {tf tp q : Int32} {v lo hi : Nat} (h1 : v < 100000) (h2 : lo < 100000) (h3 : hi < 100000) (hv : lo ≤ v ∧ v ≤ hi) : FTe_isNumber tf tp 2 q (nI v) (nI lo) (nI hi) = some (1, tf, tp) := by
  unfold FTe_isNumber
  rw [if_pos rfl, lt_eq2, if_neg (nI_nlt hv.1 (by omega)), if_pos (nI_le hv.2 (by omega))]
theorem isN_3 {tf tp q : Int32} {v lo hi : Nat} (h1 : v < 100000) (h2 : lo < 100000) (h3 : hi < 100000) (hv : ¬ (lo ≤ v ∧ v ≤ hi)) : FTe_isNumber tf tp 2 q (nI v) (nI lo) (nI hi) = some (0, nI 3, q) := by
  unfold FTe_isNumber FTe_fail
  rw [if_pos rfl, lt_eq2, b3_so2, if_pos rfl]
  by_cases h : v < lo
  · rw [if_pos (nI_lt h (by omega))]; rfl
  · rw [if_neg (nI_nlt (by omega) (by omega)), if_neg (nI_ge (by omega) (by omega))]; rfl
theorem isN_2 {tf tp q t w lo hi : Int32} (ht : ¬ t = 2) : FTe_isNumber tf tp t q w lo hi = some (0, nI 2, q) := by
  unfold FTe_isNumber FTe_fail
  rw [if_neg ht, b3_so2]; rfl
theorem c2_ {c : Nat} (hc : c ≤ 4) : (nI c = 2 ↔ c = 2) ∧ (nI (kr c) = 2 ↔ c = 2) ∧ (nI c = 3 ↔ c = 3) ∧ (nI (kr c) = 4 ↔ c = 3) ∧ (nI c = 4 ↔ c = 4) ∧ (nI (kr c) = 3 ↔ c = 4) ∧ (nI c = 0 ↔ c = 0) ∧ (nI (kr c) = 0 ↔ c = 0) ∧ (nI c = 1 ↔ c = 1) ∧ (nI (kr c) = 1 ↔ c = 1) := by
  rcases (show c = 0 ∨ c = 1 ∨ c = 2 ∨ c = 3 ∨ c = 4 by omega) with rfl | rfl | rfl | rfl | rfl <;> decide
theorem num_s {n : Nat} {T : Nat → Nat} {pb mt : Nat → Int32} (h : TT n T pb mt) {s lo hi : Nat} (hs : s ≤ n) (hlo : lo < 100000) (hhi : hi < 100000) : (∃ q q' v : Nat, s ≤ q ∧ q < q' ∧ q' ≤ n ∧ lo ≤ v ∧ v ≤ hi ∧ (∀ tf tp tk tv, FTe_number tf tp tk (nI s) tv pb (nI n) (nI lo) (nI hi) = some (1, tf, tp, 2, nI q, nI q', nI v)) ∧ (∀ ba hh t w, FMo_readsOn mt (nI n) 0 ba (nI s) hh t w = some (0, ba, nI q', nI q, 2, nI v))) ∨ (∃ (q code v : Nat) (sp t' v' : Int32), s ≤ q ∧ q ≤ n ∧ (code = 2 ∨ code = 3) ∧ (∀ tf tp tk tv, ∃ x y z u, FTe_number tf tp tk (nI s) tv pb (nI n) (nI lo) (nI hi) = some (0, nI code, nI q, x, y, z, u)) ∧ (∀ ba hh t w, FMo_readsOn mt (nI n) 0 ba (nI s) hh t w = some (0, ba, sp, nI q, t', v')) ∧ (∀ ba, FMo_numberRead mt (nI n) 0 ba sp (nI q) t' v' (nI lo) (nI hi) = some (nI lo, nI code, nI q, sp, nI q, t', v')) ∧ (¬ t' = 2 ∧ code = 2 ∨ t' = 2 ∧ code = 3 ∧ v ≤ 9999 ∧ v' = nI v ∧ ¬ (lo ≤ v ∧ v ≤ hi))) ∨ (∃ q : Nat, s ≤ q ∧ q ≤ n ∧ (∀ tf tp tk tv, ∃ x y z u, FTe_number tf tp tk (nI s) tv pb (nI n) (nI lo) (nI hi) = some (0, 1, nI q, x, y, z, u)) ∧ (∀ ba hh t w, ∃ x y z, FMo_readsOn mt (nI n) 0 ba (nI s) hh t w = some (1, nI q, x, nI q, y, z))) := by
  unfold FTe_number
  rcases scan_s h hs with ⟨c, q, q', v, h1, h2, h3, h4, h5, h6, h7, h8, h9⟩ | ⟨q, h1, h2, h3, h4⟩
  · have hc2 := c2_ h1
    by_cases hc : c = 2
    · subst hc
      by_cases hv : lo ≤ v ∧ v ≤ hi
      · left
        refine ⟨q, q', v, h2, h5 (by omega), h4, hv.1, hv.2, fun tf tp tk tv => ?_, fun ba hh t w => h9 ba hh t w⟩
        rw [h8, b7_so2, if_neg (by decide), if_pos rfl]
        rw [show nI 2 = (2 : Int32) from rfl, isN_ok (by omega) hlo hhi hv, b3_so2, if_neg (by decide)]
      · right; left
        refine ⟨q, 3, v, nI q', 2, nI v, h2, by omega, Or.inr rfl, fun tf tp tk tv => ⟨2, nI q, nI q', nI v, ?_⟩, fun ba hh t w => h9 ba hh t w, fun ba => numR_3 (by omega) hlo hhi hv, Or.inr ⟨rfl, rfl, h6, rfl, hv⟩⟩
        rw [h8, b7_so2, if_neg (by decide), if_pos rfl]
        rw [show nI 2 = (2 : Int32) from rfl, isN_3 (by omega) hlo hhi hv, b3_so2, if_pos rfl]
    · right; left
      refine ⟨q, 2, 0, nI q', nI (kr c), _, h2, by omega, Or.inl rfl, fun tf tp tk tv => ⟨nI c, nI q, nI q', if c = 2 then nI v else tv, ?_⟩, fun ba hh t w => h9 ba hh t w, fun ba => numR_2 (fun q => hc (hc2.2.1.mp q)), Or.inl ⟨fun q => hc (hc2.2.1.mp q), rfl⟩⟩
      rw [h8, b7_so2, if_neg (c := (1 : Int32) = 0) (by decide), isN_2 (fun q => hc (hc2.1.mp q)), b3_so2, if_pos rfl]
  · right; right
    refine ⟨q, h1, by omega, fun tf tp tk tv => ?_, h4⟩
    obtain ⟨x, y, z, e⟩ := h3 tf tp tk tv
    refine ⟨x, nI q, y, z, ?_⟩
    rw [e, b7_so2, if_pos rfl]
theorem semi_s {n : Nat} {T : Nat → Nat} {pb mt : Nat → Int32} (h : TT n T pb mt) {s : Nat} (hs : s ≤ n) : (∃ (q q' : Nat) (v' : Int32), s ≤ q ∧ q < q' ∧ q' ≤ n ∧ (∀ tf tp tk tv, ∃ u, FTe_semicolon tf tp tk (nI s) tv pb (nI n) = some (1, tf, tp, 4, nI q, nI q', u)) ∧ (∀ ba hh t w, FMo_readsOn mt (nI n) 0 ba (nI s) hh t w = some (0, ba, nI q', nI q, 3, v'))) ∨ (∃ (q : Nat) (sp t' v' : Int32), s ≤ q ∧ q ≤ n ∧ (∀ tf tp tk tv, ∃ x y z u, FTe_semicolon tf tp tk (nI s) tv pb (nI n) = some (0, nI 2, nI q, x, y, z, u)) ∧ (∀ ba hh t w, FMo_readsOn mt (nI n) 0 ba (nI s) hh t w = some (0, ba, sp, nI q, t', v')) ∧ ¬ t' = 3) ∨ (∃ q : Nat, s ≤ q ∧ q ≤ n ∧ (∀ tf tp tk tv, ∃ x y z u, FTe_semicolon tf tp tk (nI s) tv pb (nI n) = some (0, nI 1, nI q, x, y, z, u)) ∧ (∀ ba hh t w, ∃ x y z, FMo_readsOn mt (nI n) 0 ba (nI s) hh t w = some (1, nI q, x, nI q, y, z))) := by
  unfold FTe_semicolon FTe_fail
  rcases scan_s h hs with ⟨c, q, q', v, h1, h2, h3, h4, h5, h6, h7, h8, h9⟩ | ⟨q, h1, h2, h3, h4⟩
  · have hc2 := c2_ h1
    by_cases hc : c = 4
    · subst hc
      left
      refine ⟨q, q', 0, h2, h5 (by omega), h4, fun tf tp tk tv => ⟨tv, ?_⟩, fun ba hh t w => h9 ba hh t w⟩
      rw [h8, b7_so2, if_neg (c := (1 : Int32) = 0) (by decide), if_pos (show nI 4 = 4 from rfl)]
      rfl
    · right; left
      refine ⟨q, nI q', nI (kr c), _, h2, by omega, fun tf tp tk tv => ⟨nI c, nI q, nI q', if c = 2 then nI v else tv, ?_⟩, fun ba hh t w => h9 ba hh t w, fun q => hc (hc2.2.2.2.2.2.1.mp q)⟩
      rw [h8, b7_so2, if_neg (c := (1 : Int32) = 0) (by decide), if_neg (fun q => hc (hc2.2.2.2.2.1.mp q)), b3_so2, if_pos rfl]
      rfl
  · right; right
    refine ⟨q, h1, by omega, fun tf tp tk tv => ?_, h4⟩
    obtain ⟨x, y, z, e⟩ := h3 tf tp tk tv
    refine ⟨x, nI q, y, z, ?_⟩
    rw [e, b7_so2, if_pos rfl]
    rfl
/-- what the reference does behind a line -/
def jT (mt : Nat → Int32) (N w4 w5 w6 w7 : Int32) (w8 : Nat → Int32) (w9 w10 : Int32) : Option ((Nat → Int32) × Int32 × Int32 × Int32 × Int32 × Int32 × Int32) :=
    if w4 = 0 then
      if w9 = (3 : Int32) then
        b6_ (FMo_readsOn mt N w4 w5 w7 w6 w9 w10) fun w21 w22 w23 w24 w25 w26 =>
        some (w8, w21, w22, w23, w24, w25, w26)
      else
        b2_ (FMo_fails w4 w5 w6 (2 : Int32)) fun w29 w30 =>
        b6_ (FMo_readsOn mt N w29 w30 w7 w6 w9 w10) fun w33 w34 w35 w36 w37 w38 =>
        some (w8, w33, w34, w35, w36, w37, w38)
    else
      b6_ (FMo_readsOn mt N w4 w5 w7 w6 w9 w10) fun w12 w13 w14 w15 w16 w17 =>
      some (w8, w12, w13, w14, w15, w16, w17)
theorem jT_b {mt m : Nat → Int32} {N ba hh sp t w : Int32} {k : Nat} (hk : 0 < k) (hk2 : k < 1000) : jT mt N (nI k) ba hh sp m t w = some (m, nI k, ba, sp, hh, t, w) := by
  unfold jT
  rw [if_neg (nI_ne0 hk (by omega)), readsOn_b hk hk2, b6_so2]
theorem jT_3 {mt m : Nat → Int32} {N ba hh sp w : Int32} : jT mt N 0 ba hh sp m 3 w = b6_ (FMo_readsOn mt N 0 ba sp hh 3 w) fun w21 w22 w23 w24 w25 w26 => some (m, w21, w22, w23, w24, w25, w26) := by
  unfold jT
  rw [if_pos rfl, if_pos rfl]
theorem jT_2 {mt m : Nat → Int32} {N ba hh sp t w : Int32} (ht : ¬ t = 3) : jT mt N 0 ba hh sp m t w = some (m, nI 2, hh, sp, hh, t, w) := by
  have e3 : FMo_readsOn mt N 2 hh sp hh t w = some (nI 2, hh, sp, hh, t, w) := readsOn_b (k := 2) (by omega) (by omega)
  unfold jT FMo_fails
  rw [if_pos rfl, if_neg ht, if_pos rfl, b2_so2, e3, b6_so2]
