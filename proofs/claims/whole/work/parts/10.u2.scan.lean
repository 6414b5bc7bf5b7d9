/-! layer 2: a TOKEN -/
def kr (c : Nat) : Nat := if c = 3 then 4 else if c = 4 then 3 else c
theorem scan_s {n : Nat} {T : Nat → Nat} {pb mt : Nat → Int32} (h : TT n T pb mt) {s : Nat} (hs : s ≤ n) : (∃ c q q' v : Nat, c ≤ 4 ∧ s ≤ q ∧ q ≤ q' ∧ q' ≤ n ∧ (0 < c → q < q') ∧ v ≤ 9999 ∧ (c = 0 → q = n) ∧ (∀ tf tp tk tv, FTe_scan tf tp tk (nI s) tv pb (nI n) = some (1, tf, tp, nI c, nI q, nI q', if c = 2 then nI v else tv)) ∧ (∀ ba hh t w, FMo_readsOn mt (nI n) 0 ba (nI s) hh t w = some (0, ba, nI q', nI q, nI (kr c), if c = 2 then nI v else 0))) ∨ (∃ q, s ≤ q ∧ q < n ∧ (∀ tf tp tk tv, ∃ x y z, FTe_scan tf tp tk (nI s) tv pb (nI n) = some (0, 1, nI q, x, nI q, y, z)) ∧ (∀ ba hh t w, ∃ x y z, FMo_readsOn mt (nI n) 0 ba (nI s) hh t w = some (1, nI q, x, nI q, y, z))) := by
  have hn := h.1
  obtain ⟨q, q1, q2, q3, q4, q5⟩ := skip_s h 1000 s hs (by omega)
  have z0 : (0 : Int32) ≤ 0 := by decide
  by_cases hl : q < n
  · obtain ⟨b1, b2, b3⟩ := h.2 q hl
    have hb := byteAt_e h (i := q) (by omega)
    rw [if_pos hl] at hb
    have hlt : nI q < nI n := nI_lt hl (by omega)
    have i1 := in_b (c := T q) (lo := 97) (hi := 122) 97 122 (by decide) (by decide) (by omega)
    have i2 := in_b (c := T q) (lo := 48) (hi := 57) 48 57 (by decide) (by decide) (by omega)
    have l1 : ∀ x : Nat, x < 128 → ((nI (T q) < nI x) = (T q < x)) := fun x hx => propext (nI_ltI (by omega) (by omega))
    have l2 : ∀ x : Nat, x < 128 → ((nI x < nI (T q)) = (x < T q)) := fun x hx => propext (nI_ltI (by omega) (by omega))
    have l3 : ∀ x : Nat, x < 128 → ((nI (T q) = nI x) = (T q = x)) := fun x hx => propext (nI_eq (by omega) (by omega))
    have cls : ∀ tf tp tk tv, FTe_scan tf tp tk (nI s) tv pb (nI n) = (if 97 ≤ T q ∧ T q ≤ 122 then b1_ (FTe_behindRun (nI q) pb (nI n) (97 : Int32) (122 : Int32)) fun r44 => some ((1 : Int32), tf, tp, (1 : Int32), nI q, r44, tv) else if 48 ≤ T q ∧ T q ≤ 57 then (b1_ (FTe_behindRun (nI q) pb (nI n) (48 : Int32) (57 : Int32)) fun r27 => if (4 : Int32) < (r27 - nI q) then some ((0 : Int32), (1 : Int32), nI q, (2 : Int32), nI q, r27, tv) else b2_ (FTe_reckon (nI q) r27 pb) fun r36 w37 => some (r36, tf, tp, (2 : Int32), nI q, r27, w37)) else if T q = 45 then some ((1 : Int32), tf, tp, (3 : Int32), nI q, nI (q + 1), tv) else if T q = 59 then some ((1 : Int32), tf, tp, (4 : Int32), nI q, nI (q + 1), tv) else some ((0 : Int32), (1 : Int32), nI q, tk, nI q, nI q, tv)) := by
      intro tf tp tk tv
      unfold FTe_scan FTe_fail
      rw [q4, if_pos hlt, nI_gd (by omega) (by omega), nI_clamp (by omega), b1]
      simp only [lt_eq2, b3_so2, show (97 : Int32) = nI 97 from rfl, show (122 : Int32) = nI 122 from rfl, show (48 : Int32) = nI 48 from rfl, show (57 : Int32) = nI 57 from rfl, show (45 : Int32) = nI 45 from rfl, show (59 : Int32) = nI 59 from rfl, l1 97 (by omega), l2 122 (by omega), l1 48 (by omega), l2 57 (by omega), l3 45 (by omega), l3 59 (by omega), nI_1]
      by_cases h1 : 97 ≤ T q ∧ T q ≤ 122
      · rw [if_pos h1, if_neg (by omega), if_neg (by omega)]
      · rw [if_neg h1]
        by_cases h2 : 48 ≤ T q ∧ T q ≤ 57
        · rw [if_pos h2, if_pos (by omega), if_neg (by omega), if_neg (by omega)]
        · rw [if_neg h2]
          by_cases h3 : T q = 45
          · rw [if_pos (show T q < 97 by omega), if_pos (show T q < 48 by omega), if_pos h3, if_pos h3, if_pos h3]
          · have e : (if T q = 45 then (if T q = 45 then (some (1, tf, tp, 3, nI q, nI (q + 1), tv) : Option (Int32 × Int32 × Int32 × Int32 × Int32 × Int32 × Int32)) else some (1, tf, tp, 4, nI q, nI (q + 1), tv)) else if T q = 59 then (if T q = 45 then some (1, tf, tp, 3, nI q, nI (q + 1), tv) else some (1, tf, tp, 4, nI q, nI (q + 1), tv)) else some (0, 1, nI q, tk, nI q, nI q, tv)) = (if T q = 45 then some (1, tf, tp, 3, nI q, nI (q + 1), tv) else if T q = 59 then some (1, tf, tp, 4, nI q, nI (q + 1), tv) else some (0, 1, nI q, tk, nI q, nI q, tv)) := by
              rw [if_neg h3, if_neg h3, if_neg h3]
            rw [← e]
            by_cases h4 : T q < 97
            · rw [if_pos h4]
              by_cases h5 : T q < 48
              · rw [if_pos h5]
              · rw [if_neg h5, if_pos (by omega)]
            · rw [if_neg h4, if_pos (by omega), if_neg (by omega), if_pos (by omega)]
    have ref : ∀ ba hh t w, FMo_readsOn mt (nI n) 0 ba (nI s) hh t w = (if 97 ≤ T q ∧ T q ≤ 122 then FMo_readsOn_L84 mt (nI n) 0 ba (nI q) (0 : Int32) 1000 (nI q) else if 48 ≤ T q ∧ T q ≤ 57 then FMo_readsOn_L140 mt (nI n) (nI q) (fun (w45 : Int32) (w46 : Int32) => if (w45 - nI q) ≤ (4 : Int32) then some (0, ba, w45, nI q, (2 : Int32), w46) else some (1, nI q, w45, nI q, (2 : Int32), w46)) 1000 (nI q) (0 : Int32) else if T q = 45 then some (0, ba, nI (q + 1), nI q, 4, 0) else if T q = 59 then some (0, ba, nI (q + 1), nI q, 3, 0) else some (1, nI q, nI (q + 1), nI q, 3, 0)) := by
      intro ba hh t w
      unfold FMo_readsOn FMo_fails
      rw [if_pos z0, q5, hb, b1_so2, if_neg (n4_ _ (by omega)), i1, b1_so2, i2, b1_so2]
      simp only [lt_eq2, b2_so2, if_true, show (45 : Int32) = nI 45 from rfl, show (59 : Int32) = nI 59 from rfl, l3 45 (by omega), l3 59 (by omega), nI_1]
      by_cases h1 : 97 ≤ T q ∧ T q ≤ 122
      · simp only [if_pos h1, n10_, if_false]
      · simp only [if_neg h1, if_true]
        by_cases h2 : 48 ≤ T q ∧ T q ≤ 57
        · simp only [if_pos h2, n10_, if_false]
        · simp only [if_neg h2, if_true]
          by_cases h3 : T q = 45
          · simp only [if_pos h3, if_neg (show ¬ T q = 59 by omega)]
          · simp only [if_neg h3]
    by_cases h1 : 97 ≤ T q ∧ T q ≤ 122
    · obtain ⟨q', r1, r2, r3, r4, r5, r6⟩ := run_s h (lo := 97) (hi := 122) (by omega) (by omega) 1000 q (by omega) (by omega)
      left
      refine ⟨1, q, q', 0, by omega, q1, r1, r2, fun _ => r3 hl h1.1 h1.2, by omega, fun q => by omega, fun tf tp tk tv => ?_, fun ba hh t w => ?_⟩
      · rw [cls, if_pos h1]
        unfold FTe_behindRun
        rw [show (97 : Int32) = nI 97 from rfl, show (122 : Int32) = nI 122 from rfl, r6, b1_so2]
        rfl
      · rw [ref, if_pos h1, name84 h r2 r5 0 ba (nI q) 0 1000 q r1 r4 (by omega)]
        rfl
    · by_cases h2 : 48 ≤ T q ∧ T q ≤ 57
      · obtain ⟨q', r1, r2, r3, r4, r5, r6⟩ := run_s h (lo := 48) (hi := 57) (by omega) (by omega) 1000 q (by omega) (by omega)
        have hq' := r3 hl h2.1 h2.2
        have hsub : nI q' - nI q = nI (q' - q) := pk_sub r1
        have m140 : ∀ k, FMo_readsOn_L140 mt (nI n) (nI q) k 1000 (nI q) (0 : Int32) = k (nI q') (nI (dv T q (if q' - q < 4 then q' - q else 4))) := by
          intro k
          have := num140 h r1 r2 r5 r4 k 1000 q (Nat.le_refl _) r1 (by omega)
          rw [Nat.sub_self, if_pos (by omega)] at this
          exact this
        by_cases h4 : q' - q ≤ 4
        · left
          have hv : dv T q (q' - q) ≤ 9999 := by
            have h5 := dv_b (T := T) (q := q) (q' - q) (fun i g1 g2 => r4 i g1 (by omega))
            have h6 : 10 ^ (q' - q) ≤ 10 ^ 4 := Nat.pow_le_pow_right (by omega) h4
            have h7 : (10 : Nat) ^ 4 = 10000 := by decide
            omega
          refine ⟨2, q, q', dv T q (q' - q), by omega, q1, r1, r2, fun _ => hq', hv, fun q => by omega, fun tf tp tk tv => ?_, fun ba hh t w => ?_⟩
          · have rk := reck10 h r2 r4 1000 q (Nat.le_refl _) r1 (by omega)
            rw [Nat.sub_self] at rk
            rw [cls, if_neg h1, if_pos h2]
            unfold FTe_behindRun FTe_reckon
            rw [show (48 : Int32) = nI 48 from rfl, show (57 : Int32) = nI 57 from rfl, r6, b1_so2, hsub, if_neg (show ¬ (4 : Int32) < nI (q' - q) from nI_nlt (a := 4) h4 (by omega))]
            rw [show FTe_reckon_L10 (nI q') pb 1000 (nI q) 0 = some (1, nI (dv T q (q' - q))) from rk, b2_so2]
            rfl
          · rw [ref, if_neg h1, if_pos h2, m140, hsub, if_pos (show nI (q' - q) ≤ 4 from nI_le (b := 4) h4 (by omega))]
            have e : (if q' - q < 4 then q' - q else 4) = q' - q := by split <;> omega
            rw [e]
            rfl
        · right
          refine ⟨q, q1, hl, fun tf tp tk tv => ⟨2, nI q', tv, ?_⟩, fun ba hh t w => ⟨nI q', 2, nI (dv T q (if q' - q < 4 then q' - q else 4)), ?_⟩⟩
          · rw [cls, if_neg h1, if_pos h2]
            unfold FTe_behindRun
            rw [show (48 : Int32) = nI 48 from rfl, show (57 : Int32) = nI 57 from rfl, r6, b1_so2, hsub, if_pos (show (4 : Int32) < nI (q' - q) from nI_lt (a := 4) (by omega) (by omega))]
          · rw [ref, if_neg h1, if_pos h2, m140, hsub, if_neg (show ¬ nI (q' - q) ≤ 4 from nI_ge (a := 4) (by omega) (by omega))]
      · by_cases h3 : T q = 45
        · left
          refine ⟨3, q, q + 1, 0, by omega, q1, by omega, by omega, fun _ => by omega, by omega, fun q => by omega, fun tf tp tk tv => ?_, fun ba hh t w => ?_⟩
          · rw [cls, if_neg h1, if_neg h2, if_pos h3]; rfl
          · rw [ref, if_neg h1, if_neg h2, if_pos h3]; rfl
        · by_cases h4 : T q = 59
          · left
            refine ⟨4, q, q + 1, 0, by omega, q1, by omega, by omega, fun _ => by omega, by omega, fun q => by omega, fun tf tp tk tv => ?_, fun ba hh t w => ?_⟩
            · rw [cls, if_neg h1, if_neg h2, if_neg h3, if_pos h4]; rfl
            · rw [ref, if_neg h1, if_neg h2, if_neg h3, if_pos h4]; rfl
          · right
            refine ⟨q, q1, hl, fun tf tp tk tv => ⟨tk, nI q, tv, ?_⟩, fun ba hh t w => ⟨nI (q + 1), 3, 0, ?_⟩⟩
            · rw [cls, if_neg h1, if_neg h2, if_neg h3, if_neg h4]
            · rw [ref, if_neg h1, if_neg h2, if_neg h3, if_neg h4]
  · left
    have : q = n := by omega
    subst this
    refine ⟨0, q, q, 0, by omega, q1, by omega, by omega, fun q => by omega, by omega, fun _ => rfl, fun tf tp tk tv => ?_, fun ba hh t w => ?_⟩
    · unfold FTe_scan
      rw [q4, if_neg (nI_nlt (by omega) (by omega))]
      rfl
    · have hb := byteAt_e h (i := q) (by omega)
      rw [if_neg hl] at hb
      unfold FMo_readsOn
      rw [if_pos z0, q5, hb, b1_so2, if_pos rfl]
      rfl
