/-! layer 2: a line, a text -/
theorem RL_ {m mt me ml : Nat → Int32} {N b ba sp hh t w : Int32} : FMo_readLine m mt N b ba sp hh t w me ml = (b1_ (FMo_nameHere mt N sp hh t me ml) fun r1 =>
    if r1 = (-4 : Int32) then
      b2_ (FMo_fails b ba hh (2 : Int32)) fun w80 w81 =>
      jT mt N w80 w81 hh sp m t w
    else
      if r1 = 0 then
        b7_ (FMo_readJoint m mt N b ba sp hh t w r1) fun w44 w45 w46 w47 w48 w49 w50 => jT mt N w45 w46 w48 w47 w44 w49 w50
      else
        if r1 = (1 : Int32) then
          b7_ (FMo_readJoint m mt N b ba sp hh t w r1) fun w44 w45 w46 w47 w48 w49 w50 => jT mt N w45 w46 w48 w47 w44 w49 w50
        else
          if r1 = (2 : Int32) then
            b7_ (FMo_readBeam m mt N b ba sp hh t w) fun w44 w45 w46 w47 w48 w49 w50 => jT mt N w45 w46 w48 w47 w44 w49 w50
          else
            if r1 = (3 : Int32) then
              b7_ (FMo_readLoad m mt N b ba sp hh t w (1 : Int32)) fun w44 w45 w46 w47 w48 w49 w50 => jT mt N w45 w46 w48 w47 w44 w49 w50
            else
              b7_ (FMo_readLoad m mt N b ba sp hh t w (0 : Int32)) fun w44 w45 w46 w47 w48 w49 w50 => jT mt N w45 w46 w48 w47 w44 w49 w50) := by
  unfold FMo_readLine jT
  simp only [lt_eq2]
theorem TL_ {n q q' c J B L : Nat} {tf tp tv r0 r1 r2 r3 r4 : Int32} {pb dh dc de dl ds db dz dp : Nat → Int32} (h0 : FTe_isWord (nI q) (nI q') pb 0 = some r0) (h1 : FTe_isWord (nI q) (nI q') pb 1 = some r1) (h2 : FTe_isWord (nI q) (nI q') pb 2 = some r2) (h3 : FTe_isWord (nI q) (nI q') pb 3 = some r3) (h4 : FTe_isWord (nI q) (nI q') pb 4 = some r4) : FTe_line tf tp (nI c) (nI q) (nI q') tv pb (nI n) dh dc de dl ds db dz dp (nI J) (nI B) (nI L) = (if nI c = 1 then
      if r0 = 0 then if r1 = 0 then if r2 = 0 then if r3 = 0 then if r4 = 0 then some ((0 : Int32), (2 : Int32), nI q, nI c, nI q, nI q', tv, dh, dc, de, dl, ds, db, dz, dp, nI J, nI B, nI L)
        else b11_ (FTe_loadLine tf tp (nI c) (nI q) (nI q') tv pb (nI n) db dz dp (nI L) (0 : Int32)) fun r16 w17 w18 w19 w20 w21 w22 w23 w24 w25 w26 => some (r16, w17, w18, w19, w20, w21, w22, dh, dc, de, dl, ds, w23, w24, w25, nI J, nI B, w26)
        else b11_ (FTe_loadLine tf tp (nI c) (nI q) (nI q') tv pb (nI n) db dz dp (nI L) (1 : Int32)) fun r16 w17 w18 w19 w20 w21 w22 w23 w24 w25 w26 => some (r16, w17, w18, w19, w20, w21, w22, dh, dc, de, dl, ds, w23, w24, w25, nI J, nI B, w26)
        else b11_ (FTe_beamLine tf tp (nI c) (nI q) (nI q') tv pb (nI n) de dl ds (nI B)) fun r56 w57 w58 w59 w60 w61 w62 w63 w64 w65 w66 => some (r56, w57, w58, w59, w60, w61, w62, dh, dc, w63, w64, w65, db, dz, dp, nI J, w66, nI L)
        else b10_ (FTe_jointLine tf tp (nI c) (nI q) (nI q') tv pb (nI n) dh dc (nI J) (1 : Int32)) fun r76 w77 w78 w79 w80 w81 w82 w83 w84 w85 => some (r76, w77, w78, w79, w80, w81, w82, w83, w84, de, dl, ds, db, dz, dp, w85, nI B, nI L)
        else b10_ (FTe_jointLine tf tp (nI c) (nI q) (nI q') tv pb (nI n) dh dc (nI J) (0 : Int32)) fun r76 w77 w78 w79 w80 w81 w82 w83 w84 w85 => some (r76, w77, w78, w79, w80, w81, w82, w83, w84, de, dl, ds, db, dz, dp, w85, nI B, nI L)
      else some ((0 : Int32), (2 : Int32), nI q, nI c, nI q, nI q', tv, dh, dc, de, dl, ds, db, dz, dp, nI J, nI B, nI L)) := by
  unfold FTe_line FTe_fail
  by_cases hc : nI c = 1
  · simp only [lt_eq2, if_pos hc, h0, h1, h2, h3, h4, b1_so2, b3_so2]
  · simp only [lt_eq2, if_neg hc, b3_so2]
theorem line_s {n : Nat} {T : Nat → Nat} {pb mt me ml : Nat → Int32} (h : TT n T pb mt) (el : EL me ml) {J B L : Nat} {dh dc de dl ds db dz dp m : Nat → Int32} (d : DR J B L dh dc de dl ds db dz dp m) {c q q' : Nat} (hc1 : 1 ≤ c) (hc4 : c ≤ 4) (hq : q < q') (hq' : q' ≤ n) (tf tp tv ba w0 : Int32) : (∃ (s' : Nat) (k' st' v' : Int32) (J' B' L' : Nat) (dh' dc' de' dl' ds' db' dz' dp' m' : Nat → Int32) (ba' hh t w : Int32), q' < s' ∧ s' ≤ n ∧ FTe_line tf tp (nI c) (nI q) (nI q') tv pb (nI n) dh dc de dl ds db dz dp (nI J) (nI B) (nI L) = some (1, tf, tp, k', st', nI s', v', dh', dc', de', dl', ds', db', dz', dp', nI J', nI B', nI L') ∧ FMo_readLine m mt (nI n) 0 ba (nI q') (nI q) (nI (kr c)) w0 me ml = (b6_ (FMo_readsOn mt (nI n) 0 ba' (nI s') hh t w) fun w21 w22 w23 w24 w25 w26 => some (m', w21, w22, w23, w24, w25, w26)) ∧ DR J' B' L' dh' dc' de' dl' ds' db' dz' dp' m' ∧ pgR m m') ∨ (∃ (code place : Nat) (x1 x2 x3 x4 : Int32) (m' : Nat → Int32) (y1 y2 y3 y4 : Int32), 0 < code ∧ code < 1000 ∧ FTe_line tf tp (nI c) (nI q) (nI q') tv pb (nI n) dh dc de dl ds db dz dp (nI J) (nI B) (nI L) = some (0, nI code, nI place, x1, x2, x3, x4, dh, dc, de, dl, ds, db, dz, dp, nI J, nI B, nI L) ∧ FMo_readLine m mt (nI n) 0 ba (nI q') (nI q) (nI (kr c)) w0 me ml = some (m', nI code, nI place, y1, y2, y3, y4) ∧ pgR m m') := by
  have hn := h.1
  have hc2 := c2_ hc4
  obtain ⟨r0, z0, u0, v0⟩ := word_e h el (si := 0) (q := q) (q' := q') (by omega) (by omega) hq'
  obtain ⟨r1, z1, u1, v1⟩ := word_e h el (si := 1) (q := q) (q' := q') (by omega) (by omega) hq'
  obtain ⟨r2, z2, u2, v2⟩ := word_e h el (si := 2) (q := q) (q' := q') (by omega) (by omega) hq'
  obtain ⟨r3, z3, u3, v3⟩ := word_e h el (si := 3) (q := q) (q' := q') (by omega) (by omega) hq'
  obtain ⟨r4, z4, u4, v4⟩ := word_e h el (si := 4) (q := q) (q' := q') (by omega) (by omega) hq'
  rw [TL_ u0 u1 u2 u3 u4, RL_]
  have f2 : ∀ hh : Int32, FMo_fails 0 ba hh 2 = some (2, hh) := fun hh => by unfold FMo_fails; rw [if_pos rfl]
  by_cases hc : c = 1
  · subst hc
    rw [if_pos (show nI 1 = 1 from rfl)]
    have nm : FMo_nameHere mt (nI n) (nI q') (nI q) (nI (kr 1)) me ml = (if r0 = 0 then if r1 = 0 then if r2 = 0 then if r3 = 0 then if r4 = 0 then some (-4) else some (nI 4) else some (nI 3) else some (nI 2) else some (nI 1) else some (nI 0)) := by
      unfold FMo_nameHere
      rw [show (0 : Int32) = nI 0 from rfl, show nI (kr 1) = (1 : Int32) from rfl, v0 999, v1 998, v2 997, v3 996, v4 995, show (995 : Nat) = 994 + 1 from rfl, FMo_nameHere_L2.eq_2, if_pos (show (5 : Int32) ≤ nI (4 + 1) by decide)]
      rfl
    rw [nm]
    by_cases g0 : r0 = 0
    · rw [if_pos g0, if_pos g0]
      by_cases g1 : r1 = 0
      · rw [if_pos g1, if_pos g1]
        by_cases g2 : r2 = 0
        · rw [if_pos g2, if_pos g2]
          by_cases g3 : r3 = 0
          · rw [if_pos g3, if_pos g3]
            by_cases g4 : r4 = 0
            · rw [if_pos g4, if_pos g4, b1_so2, if_pos rfl, f2, b2_so2]
              right
              refine ⟨2, q, _, _, _, _, m, nI q', nI q, nI (kr 1), w0, by omega, by omega, rfl, ?_, fun _ _ => rfl⟩
              exact jT_b (k := 2) (by omega) (by omega)
            · rw [if_neg g4, if_neg g4, b1_so2, if_neg (n4_ 4 (by omega)), if_neg (show ¬ nI 4 = 0 by decide), if_neg (show ¬ nI 4 = 1 by decide), if_neg (show ¬ nI 4 = 2 by decide), if_neg (show ¬ nI 4 = 3 by decide)]
              rcases load_l h d hq hq' (a := 0) (Or.inl rfl) tf tp tv ba w0 with ⟨s', k', st', v', db', dz', dp', m', ba', hh, t, w, y1, y2, y3, y4, y5, y6⟩ | ⟨code, place, x1, x2, x3, x4, m', y1, y2, y3, y4, w1, w2, w3, w4, w5⟩
              · left
                rw [show nI 1 = (1 : Int32) from rfl, y3, b11_so2]
                exact ⟨s', k', st', v', J, B, L + 1, dh, dc, de, dl, ds, db', dz', dp', m', ba', hh, t, w, y1, y2, rfl, y4, y5, y6⟩
              · right
                rw [show nI 1 = (1 : Int32) from rfl, w3, b11_so2]
                exact ⟨code, place, x1, x2, x3, x4, m', y1, y2, y3, y4, w1, w2, rfl, w4, w5⟩
          · rw [if_neg g3, if_neg g3, b1_so2, if_neg (n4_ 3 (by omega)), if_neg (show ¬ nI 3 = 0 by decide), if_neg (show ¬ nI 3 = 1 by decide), if_neg (show ¬ nI 3 = 2 by decide), if_pos (show nI 3 = 3 from rfl)]
            rcases load_l h d hq hq' (a := 1) (Or.inr rfl) tf tp tv ba w0 with ⟨s', k', st', v', db', dz', dp', m', ba', hh, t, w, y1, y2, y3, y4, y5, y6⟩ | ⟨code, place, x1, x2, x3, x4, m', y1, y2, y3, y4, w1, w2, w3, w4, w5⟩
            · left
              rw [show nI 1 = (1 : Int32) from rfl, y3, b11_so2]
              exact ⟨s', k', st', v', J, B, L + 1, dh, dc, de, dl, ds, db', dz', dp', m', ba', hh, t, w, y1, y2, rfl, y4, y5, y6⟩
            · right
              rw [show nI 1 = (1 : Int32) from rfl, w3, b11_so2]
              exact ⟨code, place, x1, x2, x3, x4, m', y1, y2, y3, y4, w1, w2, rfl, w4, w5⟩
        · rw [if_neg g2, if_neg g2, b1_so2, if_neg (n4_ 2 (by omega)), if_neg (show ¬ nI 2 = 0 by decide), if_neg (show ¬ nI 2 = 1 by decide), if_pos (show nI 2 = 2 from rfl)]
          rcases beam_l h d hq hq' tf tp tv ba w0 with ⟨s', k', st', v', de', dl', ds', m', ba', hh, t, w, y1, y2, y3, y4, y5, y6⟩ | ⟨code, place, x1, x2, x3, x4, m', y1, y2, y3, y4, w1, w2, w3, w4, w5⟩
          · left
            rw [show nI 1 = (1 : Int32) from rfl, y3, b11_so2]
            exact ⟨s', k', st', v', J, B + 1, L, dh, dc, de', dl', ds', db, dz, dp, m', ba', hh, t, w, y1, y2, rfl, y4, y5, y6⟩
          · right
            rw [show nI 1 = (1 : Int32) from rfl, w3, b11_so2]
            exact ⟨code, place, x1, x2, x3, x4, m', y1, y2, y3, y4, w1, w2, rfl, w4, w5⟩
      · rw [if_neg g1, if_neg g1, b1_so2, if_neg (n4_ 1 (by omega)), if_neg (show ¬ nI 1 = 0 by decide), if_pos (show nI 1 = 1 from rfl)]
        rcases joint_l h d hq hq' (a := 1) (Or.inr rfl) tf tp tv ba w0 with ⟨s', k', st', v', dh', dc', m', ba', hh, t, w, y1, y2, y3, y4, y5, y6⟩ | ⟨code, place, x1, x2, x3, x4, m', y1, y2, y3, y4, w1, w2, w3, w4, w5⟩
        · left
          rw [show nI 1 = (1 : Int32) from rfl, y3, b10_so2]
          exact ⟨s', k', st', v', J + 1, B, L, dh', dc', de, dl, ds, db, dz, dp, m', ba', hh, t, w, y1, y2, rfl, y4, y5, y6⟩
        · right
          rw [show nI 1 = (1 : Int32) from rfl, w3, b10_so2]
          exact ⟨code, place, x1, x2, x3, x4, m', y1, y2, y3, y4, w1, w2, rfl, w4, w5⟩
    · rw [if_neg g0, if_neg g0, b1_so2, if_neg (n4_ 0 (by omega)), if_pos (show nI 0 = 0 from rfl)]
      rcases joint_l h d hq hq' (a := 0) (Or.inl rfl) tf tp tv ba w0 with ⟨s', k', st', v', dh', dc', m', ba', hh, t, w, y1, y2, y3, y4, y5, y6⟩ | ⟨code, place, x1, x2, x3, x4, m', y1, y2, y3, y4, w1, w2, w3, w4, w5⟩
      · left
        rw [show nI 1 = (1 : Int32) from rfl, y3, b10_so2]
        exact ⟨s', k', st', v', J + 1, B, L, dh', dc', de, dl, ds, db, dz, dp, m', ba', hh, t, w, y1, y2, rfl, y4, y5, y6⟩
      · right
        rw [show nI 1 = (1 : Int32) from rfl, w3, b10_so2]
        exact ⟨code, place, x1, x2, x3, x4, m', y1, y2, y3, y4, w1, w2, rfl, w4, w5⟩
  · have k1 : ¬ nI c = 1 := fun q => hc (hc2.2.2.2.2.2.2.2.2.1.mp q)
    have k2 : ¬ nI (kr c) = 1 := fun q => hc (hc2.2.2.2.2.2.2.2.2.2.mp q)
    have nm : FMo_nameHere mt (nI n) (nI q') (nI q) (nI (kr c)) me ml = some (-4) := by
      unfold FMo_nameHere
      rw [show (1000 : Nat) = 999 + 1 from rfl, FMo_nameHere_L2.eq_2, if_neg (by decide), if_neg k2]
    rw [if_neg k1, nm, b1_so2, if_pos rfl, f2, b2_so2]
    right
    refine ⟨2, q, _, _, _, _, m, nI q', nI q, nI (kr c), w0, by omega, by omega, rfl, ?_, fun _ _ => rfl⟩
    exact jT_b (k := 2) (by omega) (by omega)
