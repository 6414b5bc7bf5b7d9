/-! layer 2: a line of a BEAM -/
def mX (m : Nat → Int32) (B : Nat) (a b c d : Int32) : Nat → Int32 := upd (upd (upd (upd (upd m (249 + B) a) (259 + B) b) (269 + B) c) (279 + B) d) 314 (nI (B + 1))
def bT4 (m : Nat → Int32) (B : Nat) (mt : Nat → Int32) (N r12 r25 w36 w37 w28 w29 w30 w31 : Int32) : Option ((Nat → Int32) × Int32 × Int32 × Int32 × Int32 × Int32 × Int32) :=
  b7_ (FMo_numberRead mt N w36 w37 w28 w29 w30 w31 (1 : Int32) (12 : Int32)) fun r38 w39 w40 w41 w42 w43 w44 =>
  b7_ (FMo_numberRead mt N w39 w40 w41 w42 w43 w44 (1 : Int32) (10 : Int32)) fun r49 w50 w51 w52 w53 w54 w55 =>
  some (mX m B r12 r25 r38 r49, w50, w51, w52, w53, w54, w55)
def bT3 (m : Nat → Int32) (B : Nat) (mt : Nat → Int32) (N r12 w21 w22 w15 w16 w17 w18 : Int32) : Option ((Nat → Int32) × Int32 × Int32 × Int32 × Int32 × Int32 × Int32) :=
  b7_ (FMo_numberRead mt N w21 w22 w15 w16 w17 w18 (0 : Int32) (5 : Int32)) fun r25 w26 w27 w28 w29 w30 w31 =>
      if w26 = 0 then
        if w30 = (2 : Int32) then
          b1_ (FMo_isLength w31) fun r67 =>
          if r67 = 0 then
            b2_ (FMo_fails w26 w27 w29 (3 : Int32)) fun w71 w72 =>
            bT4 m B mt N r12 r25 w71 w72 w28 w29 w30 w31
          else
            bT4 m B mt N r12 r25 w26 w27 w28 w29 w30 w31
        else
          bT4 m B mt N r12 r25 w26 w27 w28 w29 w30 w31
      else
        bT4 m B mt N r12 r25 w26 w27 w28 w29 w30 w31
theorem bT4_b {m mt : Nat → Int32} {B k : Nat} {N r12 r25 ba sp hh t w : Int32} (hk : 0 < k) (hk2 : k < 1000) : bT4 m B mt N r12 r25 (nI k) ba sp hh t w = some (mX m B r12 r25 1 1, nI k, ba, sp, hh, t, w) := by
  unfold bT4
  rw [numR_b hk hk2, b7_so2, numR_b hk hk2, b7_so2]
theorem bT3_b {m mt : Nat → Int32} {B k : Nat} {N r12 ba sp hh t w : Int32} (hk : 0 < k) (hk2 : k < 1000) : bT3 m B mt N r12 (nI k) ba sp hh t w = some (mX m B r12 0 1 1, nI k, ba, sp, hh, t, w) := by
  unfold bT3
  rw [numR_b hk hk2, b7_so2, if_neg (nI_ne0 hk (by omega)), bT4_b hk hk2]
theorem mX_pg {m : Nat → Int32} {B : Nat} (hB : B < 10) (a b c d : Int32) : pgR m (mX m B a b c d) := fun y hy => by
  unfold mX
  rw [pk_un (by omega), pk_un (by omega), pk_un (by omega), pk_un (by omega), pk_un (by omega)]
theorem isLen_e : ∀ v : Nat, v < 13 → FMo_isLength (nI v) = some (if v = 1 ∨ v = 2 ∨ v = 3 ∨ v = 4 ∨ v = 6 ∨ v = 12 then 1 else 0) := by decide +kernel
theorem isLen_b {v : Nat} (h1 : 13 ≤ v) (h2 : v < 100000) : FMo_isLength (nI v) = some 0 := by
  unfold FMo_isLength
  rw [if_neg (nI_nle (by omega) (by omega)), if_pos (show (13 : Int32) ≤ nI v from nI_le (a := 13) h1 (by omega))]
theorem len_12 : ∀ v : Nat, v < 13 → 1 ≤ v → (((12 : Int32) - (12 : Int32) / nI v * nI v) = 0 ↔ (v = 1 ∨ v = 2 ∨ v = 3 ∨ v = 4 ∨ v = 6 ∨ v = 12)) := by decide +kernel
theorem beam_l {n : Nat} {T : Nat → Nat} {pb mt : Nat → Int32} (h : TT n T pb mt) {J B L : Nat} {dh dc de dl ds db dz dp m : Nat → Int32} (d : DR J B L dh dc de dl ds db dz dp m) {q0 q0' : Nat} (hq0 : q0 < q0') (hq0' : q0' ≤ n) (tf tp tv ba w0 : Int32) : (∃ (s' : Nat) (k' st' v' : Int32) (de' dl' ds' m' : Nat → Int32) (ba' hh t w : Int32), q0' < s' ∧ s' ≤ n ∧ FTe_beamLine tf tp 1 (nI q0) (nI q0') tv pb (nI n) de dl ds (nI B) = some (1, tf, tp, k', st', nI s', v', de', dl', ds', nI (B + 1)) ∧ (b7_ (FMo_readBeam m mt (nI n) 0 ba (nI q0') (nI q0) 1 w0) fun w44 w45 w46 w47 w48 w49 w50 => jT mt (nI n) w45 w46 w48 w47 w44 w49 w50) = (b6_ (FMo_readsOn mt (nI n) 0 ba' (nI s') hh t w) fun w21 w22 w23 w24 w25 w26 => some (m', w21, w22, w23, w24, w25, w26)) ∧ DR J (B + 1) L dh dc de' dl' ds' db dz dp m' ∧ pgR m m') ∨ (∃ (code place : Nat) (x1 x2 x3 x4 : Int32) (m' : Nat → Int32) (y1 y2 y3 y4 : Int32), 0 < code ∧ code < 1000 ∧ FTe_beamLine tf tp 1 (nI q0) (nI q0') tv pb (nI n) de dl ds (nI B) = some (0, nI code, nI place, x1, x2, x3, x4, de, dl, ds, nI B) ∧ (b7_ (FMo_readBeam m mt (nI n) 0 ba (nI q0') (nI q0) 1 w0) fun w44 w45 w46 w47 w48 w49 w50 => jT mt (nI n) w45 w46 w48 w47 w44 w49 w50) = some (m', nI code, nI place, y1, y2, y3, y4) ∧ pgR m m') := by
  have hn := h.1
  have hB10 := d.1.2.1
  have mB : m 314 = nI B := d.1.2.2.2.2.1
  by_cases hB : B = 10
  · right
    refine ⟨5, q0, 1, nI q0, nI q0', tv, m, nI q0', nI q0, 1, w0, by omega, by omega, ?_, ?_, fun _ _ => rfl⟩
    · unfold FTe_beamLine FTe_fail
      rw [if_neg (show ¬ nI B < 10 from nI_nlt (b := 10) (by omega) (by omega)), b3_so2]
      rfl
    · unfold FMo_readBeam FMo_fails
      simp only [g314, c314, mB, lt_eq2]
      rw [if_pos (show nI B = 10 from by rw [hB]; rfl)]
      simp only [if_true, b2_so2, b7_so2]
      exact jT_b (k := 5) (by omega) (by omega)
  have hB9 : B < 10 := by omega
  have R : FMo_readBeam m mt (nI n) 0 ba (nI q0') (nI q0) 1 w0 = (b6_ (FMo_readsOn mt (nI n) 0 ba (nI q0') (nI q0) 1 w0) fun w4 w5 w6 w7 w8 w9 =>
    b7_ (FMo_numberRead mt (nI n) w4 w5 w6 w7 w8 w9 (0 : Int32) (5 : Int32)) fun r12 w13 w14 w15 w16 w17 w18 =>
    if w13 = 0 then
      if w17 = (2 : Int32) then
        if w18 = r12 then
          b2_ (FMo_fails w13 w14 w16 (4 : Int32)) fun w80 w81 =>
          bT3 m B mt (nI n) r12 w80 w81 w15 w16 w17 w18
        else
          bT3 m B mt (nI n) r12 w13 w14 w15 w16 w17 w18
      else
        bT3 m B mt (nI n) r12 w13 w14 w15 w16 w17 w18
    else
      bT3 m B mt (nI n) r12 w13 w14 w15 w16 w17 w18) := by
    have k1 : ∀ a b c e : Int32, upd (upd (upd (upd m (249 + B) a) (259 + B) b) (269 + B) c) (279 + B) e 314 = nI B := fun a b c e => by rw [pk_un (by omega), pk_un (by omega), pk_un (by omega), pk_un (by omega), mB]
    have gA : ∀ {α : Type} {k : Option α}, gd_ (nI (249 + B)) 395 k = k := fun {α k} => nI_gd (by omega) (by omega)
    have gB : ∀ {α : Type} {k : Option α}, gd_ (nI (259 + B)) 395 k = k := fun {α k} => nI_gd (by omega) (by omega)
    have gC : ∀ {α : Type} {k : Option α}, gd_ (nI (269 + B)) 395 k = k := fun {α k} => nI_gd (by omega) (by omega)
    have gD : ∀ {α : Type} {k : Option α}, gd_ (nI (279 + B)) 395 k = k := fun {α k} => nI_gd (by omega) (by omega)
    have cA := nI_clamp (n := 249 + B) (by omega)
    have cB := nI_clamp (n := 259 + B) (by omega)
    have cC := nI_clamp (n := 269 + B) (by omega)
    have cD := nI_clamp (n := 279 + B) (by omega)
    have aA : (249 : Int32) + nI B = nI (249 + B) := nI_add 249 B
    have aB : (259 : Int32) + nI B = nI (259 + B) := nI_add 259 B
    have aC : (269 : Int32) + nI B = nI (269 + B) := nI_add 269 B
    have aD : (279 : Int32) + nI B = nI (279 + B) := nI_add 279 B
    unfold FMo_readBeam
    simp only [g314, c314, mB, aA, aB, aC, aD, gA, gB, gC, gD, cA, cB, cC, cD, k1, nI_1, lt_eq2]
    rw [if_neg (show ¬ nI B = 10 from fun q => hB ((nI_eq (b := 10) (by omega) (by omega)).mp q))]
    rfl
  unfold FTe_beamLine FTe_fail
  rw [R, if_pos (show nI B < 10 from nI_lt (b := 10) hB9 (by omega))]
  /- a broken text goes through -/
  rcases num_s h (lo := 0) (hi := 5) hq0' (by omega) (by omega) with ⟨q1, q1', x, a1, a2, a3, a4, a5, a6, a7⟩ | ⟨q, code, v, sp, t', v', a1, a2, a3, a4, a5, a6, a7⟩ | ⟨q, a1, a2, a3, a4⟩
  rotate_left 1
  · right
    obtain ⟨x1, x2, x3, x4, e1⟩ := a4 tf tp 1 tv
    have e1' : FTe_number tf tp 1 (nI q0') tv pb (nI n) (0 : Int32) (5 : Int32) = _ := e1
    have e2 : FMo_numberRead mt (nI n) 0 ba sp (nI q) t' v' (0 : Int32) (5 : Int32) = _ := a6 ba
    rw [e1', a5, b7_so2, b6_so2, if_pos rfl, e2, b7_so2, if_neg (nI_ne0 (n := code) (by omega) (by omega)), bT3_b (k := code) (by omega) (by omega), b7_so2, jT_b (k := code) (by omega) (by omega)]
    exact ⟨code, q, _, _, _, _, _, _, _, _, _, by omega, by omega, rfl, rfl, mX_pg hB9 _ _ _ _⟩
  · right
    obtain ⟨x1, x2, x3, x4, e1⟩ := a3 tf tp 1 tv
    have e1' : FTe_number tf tp 1 (nI q0') tv pb (nI n) (0 : Int32) (5 : Int32) = _ := e1
    obtain ⟨y1, y2, y3, e2⟩ := a4 ba (nI q0) 1 w0
    rw [e1', e2, b7_so2, b6_so2, if_pos rfl, show (1 : Int32) = nI 1 from rfl, numR_b (k := 1) (by omega) (by omega), b7_so2, if_neg (nI_ne0 (n := 1) (by omega) (by omega)), bT3_b (k := 1) (by omega) (by omega), b7_so2, jT_b (k := 1) (by omega) (by omega)]
    exact ⟨1, q, _, _, _, _, _, _, _, _, _, by omega, by omega, rfl, rfl, mX_pg hB9 _ _ _ _⟩
  have n1 : FTe_number tf tp 1 (nI q0') tv pb (nI n) (0 : Int32) (5 : Int32) = _ := a6 tf tp 1 tv
  have r1 : FMo_numberRead mt (nI n) 0 ba (nI q1') (nI q1) 2 (nI x) (0 : Int32) (5 : Int32) = _ := numR_ok (mt := mt) (N := nI n) (ba := ba) (sp := nI q1') (hh := nI q1) (v := x) (lo := 0) (hi := 5) (by omega) (by omega) (by omega) ⟨a4, a5⟩
  rw [n1, a7, b7_so2, b6_so2, if_neg (c := (1 : Int32) = 0) (by decide), r1]
  rcases num_s h (s := q1') (lo := 0) (hi := 5) a3 (by omega) (by omega) with ⟨q2, q2', y, b1, b2, b3, b4, b5, b6, b7⟩ | ⟨q, code, v, sp, t', v', b1, b2, b3, b4, b5, b6, b7⟩ | ⟨q, b1, b2, b3, b4⟩
  rotate_left 1
  · right
    obtain ⟨x1, x2, x3, x4, e1⟩ := b4 tf tp 2 (nI x)
    have e1' : FTe_number tf tp 2 (nI q1') (nI x) pb (nI n) (0 : Int32) (5 : Int32) = _ := e1
    have e2 : FMo_numberRead mt (nI n) 0 ba sp (nI q) t' v' (0 : Int32) (5 : Int32) = _ := b6 ba
    have e3 : bT3 m B mt (nI n) (nI x) 0 ba sp (nI q) t' v' = some (mX m B (nI x) 0 1 1, nI code, nI q, sp, nI q, t', v') := by
      unfold bT3
      rw [e2, b7_so2, if_neg (nI_ne0 (n := code) (by omega) (by omega)), bT4_b (k := code) (by omega) (by omega)]
      rfl
    have e4 : (if t' = (2 : Int32) then if v' = nI x then b2_ (FMo_fails 0 ba (nI q) (4 : Int32)) fun w80 w81 => bT3 m B mt (nI n) (nI x) w80 w81 sp (nI q) t' v' else bT3 m B mt (nI n) (nI x) 0 ba sp (nI q) t' v' else bT3 m B mt (nI n) (nI x) 0 ba sp (nI q) t' v') = some (mX m B (nI x) 0 1 1, nI code, nI q, sp, nI q, t', v') := by
      rcases b7 with ⟨g1, g2⟩ | ⟨g1, g2, g3, g4, g5⟩
      · rw [if_neg g1, e3]
      · rw [if_pos g1, if_neg (by rw [g4, nI_eq (by omega) (by omega)]; omega), e3]
    rw [e1', b5, b7_so2, b6_so2, if_pos rfl, b7_so2, if_pos (c := (0 : Int32) = 0) rfl, e4, b7_so2, jT_b (k := code) (by omega) (by omega)]
    exact ⟨code, q, _, _, _, _, _, _, _, _, _, by omega, by omega, rfl, rfl, mX_pg hB9 _ _ _ _⟩
  · right
    obtain ⟨x1, x2, x3, x4, e1⟩ := b3 tf tp 2 (nI x)
    have e1' : FTe_number tf tp 2 (nI q1') (nI x) pb (nI n) (0 : Int32) (5 : Int32) = _ := e1
    obtain ⟨y1, y2, y3, e2⟩ := b4 ba (nI q1) 2 (nI x)
    rw [e1', e2, b7_so2, b6_so2, if_pos rfl, b7_so2, if_neg (c := (1 : Int32) = 0) (by decide), show (1 : Int32) = nI 1 from rfl, bT3_b (k := 1) (by omega) (by omega), b7_so2, jT_b (k := 1) (by omega) (by omega)]
    exact ⟨1, q, _, _, _, _, _, _, _, _, _, by omega, by omega, rfl, rfl, mX_pg hB9 _ _ _ _⟩
  have n2 : FTe_number tf tp 2 (nI q1') (nI x) pb (nI n) (0 : Int32) (5 : Int32) = _ := b6 tf tp 2 (nI x)
  rw [n2, b7, b7_so2, b6_so2, if_neg (c := (1 : Int32) = 0) (by decide), b7_so2, if_pos (c := (0 : Int32) = 0) rfl, if_pos (c := (2 : Int32) = 2) rfl]
  by_cases hxy : y = x
  · right
    subst hxy
    unfold FMo_fails
    rw [if_pos rfl, b3_so2, if_pos rfl, if_pos rfl, b2_so2, show (4 : Int32) = nI 4 from rfl, bT3_b (k := 4) (by omega) (by omega), b7_so2, jT_b (k := 4) (by omega) (by omega)]
    exact ⟨4, q2, _, _, _, _, _, _, _, _, _, by omega, by omega, rfl, rfl, mX_pg hB9 _ _ _ _⟩
  have hxy2 : ¬ nI y = nI x := by rw [nI_eq (by omega) (by omega)]; exact hxy
  have r2 : FMo_numberRead mt (nI n) 0 ba (nI q2') (nI q2) 2 (nI y) (0 : Int32) (5 : Int32) = _ := numR_ok (mt := mt) (N := nI n) (ba := ba) (sp := nI q2') (hh := nI q2) (v := y) (lo := 0) (hi := 5) (by omega) (by omega) (by omega) ⟨b4, b5⟩
  rw [if_neg hxy2, if_neg hxy2]
  unfold bT3
  rw [r2]
  rcases num_s h (s := q2') (lo := 1) (hi := 12) b3 (by omega) (by omega) with ⟨q3, q3', k, c1, c2, c3, c4, c5, c6, c7⟩ | ⟨q, code, v, sp, t', v', c1, c2, c3, c4, c5, c6, c7⟩ | ⟨q, c1, c2, c3, c4⟩
  rotate_left 1
  · right
    obtain ⟨x1, x2, x3, x4, e1⟩ := c4 tf tp 2 (nI y)
    have e1' : FTe_number tf tp 2 (nI q2') (nI y) pb (nI n) (1 : Int32) (12 : Int32) = _ := e1
    have e2 : FMo_numberRead mt (nI n) 0 ba sp (nI q) t' v' (1 : Int32) (12 : Int32) = _ := c6 ba
    have e3 : bT4 m B mt (nI n) (nI x) (nI y) 0 ba sp (nI q) t' v' = some (mX m B (nI x) (nI y) 1 1, nI code, nI q, sp, nI q, t', v') := by
      unfold bT4
      rw [e2, b7_so2, numR_b (k := code) (by omega) (by omega), b7_so2]
      rfl
    have e4 : (if t' = (2 : Int32) then b1_ (FMo_isLength v') fun r67 => if r67 = 0 then b2_ (FMo_fails 0 ba (nI q) (3 : Int32)) fun w71 w72 => bT4 m B mt (nI n) (nI x) (nI y) w71 w72 sp (nI q) t' v' else bT4 m B mt (nI n) (nI x) (nI y) 0 ba sp (nI q) t' v' else bT4 m B mt (nI n) (nI x) (nI y) 0 ba sp (nI q) t' v') = some (mX m B (nI x) (nI y) 1 1, nI code, nI q, sp, nI q, t', v') := by
      rcases c7 with ⟨g1, g2⟩ | ⟨g1, g2, g3, g4, g5⟩
      · rw [if_neg g1, e3]
      · have hlen : FMo_isLength (nI v) = some 0 := by
          by_cases hv : v < 13
          · rw [isLen_e v hv, if_neg (by omega)]
          · exact isLen_b (by omega) (by omega)
        unfold FMo_fails
        rw [if_pos g1, g4, hlen, b1_so2, if_pos rfl, if_pos rfl, b2_so2, show (3 : Int32) = nI 3 from rfl, bT4_b (k := 3) (by omega) (by omega), g2]
    rw [e1', c5, b7_so2, b6_so2, if_pos rfl, b7_so2, if_pos (c := (0 : Int32) = 0) rfl, e4, b7_so2, jT_b (k := code) (by omega) (by omega)]
    exact ⟨code, q, _, _, _, _, _, _, _, _, _, by omega, by omega, rfl, rfl, mX_pg hB9 _ _ _ _⟩
  · right
    obtain ⟨x1, x2, x3, x4, e1⟩ := c3 tf tp 2 (nI y)
    have e1' : FTe_number tf tp 2 (nI q2') (nI y) pb (nI n) (1 : Int32) (12 : Int32) = _ := e1
    obtain ⟨y1, y2, y3, e2⟩ := c4 ba (nI q2) 2 (nI y)
    rw [e1', e2, b7_so2, b6_so2, if_pos rfl, b7_so2, if_neg (c := (1 : Int32) = 0) (by decide), show (1 : Int32) = nI 1 from rfl, bT4_b (k := 1) (by omega) (by omega), b7_so2, jT_b (k := 1) (by omega) (by omega)]
    exact ⟨1, q, _, _, _, _, _, _, _, _, _, by omega, by omega, rfl, rfl, mX_pg hB9 _ _ _ _⟩
  have n3 : FTe_number tf tp 2 (nI q2') (nI y) pb (nI n) (1 : Int32) (12 : Int32) = _ := c6 tf tp 2 (nI y)
  rw [n3, c7, b7_so2, b6_so2, if_neg (c := (1 : Int32) = 0) (by decide), b7_so2, if_pos (c := (0 : Int32) = 0) rfl, if_pos (c := (2 : Int32) = 2) rfl, if_neg (show ¬ nI k < 1 from nI_nlt (b := 1) (by omega) (by omega)), dz_ne (nI_ne0 (by omega) (by omega)), isLen_e k (by omega), b1_so2]
  by_cases hk : k = 1 ∨ k = 2 ∨ k = 3 ∨ k = 4 ∨ k = 6 ∨ k = 12
  rotate_left 1
  · right
    unfold FMo_fails
    rw [if_neg (fun q => hk ((len_12 k (by omega) c4).mp q)), b3_so2, if_neg hk, if_pos rfl, if_pos rfl, b2_so2, show (3 : Int32) = nI 3 from rfl, bT4_b (k := 3) (by omega) (by omega), b7_so2, jT_b (k := 3) (by omega) (by omega)]
    exact ⟨3, q3, _, _, _, _, _, _, _, _, _, by omega, by omega, rfl, rfl, mX_pg hB9 _ _ _ _⟩
  have r3 : FMo_numberRead mt (nI n) 0 ba (nI q3') (nI q3) 2 (nI k) (1 : Int32) (12 : Int32) = _ := numR_ok (mt := mt) (N := nI n) (ba := ba) (sp := nI q3') (hh := nI q3) (v := k) (lo := 1) (hi := 12) (by omega) (by omega) (by omega) ⟨c4, c5⟩
  rw [if_pos ((len_12 k (by omega) c4).mpr hk), if_pos hk, if_neg (c := (1 : Int32) = 0) (by decide)]
  unfold bT4
  rw [r3]
  rcases num_s h (s := q3') (lo := 1) (hi := 10) c3 (by omega) (by omega) with ⟨q4, q4', s, d1, d2, d3, d4, d5, d6, d7⟩ | ⟨q, code, v, sp, t', v', d1, d2, d3, d4, d5, d6, d7⟩ | ⟨q, d1, d2, d3, d4⟩
  rotate_left 1
  · right
    obtain ⟨x1, x2, x3, x4, e1⟩ := d4 tf tp 2 (nI k)
    have e1' : FTe_number tf tp 2 (nI q3') (nI k) pb (nI n) (1 : Int32) (10 : Int32) = _ := e1
    have e2 : FMo_numberRead mt (nI n) 0 ba sp (nI q) t' v' (1 : Int32) (10 : Int32) = _ := d6 ba
    rw [e1', d5, b7_so2, b6_so2, if_pos rfl, b7_so2, e2, b7_so2, b7_so2, jT_b (k := code) (by omega) (by omega)]
    exact ⟨code, q, _, _, _, _, _, _, _, _, _, by omega, by omega, rfl, rfl, mX_pg hB9 _ _ _ _⟩
  · right
    obtain ⟨x1, x2, x3, x4, e1⟩ := d3 tf tp 2 (nI k)
    have e1' : FTe_number tf tp 2 (nI q3') (nI k) pb (nI n) (1 : Int32) (10 : Int32) = _ := e1
    obtain ⟨y1, y2, y3, e2⟩ := d4 ba (nI q3) 2 (nI k)
    rw [e1', e2, b7_so2, b6_so2, if_pos rfl, b7_so2, show (1 : Int32) = nI 1 from rfl, numR_b (k := 1) (by omega) (by omega), b7_so2, b7_so2, jT_b (k := 1) (by omega) (by omega)]
    exact ⟨1, q, _, _, _, _, _, _, _, _, _, by omega, by omega, rfl, rfl, mX_pg hB9 _ _ _ _⟩
  have n4 : FTe_number tf tp 2 (nI q3') (nI k) pb (nI n) (1 : Int32) (10 : Int32) = _ := d6 tf tp 2 (nI k)
  have r4 : FMo_numberRead mt (nI n) 0 ba (nI q4') (nI q4) 2 (nI s) (1 : Int32) (10 : Int32) = _ := numR_ok (mt := mt) (N := nI n) (ba := ba) (sp := nI q4') (hh := nI q4) (v := s) (lo := 1) (hi := 10) (by omega) (by omega) (by omega) ⟨d4, d5⟩
  rw [n4, d7, b7_so2, b6_so2, if_neg (c := (1 : Int32) = 0) (by decide), b7_so2, r4]
  rcases semi_s h (s := q4') d3 with ⟨p, p', v', s1, s2, s3, s4, s5⟩ | ⟨p, sp, t', v', s1, s2, s3, s4, s5⟩ | ⟨p, s1, s2, s3, s4⟩
  · left
    obtain ⟨u, e1⟩ := s4 tf tp 2 (nI s)
    have hadd : FFr_addBeam de dl ds (nI B) (nI x) (nI y) (nI k) (nI s) = some (upd (upd de (2 * B) (nI x)) (2 * B + 1) (nI y), upd dl B (nI k), upd ds B (nI s), nI (B + 1)) := by
      unfold FFr_addBeam
      rw [if_neg (show ¬ (10 : Int32) ≤ nI B from nI_ge (b := 10) hB9 (by omega)), m2_, nI_1]
      simp (disch := omega) only [nI_gd, nI_clamp, lt_eq2, nI_1]
    rw [e1, b7_so2, if_neg (c := (1 : Int32) = 0) (by decide), hadd, b4_some, s5, b6_so2, b7_so2, b7_so2, jT_3]
    exact ⟨p', _, _, _, _, _, _, _, _, _, _, _, by omega, s3, rfl, rfl, DR_beam d hB9 a5 b5 (fun q => hxy q.symm) hk ⟨d4, d5⟩, mX_pg hB9 _ _ _ _⟩
  · right
    obtain ⟨x1, y1, z1, u1, e1⟩ := s3 tf tp 2 (nI s)
    rw [e1, b7_so2, if_pos rfl, s4, b6_so2, b7_so2, b7_so2, jT_2 s5]
    exact ⟨2, p, _, _, _, _, _, _, _, _, _, by omega, by omega, rfl, rfl, mX_pg hB9 _ _ _ _⟩
  · right
    obtain ⟨x1, y1, z1, u1, e1⟩ := s3 tf tp 2 (nI s)
    obtain ⟨x2, y2, z2, e2⟩ := s4 ba (nI q4) 2 (nI s)
    rw [e1, b7_so2, if_pos rfl, e2, b6_so2, b7_so2, b7_so2, show (1 : Int32) = nI 1 from rfl, jT_b (k := 1) (by omega) (by omega)]
    exact ⟨1, p, _, _, _, _, _, _, _, _, _, by omega, by omega, rfl, rfl, mX_pg hB9 _ _ _ _⟩
