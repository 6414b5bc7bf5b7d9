/-! layer 2: a line of a LOAD -/
def mY (m : Nat → Int32) (L : Nat) (a b c : Int32) : Nat → Int32 := upd (upd (upd (upd m (289 + L) a) (297 + L) b) (305 + L) c) 315 (nI (L + 1))
theorem mY_pg {m : Nat → Int32} {L : Nat} (hL : L < 8) (a b c : Int32) : pgR m (mY m L a b c) := fun y hy => by
  unfold mY
  rw [pk_un (by omega), pk_un (by omega), pk_un (by omega), pk_un (by omega)]
def lT3 (m : Nat → Int32) (L : Nat) (mt : Nat → Int32) (N a r12 r24 w25 w26 w27 w28 w29 w30 : Int32) : Option ((Nat → Int32) × Int32 × Int32 × Int32 × Int32 × Int32 × Int32) :=
  if a = 0 then
    some (mY m L r12 r24 0, w25, w26, w27, w28, w29, w30)
  else
    b7_ (FMo_numberRead mt N w25 w26 w27 w28 w29 w30 (1 : Int32) (11 : Int32)) fun r41 w42 w43 w44 w45 w46 w47 =>
    some (mY m L r12 r24 r41, w42, w43, w44, w45, w46, w47)
theorem lT3_b {m mt : Nat → Int32} {L k : Nat} {N a r12 r24 ba sp hh t w : Int32} (hk : 0 < k) (hk2 : k < 1000) : ∃ x, lT3 m L mt N a r12 r24 (nI k) ba sp hh t w = some (mY m L r12 r24 x, nI k, ba, sp, hh, t, w) := by
  unfold lT3
  by_cases h : a = 0
  · rw [if_pos h]; exact ⟨0, rfl⟩
  · rw [if_neg h, numR_b hk hk2, b7_so2]; exact ⟨1, rfl⟩
theorem load_l {n : Nat} {T : Nat → Nat} {pb mt : Nat → Int32} (h : TT n T pb mt) {J B L : Nat} {dh dc de dl ds db dz dp m : Nat → Int32} (d : DR J B L dh dc de dl ds db dz dp m) {q0 q0' : Nat} (hq0 : q0 < q0') (hq0' : q0' ≤ n) {a : Int32} (ha : a = 0 ∨ a = 1) (tf tp tv ba w0 : Int32) : (∃ (s' : Nat) (k' st' v' : Int32) (db' dz' dp' m' : Nat → Int32) (ba' hh t w : Int32), q0' < s' ∧ s' ≤ n ∧ FTe_loadLine tf tp 1 (nI q0) (nI q0') tv pb (nI n) db dz dp (nI L) a = some (1, tf, tp, k', st', nI s', v', db', dz', dp', nI (L + 1)) ∧ (b7_ (FMo_readLoad m mt (nI n) 0 ba (nI q0') (nI q0) 1 w0 a) fun w44 w45 w46 w47 w48 w49 w50 => jT mt (nI n) w45 w46 w48 w47 w44 w49 w50) = (b6_ (FMo_readsOn mt (nI n) 0 ba' (nI s') hh t w) fun w21 w22 w23 w24 w25 w26 => some (m', w21, w22, w23, w24, w25, w26)) ∧ DR J B (L + 1) dh dc de dl ds db' dz' dp' m' ∧ pgR m m') ∨ (∃ (code place : Nat) (x1 x2 x3 x4 : Int32) (m' : Nat → Int32) (y1 y2 y3 y4 : Int32), 0 < code ∧ code < 1000 ∧ FTe_loadLine tf tp 1 (nI q0) (nI q0') tv pb (nI n) db dz dp (nI L) a = some (0, nI code, nI place, x1, x2, x3, x4, db, dz, dp, nI L) ∧ (b7_ (FMo_readLoad m mt (nI n) 0 ba (nI q0') (nI q0) 1 w0 a) fun w44 w45 w46 w47 w48 w49 w50 => jT mt (nI n) w45 w46 w48 w47 w44 w49 w50) = some (m', nI code, nI place, y1, y2, y3, y4) ∧ pgR m m') := by
  have hn := h.1
  have hL8 := d.1.2.2.1
  have mL : m 315 = nI L := d.1.2.2.2.2.2.1
  by_cases hL : L = 8
  · right
    refine ⟨5, q0, 1, nI q0, nI q0', tv, m, nI q0', nI q0, 1, w0, by omega, by omega, ?_, ?_, fun _ _ => rfl⟩
    · unfold FTe_loadLine FTe_fail
      rw [if_neg (show ¬ nI L < 8 from nI_nlt (b := 8) (by omega) (by omega)), b3_so2]
      rfl
    · unfold FMo_readLoad FMo_fails
      simp only [g315, c315, mL, lt_eq2]
      rw [if_pos (show nI L = 8 from by rw [hL]; rfl)]
      simp only [if_true, b2_so2, b7_so2]
      exact jT_b (k := 5) (by omega) (by omega)
  have hL7 : L < 8 := by omega
  obtain ⟨u, hu1, hu2, hu3⟩ : ∃ u : Nat, (a = 0 → u = 99) ∧ (a = 1 → u = 999) ∧ u < 1000 := by
    rcases ha with rfl | rfl
    · exact ⟨99, fun _ => rfl, fun q => absurd q (by decide), by omega⟩
    · exact ⟨999, fun q => absurd q (by decide), fun _ => rfl, by omega⟩
  have R : FMo_readLoad m mt (nI n) 0 ba (nI q0') (nI q0) 1 w0 a = (b6_ (FMo_readsOn mt (nI n) 0 ba (nI q0') (nI q0) 1 w0) fun w4 w5 w6 w7 w8 w9 =>
    b7_ (FMo_numberRead mt (nI n) w4 w5 w6 w7 w8 w9 (0 : Int32) (9 : Int32)) fun r12 w13 w14 w15 w16 w17 w18 =>
    b7_ (FMo_numberRead mt (nI n) w13 w14 w15 w16 w17 w18 (1 : Int32) (nI u)) fun r24 w25 w26 w27 w28 w29 w30 =>
    lT3 m L mt (nI n) a r12 r24 w25 w26 w27 w28 w29 w30) := by
    have k1 : ∀ a b c : Int32, upd (upd (upd m (289 + L) a) (297 + L) b) (305 + L) c 315 = nI L := fun a b c => by rw [pk_un (by omega), pk_un (by omega), pk_un (by omega), mL]
    have gA : ∀ {α : Type} {k : Option α}, gd_ (nI (289 + L)) 395 k = k := fun {α k} => nI_gd (by omega) (by omega)
    have gB : ∀ {α : Type} {k : Option α}, gd_ (nI (297 + L)) 395 k = k := fun {α k} => nI_gd (by omega) (by omega)
    have gC : ∀ {α : Type} {k : Option α}, gd_ (nI (305 + L)) 395 k = k := fun {α k} => nI_gd (by omega) (by omega)
    have cA := nI_clamp (n := 289 + L) (by omega)
    have cB := nI_clamp (n := 297 + L) (by omega)
    have cC := nI_clamp (n := 305 + L) (by omega)
    have aA : (289 : Int32) + nI L = nI (289 + L) := nI_add 289 L
    have aB : (297 : Int32) + nI L = nI (297 + L) := nI_add 297 L
    have aC : (305 : Int32) + nI L = nI (305 + L) := nI_add 305 L
    unfold FMo_readLoad
    simp only [g315, c315, mL, aA, aB, aC, gA, gB, gC, cA, cB, cC, k1, nI_1, lt_eq2]
    rw [if_neg (show ¬ nI L = 8 from fun q => hL ((nI_eq (b := 8) (by omega) (by omega)).mp q))]
    rcases ha with rfl | rfl
    · rw [hu1 rfl]
      simp only [if_true, lT3]
      rfl
    · rw [hu2 rfl]
      simp only [n10_, if_false, lT3]
      rfl
  have C : FTe_loadLine tf tp 1 (nI q0) (nI q0') tv pb (nI n) db dz dp (nI L) a = (b7_ (FTe_number tf tp 1 (nI q0') tv pb (nI n) (0 : Int32) (9 : Int32)) fun r2 w3 w4 w5 w6 w7 w8 =>
    if r2 = 0 then
      some ((0 : Int32), w3, w4, w5, w6, w7, w8, db, dz, dp, nI L)
    else
        b7_ (FTe_number w3 w4 w5 w7 w8 pb (nI n) (1 : Int32) (nI u)) fun r13 w14 w15 w16 w17 w18 w19 =>
        if r13 = 0 then
          some ((0 : Int32), w14, w15, w16, w17, w18, w19, db, dz, dp, nI L)
        else
          lt_ (fun (w23 : Int32) (w24 : Int32) (w25 : Int32) (w26 : Int32) (w27 : Int32) (w28 : Int32) =>
              b7_ (FTe_semicolon w23 w24 w25 w27 w28 pb (nI n)) fun r30 w31 w32 w33 w34 w35 w36 =>
              if r30 = 0 then
                some ((0 : Int32), w31, w32, w33, w34, w35, w36, db, dz, dp, nI L)
              else
                b4_ (FFr_addLoad db dz dp (nI L) w8 w19 (if a = 0 then (0 : Int32) else w28)) fun w40 w41 w42 w43 =>
                some ((1 : Int32), w31, w32, w33, w34, w35, w36, w40, w41, w42, w43) : Int32 → Int32 → Int32 → Int32 → Int32 → Int32 → Option (Int32 × Int32 × Int32 × Int32 × Int32 × Int32 × Int32 × (Nat → Int32) × (Nat → Int32) × (Nat → Int32) × Int32)) fun j49 =>
          if a = 0 then
            j49 w14 w15 w16 w17 w18 w19
          else
            b7_ (FTe_number w14 w15 w16 w18 w19 pb (nI n) (1 : Int32) (11 : Int32)) fun r52 w53 w54 w55 w56 w57 w58 =>
            if r52 = 0 then
              some ((0 : Int32), w53, w54, w55, w56, w57, w58, db, dz, dp, nI L)
            else
              j49 w53 w54 w55 w56 w57 w58) := by
    unfold FTe_loadLine
    rw [if_pos (show nI L < 8 from nI_lt (b := 8) hL7 (by omega))]
    rcases ha with rfl | rfl
    · rw [hu1 rfl]
      simp only [if_true, lt_eq2]
      rfl
    · rw [hu2 rfl]
      simp only [n10_, if_false, lt_eq2]
      rfl
  rw [C, R]
  rcases num_s h (lo := 0) (hi := 9) hq0' (by omega) (by omega) with ⟨q1, q1', x, a1, a2, a3, a4, a5, a6, a7⟩ | ⟨q, code, v, sp, t', v', a1, a2, a3, a4, a5, a6, a7⟩ | ⟨q, a1, a2, a3, a4⟩
  rotate_left 1
  · right
    obtain ⟨x1, x2, x3, x4, e1⟩ := a4 tf tp 1 tv
    have e1' : FTe_number tf tp 1 (nI q0') tv pb (nI n) (0 : Int32) (9 : Int32) = _ := e1
    have e2 : FMo_numberRead mt (nI n) 0 ba sp (nI q) t' v' (0 : Int32) (9 : Int32) = _ := a6 ba
    rw [e1', a5, b7_so2, b6_so2, if_pos rfl, e2, b7_so2, numR_b (k := code) (by omega) (by omega), b7_so2]
    obtain ⟨z, e3⟩ := lT3_b (m := m) (mt := mt) (L := L) (k := code) (N := nI n) (a := a) (r12 := nI 0) (r24 := 1) (ba := nI q) (sp := sp) (hh := nI q) (t := t') (w := v') (by omega) (by omega)
    rw [e3, b7_so2, jT_b (k := code) (by omega) (by omega)]
    exact ⟨code, q, _, _, _, _, _, _, _, _, _, by omega, by omega, rfl, rfl, mY_pg hL7 _ _ _⟩
  · right
    obtain ⟨x1, x2, x3, x4, e1⟩ := a3 tf tp 1 tv
    have e1' : FTe_number tf tp 1 (nI q0') tv pb (nI n) (0 : Int32) (9 : Int32) = _ := e1
    obtain ⟨y1, y2, y3, e2⟩ := a4 ba (nI q0) 1 w0
    obtain ⟨z, e3⟩ := lT3_b (m := m) (mt := mt) (L := L) (k := 1) (N := nI n) (a := a) (r12 := 0) (r24 := nI 1) (ba := nI q) (sp := y1) (hh := nI q) (t := y2) (w := y3) (by omega) (by omega)
    rw [e1', e2, b7_so2, b6_so2, if_pos rfl, show (1 : Int32) = nI 1 from rfl, numR_b (k := 1) (by omega) (by omega), b7_so2, numR_b (k := 1) (by omega) (by omega), b7_so2, e3, b7_so2, jT_b (k := 1) (by omega) (by omega)]
    exact ⟨1, q, _, _, _, _, _, _, _, _, _, by omega, by omega, rfl, rfl, mY_pg hL7 _ _ _⟩
  have n1 : FTe_number tf tp 1 (nI q0') tv pb (nI n) (0 : Int32) (9 : Int32) = _ := a6 tf tp 1 tv
  have r1 : FMo_numberRead mt (nI n) 0 ba (nI q1') (nI q1) 2 (nI x) (0 : Int32) (9 : Int32) = _ := numR_ok (mt := mt) (N := nI n) (ba := ba) (sp := nI q1') (hh := nI q1) (v := x) (lo := 0) (hi := 9) (by omega) (by omega) (by omega) ⟨a4, a5⟩
  rw [n1, a7, b7_so2, b6_so2, if_neg (c := (1 : Int32) = 0) (by decide), r1]
  rcases num_s h (s := q1') (lo := 1) (hi := u) a3 (by omega) (by omega) with ⟨q2, q2', y, b1, b2, b3, b4, b5, b6, b7⟩ | ⟨q, code, v, sp, t', v', b1, b2, b3, b4, b5, b6, b7⟩ | ⟨q, b1, b2, b3, b4⟩
  rotate_left 1
  · right
    obtain ⟨x1, x2, x3, x4, e1⟩ := b4 tf tp 2 (nI x)
    have e1' : FTe_number tf tp 2 (nI q1') (nI x) pb (nI n) (1 : Int32) (nI u) = _ := e1
    have e2 : FMo_numberRead mt (nI n) 0 ba sp (nI q) t' v' (1 : Int32) (nI u) = _ := b6 ba
    obtain ⟨z, e3⟩ := lT3_b (m := m) (mt := mt) (L := L) (k := code) (N := nI n) (a := a) (r12 := nI x) (r24 := nI 1) (ba := nI q) (sp := sp) (hh := nI q) (t := t') (w := v') (by omega) (by omega)
    rw [e1', b5, b7_so2, b6_so2, if_pos rfl, b7_so2, e2, b7_so2, e3, b7_so2, jT_b (k := code) (by omega) (by omega)]
    exact ⟨code, q, _, _, _, _, _, _, _, _, _, by omega, by omega, rfl, rfl, mY_pg hL7 _ _ _⟩
  · right
    obtain ⟨x1, x2, x3, x4, e1⟩ := b3 tf tp 2 (nI x)
    have e1' : FTe_number tf tp 2 (nI q1') (nI x) pb (nI n) (1 : Int32) (nI u) = _ := e1
    obtain ⟨y1, y2, y3, e2⟩ := b4 ba (nI q1) 2 (nI x)
    obtain ⟨z, e3⟩ := lT3_b (m := m) (mt := mt) (L := L) (k := 1) (N := nI n) (a := a) (r12 := nI x) (r24 := nI 1) (ba := nI q) (sp := y1) (hh := nI q) (t := y2) (w := y3) (by omega) (by omega)
    rw [e1', e2, b7_so2, b6_so2, if_pos rfl, b7_so2, show (1 : Int32) = nI 1 from rfl, numR_b (k := 1) (by omega) (by omega), b7_so2, e3, b7_so2, jT_b (k := 1) (by omega) (by omega)]
    exact ⟨1, q, _, _, _, _, _, _, _, _, _, by omega, by omega, rfl, rfl, mY_pg hL7 _ _ _⟩
  have n2 : FTe_number tf tp 2 (nI q1') (nI x) pb (nI n) (1 : Int32) (nI u) = _ := b6 tf tp 2 (nI x)
  have r2 : FMo_numberRead mt (nI n) 0 ba (nI q2') (nI q2) 2 (nI y) (1 : Int32) (nI u) = _ := numR_ok (mt := mt) (N := nI n) (ba := ba) (sp := nI q2') (hh := nI q2) (v := y) (lo := 1) (hi := u) (by omega) (by omega) (by omega) ⟨b4, b5⟩
  rw [n2, b7, b7_so2, b6_so2, if_neg (c := (1 : Int32) = 0) (by decide), b7_so2, r2, lt_eq2]
  rcases ha with rfl | rfl
  · unfold lT3
    have hu := hu1 rfl
    simp only [if_true]
    rcases semi_s h (s := q2') b3 with ⟨p, p', v', s1, s2, s3, s4, s5⟩ | ⟨p, sp, t', v', s1, s2, s3, s4, s5⟩ | ⟨p, s1, s2, s3, s4⟩
    · left
      obtain ⟨uu, e1⟩ := s4 tf tp 2 (nI y)
      rw [e1, b7_so2, if_neg (c := (1 : Int32) = 0) (by decide), Fr_addLoad hL7, b4_some, s5, b6_so2, b7_so2, b7_so2, jT_3]
      exact ⟨p', _, _, _, _, _, _, _, _, _, _, _, by omega, s3, rfl, rfl, DR_load d hL7 a5 (a := 0) (by omega) b4 (by omega), mY_pg hL7 _ _ _⟩
    · right
      obtain ⟨x1, y1, z1, u1, e1⟩ := s3 tf tp 2 (nI y)
      rw [e1, b7_so2, if_pos rfl, s4, b6_so2, b7_so2, b7_so2, jT_2 s5]
      exact ⟨2, p, _, _, _, _, _, _, _, _, _, by omega, by omega, rfl, rfl, mY_pg hL7 _ _ _⟩
    · right
      obtain ⟨x1, y1, z1, u1, e1⟩ := s3 tf tp 2 (nI y)
      obtain ⟨x2, y2, z2, e2⟩ := s4 ba (nI q2) 2 (nI y)
      rw [e1, b7_so2, if_pos rfl, e2, b6_so2, b7_so2, b7_so2, show (1 : Int32) = nI 1 from rfl, jT_b (k := 1) (by omega) (by omega)]
      exact ⟨1, p, _, _, _, _, _, _, _, _, _, by omega, by omega, rfl, rfl, mY_pg hL7 _ _ _⟩
  · unfold lT3
    have hu := hu2 rfl
    simp only [n10_, if_false]
    rcases num_s h (s := q2') (lo := 1) (hi := 11) b3 (by omega) (by omega) with ⟨q3, q3', k, c1, c2, c3, c4, c5, c6, c7⟩ | ⟨q, code, v, sp, t', v', c1, c2, c3, c4, c5, c6, c7⟩ | ⟨q, c1, c2, c3, c4⟩
    rotate_left 1
    · right
      obtain ⟨x1, x2, x3, x4, e1⟩ := c4 tf tp 2 (nI y)
      have e1' : FTe_number tf tp 2 (nI q2') (nI y) pb (nI n) (1 : Int32) (11 : Int32) = _ := e1
      have e2 : FMo_numberRead mt (nI n) 0 ba sp (nI q) t' v' (1 : Int32) (11 : Int32) = _ := c6 ba
      rw [e1', c5, b7_so2, b6_so2, if_pos rfl, b7_so2, e2, b7_so2, b7_so2, jT_b (k := code) (by omega) (by omega)]
      exact ⟨code, q, _, _, _, _, _, _, _, _, _, by omega, by omega, rfl, rfl, mY_pg hL7 _ _ _⟩
    · right
      obtain ⟨x1, x2, x3, x4, e1⟩ := c3 tf tp 2 (nI y)
      have e1' : FTe_number tf tp 2 (nI q2') (nI y) pb (nI n) (1 : Int32) (11 : Int32) = _ := e1
      obtain ⟨y1, y2, y3, e2⟩ := c4 ba (nI q2) 2 (nI y)
      rw [e1', e2, b7_so2, b6_so2, if_pos rfl, b7_so2, show (1 : Int32) = nI 1 from rfl, numR_b (k := 1) (by omega) (by omega), b7_so2, b7_so2, jT_b (k := 1) (by omega) (by omega)]
      exact ⟨1, q, _, _, _, _, _, _, _, _, _, by omega, by omega, rfl, rfl, mY_pg hL7 _ _ _⟩
    have n3 : FTe_number tf tp 2 (nI q2') (nI y) pb (nI n) (1 : Int32) (11 : Int32) = _ := c6 tf tp 2 (nI y)
    have r3 : FMo_numberRead mt (nI n) 0 ba (nI q3') (nI q3) 2 (nI k) (1 : Int32) (11 : Int32) = _ := numR_ok (mt := mt) (N := nI n) (ba := ba) (sp := nI q3') (hh := nI q3) (v := k) (lo := 1) (hi := 11) (by omega) (by omega) (by omega) ⟨c4, c5⟩
    rw [n3, c7, b7_so2, b6_so2, if_neg (c := (1 : Int32) = 0) (by decide), b7_so2, r3]
    rcases semi_s h (s := q3') c3 with ⟨p, p', v', s1, s2, s3, s4, s5⟩ | ⟨p, sp, t', v', s1, s2, s3, s4, s5⟩ | ⟨p, s1, s2, s3, s4⟩
    · left
      obtain ⟨uu, e1⟩ := s4 tf tp 2 (nI k)
      rw [e1, b7_so2, if_neg (c := (1 : Int32) = 0) (by decide), Fr_addLoad hL7, b4_some, s5, b6_so2, b7_so2, b7_so2, jT_3]
      exact ⟨p', _, _, _, _, _, _, _, _, _, _, _, by omega, s3, rfl, rfl, DR_load d hL7 a5 c5 b4 (by omega), mY_pg hL7 _ _ _⟩
    · right
      obtain ⟨x1, y1, z1, u1, e1⟩ := s3 tf tp 2 (nI k)
      rw [e1, b7_so2, if_pos rfl, s4, b6_so2, b7_so2, b7_so2, jT_2 s5]
      exact ⟨2, p, _, _, _, _, _, _, _, _, _, by omega, by omega, rfl, rfl, mY_pg hL7 _ _ _⟩
    · right
      obtain ⟨x1, y1, z1, u1, e1⟩ := s3 tf tp 2 (nI k)
      obtain ⟨x2, y2, z2, e2⟩ := s4 ba (nI q3) 2 (nI k)
      rw [e1, b7_so2, if_pos rfl, e2, b6_so2, b7_so2, b7_so2, show (1 : Int32) = nI 1 from rfl, jT_b (k := 1) (by omega) (by omega)]
      exact ⟨1, p, _, _, _, _, _, _, _, _, _, by omega, by omega, rfl, rfl, mY_pg hL7 _ _ _⟩
