/-! layer 2: a line of a JOINT -/
theorem c313 : (313 : Int32).toNatClampNeg = 313 := rfl
theorem c314 : (314 : Int32).toNatClampNeg = 314 := rfl
theorem c315 : (315 : Int32).toNatClampNeg = 315 := rfl
theorem g313 {α : Type} {k : Option α} : gd_ (313 : Int32) 395 k = k := nI_gd (i := 313) (by omega) (by omega)
theorem g314 {α : Type} {k : Option α} : gd_ (314 : Int32) 395 k = k := nI_gd (i := 314) (by omega) (by omega)
theorem g315 {α : Type} {k : Option α} : gd_ (315 : Int32) 395 k = k := nI_gd (i := 315) (by omega) (by omega)
theorem n20_ : ((2 : Int32) = 0) = False := eq_false (by decide)
theorem n30_ : ((3 : Int32) = 0) = False := eq_false (by decide)
theorem n50_ : ((5 : Int32) = 0) = False := eq_false (by decide)
theorem n23_ : ((2 : Int32) = 3) = False := eq_false (by decide)
theorem n24_ : ((2 : Int32) = 4) = False := eq_false (by decide)
theorem n41_ : ((4 : Int32) = 1) = False := eq_false (by decide)
theorem b10_so2 {T1 T2 T3 T4 T5 T6 T7 T8 T9 T10 G : Type} (a1 : T1) (a2 : T2) (a3 : T3) (a4 : T4) (a5 : T5) (a6 : T6) (a7 : T7) (a8 : T8) (a9 : T9) (a10 : T10) (k : T1 → T2 → T3 → T4 → T5 → T6 → T7 → T8 → T9 → T10 → Option G) : b10_ (some (a1, a2, a3, a4, a5, a6, a7, a8, a9, a10)) k = k a1 a2 a3 a4 a5 a6 a7 a8 a9 a10 := Eq.symm (Eq.symm rfl)
theorem b11_so2 {T1 T2 T3 T4 T5 T6 T7 T8 T9 T10 T11 G : Type} (a1 : T1) (a2 : T2) (a3 : T3) (a4 : T4) (a5 : T5) (a6 : T6) (a7 : T7) (a8 : T8) (a9 : T9) (a10 : T10) (a11 : T11) (k : T1 → T2 → T3 → T4 → T5 → T6 → T7 → T8 → T9 → T10 → T11 → Option G) : b11_ (some (a1, a2, a3, a4, a5, a6, a7, a8, a9, a10, a11)) k = k a1 a2 a3 a4 a5 a6 a7 a8 a9 a10 a11 := Eq.symm (Eq.symm rfl)
theorem joint_l {n : Nat} {T : Nat → Nat} {pb mt : Nat → Int32} (h : TT n T pb mt) {J B L : Nat} {dh dc de dl ds db dz dp m : Nat → Int32} (d : DR J B L dh dc de dl ds db dz dp m) {q0 q0' : Nat} (hq0 : q0 < q0') (hq0' : q0' ≤ n) {a : Int32} (ha : a = 0 ∨ a = 1) (tf tp tv ba w0 : Int32) : (∃ (s' : Nat) (k' st' v' : Int32) (dh' dc' m' : Nat → Int32) (ba' hh t w : Int32), q0' < s' ∧ s' ≤ n ∧ FTe_jointLine tf tp 1 (nI q0) (nI q0') tv pb (nI n) dh dc (nI J) a = some (1, tf, tp, k', st', nI s', v', dh', dc', nI (J + 1)) ∧ (b7_ (FMo_readJoint m mt (nI n) 0 ba (nI q0') (nI q0) 1 w0 a) fun w44 w45 w46 w47 w48 w49 w50 => jT mt (nI n) w45 w46 w48 w47 w44 w49 w50) = (b6_ (FMo_readsOn mt (nI n) 0 ba' (nI s') hh t w) fun w21 w22 w23 w24 w25 w26 => some (m', w21, w22, w23, w24, w25, w26)) ∧ DR (J + 1) B L dh' dc' de dl ds db dz dp m' ∧ pgR m m') ∨ (∃ (code place : Nat) (x1 x2 x3 x4 : Int32) (m' : Nat → Int32) (y1 y2 y3 y4 : Int32), 0 < code ∧ code < 1000 ∧ FTe_jointLine tf tp 1 (nI q0) (nI q0') tv pb (nI n) dh dc (nI J) a = some (0, nI code, nI place, x1, x2, x3, x4, dh, dc, nI J) ∧ (b7_ (FMo_readJoint m mt (nI n) 0 ba (nI q0') (nI q0) 1 w0 a) fun w44 w45 w46 w47 w48 w49 w50 => jT mt (nI n) w45 w46 w48 w47 w44 w49 w50) = some (m', nI code, nI place, y1, y2, y3, y4) ∧ pgR m m') := by
  have hn := h.1
  have hJ6 := d.1.1
  have mJ : m 313 = nI J := d.1.2.2.2.1
  have ht := turning_e (P := 237) (J := J) (fh := dh) (m := m) (by omega) hJ6 mJ (fun j hj => d.2.1 j (by omega)) (fun j hj => (d.1.2.2.2.2.2.2.1 j hj).1)
  have ht1 := ht.1
  have ht2 : FMo_turning m (237 : Int32) = some (nI (tn dh 0 J)) := ht.2
  have htb := d.2.2.2.2.2.2.2.2
  by_cases hJ : J = 6
  · right
    refine ⟨5, q0, 1, nI q0, nI q0', tv, m, nI q0', nI q0, 1, w0, by omega, by omega, ?_, ?_, fun _ _ => rfl⟩
    rotate_left 1
    · unfold FMo_readJoint FMo_fails
      simp only [g313, c313, mJ, lt_eq2]
      rw [if_pos (show nI J = 6 from by rw [hJ]; rfl)]
      simp only [if_true, b2_so2, b7_so2]
      exact jT_b (k := 5) (by omega) (by omega)
    · unfold FTe_jointLine FTe_fail
      rw [if_pos (show (6 : Int32) ≤ nI J from nI_le (a := 6) (by omega) (by omega)), b3_so2]
      rfl
  by_cases hfull : a = 0 ∧ tn dh 0 J = 4
  · right
    obtain ⟨rfl, h4⟩ := hfull
    refine ⟨5, q0, 1, nI q0, nI q0', tv, m, nI q0', nI q0, 1, w0, by omega, by omega, ?_, ?_, fun _ _ => rfl⟩
    rotate_left 1
    · unfold FMo_readJoint FMo_fails
      simp only [g313, c313, mJ, lt_eq2]
      rw [if_neg (show ¬ nI J = 6 from fun q => hJ ((nI_eq (b := 6) (by omega) (by omega)).mp q))]
      simp only [if_true, ht2, b1_so2]
      rw [if_pos (show nI (tn dh 0 J) = 4 from by rw [h4]; rfl)]
      simp only [b2_so2, b7_so2]
      exact jT_b (k := 5) (by omega) (by omega)
    · unfold FTe_jointLine FTe_fail
      rw [if_neg (show ¬ (6 : Int32) ≤ nI J from nI_ge (b := 6) (by omega) (by omega)), lt_eq2, if_pos rfl, ht1, b1_so2, if_neg (show ¬ nI (tn dh 0 J) < 4 from nI_nlt (b := 4) (by omega) (by omega)), b3_so2]
      rfl
  have hroom : a = 0 → tn dh 0 J < 4 := fun q => by
    have : ¬ tn dh 0 J = 4 := fun q2 => hfull ⟨q, q2⟩
    omega
  have k1 : ∀ x : Int32, upd (upd m (237 + J) a) (243 + J) x 313 = nI J := fun x => by rw [pk_un (by omega), pk_un (by omega), mJ]
  have gA : ∀ {α : Type} {k : Option α}, gd_ (nI (237 + J)) 395 k = k := fun {α k} => nI_gd (by omega) (by omega)
  have gB : ∀ {α : Type} {k : Option α}, gd_ (nI (243 + J)) 395 k = k := fun {α k} => nI_gd (by omega) (by omega)
  have cA := nI_clamp (n := 237 + J) (by omega)
  have cB := nI_clamp (n := 243 + J) (by omega)
  have aA : (237 : Int32) + nI J = nI (237 + J) := nI_add 237 J
  have aB : (243 : Int32) + nI J = nI (243 + J) := nI_add 243 J
  have hp : ∀ x y : Int32, pgR m (upd (upd (upd m (237 + J) a) (243 + J) x) 313 y) := fun x y w hw => by rw [pk_un (by omega), pk_un (by omega), pk_un (by omega)]
  /- the class behind the first test -/
  have C : FTe_jointLine tf tp 1 (nI q0) (nI q0') tv pb (nI n) dh dc (nI J) a = (b7_ (FTe_scan tf tp 1 (nI q0') tv pb (nI n)) fun r7 w8 w9 w10 w11 w12 w13 =>
      if r7 = 0 then
        some ((0 : Int32), w8, w9, w10, w11, w12, w13, dh, dc, nI J)
      else
        lt_ (fun (v17 : Int32) =>
          lt_ (fun (w18 : Int32) (w19 : Int32) (w20 : Int32) (w21 : Int32) (w22 : Int32) (w23 : Int32) =>
            b3_ (FTe_isNumber w18 w19 w20 w21 w23 (0 : Int32) (9999 : Int32)) fun r24 w25 w26 =>
            if r24 = 0 then
              some ((0 : Int32), w25, w26, w20, w21, w22, w23, dh, dc, nI J)
            else
              lt_ (fun (v30 : Int32) =>
                b7_ (FTe_semicolon w25 w26 w20 w22 w23 pb (nI n)) fun r31 w32 w33 w34 w35 w36 w37 =>
                if r31 = 0 then
                  some ((0 : Int32), w32, w33, w34, w35, w36, w37, dh, dc, nI J)
                else
                  b3_ (FFr_addJoint dh dc (nI J) a v30) fun w41 w42 w43 =>
                  some ((1 : Int32), w32, w33, w34, w35, w36, w37, w41, w42, w43) : Int32 → Option (Int32 × Int32 × Int32 × Int32 × Int32 × Int32 × Int32 × (Nat → Int32) × (Nat → Int32) × Int32)) fun j46 =>
              if v17 = 0 then
                j46 w23
              else
                j46 (-w23) : Int32 → Int32 → Int32 → Int32 → Int32 → Int32 → Option (Int32 × Int32 × Int32 × Int32 × Int32 × Int32 × Int32 × (Nat → Int32) × (Nat → Int32) × Int32)) fun j49 =>
          if v17 = 0 then
            j49 w8 w9 w10 w11 w12 w13
          else
            b7_ (FTe_scan w8 w9 w10 w12 w13 pb (nI n)) fun r52 w53 w54 w55 w56 w57 w58 =>
            if r52 = 0 then
              some ((0 : Int32), w53, w54, w55, w56, w57, w58, dh, dc, nI J)
            else
              j49 w53 w54 w55 w56 w57 w58 : Int32 → Option (Int32 × Int32 × Int32 × Int32 × Int32 × Int32 × Int32 × (Nat → Int32) × (Nat → Int32) × Int32)) fun j62 =>
        if w10 = (3 : Int32) then
          j62 (1 : Int32)
        else
          j62 (0 : Int32)) := by
    unfold FTe_jointLine
    rw [if_neg (show ¬ (6 : Int32) ≤ nI J from nI_ge (b := 6) (by omega) (by omega)), lt_eq2]
    rcases ha with rfl | rfl
    · rw [if_pos rfl, ht1, b1_so2, if_pos (show nI (tn dh 0 J) < 4 from nI_lt (b := 4) (hroom rfl) (by omega))]
    · rw [if_neg (by decide)]
  have R : FMo_readJoint m mt (nI n) 0 ba (nI q0') (nI q0) 1 w0 a = (b6_ (FMo_readsOn mt (nI n) 0 ba (nI q0') (nI q0) 1 w0) fun w8 w9 w10 w11 w12 w13 =>
      lt_ (fun (v16 : Int32) =>
        lt_ (fun (w17 : Int32) (w18 : Int32) (w19 : Int32) (w20 : Int32) (w21 : Int32) (w22 : Int32) =>
          b7_ (FMo_numberRead mt (nI n) w17 w18 w20 w19 w21 w22 (0 : Int32) (9999 : Int32)) fun r23 w24 w25 w26 w27 w28 w29 =>
          some (upd (upd (upd m (237 + J) a) (243 + J) (if v16 = 0 then r23 else -r23)) 313 (nI (J + 1)), w24, w25, w26, w27, w28, w29) : Int32 → Int32 → Int32 → Int32 → Int32 → Int32 → Option ((Nat → Int32) × Int32 × Int32 × Int32 × Int32 × Int32 × Int32)) fun j45 =>
        if v16 = 0 then
          j45 w8 w9 w11 w10 w12 w13
        else
          b6_ (FMo_readsOn mt (nI n) w8 w9 w10 w11 w12 w13) fun w48 w49 w50 w51 w52 w53 =>
          j45 w48 w49 w51 w50 w52 w53 : Int32 → Option ((Nat → Int32) × Int32 × Int32 × Int32 × Int32 × Int32 × Int32)) fun j56 =>
      if w8 = 0 then
        if w12 = (4 : Int32) then
          j56 (1 : Int32)
        else
          j56 (0 : Int32)
      else
        j56 (0 : Int32)) := by
    have e1 : ∀ v16 r23 : Int32, (if v16 = 0 then upd (upd m (237 + J) a) (243 + J) r23 else upd (upd m (237 + J) a) (243 + J) (-r23)) = upd (upd m (237 + J) a) (243 + J) (if v16 = 0 then r23 else -r23) := by
      intro v16 r23
      split <;> rfl
    have e2 : ∀ (v16 r23 w24 w25 w26 w27 w28 w29 : Int32), (if v16 = 0 then some (upd (upd (upd m (237 + J) a) (243 + J) r23) 313 (nI (J + 1)), w24, w25, w26, w27, w28, w29) else some (upd (upd (upd m (237 + J) a) (243 + J) (-r23)) 313 (nI (J + 1)), w24, w25, w26, w27, w28, w29)) = some (upd (upd (upd m (237 + J) a) (243 + J) (if v16 = 0 then r23 else -r23)) 313 (nI (J + 1)), w24, w25, w26, w27, w28, w29) := by
      intro v16 r23 w24 w25 w26 w27 w28 w29
      split <;> rfl
    unfold FMo_readJoint
    simp only [g313, c313, mJ, aA, aB, gA, gB, cA, cB, k1, nI_1, e2, lt_eq2]
    rw [if_neg (show ¬ nI J = 6 from fun q => hJ ((nI_eq (b := 6) (by omega) (by omega)).mp q))]
    rcases ha with rfl | rfl
    · rw [if_pos rfl, ht2, b1_so2, if_neg (show ¬ nI (tn dh 0 J) = 4 from fun q => by
        have := (nI_eq (b := 4) (by omega) (by omega)).mp q
        have := hroom rfl
        omega)]
      simp only [if_true, n10_, if_false]
    · rw [if_neg (by decide)]
      simp only [if_true, n10_, if_false]
  rw [C, R]
  have hadd : ∀ c : Int32, FFr_addJoint dh dc (nI J) a c = some (upd dh J a, upd dc J c, nI (J + 1)) := by
    intro c
    unfold FFr_addJoint
    have hv : vp_nar .boolean a = a := by rcases ha with rfl | rfl <;> rfl
    rw [if_neg (show ¬ (6 : Int32) ≤ nI J from nI_ge (b := 6) (by omega) (by omega)), nI_gd (by omega) (by omega), lt_eq2, nI_gd (by omega) (by omega), lt_eq2, lt_eq2, nI_1, nI_clamp (by omega), hv]
  /- a NUMBER, then the end of the line -/
  have key : ∀ (lessB : Bool) (c q q' v : Nat) (ba1 : Int32), c ≤ 4 → q0' ≤ q → q ≤ q' → q' ≤ n → (0 < c → q < q') → v ≤ 9999 → ∀ (tk tw : Int32), tk = nI c → tw = (if c = 2 then nI v else tv) → (∃ (s' : Nat) (k' st' v' : Int32) (dh' dc' m' : Nat → Int32) (ba' hh t w : Int32), q0' < s' ∧ s' ≤ n ∧ (b3_ (FTe_isNumber tf tp tk (nI q) tw (0 : Int32) (9999 : Int32)) fun r24 w25 w26 =>
            if r24 = 0 then
              some ((0 : Int32), w25, w26, tk, nI q, nI q', tw, dh, dc, nI J)
            else
                b7_ (FTe_semicolon w25 w26 tk (nI q') tw pb (nI n)) fun r31 w32 w33 w34 w35 w36 w37 =>
                if r31 = 0 then
                  some ((0 : Int32), w32, w33, w34, w35, w36, w37, dh, dc, nI J)
                else
                  b3_ (FFr_addJoint dh dc (nI J) a (cond lessB (-tw) tw)) fun w41 w42 w43 =>
                  some ((1 : Int32), w32, w33, w34, w35, w36, w37, w41, w42, w43)) = some (1, tf, tp, k', st', nI s', v', dh', dc', nI (J + 1)) ∧ (b7_ (b7_ (FMo_numberRead mt (nI n) 0 ba1 (nI q') (nI q) (nI (kr c)) (if c = 2 then nI v else 0) (0 : Int32) (9999 : Int32)) fun r23 w24 w25 w26 w27 w28 w29 =>
          some (upd (upd (upd m (237 + J) a) (243 + J) (cond lessB (-r23) r23)) 313 (nI (J + 1)), w24, w25, w26, w27, w28, w29)) fun w44 w45 w46 w47 w48 w49 w50 => jT mt (nI n) w45 w46 w48 w47 w44 w49 w50) = (b6_ (FMo_readsOn mt (nI n) 0 ba' (nI s') hh t w) fun w21 w22 w23 w24 w25 w26 => some (m', w21, w22, w23, w24, w25, w26)) ∧ DR (J + 1) B L dh' dc' de dl ds db dz dp m' ∧ pgR m m') ∨ (∃ (code place : Nat) (x1 x2 x3 x4 : Int32) (m' : Nat → Int32) (y1 y2 y3 y4 : Int32), 0 < code ∧ code < 1000 ∧ (b3_ (FTe_isNumber tf tp tk (nI q) tw (0 : Int32) (9999 : Int32)) fun r24 w25 w26 =>
            if r24 = 0 then
              some ((0 : Int32), w25, w26, tk, nI q, nI q', tw, dh, dc, nI J)
            else
                b7_ (FTe_semicolon w25 w26 tk (nI q') tw pb (nI n)) fun r31 w32 w33 w34 w35 w36 w37 =>
                if r31 = 0 then
                  some ((0 : Int32), w32, w33, w34, w35, w36, w37, dh, dc, nI J)
                else
                  b3_ (FFr_addJoint dh dc (nI J) a (cond lessB (-tw) tw)) fun w41 w42 w43 =>
                  some ((1 : Int32), w32, w33, w34, w35, w36, w37, w41, w42, w43)) = some (0, nI code, nI place, x1, x2, x3, x4, dh, dc, nI J) ∧ (b7_ (b7_ (FMo_numberRead mt (nI n) 0 ba1 (nI q') (nI q) (nI (kr c)) (if c = 2 then nI v else 0) (0 : Int32) (9999 : Int32)) fun r23 w24 w25 w26 w27 w28 w29 =>
          some (upd (upd (upd m (237 + J) a) (243 + J) (cond lessB (-r23) r23)) 313 (nI (J + 1)), w24, w25, w26, w27, w28, w29)) fun w44 w45 w46 w47 w48 w49 w50 => jT mt (nI n) w45 w46 w48 w47 w44 w49 w50) = some (m', nI code, nI place, y1, y2, y3, y4) ∧ pgR m m') := by
    intro lessB c q q' v ba1 h1 h2 h3 h4 h5 h6 tk tw htk htw
    have hc2 := c2_ h1
    by_cases hc : c = 2
    · subst hc
      rw [if_pos rfl] at htw
      subst htk htw
      rw [if_pos rfl]
      have hq := h5 (by omega)
      have n1 : FTe_isNumber tf tp (nI 2) (nI q) (nI v) (0 : Int32) (9999 : Int32) = some (1, tf, tp) := isN_ok (lo := 0) (hi := 9999) (by omega) (by omega) (by omega) ⟨by omega, h6⟩
      have n2 : FMo_numberRead mt (nI n) 0 ba1 (nI q') (nI q) (nI (kr 2)) (nI v) (0 : Int32) (9999 : Int32) = _ := numR_ok (mt := mt) (N := nI n) (ba := ba1) (sp := nI q') (hh := nI q) (v := v) (lo := 0) (hi := 9999) (by omega) (by omega) (by omega) ⟨by omega, h6⟩
      rw [n1, n2, b3_so2, if_neg (c := (1 : Int32) = 0) (by decide)]
      rcases semi_s h (s := q') h4 with ⟨p, p', v', s1, s2, s3, s4, s5⟩ | ⟨p, sp, t', v', s1, s2, s3, s4, s5⟩ | ⟨p, s1, s2, s3, s4⟩
      · left
        obtain ⟨u, e1⟩ := s4 tf tp (nI 2) (nI v)
        rw [e1, b7_so2, if_neg (c := (1 : Int32) = 0) (by decide), hadd, b3_so2, s5, b6_so2, b7_so2, b7_so2, jT_3]
        refine ⟨p', _, _, _, _, _, _, _, _, _, _, by omega, s3, rfl, rfl, DR_joint d (by omega) ha hroom ?_ ?_, hp _ _⟩
        · cases lessB
          · show -9999 ≤ (nI v).toInt
            rw [nI_toInt (by omega)]; omega
          · show -9999 ≤ (-nI v).toInt
            rw [neg_toInt (by rw [nI_toInt (by omega)]; omega), nI_toInt (by omega)]; omega
        · cases lessB
          · show (nI v).toInt ≤ 9999
            rw [nI_toInt (by omega)]; omega
          · show (-nI v).toInt ≤ 9999
            rw [neg_toInt (by rw [nI_toInt (by omega)]; omega), nI_toInt (by omega)]; omega
      · right
        obtain ⟨x, y, z, u, e1⟩ := s3 tf tp (nI 2) (nI v)
        rw [e1, b7_so2, if_pos rfl, s4, b6_so2, b7_so2, b7_so2, jT_2 s5]
        exact ⟨2, p, _, _, _, _, _, _, _, _, _, by omega, by omega, rfl, rfl, hp _ _⟩
      · right
        obtain ⟨x, y, z, u, e1⟩ := s3 tf tp (nI 2) (nI v)
        obtain ⟨x2, y2, z2, e2⟩ := s4 ba1 (nI q) 2 (nI v)
        rw [e1, b7_so2, if_pos rfl, e2, b6_so2, b7_so2, b7_so2, show (1 : Int32) = nI 1 from rfl, jT_b (k := 1) (by omega) (by omega)]
        exact ⟨1, p, _, _, _, _, _, _, _, _, _, by omega, by omega, rfl, rfl, hp _ _⟩
    · right
      subst htk
      rw [isN_2 (fun q => hc (hc2.1.mp q)), b3_so2, if_pos rfl, numR_2 (fun q => hc (hc2.2.1.mp q)), b7_so2, b7_so2, jT_b (k := 2) (by omega) (by omega)]
      exact ⟨2, q, _, _, _, _, _, _, _, _, _, by omega, by omega, rfl, rfl, hp _ _⟩
  rcases scan_s h hq0' with ⟨c, q, q', v, h1, h2, h3, h4, h5, h6, h7, h8, h9⟩ | ⟨q, h1, h2, h3, h4⟩
  · have hc2 := c2_ h1
    rw [h8, h9, b7_so2, b6_so2, if_neg (c := (1 : Int32) = 0) (by decide)]
    by_cases hc : c = 3
    · subst hc
      simp only [lt_eq2, if_true, if_pos (show nI 3 = 3 from rfl), if_pos (show nI (kr 3) = 4 from rfl), n10_, if_false]
      rcases scan_s h (s := q') h4 with ⟨c', p, p', v', g1, g2, g3, g4, g5, g6, g7, g8, g9⟩ | ⟨p, g1, g2, g3, g4⟩
      · rw [g8, g9, b7_so2, b6_so2, if_neg (c := (1 : Int32) = 0) (by decide)]
        exact key true c' p p' v' ba g1 (by omega) g3 g4 g5 g6 (nI c') (if c' = 2 then nI v' else if 3 = 2 then nI v else tv) rfl rfl
      · right
        obtain ⟨x, y, z, e1⟩ := g3 tf tp (nI 3) (if 3 = 2 then nI v else tv)
        obtain ⟨x2, y2, z2, e2⟩ := g4 ba (nI q) (nI (kr 3)) (if 3 = 2 then nI v else 0)
        rw [e1, e2, b7_so2, b6_so2, if_pos rfl, show (1 : Int32) = nI 1 from rfl, numR_b (k := 1) (by omega) (by omega), b7_so2, b7_so2, jT_b (k := 1) (by omega) (by omega)]
        exact ⟨1, p, _, _, _, _, _, _, _, _, _, by omega, by omega, rfl, rfl, hp _ _⟩
    · have k1 : ¬ nI c = 3 := fun q => hc (hc2.2.2.1.mp q)
      have k2 : ¬ nI (kr c) = 4 := fun q => hc (hc2.2.2.2.1.mp q)
      simp only [lt_eq2, if_neg k1, if_neg k2, if_true]
      exact key false c q q' v ba h1 h2 h3 h4 h5 h6 (nI c) (if c = 2 then nI v else tv) rfl rfl
  · right
    obtain ⟨x, y, z, e1⟩ := h3 tf tp 1 tv
    obtain ⟨x2, y2, z2, e2⟩ := h4 ba (nI q0) 1 w0
    rw [e1, e2, b7_so2, b6_so2, if_pos rfl]
    simp only [lt_eq2, if_true, n10_, if_false]
    rw [show (1 : Int32) = nI 1 from rfl, numR_b (k := 1) (by omega) (by omega), b7_so2, b7_so2, jT_b (k := 1) (by omega) (by omega)]
    exact ⟨1, q, _, _, _, _, _, _, _, _, _, by omega, by omega, rfl, rfl, hp _ _⟩
