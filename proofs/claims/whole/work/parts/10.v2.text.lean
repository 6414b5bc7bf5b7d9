/-! layer 2: a text -/
theorem b67 {A1 A2 A3 A4 A5 A6 M G : Type} (x : Option (A1 × A2 × A3 × A4 × A5 × A6)) (m : M) (K : M → A1 → A2 → A3 → A4 → A5 → A6 → Option G) : b7_ (b6_ x fun a b c d e f => some (m, a, b, c, d, e, f)) K = b6_ x fun a b c d e f => K m a b c d e f := by
  cases x with
  | none => rfl
  | some y => obtain ⟨a, b, c, d, e, f⟩ := y; rfl
theorem b18_so2 {T1 T2 T3 T4 T5 T6 T7 T8 T9 T10 T11 T12 T13 T14 T15 T16 T17 T18 G : Type} (a1 : T1) (a2 : T2) (a3 : T3) (a4 : T4) (a5 : T5) (a6 : T6) (a7 : T7) (a8 : T8) (a9 : T9) (a10 : T10) (a11 : T11) (a12 : T12) (a13 : T13) (a14 : T14) (a15 : T15) (a16 : T16) (a17 : T17) (a18 : T18) (k : T1 → T2 → T3 → T4 → T5 → T6 → T7 → T8 → T9 → T10 → T11 → T12 → T13 → T14 → T15 → T16 → T17 → T18 → Option G) : b18_ (some (a1, a2, a3, a4, a5, a6, a7, a8, a9, a10, a11, a12, a13, a14, a15, a16, a17, a18)) k = k a1 a2 a3 a4 a5 a6 a7 a8 a9 a10 a11 a12 a13 a14 a15 a16 a17 a18 := Eq.symm (Eq.symm rfl)
theorem b19_so2 {T1 T2 T3 T4 T5 T6 T7 T8 T9 T10 T11 T12 T13 T14 T15 T16 T17 T18 T19 G : Type} (a1 : T1) (a2 : T2) (a3 : T3) (a4 : T4) (a5 : T5) (a6 : T6) (a7 : T7) (a8 : T8) (a9 : T9) (a10 : T10) (a11 : T11) (a12 : T12) (a13 : T13) (a14 : T14) (a15 : T15) (a16 : T16) (a17 : T17) (a18 : T18) (a19 : T19) (k : T1 → T2 → T3 → T4 → T5 → T6 → T7 → T8 → T9 → T10 → T11 → T12 → T13 → T14 → T15 → T16 → T17 → T18 → T19 → Option G) : b19_ (some (a1, a2, a3, a4, a5, a6, a7, a8, a9, a10, a11, a12, a13, a14, a15, a16, a17, a18, a19)) k = k a1 a2 a3 a4 a5 a6 a7 a8 a9 a10 a11 a12 a13 a14 a15 a16 a17 a18 a19 := Eq.symm (Eq.symm rfl)
theorem tell_s {n : Nat} {T : Nat → Nat} {pb mt me ml : Nat → Int32} (h : TT n T pb mt) (el : EL me ml) (kc : Int32 → Int32 → Int32 → Int32 → Int32 → Int32 → Int32 → (Nat → Int32) → (Nat → Int32) → (Nat → Int32) → (Nat → Int32) → (Nat → Int32) → (Nat → Int32) → (Nat → Int32) → (Nat → Int32) → Int32 → Int32 → Int32 → Option (Int32 × Int32 × Int32 × Int32 × Int32 × Int32 × Int32 × Int32 × (Nat → Int32) × (Nat → Int32) × (Nat → Int32) × (Nat → Int32) × (Nat → Int32) × (Nat → Int32) × (Nat → Int32) × (Nat → Int32) × Int32 × Int32 × Int32)) (kf : Int32 → (Nat → Int32) → Int32 → Int32 → Int32 → Int32 → Int32 → Int32 → Option (Int32 × (Nat → Int32) × Int32 × Int32 × Int32 × Int32 × Int32 × Int32 × Int32 × Int32 × (Nat → Int32) × (Nat → Int32) × Int32 × Int32 × (Nat → Int32))) : ∀ (f s l J B L : Nat) (dh dc de dl ds db dz dp m : Nat → Int32) (tf tp tk ts tv ba hh t w : Int32), s ≤ n → l ≤ s → n - s < f → DR J B L dh dc de dl ds db dz dp m → (∃ (l' J' B' L' : Nat) (dh' dc' de' dl' ds' db' dz' dp' m' : Nat → Int32) (tk' ts' sp' tv' ba' sp1 w1 : Int32), FTe_tell_L24 pb (nI n) kc f (nI l) tf tp tk ts (nI s) tv dh dc de dl ds db dz dp (nI J) (nI B) (nI L) = kc (nI l') tf tp tk' ts' sp' tv' dh' dc' de' dl' ds' db' dz' dp' (nI J') (nI B') (nI L') ∧ (b6_ (FMo_readsOn mt (nI n) 0 ba (nI s) hh t w) fun w7 w8 w9 w10 w11 w12 => FMo_text_L41 mt (nI n) me ml kf f (nI l) m w7 w8 w9 w10 w11 w12) = kf (nI l') m' 0 ba' sp1 (nI n) 0 w1 ∧ DR J' B' L' dh' dc' de' dl' ds' db' dz' dp' m' ∧ pgR m m') ∨ (∃ (code place l' J' B' L' : Nat) (l1 x1 x2 x3 x4 : Int32) (dh' dc' de' dl' ds' db' dz' dp' m' : Nat → Int32) (y1 y2 y3 y4 : Int32), 0 < code ∧ code < 1000 ∧ FTe_tell_L24 pb (nI n) kc f (nI l) tf tp tk ts (nI s) tv dh dc de dl ds db dz dp (nI J) (nI B) (nI L) = some (0, nI l', nI code, nI place, x1, x2, x3, x4, dh', dc', de', dl', ds', db', dz', dp', nI J', nI B', nI L') ∧ (b6_ (FMo_readsOn mt (nI n) 0 ba (nI s) hh t w) fun w7 w8 w9 w10 w11 w12 => FMo_text_L41 mt (nI n) me ml kf f (nI l) m w7 w8 w9 w10 w11 w12) = kf l1 m' (nI code) (nI place) y1 y2 y3 y4 ∧ (∀ j, j < 6 → dh' j = 0 ∨ dh' j = 1) ∧ pgR m m') := by
  have hn := h.1
  intro f
  induction f with
  | zero => intro s l J B L dh dc de dl ds db dz dp m tf tp tk ts tv ba hh t w h1 h2 h3; omega
  | succ f ih =>
    intro s l J B L dh dc de dl ds db dz dp m tf tp tk ts tv ba hh t w h1 h2 h3 d
    rw [FTe_tell_L24.eq_2, lt_eq2, if_neg (nI_nlt (by omega) (by omega))]
    rcases scan_s h h1 with ⟨c, q, q', v, g1, g2, g3, g4, g5, g6, g7, g8, g9⟩ | ⟨q, g1, g2, g3, g4⟩
    · have hc2 := c2_ g1
      rw [g8, g9, b7_so2, b6_so2, if_neg (c := (1 : Int32) = 0) (by decide), FMo_text_L41.eq_2, lt_eq2, if_pos (c := (0 : Int32) = 0) rfl]
      by_cases hc : c = 0
      · have hq := g7 hc
        subst hc
        subst hq
        rw [if_pos (show nI 0 = 0 from rfl), if_pos (show nI (kr 0) = 0 from rfl)]
        left
        exact ⟨l, J, B, L, dh, dc, de, dl, ds, db, dz, dp, m, _, _, _, _, _, _, _, rfl, rfl, d, fun _ _ => rfl⟩
      · rw [if_neg (fun z => hc (hc2.2.2.2.2.2.2.1.mp z)), if_neg (fun z => hc (hc2.2.2.2.2.2.2.2.1.mp z))]
        have hqq := g5 (by omega)
        rcases line_s h el d (c := c) (q := q) (q' := q') (by omega) g1 hqq g4 tf tp (if c = 2 then nI v else tv) ba (if c = 2 then nI v else 0) with ⟨s', k', st', v', J', B', L', dh', dc', de', dl', ds', db', dz', dp', m', ba', hh', t', w', y1, y2, y3, y4, y5, y6⟩ | ⟨code, place, x1, x2, x3, x4, m', y1, y2, y3, y4, w1, w2, w3, w4, w5⟩
        · rw [y3, b18_so2, if_neg (c := (1 : Int32) = 0) (by decide), lt_eq2, nI_1, y4, b67]
          simp only [lt_eq2]
          rcases ih s' (l + 1) J' B' L' dh' dc' de' dl' ds' db' dz' dp' m' tf tp k' st' v' ba' hh' t' w' y2 (by omega) (by omega) y5 with ⟨l2, J2, B2, L2, dh2, dc2, de2, dl2, ds2, db2, dz2, dp2, m2, p1, p2, p3, p4, p5, p6, p7, z1, z2, z3, z4⟩ | ⟨code, place, l2, J2, B2, L2, l1, x1, x2, x3, x4, dh2, dc2, de2, dl2, ds2, db2, dz2, dp2, m2, p1, p2, p3, p4, z1, z2, z3, z4, z5, z6⟩
          · left
            exact ⟨l2, J2, B2, L2, dh2, dc2, de2, dl2, ds2, db2, dz2, dp2, m2, p1, p2, p3, p4, p5, p6, p7, z1, z2, z3, fun y hy => by rw [z4 y hy, y6 y hy]⟩
          · right
            exact ⟨code, place, l2, J2, B2, L2, l1, x1, x2, x3, x4, dh2, dc2, de2, dl2, ds2, db2, dz2, dp2, m2, p1, p2, p3, p4, z1, z2, z3, z4, z5, fun y hy => by rw [z6 y hy, y6 y hy]⟩
        · right
          obtain ⟨f, rfl⟩ : ∃ k, f = k + 1 := ⟨f - 1, by omega⟩
          rw [w3, b18_so2, if_pos rfl, w4, b7_so2, lt_eq2, FMo_text_L41.eq_2, lt_eq2, if_neg (nI_ne0 (n := code) w1 (by omega))]
          exact ⟨code, place, l, J, B, L, _, _, _, _, _, dh, dc, de, dl, ds, db, dz, dp, m', _, _, _, _, w1, w2, rfl, rfl, d.2.1, w5⟩
    · right
      obtain ⟨x, y, z, e1⟩ := g3 tf tp tk tv
      obtain ⟨x2, y2, z2, e2⟩ := g4 ba hh t w
      rw [e1, e2, b7_so2, b6_so2, if_pos rfl, FMo_text_L41.eq_2, lt_eq2, if_neg (c := (1 : Int32) = 0) (by decide)]
      exact ⟨1, q, l, J, B, L, _, _, _, _, _, dh, dc, de, dl, ds, db, dz, dp, m, _, _, _, _, by omega, by omega, rfl, rfl, d.2.1, fun _ _ => rfl⟩
theorem text14 (k : Int32 → (Nat → Int32) → Option (Int32 × (Nat → Int32) × Int32 × Int32 × Int32 × Int32 × Int32 × Int32 × Int32 × Int32 × (Nat → Int32) × (Nat → Int32) × Int32 × Int32 × (Nat → Int32))) {m0 : Nat → Int32} : ∀ (f i : Nat) (m : Nat → Int32), i ≤ 79 → 79 - i < f → (∀ y, m y = if 237 ≤ y ∧ y < 237 + i then 0 else m0 y) → ∃ m' : Nat → Int32, FMo_text_L14 k f (nI i) m = k (nI 79) m' ∧ ∀ y, m' y = if 237 ≤ y ∧ y < 316 then 0 else m0 y := by
  intro f
  induction f with
  | zero => intro i m h1 h2; omega
  | succ f ih =>
    intro i m h1 h2 h3
    rw [FMo_text_L14.eq_2, show (79 : Int32) = nI 79 from rfl]
    by_cases hi : i = 79
    · subst hi
      rw [if_pos (nI_le (Nat.le_refl _) (by omega))]
      exact ⟨m, rfl, h3⟩
    · rw [if_neg (nI_ge (by omega) (by omega)), show (237 : Int32) + nI i = nI (237 + i) from nI_add 237 i, nI_gd (by omega) (by omega), nI_clamp (by omega), lt_eq2, lt_eq2, nI_1]
      refine ih (i + 1) _ (by omega) (by omega) (fun y => ?_)
      by_cases e : y = 237 + i
      · subst e; rw [pk_us, if_pos (by omega)]
      · rw [pk_un e, h3]
        by_cases g : 237 ≤ y ∧ y < 237 + i
        · rw [if_pos g, if_pos (by omega)]
        · rw [if_neg g, if_neg (by omega)]
theorem TT_of {pb mt : Nat → Int32} {ps mp : Int32} (t : TA pb mt ps mp) : ∃ n, ps = nI n ∧ mp = nI n ∧ TT n (tN mt) pb mt := by
  obtain ⟨n, hn, h1, h2, h3⟩ := t
  refine ⟨n, h1, h2, hn, fun i hi => ?_⟩
  obtain ⟨c, c1, c2, c3⟩ := h3 i hi
  unfold tN
  rw [c2, c3, nI_clamp (by omega)]
  exact ⟨rfl, rfl, c1⟩
theorem Jm_text {pb mt me ml xk mk dh dc de dl ds db dz dp m mo ms bm be bo bn bk bs : Nat → Int32} {ps mp tk ts tv mst mla bst bla mba mh mtk mv : Int32} (t : TA pb mt ps mp) (el : EL me ml) (hz : ∀ j, j < 6 → dh j = 0 ∨ dh j = 1) : (∃ (r fa z3 z4 z5 z6 z7 z8 z9 z19 z20 z21 : Int32) (dh' dc' de' dl' ds' db' dz' dp' m' : Nat → Int32) (y1 y2 y3 y4 y5 y6 : Int32), FJm_text xk tk ts tv pb ps dh dc de dl ds db dz dp bm be bo bn bk bs bst bla = some (r, xk, fa, z3, z4, z5, z6, z7, z8, z9, 0, dh', dc', de', dl', ds', db', dz', dp', z19, z20, z21, bm, be, bo, bn, bk, bs, bst, bla, false) ∧ FMo_text m mt mp mba mh mtk mv me ml mo ms mst mla mk = some (r, m', 0, fa, y1, y2, y3, y4, y5, y6, mo, ms, mst, mla, mk) ∧ (∀ y, y < 237 → m' y = m y) ∧ (∀ j, j < 6 → dh' j = 0 ∨ dh' j = 1)) ∨ (∃ (r fa z3 z4 z5 z6 z7 z8 z9 : Int32) (J' B' L' : Nat) (xk' mk' dh' dc' de' dl' ds' db' dz' dp' bm' be' bo' bn' bk' bs' m' mo' ms' : Nat → Int32) (bst' bla' mst' mla' y1 y2 y3 y4 y5 y6 : Int32), FJm_text xk tk ts tv pb ps dh dc de dl ds db dz dp bm be bo bn bk bs bst bla = some (r, xk', fa, z3, z4, z5, z6, z7, z8, z9, 0, dh', dc', de', dl', ds', db', dz', dp', nI J', nI B', nI L', bm', be', bo', bn', bk', bs', bst', bla', true) ∧ FMo_text m mt mp mba mh mtk mv me ml mo ms mst mla mk = some (r, m', 0, fa, y1, y2, y3, y4, y5, y6, mo', ms', mst', mla', mk') ∧ GF 0 J' B' L' dh' dc' de' dl' ds' db' dz' dp' m' ∧ BI J' B' dc' de' dl' ds' mo' ms' mst' mla' bm' be' bo' bn' bk' bs' bst' bla' ∧ xk' 0 = 0 ∧ xk' 1 = 0 ∧ mk' 0 = 0 ∧ mk' 1 = 0) := by
  obtain ⟨n, rfl, rfl, h⟩ := TT_of t
  have hn := h.1
  unfold FJm_text FTe_tell FFr_clear FMo_text
  rw [b3_so2]
  obtain ⟨m1, e1, e2⟩ := text14 (fun (v5 : Int32) (w6 : Nat → Int32) =>
      b6_ (FMo_readsOn mt (nI n) (0 : Int32) mba (0 : Int32) mh mtk mv) fun w7 w8 w9 w10 w11 w12 =>
      FMo_text_L41 mt (nI n) me ml (fun (v30 : Int32) (w31 : Nat → Int32) (w32 : Int32) (w33 : Int32) (w34 : Int32) (w35 : Int32) (w36 : Int32) (w37 : Int32) =>
          lt_ (fun (w38 : Int32) (w39 : Int32) =>
            if w38 ≤ 0 then
              b1_ (FMo_copies w31 (237 : Int32) (0 : Int32)) fun w41 =>
              b5_ (FMo_begins w41 mo ms mst) fun r44 w45 w46 w47 w48 =>
              gd_ (0 : Int32) 2 <|
              lt_ (upd mk (0 : Int32).toNatClampNeg (vp_nar .boolean (0 : Int32))) fun w52 =>
              gd_ (1 : Int32) 2 <|
              lt_ (upd w52 (1 : Int32).toNatClampNeg (vp_nar .boolean (0 : Int32))) fun w54 =>
              some (v30, w41, (0 : Int32), w38, w38, w39, w34, w35, w36, w37, w45, w46, w47, w48, w54)
            else
              some (((-10 : Int32) - w39), w31, (0 : Int32), w38, w38, w39, w34, w35, w36, w37, mo, ms, mst, mla, mk) : Int32 → Int32 → Option (Int32 × (Nat → Int32) × Int32 × Int32 × Int32 × Int32 × Int32 × Int32 × Int32 × Int32 × (Nat → Int32) × (Nat → Int32) × Int32 × Int32 × (Nat → Int32))) fun j55 =>
          if w32 = 0 then
            b1_ (FMo_isWhole w31) fun r58 =>
            if r58 = 0 then
              b2_ (FMo_fails w32 w33 w35 (6 : Int32)) fun w62 w63 =>
              j55 w62 w63
            else
              j55 w32 w33
          else
            j55 w32 w33) 1000 (0 : Int32) w6 w7 w8 w9 w10 w11 w12) (m0 := m) 1000 0 m (by omega) (by omega) (fun y => by rw [if_neg (by omega)])
  rw [← l0_] at e1
  rw [e1]
  have d1 : DR 0 0 0 dh dc de dl ds db dz dp m1 := ⟨⟨by omega, by omega, by omega, by rw [e2, if_pos (by omega)]; rfl, by rw [e2, if_pos (by omega)]; rfl, by rw [e2, if_pos (by omega)]; rfl, fun j hj => by omega, fun b hb => by omega, fun i hi => by omega⟩, hz, fun j hj => by omega, fun e he => by omega, fun b hb => by omega, fun b hb => by omega, fun b hb => by omega, fun i hi => by omega, Nat.zero_le _⟩
  have p1 : ∀ y, y < 237 → m1 y = m y := fun y hy => by rw [e2, if_neg (by omega)]
  rcases tell_s h el (fun (w48 : Int32) (w49 : Int32) (w50 : Int32) (w51 : Int32) (w52 : Int32) (w53 : Int32) (w54 : Int32) (w55 : Nat → Int32) (w56 : Nat → Int32) (w57 : Nat → Int32) (w58 : Nat → Int32) (w59 : Nat → Int32) (w60 : Nat → Int32) (w61 : Nat → Int32) (w62 : Nat → Int32) (w63 : Int32) (w64 : Int32) (w65 : Int32) =>
      b1_ (FFr_isWhole w57 w58 w60 w62 w63 w64 w65) fun r66 =>
      if r66 = 0 then
        b3_ (FTe_fail (6 : Int32) (nI n)) fun r70 w71 w72 =>
        if r70 = 0 then
          some ((0 : Int32), w48, w71, w72, w51, w52, w53, w54, w55, w56, w57, w58, w59, w60, w61, w62, w63, w64, w65)
        else
          some ((1 : Int32), w48, w71, w72, w51, w52, w53, w54, w55, w56, w57, w58, w59, w60, w61, w62, w63, w64, w65)
      else
        some ((1 : Int32), w48, w49, w50, w51, w52, w53, w54, w55, w56, w57, w58, w59, w60, w61, w62, w63, w64, w65)) (fun (v30 : Int32) (w31 : Nat → Int32) (w32 : Int32) (w33 : Int32) (w34 : Int32) (w35 : Int32) (w36 : Int32) (w37 : Int32) =>
          lt_ (fun (w38 : Int32) (w39 : Int32) =>
            if w38 ≤ 0 then
              b1_ (FMo_copies w31 (237 : Int32) (0 : Int32)) fun w41 =>
              b5_ (FMo_begins w41 mo ms mst) fun r44 w45 w46 w47 w48 =>
              gd_ (0 : Int32) 2 <|
              lt_ (upd mk (0 : Int32).toNatClampNeg (vp_nar .boolean (0 : Int32))) fun w52 =>
              gd_ (1 : Int32) 2 <|
              lt_ (upd w52 (1 : Int32).toNatClampNeg (vp_nar .boolean (0 : Int32))) fun w54 =>
              some (v30, w41, (0 : Int32), w38, w38, w39, w34, w35, w36, w37, w45, w46, w47, w48, w54)
            else
              some (((-10 : Int32) - w39), w31, (0 : Int32), w38, w38, w39, w34, w35, w36, w37, mo, ms, mst, mla, mk) : Int32 → Int32 → Option (Int32 × (Nat → Int32) × Int32 × Int32 × Int32 × Int32 × Int32 × Int32 × Int32 × Int32 × (Nat → Int32) × (Nat → Int32) × Int32 × Int32 × (Nat → Int32))) fun j55 =>
          if w32 = 0 then
            b1_ (FMo_isWhole w31) fun r58 =>
            if r58 = 0 then
              b2_ (FMo_fails w32 w33 w35 (6 : Int32)) fun w62 w63 =>
              j55 w62 w63
            else
              j55 w32 w33
          else
            j55 w32 w33) 1000 0 0 0 0 0 dh dc de dl ds db dz dp m1 0 0 tk ts tv mba mh mtk mv (by omega) (by omega) (by omega) d1 with ⟨l', J', B', L', dh', dc', de', dl', ds', db', dz', dp', m', tk', ts', sp', tv', ba', sp1, w1, z1, z2, z3, z4⟩ | ⟨code, place, l', J', B', L', l1, x1, x2, x3, x4, dh', dc', de', dl', ds', db', dz', dp', m', y1, y2, y3, y4, z1, z2, z3, z4, z5, z6⟩
  · rw [← l0_] at z1 z2
    rw [z1, z2]
    have p2 : ∀ y, y < 237 → m' y = m y := fun y hy => by rw [z4 y (Or.inl hy), p1 y hy]
    unfold FTe_fail FMo_fails
    rcases whole_s z3 with ⟨w2, w3, w4⟩ | ⟨w2, w3⟩
    · right
      have g : GF 237 J' B' L' dh' dc' de' dl' ds' db' dz' dp' m' := ⟨z3.1, w4, z3.2.2.2.2.2.2.2.2⟩
      obtain ⟨m2, c1, c2, c3⟩ := copies_e (P := 237) (Q := 0) (by omega) (by omega) (by omega) m'
      have c1' : FMo_copies m' (237 : Int32) 0 = some m2 := c1
      have g2 : GF 0 J' B' L' dh' dc' de' dl' ds' db' dz' dp' m2 := GF_copy g c2 (fun _ _ => rfl) (fun _ _ => rfl) (fun _ _ => rfl) (fun _ _ => rfl) (fun _ _ => rfl) (fun _ _ => rfl) (fun _ _ => rfl) (fun _ _ => rfl)
      obtain ⟨bm', be', bo', bn', bk', bs', mo', ms', h9, h10, h11⟩ := anew_BI g2.1 g2.2.1 bm be bo bn bk bs mo ms mst
      have z66 : ∀ k, FJm_text_L66 k 1000 0 xk = k 2 (upd (upd xk 0 0) 1 0) := by
        intro k
        rw [show (1000 : Nat) = 997 + 1 + 1 + 1 from rfl, FJm_text_L66.eq_2, if_neg (by decide), g02, lt_eq2, lt_eq2, show (0 : Int32) + 1 = 1 from by decide, FJm_text_L66.eq_2, if_neg (by decide), g12, lt_eq2, lt_eq2, show (1 : Int32) + 1 = 2 from by decide, FJm_text_L66.eq_2, if_pos (by decide), c00, c11, nb0]
      simp only [w2, w3, lt_eq2, if_true, n10_, if_false, b19_so2, z66, h9, b8_so2, show ((0 : Int32) ≤ 0) = True from eq_true (by decide), c1', b1_so2, h10, b5_so2, g02, g12, c00, c11, nb0]
      refine ⟨_, _, _, _, _, _, _, _, _, J', B', L', upd (upd xk 0 0) 1 0, upd (upd mk 0 0) 1 0, dh', dc', de', dl', ds', db', dz', dp', bm', be', bo', bn', bk', bs', m2, mo', ms', 0, -4, 0, -4, _, _, _, _, _, _, rfl, rfl, g2, h11, ?_, pk_us, ?_, pk_us⟩
      · rw [pk_un (by omega), pk_us]
      · rw [pk_un (by omega), pk_us]
    · left
      simp only [w2, w3, b1_so2, b3_so2, b19_so2, lt_eq2, if_true, b2_so2, show ((6 : Int32) ≤ 0) = False from eq_false (by decide), if_false]
      exact ⟨_, _, _, _, _, _, _, _, _, _, _, _, dh', dc', de', dl', ds', db', dz', dp', m', _, _, _, _, _, _, rfl, rfl, p2, z3.2.1⟩
  · left
    rw [← l0_] at z3 z4
    have n1 : ¬ nI code = 0 := nI_ne0 z1 (by omega)
    have n2 : ¬ nI code ≤ 0 := nI_nle z1 (by omega)
    rw [z3, z4, b19_so2, if_pos rfl]
    simp only [lt_eq2, if_neg n1, if_neg n2]
    exact ⟨_, _, _, _, _, _, _, _, _, _, _, _, dh', dc', de', dl', ds', db', dz', dp', m', _, _, _, _, _, _, rfl, rfl, fun y hy => by rw [z6 y (Or.inl hy), p1 y hy], z5⟩
