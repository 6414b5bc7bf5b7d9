/-! layer 2: read, whole -/
theorem b9_so2 {T1 T2 T3 T4 T5 T6 T7 T8 T9 G : Type} (a1 : T1) (a2 : T2) (a3 : T3) (a4 : T4) (a5 : T5) (a6 : T6) (a7 : T7) (a8 : T8) (a9 : T9) (k : T1 → T2 → T3 → T4 → T5 → T6 → T7 → T8 → T9 → Option G) : b9_ (some (a1, a2, a3, a4, a5, a6, a7, a8, a9)) k = k a1 a2 a3 a4 a5 a6 a7 a8 a9 := Eq.symm (Eq.symm rfl)
theorem b8_so2 {T1 T2 T3 T4 T5 T6 T7 T8 G : Type} (a1 : T1) (a2 : T2) (a3 : T3) (a4 : T4) (a5 : T5) (a6 : T6) (a7 : T7) (a8 : T8) (k : T1 → T2 → T3 → T4 → T5 → T6 → T7 → T8 → Option G) : b8_ (some (a1, a2, a3, a4, a5, a6, a7, a8)) k = k a1 a2 a3 a4 a5 a6 a7 a8 := Eq.symm (Eq.symm rfl)
theorem take0 (bm be bo bn bk bs : Nat → Int32) (bst bla : Int32) (fc fe fl fs fb fz fp : Nat → Int32) (B L : Int32) (hc : Nat → Int32) (f : Int32) : FJm_takeCouples bm be bo bn bk bs bst bla fc fe fl fs fb fz fp B L hc f (nI 0) = some (bm, be, bo, bn, bk, bs, bst, bla, fc) := by
  unfold FJm_takeCouples
  rw [show (1000 : Nat) = 999 + 1 from rfl, FJm_takeCouples_L3.eq_2, if_pos (by decide), if_pos (by decide)]
def rdK (bm be bo bn bk bs : Nat → Int32) (bst bla : Int32) (fc fe fl fs fb fz fp : Nat → Int32) (B L : Int32) (hc : Nat → Int32) (f : Int32) (v31 v32 : Int32) : Option (Int32 × Int32 × (Nat → Int32) × (Nat → Int32) × (Nat → Int32) × (Nat → Int32) × (Nat → Int32) × (Nat → Int32) × Int32 × Int32 × (Nat → Int32)) :=
  b9_ (FJm_takeCouples bm be bo bn bk bs bst bla fc fe fl fs fb fz fp B L hc f v32) fun w33 w34 w35 w36 w37 w38 w39 w40 w41 => some (v32, v31, w33, w34, w35, w36, w37, w38, w39, w40, w41)
def rdR (mo ms : Nat → Int32) (mst mla : Int32) (v55 v56 v57 : Int32) (w58 : Nat → Int32) : Option (Int32 × (Nat → Int32) × (Nat → Int32) × (Nat → Int32) × Int32 × Int32 × Int32) :=
  if v56 ≤ 0 then
    some (v56, w58, mo, ms, mst, mla, v55)
  else
    b5_ (FMo_begins w58 mo ms mst) fun r60 w61 w62 w63 w64 =>
    some (v56, w58, w61, w62, w63, w64, v55)
theorem read_core {J B L : Nat} {fh fc fe fl fs fb fz fp m mo ms bm be bo bn bk bs : Nat → Int32} {mst mla bst bla : Int32} {ml mg mc hc : Nat → Int32} {hl hs xr torn : Int32} {k l2 n : Nat} (hk : k < 4) (hl2 : l2 ≤ 2) (hn : n ≤ 20) (s : SH k hc hl hs ml mg mc) (g : GF 0 J B L fh fc fe fl fs fb fz fp m) (b : BI J B fc fe fl fs mo ms mst mla bm be bo bn bk bs bst bla) (hx : xr = torn) (a3 : Int32) : ∃ (r xr' : Int32) (bm' be' bo' bn' bk' bs' fc' m' mo' ms' : Nat → Int32) (bst' bla' mst' mla' torn' : Int32), FJm_read_L42_0 xr bm be bo bn bk bs bst bla fc (nI J) hc hl hs (nI l2) a3 (nI n) (rdK bm be bo bn bk bs bst bla fc fe fl fs fb fz fp (nI B) (nI L) hc a3) 1000 0 0 = some (r, xr', bm', be', bo', bn', bk', bs', bst', bla', fc') ∧ FMo_read m mo ms mst mla ml mg mc torn (nI k) (nI l2) a3 (nI n) = some (r, m', mo', ms', mst', mla', torn') ∧ GF 0 J B L fh fc' fe fl fs fb fz fp m' ∧ BI J B fc' fe fl fs mo' ms' mst' mla' bm' be' bo' bn' bk' bs' bst' bla' ∧ xr' = torn' ∧ pg m m' := by
  have hJ := g.1.1
  have hB := g.1.2.1
  have e1 : FMo_in (nI k).toInt64 0 3 = some 1 := by
    rw [Mo_in64, Int32.toInt_toInt64, nI_toInt (by omega), show (0 : Int64).toInt = 0 from by decide, show (3 : Int64).toInt = 3 from by decide, if_pos (by omega)]
  have e2 : FMo_in (nI l2).toInt64 0 2 = some 1 := by
    rw [Mo_in64, Int32.toInt_toInt64, nI_toInt (by omega), show (0 : Int64).toInt = 0 from by decide, show (2 : Int64).toInt = 2 from by decide, if_pos (by omega)]
  have e3 : FMo_in (nI n).toInt64 0 20 = some 1 := by
    rw [Mo_in64, Int32.toInt_toInt64, nI_toInt (by omega), show (0 : Int64).toInt = 0 from by decide, show (20 : Int64).toInt = 20 from by decide, if_pos (by omega)]
  obtain ⟨m1, z1, z2, z3⟩ := copies_e (P := 0) (Q := 316) (by omega) (by omega) (by omega) m
  have z1' : FMo_copies m 0 (316 : Int32) = some m1 := z1
  have g1 : GF 0 J B L fh fc fe fl fs fb fz fp m1 := GF_copy g (fun x hx => z3 (0 + x) (by omega)) (fun _ _ => rfl) (fun _ _ => rfl) (fun _ _ => rfl) (fun _ _ => rfl) (fun _ _ => rfl) (fun _ _ => rfl) (fun _ _ => rfl) (fun _ _ => rfl)
  have p1 : pg m m1 := fun i hi hi2 => z3 i (by omega)
  have hM : FMo_read m mo ms mst mla ml mg mc torn (nI k) (nI l2) a3 (nI n) = FMo_read_L56 mo ms mst mla ml mg mc torn (nI k) (nI l2) a3 (nI n) (rdR mo ms mst mla) 1000 0 0 0 m1 := by
    unfold FMo_read
    rw [e1, e2, e3, z1', b1_so2, b1_so2, b1_so2, b1_so2, if_neg (c := (1 : Int32) = 0) (by decide), if_neg (c := (1 : Int32) = 0) (by decide), if_neg (c := (1 : Int32) = 0) (by decide)]
    rfl
  rw [hM]
  have cl := nI_clamp (n := k) (by omega)
  have g4 : ∀ {α : Type} {o : Option α}, gd_ (nI k) 4 o = o := fun {α o} => nI_gd (by omega) (by omega)
  have fin0 : ∀ fo : Int32, ∃ (r xr' : Int32) (bm' be' bo' bn' bk' bs' fc' m' mo' ms' : Nat → Int32) (bst' bla' mst' mla' torn' : Int32), rdK bm be bo bn bk bs bst bla fc fe fl fs fb fz fp (nI B) (nI L) hc a3 fo (nI 0) = some (r, xr', bm', be', bo', bn', bk', bs', bst', bla', fc') ∧ rdR mo ms mst mla fo (nI 0) 0 m1 = some (r, m', mo', ms', mst', mla', torn') ∧ GF 0 J B L fh fc' fe fl fs fb fz fp m' ∧ BI J B fc' fe fl fs mo' ms' mst' mla' bm' be' bo' bn' bk' bs' bst' bla' ∧ xr' = torn' ∧ pg m m' := by
    intro fo
    unfold rdK rdR
    rw [take0, b9_so2, if_pos (by decide)]
    exact ⟨_, _, _, _, _, _, _, _, _, _, _, _, _, _, _, _, _, rfl, rfl, g1, b, rfl, p1⟩
  by_cases hn0 : n = 0
  · subst hn0
    have CA : FJm_read_L42_0 xr bm be bo bn bk bs bst bla fc (nI J) hc hl hs (nI l2) a3 (nI 0) (rdK bm be bo bn bk bs bst bla fc fe fl fs fb fz fp (nI B) (nI L) hc a3) 1000 0 0 = rdK bm be bo bn bk bs bst bla fc fe fl fs fb fz fp (nI B) (nI L) hc a3 0 (nI 0) := by
      rw [show (1000 : Nat) = 999 + 1 from rfl, FJm_read_L42_0.eq_2, lt_eq2, if_pos (show nI 0 ≤ 0 by decide)]
      rfl
    have RA : FMo_read_L56 mo ms mst mla ml mg mc torn (nI k) (nI l2) a3 (nI 0) (rdR mo ms mst mla) 1000 0 0 0 m1 = rdR mo ms mst mla 0 (nI 0) 0 m1 := by
      rw [show (1000 : Nat) = 999 + 1 from rfl, FMo_read_L56.eq_2, lt_eq2, if_pos (show 2 * nI 0 ≤ 0 by decide)]
      rfl
    rw [CA, RA]
    exact fin0 0
  · have one : ∀ fo : Int32, ¬ fo = 0 → FMo_read_L56 mo ms mst mla ml mg mc torn (nI k) (nI l2) a3 (nI n) (rdR mo ms mst mla) 999 fo 0 (nI 1) m1 = rdR mo ms mst mla fo (nI 0) 0 m1 := by
      intro fo hfo
      rw [show (999 : Nat) = 998 + 1 from rfl, FMo_read_L56.eq_2, lt_eq2, if_neg (c := fo = 0) hfo, ite_self]
      rfl
    have hc0 : ¬ nI n ≤ 0 := nI_nle (by omega) (by omega)
    have hc1 : ¬ nI (2 * n) ≤ 0 := nI_nle (by omega) (by omega)
    have CA : ∀ fo : Int32, ¬ fo = 0 → FSh_faultOfTwo hl hs (nI l2) (a3 + 2 * 0) = some fo → FJm_read_L42_0 xr bm be bo bn bk bs bst bla fc (nI J) hc hl hs (nI l2) a3 (nI n) (rdK bm be bo bn bk bs bst bla fc fe fl fs fb fz fp (nI B) (nI L) hc a3) 1000 0 0 = rdK bm be bo bn bk bs bst bla fc fe fl fs fb fz fp (nI B) (nI L) hc a3 fo (nI 0) := by
      intro fo h1 h2
      rw [show (1000 : Nat) = 999 + 1 from rfl, FJm_read_L42_0.eq_2, lt_eq2, if_neg hc0, lt_eq2, h2, b1_so2, if_neg h1]
      rfl
    obtain ⟨s1, s2⟩ := id s
    rcases s2 with ⟨q1, q2⟩ | ⟨l, len, q1, q2, rfl, rfl, q3, q4⟩
    · have A : FSh_faultOfTwo hl hs (nI l2) (a3 + 2 * 0) = some 1 := by
        unfold FSh_faultOfTwo FSh_faultAt
        rw [if_neg (by rw [Int32.not_le]; exact q1), b1_so2, if_neg (by decide)]
      rw [CA 1 (by decide) A]
      have RA : FMo_read_L56 mo ms mst mla ml mg mc torn (nI k) (nI l2) a3 (nI n) (rdR mo ms mst mla) 1000 0 0 0 m1 = rdR mo ms mst mla 1 (nI 0) 0 m1 := by
        rw [show (1000 : Nat) = 999 + 1 from rfl, FMo_read_L56.eq_2, lt_eq2, m2_, if_neg hc1, if_pos rfl, lt_eq2, g4, lt_eq2, cl, if_pos q2]
        dsimp only
        rw [if_neg (c := (1 : Int32) = 0) (by decide), lt_eq2, show (0 : Int32) + 1 = nI 1 from by decide, one 1 (by decide)]
      rw [RA]
      exact fin0 1
    · have hl4 : ¬ nI l = -4 := by intro hh; have := congrArg Int32.toInt hh; rw [nI_toInt (by omega), show ((-4 : Int32)).toInt = -4 from by decide] at this; omega
      by_cases hll : l = l2
      · subst hll
        by_cases hf : ∃ f : Nat, f < 40 ∧ a3 = nI f
        · obtain ⟨f, hf, rfl⟩ := hf
          rcases read_s (xr := xr) (torn := torn) (mo := mo) (ms := ms) (mst := mst) (mla := mla) (bm := bm) (be := be) (bo := bo) (bn := bn) (bk := bk) (bs := bs) (bst := bst) (bla := bla) hk hf q1 q2 hn s1 q3 q4 g (rdK bm be bo bn bk bs bst bla fc fe fl fs fb fz fp (nI B) (nI L) hc (nI f)) (rdR mo ms mst mla) n 0 1000 1000 m1 (by omega) (by omega) (by omega) (fun x hx => by omega) g1 z2 p1 with ⟨w', m', w1, w2, w3, w4⟩ | ⟨W, fo, m', w1, w2, w3, w4, w5, w6⟩
          · exact ⟨_, _, _, _, _, _, _, _, _, _, _, _, _, _, _, _, _, w1, w2, w3, b, hx, w4⟩
          · have hA : rdK bm be bo bn bk bs bst bla fc fe fl fs fb fz fp (nI B) (nI L) hc (nI f) fo (nI W) = b9_ (if nI W ≤ 0 then some (bm, be, bo, bn, bk, bs, bst, bla, cw hc fc f W) else b8_ (FBa_anew bm be bo bn bk bs (cw hc fc f W) fe fl fs fb fz fp (nI B) (nI L)) fun w10 w11 w12 w13 w14 w15 w16 w17 => some (w10, w11, w12, w13, w14, w15, w16, w17, cw hc fc f W)) fun w33 w34 w35 w36 w37 w38 w39 w40 w41 => some (nI W, fo, w33, w34, w35, w36, w37, w38, w39, w40, w41) := by
              unfold rdK FJm_takeCouples
              have t3 := take3 (fc := fc) hJ (by omega) hf w4 (fun (v7 : Int32) (w8 : Nat → Int32) => if nI W ≤ 0 then some (bm, be, bo, bn, bk, bs, bst, bla, w8) else b8_ (FBa_anew bm be bo bn bk bs w8 fe fl fs fb fz fp (nI B) (nI L)) fun w10 w11 w12 w13 w14 w15 w16 w17 => some (w10, w11, w12, w13, w14, w15, w16, w17, w8)) 1000 0 (by omega) (by omega)
              rw [← l0_] at t3
              rw [show (cw hc fc f 0) = fc from rfl] at t3
              rw [t3]
            have w1' : FJm_read_L42_0 xr bm be bo bn bk bs bst bla fc (nI J) hc (nI l) (nI len) (nI l) (nI f) (nI n) (rdK bm be bo bn bk bs bst bla fc fe fl fs fb fz fp (nI B) (nI L) hc (nI f)) 1000 0 0 = _ := w1
            have w2' : FMo_read_L56 mo ms mst mla ml mg mc torn (nI k) (nI l) (nI f) (nI n) (rdR mo ms mst mla) 1000 0 0 0 m1 = _ := w2
            rw [w1', w2', hA]
            unfold rdR
            by_cases hW : W = 0
            · subst hW
              rw [if_pos (by decide), if_pos (by decide), b9_so2]
              exact ⟨_, _, _, _, _, _, _, _, _, _, _, _, _, _, _, _, _, rfl, rfl, w5, b, rfl, w6⟩
            · have hW2 : ¬ nI W ≤ 0 := nI_nle (by omega) (by omega)
              obtain ⟨bm', be', bo', bn', bk', bs', mo', ms', h9, h10, h11⟩ := anew_BI w5.1 w5.2.1 bm be bo bn bk bs mo ms mst
              rw [if_neg hW2, if_neg hW2, h9, h10, b8_so2, b9_so2, b5_so2]
              exact ⟨_, _, _, _, _, _, _, _, _, _, _, _, _, _, _, _, _, rfl, rfl, w5, h11, rfl, w6⟩
        · have hneg : a3 < 0 ∨ nI len ≤ a3 := by
            rcases pk_ix a3 (n := len) (by omega) with h | h | ⟨j, hj, rfl⟩
            · exact Or.inl h
            · exact Or.inr h
            · exact absurd ⟨j, by omega, rfl⟩ hf
          have A : FSh_faultOfTwo (nI l) (nI len) (nI l) (a3 + 2 * 0) = some 2 := by
            unfold FSh_faultOfTwo FSh_faultAt
            rw [show a3 + 2 * 0 = a3 from by rw [show (2 : Int32) * 0 = 0 from by decide, Int32.add_zero], if_pos (nI_pos' (by omega)), if_pos rfl]
            by_cases h0 : a3 < 0
            · rw [if_pos h0, b1_so2, if_neg (by decide)]
            · rw [if_neg h0, if_neg (by rw [Int32.not_lt]; exact hneg.resolve_left h0), b1_so2, if_neg (by decide)]
          have B2 : FMo_in (a3.toInt64 + (0 : Int32).toInt64) 0 (nI len - 1).toInt64 = some 0 := by
            rw [show (0 : Int32).toInt64 = 0 from by decide, Int64.add_zero]
            rcases rg_cases len (by omega) a3 with ⟨x, h1, h2, -⟩ | ⟨h1, -⟩
            · exact absurd ⟨x, by omega, h2⟩ hf
            · exact h1
          rw [CA 2 (by decide) A]
          have RA : FMo_read_L56 mo ms mst mla ml mg mc torn (nI k) (nI l) a3 (nI n) (rdR mo ms mst mla) 1000 0 0 0 m1 = rdR mo ms mst mla 2 (nI 0) 0 m1 := by
            rw [show (1000 : Nat) = 999 + 1 from rfl, FMo_read_L56.eq_2, lt_eq2, m2_, if_neg hc1, if_pos rfl, lt_eq2, g4, lt_eq2, cl, q3, if_neg hl4, g4, if_pos rfl, g4, q4, B2, b1_so2, if_pos rfl]
            dsimp only
            rw [if_neg (c := (2 : Int32) = 0) (by decide), lt_eq2, show (0 : Int32) + 1 = nI 1 from by decide, one 2 (by decide)]
          rw [RA]
          exact fin0 2
      · have hll2 : ¬ nI l = nI l2 := by rw [nI_eq (by omega) (by omega)]; exact hll
        have A : FSh_faultOfTwo (nI l) (nI len) (nI l2) (a3 + 2 * 0) = some 3 := by
          unfold FSh_faultOfTwo FSh_faultAt
          rw [if_pos (nI_pos' (by omega)), if_neg (fun h => hll2 h.symm), b1_so2, if_neg (by decide)]
        rw [CA 3 (by decide) A]
        have RA : FMo_read_L56 mo ms mst mla ml mg mc torn (nI k) (nI l2) a3 (nI n) (rdR mo ms mst mla) 1000 0 0 0 m1 = rdR mo ms mst mla 3 (nI 0) 0 m1 := by
          rw [show (1000 : Nat) = 999 + 1 from rfl, FMo_read_L56.eq_2, lt_eq2, m2_, if_neg hc1, if_pos rfl, lt_eq2, g4, lt_eq2, cl, q3, if_neg hl4, g4, if_neg hll2]
          dsimp only
          rw [if_neg (c := (3 : Int32) = 0) (by decide), lt_eq2, show (0 : Int32) + 1 = nI 1 from by decide, one 3 (by decide)]
        rw [RA]
        exact fin0 3
theorem Jm_read {J B L : Nat} {fh fc fe fl fs fb fz fp m mo ms bm be bo bn bk bs : Nat → Int32} {mst mla bst bla : Int32} {ml mg mc h0c h1c h2c h3c : Nat → Int32} {h0l h0s h1l h1s h2l h2s h3l h3s xr torn : Int32} (s0 : SH 0 h0c h0l h0s ml mg mc) (s1 : SH 1 h1c h1l h1s ml mg mc) (s2 : SH 2 h2c h2l h2s ml mg mc) (s3 : SH 3 h3c h3l h3s ml mg mc) (g : GF 0 J B L fh fc fe fl fs fb fz fp m) (b : BI J B fc fe fl fs mo ms mst mla bm be bo bn bk bs bst bla) (hx : xr = torn) (a1 a2 a3 a4 : Int32) : ∃ (r xr' : Int32) (bm' be' bo' bn' bk' bs' fc' m' mo' ms' : Nat → Int32) (bst' bla' mst' mla' torn' : Int32), FJm_read xr bm be bo bn bk bs bst bla fc fe fl fs fb fz fp (nI J) (nI B) (nI L) h0c h0l h0s h1c h1l h1s h2c h2l h2s h3c h3l h3s a1 a2 a3 a4 = some (r, xr', bm', be', bo', bn', bk', bs', bst', bla', fc') ∧ FMo_read m mo ms mst mla ml mg mc torn a1 a2 a3 a4 = some (r, m', mo', ms', mst', mla', torn') ∧ GF 0 J B L fh fc' fe fl fs fb fz fp m' ∧ BI J B fc' fe fl fs mo' ms' mst' mla' bm' be' bo' bn' bk' bs' bst' bla' ∧ xr' = torn' ∧ pg m m' := by
  have hno : ∀ r : Int32, ∃ (r_ xr' : Int32) (bm' be' bo' bn' bk' bs' fc' m' mo' ms' : Nat → Int32) (bst' bla' mst' mla' torn' : Int32), some (r, xr, bm, be, bo, bn, bk, bs, bst, bla, fc) = some (r_, xr', bm', be', bo', bn', bk', bs', bst', bla', fc') ∧ some (r, m, mo, ms, mst, mla, torn) = some (r_, m', mo', ms', mst', mla', torn') ∧ GF 0 J B L fh fc' fe fl fs fb fz fp m' ∧ BI J B fc' fe fl fs mo' ms' mst' mla' bm' be' bo' bn' bk' bs' bst' bla' ∧ xr' = torn' ∧ pg m m' := fun r => ⟨_, _, _, _, _, _, _, _, _, _, _, _, _, _, _, _, _, rfl, rfl, g, b, hx, fun _ _ _ => rfl⟩
  rcases isSheet_c a1 with ⟨k, hk, rfl, e1, e2⟩ | ⟨e1, e2⟩
  · rcases isLane_c a2 with ⟨l, hl, rfl, e3, e4⟩ | ⟨e3, e4⟩
    · rcases rc_cases 0 20 (by omega) (by omega) a4 0 20 (by decide) (by decide) with ⟨n, h1, h2, rfl, e5⟩ | ⟨e5, h1⟩
      · have g4 : ∀ {α : Type} {o : Option α}, gd_ (nI k) 4 o = o := fun {α o} => nI_gd (by omega) (by omega)
        unfold FJm_read
        rw [e1, e3, b1_so2, b1_so2, if_neg (c := (1 : Int32) = 0) (by decide), if_neg (c := (1 : Int32) = 0) (by decide), if_neg (nI_pos (by omega)), if_pos (show nI n ≤ 20 from nI_le (b := 20) h2 (by omega)), g4]
        rcases (show k = 0 ∨ k = 1 ∨ k = 2 ∨ k = 3 by omega) with rfl | rfl | rfl | rfl
        · rw [if_pos (show nI 0 = 0 from rfl)]
          exact read_core (k := 0) (by omega) hl h2 s0 g b hx a3
        · rw [if_neg (show ¬ nI 1 = 0 by decide), if_pos (show nI 1 = 1 from rfl), r42_1]
          exact read_core (k := 1) (by omega) hl h2 s1 g b hx a3
        · rw [if_neg (show ¬ nI 2 = 0 by decide), if_neg (show ¬ nI 2 = 1 by decide), if_pos (show nI 2 = 2 from rfl), r42_2]
          exact read_core (k := 2) (by omega) hl h2 s2 g b hx a3
        · rw [if_neg (show ¬ nI 3 = 0 by decide), if_neg (show ¬ nI 3 = 1 by decide), if_neg (show ¬ nI 3 = 2 by decide), if_pos (show nI 3 = 3 from rfl), r42_3]
          exact read_core (k := 3) (by omega) hl h2 s3 g b hx a3
      · unfold FJm_read FMo_read
        rw [e1, e2, e3, e4, e5, b1_so2, b1_so2, b1_so2, b1_so2, b1_so2, if_neg (c := (1 : Int32) = 0) (by decide), if_neg (c := (1 : Int32) = 0) (by decide), if_neg (c := (1 : Int32) = 0) (by decide), if_neg (c := (1 : Int32) = 0) (by decide), if_pos (c := (0 : Int32) = 0) rfl]
        by_cases h2 : a4 < 0
        · rw [if_pos h2]; exact hno (-1)
        · rw [if_neg h2, if_neg (by rw [Int32.not_le]; exact h1.resolve_left h2)]; exact hno (-1)
    · unfold FJm_read FMo_read
      rw [e1, e2, e3, e4, b1_so2, b1_so2, b1_so2, b1_so2, if_neg (c := (1 : Int32) = 0) (by decide), if_neg (c := (1 : Int32) = 0) (by decide), if_pos (c := (0 : Int32) = 0) rfl, if_pos (c := (0 : Int32) = 0) rfl]
      exact hno (-1)
  · unfold FJm_read FMo_read
    rw [e1, e2, b1_so2, b1_so2, if_pos (c := (0 : Int32) = 0) rfl, if_pos (c := (0 : Int32) = 0) rfl]
    exact hno (-1)
