/-! layer 2: read -/
theorem r42_1 (xr : Int32) (bm be bo bn bk bs : Nat → Int32) (st la : Int32) (fc : Nat → Int32) (fj : Int32) (hc : Nat → Int32) (hl hs l2 l3 l4 : Int32) (k : Int32 → Int32 → Option (Int32 × Int32 × (Nat → Int32) × (Nat → Int32) × (Nat → Int32) × (Nat → Int32) × (Nat → Int32) × (Nat → Int32) × Int32 × Int32 × (Nat → Int32))) : ∀ (n : Nat) (a b : Int32), FJm_read_L42_1 xr bm be bo bn bk bs st la fc fj hc hl hs l2 l3 l4 k n a b = FJm_read_L42_0 xr bm be bo bn bk bs st la fc fj hc hl hs l2 l3 l4 k n a b
  | 0, _, _ => rfl
  | n + 1, a, b => by
    rw [FJm_read_L42_1.eq_2, FJm_read_L42_0.eq_2]
    simp only [r42_1 xr bm be bo bn bk bs st la fc fj hc hl hs l2 l3 l4 k n]
theorem r42_2 (xr : Int32) (bm be bo bn bk bs : Nat → Int32) (st la : Int32) (fc : Nat → Int32) (fj : Int32) (hc : Nat → Int32) (hl hs l2 l3 l4 : Int32) (k : Int32 → Int32 → Option (Int32 × Int32 × (Nat → Int32) × (Nat → Int32) × (Nat → Int32) × (Nat → Int32) × (Nat → Int32) × (Nat → Int32) × Int32 × Int32 × (Nat → Int32))) : ∀ (n : Nat) (a b : Int32), FJm_read_L42_2 xr bm be bo bn bk bs st la fc fj hc hl hs l2 l3 l4 k n a b = FJm_read_L42_0 xr bm be bo bn bk bs st la fc fj hc hl hs l2 l3 l4 k n a b
  | 0, _, _ => rfl
  | n + 1, a, b => by
    rw [FJm_read_L42_2.eq_2, FJm_read_L42_0.eq_2]
    simp only [r42_2 xr bm be bo bn bk bs st la fc fj hc hl hs l2 l3 l4 k n]
theorem r42_3 (xr : Int32) (bm be bo bn bk bs : Nat → Int32) (st la : Int32) (fc : Nat → Int32) (fj : Int32) (hc : Nat → Int32) (hl hs l2 l3 l4 : Int32) (k : Int32 → Int32 → Option (Int32 × Int32 × (Nat → Int32) × (Nat → Int32) × (Nat → Int32) × (Nat → Int32) × (Nat → Int32) × (Nat → Int32) × Int32 × Int32 × (Nat → Int32))) : ∀ (n : Nat) (a b : Int32), FJm_read_L42_3 xr bm be bo bn bk bs st la fc fj hc hl hs l2 l3 l4 k n a b = FJm_read_L42_0 xr bm be bo bn bk bs st la fc fj hc hl hs l2 l3 l4 k n a b
  | 0, _, _ => rfl
  | n + 1, a, b => by
    rw [FJm_read_L42_3.eq_2, FJm_read_L42_0.eq_2]
    simp only [r42_3 xr bm be bo bn bk bs st la fc fj hc hl hs l2 l3 l4 k n]
/-- COUPLES after w pairs from CELL f on -/
def cw (hc fc : Nat → Int32) (f : Nat) : Nat → (Nat → Int32)
  | 0 => fc
  | w + 1 => upd (cw hc fc f w) (hc (f + 2 * w)).toNatClampNeg (hc (f + 2 * w + 1))
/-- the first w pairs are whole and couple() takes them -/
def okP (J : Nat) (hc : Nat → Int32) (f w : Nat) : Prop := ∀ x, x < w → f + 2 * x + 1 < 40 ∧ ∃ j, j < J ∧ hc (f + 2 * x) = nI j
theorem take3 {J f W : Nat} {hc fc : Nat → Int32} (hJ : J ≤ 6) (hW : W ≤ 20) (hf : f < 40) (ok : okP J hc f W) (k : Int32 → (Nat → Int32) → Option ((Nat → Int32) × (Nat → Int32) × (Nat → Int32) × (Nat → Int32) × (Nat → Int32) × (Nat → Int32) × Int32 × Int32 × (Nat → Int32))) : ∀ (n i : Nat), i ≤ W → W - i < n → FJm_takeCouples_L3 hc (nI f) (nI W) k n (nI i) (cw hc fc f i) = k (nI W) (cw hc fc f W) := by
  intro n
  induction n with
  | zero => intro i h1 h2; omega
  | succ n ih =>
    intro i h1 h2
    rw [FJm_takeCouples_L3.eq_2]
    by_cases hi : i = W
    · subst hi
      rw [if_pos (nI_le (Nat.le_refl _) (by omega))]
    · obtain ⟨q1, j, hj, q2⟩ := ok i (by omega)
      rw [if_neg (nI_ge (by omega) (by omega)), m2_, nI_add, nI_1]
      have cl1 := nI_clamp (n := f + 2 * i) (by omega)
      have cl2 := nI_clamp (n := f + 2 * i + 1) (by omega)
      rw [nI_gd (by omega) (by omega), nI_gd (by omega) (by omega), cl1, cl2, q2, nI_gd (by omega) (by omega), lt_eq2, lt_eq2, nI_1]
      have e : upd (cw hc fc f i) (nI j).toNatClampNeg (hc (f + 2 * i + 1)) = cw hc fc f (i + 1) := by
        show _ = upd (cw hc fc f i) (hc (f + 2 * i)).toNatClampNeg (hc (f + 2 * i + 1))
        rw [q2]
      rw [e]
      exact ih (i + 1) (by omega) (by omega)
theorem fo2_s {l n c : Nat} (hn : n ≤ 40) (hc : c < 1000) : FSh_faultOfTwo (nI l) (nI n) (nI l) (nI c) = some (if c + 1 < n then 0 else 2) := by
  have h : ∀ x : Nat, x < 1001 → FSh_faultAt (nI l) (nI n) (nI l) (nI x) = some (if x < n then 0 else 2) := by
    intro x hx
    unfold FSh_faultAt
    rw [if_pos (nI_pos' (by omega)), if_pos rfl, if_neg (nI_pos (by omega))]
    by_cases h1 : x < n
    · rw [if_pos h1, if_pos (nI_lt h1 (by omega))]
    · rw [if_neg h1, if_neg (nI_nlt (by omega) (by omega))]
  unfold FSh_faultOfTwo
  rw [nI_1, h c (by omega), h (c + 1) (by omega), b1_so2, b1_so2]
  by_cases h1 : c < n
  · rw [if_pos h1, if_pos rfl]
  · rw [if_neg h1, if_neg (by decide), if_neg (by omega)]
theorem mo_found {l n c : Nat} (hn : n ≤ 40) (hc : c < 1000) : FMo_in (zL (c : Int)) (0 : Int64) ((nI n - 1).toInt64) = some (if c < n then 1 else 0) := by
  have h1 : (zL (c : Int)).toInt = c := Int64.toInt_ofInt_of_le (by omega) (by omega)
  have h2 : (nI n - 1).toInt = (n : Int) - 1 := pk_sub_toInt (a := n) (b := 1) (by omega) (by omega)
  rw [Mo_in64, h1, Int32.toInt_toInt64, h2, show (0 : Int64).toInt = 0 from by decide]
  by_cases h : c < n
  · rw [if_pos h, if_pos (by omega)]
  · rw [if_neg h, if_neg (by omega)]
theorem read_s {J B L f l len n k : Nat} {fh fc fe fl fs fb fz fp m0 mo ms bm be bo bn bk bs ml mg mc hc : Nat → Int32} {mst mla bst bla xr torn : Int32} (hk : k < 4) (hf : f < 40) (hl : l ≤ 2) (hlen : len ≤ 40) (hn : n ≤ 20) (hcell : ∀ i, i < 40 → mc (40 * k + i) = hc i) (hml : ml k = nI l) (hmg : mg k = nI len) (g0 : GF 0 J B L fh fc fe fl fs fb fz fp m0) (kc : Int32 → Int32 → Option (Int32 × Int32 × (Nat → Int32) × (Nat → Int32) × (Nat → Int32) × (Nat → Int32) × (Nat → Int32) × (Nat → Int32) × Int32 × Int32 × (Nat → Int32))) (kr : Int32 → Int32 → Int32 → (Nat → Int32) → Option (Int32 × (Nat → Int32) × (Nat → Int32) × (Nat → Int32) × Int32 × Int32 × Int32)) : ∀ (q w n1 n2 : Nat) (m : Nat → Int32), w + q = n → q < n1 → 2 * q + 1 < n2 → okP J hc f w → GF 0 J B L fh (cw hc fc f w) fe fl fs fb fz fp m → (∀ x, x < 79 → m (316 + x) = m0 (0 + x)) → pg m0 m → (∃ (w' : Nat) (m' : Nat → Int32), FJm_read_L42_0 xr bm be bo bn bk bs bst bla fc (nI J) hc (nI l) (nI len) (nI l) (nI f) (nI n) kc n1 0 (nI w) = some (-20 - nI w', xr, bm, be, bo, bn, bk, bs, bst, bla, fc) ∧ FMo_read_L56 mo ms mst mla ml mg mc torn (nI k) (nI l) (nI f) (nI n) kr n2 0 (nI w) (nI (2 * w)) m = some (-20 - nI w', m', mo, ms, mst, mla, torn) ∧ GF 0 J B L fh fc fe fl fs fb fz fp m' ∧ pg m0 m') ∨ (∃ (W : Nat) (fo : Int32) (m' : Nat → Int32), FJm_read_L42_0 xr bm be bo bn bk bs bst bla fc (nI J) hc (nI l) (nI len) (nI l) (nI f) (nI n) kc n1 0 (nI w) = kc fo (nI W) ∧ FMo_read_L56 mo ms mst mla ml mg mc torn (nI k) (nI l) (nI f) (nI n) kr n2 0 (nI w) (nI (2 * w)) m = kr fo (nI W) 0 m' ∧ W ≤ n ∧ okP J hc f W ∧ GF 0 J B L fh (cw hc fc f W) fe fl fs fb fz fp m' ∧ pg m0 m') := by
  have hJ := g0.1.1
  have cl := nI_clamp (n := k) (by omega)
  have g4 : ∀ {α : Type} {o : Option α}, gd_ (nI k) 4 o = o := fun {α o} => nI_gd (by omega) (by omega)
  have hl4 : ¬ nI l = -4 := by intro hh; have := congrArg Int32.toInt hh; rw [nI_toInt (by omega), show ((-4 : Int32)).toInt = -4 from by decide] at this; omega
  have hat : ∀ i : Nat, i < 100 → (nI f).toInt64 + (nI i).toInt64 = zL ((f + i : Nat) : Int) := by
    intro i hi
    rw [toInt64_z, toInt64_z, nI_toInt (by omega), nI_toInt (by omega)]
    unfold zL
    rw [← Int64.ofInt_add]
    congr 1
  have hat32 : ∀ i : Nat, (zL ((i : Nat) : Int)).toInt32 = nI i := by
    intro i
    rw [show (zL ((i : Nat) : Int)).toInt32 = zI (i : Int) from Int64.toInt32_ofInt, zI_nat]
  intro q
  induction q with
  | zero =>
    intro w n1 n2 m h1 h2 h3 h4 h5 h6 h7
    obtain ⟨n1, rfl⟩ : ∃ k, n1 = k + 1 := ⟨n1 - 1, by omega⟩
    obtain ⟨n2, rfl⟩ : ∃ k, n2 = k + 1 := ⟨n2 - 1, by omega⟩
    right
    have : w = n := by omega
    subst this
    refine ⟨w, 0, m, ?_, ?_, Nat.le_refl _, h4, h5, h7⟩
    · rw [FJm_read_L42_0.eq_2, lt_eq2, if_pos (nI_le (Nat.le_refl _) (by omega))]
    · rw [FMo_read_L56.eq_2, lt_eq2, m2_, if_pos (nI_le (Nat.le_refl _) (by omega))]
  | succ q ih =>
    intro w n1 n2 m h1 h2 h3 h4 h5 h6 h7
    obtain ⟨n1, rfl⟩ : ∃ k, n1 = k + 1 := ⟨n1 - 1, by omega⟩
    obtain ⟨n2, rfl⟩ : ∃ k, n2 = k + 1 := ⟨n2 - 1, by omega⟩
    have cls := fo2_s (l := l) (n := len) (c := f + 2 * w) hlen (by omega)
    have A : FJm_read_L42_0 xr bm be bo bn bk bs bst bla fc (nI J) hc (nI l) (nI len) (nI l) (nI f) (nI n) kc (n1 + 1) 0 (nI w) = (if f + 2 * w + 1 < len then b1_ (FJm_mayCouple (nI J) (hc (f + 2 * w)) (hc (f + 2 * w + 1))) (fun r24 => if r24 = 0 then some (((-20 : Int32) - nI w), xr, bm, be, bo, bn, bk, bs, bst, bla, fc) else FJm_read_L42_0 xr bm be bo bn bk bs bst bla fc (nI J) hc (nI l) (nI len) (nI l) (nI f) (nI n) kc n1 0 (nI (w + 1))) else kc 2 (nI w)) := by
      rw [FJm_read_L42_0.eq_2, lt_eq2, if_neg (nI_ge (by omega) (by omega)), m2_, nI_add, lt_eq2, cls, b1_so2]
      by_cases hq : f + 2 * w + 1 < len
      · rw [if_pos hq, if_pos rfl, nI_1, nI_gd (by omega) (by omega), nI_gd (by omega) (by omega), nI_clamp (by omega), nI_clamp (by omega), if_pos hq, lt_eq2, nI_1]
      · rw [if_neg hq, if_neg (by decide), if_neg hq]
    have R1 : FMo_read_L56 mo ms mst mla ml mg mc torn (nI k) (nI l) (nI f) (nI n) kr (n2 + 1) 0 (nI w) (nI (2 * w)) m = FMo_read_L56 mo ms mst mla ml mg mc torn (nI k) (nI l) (nI f) (nI n) kr n2 (if f + 2 * w < len then 0 else 2) (nI w) (nI (2 * w + 1)) m := by
      rw [FMo_read_L56.eq_2, lt_eq2, m2_, if_neg (nI_ge (by omega) (by omega)), if_pos rfl, hat _ (by omega), lt_eq2, g4, lt_eq2, cl, hml, if_neg hl4, g4, if_pos rfl, g4, hmg, mo_found (l := l) hlen (by omega), b1_so2]
      by_cases hq : f + 2 * w < len
      · rw [if_pos hq, if_neg (c := (1 : Int32) = 0) (by decide), if_pos hq]
        dsimp only
        rw [if_pos rfl, l2_, pk_rem (by omega) (by omega) (by omega), show 2 * w % 2 = 0 by omega, if_neg (by decide), lt_eq2, nI_1]
      · rw [if_neg hq, if_pos rfl, if_neg hq]
        dsimp only
        rw [if_neg (c := (2 : Int32) = 0) (by decide), lt_eq2, nI_1]
    obtain ⟨n2, rfl⟩ : ∃ k, n2 = k + 1 := ⟨n2 - 1, by omega⟩
    rw [A, R1]
    by_cases q1 : f + 2 * w < len
    · by_cases q2 : f + 2 * w + 1 < len
      · have e1 : mc (40 * k + (f + (2 * w + 1)) - 1) = hc (f + 2 * w) := by
          rw [show 40 * k + (f + (2 * w + 1)) - 1 = 40 * k + (f + 2 * w) by omega]
          exact hcell _ (by omega)
        have e2 : mc (40 * k + (f + (2 * w + 1))) = hc (f + 2 * w + 1) := by
          rw [show 40 * k + (f + (2 * w + 1)) = 40 * k + (f + 2 * w + 1) by omega]
          exact hcell _ (by omega)
        rw [if_pos q1, if_pos q2, FMo_read_L56.eq_2, lt_eq2, m2_, if_neg (nI_ge (by omega) (by omega)), if_pos rfl, hat _ (by omega), lt_eq2, g4, lt_eq2, cl, hml, if_neg hl4, g4, if_pos rfl, g4, hmg, mo_found (l := l) hlen (by omega), b1_so2, if_pos (c := f + (2 * w + 1) < len) (by omega), if_neg (c := (1 : Int32) = 0) (by decide)]
        dsimp only
        rw [if_pos rfl, l2_, pk_rem (by omega) (by omega) (by omega), show (2 * w + 1) % 2 = 1 by omega, if_pos (show nI 1 = 1 from rfl), hat32, lt_eq2, show (40 : Int32) = nI 40 from rfl, pk_mul, nI_add, l1_, pk_sub (by omega), nI_gd (by omega) (by omega), nI_gd (by omega) (by omega), nI_clamp (by omega), nI_clamp (by omega), e1, e2, ← l1_]
        rcases couple_c (J := J) (by omega) (Mo_joints h5.1) (hc (f + 2 * w)) (hc (f + 2 * w + 1)) with ⟨j, hj, ej, c1, c2, c3, c4⟩ | ⟨c3, c4⟩
        · rw [c3, c4, b1_so2, b1_so2, if_neg (c := (1 : Int32) = 0) (by decide), if_neg (c := (1 : Int32) = 0) (by decide), nI_gd (by omega) (by omega), nI_gd (by omega) (by omega), ej, l6_, nI_add, nI_gd (by omega) (by omega), nI_clamp (by omega), lt_eq2, lt_eq2, lt_eq2, nI_1, nI_1]
          have ecw : cw hc fc f (w + 1) = upd (cw hc fc f w) j (hc (f + 2 * w + 1)) := by
            show upd (cw hc fc f w) (hc (f + 2 * w)).toNatClampNeg (hc (f + 2 * w + 1)) = _
            rw [ej, nI_clamp (by omega)]
          have g' := GF_couple h5 hj c1 c2
          rw [← ecw] at g'
          exact ih (w + 1) n1 n2 _ (by omega) (by omega) (by omega) (fun x hx => by
            by_cases ex : x = w
            · subst ex; exact ⟨by omega, j, hj, ej⟩
            · exact h4 x (by omega)) g' (fun x hx => by rw [pk_un (by omega)]; exact h6 x hx) (fun i hi hi2 => by rw [pk_un (by omega)]; exact h7 i hi hi2)
        · rw [c3, c4, b1_so2, b1_so2, if_pos rfl, if_pos rfl]
          left
          obtain ⟨m', z1, z2, z3⟩ := copies_e (P := 316) (Q := 0) (by omega) (by omega) (by omega) m
          have z1' : FMo_copies m (316 : Int32) 0 = some m' := z1
          rw [z1', b1_so2]
          refine ⟨w, m', rfl, rfl, GF_copy g0 (fun x hx => by rw [z2 x hx, h6 x hx]) (fun _ _ => rfl) (fun _ _ => rfl) (fun _ _ => rfl) (fun _ _ => rfl) (fun _ _ => rfl) (fun _ _ => rfl) (fun _ _ => rfl) (fun _ _ => rfl), fun i hi hi2 => ?_⟩
          rw [z3 i (by omega)]
          exact h7 i hi hi2
      · right
        obtain ⟨n2, rfl⟩ : ∃ k, n2 = k + 1 := ⟨n2 - 1, by omega⟩
        refine ⟨w, 2, m, if_neg q2, ?_, by omega, h4, h5, h7⟩
        rw [if_pos q1, FMo_read_L56.eq_2, lt_eq2, m2_, if_neg (nI_ge (by omega) (by omega)), if_pos rfl, hat _ (by omega), lt_eq2, g4, lt_eq2, cl, hml, if_neg hl4, g4, if_pos rfl, g4, hmg, mo_found (l := l) hlen (by omega), b1_so2, if_neg (c := f + (2 * w + 1) < len) (by omega), if_pos rfl]
        dsimp only
        rw [if_neg (c := (2 : Int32) = 0) (by decide), lt_eq2, nI_1]
        rw [FMo_read_L56.eq_2, lt_eq2, if_neg (c := (2 : Int32) = 0) (by decide), ite_self]
    · right
      refine ⟨w, 2, m, if_neg (by omega), ?_, by omega, h4, h5, h7⟩
      rw [if_neg q1, FMo_read_L56.eq_2, lt_eq2, if_neg (c := (2 : Int32) = 0) (by decide), ite_self]
