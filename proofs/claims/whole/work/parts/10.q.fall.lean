/-! layer 2: fall, keep, back -/
theorem lt_eq2 {α β : Type} (x : α) (k : α → Option β) : lt_ x k = k x := Eq.symm (Eq.symm (lt_eq x k))
theorem b1_so2 {α γ : Type} (a : α) (k : α → Option γ) : b1_ (some a) k = k a := Eq.symm (Eq.symm (b1_some a k))
theorem b4_some {A B C D G : Type} (a : A) (b : B) (c : C) (d : D) (k : A → B → C → D → Option G) : b4_ (some (a, b, c, d)) k = k a b c d := rfl
theorem got_eq (x : Int32) : ((x.toUInt32 >>> ((16 : Int32).toUInt32 &&& Int32.toUInt32 31)).toInt32) &&& (32767 : Int32) = (x >>> ((16 : Int32) &&& 31)) &&& (32767 : Int32) := by
  rw [pk_and _ 15 (by decide), pk_and _ 15 (by decide), pk_ushr x 16 16 (by decide)]
  have h1 := pk_shr x ((16 : Int32) &&& 31) 16 (by decide)
  have h2 : ∀ y : Int32, y.toInt = if 2 * y.toBitVec.toNat < 2 ^ 32 then (y.toBitVec.toNat : Int) else (y.toBitVec.toNat : Int) - (2 ^ 32 : Nat) := fun y => BitVec.toInt_eq_toNat_cond y.toBitVec
  rw [h2, h2, Int.shiftRight_eq_div_pow] at h1
  have h3 := x.toBitVec.isLt
  have h4 := (x >>> ((16 : Int32) &&& 31)).toBitVec.isLt
  congr 1
  generalize x.toBitVec.toNat = X at *
  generalize (x >>> ((16 : Int32) &&& 31)).toBitVec.toNat = Y at *
  split at h1 <;> split at h1 <;> omega
theorem Fr_drop {B L g k : Nat} {fl fb fz fp : Nat → Int32} (hB0 : 0 < B) (hB : B ≤ 10) (hL : L < 8) (hg : g < 32768) (hk : fl (g % B) = nI k) (hk2 : 0 < k ∧ k ≤ 12) : FFr_drop fl fb fz fp (nI B) (nI L) (nI g) = some (upd fb L (nI (g % B)), upd fz L (nI (g / 8 % (if g / 16 % k = 0 then 99 else 999) + 1)), upd fp L (nI (g / 16 % k)), nI (L + 1)) := by
  have hm : g % B < B := Nat.mod_lt _ hB0
  have hm2 : g / 16 % k < k := Nat.mod_lt _ (by omega)
  unfold FFr_drop
  rw [if_pos (show (1 : Int32) ≤ nI B from nI_le (a := 1) (by omega) (by omega)), dz_ne (nI_ne0 hB0 (by omega)), pk_rem (by omega) hB0 (by omega)]
  dsimp only [lt_]
  rw [nI_gd (by omega) (by omega), nI_clamp (by omega), hk, if_pos (show (1 : Int32) ≤ nI k from nI_le (a := 1) (by omega) (by omega)), dz_ne (nI_ne0 (by omega) (by omega)), show (16 : Int32) = nI 16 from rfl, show (8 : Int32) = nI 8 from rfl, pk_div (a := g) (d := 16) (by omega) (by omega) (by omega), pk_div (a := g) (d := 8) (by omega) (by omega) (by omega), pk_rem (a := g / 16) (d := k) (by omega) (by omega) (by omega)]
  by_cases h0 : g / 16 % k = 0
  · rw [if_pos (by rw [h0]; rfl), if_pos h0, dz_ne (by decide), show (99 : Int32) = nI 99 from rfl, pk_rem (by omega) (by omega) (by omega), nI_1, Fr_addLoad hL]
    rfl
  · rw [if_neg (nI_ne0 (by omega) (by omega)), if_neg h0, dz_ne (by decide), show (999 : Int32) = nI 999 from rfl, pk_rem (by omega) (by omega) (by omega), nI_1, Fr_addLoad hL]
    rfl
theorem fall_s {J B N : Nat} {fh fc fe fl fs : Nat → Int32} (hB0 : 0 < B) (hN : N ≤ 8) (k : Int32 → Int32 → (Nat → Int32) → (Nat → Int32) → (Nat → Int32) → Int32 → Option (Int32 × (Nat → Int32) × (Nat → Int32) × (Nat → Int32) × (Nat → Int32) × (Nat → Int32) × (Nat → Int32) × Int32 × Int32 × (Nat → Int32) × (Nat → Int32) × (Nat → Int32) × Int32)) (k' : Int32 → Int32 → (Nat → Int32) → Option (Int32 × (Nat → Int32) × (Nat → Int32) × (Nat → Int32) × Int32 × Int32)) : ∀ (n c L : Nat) (fb fz fp m : Nat → Int32) (sd : Int32), GF 0 J B L fh fc fe fl fs fb fz fp m → c ≤ N → N - c < n → ∃ (c' L' : Nat) (gb gz gp m' : Nat → Int32), FJm_fall_L31 fl (nI B) (nI N) k n sd (nI c) fb fz fp (nI L) = k 0 (nI c') gb gz gp (nI L') ∧ FMo_fall_L29 (nI N) k' n sd (nI c) m = k' 0 (nI c') m' ∧ GF 0 J B L' fh fc fe fl fs gb gz gp m' ∧ c' ≤ N ∧ pg m m' := by
  intro n
  induction n with
  | zero => intro c L fb fz fp m sd g h1 h2; omega
  | succ n ih =>
    intro c L fb fz fp m sd g h1 h2
    have hB := g.1.2.1
    have hL := g.1.2.2.1
    rw [FJm_fall_L31.eq_2, FMo_fall_L29.eq_2]
    simp only [lt_eq2, Mo_loads g.1, Mo_beams g.1, b1_so2]
    by_cases hc : c = N
    · subst hc
      rw [if_pos (nI_le (Nat.le_refl _) (by omega)), if_pos (nI_le (Nat.le_refl _) (by omega))]
      exact ⟨c, L, fb, fz, fp, m, rfl, rfl, g, h1, fun i _ _ => rfl⟩
    · rw [if_neg (nI_ge (by omega) (by omega)), if_neg (nI_ge (by omega) (by omega))]
      by_cases h8 : L = 8
      · have q : (8 : Int32) ≤ nI L := nI_le (a := 8) (by omega) (by omega)
        rw [if_pos q, if_pos q]
        exact ⟨c, L, fb, fz, fp, m, rfl, rfl, g, h1, fun i _ _ => rfl⟩
      · have q : ¬ (8 : Int32) ≤ nI L := nI_ge (b := 8) (by omega) (by omega)
        rw [if_neg q, if_neg q, got_eq]
        generalize sd * 1103515245 + 12345 = sd'
        obtain ⟨d, hd, e1⟩ := pk_andE (sd' >>> ((16 : Int32) &&& 31)) (m := 32767) 15 (by decide)
        rw [e1]
        have hm : d % B < B := Nat.mod_lt _ hB0
        obtain ⟨kk, hk, hk2⟩ := g.2.1.2.2.2.2.1 (d % B) hm
        have hk3 := len_b hk2
        have q3 : m (32 + d % B) = nI kk := by
          have := (g.1.2.2.2.2.2.2.2.1 (d % B) hm).2.2.1
          rw [Nat.zero_add] at this
          rw [this, hk]
        rw [Fr_drop hB0 hB (by omega) hd hk hk3]
        rw [dz_ne (nI_ne0 hB0 (by omega)), pk_rem (by omega) hB0 (by omega), l32_, nI_add, nI_gd (by omega) (by omega), nI_clamp (by omega), q3, dz_ne (nI_ne0 (by omega) (by omega)), show (16 : Int32) = nI 16 from rfl, show (8 : Int32) = nI 8 from rfl, pk_div (a := d) (d := 16) (by omega) (by omega) (by omega), pk_div (a := d) (d := 8) (by omega) (by omega) (by omega), pk_rem (a := d / 16) (d := kk) (by omega) (by omega) (by omega)]
        have ha : d / 16 % kk < kk := Nat.mod_lt _ (by omega)
        have g' := GF_put g (L := L) (by omega) hm hk hk3.2 ha (z := d / 8 % (if d / 16 % kk = 0 then 99 else 999) + 1) (by omega) (by split <;> omega)
        have hp : pg m (upd (upd (upd (upd m (52 + L) (nI (d % B))) (60 + L) (nI (d / 8 % (if d / 16 % kk = 0 then 99 else 999) + 1))) (68 + L) (nI (d / 16 % kk))) 78 (nI (L + 1))) := fun i hi _ => by
          rw [pk_un (by omega), pk_un (by omega), pk_un (by omega), pk_un (by omega)]
        obtain ⟨c', L', gb, gz, gp, m', i1, i2, i3, i4, i5⟩ := ih (c + 1) (L + 1) _ _ _ _ sd' g' (by omega) (by omega)
        refine ⟨c', L', gb, gz, gp, m', ?_, ?_, i3, i4, fun i hi hi2 => by rw [i5 i hi hi2, hp i hi hi2]⟩
        · rw [nI_1, b4_some]; exact i1
        · by_cases h0 : d / 16 % kk = 0
          · rw [if_pos h0] at i2
            rw [if_pos (by rw [h0]; rfl), show (99 : Int32) = nI 99 from rfl, pk_rem (by omega) (by omega) (by omega), nI_1, nI_1, Mo_puts g.1 (by omega), b1_some]
            exact i2
          · rw [if_neg h0] at i2
            rw [if_neg (nI_ne0 (by omega) (by omega)), show (999 : Int32) = nI 999 from rfl, pk_rem (by omega) (by omega) (by omega), nI_1, nI_1, Mo_puts g.1 (by omega), b1_some]
            exact i2
theorem Jm_fall {J B L : Nat} {fh fc fe fl fs fb fz fp m mo ms bm be bo bn bk bs : Nat → Int32} {mst mla bst bla : Int32} (g : GF 0 J B L fh fc fe fl fs fb fz fp m) (b : BI J B fc fe fl fs mo ms mst mla bm be bo bn bk bs bst bla) (sd a : Int32) : ∃ (r : Int32) (L' : Nat) (bm' be' bo' bn' bk' bs' fb' fz' fp' m' mo' ms' : Nat → Int32) (bst' bla' mst' mla' : Int32), FJm_fall bm be bo bn bk bs bst bla fc fe fl fs fb fz fp (nI B) (nI L) sd a = some (r, bm', be', bo', bn', bk', bs', bst', bla', fb', fz', fp', nI L') ∧ FMo_fall m mo ms mst mla sd a = some (r, m', mo', ms', mst', mla') ∧ GF 0 J B L' fh fc fe fl fs fb' fz' fp' m' ∧ BI J B fc fe fl fs mo' ms' mst' mla' bm' be' bo' bn' bk' bs' bst' bla' ∧ pg m m' := by
  have hB := g.1.2.1
  have hno : ∀ r : Int32, ∃ (r' : Int32) (L' : Nat) (bm' be' bo' bn' bk' bs' fb' fz' fp' m' mo' ms' : Nat → Int32) (bst' bla' mst' mla' : Int32), some (r, bm, be, bo, bn, bk, bs, bst, bla, fb, fz, fp, nI L) = some (r', bm', be', bo', bn', bk', bs', bst', bla', fb', fz', fp', nI L') ∧ some (r, m, mo, ms, mst, mla) = some (r', m', mo', ms', mst', mla') ∧ GF 0 J B L' fh fc fe fl fs fb' fz' fp' m' ∧ BI J B fc fe fl fs mo' ms' mst' mla' bm' be' bo' bn' bk' bs' bst' bla' ∧ pg m m' := fun r => ⟨r, L, bm, be, bo, bn, bk, bs, fb, fz, fp, m, mo, ms, bst, bla, mst, mla, rfl, rfl, g, b, fun i _ _ => rfl⟩
  unfold FJm_fall FMo_fall
  rcases rc_cases 1 8 (by omega) (by omega) a 1 8 (by decide) (by decide) with ⟨N, h6, h7, rfl, e4⟩ | ⟨e4, h6⟩
  · rw [e4, if_neg (show ¬ nI N < 1 from nI_nlt (b := 1) (by omega) (by omega)), if_pos (show nI N ≤ 8 from nI_le (b := 8) h7 (by omega)), Mo_beams g.1]
    dsimp only [b1_some]
    rw [if_neg (c := (1 : Int32) = 0) (by decide)]
    by_cases hB0 : B = 0
    · subst hB0
      rw [if_pos (show nI 0 = 0 from rfl), if_pos (show nI 0 = 0 from rfl)]
      exact hno (-2)
    · have q : ¬ nI B = 0 := nI_ne0 (by omega) (by omega)
      rw [if_neg q, if_neg q]
      obtain ⟨c', L', gb, gz, gp, m', i1, i2, i3, i4, i5⟩ := fall_s (N := N) (by omega) (by omega) (fun (v17 : Int32) (v18 : Int32) (w19 : Nat → Int32) (w20 : Nat → Int32) (w21 : Nat → Int32) (w22 : Int32) =>
            if v18 ≤ 0 then
              some (v18, bm, be, bo, bn, bk, bs, bst, bla, w19, w20, w21, w22)
            else
              b8_ (FBa_anew bm be bo bn bk bs fc fe fl fs w19 w20 w21 (nI B) w22) fun w24 w25 w26 w27 w28 w29 w30 w31 =>
              some (v18, w24, w25, w26, w27, w28, w29, w30, w31, w19, w20, w21, w22)) (fun (v36 : Int32) (v37 : Int32) (w38 : Nat → Int32) =>
          if v37 ≤ 0 then
            some (v37, w38, mo, ms, mst, mla)
          else
            b5_ (FMo_begins w38 mo ms mst) fun r40 w41 w42 w43 w44 =>
            some (v37, w38, w41, w42, w43, w44)) 1000 0 L fb fz fp m sd g (by omega) (by omega)
      rw [← l0_] at i1 i2
      rw [i1, i2]
      by_cases hc : c' = 0
      · subst hc
        rw [if_pos (show nI 0 ≤ 0 from by decide), if_pos (show nI 0 ≤ 0 from by decide)]
        exact ⟨_, L', bm, be, bo, bn, bk, bs, gb, gz, gp, m', mo, ms, bst, bla, mst, mla, rfl, rfl, i3, b, i5⟩
      · have q : ¬ nI c' ≤ 0 := nI_nle (by omega) (by omega)
        rw [if_neg q, if_neg q]
        obtain ⟨bm', be', bo', bn', bk', bs', mo', ms', h9, h10, h11⟩ := anew_BI i3.1 i3.2.1 bm be bo bn bk bs mo ms mst
        rw [h9, h10]
        exact ⟨_, L', bm', be', bo', bn', bk', bs', gb, gz, gp, m', mo', ms', 0, -4, 0, -4, rfl, rfl, i3, h11, i5⟩
  · rw [e4]
    dsimp only [b1_some]
    simp only [if_true]
    by_cases h7 : a < 1
    · rw [if_pos h7]; exact hno (-1)
    · rw [if_neg h7, if_neg (by rw [Int32.not_le]; exact h6.resolve_left h7)]; exact hno (-1)
theorem copies_s {P Q : Nat} (hP : P ≤ 316) (hQ : Q ≤ 316) (hd : P + 79 ≤ Q ∨ Q + 79 ≤ P) {m : Nat → Int32} : ∀ (n c : Nat) (m1 : Nat → Int32), c ≤ 79 → 79 - c < n → (∀ y, m1 y = if Q ≤ y ∧ y < Q + c then m (P + (y - Q)) else m y) → ∃ m' : Nat → Int32, FMo_copies_L2 (nI P) (nI Q) n (nI c) m1 = some m' ∧ ∀ y, m' y = if Q ≤ y ∧ y < Q + 79 then m (P + (y - Q)) else m y := by
  intro n
  induction n with
  | zero => intro c m1 h1 h2; omega
  | succ n ih =>
    intro c m1 h1 h2 h3
    rw [FMo_copies_L2.eq_2, show (79 : Int32) = nI 79 from rfl]
    by_cases hc : c = 79
    · subst hc
      rw [if_pos (nI_le (Nat.le_refl _) (by omega))]
      exact ⟨m1, rfl, h3⟩
    · rw [if_neg (nI_ge (by omega) (by omega))]
      simp (disch := omega) only [nI_add, nI_gd, nI_clamp, lt_eq, nI_1]
      refine ih (c + 1) _ (by omega) (by omega) (fun y => ?_)
      by_cases e : y = Q + c
      · subst e
        rw [pk_us, if_pos (by omega), h3, if_neg (by omega)]
        congr 1; omega
      · rw [pk_un e, h3]
        by_cases h : Q ≤ y ∧ y < Q + c
        · rw [if_pos h, if_pos (by omega)]
        · rw [if_neg h, if_neg (by omega)]
theorem copies_e {P Q : Nat} (hP : P ≤ 316) (hQ : Q ≤ 316) (hd : P + 79 ≤ Q ∨ Q + 79 ≤ P) (m : Nat → Int32) : ∃ m' : Nat → Int32, FMo_copies m (nI P) (nI Q) = some m' ∧ (∀ x, x < 79 → m' (Q + x) = m (P + x)) ∧ ∀ y, y < Q ∨ Q + 79 ≤ y → m' y = m y := by
  obtain ⟨m', h1, h2⟩ := copies_s hP hQ hd 1000 0 m (by omega) (by omega) (fun y => by rw [if_neg (by omega)])
  refine ⟨m', h1, fun x hx => ?_, fun y hy => ?_⟩
  · rw [h2, if_pos (by omega)]; congr 1; omega
  · rw [h2, if_neg (by omega)]
/-- an IMAGE, and the reference's page P -/
def IM (P : Nat) (kp km : Int32) (ih ic ie il is ib iz ip : Nat → Int32) (ij iq iw : Int32) (m : Nat → Int32) : Prop := kp = km ∧ (kp = 0 ∨ kp = 1) ∧ (¬ kp = 0 → ∃ J B L : Nat, ij = nI J ∧ iq = nI B ∧ iw = nI L ∧ GF P J B L ih ic ie il is ib iz ip m)
theorem IM_keep {P : Nat} {kp km : Int32} {ih ic ie il is ib iz ip : Nat → Int32} {ij iq iw : Int32} {m m' : Nat → Int32} (h : IM P kp km ih ic ie il is ib iz ip ij iq iw m) (hm : ∀ x, x < 79 → m' (P + x) = m (P + x)) : IM P kp km ih ic ie il is ib iz ip ij iq iw m' := by
  refine ⟨h.1, h.2.1, fun hk => ?_⟩
  obtain ⟨J, B, L, e1, e2, e3, g⟩ := h.2.2 hk
  exact ⟨J, B, L, e1, e2, e3, GF_copy g hm (fun _ _ => rfl) (fun _ _ => rfl) (fun _ _ => rfl) (fun _ _ => rfl) (fun _ _ => rfl) (fun _ _ => rfl) (fun _ _ => rfl) (fun _ _ => rfl)⟩
theorem cpy_ {f g : Nat → Int32} {n : Nat} : ∀ j, j < n → va_cpy f g 0 0 n j = f j := by
  intro j hj
  rw [pk_cpy_in (by omega) (by omega)]
  congr 1; omega
theorem zb_e {α : Type} {f : Nat → Int32} {n : Nat} {k : Option α} (h : ∀ i, i < n → (f i = 0 ∨ f i = 1)) : zb_ f n k = k := if_pos h
theorem GF_cpy {P Q J B L : Nat} {fh fc fe fl fs fb fz fp m gh gc ge gl gs gb gz gp m' : Nat → Int32} (h : GF P J B L fh fc fe fl fs fb fz fp m) (hm : ∀ x, x < 79 → m' (Q + x) = m (P + x)) : GF Q J B L (va_cpy fh gh 0 0 6) (va_cpy fc gc 0 0 6) (va_cpy fe ge 0 0 20) (va_cpy fl gl 0 0 10) (va_cpy fs gs 0 0 10) (va_cpy fb gb 0 0 8) (va_cpy fz gz 0 0 8) (va_cpy fp gp 0 0 8) m' := GF_copy h hm cpy_ cpy_ cpy_ cpy_ cpy_ cpy_ cpy_ cpy_
theorem copyL_ {fh gh : Nat → Int32} (h : ∀ i, i < 6 → (fh i = 0 ∨ fh i = 1)) (k_ : Int32 → (Nat → Int32) → Option ((Nat → Int32) × (Nat → Int32) × (Nat → Int32) × (Nat → Int32) × (Nat → Int32) × (Nat → Int32) × (Nat → Int32) × (Nat → Int32) × Int32 × Int32 × Int32)) : ∀ (n c : Nat) (g1 : Nat → Int32), c ≤ 6 → 6 - c < n → (∀ y, g1 y = if y < c then fh y else gh y) → FFr_copy_L26 fh k_ n (nI c) g1 = k_ (nI 6) (va_cpy fh gh 0 0 6) := by
  intro n
  induction n with
  | zero => intro c g1 h1 h2; omega
  | succ n ih =>
    intro c g1 h1 h2 h3
    rw [FFr_copy_L26.eq_2, show (6 : Int32) = nI 6 from rfl]
    by_cases hc : c = 6
    · subst hc
      rw [if_pos (nI_le (Nat.le_refl _) (by omega))]
      congr 1
      funext y
      rw [h3]
      by_cases hy : y < 6
      · rw [if_pos hy, cpy_ y hy]
      · rw [if_neg hy]
        unfold va_cpy
        rw [if_neg (by omega)]
    · rw [if_neg (nI_ge (by omega) (by omega))]
      simp (disch := omega) only [nI_add, nI_gd, nI_clamp, lt_eq, nI_1]
      refine ih (c + 1) _ (by omega) (by omega) (fun y => ?_)
      by_cases e : y = c
      · subst e
        rw [pk_us, if_pos (by omega)]
        rcases h y (by omega) with e | e <;> rw [e] <;> rfl
      · rw [pk_un e, h3]
        by_cases hy : y < c
        · rw [if_pos hy, if_pos (by omega)]
        · rw [if_neg hy, if_neg (by omega)]
theorem Fr_copy {fh fc fe fl fs fb fz fp gh gc ge gl gs gb gz gp : Nat → Int32} {x y z : Int32} (h : ∀ i, i < 6 → (fh i = 0 ∨ fh i = 1)) : FFr_copy gh gc ge gl gs gb gz gp fh fc fe fl fs fb fz fp x y z = some (va_cpy fh gh 0 0 6, va_cpy fc gc 0 0 6, va_cpy fe ge 0 0 20, va_cpy fl gl 0 0 10, va_cpy fs gs 0 0 10, va_cpy fb gb 0 0 8, va_cpy fz gz 0 0 8, va_cpy fp gp 0 0 8, x, y, z) := by
  unfold FFr_copy
  rw [show (0 : Int32) = nI 0 from rfl, copyL_ (fh := fh) (gh := gh) h _ 1000 0 gh (by omega) (by omega) (fun y => by rw [if_neg (by omega)])]
  rfl
theorem isImage_c (a : Int32) : (a = 0 ∧ FJm_isImage a = some 1 ∧ FMo_in a.toInt64 0 1 = some 1) ∨ (a = 1 ∧ FJm_isImage a = some 1 ∧ FMo_in a.toInt64 0 1 = some 1) ∨ (FJm_isImage a = some 0 ∧ FMo_in a.toInt64 0 1 = some 0) := by
  unfold FJm_isImage
  rcases rc_cases 0 1 (by omega) (by omega) a 0 1 (by decide) (by decide) with ⟨k, h3, h4, rfl, e3⟩ | ⟨e3, h3⟩
  · rcases (show k = 0 ∨ k = 1 by omega) with rfl | rfl
    · exact Or.inl ⟨rfl, by rw [if_neg (by decide), if_neg (by decide)], e3⟩
    · exact Or.inr (Or.inl ⟨rfl, by rw [if_neg (by decide), if_neg (by decide)], e3⟩)
  · right; right
    refine ⟨?_, e3⟩
    by_cases h : a < 0
    · rw [if_pos h]
    · have h5 := h3.resolve_left h
      rw [if_neg h, if_pos]
      rw [Int32.lt_iff_toInt_lt, nI_toInt (by omega)] at h5
      rw [Int32.le_iff_toInt_le, show (2 : Int32).toInt = 2 from by decide]
      omega
