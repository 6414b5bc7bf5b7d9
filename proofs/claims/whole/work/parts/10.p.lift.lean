/-! layer 2: lift, fall, keep, back -/
def sh (i c : Nat) (f : Nat → Int32) (x : Nat) : Int32 := if i ≤ x ∧ x < c then f (x + 1) else f x
theorem sh_step {i c : Nat} {f g : Nat → Int32} (hi : i ≤ c) (hg : ∀ x, g x = sh i c f x) : ∀ x, upd g c (g (c + 1)) x = sh i (c + 1) f x := by
  intro x
  have h1 : g (c + 1) = f (c + 1) := by rw [hg]; unfold sh; rw [if_neg (by omega)]
  rw [h1]
  by_cases e : x = c
  · subst e
    rw [pk_us]; unfold sh; rw [if_pos (by omega)]
  · rw [pk_un e, hg]
    unfold sh
    by_cases h : i ≤ x ∧ x < c
    · rw [if_pos h, if_pos (by omega)]
    · rw [if_neg h, if_neg (by omega)]
theorem rem_s {L i : Nat} (hL : L ≤ 8) (hi : i < L) {fb fz fp : Nat → Int32} : ∀ (n c : Nat) (gb gz gp : Nat → Int32), i ≤ c → c < L → L - c < n → (∀ x, gb x = sh i c fb x) → (∀ x, gz x = sh i c fz x) → (∀ x, gp x = sh i c fp x) → ∃ gb' gz' gp' : Nat → Int32, FFr_removeLoad_L4 (nI L) n (nI (c + 1)) gb gz gp = some (gb', gz', gp', nI (L - 1)) ∧ (∀ x, gb' x = sh i (L - 1) fb x) ∧ (∀ x, gz' x = sh i (L - 1) fz x) ∧ (∀ x, gp' x = sh i (L - 1) fp x) := by
  intro n
  induction n with
  | zero => intro c gb gz gp h1 h2 h3; omega
  | succ n ih =>
    intro c gb gz gp h1 h2 h3 g1 g2 g3
    rw [FFr_removeLoad_L4.eq_2]
    by_cases hc : c + 1 = L
    · rw [if_pos (nI_le (by omega) (by omega)), show nI L - 1 = nI (L - 1) from pk_sub (b := 1) (by omega)]
      have : c = L - 1 := by omega
      subst this
      exact ⟨gb, gz, gp, rfl, g1, g2, g3⟩
    · rw [if_neg (nI_ge (by omega) (by omega)), nI_pred]
      simp (disch := omega) only [nI_gd, nI_clamp, lt_eq, nI_1]
      exact ih (c + 1) _ _ _ (by omega) (by omega) (by omega) (sh_step h1 g1) (sh_step h1 g2) (sh_step h1 g3)
/-- the reference's page with the LOADS from i to c moved -/
def shM (i c : Nat) (m : Nat → Int32) (y : Nat) : Int32 := if (52 + i ≤ y ∧ y < 52 + c) ∨ (60 + i ≤ y ∧ y < 60 + c) ∨ (68 + i ≤ y ∧ y < 68 + c) then m (y + 1) else m y
theorem lift33 (c : Nat) (hc : c + 1 < 8) (k : Int32 → (Nat → Int32) → Option (Int32 × (Nat → Int32) × (Nat → Int32) × (Nat → Int32) × Int32 × Int32)) (m : Nat → Int32) : ∃ m' : Nat → Int32, FMo_lift_L33 (nI c) k 1000 52 m = k 76 m' ∧ ∀ y, m' y = if y = 52 + c ∨ y = 60 + c ∨ y = 68 + c then m (y + 1) else m y := by
  refine ⟨upd (upd (upd m (52 + c) (m (52 + c + 1))) (52 + 8 + c) ((upd m (52 + c) (m (52 + c + 1))) (52 + 8 + c + 1))) (52 + 8 + 8 + c) ((upd (upd m (52 + c) (m (52 + c + 1))) (52 + 8 + c) ((upd m (52 + c) (m (52 + c + 1))) (52 + 8 + c + 1))) (52 + 8 + 8 + c + 1)), ?_, ?_⟩
  · rw [show (1000 : Nat) = 996 + 1 + 1 + 1 + 1 from rfl, show (52 : Int32) = nI 52 from rfl, FMo_lift_L33.eq_2, if_neg (by decide)]
    simp (disch := omega) only [nI_add, nI_1, nI_gd, nI_clamp, lt_eq, show (8 : Int32) = nI 8 from rfl]
    rw [FMo_lift_L33.eq_2, if_neg (by decide)]
    simp (disch := omega) only [nI_add, nI_1, nI_gd, nI_clamp, lt_eq, show (8 : Int32) = nI 8 from rfl]
    rw [FMo_lift_L33.eq_2, if_neg (by decide)]
    simp (disch := omega) only [nI_add, nI_1, nI_gd, nI_clamp, lt_eq, show (8 : Int32) = nI 8 from rfl]
    rw [FMo_lift_L33.eq_2, if_pos (by decide)]
    rfl
  · intro y
    by_cases h3 : y = 68 + c
    · rw [if_pos (by omega)]
      subst h3
      rw [show 52 + 8 + 8 + c = 68 + c by omega, pk_us, pk_un (by omega), pk_un (by omega)]
    · rw [pk_un (by omega)]
      by_cases h2 : y = 60 + c
      · rw [if_pos (by omega)]
        subst h2
        rw [show 52 + 8 + c = 60 + c by omega, pk_us, pk_un (by omega)]
      · rw [pk_un (by omega)]
        by_cases h1 : y = 52 + c
        · rw [if_pos (by omega)]
          subst h1
          rw [pk_us]
        · rw [pk_un (by omega), if_neg (by omega)]
theorem lift20 {J B L : Nat} {fh fc fe fl fs fb fz fp m : Nat → Int32} (h : RF 0 J B L fh fc fe fl fs fb fz fp m) {i : Nat} (hi : i < L) (k : Int32 → (Nat → Int32) → Option (Int32 × (Nat → Int32) × (Nat → Int32) × (Nat → Int32) × Int32 × Int32)) : ∀ (n c : Nat) (m1 : Nat → Int32), i ≤ c → c < L → L - c < n → (∀ y, m1 y = shM i c m y) → ∃ m' : Nat → Int32, FMo_lift_L20 k n (nI c) m1 = k (nI (L - 1)) m' ∧ ∀ y, m' y = shM i (L - 1) m y := by
  have hL := h.2.2.1
  intro n
  induction n with
  | zero => intro c m1 h1 h2 h3; omega
  | succ n ih =>
    intro c m1 h1 h2 h3 h4
    have hl : FMo_loads m1 = some (nI L) := by
      have e : m1 78 = nI L := by
        rw [h4]; unfold shM; rw [if_neg (by omega), ← h.2.2.2.2.2.1]
      show gd_ 78 395 (some (m1 78)) = _
      rw [e]; rfl
    rw [FMo_lift_L20.eq_2, hl]
    dsimp only [b1_some]
    rw [nI_1]
    by_cases hc : c + 1 = L
    · rw [if_pos (nI_le (by omega) (by omega))]
      have : c = L - 1 := by omega
      subst this
      exact ⟨m1, rfl, h4⟩
    · rw [if_neg (nI_ge (by omega) (by omega))]
      obtain ⟨m2, e1, e2⟩ := lift33 c (by omega) (fun (v17 : Int32) (w18 : Nat → Int32) => lt_ (nI (c + 1)) fun v19 => FMo_lift_L20 k n v19 w18) m1
      rw [e1]
      refine ih (c + 1) m2 (by omega) (by omega) (by omega) (fun y => ?_)
      rw [e2]
      by_cases g1 : y = 52 + c ∨ y = 60 + c ∨ y = 68 + c
      · rw [if_pos g1, h4]
        unfold shM
        rw [if_neg (by omega), if_pos (by omega)]
      · rw [if_neg g1, h4]
        unfold shM
        by_cases g2 : (52 + i ≤ y ∧ y < 52 + c) ∨ (60 + i ≤ y ∧ y < 60 + c) ∨ (68 + i ≤ y ∧ y < 68 + c)
        · rw [if_pos g2, if_pos (by omega)]
        · rw [if_neg g2, if_neg (by omega)]
theorem GF_lift {J B L : Nat} {fh fc fe fl fs fb fz fp m gb gz gp m' : Nat → Int32} (g : GF 0 J B L fh fc fe fl fs fb fz fp m) {i : Nat} (hi : i < L) (h1 : ∀ x, gb x = sh i (L - 1) fb x) (h2 : ∀ x, gz x = sh i (L - 1) fz x) (h3 : ∀ x, gp x = sh i (L - 1) fp x) (h4 : ∀ y, m' y = shM i (L - 1) m y) : GF 0 J B (L - 1) fh fc fe fl fs gb gz gp (upd m' 78 (nI (L - 1))) := by
  obtain ⟨⟨a1, a2, a3, a4, a5, a6, a7, a8, a9⟩, ⟨b1, b2, b3, b4, b5, b6, b7⟩, c1⟩ := g
  have hu : ∀ y, y < 52 ∨ y = 76 ∨ y = 77 → upd m' 78 (nI (L - 1)) y = m y := by
    intro y hy
    rw [pk_un (by omega), h4]; unfold shM; rw [if_neg (by omega)]
  have hx : ∀ x, x < L - 1 → ∃ x', x' < L ∧ gb x = fb x' ∧ gz x = fz x' ∧ gp x = fp x' ∧ upd m' 78 (nI (L - 1)) (0 + 52 + x) = m (0 + 52 + x') ∧ upd m' 78 (nI (L - 1)) (0 + 60 + x) = m (0 + 60 + x') ∧ upd m' 78 (nI (L - 1)) (0 + 68 + x) = m (0 + 68 + x') := by
    intro x hxl
    rw [pk_un (by omega), pk_un (by omega), pk_un (by omega), h1, h2, h3, h4, h4, h4]
    unfold sh shM
    by_cases hix : i ≤ x
    · refine ⟨x + 1, by omega, ?_⟩
      rw [if_pos (by omega), if_pos (by omega), if_pos (by omega), if_pos (by omega), if_pos (by omega), if_pos (by omega)]
      exact ⟨rfl, rfl, rfl, rfl, rfl, rfl⟩
    · refine ⟨x, by omega, ?_⟩
      rw [if_neg (by omega), if_neg (by omega), if_neg (by omega), if_neg (by omega), if_neg (by omega), if_neg (by omega)]
      exact ⟨rfl, rfl, rfl, rfl, rfl, rfl⟩
  refine ⟨⟨a1, a2, by omega, ?_, ?_, ?_, fun i hi => ?_, fun i hi => ?_, fun x hxl => ?_⟩, ⟨b1, b2, b3, b4, b5, b6, fun x hxl => ?_⟩, c1⟩
  · rw [hu _ (by omega), a4]
  · rw [hu _ (by omega), a5]
  · exact pk_us
  · rw [hu _ (by omega), hu _ (by omega)]
    exact a7 i hi
  · rw [hu _ (by omega), hu _ (by omega), hu _ (by omega), hu _ (by omega)]
    exact a8 i hi
  · obtain ⟨x', q0, q1, q2, q3, q4, q5, q6⟩ := hx x hxl
    rw [q1, q2, q3, q4, q5, q6]
    exact a9 x' q0
  · obtain ⟨x', q0, q1, q2, q3, -⟩ := hx x hxl
    rw [q1, q2, q3]
    exact b7 x' q0
theorem Jm_lift {J B L : Nat} {fh fc fe fl fs fb fz fp m mo ms bm be bo bn bk bs : Nat → Int32} {mst mla bst bla : Int32} (g : GF 0 J B L fh fc fe fl fs fb fz fp m) (b : BI J B fc fe fl fs mo ms mst mla bm be bo bn bk bs bst bla) (a : Int32) : ∃ (r : Int32) (L' : Nat) (bm' be' bo' bn' bk' bs' fb' fz' fp' m' mo' ms' : Nat → Int32) (bst' bla' mst' mla' : Int32), FJm_lift bm be bo bn bk bs bst bla fc fe fl fs fb fz fp (nI B) (nI L) a = some (r, bm', be', bo', bn', bk', bs', bst', bla', fb', fz', fp', nI L') ∧ FMo_lift m mo ms mst mla a = some (r, m', mo', ms', mst', mla') ∧ GF 0 J B L' fh fc fe fl fs fb' fz' fp' m' ∧ BI J B fc fe fl fs mo' ms' mst' mla' bm' be' bo' bn' bk' bs' bst' bla' ∧ pg m m' := by
  have hL8 := g.1.2.2.1
  unfold FJm_lift FMo_lift
  rw [Mo_loads g.1]
  dsimp only [b1_some]
  rcases isLoad_c (J := L) (by omega) a with ⟨i, hi, rfl, e1, e2⟩ | ⟨e1, e2⟩
  · rw [e1, e2]
    obtain ⟨gb, gz, gp, q1, q2, q3, q4⟩ := rem_s hL8 hi (fb := fb) (fz := fz) (fp := fp) 1000 i fb fz fp (by omega) (by omega) (by omega) (fun x => by unfold sh; rw [if_neg (by omega)]) (fun x => by unfold sh; rw [if_neg (by omega)]) (fun x => by unfold sh; rw [if_neg (by omega)])
    obtain ⟨m1, q5, q6⟩ := lift20 g.1 hi (fun (v20 : Int32) (w21 : Nat → Int32) =>
        gd_ (78 : Int32) 395 <|
        gd_ (78 : Int32) 395 <|
        lt_ (upd w21 (78 : Int32).toNatClampNeg ((w21 (78 : Int32).toNatClampNeg) - (1 : Int32))) fun w24 =>
        b5_ (FMo_begins w24 mo ms mst) fun r25 w26 w27 w28 w29 =>
        b1_ (FMo_loads w24) fun r32 =>
        some (r32, w24, w26, w27, w28, w29)) 1000 i m (by omega) (by omega) (by omega) (fun y => by unfold shM; rw [if_neg (by omega)])
    have g' := GF_lift g hi q2 q3 q4 q6
    obtain ⟨bm', be', bo', bn', bk', bs', mo', ms', h9, h10, h11⟩ := anew_BI g'.1 g'.2.1 bm be bo bn bk bs mo ms mst
    have e5 : m1 78 - 1 = nI (L - 1) := by
      rw [q6]; unfold shM
      rw [if_neg (by omega), show m 78 = nI L from by rw [← g.1.2.2.2.2.2.1]]
      exact pk_sub (b := 1) (by omega)
    refine ⟨nI (L - 1), L - 1, bm', be', bo', bn', bk', bs', gb, gz, gp, _, mo', ms', 0, -4, 0, -4, ?_, ?_, g', h11, fun y hy hy2 => ?_⟩
    · unfold FFr_removeLoad
      dsimp only [lt_, b1_some]
      rw [if_neg (by decide), nI_1, q1]
      show b8_ (FBa_anew _ _ _ _ _ _ _ _ _ _ _ _ _ _ _) _ = _
      rw [h9]; rfl
    · rw [b1_some, if_neg (by decide), q5]
      show b5_ (FMo_begins (upd m1 78 (m1 78 - 1)) mo ms mst) _ = _
      rw [e5, h10]
      show (b1_ (FMo_loads (upd m1 78 (m1 78 - 1))) fun r32 => some (r32, _, _, _, _, _)) = _
      rw [e5, Mo_loads g'.1]; rfl
    · rw [pk_un (by omega), q6]; unfold shM; rw [if_neg (by omega)]
  · rw [e1, e2]
    exact ⟨-1, L, bm, be, bo, bn, bk, bs, fb, fz, fp, m, mo, ms, bst, bla, mst, mla, rfl, rfl, g, b, fun i _ _ => rfl⟩
