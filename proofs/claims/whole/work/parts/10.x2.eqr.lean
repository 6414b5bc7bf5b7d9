/-! layer 2: the equations as the reference solves them -/
theorem eqR {J B L : Nat} {fh fc fe fl fs fb fz fp m mo bo bn bk : Nat → Int32} (g : GF 0 J B L fh fc fe fl fs fb fz fp m) (o : RO J fh m mo bo bn bk) (hk : ∀ j, j < J → bk j = sI (atJ fe j (fun e => kB fl fs (e / 2))) 0 (2 * B)) (h4 : rkN (tq bn fh) J ≤ 4) (mat0 sd0 : Nat → Int64) (ro0 : Nat → Int32) : ∃ (mat sd : Nat → Int64) (ro : Nat → Int32), FMo_equations m mat0 sd0 ro0 = some (mat, sd, ro) ∧ (∀ r c, r < 4 → c < 4 → mat (4 * r + c) = zL (pm (rkN (tq bn fh) J) (fun r c => 2 * Mx J B fe fl fs (tq bn fh) r c) r c)) ∧ (∀ r, r < 4 → sd r = zL (if r < rkN (tq bn fh) J then ux J B L fc fe fl fb fz fp (tq bn fh) r else 0)) ∧ (∀ i, i < 6 → ro i = if i < J then uI (tq bn fh) i else -4) := by
  have hJ := g.1.1
  have hB := g.1.2.1
  have hz : rkN (tq bn fh) (if 0 < J then 0 else J) = 0 := by
    by_cases h : 0 < J
    · rw [if_pos h]; rfl
    · rw [if_neg h, show J = 0 by omega]; rfl
  have hr : ∀ j, j < J → tq bn fh j = true → rkN (tq bn fh) j < rkN (tq bn fh) J := fun j hj hp => rk_lt (p := tq bn fh) hp hj
  have hS : ∀ j, j < J → bk j = nI (sN (at_ fe j (kk fl fs)) (2 * B)) ∧ sN (at_ fe j (kk fl fs)) (2 * B) ≤ 2400 := fun j hj => by
    refine ⟨by rw [hk j hj]; exact at_I (fun e he => (kk_e g.2.1 he).1), ?_⟩
    have h1 := sN_le (f := at_ fe j (kk fl fs)) (g := fun _ => 120) (2 * B) (fun e he => by
      have := (kk_e g.2.1 he).2.2
      unfold at_
      by_cases q : fe e = nI j
      · rw [if_pos q]; exact this
      · rw [if_neg q]; omega)
    rw [sN_const] at h1
    omega
  obtain ⟨mat1, a1, a2⟩ := eq4 (fun (v9 : Int32) (w10 : Nat → Int64) => FMo_equations_L35 m (fun (v36 : Int32) (v37 : Int32) (w38 : Nat → Int32) => FMo_equations_L99 (fun (v43 : Int32) (w44 : Nat → Int64) => FMo_equations_L119 m w38 (fun (v63 : Int32) (w64 : Nat → Int64) (w65 : Nat → Int64) => FMo_equations_L189 m w38 1000 (0 : Int32) w64 w65) 1000 (0 : Int32) w10 w44) 1000 (0 : Int32) sd0) 1000 (0 : Int32) (0 : Int32) ro0) 1000 0 mat0 (by omega) (by omega) (fun x hx => absurd hx (by omega))
  obtain ⟨ro, b1, b2⟩ := eq35 o (fun (v36 : Int32) (v37 : Int32) (w38 : Nat → Int32) => FMo_equations_L99 (fun (v43 : Int32) (w44 : Nat → Int64) => FMo_equations_L119 m w38 (fun (v63 : Int32) (w64 : Nat → Int64) (w65 : Nat → Int64) => FMo_equations_L189 m w38 1000 (0 : Int32) w64 w65) 1000 (0 : Int32) mat1 w44) 1000 (0 : Int32) sd0) 1000 0 ro0 (by omega) (by omega) (fun x hx => absurd hx (by omega))
  rw [hz] at b1
  obtain ⟨sd1, c1, c2⟩ := eq99 (fun (v43 : Int32) (w44 : Nat → Int64) => FMo_equations_L119 m ro (fun (v63 : Int32) (w64 : Nat → Int64) (w65 : Nat → Int64) => FMo_equations_L189 m ro 1000 (0 : Int32) w64 w65) 1000 (0 : Int32) mat1 w44) 1000 0 sd0 (by omega) (by omega) (fun x hx => absurd hx (by omega))
  obtain ⟨mat2, sd2, d1, d2, d3, d4⟩ := eq119 (S := fun j => sN (at_ fe j (kk fl fs)) (2 * B)) o (fun j hj => by have := (g.1.2.2.2.2.2.2.1 j hj).2; rw [Nat.zero_add] at this; exact this) g.2.1.2.1 hS h4 b2 (fun (v63 : Int32) (w64 : Nat → Int64) (w65 : Nat → Int64) => FMo_equations_L189 m ro 1000 (0 : Int32) w64 w65) 1000 0 mat1 sd1 (by omega) (by omega) (fun x hx => absurd hx (by omega)) (fun x hx _ => a2 x hx) (fun x hx _ => c2 x hx)
  obtain ⟨mat3, sd3, e1, e2, e3, e4⟩ := eq189 (S := fun j => sN (at_ fe j (kk fl fs)) (2 * B)) g.1 g.2.1 h4 b2 1000 0 mat2 sd2 (by omega) (by omega) (fun i hi hp => by
    obtain ⟨w1, w2⟩ := d2 i hi hp
    have h1 := hr i hi hp
    refine ⟨w1, fun i' hi' hp' hne => ?_, ?_⟩
    · have h2 := hr i' hi' hp'
      have h3 : rkN (tq bn fh) i' ≠ rkN (tq bn fh) i := fun z => hne (rk_inj hp' hp z)
      rw [d3 _ (by omega) (fun x hx hxp => by have := hr x hx hxp; omega), if_neg (by omega)]
      rfl
    · rw [w2]
      show zL (-(fc i).toInt) = zL (-(fc i).toInt - 0)
      rw [Int.sub_zero]) (fun r c h1 h2 h3 => by
      rw [d3 _ (by omega) (fun x hx hxp => by have := hr x hx hxp; omega)]
      by_cases q : r = c
      · rw [if_pos q, if_pos (by omega)]
      · rw [if_neg q, if_neg (by omega)]) (fun r h1 h2 => d4 r h1 (fun x hx hxp => by have := hr x hx hxp; omega))
  refine ⟨mat3, sd3, ro, ?_, fun r c h1 h2 => ?_, fun r h1 => ?_, b2⟩
  · unfold FMo_equations
    exact a1.trans (b1.trans (c1.trans (d1.trans e1)))
  · unfold pm
    by_cases q : r < rkN (tq bn fh) J ∧ c < rkN (tq bn fh) J
    · rw [if_pos q]
      show mat3 (4 * r + c) = zL (2 * Mx J B fe fl fs (tq bn fh) r c)
      obtain ⟨x1, x2, x3⟩ := jr_s J q.1
      obtain ⟨y1, y2, y3⟩ := jr_s J q.2
      obtain ⟨w1, w2, -⟩ := e2 _ x1 x2
      unfold Mx
      by_cases e : r = c
      · subst e
        rw [x3] at w1
        rw [if_pos rfl, ← Int.mul_assoc, show (2 : Int) * 2 = 4 from rfl, show 4 * r + r = 5 * r by omega]
        exact w1
      · rw [if_neg e, ← w2 _ y1 y2 (fun z => e (by rw [← x3, ← y3, z])), x3, y3]
    · rw [if_neg q, e3 r c h1 h2 (by omega)]
      by_cases e : r = c
      · rw [if_pos e, if_pos e]
      · rw [if_neg e, if_neg e]
  · by_cases q : r < rkN (tq bn fh) J
    · rw [if_pos q]
      obtain ⟨x1, x2, x3⟩ := jr_s J q
      obtain ⟨-, -, w3⟩ := e2 _ x1 x2
      unfold ux
      rw [← w3, x3]
    · rw [if_neg q]
      exact e4 r h1 (by omega)
theorem ans_s {J B L : Nat} {fc fe fl fs fb fz fp ro : Nat → Int32} {p : Nat → Bool} {mat sd : Nat → Int64} {W : Int64} (h4 : rkN p J ≤ 4) (hm : ∀ r c, r < 4 → c < 4 → mat (4 * r + c) = zL (pm (rkN p J) (fun r c => 2 * Mx J B fe fl fs p r c) r c)) (hs : ∀ r, r < 4 → sd r = zL (if r < rkN p J then ux J B L fc fe fl fb fz fp p r else 0)) (hro : ∀ i, i < 6 → ro i = if i < J then uI p i else -4) : ∀ (f j : Nat) (tr an : Nat → Int64), j ≤ 6 → 6 - j < f → (∀ i, i < j → i < J → an i = zL (2 ^ (rkN p J - 1) * Xx J B L fc fe fl fs fb fz fp p i)) → ∃ tr' an' : Nat → Int64, FMo_solves_L16 mat sd ro W f (nI j) tr an = some (mat, sd, tr', an', ro, W) ∧ ∀ i, i < J → i < 6 → an' i = zL (2 ^ (rkN p J - 1) * Xx J B L fc fe fl fs fb fz fp p i) := by
  intro f
  induction f with
  | zero => intro j tr an h1 h2; omega
  | succ f ih =>
    intro j tr an h1 h2 h3
    rw [FMo_solves_L16.eq_2]
    by_cases hj : j = 6
    · subst hj
      rw [if_pos (by decide)]
      exact ⟨tr, an, rfl, fun i a b => h3 i b a⟩
    · have hlt : j < 6 := by omega
      have g6 : ∀ {α : Type} {o : Option α}, gd_ (nI j) 6 o = o := fun {α o} => nI_gd (by omega) (by omega)
      have cl := nI_clamp (n := j) (by omega)
      have hr := hro j hlt
      have up : ∀ x : Int64, (j < J → x = zL (2 ^ (rkN p J - 1) * Xx J B L fc fe fl fs fb fz fp p j)) → ∀ i, i < j + 1 → i < J → vp_updL an j x i = zL (2 ^ (rkN p J - 1) * Xx J B L fc fe fl fs fb fz fp p i) := by
        intro x hx i hi hiJ
        by_cases e : i = j
        · subst e; rw [pk_uLs]; exact hx hiJ
        · rw [pk_uLn e]; exact h3 i (by omega) hiJ
      rw [l6_, if_neg (nI_ge hlt (by omega)), g6, g6, g6, cl, lt_eq2, lt_eq2, nI_1]
      by_cases hp : j < J ∧ p j = true
      · have hq := rk_lt hp.2 hp.1
        rw [if_pos hp.1, uI_pos hp.2] at hr
        obtain ⟨tr1, t1⟩ := solved_e hm hs (nI (rkN p j)) tr
        rw [hr, if_neg (nI_pos (by omega)), t1, b2_so2, g6, lt_eq2, lt_eq2]
        refine ih (j + 1) _ _ (by omega) (by omega) (up _ (fun _ => ?_))
        unfold Xx
        rw [if_pos hp.2]
        unfold Nx
        rw [← sc1 h4 hq]
        congr 1
        apply DM_congr
        intro r c h5 h6
        by_cases e : c = rkN p j
        · rw [if_pos (by rw [e]), if_pos e]
        · rw [if_neg (by rw [nI_eq (by omega) (by omega)]; exact e), if_neg e]
      · have hr2 : ro j = -4 := by
          rw [hr]
          by_cases e : j < J
          · rw [if_pos e]; exact uI_neg (fun z => hp ⟨e, z⟩)
          · rw [if_neg e]
        rw [hr2, if_pos (by decide)]
        refine ih (j + 1) _ _ (by omega) (by omega) (up _ (fun e => ?_))
        unfold Xx
        rw [if_neg (fun z => hp ⟨e, z⟩), Int.mul_zero]
        exact zL0
theorem eqS {J B L : Nat} {fh fc fe fl fs fb fz fp m mo bo bn bk : Nat → Int32} (g : GF 0 J B L fh fc fe fl fs fb fz fp m) (o : RO J fh m mo bo bn bk) (hk : ∀ j, j < J → bk j = sI (atJ fe j (fun e => kB fl fs (e / 2))) 0 (2 * B)) (h4 : rkN (tq bn fh) J ≤ 4) (mat0 sd0 tr0 an0 : Nat → Int64) (ro0 : Nat → Int32) : ∃ (mat sd tr an : Nat → Int64) (ro : Nat → Int32), FMo_solves m mat0 sd0 tr0 an0 ro0 = some (mat, sd, tr, an, ro, zL (2 ^ rkN (tq bn fh) J * Dx J B fe fl fs (tq bn fh))) ∧ ∀ i, i < J → i < 6 → an i = zL (2 ^ (rkN (tq bn fh) J - 1) * Xx J B L fc fe fl fs fb fz fp (tq bn fh) i) := by
  obtain ⟨mat, sd, ro, e1, e2, e3, e4⟩ := eqR g o hk h4 mat0 sd0 ro0
  obtain ⟨tr1, t1⟩ := solved_e e2 e3 (-4) tr0
  have hW : DM (fun r c => if nI c = (-4 : Int32) then (if r < rkN (tq bn fh) J then ux J B L fc fe fl fb fz fp (tq bn fh) r else 0) else pm (rkN (tq bn fh) J) (fun r c => 2 * Mx J B fe fl fs (tq bn fh) r c) r c) = 2 ^ rkN (tq bn fh) J * Dx J B fe fl fs (tq bn fh) := by
    unfold Dx
    rw [← sc0 h4]
    apply DM_congr
    intro r c h5 h6
    rw [if_neg (q4_ h6).2.2]
  rw [hW] at t1
  obtain ⟨tr2, an2, a1, a2⟩ := ans_s (W := zL (2 ^ rkN (tq bn fh) J * Dx J B fe fl fs (tq bn fh))) h4 e2 e3 e4 1000 0 tr1 an0 (by omega) (by omega) (fun i hi => absurd hi (by omega))
  refine ⟨mat, sd, tr2, an2, ro, ?_, a2⟩
  unfold FMo_solves
  rw [e1, b3_so2, t1, b2_so2]
  exact a1
