/-! layer 2: step, sweep -/
theorem cT_ends {J B L : Nat} {fh fc fe fl fs fb fz fp m mo ms bm be bo bn bk bs : Nat → Int32} {mst mla bst bla : Int32} (g : GF 0 J B L fh fc fe fl fs fb fz fp m) (b : BI J B fc fe fl fs mo ms mst mla bm be bo bn bk bs bst bla) {j : Nat} (hj : j < J) (hc : ¬ cT bn fh j = 0) : ∃ e, e < 2 * B ∧ fe e = nI j := by
  have hB := g.1.2.1
  have h1 : bn j = nI (sN (at_ fe j (fun _ => 1)) (2 * B)) := by
    rw [(b.2.1 j hj).1]
    exact at_I (fun e he => rfl)
  apply at_pos (2 * B)
  apply Nat.pos_of_ne_zero
  intro h0
  apply hc
  unfold cT
  rw [h1, h0]
  split
  · rfl
  · rfl
theorem step_e {J B L : Nat} {fh fc fe fl fs fb fz fp m mo ms bm be bo bn bk bs : Nat → Int32} {mst mla bst bla : Int32} (g : GF 0 J B L fh fc fe fl fs fb fz fp m) (b : BI J B fc fe fl fs mo ms mst mla bm be bo bn bk bs bst bla) {j : Nat} (hj : j < J) (hc : ¬ cT bn fh j = 0) (bg bt sh : Nat → Int32) : ∃ (bm' bg' bt' bo' bs' mo' ms' sh' : Nat → Int32) (bst' bla' : Int32), FBa_letGo bm bg bt be bo bk bs bst fe (nI B) (nI j) = some (bm', bg', bt', bo', bs', bst', bla') ∧ FMo_doesStep m mo ms mst sh (nI j) = some (mo', ms', bst', bla', sh') ∧ BI J B fc fe fl fs mo' ms' bst' bla' bm' be bo' bn bk bs' bst' bla' := by
  have hJ := g.1.1
  obtain ⟨g1, t1, s1, N, sg, V, w1, w2, w3, w4, w5, w6⟩ := shares_e g b hj (cT_ends g b hj hc) bg bt sh
  have hph := ph_ge (bo := bo) J j hj
  have hbd := b.2.2.2.2.2.2
  have hV : V ≤ 1000000000 := by rcases w3 with rfl | rfl <;> omega
  obtain ⟨bm', bo', mo', x1, x2, x3, x4, x5⟩ := step8 g.1 g.2.1 (fc := fc) hj hbd hV w3 w5 w6 (fun (v25 : Int32) (w26 : Nat → Int32) (w27 : Nat → Int32) =>
      gd_ (nI j) 6 <|
      gd_ (nI j) 6 <|
      lt_ (upd bs (nI j).toNatClampNeg ((bs (nI j).toNatClampNeg) + (1 : Int32))) fun w30 =>
      lt_ (bst + (1 : Int32)) fun v31 =>
      some (w26, g1, t1, w27, w30, v31, nI j)) (fun (v25 : Int32) (w26 : Nat → Int32) =>
      lt_ (mst + (1 : Int32)) fun v27 =>
      gd_ (nI j) 6 <|
      gd_ (nI j) 6 <|
      lt_ (upd ms (nI j).toNatClampNeg ((ms (nI j).toNatClampNeg) + (1 : Int32))) fun w30 =>
      some (w26, w30, v27, nI j, s1)) 1000 0 bm bo mo (by omega) (by have := g.1.2.1; omega) (fun d hd => (b.1 d hd).1) (fun j' hj' => (b.2.1 j' hj').2.2) (by
        rw [w4]
        congr 2) (Nat.le_refl _)
  rw [← l0_] at x1 x2
  simp (disch := omega) only [nI_gd, nI_clamp, lt_eq2] at x1 x2
  refine ⟨bm', g1, t1, bo', upd bs j (bs j + 1), mo', upd ms j (ms j + 1), s1, bst + 1, nI j, ?_, ?_, ?_⟩
  · unfold FBa_letGo
    rw [w1, b2_so2]
    simp (disch := omega) only [nI_gd, nI_clamp, lt_eq2]
    exact x1
  · unfold FMo_doesStep
    rw [w2, b1_so2]
    simp (disch := omega) only [nI_gd, nI_clamp, lt_eq2]
    rw [b.2.2.2.1]
    exact x2
  · refine ⟨fun e he => ⟨x3 e he, (b.1 e he).2⟩, fun j' hj' => ⟨(b.2.1 j' hj').1, (b.2.1 j' hj').2.1, x4 j' hj'⟩, fun j' hj' => ?_, rfl, rfl, Or.inr ⟨j, hj, rfl⟩, by omega⟩
    by_cases e : j' = j
    · subst e; rw [pk_us, pk_us, b.2.2.1 j' hj']
    · rw [pk_un e, pk_un e]; exact b.2.2.1 j' hj'
theorem b5_so2 {A B C D E G : Type} (a : A) (b : B) (c : C) (d : D) (e : E) (k : A → B → C → D → E → Option G) : b5_ (some (a, b, c, d, e)) k = k a b c d e := Eq.symm (Eq.symm rfl)
theorem b7_so2 {A B C D E F H G : Type} (a : A) (b : B) (c : C) (d : D) (e : E) (f : F) (h : H) (k : A → B → C → D → E → F → H → Option G) : b7_ (some (a, b, c, d, e, f, h)) k = k a b c d e f h := Eq.symm (Eq.symm rfl)
theorem Jm_step {J B L : Nat} {fh fc fe fl fs fb fz fp m mo ms bm be bo bn bk bs : Nat → Int32} {mst mla bst bla : Int32} (g : GF 0 J B L fh fc fe fl fs fb fz fp m) (b : BI J B fc fe fl fs mo ms mst mla bm be bo bn bk bs bst bla) (bg bt sh : Nat → Int32) (a : Int32) : ∃ (r : Int32) (bm' bg' bt' bo' bs' mo' ms' sh' : Nat → Int32) (bst' bla' mst' mla' : Int32), FJm_step bm bg bt be bo bn bk bs bst bla fh fe (nI J) (nI B) a = some (r, bm', bg', bt', bo', bs', bst', bla') ∧ FMo_step m mo ms mst mla sh a = some (r, mo', ms', mst', mla', sh') ∧ BI J B fc fe fl fs mo' ms' mst' mla' bm' be bo' bn bk bs' bst' bla' := by
  have hJ := g.1.1
  have hRO := RO_of g.1 g.2.1 b
  unfold FJm_step FMo_step
  rcases isJoint_c (J := J) (by omega) (Mo_joints g.1) a with ⟨j, hj, rfl, e1, e2⟩ | ⟨e1, e2⟩
  · rw [e1, e2, Ba_canTurn (by omega), Mo_isTurning hRO hj]
    simp only [b1_so2, n10_, if_false]
    by_cases hc : cT bn fh j = 0
    · rw [if_pos hc, if_pos hc]
      exact ⟨_, _, _, _, _, _, _, _, _, _, _, _, _, rfl, rfl, b⟩
    · rw [if_neg hc, if_neg hc]
      obtain ⟨bm', bg', bt', bo', bs', mo', ms', sh', bst', bla', x1, x2, x3⟩ := step_e g b hj hc bg bt sh
      rw [x1, x2, b7_so2, b5_so2]
      exact ⟨_, _, _, _, _, _, _, _, _, _, _, _, _, rfl, rfl, x3⟩
  · rw [e1, e2]
    exact ⟨_, _, _, _, _, _, _, _, _, _, _, _, _, rfl, rfl, b⟩
theorem sweep_s {J B L N : Nat} {fh fc fe fl fs fb fz fp m be bn bk : Nat → Int32} (hN : N ≤ 200) (g : GF 0 J B L fh fc fe fl fs fb fz fp m) (w : Int32) : ∀ (n c : Nat) (bm bg bt bo bs mo ms sh : Nat → Int32) (st la : Int32), c ≤ N → N - c < n → BI J B fc fe fl fs mo ms st la bm be bo bn bk bs st la → ∃ q, FMo_nextOf m mo la w = some q ∧ ∃ (r : Int32) (bm' bg' bt' bo' bs' mo' ms' sh' : Nat → Int32) (st' la' : Int32), FJm_sweep_L23 be bn bk fh fe (nI J) (nI B) w (nI N) n (nI c) bm bg bt bo bs st la = some (r, bm', bg', bt', bo', bs', st', la') ∧ FMo_sweep_L33 m w (nI N) n (nI c) q mo ms st la sh = some (r, mo', ms', st', la', sh') ∧ BI J B fc fe fl fs mo' ms' st' la' bm' be bo' bn bk bs' st' la' := by
  have hJ := g.1.1
  intro n
  induction n with
  | zero => intro c bm bg bt bo bs mo ms sh st la h1 h2; omega
  | succ n ih =>
    intro c bm bg bt bo bs mo ms sh st la h1 h2 b
    obtain ⟨q, c1, c2, c3⟩ := chosen_e (RO_of g.1 g.2.1 b) (BI_min b) b.2.2.2.2.2.1 w
    refine ⟨q, c2, ?_⟩
    rw [FJm_sweep_L23.eq_2, FMo_sweep_L33.eq_2]
    by_cases hc : c = N
    · subst hc
      rw [if_pos (nI_le (Nat.le_refl _) (by omega)), if_pos (nI_le (Nat.le_refl _) (by omega))]
      exact ⟨_, _, _, _, _, _, _, _, _, _, _, rfl, rfl, b⟩
    · rw [if_neg (nI_ge (by omega) (by omega)), if_neg (nI_ge (by omega) (by omega)), c1, b1_so2]
      rcases c3 with rfl | ⟨j, hj, rfl, hl⟩
      · rw [if_neg (by decide), if_pos rfl]
        exact ⟨_, _, _, _, _, _, _, _, _, _, _, rfl, rfl, b⟩
      · rw [if_pos (nI_pos' (by omega)), if_neg (by intro hh; have := congrArg Int32.toInt hh; rw [nI_toInt (by omega), show ((-4 : Int32)).toInt = -4 from by decide] at this; omega)]
        obtain ⟨bm', bg', bt', bo', bs', mo', ms', sh', bst', bla', x1, x2, x3⟩ := step_e g b hj (lo_ne.mp hl).1 bg bt sh
        obtain ⟨q2, y1, y2⟩ := ih (c + 1) bm' bg' bt' bo' bs' mo' ms' sh' bst' bla' (by omega) (by omega) x3
        rw [x1, x2, b7_so2, b5_so2, lt_eq2, lt_eq2, nI_1, y1, b1_so2]
        exact y2
theorem Jm_sweep {J B L : Nat} {fh fc fe fl fs fb fz fp m mo ms bm be bo bn bk bs : Nat → Int32} {mst mla bst bla : Int32} (g : GF 0 J B L fh fc fe fl fs fb fz fp m) (b : BI J B fc fe fl fs mo ms mst mla bm be bo bn bk bs bst bla) (bg bt sh : Nat → Int32) (a w : Int32) : ∃ (r : Int32) (bm' bg' bt' bo' bs' mo' ms' sh' : Nat → Int32) (bst' bla' mst' mla' : Int32), FJm_sweep bm bg bt be bo bn bk bs bst bla fh fe (nI J) (nI B) a w = some (r, bm', bg', bt', bo', bs', bst', bla') ∧ FMo_sweep m mo ms mst mla sh a w = some (r, mo', ms', mst', mla', sh') ∧ BI J B fc fe fl fs mo' ms' mst' mla' bm' be bo' bn bk bs' bst' bla' := by
  have hno : ∀ r : Int32, ∃ (r' : Int32) (bm' bg' bt' bo' bs' mo' ms' sh' : Nat → Int32) (bst' bla' mst' mla' : Int32), some (r, bm, bg, bt, bo, bs, bst, bla) = some (r', bm', bg', bt', bo', bs', bst', bla') ∧ some (r, mo, ms, mst, mla, sh) = some (r', mo', ms', mst', mla', sh') ∧ BI J B fc fe fl fs mo' ms' mst' mla' bm' be bo' bn bk bs' bst' bla' := fun r => ⟨_, _, _, _, _, _, _, _, _, _, _, _, _, rfl, rfl, b⟩
  have hst := b.2.2.2.1
  have hla := b.2.2.2.2.1
  subst hst hla
  unfold FJm_sweep FMo_sweep FJm_isWay
  rcases rc_cases 0 1 (by omega) (by omega) a 0 1 (by decide) (by decide) with ⟨k, h3, h4, rfl, e3⟩ | ⟨e3, h3⟩
  · have hw : (if nI k = 0 then some (1 : Int32) else if nI k = 1 then some 1 else some 0) = some 1 := by
      rcases (show k = 0 ∨ k = 1 by omega) with rfl | rfl <;> rfl
    rw [hw, e3, b1_so2, b1_so2, if_neg (c := (1 : Int32) = 0) (by decide), if_neg (c := (1 : Int32) = 0) (by decide)]
    rcases rc_cases 1 200 (by omega) (by omega) w 1 200 (by decide) (by decide) with ⟨N, h5, h6, rfl, e4⟩ | ⟨e4, h5⟩
    · obtain ⟨q, y1, y2⟩ := sweep_s h6 g (nI k) 1000 0 bm bg bt bo bs mo ms sh bst bla (by omega) (by omega) b
      rw [e4, b1_so2, if_neg (c := (1 : Int32) = 0) (by decide), y1, b1_so2, if_neg (show ¬ nI N < 1 from nI_nlt (b := 1) (by omega) (by omega)), if_pos (show nI N ≤ 200 from nI_le (b := 200) (by omega) (by omega))]
      obtain ⟨r, bm', bg', bt', bo', bs', mo', ms', sh', st', la', y3, y4, y5⟩ := y2
      exact ⟨r, bm', bg', bt', bo', bs', mo', ms', sh', st', la', st', la', y3, y4, y5⟩
    · rw [e4, b1_so2, if_pos rfl]
      by_cases h6 : w < 1
      · rw [if_pos h6]; exact hno (-1)
      · rw [if_neg h6, if_neg (by rw [Int32.not_le]; exact h5.resolve_left h6)]; exact hno (-1)
  · have h0 : ¬ a = 0 := by rintro rfl; revert h3; decide
    have h2 : ¬ a = 1 := by rintro rfl; revert h3; decide
    rw [e3, if_neg h0, if_neg h2, b1_so2, b1_so2, if_pos rfl, if_pos rfl]
    exact hno (-1)
