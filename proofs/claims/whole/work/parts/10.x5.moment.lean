/-! layer 2: the moment -/
theorem Jm_moment {J B L : Nat} {fh fc fe fl fs fb fz fp m mo ms bm be bo bn bk bs : Nat → Int32} {mst mla bst bla : Int32} (g : GF 0 J B L fh fc fe fl fs fb fz fp m) (b : BI J B fc fe fl fs mo ms mst mla bm be bo bn bk bs bst bla) (un0 : Nat → Int32) (sz0 : Int32) (g0 : Nat → Nat → Int64) (mat0 sd0 tr0 an0 : Nat → Int64) (ro0 : Nat → Int32) (wh0 : Int64) (a w : Int32) : ∃ (r : Int32) (un : Nat → Int32) (sz : Int32) (g' : Nat → Nat → Int64) (mat sd tr an : Nat → Int64) (ro : Nat → Int32) (wh : Int64), FJm_moment bm un0 sz0 g0 fh fc fe fl fs fb fz fp (nI J) (nI B) (nI L) a w = some (r, un, sz, g') ∧ FMo_moment m mo mat0 sd0 tr0 an0 ro0 wh0 a w = some (r, mat, sd, tr, an, ro, wh) := by
  have hB := g.1.2.1
  have o := RO_of g.1 g.2.1 b
  unfold FJm_moment FMo_moment
  have b4' : ∀ {A B C D G : Type} (a : A) (b : B) (c : C) (d : D) (k : A → B → C → D → Option G), b4_ (some (a, b, c, d)) k = k a b c d := fun a b c d k => Eq.symm (Eq.symm rfl)
  have n10 : ¬ (1 : Int32) = 0 := by decide
  have n20 : ¬ (2 : Int32) = 0 := by decide
  have n21 : ¬ (2 : Int32) = 1 := by decide
  have n30 : ¬ (3 : Int32) = 0 := by decide
  have n31 : ¬ (3 : Int32) = 1 := by decide
  have n32 : ¬ (3 : Int32) = 2 := by decide
  have y0 : (0 : Int32) = 0 := rfl
  have y1 : (1 : Int32) = 1 := rfl
  have y2 : (2 : Int32) = 2 := rfl
  have y3 : (3 : Int32) = 3 := rfl
  rcases isEnd_c (B := B) (by omega) (Mo_beams g.1) a with ⟨e, he, rfl, e1, e2⟩ | ⟨e1, e2⟩
  · rw [e1, e2, b1_so2, b1_so2, if_neg n10, if_neg n10]
    obtain ⟨r, un, sz, g', mat, sd, tr, an, ro, wh, s1, s2⟩ := sure_e g o (fun j hj => (b.2.1 j hj).1) (fun j hj => (b.2.1 j hj).2.1) he un0 g0 mat0 sd0 tr0 an0 ro0
    have g20 : ∀ {α : Type} {k : Option α}, gd_ (nI e) 20 k = k := fun {α k} => nI_gd (by omega) (by omega)
    have cl := nI_clamp (n := e) (by omega)
    have hm := (b.1 e he).1
    have hf := first_e g.1 g.2.1 (e := e) (by omega)
    rcases rc_cases 0 3 (by omega) (by omega) w 0 3 (by decide) (by decide) with ⟨k, k0, k3, rfl, w1⟩ | ⟨w1, w2⟩
    · rw [w1, b1_so2, if_neg n10]
      rcases (show k = 0 ∨ k = 1 ∨ k = 2 ∨ k = 3 by omega) with rfl | rfl | rfl | rfl
      · rw [show nI 0 = (0 : Int32) from rfl, if_pos y0, if_pos y0, hf.1, hf.2, b1_so2, b1_so2]
        exact ⟨_, _, _, _, _, _, _, _, _, _, rfl, rfl⟩
      · rw [show nI 1 = (1 : Int32) from rfl, if_neg n10, if_pos y1, if_neg n10, if_pos y1, g20, g20, cl, hm]
        exact ⟨_, _, _, _, _, _, _, _, _, _, rfl, rfl⟩
      · rw [show nI 2 = (2 : Int32) from rfl, if_neg n20, if_neg n21, if_pos y2, if_neg n20, if_neg n21, if_pos y2, s1, s2, b4', b7_so2]
        exact ⟨_, _, _, _, _, _, _, _, _, _, rfl, rfl⟩
      · rw [show nI 3 = (3 : Int32) from rfl, if_neg n30, if_neg n31, if_neg n32, if_pos y3, if_neg n30, if_neg n31, if_neg n32, s1, s2, b4', b7_so2, g20, g20, cl, hm]
        exact ⟨_, _, _, _, _, _, _, _, _, _, rfl, rfl⟩
    · rw [w1, b1_so2, if_pos y0]
      have hn : ∀ k : Nat, k ≤ 3 → ¬ w = nI k := fun k hk z => by
        subst z
        rw [Int32.lt_iff_toInt_lt, Int32.lt_iff_toInt_lt, nI_toInt (by omega), nI_toInt (by omega), nI_toInt (by omega)] at w2
        omega
      rw [if_neg (show ¬ w = (0 : Int32) from hn 0 (by omega)), if_neg (show ¬ w = (1 : Int32) from hn 1 (by omega)), if_neg (show ¬ w = (2 : Int32) from hn 2 (by omega)), if_neg (show ¬ w = (3 : Int32) from hn 3 (by omega))]
      exact ⟨_, _, _, _, _, _, _, _, _, _, rfl, rfl⟩
  · rw [e1, e2, b1_so2, b1_so2, if_pos y0, if_pos y0]
    exact ⟨_, _, _, _, _, _, _, _, _, _, rfl, rfl⟩
