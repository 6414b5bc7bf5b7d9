/-! layer 2: share, step, sweep -/
theorem at_pos {fe : Nat → Int32} {j : Nat} : ∀ n : Nat, 0 < sN (at_ fe j (fun _ => 1)) n → ∃ e, e < n ∧ fe e = nI j
  | 0, h => absurd h (Nat.lt_irrefl 0)
  | n + 1, h => by
    have h2 : 0 < sN (at_ fe j (fun _ => 1)) n + at_ fe j (fun _ => 1) n := h
    by_cases q : fe n = nI j
    · exact ⟨n, by omega, q⟩
    · have e : at_ fe j (fun _ => 1) n = 0 := if_neg q
      obtain ⟨e, h3, h4⟩ := at_pos (fe := fe) (j := j) n (by omega)
      exact ⟨e, by omega, h4⟩
theorem shares_e {J B L : Nat} {fh fc fe fl fs fb fz fp m mo ms bm be bo bn bk bs : Nat → Int32} {mst mla bst bla : Int32} (g : GF 0 J B L fh fc fe fl fs fb fz fp m) (b : BI J B fc fe fl fs mo ms mst mla bm be bo bn bk bs bst bla) {j : Nat} (hj : j < J) (hE : ∃ e, e < 2 * B ∧ fe e = nI j) (g0 t0 s0 : Nat → Int32) : ∃ (g1 t1 s1 : Nat → Int32) (N : Nat → Nat) (sg : Int) (V : Nat), FBa_shareOut g0 t0 be bo bk fe (nI B) (nI j) = some (g1, t1) ∧ FMo_sharesOf m mo s0 (nI j) = some s1 ∧ (sg = 1 ∨ sg = -1) ∧ (bo j).toInt = -(sg * (V : Int)) ∧ (∀ d, d < 2 * B → fe d = nI j → g1 d = zI (sg * (N d : Int)) ∧ s1 d = zI (sg * (N d : Int))) ∧ sN (at_ fe j N) (2 * B) = V := by
  have hJ := g.1.1
  have hB := g.1.2.1
  have v := g.2.1
  have hph := ph_ge (bo := bo) J j hj
  have hbd := b.2.2.2.2.2.2
  obtain ⟨sg, V, hsg, hV, hbo⟩ : ∃ (sg : Int) (V : Nat), (sg = 1 ∨ sg = -1) ∧ V ≤ 1000000000 ∧ (bo j).toInt = -(sg * (V : Int)) := by
    by_cases h0 : (bo j).toInt ≤ 0
    · exact ⟨1, (bo j).toInt.natAbs, Or.inl rfl, by omega, by omega⟩
    · exact ⟨-1, (bo j).toInt.natAbs, Or.inr rfl, by omega, by omega⟩
  have hbk : bk j = nI (sN (at_ fe j (kk fl fs)) (2 * B)) := by
    rw [(b.2.1 j hj).2.1]
    exact at_I (fun e he => (kk_e v he).1)
  obtain ⟨a, ha⟩ : ∃ a, a = sN (at_ fe j (kk fl fs)) (2 * B) := ⟨_, rfl⟩
  have ha1 : 1 ≤ a := by
    obtain ⟨e, he, hej⟩ := hE
    have h1 := sN_mem (f := at_ fe j (kk fl fs)) (2 * B) e he
    have h2 : at_ fe j (kk fl fs) e = kk fl fs e := if_pos hej
    have h3 := (kk_e v he).2.1
    omega
  have ha2 : a ≤ 2400 := by
    have h1 := sN_le (f := at_ fe j (kk fl fs)) (g := fun _ => 120) (2 * B) (fun k hk => by
      unfold at_
      have := (kk_e v hk).2.2
      split <;> omega)
    rw [sN_const] at h1
    omega
  rw [← ha] at hbk
  obtain ⟨hQ, hR⟩ := share_R (V := V) ha ha1
  obtain ⟨R, hRe⟩ : ∃ R, R = V - sN (at_ fe j (fun e => V * kk fl fs e / a)) (2 * B) := ⟨_, rfl⟩
  have hrest : zI (sg * ((V : Int) - (sN (at_ fe j (fun e => V * kk fl fs e / a)) (2 * B) : Nat))) = zI (sg * (R : Int)) := by
    congr 2
    omega
  have hR' : R = 0 ∨ R < sN (at_ fe j (fun _ => 1)) (2 * B) := by omega
  have hnE : sN (at_ fe j (fun _ => 1)) (2 * B) ≤ 2 * B := by
    have := sN_le (f := at_ fe j (fun _ => 1)) (g := fun _ => 1) (2 * B) (fun k _ => by unfold at_; dsimp only; split <;> omega)
    rw [sN_const] at this
    omega
  have h00 : zI (sg * ((V : Int) - (sN (at_ fe j (fun e => V * kk fl fs e / a)) 0 : Nat))) = zI (sg * (V : Int)) := by
    congr 2
  have hk1 : ∀ e, e < 2 * B → be e = nI (kk fl fs e) := fun e he => by rw [(b.1 e he).2]; exact (kk_e v he).1
  have hbneg : -2147483648 < (bo j).toInt := by rcases hsg with rfl | rfl <;> omega
  have hu1 : (-(bo j)).toInt = sg * (V : Int) := by rw [neg_toInt hbneg, hbo]; omega
  have hu : (-(bo j)).toInt64 = zL (sg * V) := by rw [toInt64_z, hu1]
  have hu2 : -(bo j) = zI (sg * V) := by rw [← hu1, zI_of]
  have hu3 : -((bo j).toInt64) = zL (sg * V) := by
    rw [toInt64_z, hbo]
    unfold zL
    rw [← Int64.ofInt_neg]
    congr 1
    omega
  have hone : ∀ x : Int32, x = zI (sg * (R : Int)) → 0 < R → (if 0 ≤ x then (1 : Int32) else -1) = zI sg := by
    intro x hx h0
    have hxt : x.toInt = sg * (R : Int) := by rw [hx, zI_toInt (by rcases hsg with rfl | rfl <;> omega) (by rcases hsg with rfl | rfl <;> omega)]
    by_cases h1 : 0 ≤ x
    · rw [if_pos h1]
      rw [Int32.le_iff_toInt_le, show (0 : Int32).toInt = 0 from by decide, hxt] at h1
      rcases hsg with rfl | rfl
      · rfl
      · omega
    · rw [if_neg h1]
      rw [Int32.le_iff_toInt_le, show (0 : Int32).toInt = 0 from by decide, hxt] at h1
      rcases hsg with rfl | rfl
      · omega
      · rfl
  obtain ⟨g1, t1, w1, w2⟩ := sO31 (k := kk fl fs) (j := j) (a := a) (fe := fe) hB (fun e he => ⟨hk1 e he, (kk_e v he).2.2⟩) hsg hV ha1 ha2 (fun (v23 : Int32) (v24 : Int32) (w25 : Nat → Int32) (w26 : Nat → Int32) =>
        lt_ (fun (v27 : Int32) =>
          FBa_shareOut_L115 be fe (nI B) (nI j) v27 1000 v23 (0 : Int32) w25 w26 : Int32 → Option ((Nat → Int32) × (Nat → Int32))) fun j41 =>
        if 0 ≤ v23 then
          j41 (1 : Int32)
        else
          j41 (-1 : Int32)) 1000 0 g0 t0 (by omega) (by omega) (fun d hd => by omega)
  obtain ⟨s1, w3⟩ := sO19 (fun (v12 : Int32) (w13 : Nat → Int32) =>
      FMo_sharesOf_L43 m (nI j) (-(bo j)) (nI a) (fun (v33 : Int32) (v34 : Int32) (w35 : Nat → Int32) =>
          lt_ (fun (v36 : Int32) =>
            b1_ (FMo_size v33) fun r37 =>
            FMo_sharesOf_L122 m (nI j) v33 v36 1000 r37 w35 : Int32 → Option ((Nat → Int32))) fun j51 =>
          if 0 ≤ v33 then
            j51 (1 : Int32)
          else
            j51 (-1 : Int32)) 1000 (-(bo j)) (0 : Int32) w13) 1000 0 s0 (by omega) (by omega)
  obtain ⟨s2, w4, w5⟩ := sO43 g.1 v (j := j) (a := a) hsg hV ha1 ha2 hu (fun (v33 : Int32) (v34 : Int32) (w35 : Nat → Int32) =>
          lt_ (fun (v36 : Int32) =>
            b1_ (FMo_size v33) fun r37 =>
            FMo_sharesOf_L122 m (nI j) v33 v36 1000 r37 w35 : Int32 → Option ((Nat → Int32))) fun j51 =>
          if 0 ≤ v33 then
            j51 (1 : Int32)
          else
            j51 (-1 : Int32)) 1000 0 s1 (by omega) (by omega) (fun d hd => by omega)
  rw [h00, hrest] at w1 w4
  rw [← l0_] at w1 w3 w4
  obtain ⟨g', t', s', N', y1, y2, y3, y4⟩ := top_s g.1 v hk1 (R := R) (one := if 0 ≤ zI (sg * (R : Int)) then (1 : Int32) else -1) (hone _ rfl) hsg hR' R 0 1000 1000 g1 t1 s2 (fun d => V * kk fl fs d / a) (by omega) (by omega) (by omega) (by
    have : sN (tp fe t1 j) (2 * B) = sN (fun _ => 0) (2 * B) := by
      apply sN_congr
      intro d hd
      apply tp0
      rintro ⟨q1, q2⟩
      exact q2 (w2 d hd q1).2
    rw [this, sN_const]; omega) (fun d d' hd hd' hj1 hj2 ht _ => absurd (w2 d hd hj1).2 ht) (fun d hd hj1 => ⟨(w2 d hd hj1).1, w5 d hd hj1⟩)
  refine ⟨g', t', s', N', sg, V, ?_, ?_, hsg, hbo, y3, ?_⟩
  · unfold FBa_shareOut
    rw [nI_gd (by omega) (by omega), nI_clamp (by omega), lt_eq2, hbk, if_pos (show (1 : Int32) ≤ nI a from nI_le (a := 1) ha1 (by omega)), nI_gd (by omega) (by omega), lt_eq2, lt_eq2, hu3]
    rw [show (zL (sg * V)).toInt32 = zI (sg * V) from Int64.toInt32_ofInt]
    rw [w1, lt_eq2]
    rw [← l0_] at y1
    split
    · rename_i q
      rw [if_pos q] at y1
      exact y1
    · rename_i q
      rw [if_neg q] at y1
      exact y1
  · have hRO := RO_of g.1 v b
    unfold FMo_sharesOf
    rw [hRO.2.2.2.2.2 j hj, b1_so2, lt_eq2, hRO.2.2.2.2.1 j hj, b1_so2, hbk, w3]
    rw [← hu2] at w4
    rw [w4, lt_eq2, Mo_size]
    have e1 : ab (zI (sg * (R : Int))) = nI R := by
      apply Int32.toInt_inj.mp
      rw [ab_toInt (by rw [zI_toInt (by rcases hsg with rfl | rfl <;> omega) (by rcases hsg with rfl | rfl <;> omega)]; rcases hsg with rfl | rfl <;> omega), zI_toInt (by rcases hsg with rfl | rfl <;> omega) (by rcases hsg with rfl | rfl <;> omega), nI_toInt (by omega)]
      rcases hsg with rfl | rfl <;> split <;> omega
    rw [e1]
    simp only [b1_so2]
    split
    · rename_i q
      rw [if_pos q] at y2
      exact y2
    · rename_i q
      rw [if_neg q] at y2
      exact y2
  · rw [y4]; omega
