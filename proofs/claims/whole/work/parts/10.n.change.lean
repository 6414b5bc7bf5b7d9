/-! layer 2: what is changed -/
def GF (P J B L : Nat) (fh fc fe fl fs fb fz fp m : Nat → Int32) : Prop := RF P J B L fh fc fe fl fs fb fz fp m ∧ VF J B L fh fc fe fl fs fb fz fp ∧ tn fh 0 J ≤ 4
theorem tn_congr {f g : Nat → Int32} : ∀ (n i : Nat), (∀ k, i ≤ k → k < i + n → f k = g k) → tn f i n = tn g i n
  | 0, _, _ => rfl
  | n + 1, i, h => by
    show _ + tn f (i + 1) n = _ + tn g (i + 1) n
    rw [h i (Nat.le_refl i) (by omega), tn_congr n (i + 1) (fun k h1 h2 => h k (by omega) (by omega))]
theorem tn_upd {f : Nat → Int32} {j : Nat} {x : Int32} : ∀ (n i : Nat), i ≤ j → j < i + n → tn (upd f j x) i n + (if f j = 0 then 1 else 0) = tn f i n + (if x = 0 then 1 else 0)
  | 0, i, h1, h2 => by omega
  | n + 1, i, h1, h2 => by
    show (if upd f j x i = 0 then 1 else 0) + tn (upd f j x) (i + 1) n + _ = (if f i = 0 then 1 else 0) + tn f (i + 1) n + _
    by_cases e : i = j
    · subst e
      rw [pk_us, tn_congr (g := f) n (i + 1) (fun k g1 g2 => pk_un (by omega))]
      omega
    · rw [pk_un e]
      have := tn_upd (f := f) (j := j) (x := x) n (i + 1) (by omega) (by omega)
      omega
theorem GF_copy {P Q J B L : Nat} {fh fc fe fl fs fb fz fp m gh gc ge gl gs gb gz gp m' : Nat → Int32} (h : GF P J B L fh fc fe fl fs fb fz fp m) (hm : ∀ x, x < 79 → m' (Q + x) = m (P + x)) (h1 : ∀ j, j < 6 → gh j = fh j) (h2 : ∀ j, j < 6 → gc j = fc j) (h3 : ∀ j, j < 20 → ge j = fe j) (h4 : ∀ j, j < 10 → gl j = fl j) (h5 : ∀ j, j < 10 → gs j = fs j) (h6 : ∀ j, j < 8 → gb j = fb j) (h7 : ∀ j, j < 8 → gz j = fz j) (h8 : ∀ j, j < 8 → gp j = fp j) : GF Q J B L gh gc ge gl gs gb gz gp m' := by
  obtain ⟨⟨a1, a2, a3, a4, a5, a6, a7, a8, a9⟩, ⟨b1, b2, b3, b4, b5, b6, b7⟩, c⟩ := h
  refine ⟨⟨a1, a2, a3, ?_, ?_, ?_, fun j hj => ?_, fun b hb => ?_, fun i hi => ?_⟩, ⟨fun j hj => ?_, fun j hj => ?_, fun e he => ?_, fun b hb => ?_, fun b hb => ?_, fun b hb => ?_, fun i hi => ?_⟩, ?_⟩
  · rw [hm 76 (by omega), a4]
  · rw [hm 77 (by omega), a5]
  · rw [hm 78 (by omega), a6]
  · have := a7 j hj
    rw [hm j (by omega), Nat.add_assoc, hm (6 + j) (by omega), h1 j (by omega), h2 j (by omega), ← Nat.add_assoc]
    exact this
  · have := a8 b hb
    rw [Nat.add_assoc, Nat.add_assoc, Nat.add_assoc, Nat.add_assoc, hm (12 + b) (by omega), hm (22 + b) (by omega), hm (32 + b) (by omega), hm (42 + b) (by omega), h3 _ (by omega), h3 _ (by omega), h4 _ (by omega), h5 _ (by omega), ← Nat.add_assoc, ← Nat.add_assoc, ← Nat.add_assoc, ← Nat.add_assoc]
    exact this
  · have := a9 i hi
    rw [Nat.add_assoc, Nat.add_assoc, Nat.add_assoc, hm (52 + i) (by omega), hm (60 + i) (by omega), hm (68 + i) (by omega), h6 _ (by omega), h7 _ (by omega), h8 _ (by omega), ← Nat.add_assoc, ← Nat.add_assoc, ← Nat.add_assoc]
    exact this
  · rw [h1 j hj]; exact b1 j hj
  · rw [h2 j (by omega)]; exact b2 j hj
  · rw [h3 e (by omega)]; exact b3 e he
  · rw [h3 _ (by omega), h3 _ (by omega)]; exact b4 b hb
  · rw [h4 b (by omega)]; exact b5 b hb
  · rw [h5 b (by omega)]; exact b6 b hb
  · obtain ⟨b, z, a, k, e1, e2, e3, e4, e5, e6⟩ := b7 i hi
    exact ⟨b, z, a, k, by rw [h6 i (by omega)]; exact e1, e2, by rw [h7 i (by omega)]; exact e3, by rw [h8 i (by omega)]; exact e4, by rw [h4 b (by omega)]; exact e5, e6⟩
  · rw [tn_congr (g := fh) J 0 (fun k _ hk => h1 k (by omega))]
    exact c
/-- nothing but page 0 and what lies behind the images has changed -/
def pg (m m' : Nat → Int32) : Prop := ∀ i, 79 ≤ i → i < 237 → m' i = m i
theorem Jm_begin {J B L : Nat} {fh fc fe fl fs fb fz fp m mo ms bm be bo bn bk bs : Nat → Int32} {mst mla bst bla : Int32} (g : GF 0 J B L fh fc fe fl fs fb fz fp m) (b : BI J B fc fe fl fs mo ms mst mla bm be bo bn bk bs bst bla) : ∃ (r : Int32) (bm' be' bo' bn' bk' bs' mo' ms' : Nat → Int32) (bst' bla' mst' mla' : Int32), FJm_begin bm be bo bn bk bs bst fc fe fl fs fb fz fp (nI B) (nI L) = some (r, bm', be', bo', bn', bk', bs', bst', bla') ∧ FMo_begin m mo ms mst = some (r, mo', ms', mst', mla') ∧ BI J B fc fe fl fs mo' ms' mst' mla' bm' be' bo' bn' bk' bs' bst' bla' := by
  obtain ⟨bm', be', bo', bn', bk', bs', mo', ms', h1, h2, h3⟩ := anew_BI g.1 g.2.1 bm be bo bn bk bs mo ms mst
  refine ⟨bst, bm', be', bo', bn', bk', bs', mo', ms', _, _, _, _, ?_, ?_, h3⟩
  · unfold FJm_begin
    rw [h1]; rfl
  · unfold FMo_begin
    rw [h2, b.2.2.2.1]; rfl
theorem couple_c {J : Nat} (hJ : J < 1000) {m : Nat → Int32} (hm : FMo_joints m = some (nI J)) (a c : Int32) : (∃ k, k < J ∧ a = nI k ∧ -9999 ≤ c.toInt ∧ c.toInt ≤ 9999 ∧ FJm_mayCouple (nI J) a c = some 1 ∧ FMo_isCouple m a c = some 1) ∨ (FJm_mayCouple (nI J) a c = some 0 ∧ FMo_isCouple m a c = some 0) := by
  unfold FJm_mayCouple FMo_isCouple
  have e1 : c < (-9999 : Int32) ↔ c.toInt < -9999 := by rw [Int32.lt_iff_toInt_lt, show (-9999 : Int32).toInt = -9999 from by decide]
  have e2 : (9999 : Int32) < c ↔ 9999 < c.toInt := by rw [Int32.lt_iff_toInt_lt, show (9999 : Int32).toInt = 9999 from by decide]
  rcases isJoint_c hJ hm a with ⟨j, hj, rfl, g1, g2⟩ | ⟨g1, g2⟩
  · rw [g1, g2, Mo_in64, Int32.toInt_toInt64, show (-9999 : Int64).toInt = -9999 from by decide, show (9999 : Int64).toInt = 9999 from by decide]
    simp only [b1_some, n10_, if_false, e1, e2]
    by_cases h1 : c.toInt < -9999
    · right
      rw [if_pos h1, if_neg (c := -9999 ≤ c.toInt ∧ c.toInt ≤ 9999) (by omega)]
      exact ⟨rfl, rfl⟩
    · by_cases h2 : 9999 < c.toInt
      · right
        rw [if_neg h1, if_pos h2, if_neg (c := -9999 ≤ c.toInt ∧ c.toInt ≤ 9999) (by omega)]
        exact ⟨rfl, rfl⟩
      · left
        rw [if_neg h1, if_neg h2, if_pos (c := -9999 ≤ c.toInt ∧ c.toInt ≤ 9999) (by omega)]
        exact ⟨j, hj, rfl, by omega, by omega, rfl, rfl⟩
  · right
    rw [g1, g2]
    exact ⟨rfl, rfl⟩
theorem GF_couple {J B L : Nat} {fh fc fe fl fs fb fz fp m : Nat → Int32} (g : GF 0 J B L fh fc fe fl fs fb fz fp m) {j : Nat} (hj : j < J) {c : Int32} (h1 : -9999 ≤ c.toInt) (h2 : c.toInt ≤ 9999) : GF 0 J B L fh (upd fc j c) fe fl fs fb fz fp (upd m (6 + j) c) := by
  obtain ⟨⟨a1, a2, a3, a4, a5, a6, a7, a8, a9⟩, ⟨b1, b2, b3, b4, b5, b6, b7⟩, c1⟩ := g
  refine ⟨⟨a1, a2, a3, ?_, ?_, ?_, fun i hi => ?_, fun b hb => ?_, fun i hi => ?_⟩, ⟨b1, fun i hi => ?_, b3, b4, b5, b6, b7⟩, c1⟩
  · rw [pk_un (by omega), a4]
  · rw [pk_un (by omega), a5]
  · rw [pk_un (by omega), a6]
  · have := a7 i hi
    rw [pk_un (by omega)]
    refine ⟨this.1, ?_⟩
    by_cases e : i = j
    · subst e; rw [Nat.zero_add, pk_us, pk_us]
    · rw [pk_un (by omega), pk_un e]; exact this.2
  · rw [pk_un (by omega), pk_un (by omega), pk_un (by omega), pk_un (by omega)]
    exact a8 b hb
  · rw [pk_un (by omega), pk_un (by omega), pk_un (by omega)]
    exact a9 i hi
  · by_cases e : i = j
    · subst e; rw [pk_us]; exact ⟨h1, h2⟩
    · rw [pk_un e]; exact b2 i hi
theorem Jm_couple {J B L : Nat} {fh fc fe fl fs fb fz fp m mo ms bm be bo bn bk bs : Nat → Int32} {mst mla bst bla : Int32} (g : GF 0 J B L fh fc fe fl fs fb fz fp m) (b : BI J B fc fe fl fs mo ms mst mla bm be bo bn bk bs bst bla) (a c : Int32) : ∃ (r : Int32) (bm' be' bo' bn' bk' bs' fc' m' mo' ms' : Nat → Int32) (bst' bla' mst' mla' : Int32), FJm_couple bm be bo bn bk bs bst bla fc fe fl fs fb fz fp (nI J) (nI B) (nI L) a c = some (r, bm', be', bo', bn', bk', bs', bst', bla', fc') ∧ FMo_couple m mo ms mst mla a c = some (r, m', mo', ms', mst', mla') ∧ GF 0 J B L fh fc' fe fl fs fb fz fp m' ∧ BI J B fc' fe fl fs mo' ms' mst' mla' bm' be' bo' bn' bk' bs' bst' bla' ∧ pg m m' := by
  have hJ := g.1.1
  unfold FJm_couple FMo_couple
  rcases couple_c (J := J) (by omega) (Mo_joints g.1) a c with ⟨j, hj, rfl, h1, h2, e1, e2⟩ | ⟨e1, e2⟩
  · rw [e1, e2]
    have g' := GF_couple g hj h1 h2
    obtain ⟨bm', be', bo', bn', bk', bs', mo', ms', h1, h2, h3⟩ := anew_BI g'.1 g'.2.1 bm be bo bn bk bs mo ms mst
    simp (disch := omega) only [b1_some, n10_, if_false, l6_, nI_add, nI_gd, nI_clamp, lt_eq, h1, h2]
    exact ⟨_, _, _, _, _, _, _, _, _, _, _, _, _, _, _, rfl, rfl, g', h3, fun i hi _ => pk_un (by omega)⟩
  · rw [e1, e2]
    exact ⟨_, _, _, _, _, _, _, _, _, _, _, _, _, _, _, rfl, rfl, g, b, fun i _ _ => rfl⟩
theorem GF_hold {J B L : Nat} {fh fc fe fl fs fb fz fp m : Nat → Int32} (g : GF 0 J B L fh fc fe fl fs fb fz fp m) {j : Nat} (hj : j < J) {x : Int32} (hx : x = 0 ∨ x = 1) (ht : x = 0 → ¬ fh j = 0 → tn fh 0 J < 4) : GF 0 J B L (upd fh j x) fc fe fl fs fb fz fp (upd m j x) := by
  obtain ⟨⟨a1, a2, a3, a4, a5, a6, a7, a8, a9⟩, ⟨b1, b2, b3, b4, b5, b6, b7⟩, c1⟩ := g
  refine ⟨⟨a1, a2, a3, ?_, ?_, ?_, fun i hi => ?_, fun b hb => ?_, fun i hi => ?_⟩, ⟨fun i hi => ?_, b2, b3, b4, b5, b6, b7⟩, ?_⟩
  · rw [pk_un (by omega), a4]
  · rw [pk_un (by omega), a5]
  · rw [pk_un (by omega), a6]
  · have := a7 i hi
    rw [pk_un (k := j) (j := 0 + 6 + i) (by omega)]
    refine ⟨?_, this.2⟩
    by_cases e : i = j
    · subst e; rw [Nat.zero_add, pk_us, pk_us]
    · rw [pk_un (by omega), pk_un e]; exact this.1
  · rw [pk_un (by omega), pk_un (by omega), pk_un (by omega), pk_un (by omega)]
    exact a8 b hb
  · rw [pk_un (by omega), pk_un (by omega), pk_un (by omega)]
    exact a9 i hi
  · by_cases e : i = j
    · subst e; rw [pk_us]; exact hx
    · rw [pk_un e]; exact b1 i hi
  · have h1 := tn_upd (f := fh) (j := j) (x := x) J 0 (by omega) (by omega)
    by_cases e0 : x = 0
    · rw [if_pos e0] at h1
      by_cases e1 : fh j = 0
      · rw [if_pos e1] at h1; omega
      · rw [if_neg e1] at h1
        have := ht e0 e1
        omega
    · rw [if_neg e0] at h1
      omega
theorem Jm_hold {J B L : Nat} {fh fc fe fl fs fb fz fp m mo ms bm be bo bn bk bs : Nat → Int32} {mst mla bst bla : Int32} (g : GF 0 J B L fh fc fe fl fs fb fz fp m) (b : BI J B fc fe fl fs mo ms mst mla bm be bo bn bk bs bst bla) (a c : Int32) : ∃ (r : Int32) (bm' be' bo' bn' bk' bs' fh' m' mo' ms' : Nat → Int32) (bst' bla' mst' mla' : Int32), FJm_hold bm be bo bn bk bs bst bla fh fc fe fl fs fb fz fp (nI J) (nI B) (nI L) a c = some (r, bm', be', bo', bn', bk', bs', bst', bla', fh') ∧ FMo_hold m mo ms mst mla a c = some (r, m', mo', ms', mst', mla') ∧ GF 0 J B L fh' fc fe fl fs fb fz fp m' ∧ BI J B fc fe fl fs mo' ms' mst' mla' bm' be' bo' bn' bk' bs' bst' bla' ∧ pg m m' := by
  have hJ := g.1.1
  have hH : ∀ j, j < J → m j = fh j := fun j hj => by
    have := (g.1.2.2.2.2.2.2.1 j hj).1
    rw [Nat.zero_add] at this
    exact this
  have ht := turning_e (P := 0) (J := J) (fh := fh) (m := m) (by omega) hJ (by rw [← g.1.2.2.2.1]) (fun j hj => g.2.1.1 j (by omega)) (fun j hj => by rw [Nat.zero_add]; exact hH j hj)
  rw [← l0_] at ht
  unfold FJm_hold FMo_hold
  rcases isJoint_c (J := J) (by omega) (Mo_joints g.1) a with ⟨j, hj, rfl, e1, e2⟩ | ⟨e1, e2⟩
  · rw [e1, e2, ht.1, ht.2]
    have hgo : ∀ x : Int32, (x = 0 ∨ x = 1) → (x = 0 → ¬ fh j = 0 → tn fh 0 J < 4) → ∃ bm' be' bo' bn' bk' bs' mo' ms' : Nat → Int32, FBa_anew bm be bo bn bk bs fc fe fl fs fb fz fp (nI B) (nI L) = some (bm', be', bo', bn', bk', bs', 0, -4) ∧ FMo_begins (upd m j x) mo ms mst = some (mst, mo', ms', 0, -4) ∧ BI J B fc fe fl fs mo' ms' 0 (-4) bm' be' bo' bn' bk' bs' 0 (-4) := fun x h1 h2 => anew_BI (GF_hold g hj h1 h2).1 (GF_hold g hj h1 h2).2.1 bm be bo bn bk bs mo ms mst
    rcases rc_cases 0 1 (by omega) (by omega) c 0 1 (by decide) (by decide) with ⟨k, h1, h2, rfl, e3⟩ | ⟨e3, h1⟩
    · rw [e3]
      have c1 := nI_clamp (n := j) (by omega)
      have hgd : ∀ {α : Type} {n : Nat} {k : Option α}, j < n → n < 2147483648 → gd_ (nI j) n k = k := fun h1 h2 => nI_gd h1 h2
      have c6 : ∀ {α : Type} {k : Option α}, gd_ (nI j) 6 k = k := fun {α k} => hgd (by omega) (by omega)
      have c395 : ∀ {α : Type} {k : Option α}, gd_ (nI j) 395 k = k := fun {α k} => hgd (by omega) (by omega)
      dsimp only [lt_, b1_some]
      simp only [n10_, if_false, c6, c395, c1, hH j hj]
      rcases (show k = 0 ∨ k = 1 by omega) with rfl | rfl
      · have q1 : (nI 0 = 1) = False := eq_false (by decide)
        have q2 : (nI 0 = 0) = True := eq_true rfl
        have q3 : (nI 0 ≤ 1) = True := eq_true (by decide)
        have q4 : (nI 0 < 0) = False := eq_false (by decide)
        simp only [q1, q2, q3, q4, if_true, if_false]
        by_cases h0 : fh j = 0
        · obtain ⟨bm', be', bo', bn', bk', bs', mo', ms', h4, h5, h6⟩ := hgo (nI 0) (Or.inl rfl) (fun _ q => absurd h0 q)
          rw [if_pos h0, if_neg (by rw [h0]; decide), h4, h5]
          simp only [if_pos h0]
          refine ⟨_, _, _, _, _, _, _, _, _, _, _, _, _, _, _, rfl, ?_, GF_hold g hj (x := nI 0) (Or.inl rfl) (fun _ q => absurd h0 q), h6, fun i hi _ => pk_un (by omega)⟩
          rw [h0]; rfl
        · have h1 : fh j = 1 := (g.2.1.1 j (by omega)).resolve_left h0
          rw [if_neg h0, if_pos h1]
          have hle := g.2.2
          by_cases h4 : tn fh 0 J = 4
          · rw [if_neg (by rw [h4]; decide), if_pos (by rw [h4]; rfl)]
            exact ⟨_, _, _, _, _, _, _, _, _, _, _, _, _, _, _, rfl, rfl, g, b, fun i _ _ => rfl⟩
          · rw [if_pos (show nI (tn fh 0 J) < 4 from nI_lt (a := tn fh 0 J) (b := 4) (by omega) (by omega)), if_neg (by rw [show (4 : Int32) = nI 4 from rfl, nI_eq (by omega) (by omega)]; omega)]
            obtain ⟨bm', be', bo', bn', bk', bs', mo', ms', h5, h6, h7⟩ := hgo (nI 0) (Or.inl rfl) (fun _ _ => by omega)
            rw [h5, h6]
            simp only [if_neg h0]
            refine ⟨_, _, _, _, _, _, _, _, _, _, _, _, _, _, _, rfl, ?_, GF_hold g hj (x := nI 0) (Or.inl rfl) (fun _ _ => by omega), h7, fun i hi _ => pk_un (by omega)⟩
            rw [h1]; rfl
      · have q2 : (nI 1 = 0) = False := eq_false (by decide)
        have q3 : (nI 1 ≤ 1) = True := eq_true (by decide)
        have q4 : (nI 1 < 0) = False := eq_false (by decide)
        have q5 : (nI 1 = 1) = True := eq_true rfl
        simp only [q2, q3, q4, q5, if_true, if_false]
        obtain ⟨bm', be', bo', bn', bk', bs', mo', ms', h4, h5, h6⟩ := hgo (nI 1) (Or.inr rfl) (fun q => absurd q (by decide))
        rw [h4, h5]
        refine ⟨fh j, bm', be', bo', bn', bk', bs', upd fh j (nI 1), upd m j (nI 1), mo', ms', 0, -4, 0, -4, ?_, ?_, GF_hold g hj (x := nI 1) (Or.inr rfl) (fun q => absurd q (by decide)), h6, fun i hi _ => pk_un (by omega)⟩
        · rcases g.2.1.1 j (by omega) with h0 | h0
          · simp only [h0, if_true]; rfl
          · simp only [h0, n10_, if_false]; rfl
        · split <;> rfl
    · rw [e3]
      simp only [b1_some, n10_, if_false, if_true]
      by_cases h2 : c < 0
      · rw [if_pos h2]
        exact ⟨_, _, _, _, _, _, _, _, _, _, _, _, _, _, _, rfl, rfl, g, b, fun i _ _ => rfl⟩
      · have h3 := h1.resolve_left h2
        rw [if_neg h2, if_neg (by rw [Int32.not_le]; exact h3)]
        exact ⟨_, _, _, _, _, _, _, _, _, _, _, _, _, _, _, rfl, rfl, g, b, fun i _ _ => rfl⟩
  · rw [e1, e2]
    exact ⟨_, _, _, _, _, _, _, _, _, _, _, _, _, _, _, rfl, rfl, g, b, fun i _ _ => rfl⟩
