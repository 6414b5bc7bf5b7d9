/-! layer 2: whether all that is told is there -/
def tN (f : Nat → Int32) (i : Nat) : Nat := (f i).toNatClampNeg
theorem w2_ok {J B : Nat} {de : Nat → Int32} (hB : B ≤ 10) (hJ : J ≤ 6) (hd : ∀ e, e < 2 * B → de e = nI (tN de e) ∧ tN de e ≤ 5) (k : Int32 → Option Int32) : ∀ (f e : Nat), e ≤ 2 * B → 2 * B - e < f → (∀ x, e ≤ x → x < 2 * B → tN de x < J) → FFr_isWhole_L2 de (nI J) (nI B) k f (nI e) = k (nI (2 * B)) := by
  intro f
  induction f with
  | zero => intro e h1 h2; omega
  | succ f ih =>
    intro e h1 h2 h3
    rw [FFr_isWhole_L2.eq_2, m2_]
    by_cases he : e = 2 * B
    · subst he
      rw [if_pos (nI_le (Nat.le_refl _) (by omega))]
    · obtain ⟨q1, q2⟩ := hd e (by omega)
      have q3 := h3 e (Nat.le_refl _) (by omega)
      have q4 : FFr_isJoint (nI J) (nI (tN de e)) = some 1 := by
        unfold FFr_isJoint
        rw [if_neg (nI_pos (by omega)), if_neg (nI_ge q3 (by omega))]
      rw [if_neg (nI_ge (by omega) (by omega)), nI_gd (by omega) (by omega), nI_clamp (by omega), q1, q4, b1_so2, if_neg (by decide), lt_eq2, nI_1]
      exact ih (e + 1) (by omega) (by omega) (fun x g1 g2 => h3 x (by omega) g2)
theorem w2_no {J B y : Nat} {de : Nat → Int32} (hB : B ≤ 10) (hJ : J ≤ 6) (hd : ∀ e, e < 2 * B → de e = nI (tN de e) ∧ tN de e ≤ 5) (hy : y < 2 * B) (hyJ : J ≤ tN de y) (k : Int32 → Option Int32) : ∀ (f e : Nat), e ≤ y → 2 * B - e < f → FFr_isWhole_L2 de (nI J) (nI B) k f (nI e) = some 0 := by
  intro f
  induction f with
  | zero => intro e h1 h2; omega
  | succ f ih =>
    intro e h1 h2
    obtain ⟨q1, q2⟩ := hd e (by omega)
    rw [FFr_isWhole_L2.eq_2, m2_, if_neg (nI_ge (by omega) (by omega)), nI_gd (by omega) (by omega), nI_clamp (by omega), q1]
    by_cases hx : tN de e < J
    · have q4 : FFr_isJoint (nI J) (nI (tN de e)) = some 1 := by
        unfold FFr_isJoint
        rw [if_neg (nI_pos (by omega)), if_neg (nI_ge hx (by omega))]
      rw [q4, b1_so2, if_neg (by decide), lt_eq2, nI_1]
      refine ih (e + 1) ?_ (by omega)
      by_cases ey : e = y
      · subst ey; omega
      · omega
    · have q4 : FFr_isJoint (nI J) (nI (tN de e)) = some 0 := by
        unfold FFr_isJoint
        rw [if_neg (nI_pos (by omega)), if_pos (nI_le (by omega) (by omega))]
      rw [q4, b1_so2, if_pos rfl]
/-- LOAD i is on a BEAM, at a place of it -/
def ldO (B : Nat) (dl db dp : Nat → Int32) (i : Nat) : Prop := tN db i < B ∧ tN dp i < tN dl (tN db i)
theorem w35_s {B L : Nat} {dl db dp : Nat → Int32} (hB : B ≤ 10) (hL : L ≤ 8) (hl : ∀ b, b < B → dl b = nI (tN dl b) ∧ tN dl b ≤ 12) (hb : ∀ i, i < L → db i = nI (tN db i) ∧ tN db i ≤ 9) (hp : ∀ i, i < L → dp i = nI (tN dp i) ∧ tN dp i ≤ 11) : ∀ (f i : Nat), i ≤ L → L - i < f → ((∀ x, i ≤ x → x < L → ldO B dl db dp x) → FFr_isWhole_L35 dl db dp (nI B) (nI L) f (nI i) = some 1) ∧ ((∃ x, i ≤ x ∧ x < L ∧ ¬ ldO B dl db dp x) → FFr_isWhole_L35 dl db dp (nI B) (nI L) f (nI i) = some 0) := by
  intro f
  induction f with
  | zero => intro i h1 h2; omega
  | succ f ih =>
    intro i h1 h2
    rw [FFr_isWhole_L35.eq_2]
    by_cases hi : i = L
    · subst hi
      rw [if_pos (nI_le (Nat.le_refl _) (by omega))]
      exact ⟨fun _ => rfl, fun ⟨x, g1, g2, _⟩ => by omega⟩
    · obtain ⟨q1, q2⟩ := hb i (by omega)
      obtain ⟨q3, q4⟩ := hp i (by omega)
      obtain ⟨i1, i2⟩ := ih (i + 1) (by omega) (by omega)
      rw [if_neg (nI_ge (by omega) (by omega)), nI_gd (by omega) (by omega), nI_clamp (by omega), q1]
      by_cases hbB : tN db i < B
      · obtain ⟨q5, q6⟩ := hl (tN db i) hbB
        have e1 : FFr_isBeam (nI B) (nI (tN db i)) = some 1 := by
          unfold FFr_isBeam
          rw [if_neg (nI_pos (by omega)), if_neg (nI_ge hbB (by omega))]
        rw [e1, b1_so2, if_neg (by decide), nI_gd (by omega) (by omega), nI_gd (by omega) (by omega), nI_gd (by omega) (by omega), nI_clamp (by omega), q3, q5]
        by_cases hlt : tN dp i < tN dl (tN db i)
        · rw [if_pos (nI_lt hlt (by omega)), lt_eq2, nI_1]
          refine ⟨fun g => i1 (fun x g1 g2 => g x (by omega) g2), fun ⟨x, g1, g2, g3⟩ => i2 ⟨x, ?_, g2, g3⟩⟩
          by_cases ex : x = i
          · subst ex; exact absurd ⟨hbB, hlt⟩ g3
          · omega
        · rw [if_neg (nI_nlt (by omega) (by omega))]
          exact ⟨fun g => absurd (g i (Nat.le_refl _) (by omega)).2 hlt, fun _ => rfl⟩
      · have e1 : FFr_isBeam (nI B) (nI (tN db i)) = some 0 := by
          unfold FFr_isBeam
          rw [if_neg (nI_pos (by omega)), if_pos (nI_le (by omega) (by omega))]
        rw [e1, b1_so2, if_pos rfl]
        exact ⟨fun g => absurd (g i (Nat.le_refl _) (by omega)).1 hbB, fun _ => rfl⟩
theorem w4_s {J B L : Nat} {dh dc de dl ds db dz dp m : Nat → Int32} (h : RF 237 J B L dh dc de dl ds db dz dp m) (hd : ∀ e, e < 2 * B → de e = nI (tN de e) ∧ tN de e ≤ 5) (k : Int32 → Int32 → Option Int32) : ∀ (f b : Nat) (fl : Int32), b ≤ B → B - b < f → (fl = 0 ∨ fl = 1) → ((fl = 1 ∧ ∀ x, 2 * b ≤ x → x < 2 * B → tN de x < J) → FMo_isWhole_L4 m k f fl (nI b) = k 1 (nI B)) ∧ ((fl = 0 ∨ ∃ x, 2 * b ≤ x ∧ x < 2 * B ∧ J ≤ tN de x) → FMo_isWhole_L4 m k f fl (nI b) = k 0 (nI B)) := by
  have hJ := h.1
  have hB := h.2.1
  have m313 : m 313 = nI J := h.2.2.2.1
  have m314 : m 314 = nI B := h.2.2.2.2.1
  intro f
  induction f with
  | zero => intro b fl h1 h2; omega
  | succ f ih =>
    intro b fl h1 h2 h3
    rw [FMo_isWhole_L4.eq_2, g314, c314, m314]
    by_cases hb : b = B
    · subst hb
      rw [if_pos (nI_le (Nat.le_refl _) (by omega))]
      refine ⟨fun g => by rw [g.1], fun g => ?_⟩
      rcases g with g | ⟨x, g1, g2, _⟩
      · rw [g]
      · omega
    · have a8 := h.2.2.2.2.2.2.2.1 b (by omega)
      have e1 : m (249 + b) = nI (tN de (2 * b)) := by rw [← (hd (2 * b) (by omega)).1]; exact a8.1
      have e2 : m (259 + b) = nI (tN de (2 * b + 1)) := by rw [← (hd (2 * b + 1) (by omega)).1]; exact a8.2.1
      have q1 := (hd (2 * b) (by omega)).2
      have q2 := (hd (2 * b + 1) (by omega)).2
      rw [if_neg (nI_ge (by omega) (by omega)), lt_eq2, nI_1, show (249 : Int32) + nI b = nI (249 + b) from nI_add 249 b, show (259 : Int32) + nI b = nI (259 + b) from nI_add 259 b, nI_gd (by omega) (by omega), g313, c313, m313, nI_clamp (by omega), e1, lt_eq2, nI_gd (by omega) (by omega), g313, nI_clamp (by omega), e2]
      obtain ⟨i1, i2⟩ := ih (b + 1) 0 (by omega) (by omega) (Or.inl rfl)
      obtain ⟨i3, i4⟩ := ih (b + 1) 1 (by omega) (by omega) (Or.inr rfl)
      rcases h3 with rfl | rfl
      · rw [if_pos rfl]
        exact ⟨fun g => absurd g.1 (by decide), fun _ => i2 (Or.inl rfl)⟩
      · rw [if_neg (c := (1 : Int32) = 0) (by decide)]
        by_cases c1 : tN de (2 * b) < J
        · rw [if_neg (nI_ge c1 (by omega))]
          by_cases c2 : tN de (2 * b + 1) < J
          · rw [if_neg (nI_ge c2 (by omega))]
            refine ⟨fun g => i3 ⟨rfl, fun x g1 g2 => g.2 x (by omega) g2⟩, fun g => i4 (Or.inr ?_)⟩
            rcases g with g | ⟨x, g1, g2, g3⟩
            · exact absurd g (by decide)
            · refine ⟨x, ?_, g2, g3⟩
              by_cases ex : x = 2 * b
              · subst ex; omega
              · by_cases ex2 : x = 2 * b + 1
                · subst ex2; omega
                · omega
          · rw [if_pos (nI_le (by omega) (by omega))]
            exact ⟨fun g => absurd (g.2 (2 * b + 1) (by omega) (by omega)) c2, fun _ => i2 (Or.inl rfl)⟩
        · rw [if_pos (nI_le (by omega) (by omega))]
          exact ⟨fun g => absurd (g.2 (2 * b) (by omega) (by omega)) c1, fun _ => i2 (Or.inl rfl)⟩
theorem w76_s {J B L : Nat} {dh dc de dl ds db dz dp m : Nat → Int32} (h : RF 237 J B L dh dc de dl ds db dz dp m) (hl : ∀ b, b < B → dl b = nI (tN dl b) ∧ tN dl b ≤ 12) (hb : ∀ i, i < L → db i = nI (tN db i) ∧ tN db i ≤ 9) (hp : ∀ i, i < L → dp i = nI (tN dp i) ∧ tN dp i ≤ 11) : ∀ (f i : Nat) (fl : Int32), i ≤ L → L - i < f → (fl = 0 ∨ fl = 1) → ((fl = 1 ∧ ∀ x, i ≤ x → x < L → ldO B dl db dp x) → FMo_isWhole_L76 m f fl (nI i) = some 1) ∧ ((fl = 0 ∨ ∃ x, i ≤ x ∧ x < L ∧ ¬ ldO B dl db dp x) → FMo_isWhole_L76 m f fl (nI i) = some 0) := by
  have hB := h.2.1
  have hL := h.2.2.1
  have m314 : m 314 = nI B := h.2.2.2.2.1
  have m315 : m 315 = nI L := h.2.2.2.2.2.1
  intro f
  induction f with
  | zero => intro i fl h1 h2; omega
  | succ f ih =>
    intro i fl h1 h2 h3
    rw [FMo_isWhole_L76.eq_2, g315, c315, m315]
    by_cases hi : i = L
    · subst hi
      rw [if_pos (nI_le (Nat.le_refl _) (by omega))]
      refine ⟨fun g => by rw [g.1], fun g => ?_⟩
      rcases g with g | ⟨x, g1, g2, _⟩
      · rw [g]
      · omega
    · have a9 := h.2.2.2.2.2.2.2.2 i (by omega)
      obtain ⟨q1, q2⟩ := hb i (by omega)
      obtain ⟨q3, q4⟩ := hp i (by omega)
      have e1 : m (289 + i) = nI (tN db i) := by rw [← q1]; exact a9.1
      have e2 : m (305 + i) = nI (tN dp i) := by rw [← q3]; exact a9.2.2
      rw [if_neg (nI_ge (by omega) (by omega)), show (289 : Int32) + nI i = nI (289 + i) from nI_add 289 i, nI_gd (by omega) (by omega), nI_clamp (by omega), e1, lt_eq2, lt_eq2, nI_1, g314, c314, m314, lt_eq2, show (305 : Int32) + nI i = nI (305 + i) from nI_add 305 i, nI_gd (by omega) (by omega), show (269 : Int32) + nI (tN db i) = nI (269 + tN db i) from nI_add 269 _, nI_gd (by omega) (by omega), nI_clamp (by omega), nI_clamp (by omega), e2]
      obtain ⟨i1, i2⟩ := ih (i + 1) 0 (by omega) (by omega) (Or.inl rfl)
      obtain ⟨i3, i4⟩ := ih (i + 1) 1 (by omega) (by omega) (Or.inr rfl)
      rcases h3 with rfl | rfl
      · rw [if_pos rfl]
        exact ⟨fun g => absurd g.1 (by decide), fun _ => i2 (Or.inl rfl)⟩
      · rw [if_neg (c := (1 : Int32) = 0) (by decide)]
        by_cases c1 : tN db i < B
        · obtain ⟨q5, q6⟩ := hl (tN db i) c1
          have e3 : m (269 + tN db i) = nI (tN dl (tN db i)) := by rw [← q5]; exact (h.2.2.2.2.2.2.2.1 (tN db i) c1).2.2.1
          rw [if_neg (nI_ge c1 (by omega)), e3]
          by_cases c2 : tN dp i < tN dl (tN db i)
          · rw [if_neg (nI_ge c2 (by omega))]
            refine ⟨fun g => i3 ⟨rfl, fun x g1 g2 => g.2 x (by omega) g2⟩, fun g => i4 (Or.inr ?_)⟩
            rcases g with g | ⟨x, g1, g2, g3⟩
            · exact absurd g (by decide)
            · refine ⟨x, ?_, g2, g3⟩
              by_cases ex : x = i
              · subst ex; exact absurd ⟨c1, c2⟩ g3
              · omega
          · rw [if_pos (nI_le (by omega) (by omega))]
            exact ⟨fun g => absurd (g.2 i (Nat.le_refl _) (by omega)).2 c2, fun _ => i2 (Or.inl rfl)⟩
        · rw [if_pos (nI_le (by omega) (by omega))]
          exact ⟨fun g => absurd (g.2 i (Nat.le_refl _) (by omega)).1 c1, fun _ => i2 (Or.inl rfl)⟩
theorem whole_s {J B L : Nat} {dh dc de dl ds db dz dp m : Nat → Int32} (d : DR J B L dh dc de dl ds db dz dp m) : (FFr_isWhole de dl db dp (nI J) (nI B) (nI L) = some 1 ∧ FMo_isWhole m = some 1 ∧ VF J B L dh dc de dl ds db dz dp) ∨ (FFr_isWhole de dl db dp (nI J) (nI B) (nI L) = some 0 ∧ FMo_isWhole m = some 0) := by
  obtain ⟨hr, b1, b2, b3, b4, b5, b6, b7, b8⟩ := d
  have hJ := hr.1
  have hB := hr.2.1
  have hL := hr.2.2.1
  have hd : ∀ e, e < 2 * B → de e = nI (tN de e) ∧ tN de e ≤ 5 := fun e he => by
    obtain ⟨x, g1, g2⟩ := b3 e he
    unfold tN
    rw [g2, nI_clamp (by omega)]
    exact ⟨rfl, g1⟩
  have hl : ∀ b, b < B → dl b = nI (tN dl b) ∧ tN dl b ≤ 12 := fun b hb => by
    obtain ⟨x, g1, g2⟩ := b5 b hb
    unfold tN
    rw [g1, nI_clamp (by omega)]
    exact ⟨rfl, by omega⟩
  have hb : ∀ i, i < L → db i = nI (tN db i) ∧ tN db i ≤ 9 := fun i hi => by
    obtain ⟨b, z, a, g1, g2, g3, g4, g5, g6⟩ := b7 i hi
    unfold tN
    rw [g1, nI_clamp (by omega)]
    exact ⟨rfl, g2⟩
  have hp : ∀ i, i < L → dp i = nI (tN dp i) ∧ tN dp i ≤ 11 := fun i hi => by
    obtain ⟨b, z, a, g1, g2, g3, g4, g5, g6⟩ := b7 i hi
    unfold tN
    rw [g4, nI_clamp (by omega)]
    exact ⟨rfl, g5⟩
  unfold FFr_isWhole FMo_isWhole
  obtain ⟨l1, l2⟩ := w35_s hB hL hl hb hp 1000 0 (by omega) (by omega)
  rw [← l0_] at l1 l2
  by_cases hE : ∀ x, x < 2 * B → tN de x < J
  · have c1 := w2_ok hB hJ hd (fun _ => FFr_isWhole_L35 dl db dp (nI B) (nI L) 1000 (0 : Int32)) 1000 0 (by omega) (by omega) (fun x _ g2 => hE x g2)
    have r1 := (w4_s hr hd (fun v15 _ => FMo_isWhole_L76 m 1000 v15 (0 : Int32)) 1000 0 1 (by omega) (by omega) (Or.inr rfl)).1 ⟨rfl, fun x _ g2 => hE x g2⟩
    obtain ⟨r2, r3⟩ := w76_s hr hl hb hp 1000 0 1 (by omega) (by omega) (Or.inr rfl)
    rw [← l0_] at c1 r1 r2 r3
    rw [c1, r1]
    by_cases hW : ∀ x, x < L → ldO B dl db dp x
    · left
      refine ⟨l1 (fun x _ g2 => hW x g2), r2 ⟨rfl, fun x _ g2 => hW x g2⟩, b1, b2, fun e he => ?_, b4, b5, b6, fun i hi => ?_⟩
      · rw [(hd e he).1]; exact vp_in_nI (hE e he) (by omega)
      · obtain ⟨b, z, a, g1, g2, g3, g4, g5, g6⟩ := b7 i hi
        obtain ⟨h1, h2⟩ := hW i hi
        have eb : tN db i = b := by unfold tN; rw [g1, nI_clamp (by omega)]
        have ea : tN dp i = a := by unfold tN; rw [g4, nI_clamp (by omega)]
        rw [eb] at h1 h2
        rw [ea] at h2
        exact ⟨b, z, a, tN dl b, g1, h1, g3, g4, (hl b h1).1, ⟨h2, (hl b h1).2⟩, g6⟩
    · right
      have hx : ∃ x, 0 ≤ x ∧ x < L ∧ ¬ ldO B dl db dp x := by
        apply Classical.byContradiction
        intro hn
        exact hW (fun x hx => Classical.byContradiction (fun hh => hn ⟨x, by omega, hx, hh⟩))
      exact ⟨l2 hx, r3 (Or.inr hx)⟩
  · right
    have hx : ∃ x, 2 * 0 ≤ x ∧ x < 2 * B ∧ J ≤ tN de x := by
      apply Classical.byContradiction
      intro hn
      exact hE (fun x hx => Classical.byContradiction (fun hh => hn ⟨x, by omega, hx, by omega⟩))
    obtain ⟨y, -, y1, y2⟩ := id hx
    have c1 := w2_no hB hJ hd y1 y2 (fun _ => FFr_isWhole_L35 dl db dp (nI B) (nI L) 1000 (0 : Int32)) 1000 0 (by omega) (by omega)
    have r1 := (w4_s hr hd (fun v15 _ => FMo_isWhole_L76 m 1000 v15 (0 : Int32)) 1000 0 1 (by omega) (by omega) (Or.inr rfl)).2 (Or.inr hx)
    have r2 := (w76_s hr hl hb hp 1000 0 0 (by omega) (by omega) (Or.inl rfl)).2 (Or.inl rfl)
    rw [← l0_] at c1 r1 r2
    rw [c1, r1, r2]
    exact ⟨rfl, rfl⟩
