theorem sI_snoc (f : Nat → Int32) : ∀ (n i : Nat), sI f i (n + 1) = sI f i n + f (i + n)
  | 0, i => by
    show f i + 0 = 0 + f (i + 0)
    rw [Int32.add_zero, Int32.zero_add, Nat.add_zero]
  | n + 1, i => by
    show f i + sI f (i + 1) (n + 1) = (f i + sI f (i + 1) n) + f (i + (n + 1))
    rw [sI_snoc f n (i + 1), Int32.add_assoc, show i + 1 + n = i + (n + 1) by omega]
/-- what lies at a JOINT, summed over its ENDS -/
def atJ (fe : Nat → Int32) (j : Nat) (x : Nat → Int32) (e : Nat) : Int32 := if fe e = nI j then x e else 0
theorem Mo_endsAt {J B L : Nat} {fh fc fe fl fs fb fz fp m : Nat → Int32} (h : RF 0 J B L fh fc fe fl fs fb fz fp m) (j : Nat) : FMo_endsAt m (nI j) = some (sI (atJ fe j (fun _ => 1)) 0 (2 * B)) := by
  have hB := h.2.1
  have key : ∀ (n e : Nat) (acc : Int32), e ≤ 2 * B → 2 * B - e < n → FMo_endsAt_L4 m (nI j) n acc (nI e) = some (acc + sI (atJ fe j (fun _ => 1)) e (2 * B - e)) := by
    intro n
    induction n with
    | zero => intro e acc h1 h2; omega
    | succ n ih =>
      intro e acc h1 h2
      rw [FMo_endsAt_L4.eq_2, Mo_beams h]
      simp only [b1_some, lt_eq]
      rw [l2_, pk_mul]
      by_cases he : e = 2 * B
      · subst he
        rw [if_pos (nI_le (Nat.le_refl _) (by omega)), Nat.sub_self]
        show some acc = some (acc + 0)
        rw [Int32.add_zero]
      · have hlt : e < 2 * B := by omega
        rw [if_neg (nI_ge hlt (by omega)), Mo_jointOf h hlt, show 2 * B - e = (2 * B - (e + 1)) + 1 by omega]
        show (if fe e = nI j then FMo_endsAt_L4 m (nI j) n (acc + 1) (nI e + 1) else FMo_endsAt_L4 m (nI j) n (acc + 0) (nI e + 1)) = some (acc + (atJ fe j (fun _ => 1) e + sI (atJ fe j (fun _ => 1)) (e + 1) (2 * B - (e + 1))))
        rw [nI_1, ih (e + 1) _ (by omega) (by omega), ih (e + 1) _ (by omega) (by omega), ← Int32.add_assoc]
        unfold atJ
        by_cases hj : fe e = nI j
        · rw [if_pos hj, if_pos hj]
        · rw [if_neg hj, if_neg hj]
  show FMo_endsAt_L4 m (nI j) 1000 0 (nI 0) = _
  rw [key 1000 0 0 (by omega) (by omega), Int32.zero_add, Nat.sub_zero]
theorem Mo_stiffAt {J B L : Nat} {fh fc fe fl fs fb fz fp m : Nat → Int32} (h : RF 0 J B L fh fc fe fl fs fb fz fp m) (v : VF J B L fh fc fe fl fs fb fz fp) (j : Nat) : FMo_stiffAt m (nI j) = some (sI (atJ fe j (fun e => kB fl fs (e / 2))) 0 (2 * B)) := by
  have hB := h.2.1
  have key : ∀ (n e : Nat) (acc : Int32), e ≤ 2 * B → 2 * B - e < n → FMo_stiffAt_L4 m (nI j) n acc (nI e) = some (acc + sI (atJ fe j (fun e => kB fl fs (e / 2))) e (2 * B - e)) := by
    intro n
    induction n with
    | zero => intro e acc h1 h2; omega
    | succ n ih =>
      intro e acc h1 h2
      rw [FMo_stiffAt_L4.eq_2, Mo_beams h]
      simp only [b1_some, lt_eq]
      rw [l2_, pk_mul]
      by_cases he : e = 2 * B
      · subst he
        rw [if_pos (nI_le (Nat.le_refl _) (by omega)), Nat.sub_self]
        show some acc = some (acc + 0)
        rw [Int32.add_zero]
      · have hlt : e < 2 * B := by omega
        rw [if_neg (nI_ge hlt (by omega)), Mo_jointOf h hlt, Mo_stiffOf h v hlt, show 2 * B - e = (2 * B - (e + 1)) + 1 by omega]
        show (if fe e = nI j then FMo_stiffAt_L4 m (nI j) n (acc + kB fl fs (e / 2)) (nI e + 1) else FMo_stiffAt_L4 m (nI j) n (acc + 0) (nI e + 1)) = some (acc + (atJ fe j (fun e => kB fl fs (e / 2)) e + sI (atJ fe j (fun e => kB fl fs (e / 2))) (e + 1) (2 * B - (e + 1))))
        rw [nI_1, ih (e + 1) _ (by omega) (by omega), ih (e + 1) _ (by omega) (by omega), ← Int32.add_assoc]
        unfold atJ
        by_cases hj : fe e = nI j
        · rw [if_pos hj, if_pos hj]
        · rw [if_neg hj, if_neg hj]
  show FMo_stiffAt_L4 m (nI j) 1000 0 (nI 0) = _
  rw [key 1000 0 0 (by omega) (by omega), Int32.zero_add, Nat.sub_zero]
theorem l6_ : (6 : Int32) = nI 6 := rfl
theorem Mo_outOf {J B L : Nat} {fh fc fe fl fs fb fz fp m mo : Nat → Int32} (h : RF 0 J B L fh fc fe fl fs fb fz fp m) {j : Nat} (hjJ : j < J) : FMo_outOf m mo (nI j) = some (fc j + sI (atJ fe j mo) 0 (2 * B)) := by
  have hB := h.2.1
  have hJ := h.1
  have key : ∀ (n e : Nat) (acc : Int32), e ≤ 2 * B → 2 * B - e < n → FMo_outOf_L12 m mo (nI j) n acc (nI e) = some (acc + sI (atJ fe j mo) e (2 * B - e)) := by
    intro n
    induction n with
    | zero => intro e acc h1 h2; omega
    | succ n ih =>
      intro e acc h1 h2
      rw [FMo_outOf_L12.eq_2, Mo_beams h]
      simp only [b1_some, lt_eq]
      rw [l2_, pk_mul]
      by_cases he : e = 2 * B
      · subst he
        rw [if_pos (nI_le (Nat.le_refl _) (by omega)), Nat.sub_self]
        show some acc = some (acc + 0)
        rw [Int32.add_zero]
      · have hlt : e < 2 * B := by omega
        rw [if_neg (nI_ge hlt (by omega)), Mo_jointOf h hlt, ix_ (by omega) (by omega), nI_clamp (by omega), show 2 * B - e = (2 * B - (e + 1)) + 1 by omega]
        show (if fe e = nI j then FMo_outOf_L12 m mo (nI j) n (acc + mo e) (nI e + 1) else FMo_outOf_L12 m mo (nI j) n (acc + 0) (nI e + 1)) = some (acc + (atJ fe j mo e + sI (atJ fe j mo) (e + 1) (2 * B - (e + 1))))
        rw [nI_1, ih (e + 1) _ (by omega) (by omega), ih (e + 1) _ (by omega) (by omega), ← Int32.add_assoc]
        unfold atJ
        by_cases hj : fe e = nI j
        · rw [if_pos hj, if_pos hj]
        · rw [if_neg hj, if_neg hj]
  unfold FMo_outOf
  simp only [lt_eq]
  rw [l6_, nI_add, ix_ (by omega) (by omega), nI_clamp (by omega)]
  have q := (h.2.2.2.2.2.2.1 j hjJ).2
  rw [Nat.zero_add] at q
  rw [q]
  show FMo_outOf_L12 m mo (nI j) 1000 (fc j) (nI 0) = _
  rw [key 1000 0 (fc j) (by omega) (by omega), Nat.sub_zero]
