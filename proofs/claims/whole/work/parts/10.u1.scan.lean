/-! layer 2: the text, its TOKENS -/
/-- THE TAPE's bytes -/
def TT (n : Nat) (T : Nat → Nat) (pb mt : Nat → Int32) : Prop := n ≤ 320 ∧ ∀ i, i < n → pb i = nI (T i) ∧ mt i = nI (T i) ∧ T i < 128
theorem byteAt_e {n : Nat} {T : Nat → Nat} {pb mt : Nat → Int32} (h : TT n T pb mt) {i : Nat} (hi : i ≤ n) : FMo_byteAt mt (nI n) (nI i) = some (if i < n then nI (T i) else -4) := by
  have hn := h.1
  unfold FMo_byteAt
  by_cases h1 : i < n
  · rw [if_pos h1, if_neg (nI_ge h1 (by omega)), nI_gd (by omega) (by omega), nI_clamp (by omega), (h.2 i h1).2.1]
  · rw [if_neg h1, if_pos (nI_le (by omega) (by omega))]
theorem in_b {c lo hi : Nat} (l u : Int64) (hl : l.toInt = lo) (hu : u.toInt = hi) (hc : c < 1000) : FMo_in (nI c).toInt64 l u = some (if lo ≤ c ∧ c ≤ hi then 1 else 0) := by
  rw [Mo_in64, Int32.toInt_toInt64, nI_toInt (by omega), hl, hu]
  by_cases h : lo ≤ c ∧ c ≤ hi
  · rw [if_pos h, if_pos (by omega)]
  · rw [if_neg h, if_neg (by omega)]
theorem in_m4 {lo hi : Nat} (l u : Int64) (hl : l.toInt = lo) (hu : u.toInt = hi) : FMo_in (-4 : Int32).toInt64 l u = some 0 := by
  rw [Mo_in64, Int32.toInt_toInt64, show (-4 : Int32).toInt = -4 from by decide, hl, hu, if_neg (by omega)]
theorem n4_ (c : Nat) (hc : c < 2147483648) : ¬ nI c = -4 := by
  intro hh
  have := congrArg Int32.toInt hh
  rw [nI_toInt (by omega), show ((-4 : Int32)).toInt = -4 from by decide] at this
  omega
theorem skip_s {n : Nat} {T : Nat → Nat} {pb mt : Nat → Int32} (h : TT n T pb mt) : ∀ (f s : Nat), s ≤ n → n - s < f → ∃ q, s ≤ q ∧ q ≤ n ∧ (q < n → T q ≠ 32) ∧ (∀ k, FTe_scan_L8 pb (nI n) k f (nI s) = k (nI q)) ∧ (∀ k, FMo_readsOn_L8 mt (nI n) k f (nI s) = k (nI q)) := by
  have hn := h.1
  intro f
  induction f with
  | zero => intro s h1 h2; omega
  | succ f ih =>
    intro s h1 h2
    by_cases hs : s < n
    · obtain ⟨b1, b2, b3⟩ := h.2 s hs
      by_cases h32 : T s = 32
      · obtain ⟨q, q1, q2, q3, q4, q5⟩ := ih (s + 1) (by omega) (by omega)
        refine ⟨q, by omega, q2, q3, fun k => ?_, fun k => ?_⟩
        · rw [FTe_scan_L8.eq_2, lt_eq2, if_neg (nI_ge hs (by omega)), nI_gd (by omega) (by omega), nI_clamp (by omega), b1, h32, if_pos (show nI 32 = 32 from rfl), lt_eq2, nI_1]
          exact q4 k
        · rw [FMo_readsOn_L8.eq_2, byteAt_e h (by omega), if_pos hs, b1_so2, h32, if_pos (show nI 32 = 32 from rfl), lt_eq2, nI_1]
          exact q5 k
      · refine ⟨s, Nat.le_refl _, by omega, fun _ => h32, fun k => ?_, fun k => ?_⟩
        · rw [FTe_scan_L8.eq_2, lt_eq2, if_neg (nI_ge hs (by omega)), nI_gd (by omega) (by omega), nI_clamp (by omega), b1, if_neg (show ¬ nI (T s) = 32 from fun q => h32 ((nI_eq (b := 32) (by omega) (by omega)).mp q))]
        · rw [FMo_readsOn_L8.eq_2, byteAt_e h (by omega), if_pos hs, b1_so2, if_neg (show ¬ nI (T s) = 32 from fun q => h32 ((nI_eq (b := 32) (by omega) (by omega)).mp q))]
    · refine ⟨s, Nat.le_refl _, by omega, fun q => absurd q hs, fun k => ?_, fun k => ?_⟩
      · rw [FTe_scan_L8.eq_2, lt_eq2, if_pos (nI_le (by omega) (by omega))]
      · rw [FMo_readsOn_L8.eq_2, byteAt_e h (by omega), if_neg hs, b1_so2, if_neg (by decide)]
theorem run_s {n lo hi : Nat} {T : Nat → Nat} {pb mt : Nat → Int32} (h : TT n T pb mt) (hlo : lo < 128) (hhi : hi < 128) : ∀ (f s : Nat), s ≤ n → n - s < f → ∃ q, s ≤ q ∧ q ≤ n ∧ (s < n → lo ≤ T s → T s ≤ hi → s < q) ∧ (∀ i, s ≤ i → i < q → lo ≤ T i ∧ T i ≤ hi) ∧ (q < n → ¬ (lo ≤ T q ∧ T q ≤ hi)) ∧ FTe_behindRun_L5 pb (nI n) (nI lo) (nI hi) f (nI s) = some (nI q) := by
  have hn := h.1
  intro f
  induction f with
  | zero => intro s h1 h2; omega
  | succ f ih =>
    intro s h1 h2
    by_cases hs : s < n
    · obtain ⟨b1, b2, b3⟩ := h.2 s hs
      by_cases hr : lo ≤ T s ∧ T s ≤ hi
      · obtain ⟨q, q1, q2, q3, q4, q5, q6⟩ := ih (s + 1) (by omega) (by omega)
        refine ⟨q, by omega, q2, fun _ _ _ => by omega, fun i h1 h2 => ?_, q5, ?_⟩
        · by_cases e : i = s
          · subst e; exact hr
          · exact q4 i (by omega) h2
        · rw [FTe_behindRun_L5.eq_2, if_neg (nI_ge hs (by omega)), nI_gd (by omega) (by omega), nI_clamp (by omega), b1, if_neg (nI_nlt (by omega) (by omega)), nI_gd (by omega) (by omega), if_neg (nI_nlt (by omega) (by omega)), lt_eq2, nI_1]
          exact q6
      · refine ⟨s, Nat.le_refl _, by omega, fun _ h1 h2 => absurd ⟨h1, h2⟩ hr, fun i h1 h2 => by omega, fun _ => hr, ?_⟩
        rw [FTe_behindRun_L5.eq_2, if_neg (nI_ge hs (by omega)), nI_gd (by omega) (by omega), nI_clamp (by omega), b1]
        by_cases h3 : T s < lo
        · rw [if_pos (nI_lt h3 (by omega))]
        · rw [if_neg (nI_nlt (by omega) (by omega)), nI_gd (by omega) (by omega), if_pos (nI_lt (by omega) (by omega))]
    · refine ⟨s, Nat.le_refl _, by omega, fun q => absurd q hs, fun i h1 h2 => by omega, fun q => absurd q hs, ?_⟩
      rw [FTe_behindRun_L5.eq_2, if_pos (nI_le (by omega) (by omega))]
theorem name84 {n q : Nat} {T : Nat → Nat} {pb mt : Nat → Int32} (h : TT n T pb mt) (hq : q ≤ n) (h2 : q < n → ¬ (97 ≤ T q ∧ T q ≤ 122)) (b ba hh v : Int32) : ∀ (f s : Nat), s ≤ q → (∀ i, s ≤ i → i < q → 97 ≤ T i ∧ T i ≤ 122) → q - s < f → FMo_readsOn_L84 mt (nI n) b ba hh v f (nI s) = some (b, ba, nI q, hh, 1, v) := by
  have hn := h.1
  intro f
  induction f with
  | zero => intro s h1 h3 h4; omega
  | succ f ih =>
    intro s h1 h3 h4
    rw [FMo_readsOn_L84.eq_2, byteAt_e h (by omega), b1_so2]
    by_cases hs : s = q
    · subst hs
      by_cases hl : s < n
      · obtain ⟨b1, b2, b3⟩ := h.2 s hl
        rw [if_pos hl, in_b (lo := 97) (hi := 122) 97 122 (by decide) (by decide) (by omega), if_neg (h2 hl), b1_so2, if_pos rfl]
      · rw [if_neg hl, in_m4 (lo := 97) (hi := 122) 97 122 (by decide) (by decide), b1_so2, if_pos rfl]
    · have hl : s < n := by omega
      obtain ⟨b1, b2, b3⟩ := h.2 s hl
      rw [if_pos hl, in_b (lo := 97) (hi := 122) 97 122 (by decide) (by decide) (by omega), if_pos (h3 s (Nat.le_refl _) (by omega)), b1_so2, if_neg (by decide), lt_eq2, nI_1]
      exact ih (s + 1) (by omega) (fun i g1 g2 => h3 i (by omega) g2) (by omega)
/-- the value of k figures from q on -/
def dv (T : Nat → Nat) (q : Nat) : Nat → Nat
  | 0 => 0
  | k + 1 => 10 * dv T q k + (T (q + k) - 48)
theorem dv_b {T : Nat → Nat} {q : Nat} : ∀ k : Nat, (∀ i, q ≤ i → i < q + k → 48 ≤ T i ∧ T i ≤ 57) → dv T q k < 10 ^ k
  | 0, _ => Nat.lt_succ_self 0
  | k + 1, h => by
    show 10 * dv T q k + (T (q + k) - 48) < 10 ^ (k + 1)
    have h1 := dv_b k (fun i g1 g2 => h i g1 (by omega))
    have h2 := h (q + k) (by omega) (by omega)
    rw [Nat.pow_succ]
    omega
theorem num_step {T : Nat → Nat} {q k x : Nat} (hx : 48 ≤ T x) : (nI 10 * nI k + nI (T x)) - nI 48 = nI (10 * k + (T x - 48)) := by
  rw [pk_mul, nI_add, pk_sub (by omega)]
  congr 1
  omega
theorem num140 {n q q' : Nat} {T : Nat → Nat} {pb mt : Nat → Int32} (h : TT n T pb mt) (hq : q ≤ q') (hq' : q' ≤ n) (h2 : q' < n → ¬ (48 ≤ T q' ∧ T q' ≤ 57)) (h3 : ∀ i, q ≤ i → i < q' → 48 ≤ T i ∧ T i ≤ 57) (k : Int32 → Int32 → Option (Int32 × Int32 × Int32 × Int32 × Int32 × Int32)) : ∀ (f s : Nat), q ≤ s → s ≤ q' → q' - s < f → FMo_readsOn_L140 mt (nI n) (nI q) k f (nI s) (nI (dv T q (if s - q < 4 then s - q else 4))) = k (nI q') (nI (dv T q (if q' - q < 4 then q' - q else 4))) := by
  have hn := h.1
  intro f
  induction f with
  | zero => intro s h1 h4 h5; omega
  | succ f ih =>
    intro s h1 h4 h5
    rw [FMo_readsOn_L140.eq_2, byteAt_e h (by omega), b1_so2]
    by_cases hs : s = q'
    · subst hs
      by_cases hl : s < n
      · obtain ⟨b1, b2, b3⟩ := h.2 s hl
        rw [if_pos hl, in_b (lo := 48) (hi := 57) 48 57 (by decide) (by decide) (by omega), if_neg (h2 hl), b1_so2, if_pos rfl]
      · rw [if_neg hl, in_m4 (lo := 48) (hi := 57) 48 57 (by decide) (by decide), b1_so2, if_pos rfl]
    · have hl : s < n := by omega
      obtain ⟨b1, b2, b3⟩ := h.2 s hl
      have hd := h3 s h1 (by omega)
      rw [if_pos hl, in_b (lo := 48) (hi := 57) 48 57 (by decide) (by decide) (by omega), if_pos hd, b1_so2, if_neg (by decide), pk_sub h1]
      have i1 := ih (s + 1) (by omega) (by omega) (by omega)
      by_cases h6 : s - q < 4
      · rw [if_neg (show ¬ (4 : Int32) ≤ nI (s - q) from nI_ge (b := 4) h6 (by omega)), b1_so2, lt_eq2, lt_eq2, nI_1, if_pos h6]
        rw [show (10 : Int32) = nI 10 from rfl, show (48 : Int32) = nI 48 from rfl, num_step (q := q) hd.1]
        have e : 10 * dv T q (s - q) + (T s - 48) = dv T q (if s + 1 - q < 4 then s + 1 - q else 4) := by
          have e1 : (if s + 1 - q < 4 then s + 1 - q else 4) = s - q + 1 := by
            split <;> omega
          rw [e1]
          show _ = 10 * dv T q (s - q) + (T (q + (s - q)) - 48)
          rw [show q + (s - q) = s by omega]
        rw [e]
        exact i1
      · rw [if_pos (show (4 : Int32) ≤ nI (s - q) from nI_le (a := 4) (by omega) (by omega)), lt_eq2, nI_1, if_neg h6]
        rw [if_neg (c := s + 1 - q < 4) (by omega)] at i1
        exact i1
theorem reck10 {n q q' : Nat} {T : Nat → Nat} {pb mt : Nat → Int32} (h : TT n T pb mt) (hq' : q' ≤ n) (h3 : ∀ i, q ≤ i → i < q' → 48 ≤ T i ∧ T i ≤ 57) : ∀ (f s : Nat), q ≤ s → s ≤ q' → q' - s < f → FTe_reckon_L10 (nI q') pb f (nI s) (nI (dv T q (s - q))) = some (1, nI (dv T q (q' - q))) := by
  have hn := h.1
  intro f
  induction f with
  | zero => intro s h1 h4 h5; omega
  | succ f ih =>
    intro s h1 h4 h5
    rw [FTe_reckon_L10.eq_2]
    by_cases hs : s = q'
    · subst hs
      rw [if_pos (nI_le (Nat.le_refl _) (by omega))]
    · have hl : s < n := by omega
      obtain ⟨b1, b2, b3⟩ := h.2 s hl
      have hd := h3 s h1 (by omega)
      rw [if_neg (nI_ge (by omega) (by omega)), nI_gd (by omega) (by omega), nI_clamp (by omega), b1, lt_eq2, lt_eq2, nI_1, show (10 : Int32) = nI 10 from rfl, show (48 : Int32) = nI 48 from rfl, num_step (q := q) hd.1]
      have i1 := ih (s + 1) (by omega) (by omega) (by omega)
      have e : 10 * dv T q (s - q) + (T s - 48) = dv T q (s + 1 - q) := by
        rw [show s + 1 - q = s - q + 1 by omega]
        show _ = 10 * dv T q (s - q) + (T (q + (s - q)) - 48)
        rw [show q + (s - q) = s by omega]
      rw [e]
      exact i1
