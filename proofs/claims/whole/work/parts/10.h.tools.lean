/-! layer 2: tools -/
theorem i32c (a : Int32) : a < 0 ∨ ∃ k : Nat, k < 2147483648 ∧ a = nI k := by
  by_cases h : a < 0
  · exact Or.inl h
  · obtain ⟨j, h1, h2⟩ := nI_of h
    exact Or.inr ⟨j, h1, h2⟩
theorem Mo_in64 (a b c : Int64) : FMo_in a b c = some (if b.toInt ≤ a.toInt ∧ a.toInt ≤ c.toInt then 1 else 0) := by
  unfold FMo_in
  by_cases h1 : a < b
  · rw [if_pos ((lg_cmp_lt a b).mpr h1)]
    rw [Int64.lt_iff_toInt_lt] at h1
    rw [if_neg (by omega)]
  · rw [if_neg (fun h => h1 ((lg_cmp_lt a b).mp h))]
    rw [Int64.lt_iff_toInt_lt] at h1
    by_cases h2 : c < a
    · rw [if_pos ((lg_cmp_gt a c).mpr h2)]
      rw [Int64.lt_iff_toInt_lt] at h2
      rw [if_neg (by omega)]
    · rw [if_neg (fun h => h2 ((lg_cmp_gt a c).mp h))]
      rw [Int64.lt_iff_toInt_lt] at h2
      rw [if_pos (by omega)]
theorem lt0_toInt {a : Int32} (h : a < 0) : a.toInt < 0 := by
  rw [Int32.lt_iff_toInt_lt, show (0 : Int32).toInt = 0 from by decide] at h
  exact h
theorem rg_cases (N : Nat) (hN : N < 1000) (a : Int32) : (∃ k, k < N ∧ a = nI k ∧ FMo_in a.toInt64 0 (nI N - 1).toInt64 = some 1 ∧ ¬ a < 0 ∧ ¬ nI N ≤ a) ∨ (FMo_in a.toInt64 0 (nI N - 1).toInt64 = some 0 ∧ (a < 0 ∨ nI N ≤ a)) := by
  have hs : (nI N - 1).toInt = (N : Int) - 1 := pk_sub_toInt (a := N) (b := 1) (by omega) (by omega)
  have h0 : (0 : Int64).toInt = 0 := by decide
  rw [Mo_in64, Int32.toInt_toInt64, Int32.toInt_toInt64, hs, h0]
  rcases pk_ix a (n := N) (by omega) with h | h | ⟨k, hk, rfl⟩
  · right
    refine ⟨?_, Or.inl h⟩
    have h := lt0_toInt h
    rw [if_neg (by omega)]
  · right
    refine ⟨?_, Or.inr h⟩
    rw [Int32.le_iff_toInt_le, nI_toInt (by omega)] at h
    rw [if_neg (by omega)]
  · left
    refine ⟨k, hk, rfl, ?_, nI_pos (by omega), nI_ge hk (by omega)⟩
    rw [nI_toInt (by omega), if_pos (by omega)]
/-- a range of literals -/
theorem rc_cases (lo hi : Nat) (h0 : lo ≤ hi) (h1 : hi < 1000000) (a : Int32) (l u : Int64) (el : l.toInt = lo) (eu : u.toInt = hi) : (∃ k, lo ≤ k ∧ k ≤ hi ∧ a = nI k ∧ FMo_in a.toInt64 l u = some 1) ∨ (FMo_in a.toInt64 l u = some 0 ∧ (a < nI lo ∨ nI hi < a)) := by
  rw [Mo_in64, Int32.toInt_toInt64, el, eu]
  by_cases h : (lo : Int) ≤ a.toInt ∧ a.toInt ≤ hi
  · left
    obtain ⟨h2, h3⟩ := h
    refine ⟨a.toInt.toNat, by omega, by omega, ?_, ?_⟩
    · apply Int32.toInt_inj.mp
      rw [nI_toInt (by omega)]
      omega
    · rw [if_pos ⟨h2, h3⟩]
  · right
    rw [if_neg h]
    refine ⟨rfl, ?_⟩
    rw [Int32.lt_iff_toInt_lt, Int32.lt_iff_toInt_lt, nI_toInt (by omega), nI_toInt (by omega)]
    omega
theorem isJoint_c {J : Nat} (hJ : J < 1000) {m : Nat → Int32} (hm : FMo_joints m = some (nI J)) (a : Int32) :
   (∃ k, k < J ∧ a = nI k ∧ FFr_isJoint (nI J) a = some 1 ∧ FMo_isJoint m a = some 1) ∨ (FFr_isJoint (nI J) a = some 0 ∧ FMo_isJoint m a = some 0) := by
  unfold FFr_isJoint FMo_isJoint
  rw [hm]
  simp only [b1_some]
  rcases rg_cases J hJ a with ⟨k, h1, h2, h3, h4, h5⟩ | ⟨h1, h2⟩
  · left
    rw [h3, if_neg h4, if_neg h5]
    exact ⟨k, h1, h2, rfl, rfl⟩
  · right
    rw [h1]
    refine ⟨?_, rfl⟩
    by_cases h0 : a < 0
    · rw [if_pos h0]
    · rw [if_neg h0, if_pos (h2.resolve_left h0)]
theorem isBeam_c {J : Nat} (hJ : J < 1000) {m : Nat → Int32} (hm : FMo_beams m = some (nI J)) (a : Int32) :
   (∃ k, k < J ∧ a = nI k ∧ FFr_isBeam (nI J) a = some 1 ∧ FMo_isBeam m a = some 1) ∨ (FFr_isBeam (nI J) a = some 0 ∧ FMo_isBeam m a = some 0) := by
  unfold FFr_isBeam FMo_isBeam
  rw [hm]
  simp only [b1_some]
  rcases rg_cases J hJ a with ⟨k, h1, h2, h3, h4, h5⟩ | ⟨h1, h2⟩
  · left
    rw [h3, if_neg h4, if_neg h5]
    exact ⟨k, h1, h2, rfl, rfl⟩
  · right
    rw [h1]
    refine ⟨?_, rfl⟩
    by_cases h0 : a < 0
    · rw [if_pos h0]
    · rw [if_neg h0, if_pos (h2.resolve_left h0)]
theorem isEnd_c {B : Nat} (hB : B < 400) {m : Nat → Int32} (hm : FMo_beams m = some (nI B)) (a : Int32) :
   (∃ k, k < 2 * B ∧ a = nI k ∧ FFr_isEnd (nI B) a = some 1 ∧ FMo_isEnd m a = some 1) ∨ (FFr_isEnd (nI B) a = some 0 ∧ FMo_isEnd m a = some 0) := by
  unfold FFr_isEnd FMo_isEnd
  rw [hm]
  simp only [b1_some]
  rw [l2_, pk_mul]
  rcases rg_cases (2 * B) (by omega) a with ⟨k, h1, h2, h3, h4, h5⟩ | ⟨h1, h2⟩
  · left
    rw [h3, if_neg h4, if_neg h5]
    exact ⟨k, h1, h2, rfl, rfl⟩
  · right
    rw [h1]
    refine ⟨?_, rfl⟩
    by_cases h0 : a < 0
    · rw [if_pos h0]
    · rw [if_neg h0, if_pos (h2.resolve_left h0)]
theorem isLoad_c {J : Nat} (hJ : J < 1000) (a : Int32) :
   (∃ k, k < J ∧ a = nI k ∧ FFr_isLoad (nI J) a = some 1 ∧ FMo_in a.toInt64 0 (nI J - 1).toInt64 = some 1) ∨ (FFr_isLoad (nI J) a = some 0 ∧ FMo_in a.toInt64 0 (nI J - 1).toInt64 = some 0) := by
  unfold FFr_isLoad
  rcases rg_cases J hJ a with ⟨k, h1, h2, h3, h4, h5⟩ | ⟨h1, h2⟩
  · left
    rw [h3, if_neg h4, if_neg h5]
    exact ⟨k, h1, h2, rfl, rfl⟩
  · right
    rw [h1]
    refine ⟨?_, rfl⟩
    by_cases h0 : a < 0
    · rw [if_pos h0]
    · rw [if_neg h0, if_pos (h2.resolve_left h0)]
