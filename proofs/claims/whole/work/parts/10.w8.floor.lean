/-! layer 2: rounded down -/
theorem i64r {x : Int} (h1 : -9223372036854775808 ≤ x) (h2 : x < 9223372036854775808) : (zL x).toInt = x := Int64.toInt_ofInt_of_le (by omega) (by omega)
theorem tmodN {a : Int} (b : Int) (ha : a ≤ 0) : a.tmod b ≤ 0 := by
  have h := Int.tmod_nonneg b (show 0 ≤ -a by omega)
  rw [Int.neg_tmod] at h
  omega
theorem tdivN {a b : Int} (ha : a ≤ 0) (hb : 0 ≤ b) : a.tdiv b ≤ 0 := by
  have h := Int.tdiv_nonneg (show 0 ≤ -a by omega) hb
  rw [Int.neg_tdiv] at h
  omega
theorem tdiv_floor {a b : Int} (hb : 0 < b) : (if a.tdiv b * b ≤ a then a.tdiv b else a.tdiv b - 1) = a / b := by
  rcases Int.le_total 0 a with ha | ha
  · rw [Int.tdiv_eq_ediv_of_nonneg ha, if_pos (Int.ediv_mul_le a (by omega))]
  · have h1 := Int.mul_tdiv_add_tmod a b
    have h2 := Int.tmod_lt_of_pos a hb
    have h3 : -b < a.tmod b := by
      have := Int.lt_tmod_of_pos a hb
      exact this
    have h4 := Int.mul_ediv_add_emod a b
    have h5 := Int.emod_nonneg a (show b ≠ 0 by omega)
    have h6 := Int.emod_lt_of_pos a hb
    have h7 : a.tmod b ≤ 0 := by
      have := tmodN b ha
      exact this
    have e1 : a.tdiv b * b = b * a.tdiv b := Int.mul_comm _ _
    rw [e1]
    by_cases hz : a.tmod b = 0
    · rw [if_pos (by omega)]
      have e2 : b * (a.tdiv b - a / b) = a % b := by
        rw [Int.mul_sub]; omega
      have e3 : a.tdiv b - a / b = 0 := by
        rcases Int.lt_trichotomy (a.tdiv b - a / b) 0 with g | g | g
        · have := Int.mul_le_mul_of_nonneg_left (show a.tdiv b - a / b ≤ -1 by omega) (show 0 ≤ b by omega)
          omega
        · exact g
        · have := Int.mul_le_mul_of_nonneg_left (show 1 ≤ a.tdiv b - a / b by omega) (show 0 ≤ b by omega)
          omega
      omega
    · rw [if_neg (by omega)]
      have e2 : b * (a.tdiv b - a / b) = a % b - a.tmod b := by
        rw [Int.mul_sub]; omega
      have e3 : a.tdiv b - a / b = 1 := by
        rcases Int.lt_trichotomy (a.tdiv b - a / b) 1 with g | g | g
        · have := Int.mul_le_mul_of_nonneg_left (show a.tdiv b - a / b ≤ 0 by omega) (show 0 ≤ b by omega)
          omega
        · exact g
        · have := Int.mul_le_mul_of_nonneg_left (show 2 ≤ a.tdiv b - a / b by omega) (show 0 ≤ b by omega)
          omega
      omega
theorem zdiv {a b : Int} (ha1 : -9223372036854775808 ≤ a) (ha2 : a < 9223372036854775808) (hb1 : 0 < b) (hb2 : b < 9223372036854775808) : zL a / zL b = zL (a.tdiv b) ∧ -9223372036854775808 ≤ a.tdiv b * b ∧ a.tdiv b * b < 9223372036854775808 := by
  have e1 : Int64.minValue.toInt = -9223372036854775808 := by decide
  have e2 : Int64.maxValue.toInt = 9223372036854775807 := by decide
  refine ⟨(Int64.ofInt_tdiv (by omega) (by omega) (by omega) (by omega)).symm, ?_⟩
  have h1 := Int.mul_tdiv_add_tmod a b
  rw [Int.mul_comm] at h1
  rcases Int.le_total 0 a with ha | ha
  · have h2 := Int.tmod_nonneg b ha
    have h3 : 0 ≤ a.tdiv b * b := Int.mul_nonneg (Int.tdiv_nonneg ha (by omega)) (by omega)
    omega
  · have h2 : a.tmod b ≤ 0 := tmodN b ha
    have h3 : a.tdiv b * b ≤ 0 := Int.mul_nonpos_of_nonpos_of_nonneg (tdivN ha (by omega)) (by omega)
    omega
theorem dl_z {α : Type} {b : Int} {o : Option α} (hb1 : 0 < b) (hb2 : b < 9223372036854775808) : dl_ (zL b) o = o := by
  unfold dl_
  rw [if_neg]
  intro q
  have := congrArg Int64.toInt q
  rw [i64r (by omega) (by omega), show (0 : Int64).toInt = 0 from by decide] at this
  omega
theorem down_e {a b : Int} (ha1 : -9223372036854775808 ≤ a) (ha2 : a < 9223372036854775808) (hb1 : 0 < b) (hb2 : b < 9223372036854775808) : FMo_down (zL a) (zL b) = some (zL (a / b)) := by
  obtain ⟨z1, z2, z3⟩ := zdiv ha1 ha2 hb1 hb2
  unfold FMo_down
  rw [dl_z hb1 hb2, z1, lt_eq2, zL_mul, zL1, zL_sub, ← tdiv_floor hb1]
  by_cases q : a.tdiv b * b ≤ a
  · rw [if_pos q, if_pos]
    rw [lg_cmp_le, Int64.le_iff_toInt_le, i64r z2 z3, i64r ha1 ha2]
    exact q
  · rw [if_neg q, if_neg]
    rw [lg_cmp_le, Int64.le_iff_toInt_le, i64r z2 z3, i64r ha1 ha2]
    exact q
theorem xor_sign (a b : Int64) (hb : 0 ≤ b.toInt) : (0 ≤ lg_cmp (a ^^^ b) (0 : Int64)) ↔ 0 ≤ a.toInt := by
  rw [lg_cmp_ge, Int64.le_iff_toInt_le, show (0 : Int64).toInt = 0 from by decide]
  have h1 : ∀ x : Int64, 0 ≤ x.toInt ↔ x.toBitVec.msb = false := by
    intro x
    have : x.toInt = x.toBitVec.toInt := rfl
    rw [this, BitVec.msb_eq_toInt, decide_eq_false_iff_not]
    omega
  rw [h1, h1]
  have h2 : b.toBitVec.msb = false := (h1 b).mp hb
  have h3 : (a ^^^ b).toBitVec = a.toBitVec ^^^ b.toBitVec := rfl
  rw [h3, BitVec.msb_xor, h2, Bool.xor_false]
theorem floorDiv_e {a b : Int} (ha1 : -9223372036854775808 ≤ a) (ha2 : a < 9223372036854775808) (hb1 : 0 < b) (hb2 : b < 9223372036854775808) : FMt_floorDiv (zL a) (zL b) = some (zL (a / b)) := by
  obtain ⟨z1, z2, z3⟩ := zdiv ha1 ha2 hb1 hb2
  have hx := xor_sign (zL a) (zL b) (by rw [i64r (by omega) hb2]; omega)
  rw [i64r ha1 ha2] at hx
  unfold FMt_floorDiv
  rw [dl_z hb1 hb2, z1, lt_eq2, zL_mul, zL1, zL_sub, ← tdiv_floor hb1]
  by_cases q : 0 ≤ a
  · rw [if_pos (hx.mpr q)]
    have : a.tdiv b * b ≤ a := by
      rw [Int.tdiv_eq_ediv_of_nonneg q]
      exact Int.ediv_mul_le a (by omega)
    rw [if_pos this]
  · rw [if_neg (fun z => q (hx.mp z))]
    have hge : a ≤ a.tdiv b * b := by
      have h1 := Int.mul_tdiv_add_tmod a b
      rw [Int.mul_comm] at h1
      have h2 : a.tmod b ≤ 0 := tmodN b (by omega)
      omega
    by_cases q2 : a.tdiv b * b ≤ a
    · rw [if_pos q2, if_pos]
      rw [lg_cmp_eq]
      congr 1
      omega
    · rw [if_neg q2, if_neg]
      rw [lg_cmp_eq]
      intro z
      have := congrArg Int64.toInt z
      rw [i64r z2 z3, i64r ha1 ha2] at this
      omega
