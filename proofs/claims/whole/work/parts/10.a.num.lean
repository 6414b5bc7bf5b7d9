/-! layer 2: whole numbers in ints and longs -/
def zI (x : Int) : Int32 := Int32.ofInt x
def zL (x : Int) : Int64 := Int64.ofInt x
theorem zI_toInt {x : Int} (h1 : -2147483648 ≤ x) (h2 : x < 2147483648) : (zI x).toInt = x := by
  unfold zI
  exact Int32.toInt_ofInt_of_le (by simpa using h1) (by simpa using h2)
theorem zI_of (a : Int32) : zI a.toInt = a := Int32.ofInt_toInt a
theorem zI_add (x y : Int) : zI x + zI y = zI (x + y) := (Int32.ofInt_add x y).symm
theorem zI_mul (x y : Int) : zI x * zI y = zI (x * y) := (Int32.ofInt_mul x y).symm
theorem zI_sub (x y : Int) : zI x - zI y = zI (x - y) := (Int32.ofInt_sub x y).symm
theorem zI_neg (x : Int) : -zI x = zI (-x) := (Int32.ofInt_neg x).symm
theorem zI_lt {x y : Int} (h1 : -2147483648 ≤ x) (h2 : x < 2147483648) (h3 : -2147483648 ≤ y) (h4 : y < 2147483648) : zI x < zI y ↔ x < y := by
  rw [Int32.lt_iff_toInt_lt, zI_toInt h1 h2, zI_toInt h3 h4]
theorem zI_le {x y : Int} (h1 : -2147483648 ≤ x) (h2 : x < 2147483648) (h3 : -2147483648 ≤ y) (h4 : y < 2147483648) : zI x ≤ zI y ↔ x ≤ y := by
  rw [Int32.le_iff_toInt_le, zI_toInt h1 h2, zI_toInt h3 h4]
theorem zI_eq {x y : Int} (h1 : -2147483648 ≤ x) (h2 : x < 2147483648) (h3 : -2147483648 ≤ y) (h4 : y < 2147483648) : zI x = zI y ↔ x = y := by
  constructor
  · intro h
    have := congrArg Int32.toInt h
    rw [zI_toInt h1 h2, zI_toInt h3 h4] at this
    exact this
  · intro h; rw [h]
theorem zI_nat (n : Nat) : nI n = zI (n : Int) := by
  unfold nI zI
  exact (Int32.ofInt_eq_ofNat).symm
theorem zI_clamp {x : Int} (h1 : 0 ≤ x) (h2 : x < 2147483648) : (zI x).toNatClampNeg = x.toNat := by
  show (zI x).toInt.toNat = x.toNat
  rw [zI_toInt (by omega) h2]
theorem gd_z {α : Type} {x : Int} {n : Nat} {k : Option α} (h1 : 0 ≤ x) (h2 : x < n) (h3 : n < 2147483648) : gd_ (zI x) n k = k := by
  unfold gd_
  rw [if_neg]
  intro h
  rcases h with h | h
  · have h5 : (0 : Int32) = zI 0 := rfl
    rw [h5, zI_lt (by omega) (by omega) (by omega) (by omega)] at h
    omega
  · rw [zI_clamp h1 (by omega)] at h
    omega
