/-! layer 2: small words -/
theorem gd_in {α : Type} {i : Int32} {n : Nat} {k : Option α} (h : vp_in i n) : gd_ i n k = k := if_neg h
theorem dz_ne {α : Type} {y : Int32} {k : Option α} (h : ¬ y = 0) : dz_ y k = k := if_neg h
theorem lt_eq {α β : Type} (x : α) (k : α → Option β) : lt_ x k = k x := rfl
theorem b1_some {α γ : Type} (a : α) (k : α → Option γ) : b1_ (some a) k = k a := rfl
theorem nI_gd {α : Type} {i n : Nat} {k : Option α} (h : i < n) (hn : n < 2147483648) : gd_ (nI i) n k = k := gd_in (vp_in_nI h hn)
/-- a sum of n ints from place i on -/
def sI (f : Nat → Int32) : Nat → Nat → Int32
  | _, 0 => 0
  | i, n + 1 => f i + sI f (i + 1) n
theorem sI_congr {f g : Nat → Int32} : ∀ (n i : Nat), (∀ k, i ≤ k → k < i + n → f k = g k) → sI f i n = sI g i n
  | 0, _, _ => rfl
  | n + 1, i, h => by
    show f i + sI f (i + 1) n = g i + sI g (i + 1) n
    rw [h i (Nat.le_refl i) (by omega), sI_congr n (i + 1) (fun k h1 h2 => h k (by omega) (by omega))]
/-- a canonical frame: counts, then rows (held, couple; joint of an END; length, stiff; on, size, place) -/
abbrev Fm : Type := (Nat × Nat × Nat) × (Nat → Int32) × (Nat → Int32) × (Nat → Int32) × (Nat → Int32) × (Nat → Int32) × (Nat → Int32) × (Nat → Int32) × (Nat → Int32)
def fJ (φ : Fm) : Nat := φ.1.1
def fB (φ : Fm) : Nat := φ.1.2.1
def fL (φ : Fm) : Nat := φ.1.2.2
def fhd (φ : Fm) : Nat → Int32 := φ.2.1
def fcp (φ : Fm) : Nat → Int32 := φ.2.2.1
def fjt (φ : Fm) : Nat → Int32 := φ.2.2.2.1
def fln (φ : Fm) : Nat → Int32 := φ.2.2.2.2.1
def fsf (φ : Fm) : Nat → Int32 := φ.2.2.2.2.2.1
def flb (φ : Fm) : Nat → Int32 := φ.2.2.2.2.2.2.1
def flz (φ : Fm) : Nat → Int32 := φ.2.2.2.2.2.2.2.1
def flp (φ : Fm) : Nat → Int32 := φ.2.2.2.2.2.2.2.2
