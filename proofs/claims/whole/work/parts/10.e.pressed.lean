/-- what a LOAD presses: size z at place a of a BEAM of length k -/
def prA (k z a : Int32) : Int32 := if a = 0 then ((((100 : Int32) * z) * k) * k) / 12 else ((((((100 : Int32) * z) * a) * (k - a)) * (k - a)) / (k * k))
def prB (k z a : Int32) : Int32 := if a = 0 then ((((100 : Int32) * z) * k) * k) / 12 else ((((((100 : Int32) * z) * a) * (k - a)) * a) / (k * k))
theorem Fr_pressed {J B L : Nat} {fh fc fe fl fs fb fz fp : Nat → Int32} (hB : B ≤ 10) (hL : L ≤ 8) (v : VF J B L fh fc fe fl fs fb fz fp) {i : Nat} (hi : i < L) : FFr_pressed fl fb fz fp (nI i) 1 = some (prA (fl (fb i).toNatClampNeg) (fz i) (fp i)) ∧ FFr_pressed fl fb fz fp (nI i) 0 = some (prB (fl (fb i).toNatClampNeg) (fz i) (fp i)) := by
  obtain ⟨b, z, a, k, e1, e2, e3, e4, e5, e6, e7, e8⟩ := v.2.2.2.2.2.2 i hi
  obtain ⟨k', e9, hk⟩ := v.2.2.2.2.1 b e2
  have hkk : ¬ fl b = 0 ∧ nI 1 ≤ fl b ∧ ¬ fl b * fl b = 0 := by rw [e9]; exact len_ne hk
  have hp : ∀ t : Int32, FFr_pressed fl fb fz fp (nI i) t = some (if fp i = 0 then ((((100 : Int32) * fz i) * fl b) * fl b) / 12 else if t = 0 then ((((((100 : Int32) * fz i) * fp i) * (fl b - fp i)) * fp i) / (fl b * fl b)) else ((((((100 : Int32) * fz i) * fp i) * (fl b - fp i)) * (fl b - fp i)) / (fl b * fl b))) := by
    intro t
    unfold FFr_pressed
    simp only [lt_eq]
    rw [ix_ (by omega) (by omega), nI_clamp (by omega), e1, ix_ (by omega) (by omega), nI_clamp (by omega), l1_, if_pos hkk.2.1, ix_ (by omega) (by omega), ix_ (by omega) (by omega), ix_ (by omega) (by omega)]
    rw [dz_ne hkk.2.2, ix_ (by omega) (by omega), dz_ne hkk.2.2]
    by_cases h0 : fp i = 0
    · rw [if_pos h0, if_pos h0]
    · rw [if_neg h0, if_neg h0]
      by_cases ht : t = 0
      · rw [if_pos ht, if_pos ht]
      · rw [if_neg ht, if_neg ht]
  rw [hp 1, hp 0, e1, nI_clamp (by omega), if_neg (show ¬ (1 : Int32) = 0 by decide), if_pos rfl]
  exact ⟨rfl, rfl⟩
theorem Mo_pressed {J B L : Nat} {fh fc fe fl fs fb fz fp m : Nat → Int32} (h : RF 0 J B L fh fc fe fl fs fb fz fp m) (v : VF J B L fh fc fe fl fs fb fz fp) {i : Nat} (hi : i < L) : FMo_pressed m (nI i) 1 = some (-prA (fl (fb i).toNatClampNeg) (fz i) (fp i)) ∧ FMo_pressed m (nI i) 0 = some (prB (fl (fb i).toNatClampNeg) (fz i) (fp i)) := by
  obtain ⟨h1, h2, h3, h4, h5, h6, h7, h8, h9⟩ := h
  obtain ⟨b, z, a, k, e1, e2, e3, e4, e5, e6, e7, e8⟩ := v.2.2.2.2.2.2 i hi
  obtain ⟨k', e9, hk⟩ := v.2.2.2.2.1 b e2
  have hkk : ¬ fl b = 0 ∧ nI 1 ≤ fl b ∧ ¬ fl b * fl b = 0 := by rw [e9]; exact len_ne hk
  obtain ⟨q1, q2, q3⟩ := h9 i hi
  obtain ⟨-, -, q4, -⟩ := h8 b e2
  rw [Nat.zero_add] at q1 q2 q3 q4
  have hp : ∀ t : Int32, FMo_pressed m (nI i) t = some (if fp i = 0 then (if t = 0 then ((((100 : Int32) * fz i) * fl b) * fl b) / 12 else -(((((100 : Int32) * fz i) * fl b) * fl b) / 12)) else if t = 0 then ((((((100 : Int32) * fz i) * fp i) * fp i) * (fl b - fp i)) / (fl b * fl b)) else -((((((100 : Int32) * fz i) * fp i) * (fl b - fp i)) * (fl b - fp i)) / (fl b * fl b))) := by
    intro t
    unfold FMo_pressed
    simp only [lt_eq]
    rw [l52_, l60_, l68_, l32_, nI_add, nI_add, nI_add, ix_ (by omega) (by omega), nI_clamp (n := 52 + i) (by omega), q1, e1, nI_add, ix_ (by omega) (by omega), nI_clamp (n := 32 + b) (by omega), q4, nI_clamp (n := 60 + i) (by omega), q2, nI_clamp (n := 68 + i) (by omega), q3, ix_ (by omega) (by omega), ix_ (by omega) (by omega)]
    rw [dz_ne hkk.2.2, dz_ne hkk.2.2]
    by_cases h0 : fp i = 0
    · rw [if_pos h0, if_pos h0]
      by_cases ht : t = 0
      · rw [if_pos ht, if_pos ht]
      · rw [if_neg ht, if_neg ht]
    · rw [if_neg h0, if_neg h0]
      by_cases ht : t = 0
      · rw [if_pos ht, if_pos ht]
      · rw [if_neg ht, if_neg ht]
  rw [hp 1, hp 0, e1, nI_clamp (by omega)]
  unfold prA prB
  by_cases h0 : fp i = 0
  · rw [if_pos h0, if_pos h0, if_pos h0, if_pos h0, if_neg (show ¬ (1 : Int32) = 0 by decide), if_pos rfl]
    exact ⟨rfl, rfl⟩
  · rw [if_neg h0, if_neg h0, if_neg h0, if_neg h0, if_neg (show ¬ (1 : Int32) = 0 by decide), if_pos rfl]
    refine ⟨rfl, ?_⟩
    rw [Int32.mul_assoc ((100 : Int32) * fz i * fp i) (fl b - fp i) (fp i), Int32.mul_comm (fl b - fp i) (fp i), ← Int32.mul_assoc]
