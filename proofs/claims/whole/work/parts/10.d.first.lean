theorem l1_ : (1 : Int32) = nI 1 := rfl
theorem l52_ : (52 : Int32) = nI 52 := rfl
theorem l60_ : (60 : Int32) = nI 60 := rfl
theorem l68_ : (68 : Int32) = nI 68 := rfl
/-- K of a BEAM -/
def kB (fl fs : Nat → Int32) (b : Nat) : Int32 := ((12 : Int32) * fs b) / fl b
theorem len_ne {k : Nat} (h : k = 1 ∨ k = 2 ∨ k = 3 ∨ k = 4 ∨ k = 6 ∨ k = 12) : ¬ nI k = 0 ∧ nI 1 ≤ nI k ∧ ¬ nI k * nI k = 0 := by
  rcases h with rfl | rfl | rfl | rfl | rfl | rfl <;> decide
theorem Fr_stiffness {J B L : Nat} {fh fc fe fl fs fb fz fp : Nat → Int32} (hB : B ≤ 10) (v : VF J B L fh fc fe fl fs fb fz fp) {b : Nat} (hb : b < B) : FFr_stiffness fl fs (nI b) = some (kB fl fs b) := by
  obtain ⟨k, e1, hk⟩ := v.2.2.2.2.1 b hb
  unfold FFr_stiffness
  rw [ix_ (by omega) (by omega), nI_clamp (by omega), l1_, if_pos (by rw [e1]; exact (len_ne hk).2.1), ix_ (by omega) (by omega), ix_ (by omega) (by omega), dz_ne (by rw [e1]; exact (len_ne hk).1)]
  rfl
theorem Mo_stiffOf {J B L : Nat} {fh fc fe fl fs fb fz fp m : Nat → Int32} (h : RF 0 J B L fh fc fe fl fs fb fz fp m) (v : VF J B L fh fc fe fl fs fb fz fp) {e : Nat} (he : e < 2 * B) : FMo_stiffOf m (nI e) = some (kB fl fs (e / 2)) := by
  obtain ⟨h1, h2, h3, h4, h5, h6, h7, h8, h9⟩ := h
  obtain ⟨k, e1, hk⟩ := v.2.2.2.2.1 (e / 2) (by omega)
  obtain ⟨-, -, q1, q2⟩ := h8 (e / 2) (by omega)
  rw [Nat.zero_add] at q1 q2
  unfold FMo_stiffOf
  rw [l2_, l32_, l42_, pk_div (by omega) (by omega) (by omega), nI_add, nI_add, ix_ (by omega) (by omega), ix_ (by omega) (by omega), nI_clamp (by omega), nI_clamp (by omega), q1, q2, dz_ne (by rw [e1]; exact (len_ne hk).1)]
  rfl
