/-! layer 2: what a text has told so far -/
def VD (J B L : Nat) (dh dc de dl ds db dz dp : Nat → Int32) : Prop :=
  (∀ j, j < 6 → dh j = 0 ∨ dh j = 1) ∧ (∀ j, j < J → -9999 ≤ (dc j).toInt ∧ (dc j).toInt ≤ 9999) ∧ (∀ e, e < 2 * B → ∃ x : Nat, x ≤ 5 ∧ de e = nI x) ∧ (∀ b, b < B → ¬ de (2 * b) = de (2 * b + 1)) ∧ (∀ b, b < B → ∃ k : Nat, dl b = nI k ∧ (k = 1 ∨ k = 2 ∨ k = 3 ∨ k = 4 ∨ k = 6 ∨ k = 12)) ∧ (∀ b, b < B → ∃ k : Nat, ds b = nI k ∧ 1 ≤ k ∧ k ≤ 10) ∧ (∀ i, i < L → ∃ b z a : Nat, db i = nI b ∧ b ≤ 9 ∧ dz i = nI z ∧ dp i = nI a ∧ a ≤ 11 ∧ 1 ≤ z ∧ (z ≤ 99 ∨ 0 < a ∧ z ≤ 999)) ∧ tn dh 0 J ≤ 4
def DR (J B L : Nat) (dh dc de dl ds db dz dp m : Nat → Int32) : Prop := RF 237 J B L dh dc de dl ds db dz dp m ∧ VD J B L dh dc de dl ds db dz dp
def pgR (m m' : Nat → Int32) : Prop := ∀ y, y < 237 ∨ 316 ≤ y → m' y = m y
theorem tn_snoc (f : Nat → Int32) : ∀ (n i : Nat), tn f i (n + 1) = tn f i n + (if f (i + n) = 0 then 1 else 0)
  | 0, i => by
    show (if f i = 0 then 1 else 0) + 0 = 0 + (if f (i + 0) = 0 then 1 else 0)
    rw [Nat.add_zero, Nat.add_zero, Nat.zero_add]
  | n + 1, i => by
    show (if f i = 0 then 1 else 0) + tn f (i + 1) (n + 1) = (if f i = 0 then 1 else 0) + tn f (i + 1) n + _
    rw [tn_snoc f n (i + 1), show i + 1 + n = i + (n + 1) by omega, Nat.add_assoc]
theorem DR_joint {J B L : Nat} {dh dc de dl ds db dz dp m : Nat → Int32} (d : DR J B L dh dc de dl ds db dz dp m) (hJ : J < 6) {a c : Int32} (ha : a = 0 ∨ a = 1) (ht : a = 0 → tn dh 0 J < 4) (h1 : -9999 ≤ c.toInt) (h2 : c.toInt ≤ 9999) : DR (J + 1) B L (upd dh J a) (upd dc J c) de dl ds db dz dp (upd (upd (upd m (237 + J) a) (243 + J) c) 313 (nI (J + 1))) := by
  obtain ⟨⟨a1, a2, a3, a4, a5, a6, a7, a8, a9⟩, b1, b2, b3, b4, b5, b6, b7, b8⟩ := d
  have hu : ∀ y, y ≠ 237 + J → y ≠ 243 + J → y ≠ 313 → upd (upd (upd m (237 + J) a) (243 + J) c) 313 (nI (J + 1)) y = m y := by
    intro y q1 q2 q3
    rw [pk_un q3, pk_un q2, pk_un q1]
  refine ⟨⟨by omega, a2, a3, pk_us, ?_, ?_, fun i hi => ?_, fun b hb => ?_, fun i hi => ?_⟩, fun i hi => ?_, fun i hi => ?_, b3, b4, b5, b6, b7, ?_⟩
  · rw [hu _ (by omega) (by omega) (by omega), a5]
  · rw [hu _ (by omega) (by omega) (by omega), a6]
  · by_cases e : i = J
    · subst e
      refine ⟨?_, ?_⟩
      · rw [pk_un (by omega), pk_un (by omega), pk_us, pk_us]
      · rw [pk_un (by omega), show 237 + 6 + i = 243 + i by omega, pk_us, pk_us]
    · rw [hu _ (by omega) (by omega) (by omega), hu _ (by omega) (by omega) (by omega), pk_un e, pk_un e]
      exact a7 i (by omega)
  · rw [hu _ (by omega) (by omega) (by omega), hu _ (by omega) (by omega) (by omega), hu _ (by omega) (by omega) (by omega), hu _ (by omega) (by omega) (by omega)]
    exact a8 b hb
  · rw [hu _ (by omega) (by omega) (by omega), hu _ (by omega) (by omega) (by omega), hu _ (by omega) (by omega) (by omega)]
    exact a9 i hi
  · by_cases e : i = J
    · subst e; rw [pk_us]; exact ha
    · rw [pk_un e]; exact b1 i hi
  · by_cases e : i = J
    · subst e; rw [pk_us]; exact ⟨h1, h2⟩
    · rw [pk_un e]; exact b2 i (by omega)
  · rw [tn_snoc, tn_congr (g := dh) J 0 (fun k _ hk => pk_un (by omega)), Nat.zero_add, pk_us]
    rcases ha with rfl | rfl
    · have := ht rfl
      rw [if_pos rfl]; omega
    · rw [if_neg (by decide)]; omega
theorem DR_beam {J B L : Nat} {dh dc de dl ds db dz dp m : Nat → Int32} (d : DR J B L dh dc de dl ds db dz dp m) (hB : B < 10) {x y k s : Nat} (hx : x ≤ 5) (hy : y ≤ 5) (hxy : x ≠ y) (hk : k = 1 ∨ k = 2 ∨ k = 3 ∨ k = 4 ∨ k = 6 ∨ k = 12) (hs : 1 ≤ s ∧ s ≤ 10) : DR J (B + 1) L dh dc (upd (upd de (2 * B) (nI x)) (2 * B + 1) (nI y)) (upd dl B (nI k)) (upd ds B (nI s)) db dz dp (upd (upd (upd (upd (upd m (249 + B) (nI x)) (259 + B) (nI y)) (269 + B) (nI k)) (279 + B) (nI s)) 314 (nI (B + 1))) := by
  obtain ⟨⟨a1, a2, a3, a4, a5, a6, a7, a8, a9⟩, b1, b2, b3, b4, b5, b6, b7, b8⟩ := d
  have hu : ∀ w, w ≠ 249 + B → w ≠ 259 + B → w ≠ 269 + B → w ≠ 279 + B → w ≠ 314 → upd (upd (upd (upd (upd m (249 + B) (nI x)) (259 + B) (nI y)) (269 + B) (nI k)) (279 + B) (nI s)) 314 (nI (B + 1)) w = m w := by
    intro w q1 q2 q3 q4 q5
    rw [pk_un q5, pk_un q4, pk_un q3, pk_un q2, pk_un q1]
  refine ⟨⟨a1, by omega, a3, ?_, pk_us, ?_, fun i hi => ?_, fun b hb => ?_, fun i hi => ?_⟩, b1, b2, fun e he => ?_, fun b hb => ?_, fun b hb => ?_, fun b hb => ?_, b7, b8⟩
  · rw [hu _ (by omega) (by omega) (by omega) (by omega) (by omega), a4]
  · rw [hu _ (by omega) (by omega) (by omega) (by omega) (by omega), a6]
  · rw [hu _ (by omega) (by omega) (by omega) (by omega) (by omega), hu _ (by omega) (by omega) (by omega) (by omega) (by omega)]
    exact a7 i hi
  · by_cases e : b = B
    · subst e
      refine ⟨?_, ?_, ?_, ?_⟩
      · rw [pk_un (by omega), pk_un (by omega), pk_un (by omega), pk_un (by omega), show 237 + 12 + b = 249 + b by omega, pk_us, pk_un (by omega), pk_us]
      · rw [pk_un (by omega), pk_un (by omega), pk_un (by omega), show 237 + 22 + b = 259 + b by omega, pk_us, pk_us]
      · rw [pk_un (by omega), pk_un (by omega), show 237 + 32 + b = 269 + b by omega, pk_us, pk_us]
      · rw [pk_un (by omega), show 237 + 42 + b = 279 + b by omega, pk_us, pk_us]
    · rw [hu _ (by omega) (by omega) (by omega) (by omega) (by omega), hu _ (by omega) (by omega) (by omega) (by omega) (by omega), hu _ (by omega) (by omega) (by omega) (by omega) (by omega), hu _ (by omega) (by omega) (by omega) (by omega) (by omega), pk_un (f := upd de (2 * B) (nI x)) (by omega), pk_un (by omega), pk_un (f := upd de (2 * B) (nI x)) (by omega), pk_un (by omega), pk_un e, pk_un e]
      exact a8 b (by omega)
  · rw [hu _ (by omega) (by omega) (by omega) (by omega) (by omega), hu _ (by omega) (by omega) (by omega) (by omega) (by omega), hu _ (by omega) (by omega) (by omega) (by omega) (by omega)]
    exact a9 i hi
  · by_cases e1 : e = 2 * B + 1
    · subst e1; rw [pk_us]; exact ⟨y, hy, rfl⟩
    · rw [pk_un e1]
      by_cases e2 : e = 2 * B
      · subst e2; rw [pk_us]; exact ⟨x, hx, rfl⟩
      · rw [pk_un e2]; exact b3 e (by omega)
  · by_cases e : b = B
    · subst e
      rw [pk_us, pk_un (by omega), pk_us, nI_eq (by omega) (by omega)]
      exact hxy
    · rw [pk_un (by omega), pk_un (by omega), pk_un (by omega), pk_un (by omega)]
      exact b4 b (by omega)
  · by_cases e : b = B
    · subst e; rw [pk_us]; exact ⟨k, rfl, hk⟩
    · rw [pk_un e]; exact b5 b (by omega)
  · by_cases e : b = B
    · subst e; rw [pk_us]; exact ⟨s, rfl, hs.1, hs.2⟩
    · rw [pk_un e]; exact b6 b (by omega)
theorem DR_load {J B L : Nat} {dh dc de dl ds db dz dp m : Nat → Int32} (d : DR J B L dh dc de dl ds db dz dp m) (hL : L < 8) {b z a : Nat} (hb : b ≤ 9) (ha : a ≤ 11) (h1 : 1 ≤ z) (h2 : z ≤ 99 ∨ 0 < a ∧ z ≤ 999) : DR J B (L + 1) dh dc de dl ds (upd db L (nI b)) (upd dz L (nI z)) (upd dp L (nI a)) (upd (upd (upd (upd m (289 + L) (nI b)) (297 + L) (nI z)) (305 + L) (nI a)) 315 (nI (L + 1))) := by
  obtain ⟨⟨a1, a2, a3, a4, a5, a6, a7, a8, a9⟩, b1, b2, b3, b4, b5, b6, b7, b8⟩ := d
  have hu : ∀ y, y ≠ 289 + L → y ≠ 297 + L → y ≠ 305 + L → y ≠ 315 → upd (upd (upd (upd m (289 + L) (nI b)) (297 + L) (nI z)) (305 + L) (nI a)) 315 (nI (L + 1)) y = m y := by
    intro y q1 q2 q3 q4
    rw [pk_un q4, pk_un q3, pk_un q2, pk_un q1]
  refine ⟨⟨a1, a2, by omega, ?_, ?_, pk_us, fun i hi => ?_, fun i hi => ?_, fun i hi => ?_⟩, b1, b2, b3, b4, b5, b6, fun i hi => ?_, b8⟩
  · rw [hu _ (by omega) (by omega) (by omega) (by omega), a4]
  · rw [hu _ (by omega) (by omega) (by omega) (by omega), a5]
  · rw [hu _ (by omega) (by omega) (by omega) (by omega), hu _ (by omega) (by omega) (by omega) (by omega)]
    exact a7 i hi
  · rw [hu _ (by omega) (by omega) (by omega) (by omega), hu _ (by omega) (by omega) (by omega) (by omega), hu _ (by omega) (by omega) (by omega) (by omega), hu _ (by omega) (by omega) (by omega) (by omega)]
    exact a8 i hi
  · by_cases e : i = L
    · subst e
      rw [pk_us, pk_us, pk_us]
      refine ⟨?_, ?_, ?_⟩
      · rw [pk_un (by omega), pk_un (by omega), pk_un (by omega), show 237 + 52 + i = 289 + i by omega, pk_us]
      · rw [pk_un (by omega), pk_un (by omega), show 237 + 60 + i = 297 + i by omega, pk_us]
      · rw [pk_un (by omega), show 237 + 68 + i = 305 + i by omega, pk_us]
    · rw [pk_un e, pk_un e, pk_un e, hu _ (by omega) (by omega) (by omega) (by omega), hu _ (by omega) (by omega) (by omega) (by omega), hu _ (by omega) (by omega) (by omega) (by omega)]
      exact a9 i (by omega)
  · by_cases e : i = L
    · subst e
      rw [pk_us, pk_us, pk_us]
      exact ⟨b, z, a, rfl, hb, rfl, rfl, ha, h1, h2⟩
    · rw [pk_un e, pk_un e, pk_un e]
      exact b7 i (by omega)
