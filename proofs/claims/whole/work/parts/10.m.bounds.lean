/-! layer 2: bounds -/
theorem add_toInt {a b : Int32} (h1 : -2147483648 ≤ a.toInt + b.toInt) (h2 : a.toInt + b.toInt < 2147483648) : (a + b).toInt = a.toInt + b.toInt := by
  rw [Int32.toInt_add]
  exact Int.bmod_eq_of_le (by omega) (by omega)
theorem neg_toInt {a : Int32} (h1 : -2147483648 < a.toInt) : (-a).toInt = -a.toInt := by
  have h2 := Int32.toInt_lt a
  rw [Int32.toInt_neg]
  exact Int.bmod_eq_of_le (by omega) (by omega)
theorem sI_b {f : Nat → Int32} {M : Nat} : ∀ (n i : Nat), (∀ k, i ≤ k → k < i + n → (f k).toInt.natAbs ≤ M) → n * M < 2147483648 → (sI f i n).toInt.natAbs ≤ n * M
  | 0, _, _, _ => by
    show (0 : Int32).toInt.natAbs ≤ _
    rw [show (0 : Int32).toInt = 0 from by decide]
    exact Nat.zero_le _
  | n + 1, i, h, hM => by
    show (f i + sI f (i + 1) n).toInt.natAbs ≤ _
    rw [Nat.succ_mul] at hM ⊢
    have h1 := sI_b n (i + 1) (fun k g1 g2 => h k (by omega) (by omega)) (by omega)
    have h2 := h i (Nat.le_refl i) (by omega)
    rw [add_toInt (by omega) (by omega)]
    omega
theorem len_b {k : Nat} (h : k = 1 ∨ k = 2 ∨ k = 3 ∨ k = 4 ∨ k = 6 ∨ k = 12) : 0 < k ∧ k ≤ 12 := by omega
theorem cub_b : ∀ k : Nat, k < 13 → ∀ a : Nat, a < 13 → a < k → 99900 * (a * (k - a) * (k - a)) ≤ (k * k) * 177600 ∧ 99900 * (a * (k - a) * a) ≤ (k * k) * 177600 := by decide +kernel
theorem prA_b {k z a : Nat} (hk : 0 < k ∧ k ≤ 12) (ha : a < k) (hz : z ≤ 99 ∨ 0 < a ∧ z ≤ 999) : ∃ n : Nat, n ≤ 177600 ∧ prA (nI k) (nI z) (nI a) = nI n := by
  have hkk : k * k ≤ 12 * 12 := Nat.mul_le_mul hk.2 hk.2
  have hk0 : 0 < k * k := Nat.mul_pos hk.1 hk.1
  unfold prA
  by_cases h0 : a = 0
  · subst h0
    have h1 : z * (k * k) ≤ 99 * (12 * 12) := Nat.mul_le_mul (by omega) hkk
    have h2 : 100 * z * k * k = 100 * (z * (k * k)) := by simp only [Nat.mul_assoc]
    rw [if_pos (show nI 0 = 0 from rfl), show (100 : Int32) = nI 100 from rfl, l12_, pk_mul, pk_mul, pk_mul, pk_div (by omega) (by omega) (by omega)]
    exact ⟨_, by omega, rfl⟩
  · obtain ⟨h3, -⟩ := cub_b k (by omega) a (by omega) ha
    have h1 : 100 * z * (a * (k - a) * (k - a)) ≤ 99900 * (a * (k - a) * (k - a)) := Nat.mul_le_mul_right _ (by omega)
    have h2 : 100 * z * a * (k - a) * (k - a) = 100 * z * (a * (k - a) * (k - a)) := by simp only [Nat.mul_assoc]
    have h4 : k * k * 177600 ≤ 12 * 12 * 177600 := Nat.mul_le_mul_right _ hkk
    rw [if_neg (by rw [show (0 : Int32) = nI 0 from rfl, nI_eq (by omega) (by omega)]; exact h0), show (100 : Int32) = nI 100 from rfl, pk_mul, pk_mul, pk_sub (by omega), pk_mul, pk_mul, pk_mul, pk_div (by omega) hk0 (by omega)]
    exact ⟨_, Nat.div_le_of_le_mul (by omega), rfl⟩
theorem prB_b {k z a : Nat} (hk : 0 < k ∧ k ≤ 12) (ha : a < k) (hz : z ≤ 99 ∨ 0 < a ∧ z ≤ 999) : ∃ n : Nat, n ≤ 177600 ∧ prB (nI k) (nI z) (nI a) = nI n := by
  have hkk : k * k ≤ 12 * 12 := Nat.mul_le_mul hk.2 hk.2
  have hk0 : 0 < k * k := Nat.mul_pos hk.1 hk.1
  unfold prB
  by_cases h0 : a = 0
  · subst h0
    have h1 : z * (k * k) ≤ 99 * (12 * 12) := Nat.mul_le_mul (by omega) hkk
    have h2 : 100 * z * k * k = 100 * (z * (k * k)) := by simp only [Nat.mul_assoc]
    rw [if_pos (show nI 0 = 0 from rfl), show (100 : Int32) = nI 100 from rfl, l12_, pk_mul, pk_mul, pk_mul, pk_div (by omega) (by omega) (by omega)]
    exact ⟨_, by omega, rfl⟩
  · obtain ⟨-, h3⟩ := cub_b k (by omega) a (by omega) ha
    have h1 : 100 * z * (a * (k - a) * a) ≤ 99900 * (a * (k - a) * a) := Nat.mul_le_mul_right _ (by omega)
    have h2 : 100 * z * a * (k - a) * a = 100 * z * (a * (k - a) * a) := by simp only [Nat.mul_assoc]
    have h4 : k * k * 177600 ≤ 12 * 12 * 177600 := Nat.mul_le_mul_right _ hkk
    rw [if_neg (by rw [show (0 : Int32) = nI 0 from rfl, nI_eq (by omega) (by omega)]; exact h0), show (100 : Int32) = nI 100 from rfl, pk_mul, pk_mul, pk_sub (by omega), pk_mul, pk_mul, pk_mul, pk_div (by omega) hk0 (by omega)]
    exact ⟨_, Nat.div_le_of_le_mul (by omega), rfl⟩
theorem fiF_b {J B L : Nat} {fh fc fe fl fs fb fz fp : Nat → Int32} (hB : B ≤ 10) (v : VF J B L fh fc fe fl fs fb fz fp) (e : Nat) {i : Nat} (hi : i < L) : (fiF fl fb fz fp e i).toInt.natAbs ≤ 177600 := by
  obtain ⟨b, z, a, k, e1, e2, e3, e4, e5, e6, e7, e8⟩ := v.2.2.2.2.2.2 i hi
  obtain ⟨k', e9, hk⟩ := v.2.2.2.2.1 b e2
  have hk12 := len_b hk
  have hzb : z ≤ 99 ∨ 0 < a ∧ z ≤ 999 := e8
  have hke : k = k' := (nI_eq (by omega) (by omega)).mp (by rw [← e5, e9])
  subst hke
  obtain ⟨n1, g1, g2⟩ := prA_b hk12 e6.1 hzb
  obtain ⟨n2, g3, g4⟩ := prB_b hk12 e6.1 hzb
  unfold fiF
  rw [e1, nI_clamp (by omega), e3, e4, e9, g2, g4]
  split
  · split
    · rw [neg_toInt (by rw [nI_toInt (by omega)]; omega), nI_toInt (by omega)]
      omega
    · rw [nI_toInt (by omega)]
      omega
  · decide
theorem fg_b {J B L : Nat} {fh fc fe fl fs fb fz fp : Nat → Int32} (hB : B ≤ 10) (hL : L ≤ 8) (v : VF J B L fh fc fe fl fs fb fz fp) (e : Nat) : (fg fl fb fz fp L e).toInt.natAbs ≤ 1420800 := by
  have h1 := sI_b (f := fiF fl fb fz fp e) (M := 177600) L 0 (fun k _ hk => fiF_b hB v e (by omega)) (by omega)
  unfold fg
  omega
/-- OUT without sign, summed -/
def ph (bo : Nat → Int32) : Nat → Nat
  | 0 => 0
  | n + 1 => ph bo n + (bo n).toInt.natAbs
theorem ph_le {bo : Nat → Int32} {M : Nat} : ∀ n : Nat, (∀ j, j < n → (bo j).toInt.natAbs ≤ M) → ph bo n ≤ n * M
  | 0, _ => Nat.zero_le _
  | n + 1, h => by
    have h1 := ph_le n (fun j hj => h j (by omega))
    have h2 := h n (by omega)
    show ph bo n + _ ≤ _
    rw [Nat.succ_mul]
    omega
theorem ph_ge {bo : Nat → Int32} : ∀ (n j : Nat), j < n → (bo j).toInt.natAbs ≤ ph bo n
  | 0, _, h => by omega
  | n + 1, j, h => by
    show _ ≤ ph bo n + (bo n).toInt.natAbs
    by_cases e : j = n
    · subst e; omega
    · have := ph_ge (bo := bo) n j (by omega)
      omega
/-- the class's balance, and the reference's -/
def BI (J B : Nat) (fc fe fl fs mo ms : Nat → Int32) (mst mla : Int32) (bm be bo bn bk bs : Nat → Int32) (bst bla : Int32) : Prop :=
  (∀ e, e < 2 * B → bm e = mo e ∧ be e = kB fl fs (e / 2)) ∧ (∀ j, j < J → bn j = sI (atJ fe j (fun _ => 1)) 0 (2 * B) ∧ bk j = sI (atJ fe j (fun e => kB fl fs (e / 2))) 0 (2 * B) ∧ bo j = fc j + sI (atJ fe j mo) 0 (2 * B)) ∧ (∀ j, j < J → bs j = ms j) ∧ bst = mst ∧ bla = mla ∧ laP J bla ∧ ph bo J ≤ 1000000000
theorem anew_BI {J B L : Nat} {fh fc fe fl fs fb fz fp m : Nat → Int32} (h : RF 0 J B L fh fc fe fl fs fb fz fp m) (v : VF J B L fh fc fe fl fs fb fz fp) (bm0 be0 bo0 bn0 bk0 bs0 mo0 ms0 : Nat → Int32) (st : Int32) : ∃ bm be bo bn bk bs mo ms : Nat → Int32, FBa_anew bm0 be0 bo0 bn0 bk0 bs0 fc fe fl fs fb fz fp (nI B) (nI L) = some (bm, be, bo, bn, bk, bs, 0, -4) ∧ FMo_begins m mo0 ms0 st = some (st, mo, ms, 0, -4) ∧ BI J B fc fe fl fs mo ms 0 (-4) bm be bo bn bk bs 0 (-4) := by
  have hJ := h.1
  have hB := h.2.1
  have hL := h.2.2.1
  obtain ⟨bm, be, bo, bn, bk, bs, h1, h2, h3⟩ := anew_e h v bm0 be0 bo0 bn0 bk0 bs0
  obtain ⟨mo, ms, h4, h5, h6⟩ := begins_e h v mo0 ms0 st
  refine ⟨bm, be, bo, bn, bk, bs, mo, ms, h1, h4, fun e he => ?_, fun j hj => ?_, fun j hj => ?_, rfl, rfl, Or.inl rfl, ?_⟩
  · rw [h5 e he]
    exact h2 e he
  · obtain ⟨g1, g2, g3, g4⟩ := h3 j (by omega)
    refine ⟨g2, g3, ?_⟩
    rw [g1]
    congr 1
    apply sI_congr
    intro k _ hk
    unfold atJ
    rw [h5 k (by omega)]
  · rw [(h3 j (by omega)).2.2.2, h6 j (by omega)]
  · have hb : ∀ j, j < J → (bo j).toInt.natAbs ≤ 28425999 := by
      intro j hj
      rw [(h3 j (by omega)).1]
      have h7 := sI_b (f := atJ fe j (fg fl fb fz fp L)) (M := 1420800) (2 * B) 0 (fun k _ hk => by
        unfold atJ
        split
        · exact fg_b hB hL v k
        · decide) (by omega)
      have h8 := v.2.1 j hj
      rw [add_toInt (by omega) (by omega)]
      omega
    have := ph_le J hb
    have h9 : J * 28425999 ≤ 6 * 28425999 := Nat.mul_le_mul_right _ hJ
    omega
/-- what the readers want, out of the balance -/
theorem RO_of {J B L : Nat} {fh fc fe fl fs fb fz fp m mo ms bm be bo bn bk bs : Nat → Int32} {mst mla bst bla : Int32} (h : RF 0 J B L fh fc fe fl fs fb fz fp m) (v : VF J B L fh fc fe fl fs fb fz fp) (b : BI J B fc fe fl fs mo ms mst mla bm be bo bn bk bs bst bla) : RO J fh m mo bo bn bk := by
  refine ⟨h.1, Mo_joints h, fun j hj => ?_, fun j hj => ?_, fun j hj => ?_, fun j hj => ?_⟩
  · have := (h.2.2.2.2.2.2.1 j hj).1
    rw [Nat.zero_add] at this
    exact this
  · rw [(b.2.1 j hj).1]
    exact Mo_endsAt h j
  · rw [(b.2.1 j hj).2.1]
    exact Mo_stiffAt h v j
  · rw [(b.2.1 j hj).2.2]
    exact Mo_outOf h hj
theorem BI_min {J B : Nat} {fc fe fl fs mo ms bm be bo bn bk bs : Nat → Int32} {mst mla bst bla : Int32} (b : BI J B fc fe fl fs mo ms mst mla bm be bo bn bk bs bst bla) : ∀ j, j < J → -2147483648 < (bo j).toInt := by
  intro j hj
  have h1 := ph_ge (bo := bo) J j hj
  have h2 := b.2.2.2.2.2.2
  omega
