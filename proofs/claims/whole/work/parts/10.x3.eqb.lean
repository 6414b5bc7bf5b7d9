/-! layer 2: what the solution is bounded by -/
def ii (J : Nat) (p : Nat → Bool) (r : Nat) : Nat := if r < rkN p J then jrF p J r else 100 + r
theorem ii_ne {J : Nat} {p : Nat → Bool} (hJ : J ≤ 6) {r c : Nat} (h : r ≠ c) : ii J p r ≠ ii J p c := by
  unfold ii
  by_cases h1 : r < rkN p J
  · obtain ⟨a1, a2, a3⟩ := jr_s J h1
    rw [if_pos h1]
    by_cases h2 : c < rkN p J
    · obtain ⟨b1, b2, b3⟩ := jr_s J h2
      rw [if_pos h2]
      intro z
      exact h (by rw [← a3, ← b3, z])
    · rw [if_neg h2]; omega
  · rw [if_neg h1]
    by_cases h2 : c < rkN p J
    · obtain ⟨b1, b2, b3⟩ := jr_s J h2
      rw [if_pos h2]; omega
    · rw [if_neg h2]; omega
theorem ii_lt {J : Nat} {p : Nat → Bool} (hJ : J ≤ 6) {r : Nat} (h : r < 4) : ii J p r < 1000 := by
  unfold ii
  by_cases h1 : r < rkN p J
  · obtain ⟨a1, a2, a3⟩ := jr_s J h1
    rw [if_pos h1]; omega
  · rw [if_neg h1]; omega
theorem pm_o {J B : Nat} {fe fl fs : Nat → Int32} {p : Nat → Bool} {r c : Nat} (h : r ≠ c) : 0 ≤ pm (rkN p J) (Mx J B fe fl fs p) r c ∧ pm (rkN p J) (Mx J B fe fl fs p) r c ≤ ((Aj fe (kk fl fs) (ii J p r) (ii J p c) (2 * B) : Nat) : Int) ∧ (¬ r < rkN p J → pm (rkN p J) (Mx J B fe fl fs p) r c = 0) := by
  unfold pm Mx ii
  by_cases q : r < rkN p J ∧ c < rkN p J
  · rw [if_pos q, if_neg h, if_pos q.1, if_pos q.2]
    exact ⟨by omega, by omega, fun z => absurd q.1 z⟩
  · rw [if_neg q, if_neg h]
    exact ⟨by omega, by omega, fun _ => rfl⟩
theorem pm_y {J B L : Nat} {fh fc fe fl fs fb fz fp : Nat → Int32} {p : Nat → Bool} (v : VF J B L fh fc fe fl fs fb fz fp) {r c : Nat} (h : r ≠ c) : pm (rkN p J) (Mx J B fe fl fs p) r c = pm (rkN p J) (Mx J B fe fl fs p) c r := by
  unfold pm Mx
  by_cases q : r < rkN p J ∧ c < rkN p J
  · rw [if_pos q, if_neg h, if_pos ⟨q.2, q.1⟩, if_neg (Ne.symm h), Aj_sym B (fun x hx => by
      unfold kk
      rw [show 2 * x / 2 = x by omega, show (2 * x + 1) / 2 = x by omega])]
  · rw [if_neg q, if_neg h, if_neg (fun z => q ⟨z.2, z.1⟩), if_neg (Ne.symm h)]
theorem S_pos {fe : Nat → Int32} {K : Nat → Nat} {j e : Nat} (h : fe e = nI j) (hK : 1 ≤ K e) : ∀ n : Nat, e < n → 1 ≤ sN (at_ fe j K) n := by
  intro n hn
  have h1 := sN_le (f := fun d => if d = e then 1 else 0) (g := at_ fe j K) n (fun d _ => by
    unfold at_
    by_cases q : d = e
    · subst q; rw [if_pos rfl, if_pos h]; exact hK
    · rw [if_neg q]; omega)
  have h2 : ∀ n : Nat, e < n → 1 ≤ sN (fun d => if d = e then 1 else 0) n := by
    intro n
    induction n with
    | zero => intro h; omega
    | succ n ih =>
      intro h
      show 1 ≤ sN (fun d => if d = e then 1 else 0) n + (if n = e then 1 else 0)
      by_cases q : n = e
      · rw [if_pos q]; omega
      · have := ih (by omega); omega
  have := h2 n hn
  omega
theorem pm_d {J B L : Nat} {fh fc fe fl fs fb fz fp bn : Nat → Int32} (hB : B ≤ 10) (v : VF J B L fh fc fe fl fs fb fz fp) (hb : ∀ j, j < J → bn j = sI (atJ fe j (fun _ => 1)) 0 (2 * B)) (r : Nat) : 1 ≤ pm (rkN (tq bn fh) J) (Mx J B fe fl fs (tq bn fh)) r r ∧ pm (rkN (tq bn fh) J) (Mx J B fe fl fs (tq bn fh)) r r ≤ 2 * ((sN (at_ fe (ii J (tq bn fh) r) (kk fl fs)) (2 * B) : Nat) : Int) + 1 ∧ (r < rkN (tq bn fh) J → pm (rkN (tq bn fh) J) (Mx J B fe fl fs (tq bn fh)) r r = 2 * ((sN (at_ fe (ii J (tq bn fh) r) (kk fl fs)) (2 * B) : Nat) : Int)) := by
  unfold pm Mx ii
  by_cases q : r < rkN (tq bn fh) J
  · rw [if_pos ⟨q, q⟩, if_pos rfl, if_pos q]
    obtain ⟨a1, a2, a3⟩ := jr_s J q
    obtain ⟨-, x, -, x2, x3⟩ := (tq_ends hB hb a1).mp a2
    have := S_pos (K := kk fl fs) x3 (kk_e v x2).2.1 (2 * B) x2
    exact ⟨by omega, by omega, fun _ => rfl⟩
  · rw [if_neg (fun z => q z.1), if_pos rfl]
    exact ⟨by omega, by omega, fun z => absurd z q⟩
theorem pm_r {J B L : Nat} {fh fc fe fl fs fb fz fp bn : Nat → Int32} (hJ : J ≤ 6) (hB : B ≤ 10) (v : VF J B L fh fc fe fl fs fb fz fp) (hb : ∀ j, j < J → bn j = sI (atJ fe j (fun _ => 1)) 0 (2 * B)) {r c1 c2 c3 : Nat} (h1 : r ≠ c1) (h2 : r ≠ c2) (h3 : r ≠ c3) (k1 : c1 ≠ c2) (k2 : c1 ≠ c3) (k3 : c2 ≠ c3) (l1 : c1 < 4) (l2 : c2 < 4) (l3 : c3 < 4) : 2 * (pm (rkN (tq bn fh) J) (Mx J B fe fl fs (tq bn fh)) r c1 + pm (rkN (tq bn fh) J) (Mx J B fe fl fs (tq bn fh)) r c2 + pm (rkN (tq bn fh) J) (Mx J B fe fl fs (tq bn fh)) r c3) ≤ pm (rkN (tq bn fh) J) (Mx J B fe fl fs (tq bn fh)) r r := by
  have d := pm_d hB v hb r
  have o1 := pm_o (J := J) (B := B) (fe := fe) (fl := fl) (fs := fs) (p := tq bn fh) h1
  have o2 := pm_o (J := J) (B := B) (fe := fe) (fl := fl) (fs := fs) (p := tq bn fh) h2
  have o3 := pm_o (J := J) (B := B) (fe := fe) (fl := fl) (fs := fs) (p := tq bn fh) h3
  by_cases q : r < rkN (tq bn fh) J
  · have a := A3_b (B := B) (fe := fe) (K := kk fl fs) (i := ii J (tq bn fh) r) (ii_ne (p := tq bn fh) hJ k1) (ii_ne (p := tq bn fh) hJ k2) (ii_ne (p := tq bn fh) hJ k3) ⟨ii_lt hJ l1, ii_lt hJ l2, ii_lt hJ l3⟩
    rw [d.2.2 q]
    have o1' := o1.2.1
    have o2' := o2.2.1
    have o3' := o3.2.1
    clear o1 o2 o3 d v hb
    omega
  · rw [o1.2.2 q, o2.2.2 q, o3.2.2 q]
    have := d.1
    clear o1 o2 o3 d v hb
    omega
theorem pm_s {J B L : Nat} {fh fc fe fl fs fb fz fp bn : Nat → Int32} (hJ : J ≤ 6) (hB : B ≤ 10) (v : VF J B L fh fc fe fl fs fb fz fp) (hb : ∀ j, j < J → bn j = sI (atJ fe j (fun _ => 1)) 0 (2 * B)) : pm (rkN (tq bn fh) J) (Mx J B fe fl fs (tq bn fh)) 0 0 + pm (rkN (tq bn fh) J) (Mx J B fe fl fs (tq bn fh)) 1 1 + pm (rkN (tq bn fh) J) (Mx J B fe fl fs (tq bn fh)) 2 2 + pm (rkN (tq bn fh) J) (Mx J B fe fl fs (tq bn fh)) 3 3 ≤ 4804 := by
  have d0 := (pm_d hB v hb 0).2.1
  have d1 := (pm_d hB v hb 1).2.1
  have d2 := (pm_d hB v hb 2).2.1
  have d3 := (pm_d hB v hb 3).2.1
  have s := S4_b (B := B) (fe := fe) (K := kk fl fs) (i0 := ii J (tq bn fh) 0) (i1 := ii J (tq bn fh) 1) (i2 := ii J (tq bn fh) 2) (i3 := ii J (tq bn fh) 3) hB (fun e he => (kk_e v he).2.2) (ii_ne hJ (by omega)) (ii_ne hJ (by omega)) (ii_ne hJ (by omega)) (ii_ne hJ (by omega)) (ii_ne hJ (by omega)) (ii_ne hJ (by omega)) ⟨ii_lt hJ (by omega), ii_lt hJ (by omega), ii_lt hJ (by omega), ii_lt hJ (by omega)⟩
  clear v hb
  omega
theorem Dx_b {J B L : Nat} {fh fc fe fl fs fb fz fp bn : Nat → Int32} (hJ : J ≤ 6) (hB : B ≤ 10) (v : VF J B L fh fc fe fl fs fb fz fp) (hb : ∀ j, j < J → bn j = sI (atJ fe j (fun _ => 1)) 0 (2 * B)) : 0 < Dx J B fe fl fs (tq bn fh) ∧ Dx J B fe fl fs (tq bn fh) ≤ 2080520644801 := by
  have y := @pm_y J B L fh fc fe fl fs fb fz fp (tq bn fh) v
  have d := fun r => (pm_d hB v hb r).1
  have o := fun r c h => (@pm_o J B fe fl fs (tq bn fh) r c h).1
  have rr := @pm_r J B L fh fc fe fl fs fb fz fp bn hJ hB v hb
  have ss := pm_s hJ hB v hb
  unfold Dx DM
  generalize pm (rkN (tq bn fh) J) (Mx J B fe fl fs (tq bn fh)) = P at *
  rw [← @y 0 1 (by omega), ← @y 0 2 (by omega), ← @y 0 3 (by omega), ← @y 1 2 (by omega), ← @y 1 3 (by omega), ← @y 2 3 (by omega)]
  have r0 := @rr 0 1 2 3 (by omega) (by omega) (by omega) (by omega) (by omega) (by omega) (by omega) (by omega) (by omega)
  have r1 := @rr 1 0 2 3 (by omega) (by omega) (by omega) (by omega) (by omega) (by omega) (by omega) (by omega) (by omega)
  have r2 := @rr 2 0 1 3 (by omega) (by omega) (by omega) (by omega) (by omega) (by omega) (by omega) (by omega) (by omega)
  have r3 := @rr 3 0 1 2 (by omega) (by omega) (by omega) (by omega) (by omega) (by omega) (by omega) (by omega) (by omega)
  rw [← @y 0 1 (by omega)] at r1
  rw [← @y 0 2 (by omega), ← @y 1 2 (by omega)] at r2
  rw [← @y 0 3 (by omega), ← @y 1 3 (by omega), ← @y 2 3 (by omega)] at r3
  have h := det_b (o 0 1 (by omega)) (o 0 2 (by omega)) (o 0 3 (by omega)) (o 1 2 (by omega)) (o 1 3 (by omega)) (o 2 3 (by omega)) (d 0) (d 1) (d 2) (d 3) r0 r1 r2 r3
  have d0 := d 0
  have d1 := d 1
  have d2 := d 2
  have d3 := d 3
  have a := am4 (x := P 0 0) (y := P 1 1) (z := P 2 2) (w := P 3 3) (by omega) (by omega) (by omega) (by omega) ss
  exact ⟨h.1, Int.le_trans h.2 a⟩
theorem DM_c0 (P : Nat → Nat → Int) (U : Nat → Int) : DM (fun r c => if c = 0 then U r else P r c) = D4 (U 0) (P 0 1) (P 0 2) (P 0 3) (U 1) (P 1 1) (P 1 2) (P 1 3) (U 2) (P 2 1) (P 2 2) (P 2 3) (U 3) (P 3 1) (P 3 2) (P 3 3) := rfl
theorem DM_c1 (P : Nat → Nat → Int) (U : Nat → Int) : DM (fun r c => if c = 1 then U r else P r c) = D4 (P 0 0) (U 0) (P 0 2) (P 0 3) (P 1 0) (U 1) (P 1 2) (P 1 3) (P 2 0) (U 2) (P 2 2) (P 2 3) (P 3 0) (U 3) (P 3 2) (P 3 3) := rfl
theorem DM_c2 (P : Nat → Nat → Int) (U : Nat → Int) : DM (fun r c => if c = 2 then U r else P r c) = D4 (P 0 0) (P 0 1) (U 0) (P 0 3) (P 1 0) (P 1 1) (U 1) (P 1 3) (P 2 0) (P 2 1) (U 2) (P 2 3) (P 3 0) (P 3 1) (U 3) (P 3 3) := rfl
theorem DM_c3 (P : Nat → Nat → Int) (U : Nat → Int) : DM (fun r c => if c = 3 then U r else P r c) = D4 (P 0 0) (P 0 1) (P 0 2) (U 0) (P 1 0) (P 1 1) (P 1 2) (U 1) (P 2 0) (P 2 1) (P 2 2) (U 2) (P 3 0) (P 3 1) (P 3 2) (U 3) := rfl
theorem Nx_b {J B L : Nat} {fh fc fe fl fs fb fz fp bn : Nat → Int32} (hJ : J ≤ 6) (hB : B ≤ 10) (hL : L ≤ 8) (v : VF J B L fh fc fe fl fs fb fz fp) (hb : ∀ j, j < J → bn j = sI (atJ fe j (fun _ => 1)) 0 (2 * B)) (h4 : rkN (tq bn fh) J ≤ 4) {q : Nat} (hq : q < rkN (tq bn fh) J) : -11750432598120528 ≤ Nx J B L fc fe fl fs fb fz fp (tq bn fh) q ∧ Nx J B L fc fe fl fs fb fz fp (tq bn fh) q ≤ 11750432598120528 := by
  have y := @pm_y J B L fh fc fe fl fs fb fz fp (tq bn fh) v
  have d := fun r => (pm_d hB v hb r).1
  have o := fun r c h => (@pm_o J B fe fl fs (tq bn fh) r c h).1
  have rr := @pm_r J B L fh fc fe fl fs fb fz fp bn hJ hB v hb
  have ss := pm_s hJ hB v hb
  have hu : ∀ r, r < 4 → -1430799 ≤ (if r < rkN (tq bn fh) J then ux J B L fc fe fl fb fz fp (tq bn fh) r else 0) ∧ (if r < rkN (tq bn fh) J then ux J B L fc fe fl fb fz fp (tq bn fh) r else 0) ≤ 1430799 := fun r _ => by
    by_cases e : r < rkN (tq bn fh) J
    · rw [if_pos e]
      obtain ⟨a1, a2, a3⟩ := jr_s J e
      have f1 := Fj_b hB hL hJ v a1
      have f2 := v.2.1 _ a1
      unfold ux
      clear y d o rr ss
      omega
    · rw [if_neg e]; omega
  have hN : Nx J B L fc fe fl fs fb fz fp (tq bn fh) q = DM (fun r c => if c = q then (if r < rkN (tq bn fh) J then ux J B L fc fe fl fb fz fp (tq bn fh) r else 0) else pm (rkN (tq bn fh) J) (Mx J B fe fl fs (tq bn fh)) r c) := by
    unfold Nx
    apply DM_congr
    intro r c h1 h2
    unfold pm
    by_cases e : c = q
    · subst e
      rw [if_pos rfl]
      by_cases e2 : r < rkN (tq bn fh) J
      · rw [if_pos ⟨e2, hq⟩, if_pos e2]
        exact if_pos rfl
      · rw [if_neg (fun z => e2 z.1), if_neg e2, if_neg (by omega)]
    · rw [if_neg e]
      by_cases e2 : r < rkN (tq bn fh) J ∧ c < rkN (tq bn fh) J
      · rw [if_pos e2, if_pos e2]
        exact if_neg e
      · rw [if_neg e2, if_neg e2]
  rw [hN]
  have hq4 : q < 4 := by omega
  clear hN
  generalize pm (rkN (tq bn fh) J) (Mx J B fe fl fs (tq bn fh)) = P at *
  have r0 := @rr 0 1 2 3 (by omega) (by omega) (by omega) (by omega) (by omega) (by omega) (by omega) (by omega) (by omega)
  have r1 := @rr 1 0 2 3 (by omega) (by omega) (by omega) (by omega) (by omega) (by omega) (by omega) (by omega) (by omega)
  have r2 := @rr 2 0 1 3 (by omega) (by omega) (by omega) (by omega) (by omega) (by omega) (by omega) (by omega) (by omega)
  have r3 := @rr 3 0 1 2 (by omega) (by omega) (by omega) (by omega) (by omega) (by omega) (by omega) (by omega) (by omega)
  rw [← @y 0 1 (by omega)] at r1
  rw [← @y 0 2 (by omega), ← @y 1 2 (by omega)] at r2
  rw [← @y 0 3 (by omega), ← @y 1 3 (by omega), ← @y 2 3 (by omega)] at r3
  have d0 := d 0
  have d1 := d 1
  have d2 := d 2
  have d3 := d 3
  have a0 := am3 (x := P 1 1) (y := P 2 2) (z := P 3 3) (by omega) (by omega) (by omega) (by omega)
  have a1 := am3 (x := P 0 0) (y := P 2 2) (z := P 3 3) (by omega) (by omega) (by omega) (by omega)
  have a2 := am3 (x := P 0 0) (y := P 1 1) (z := P 3 3) (by omega) (by omega) (by omega) (by omega)
  have a3 := am3 (x := P 0 0) (y := P 1 1) (z := P 2 2) (by omega) (by omega) (by omega) (by omega)
  obtain ⟨M, m0, m1, m2, m3, m4⟩ := cram_b (o 0 1 (by omega)) (o 0 2 (by omega)) (o 0 3 (by omega)) (o 1 2 (by omega)) (o 1 3 (by omega)) (o 2 3 (by omega)) d0 d1 d2 d3 r0 r1 r2 r3 (show (0 : Int) ≤ 1430799 by omega) (hu 0 (by omega)) (hu 1 (by omega)) (hu 2 (by omega)) (hu 3 (by omega)) a0 a1 a2 a3
  have m0' : M ≤ 11750432598120528 := Int.le_trans m0 (by decide)
  unfold N1 at m1
  unfold N2 at m2
  unfold N3 at m3
  unfold N4 at m4
  have go : ∀ x : Int, (-M ≤ x ∧ x ≤ M) → -11750432598120528 ≤ x ∧ x ≤ 11750432598120528 := fun x hx => by
    clear m1 m2 m3 m4 a0 a1 a2 a3 r0 r1 r2 r3 d0 d1 d2 d3 m0 ss hu v hb
    omega
  apply go
  rcases (show q = 0 ∨ q = 1 ∨ q = 2 ∨ q = 3 by omega) with rfl | rfl | rfl | rfl
  · rw [DM_c0 P (fun r => if r < rkN (tq bn fh) J then ux J B L fc fe fl fb fz fp (tq bn fh) r else 0), ← @y 1 2 (by omega), ← @y 1 3 (by omega), ← @y 2 3 (by omega)]
    exact m1
  · rw [DM_c1 P (fun r => if r < rkN (tq bn fh) J then ux J B L fc fe fl fb fz fp (tq bn fh) r else 0), ← @y 0 2 (by omega), ← @y 0 3 (by omega), ← @y 0 1 (by omega), ← @y 2 3 (by omega)]
    exact m2
  · rw [DM_c2 P (fun r => if r < rkN (tq bn fh) J then ux J B L fc fe fl fb fz fp (tq bn fh) r else 0), ← @y 0 1 (by omega), ← @y 0 3 (by omega), ← @y 0 2 (by omega), ← @y 1 3 (by omega), ← @y 1 2 (by omega)]
    exact m3
  · rw [DM_c3 P (fun r => if r < rkN (tq bn fh) J then ux J B L fc fe fl fb fz fp (tq bn fh) r else 0), ← @y 0 1 (by omega), ← @y 0 2 (by omega), ← @y 1 2 (by omega), ← @y 0 3 (by omega), ← @y 1 3 (by omega), ← @y 2 3 (by omega)]
    exact m4
