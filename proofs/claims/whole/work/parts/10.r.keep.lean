/-! layer 2: keep, back -/
theorem c00 : (0 : Int32).toNatClampNeg = 0 := rfl
theorem c11 : (1 : Int32).toNatClampNeg = 1 := rfl
theorem g02 {α : Type} {k : Option α} : gd_ (0 : Int32) 2 k = k := nI_gd (i := 0) (by omega) (by omega)
theorem g12 {α : Type} {k : Option α} : gd_ (1 : Int32) 2 k = k := nI_gd (i := 1) (by omega) (by omega)
theorem t00 : ((0 : Int32) = 0) = True := eq_true rfl
theorem t11 : ((1 : Int32) = 1) = True := eq_true rfl
theorem nb1 : vp_nar .boolean 1 = 1 := rfl
theorem nb0 : vp_nar .boolean 0 = 0 := rfl
def kv (x : Int32) : Int32 := if x = 0 then 0 else 1
theorem Jm_keep0 {J B L : Nat} {fh fc fe fl fs fb fz fp xk h0 c0 e0 l0 s0 b0 z0 p0 h1 c1 e1 l1 s1 b1 z1 p1 : Nat → Int32} {j0 n0 d0 j1 n1 d1 : Int32} (hh : ∀ i, i < 6 → (fh i = 0 ∨ fh i = 1)) (hk : FJm_isImage 0 = some 1) : FJm_keep xk fh fc fe fl fs fb fz fp (nI J) (nI B) (nI L) h0 c0 e0 l0 s0 b0 z0 p0 j0 n0 d0 h1 c1 e1 l1 s1 b1 z1 p1 j1 n1 d1 0 = some (kv (xk 0), upd xk 0 1, va_cpy fh h0 0 0 6, va_cpy fc c0 0 0 6, va_cpy fe e0 0 0 20, va_cpy fl l0 0 0 10, va_cpy fs s0 0 0 10, va_cpy fb b0 0 0 8, va_cpy fz z0 0 0 8, va_cpy fp p0 0 0 8, nI J, nI B, nI L, h1, c1, e1, l1, s1, b1, z1, p1, j1, n1, d1) := by
  unfold FJm_keep
  rw [hk]
  simp only [lt_eq2, b1_so2, n10_, if_false, if_true, Fr_copy hh, g02, g12, c00, c11, t00, t11, nb1]
  unfold kv
  split <;> rfl
theorem Jm_keep1 {J B L : Nat} {fh fc fe fl fs fb fz fp xk h0 c0 e0 l0 s0 b0 z0 p0 h1 c1 e1 l1 s1 b1 z1 p1 : Nat → Int32} {j0 n0 d0 j1 n1 d1 : Int32} (hh : ∀ i, i < 6 → (fh i = 0 ∨ fh i = 1)) (hk : FJm_isImage 1 = some 1) : FJm_keep xk fh fc fe fl fs fb fz fp (nI J) (nI B) (nI L) h0 c0 e0 l0 s0 b0 z0 p0 j0 n0 d0 h1 c1 e1 l1 s1 b1 z1 p1 j1 n1 d1 1 = some (kv (xk 1), upd xk 1 1, h0, c0, e0, l0, s0, b0, z0, p0, j0, n0, d0, va_cpy fh h1 0 0 6, va_cpy fc c1 0 0 6, va_cpy fe e1 0 0 20, va_cpy fl l1 0 0 10, va_cpy fs s1 0 0 10, va_cpy fb b1 0 0 8, va_cpy fz z1 0 0 8, va_cpy fp p1 0 0 8, nI J, nI B, nI L) := by
  unfold FJm_keep
  rw [hk]
  simp only [lt_eq2, b1_so2, n10_, if_false, if_true, Fr_copy hh, g02, g12, c00, c11, t00, t11, nb1]
  unfold kv
  split <;> rfl
theorem Mo_keep0 {m mk m1 : Nat → Int32} (hk : FMo_in (0 : Int32).toInt64 0 1 = some 1) (hc : FMo_copies m 0 (nI 79) = some m1) : FMo_keep m mk 0 = some (kv (mk 0), m1, upd mk 0 1) := by
  unfold FMo_keep
  rw [hk]
  simp only [lt_eq2, b1_so2, n10_, if_false, if_true, g02, g12, c00, c11, nb1, show ((79 : Int32) * 0) + 79 = nI 79 from by decide, hc]
  unfold kv
  split <;> rfl
theorem Mo_keep1 {m mk m1 : Nat → Int32} (hk : FMo_in (1 : Int32).toInt64 0 1 = some 1) (hc : FMo_copies m 0 (nI 158) = some m1) : FMo_keep m mk 1 = some (kv (mk 1), m1, upd mk 1 1) := by
  unfold FMo_keep
  rw [hk]
  simp only [lt_eq2, b1_so2, n10_, if_false, if_true, g02, g12, c00, c11, nb1, show ((79 : Int32) * 1) + 79 = nI 158 from by decide, hc]
  unfold kv
  split <;> rfl
theorem Jm_keep {J B L : Nat} {fh fc fe fl fs fb fz fp m xk mk h0 c0 e0 l0 s0 b0 z0 p0 h1 c1 e1 l1 s1 b1 z1 p1 : Nat → Int32} {j0 n0 d0 j1 n1 d1 : Int32} (g : GF 0 J B L fh fc fe fl fs fb fz fp m) (i0 : IM 79 (xk 0) (mk 0) h0 c0 e0 l0 s0 b0 z0 p0 j0 n0 d0 m) (i1 : IM 158 (xk 1) (mk 1) h1 c1 e1 l1 s1 b1 z1 p1 j1 n1 d1 m) (a : Int32) : ∃ (r : Int32) (xk' h0' c0' e0' l0' s0' b0' z0' p0' h1' c1' e1' l1' s1' b1' z1' p1' m' mk' : Nat → Int32) (j0' n0' d0' j1' n1' d1' : Int32), FJm_keep xk fh fc fe fl fs fb fz fp (nI J) (nI B) (nI L) h0 c0 e0 l0 s0 b0 z0 p0 j0 n0 d0 h1 c1 e1 l1 s1 b1 z1 p1 j1 n1 d1 a = some (r, xk', h0', c0', e0', l0', s0', b0', z0', p0', j0', n0', d0', h1', c1', e1', l1', s1', b1', z1', p1', j1', n1', d1') ∧ FMo_keep m mk a = some (r, m', mk') ∧ GF 0 J B L fh fc fe fl fs fb fz fp m' ∧ IM 79 (xk' 0) (mk' 0) h0' c0' e0' l0' s0' b0' z0' p0' j0' n0' d0' m' ∧ IM 158 (xk' 1) (mk' 1) h1' c1' e1' l1' s1' b1' z1' p1' j1' n1' d1' m' := by
  rcases isImage_c a with ⟨rfl, q1, q2⟩ | ⟨rfl, q1, q2⟩ | ⟨q1, q2⟩
  · obtain ⟨m', w1, w2, w3⟩ := copies_e (P := 0) (Q := 79) (by omega) (by omega) (by omega) m
    refine ⟨kv (xk 0), upd xk 0 1, _, _, _, _, _, _, _, _, _, _, _, _, _, _, _, _, m', upd mk 0 1, _, _, _, _, _, _, Jm_keep0 g.2.1.1 q1, ?_, ?_, ?_, ?_⟩
    · rw [i0.1]; exact Mo_keep0 q2 w1
    · exact GF_copy g (fun x hx => w3 (0 + x) (by omega)) (fun _ _ => rfl) (fun _ _ => rfl) (fun _ _ => rfl) (fun _ _ => rfl) (fun _ _ => rfl) (fun _ _ => rfl) (fun _ _ => rfl) (fun _ _ => rfl)
    · exact ⟨by rw [pk_us, pk_us], Or.inr pk_us, fun _ => ⟨J, B, L, rfl, rfl, rfl, GF_cpy g w2⟩⟩
    · rw [pk_un (show 1 ≠ 0 by omega), pk_un (show 1 ≠ 0 by omega)]
      exact IM_keep i1 (fun x hx => w3 (158 + x) (by omega))
  · obtain ⟨m', w1, w2, w3⟩ := copies_e (P := 0) (Q := 158) (by omega) (by omega) (by omega) m
    refine ⟨kv (xk 1), upd xk 1 1, _, _, _, _, _, _, _, _, _, _, _, _, _, _, _, _, m', upd mk 1 1, _, _, _, _, _, _, Jm_keep1 g.2.1.1 q1, ?_, ?_, ?_, ?_⟩
    · rw [i1.1]; exact Mo_keep1 q2 w1
    · exact GF_copy g (fun x hx => w3 (0 + x) (by omega)) (fun _ _ => rfl) (fun _ _ => rfl) (fun _ _ => rfl) (fun _ _ => rfl) (fun _ _ => rfl) (fun _ _ => rfl) (fun _ _ => rfl) (fun _ _ => rfl)
    · rw [pk_un (show 0 ≠ 1 by omega), pk_un (show 0 ≠ 1 by omega)]
      exact IM_keep i0 (fun x hx => w3 (79 + x) (by omega))
    · exact ⟨by rw [pk_us, pk_us], Or.inr pk_us, fun _ => ⟨J, B, L, rfl, rfl, rfl, GF_cpy g w2⟩⟩
  · refine ⟨-1, xk, h0, c0, e0, l0, s0, b0, z0, p0, h1, c1, e1, l1, s1, b1, z1, p1, m, mk, j0, n0, d0, j1, n1, d1, ?_, ?_, g, i0, i1⟩
    · unfold FJm_keep
      rw [q1]; rfl
    · unfold FMo_keep
      rw [q2]; rfl
theorem Jm_back {J B L : Nat} {fh fc fe fl fs fb fz fp m mo ms bm be bo bn bk bs xk mk h0 c0 e0 l0 s0 b0 z0 p0 h1 c1 e1 l1 s1 b1 z1 p1 : Nat → Int32} {mst mla bst bla j0 n0 d0 j1 n1 d1 : Int32} (g : GF 0 J B L fh fc fe fl fs fb fz fp m) (b : BI J B fc fe fl fs mo ms mst mla bm be bo bn bk bs bst bla) (i0 : IM 79 (xk 0) (mk 0) h0 c0 e0 l0 s0 b0 z0 p0 j0 n0 d0 m) (i1 : IM 158 (xk 1) (mk 1) h1 c1 e1 l1 s1 b1 z1 p1 j1 n1 d1 m) (a : Int32) : ∃ (r : Int32) (J' B' L' : Nat) (bm' be' bo' bn' bk' bs' fh' fc' fe' fl' fs' fb' fz' fp' m' mo' ms' : Nat → Int32) (bst' bla' mst' mla' : Int32), FJm_back xk bm be bo bn bk bs bst bla fh fc fe fl fs fb fz fp (nI J) (nI B) (nI L) h0 c0 e0 l0 s0 b0 z0 p0 j0 n0 d0 h1 c1 e1 l1 s1 b1 z1 p1 j1 n1 d1 a = some (r, bm', be', bo', bn', bk', bs', bst', bla', fh', fc', fe', fl', fs', fb', fz', fp', nI J', nI B', nI L') ∧ FMo_back m mo ms mst mla mk a = some (r, m', mo', ms', mst', mla') ∧ GF 0 J' B' L' fh' fc' fe' fl' fs' fb' fz' fp' m' ∧ BI J' B' fc' fe' fl' fs' mo' ms' mst' mla' bm' be' bo' bn' bk' bs' bst' bla' ∧ pg m m' := by
  rcases isImage_c a with ⟨rfl, q1, q2⟩ | ⟨rfl, q1, q2⟩ | ⟨q1, q2⟩
  · by_cases hk : xk 0 = 0
    · refine ⟨-2, J, B, L, bm, be, bo, bn, bk, bs, fh, fc, fe, fl, fs, fb, fz, fp, m, mo, ms, bst, bla, mst, mla, ?_, ?_, g, b, fun _ _ _ => rfl⟩
      · unfold FJm_back
        rw [q1]
        simp only [lt_eq2, b1_so2, n10_, if_false, if_true, g02, g12, c00, c11, hk]
      · have hk2 : mk 0 = 0 := by rw [← i0.1]; exact hk
        unfold FMo_back
        rw [q2]
        simp only [lt_eq2, b1_so2, n10_, if_false, if_true, g02, g12, c00, c11, hk2]
    · obtain ⟨J', B', L', rfl, rfl, rfl, gi⟩ := i0.2.2 hk
      obtain ⟨m', w1, w2, w3⟩ := copies_e (P := 79) (Q := 0) (by omega) (by omega) (by omega) m
      have g' := GF_cpy (gh := fh) (gc := fc) (ge := fe) (gl := fl) (gs := fs) (gb := fb) (gz := fz) (gp := fp) gi w2
      obtain ⟨bm', be', bo', bn', bk', bs', mo', ms', h9, h10, h11⟩ := anew_BI g'.1 g'.2.1 bm be bo bn bk bs mo ms mst
      refine ⟨nI J', J', B', L', bm', be', bo', bn', bk', bs', _, _, _, _, _, _, _, _, m', mo', ms', 0, -4, 0, -4, ?_, ?_, g', h11, fun i hi _ => w3 i (by omega)⟩
      · unfold FJm_back
        rw [q1]
        simp only [lt_eq2, b1_so2, n10_, if_false, if_true, g02, g12, c00, c11, t00, t11, hk, Fr_copy gi.2.1.1]
        show b8_ (FBa_anew _ _ _ _ _ _ _ _ _ _ _ _ _ _ _) _ = _
        rw [h9]; rfl
      · have hk2 : ¬ mk 0 = 0 := by rw [← i0.1]; exact hk
        have w1' : FMo_copies m (nI 79) 0 = some m' := w1
        unfold FMo_back
        rw [q2]
        simp only [lt_eq2, b1_so2, n10_, if_false, if_true, g02, g12, c00, c11, hk2, show ((79 : Int32) * 0) + 79 = nI 79 from by decide, w1', h10, Mo_joints g'.1]
        rfl
  · by_cases hk : xk 1 = 0
    · refine ⟨-2, J, B, L, bm, be, bo, bn, bk, bs, fh, fc, fe, fl, fs, fb, fz, fp, m, mo, ms, bst, bla, mst, mla, ?_, ?_, g, b, fun _ _ _ => rfl⟩
      · unfold FJm_back
        rw [q1]
        simp only [lt_eq2, b1_so2, n10_, if_false, if_true, g02, g12, c00, c11, hk]
      · have hk2 : mk 1 = 0 := by rw [← i1.1]; exact hk
        unfold FMo_back
        rw [q2]
        simp only [lt_eq2, b1_so2, n10_, if_false, if_true, g02, g12, c00, c11, hk2]
    · obtain ⟨J', B', L', rfl, rfl, rfl, gi⟩ := i1.2.2 hk
      obtain ⟨m', w1, w2, w3⟩ := copies_e (P := 158) (Q := 0) (by omega) (by omega) (by omega) m
      have g' := GF_cpy (gh := fh) (gc := fc) (ge := fe) (gl := fl) (gs := fs) (gb := fb) (gz := fz) (gp := fp) gi w2
      obtain ⟨bm', be', bo', bn', bk', bs', mo', ms', h9, h10, h11⟩ := anew_BI g'.1 g'.2.1 bm be bo bn bk bs mo ms mst
      refine ⟨nI J', J', B', L', bm', be', bo', bn', bk', bs', _, _, _, _, _, _, _, _, m', mo', ms', 0, -4, 0, -4, ?_, ?_, g', h11, fun i hi _ => w3 i (by omega)⟩
      · unfold FJm_back
        rw [q1]
        simp only [lt_eq2, b1_so2, n10_, if_false, if_true, g02, g12, c00, c11, t00, t11, hk, Fr_copy gi.2.1.1]
        show b8_ (FBa_anew _ _ _ _ _ _ _ _ _ _ _ _ _ _ _) _ = _
        rw [h9]; rfl
      · have hk2 : ¬ mk 1 = 0 := by rw [← i1.1]; exact hk
        have w1' : FMo_copies m (nI 158) 0 = some m' := w1
        unfold FMo_back
        rw [q2]
        simp only [lt_eq2, b1_so2, n10_, if_false, if_true, g02, g12, c00, c11, hk2, show ((79 : Int32) * 1) + 79 = nI 158 from by decide, w1', h10, Mo_joints g'.1]
        rfl
  · refine ⟨-1, J, B, L, bm, be, bo, bn, bk, bs, fh, fc, fe, fl, fs, fb, fz, fp, m, mo, ms, bst, bla, mst, mla, ?_, ?_, g, b, fun _ _ _ => rfl⟩
    · unfold FJm_back
      rw [q1]; rfl
    · unfold FMo_back
      rw [q2]; rfl
