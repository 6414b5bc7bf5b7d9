/-! layer 2: the equations as the class solves them -/
theorem q4_ {q : Nat} (h : q < 4) : (0 : Int32) ≤ nI q ∧ ¬ nI q < 0 ∧ ¬ nI q = -4 := by
  rcases (show q = 0 ∨ q = 1 ∨ q = 2 ∨ q = 3 by omega) with rfl | rfl | rfl | rfl <;> decide
def Mx (J B : Nat) (fe fl fs : Nat → Int32) (p : Nat → Bool) (r c : Nat) : Int := if r = c then 2 * ((sN (at_ fe (jrF p J r) (kk fl fs)) (2 * B) : Nat) : Int) else ((Aj fe (kk fl fs) (jrF p J r) (jrF p J c) (2 * B) : Nat) : Int)
def ux (J B L : Nat) (fc fe fl fb fz fp : Nat → Int32) (p : Nat → Bool) (r : Nat) : Int := -(fc (jrF p J r)).toInt - Fj fe (fun d => (fg fl fb fz fp L d).toInt) (jrF p J r) (2 * B)
def Dx (J B : Nat) (fe fl fs : Nat → Int32) (p : Nat → Bool) : Int := DM (pm (rkN p J) (Mx J B fe fl fs p))
def Nx (J B L : Nat) (fc fe fl fs fb fz fp : Nat → Int32) (p : Nat → Bool) (q : Nat) : Int := DM (pm (rkN p J) (fun r c => if c = q then ux J B L fc fe fl fb fz fp p r else Mx J B fe fl fs p r c))
def Xx (J B L : Nat) (fc fe fl fs fb fz fp : Nat → Int32) (p : Nat → Bool) (j : Nat) : Int := if p j = true then Nx J B L fc fe fl fs fb fz fp p (rkN p j) else 0
theorem rowW_at {J B L : Nat} {fc fe fl fs fb fz fp : Nat → Int32} {p : Nat → Bool} {g : Nat → Nat → Int64} (h : ∀ i, i < J → p i = true → rowW J fc fe (kk fl fs) (fun d => (fg fl fb fz fp L d).toInt) p g (2 * B) i) : (∀ r c, r < rkN p J → c < rkN p J → g r c = zL (Mx J B fe fl fs p r c)) ∧ (∀ r, r < rkN p J → g r 4 = zL (ux J B L fc fe fl fb fz fp p r)) := by
  refine ⟨fun r c hr hc => ?_, fun r hr => ?_⟩
  · obtain ⟨a1, a2, a3⟩ := jr_s J hr
    obtain ⟨c1, c2, c3⟩ := jr_s J hc
    obtain ⟨w1, w2, -⟩ := h _ a1 a2
    unfold Mx
    by_cases e : r = c
    · subst e
      rw [if_pos rfl, ← w1, a3]
    · rw [if_neg e, ← w2 _ c1 c2 (fun z => e (by rw [← a3, ← c3, z])), a3, c3]
  · obtain ⟨a1, a2, a3⟩ := jr_s J hr
    obtain ⟨-, -, w3⟩ := h _ a1 a2
    unfold ux
    rw [← w3, a3]
theorem eqC {J B L : Nat} {fh fc fe fl fs fb fz fp m bn : Nat → Int32} (g : GF 0 J B L fh fc fe fl fs fb fz fp m) (hb : ∀ j, j < J → bn j = sI (atJ fe j (fun _ => 1)) 0 (2 * B)) (h4 : rkN (tq bn fh) J ≤ 4) (un0 : Nat → Int32) (g0 : Nat → Nat → Int64) : ∃ (un' : Nat → Int32) (g' : Nat → Nat → Int64), FEq_write un0 g0 fh fc fe fl fs fb fz fp (nI J) (nI B) (nI L) = some (un', nI (rkN (tq bn fh) J), g') ∧ FEq_determinant g' 8 (nI (rkN (tq bn fh) J)) (-4) 0 0 = some (zL (Dx J B fe fl fs (tq bn fh))) ∧ ∀ j, j < J → FEq_numerator un' (nI (rkN (tq bn fh) J)) g' (nI j) = some (zL (Xx J B L fc fe fl fs fb fz fp (tq bn fh) j)) := by
  have hJ := g.1.1
  have hB := g.1.2.1
  obtain ⟨un1, g1, e1, e2, e3⟩ := num7 (fh := fh) (fc := fc) hJ hB hb g.2.1.1 g.2.1.2.1 h4 1000 0 un0 g0 (by omega) (by omega) (fun i hi => absurd hi (by omega)) (fun i hi => absurd hi (by omega))
  obtain ⟨g2, e4, e5⟩ := write7 (n := rkN (tq bn fh) J) g.1 g.2.1 h4 e2 1000 0 g1 (by omega) (by omega) (fun i hi hp => by
    obtain ⟨w1, w2⟩ := e3 i hi hp
    have hr : ∀ j, j < J → tq bn fh j = true → rkN (tq bn fh) j < 4 := fun j hj hp => by
      have := rk_lt (p := tq bn fh) hp hj
      omega
    refine ⟨?_, fun i' hi' hp' _ => ?_, ?_⟩
    · rw [w1 _ (hr i hi hp)]; rfl
    · rw [w1 _ (hr i' hi' hp')]; rfl
    · rw [w2]
      show zL (-(fc i).toInt) = zL (-(fc i).toInt - 0)
      rw [Int.sub_zero])
  obtain ⟨f1, f2⟩ := rowW_at e5
  refine ⟨un1, g2, ?_, ?_, fun j hj => ?_⟩
  · unfold FEq_write FEq_number
    rw [show (0 : Int32) = nI (rkN (tq bn fh) 0) from rfl, show FEq_number_L7 fh fc fe (nI J) (nI B) 1000 (nI (rkN (tq bn fh) 0)) un0 (nI (rkN (tq bn fh) 0)) g0 = some (un1, nI (rkN (tq bn fh) J), g1) from e1]
    exact e4
  · refine detC h4 (fun r c hr hc => ?_)
    unfold cC
    rw [if_neg (q4_ (show c < 4 by omega)).2.2]
    exact f1 r c hr hc
  · unfold FEq_numerator Xx
    rw [nI_gd (by omega) (by omega), nI_gd (by omega) (by omega), nI_clamp (by omega), e2 j hj]
    by_cases hp : tq bn fh j = true
    · have hq : rkN (tq bn fh) j < rkN (tq bn fh) J := rk_lt hp hj
      rw [uI_pos hp, if_pos (q4_ (show rkN (tq bn fh) j < 4 by omega)).1, if_pos hp]
      rw [detC (m := fun r c => if c = rkN (tq bn fh) j then ux J B L fc fe fl fb fz fp (tq bn fh) r else Mx J B fe fl fs (tq bn fh) r c) h4 (fun r c hr hc => ?_)]
      · rfl
      · unfold cC
        by_cases e : c = rkN (tq bn fh) j
        · rw [if_pos (by rw [e]), if_pos e]
          exact f2 r hr
        · rw [if_neg (by rw [nI_eq (by omega) (by omega)]; exact e), if_neg e]
          exact f1 r c hr hc
    · rw [uI_neg hp, if_neg (by decide), if_neg hp]
      rfl
