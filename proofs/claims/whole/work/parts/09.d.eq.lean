/-! new long[4][5]: over the wide library -/
theorem arrV_ext {c : ClassId} {N : Nat} {f g : Nat → Value} (h : ∀ j, j < N → f j = g j) : arrV c N f = arrV c N g := by
  unfold arrV
  have e : (fun j : Fin N => f j.val) = (fun j : Fin N => g j.val) := funext fun j => h j.val j.isLt
  rw [e]
theorem mna_outer (c : ClassId) (N h0 : Nat) : ∀ i : Nat, Jvm.Free.Multi.outerC c N h0 i = arrV c N (fun j => va_rf (if j < i then some (h0 + 1 + j) else none))
  | 0 => by
    show ({ cls := c, slots := Array.replicate N .null, vm := .none } : Cell) = _
    rw [arrV_new]
    refine congrArg (arrV c N) (funext fun j => ?_)
    simp [va_rf]
  | i + 1 => by
    show (Jvm.Free.Multi.outerC c N h0 i).setSlot i (.ref (h0 + 1 + i)) = _
    rw [mna_outer c N h0 i, arrV_store]
    refine congrArg (arrV c N) (funext fun j => ?_)
    by_cases e : j = i
    · subst e
      simp [updV, va_rf]
    · by_cases h : j < i
      · simp [updV, e, h, Nat.lt_succ_of_lt h]
      · simp [updV, e, h, show ¬ j < i + 1 by omega]
theorem D_cons {A : Nat → Prop} {a : Nat} {e : va_E} {ws : va_W} (hA : A a) (h : va_D A ws) (hne : ∀ q ∈ ws, q.1 ≠ a) : va_D A ((a, e) :: ws) := by
  have h1 : va_D A [(a, e)] := ⟨fun i j p q hi hj _ => by
    have := (List.getElem?_eq_some_iff.mp hi).1
    have := (List.getElem?_eq_some_iff.mp hj).1
    simp at *
    omega, fun k q hk => by
    have h0 := (List.getElem?_eq_some_iff.mp hk).1
    simp at h0
    subst h0
    cases hk
    exact hA⟩
  exact va_D.app h1 h (fun i j p q hp hq e2 => by
    have h0 := (List.getElem?_eq_some_iff.mp hp).1
    simp at h0
    subst h0
    cases hp
    exact hne q (List.mem_of_getElem? hq) e2.symm)
section RWG
variable {p : Program} {l : Launch} {e : Env} {R : Room} {s : State} {m : MethodId} {args : Array Value} {below : List Frame} {meth : Method} {c : Code} {H : Heap} {locs : List Loc} {Q : State → Prop} {cells slots : Nat}
variable {cc : ByteArray} {own : String} {ret : Option FieldType} {nL : Nat} {A : Nat → Prop} {D : va_G} {tys : List (ClassId × FieldType)} {ws ws' : va_W} {pc : Nat} {ls : Array Slot} {rest : List Value} {a : Nat}
theorem r_mna (C0 : cx_ p s m meth c args cc own ret nL A) (hov : (Cond.arrayOver (.array .long)).before args s = true) (hw : wd_ D tys A s ws H locs) {index : Nat} (hcl : Cond.classLink own index "[[J" ∈ uw) (harr : Cond.arrayClass .long ∈ uw) (t6 t3 : Nat) {k6 k3 : ClassId} (h6 : tys[t6]? = some (k6, .array .long)) (h3 : tys[t3]? = some (k3, .long)) (hcells : cells + 5 ≤ R.cells) (hslots : slots + 24 ≤ R.slots) (hdg : decode cc pc = .ok (.multianewarray index 2, 4))
    (kk : ∀ (q : Nat → Nat) (H : Heap), wd_ D tys A s (ws ++ [(q 0, .inl (k6, 4, .inr (.inr (.inr (.inr (fun i => some (q (i + 1)))))))), (q 1, .inl (k3, 5, .inr (.inl (fun _ => 0)))), (q 2, .inl (k3, 5, .inr (.inl (fun _ => 0)))), (q 3, .inl (k3, 5, .inr (.inl (fun _ => 0)))), (q 4, .inl (k3, 5, .inr (.inl (fun _ => 0))))]) H locs → W p l e R s m args below meth c H locs (cells + 5) (slots + 24) Q (F0 m (pc + 4) ls (.ref (q 0) :: rest))) : W p l e R s m args below meth c H locs cells slots Q (F0 m pc ls (.int 5 :: .int 4 :: rest)) := by
  intro T hT Xs
  have n4 : (4 : Int32).toNatClampNeg = 4 := by decide
  have n5 : (5 : Int32).toNatClampNeg = 5 := by decide
  obtain ⟨vm₁, cA, comp, -, fA, fC, hO, -, X', step⟩ := Xs.multianewarray2F (ty := .long) C0.1 C0.2.2.2.2.1 (C0.2.2.2.2.2.1 _ hcl) hov (C0.2.2.2.2.2.1 _ harr) (g := F0 m pc ls (.int 5 :: .int 4 :: rest)) rfl (by rw [C0.2.1]; exact hdg) rfl (by decide) (by decide) (by decide) (by decide) (by decide) rfl rfl (by rw [n4]; exact hcells) (by rw [n4, n5]; exact hslots)
  have e6 : cA = k6 := Option.some.inj (fA.symm.trans (hw.2.2.2.2 t6 _ h6).2)
  have e3 : comp = k3 := Option.some.inj (fC.symm.trans (hw.2.2.2.2 t3 _ h3).2)
  subst e6; subst e3
  rw [n4, n5] at X' step
  generalize hF : Jvm.Free.Multi.fill (T.setVm vm₁) cA comp 4 5 (defaultValue .long) 4 = F at X' step
  have hTh : (T.setVm vm₁).heap = H := hT
  obtain ⟨f1, f2, -, -⟩ := Jvm.Free.Multi.fill_facts (T.setVm vm₁) cA comp 4 5 (defaultValue .long) 4
  rw [hF, hTh] at f1 f2
  have hold : ∀ x : Nat, x < H.size → F.heap[x]? = H[x]? := fun x hx => by
    have := Jvm.Free.Multi.fill_old (T.setVm vm₁) cA comp 4 5 (defaultValue .long) (a := x) (by rw [hTh]; exact hx) 4
    rw [hF, hTh] at this
    exact this
  have hrow : ∀ j : Nat, j < 4 → F.heap[H.size + 1 + j]? = some (vp_cell comp (5, .inr (.inl (fun _ => 0)))) := fun j hj => by
    have := Jvm.Free.Multi.fill_inner (T.setVm vm₁) cA comp 4 5 (defaultValue .long) 4 j hj
    rw [hF, hTh] at this
    rw [this]
    exact congrArg some (arrV_new comp 5 (.long 0))
  have hout : F.heap[H.size]? = some (vp_cell cA (4, .inr (.inr (.inr (.inr (fun i => some (H.size + (i + 1)))))))) := by
    rw [f2, mna_outer, vp_cell_q]
    refine congrArg some (arrV_ext fun j hj => ?_)
    simp only [hj, if_true]
    congr 2
    omega
  have hlt : ∀ q ∈ ws, q.1 < H.size := fun q hq => (P_mem.mp hw.1 q hq).lt
  have hAz : ∀ j : Nat, A (H.size + j) := fun j => C0.2.2.2.2.2.2.2 _ (by have := hw.2.2.1.1; omega)
  have hnil : va_D A ([] : va_W) := ⟨fun i j p q h => by simp at h, fun k q h => by simp at h⟩
  have hP0 : va_P D vwCl ws F.heap := hw.1.kept (fun k x hx => hold x.1 (hlt x (List.mem_of_getElem? hx)))
  obtain ⟨t, a1, b1⟩ := kk (fun i => H.size + i) F.heap ⟨hP0.app (P_mem.mpr fun q hq => by
      simp only [List.mem_cons, List.not_mem_nil, or_false] at hq
      rcases hq with rfl | rfl | rfl | rfl | rfl
      · exact hout
      · exact hrow 0 (by omega)
      · exact hrow 1 (by omega)
      · exact hrow 2 (by omega)
      · exact hrow 3 (by omega)), va_D.app hw.2.1 (D_cons (hAz 0) (D_cons (hAz 1) (D_cons (hAz 2) (D_cons (hAz 3) (D_cons (hAz 4) hnil (by simp)) (by simp)) (by simp)) (by simp)) (by simp)) (fun i j x y hx hy hxy => by
      have h1 := hlt x (List.mem_of_getElem? hx)
      have h2 := List.mem_of_getElem? hy
      simp only [List.mem_cons, List.not_mem_nil, or_false] at h2
      rcases h2 with rfl | rfl | rfl | rfl | rfl <;> simp at hxy <;> omega), ⟨by rw [f1]; have := hw.2.2.1.1; omega, fun x h1 h2 => (hold x (Nat.lt_of_lt_of_le h1 hw.2.2.1.1)).trans (hw.2.2.1.2.1 x h1 h2), hw.2.2.1.2.2⟩, hw.2.2.2⟩ F rfl X'
  refine ⟨t, step t ?_, b1⟩
  have e9 : T.heap.size = H.size := by rw [hT]
  rw [e9]
  exact a1
end RWG
theorem cl_J : Cond.classLink RX1 9 "[[J" ∈ uw := uw_1 (List.mem_of_getElem? (i := 128) rfl) rfl
theorem oi_X1 : Cond.methodLink RX1 3 Lib.objectInit ∈ uw := uw_1 (List.mem_of_getElem? (i := 127) rfl) rfl
set_option maxHeartbeats 4000000 in
set_option maxRecDepth 100000 in
theorem nEq_init (l : Launch) (D : va_G) (κ : Nat → ClassId) (h0 : Nat) : mNX_ (fun U => ((Cond.arrayOver (.array .long)).before #[] U = true)) l yX1_init (Cond.code yX1_init cX1_init 1 none :: uw) ({ frames := 1, cells := 6, slots := 30, locals := 20 } : Room) D (tys0 κ) [.ref h0] [(h0, .inr (1, [.null, .null, .int 0]))] (fun u : (Nat → Nat) × (Nat → Nat) => u.1 0 = h0) (fun u => List.flatten [pEq κ u.1 (u.2 0) (fun _ => 0) 0, pGr κ u.2 (fun _ _ => 0)]) 6 30 := by
  refine mNX_of rfl (by decide) (Nat.le_of_ble_eq_true rfl) ?_
  intro p e s m below meth c A ls H locs hin hE C0 hw hl
  obtain ⟨hx, hb, -, hml, hown, hts, -, -⟩ := id C0
  have hl : lv_has ls 1 [(0, .ref h0)] := hl
  refine lv_aload_n hx hb dX1_init_0 rfl (lv_at hl 0 rfl) ?_
  refine r_obj C0 oi_X1 oi_i oi_c hl.1 dX1_init_1 (Nat.le_of_ble_eq_true rfl) (Nat.le_of_ble_eq_true rfl) ?_
  refine lv_aload_n hx hb dX1_init_4 rfl (lv_at hl 0 rfl) ?_
  refine lv_iconst (v := 4) hx hb dX1_init_5 (by decide) ?_
  refine lv_iconst (v := 5) hx hb dX1_init_6 (by decide) ?_
  refine r_mna C0 hE hw cl_J an_long 6 3 rfl rfl (Nat.le_of_ble_eq_true rfl) (Nat.le_of_ble_eq_true rfl) dX1_init_7 (fun q H hw => ?_)
  have hw : wd_ D (tys0 κ) A s [(h0, .inr (1, [.null, .null, .int 0])), (q 0, .inl (κ 6, 4, .inr (.inr (.inr (.inr (fun i => some (q (i + 1)))))))), (q 1, .inl (κ 3, 5, .inr (.inl (fun _ => 0)))), (q 2, .inl (κ 3, 5, .inr (.inl (fun _ => 0)))), (q 3, .inl (κ 3, 5, .inr (.inl (fun _ => 0)))), (q 4, .inl (κ 3, 5, .inr (.inl (fun _ => 0))))] H locs := hw
  refine r_putF C0 hin hw 0 0 (v := .ref (q 0)) (ws' := [(h0, .inr (1, [.ref (q 0), .null, .int 0])), (q 0, .inl (κ 6, 4, .inr (.inr (.inr (.inr (fun i => some (q (i + 1)))))))), (q 1, .inl (κ 3, 5, .inr (.inl (fun _ => 0)))), (q 2, .inl (κ 3, 5, .inr (.inl (fun _ => 0)))), (q 3, .inl (κ 3, 5, .inr (.inl (fun _ => 0)))), (q 4, .inl (κ 3, 5, .inr (.inl (fun _ => 0))))]) rfl rfl inX1 tyX1_ok nmX1 (by decide) lk_X1_11 rfl rfl rfl rfl rfl (Nat.le_of_ble_eq_true rfl) dX1_init_11 rfl (fun H locs hw => ?_)
  refine lv_aload_n hx hb dX1_init_14 rfl (lv_at hl 0 rfl) ?_
  refine lv_bipush (v := 6) hx hb dX1_init_15 (by decide) ?_
  refine r_newa C0 hw (atype := .int) (ty := .int) rfl an_int 0 rfl (fun _ h => h) (a0 := (6, .inl (fun _ => 0))) (fun _ => rfl) (by decide) (by decide) (Nat.le_of_ble_eq_true rfl) (Nat.le_of_ble_eq_true rfl) (Nat.le_of_ble_eq_true rfl) dX1_init_17 (fun q2 H hw => ?_)
  have hw : wd_ D (tys0 κ) A s [(h0, .inr (1, [.ref (q 0), .null, .int 0])), (q 0, .inl (κ 6, 4, .inr (.inr (.inr (.inr (fun i => some (q (i + 1)))))))), (q 1, .inl (κ 3, 5, .inr (.inl (fun _ => 0)))), (q 2, .inl (κ 3, 5, .inr (.inl (fun _ => 0)))), (q 3, .inl (κ 3, 5, .inr (.inl (fun _ => 0)))), (q 4, .inl (κ 3, 5, .inr (.inl (fun _ => 0)))), (q2, .inl (κ 0, 6, .inl (fun _ => 0)))] H locs := hw
  refine r_putF C0 hin hw 0 1 (v := .ref q2) (ws' := [(h0, .inr (1, [.ref (q 0), .ref q2, .int 0])), (q 0, .inl (κ 6, 4, .inr (.inr (.inr (.inr (fun i => some (q (i + 1)))))))), (q 1, .inl (κ 3, 5, .inr (.inl (fun _ => 0)))), (q 2, .inl (κ 3, 5, .inr (.inl (fun _ => 0)))), (q 3, .inl (κ 3, 5, .inr (.inl (fun _ => 0)))), (q 4, .inl (κ 3, 5, .inr (.inl (fun _ => 0)))), (q2, .inl (κ 0, 6, .inl (fun _ => 0)))]) rfl rfl inX1 tyX1_ok nmX1 (by decide) lk_X1_16 rfl rfl rfl rfl rfl (Nat.le_of_ble_eq_true rfl) dX1_init_19 rfl (fun H locs hw => ?_)
  have hw : wd_ D (tys0 κ) A s [(h0, .inr (1, [.ref (q 0), .ref q2, .int 0])), (q2, .inl (κ 0, 6, .inl (fun _ => 0))), (q 0, .inl (κ 6, 4, .inr (.inr (.inr (.inr (fun i => some (q (i + 1)))))))), (q 1, .inl (κ 3, 5, .inr (.inl (fun _ => 0)))), (q 2, .inl (κ 3, 5, .inr (.inl (fun _ => 0)))), (q 3, .inl (κ 3, 5, .inr (.inl (fun _ => 0)))), (q 4, .inl (κ 3, 5, .inr (.inl (fun _ => 0))))] H locs := ⟨hw.1.sub [0, 6, 1, 2, 3, 4, 5] rfl, hw.2.1.sub [0, 6, 1, 2, 3, 4, 5] rfl rfl, hw.2.2.1, hw.2.2.2⟩
  exact r_nret (fun k => [h0, q2].getD k 0, q) C0 hw rfl dX1_init_22
