theorem fm_of {α : Type} {f : Nat → Option α} : ∀ {is : List Nat} {w : List α}, is.map f = w.map some → is.filterMap f = w
  | [], [], _ => rfl
  | [], _ :: _, h => by cases h
  | _ :: _, [], h => by cases h
  | i :: is, x :: w, h => by
    have h1 : f i = some x := (List.cons.inj h).1
    rw [List.filterMap_cons, h1]
    exact congrArg (x :: ·) (fm_of (List.cons.inj h).2)
/-- the words of a call: invokevirtual, invokestatic -/
def cv_ (own : String) (index : Nat) (y : MethodName) (C : String) (bytes : ByteArray) (maxL : Nat) (ret : Option FieldType) (n : Nat) : Prop :=
  Cond.methodLink own index y ∈ uw ∧ Cond.instanceMethod y ∈ uw ∧ Cond.selects C y y ∈ uw ∧ Cond.initialized C ∈ uw ∧ Cond.code y bytes maxL ret ∈ uw ∧ (y.cls = C ∧ y.cls ≠ "java/lang/invoke/MethodHandle" ∧ y.cls ≠ "java/lang/invoke/VarHandle" ∧ (parseMethodDescriptor y.desc).map (fun d => d.parameters.length) = some n)
def cs_ (own : String) (index : Nat) (y : MethodName) (bytes : ByteArray) (maxL : Nat) (ret : Option FieldType) (n : Nat) : Prop :=
  Cond.methodLink own index y ∈ uw ∧ Cond.static y ∈ uw ∧ Cond.initialized y.cls ∈ uw ∧ Cond.code y bytes maxL ret ∈ uw ∧ (y.cls ≠ "java/lang/invoke/MethodHandle" ∧ y.cls ≠ "java/lang/invoke/VarHandle" ∧ (parseMethodDescriptor y.desc).map (fun d => d.parameters.length) = some n)
theorem gW_ {w : Cond} (h : w ∈ uw) : w ∈ uw ∧ ((w.onTables && w.keeps) = true ∨ ∃ ty, w = .arrayClass ty) := ⟨h, good_of_word (goodU h)⟩
theorem gV_ {own C : String} {index n maxL : Nat} {y : MethodName} {bytes : ByteArray} {ret : Option FieldType} (h : cv_ own index y C bytes maxL ret n) : GoodIn uw (wsV own index C y (Cond.code y bytes maxL ret :: uw)) := by
  obtain ⟨h1, h2, h3, h4, h5, -⟩ := h
  intro w hw
  rcases List.mem_append.mp hw with h | h
  · rcases List.mem_cons.mp h with rfl | h
    · exact gW_ h1
    rcases List.mem_cons.mp h with rfl | h
    · exact gW_ h2
    rcases List.mem_cons.mp h with rfl | h
    · exact gW_ h3
    rcases List.mem_cons.mp h with rfl | h
    · exact gW_ h4
    cases h
  · rcases List.mem_cons.mp h with rfl | h
    · exact gW_ h5
    · exact gW_ h
theorem gC_ {y : MethodName} {bytes : ByteArray} {maxL : Nat} {ret : Option FieldType} (h : Cond.code y bytes maxL ret ∈ uw) : GoodIn uw (Cond.code y bytes maxL ret :: uw) := by
  intro w hw
  rcases List.mem_cons.mp hw with rfl | h2
  · exact gW_ h
  · exact gW_ h2
theorem pr_blind {D : va_G} {tys : List (ClassId × FieldType)} {av : List Value} {pre : va_W} {sz : Nat} : FrameBlind (pr_ D tys av pre sz) := fun a U g mk q => by
  obtain ⟨q0, q1, qP, qK, qD⟩ := q
  exact ⟨q0, q1, qP, va_K.moved (u := U) (U := U.calling g mk a) (Vm.Alike.refl U.vm) qK, qD⟩
section RWE
variable {l : Launch} {y : MethodName} {rm : Room} {D : va_G} {tys : List (ClassId × FieldType)} {av : List Value} {pre post : va_W} {cc : ByteArray} {nL : Nat}
theorem mI_of {N : Int32 → Prop} {r : Int32} {ret : Option FieldType} (hy : plainName y.cls = true) (hn : (lg_sl av).length ≤ nL)
    (body : ∀ (p : Program) (e : Env) (s : State) (m : MethodId) (below : List Frame) (meth : Method) (c : Code) (A : Nat → Prop) (ls : Array Slot) (H : Heap) (locs : List Loc), cx_ p s m meth c av.toArray cc y.cls ret nL A → wd_ D tys A s pre H locs → lv_has ls nL (lv_args 0 av) → W p l e rm s m av.toArray below meth c H locs 0 0 (qI_ D tys A N r post below av.toArray s) (F0 m 0 ls [])) :
    mI_ l y (Cond.code y cc nL ret :: uw) rm D tys av pre N r post := by
  intro sz
  refine Met.ofW (cc := cc) (maxL := nL) (ret := ret) hy rfl ?_
  intro p e s m args below meth c s₁ B hml hv
  obtain ⟨rfl, hsz, hP, hK, hD0⟩ := hv
  have hts := atoms_spec (ws := Cond.code y cc nL ret :: uw) B.pre
  subst hsz
  have hl := lv_entry av (n := nL) hn
  rw [lg_entry_eq]
  exact body p e s m below meth c (va_A pre s.heap.size) _ s.heap [] ⟨B.exec, B.bytes, B.returns, hml, findClass_of_methodNamed B.named, fun w h => hts w (List.mem_cons_of_mem _ h), B.notSynchronized, fun q h => Or.inr h⟩ ⟨hP, hD0.self, va_S.rf, hK⟩ hl
theorem mL_of {r : Int64} {ret : Option FieldType} (hy : plainName y.cls = true) (hn : (lg_sl av).length ≤ nL)
    (body : ∀ (p : Program) (e : Env) (s : State) (m : MethodId) (below : List Frame) (meth : Method) (c : Code) (A : Nat → Prop) (ls : Array Slot) (H : Heap) (locs : List Loc), cx_ p s m meth c av.toArray cc y.cls ret nL A → wd_ D tys A s pre H locs → lv_has ls nL (lv_args 0 av) → W p l e rm s m av.toArray below meth c H locs 0 0 (qL_ D tys A r post below av.toArray s) (F0 m 0 ls [])) :
    mL_ l y (Cond.code y cc nL ret :: uw) rm D tys av pre r post := by
  intro sz
  refine Met.ofW (cc := cc) (maxL := nL) (ret := ret) hy rfl ?_
  intro p e s m args below meth c s₁ B hml hv
  obtain ⟨rfl, hsz, hP, hK, hD0⟩ := hv
  have hts := atoms_spec (ws := Cond.code y cc nL ret :: uw) B.pre
  subst hsz
  have hl := lv_entry av (n := nL) hn
  rw [lg_entry_eq]
  exact body p e s m below meth c (va_A pre s.heap.size) _ s.heap [] ⟨B.exec, B.bytes, B.returns, hml, findClass_of_methodNamed B.named, fun w h => hts w (List.mem_cons_of_mem _ h), B.notSynchronized, fun q h => Or.inr h⟩ ⟨hP, hD0.self, va_S.rf, hK⟩ hl
theorem mV_of {ret : Option FieldType} (hy : plainName y.cls = true) (hn : (lg_sl av).length ≤ nL)
    (body : ∀ (p : Program) (e : Env) (s : State) (m : MethodId) (below : List Frame) (meth : Method) (c : Code) (A : Nat → Prop) (ls : Array Slot) (H : Heap) (locs : List Loc), cx_ p s m meth c av.toArray cc y.cls ret nL A → wd_ D tys A s pre H locs → lv_has ls nL (lv_args 0 av) → W p l e rm s m av.toArray below meth c H locs 0 0 (qV_ D tys A post below av.toArray s) (F0 m 0 ls [])) :
    mV_ l y (Cond.code y cc nL ret :: uw) rm D tys av pre post := by
  intro sz
  refine Met.ofW (cc := cc) (maxL := nL) (ret := ret) hy rfl ?_
  intro p e s m args below meth c s₁ B hml hv
  obtain ⟨rfl, hsz, hP, hK, hD0⟩ := hv
  have hts := atoms_spec (ws := Cond.code y cc nL ret :: uw) B.pre
  subst hsz
  have hl := lv_entry av (n := nL) hn
  rw [lg_entry_eq]
  exact body p e s m below meth c (va_A pre s.heap.size) _ s.heap [] ⟨B.exec, B.bytes, B.returns, hml, findClass_of_methodNamed B.named, fun w h => hts w (List.mem_cons_of_mem _ h), B.notSynchronized, fun q h => Or.inr h⟩ ⟨hP, hD0.self, va_S.rf, hK⟩ hl
end RWE
section RWS
variable {p : Program} {l : Launch} {e : Env} {R : Room} {s : State} {m : MethodId} {args : Array Value} {below : List Frame} {meth : Method} {c : Code} {H : Heap} {locs : List Loc} {Q : State → Prop} {cells slots : Nat}
variable {cc : ByteArray} {own : String} {ret : Option FieldType} {nL : Nat} {A : Nat → Prop} {D : va_G} {tys : List (ClassId × FieldType)} {ws ws' : va_W} {pc : Nat} {ls : Array Slot} {rest : List Value} {a : Nat}
theorem r_get (C0 : cx_ p s m meth c args cc own ret nL A) (hw : wd_ D tys A s ws H locs) (q0 k : Nat) {ci index N : Nat} {fs : List Value} {C : String} {T : u_T} {v : Value} (he : ws[q0]? = some (a, .inr (ci, fs))) (hc : vwCl[ci]? = some (C, T, N)) (hin : ∀ w ∈ u_ws C T N, w ∈ uw) (hk : k < N) (hlink : Cond.fieldLink own index (T k).1 (T k).2.1 (T k).2.2.1 ∈ uw) (hv : fs[k]? = some v) (hdg : decode cc pc = .ok (.getfield index, 3))
    (kk : W p l e R s m args below meth c H locs cells slots Q (F0 m (pc + 3) ls (v :: rest))) : W p l e R s m args below meth c H locs cells slots Q (F0 m pc ls (.ref a :: rest)) :=
  va_get (D := D) C0.1 C0.2.1 C0.2.2.2.2.2.1 hin C0.2.2.2.2.1 hw.2.2.2 hw.1 q0 he hc k hk (C0.2.2.2.2.2.1 _ hlink) (fun _ h9 => h9) hv hdg kk
theorem r_put (C0 : cx_ p s m meth c args cc own ret nL A) (hw : wd_ D tys A s ws H locs) (q0 k : Nat) {ci index N : Nat} {fs : List Value} {C : String} {T : u_T} {v : Value} {ty : FieldType} {ty0 : Nat → FieldType} (he : ws[q0]? = some (a, .inr (ci, fs))) (hc : vwCl[ci]? = some (C, T, N)) (hin : ∀ w ∈ u_ws C T N, w ∈ uw) (hty : ∀ k, k < N → parseFieldDescriptor (T k).2.2.1 = some (ty0 k)) (hnm : ∀ a, a < N → ∀ b, b < N → a ≠ b → (T a).2.1 ≠ (T b).2.1) (hk : k < N) (hlink : Cond.fieldLink own index (T k).1 (T k).2.1 (T k).2.2.1 ∈ uw) (hfin : (T k).2.2.2 = false) (hd : ty0 k = ty) (hn : narrow ty v = v) (hfit : fits ty v = true) (hl : k < fs.length) (hdg : decode cc pc = .ok (.putfield index, 3)) (hws : ws.set q0 (a, .inr (ci, fs.set k v)) = ws')
    (kk : ∀ (H : Heap) (locs : List Loc), wd_ D tys A s ws' H locs → W p l e R s m args below meth c H locs cells slots Q (F0 m (pc + 3) ls rest)) : W p l e R s m args below meth c H locs cells slots Q (F0 m pc ls (v :: .ref a :: rest)) := by
  subst hws
  exact va_put (D := D) (ty := ty) C0.1 C0.2.1 C0.2.2.2.2.2.1 hin ty0 hty hnm C0.2.2.2.2.1 hw.2.2.2 hw.1 hw.2.1 hw.2.2.1 q0 he hc k hk (C0.2.2.2.2.2.1 _ hlink) (fun _ h9 => h9) hfin (by rw [hty k hk, hd]) hn hfit hl hdg (fun H1 locs1 a1 a2 a3 => kk H1 locs1 ⟨a1, a2, a3, hw.2.2.2⟩)
theorem r_iald (C0 : cx_ p s m meth c args cc own ret nL A) (hw : wd_ D tys A s ws H locs) (q0 t0 : Nat) {cA : ClassId} {n : Nat} {f : Nat → Int32} (ha : ws[q0]? = some (a, .inl (cA, n, .inl f))) (ht : tys[t0]? = some (cA, .int)) {i : Int32} (hin : vp_in i n) (hdg : decode cc pc = .ok (.iaload, 1))
    (kk : W p l e R s m args below meth c H locs cells slots Q (F0 m (pc + 1) ls (.int (f i.toNatClampNeg) :: rest))) : W p l e R s m args below meth c H locs cells slots Q (F0 m pc ls (.int i :: .ref a :: rest)) :=
  va_iald C0.1 C0.2.1 hw.2.2.2 hw.1 q0 t0 ha ht hin hdg kk
theorem r_zald (C0 : cx_ p s m meth c args cc own ret nL A) (hw : wd_ D tys A s ws H locs) (q0 t0 : Nat) {cA : ClassId} {n : Nat} {f : Nat → Int32} (ha : ws[q0]? = some (a, .inl (cA, n, .inl f))) (ht : tys[t0]? = some (cA, .boolean)) {i : Int32} (hin : vp_in i n) (hdg : decode cc pc = .ok (.baload, 1))
    (kk : W p l e R s m args below meth c H locs cells slots Q (F0 m (pc + 1) ls (.int (f i.toNatClampNeg) :: rest))) : W p l e R s m args below meth c H locs cells slots Q (F0 m pc ls (.int i :: .ref a :: rest)) :=
  va_zald C0.1 C0.2.1 hw.2.2.2 hw.1 q0 t0 ha ht hin hdg kk
theorem r_bald (C0 : cx_ p s m meth c args cc own ret nL A) (hw : wd_ D tys A s ws H locs) (q0 t0 : Nat) {cA : ClassId} {n : Nat} {f : Nat → Int32} (ha : ws[q0]? = some (a, .inl (cA, n, .inl f))) (ht : tys[t0]? = some (cA, .byte)) {i : Int32} (hin : vp_in i n) (hdg : decode cc pc = .ok (.baload, 1))
    (kk : W p l e R s m args below meth c H locs cells slots Q (F0 m (pc + 1) ls (.int (f i.toNatClampNeg) :: rest))) : W p l e R s m args below meth c H locs cells slots Q (F0 m pc ls (.int i :: .ref a :: rest)) :=
  va_bald C0.1 C0.2.1 hw.2.2.2 hw.1 q0 t0 ha ht hin hdg kk
theorem r_lald (C0 : cx_ p s m meth c args cc own ret nL A) (hw : wd_ D tys A s ws H locs) (q0 t0 : Nat) {cA : ClassId} {n : Nat} {f : Nat → Int64} (ha : ws[q0]? = some (a, .inl (cA, n, .inr (.inl f)))) (ht : tys[t0]? = some (cA, .long)) {i : Int32} (hin : vp_in i n) (hdg : decode cc pc = .ok (.laload, 1))
    (kk : W p l e R s m args below meth c H locs cells slots Q (F0 m (pc + 1) ls (.long (f i.toNatClampNeg) :: rest))) : W p l e R s m args below meth c H locs cells slots Q (F0 m pc ls (.int i :: .ref a :: rest)) :=
  va_lald C0.1 C0.2.1 hw.2.2.2 hw.1 q0 t0 ha ht hin hdg kk
theorem r_iast (C0 : cx_ p s m meth c args cc own ret nL A) (hw : wd_ D tys A s ws H locs) (q0 t0 : Nat) {cA : ClassId} {n : Nat} {f : Nat → Int32} (ha : ws[q0]? = some (a, .inl (cA, n, .inl f))) (ht : tys[t0]? = some (cA, .int)) {i x : Int32} (hin : vp_in i n) (hdg : decode cc pc = .ok (.iastore, 1)) (hws : ws.set q0 (a, .inl (cA, n, .inl (upd f i.toNatClampNeg x))) = ws')
    (kk : ∀ (H : Heap) (locs : List Loc), wd_ D tys A s ws' H locs → W p l e R s m args below meth c H locs cells slots Q (F0 m (pc + 1) ls rest)) : W p l e R s m args below meth c H locs cells slots Q (F0 m pc ls (.int x :: .int i :: .ref a :: rest)) := by
  subst hws
  exact va_iast C0.1 C0.2.1 hw.2.2.2 hw.1 hw.2.1 hw.2.2.1 q0 t0 ha ht hin hdg (fun H1 locs1 a1 a2 a3 => kk H1 locs1 ⟨a1, a2, a3, hw.2.2.2⟩)
theorem r_zast (C0 : cx_ p s m meth c args cc own ret nL A) (hw : wd_ D tys A s ws H locs) (q0 t0 : Nat) {cA : ClassId} {n : Nat} {f : Nat → Int32} (ha : ws[q0]? = some (a, .inl (cA, n, .inl f))) (ht : tys[t0]? = some (cA, .boolean)) {i x : Int32} (hin : vp_in i n) (hdg : decode cc pc = .ok (.bastore, 1)) (hws : ws.set q0 (a, .inl (cA, n, .inl (upd f i.toNatClampNeg (vp_nar .boolean x)))) = ws')
    (kk : ∀ (H : Heap) (locs : List Loc), wd_ D tys A s ws' H locs → W p l e R s m args below meth c H locs cells slots Q (F0 m (pc + 1) ls rest)) : W p l e R s m args below meth c H locs cells slots Q (F0 m pc ls (.int x :: .int i :: .ref a :: rest)) := by
  subst hws
  exact va_zast C0.1 C0.2.1 hw.2.2.2 hw.1 hw.2.1 hw.2.2.1 q0 t0 ha ht hin hdg (fun H1 locs1 a1 a2 a3 => kk H1 locs1 ⟨a1, a2, a3, hw.2.2.2⟩)
theorem r_bast (C0 : cx_ p s m meth c args cc own ret nL A) (hw : wd_ D tys A s ws H locs) (q0 t0 : Nat) {cA : ClassId} {n : Nat} {f : Nat → Int32} (ha : ws[q0]? = some (a, .inl (cA, n, .inl f))) (ht : tys[t0]? = some (cA, .byte)) {i x : Int32} (hin : vp_in i n) (hdg : decode cc pc = .ok (.bastore, 1)) (hws : ws.set q0 (a, .inl (cA, n, .inl (upd f i.toNatClampNeg (vp_nar .byte x)))) = ws')
    (kk : ∀ (H : Heap) (locs : List Loc), wd_ D tys A s ws' H locs → W p l e R s m args below meth c H locs cells slots Q (F0 m (pc + 1) ls rest)) : W p l e R s m args below meth c H locs cells slots Q (F0 m pc ls (.int x :: .int i :: .ref a :: rest)) := by
  subst hws
  exact va_bast C0.1 C0.2.1 hw.2.2.2 hw.1 hw.2.1 hw.2.2.1 q0 t0 ha ht hin hdg (fun H1 locs1 a1 a2 a3 => kk H1 locs1 ⟨a1, a2, a3, hw.2.2.2⟩)
theorem r_last (C0 : cx_ p s m meth c args cc own ret nL A) (hw : wd_ D tys A s ws H locs) (q0 t0 : Nat) {cA : ClassId} {n : Nat} {f : Nat → Int64} (ha : ws[q0]? = some (a, .inl (cA, n, .inr (.inl f)))) (ht : tys[t0]? = some (cA, .long)) {i : Int32} {x : Int64} (hin : vp_in i n) (hdg : decode cc pc = .ok (.lastore, 1)) (hws : ws.set q0 (a, .inl (cA, n, .inr (.inl (vp_updL f i.toNatClampNeg x)))) = ws')
    (kk : ∀ (H : Heap) (locs : List Loc), wd_ D tys A s ws' H locs → W p l e R s m args below meth c H locs cells slots Q (F0 m (pc + 1) ls rest)) : W p l e R s m args below meth c H locs cells slots Q (F0 m pc ls (.long x :: .int i :: .ref a :: rest)) := by
  subst hws
  exact va_last C0.1 C0.2.1 hw.2.2.2 hw.1 hw.2.1 hw.2.2.1 q0 t0 ha ht hin hdg (fun H1 locs1 a1 a2 a3 => kk H1 locs1 ⟨a1, a2, a3, hw.2.2.2⟩)
theorem r_iret {N : Int32 → Prop} {v : Int32} (C0 : cx_ p s m meth c args cc own (some .int) nL A) (hw : wd_ D tys A s ws H locs) (hN : N v) (hdg : decode cc pc = .ok (.ireturn, 1)) : W p l e R s m args below meth c H locs 0 0 (qI_ D tys A N v ws below args s) (F0 m pc ls [.int v]) :=
  W.iret C0.1 C0.2.1 C0.2.2.1 (fun t ht hW => ⟨⟨v, (), rfl, ⟨rfl, hN⟩, by rw [ht]; exact hw.1, va_K.moved hW.alike hw.2.2.2, hw.2.1⟩, hw.2.2.1.F ht⟩) hw.2.2.1.2.2 hdg C0.2.2.2.2.2.2.1
theorem nB_nar {v : Int32} (h : nB_ v) : narrow .boolean (.int v) = .int v := by
  rcases h with rfl | rfl <;> rfl
theorem r_zret {v : Int32} (C0 : cx_ p s m meth c args cc own (some .boolean) nL A) (hw : wd_ D tys A s ws H locs) (hN : nB_ v) (hdg : decode cc pc = .ok (.ireturn, 1)) : W p l e R s m args below meth c H locs 0 0 (qI_ D tys A nB_ v ws below args s) (F0 m pc ls [.int v]) :=
  W.zret C0.1 C0.2.1 C0.2.2.1 (nB_nar hN) (fun t ht hW => ⟨⟨v, (), rfl, ⟨rfl, hN⟩, by rw [ht]; exact hw.1, va_K.moved hW.alike hw.2.2.2, hw.2.1⟩, hw.2.2.1.F ht⟩) hw.2.2.1.2.2 hdg C0.2.2.2.2.2.2.1
theorem r_lret {v : Int64} (C0 : cx_ p s m meth c args cc own (some .long) nL A) (hw : wd_ D tys A s ws H locs) (hdg : decode cc pc = .ok (.lreturn, 1)) : W p l e R s m args below meth c H locs 0 0 (qL_ D tys A v ws below args s) (F0 m pc ls [.long v]) :=
  W.lret C0.1 C0.2.1 C0.2.2.1 (fun t ht hW => ⟨⟨v, (), rfl, rfl, by rw [ht]; exact hw.1, va_K.moved hW.alike hw.2.2.2, hw.2.1⟩, hw.2.2.1.F ht⟩) hw.2.2.1.2.2 hdg C0.2.2.2.2.2.2.1
theorem r_vret (C0 : cx_ p s m meth c args cc own none nL A) (hw : wd_ D tys A s ws H locs) (hdg : decode cc pc = .ok (.return_, 1)) : W p l e R s m args below meth c H locs 0 0 (qV_ D tys A ws below args s) (F0 m pc ls []) :=
  W.vret C0.1 C0.2.1 C0.2.2.1 (fun t ht hW => ⟨⟨(), rfl, trivial, by rw [ht]; exact hw.1, va_K.moved hW.alike hw.2.2.2, hw.2.1⟩, hw.2.2.1.F ht⟩) hw.2.2.1.2.2 hdg C0.2.2.2.2.2.2.1
/-! an array of objects; a grid: an outer array of four rows of longs -/
abbrev pOa (cA : ClassId) (n : Nat) (q : Nat → Nat) (L : List Nat) : va_W := [(q 0, .inl (cA, n, .inr (.inr (.inr (.inr (fun i => L[i]?))))))]
abbrev pGr (κ : Nat → ClassId) (q : Nat → Nat) (M : Nat → Nat → Int64) : va_W := [(q 0, .inl (κ 6, 4, .inr (.inr (.inr (.inr (fun i => some (q (i + 1)))))))), (q 1, .inl (κ 3, 5, .inr (.inl (M 0)))), (q 2, .inl (κ 3, 5, .inr (.inl (M 1)))), (q 3, .inl (κ 3, 5, .inr (.inl (M 2)))), (q 4, .inl (κ 3, 5, .inr (.inl (M 3))))]
def gM_ (M : Nat → Nat → Int64) (i k : Nat) (x : Int64) : Nat → Nat → Int64 := fun r => if r = i then vp_updL (M r) k x else M r
theorem r_aldo (C0 : cx_ p s m meth c args cc own ret nL A) (hw : wd_ D tys A s ws H locs) (q0 t0 : Nat) {cA : ClassId} {C : String} {n b : Nat} {f : Nat → Option Nat} (ha : ws[q0]? = some (a, .inl (cA, n, .inr (.inr (.inr (.inr f)))))) (ht : tys[t0]? = some (cA, .object C)) {i : Int32} (hin : vp_in i n) (hv : f i.toNatClampNeg = some b) (hdg : decode cc pc = .ok (.aaload, 1))
    (kk : W p l e R s m args below meth c H locs cells slots Q (F0 m (pc + 1) ls (.ref b :: rest))) : W p l e R s m args below meth c H locs cells slots Q (F0 m pc ls (.int i :: .ref a :: rest)) :=
  va_aldq C0.1 C0.2.1 hw.2.2.2 hw.1 q0 t0 ha ht hin hdg (by rw [hv]; exact kk)
theorem r_aldg (C0 : cx_ p s m meth c args cc own ret nL A) (hw : wd_ D tys A s ws H locs) (q0 t0 : Nat) {cA : ClassId} {ty : FieldType} {n b : Nat} {f : Nat → Option Nat} (ha : ws[q0]? = some (a, .inl (cA, n, .inr (.inr (.inr (.inr f)))))) (ht : tys[t0]? = some (cA, .array ty)) {i : Int32} (hin : vp_in i n) (hv : f i.toNatClampNeg = some b) (hdg : decode cc pc = .ok (.aaload, 1))
    (kk : W p l e R s m args below meth c H locs cells slots Q (F0 m (pc + 1) ls (.ref b :: rest))) : W p l e R s m args below meth c H locs cells slots Q (F0 m pc ls (.int i :: .ref a :: rest)) := by
  have hlt : i.toNatClampNeg < n := Nat.not_le.mp fun q => hin (Or.inr q)
  have k2 : W p l e R s m args below meth c H locs cells slots Q (F0 m (pc + 1) ls (va_rf (f i.toNatClampNeg) :: rest)) := by rw [hv]; exact kk
  exact W.aald (v := va_rf (f i.toNatClampNeg)) (ty := .array ty) C0.1 C0.2.1 (hw.1 q0 _ ha) ((hw.2.2.2.2 t0 _ ht).1 n (fun j => va_rf (f j))) rfl (fun q => by cases q) (by show ¬ (i < 0 ∨ (arrV _ _ _).slots.size ≤ _); rw [arrV_size]; exact hin) (by show (arrV _ _ _).slots[_]? = _; rw [arrV_read _ _ hlt]) rfl rfl hdg k2
theorem lt4_ {n : Nat} (h : n < 4) : n = 0 ∨ n = 1 ∨ n = 2 ∨ n = 3 := by omega
theorem r_gald (C0 : cx_ p s m meth c args cc own ret nL A) (hw : wd_ D tys A s ws H locs) (q0 t0 : Nat) {cA : ClassId} {n : Nat} {q : Nat → Nat} {M : Nat → Nat → Int64} (h0 : ws[q0 + 1]? = some (q 1, .inl (cA, n, .inr (.inl (M 0))))) (h1 : ws[q0 + 2]? = some (q 2, .inl (cA, n, .inr (.inl (M 1))))) (h2 : ws[q0 + 3]? = some (q 3, .inl (cA, n, .inr (.inl (M 2))))) (h3 : ws[q0 + 4]? = some (q 4, .inl (cA, n, .inr (.inl (M 3))))) (ht : tys[t0]? = some (cA, .long)) {i j : Int32} (hi : vp_in i 4) (hin : vp_in j n) (hdg : decode cc pc = .ok (.laload, 1))
    (kk : W p l e R s m args below meth c H locs cells slots Q (F0 m (pc + 1) ls (.long (M i.toNatClampNeg j.toNatClampNeg) :: rest))) : W p l e R s m args below meth c H locs cells slots Q (F0 m pc ls (.int j :: .ref (q (i.toNatClampNeg + 1)) :: rest)) := by
  have hlt : i.toNatClampNeg < 4 := Nat.not_le.mp fun q => hi (Or.inr q)
  generalize i.toNatClampNeg = k at hlt kk ⊢
  rcases lt4_ hlt with rfl | rfl | rfl | rfl
  · exact r_lald C0 hw _ t0 h0 ht hin hdg kk
  · exact r_lald C0 hw _ t0 h1 ht hin hdg kk
  · exact r_lald C0 hw _ t0 h2 ht hin hdg kk
  · exact r_lald C0 hw _ t0 h3 ht hin hdg kk
theorem r_gast (C0 : cx_ p s m meth c args cc own ret nL A) (hw : wd_ D tys A s ws H locs) (q0 t0 : Nat) {cA : ClassId} {n : Nat} {q : Nat → Nat} {M : Nat → Nat → Int64} {WF : (Nat → Nat → Int64) → va_W} (h0 : ws[q0 + 1]? = some (q 1, .inl (cA, n, .inr (.inl (M 0))))) (h1 : ws[q0 + 2]? = some (q 2, .inl (cA, n, .inr (.inl (M 1))))) (h2 : ws[q0 + 3]? = some (q 3, .inl (cA, n, .inr (.inl (M 2))))) (h3 : ws[q0 + 4]? = some (q 4, .inl (cA, n, .inr (.inl (M 3))))) (ht : tys[t0]? = some (cA, .long)) {i j : Int32} {x : Int64} (hi : vp_in i 4) (hin : vp_in j n)
    (w0 : ws.set (q0 + 1) (q 1, .inl (cA, n, .inr (.inl (vp_updL (M 0) j.toNatClampNeg x)))) = WF (gM_ M 0 j.toNatClampNeg x)) (w1 : ws.set (q0 + 2) (q 2, .inl (cA, n, .inr (.inl (vp_updL (M 1) j.toNatClampNeg x)))) = WF (gM_ M 1 j.toNatClampNeg x)) (w2 : ws.set (q0 + 3) (q 3, .inl (cA, n, .inr (.inl (vp_updL (M 2) j.toNatClampNeg x)))) = WF (gM_ M 2 j.toNatClampNeg x)) (w3 : ws.set (q0 + 4) (q 4, .inl (cA, n, .inr (.inl (vp_updL (M 3) j.toNatClampNeg x)))) = WF (gM_ M 3 j.toNatClampNeg x)) (hdg : decode cc pc = .ok (.lastore, 1))
    (kk : ∀ (H : Heap) (locs : List Loc), wd_ D tys A s (WF (gM_ M i.toNatClampNeg j.toNatClampNeg x)) H locs → W p l e R s m args below meth c H locs cells slots Q (F0 m (pc + 1) ls rest)) : W p l e R s m args below meth c H locs cells slots Q (F0 m pc ls (.long x :: .int j :: .ref (q (i.toNatClampNeg + 1)) :: rest)) := by
  have hlt : i.toNatClampNeg < 4 := Nat.not_le.mp fun q => hi (Or.inr q)
  generalize i.toNatClampNeg = k at hlt kk ⊢
  rcases lt4_ hlt with rfl | rfl | rfl | rfl
  · exact r_last C0 hw _ t0 h0 ht hin hdg w0 kk
  · exact r_last C0 hw _ t0 h1 ht hin hdg w1 kk
  · exact r_last C0 hw _ t0 h2 ht hin hdg w2 kk
  · exact r_last C0 hw _ t0 h3 ht hin hdg w3 kk
/-! System.arraycopy from 0 to 0 -/
def zb_ {α : Type} (f : Nat → Int32) (n : Nat) (k : Option α) : Option α := if ∀ i, i < n → (f i = 0 ∨ f i = 1) then k else none
theorem zb_s {α : Type} {f : Nat → Int32} {n : Nat} {k : Option α} {r : α} (h : zb_ f n k = some r) : (∀ i, i < n → (f i = 0 ∨ f i = 1)) ∧ k = some r := by
  unfold zb_ at h
  by_cases c : ∀ i, i < n → (f i = 0 ∨ f i = 1)
  · rw [if_pos c] at h; exact ⟨c, h⟩
  · rw [if_neg c] at h; cases h
theorem r_copy (C0 : cx_ p s m meth c args cc own ret nL A) (hw : wd_ D tys A s ws H locs) {index : Nat} (hlink : Cond.methodLink own index arraycopyName ∈ uw) (hnat : Cond.native arraycopyName ∈ uw) (hstat : Cond.static arraycopyName ∈ uw) (hini : Cond.initialized "java/lang/System" ∈ uw) (q0 q1 t0 : Nat) {a0 : Nat} {c0 : ClassId} {n0 n1 : Nat} {f g : Nat → Int32} {ty : FieldType} (ha0 : ws[q0]? = some (a0, .inl (c0, n0, .inl f))) (ha1 : ws[q1]? = some (a, .inl (c0, n1, .inl g))) (ht0 : tys[t0]? = some (c0, ty)) (hprim : refKind ty = false) {n : Int32} (h3 : ¬ n < 0) (h4 : n.toNatClampNeg ≤ n0) (h5 : n.toNatClampNeg ≤ n1) (hfit : ∀ i, i < n.toNatClampNeg → fits ty (.int (f i)) = true) (hml : ls.size = nL) (hframes : 1 ≤ R.frames) (hlocals : (rest.map fun v => v.category).sum + (nativeFrameWords "java/lang/System" "arraycopy" 5 + 11) ≤ R.locals) (hdg : decode cc pc = .ok (.invokestatic index, 3))
    (hws : ws.set q1 (a, .inl (c0, n1, .inl (va_cpy f g 0 0 n.toNatClampNeg))) = ws')
    (kk : ∀ (H : Heap) (locs : List Loc), wd_ D tys A s ws' H locs → W p l e R s m args below meth c H locs cells slots Q (F0 m (pc + 3) ls rest)) : W p l e R s m args below meth c H locs cells slots Q (F0 m pc ls (.int n :: .int 0 :: .ref a :: .int 0 :: .ref a0 :: rest)) := by
  subst hws
  have z0 : (0 : Int32).toNatClampNeg = 0 := by decide
  refine va_copyi (ty := ty) C0.1 C0.2.1 (C0.2.2.2.1.trans hml.symm) C0.2.2.2.2.1 (C0.2.2.2.2.2.1 _ hlink) (C0.2.2.2.2.2.1 _ hnat) (C0.2.2.2.2.2.1 _ hstat) (C0.2.2.2.2.2.1 _ hini) hw.2.2.2 hw.1 hw.2.1 hw.2.2.1 q0 q1 t0 t0 ha0 ha1 ht0 ht0 hprim (by decide) (by decide) h3 (by rw [z0]; omega) (by rw [z0]; omega) (fun i hi => by rw [z0, Nat.zero_add]; exact hfit i hi) hframes hlocals hdg (fun H1 locs1 a1 a2 a3 => ?_)
  rw [z0] at a1 a2
  exact kk H1 locs1 ⟨a1, a2, a3, hw.2.2.2⟩
theorem zb_fit {v : Int32} (h : v = 0 ∨ v = 1) : fits .boolean (.int v) = true := by rcases h with rfl | rfl <;> decide
/-! calls -/
variable {y : MethodName} {bytes : ByteArray} {maxL index : Nat} {ret' : Option FieldType} {rm' : Room} {As st0 : List Value} {b : Nat} {pre post : va_W} {C : String}
theorem cb_ (C0 : cx_ p s m meth c args cc own ret nL A) (hw : wd_ D tys A s ws H locs) (isC isR iq : List Nat) (hC : isC.map (fun i => ws[i]?) = pre.map some) (hR : isR.map (fun i => ws[i]?) = (isR.filterMap (fun i => ws[i]?)).map some) (hn : va_nd isR = true) (hdis : ∀ i ∈ isR, i ∉ isC) (hq : iq.map (fun i => (isR.filterMap (fun i => ws[i]?) ++ post)[i]?) = ws'.map some) (hnq : va_nd iq = true)
    {t : State} {H1 : Heap} {locs1 : List Loc} (ht : t.heap = H1) (hvm : s.vm.Alike t.vm) (hB : po_ D tys (va_A pre H.size) post () t) (hk1 : ∀ q : Nat, q < H.size → ¬ va_A pre H.size q → H1[q]? = H[q]?) (hS : va_S A s.heap H1 locs1) : wd_ D tys A s ws' H1 locs1 := by
  obtain ⟨hP1, hK1, hD1⟩ := hB
  rw [ht] at hP1
  have hFc := va_free (wc := pre) hw.2.1 hw.2.2.1 C0.2.2.2.2.2.2.2 isC hC
  obtain ⟨hP, hD⟩ := va_join (w1 := post) hw.1 hw.2.1 isC isR hC hR hn hdis hk1 hFc hP1 hD1
  exact ⟨hP.sub iq (fm_of hq), hD.sub iq hnq hq, hS, hw.2.2.2⟩
theorem rv_i {N : Int32 → Prop} {r : Int32} {ci : Nat} {vq : vw_C} {fs : List Value} (C0 : cx_ p s m meth c args cc own ret nL A) (hw : wd_ D tys A s ws H locs) (hM : mI_ l y (Cond.code y bytes maxL ret' :: uw) rm' D tys (.ref b :: As) pre N r post) (hcw : cv_ own index y vq.1 bytes maxL ret' As.length) (hrm : rm'.cells = 0 ∧ rm'.slots = 0 ∧ rm'.frames + 1 ≤ R.frames ∧ 8 + (maxL + 11) + rm'.locals ≤ R.locals) (hcs : cells ≤ R.cells ∧ slots ≤ R.slots)
    (isC isR iq : List Nat) (hnC : va_nd isC = true) (hC : isC.map (fun i => ws[i]?) = pre.map some) (hR : isR.map (fun i => ws[i]?) = (isR.filterMap (fun i => ws[i]?)).map some) (hn : va_nd isR = true) (hdis : ∀ i ∈ isR, i ∉ isC) (hq : iq.map (fun i => (isR.filterMap (fun i => ws[i]?) ++ post)[i]?) = ws'.map some) (hnq : va_nd iq = true)
    (hrc : vwCl[ci]? = some vq) (hre : pre[0]? = some (b, .inr (ci, fs))) (hst : st0 = As.reverse ++ .ref b :: rest) (hls : ls.size = nL) (hroom : (rest.map fun v => v.category).sum ≤ 8) (hdg : decode cc pc = .ok (.invokevirtual index, 3))
    (kk : ∀ (H : Heap) (locs : List Loc), wd_ D tys A s ws' H locs → N r → W p l e R s m args below meth c H locs cells slots Q (F0 m (pc + 3) ls (.int r :: rest))) : W p l e R s m args below meth c H locs cells slots Q (F0 m pc ls st0) := by
  have hPc : va_P D vwCl pre H := hw.1.sub isC (fm_of hC)
  have hDc : va_D A pre := hw.2.1.sub isC hnC hC
  have hFc := va_free (wc := pre) hw.2.1 hw.2.2.1 C0.2.2.2.2.2.2.2 isC hC
  refine va_calli (va_runV (As := As) (rest := rest) ⟨C0.1, C0.2.1, C0.2.2.2.1, C0.2.2.2.2.1, C0.2.2.2.2.2.1⟩ (hM H.size) (cwV As.length C0.2.2.2.2.2.1 (gV_ hcw) rfl hrm.1 hrm.2.1 hcw.2.2.2.2.2 hrm.2.2) ⟨pr_blind, va_recv hw.2.2.2 hPc hrc hre, fun U hU hW => ⟨rfl, by rw [hU], by rw [hU]; exact hPc, va_K.moved hW.alike hw.2.2.2, hDc.weaken (fun _ _ _ _ => trivial)⟩⟩ rfl rfl hls hst (lv_room hroom) hdg hcs) hw.2.2.1 (fun q _ h => hFc q h) hFc (fun r1 u t H1 locs1 ht hvm hw1 hB hz1 hk1 hS => ?_)
  obtain ⟨rfl, hN⟩ := hw1
  exact kk H1 locs1 (cb_ C0 hw isC isR iq hC hR hn hdis hq hnq ht hvm hB hk1 hS) hN
theorem rv_l {r : Int64} {ci : Nat} {vq : vw_C} {fs : List Value} (C0 : cx_ p s m meth c args cc own ret nL A) (hw : wd_ D tys A s ws H locs) (hM : mL_ l y (Cond.code y bytes maxL ret' :: uw) rm' D tys (.ref b :: As) pre r post) (hcw : cv_ own index y vq.1 bytes maxL ret' As.length) (hrm : rm'.cells = 0 ∧ rm'.slots = 0 ∧ rm'.frames + 1 ≤ R.frames ∧ 8 + (maxL + 11) + rm'.locals ≤ R.locals) (hcs : cells ≤ R.cells ∧ slots ≤ R.slots)
    (isC isR iq : List Nat) (hnC : va_nd isC = true) (hC : isC.map (fun i => ws[i]?) = pre.map some) (hR : isR.map (fun i => ws[i]?) = (isR.filterMap (fun i => ws[i]?)).map some) (hn : va_nd isR = true) (hdis : ∀ i ∈ isR, i ∉ isC) (hq : iq.map (fun i => (isR.filterMap (fun i => ws[i]?) ++ post)[i]?) = ws'.map some) (hnq : va_nd iq = true)
    (hrc : vwCl[ci]? = some vq) (hre : pre[0]? = some (b, .inr (ci, fs))) (hst : st0 = As.reverse ++ .ref b :: rest) (hls : ls.size = nL) (hroom : (rest.map fun v => v.category).sum ≤ 8) (hdg : decode cc pc = .ok (.invokevirtual index, 3))
    (kk : ∀ (H : Heap) (locs : List Loc), wd_ D tys A s ws' H locs → W p l e R s m args below meth c H locs cells slots Q (F0 m (pc + 3) ls (.long r :: rest))) : W p l e R s m args below meth c H locs cells slots Q (F0 m pc ls st0) := by
  have hPc : va_P D vwCl pre H := hw.1.sub isC (fm_of hC)
  have hDc : va_D A pre := hw.2.1.sub isC hnC hC
  have hFc := va_free (wc := pre) hw.2.1 hw.2.2.1 C0.2.2.2.2.2.2.2 isC hC
  refine va_calll (va_runV (As := As) (rest := rest) ⟨C0.1, C0.2.1, C0.2.2.2.1, C0.2.2.2.2.1, C0.2.2.2.2.2.1⟩ (hM H.size) (cwV As.length C0.2.2.2.2.2.1 (gV_ hcw) rfl hrm.1 hrm.2.1 hcw.2.2.2.2.2 hrm.2.2) ⟨pr_blind, va_recv hw.2.2.2 hPc hrc hre, fun U hU hW => ⟨rfl, by rw [hU], by rw [hU]; exact hPc, va_K.moved hW.alike hw.2.2.2, hDc.weaken (fun _ _ _ _ => trivial)⟩⟩ rfl rfl hls hst (lv_room hroom) hdg hcs) hw.2.2.1 (fun q _ h => hFc q h) hFc (fun r1 u t H1 locs1 ht hvm hw1 hB hz1 hk1 hS => ?_)
  subst hw1
  exact kk H1 locs1 (cb_ C0 hw isC isR iq hC hR hn hdis hq hnq ht hvm hB hk1 hS)
theorem rv_v {ci : Nat} {vq : vw_C} {fs : List Value} (C0 : cx_ p s m meth c args cc own ret nL A) (hw : wd_ D tys A s ws H locs) (hM : mV_ l y (Cond.code y bytes maxL ret' :: uw) rm' D tys (.ref b :: As) pre post) (hcw : cv_ own index y vq.1 bytes maxL ret' As.length) (hrm : rm'.cells = 0 ∧ rm'.slots = 0 ∧ rm'.frames + 1 ≤ R.frames ∧ 8 + (maxL + 11) + rm'.locals ≤ R.locals) (hcs : cells ≤ R.cells ∧ slots ≤ R.slots)
    (isC isR iq : List Nat) (hnC : va_nd isC = true) (hC : isC.map (fun i => ws[i]?) = pre.map some) (hR : isR.map (fun i => ws[i]?) = (isR.filterMap (fun i => ws[i]?)).map some) (hn : va_nd isR = true) (hdis : ∀ i ∈ isR, i ∉ isC) (hq : iq.map (fun i => (isR.filterMap (fun i => ws[i]?) ++ post)[i]?) = ws'.map some) (hnq : va_nd iq = true)
    (hrc : vwCl[ci]? = some vq) (hre : pre[0]? = some (b, .inr (ci, fs))) (hst : st0 = As.reverse ++ .ref b :: rest) (hls : ls.size = nL) (hroom : (rest.map fun v => v.category).sum ≤ 8) (hdg : decode cc pc = .ok (.invokevirtual index, 3))
    (kk : ∀ (H : Heap) (locs : List Loc), wd_ D tys A s ws' H locs → W p l e R s m args below meth c H locs cells slots Q (F0 m (pc + 3) ls rest)) : W p l e R s m args below meth c H locs cells slots Q (F0 m pc ls st0) := by
  have hPc : va_P D vwCl pre H := hw.1.sub isC (fm_of hC)
  have hDc : va_D A pre := hw.2.1.sub isC hnC hC
  have hFc := va_free (wc := pre) hw.2.1 hw.2.2.1 C0.2.2.2.2.2.2.2 isC hC
  refine va_callv (va_runV (As := As) (rest := rest) ⟨C0.1, C0.2.1, C0.2.2.2.1, C0.2.2.2.2.1, C0.2.2.2.2.2.1⟩ (hM H.size) (cwV As.length C0.2.2.2.2.2.1 (gV_ hcw) rfl hrm.1 hrm.2.1 hcw.2.2.2.2.2 hrm.2.2) ⟨pr_blind, va_recv hw.2.2.2 hPc hrc hre, fun U hU hW => ⟨rfl, by rw [hU], by rw [hU]; exact hPc, va_K.moved hW.alike hw.2.2.2, hDc.weaken (fun _ _ _ _ => trivial)⟩⟩ rfl rfl hls hst (lv_room hroom) hdg hcs) hw.2.2.1 (fun q _ h => hFc q h) hFc (fun u t H1 locs1 ht hvm hw1 hB hz1 hk1 hS => ?_)
  exact kk H1 locs1 (cb_ C0 hw isC isR iq hC hR hn hdis hq hnq ht hvm hB hk1 hS)
theorem rs_i {N : Int32 → Prop} {r : Int32} (C0 : cx_ p s m meth c args cc own ret nL A) (hw : wd_ D tys A s ws H locs) (hM : mI_ l y (Cond.code y bytes maxL ret' :: uw) rm' D tys As pre N r post) (hcw : cs_ own index y bytes maxL ret' As.length) (hrm : rm'.cells = 0 ∧ rm'.slots = 0 ∧ rm'.frames + 1 ≤ R.frames ∧ 8 + (maxL + 11) + rm'.locals ≤ R.locals) (hcs : cells ≤ R.cells ∧ slots ≤ R.slots)
    (isC isR iq : List Nat) (hnC : va_nd isC = true) (hC : isC.map (fun i => ws[i]?) = pre.map some) (hR : isR.map (fun i => ws[i]?) = (isR.filterMap (fun i => ws[i]?)).map some) (hn : va_nd isR = true) (hdis : ∀ i ∈ isR, i ∉ isC) (hq : iq.map (fun i => (isR.filterMap (fun i => ws[i]?) ++ post)[i]?) = ws'.map some) (hnq : va_nd iq = true)
    (hst : st0 = As.reverse ++ rest) (hls : ls.size = nL) (hroom : (rest.map fun v => v.category).sum ≤ 8) (hdg : decode cc pc = .ok (.invokestatic index, 3))
    (kk : ∀ (H : Heap) (locs : List Loc), wd_ D tys A s ws' H locs → N r → W p l e R s m args below meth c H locs cells slots Q (F0 m (pc + 3) ls (.int r :: rest))) : W p l e R s m args below meth c H locs cells slots Q (F0 m pc ls st0) := by
  have hPc : va_P D vwCl pre H := hw.1.sub isC (fm_of hC)
  have hDc : va_D A pre := hw.2.1.sub isC hnC hC
  have hFc := va_free (wc := pre) hw.2.1 hw.2.2.1 C0.2.2.2.2.2.2.2 isC hC
  refine va_calli (va_runS (As := As) (rest := rest) ⟨C0.1, C0.2.1, C0.2.2.2.1, C0.2.2.2.2.1, C0.2.2.2.2.2.1⟩ (hM H.size) ⟨callB_of As.length C0.2.2.2.2.2.1 (gC_ hcw.2.2.2.1) rfl hrm.1 hrm.2.1 (C0.2.2.2.2.2.1 _ hcw.2.2.1) (C0.2.2.2.2.2.1 _ hcw.1) hcw.2.2.2.2 hrm.2.2, C0.2.2.2.2.2.1 _ hcw.2.1⟩ ⟨pr_blind, fun U hU hW => ⟨rfl, by rw [hU], by rw [hU]; exact hPc, va_K.moved hW.alike hw.2.2.2, hDc.weaken (fun _ _ _ _ => trivial)⟩⟩ rfl rfl hls hst (lv_room hroom) hdg hcs) hw.2.2.1 (fun q _ h => hFc q h) hFc (fun r1 u t H1 locs1 ht hvm hw1 hB hz1 hk1 hS => ?_)
  obtain ⟨rfl, hN⟩ := hw1
  exact kk H1 locs1 (cb_ C0 hw isC isR iq hC hR hn hdis hq hnq ht hvm hB hk1 hS) hN
theorem rs_l {r : Int64} (C0 : cx_ p s m meth c args cc own ret nL A) (hw : wd_ D tys A s ws H locs) (hM : mL_ l y (Cond.code y bytes maxL ret' :: uw) rm' D tys As pre r post) (hcw : cs_ own index y bytes maxL ret' As.length) (hrm : rm'.cells = 0 ∧ rm'.slots = 0 ∧ rm'.frames + 1 ≤ R.frames ∧ 8 + (maxL + 11) + rm'.locals ≤ R.locals) (hcs : cells ≤ R.cells ∧ slots ≤ R.slots)
    (isC isR iq : List Nat) (hnC : va_nd isC = true) (hC : isC.map (fun i => ws[i]?) = pre.map some) (hR : isR.map (fun i => ws[i]?) = (isR.filterMap (fun i => ws[i]?)).map some) (hn : va_nd isR = true) (hdis : ∀ i ∈ isR, i ∉ isC) (hq : iq.map (fun i => (isR.filterMap (fun i => ws[i]?) ++ post)[i]?) = ws'.map some) (hnq : va_nd iq = true)
    (hst : st0 = As.reverse ++ rest) (hls : ls.size = nL) (hroom : (rest.map fun v => v.category).sum ≤ 8) (hdg : decode cc pc = .ok (.invokestatic index, 3))
    (kk : ∀ (H : Heap) (locs : List Loc), wd_ D tys A s ws' H locs → W p l e R s m args below meth c H locs cells slots Q (F0 m (pc + 3) ls (.long r :: rest))) : W p l e R s m args below meth c H locs cells slots Q (F0 m pc ls st0) := by
  have hPc : va_P D vwCl pre H := hw.1.sub isC (fm_of hC)
  have hDc : va_D A pre := hw.2.1.sub isC hnC hC
  have hFc := va_free (wc := pre) hw.2.1 hw.2.2.1 C0.2.2.2.2.2.2.2 isC hC
  refine va_calll (va_runS (As := As) (rest := rest) ⟨C0.1, C0.2.1, C0.2.2.2.1, C0.2.2.2.2.1, C0.2.2.2.2.2.1⟩ (hM H.size) ⟨callB_of As.length C0.2.2.2.2.2.1 (gC_ hcw.2.2.2.1) rfl hrm.1 hrm.2.1 (C0.2.2.2.2.2.1 _ hcw.2.2.1) (C0.2.2.2.2.2.1 _ hcw.1) hcw.2.2.2.2 hrm.2.2, C0.2.2.2.2.2.1 _ hcw.2.1⟩ ⟨pr_blind, fun U hU hW => ⟨rfl, by rw [hU], by rw [hU]; exact hPc, va_K.moved hW.alike hw.2.2.2, hDc.weaken (fun _ _ _ _ => trivial)⟩⟩ rfl rfl hls hst (lv_room hroom) hdg hcs) hw.2.2.1 (fun q _ h => hFc q h) hFc (fun r1 u t H1 locs1 ht hvm hw1 hB hz1 hk1 hS => ?_)
  subst hw1
  exact kk H1 locs1 (cb_ C0 hw isC isR iq hC hR hn hdis hq hnq ht hvm hB hk1 hS)
theorem rs_v (C0 : cx_ p s m meth c args cc own ret nL A) (hw : wd_ D tys A s ws H locs) (hM : mV_ l y (Cond.code y bytes maxL ret' :: uw) rm' D tys As pre post) (hcw : cs_ own index y bytes maxL ret' As.length) (hrm : rm'.cells = 0 ∧ rm'.slots = 0 ∧ rm'.frames + 1 ≤ R.frames ∧ 8 + (maxL + 11) + rm'.locals ≤ R.locals) (hcs : cells ≤ R.cells ∧ slots ≤ R.slots)
    (isC isR iq : List Nat) (hnC : va_nd isC = true) (hC : isC.map (fun i => ws[i]?) = pre.map some) (hR : isR.map (fun i => ws[i]?) = (isR.filterMap (fun i => ws[i]?)).map some) (hn : va_nd isR = true) (hdis : ∀ i ∈ isR, i ∉ isC) (hq : iq.map (fun i => (isR.filterMap (fun i => ws[i]?) ++ post)[i]?) = ws'.map some) (hnq : va_nd iq = true)
    (hst : st0 = As.reverse ++ rest) (hls : ls.size = nL) (hroom : (rest.map fun v => v.category).sum ≤ 8) (hdg : decode cc pc = .ok (.invokestatic index, 3))
    (kk : ∀ (H : Heap) (locs : List Loc), wd_ D tys A s ws' H locs → W p l e R s m args below meth c H locs cells slots Q (F0 m (pc + 3) ls rest)) : W p l e R s m args below meth c H locs cells slots Q (F0 m pc ls st0) := by
  have hPc : va_P D vwCl pre H := hw.1.sub isC (fm_of hC)
  have hDc : va_D A pre := hw.2.1.sub isC hnC hC
  have hFc := va_free (wc := pre) hw.2.1 hw.2.2.1 C0.2.2.2.2.2.2.2 isC hC
  refine va_callv (va_runS (As := As) (rest := rest) ⟨C0.1, C0.2.1, C0.2.2.2.1, C0.2.2.2.2.1, C0.2.2.2.2.2.1⟩ (hM H.size) ⟨callB_of As.length C0.2.2.2.2.2.1 (gC_ hcw.2.2.2.1) rfl hrm.1 hrm.2.1 (C0.2.2.2.2.2.1 _ hcw.2.2.1) (C0.2.2.2.2.2.1 _ hcw.1) hcw.2.2.2.2 hrm.2.2, C0.2.2.2.2.2.1 _ hcw.2.1⟩ ⟨pr_blind, fun U hU hW => ⟨rfl, by rw [hU], by rw [hU]; exact hPc, va_K.moved hW.alike hw.2.2.2, hDc.weaken (fun _ _ _ _ => trivial)⟩⟩ rfl rfl hls hst (lv_room hroom) hdg hcs) hw.2.2.1 (fun q _ h => hFc q h) hFc (fun u t H1 locs1 ht hvm hw1 hB hz1 hk1 hS => ?_)
  exact kk H1 locs1 (cb_ C0 hw isC isR iq hC hR hn hdis hq hnq ht hvm hB hk1 hS)
end RWS
