/-! constructors: what they make -/
def mN_ {S : Type} (l : Launch) (y : MethodName) (ws : List Cond) (rm : Room) (D : va_G) (tys : List (ClassId × FieldType)) (av : List Value) (pre : va_W) (ok : S → Prop) (post : S → va_W) (mc ms : Nat) : Prop :=
  ∀ sz : Nat, Met l y ws rm (pr_ D tys av pre sz) (va_Qv ok (fun u t => va_P D vwCl (post u) t.heap ∧ va_K D vwCl tys t ∧ va_D (va_A pre sz) (post u)) (va_A pre sz)) mc ms (va_A pre sz)
def qN_ {S : Type} (D : va_G) (tys : List (ClassId × FieldType)) (A : Nat → Prop) (ok : S → Prop) (post : S → va_W) (mc ms : Nat) (below : List Frame) (args : Array Value) (s : State) : State → Prop :=
  MQ below (va_Qv ok (fun u t => va_P D vwCl (post u) t.heap ∧ va_K D vwCl tys t ∧ va_D A (post u)) A) args s mc ms A
theorem mN_of {S : Type} {l : Launch} {y : MethodName} {rm : Room} {D : va_G} {tys : List (ClassId × FieldType)} {av : List Value} {pre : va_W} {ok : S → Prop} {post : S → va_W} {cc : ByteArray} {nL mc ms : Nat} {ret : Option FieldType} (hyn : y.name = "<init>") (hy : plainName y.cls = true) (hn : (lg_sl av).length ≤ nL)
    (body : ∀ (p : Program) (e : Env) (s : State) (m : MethodId) (below : List Frame) (meth : Method) (c : Code) (A : Nat → Prop) (ls : Array Slot) (H : Heap) (locs : List Loc), meth.name = "<init>" → cx_ p s m meth c av.toArray cc y.cls ret nL A → wd_ D tys A s pre H locs → lv_has ls nL (lv_args 0 av) → W p l e rm s m av.toArray below meth c H locs 0 0 (qN_ D tys A ok post mc ms below av.toArray s) (F0 m 0 ls [])) :
    mN_ l y (Cond.code y cc nL ret :: uw) rm D tys av pre ok post mc ms := by
  intro sz
  refine Met.ofW (cc := cc) (maxL := nL) (ret := ret) hy rfl ?_
  intro p e s m args below meth c s₁ B hml hv
  obtain ⟨rfl, hsz, hP, hK, hD0⟩ := hv
  have hts := atoms_spec (ws := Cond.code y cc nL ret :: uw) B.pre
  subst hsz
  have hl := lv_entry av (n := nL) hn
  rw [lg_entry_eq]
  exact body p e s m below meth c (va_A pre s.heap.size) _ s.heap [] ((name_of_methodNamed B.named B.method).1.trans hyn) ⟨B.exec, B.bytes, B.returns, hml, findClass_of_methodNamed B.named, fun w h => hts w (List.mem_cons_of_mem _ h), B.notSynchronized, fun q h => Or.inr h⟩ ⟨hP, hD0.self, va_S.rf, hK⟩ hl
section RWN
variable {p : Program} {l : Launch} {e : Env} {R : Room} {s : State} {m : MethodId} {args : Array Value} {below : List Frame} {meth : Method} {c : Code} {H : Heap} {locs : List Loc} {Q : State → Prop} {cells slots : Nat}
variable {cc : ByteArray} {own : String} {ret : Option FieldType} {nL : Nat} {A : Nat → Prop} {D : va_G} {tys : List (ClassId × FieldType)} {ws ws' : va_W} {pc : Nat} {ls : Array Slot} {rest : List Value} {a : Nat}
theorem r_newa (C0 : cx_ p s m meth c args cc own ret nL A) (hw : wd_ D tys A s ws H locs) {atype : ArrayType} {ty : FieldType} (hty : newarray.typeOf atype = ty) (harr : Cond.arrayClass (newarray.typeOf atype) ∈ uw) (t0 : Nat) {k0 : ClassId} (ht : tys[t0]? = some (k0, ty)) (hra : ∀ c : ClassId, va_RA s c ty → s.vm.findClass ("[" ++ ty.toString) = some c)
    {n : Int32} {N' : Nat} {a0 : vp_A} (ha : ∀ cA : ClassId, vp_cell cA a0 = arrV cA N' (fun _ => defaultValue ty)) (hn : ¬ n < 0) (hN : n.toNatClampNeg = N') (hbytes : N' * componentBytes ty ≤ 536870912) (hcells : cells + 1 ≤ R.cells) (hslots : slots + N' ≤ R.slots) (hdg : decode cc pc = .ok (.newarray atype, 2))
    (kk : ∀ (q : Nat) (H : Heap), wd_ D tys A s (ws ++ [(q, .inl (k0, a0))]) H locs → W p l e R s m args below meth c H locs (cells + 1) (slots + N') Q (F0 m (pc + 2) ls (.ref q :: rest))) : W p l e R s m args below meth c H locs cells slots Q (F0 m pc ls (.int n :: rest)) := by
  refine va_newa C0.1 C0.2.1 (C0.2.2.2.2.2.1 _ harr) hty hw.2.2.2 hw.1 hw.2.1 hw.2.2.1 C0.2.2.2.2.2.2.2 ha hn hN hbytes hcells hslots hdg (fun q cA H1 hK2 hP hD hS => ?_)
  have h1 := hra _ (hK2.2 tys.length (cA, ty) (by rw [List.getElem?_append_right (Nat.le_refl _), Nat.sub_self]; rfl)).2
  have h2 := hra _ (hw.2.2.2.2 t0 _ ht).2
  have e1 : cA = k0 := Option.some.inj (h1.symm.trans h2)
  subst e1
  exact kk q H1 ⟨hP, hD, hS, hw.2.2.2⟩
theorem r_putF (C0 : cx_ p s m meth c args cc own ret nL A) (hin2 : meth.name = "<init>") (hw : wd_ D tys A s ws H locs) (q0 k : Nat) {ci index N : Nat} {fs : List Value} {C : String} {T : u_T} {v : Value} {ty : FieldType} {ty0 : Nat → FieldType} (he : ws[q0]? = some (a, .inr (ci, fs))) (hc : vwCl[ci]? = some (C, T, N)) (hin : ∀ w ∈ u_ws C T N, w ∈ uw) (hty : ∀ k, k < N → parseFieldDescriptor (T k).2.2.1 = some (ty0 k)) (hnm : ∀ a, a < N → ∀ b, b < N → a ≠ b → (T a).2.1 ≠ (T b).2.1) (hk : k < N) (hlink : Cond.fieldLink own index (T k).1 (T k).2.1 (T k).2.2.1 ∈ uw) (hfin : (T k).2.2.2 = true) (hdecl : (T k).1 = own) (hd : ty0 k = ty) (hn : narrow ty v = v) (hfit : fits ty v = true) (hl : k < fs.length) (hdg : decode cc pc = .ok (.putfield index, 3)) (hws : ws.set q0 (a, .inr (ci, fs.set k v)) = ws')
    (kk : ∀ (H : Heap) (locs : List Loc), wd_ D tys A s ws' H locs → W p l e R s m args below meth c H locs cells slots Q (F0 m (pc + 3) ls rest)) : W p l e R s m args below meth c H locs cells slots Q (F0 m pc ls (v :: .ref a :: rest)) := by
  subst hws
  exact va_putF (D := D) (ty := ty) C0.1 C0.2.1 C0.2.2.2.2.2.1 hin ty0 hty hnm C0.2.2.2.2.1 hw.2.2.2 hw.1 hw.2.1 hw.2.2.1 q0 he hc k hk (C0.2.2.2.2.2.1 _ hlink) (fun _ h9 => h9) hfin hin2 hdecl (by rw [hty k hk, hd]) hn hfit hl hdg (fun H1 locs1 a1 a2 a3 => kk H1 locs1 ⟨a1, a2, a3, hw.2.2.2⟩)
theorem r_obj (C0 : cx_ p s m meth c args cc own ret nL A) {index : Nat} (h1 : Cond.methodLink own index Lib.objectInit ∈ uw) (h2 : Cond.instanceMethod Lib.objectInit ∈ uw) (h3 : Cond.code Lib.objectInit ⟨#[0xb1]⟩ 1 none ∈ uw) (hls : ls.size = nL) (hdg : decode cc pc = .ok (.invokespecial index, 3)) (hf : 1 ≤ R.frames) (hlo : 20 ≤ R.locals)
    (kk : W p l e R s m args below meth c H locs cells slots Q (F0 m (pc + 3) ls [])) : W p l e R s m args below meth c H locs cells slots Q (F0 m pc ls [.ref a]) :=
  W.objInit C0.1 C0.2.1 C0.2.2.2.2.1 (C0.2.2.2.2.2.1 _ h1) (C0.2.2.2.2.2.1 _ h2) (C0.2.2.2.2.2.1 _ h3) rfl (by rw [C0.2.2.2.1]; exact hls) rfl hdg hf (Nat.le_trans (Nat.le_of_ble_eq_true rfl) hlo) kk
theorem r_nret {S : Type} {ok : S → Prop} {post : S → va_W} (u : S) (C0 : cx_ p s m meth c args cc own none nL A) (hw : wd_ D tys A s (post u) H locs) (hok : ok u) (hdg : decode cc pc = .ok (.return_, 1)) : W p l e R s m args below meth c H locs cells slots (qN_ D tys A ok post cells slots below args s) (F0 m pc ls []) :=
  W.vret C0.1 C0.2.1 C0.2.2.1 (fun t ht hW => ⟨⟨u, rfl, hok, by rw [ht]; exact hw.1, va_K.moved hW.alike hw.2.2.2, hw.2.1⟩, hw.2.2.1.F ht⟩) hw.2.2.1.2.2 hdg C0.2.2.2.2.2.2.1
end RWN
