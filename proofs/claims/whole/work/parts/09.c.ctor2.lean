/-! the system's own constructor: objects of nest mates, arrays of objects, the grid -/
def nt_ (U : State) : Prop := va_Nw (.methodLinkNest RX5 11 yX4_init RX6) U
def nx_ (U : State) : Prop := (va_Nw (.methodLinkNest RX6 11 yX5_init RX6) U ∧ nt_ U) ∧ va_Nw (.methodLinkNest RX6 23 yX0_init RX6) U ∧ va_Nw (.methodLinkNest RX6 30 yX1_init RX6) U ∧ va_Nw (.methodLinkNest RX6 37 yX2_init RX6) U ∧ va_Nw (.methodLinkNest RX6 59 yX3_init RX6) U ∧ va_AO RX2 U ∧ va_AO RX3 U ∧ (Cond.arrayOver (.array .long)).before #[] U = true
def prE_ (E : State → Prop) (D : va_G) (tys : List (ClassId × FieldType)) (av : List Value) (pre : va_W) (sz : Nat) : Array Value → State → Prop := fun a U => pr_ D tys av pre sz a U ∧ E U
def mNX_ {S : Type} (E : State → Prop) (l : Launch) (y : MethodName) (ws : List Cond) (rm : Room) (D : va_G) (tys : List (ClassId × FieldType)) (av : List Value) (pre : va_W) (ok : S → Prop) (post : S → va_W) (mc ms : Nat) : Prop :=
  ∀ sz : Nat, Met l y ws rm (prE_ E D tys av pre sz) (va_Qv ok (fun u t => va_P D vwCl (post u) t.heap ∧ va_K D vwCl tys t ∧ va_D (va_A pre sz) (post u)) (va_A pre sz)) mc ms (va_A pre sz)
theorem mN_X {S : Type} {l : Launch} {y : MethodName} {ws : List Cond} {rm : Room} {D : va_G} {tys : List (ClassId × FieldType)} {av : List Value} {pre : va_W} {ok : S → Prop} {post : S → va_W} {mc ms : Nat} (h : mN_ l y ws rm D tys av pre ok post mc ms) : mNX_ (fun _ => True) l y ws rm D tys av pre ok post mc ms := by
  intro sz p e ha hc hk s m args below hf hfit hP hz
  exact h sz p e ha hc hk s m args below hf hfit hP.1 hz
theorem mNX_of {S : Type} {E : State → Prop} {l : Launch} {y : MethodName} {rm : Room} {D : va_G} {tys : List (ClassId × FieldType)} {av : List Value} {pre : va_W} {ok : S → Prop} {post : S → va_W} {cc : ByteArray} {nL mc ms : Nat} {ret : Option FieldType} (hyn : y.name = "<init>") (hy : plainName y.cls = true) (hn : (lg_sl av).length ≤ nL)
    (body : ∀ (p : Program) (e : Env) (s : State) (m : MethodId) (below : List Frame) (meth : Method) (c : Code) (A : Nat → Prop) (ls : Array Slot) (H : Heap) (locs : List Loc), meth.name = "<init>" → E s → cx_ p s m meth c av.toArray cc y.cls ret nL A → wd_ D tys A s pre H locs → lv_has ls nL (lv_args 0 av) → W p l e rm s m av.toArray below meth c H locs 0 0 (qN_ D tys A ok post mc ms below av.toArray s) (F0 m 0 ls [])) :
    mNX_ E l y (Cond.code y cc nL ret :: uw) rm D tys av pre ok post mc ms := by
  intro sz
  refine Met.ofW (cc := cc) (maxL := nL) (ret := ret) hy rfl ?_
  intro p e s m args below meth c s₁ B hml hv
  obtain ⟨⟨rfl, hsz, hP, hK, hD0⟩, hE⟩ := hv
  have hts := atoms_spec (ws := Cond.code y cc nL ret :: uw) B.pre
  subst hsz
  have hl := lv_entry av (n := nL) hn
  rw [lg_entry_eq]
  exact body p e s m below meth c (va_A pre s.heap.size) _ s.heap [] ((name_of_methodNamed B.named B.method).1.trans hyn) hE ⟨B.exec, B.bytes, B.returns, hml, findClass_of_methodNamed B.named, fun w h => hts w (List.mem_cons_of_mem _ h), B.notSynchronized, fun q h => Or.inr h⟩ ⟨hP, hD0.self, va_S.rf, hK⟩ hl
section RWM
variable {p : Program} {l : Launch} {e : Env} {R : Room} {s : State} {m : MethodId} {args : Array Value} {below : List Frame} {meth : Method} {c : Code} {H : Heap} {locs : List Loc} {Q : State → Prop} {cells slots : Nat}
variable {cc : ByteArray} {own : String} {ret : Option FieldType} {nL : Nat} {A : Nat → Prop} {D : va_G} {tys : List (ClassId × FieldType)} {ws ws' : va_W} {bs bs' pre : List va_W} {pc : Nat} {ls : Array Slot} {rest : List Value} {a : Nat}
theorem wd_snoc {x : Nat × va_E} (h : wd_ D tys A s (bs.flatten ++ [x]) H locs) : wd_ D tys A s (bs ++ [([x] : va_W)]).flatten H locs := by
  rw [List.flatten_append]
  exact h
theorem r_newB (C0 : cx_ p s m meth c args cc own ret nL A) (hw : wd_ D tys A s bs.flatten H locs) {C : String} {T : u_T} {N ci index : Nat} {ty : Nat → FieldType} (hin : ∀ w ∈ u_ws C T N, w ∈ uw) (hty : ∀ k, k < N → parseFieldDescriptor (T k).2.2.1 = some (ty k)) (hcl : Cond.classLink own index C ∈ uw) (hinst : Cond.instantiable C N ∈ uw) (hini : Cond.initialized C ∈ uw) (hc : vwCl[ci]? = some (C, T, N)) {fs : List Value} (hfs : ∀ j, j < N → defaultValue (ty j) = vp_V fs j) (hcells : cells + 1 ≤ R.cells) (hslots : slots + N ≤ R.slots) (hdg : decode cc pc = .ok (.new index, 3))
    (kk : ∀ (q : Nat) (H : Heap), wd_ D tys A s (bs ++ [([(q, .inr (ci, fs))] : va_W)]).flatten H locs → W p l e R s m args below meth c H locs (cells + 1) (slots + N) Q (F0 m (pc + 3) ls (.ref q :: rest))) : W p l e R s m args below meth c H locs cells slots Q (F0 m pc ls rest) :=
  va_new C0.1 C0.2.1 C0.2.2.2.2.2.1 hin ty hty C0.2.2.2.2.1 (C0.2.2.2.2.2.1 _ hcl) (C0.2.2.2.2.2.1 _ hinst) (C0.2.2.2.2.2.1 _ hini) hw.2.2.2 hw.1 hw.2.1 hw.2.2.1 C0.2.2.2.2.2.2.2 hc hfs hcells hslots hdg (fun q H1 a1 a2 a3 => kk q H1 (wd_snoc ⟨a1, a2, a3, hw.2.2.2⟩))
/-- new C[n] -/
theorem r_newq (C0 : cx_ p s m meth c args cc own ret nL A) (hw : wd_ D tys A s bs.flatten H locs) {C : String} {index : Nat} (hcl : Cond.classLink own index C ∈ uw) (hover : va_AO C s) (t0 : Nat) {k0 : ClassId} (ht : tys[t0]? = some (k0, .object C)) {n : Int32} {N' : Nat} (hn : ¬ n < 0) (hN : n.toNatClampNeg = N') (hbytes : N' * 4 ≤ 536870912) (hcells : cells + 1 ≤ R.cells) (hslots : slots + N' ≤ R.slots) (hdg : decode cc pc = .ok (.anewarray index, 3))
    (kk : ∀ (q : Nat) (H : Heap), wd_ D tys A s (bs ++ [([(q, .inl (k0, N', .inr (.inr (.inr (.inr (fun _ => none))))))] : va_W)]).flatten H locs → W p l e R s m args below meth c H locs (cells + 1) (slots + N') Q (F0 m (pc + 3) ls (.ref q :: rest))) : W p l e R s m args below meth c H locs cells slots Q (F0 m pc ls (.int n :: rest)) := by
  refine va_newq C0.1 C0.2.1 C0.2.2.2.2.1 (C0.2.2.2.2.2.1 _ hcl) hover hw.2.2.2 hw.1 hw.2.1 hw.2.2.1 C0.2.2.2.2.2.2.2 hn hN hbytes hcells hslots hdg (fun q cA H1 hK2 hP hD hS => ?_)
  obtain ⟨-, -, -, -, -, h1⟩ := (hK2.2 tys.length (cA, .object C) (by rw [List.getElem?_append_right (Nat.le_refl _), Nat.sub_self]; rfl)).2
  obtain ⟨-, -, -, -, -, h2⟩ := (hw.2.2.2.2 t0 _ ht).2
  have e1 : cA = k0 := Option.some.inj (h1.symm.trans h2)
  subst e1
  exact kk q H1 (wd_snoc ⟨hP, hD, hS, hw.2.2.2⟩)
theorem r_astq (C0 : cx_ p s m meth c args cc own ret nL A) (hw : wd_ D tys A s ws H locs) (q0 t0 qk ci : Nat) {cA : ClassId} {r : vw_C} {n v : Nat} {vs : List Value} {f : Nat → Option Nat} (ha : ws[q0]? = some (a, .inl (cA, n, .inr (.inr (.inr (.inr f)))))) (ht : tys[t0]? = some (cA, .object r.1)) (hv : ws[qk]? = some (v, .inr (ci, vs))) (hc : vwCl[ci]? = some r) {i : Int32} (hin : vp_in i n) (hdg : decode cc pc = .ok (.aastore, 1)) (hws : ws.set q0 (a, .inl (cA, n, .inr (.inr (.inr (.inr (va_up f i.toNatClampNeg (some v))))))) = ws')
    (kk : ∀ (H : Heap) (locs : List Loc), wd_ D tys A s ws' H locs → W p l e R s m args below meth c H locs cells slots Q (F0 m (pc + 1) ls rest)) : W p l e R s m args below meth c H locs cells slots Q (F0 m pc ls (.ref v :: .int i :: .ref a :: rest)) := by
  subst hws
  exact va_astq C0.1 C0.2.1 hw.2.2.2 hw.1 hw.2.1 hw.2.2.1 q0 t0 qk ci ha ht hv hc hin hdg (fun H1 locs1 a1 a2 a3 => kk H1 locs1 ⟨a1, a2, a3, hw.2.2.2⟩)
/-! a constructor is called: its object is the last block -/
variable {y : MethodName} {bytes : ByteArray} {maxL index : Nat} {rm' : Room} {As st0 : List Value} {b : Nat}
theorem cn_ {S : Type} {ok : S → Prop} {post : S → List va_W} {E : State → Prop} {mc ms : Nat} {blk : va_W} (C0 : cx_ p s m meth c args cc own ret nL A) (hw : wd_ D tys A s (bs ++ [blk]).flatten H locs)
    (hrun : ∀ (hPc : va_P D vwCl blk H) (hDc : va_D A blk), va_Run p l e R s m args below meth c H locs cells slots mc ms (F0 m pc ls st0) rest (va_Qv ok (fun u t => va_P D vwCl (post u).flatten t.heap ∧ va_K D vwCl tys t ∧ va_D (va_A blk H.size) (post u).flatten) (va_A blk H.size) (Value.ref b :: As).toArray) (va_A blk H.size))
    (kk : ∀ (u : S) (H : Heap) (locs : List Loc), ok u → wd_ D tys A s (bs ++ post u).flatten H locs → W p l e R s m args below meth c H locs (cells + mc) (slots + ms) Q (F0 m (pc + 3) ls rest)) : W p l e R s m args below meth c H locs cells slots Q (F0 m pc ls st0) := by
  have hw0 := hw
  rw [List.flatten_append, List.flatten_cons, List.flatten_nil, List.append_nil] at hw
  obtain ⟨hD1, hD2, hD3⟩ := D_app hw.2.1
  have hPm := P_mem.mp hw.1
  have hPc : va_P D vwCl blk H := P_mem.mpr fun q hq => hPm q (List.mem_append.mpr (Or.inr hq))
  have hFc : ∀ q, va_A blk H.size q → A q := fun q h => by
    rcases h with ⟨k, e2, h⟩ | h
    · exact hD2.2 k _ h
    · exact C0.2.2.2.2.2.2.2 q (Nat.le_trans hw.2.2.1.1 h)
  refine va_callv (hrun hPc hD2) hw.2.2.1 (fun q _ h => hFc q h) hFc (fun u t H1 locs1 ht hvm hw1 hB hz1 hk1 hS => ?_)
  obtain ⟨hP1, hK1, hE1⟩ := hB
  rw [ht] at hP1
  have ap : ∀ q ∈ bs.flatten, q.1 < H.size ∧ ¬ va_A blk H.size q.1 := fun q hq => by
    have hl := (hPm q (List.mem_append.mpr (Or.inl hq))).lt
    refine ⟨hl, fun h => ?_⟩
    rcases h with ⟨k, e2, h⟩ | h
    · exact hD3 q hq (q.1, e2) (List.mem_of_getElem? h) rfl
    · omega
  refine kk u H1 locs1 hw1 ?_
  rw [List.flatten_append]
  refine ⟨va_P.app (P_mem.mpr fun q hq => (hPm q (List.mem_append.mpr (Or.inl hq))).kept (hk1 q.1 (ap q hq).1 (ap q hq).2)) hP1, va_D.app hD1 (hE1.weaken (fun k q _ h => hFc q.1 h)) (fun i j x z hx hz hxz => ?_), hS, hw.2.2.2⟩
  exact (ap x (List.mem_of_getElem? hx)).2 (by rw [hxz]; exact hE1.2 j z hz)
theorem prE_blind {E : State → Prop} {av : List Value} {w : va_W} {sz : Nat} (hbl : ∀ (U : State) (g : JFrame) (mk : MethodId) (a : Array Value), E U → E (U.calling g mk a)) : FrameBlind (prE_ E D tys av w sz) := fun a U g mk q => ⟨pr_blind a U g mk q.1, hbl U g mk a q.2⟩
theorem rN_ {S : Type} {ok : S → Prop} {post : S → List va_W} {E : State → Prop} {mc ms : Nat} {blk : va_W} (C0 : cx_ p s m meth c args cc own ret nL A) (hw : wd_ D tys A s (bs ++ [blk]).flatten H locs) (hM : mNX_ E l y (Cond.code y bytes maxL none :: uw) rm' D tys (.ref b :: As) blk ok (fun u => (post u).flatten) mc ms) (hbl : ∀ (U : State) (g : JFrame) (mk : MethodId) (a : Array Value), E U → E (U.calling g mk a)) (hE : ∀ U : State, s.WarmedH U.vm → E U)
    (hl : Cond.methodLink own index y ∈ uw ∨ ∃ host : String, va_Nw (.methodLinkNest own index y host) s) (hini : Cond.initialized y.cls ∈ uw) (hcode : Cond.code y bytes maxL none ∈ uw) (hinst : Cond.instanceMethod y ∈ uw) (hyn : y.name = "<init>") (hd : y.cls ≠ "java/lang/invoke/MethodHandle" ∧ y.cls ≠ "java/lang/invoke/VarHandle" ∧ (parseMethodDescriptor y.desc).map (fun d => d.parameters.length) = some As.length) (hrm : rm'.cells = mc ∧ rm'.slots = ms ∧ rm'.frames + 1 ≤ R.frames ∧ 8 + (maxL + 11) + rm'.locals ≤ R.locals) (hcs : cells + mc ≤ R.cells ∧ slots + ms ≤ R.slots)
    (hst : st0 = As.reverse ++ .ref b :: rest) (hls : ls.size = nL) (hroom : (rest.map fun v => v.category).sum ≤ 8) (hdg : decode cc pc = .ok (.invokespecial index, 3))
    (kk : ∀ (u : S) (H : Heap) (locs : List Loc), ok u → wd_ D tys A s (bs ++ post u).flatten H locs → W p l e R s m args below meth c H locs (cells + mc) (slots + ms) Q (F0 m (pc + 3) ls rest)) : W p l e R s m args below meth c H locs cells slots Q (F0 m pc ls st0) := by
  refine cn_ (b := b) (As := As) (E := E) C0 hw (fun hPc hDc => ?_) kk
  have hpre : PreS s H (prE_ E D tys (.ref b :: As) blk H.size) (.ref b :: As) := ⟨prE_blind hbl, fun U hU hW => ⟨⟨rfl, by rw [hU], by rw [hU]; exact hPc, va_K.moved hW.alike hw.2.2.2, hDc.weaken (fun _ _ _ _ => trivial)⟩, hE U hW⟩⟩
  rcases hl with hl | ⟨host, hl⟩
  · exact va_runI (As := As) (rest := rest) ⟨C0.1, C0.2.1, C0.2.2.2.1, C0.2.2.2.2.1, C0.2.2.2.2.2.1⟩ (hM H.size) ⟨callB_of As.length C0.2.2.2.2.2.1 (gC_ hcode) rfl hrm.1 hrm.2.1 (C0.2.2.2.2.2.1 _ hini) (C0.2.2.2.2.2.1 _ hl) hd hrm.2.2, hyn, C0.2.2.2.2.2.1 _ hinst⟩ hpre rfl rfl hls hst (lv_room hroom) hdg hcs
  · exact va_runIN (As := As) (rest := rest) ⟨C0.1, C0.2.1, C0.2.2.2.1, C0.2.2.2.2.1, C0.2.2.2.2.2.1⟩ (hM H.size) ⟨va_cnB As.length C0.2.2.2.2.2.1 (gC_ hcode) rfl hrm.1 hrm.2.1 hl (C0.2.2.2.2.2.1 _ hini) hd hrm.2.2, hyn, C0.2.2.2.2.2.1 _ hinst⟩ hpre rfl rfl hls hst (lv_room hroom) hdg hcs
end RWM
