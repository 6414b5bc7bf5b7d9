/-! a world is a row of blocks (an object with its arrays); calls take whole blocks -/
theorem P_mem {D : va_G} {cl : List vw_C} {ws : va_W} {H : Heap} : va_P D cl ws H ↔ ∀ q ∈ ws, va_at D cl q H :=
  ⟨fun h q hq => by
    obtain ⟨k, hk⟩ := List.getElem?_of_mem hq
    exact h k q hk, fun h k q hk => h q (List.mem_of_getElem? hk)⟩
theorem P_fl {D : va_G} {cl : List vw_C} {bs : List va_W} {H : Heap} : va_P D cl bs.flatten H ↔ ∀ b ∈ bs, va_P D cl b H :=
  ⟨fun h b hb => P_mem.mpr fun q hq => P_mem.mp h q (List.mem_flatten.mpr ⟨b, hb, hq⟩), fun h => P_mem.mpr fun q hq => by
    obtain ⟨b, hb, hq⟩ := List.mem_flatten.mp hq
    exact P_mem.mp (h b hb) q hq⟩
theorem D_mem {A : Nat → Prop} {ws : va_W} (h : va_D A ws) {q : Nat × va_E} (hq : q ∈ ws) : A q.1 := by
  obtain ⟨k, hk⟩ := List.getElem?_of_mem hq
  exact h.2 k q hk
theorem D_app {A : Nat → Prop} {a b : va_W} (h : va_D A (a ++ b)) : va_D A a ∧ va_D A b ∧ ∀ x ∈ a, ∀ y ∈ b, x.1 ≠ y.1 := by
  have ea : ∀ {i : Nat} {x : Nat × va_E}, a[i]? = some x → (a ++ b)[i]? = some x := fun {i x} hi => by
    rw [List.getElem?_append_left (List.getElem?_eq_some_iff.mp hi).1]; exact hi
  have eb : ∀ {i : Nat} {x : Nat × va_E}, b[i]? = some x → (a ++ b)[a.length + i]? = some x := fun {i x} hi => by
    rw [List.getElem?_append_right (by omega), Nat.add_sub_cancel_left]; exact hi
  refine ⟨⟨fun i j p q hp hq e => h.1 i j p q (ea hp) (ea hq) e, fun k q hk => h.2 k q (ea hk)⟩, ⟨fun i j p q hp hq e => ?_, fun k q hk => h.2 _ q (eb hk)⟩, fun x hx y hy e => ?_⟩
  · have := h.1 _ _ p q (eb hp) (eb hq) e
    omega
  · obtain ⟨i, hi⟩ := List.getElem?_of_mem hx
    obtain ⟨j, hj⟩ := List.getElem?_of_mem hy
    have h1 := h.1 _ _ x y (ea hi) (eb hj) e
    have h2 := (List.getElem?_eq_some_iff.mp hi).1
    omega
def bD_ (A : Nat → Prop) (bs : List va_W) : Prop := (∀ (i : Nat) (b : va_W), bs[i]? = some b → va_D A b) ∧ ∀ (i j : Nat) (a b : va_W), bs[i]? = some a → bs[j]? = some b → i ≠ j → ∀ x ∈ a, ∀ y ∈ b, x.1 ≠ y.1
theorem bD_of {A : Nat → Prop} : ∀ {bs : List va_W}, va_D A bs.flatten → bD_ A bs
  | [], _ => ⟨fun i b h => by simp at h, fun i j a b h => by simp at h⟩
  | b0 :: bs, h => by
    rw [List.flatten_cons] at h
    obtain ⟨h1, h2, h3⟩ := D_app h
    have ih := bD_of h2
    have inf : ∀ {i : Nat} {b : va_W}, bs[i]? = some b → ∀ x ∈ b, x ∈ bs.flatten := fun {i b} hi x hx => List.mem_flatten.mpr ⟨b, List.mem_of_getElem? hi, hx⟩
    refine ⟨fun i b hi => ?_, fun i j a b hi hj hij x hx y hy => ?_⟩
    · cases i with
      | zero => cases hi; exact h1
      | succ i => exact ih.1 i b hi
    · cases i with
      | zero =>
        cases hi
        cases j with
        | zero => exact absurd rfl hij
        | succ j => exact h3 x hx y (inf hj y hy)
      | succ i =>
        cases j with
        | zero => cases hj; exact fun e => h3 y hy x (inf hi x hx) e.symm
        | succ j => exact ih.2 i j a b hi hj (fun e => hij (by rw [e])) x hx y hy
theorem of_bD {A : Nat → Prop} : ∀ {bs : List va_W}, bD_ A bs → va_D A bs.flatten
  | [], _ => ⟨fun i j p q h => by simp at h, fun k q h => by simp at h⟩
  | b0 :: bs, h => by
    rw [List.flatten_cons]
    have h2 : bD_ A bs := ⟨fun i b hi => h.1 (i + 1) b hi, fun i j a b hi hj hij => h.2 (i + 1) (j + 1) a b hi hj (by omega)⟩
    refine va_D.app (h.1 0 b0 rfl) (of_bD h2) (fun i j p q hp hq => ?_)
    obtain ⟨b, hb, hq2⟩ := List.mem_flatten.mp (List.mem_of_getElem? hq)
    obtain ⟨k, hk⟩ := List.getElem?_of_mem hb
    exact h.2 0 (k + 1) b0 b rfl hk (by omega) p (List.mem_of_getElem? hp) q hq2
/-- chosen blocks -/
theorem bl_at {bs cs : List va_W} {is : List Nat} (hs : is.map (fun i => bs[i]?) = cs.map some) {k : Nat} {b : va_W} (hk : cs[k]? = some b) : ∃ i, is[k]? = some i ∧ bs[i]? = some b := by
  have h1 : (is.map (fun i => bs[i]?))[k]? = some (some b) := by rw [hs, List.getElem?_map, hk]; rfl
  rw [List.getElem?_map] at h1
  cases hi : is[k]? with
  | none => rw [hi] at h1; cases h1
  | some i => rw [hi] at h1; exact ⟨i, rfl, Option.some.inj h1⟩
theorem bl_P {D : va_G} {cl : List vw_C} {bs cs : List va_W} {H : Heap} (h : va_P D cl bs.flatten H) (is : List Nat) (hs : is.map (fun i => bs[i]?) = cs.map some) : va_P D cl cs.flatten H := by
  refine P_fl.mpr fun b hb => ?_
  obtain ⟨k, hk⟩ := List.getElem?_of_mem hb
  obtain ⟨i, -, h2⟩ := bl_at hs hk
  exact P_fl.mp h b (List.mem_of_getElem? h2)
theorem bl_D {A : Nat → Prop} {bs cs : List va_W} (h : va_D A bs.flatten) (is : List Nat) (hn : va_nd is = true) (hs : is.map (fun i => bs[i]?) = cs.map some) : va_D A cs.flatten := by
  have hb := bD_of h
  refine of_bD ⟨fun k b hk => ?_, fun k k2 a b hk hk2 hne x hx y hy => ?_⟩
  · obtain ⟨i, -, h2⟩ := bl_at hs hk
    exact hb.1 i b h2
  · obtain ⟨i, h1, h2⟩ := bl_at hs hk
    obtain ⟨j, h3, h4⟩ := bl_at hs hk2
    exact hb.2 i j a b h2 h4 (fun e => hne (va_nd_inj is hn k k2 i h1 (by rw [e]; exact h3))) x hx y hy
/-- behind a call -/
theorem bl_join {A0 : Nat → Prop} {D : va_G} {cl : List vw_C} {bs wc wr w1 : List va_W} {H H1 : Heap} (hP : va_P D cl bs.flatten H) (hD : va_D A0 bs.flatten) (isC isR : List Nat) (hC : isC.map (fun i => bs[i]?) = wc.map some) (hR : isR.map (fun i => bs[i]?) = wr.map some) (hn : va_nd isR = true) (hdis : ∀ i ∈ isR, i ∉ isC)
    (hk : ∀ q : Nat, q < H.size → ¬ va_A wc.flatten H.size q → H1[q]? = H[q]?) (hF : ∀ q, va_A wc.flatten H.size q → A0 q) (hP1 : va_P D cl w1.flatten H1) (hD1 : va_D (va_A wc.flatten H.size) w1.flatten) : va_P D cl (wr ++ w1).flatten H1 ∧ va_D A0 (wr ++ w1).flatten := by
  have hPr := bl_P hP isR hR
  have hDr := bl_D hD isR hn hR
  have hb := bD_of hD
  have apart : ∀ q ∈ wr.flatten, q.1 < H.size ∧ ¬ va_A wc.flatten H.size q.1 := by
    intro q hq
    have hl := (P_mem.mp hPr q hq).lt
    refine ⟨hl, fun h => ?_⟩
    rcases h with ⟨k2, e, h⟩ | h
    · obtain ⟨b, hb1, hb2⟩ := List.mem_flatten.mp hq
      obtain ⟨c2, hc1, hc2⟩ := List.mem_flatten.mp (List.mem_of_getElem? h)
      obtain ⟨k, hkb⟩ := List.getElem?_of_mem hb1
      obtain ⟨k3, hkc⟩ := List.getElem?_of_mem hc1
      obtain ⟨i, h1, h2⟩ := bl_at hR hkb
      obtain ⟨j, h3, h4⟩ := bl_at hC hkc
      exact hb.2 i j b c2 h2 h4 (fun e2 => hdis i (List.mem_of_getElem? h1) (by rw [e2]; exact List.mem_of_getElem? h3)) q hb2 (q.1, e) hc2 rfl
    · omega
  rw [List.flatten_append]
  refine ⟨va_P.app (P_mem.mpr fun q hq => (P_mem.mp hPr q hq).kept (hk q.1 (apart q hq).1 (apart q hq).2)) hP1, va_D.app hDr (hD1.weaken (fun k q _ h => hF q.1 h)) (fun i j x y hx hy hxy => ?_)⟩
  exact (apart x (List.mem_of_getElem? hx)).2 (by rw [hxy]; exact hD1.2 j y hy)
theorem bl_free {A0 : Nat → Prop} {bs wc : List va_W} {H0 H : Heap} {locs : List Loc} (hD : va_D A0 bs.flatten) (hS : va_S A0 H0 H locs) (hA : ∀ q, H0.size ≤ q → A0 q) (isC : List Nat) (hC : isC.map (fun i => bs[i]?) = wc.map some) : ∀ q, va_A wc.flatten H.size q → A0 q := by
  intro q h
  rcases h with ⟨k, e, h⟩ | h
  · obtain ⟨b, hb1, hb2⟩ := List.mem_flatten.mp (List.mem_of_getElem? h)
    obtain ⟨k2, hk2⟩ := List.getElem?_of_mem hb1
    obtain ⟨i, -, h2⟩ := bl_at hC hk2
    exact D_mem hD (q := (q, e)) (List.mem_flatten.mpr ⟨b, List.mem_of_getElem? h2, hb2⟩)
  · exact hA q (Nat.le_trans hS.1 h)
theorem fm_of {α : Type} {f : Nat → Option α} : ∀ {is : List Nat} {w : List α}, is.map f = w.map some → is.filterMap f = w
  | [], [], _ => rfl
  | [], _ :: _, h => by cases h
  | _ :: _, [], h => by cases h
  | i :: is, x :: w, h => by
    have h1 : f i = some x := (List.cons.inj h).1
    rw [List.filterMap_cons, h1]
    exact congrArg (x :: ·) (fm_of (List.cons.inj h).2)
/-- the words of a call: invokevirtual, invokestatic -/
def cv_ (own : String) (index : Nat) (y : MethodName) (C : String) (bytes : ByteArray) (maxL : Nat) (ret : Option FieldType) (n : Nat) : Prop :=
  Cond.methodLink own index y ∈ uw ∧ Cond.instanceMethod y ∈ uw ∧ Cond.selects C y y ∈ uw ∧ Cond.initialized C ∈ uw ∧ Cond.code y bytes maxL ret ∈ uw ∧ (y.cls = C ∧ y.cls ≠ "java/lang/invoke/MethodHandle" ∧ y.cls ≠ "java/lang/invoke/VarHandle" ∧ (parseMethodDescriptor y.desc).map (fun d => d.parameters.length) = some n)
def cs_ (own : String) (index : Nat) (y : MethodName) (bytes : ByteArray) (maxL : Nat) (ret : Option FieldType) (n : Nat) : Prop :=
  Cond.methodLink own index y ∈ uw ∧ Cond.static y ∈ uw ∧ Cond.initialized y.cls ∈ uw ∧ Cond.code y bytes maxL ret ∈ uw ∧ (y.cls ≠ "java/lang/invoke/MethodHandle" ∧ y.cls ≠ "java/lang/invoke/VarHandle" ∧ (parseMethodDescriptor y.desc).map (fun d => d.parameters.length) = some n)
theorem gW_ {w : Cond} (h : w ∈ uw) : w ∈ uw ∧ ((w.onTables && w.keeps) = true ∨ ∃ ty, w = .arrayClass ty) := ⟨h, good_of_word (goodU h)⟩
theorem gV_ {own C : String} {index n maxL : Nat} {y : MethodName} {bytes : ByteArray} {ret : Option FieldType} (h : cv_ own index y C bytes maxL ret n) : GoodIn uw (wsV own index C y (Cond.code y bytes maxL ret :: uw)) := by
  obtain ⟨h1, h2, h3, h4, h5, -⟩ := h
  intro w hw
  rcases List.mem_append.mp hw with h | h
  · rcases List.mem_cons.mp h with rfl | h
    · exact gW_ h1
    rcases List.mem_cons.mp h with rfl | h
    · exact gW_ h2
    rcases List.mem_cons.mp h with rfl | h
    · exact gW_ h3
    rcases List.mem_cons.mp h with rfl | h
    · exact gW_ h4
    cases h
  · rcases List.mem_cons.mp h with rfl | h
    · exact gW_ h5
    · exact gW_ h
theorem gC_ {y : MethodName} {bytes : ByteArray} {maxL : Nat} {ret : Option FieldType} (h : Cond.code y bytes maxL ret ∈ uw) : GoodIn uw (Cond.code y bytes maxL ret :: uw) := by
  intro w hw
  rcases List.mem_cons.mp hw with rfl | h2
  · exact gW_ h
  · exact gW_ h2
theorem pr_blind {D : va_G} {tys : List (ClassId × FieldType)} {av : List Value} {pre : va_W} {sz : Nat} : FrameBlind (pr_ D tys av pre sz) := fun a U g mk q => by
  obtain ⟨q0, q1, qP, qK, qD⟩ := q
  exact ⟨q0, q1, qP, va_K.moved (u := U) (U := U.calling g mk a) (Vm.Alike.refl U.vm) qK, qD⟩
section RWE
variable {l : Launch} {y : MethodName} {rm : Room} {D : va_G} {tys : List (ClassId × FieldType)} {av : List Value} {pre post : va_W} {cc : ByteArray} {nL : Nat}
theorem mI_of {N : Int32 → Prop} {r : Int32} {ret : Option FieldType} (hy : plainName y.cls = true) (hn : (lg_sl av).length ≤ nL)
    (body : ∀ (p : Program) (e : Env) (s : State) (m : MethodId) (below : List Frame) (meth : Method) (c : Code) (A : Nat → Prop) (ls : Array Slot) (H : Heap) (locs : List Loc), cx_ p s m meth c av.toArray cc y.cls ret nL A → wd_ D tys A s pre H locs → lv_has ls nL (lv_args 0 av) → W p l e rm s m av.toArray below meth c H locs 0 0 (qI_ D tys A N r post below av.toArray s) (F0 m 0 ls [])) :
    mI_ l y (Cond.code y cc nL ret :: uw) rm D tys av pre N r post := by
  intro sz
  refine Met.ofW (cc := cc) (maxL := nL) (ret := ret) hy rfl ?_
  intro p e s m args below meth c s₁ B hml hv
  obtain ⟨rfl, hsz, hP, hK, hD0⟩ := hv
  have hts := atoms_spec (ws := Cond.code y cc nL ret :: uw) B.pre
  subst hsz
  have hl := lv_entry av (n := nL) hn
  rw [lg_entry_eq]
  exact body p e s m below meth c (va_A pre s.heap.size) _ s.heap [] ⟨B.exec, B.bytes, B.returns, hml, findClass_of_methodNamed B.named, fun w h => hts w (List.mem_cons_of_mem _ h), B.notSynchronized, fun q h => Or.inr h⟩ ⟨hP, hD0.self, va_S.rf, hK⟩ hl
theorem mL_of {r : Int64} {ret : Option FieldType} (hy : plainName y.cls = true) (hn : (lg_sl av).length ≤ nL)
    (body : ∀ (p : Program) (e : Env) (s : State) (m : MethodId) (below : List Frame) (meth : Method) (c : Code) (A : Nat → Prop) (ls : Array Slot) (H : Heap) (locs : List Loc), cx_ p s m meth c av.toArray cc y.cls ret nL A → wd_ D tys A s pre H locs → lv_has ls nL (lv_args 0 av) → W p l e rm s m av.toArray below meth c H locs 0 0 (qL_ D tys A r post below av.toArray s) (F0 m 0 ls [])) :
    mL_ l y (Cond.code y cc nL ret :: uw) rm D tys av pre r post := by
  intro sz
  refine Met.ofW (cc := cc) (maxL := nL) (ret := ret) hy rfl ?_
  intro p e s m args below meth c s₁ B hml hv
  obtain ⟨rfl, hsz, hP, hK, hD0⟩ := hv
  have hts := atoms_spec (ws := Cond.code y cc nL ret :: uw) B.pre
  subst hsz
  have hl := lv_entry av (n := nL) hn
  rw [lg_entry_eq]
  exact body p e s m below meth c (va_A pre s.heap.size) _ s.heap [] ⟨B.exec, B.bytes, B.returns, hml, findClass_of_methodNamed B.named, fun w h => hts w (List.mem_cons_of_mem _ h), B.notSynchronized, fun q h => Or.inr h⟩ ⟨hP, hD0.self, va_S.rf, hK⟩ hl
theorem mV_of {ret : Option FieldType} (hy : plainName y.cls = true) (hn : (lg_sl av).length ≤ nL)
    (body : ∀ (p : Program) (e : Env) (s : State) (m : MethodId) (below : List Frame) (meth : Method) (c : Code) (A : Nat → Prop) (ls : Array Slot) (H : Heap) (locs : List Loc), cx_ p s m meth c av.toArray cc y.cls ret nL A → wd_ D tys A s pre H locs → lv_has ls nL (lv_args 0 av) → W p l e rm s m av.toArray below meth c H locs 0 0 (qV_ D tys A post below av.toArray s) (F0 m 0 ls [])) :
    mV_ l y (Cond.code y cc nL ret :: uw) rm D tys av pre post := by
  intro sz
  refine Met.ofW (cc := cc) (maxL := nL) (ret := ret) hy rfl ?_
  intro p e s m args below meth c s₁ B hml hv
  obtain ⟨rfl, hsz, hP, hK, hD0⟩ := hv
  have hts := atoms_spec (ws := Cond.code y cc nL ret :: uw) B.pre
  subst hsz
  have hl := lv_entry av (n := nL) hn
  rw [lg_entry_eq]
  exact body p e s m below meth c (va_A pre s.heap.size) _ s.heap [] ⟨B.exec, B.bytes, B.returns, hml, findClass_of_methodNamed B.named, fun w h => hts w (List.mem_cons_of_mem _ h), B.notSynchronized, fun q h => Or.inr h⟩ ⟨hP, hD0.self, va_S.rf, hK⟩ hl
end RWE
section RWS
variable {p : Program} {l : Launch} {e : Env} {R : Room} {s : State} {m : MethodId} {args : Array Value} {below : List Frame} {meth : Method} {c : Code} {H : Heap} {locs : List Loc} {Q : State → Prop} {cells slots : Nat}
variable {cc : ByteArray} {own : String} {ret : Option FieldType} {nL : Nat} {A : Nat → Prop} {D : va_G} {tys : List (ClassId × FieldType)} {ws ws' : va_W} {pc : Nat} {ls : Array Slot} {rest : List Value} {a : Nat}
theorem r_get (C0 : cx_ p s m meth c args cc own ret nL A) (hw : wd_ D tys A s ws H locs) (q0 k : Nat) {ci index N : Nat} {fs : List Value} {C : String} {T : u_T} {v : Value} (he : ws[q0]? = some (a, .inr (ci, fs))) (hc : vwCl[ci]? = some (C, T, N)) (hin : ∀ w ∈ u_ws C T N, w ∈ uw) (hk : k < N) (hlink : Cond.fieldLink own index (T k).1 (T k).2.1 (T k).2.2.1 ∈ uw) (hv : fs[k]? = some v) (hdg : decode cc pc = .ok (.getfield index, 3))
    (kk : W p l e R s m args below meth c H locs cells slots Q (F0 m (pc + 3) ls (v :: rest))) : W p l e R s m args below meth c H locs cells slots Q (F0 m pc ls (.ref a :: rest)) :=
  va_get (D := D) C0.1 C0.2.1 C0.2.2.2.2.2.1 hin C0.2.2.2.2.1 hw.2.2.2 hw.1 q0 he hc k hk (C0.2.2.2.2.2.1 _ hlink) (fun _ h9 => h9) hv hdg kk
theorem r_put (C0 : cx_ p s m meth c args cc own ret nL A) (hw : wd_ D tys A s ws H locs) (q0 k : Nat) {ci index N : Nat} {fs : List Value} {C : String} {T : u_T} {v : Value} {ty : FieldType} {ty0 : Nat → FieldType} (he : ws[q0]? = some (a, .inr (ci, fs))) (hc : vwCl[ci]? = some (C, T, N)) (hin : ∀ w ∈ u_ws C T N, w ∈ uw) (hty : ∀ k, k < N → parseFieldDescriptor (T k).2.2.1 = some (ty0 k)) (hnm : ∀ a, a < N → ∀ b, b < N → a ≠ b → (T a).2.1 ≠ (T b).2.1) (hk : k < N) (hlink : Cond.fieldLink own index (T k).1 (T k).2.1 (T k).2.2.1 ∈ uw) (hfin : (T k).2.2.2 = false) (hd : ty0 k = ty) (hn : narrow ty v = v) (hfit : fits ty v = true) (hl : k < fs.length) (hdg : decode cc pc = .ok (.putfield index, 3)) (hws : ws.set q0 (a, .inr (ci, fs.set k v)) = ws')
    (kk : ∀ (H : Heap) (locs : List Loc), wd_ D tys A s ws' H locs → W p l e R s m args below meth c H locs cells slots Q (F0 m (pc + 3) ls rest)) : W p l e R s m args below meth c H locs cells slots Q (F0 m pc ls (v :: .ref a :: rest)) := by
  subst hws
  exact va_put (D := D) (ty := ty) C0.1 C0.2.1 C0.2.2.2.2.2.1 hin ty0 hty hnm C0.2.2.2.2.1 hw.2.2.2 hw.1 hw.2.1 hw.2.2.1 q0 he hc k hk (C0.2.2.2.2.2.1 _ hlink) (fun _ h9 => h9) hfin (by rw [hty k hk, hd]) hn hfit hl hdg (fun H1 locs1 a1 a2 a3 => kk H1 locs1 ⟨a1, a2, a3, hw.2.2.2⟩)
theorem r_iald (C0 : cx_ p s m meth c args cc own ret nL A) (hw : wd_ D tys A s ws H locs) (q0 t0 : Nat) {cA : ClassId} {n : Nat} {f : Nat → Int32} (ha : ws[q0]? = some (a, .inl (cA, n, .inl f))) (ht : tys[t0]? = some (cA, .int)) {i : Int32} (hin : vp_in i n) (hdg : decode cc pc = .ok (.iaload, 1))
    (kk : W p l e R s m args below meth c H locs cells slots Q (F0 m (pc + 1) ls (.int (f i.toNatClampNeg) :: rest))) : W p l e R s m args below meth c H locs cells slots Q (F0 m pc ls (.int i :: .ref a :: rest)) :=
  va_iald C0.1 C0.2.1 hw.2.2.2 hw.1 q0 t0 ha ht hin hdg kk
theorem r_zald (C0 : cx_ p s m meth c args cc own ret nL A) (hw : wd_ D tys A s ws H locs) (q0 t0 : Nat) {cA : ClassId} {n : Nat} {f : Nat → Int32} (ha : ws[q0]? = some (a, .inl (cA, n, .inl f))) (ht : tys[t0]? = some (cA, .boolean)) {i : Int32} (hin : vp_in i n) (hdg : decode cc pc = .ok (.baload, 1))
    (kk : W p l e R s m args below meth c H locs cells slots Q (F0 m (pc + 1) ls (.int (f i.toNatClampNeg) :: rest))) : W p l e R s m args below meth c H locs cells slots Q (F0 m pc ls (.int i :: .ref a :: rest)) :=
  va_zald C0.1 C0.2.1 hw.2.2.2 hw.1 q0 t0 ha ht hin hdg kk
theorem r_bald (C0 : cx_ p s m meth c args cc own ret nL A) (hw : wd_ D tys A s ws H locs) (q0 t0 : Nat) {cA : ClassId} {n : Nat} {f : Nat → Int32} (ha : ws[q0]? = some (a, .inl (cA, n, .inl f))) (ht : tys[t0]? = some (cA, .byte)) {i : Int32} (hin : vp_in i n) (hdg : decode cc pc = .ok (.baload, 1))
    (kk : W p l e R s m args below meth c H locs cells slots Q (F0 m (pc + 1) ls (.int (f i.toNatClampNeg) :: rest))) : W p l e R s m args below meth c H locs cells slots Q (F0 m pc ls (.int i :: .ref a :: rest)) :=
  va_bald C0.1 C0.2.1 hw.2.2.2 hw.1 q0 t0 ha ht hin hdg kk
theorem r_lald (C0 : cx_ p s m meth c args cc own ret nL A) (hw : wd_ D tys A s ws H locs) (q0 t0 : Nat) {cA : ClassId} {n : Nat} {f : Nat → Int64} (ha : ws[q0]? = some (a, .inl (cA, n, .inr (.inl f)))) (ht : tys[t0]? = some (cA, .long)) {i : Int32} (hin : vp_in i n) (hdg : decode cc pc = .ok (.laload, 1))
    (kk : W p l e R s m args below meth c H locs cells slots Q (F0 m (pc + 1) ls (.long (f i.toNatClampNeg) :: rest))) : W p l e R s m args below meth c H locs cells slots Q (F0 m pc ls (.int i :: .ref a :: rest)) :=
  va_lald C0.1 C0.2.1 hw.2.2.2 hw.1 q0 t0 ha ht hin hdg kk
theorem r_iast (C0 : cx_ p s m meth c args cc own ret nL A) (hw : wd_ D tys A s ws H locs) (q0 t0 : Nat) {cA : ClassId} {n : Nat} {f : Nat → Int32} (ha : ws[q0]? = some (a, .inl (cA, n, .inl f))) (ht : tys[t0]? = some (cA, .int)) {i x : Int32} (hin : vp_in i n) (hdg : decode cc pc = .ok (.iastore, 1)) (hws : ws.set q0 (a, .inl (cA, n, .inl (upd f i.toNatClampNeg x))) = ws')
    (kk : ∀ (H : Heap) (locs : List Loc), wd_ D tys A s ws' H locs → W p l e R s m args below meth c H locs cells slots Q (F0 m (pc + 1) ls rest)) : W p l e R s m args below meth c H locs cells slots Q (F0 m pc ls (.int x :: .int i :: .ref a :: rest)) := by
  subst hws
  exact va_iast C0.1 C0.2.1 hw.2.2.2 hw.1 hw.2.1 hw.2.2.1 q0 t0 ha ht hin hdg (fun H1 locs1 a1 a2 a3 => kk H1 locs1 ⟨a1, a2, a3, hw.2.2.2⟩)
theorem r_zast (C0 : cx_ p s m meth c args cc own ret nL A) (hw : wd_ D tys A s ws H locs) (q0 t0 : Nat) {cA : ClassId} {n : Nat} {f : Nat → Int32} (ha : ws[q0]? = some (a, .inl (cA, n, .inl f))) (ht : tys[t0]? = some (cA, .boolean)) {i x : Int32} (hin : vp_in i n) (hdg : decode cc pc = .ok (.bastore, 1)) (hws : ws.set q0 (a, .inl (cA, n, .inl (upd f i.toNatClampNeg (vp_nar .boolean x)))) = ws')
    (kk : ∀ (H : Heap) (locs : List Loc), wd_ D tys A s ws' H locs → W p l e R s m args below meth c H locs cells slots Q (F0 m (pc + 1) ls rest)) : W p l e R s m args below meth c H locs cells slots Q (F0 m pc ls (.int x :: .int i :: .ref a :: rest)) := by
  subst hws
  exact va_zast C0.1 C0.2.1 hw.2.2.2 hw.1 hw.2.1 hw.2.2.1 q0 t0 ha ht hin hdg (fun H1 locs1 a1 a2 a3 => kk H1 locs1 ⟨a1, a2, a3, hw.2.2.2⟩)
theorem r_bast (C0 : cx_ p s m meth c args cc own ret nL A) (hw : wd_ D tys A s ws H locs) (q0 t0 : Nat) {cA : ClassId} {n : Nat} {f : Nat → Int32} (ha : ws[q0]? = some (a, .inl (cA, n, .inl f))) (ht : tys[t0]? = some (cA, .byte)) {i x : Int32} (hin : vp_in i n) (hdg : decode cc pc = .ok (.bastore, 1)) (hws : ws.set q0 (a, .inl (cA, n, .inl (upd f i.toNatClampNeg (vp_nar .byte x)))) = ws')
    (kk : ∀ (H : Heap) (locs : List Loc), wd_ D tys A s ws' H locs → W p l e R s m args below meth c H locs cells slots Q (F0 m (pc + 1) ls rest)) : W p l e R s m args below meth c H locs cells slots Q (F0 m pc ls (.int x :: .int i :: .ref a :: rest)) := by
  subst hws
  exact va_bast C0.1 C0.2.1 hw.2.2.2 hw.1 hw.2.1 hw.2.2.1 q0 t0 ha ht hin hdg (fun H1 locs1 a1 a2 a3 => kk H1 locs1 ⟨a1, a2, a3, hw.2.2.2⟩)
theorem r_last (C0 : cx_ p s m meth c args cc own ret nL A) (hw : wd_ D tys A s ws H locs) (q0 t0 : Nat) {cA : ClassId} {n : Nat} {f : Nat → Int64} (ha : ws[q0]? = some (a, .inl (cA, n, .inr (.inl f)))) (ht : tys[t0]? = some (cA, .long)) {i : Int32} {x : Int64} (hin : vp_in i n) (hdg : decode cc pc = .ok (.lastore, 1)) (hws : ws.set q0 (a, .inl (cA, n, .inr (.inl (vp_updL f i.toNatClampNeg x)))) = ws')
    (kk : ∀ (H : Heap) (locs : List Loc), wd_ D tys A s ws' H locs → W p l e R s m args below meth c H locs cells slots Q (F0 m (pc + 1) ls rest)) : W p l e R s m args below meth c H locs cells slots Q (F0 m pc ls (.long x :: .int i :: .ref a :: rest)) := by
  subst hws
  exact va_last C0.1 C0.2.1 hw.2.2.2 hw.1 hw.2.1 hw.2.2.1 q0 t0 ha ht hin hdg (fun H1 locs1 a1 a2 a3 => kk H1 locs1 ⟨a1, a2, a3, hw.2.2.2⟩)
theorem r_iret {N : Int32 → Prop} {v : Int32} (C0 : cx_ p s m meth c args cc own (some .int) nL A) (hw : wd_ D tys A s ws H locs) (hN : N v) (hdg : decode cc pc = .ok (.ireturn, 1)) : W p l e R s m args below meth c H locs 0 0 (qI_ D tys A N v ws below args s) (F0 m pc ls [.int v]) :=
  W.iret C0.1 C0.2.1 C0.2.2.1 (fun t ht hW => ⟨⟨v, (), rfl, ⟨rfl, hN⟩, by rw [ht]; exact hw.1, va_K.moved hW.alike hw.2.2.2, hw.2.1⟩, hw.2.2.1.F ht⟩) hw.2.2.1.2.2 hdg C0.2.2.2.2.2.2.1
theorem nB_nar {v : Int32} (h : nB_ v) : narrow .boolean (.int v) = .int v := by
  rcases h with rfl | rfl <;> rfl
theorem r_zret {v : Int32} (C0 : cx_ p s m meth c args cc own (some .boolean) nL A) (hw : wd_ D tys A s ws H locs) (hN : nB_ v) (hdg : decode cc pc = .ok (.ireturn, 1)) : W p l e R s m args below meth c H locs 0 0 (qI_ D tys A nB_ v ws below args s) (F0 m pc ls [.int v]) :=
  W.zret C0.1 C0.2.1 C0.2.2.1 (nB_nar hN) (fun t ht hW => ⟨⟨v, (), rfl, ⟨rfl, hN⟩, by rw [ht]; exact hw.1, va_K.moved hW.alike hw.2.2.2, hw.2.1⟩, hw.2.2.1.F ht⟩) hw.2.2.1.2.2 hdg C0.2.2.2.2.2.2.1
theorem r_lret {v : Int64} (C0 : cx_ p s m meth c args cc own (some .long) nL A) (hw : wd_ D tys A s ws H locs) (hdg : decode cc pc = .ok (.lreturn, 1)) : W p l e R s m args below meth c H locs 0 0 (qL_ D tys A v ws below args s) (F0 m pc ls [.long v]) :=
  W.lret C0.1 C0.2.1 C0.2.2.1 (fun t ht hW => ⟨⟨v, (), rfl, rfl, by rw [ht]; exact hw.1, va_K.moved hW.alike hw.2.2.2, hw.2.1⟩, hw.2.2.1.F ht⟩) hw.2.2.1.2.2 hdg C0.2.2.2.2.2.2.1
theorem r_vret (C0 : cx_ p s m meth c args cc own none nL A) (hw : wd_ D tys A s ws H locs) (hdg : decode cc pc = .ok (.return_, 1)) : W p l e R s m args below meth c H locs 0 0 (qV_ D tys A ws below args s) (F0 m pc ls []) :=
  W.vret C0.1 C0.2.1 C0.2.2.1 (fun t ht hW => ⟨⟨(), rfl, trivial, by rw [ht]; exact hw.1, va_K.moved hW.alike hw.2.2.2, hw.2.1⟩, hw.2.2.1.F ht⟩) hw.2.2.1.2.2 hdg C0.2.2.2.2.2.2.1
/-! an array of objects; a grid: an outer array of four rows of longs -/
abbrev pOa (cA : ClassId) (n : Nat) (q : Nat → Nat) (L : List Nat) : va_W := [(q 0, .inl (cA, n, .inr (.inr (.inr (.inr (fun i => L[i]?))))))]
abbrev pGr (κ : Nat → ClassId) (q : Nat → Nat) (M : Nat → Nat → Int64) : va_W := [(q 0, .inl (κ 6, 4, .inr (.inr (.inr (.inr (fun i => some (q (i + 1)))))))), (q 1, .inl (κ 3, 5, .inr (.inl (M 0)))), (q 2, .inl (κ 3, 5, .inr (.inl (M 1)))), (q 3, .inl (κ 3, 5, .inr (.inl (M 2)))), (q 4, .inl (κ 3, 5, .inr (.inl (M 3))))]
def gM_ (M : Nat → Nat → Int64) (i k : Nat) (x : Int64) : Nat → Nat → Int64 := fun r => if r = i then vp_updL (M r) k x else M r
theorem r_aldo (C0 : cx_ p s m meth c args cc own ret nL A) (hw : wd_ D tys A s ws H locs) (q0 t0 : Nat) {cA : ClassId} {C : String} {n b : Nat} {f : Nat → Option Nat} (ha : ws[q0]? = some (a, .inl (cA, n, .inr (.inr (.inr (.inr f)))))) (ht : tys[t0]? = some (cA, .object C)) {i : Int32} (hin : vp_in i n) (hv : f i.toNatClampNeg = some b) (hdg : decode cc pc = .ok (.aaload, 1))
    (kk : W p l e R s m args below meth c H locs cells slots Q (F0 m (pc + 1) ls (.ref b :: rest))) : W p l e R s m args below meth c H locs cells slots Q (F0 m pc ls (.int i :: .ref a :: rest)) :=
  va_aldq C0.1 C0.2.1 hw.2.2.2 hw.1 q0 t0 ha ht hin hdg (by rw [hv]; exact kk)
theorem r_aldg (C0 : cx_ p s m meth c args cc own ret nL A) (hw : wd_ D tys A s ws H locs) (q0 t0 : Nat) {cA : ClassId} {ty : FieldType} {n b : Nat} {f : Nat → Option Nat} (ha : ws[q0]? = some (a, .inl (cA, n, .inr (.inr (.inr (.inr f)))))) (ht : tys[t0]? = some (cA, .array ty)) {i : Int32} (hin : vp_in i n) (hv : f i.toNatClampNeg = some b) (hdg : decode cc pc = .ok (.aaload, 1))
    (kk : W p l e R s m args below meth c H locs cells slots Q (F0 m (pc + 1) ls (.ref b :: rest))) : W p l e R s m args below meth c H locs cells slots Q (F0 m pc ls (.int i :: .ref a :: rest)) := by
  have hlt : i.toNatClampNeg < n := Nat.not_le.mp fun q => hin (Or.inr q)
  have k2 : W p l e R s m args below meth c H locs cells slots Q (F0 m (pc + 1) ls (va_rf (f i.toNatClampNeg) :: rest)) := by rw [hv]; exact kk
  exact W.aald (v := va_rf (f i.toNatClampNeg)) (ty := .array ty) C0.1 C0.2.1 (hw.1 q0 _ ha) ((hw.2.2.2.2 t0 _ ht).1 n (fun j => va_rf (f j))) rfl (fun q => by cases q) (by show ¬ (i < 0 ∨ (arrV _ _ _).slots.size ≤ _); rw [arrV_size]; exact hin) (by show (arrV _ _ _).slots[_]? = _; rw [arrV_read _ _ hlt]) rfl rfl hdg k2
theorem lt4_ {n : Nat} (h : n < 4) : n = 0 ∨ n = 1 ∨ n = 2 ∨ n = 3 := by omega
theorem r_gald (C0 : cx_ p s m meth c args cc own ret nL A) (hw : wd_ D tys A s ws H locs) (q0 t0 : Nat) {cA : ClassId} {n : Nat} {q : Nat → Nat} {M : Nat → Nat → Int64} (h0 : ws[q0 + 1]? = some (q 1, .inl (cA, n, .inr (.inl (M 0))))) (h1 : ws[q0 + 2]? = some (q 2, .inl (cA, n, .inr (.inl (M 1))))) (h2 : ws[q0 + 3]? = some (q 3, .inl (cA, n, .inr (.inl (M 2))))) (h3 : ws[q0 + 4]? = some (q 4, .inl (cA, n, .inr (.inl (M 3))))) (ht : tys[t0]? = some (cA, .long)) {i j : Int32} (hi : vp_in i 4) (hin : vp_in j n) (hdg : decode cc pc = .ok (.laload, 1))
    (kk : W p l e R s m args below meth c H locs cells slots Q (F0 m (pc + 1) ls (.long (M i.toNatClampNeg j.toNatClampNeg) :: rest))) : W p l e R s m args below meth c H locs cells slots Q (F0 m pc ls (.int j :: .ref (q (i.toNatClampNeg + 1)) :: rest)) := by
  have hlt : i.toNatClampNeg < 4 := Nat.not_le.mp fun q => hi (Or.inr q)
  generalize i.toNatClampNeg = k at hlt kk ⊢
  rcases lt4_ hlt with rfl | rfl | rfl | rfl
  · exact r_lald C0 hw _ t0 h0 ht hin hdg kk
  · exact r_lald C0 hw _ t0 h1 ht hin hdg kk
  · exact r_lald C0 hw _ t0 h2 ht hin hdg kk
  · exact r_lald C0 hw _ t0 h3 ht hin hdg kk
theorem r_gast (C0 : cx_ p s m meth c args cc own ret nL A) (hw : wd_ D tys A s ws H locs) (q0 t0 : Nat) {cA : ClassId} {n : Nat} {q : Nat → Nat} {M : Nat → Nat → Int64} {WF : (Nat → Nat → Int64) → va_W} (h0 : ws[q0 + 1]? = some (q 1, .inl (cA, n, .inr (.inl (M 0))))) (h1 : ws[q0 + 2]? = some (q 2, .inl (cA, n, .inr (.inl (M 1))))) (h2 : ws[q0 + 3]? = some (q 3, .inl (cA, n, .inr (.inl (M 2))))) (h3 : ws[q0 + 4]? = some (q 4, .inl (cA, n, .inr (.inl (M 3))))) (ht : tys[t0]? = some (cA, .long)) {i j : Int32} {x : Int64} (hi : vp_in i 4) (hin : vp_in j n)
    (w0 : ws.set (q0 + 1) (q 1, .inl (cA, n, .inr (.inl (vp_updL (M 0) j.toNatClampNeg x)))) = WF (gM_ M 0 j.toNatClampNeg x)) (w1 : ws.set (q0 + 2) (q 2, .inl (cA, n, .inr (.inl (vp_updL (M 1) j.toNatClampNeg x)))) = WF (gM_ M 1 j.toNatClampNeg x)) (w2 : ws.set (q0 + 3) (q 3, .inl (cA, n, .inr (.inl (vp_updL (M 2) j.toNatClampNeg x)))) = WF (gM_ M 2 j.toNatClampNeg x)) (w3 : ws.set (q0 + 4) (q 4, .inl (cA, n, .inr (.inl (vp_updL (M 3) j.toNatClampNeg x)))) = WF (gM_ M 3 j.toNatClampNeg x)) (hdg : decode cc pc = .ok (.lastore, 1))
    (kk : ∀ (H : Heap) (locs : List Loc), wd_ D tys A s (WF (gM_ M i.toNatClampNeg j.toNatClampNeg x)) H locs → W p l e R s m args below meth c H locs cells slots Q (F0 m (pc + 1) ls rest)) : W p l e R s m args below meth c H locs cells slots Q (F0 m pc ls (.long x :: .int j :: .ref (q (i.toNatClampNeg + 1)) :: rest)) := by
  have hlt : i.toNatClampNeg < 4 := Nat.not_le.mp fun q => hi (Or.inr q)
  generalize i.toNatClampNeg = k at hlt kk ⊢
  rcases lt4_ hlt with rfl | rfl | rfl | rfl
  · exact r_last C0 hw _ t0 h0 ht hin hdg w0 kk
  · exact r_last C0 hw _ t0 h1 ht hin hdg w1 kk
  · exact r_last C0 hw _ t0 h2 ht hin hdg w2 kk
  · exact r_last C0 hw _ t0 h3 ht hin hdg w3 kk
/-! System.arraycopy from 0 to 0 -/
def zb_ {α : Type} (f : Nat → Int32) (n : Nat) (k : Option α) : Option α := if ∀ i, i < n → (f i = 0 ∨ f i = 1) then k else none
theorem zb_s {α : Type} {f : Nat → Int32} {n : Nat} {k : Option α} {r : α} (h : zb_ f n k = some r) : (∀ i, i < n → (f i = 0 ∨ f i = 1)) ∧ k = some r := by
  unfold zb_ at h
  by_cases c : ∀ i, i < n → (f i = 0 ∨ f i = 1)
  · rw [if_pos c] at h; exact ⟨c, h⟩
  · rw [if_neg c] at h; cases h
theorem r_copy (C0 : cx_ p s m meth c args cc own ret nL A) (hw : wd_ D tys A s ws H locs) {index : Nat} (hlink : Cond.methodLink own index arraycopyName ∈ uw) (hnat : Cond.native arraycopyName ∈ uw) (hstat : Cond.static arraycopyName ∈ uw) (hini : Cond.initialized "java/lang/System" ∈ uw) (q0 q1 t0 : Nat) {a0 : Nat} {c0 : ClassId} {n0 n1 : Nat} {f g : Nat → Int32} {ty : FieldType} (ha0 : ws[q0]? = some (a0, .inl (c0, n0, .inl f))) (ha1 : ws[q1]? = some (a, .inl (c0, n1, .inl g))) (ht0 : tys[t0]? = some (c0, ty)) (hprim : refKind ty = false) {n : Int32} (h3 : ¬ n < 0) (h4 : n.toNatClampNeg ≤ n0) (h5 : n.toNatClampNeg ≤ n1) (hfit : ∀ i, i < n.toNatClampNeg → fits ty (.int (f i)) = true) (hml : ls.size = nL) (hframes : 1 ≤ R.frames) (hlocals : (rest.map fun v => v.category).sum + (nativeFrameWords "java/lang/System" "arraycopy" 5 + 11) ≤ R.locals) (hdg : decode cc pc = .ok (.invokestatic index, 3))
    (hws : ws.set q1 (a, .inl (c0, n1, .inl (va_cpy f g 0 0 n.toNatClampNeg))) = ws')
    (kk : ∀ (H : Heap) (locs : List Loc), wd_ D tys A s ws' H locs → W p l e R s m args below meth c H locs cells slots Q (F0 m (pc + 3) ls rest)) : W p l e R s m args below meth c H locs cells slots Q (F0 m pc ls (.int n :: .int 0 :: .ref a :: .int 0 :: .ref a0 :: rest)) := by
  subst hws
  have z0 : (0 : Int32).toNatClampNeg = 0 := by decide
  refine va_copyi (ty := ty) C0.1 C0.2.1 (C0.2.2.2.1.trans hml.symm) C0.2.2.2.2.1 (C0.2.2.2.2.2.1 _ hlink) (C0.2.2.2.2.2.1 _ hnat) (C0.2.2.2.2.2.1 _ hstat) (C0.2.2.2.2.2.1 _ hini) hw.2.2.2 hw.1 hw.2.1 hw.2.2.1 q0 q1 t0 t0 ha0 ha1 ht0 ht0 hprim (by decide) (by decide) h3 (by rw [z0]; omega) (by rw [z0]; omega) (fun i hi => by rw [z0, Nat.zero_add]; exact hfit i hi) hframes hlocals hdg (fun H1 locs1 a1 a2 a3 => ?_)
  rw [z0] at a1 a2
  exact kk H1 locs1 ⟨a1, a2, a3, hw.2.2.2⟩
theorem zb_fit {v : Int32} (h : v = 0 ∨ v = 1) : fits .boolean (.int v) = true := by rcases h with rfl | rfl <;> decide
/-! calls -/
variable {y : MethodName} {bytes : ByteArray} {maxL index : Nat} {ret' : Option FieldType} {rm' : Room} {As st0 : List Value} {b : Nat} {pre post bs bs' : List va_W} {C : String}
theorem cb_ (C0 : cx_ p s m meth c args cc own ret nL A) (hw : wd_ D tys A s bs.flatten H locs) (isC isR iq : List Nat) (hC : isC.map (fun i => bs[i]?) = pre.map some) (hR : isR.map (fun i => bs[i]?) = (isR.filterMap (fun i => bs[i]?)).map some) (hn : va_nd isR = true) (hdis : ∀ i ∈ isR, i ∉ isC) (hq : iq.map (fun i => (isR.filterMap (fun i => bs[i]?) ++ post)[i]?) = bs'.map some) (hnq : va_nd iq = true)
    {t : State} {H1 : Heap} {locs1 : List Loc} (ht : t.heap = H1) (hvm : s.vm.Alike t.vm) (hB : po_ D tys (va_A pre.flatten H.size) post.flatten () t) (hk1 : ∀ q : Nat, q < H.size → ¬ va_A pre.flatten H.size q → H1[q]? = H[q]?) (hS : va_S A s.heap H1 locs1) : wd_ D tys A s bs'.flatten H1 locs1 := by
  obtain ⟨hP1, hK1, hD1⟩ := hB
  rw [ht] at hP1
  have hFc := bl_free (wc := pre) hw.2.1 hw.2.2.1 C0.2.2.2.2.2.2.2 isC hC
  obtain ⟨hP, hD⟩ := bl_join (w1 := post) hw.1 hw.2.1 isC isR hC hR hn hdis hk1 hFc hP1 hD1
  exact ⟨bl_P hP iq hq, bl_D hD iq hnq hq, hS, hw.2.2.2⟩
theorem rv_i {N : Int32 → Prop} {r : Int32} {ci : Nat} {vq : vw_C} {fs : List Value} (C0 : cx_ p s m meth c args cc own ret nL A) (hw : wd_ D tys A s bs.flatten H locs) (hM : mI_ l y (Cond.code y bytes maxL ret' :: uw) rm' D tys (.ref b :: As) pre.flatten N r post.flatten) (hcw : cv_ own index y vq.1 bytes maxL ret' As.length) (hrm : rm'.cells = 0 ∧ rm'.slots = 0 ∧ rm'.frames + 1 ≤ R.frames ∧ 8 + (maxL + 11) + rm'.locals ≤ R.locals) (hcs : cells ≤ R.cells ∧ slots ≤ R.slots)
    (isC isR iq : List Nat) (hnC : va_nd isC = true) (hC : isC.map (fun i => bs[i]?) = pre.map some) (hR : isR.map (fun i => bs[i]?) = (isR.filterMap (fun i => bs[i]?)).map some) (hn : va_nd isR = true) (hdis : ∀ i ∈ isR, i ∉ isC) (hq : iq.map (fun i => (isR.filterMap (fun i => bs[i]?) ++ post)[i]?) = bs'.map some) (hnq : va_nd iq = true)
    (hrc : vwCl[ci]? = some vq) (hre : pre.flatten[0]? = some (b, .inr (ci, fs))) (hst : st0 = As.reverse ++ .ref b :: rest) (hls : ls.size = nL) (hroom : (rest.map fun v => v.category).sum ≤ 8) (hdg : decode cc pc = .ok (.invokevirtual index, 3))
    (kk : ∀ (H : Heap) (locs : List Loc), wd_ D tys A s bs'.flatten H locs → N r → W p l e R s m args below meth c H locs cells slots Q (F0 m (pc + 3) ls (.int r :: rest))) : W p l e R s m args below meth c H locs cells slots Q (F0 m pc ls st0) := by
  have hPc : va_P D vwCl pre.flatten H := bl_P hw.1 isC hC
  have hDc : va_D A pre.flatten := bl_D hw.2.1 isC hnC hC
  have hFc := bl_free (wc := pre) hw.2.1 hw.2.2.1 C0.2.2.2.2.2.2.2 isC hC
  refine va_calli (va_runV (As := As) (rest := rest) ⟨C0.1, C0.2.1, C0.2.2.2.1, C0.2.2.2.2.1, C0.2.2.2.2.2.1⟩ (hM H.size) (cwV As.length C0.2.2.2.2.2.1 (gV_ hcw) rfl hrm.1 hrm.2.1 hcw.2.2.2.2.2 hrm.2.2) ⟨pr_blind, va_recv hw.2.2.2 hPc hrc hre, fun U hU hW => ⟨rfl, by rw [hU], by rw [hU]; exact hPc, va_K.moved hW.alike hw.2.2.2, hDc.weaken (fun _ _ _ _ => trivial)⟩⟩ rfl rfl hls hst (lv_room hroom) hdg hcs) hw.2.2.1 (fun q _ h => hFc q h) hFc (fun r1 u t H1 locs1 ht hvm hw1 hB hz1 hk1 hS => ?_)
  obtain ⟨rfl, hN⟩ := hw1
  exact kk H1 locs1 (cb_ C0 hw isC isR iq hC hR hn hdis hq hnq ht hvm hB hk1 hS) hN
theorem rv_l {r : Int64} {ci : Nat} {vq : vw_C} {fs : List Value} (C0 : cx_ p s m meth c args cc own ret nL A) (hw : wd_ D tys A s bs.flatten H locs) (hM : mL_ l y (Cond.code y bytes maxL ret' :: uw) rm' D tys (.ref b :: As) pre.flatten r post.flatten) (hcw : cv_ own index y vq.1 bytes maxL ret' As.length) (hrm : rm'.cells = 0 ∧ rm'.slots = 0 ∧ rm'.frames + 1 ≤ R.frames ∧ 8 + (maxL + 11) + rm'.locals ≤ R.locals) (hcs : cells ≤ R.cells ∧ slots ≤ R.slots)
    (isC isR iq : List Nat) (hnC : va_nd isC = true) (hC : isC.map (fun i => bs[i]?) = pre.map some) (hR : isR.map (fun i => bs[i]?) = (isR.filterMap (fun i => bs[i]?)).map some) (hn : va_nd isR = true) (hdis : ∀ i ∈ isR, i ∉ isC) (hq : iq.map (fun i => (isR.filterMap (fun i => bs[i]?) ++ post)[i]?) = bs'.map some) (hnq : va_nd iq = true)
    (hrc : vwCl[ci]? = some vq) (hre : pre.flatten[0]? = some (b, .inr (ci, fs))) (hst : st0 = As.reverse ++ .ref b :: rest) (hls : ls.size = nL) (hroom : (rest.map fun v => v.category).sum ≤ 8) (hdg : decode cc pc = .ok (.invokevirtual index, 3))
    (kk : ∀ (H : Heap) (locs : List Loc), wd_ D tys A s bs'.flatten H locs → W p l e R s m args below meth c H locs cells slots Q (F0 m (pc + 3) ls (.long r :: rest))) : W p l e R s m args below meth c H locs cells slots Q (F0 m pc ls st0) := by
  have hPc : va_P D vwCl pre.flatten H := bl_P hw.1 isC hC
  have hDc : va_D A pre.flatten := bl_D hw.2.1 isC hnC hC
  have hFc := bl_free (wc := pre) hw.2.1 hw.2.2.1 C0.2.2.2.2.2.2.2 isC hC
  refine va_calll (va_runV (As := As) (rest := rest) ⟨C0.1, C0.2.1, C0.2.2.2.1, C0.2.2.2.2.1, C0.2.2.2.2.2.1⟩ (hM H.size) (cwV As.length C0.2.2.2.2.2.1 (gV_ hcw) rfl hrm.1 hrm.2.1 hcw.2.2.2.2.2 hrm.2.2) ⟨pr_blind, va_recv hw.2.2.2 hPc hrc hre, fun U hU hW => ⟨rfl, by rw [hU], by rw [hU]; exact hPc, va_K.moved hW.alike hw.2.2.2, hDc.weaken (fun _ _ _ _ => trivial)⟩⟩ rfl rfl hls hst (lv_room hroom) hdg hcs) hw.2.2.1 (fun q _ h => hFc q h) hFc (fun r1 u t H1 locs1 ht hvm hw1 hB hz1 hk1 hS => ?_)
  subst hw1
  exact kk H1 locs1 (cb_ C0 hw isC isR iq hC hR hn hdis hq hnq ht hvm hB hk1 hS)
theorem rv_v {ci : Nat} {vq : vw_C} {fs : List Value} (C0 : cx_ p s m meth c args cc own ret nL A) (hw : wd_ D tys A s bs.flatten H locs) (hM : mV_ l y (Cond.code y bytes maxL ret' :: uw) rm' D tys (.ref b :: As) pre.flatten post.flatten) (hcw : cv_ own index y vq.1 bytes maxL ret' As.length) (hrm : rm'.cells = 0 ∧ rm'.slots = 0 ∧ rm'.frames + 1 ≤ R.frames ∧ 8 + (maxL + 11) + rm'.locals ≤ R.locals) (hcs : cells ≤ R.cells ∧ slots ≤ R.slots)
    (isC isR iq : List Nat) (hnC : va_nd isC = true) (hC : isC.map (fun i => bs[i]?) = pre.map some) (hR : isR.map (fun i => bs[i]?) = (isR.filterMap (fun i => bs[i]?)).map some) (hn : va_nd isR = true) (hdis : ∀ i ∈ isR, i ∉ isC) (hq : iq.map (fun i => (isR.filterMap (fun i => bs[i]?) ++ post)[i]?) = bs'.map some) (hnq : va_nd iq = true)
    (hrc : vwCl[ci]? = some vq) (hre : pre.flatten[0]? = some (b, .inr (ci, fs))) (hst : st0 = As.reverse ++ .ref b :: rest) (hls : ls.size = nL) (hroom : (rest.map fun v => v.category).sum ≤ 8) (hdg : decode cc pc = .ok (.invokevirtual index, 3))
    (kk : ∀ (H : Heap) (locs : List Loc), wd_ D tys A s bs'.flatten H locs → W p l e R s m args below meth c H locs cells slots Q (F0 m (pc + 3) ls rest)) : W p l e R s m args below meth c H locs cells slots Q (F0 m pc ls st0) := by
  have hPc : va_P D vwCl pre.flatten H := bl_P hw.1 isC hC
  have hDc : va_D A pre.flatten := bl_D hw.2.1 isC hnC hC
  have hFc := bl_free (wc := pre) hw.2.1 hw.2.2.1 C0.2.2.2.2.2.2.2 isC hC
  refine va_callv (va_runV (As := As) (rest := rest) ⟨C0.1, C0.2.1, C0.2.2.2.1, C0.2.2.2.2.1, C0.2.2.2.2.2.1⟩ (hM H.size) (cwV As.length C0.2.2.2.2.2.1 (gV_ hcw) rfl hrm.1 hrm.2.1 hcw.2.2.2.2.2 hrm.2.2) ⟨pr_blind, va_recv hw.2.2.2 hPc hrc hre, fun U hU hW => ⟨rfl, by rw [hU], by rw [hU]; exact hPc, va_K.moved hW.alike hw.2.2.2, hDc.weaken (fun _ _ _ _ => trivial)⟩⟩ rfl rfl hls hst (lv_room hroom) hdg hcs) hw.2.2.1 (fun q _ h => hFc q h) hFc (fun u t H1 locs1 ht hvm hw1 hB hz1 hk1 hS => ?_)
  exact kk H1 locs1 (cb_ C0 hw isC isR iq hC hR hn hdis hq hnq ht hvm hB hk1 hS)
theorem rs_i {N : Int32 → Prop} {r : Int32} (C0 : cx_ p s m meth c args cc own ret nL A) (hw : wd_ D tys A s bs.flatten H locs) (hM : mI_ l y (Cond.code y bytes maxL ret' :: uw) rm' D tys As pre.flatten N r post.flatten) (hcw : cs_ own index y bytes maxL ret' As.length) (hrm : rm'.cells = 0 ∧ rm'.slots = 0 ∧ rm'.frames + 1 ≤ R.frames ∧ 8 + (maxL + 11) + rm'.locals ≤ R.locals) (hcs : cells ≤ R.cells ∧ slots ≤ R.slots)
    (isC isR iq : List Nat) (hnC : va_nd isC = true) (hC : isC.map (fun i => bs[i]?) = pre.map some) (hR : isR.map (fun i => bs[i]?) = (isR.filterMap (fun i => bs[i]?)).map some) (hn : va_nd isR = true) (hdis : ∀ i ∈ isR, i ∉ isC) (hq : iq.map (fun i => (isR.filterMap (fun i => bs[i]?) ++ post)[i]?) = bs'.map some) (hnq : va_nd iq = true)
    (hst : st0 = As.reverse ++ rest) (hls : ls.size = nL) (hroom : (rest.map fun v => v.category).sum ≤ 8) (hdg : decode cc pc = .ok (.invokestatic index, 3))
    (kk : ∀ (H : Heap) (locs : List Loc), wd_ D tys A s bs'.flatten H locs → N r → W p l e R s m args below meth c H locs cells slots Q (F0 m (pc + 3) ls (.int r :: rest))) : W p l e R s m args below meth c H locs cells slots Q (F0 m pc ls st0) := by
  have hPc : va_P D vwCl pre.flatten H := bl_P hw.1 isC hC
  have hDc : va_D A pre.flatten := bl_D hw.2.1 isC hnC hC
  have hFc := bl_free (wc := pre) hw.2.1 hw.2.2.1 C0.2.2.2.2.2.2.2 isC hC
  refine va_calli (va_runS (As := As) (rest := rest) ⟨C0.1, C0.2.1, C0.2.2.2.1, C0.2.2.2.2.1, C0.2.2.2.2.2.1⟩ (hM H.size) ⟨callB_of As.length C0.2.2.2.2.2.1 (gC_ hcw.2.2.2.1) rfl hrm.1 hrm.2.1 (C0.2.2.2.2.2.1 _ hcw.2.2.1) (C0.2.2.2.2.2.1 _ hcw.1) hcw.2.2.2.2 hrm.2.2, C0.2.2.2.2.2.1 _ hcw.2.1⟩ ⟨pr_blind, fun U hU hW => ⟨rfl, by rw [hU], by rw [hU]; exact hPc, va_K.moved hW.alike hw.2.2.2, hDc.weaken (fun _ _ _ _ => trivial)⟩⟩ rfl rfl hls hst (lv_room hroom) hdg hcs) hw.2.2.1 (fun q _ h => hFc q h) hFc (fun r1 u t H1 locs1 ht hvm hw1 hB hz1 hk1 hS => ?_)
  obtain ⟨rfl, hN⟩ := hw1
  exact kk H1 locs1 (cb_ C0 hw isC isR iq hC hR hn hdis hq hnq ht hvm hB hk1 hS) hN
theorem rs_l {r : Int64} (C0 : cx_ p s m meth c args cc own ret nL A) (hw : wd_ D tys A s bs.flatten H locs) (hM : mL_ l y (Cond.code y bytes maxL ret' :: uw) rm' D tys As pre.flatten r post.flatten) (hcw : cs_ own index y bytes maxL ret' As.length) (hrm : rm'.cells = 0 ∧ rm'.slots = 0 ∧ rm'.frames + 1 ≤ R.frames ∧ 8 + (maxL + 11) + rm'.locals ≤ R.locals) (hcs : cells ≤ R.cells ∧ slots ≤ R.slots)
    (isC isR iq : List Nat) (hnC : va_nd isC = true) (hC : isC.map (fun i => bs[i]?) = pre.map some) (hR : isR.map (fun i => bs[i]?) = (isR.filterMap (fun i => bs[i]?)).map some) (hn : va_nd isR = true) (hdis : ∀ i ∈ isR, i ∉ isC) (hq : iq.map (fun i => (isR.filterMap (fun i => bs[i]?) ++ post)[i]?) = bs'.map some) (hnq : va_nd iq = true)
    (hst : st0 = As.reverse ++ rest) (hls : ls.size = nL) (hroom : (rest.map fun v => v.category).sum ≤ 8) (hdg : decode cc pc = .ok (.invokestatic index, 3))
    (kk : ∀ (H : Heap) (locs : List Loc), wd_ D tys A s bs'.flatten H locs → W p l e R s m args below meth c H locs cells slots Q (F0 m (pc + 3) ls (.long r :: rest))) : W p l e R s m args below meth c H locs cells slots Q (F0 m pc ls st0) := by
  have hPc : va_P D vwCl pre.flatten H := bl_P hw.1 isC hC
  have hDc : va_D A pre.flatten := bl_D hw.2.1 isC hnC hC
  have hFc := bl_free (wc := pre) hw.2.1 hw.2.2.1 C0.2.2.2.2.2.2.2 isC hC
  refine va_calll (va_runS (As := As) (rest := rest) ⟨C0.1, C0.2.1, C0.2.2.2.1, C0.2.2.2.2.1, C0.2.2.2.2.2.1⟩ (hM H.size) ⟨callB_of As.length C0.2.2.2.2.2.1 (gC_ hcw.2.2.2.1) rfl hrm.1 hrm.2.1 (C0.2.2.2.2.2.1 _ hcw.2.2.1) (C0.2.2.2.2.2.1 _ hcw.1) hcw.2.2.2.2 hrm.2.2, C0.2.2.2.2.2.1 _ hcw.2.1⟩ ⟨pr_blind, fun U hU hW => ⟨rfl, by rw [hU], by rw [hU]; exact hPc, va_K.moved hW.alike hw.2.2.2, hDc.weaken (fun _ _ _ _ => trivial)⟩⟩ rfl rfl hls hst (lv_room hroom) hdg hcs) hw.2.2.1 (fun q _ h => hFc q h) hFc (fun r1 u t H1 locs1 ht hvm hw1 hB hz1 hk1 hS => ?_)
  subst hw1
  exact kk H1 locs1 (cb_ C0 hw isC isR iq hC hR hn hdis hq hnq ht hvm hB hk1 hS)
theorem rs_v (C0 : cx_ p s m meth c args cc own ret nL A) (hw : wd_ D tys A s bs.flatten H locs) (hM : mV_ l y (Cond.code y bytes maxL ret' :: uw) rm' D tys As pre.flatten post.flatten) (hcw : cs_ own index y bytes maxL ret' As.length) (hrm : rm'.cells = 0 ∧ rm'.slots = 0 ∧ rm'.frames + 1 ≤ R.frames ∧ 8 + (maxL + 11) + rm'.locals ≤ R.locals) (hcs : cells ≤ R.cells ∧ slots ≤ R.slots)
    (isC isR iq : List Nat) (hnC : va_nd isC = true) (hC : isC.map (fun i => bs[i]?) = pre.map some) (hR : isR.map (fun i => bs[i]?) = (isR.filterMap (fun i => bs[i]?)).map some) (hn : va_nd isR = true) (hdis : ∀ i ∈ isR, i ∉ isC) (hq : iq.map (fun i => (isR.filterMap (fun i => bs[i]?) ++ post)[i]?) = bs'.map some) (hnq : va_nd iq = true)
    (hst : st0 = As.reverse ++ rest) (hls : ls.size = nL) (hroom : (rest.map fun v => v.category).sum ≤ 8) (hdg : decode cc pc = .ok (.invokestatic index, 3))
    (kk : ∀ (H : Heap) (locs : List Loc), wd_ D tys A s bs'.flatten H locs → W p l e R s m args below meth c H locs cells slots Q (F0 m (pc + 3) ls rest)) : W p l e R s m args below meth c H locs cells slots Q (F0 m pc ls st0) := by
  have hPc : va_P D vwCl pre.flatten H := bl_P hw.1 isC hC
  have hDc : va_D A pre.flatten := bl_D hw.2.1 isC hnC hC
  have hFc := bl_free (wc := pre) hw.2.1 hw.2.2.1 C0.2.2.2.2.2.2.2 isC hC
  refine va_callv (va_runS (As := As) (rest := rest) ⟨C0.1, C0.2.1, C0.2.2.2.1, C0.2.2.2.2.1, C0.2.2.2.2.2.1⟩ (hM H.size) ⟨callB_of As.length C0.2.2.2.2.2.1 (gC_ hcw.2.2.2.1) rfl hrm.1 hrm.2.1 (C0.2.2.2.2.2.1 _ hcw.2.2.1) (C0.2.2.2.2.2.1 _ hcw.1) hcw.2.2.2.2 hrm.2.2, C0.2.2.2.2.2.1 _ hcw.2.1⟩ ⟨pr_blind, fun U hU hW => ⟨rfl, by rw [hU], by rw [hU]; exact hPc, va_K.moved hW.alike hw.2.2.2, hDc.weaken (fun _ _ _ _ => trivial)⟩⟩ rfl rfl hls hst (lv_room hroom) hdg hcs) hw.2.2.1 (fun q _ h => hFc q h) hFc (fun u t H1 locs1 ht hvm hw1 hB hz1 hk1 hS => ?_)
  exact kk H1 locs1 (cb_ C0 hw isC isR iq hC hR hn hdis hq hnq ht hvm hB hk1 hS)
end RWS
