/-! the five words of the text as String constants: what the Statement gives of them, carried along -/

def slen : List Nat := [4, 4, 4, 5, 3]
def sbyt : List (List Int32) := [[116, 117, 114, 110], [104, 111, 108, 100], [98, 101, 97, 109], [112, 111, 105, 110, 116], [97, 108, 108]]
def sidx : List Nat := [57, 67, 69, 74, 79]
def stxt : List String := ["turn", "hold", "beam", "point", "all"]
def ex_ (adK adV : Nat → Nat) (A : Nat → Prop) (U : State) : Prop := vk_S 5 slen sbyt adK adV A U U.heap ∧ (∀ i : Nat, i < 5 → vk_R RX5 (sidx.getD i 0) (stxt.getD i "") (adK i) U) ∧ va_Z "java/lang/String" "COMPACT_STRINGS" "Z" (.int 1) A U U.heap ∧ va_Zq "jdk/internal/util/Preconditions" "SIOOBE_FORMATTER" "Ljava/util/function/BiFunction;" A U U.heap
theorem ex_call {adK adV : Nat → Nat} {A B : Nat → Prop} {s U : State} {H : Heap} {locs : List Loc} (h : ex_ adK adV A s) (hW : s.WarmedH U.vm) (hU : U.heap = H) (hS : va_S A s.heap H locs) (hAB : ∀ q, B q → A q) : ex_ adK adV B U := by
  subst hU
  exact ⟨((h.1.kept hS.2.1).moved hW.alike).narrow hAB, fun i hi => (h.2.1 i hi).warm hW, ((h.2.2.1.kept hS.2.1).moved hW.alike).narrow hAB, ((h.2.2.2.kept hS.2.1).moved hW.alike).narrow hAB⟩
theorem ex_blind {adK adV : Nat → Nat} {A : Nat → Prop} {U : State} {g : JFrame} {mk : MethodId} {a : Array Value} (h : ex_ adK adV A U) : ex_ adK adV A (U.calling g mk a) :=
  ⟨h.1.moved (U := U.calling g mk a) (Vm.Alike.refl U.vm), fun i hi => vk_R.same (U := U.calling g mk a) rfl (h.2.1 i hi), h.2.2.1.moved (U := U.calling g mk a) (Vm.Alike.refl U.vm), h.2.2.2.moved (U := U.calling g mk a) (Vm.Alike.refl U.vm)⟩
def prX_ (adK adV : Nat → Nat) (D : va_G) (tys : List (ClassId × FieldType)) (av : List Value) (pre : va_W) (sz : Nat) : Array Value → State → Prop := fun a U => pr_ D tys av pre sz a U ∧ ex_ adK adV (va_A pre sz) U
theorem prX_blind {adK adV : Nat → Nat} {D : va_G} {tys : List (ClassId × FieldType)} {av : List Value} {pre : va_W} {sz : Nat} : FrameBlind (prX_ adK adV D tys av pre sz) := fun a U g mk q => ⟨pr_blind a U g mk q.1, ex_blind q.2⟩
def mIX_ (adK adV : Nat → Nat) (l : Launch) (y : MethodName) (ws : List Cond) (rm : Room) (D : va_G) (tys : List (ClassId × FieldType)) (av : List Value) (pre : va_W) (N : Int32 → Prop) (r : Int32) (post : va_W) : Prop :=
  ∀ sz : Nat, Met l y ws rm (prX_ adK adV D tys av pre sz) (va_Qi (fun (x : Int32) (_ : Unit) => x = r ∧ N r) (po_ D tys (va_A pre sz) post) (va_A pre sz)) 0 0 (va_A pre sz)
def mVX_ (adK adV : Nat → Nat) (l : Launch) (y : MethodName) (ws : List Cond) (rm : Room) (D : va_G) (tys : List (ClassId × FieldType)) (av : List Value) (pre : va_W) (post : va_W) : Prop :=
  ∀ sz : Nat, Met l y ws rm (prX_ adK adV D tys av pre sz) (va_Qv (fun (_ : Unit) => True) (po_ D tys (va_A pre sz) post) (va_A pre sz)) 0 0 (va_A pre sz)
section RWX
variable {adK adV : Nat → Nat} {l : Launch} {y : MethodName} {rm : Room} {D : va_G} {tys : List (ClassId × FieldType)} {av : List Value} {pre post : va_W} {cc : ByteArray} {nL : Nat}
theorem mIX_of {N : Int32 → Prop} {r : Int32} {ret : Option FieldType} (hy : plainFor y = true) (hn : (lg_sl av).length ≤ nL)
    (body : ∀ (p : Program) (e : Env) (s : State) (m : MethodId) (below : List Frame) (meth : Method) (c : Code) (A : Nat → Prop) (ls : Array Slot) (H : Heap) (locs : List Loc), cx_ p s m meth c av.toArray cc y.cls ret nL A → ex_ adK adV A s → wd_ D tys A s pre H locs → lv_has ls nL (lv_args 0 av) → W p l e rm s m av.toArray below meth c H locs 0 0 (qI_ D tys A N r post below av.toArray s) (F0 m 0 ls [])) :
    mIX_ adK adV l y (Cond.code y cc nL ret :: uw) rm D tys av pre N r post := by
  intro sz
  refine va_MetF (cc := cc) (maxL := nL) (ret := ret) hy rfl ?_
  intro p e s m args below meth c s₁ B hml hv
  obtain ⟨⟨rfl, hsz, hP, hK, hD0⟩, hE⟩ := hv
  have hts := atoms_spec (ws := Cond.code y cc nL ret :: uw) B.pre
  subst hsz
  have hl := lv_entry av (n := nL) hn
  rw [lg_entry_eq]
  exact body p e s m below meth c (va_A pre s.heap.size) _ s.heap [] ⟨B.exec, B.bytes, B.returns, hml, findClass_of_methodNamed B.named, fun w h => hts w (List.mem_cons_of_mem _ h), B.notSynchronized, fun q h => Or.inr h⟩ hE ⟨hP, hD0.self, va_S.rf, hK⟩ hl
theorem mVX_of {ret : Option FieldType} (hy : plainFor y = true) (hn : (lg_sl av).length ≤ nL)
    (body : ∀ (p : Program) (e : Env) (s : State) (m : MethodId) (below : List Frame) (meth : Method) (c : Code) (A : Nat → Prop) (ls : Array Slot) (H : Heap) (locs : List Loc), cx_ p s m meth c av.toArray cc y.cls ret nL A → ex_ adK adV A s → wd_ D tys A s pre H locs → lv_has ls nL (lv_args 0 av) → W p l e rm s m av.toArray below meth c H locs 0 0 (qV_ D tys A post below av.toArray s) (F0 m 0 ls [])) :
    mVX_ adK adV l y (Cond.code y cc nL ret :: uw) rm D tys av pre post := by
  intro sz
  refine va_MetF (cc := cc) (maxL := nL) (ret := ret) hy rfl ?_
  intro p e s m args below meth c s₁ B hml hv
  obtain ⟨⟨rfl, hsz, hP, hK, hD0⟩, hE⟩ := hv
  have hts := atoms_spec (ws := Cond.code y cc nL ret :: uw) B.pre
  subst hsz
  have hl := lv_entry av (n := nL) hn
  rw [lg_entry_eq]
  exact body p e s m below meth c (va_A pre s.heap.size) _ s.heap [] ⟨B.exec, B.bytes, B.returns, hml, findClass_of_methodNamed B.named, fun w h => hts w (List.mem_cons_of_mem _ h), B.notSynchronized, fun q h => Or.inr h⟩ hE ⟨hP, hD0.self, va_S.rf, hK⟩ hl
end RWX
section RXS
variable {adK adV : Nat → Nat}
variable {p : Program} {l : Launch} {e : Env} {R : Room} {s : State} {m : MethodId} {args : Array Value} {below : List Frame} {meth : Method} {c : Code} {H : Heap} {locs : List Loc} {Q : State → Prop} {cells slots : Nat}
variable {cc : ByteArray} {own : String} {ret : Option FieldType} {nL : Nat} {A : Nat → Prop} {D : va_G} {tys : List (ClassId × FieldType)} {ws ws' : va_W} {pc : Nat} {ls : Array Slot} {rest : List Value} {a : Nat}
variable {y : MethodName} {bytes : ByteArray} {maxL index : Nat} {ret' : Option FieldType} {rm' : Room} {As st0 : List Value} {b : Nat} {pre post bs bs' : List va_W} {C : String}
theorem rvX_i {N : Int32 → Prop} {r : Int32} {ci : Nat} {vq : vw_C} {fs : List Value} (C0 : cx_ p s m meth c args cc own ret nL A) (hw : wd_ D tys A s bs.flatten H locs) (hE : ex_ adK adV A s) (hM : mIX_ adK adV l y (Cond.code y bytes maxL ret' :: uw) rm' D tys (.ref b :: As) pre.flatten N r post.flatten) (hcw : cv_ own index y vq.1 bytes maxL ret' As.length) (hrm : rm'.cells = 0 ∧ rm'.slots = 0 ∧ rm'.frames + 1 ≤ R.frames ∧ 8 + (maxL + 11) + rm'.locals ≤ R.locals) (hcs : cells ≤ R.cells ∧ slots ≤ R.slots)
    (isC isR iq : List Nat) (hnC : va_nd isC = true) (hC : isC.map (fun i => bs[i]?) = pre.map some) (hR : isR.map (fun i => bs[i]?) = (isR.filterMap (fun i => bs[i]?)).map some) (hn : va_nd isR = true) (hdis : ∀ i ∈ isR, i ∉ isC) (hq : iq.map (fun i => (isR.filterMap (fun i => bs[i]?) ++ post)[i]?) = bs'.map some) (hnq : va_nd iq = true)
    (hrc : vwCl[ci]? = some vq) (hre : pre.flatten[0]? = some (b, .inr (ci, fs))) (hst : st0 = As.reverse ++ .ref b :: rest) (hls : ls.size = nL) (hroom : (rest.map fun v => v.category).sum ≤ 8) (hdg : decode cc pc = .ok (.invokevirtual index, 3))
    (kk : ∀ (H : Heap) (locs : List Loc), wd_ D tys A s bs'.flatten H locs → N r → W p l e R s m args below meth c H locs cells slots Q (F0 m (pc + 3) ls (.int r :: rest))) : W p l e R s m args below meth c H locs cells slots Q (F0 m pc ls st0) := by
  have hPc : va_P D vwCl pre.flatten H := bl_P hw.1 isC hC
  have hDc : va_D A pre.flatten := bl_D hw.2.1 isC hnC hC
  have hFc := bl_free (wc := pre) hw.2.1 hw.2.2.1 C0.2.2.2.2.2.2.2 isC hC
  refine va_calli (va_runV (As := As) (rest := rest) ⟨C0.1, C0.2.1, C0.2.2.2.1, C0.2.2.2.2.1, C0.2.2.2.2.2.1⟩ (hM H.size) (cwV As.length C0.2.2.2.2.2.1 (gV_ hcw) rfl hrm.1 hrm.2.1 hcw.2.2.2.2.2 hrm.2.2) ⟨prX_blind, va_recv hw.2.2.2 hPc hrc hre, fun U hU hW => ⟨⟨rfl, by rw [hU], by rw [hU]; exact hPc, va_K.moved hW.alike hw.2.2.2, hDc.weaken (fun _ _ _ _ => trivial)⟩, ex_call hE hW hU hw.2.2.1 hFc⟩⟩ rfl rfl hls hst (lv_room hroom) hdg hcs) hw.2.2.1 (fun q _ h => hFc q h) hFc (fun r1 u t H1 locs1 ht hvm hw1 hB hz1 hk1 hS => ?_)
  obtain ⟨rfl, hN⟩ := hw1
  exact kk H1 locs1 (cb_ C0 hw isC isR iq hC hR hn hdis hq hnq ht hvm hB hk1 hS) hN

theorem rsX_i {N : Int32 → Prop} {r : Int32} (C0 : cx_ p s m meth c args cc own ret nL A) (hw : wd_ D tys A s bs.flatten H locs) (hE : ex_ adK adV A s) (hM : mIX_ adK adV l y (Cond.code y bytes maxL ret' :: uw) rm' D tys As pre.flatten N r post.flatten) (hcw : cs_ own index y bytes maxL ret' As.length) (hrm : rm'.cells = 0 ∧ rm'.slots = 0 ∧ rm'.frames + 1 ≤ R.frames ∧ 8 + (maxL + 11) + rm'.locals ≤ R.locals) (hcs : cells ≤ R.cells ∧ slots ≤ R.slots)
    (isC isR iq : List Nat) (hnC : va_nd isC = true) (hC : isC.map (fun i => bs[i]?) = pre.map some) (hR : isR.map (fun i => bs[i]?) = (isR.filterMap (fun i => bs[i]?)).map some) (hn : va_nd isR = true) (hdis : ∀ i ∈ isR, i ∉ isC) (hq : iq.map (fun i => (isR.filterMap (fun i => bs[i]?) ++ post)[i]?) = bs'.map some) (hnq : va_nd iq = true)
    (hst : st0 = As.reverse ++ rest) (hls : ls.size = nL) (hroom : (rest.map fun v => v.category).sum ≤ 8) (hdg : decode cc pc = .ok (.invokestatic index, 3))
    (kk : ∀ (H : Heap) (locs : List Loc), wd_ D tys A s bs'.flatten H locs → N r → W p l e R s m args below meth c H locs cells slots Q (F0 m (pc + 3) ls (.int r :: rest))) : W p l e R s m args below meth c H locs cells slots Q (F0 m pc ls st0) := by
  have hPc : va_P D vwCl pre.flatten H := bl_P hw.1 isC hC
  have hDc : va_D A pre.flatten := bl_D hw.2.1 isC hnC hC
  have hFc := bl_free (wc := pre) hw.2.1 hw.2.2.1 C0.2.2.2.2.2.2.2 isC hC
  refine va_calli (va_runS (As := As) (rest := rest) ⟨C0.1, C0.2.1, C0.2.2.2.1, C0.2.2.2.2.1, C0.2.2.2.2.2.1⟩ (hM H.size) ⟨callB_of As.length C0.2.2.2.2.2.1 (gC_ hcw.2.2.2.1) rfl hrm.1 hrm.2.1 (C0.2.2.2.2.2.1 _ hcw.2.2.1) (C0.2.2.2.2.2.1 _ hcw.1) hcw.2.2.2.2 hrm.2.2, C0.2.2.2.2.2.1 _ hcw.2.1⟩ ⟨prX_blind, fun U hU hW => ⟨⟨rfl, by rw [hU], by rw [hU]; exact hPc, va_K.moved hW.alike hw.2.2.2, hDc.weaken (fun _ _ _ _ => trivial)⟩, ex_call hE hW hU hw.2.2.1 hFc⟩⟩ rfl rfl hls hst (lv_room hroom) hdg hcs) hw.2.2.1 (fun q _ h => hFc q h) hFc (fun r1 u t H1 locs1 ht hvm hw1 hB hz1 hk1 hS => ?_)
  obtain ⟨rfl, hN⟩ := hw1
  exact kk H1 locs1 (cb_ C0 hw isC isR iq hC hR hn hdis hq hnq ht hvm hB hk1 hS) hN

theorem rsX_v (C0 : cx_ p s m meth c args cc own ret nL A) (hw : wd_ D tys A s bs.flatten H locs) (hE : ex_ adK adV A s) (hM : mVX_ adK adV l y (Cond.code y bytes maxL ret' :: uw) rm' D tys As pre.flatten post.flatten) (hcw : cs_ own index y bytes maxL ret' As.length) (hrm : rm'.cells = 0 ∧ rm'.slots = 0 ∧ rm'.frames + 1 ≤ R.frames ∧ 8 + (maxL + 11) + rm'.locals ≤ R.locals) (hcs : cells ≤ R.cells ∧ slots ≤ R.slots)
    (isC isR iq : List Nat) (hnC : va_nd isC = true) (hC : isC.map (fun i => bs[i]?) = pre.map some) (hR : isR.map (fun i => bs[i]?) = (isR.filterMap (fun i => bs[i]?)).map some) (hn : va_nd isR = true) (hdis : ∀ i ∈ isR, i ∉ isC) (hq : iq.map (fun i => (isR.filterMap (fun i => bs[i]?) ++ post)[i]?) = bs'.map some) (hnq : va_nd iq = true)
    (hst : st0 = As.reverse ++ rest) (hls : ls.size = nL) (hroom : (rest.map fun v => v.category).sum ≤ 8) (hdg : decode cc pc = .ok (.invokestatic index, 3))
    (kk : ∀ (H : Heap) (locs : List Loc), wd_ D tys A s bs'.flatten H locs → W p l e R s m args below meth c H locs cells slots Q (F0 m (pc + 3) ls rest)) : W p l e R s m args below meth c H locs cells slots Q (F0 m pc ls st0) := by
  have hPc : va_P D vwCl pre.flatten H := bl_P hw.1 isC hC
  have hDc : va_D A pre.flatten := bl_D hw.2.1 isC hnC hC
  have hFc := bl_free (wc := pre) hw.2.1 hw.2.2.1 C0.2.2.2.2.2.2.2 isC hC
  refine va_callv (va_runS (As := As) (rest := rest) ⟨C0.1, C0.2.1, C0.2.2.2.1, C0.2.2.2.2.1, C0.2.2.2.2.2.1⟩ (hM H.size) ⟨callB_of As.length C0.2.2.2.2.2.1 (gC_ hcw.2.2.2.1) rfl hrm.1 hrm.2.1 (C0.2.2.2.2.2.1 _ hcw.2.2.1) (C0.2.2.2.2.2.1 _ hcw.1) hcw.2.2.2.2 hrm.2.2, C0.2.2.2.2.2.1 _ hcw.2.1⟩ ⟨prX_blind, fun U hU hW => ⟨⟨rfl, by rw [hU], by rw [hU]; exact hPc, va_K.moved hW.alike hw.2.2.2, hDc.weaken (fun _ _ _ _ => trivial)⟩, ex_call hE hW hU hw.2.2.1 hFc⟩⟩ rfl rfl hls hst (lv_room hroom) hdg hcs) hw.2.2.1 (fun q _ h => hFc q h) hFc (fun u t H1 locs1 ht hvm hw1 hB hz1 hk1 hS => ?_)
  exact kk H1 locs1 (cb_ C0 hw isC isR iq hC hR hn hdis hq hnq ht hvm hB hk1 hS)

theorem rvS_i {N : Int32 → Prop} {r : Int32} {i : Nat} (C0 : cx_ p s m meth c args cc own ret nL A) (hw : wd_ D tys A s bs.flatten H locs) (hE : ex_ adK adV A s) (hM : mIX_ adK adV l y (Cond.code y bytes maxL ret' :: uw) rm' D tys (.ref (adK i) :: As) pre.flatten N r post.flatten) (hcw : cv_ own index y "java/lang/String" bytes maxL ret' As.length) (hrm : rm'.cells = 0 ∧ rm'.slots = 0 ∧ rm'.frames + 1 ≤ R.frames ∧ 8 + (maxL + 11) + rm'.locals ≤ R.locals) (hcs : cells ≤ R.cells ∧ slots ≤ R.slots)
    (isC isR iq : List Nat) (hnC : va_nd isC = true) (hC : isC.map (fun i => bs[i]?) = pre.map some) (hR : isR.map (fun i => bs[i]?) = (isR.filterMap (fun i => bs[i]?)).map some) (hn : va_nd isR = true) (hdis : ∀ i ∈ isR, i ∉ isC) (hq : iq.map (fun i => (isR.filterMap (fun i => bs[i]?) ++ post)[i]?) = bs'.map some) (hnq : va_nd iq = true)
    (hi : i < 5) (hst : st0 = As.reverse ++ .ref (adK i) :: rest) (hls : ls.size = nL) (hroom : (rest.map fun v => v.category).sum ≤ 8) (hdg : decode cc pc = .ok (.invokevirtual index, 3))
    (kk : ∀ (H : Heap) (locs : List Loc), wd_ D tys A s bs'.flatten H locs → N r → W p l e R s m args below meth c H locs cells slots Q (F0 m (pc + 3) ls (.int r :: rest))) : W p l e R s m args below meth c H locs cells slots Q (F0 m pc ls st0) := by
  have hPc : va_P D vwCl pre.flatten H := bl_P hw.1 isC hC
  have hDc : va_D A pre.flatten := bl_D hw.2.1 isC hnC hC
  have hFc := bl_free (wc := pre) hw.2.1 hw.2.2.1 C0.2.2.2.2.2.2.2 isC hC
  refine va_calli (va_runV (As := As) (rest := rest) ⟨C0.1, C0.2.1, C0.2.2.2.1, C0.2.2.2.2.1, C0.2.2.2.2.2.1⟩ (hM H.size) (cwV As.length C0.2.2.2.2.2.1 (gV_ hcw) rfl hrm.1 hrm.2.1 hcw.2.2.2.2.2 hrm.2.2) ⟨prX_blind, vk_recv hE.1 hi hw.2.2.1, fun U hU hW => ⟨⟨rfl, by rw [hU], by rw [hU]; exact hPc, va_K.moved hW.alike hw.2.2.2, hDc.weaken (fun _ _ _ _ => trivial)⟩, ex_call hE hW hU hw.2.2.1 hFc⟩⟩ rfl rfl hls hst (lv_room hroom) hdg hcs) hw.2.2.1 (fun q _ h => hFc q h) hFc (fun r1 u t H1 locs1 ht hvm hw1 hB hz1 hk1 hS => ?_)
  obtain ⟨rfl, hN⟩ := hw1
  exact kk H1 locs1 (cb_ C0 hw isC isR iq hC hR hn hdis hq hnq ht hvm hB hk1 hS) hN

theorem r_tret {N : Int32 → Prop} {v : Int32} {ty : FieldType} (C0 : cx_ p s m meth c args cc own (some ty) nL A) (hw : wd_ D tys A s ws H locs) (hn : narrow ty (.int v) = .int v) (hN : N v) (hdg : decode cc pc = .ok (.ireturn, 1)) : W p l e R s m args below meth c H locs 0 0 (qI_ D tys A N v ws below args s) (F0 m pc ls [.int v]) :=
  W.zret C0.1 C0.2.1 C0.2.2.1 hn (fun t ht hW => ⟨⟨v, (), rfl, ⟨rfl, hN⟩, by rw [ht]; exact hw.1, va_K.moved hW.alike hw.2.2.2, hw.2.1⟩, hw.2.2.1.F ht⟩) hw.2.2.1.2.2 hdg C0.2.2.2.2.2.2.1
end RXS
