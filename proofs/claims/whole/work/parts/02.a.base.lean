/-! what a method stands in, its world, its contract; rows over them -/
def cx_ (p : Program) (s : State) (m : MethodId) (meth : Method) (c : Code) (args : Array Value) (cc : ByteArray) (own : String) (ret : Option FieldType) (nL : Nat) (A : Nat → Prop) : Prop :=
  p.tables.exec = Jvm.exec ∧ c.code = cc ∧ meth.sig.returnType = ret ∧ c.maxLocals = nL ∧ s.vm.findClass own = some m.cls ∧ (∀ w ∈ uw, w.before args s = true) ∧ meth.locks = false ∧ (∀ q : Nat, s.heap.size ≤ q → A q)
def wd_ (D : va_G) (tys : List (ClassId × FieldType)) (A : Nat → Prop) (s : State) (ws : va_W) (H : Heap) (locs : List Loc) : Prop :=
  va_P D vwCl ws H ∧ va_D A ws ∧ va_S A s.heap H locs ∧ va_K D vwCl tys s
def pr_ (D : va_G) (tys : List (ClassId × FieldType)) (av : List Value) (pre : va_W) (sz : Nat) : Array Value → State → Prop :=
  va_Pc av (fun U => U.heap.size = sz ∧ va_P D vwCl pre U.heap ∧ va_K D vwCl tys U ∧ va_D (fun _ => True) pre)
def po_ (D : va_G) (tys : List (ClassId × FieldType)) (A : Nat → Prop) (post : va_W) : Unit → State → Prop := fun _ t => va_P D vwCl post t.heap ∧ va_K D vwCl tys t ∧ va_D A post
/-- contracts: an int (post: what more is known of it), a long, nothing -/
def mI_ (l : Launch) (y : MethodName) (ws : List Cond) (rm : Room) (D : va_G) (tys : List (ClassId × FieldType)) (av : List Value) (pre : va_W) (N : Int32 → Prop) (r : Int32) (post : va_W) : Prop :=
  ∀ sz : Nat, Met l y ws rm (pr_ D tys av pre sz) (va_Qi (fun (x : Int32) (_ : Unit) => x = r ∧ N r) (po_ D tys (va_A pre sz) post) (va_A pre sz)) 0 0 (va_A pre sz)
def mL_ (l : Launch) (y : MethodName) (ws : List Cond) (rm : Room) (D : va_G) (tys : List (ClassId × FieldType)) (av : List Value) (pre : va_W) (r : Int64) (post : va_W) : Prop :=
  ∀ sz : Nat, Met l y ws rm (pr_ D tys av pre sz) (va_Ql (fun (x : Int64) (_ : Unit) => x = r) (po_ D tys (va_A pre sz) post) (va_A pre sz)) 0 0 (va_A pre sz)
def mV_ (l : Launch) (y : MethodName) (ws : List Cond) (rm : Room) (D : va_G) (tys : List (ClassId × FieldType)) (av : List Value) (pre : va_W) (post : va_W) : Prop :=
  ∀ sz : Nat, Met l y ws rm (pr_ D tys av pre sz) (va_Qv (fun (_ : Unit) => True) (po_ D tys (va_A pre sz) post) (va_A pre sz)) 0 0 (va_A pre sz)
def qI_ (D : va_G) (tys : List (ClassId × FieldType)) (A : Nat → Prop) (N : Int32 → Prop) (r : Int32) (post : va_W) (below : List Frame) (args : Array Value) (s : State) : State → Prop :=
  MQ below (va_Qi (fun (x : Int32) (_ : Unit) => x = r ∧ N r) (po_ D tys A post) A) args s 0 0 A
def qL_ (D : va_G) (tys : List (ClassId × FieldType)) (A : Nat → Prop) (r : Int64) (post : va_W) (below : List Frame) (args : Array Value) (s : State) : State → Prop :=
  MQ below (va_Ql (fun (x : Int64) (_ : Unit) => x = r) (po_ D tys A post) A) args s 0 0 A
def qV_ (D : va_G) (tys : List (ClassId × FieldType)) (A : Nat → Prop) (post : va_W) (below : List Frame) (args : Array Value) (s : State) : State → Prop :=
  MQ below (va_Qv (fun (_ : Unit) => True) (po_ D tys A post) A) args s 0 0 A
def nT_ (_ : Int32) : Prop := True
def nB_ (r : Int32) : Prop := r = 0 ∨ r = 1
/-! pure words: a test of an index, of a divisor; a name for a number; a callee's answer -/
def gd_ {α : Type} (i : Int32) (n : Nat) (k : Option α) : Option α := if i < 0 ∨ n ≤ i.toNatClampNeg then none else k
def dz_ {α : Type} (y : Int32) (k : Option α) : Option α := if y = 0 then none else k
def dl_ {α : Type} (y : Int64) (k : Option α) : Option α := if y = 0 then none else k
def lt_ {α β : Type} (x : α) (k : α → Option β) : Option β := k x
def b1_ {T1 G : Type} (o : Option (T1)) (k : T1 → Option G) : Option G := match o with
  | none => none
  | some (a1) => k a1
def b2_ {T1 T2 G : Type} (o : Option (T1 × T2)) (k : T1 → T2 → Option G) : Option G := match o with
  | none => none
  | some (a1, a2) => k a1 a2
def b3_ {T1 T2 T3 G : Type} (o : Option (T1 × T2 × T3)) (k : T1 → T2 → T3 → Option G) : Option G := match o with
  | none => none
  | some (a1, a2, a3) => k a1 a2 a3
def b4_ {T1 T2 T3 T4 G : Type} (o : Option (T1 × T2 × T3 × T4)) (k : T1 → T2 → T3 → T4 → Option G) : Option G := match o with
  | none => none
  | some (a1, a2, a3, a4) => k a1 a2 a3 a4
def b5_ {T1 T2 T3 T4 T5 G : Type} (o : Option (T1 × T2 × T3 × T4 × T5)) (k : T1 → T2 → T3 → T4 → T5 → Option G) : Option G := match o with
  | none => none
  | some (a1, a2, a3, a4, a5) => k a1 a2 a3 a4 a5
def b6_ {T1 T2 T3 T4 T5 T6 G : Type} (o : Option (T1 × T2 × T3 × T4 × T5 × T6)) (k : T1 → T2 → T3 → T4 → T5 → T6 → Option G) : Option G := match o with
  | none => none
  | some (a1, a2, a3, a4, a5, a6) => k a1 a2 a3 a4 a5 a6
def b7_ {T1 T2 T3 T4 T5 T6 T7 G : Type} (o : Option (T1 × T2 × T3 × T4 × T5 × T6 × T7)) (k : T1 → T2 → T3 → T4 → T5 → T6 → T7 → Option G) : Option G := match o with
  | none => none
  | some (a1, a2, a3, a4, a5, a6, a7) => k a1 a2 a3 a4 a5 a6 a7
def b8_ {T1 T2 T3 T4 T5 T6 T7 T8 G : Type} (o : Option (T1 × T2 × T3 × T4 × T5 × T6 × T7 × T8)) (k : T1 → T2 → T3 → T4 → T5 → T6 → T7 → T8 → Option G) : Option G := match o with
  | none => none
  | some (a1, a2, a3, a4, a5, a6, a7, a8) => k a1 a2 a3 a4 a5 a6 a7 a8
def b9_ {T1 T2 T3 T4 T5 T6 T7 T8 T9 G : Type} (o : Option (T1 × T2 × T3 × T4 × T5 × T6 × T7 × T8 × T9)) (k : T1 → T2 → T3 → T4 → T5 → T6 → T7 → T8 → T9 → Option G) : Option G := match o with
  | none => none
  | some (a1, a2, a3, a4, a5, a6, a7, a8, a9) => k a1 a2 a3 a4 a5 a6 a7 a8 a9
def b10_ {T1 T2 T3 T4 T5 T6 T7 T8 T9 T10 G : Type} (o : Option (T1 × T2 × T3 × T4 × T5 × T6 × T7 × T8 × T9 × T10)) (k : T1 → T2 → T3 → T4 → T5 → T6 → T7 → T8 → T9 → T10 → Option G) : Option G := match o with
  | none => none
  | some (a1, a2, a3, a4, a5, a6, a7, a8, a9, a10) => k a1 a2 a3 a4 a5 a6 a7 a8 a9 a10
def b11_ {T1 T2 T3 T4 T5 T6 T7 T8 T9 T10 T11 G : Type} (o : Option (T1 × T2 × T3 × T4 × T5 × T6 × T7 × T8 × T9 × T10 × T11)) (k : T1 → T2 → T3 → T4 → T5 → T6 → T7 → T8 → T9 → T10 → T11 → Option G) : Option G := match o with
  | none => none
  | some (a1, a2, a3, a4, a5, a6, a7, a8, a9, a10, a11) => k a1 a2 a3 a4 a5 a6 a7 a8 a9 a10 a11
def b12_ {T1 T2 T3 T4 T5 T6 T7 T8 T9 T10 T11 T12 G : Type} (o : Option (T1 × T2 × T3 × T4 × T5 × T6 × T7 × T8 × T9 × T10 × T11 × T12)) (k : T1 → T2 → T3 → T4 → T5 → T6 → T7 → T8 → T9 → T10 → T11 → T12 → Option G) : Option G := match o with
  | none => none
  | some (a1, a2, a3, a4, a5, a6, a7, a8, a9, a10, a11, a12) => k a1 a2 a3 a4 a5 a6 a7 a8 a9 a10 a11 a12
def b13_ {T1 T2 T3 T4 T5 T6 T7 T8 T9 T10 T11 T12 T13 G : Type} (o : Option (T1 × T2 × T3 × T4 × T5 × T6 × T7 × T8 × T9 × T10 × T11 × T12 × T13)) (k : T1 → T2 → T3 → T4 → T5 → T6 → T7 → T8 → T9 → T10 → T11 → T12 → T13 → Option G) : Option G := match o with
  | none => none
  | some (a1, a2, a3, a4, a5, a6, a7, a8, a9, a10, a11, a12, a13) => k a1 a2 a3 a4 a5 a6 a7 a8 a9 a10 a11 a12 a13
def b14_ {T1 T2 T3 T4 T5 T6 T7 T8 T9 T10 T11 T12 T13 T14 G : Type} (o : Option (T1 × T2 × T3 × T4 × T5 × T6 × T7 × T8 × T9 × T10 × T11 × T12 × T13 × T14)) (k : T1 → T2 → T3 → T4 → T5 → T6 → T7 → T8 → T9 → T10 → T11 → T12 → T13 → T14 → Option G) : Option G := match o with
  | none => none
  | some (a1, a2, a3, a4, a5, a6, a7, a8, a9, a10, a11, a12, a13, a14) => k a1 a2 a3 a4 a5 a6 a7 a8 a9 a10 a11 a12 a13 a14
def b15_ {T1 T2 T3 T4 T5 T6 T7 T8 T9 T10 T11 T12 T13 T14 T15 G : Type} (o : Option (T1 × T2 × T3 × T4 × T5 × T6 × T7 × T8 × T9 × T10 × T11 × T12 × T13 × T14 × T15)) (k : T1 → T2 → T3 → T4 → T5 → T6 → T7 → T8 → T9 → T10 → T11 → T12 → T13 → T14 → T15 → Option G) : Option G := match o with
  | none => none
  | some (a1, a2, a3, a4, a5, a6, a7, a8, a9, a10, a11, a12, a13, a14, a15) => k a1 a2 a3 a4 a5 a6 a7 a8 a9 a10 a11 a12 a13 a14 a15
def b16_ {T1 T2 T3 T4 T5 T6 T7 T8 T9 T10 T11 T12 T13 T14 T15 T16 G : Type} (o : Option (T1 × T2 × T3 × T4 × T5 × T6 × T7 × T8 × T9 × T10 × T11 × T12 × T13 × T14 × T15 × T16)) (k : T1 → T2 → T3 → T4 → T5 → T6 → T7 → T8 → T9 → T10 → T11 → T12 → T13 → T14 → T15 → T16 → Option G) : Option G := match o with
  | none => none
  | some (a1, a2, a3, a4, a5, a6, a7, a8, a9, a10, a11, a12, a13, a14, a15, a16) => k a1 a2 a3 a4 a5 a6 a7 a8 a9 a10 a11 a12 a13 a14 a15 a16
def b17_ {T1 T2 T3 T4 T5 T6 T7 T8 T9 T10 T11 T12 T13 T14 T15 T16 T17 G : Type} (o : Option (T1 × T2 × T3 × T4 × T5 × T6 × T7 × T8 × T9 × T10 × T11 × T12 × T13 × T14 × T15 × T16 × T17)) (k : T1 → T2 → T3 → T4 → T5 → T6 → T7 → T8 → T9 → T10 → T11 → T12 → T13 → T14 → T15 → T16 → T17 → Option G) : Option G := match o with
  | none => none
  | some (a1, a2, a3, a4, a5, a6, a7, a8, a9, a10, a11, a12, a13, a14, a15, a16, a17) => k a1 a2 a3 a4 a5 a6 a7 a8 a9 a10 a11 a12 a13 a14 a15 a16 a17
def b18_ {T1 T2 T3 T4 T5 T6 T7 T8 T9 T10 T11 T12 T13 T14 T15 T16 T17 T18 G : Type} (o : Option (T1 × T2 × T3 × T4 × T5 × T6 × T7 × T8 × T9 × T10 × T11 × T12 × T13 × T14 × T15 × T16 × T17 × T18)) (k : T1 → T2 → T3 → T4 → T5 → T6 → T7 → T8 → T9 → T10 → T11 → T12 → T13 → T14 → T15 → T16 → T17 → T18 → Option G) : Option G := match o with
  | none => none
  | some (a1, a2, a3, a4, a5, a6, a7, a8, a9, a10, a11, a12, a13, a14, a15, a16, a17, a18) => k a1 a2 a3 a4 a5 a6 a7 a8 a9 a10 a11 a12 a13 a14 a15 a16 a17 a18
theorem gd_s {α : Type} {i : Int32} {n : Nat} {k : Option α} {r : α} (h : gd_ i n k = some r) : vp_in i n ∧ k = some r := by
  unfold gd_ at h
  by_cases c : i < 0 ∨ n ≤ i.toNatClampNeg
  · rw [if_pos c] at h; cases h
  · rw [if_neg c] at h; exact ⟨c, h⟩
theorem dz_s {α : Type} {y : Int32} {k : Option α} {r : α} (h : dz_ y k = some r) : ¬ y = 0 ∧ k = some r := by
  unfold dz_ at h
  by_cases c : y = 0
  · rw [if_pos c] at h; cases h
  · rw [if_neg c] at h; exact ⟨c, h⟩
theorem dl_s {α : Type} {y : Int64} {k : Option α} {r : α} (h : dl_ y k = some r) : ¬ y = 0 ∧ k = some r := by
  unfold dl_ at h
  by_cases c : y = 0
  · rw [if_pos c] at h; cases h
  · rw [if_neg c] at h; exact ⟨c, h⟩
theorem lt_s_ {α β : Type} {x : α} {k : α → Option β} {r : β} (h : lt_ x k = some r) (y : α) (e : y = x) : k y = some r := by subst e; exact h
theorem lt_e {α β : Type} {x : α} {k : α → Option β} {r : β} (h : lt_ x k = some r) : ∃ y, y = x ∧ k y = some r := ⟨x, rfl, h⟩
theorem if_t {α : Type} {c : Prop} {i : Decidable c} {a b : Option α} {r : α} (h : c) (hf : @ite (Option α) c i a b = some r) : a = some r := by rw [if_pos h] at hf; exact hf
theorem if_f {α : Type} {c : Prop} {i : Decidable c} {a b : Option α} {r : α} (h : ¬ c) (hf : @ite (Option α) c i a b = some r) : b = some r := by rw [if_neg h] at hf; exact hf
theorem b1_s {T1 G : Type} {o : Option (T1)} {k : T1 → Option G} {r : G} (h : b1_ o k = some r) : ∃ a1, o = some (a1) ∧ k a1 = some r := by
  rcases o with _ | a1
  · cases h
  · exact ⟨a1, rfl, h⟩
theorem e1_ {α : Type} {a x : α} (h : some a = some x) : a = x := Option.some.inj h
theorem b2_s {T1 T2 G : Type} {o : Option (T1 × T2)} {k : T1 → T2 → Option G} {r : G} (h : b2_ o k = some r) : ∃ a1 a2, o = some (a1, a2) ∧ k a1 a2 = some r := by
  rcases o with _ | ⟨a1, a2⟩
  · cases h
  · exact ⟨a1, a2, rfl, h⟩
theorem e2_ {T1 T2 : Type} {a1 x1 : T1} {a2 x2 : T2} (h : some (a1, a2) = some (x1, x2)) : a1 = x1 ∧ a2 = x2 := by
  cases h
  exact ⟨rfl, rfl⟩
theorem b3_s {T1 T2 T3 G : Type} {o : Option (T1 × T2 × T3)} {k : T1 → T2 → T3 → Option G} {r : G} (h : b3_ o k = some r) : ∃ a1 a2 a3, o = some (a1, a2, a3) ∧ k a1 a2 a3 = some r := by
  rcases o with _ | ⟨a1, a2, a3⟩
  · cases h
  · exact ⟨a1, a2, a3, rfl, h⟩
theorem e3_ {T1 T2 T3 : Type} {a1 x1 : T1} {a2 x2 : T2} {a3 x3 : T3} (h : some (a1, a2, a3) = some (x1, x2, x3)) : a1 = x1 ∧ a2 = x2 ∧ a3 = x3 := by
  cases h
  exact ⟨rfl, rfl, rfl⟩
theorem b4_s {T1 T2 T3 T4 G : Type} {o : Option (T1 × T2 × T3 × T4)} {k : T1 → T2 → T3 → T4 → Option G} {r : G} (h : b4_ o k = some r) : ∃ a1 a2 a3 a4, o = some (a1, a2, a3, a4) ∧ k a1 a2 a3 a4 = some r := by
  rcases o with _ | ⟨a1, a2, a3, a4⟩
  · cases h
  · exact ⟨a1, a2, a3, a4, rfl, h⟩
theorem e4_ {T1 T2 T3 T4 : Type} {a1 x1 : T1} {a2 x2 : T2} {a3 x3 : T3} {a4 x4 : T4} (h : some (a1, a2, a3, a4) = some (x1, x2, x3, x4)) : a1 = x1 ∧ a2 = x2 ∧ a3 = x3 ∧ a4 = x4 := by
  cases h
  exact ⟨rfl, rfl, rfl, rfl⟩
theorem b5_s {T1 T2 T3 T4 T5 G : Type} {o : Option (T1 × T2 × T3 × T4 × T5)} {k : T1 → T2 → T3 → T4 → T5 → Option G} {r : G} (h : b5_ o k = some r) : ∃ a1 a2 a3 a4 a5, o = some (a1, a2, a3, a4, a5) ∧ k a1 a2 a3 a4 a5 = some r := by
  rcases o with _ | ⟨a1, a2, a3, a4, a5⟩
  · cases h
  · exact ⟨a1, a2, a3, a4, a5, rfl, h⟩
theorem e5_ {T1 T2 T3 T4 T5 : Type} {a1 x1 : T1} {a2 x2 : T2} {a3 x3 : T3} {a4 x4 : T4} {a5 x5 : T5} (h : some (a1, a2, a3, a4, a5) = some (x1, x2, x3, x4, x5)) : a1 = x1 ∧ a2 = x2 ∧ a3 = x3 ∧ a4 = x4 ∧ a5 = x5 := by
  cases h
  exact ⟨rfl, rfl, rfl, rfl, rfl⟩
theorem b6_s {T1 T2 T3 T4 T5 T6 G : Type} {o : Option (T1 × T2 × T3 × T4 × T5 × T6)} {k : T1 → T2 → T3 → T4 → T5 → T6 → Option G} {r : G} (h : b6_ o k = some r) : ∃ a1 a2 a3 a4 a5 a6, o = some (a1, a2, a3, a4, a5, a6) ∧ k a1 a2 a3 a4 a5 a6 = some r := by
  rcases o with _ | ⟨a1, a2, a3, a4, a5, a6⟩
  · cases h
  · exact ⟨a1, a2, a3, a4, a5, a6, rfl, h⟩
theorem e6_ {T1 T2 T3 T4 T5 T6 : Type} {a1 x1 : T1} {a2 x2 : T2} {a3 x3 : T3} {a4 x4 : T4} {a5 x5 : T5} {a6 x6 : T6} (h : some (a1, a2, a3, a4, a5, a6) = some (x1, x2, x3, x4, x5, x6)) : a1 = x1 ∧ a2 = x2 ∧ a3 = x3 ∧ a4 = x4 ∧ a5 = x5 ∧ a6 = x6 := by
  cases h
  exact ⟨rfl, rfl, rfl, rfl, rfl, rfl⟩
theorem b7_s {T1 T2 T3 T4 T5 T6 T7 G : Type} {o : Option (T1 × T2 × T3 × T4 × T5 × T6 × T7)} {k : T1 → T2 → T3 → T4 → T5 → T6 → T7 → Option G} {r : G} (h : b7_ o k = some r) : ∃ a1 a2 a3 a4 a5 a6 a7, o = some (a1, a2, a3, a4, a5, a6, a7) ∧ k a1 a2 a3 a4 a5 a6 a7 = some r := by
  rcases o with _ | ⟨a1, a2, a3, a4, a5, a6, a7⟩
  · cases h
  · exact ⟨a1, a2, a3, a4, a5, a6, a7, rfl, h⟩
theorem e7_ {T1 T2 T3 T4 T5 T6 T7 : Type} {a1 x1 : T1} {a2 x2 : T2} {a3 x3 : T3} {a4 x4 : T4} {a5 x5 : T5} {a6 x6 : T6} {a7 x7 : T7} (h : some (a1, a2, a3, a4, a5, a6, a7) = some (x1, x2, x3, x4, x5, x6, x7)) : a1 = x1 ∧ a2 = x2 ∧ a3 = x3 ∧ a4 = x4 ∧ a5 = x5 ∧ a6 = x6 ∧ a7 = x7 := by
  cases h
  exact ⟨rfl, rfl, rfl, rfl, rfl, rfl, rfl⟩
theorem b8_s {T1 T2 T3 T4 T5 T6 T7 T8 G : Type} {o : Option (T1 × T2 × T3 × T4 × T5 × T6 × T7 × T8)} {k : T1 → T2 → T3 → T4 → T5 → T6 → T7 → T8 → Option G} {r : G} (h : b8_ o k = some r) : ∃ a1 a2 a3 a4 a5 a6 a7 a8, o = some (a1, a2, a3, a4, a5, a6, a7, a8) ∧ k a1 a2 a3 a4 a5 a6 a7 a8 = some r := by
  rcases o with _ | ⟨a1, a2, a3, a4, a5, a6, a7, a8⟩
  · cases h
  · exact ⟨a1, a2, a3, a4, a5, a6, a7, a8, rfl, h⟩
theorem e8_ {T1 T2 T3 T4 T5 T6 T7 T8 : Type} {a1 x1 : T1} {a2 x2 : T2} {a3 x3 : T3} {a4 x4 : T4} {a5 x5 : T5} {a6 x6 : T6} {a7 x7 : T7} {a8 x8 : T8} (h : some (a1, a2, a3, a4, a5, a6, a7, a8) = some (x1, x2, x3, x4, x5, x6, x7, x8)) : a1 = x1 ∧ a2 = x2 ∧ a3 = x3 ∧ a4 = x4 ∧ a5 = x5 ∧ a6 = x6 ∧ a7 = x7 ∧ a8 = x8 := by
  cases h
  exact ⟨rfl, rfl, rfl, rfl, rfl, rfl, rfl, rfl⟩
theorem b9_s {T1 T2 T3 T4 T5 T6 T7 T8 T9 G : Type} {o : Option (T1 × T2 × T3 × T4 × T5 × T6 × T7 × T8 × T9)} {k : T1 → T2 → T3 → T4 → T5 → T6 → T7 → T8 → T9 → Option G} {r : G} (h : b9_ o k = some r) : ∃ a1 a2 a3 a4 a5 a6 a7 a8 a9, o = some (a1, a2, a3, a4, a5, a6, a7, a8, a9) ∧ k a1 a2 a3 a4 a5 a6 a7 a8 a9 = some r := by
  rcases o with _ | ⟨a1, a2, a3, a4, a5, a6, a7, a8, a9⟩
  · cases h
  · exact ⟨a1, a2, a3, a4, a5, a6, a7, a8, a9, rfl, h⟩
theorem e9_ {T1 T2 T3 T4 T5 T6 T7 T8 T9 : Type} {a1 x1 : T1} {a2 x2 : T2} {a3 x3 : T3} {a4 x4 : T4} {a5 x5 : T5} {a6 x6 : T6} {a7 x7 : T7} {a8 x8 : T8} {a9 x9 : T9} (h : some (a1, a2, a3, a4, a5, a6, a7, a8, a9) = some (x1, x2, x3, x4, x5, x6, x7, x8, x9)) : a1 = x1 ∧ a2 = x2 ∧ a3 = x3 ∧ a4 = x4 ∧ a5 = x5 ∧ a6 = x6 ∧ a7 = x7 ∧ a8 = x8 ∧ a9 = x9 := by
  cases h
  exact ⟨rfl, rfl, rfl, rfl, rfl, rfl, rfl, rfl, rfl⟩
theorem b10_s {T1 T2 T3 T4 T5 T6 T7 T8 T9 T10 G : Type} {o : Option (T1 × T2 × T3 × T4 × T5 × T6 × T7 × T8 × T9 × T10)} {k : T1 → T2 → T3 → T4 → T5 → T6 → T7 → T8 → T9 → T10 → Option G} {r : G} (h : b10_ o k = some r) : ∃ a1 a2 a3 a4 a5 a6 a7 a8 a9 a10, o = some (a1, a2, a3, a4, a5, a6, a7, a8, a9, a10) ∧ k a1 a2 a3 a4 a5 a6 a7 a8 a9 a10 = some r := by
  rcases o with _ | ⟨a1, a2, a3, a4, a5, a6, a7, a8, a9, a10⟩
  · cases h
  · exact ⟨a1, a2, a3, a4, a5, a6, a7, a8, a9, a10, rfl, h⟩
theorem e10_ {T1 T2 T3 T4 T5 T6 T7 T8 T9 T10 : Type} {a1 x1 : T1} {a2 x2 : T2} {a3 x3 : T3} {a4 x4 : T4} {a5 x5 : T5} {a6 x6 : T6} {a7 x7 : T7} {a8 x8 : T8} {a9 x9 : T9} {a10 x10 : T10} (h : some (a1, a2, a3, a4, a5, a6, a7, a8, a9, a10) = some (x1, x2, x3, x4, x5, x6, x7, x8, x9, x10)) : a1 = x1 ∧ a2 = x2 ∧ a3 = x3 ∧ a4 = x4 ∧ a5 = x5 ∧ a6 = x6 ∧ a7 = x7 ∧ a8 = x8 ∧ a9 = x9 ∧ a10 = x10 := by
  cases h
  exact ⟨rfl, rfl, rfl, rfl, rfl, rfl, rfl, rfl, rfl, rfl⟩
theorem b11_s {T1 T2 T3 T4 T5 T6 T7 T8 T9 T10 T11 G : Type} {o : Option (T1 × T2 × T3 × T4 × T5 × T6 × T7 × T8 × T9 × T10 × T11)} {k : T1 → T2 → T3 → T4 → T5 → T6 → T7 → T8 → T9 → T10 → T11 → Option G} {r : G} (h : b11_ o k = some r) : ∃ a1 a2 a3 a4 a5 a6 a7 a8 a9 a10 a11, o = some (a1, a2, a3, a4, a5, a6, a7, a8, a9, a10, a11) ∧ k a1 a2 a3 a4 a5 a6 a7 a8 a9 a10 a11 = some r := by
  rcases o with _ | ⟨a1, a2, a3, a4, a5, a6, a7, a8, a9, a10, a11⟩
  · cases h
  · exact ⟨a1, a2, a3, a4, a5, a6, a7, a8, a9, a10, a11, rfl, h⟩
theorem e11_ {T1 T2 T3 T4 T5 T6 T7 T8 T9 T10 T11 : Type} {a1 x1 : T1} {a2 x2 : T2} {a3 x3 : T3} {a4 x4 : T4} {a5 x5 : T5} {a6 x6 : T6} {a7 x7 : T7} {a8 x8 : T8} {a9 x9 : T9} {a10 x10 : T10} {a11 x11 : T11} (h : some (a1, a2, a3, a4, a5, a6, a7, a8, a9, a10, a11) = some (x1, x2, x3, x4, x5, x6, x7, x8, x9, x10, x11)) : a1 = x1 ∧ a2 = x2 ∧ a3 = x3 ∧ a4 = x4 ∧ a5 = x5 ∧ a6 = x6 ∧ a7 = x7 ∧ a8 = x8 ∧ a9 = x9 ∧ a10 = x10 ∧ a11 = x11 := by
  cases h
  exact ⟨rfl, rfl, rfl, rfl, rfl, rfl, rfl, rfl, rfl, rfl, rfl⟩
theorem b12_s {T1 T2 T3 T4 T5 T6 T7 T8 T9 T10 T11 T12 G : Type} {o : Option (T1 × T2 × T3 × T4 × T5 × T6 × T7 × T8 × T9 × T10 × T11 × T12)} {k : T1 → T2 → T3 → T4 → T5 → T6 → T7 → T8 → T9 → T10 → T11 → T12 → Option G} {r : G} (h : b12_ o k = some r) : ∃ a1 a2 a3 a4 a5 a6 a7 a8 a9 a10 a11 a12, o = some (a1, a2, a3, a4, a5, a6, a7, a8, a9, a10, a11, a12) ∧ k a1 a2 a3 a4 a5 a6 a7 a8 a9 a10 a11 a12 = some r := by
  rcases o with _ | ⟨a1, a2, a3, a4, a5, a6, a7, a8, a9, a10, a11, a12⟩
  · cases h
  · exact ⟨a1, a2, a3, a4, a5, a6, a7, a8, a9, a10, a11, a12, rfl, h⟩
theorem e12_ {T1 T2 T3 T4 T5 T6 T7 T8 T9 T10 T11 T12 : Type} {a1 x1 : T1} {a2 x2 : T2} {a3 x3 : T3} {a4 x4 : T4} {a5 x5 : T5} {a6 x6 : T6} {a7 x7 : T7} {a8 x8 : T8} {a9 x9 : T9} {a10 x10 : T10} {a11 x11 : T11} {a12 x12 : T12} (h : some (a1, a2, a3, a4, a5, a6, a7, a8, a9, a10, a11, a12) = some (x1, x2, x3, x4, x5, x6, x7, x8, x9, x10, x11, x12)) : a1 = x1 ∧ a2 = x2 ∧ a3 = x3 ∧ a4 = x4 ∧ a5 = x5 ∧ a6 = x6 ∧ a7 = x7 ∧ a8 = x8 ∧ a9 = x9 ∧ a10 = x10 ∧ a11 = x11 ∧ a12 = x12 := by
  cases h
  exact ⟨rfl, rfl, rfl, rfl, rfl, rfl, rfl, rfl, rfl, rfl, rfl, rfl⟩
theorem b13_s {T1 T2 T3 T4 T5 T6 T7 T8 T9 T10 T11 T12 T13 G : Type} {o : Option (T1 × T2 × T3 × T4 × T5 × T6 × T7 × T8 × T9 × T10 × T11 × T12 × T13)} {k : T1 → T2 → T3 → T4 → T5 → T6 → T7 → T8 → T9 → T10 → T11 → T12 → T13 → Option G} {r : G} (h : b13_ o k = some r) : ∃ a1 a2 a3 a4 a5 a6 a7 a8 a9 a10 a11 a12 a13, o = some (a1, a2, a3, a4, a5, a6, a7, a8, a9, a10, a11, a12, a13) ∧ k a1 a2 a3 a4 a5 a6 a7 a8 a9 a10 a11 a12 a13 = some r := by
  rcases o with _ | ⟨a1, a2, a3, a4, a5, a6, a7, a8, a9, a10, a11, a12, a13⟩
  · cases h
  · exact ⟨a1, a2, a3, a4, a5, a6, a7, a8, a9, a10, a11, a12, a13, rfl, h⟩
theorem e13_ {T1 T2 T3 T4 T5 T6 T7 T8 T9 T10 T11 T12 T13 : Type} {a1 x1 : T1} {a2 x2 : T2} {a3 x3 : T3} {a4 x4 : T4} {a5 x5 : T5} {a6 x6 : T6} {a7 x7 : T7} {a8 x8 : T8} {a9 x9 : T9} {a10 x10 : T10} {a11 x11 : T11} {a12 x12 : T12} {a13 x13 : T13} (h : some (a1, a2, a3, a4, a5, a6, a7, a8, a9, a10, a11, a12, a13) = some (x1, x2, x3, x4, x5, x6, x7, x8, x9, x10, x11, x12, x13)) : a1 = x1 ∧ a2 = x2 ∧ a3 = x3 ∧ a4 = x4 ∧ a5 = x5 ∧ a6 = x6 ∧ a7 = x7 ∧ a8 = x8 ∧ a9 = x9 ∧ a10 = x10 ∧ a11 = x11 ∧ a12 = x12 ∧ a13 = x13 := by
  cases h
  exact ⟨rfl, rfl, rfl, rfl, rfl, rfl, rfl, rfl, rfl, rfl, rfl, rfl, rfl⟩
theorem b14_s {T1 T2 T3 T4 T5 T6 T7 T8 T9 T10 T11 T12 T13 T14 G : Type} {o : Option (T1 × T2 × T3 × T4 × T5 × T6 × T7 × T8 × T9 × T10 × T11 × T12 × T13 × T14)} {k : T1 → T2 → T3 → T4 → T5 → T6 → T7 → T8 → T9 → T10 → T11 → T12 → T13 → T14 → Option G} {r : G} (h : b14_ o k = some r) : ∃ a1 a2 a3 a4 a5 a6 a7 a8 a9 a10 a11 a12 a13 a14, o = some (a1, a2, a3, a4, a5, a6, a7, a8, a9, a10, a11, a12, a13, a14) ∧ k a1 a2 a3 a4 a5 a6 a7 a8 a9 a10 a11 a12 a13 a14 = some r := by
  rcases o with _ | ⟨a1, a2, a3, a4, a5, a6, a7, a8, a9, a10, a11, a12, a13, a14⟩
  · cases h
  · exact ⟨a1, a2, a3, a4, a5, a6, a7, a8, a9, a10, a11, a12, a13, a14, rfl, h⟩
theorem e14_ {T1 T2 T3 T4 T5 T6 T7 T8 T9 T10 T11 T12 T13 T14 : Type} {a1 x1 : T1} {a2 x2 : T2} {a3 x3 : T3} {a4 x4 : T4} {a5 x5 : T5} {a6 x6 : T6} {a7 x7 : T7} {a8 x8 : T8} {a9 x9 : T9} {a10 x10 : T10} {a11 x11 : T11} {a12 x12 : T12} {a13 x13 : T13} {a14 x14 : T14} (h : some (a1, a2, a3, a4, a5, a6, a7, a8, a9, a10, a11, a12, a13, a14) = some (x1, x2, x3, x4, x5, x6, x7, x8, x9, x10, x11, x12, x13, x14)) : a1 = x1 ∧ a2 = x2 ∧ a3 = x3 ∧ a4 = x4 ∧ a5 = x5 ∧ a6 = x6 ∧ a7 = x7 ∧ a8 = x8 ∧ a9 = x9 ∧ a10 = x10 ∧ a11 = x11 ∧ a12 = x12 ∧ a13 = x13 ∧ a14 = x14 := by
  cases h
  exact ⟨rfl, rfl, rfl, rfl, rfl, rfl, rfl, rfl, rfl, rfl, rfl, rfl, rfl, rfl⟩
theorem b15_s {T1 T2 T3 T4 T5 T6 T7 T8 T9 T10 T11 T12 T13 T14 T15 G : Type} {o : Option (T1 × T2 × T3 × T4 × T5 × T6 × T7 × T8 × T9 × T10 × T11 × T12 × T13 × T14 × T15)} {k : T1 → T2 → T3 → T4 → T5 → T6 → T7 → T8 → T9 → T10 → T11 → T12 → T13 → T14 → T15 → Option G} {r : G} (h : b15_ o k = some r) : ∃ a1 a2 a3 a4 a5 a6 a7 a8 a9 a10 a11 a12 a13 a14 a15, o = some (a1, a2, a3, a4, a5, a6, a7, a8, a9, a10, a11, a12, a13, a14, a15) ∧ k a1 a2 a3 a4 a5 a6 a7 a8 a9 a10 a11 a12 a13 a14 a15 = some r := by
  rcases o with _ | ⟨a1, a2, a3, a4, a5, a6, a7, a8, a9, a10, a11, a12, a13, a14, a15⟩
  · cases h
  · exact ⟨a1, a2, a3, a4, a5, a6, a7, a8, a9, a10, a11, a12, a13, a14, a15, rfl, h⟩
theorem e15_ {T1 T2 T3 T4 T5 T6 T7 T8 T9 T10 T11 T12 T13 T14 T15 : Type} {a1 x1 : T1} {a2 x2 : T2} {a3 x3 : T3} {a4 x4 : T4} {a5 x5 : T5} {a6 x6 : T6} {a7 x7 : T7} {a8 x8 : T8} {a9 x9 : T9} {a10 x10 : T10} {a11 x11 : T11} {a12 x12 : T12} {a13 x13 : T13} {a14 x14 : T14} {a15 x15 : T15} (h : some (a1, a2, a3, a4, a5, a6, a7, a8, a9, a10, a11, a12, a13, a14, a15) = some (x1, x2, x3, x4, x5, x6, x7, x8, x9, x10, x11, x12, x13, x14, x15)) : a1 = x1 ∧ a2 = x2 ∧ a3 = x3 ∧ a4 = x4 ∧ a5 = x5 ∧ a6 = x6 ∧ a7 = x7 ∧ a8 = x8 ∧ a9 = x9 ∧ a10 = x10 ∧ a11 = x11 ∧ a12 = x12 ∧ a13 = x13 ∧ a14 = x14 ∧ a15 = x15 := by
  cases h
  exact ⟨rfl, rfl, rfl, rfl, rfl, rfl, rfl, rfl, rfl, rfl, rfl, rfl, rfl, rfl, rfl⟩
theorem b16_s {T1 T2 T3 T4 T5 T6 T7 T8 T9 T10 T11 T12 T13 T14 T15 T16 G : Type} {o : Option (T1 × T2 × T3 × T4 × T5 × T6 × T7 × T8 × T9 × T10 × T11 × T12 × T13 × T14 × T15 × T16)} {k : T1 → T2 → T3 → T4 → T5 → T6 → T7 → T8 → T9 → T10 → T11 → T12 → T13 → T14 → T15 → T16 → Option G} {r : G} (h : b16_ o k = some r) : ∃ a1 a2 a3 a4 a5 a6 a7 a8 a9 a10 a11 a12 a13 a14 a15 a16, o = some (a1, a2, a3, a4, a5, a6, a7, a8, a9, a10, a11, a12, a13, a14, a15, a16) ∧ k a1 a2 a3 a4 a5 a6 a7 a8 a9 a10 a11 a12 a13 a14 a15 a16 = some r := by
  rcases o with _ | ⟨a1, a2, a3, a4, a5, a6, a7, a8, a9, a10, a11, a12, a13, a14, a15, a16⟩
  · cases h
  · exact ⟨a1, a2, a3, a4, a5, a6, a7, a8, a9, a10, a11, a12, a13, a14, a15, a16, rfl, h⟩
theorem e16_ {T1 T2 T3 T4 T5 T6 T7 T8 T9 T10 T11 T12 T13 T14 T15 T16 : Type} {a1 x1 : T1} {a2 x2 : T2} {a3 x3 : T3} {a4 x4 : T4} {a5 x5 : T5} {a6 x6 : T6} {a7 x7 : T7} {a8 x8 : T8} {a9 x9 : T9} {a10 x10 : T10} {a11 x11 : T11} {a12 x12 : T12} {a13 x13 : T13} {a14 x14 : T14} {a15 x15 : T15} {a16 x16 : T16} (h : some (a1, a2, a3, a4, a5, a6, a7, a8, a9, a10, a11, a12, a13, a14, a15, a16) = some (x1, x2, x3, x4, x5, x6, x7, x8, x9, x10, x11, x12, x13, x14, x15, x16)) : a1 = x1 ∧ a2 = x2 ∧ a3 = x3 ∧ a4 = x4 ∧ a5 = x5 ∧ a6 = x6 ∧ a7 = x7 ∧ a8 = x8 ∧ a9 = x9 ∧ a10 = x10 ∧ a11 = x11 ∧ a12 = x12 ∧ a13 = x13 ∧ a14 = x14 ∧ a15 = x15 ∧ a16 = x16 := by
  cases h
  exact ⟨rfl, rfl, rfl, rfl, rfl, rfl, rfl, rfl, rfl, rfl, rfl, rfl, rfl, rfl, rfl, rfl⟩
theorem b17_s {T1 T2 T3 T4 T5 T6 T7 T8 T9 T10 T11 T12 T13 T14 T15 T16 T17 G : Type} {o : Option (T1 × T2 × T3 × T4 × T5 × T6 × T7 × T8 × T9 × T10 × T11 × T12 × T13 × T14 × T15 × T16 × T17)} {k : T1 → T2 → T3 → T4 → T5 → T6 → T7 → T8 → T9 → T10 → T11 → T12 → T13 → T14 → T15 → T16 → T17 → Option G} {r : G} (h : b17_ o k = some r) : ∃ a1 a2 a3 a4 a5 a6 a7 a8 a9 a10 a11 a12 a13 a14 a15 a16 a17, o = some (a1, a2, a3, a4, a5, a6, a7, a8, a9, a10, a11, a12, a13, a14, a15, a16, a17) ∧ k a1 a2 a3 a4 a5 a6 a7 a8 a9 a10 a11 a12 a13 a14 a15 a16 a17 = some r := by
  rcases o with _ | ⟨a1, a2, a3, a4, a5, a6, a7, a8, a9, a10, a11, a12, a13, a14, a15, a16, a17⟩
  · cases h
  · exact ⟨a1, a2, a3, a4, a5, a6, a7, a8, a9, a10, a11, a12, a13, a14, a15, a16, a17, rfl, h⟩
theorem e17_ {T1 T2 T3 T4 T5 T6 T7 T8 T9 T10 T11 T12 T13 T14 T15 T16 T17 : Type} {a1 x1 : T1} {a2 x2 : T2} {a3 x3 : T3} {a4 x4 : T4} {a5 x5 : T5} {a6 x6 : T6} {a7 x7 : T7} {a8 x8 : T8} {a9 x9 : T9} {a10 x10 : T10} {a11 x11 : T11} {a12 x12 : T12} {a13 x13 : T13} {a14 x14 : T14} {a15 x15 : T15} {a16 x16 : T16} {a17 x17 : T17} (h : some (a1, a2, a3, a4, a5, a6, a7, a8, a9, a10, a11, a12, a13, a14, a15, a16, a17) = some (x1, x2, x3, x4, x5, x6, x7, x8, x9, x10, x11, x12, x13, x14, x15, x16, x17)) : a1 = x1 ∧ a2 = x2 ∧ a3 = x3 ∧ a4 = x4 ∧ a5 = x5 ∧ a6 = x6 ∧ a7 = x7 ∧ a8 = x8 ∧ a9 = x9 ∧ a10 = x10 ∧ a11 = x11 ∧ a12 = x12 ∧ a13 = x13 ∧ a14 = x14 ∧ a15 = x15 ∧ a16 = x16 ∧ a17 = x17 := by
  cases h
  exact ⟨rfl, rfl, rfl, rfl, rfl, rfl, rfl, rfl, rfl, rfl, rfl, rfl, rfl, rfl, rfl, rfl, rfl⟩
theorem b18_s {T1 T2 T3 T4 T5 T6 T7 T8 T9 T10 T11 T12 T13 T14 T15 T16 T17 T18 G : Type} {o : Option (T1 × T2 × T3 × T4 × T5 × T6 × T7 × T8 × T9 × T10 × T11 × T12 × T13 × T14 × T15 × T16 × T17 × T18)} {k : T1 → T2 → T3 → T4 → T5 → T6 → T7 → T8 → T9 → T10 → T11 → T12 → T13 → T14 → T15 → T16 → T17 → T18 → Option G} {r : G} (h : b18_ o k = some r) : ∃ a1 a2 a3 a4 a5 a6 a7 a8 a9 a10 a11 a12 a13 a14 a15 a16 a17 a18, o = some (a1, a2, a3, a4, a5, a6, a7, a8, a9, a10, a11, a12, a13, a14, a15, a16, a17, a18) ∧ k a1 a2 a3 a4 a5 a6 a7 a8 a9 a10 a11 a12 a13 a14 a15 a16 a17 a18 = some r := by
  rcases o with _ | ⟨a1, a2, a3, a4, a5, a6, a7, a8, a9, a10, a11, a12, a13, a14, a15, a16, a17, a18⟩
  · cases h
  · exact ⟨a1, a2, a3, a4, a5, a6, a7, a8, a9, a10, a11, a12, a13, a14, a15, a16, a17, a18, rfl, h⟩
theorem e18_ {T1 T2 T3 T4 T5 T6 T7 T8 T9 T10 T11 T12 T13 T14 T15 T16 T17 T18 : Type} {a1 x1 : T1} {a2 x2 : T2} {a3 x3 : T3} {a4 x4 : T4} {a5 x5 : T5} {a6 x6 : T6} {a7 x7 : T7} {a8 x8 : T8} {a9 x9 : T9} {a10 x10 : T10} {a11 x11 : T11} {a12 x12 : T12} {a13 x13 : T13} {a14 x14 : T14} {a15 x15 : T15} {a16 x16 : T16} {a17 x17 : T17} {a18 x18 : T18} (h : some (a1, a2, a3, a4, a5, a6, a7, a8, a9, a10, a11, a12, a13, a14, a15, a16, a17, a18) = some (x1, x2, x3, x4, x5, x6, x7, x8, x9, x10, x11, x12, x13, x14, x15, x16, x17, x18)) : a1 = x1 ∧ a2 = x2 ∧ a3 = x3 ∧ a4 = x4 ∧ a5 = x5 ∧ a6 = x6 ∧ a7 = x7 ∧ a8 = x8 ∧ a9 = x9 ∧ a10 = x10 ∧ a11 = x11 ∧ a12 = x12 ∧ a13 = x13 ∧ a14 = x14 ∧ a15 = x15 ∧ a16 = x16 ∧ a17 = x17 ∧ a18 = x18 := by
  cases h
  exact ⟨rfl, rfl, rfl, rfl, rfl, rfl, rfl, rfl, rfl, rfl, rfl, rfl, rfl, rfl, rfl, rfl, rfl, rfl⟩
