/-! what a method stands in, its world, its contract; rows over them -/
def cx_ (p : Program) (s : State) (m : MethodId) (meth : Method) (c : Code) (args : Array Value) (cc : ByteArray) (own : String) (ret : Option FieldType) (nL : Nat) (A : Nat → Prop) : Prop :=
  p.tables.exec = Jvm.exec ∧ c.code = cc ∧ meth.sig.returnType = ret ∧ c.maxLocals = nL ∧ s.vm.findClass own = some m.cls ∧ (∀ w ∈ uw, w.before args s = true) ∧ meth.locks = false ∧ (∀ q : Nat, s.heap.size ≤ q → A q)
def wd_ (D : va_G) (tys : List (ClassId × FieldType)) (A : Nat → Prop) (s : State) (ws : va_W) (H : Heap) (locs : List Loc) : Prop :=
  va_P D vwCl ws H ∧ va_D A ws ∧ va_S A s.heap H locs ∧ va_K D vwCl tys s
def pr_ (D : va_G) (tys : List (ClassId × FieldType)) (av : List Value) (pre : va_W) (sz : Nat) : Array Value → State → Prop :=
  va_Pc av (fun U => U.heap.size = sz ∧ va_P D vwCl pre U.heap ∧ va_K D vwCl tys U ∧ va_D (fun _ => True) pre)
def po_ (D : va_G) (tys : List (ClassId × FieldType)) (A : Nat → Prop) (post : va_W) : Unit → State → Prop := fun _ t => va_P D vwCl post t.heap ∧ va_K D vwCl tys t ∧ va_D A post
/-- contracts: an int (post: what more is known of it), a long, nothing -/
def mI_ (l : Launch) (y : MethodName) (ws : List Cond) (rm : Room) (D : va_G) (tys : List (ClassId × FieldType)) (av : List Value) (pre : va_W) (N : Int32 → Prop) (r : Int32) (post : va_W) : Prop :=
  ∀ sz : Nat, Met l y ws rm (pr_ D tys av pre sz) (va_Qi (fun (x : Int32) (_ : Unit) => x = r ∧ N r) (po_ D tys (va_A pre sz) post) (va_A pre sz)) 0 0 (va_A pre sz)
def mL_ (l : Launch) (y : MethodName) (ws : List Cond) (rm : Room) (D : va_G) (tys : List (ClassId × FieldType)) (av : List Value) (pre : va_W) (r : Int64) (post : va_W) : Prop :=
  ∀ sz : Nat, Met l y ws rm (pr_ D tys av pre sz) (va_Ql (fun (x : Int64) (_ : Unit) => x = r) (po_ D tys (va_A pre sz) post) (va_A pre sz)) 0 0 (va_A pre sz)
def mV_ (l : Launch) (y : MethodName) (ws : List Cond) (rm : Room) (D : va_G) (tys : List (ClassId × FieldType)) (av : List Value) (pre : va_W) (post : va_W) : Prop :=
  ∀ sz : Nat, Met l y ws rm (pr_ D tys av pre sz) (va_Qv (fun (_ : Unit) => True) (po_ D tys (va_A pre sz) post) (va_A pre sz)) 0 0 (va_A pre sz)
def qI_ (D : va_G) (tys : List (ClassId × FieldType)) (A : Nat → Prop) (N : Int32 → Prop) (r : Int32) (post : va_W) (below : List Frame) (args : Array Value) (s : State) : State → Prop :=
  MQ below (va_Qi (fun (x : Int32) (_ : Unit) => x = r ∧ N r) (po_ D tys A post) A) args s 0 0 A
def qL_ (D : va_G) (tys : List (ClassId × FieldType)) (A : Nat → Prop) (r : Int64) (post : va_W) (below : List Frame) (args : Array Value) (s : State) : State → Prop :=
  MQ below (va_Ql (fun (x : Int64) (_ : Unit) => x = r) (po_ D tys A post) A) args s 0 0 A
def qV_ (D : va_G) (tys : List (ClassId × FieldType)) (A : Nat → Prop) (post : va_W) (below : List Frame) (args : Array Value) (s : State) : State → Prop :=
  MQ below (va_Qv (fun (_ : Unit) => True) (po_ D tys A post) A) args s 0 0 A
def nT_ (_ : Int32) : Prop := True
def nB_ (r : Int32) : Prop := r = 0 ∨ r = 1
/-! pure words: a test of an index, of a divisor; a name for a number; a callee's answer -/
def gd_ {α : Type} (i : Int32) (n : Nat) (k : Option α) : Option α := if i < 0 ∨ n ≤ i.toNatClampNeg then none else k
def dz_ {α : Type} (y : Int32) (k : Option α) : Option α := if y = 0 then none else k
def dl_ {α : Type} (y : Int64) (k : Option α) : Option α := if y = 0 then none else k
def lt_ {α β : Type} (x : α) (k : α → Option β) : Option β := k x
def b1_ {α γ : Type} (o : Option α) (k : α → Option γ) : Option γ := match o with
  | none => none
  | some a => k a
def b2_ {α β γ : Type} (o : Option (α × β)) (k : α → β → Option γ) : Option γ := match o with
  | none => none
  | some (a, b) => k a b
def b3_ {α β δ γ : Type} (o : Option (α × β × δ)) (k : α → β → δ → Option γ) : Option γ := match o with
  | none => none
  | some (a, b, d) => k a b d
def b4_ {α β δ ε γ : Type} (o : Option (α × β × δ × ε)) (k : α → β → δ → ε → Option γ) : Option γ := match o with
  | none => none
  | some (a, b, d, e) => k a b d e
def b5_ {α β δ ε ζ γ : Type} (o : Option (α × β × δ × ε × ζ)) (k : α → β → δ → ε → ζ → Option γ) : Option γ := match o with
  | none => none
  | some (a, b, d, e, f) => k a b d e f
def b6_ {α β δ ε ζ η γ : Type} (o : Option (α × β × δ × ε × ζ × η)) (k : α → β → δ → ε → ζ → η → Option γ) : Option γ := match o with
  | none => none
  | some (a, b, d, e, f, g) => k a b d e f g
def b7_ {α β δ ε ζ η θ γ : Type} (o : Option (α × β × δ × ε × ζ × η × θ)) (k : α → β → δ → ε → ζ → η → θ → Option γ) : Option γ := match o with
  | none => none
  | some (a, b, d, e, f, g, h) => k a b d e f g h
theorem gd_s {α : Type} {i : Int32} {n : Nat} {k : Option α} {r : α} (h : gd_ i n k = some r) : vp_in i n ∧ k = some r := by
  unfold gd_ at h
  by_cases c : i < 0 ∨ n ≤ i.toNatClampNeg
  · rw [if_pos c] at h; cases h
  · rw [if_neg c] at h; exact ⟨c, h⟩
theorem dz_s {α : Type} {y : Int32} {k : Option α} {r : α} (h : dz_ y k = some r) : ¬ y = 0 ∧ k = some r := by
  unfold dz_ at h
  by_cases c : y = 0
  · rw [if_pos c] at h; cases h
  · rw [if_neg c] at h; exact ⟨c, h⟩
theorem dl_s {α : Type} {y : Int64} {k : Option α} {r : α} (h : dl_ y k = some r) : ¬ y = 0 ∧ k = some r := by
  unfold dl_ at h
  by_cases c : y = 0
  · rw [if_pos c] at h; cases h
  · rw [if_neg c] at h; exact ⟨c, h⟩
theorem lt_s_ {α β : Type} {x : α} {k : α → Option β} {r : β} (h : lt_ x k = some r) (y : α) (e : y = x) : k y = some r := by subst e; exact h
theorem if_t {α : Type} {c : Prop} {i : Decidable c} {a b : Option α} {r : α} (h : c) (hf : @ite (Option α) c i a b = some r) : a = some r := by rw [if_pos h] at hf; exact hf
theorem if_f {α : Type} {c : Prop} {i : Decidable c} {a b : Option α} {r : α} (h : ¬ c) (hf : @ite (Option α) c i a b = some r) : b = some r := by rw [if_neg h] at hf; exact hf
theorem b1_s {α γ : Type} {o : Option α} {k : α → Option γ} {r : γ} (h : b1_ o k = some r) : ∃ a, o = some a ∧ k a = some r := by
  rcases o with _ | a
  · cases h
  · exact ⟨a, rfl, h⟩
theorem b2_s {α β γ : Type} {o : Option (α × β)} {k : α → β → Option γ} {r : γ} (h : b2_ o k = some r) : ∃ a b, o = some (a, b) ∧ k a b = some r := by
  rcases o with _ | ⟨a, b⟩
  · cases h
  · exact ⟨a, b, rfl, h⟩
theorem b3_s {α β δ γ : Type} {o : Option (α × β × δ)} {k : α → β → δ → Option γ} {r : γ} (h : b3_ o k = some r) : ∃ a b d, o = some (a, b, d) ∧ k a b d = some r := by
  rcases o with _ | ⟨a, b, d⟩
  · cases h
  · exact ⟨a, b, d, rfl, h⟩
theorem b4_s {α β δ ε γ : Type} {o : Option (α × β × δ × ε)} {k : α → β → δ → ε → Option γ} {r : γ} (h : b4_ o k = some r) : ∃ a b d e, o = some (a, b, d, e) ∧ k a b d e = some r := by
  rcases o with _ | ⟨a, b, d, e⟩
  · cases h
  · exact ⟨a, b, d, e, rfl, h⟩
theorem b5_s {α β δ ε ζ γ : Type} {o : Option (α × β × δ × ε × ζ)} {k : α → β → δ → ε → ζ → Option γ} {r : γ} (h : b5_ o k = some r) : ∃ a b d e f, o = some (a, b, d, e, f) ∧ k a b d e f = some r := by
  rcases o with _ | ⟨a, b, d, e, f⟩
  · cases h
  · exact ⟨a, b, d, e, f, rfl, h⟩
theorem b6_s {α β δ ε ζ η γ : Type} {o : Option (α × β × δ × ε × ζ × η)} {k : α → β → δ → ε → ζ → η → Option γ} {r : γ} (h : b6_ o k = some r) : ∃ a b d e f g, o = some (a, b, d, e, f, g) ∧ k a b d e f g = some r := by
  rcases o with _ | ⟨a, b, d, e, f, g⟩
  · cases h
  · exact ⟨a, b, d, e, f, g, rfl, h⟩
theorem b7_s {α β δ ε ζ η θ γ : Type} {o : Option (α × β × δ × ε × ζ × η × θ)} {k : α → β → δ → ε → ζ → η → θ → Option γ} {r : γ} (h : b7_ o k = some r) : ∃ a b d e f g i, o = some (a, b, d, e, f, g, i) ∧ k a b d e f g i = some r := by
  rcases o with _ | ⟨a, b, d, e, f, g, i⟩
  · cases h
  · exact ⟨a, b, d, e, f, g, i, rfl, h⟩
theorem e1_ {α : Type} {a x : α} (h : some a = some x) : a = x := Option.some.inj h
theorem e2_ {α β : Type} {a x : α} {b y : β} (h : some (a, b) = some (x, y)) : a = x ∧ b = y := by cases h; exact ⟨rfl, rfl⟩
theorem e3_ {α β γ : Type} {a x : α} {b y : β} {c z : γ} (h : some (a, b, c) = some (x, y, z)) : a = x ∧ b = y ∧ c = z := by cases h; exact ⟨rfl, rfl, rfl⟩
theorem e4_ {α β γ δ : Type} {a x : α} {b y : β} {c z : γ} {d w : δ} (h : some (a, b, c, d) = some (x, y, z, w)) : a = x ∧ b = y ∧ c = z ∧ d = w := by cases h; exact ⟨rfl, rfl, rfl, rfl⟩
theorem e5_ {α β γ δ ε : Type} {a x : α} {b y : β} {c z : γ} {d w : δ} {e v : ε} (h : some (a, b, c, d, e) = some (x, y, z, w, v)) : a = x ∧ b = y ∧ c = z ∧ d = w ∧ e = v := by cases h; exact ⟨rfl, rfl, rfl, rfl, rfl⟩
theorem e6_ {α β γ δ ε ζ : Type} {a x : α} {b y : β} {c z : γ} {d w : δ} {e v : ε} {f u : ζ} (h : some (a, b, c, d, e, f) = some (x, y, z, w, v, u)) : a = x ∧ b = y ∧ c = z ∧ d = w ∧ e = v ∧ f = u := by cases h; exact ⟨rfl, rfl, rfl, rfl, rfl, rfl⟩
theorem e7_ {α β γ δ ε ζ η : Type} {a x : α} {b y : β} {c z : γ} {d w : δ} {e v : ε} {f u : ζ} {g t : η} (h : some (a, b, c, d, e, f, g) = some (x, y, z, w, v, u, t)) : a = x ∧ b = y ∧ c = z ∧ d = w ∧ e = v ∧ f = u ∧ g = t := by cases h; exact ⟨rfl, rfl, rfl, rfl, rfl, rfl, rfl⟩
