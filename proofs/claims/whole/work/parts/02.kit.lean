/-! Part 02: functions on numbers; the packed judgement JK and its rows. Part 01 gives wsG, classes, clsOwn .., tabW. -/
abbrev DS : Type := (Nat → Nat → Int32) × (Nat → Int32)
abbrev RS : Type := (Nat → Nat → Int32) × (Nat → Int32) × (Nat → Nat → Int64)
abbrev OS : Type := Nat → Int64
def inb (i : Int32) (n : Nat) : Bool := decide (0 ≤ i) && decide (i.toNatClampNeg < n)
theorem inb_in {i : Int32} {n : Nat} (h : inb i n = true) : vp_in i n := by
  simp only [inb, Bool.and_eq_true, decide_eq_true_eq] at h
  intro q
  rcases q with q | q
  · rw [Int32.lt_iff_toInt_lt] at q
    have h1 := h.1
    rw [Int32.le_iff_toInt_le] at h1
    omega
  · have h2 := h.2
    omega
def isb (v : Int32) : Bool := decide (v = 0) || decide (v = 1)
theorem isb_n {v : Int32} (h : isb v = true) : narrow .boolean (.int v) = .int v := by
  simp only [isb, Bool.or_eq_true, decide_eq_true_eq] at h
  rcases h with rfl | rfl <;> rfl
def isc (v : Int32) : Bool := decide (v = (v.toUInt32 % 65536).toInt32)
theorem isc_n {v : Int32} (h : isc v = true) : narrow .char (.int v) = .int v := by
  simp only [isc, decide_eq_true_eq] at h
  rw [h]; exact pk_nc v
def bindv {α β : Type} (x : α) (k : α → Option β) : Option β := k x
theorem ov {α β : Type} {x v : α} {k : α → Option β} {o : β} (e : v = x) (h : bindv x k = some o) : k v = some o := by subst e; exact h
theorem og {α : Type} {b : Bool} {t : Option α} {o : α} (h : (if b = true then t else none) = some o) : b = true ∧ t = some o := by
  by_cases hb : b = true
  · rw [if_pos hb] at h; exact ⟨hb, h⟩
  · rw [if_neg hb] at h; cases h
theorem ob {α β : Type} {x : Option α} {k : α → Option β} {o : β} (h : x.bind k = some o) : ∃ q, x = some q ∧ k q = some o := by
  cases x with
  | none => cases h
  | some q => exact ⟨q, rfl, h⟩
def lpN {α β : Type} (B : (α → Option β) → α → Option β) : Nat → α → Option β
  | 0, _ => none
  | n + 1, x => B (lpN B n) x
theorem lp_ind {α β : Type} {B : (α → Option β) → α → Option β} {o : β} {P : α → Prop} (hB : ∀ k : α → Option β, (∀ y, k y = some o → P y) → ∀ x, B k x = some o → P x) : ∀ (n : Nat) (x : α), lpN B n x = some o → P x := by
  intro n
  induction n with
  | zero => intro x h; cases h
  | succ n ih => intro x h; exact hB (lpN B n) ih x h
/-! the context of all rows: launch, class numbers and slots, the classes of int[], char[], long[], boolean[], the array WORDS -/
abbrev GT : Type := Launch × (Nat → ClassId) × (Nat → Nat → Nat) × (ClassId × ClassId × ClassId × ClassId) × Nat × Nat × Nat
abbrev g_l (g : GT) : Launch := g.1
abbrev g_D (g : GT) : va_G := (g.2.1, g.2.2.1)
def g_I (g : GT) : ClassId := g.2.2.2.1.1
def g_C (g : GT) : ClassId := g.2.2.2.1.2.1
def g_J (g : GT) : ClassId := g.2.2.2.1.2.2.1
def g_Z (g : GT) : ClassId := g.2.2.2.1.2.2.2
def g_W (g : GT) : Nat := g.2.2.2.2.1
/-- the text of the signs, and its bytes -/
def g_K (g : GT) : Nat := g.2.2.2.2.2.1
def g_V (g : GT) : Nat := g.2.2.2.2.2.2
abbrev g_tys (g : GT) : List (ClassId × FieldType) := [(g_I g, .int), (g_C g, .char), (g_J g, .long), (g_Z g, .boolean)]
/-- a static that holds a reference or null, with what the tables say of its place; words that stay where the tables are alike -/
def ZL (C n d : String) (A : Nat → Prop) (U : State) (H : Heap) : Prop := ∃ (c : ClassId) (k : Class) (i : Nat) (f : Field) (a : Nat) (cell : Cell) (v : Value), U.vm.findClass C = some c ∧ U.fieldFound? C n d = some (c, k, i, f) ∧ f.isStatic = true ∧ k.statics = some a ∧ H[a]? = some cell ∧ cell.vm.isStatics = true ∧ cell.cls = c ∧ f.slot < cell.slots.size ∧ k.staticTypes[f.slot]? = some f.type ∧ cell.slots[f.slot]? = some v ∧ (v = .null ∨ ∃ t, v = .ref t) ∧ ¬ A a
theorem ZL.moved {C n d : String} {A : Nat → Prop} {u U : State} {H : Heap} (hvm : u.vm.Alike U.vm) (h : ZL C n d A u H) : ZL C n d A U H := by
  obtain ⟨c, k, i, f, a, cell, v, h0, h1, h2, h3, h4, h5, h6, h7, h8, h9⟩ := h
  obtain ⟨k', hi', he⟩ := State.fieldFound?_setVm hvm h1
  exact ⟨c, k', i, f, a, cell, v, by rw [hvm.findClass]; exact h0, hi', h2, by rw [he]; exact h3, h4, h5, h6, h7, by rw [he]; exact h8, h9⟩
theorem ZL.kept {C n d : String} {A : Nat → Prop} {U : State} {H H1 : Heap} (h : ZL C n d A U H) (hq : ∀ a : Nat, a < H.size → ¬ A a → H1[a]? = H[a]?) : ZL C n d A U H1 := by
  obtain ⟨c, k, i, f, a, cell, v, h0, h1, h2, h3, h4, h5, h6, h7, h8, h9, h10, h11⟩ := h
  exact ⟨c, k, i, f, a, cell, v, h0, h1, h2, h3, by rw [hq a (Array.getElem?_eq_some_iff.mp h4).1 h11]; exact h4, h5, h6, h7, h8, h9, h10, h11⟩
theorem ZL.narrow {C n d : String} {A B : Nat → Prop} {U : State} {H : Heap} (h : ZL C n d A U H) (hAB : ∀ q, B q → A q) : ZL C n d B U H := by
  obtain ⟨c, k, i, f, a, cell, v, h0, h1, h2, h3, h4, h5, h6, h7, h8, h9, h10, h11⟩ := h
  exact ⟨c, k, i, f, a, cell, v, h0, h1, h2, h3, h4, h5, h6, h7, h8, h9, h10, fun z => h11 (hAB a z)⟩
theorem ZL.lays {C n d : String} {A : Nat → Prop} {U : State} {args : Array Value} (h : ZL C n d A U U.heap) : (Cond.laysStatic C n d).before args U = true := by
  obtain ⟨c, k, i, f, a, cell, v, h0, h1, h2, h3, h4, h5, h6, h7, h8, h9⟩ := h
  simp [Cond.before, Cond.holds, Cond.value, h0, h1, h2, h3, h4, h5, h6, h7, h8]
theorem ZL.isref {C n d : String} {A : Nat → Prop} {U : State} {args : Array Value} (h : ZL C n d A U U.heap) : (Cond.isRef (.static C n d)).before args U = true := by
  obtain ⟨c, k, i, f, a, cell, v, h0, h1, h2, h3, h4, h5, h6, h7, h8, h9, h10, h11⟩ := h
  rcases h10 with rfl | ⟨t, rfl⟩ <;> simp [Cond.before, Cond.holds, Cond.value, Term.eval, State.fieldNamed?, h1, h2, h3, h4, h5, h9]
theorem ZL.of {C n d : String} {A : Nat → Prop} {s : State} {args : Array Value} (hl : (Cond.laysStatic C n d).before args s = true) (hr : (Cond.isRef (.static C n d)).before args s = true) (hA : ∀ a : Nat, a < s.heap.size → ¬ A a) : ZL C n d A s s.heap := by
  obtain ⟨c, k, i, f, a, cell, hc, hi, hst, ha, hcell, hs, hcls, hlt, hty⟩ := Cond.laysStatic_spec hl
  cases hv : (Term.static C n d).eval args s none [] s with
  | none => simp [Cond.before, Cond.holds, Cond.value, hv] at hr
  | some w =>
    obtain ⟨hst', a', cell', ha', hcell', -, hslot⟩ := Term.static_spec hi hv
    cases ha.symm.trans ha'
    cases hcell.symm.trans hcell'
    simp only [Cond.before, Cond.holds, Cond.value, hv] at hr
    refine ⟨c, k, i, f, a, cell, w, hc, hi, hst, ha, hcell, hs, hcls, hlt, hty, hslot, ?_, hA a (Array.getElem?_eq_some_iff.mp hcell).1⟩
    cases w with
    | null => exact Or.inl rfl
    | ref t => exact Or.inr ⟨t, rfl⟩
    | _ => simp at hr
/-- words that look at the classes alone -/
def aWord : Cond → Bool
  | .castable _ _ => true
  | .declares _ => true
  | _ => false
theorem aWord.moved {w : Cond} (hw : aWord w = true) {A A' : Array Value} {u U : State} (h : u.vm.Alike U.vm) (hb : w.before A u = true) : w.before A' U = true := by
  cases w with
  | castable a b => exact va_tabs rfl (rfl : (u.setVm U.vm).vm = U.vm) ((Cond.castable_setVm (args := A) h a b).trans hb)
  | declares x => exact va_tabs rfl (rfl : (u.setVm U.vm).vm = U.vm) ((Cond.declares_setVm (args := A) h x).trans hb)
  | _ => cases hw
def xW : List Cond := tables_1.filter aWord
theorem xW_a : ∀ w ∈ xW, aWord w = true := fun w h => (List.mem_filter.mp h).2
theorem xw_ {w : Cond} (n : Nat) (h : tables_1[n]? = some w) (hg : aWord w = true) : w ∈ xW := List.mem_filter.mpr ⟨List.mem_of_getElem? h, hg⟩
/-- which exception is no other -/
def nCx : List (String × String) := [("java/lang/IndexOutOfBoundsException", "java/lang/IllegalArgumentException"), ("java/lang/IllegalStateException", "java/lang/IllegalArgumentException"), ("java/util/NoSuchElementException", "java/lang/IllegalArgumentException"), ("java/lang/UnsupportedOperationException", "java/lang/IllegalArgumentException"), ("java/lang/IllegalArgumentException", "java/lang/IndexOutOfBoundsException"), ("java/lang/IllegalStateException", "java/lang/IndexOutOfBoundsException"), ("java/util/NoSuchElementException", "java/lang/IndexOutOfBoundsException"), ("java/lang/UnsupportedOperationException", "java/lang/IndexOutOfBoundsException"), ("java/lang/IllegalArgumentException", "java/lang/IllegalStateException"), ("java/lang/IndexOutOfBoundsException", "java/lang/IllegalStateException"), ("java/util/NoSuchElementException", "java/lang/IllegalStateException"), ("java/lang/UnsupportedOperationException", "java/lang/IllegalStateException"), ("java/lang/IllegalArgumentException", "java/util/NoSuchElementException"), ("java/lang/IndexOutOfBoundsException", "java/util/NoSuchElementException"), ("java/lang/IllegalStateException", "java/util/NoSuchElementException"), ("java/lang/UnsupportedOperationException", "java/util/NoSuchElementException"), ("java/lang/IllegalArgumentException", "java/lang/UnsupportedOperationException"), ("java/lang/IndexOutOfBoundsException", "java/lang/UnsupportedOperationException"), ("java/lang/IllegalStateException", "java/lang/UnsupportedOperationException"), ("java/util/NoSuchElementException", "java/lang/UnsupportedOperationException")]
def steD0 : String := "[Ljava/lang/StackTraceElement;"
def listD0 : String := "Ljava/util/List;"
def SPx (g : GT) (A : Nat → Prop) (U : State) (H : Heap) : Prop := (∀ e, (g_l g).admits e → e.platform.stackTraces = false) ∧ ZL "java/lang/Throwable" "UNASSIGNED_STACK" steD0 A U H ∧ ZL "java/lang/Throwable" "SUPPRESSED_SENTINEL" listD0 A U H ∧ (∀ w ∈ xW, w.before #[] U = true) ∧ ∀ q ∈ nCx, va_Nc q.1 q.2 U
theorem SPx.moved {g : GT} {A : Nat → Prop} {u U : State} {H : Heap} (hvm : u.vm.Alike U.vm) (h : SPx g A u H) : SPx g A U H := ⟨h.1, h.2.1.moved hvm, h.2.2.1.moved hvm, fun w hw => aWord.moved (xW_a w hw) hvm (h.2.2.2.1 w hw), fun q hq => (h.2.2.2.2 q hq).moved hvm⟩
theorem SPx.called {g : GT} {A B : Nat → Prop} {s U : State} {H : Heap} (h : SPx g A s s.heap) (hq : ∀ a : Nat, a < s.heap.size → ¬ A a → H[a]? = s.heap[a]?) (hvm : s.vm.Alike U.vm) (hAB : ∀ q, B q → A q) : SPx g B U H :=
  ⟨h.1, ((h.2.1.moved hvm).kept hq).narrow hAB, ((h.2.2.1.moved hvm).kept hq).narrow hAB, fun w hw => aWord.moved (xW_a w hw) hvm (h.2.2.2.1 w hw), fun q hq => (h.2.2.2.2 q hq).moved hvm⟩
/-- words of nest mates -/
def nWord : Cond → Bool
  | .methodLinkNest .. => true
  | .fieldLinkNest .. => true
  | _ => false
def nW : List Cond := tables_1.filter nWord
theorem nW_n : ∀ w ∈ nW, nWord w = true := fun w h => (List.mem_filter.mp h).2
theorem nw_ {w : Cond} (n : Nat) (h : tables_1[n]? = some w) (hg : nWord w = true) : w ∈ nW := List.mem_filter.mpr ⟨List.mem_of_getElem? h, hg⟩
theorem nWord.warm {w : Cond} (hw : nWord w = true) {s U : State} (hW : s.WarmedH U.vm) (h : va_Nw w s) : va_Nw w U := by
  cases w <;> first | (cases hw; done) | exact va_Nw.warmM hW h | exact va_Nw.warmF hW h
theorem nWord.same {w : Cond} (hw : nWord w = true) {u U : State} (hv : u.vm = U.vm) (h : va_Nw w u) : va_Nw w U := by
  cases w <;> first | (cases hw; done) | exact va_Nw.same rfl hv h
/-- the text of the signs: where it lies, what its bytes are -/
def sgn (j : Nat) : Int32 := ([43, 45, 42, 60, 61, 40, 41, 123, 125, 44, 59] : List Int32).getD j 0
def SPs (g : GT) (A : Nat → Prop) (U : State) (H : Heap) : Prop := vk_R "ProgramDesk$Tokens" 53 "+-*<=(){},;" (g_K g) U ∧ va_O "java/lang/String" (g_K g) A U H ∧ va_OF "java/lang/String" "coder" "B" (.int 0) (g_K g) A U H ∧ va_OF "java/lang/String" "value" "[B" (.ref (g_V g)) (g_K g) A U H ∧ va_T .byte (g_V g) 11 (fun j => .int (sgn j)) A U H ∧ va_Z "java/lang/String" "COMPACT_STRINGS" "Z" (.int 1) A U H
theorem SPs.called {g : GT} {A B : Nat → Prop} {s U : State} {H : Heap} (h : SPs g A s s.heap) (hq : ∀ a : Nat, a < s.heap.size → ¬ A a → H[a]? = s.heap[a]?) (hW : s.WarmedH U.vm) (hAB : ∀ q, B q → A q) : SPs g B U H :=
  ⟨vk_R.warm hW h.1, ((va_O.moved hW.alike h.2.1).kept hq).narrow hAB, ((va_OF.moved hW.alike h.2.2.1).kept hq).narrow hAB, ((va_OF.moved hW.alike h.2.2.2.1).kept hq).narrow hAB, ((va_T.moved hW.alike h.2.2.2.2.1).kept hq).narrow hAB, ((va_Z.moved hW.alike h.2.2.2.2.2).kept hq).narrow hAB⟩
theorem SPs.blind {g : GT} {A : Nat → Prop} {U : State} {H : Heap} {f : JFrame} {mk : MethodId} {a : Array Value} (h : SPs g A U H) : SPs g A (U.calling f mk a) H :=
  ⟨vk_R.same (u := U) (U := U.calling f mk a) rfl h.1, va_O.moved (u := U) (U := U.calling f mk a) (Vm.Alike.refl U.vm) h.2.1, va_OF.moved (u := U) (U := U.calling f mk a) (Vm.Alike.refl U.vm) h.2.2.1, va_OF.moved (u := U) (U := U.calling f mk a) (Vm.Alike.refl U.vm) h.2.2.2.1, va_T.moved (u := U) (U := U.calling f mk a) (Vm.Alike.refl U.vm) h.2.2.2.2.1, va_Z.moved (u := U) (U := U.calling f mk a) (Vm.Alike.refl U.vm) h.2.2.2.2.2⟩
/-- what is given of static cells and of nest mates; the cells are none of A -/
def SPk (g : GT) (A : Nat → Prop) (U : State) (H : Heap) : Prop := (va_Z "ProgramDesk" "WORDS" "[I" (.ref (g_W g)) A U H ∧ va_T .int (g_W g) 7 (fun j => .int (tabW j)) A U H ∧ ∀ w ∈ nW, va_Nw w U) ∧ SPx g A U H ∧ SPs g A U H
theorem SPk.called {g : GT} {A B : Nat → Prop} {s U : State} {H : Heap} {locs : List Loc} (h : SPk g A s s.heap) (hS : va_S A s.heap H locs) (hU : U.heap = H) (hW : s.WarmedH U.vm) (hAB : ∀ q, B q → A q) : SPk g B U U.heap := by
  have hq : ∀ a : Nat, a < s.heap.size → ¬ A a → H[a]? = s.heap[a]? := fun a h1 h2 => hS.2.1 a h1 h2
  rw [hU]
  obtain ⟨h, hx⟩ := h
  exact ⟨⟨((va_Z.moved hW.alike h.1).kept hq).narrow hAB, ((va_T.moved hW.alike h.2.1).kept hq).narrow hAB, fun w hw => nWord.warm (nW_n w hw) hW (h.2.2 w hw)⟩, hx.1.called hq hW.alike hAB, hx.2.called hq hW hAB⟩
theorem SPk.blind {g : GT} {A : Nat → Prop} {U : State} {H : Heap} {f : JFrame} {mk : MethodId} {a : Array Value} (h : SPk g A U H) : SPk g A (U.calling f mk a) H :=
  ⟨⟨va_Z.moved (u := U) (U := U.calling f mk a) (Vm.Alike.refl U.vm) h.1.1, va_T.moved (u := U) (U := U.calling f mk a) (Vm.Alike.refl U.vm) h.1.2.1, fun w hw => nWord.same (nW_n w hw) (u := U) (U := U.calling f mk a) rfl (h.1.2.2 w hw)⟩, SPx.moved (u := U) (U := U.calling f mk a) (Vm.Alike.refl U.vm) h.2.1, h.2.2.blind⟩
/-- contracts: from the world ws to the answer r (or none) and the world w1; no cell is made -/
def MPc (g : GT) (av : List Value) (ws : va_W) (sz : Nat) : Array Value → State → Prop := va_Pc av (fun U => U.heap.size = sz ∧ va_P (g_D g) classes ws U.heap ∧ va_K (g_D g) classes (g_tys g) U ∧ va_D (fun _ => True) ws ∧ SPk g (va_A ws sz) U U.heap)
def MB (g : GT) (A : Nat → Prop) (w : va_W) (t : State) : Prop := va_P (g_D g) classes w t.heap ∧ va_K (g_D g) classes (g_tys g) t ∧ va_D A w
def MI (g : GT) (y : MethodName) (cc : ByteArray) (nL : Nat) (rt : Option FieldType) (rm : Room) (av : List Value) (ws : va_W) (r : Int32) (w1 : va_W) : Prop :=
  ∀ sz : Nat, Met (g_l g) y (Cond.code y cc nL rt :: wsG) rm (MPc g av ws sz) (va_Qi (fun (x : Int32) (w : va_W) => x = r ∧ w = w1) (MB g (va_A ws sz)) (va_A ws sz)) rm.cells rm.slots (va_A ws sz)
def ML (g : GT) (y : MethodName) (cc : ByteArray) (nL : Nat) (rt : Option FieldType) (rm : Room) (av : List Value) (ws : va_W) (r : Int64) (w1 : va_W) : Prop :=
  ∀ sz : Nat, Met (g_l g) y (Cond.code y cc nL rt :: wsG) rm (MPc g av ws sz) (va_Ql (fun (x : Int64) (w : va_W) => x = r ∧ w = w1) (MB g (va_A ws sz)) (va_A ws sz)) rm.cells rm.slots (va_A ws sz)
def MV (g : GT) (y : MethodName) (cc : ByteArray) (nL : Nat) (rt : Option FieldType) (rm : Room) (av : List Value) (ws : va_W) (w1 : va_W) : Prop :=
  ∀ sz : Nat, Met (g_l g) y (Cond.code y cc nL rt :: wsG) rm (MPc g av ws sz) (va_Qv (fun (w : va_W) => w = w1) (MB g (va_A ws sz)) (va_A ws sz)) rm.cells rm.slots (va_A ws sz)
/-- the judgement inside a body: 𝒥 cells slots world locals stack pc -/
def JJ (p : Program) (g : GT) (e : Env) (R : Room) (s : State) (m : MethodId) (args : Array Value) (below : List Frame) (meth : Method) (c : Code) (nL : Nat) (A : Nat → Prop) (Q : State → Prop) (kc ks : Nat) (ws : va_W) (lc : List (Nat × Value)) (st : List Value) (pc : Nat) : Prop :=
  ∀ (H : Heap) (locs : List Loc) (ls : Array Slot), va_P (g_D g) classes ws H → va_D A ws → va_S A s.heap H locs → lv_has ls nL lc → W p (g_l g) e R s m args below meth c H locs kc ks Q (F0 m pc ls st)
/-- what a body knows all along -/
def JF (p : Program) (g : GT) (s : State) (m : MethodId) (args : Array Value) (meth : Method) (c : Code) (cc : ByteArray) (nL : Nat) (rt : Option FieldType) (own : String) (A : Nat → Prop) : Prop :=
  p.tables.exec = Jvm.exec ∧ c.code = cc ∧ c.maxLocals = nL ∧ meth.sig.returnType = rt ∧ meth.locks = false ∧ s.vm.findClass own = some m.cls ∧ (∀ w ∈ wsG, w.before args s = true) ∧ va_K (g_D g) classes (g_tys g) s ∧ (∀ q : Nat, s.heap.size ≤ q → A q) ∧ SPk g A s s.heap
abbrev JT : Type := Nat → Nat → va_W → List (Nat × Value) → List Value → Nat → Prop
def JK (g : GT) (R : Room) (cc : ByteArray) (nL : Nat) (rt : Option FieldType) (own : String) (post : Option Value → va_W → Prop) (𝒥 : JT) : Prop :=
  ∃ (p : Program) (e : Env) (s : State) (m : MethodId) (args : Array Value) (below : List Frame) (meth : Method) (c : Code) (A : Nat → Prop) (Q : State → Prop),
    JF p g s m args meth c cc nL rt own A ∧
    (∀ (v : Option Value) (w : va_W), post v w → ∃ (Qc : Array Value → State → Outcome → State → Prop) (free : Addr → Prop), (∀ t, MQ below Qc args s R.cells R.slots free t → Q t) ∧ (∀ q, A q → free q) ∧ ∀ t : State, va_P (g_D g) classes w t.heap → va_D A w → s.WarmedH t.vm → va_F A s t → Qc args s (.returned v) t) ∧
    𝒥 = JJ p g e R s m args below meth c nL A Q
/-- a body that is walked gives the contract -/
theorem MI.of {g : GT} {y : MethodName} {cc : ByteArray} {nL : Nat} {rt : Option FieldType} {rm : Room} {av : List Value} {ws w1 : va_W} {r : Int32} (hy : plainName y.cls = true) (hn : (lg_sl av).length ≤ nL)
    (h : ∀ 𝒥 : JT, JK g rm cc nL rt y.cls (fun v w => v = some (.int r) ∧ w = w1) 𝒥 → 𝒥 0 0 ws (lv_args 0 av) [] 0) : MI g y cc nL rt rm av ws r w1 := by
  intro sz
  refine Met.ofW (cc := cc) (maxL := nL) (ret := rt) hy rfl ?_
  intro p e s m args below meth c s₁ B hml hv
  obtain ⟨rfl, hsz, hP, hK, hD0, hSP⟩ := hv
  subst hsz
  have hts := atoms_spec (ws := Cond.code y cc nL rt :: wsG) B.pre
  have hD := hD0.self (sz := s.heap.size)
  have h1 := h _ ⟨p, e, s, m, av.toArray, below, meth, c, va_A ws s.heap.size, MQ below (va_Qi (fun (x : Int32) (w : va_W) => x = r ∧ w = w1) (MB g (va_A ws s.heap.size)) (va_A ws s.heap.size)) av.toArray s rm.cells rm.slots (va_A ws s.heap.size), ⟨B.exec, B.bytes, hml, B.returns, B.notSynchronized, findClass_of_methodNamed B.named, fun w hw => hts w (List.mem_cons_of_mem _ hw), hK, fun q hq => Or.inr hq, hSP⟩,
    fun v w hp => ⟨(va_Qi (fun (x : Int32) (w : va_W) => x = r ∧ w = w1) (MB g (va_A ws s.heap.size)) (va_A ws s.heap.size)), va_A ws s.heap.size, fun _ h => h, fun _ h => h, fun t hPw hDw hW hF => ⟨⟨r, w, by rw [hp.1], ⟨rfl, hp.2⟩, hPw, va_K.moved hW.alike hK, hDw⟩, hF⟩⟩, rfl⟩
  rw [lg_entry_eq]
  exact h1 s.heap [] _ hP hD va_S.rf (lv_entry av hn)
theorem ML.of {g : GT} {y : MethodName} {cc : ByteArray} {nL : Nat} {rt : Option FieldType} {rm : Room} {av : List Value} {ws w1 : va_W} {r : Int64} (hy : plainName y.cls = true) (hn : (lg_sl av).length ≤ nL)
    (h : ∀ 𝒥 : JT, JK g rm cc nL rt y.cls (fun v w => v = some (.long r) ∧ w = w1) 𝒥 → 𝒥 0 0 ws (lv_args 0 av) [] 0) : ML g y cc nL rt rm av ws r w1 := by
  intro sz
  refine Met.ofW (cc := cc) (maxL := nL) (ret := rt) hy rfl ?_
  intro p e s m args below meth c s₁ B hml hv
  obtain ⟨rfl, hsz, hP, hK, hD0, hSP⟩ := hv
  subst hsz
  have hts := atoms_spec (ws := Cond.code y cc nL rt :: wsG) B.pre
  have hD := hD0.self (sz := s.heap.size)
  have h1 := h _ ⟨p, e, s, m, av.toArray, below, meth, c, va_A ws s.heap.size, MQ below (va_Ql (fun (x : Int64) (w : va_W) => x = r ∧ w = w1) (MB g (va_A ws s.heap.size)) (va_A ws s.heap.size)) av.toArray s rm.cells rm.slots (va_A ws s.heap.size), ⟨B.exec, B.bytes, hml, B.returns, B.notSynchronized, findClass_of_methodNamed B.named, fun w hw => hts w (List.mem_cons_of_mem _ hw), hK, fun q hq => Or.inr hq, hSP⟩,
    fun v w hp => ⟨(va_Ql (fun (x : Int64) (w : va_W) => x = r ∧ w = w1) (MB g (va_A ws s.heap.size)) (va_A ws s.heap.size)), va_A ws s.heap.size, fun _ h => h, fun _ h => h, fun t hPw hDw hW hF => ⟨⟨r, w, by rw [hp.1], ⟨rfl, hp.2⟩, hPw, va_K.moved hW.alike hK, hDw⟩, hF⟩⟩, rfl⟩
  rw [lg_entry_eq]
  exact h1 s.heap [] _ hP hD va_S.rf (lv_entry av hn)
theorem MV.of {g : GT} {y : MethodName} {cc : ByteArray} {nL : Nat} {rt : Option FieldType} {rm : Room} {av : List Value} {ws w1 : va_W} (hy : plainName y.cls = true) (hn : (lg_sl av).length ≤ nL)
    (h : ∀ 𝒥 : JT, JK g rm cc nL rt y.cls (fun v w => v = none ∧ w = w1) 𝒥 → 𝒥 0 0 ws (lv_args 0 av) [] 0) : MV g y cc nL rt rm av ws w1 := by
  intro sz
  refine Met.ofW (cc := cc) (maxL := nL) (ret := rt) hy rfl ?_
  intro p e s m args below meth c s₁ B hml hv
  obtain ⟨rfl, hsz, hP, hK, hD0, hSP⟩ := hv
  subst hsz
  have hts := atoms_spec (ws := Cond.code y cc nL rt :: wsG) B.pre
  have hD := hD0.self (sz := s.heap.size)
  have h1 := h _ ⟨p, e, s, m, av.toArray, below, meth, c, va_A ws s.heap.size, MQ below (va_Qv (fun (w : va_W) => w = w1) (MB g (va_A ws s.heap.size)) (va_A ws s.heap.size)) av.toArray s rm.cells rm.slots (va_A ws s.heap.size), ⟨B.exec, B.bytes, hml, B.returns, B.notSynchronized, findClass_of_methodNamed B.named, fun w hw => hts w (List.mem_cons_of_mem _ hw), hK, fun q hq => Or.inr hq, hSP⟩,
    fun v w hp => ⟨(va_Qv (fun (w : va_W) => w = w1) (MB g (va_A ws s.heap.size)) (va_A ws s.heap.size)), va_A ws s.heap.size, fun _ h => h, fun _ h => h, fun t hPw hDw hW hF => ⟨⟨w, by rw [hp.1], hp.2, hPw, va_K.moved hW.alike hK, hDw⟩, hF⟩⟩, rfl⟩
  rw [lg_entry_eq]
  exact h1 s.heap [] _ hP hD va_S.rf (lv_entry av hn)
section Rows
variable {g : GT} {R : Room} {cc : ByteArray} {nL : Nat} {rt : Option FieldType} {own : String} {post : Option Value → va_W → Prop} {𝒥 : JT} {kc ks : Nat} {ws ws' : va_W} {lc lc' : List (Nat × Value)} {rest : List Value} {pc : Nat}
theorem j_iconst (C : JK g R cc nL rt own post 𝒥) {n : Int} {v : Int32} (hdg : decode cc pc = .ok (.iconst n, 1)) (hv : Int32.ofInt n = v) (kk : 𝒥 kc ks ws lc (.int v :: rest) (pc + 1)) : 𝒥 kc ks ws lc (rest) pc := by
  obtain ⟨p, e, s, m, args, below, meth, c, A, Q, F, -, rfl⟩ := C
  exact fun H locs ls hP hD hS hl => lv_iconst F.1 F.2.1 hdg hv (kk H locs ls hP hD hS hl)
theorem j_bipush (C : JK g R cc nL rt own post 𝒥) {n : Int} {v : Int32} (hdg : decode cc pc = .ok (.bipush n, 2)) (hv : (Int8.ofInt n).toInt32 = v) (kk : 𝒥 kc ks ws lc (.int v :: rest) (pc + 2)) : 𝒥 kc ks ws lc (rest) pc := by
  obtain ⟨p, e, s, m, args, below, meth, c, A, Q, F, -, rfl⟩ := C
  exact fun H locs ls hP hD hS hl => lv_bipush F.1 F.2.1 hdg hv (kk H locs ls hP hD hS hl)
theorem j_sipush (C : JK g R cc nL rt own post 𝒥) {n : Int} {v : Int32} (hdg : decode cc pc = .ok (.sipush n, 3)) (hv : (Int16.ofInt n).toInt32 = v) (kk : 𝒥 kc ks ws lc (.int v :: rest) (pc + 3)) : 𝒥 kc ks ws lc (rest) pc := by
  obtain ⟨p, e, s, m, args, below, meth, c, A, Q, F, -, rfl⟩ := C
  exact fun H locs ls hP hD hS hl => lv_sipush F.1 F.2.1 hdg hv (kk H locs ls hP hD hS hl)
theorem j_lconst (C : JK g R cc nL rt own post 𝒥) {n : Fin 2} {v : Int64} (hdg : decode cc pc = .ok (.lconst n, 1)) (hv : Int64.ofNat (n : Nat) = v) (kk : 𝒥 kc ks ws lc (.long v :: rest) (pc + 1)) : 𝒥 kc ks ws lc (rest) pc := by
  obtain ⟨p, e, s, m, args, below, meth, c, A, Q, F, -, rfl⟩ := C
  exact fun H locs ls hP hD hS hl => lv_lconst F.1 F.2.1 hdg hv (kk H locs ls hP hD hS hl)
theorem j_iload_n (C : JK g R cc nL rt own post 𝒥) {k : Fin 4} {i : Nat} {x : Int32} (hdg : decode cc pc = .ok (.iload_n k, 1)) (hi : (k : Nat) = i) (j : Nat) (hj : lc[j]? = some (i, .int x)) (kk : 𝒥 kc ks ws lc (.int x :: rest) (pc + 1)) : 𝒥 kc ks ws lc (rest) pc := by
  obtain ⟨p, e, s, m, args, below, meth, c, A, Q, F, -, rfl⟩ := C
  exact fun H locs ls hP hD hS hl => lv_iload_n F.1 F.2.1 hdg hi (lv_at hl j hj) (kk H locs ls hP hD hS hl)
theorem j_iload (C : JK g R cc nL rt own post 𝒥) {i : Nat} {x : Int32} (hdg : decode cc pc = .ok (.iload i, 2)) (j : Nat) (hj : lc[j]? = some (i, .int x)) (kk : 𝒥 kc ks ws lc (.int x :: rest) (pc + 2)) : 𝒥 kc ks ws lc (rest) pc := by
  obtain ⟨p, e, s, m, args, below, meth, c, A, Q, F, -, rfl⟩ := C
  exact fun H locs ls hP hD hS hl => lv_iload F.1 F.2.1 hdg (lv_at hl j hj) (kk H locs ls hP hD hS hl)
theorem j_istore_n (C : JK g R cc nL rt own post 𝒥) {k : Fin 4} {i : Nat} {x : Int32} (hdg : decode cc pc = .ok (.istore_n k, 1)) (hi : (k : Nat) = i) (kz : List Nat) (hn : i < nL) (hl2 : lv_pick ((i, Value.int x) :: lc.filter (fun q => !(q.1 == i) && !(q.1 + 1 == i && q.2.category == 2))) kz = lc') (kk : 𝒥 kc ks ws lc' rest (pc + 1)) : 𝒥 kc ks ws lc (.int x :: rest) pc := by
  obtain ⟨p, e, s, m, args, below, meth, c, A, Q, F, -, rfl⟩ := C
  exact fun H locs ls hP hD hS hl => lv_istore_n F.1 F.2.1 hdg hi hl hn rfl (fun ls' h' => kk H locs ls' hP hD hS (lv_sub h' kz hl2))
theorem j_istore (C : JK g R cc nL rt own post 𝒥) {i : Nat} {x : Int32} (hdg : decode cc pc = .ok (.istore i, 2)) (kz : List Nat) (hn : i < nL) (hl2 : lv_pick ((i, Value.int x) :: lc.filter (fun q => !(q.1 == i) && !(q.1 + 1 == i && q.2.category == 2))) kz = lc') (kk : 𝒥 kc ks ws lc' rest (pc + 2)) : 𝒥 kc ks ws lc (.int x :: rest) pc := by
  obtain ⟨p, e, s, m, args, below, meth, c, A, Q, F, -, rfl⟩ := C
  exact fun H locs ls hP hD hS hl => lv_istore F.1 F.2.1 hdg hl hn rfl (fun ls' h' => kk H locs ls' hP hD hS (lv_sub h' kz hl2))
theorem j_lload_n (C : JK g R cc nL rt own post 𝒥) {k : Fin 4} {i : Nat} {x : Int64} (hdg : decode cc pc = .ok (.lload_n k, 1)) (hi : (k : Nat) = i) (j : Nat) (hj : lc[j]? = some (i, .long x)) (kk : 𝒥 kc ks ws lc (.long x :: rest) (pc + 1)) : 𝒥 kc ks ws lc (rest) pc := by
  obtain ⟨p, e, s, m, args, below, meth, c, A, Q, F, -, rfl⟩ := C
  exact fun H locs ls hP hD hS hl => lv_lload_n F.1 F.2.1 hdg hi (lv_at hl j hj) (kk H locs ls hP hD hS hl)
theorem j_lload (C : JK g R cc nL rt own post 𝒥) {i : Nat} {x : Int64} (hdg : decode cc pc = .ok (.lload i, 2)) (j : Nat) (hj : lc[j]? = some (i, .long x)) (kk : 𝒥 kc ks ws lc (.long x :: rest) (pc + 2)) : 𝒥 kc ks ws lc (rest) pc := by
  obtain ⟨p, e, s, m, args, below, meth, c, A, Q, F, -, rfl⟩ := C
  exact fun H locs ls hP hD hS hl => lv_lload F.1 F.2.1 hdg (lv_at hl j hj) (kk H locs ls hP hD hS hl)
theorem j_lstore_n (C : JK g R cc nL rt own post 𝒥) {k : Fin 4} {i : Nat} {x : Int64} (hdg : decode cc pc = .ok (.lstore_n k, 1)) (hi : (k : Nat) = i) (kz : List Nat) (hn : i + 1 < nL) (hl2 : lv_pick ((i, Value.long x) :: lc.filter (fun q => !(q.1 == i) && (!(q.1 == i + 1) && !(q.1 + 1 == i && q.2.category == 2)))) kz = lc') (kk : 𝒥 kc ks ws lc' rest (pc + 1)) : 𝒥 kc ks ws lc (.long x :: rest) pc := by
  obtain ⟨p, e, s, m, args, below, meth, c, A, Q, F, -, rfl⟩ := C
  exact fun H locs ls hP hD hS hl => lv_lstore_n F.1 F.2.1 hdg hi hl hn rfl (fun ls' h' => kk H locs ls' hP hD hS (lv_sub h' kz hl2))
theorem j_lstore (C : JK g R cc nL rt own post 𝒥) {i : Nat} {x : Int64} (hdg : decode cc pc = .ok (.lstore i, 2)) (kz : List Nat) (hn : i + 1 < nL) (hl2 : lv_pick ((i, Value.long x) :: lc.filter (fun q => !(q.1 == i) && (!(q.1 == i + 1) && !(q.1 + 1 == i && q.2.category == 2)))) kz = lc') (kk : 𝒥 kc ks ws lc' rest (pc + 2)) : 𝒥 kc ks ws lc (.long x :: rest) pc := by
  obtain ⟨p, e, s, m, args, below, meth, c, A, Q, F, -, rfl⟩ := C
  exact fun H locs ls hP hD hS hl => lv_lstore F.1 F.2.1 hdg hl hn rfl (fun ls' h' => kk H locs ls' hP hD hS (lv_sub h' kz hl2))
theorem j_aload_n (C : JK g R cc nL rt own post 𝒥) {k : Fin 4} {i : Nat} {x : Nat} (hdg : decode cc pc = .ok (.aload_n k, 1)) (hi : (k : Nat) = i) (j : Nat) (hj : lc[j]? = some (i, .ref x)) (kk : 𝒥 kc ks ws lc (.ref x :: rest) (pc + 1)) : 𝒥 kc ks ws lc (rest) pc := by
  obtain ⟨p, e, s, m, args, below, meth, c, A, Q, F, -, rfl⟩ := C
  exact fun H locs ls hP hD hS hl => lv_aload_n F.1 F.2.1 hdg hi (lv_at hl j hj) (kk H locs ls hP hD hS hl)
theorem j_aload (C : JK g R cc nL rt own post 𝒥) {i : Nat} {x : Nat} (hdg : decode cc pc = .ok (.aload i, 2)) (j : Nat) (hj : lc[j]? = some (i, .ref x)) (kk : 𝒥 kc ks ws lc (.ref x :: rest) (pc + 2)) : 𝒥 kc ks ws lc (rest) pc := by
  obtain ⟨p, e, s, m, args, below, meth, c, A, Q, F, -, rfl⟩ := C
  exact fun H locs ls hP hD hS hl => lv_aload F.1 F.2.1 hdg (lv_at hl j hj) (kk H locs ls hP hD hS hl)
theorem j_astore_n (C : JK g R cc nL rt own post 𝒥) {k : Fin 4} {i : Nat} {x : Nat} (hdg : decode cc pc = .ok (.astore_n k, 1)) (hi : (k : Nat) = i) (kz : List Nat) (hn : i < nL) (hl2 : lv_pick ((i, Value.ref x) :: lc.filter (fun q => !(q.1 == i) && !(q.1 + 1 == i && q.2.category == 2))) kz = lc') (kk : 𝒥 kc ks ws lc' rest (pc + 1)) : 𝒥 kc ks ws lc (.ref x :: rest) pc := by
  obtain ⟨p, e, s, m, args, below, meth, c, A, Q, F, -, rfl⟩ := C
  exact fun H locs ls hP hD hS hl => lv_astore_n F.1 F.2.1 hdg hi hl hn rfl (fun ls' h' => kk H locs ls' hP hD hS (lv_sub h' kz hl2))
theorem j_astore (C : JK g R cc nL rt own post 𝒥) {i : Nat} {x : Nat} (hdg : decode cc pc = .ok (.astore i, 2)) (kz : List Nat) (hn : i < nL) (hl2 : lv_pick ((i, Value.ref x) :: lc.filter (fun q => !(q.1 == i) && !(q.1 + 1 == i && q.2.category == 2))) kz = lc') (kk : 𝒥 kc ks ws lc' rest (pc + 2)) : 𝒥 kc ks ws lc (.ref x :: rest) pc := by
  obtain ⟨p, e, s, m, args, below, meth, c, A, Q, F, -, rfl⟩ := C
  exact fun H locs ls hP hD hS hl => lv_astore F.1 F.2.1 hdg hl hn rfl (fun ls' h' => kk H locs ls' hP hD hS (lv_sub h' kz hl2))
theorem j_iinc (C : JK g R cc nL rt own post 𝒥) {i : Nat} {n : Int} {x v : Int32} (hdg : decode cc pc = .ok (.iinc i n, 3)) (j : Nat) (hj : lc[j]? = some (i, .int x)) (hv : x + Int32.ofInt n = v) (kz : List Nat) (hn : i < nL) (hl2 : lv_pick ((i, Value.int v) :: lc.filter (fun q => !(q.1 == i) && !(q.1 + 1 == i && q.2.category == 2))) kz = lc') (kk : 𝒥 kc ks ws lc' rest (pc + 3)) : 𝒥 kc ks ws lc rest pc := by
  obtain ⟨p, e, s, m, args, below, meth, c, A, Q, F, -, rfl⟩ := C
  exact fun H locs ls hP hD hS hl => lv_iinc F.1 F.2.1 hdg hl hj hv hn rfl (fun ls' h' => kk H locs ls' hP hD hS (lv_sub h' kz hl2))
theorem j_iadd (C : JK g R cc nL rt own post 𝒥) {x y : Int32} (hdg : decode cc pc = .ok (.iadd, 1)) (kk : 𝒥 kc ks ws lc (.int (x + y) :: rest) (pc + 1)) : 𝒥 kc ks ws lc (.int y :: .int x :: rest) pc := by
  obtain ⟨p, e, s, m, args, below, meth, c, A, Q, F, -, rfl⟩ := C
  exact fun H locs ls hP hD hS hl => lv_iadd F.1 F.2.1 hdg (kk H locs ls hP hD hS hl)
theorem j_isub (C : JK g R cc nL rt own post 𝒥) {x y : Int32} (hdg : decode cc pc = .ok (.isub, 1)) (kk : 𝒥 kc ks ws lc (.int (x - y) :: rest) (pc + 1)) : 𝒥 kc ks ws lc (.int y :: .int x :: rest) pc := by
  obtain ⟨p, e, s, m, args, below, meth, c, A, Q, F, -, rfl⟩ := C
  exact fun H locs ls hP hD hS hl => lv_isub F.1 F.2.1 hdg (kk H locs ls hP hD hS hl)
theorem j_imul (C : JK g R cc nL rt own post 𝒥) {x y : Int32} (hdg : decode cc pc = .ok (.imul, 1)) (kk : 𝒥 kc ks ws lc (.int (x * y) :: rest) (pc + 1)) : 𝒥 kc ks ws lc (.int y :: .int x :: rest) pc := by
  obtain ⟨p, e, s, m, args, below, meth, c, A, Q, F, -, rfl⟩ := C
  exact fun H locs ls hP hD hS hl => lv_imul F.1 F.2.1 hdg (kk H locs ls hP hD hS hl)
theorem j_iand (C : JK g R cc nL rt own post 𝒥) {x y : Int32} (hdg : decode cc pc = .ok (.iand, 1)) (kk : 𝒥 kc ks ws lc (.int (x &&& y) :: rest) (pc + 1)) : 𝒥 kc ks ws lc (.int y :: .int x :: rest) pc := by
  obtain ⟨p, e, s, m, args, below, meth, c, A, Q, F, -, rfl⟩ := C
  exact fun H locs ls hP hD hS hl => lv_iand F.1 F.2.1 hdg (kk H locs ls hP hD hS hl)
theorem j_ior (C : JK g R cc nL rt own post 𝒥) {x y : Int32} (hdg : decode cc pc = .ok (.ior, 1)) (kk : 𝒥 kc ks ws lc (.int (x ||| y) :: rest) (pc + 1)) : 𝒥 kc ks ws lc (.int y :: .int x :: rest) pc := by
  obtain ⟨p, e, s, m, args, below, meth, c, A, Q, F, -, rfl⟩ := C
  exact fun H locs ls hP hD hS hl => lv_ior F.1 F.2.1 hdg (kk H locs ls hP hD hS hl)
theorem j_ishl (C : JK g R cc nL rt own post 𝒥) {x y : Int32} (hdg : decode cc pc = .ok (.ishl, 1)) (kk : 𝒥 kc ks ws lc (.int (x <<< (y &&& 31)) :: rest) (pc + 1)) : 𝒥 kc ks ws lc (.int y :: .int x :: rest) pc := by
  obtain ⟨p, e, s, m, args, below, meth, c, A, Q, F, -, rfl⟩ := C
  exact fun H locs ls hP hD hS hl => lv_ishl F.1 F.2.1 hdg (kk H locs ls hP hD hS hl)
theorem j_ishr (C : JK g R cc nL rt own post 𝒥) {x y : Int32} (hdg : decode cc pc = .ok (.ishr, 1)) (kk : 𝒥 kc ks ws lc (.int (x >>> (y &&& 31)) :: rest) (pc + 1)) : 𝒥 kc ks ws lc (.int y :: .int x :: rest) pc := by
  obtain ⟨p, e, s, m, args, below, meth, c, A, Q, F, -, rfl⟩ := C
  exact fun H locs ls hP hD hS hl => lv_ishr F.1 F.2.1 hdg (kk H locs ls hP hD hS hl)
theorem j_ladd (C : JK g R cc nL rt own post 𝒥) {x y : Int64} (hdg : decode cc pc = .ok (.ladd, 1)) (kk : 𝒥 kc ks ws lc (.long (x + y) :: rest) (pc + 1)) : 𝒥 kc ks ws lc (.long y :: .long x :: rest) pc := by
  obtain ⟨p, e, s, m, args, below, meth, c, A, Q, F, -, rfl⟩ := C
  exact fun H locs ls hP hD hS hl => lv_ladd F.1 F.2.1 hdg (kk H locs ls hP hD hS hl)
theorem j_lsub (C : JK g R cc nL rt own post 𝒥) {x y : Int64} (hdg : decode cc pc = .ok (.lsub, 1)) (kk : 𝒥 kc ks ws lc (.long (x - y) :: rest) (pc + 1)) : 𝒥 kc ks ws lc (.long y :: .long x :: rest) pc := by
  obtain ⟨p, e, s, m, args, below, meth, c, A, Q, F, -, rfl⟩ := C
  exact fun H locs ls hP hD hS hl => lv_lsub F.1 F.2.1 hdg (kk H locs ls hP hD hS hl)
theorem j_lmul (C : JK g R cc nL rt own post 𝒥) {x y : Int64} (hdg : decode cc pc = .ok (.lmul, 1)) (kk : 𝒥 kc ks ws lc (.long (x * y) :: rest) (pc + 1)) : 𝒥 kc ks ws lc (.long y :: .long x :: rest) pc := by
  obtain ⟨p, e, s, m, args, below, meth, c, A, Q, F, -, rfl⟩ := C
  exact fun H locs ls hP hD hS hl => lv_lmul F.1 F.2.1 hdg (kk H locs ls hP hD hS hl)
theorem j_land (C : JK g R cc nL rt own post 𝒥) {x y : Int64} (hdg : decode cc pc = .ok (.land, 1)) (kk : 𝒥 kc ks ws lc (.long (x &&& y) :: rest) (pc + 1)) : 𝒥 kc ks ws lc (.long y :: .long x :: rest) pc := by
  obtain ⟨p, e, s, m, args, below, meth, c, A, Q, F, -, rfl⟩ := C
  exact fun H locs ls hP hD hS hl => lv_land F.1 F.2.1 hdg (kk H locs ls hP hD hS hl)
theorem j_lor (C : JK g R cc nL rt own post 𝒥) {x y : Int64} (hdg : decode cc pc = .ok (.lor, 1)) (kk : 𝒥 kc ks ws lc (.long (x ||| y) :: rest) (pc + 1)) : 𝒥 kc ks ws lc (.long y :: .long x :: rest) pc := by
  obtain ⟨p, e, s, m, args, below, meth, c, A, Q, F, -, rfl⟩ := C
  exact fun H locs ls hP hD hS hl => lv_lor F.1 F.2.1 hdg (kk H locs ls hP hD hS hl)
theorem j_lshl (C : JK g R cc nL rt own post 𝒥) {x : Int64} {y : Int32} (hdg : decode cc pc = .ok (.lshl, 1)) (kk : 𝒥 kc ks ws lc (.long (x <<< (y.toInt64 &&& 63)) :: rest) (pc + 1)) : 𝒥 kc ks ws lc (.int y :: .long x :: rest) pc := by
  obtain ⟨p, e, s, m, args, below, meth, c, A, Q, F, -, rfl⟩ := C
  exact fun H locs ls hP hD hS hl => lv_lshl F.1 F.2.1 hdg rfl (kk H locs ls hP hD hS hl)
theorem j_lshr (C : JK g R cc nL rt own post 𝒥) {x : Int64} {y : Int32} (hdg : decode cc pc = .ok (.lshr, 1)) (kk : 𝒥 kc ks ws lc (.long (x >>> (y.toInt64 &&& 63)) :: rest) (pc + 1)) : 𝒥 kc ks ws lc (.int y :: .long x :: rest) pc := by
  obtain ⟨p, e, s, m, args, below, meth, c, A, Q, F, -, rfl⟩ := C
  exact fun H locs ls hP hD hS hl => lv_lshr F.1 F.2.1 hdg rfl (kk H locs ls hP hD hS hl)
theorem j_lcmp (C : JK g R cc nL rt own post 𝒥) {x y : Int64} (hdg : decode cc pc = .ok (.lcmp, 1)) (kk : 𝒥 kc ks ws lc (.int (lg_cmp x y) :: rest) (pc + 1)) : 𝒥 kc ks ws lc (.long y :: .long x :: rest) pc := by
  obtain ⟨p, e, s, m, args, below, meth, c, A, Q, F, -, rfl⟩ := C
  exact fun H locs ls hP hD hS hl => W.lcmp F.1 F.2.1 hdg (kk H locs ls hP hD hS hl)
theorem j_i2l (C : JK g R cc nL rt own post 𝒥) {x : Int32} {v : Int64} (hdg : decode cc pc = .ok (.i2l, 1)) (hv : x.toInt64 = v) (kk : 𝒥 kc ks ws lc (.long v :: rest) (pc + 1)) : 𝒥 kc ks ws lc (.int x :: rest) pc := by
  obtain ⟨p, e, s, m, args, below, meth, c, A, Q, F, -, rfl⟩ := C
  exact fun H locs ls hP hD hS hl => lv_i2l F.1 F.2.1 hdg hv (kk H locs ls hP hD hS hl)
theorem j_l2i (C : JK g R cc nL rt own post 𝒥) {x : Int64} {v : Int32} (hdg : decode cc pc = .ok (.l2i, 1)) (hv : x.toInt32 = v) (kk : 𝒥 kc ks ws lc (.int v :: rest) (pc + 1)) : 𝒥 kc ks ws lc (.long x :: rest) pc := by
  obtain ⟨p, e, s, m, args, below, meth, c, A, Q, F, -, rfl⟩ := C
  exact fun H locs ls hP hD hS hl => lv_l2i F.1 F.2.1 hdg hv (kk H locs ls hP hD hS hl)
theorem j_i2c (C : JK g R cc nL rt own post 𝒥) {x v : Int32} (hdg : decode cc pc = .ok (.i2c, 1)) (hv : (x.toUInt32 % 65536).toInt32 = v) (kk : 𝒥 kc ks ws lc (.int v :: rest) (pc + 1)) : 𝒥 kc ks ws lc (.int x :: rest) pc := by
  obtain ⟨p, e, s, m, args, below, meth, c, A, Q, F, -, rfl⟩ := C
  exact fun H locs ls hP hD hS hl => lv_i2c F.1 F.2.1 hdg hv (kk H locs ls hP hD hS hl)
theorem j_dup (C : JK g R cc nL rt own post 𝒥) {va : Value} (hdg : decode cc pc = .ok (.dup, 1)) (h1 : va.category = 1) (kk : 𝒥 kc ks ws lc (va :: va :: rest) (pc + 1)) : 𝒥 kc ks ws lc (va :: rest) pc := by
  obtain ⟨p, e, s, m, args, below, meth, c, A, Q, F, -, rfl⟩ := C
  exact fun H locs ls hP hD hS hl => lv_dup F.1 F.2.1 hdg h1 (kk H locs ls hP hD hS hl)
theorem j_dup2 (C : JK g R cc nL rt own post 𝒥) {va vb : Value} (hdg : decode cc pc = .ok (.dup2, 1)) (h1 : va.category = 1) (h2 : vb.category = 1) (kk : 𝒥 kc ks ws lc (va :: vb :: va :: vb :: rest) (pc + 1)) : 𝒥 kc ks ws lc (va :: vb :: rest) pc := by
  obtain ⟨p, e, s, m, args, below, meth, c, A, Q, F, -, rfl⟩ := C
  exact fun H locs ls hP hD hS hl => lv_dup2_11 F.1 F.2.1 hdg h1 h2 (kk H locs ls hP hD hS hl)
theorem j_pop (C : JK g R cc nL rt own post 𝒥) {va : Value} (hdg : decode cc pc = .ok (.pop, 1)) (h1 : va.category = 1) (kk : 𝒥 kc ks ws lc (rest) (pc + 1)) : 𝒥 kc ks ws lc (va :: rest) pc := by
  obtain ⟨p, e, s, m, args, below, meth, c, A, Q, F, -, rfl⟩ := C
  exact fun H locs ls hP hD hS hl => lv_pop F.1 F.2.1 hdg h1 (kk H locs ls hP hD hS hl)
theorem j_topi (C : JK g R cc nL rt own post 𝒥) {x : Int32} (kk : ∀ y : Int32, y = x → 𝒥 kc ks ws lc (.int y :: rest) pc) : 𝒥 kc ks ws lc (.int x :: rest) pc := kk x rfl
theorem j_topl (C : JK g R cc nL rt own post 𝒥) {x : Int64} (kk : ∀ y : Int64, y = x → 𝒥 kc ks ws lc (.long y :: rest) pc) : 𝒥 kc ks ws lc (.long x :: rest) pc := kk x rfl
theorem j_icmp_eq (C : JK g R cc nL rt own post 𝒥) {x y : Int32} {off : Int} {tgt : Nat} (hdg : decode cc pc = .ok (.if_icmp .eq off, 3)) (ht : (pc : Int) + off = (tgt : Int)) (kt : x = y → 𝒥 kc ks ws lc rest tgt) (kf : ¬ x = y → 𝒥 kc ks ws lc rest (pc + 3)) : 𝒥 kc ks ws lc (.int y :: .int x :: rest) pc := by
  obtain ⟨p, e, s, m, args, below, meth, c, A, Q, F, -, rfl⟩ := C
  exact fun H locs ls hP hD hS hl => lv_icmp_eq F.1 F.2.1 hdg ht (fun h => kt h H locs ls hP hD hS hl) (fun h => kf h H locs ls hP hD hS hl)
theorem j_if_eq (C : JK g R cc nL rt own post 𝒥) {x : Int32} {off : Int} {tgt : Nat} (hdg : decode cc pc = .ok (.ifCond .eq off, 3)) (ht : (pc : Int) + off = (tgt : Int)) (kt : x = 0 → 𝒥 kc ks ws lc rest tgt) (kf : ¬ x = 0 → 𝒥 kc ks ws lc rest (pc + 3)) : 𝒥 kc ks ws lc (.int x :: rest) pc := by
  obtain ⟨p, e, s, m, args, below, meth, c, A, Q, F, -, rfl⟩ := C
  exact fun H locs ls hP hD hS hl => lv_if_eq F.1 F.2.1 hdg ht (fun h => kt h H locs ls hP hD hS hl) (fun h => kf h H locs ls hP hD hS hl)
theorem j_icmp_ne (C : JK g R cc nL rt own post 𝒥) {x y : Int32} {off : Int} {tgt : Nat} (hdg : decode cc pc = .ok (.if_icmp .ne off, 3)) (ht : (pc : Int) + off = (tgt : Int)) (kt : ¬ x = y → 𝒥 kc ks ws lc rest tgt) (kf : x = y → 𝒥 kc ks ws lc rest (pc + 3)) : 𝒥 kc ks ws lc (.int y :: .int x :: rest) pc := by
  obtain ⟨p, e, s, m, args, below, meth, c, A, Q, F, -, rfl⟩ := C
  exact fun H locs ls hP hD hS hl => lv_icmp_ne F.1 F.2.1 hdg ht (fun h => kt h H locs ls hP hD hS hl) (fun h => kf h H locs ls hP hD hS hl)
theorem j_if_ne (C : JK g R cc nL rt own post 𝒥) {x : Int32} {off : Int} {tgt : Nat} (hdg : decode cc pc = .ok (.ifCond .ne off, 3)) (ht : (pc : Int) + off = (tgt : Int)) (kt : ¬ x = 0 → 𝒥 kc ks ws lc rest tgt) (kf : x = 0 → 𝒥 kc ks ws lc rest (pc + 3)) : 𝒥 kc ks ws lc (.int x :: rest) pc := by
  obtain ⟨p, e, s, m, args, below, meth, c, A, Q, F, -, rfl⟩ := C
  exact fun H locs ls hP hD hS hl => lv_if_ne F.1 F.2.1 hdg ht (fun h => kt h H locs ls hP hD hS hl) (fun h => kf h H locs ls hP hD hS hl)
theorem j_icmp_lt (C : JK g R cc nL rt own post 𝒥) {x y : Int32} {off : Int} {tgt : Nat} (hdg : decode cc pc = .ok (.if_icmp .lt off, 3)) (ht : (pc : Int) + off = (tgt : Int)) (kt : x < y → 𝒥 kc ks ws lc rest tgt) (kf : ¬ x < y → 𝒥 kc ks ws lc rest (pc + 3)) : 𝒥 kc ks ws lc (.int y :: .int x :: rest) pc := by
  obtain ⟨p, e, s, m, args, below, meth, c, A, Q, F, -, rfl⟩ := C
  exact fun H locs ls hP hD hS hl => lv_icmp_lt F.1 F.2.1 hdg ht (fun h => kt h H locs ls hP hD hS hl) (fun h => kf h H locs ls hP hD hS hl)
theorem j_if_lt (C : JK g R cc nL rt own post 𝒥) {x : Int32} {off : Int} {tgt : Nat} (hdg : decode cc pc = .ok (.ifCond .lt off, 3)) (ht : (pc : Int) + off = (tgt : Int)) (kt : x < 0 → 𝒥 kc ks ws lc rest tgt) (kf : ¬ x < 0 → 𝒥 kc ks ws lc rest (pc + 3)) : 𝒥 kc ks ws lc (.int x :: rest) pc := by
  obtain ⟨p, e, s, m, args, below, meth, c, A, Q, F, -, rfl⟩ := C
  exact fun H locs ls hP hD hS hl => lv_if_lt F.1 F.2.1 hdg ht (fun h => kt h H locs ls hP hD hS hl) (fun h => kf h H locs ls hP hD hS hl)
theorem j_icmp_ge (C : JK g R cc nL rt own post 𝒥) {x y : Int32} {off : Int} {tgt : Nat} (hdg : decode cc pc = .ok (.if_icmp .ge off, 3)) (ht : (pc : Int) + off = (tgt : Int)) (kt : y ≤ x → 𝒥 kc ks ws lc rest tgt) (kf : ¬ y ≤ x → 𝒥 kc ks ws lc rest (pc + 3)) : 𝒥 kc ks ws lc (.int y :: .int x :: rest) pc := by
  obtain ⟨p, e, s, m, args, below, meth, c, A, Q, F, -, rfl⟩ := C
  exact fun H locs ls hP hD hS hl => lv_icmp_ge F.1 F.2.1 hdg ht (fun h => kt h H locs ls hP hD hS hl) (fun h => kf h H locs ls hP hD hS hl)
theorem j_if_ge (C : JK g R cc nL rt own post 𝒥) {x : Int32} {off : Int} {tgt : Nat} (hdg : decode cc pc = .ok (.ifCond .ge off, 3)) (ht : (pc : Int) + off = (tgt : Int)) (kt : 0 ≤ x → 𝒥 kc ks ws lc rest tgt) (kf : ¬ 0 ≤ x → 𝒥 kc ks ws lc rest (pc + 3)) : 𝒥 kc ks ws lc (.int x :: rest) pc := by
  obtain ⟨p, e, s, m, args, below, meth, c, A, Q, F, -, rfl⟩ := C
  exact fun H locs ls hP hD hS hl => lv_if_ge F.1 F.2.1 hdg ht (fun h => kt h H locs ls hP hD hS hl) (fun h => kf h H locs ls hP hD hS hl)
theorem j_icmp_gt (C : JK g R cc nL rt own post 𝒥) {x y : Int32} {off : Int} {tgt : Nat} (hdg : decode cc pc = .ok (.if_icmp .gt off, 3)) (ht : (pc : Int) + off = (tgt : Int)) (kt : y < x → 𝒥 kc ks ws lc rest tgt) (kf : ¬ y < x → 𝒥 kc ks ws lc rest (pc + 3)) : 𝒥 kc ks ws lc (.int y :: .int x :: rest) pc := by
  obtain ⟨p, e, s, m, args, below, meth, c, A, Q, F, -, rfl⟩ := C
  exact fun H locs ls hP hD hS hl => lv_icmp_gt F.1 F.2.1 hdg ht (fun h => kt h H locs ls hP hD hS hl) (fun h => kf h H locs ls hP hD hS hl)
theorem j_if_gt (C : JK g R cc nL rt own post 𝒥) {x : Int32} {off : Int} {tgt : Nat} (hdg : decode cc pc = .ok (.ifCond .gt off, 3)) (ht : (pc : Int) + off = (tgt : Int)) (kt : 0 < x → 𝒥 kc ks ws lc rest tgt) (kf : ¬ 0 < x → 𝒥 kc ks ws lc rest (pc + 3)) : 𝒥 kc ks ws lc (.int x :: rest) pc := by
  obtain ⟨p, e, s, m, args, below, meth, c, A, Q, F, -, rfl⟩ := C
  exact fun H locs ls hP hD hS hl => lv_if_gt F.1 F.2.1 hdg ht (fun h => kt h H locs ls hP hD hS hl) (fun h => kf h H locs ls hP hD hS hl)
theorem j_icmp_le (C : JK g R cc nL rt own post 𝒥) {x y : Int32} {off : Int} {tgt : Nat} (hdg : decode cc pc = .ok (.if_icmp .le off, 3)) (ht : (pc : Int) + off = (tgt : Int)) (kt : x ≤ y → 𝒥 kc ks ws lc rest tgt) (kf : ¬ x ≤ y → 𝒥 kc ks ws lc rest (pc + 3)) : 𝒥 kc ks ws lc (.int y :: .int x :: rest) pc := by
  obtain ⟨p, e, s, m, args, below, meth, c, A, Q, F, -, rfl⟩ := C
  exact fun H locs ls hP hD hS hl => lv_icmp_le F.1 F.2.1 hdg ht (fun h => kt h H locs ls hP hD hS hl) (fun h => kf h H locs ls hP hD hS hl)
theorem j_if_le (C : JK g R cc nL rt own post 𝒥) {x : Int32} {off : Int} {tgt : Nat} (hdg : decode cc pc = .ok (.ifCond .le off, 3)) (ht : (pc : Int) + off = (tgt : Int)) (kt : x ≤ 0 → 𝒥 kc ks ws lc rest tgt) (kf : ¬ x ≤ 0 → 𝒥 kc ks ws lc rest (pc + 3)) : 𝒥 kc ks ws lc (.int x :: rest) pc := by
  obtain ⟨p, e, s, m, args, below, meth, c, A, Q, F, -, rfl⟩ := C
  exact fun H locs ls hP hD hS hl => lv_if_le F.1 F.2.1 hdg ht (fun h => kt h H locs ls hP hD hS hl) (fun h => kf h H locs ls hP hD hS hl)
theorem j_goto (C : JK g R cc nL rt own post 𝒥) {off : Int} {tgt : Nat} (hdg : decode cc pc = .ok (.goto off, 3)) (ht : (pc : Int) + off = (tgt : Int)) (kk : 𝒥 kc ks ws lc rest tgt) : 𝒥 kc ks ws lc rest pc := by
  obtain ⟨p, e, s, m, args, below, meth, c, A, Q, F, -, rfl⟩ := C
  exact fun H locs ls hP hD hS hl => lv_goto F.1 F.2.1 hdg ht (kk H locs ls hP hD hS hl)
theorem j_lc (C : JK g R cc nL rt own post 𝒥) (kz : List Nat) {st : List Value} (h : lv_pick lc kz = lc') (kk : 𝒥 kc ks ws lc' st pc) : 𝒥 kc ks ws lc st pc := by
  obtain ⟨p, e, s, m, args, below, meth, c, A, Q, F, -, rfl⟩ := C
  exact fun H locs ls hP hD hS hl => kk H locs ls hP hD hS (lv_sub hl kz h)
theorem j_ldc (C : JK g R cc nL rt own post 𝒥) {index : Nat} {v : Int32} (hdg : decode cc pc = .ok (.ldc index, 2)) (hw : Cond.constant own index v ∈ wsG) (kk : 𝒥 kc ks ws lc (.int v :: rest) (pc + 2)) : 𝒥 kc ks ws lc rest pc := by
  obtain ⟨p, e, s, m, args, below, meth, c, A, Q, F, -, rfl⟩ := C
  exact fun H locs ls hP hD hS hl => lv_ldc F.1 F.2.1 F.2.2.2.2.2.1 (F.2.2.2.2.2.2.1 _ hw) hdg (kk H locs ls hP hD hS hl)
theorem j_ldc2 (C : JK g R cc nL rt own post 𝒥) {index : Nat} {v : Int64} (hdg : decode cc pc = .ok (.ldc2_w index, 3)) (hw : Cond.constantLong own index v ∈ wsG) (kk : 𝒥 kc ks ws lc (.long v :: rest) (pc + 3)) : 𝒥 kc ks ws lc rest pc := by
  obtain ⟨p, e, s, m, args, below, meth, c, A, Q, F, -, rfl⟩ := C
  exact fun H locs ls hP hD hS hl => lv_ldc2 F.1 F.2.1 F.2.2.2.2.2.1 (F.2.2.2.2.2.2.1 _ hw) hdg (kk H locs ls hP hD hS hl)
theorem j_iald (C : JK g R cc nL rt own post 𝒥) {i : Int32} {a n : Nat} {f : Nat → Int32} (hdg : decode cc pc = .ok (.iaload, 1)) (q0 : Nat) (hin : vp_in i n) {x : Int32} (ha : ws[q0]? = some (a, .inl (g_I g, n, .inl f))) (hx : f i.toNatClampNeg = x) (kk : 𝒥 kc ks ws lc (.int x :: rest) (pc + 1)) : 𝒥 kc ks ws lc (.int i :: .ref a :: rest) pc := by
  subst hx
  obtain ⟨p, e, s, m, args, below, meth, c, A, Q, F, -, rfl⟩ := C
  exact fun H locs ls hP hD hS hl => va_iald F.1 F.2.1 F.2.2.2.2.2.2.2.1 hP q0 0 ha rfl hin hdg (kk H locs ls hP hD hS hl)
theorem j_cald (C : JK g R cc nL rt own post 𝒥) {i : Int32} {a n : Nat} {f : Nat → Int32} (hdg : decode cc pc = .ok (.caload, 1)) (q0 : Nat) (hin : vp_in i n) {x : Int32} (ha : ws[q0]? = some (a, .inl (g_C g, n, .inl f))) (hx : f i.toNatClampNeg = x) (kk : 𝒥 kc ks ws lc (.int x :: rest) (pc + 1)) : 𝒥 kc ks ws lc (.int i :: .ref a :: rest) pc := by
  subst hx
  obtain ⟨p, e, s, m, args, below, meth, c, A, Q, F, -, rfl⟩ := C
  exact fun H locs ls hP hD hS hl => va_cald F.1 F.2.1 F.2.2.2.2.2.2.2.1 hP q0 1 ha rfl hin hdg (kk H locs ls hP hD hS hl)
theorem j_zald (C : JK g R cc nL rt own post 𝒥) {i : Int32} {a n : Nat} {f : Nat → Int32} (hdg : decode cc pc = .ok (.baload, 1)) (q0 : Nat) (hin : vp_in i n) {x : Int32} (ha : ws[q0]? = some (a, .inl (g_Z g, n, .inl f))) (hx : f i.toNatClampNeg = x) (kk : 𝒥 kc ks ws lc (.int x :: rest) (pc + 1)) : 𝒥 kc ks ws lc (.int i :: .ref a :: rest) pc := by
  subst hx
  obtain ⟨p, e, s, m, args, below, meth, c, A, Q, F, -, rfl⟩ := C
  exact fun H locs ls hP hD hS hl => va_zald F.1 F.2.1 F.2.2.2.2.2.2.2.1 hP q0 3 ha rfl hin hdg (kk H locs ls hP hD hS hl)
theorem j_lald (C : JK g R cc nL rt own post 𝒥) {i : Int32} {a n : Nat} {f : Nat → Int64} (hdg : decode cc pc = .ok (.laload, 1)) (q0 : Nat) (hin : vp_in i n) {x : Int64} (ha : ws[q0]? = some (a, .inl (g_J g, n, .inr (.inl f)))) (hx : f i.toNatClampNeg = x) (kk : 𝒥 kc ks ws lc (.long x :: rest) (pc + 1)) : 𝒥 kc ks ws lc (.int i :: .ref a :: rest) pc := by
  subst hx
  obtain ⟨p, e, s, m, args, below, meth, c, A, Q, F, -, rfl⟩ := C
  exact fun H locs ls hP hD hS hl => va_lald F.1 F.2.1 F.2.2.2.2.2.2.2.1 hP q0 2 ha rfl hin hdg (kk H locs ls hP hD hS hl)
theorem j_iast (C : JK g R cc nL rt own post 𝒥) {i : Int32} {x : Int32} {a n : Nat} {f : Nat → Int32} (hdg : decode cc pc = .ok (.iastore, 1)) (q0 : Nat) (hin : vp_in i n) (ha : ws[q0]? = some (a, .inl (g_I g, n, .inl f))) (hw : ws.set q0 (a, .inl (g_I g, n, .inl (upd f i.toNatClampNeg x))) = ws') (kk : 𝒥 kc ks ws' lc rest (pc + 1)) : 𝒥 kc ks ws lc (.int x :: .int i :: .ref a :: rest) pc := by
  subst hw
  obtain ⟨p, e, s, m, args, below, meth, c, A, Q, F, -, rfl⟩ := C
  exact fun H locs ls hP hD hS hl => va_iast F.1 F.2.1 F.2.2.2.2.2.2.2.1 hP hD hS q0 0 ha rfl hin hdg (fun H1 locs1 hP1 hD1 hS1 => kk H1 locs1 ls hP1 hD1 hS1 hl)
theorem j_cast (C : JK g R cc nL rt own post 𝒥) {i : Int32} {x : Int32} {a n : Nat} {f : Nat → Int32} (hdg : decode cc pc = .ok (.castore, 1)) (q0 : Nat) (hin : vp_in i n) (ha : ws[q0]? = some (a, .inl (g_C g, n, .inl f))) (hw : ws.set q0 (a, .inl (g_C g, n, .inl (upd f i.toNatClampNeg (vp_nar .char x)))) = ws') (kk : 𝒥 kc ks ws' lc rest (pc + 1)) : 𝒥 kc ks ws lc (.int x :: .int i :: .ref a :: rest) pc := by
  subst hw
  obtain ⟨p, e, s, m, args, below, meth, c, A, Q, F, -, rfl⟩ := C
  exact fun H locs ls hP hD hS hl => va_cast F.1 F.2.1 F.2.2.2.2.2.2.2.1 hP hD hS q0 1 ha rfl hin hdg (fun H1 locs1 hP1 hD1 hS1 => kk H1 locs1 ls hP1 hD1 hS1 hl)
theorem j_zast (C : JK g R cc nL rt own post 𝒥) {i : Int32} {x : Int32} {a n : Nat} {f : Nat → Int32} (hdg : decode cc pc = .ok (.bastore, 1)) (q0 : Nat) (hin : vp_in i n) (ha : ws[q0]? = some (a, .inl (g_Z g, n, .inl f))) (hw : ws.set q0 (a, .inl (g_Z g, n, .inl (upd f i.toNatClampNeg (vp_nar .boolean x)))) = ws') (kk : 𝒥 kc ks ws' lc rest (pc + 1)) : 𝒥 kc ks ws lc (.int x :: .int i :: .ref a :: rest) pc := by
  subst hw
  obtain ⟨p, e, s, m, args, below, meth, c, A, Q, F, -, rfl⟩ := C
  exact fun H locs ls hP hD hS hl => va_zast F.1 F.2.1 F.2.2.2.2.2.2.2.1 hP hD hS q0 3 ha rfl hin hdg (fun H1 locs1 hP1 hD1 hS1 => kk H1 locs1 ls hP1 hD1 hS1 hl)
theorem j_last (C : JK g R cc nL rt own post 𝒥) {i : Int32} {x : Int64} {a n : Nat} {f : Nat → Int64} (hdg : decode cc pc = .ok (.lastore, 1)) (q0 : Nat) (hin : vp_in i n) (ha : ws[q0]? = some (a, .inl (g_J g, n, .inr (.inl f)))) (hw : ws.set q0 (a, .inl (g_J g, n, .inr (.inl (vp_updL f i.toNatClampNeg x)))) = ws') (kk : 𝒥 kc ks ws' lc rest (pc + 1)) : 𝒥 kc ks ws lc (.long x :: .int i :: .ref a :: rest) pc := by
  subst hw
  obtain ⟨p, e, s, m, args, below, meth, c, A, Q, F, -, rfl⟩ := C
  exact fun H locs ls hP hD hS hl => va_last F.1 F.2.1 F.2.2.2.2.2.2.2.1 hP hD hS q0 2 ha rfl hin hdg (fun H1 locs1 hP1 hD1 hS1 => kk H1 locs1 ls hP1 hD1 hS1 hl)
/-- a field of an object of the world is read -/
theorem j_get (C : JK g R cc nL rt own post 𝒥) {a ci N index : Nat} {fs : List Value} {v : Value} {ref : String} {T : u_T} (hdg : decode cc pc = .ok (.getfield index, 3)) (q0 k : Nat) (he : ws[q0]? = some (a, .inr (ci, fs))) (hc : classes[ci]? = some (ref, T, N)) (hv : fs[k]? = some v) (hk : k < N) (hw : Cond.fieldLink own index ref (T k).2.1 (T k).2.2.1 ∈ wsG) (kk : 𝒥 kc ks ws lc (v :: rest) (pc + 3)) : 𝒥 kc ks ws lc (.ref a :: rest) pc := by
  obtain ⟨p, e, s, m, args, below, meth, c, A, Q, F, -, rfl⟩ := C
  have h1 := clsOwn _ (List.mem_of_getElem? hc) k hk
  exact fun H locs ls hP hD hS hl => va_get (D := g_D g) (cl := classes) F.1 F.2.1 F.2.2.2.2.2.2.1 (clsIn _ (List.mem_of_getElem? hc)) F.2.2.2.2.2.1 F.2.2.2.2.2.2.2.1 hP q0 he hc k hk (F.2.2.2.2.2.2.1 _ hw) (fun x h => by rw [h1] at h; exact h) hv hdg (kk H locs ls hP hD hS hl)
/-- a field that isn't final is written -/
theorem j_put (C : JK g R cc nL rt own post 𝒥) {a ci N index : Nat} {fs : List Value} {v : Value} {ref : String} {T : u_T} {ty : FieldType} (hdg : decode cc pc = .ok (.putfield index, 3)) (q0 k : Nat) (he : ws[q0]? = some (a, .inr (ci, fs))) (hc : classes[ci]? = some (ref, T, N)) (hk : k < N) (hw : Cond.fieldLink own index ref (T k).2.1 (T k).2.2.1 ∈ wsG) (hd : parseFieldDescriptor (T k).2.2.1 = some ty) (hfin : (T k).2.2.2 = false) (hn : narrow ty v = v) (hfit : fits ty v = true) (hl2 : k < fs.length)
    (hws : ws.set q0 (a, .inr (ci, fs.set k v)) = ws') (kk : 𝒥 kc ks ws' lc rest (pc + 3)) : 𝒥 kc ks ws lc (v :: .ref a :: rest) pc := by
  subst hws
  obtain ⟨p, e, s, m, args, below, meth, c, A, Q, F, -, rfl⟩ := C
  have hm := List.mem_of_getElem? hc
  have h1 := clsOwn _ hm k hk
  exact fun H locs ls hP hD hS hl => va_put (D := g_D g) (cl := classes) F.1 F.2.1 F.2.2.2.2.2.2.1 (clsIn _ hm) (fun k => (parseFieldDescriptor (T k).2.2.1).getD .int) (fun k hk => clsTy _ hm k hk) (clsNm _ hm) F.2.2.2.2.2.1 F.2.2.2.2.2.2.2.1 hP hD hS q0 he hc k hk (F.2.2.2.2.2.2.1 _ hw) (fun x h => by rw [h1] at h; exact h) hfin hd hn hfit hl2 hdg (fun H1 locs1 hP1 hD1 hS1 => kk H1 locs1 ls hP1 hD1 hS1 hl)
theorem j_alen (C : JK g R cc nL rt own post 𝒥) {a n : Nat} {f : Nat → Int32} (hdg : decode cc pc = .ok (.arraylength, 1)) (q0 : Nat) (ha : ws[q0]? = some (a, .inl (g_I g, n, .inl f))) {v : Int32} (hv : Int32.ofNat n = v) (kk : 𝒥 kc ks ws lc (.int v :: rest) (pc + 1)) : 𝒥 kc ks ws lc (.ref a :: rest) pc := by
  obtain ⟨p, e, s, m, args, below, meth, c, A, Q, F, -, rfl⟩ := C
  exact fun H locs ls hP hD hS hl => va_alen F.1 F.2.1 F.2.2.2.2.2.2.2.1 hP q0 0 ha rfl hv hdg (kk H locs ls hP hD hS hl)
/-- the table WORDS: its reference, its length, a place of it -/
theorem j_gets (C : JK g R cc nL rt own post 𝒥) {index : Nat} (hdg : decode cc pc = .ok (.getstatic index, 3)) (hw : Cond.fieldLink own index "ProgramDesk" "WORDS" "[I" ∈ wsG) (kk : 𝒥 kc ks ws lc (.ref (g_W g) :: rest) (pc + 3)) : 𝒥 kc ks ws lc rest pc := by
  obtain ⟨p, e, s, m, args, below, meth, c, A, Q, F, -, rfl⟩ := C
  exact fun H locs ls hP hD hS hl => va_gets F.1 F.2.1 F.2.2.2.2.2.2.2.2.2.1.1 hS F.2.2.2.2.2.1 (F.2.2.2.2.2.2.1 _ hw) (fun _ h => h) hdg (kk H locs ls hP hD hS hl)
theorem j_getsN (C : JK g R cc nL rt own post 𝒥) {index : Nat} {host : String} (hdg : decode cc pc = .ok (.getstatic index, 3)) (hw : Cond.fieldLinkNest own index "ProgramDesk" "WORDS" "[I" host ∈ nW) (kk : 𝒥 kc ks ws lc (.ref (g_W g) :: rest) (pc + 3)) : 𝒥 kc ks ws lc rest pc := by
  obtain ⟨p, e, s, m, args, below, meth, c, A, Q, F, -, rfl⟩ := C
  have h1 := F.2.2.2.2.2.2.2.2.2.1.2.2 _ hw
  exact fun H locs ls hP hD hS hl => va_getsN F.1 F.2.1 F.2.2.2.2.2.2.2.2.2.1.1 hS F.2.2.2.2.2.1 (va_Nw.use rfl h1) (fun _ h => h) hdg (kk H locs ls hP hD hS hl)
theorem j_tlen (C : JK g R cc nL rt own post 𝒥) (hdg : decode cc pc = .ok (.arraylength, 1)) (kk : 𝒥 kc ks ws lc (.int 7 :: rest) (pc + 1)) : 𝒥 kc ks ws lc (.ref (g_W g) :: rest) pc := by
  obtain ⟨p, e, s, m, args, below, meth, c, A, Q, F, -, rfl⟩ := C
  exact fun H locs ls hP hD hS hl => va_tlen F.1 F.2.1 F.2.2.2.2.2.2.2.2.2.1.2.1 hS rfl hdg (kk H locs ls hP hD hS hl)
theorem j_tld (C : JK g R cc nL rt own post 𝒥) {i : Int32} (hdg : decode cc pc = .ok (.iaload, 1)) (hin : vp_in i 7) (kk : 𝒥 kc ks ws lc (.int (tabW i.toNatClampNeg) :: rest) (pc + 1)) : 𝒥 kc ks ws lc (.int i :: .ref (g_W g) :: rest) pc := by
  obtain ⟨p, e, s, m, args, below, meth, c, A, Q, F, -, rfl⟩ := C
  exact fun H locs ls hP hD hS hl => va_ti F.1 F.2.1 F.2.2.2.2.2.2.2.2.2.1.2.1 hS hin rfl hdg (kk H locs ls hP hD hS hl)
/-- a place of a table of jumps, one after the other; then the rest -/
theorem j_case (C : JK g R cc nL rt own post 𝒥) {x : Int32} {dflt lo hi : Int} {offs : Array Int} {len : Nat} (hdg : decode cc pc = .ok (.tableswitch dflt lo hi offs, len)) {z : Int32} {off : Int} {tgt : Nat} (h1 : ¬ z.toInt < lo ∧ ¬ hi < z.toInt ∧ offs[(z.toInt - lo).toNat]? = some off) (ht : (pc : Int) + off = (tgt : Int)) (kt : x = z → 𝒥 kc ks ws lc rest tgt) (kf : ¬ x = z → 𝒥 kc ks ws lc (.int x :: rest) pc) : 𝒥 kc ks ws lc (.int x :: rest) pc := by
  by_cases hx : x = z
  · have kt2 := kt hx
    clear kt kf
    subst hx
    obtain ⟨p, e, s, m, args, below, meth, c, A, Q, F, -, rfl⟩ := C
    exact fun H locs ls hP hD hS hl => lv_tableIn F.1 F.2.1 hdg h1.1 h1.2.1 h1.2.2 ht (kt2 H locs ls hP hD hS hl)
  · exact kf hx
theorem j_dflt (C : JK g R cc nL rt own post 𝒥) {x : Int32} {dflt lo hi : Int} {offs : Array Int} {len : Nat} (hdg : decode cc pc = .ok (.tableswitch dflt lo hi offs, len)) {tgt : Nat} (h : x.toInt < lo ∨ hi < x.toInt) (ht : (pc : Int) + dflt = (tgt : Int)) (kk : 𝒥 kc ks ws lc rest tgt) : 𝒥 kc ks ws lc (.int x :: rest) pc := by
  obtain ⟨p, e, s, m, args, below, meth, c, A, Q, F, -, rfl⟩ := C
  exact fun H locs ls hP hD hS hl => lv_tableOut F.1 F.2.1 hdg h ht (kk H locs ls hP hD hS hl)
theorem ine {x z : Int32} (n : Int) (hz : z.toInt = n) (h : ¬ x = z) : x.toInt ≠ n := fun e => h (Int32.toInt_inj.mp (e.trans hz.symm))
/-- ends -/
theorem W_mono {p : Program} {l : Launch} {e : Env} {R : Room} {s : State} {m : MethodId} {args : Array Value} {below : List Frame} {meth : Method} {c : Code} {H : Heap} {locs : List Loc} {cells slots : Nat} {Q Q' : State → Prop} {f : JFrame} (h : ∀ t, Q t → Q' t) (k : W p l e R s m args below meth c H locs cells slots Q f) : W p l e R s m args below meth c H locs cells slots Q' f := fun T hT X => by
  obtain ⟨t, a, b⟩ := k T hT X
  exact ⟨t, a, h t b⟩
theorem j_iret (C : JK g R cc nL (some .int) own post 𝒥) {v : Int32} (hdg : decode cc pc = .ok (.ireturn, 1)) (hp : post (some (.int v)) ws) (hk : kc ≤ R.cells) (hs : ks ≤ R.slots) : 𝒥 kc ks ws lc [.int v] pc := by
  obtain ⟨p, e, s, m, args, below, meth, c, A, Q, F, hq, rfl⟩ := C
  obtain ⟨Qc, free, hQ, hf, hq⟩ := hq _ _ hp
  exact fun H locs ls hP hD hS hl => W_mono hQ (W.widen hk hs (W.iret F.1 F.2.1 F.2.2.2.1 (fun t ht hW => hq t (by rw [ht]; exact hP) hD hW (hS.F ht)) (fun q h => hf _ (hS.2.2 q h)) hdg F.2.2.2.2.1))
theorem j_lret (C : JK g R cc nL (some .long) own post 𝒥) {v : Int64} (hdg : decode cc pc = .ok (.lreturn, 1)) (hp : post (some (.long v)) ws) (hk : kc ≤ R.cells) (hs : ks ≤ R.slots) : 𝒥 kc ks ws lc [.long v] pc := by
  obtain ⟨p, e, s, m, args, below, meth, c, A, Q, F, hq, rfl⟩ := C
  obtain ⟨Qc, free, hQ, hf, hq⟩ := hq _ _ hp
  exact fun H locs ls hP hD hS hl => W_mono hQ (W.widen hk hs (W.lret F.1 F.2.1 F.2.2.2.1 (fun t ht hW => hq t (by rw [ht]; exact hP) hD hW (hS.F ht)) (fun q h => hf _ (hS.2.2 q h)) hdg F.2.2.2.2.1))
theorem j_zret (C : JK g R cc nL (some .boolean) own post 𝒥) {v : Int32} (hdg : decode cc pc = .ok (.ireturn, 1)) (hn : narrow .boolean (.int v) = .int v) (hp : post (some (.int v)) ws) (hk : kc ≤ R.cells) (hs : ks ≤ R.slots) : 𝒥 kc ks ws lc [.int v] pc := by
  obtain ⟨p, e, s, m, args, below, meth, c, A, Q, F, hq, rfl⟩ := C
  obtain ⟨Qc, free, hQ, hf, hq⟩ := hq _ _ hp
  exact fun H locs ls hP hD hS hl => W_mono hQ (W.widen hk hs (W.zret F.1 F.2.1 F.2.2.2.1 hn (fun t ht hW => hq t (by rw [ht]; exact hP) hD hW (hS.F ht)) (fun q h => hf _ (hS.2.2 q h)) hdg F.2.2.2.2.1))
theorem j_cret (C : JK g R cc nL (some .char) own post 𝒥) {v : Int32} (hdg : decode cc pc = .ok (.ireturn, 1)) (hn : narrow .char (.int v) = .int v) (hp : post (some (.int v)) ws) (hk : kc ≤ R.cells) (hs : ks ≤ R.slots) : 𝒥 kc ks ws lc [.int v] pc := by
  obtain ⟨p, e, s, m, args, below, meth, c, A, Q, F, hq, rfl⟩ := C
  obtain ⟨Qc, free, hQ, hf, hq⟩ := hq _ _ hp
  exact fun H locs ls hP hD hS hl => W_mono hQ (W.widen hk hs (W.zret F.1 F.2.1 F.2.2.2.1 hn (fun t ht hW => hq t (by rw [ht]; exact hP) hD hW (hS.F ht)) (fun q h => hf _ (hS.2.2 q h)) hdg F.2.2.2.2.1))
theorem j_vret (C : JK g R cc nL none own post 𝒥) (hdg : decode cc pc = .ok (.return_, 1)) (hp : post none ws) (hk : kc ≤ R.cells) (hs : ks ≤ R.slots) : 𝒥 kc ks ws lc [] pc := by
  obtain ⟨p, e, s, m, args, below, meth, c, A, Q, F, hq, rfl⟩ := C
  obtain ⟨Qc, free, hQ, hf, hq⟩ := hq _ _ hp
  exact fun H locs ls hP hD hS hl => W_mono hQ (W.widen hk hs (W.vret F.1 F.2.1 F.2.2.2.1 (fun t ht hW => hq t (by rw [ht]; exact hP) hD hW (hS.F ht)) (fun q h => hf _ (hS.2.2 q h)) hdg F.2.2.2.2.1))
end Rows
/-! worlds as blocks, in any order -/
theorem va_P_mem {D : va_G} {cl : List vw_C} {ws : va_W} {H : Heap} : va_P D cl ws H ↔ ∀ q ∈ ws, va_at D cl q H := by
  constructor
  · intro h q hq
    obtain ⟨k, hk⟩ := List.getElem?_of_mem hq
    exact h k q hk
  · intro h k q hk
    exact h q (List.mem_of_getElem? hk)
theorem va_D_mem {A : Nat → Prop} {ws : va_W} : va_D A ws ↔ (ws.map (fun q => q.1)).Nodup ∧ ∀ q ∈ ws, A q.1 := by
  constructor
  · intro h
    refine ⟨?_, fun q hq => ?_⟩
    · rw [List.Nodup, List.pairwise_iff_getElem]
      intro i j hi hj hij
      rw [List.length_map] at hi hj
      rw [List.getElem_map, List.getElem_map]
      intro e
      have := h.1 i j ws[i] ws[j] (List.getElem?_eq_getElem hi) (List.getElem?_eq_getElem hj) e
      omega
    · obtain ⟨k, hk⟩ := List.getElem?_of_mem hq
      exact h.2 k q hk
  · intro h
    refine ⟨fun i j x y hi hj hxy => ?_, fun k q hk => h.2 q (List.mem_of_getElem? hk)⟩
    have h1 := h.1
    rw [List.Nodup, List.pairwise_iff_getElem] at h1
    obtain ⟨li, ei⟩ := List.getElem?_eq_some_iff.mp hi
    obtain ⟨lj, ej⟩ := List.getElem?_eq_some_iff.mp hj
    by_cases hij : i < j
    · have := h1 i j (by rw [List.length_map]; exact li) (by rw [List.length_map]; exact lj) hij
      rw [List.getElem_map, List.getElem_map, ei, ej] at this
      exact absurd hxy this
    · by_cases hji : j < i
      · have := h1 j i (by rw [List.length_map]; exact lj) (by rw [List.length_map]; exact li) hji
        rw [List.getElem_map, List.getElem_map, ei, ej] at this
        exact absurd hxy.symm this
      · omega
theorem va_P.perm {D : va_G} {cl : List vw_C} {ws ws' : va_W} {H : Heap} (h : va_P D cl ws H) (hp : ws.Perm ws') : va_P D cl ws' H :=
  va_P_mem.mpr fun q hq => va_P_mem.mp h q (hp.mem_iff.mpr hq)
theorem va_D.perm {A : Nat → Prop} {ws ws' : va_W} (h : va_D A ws) (hp : ws.Perm ws') : va_D A ws' := by
  obtain ⟨h1, h2⟩ := va_D_mem.mp h
  exact va_D_mem.mpr ⟨((hp.map _).nodup_iff).mp h1, fun q hq => h2 q (hp.mem_iff.mpr hq)⟩
/-- what a call does to a world that is the callee's cells beside others -/
theorem va_cut {A0 : Nat → Prop} {D : va_G} {cl : List vw_C} {ws wc wr w1 ws' : va_W} {H H1 : Heap} (hP : va_P D cl ws H) (hD : va_D A0 ws) (hp : ws.Perm (wr ++ wc)) (hp' : (wr ++ w1).Perm ws')
    (hk : ∀ q : Nat, q < H.size → ¬ va_A wc H.size q → H1[q]? = H[q]?) (hF : ∀ q, va_A wc H.size q → A0 q) (hP1 : va_P D cl w1 H1) (hD1 : va_D (va_A wc H.size) w1) : va_P D cl ws' H1 ∧ va_D A0 ws' := by
  have hP2 := va_P_mem.mp (hP.perm hp)
  have hD2 := va_D_mem.mp (hD.perm hp)
  have hap : ∀ q ∈ wr, ¬ va_A wc H.size q.1 := by
    intro q hq h
    rcases h with ⟨k, e, h⟩ | h
    · have hc := List.mem_of_getElem? h
      have hn := hD2.1
      rw [List.map_append, List.nodup_append] at hn
      exact hn.2.2 q.1 (List.mem_map.mpr ⟨q, hq, rfl⟩) q.1 (List.mem_map.mpr ⟨(q.1, e), hc, rfl⟩) rfl
    · have := (hP2 q (List.mem_append_left _ hq)).lt
      omega
  have hPa : va_P D cl (wr ++ w1) H1 := by
    refine va_P_mem.mpr fun q hq => ?_
    rcases List.mem_append.mp hq with h | h
    · exact (hP2 q (List.mem_append_left _ h)).kept (hk q.1 (hP2 q (List.mem_append_left _ h)).lt (hap q h))
    · exact va_P_mem.mp hP1 q h
  have hDa : va_D A0 (wr ++ w1) := by
    have h1 := va_D_mem.mp hD1
    refine va_D_mem.mpr ⟨?_, fun q hq => ?_⟩
    · rw [List.map_append, List.nodup_append]
      have hn := hD2.1
      rw [List.map_append, List.nodup_append] at hn
      refine ⟨hn.1, h1.1, fun a ha b hb e => ?_⟩
      obtain ⟨q, hq, rfl⟩ := List.mem_map.mp ha
      obtain ⟨r, hr, rfl⟩ := List.mem_map.mp hb
      exact hap q hq (by rw [e]; exact h1.2 r hr)
    · rcases List.mem_append.mp hq with h | h
      · exact hD2.2 q (List.mem_append_left _ h)
      · exact hF _ (h1.2 q h)
  exact ⟨hPa.perm hp', hDa.perm hp'⟩
/-- blocks side by side -/
def catb : List va_W → va_W
  | [] => []
  | [a] => a
  | a :: b :: l => a ++ catb (b :: l)
theorem catb_flat : ∀ l : List va_W, catb l = l.flatten
  | [] => rfl
  | [a] => by simp [catb]
  | a :: b :: l => by rw [catb, catb_flat (b :: l)]; simp
def blk (bs : List va_W) (is : List Nat) : List va_W := is.map (fun i => bs.getD i [])
theorem blk_all (bs : List va_W) : blk bs (List.range bs.length) = bs := by
  apply List.ext_getElem
  · simp [blk]
  · intro i h1 h2
    simp [blk, h2]
theorem blk_perm {bs : List va_W} {iR iC : List Nat} (h : (iR ++ iC).Perm (List.range bs.length)) : (catb bs).Perm (catb (blk bs iR) ++ catb (blk bs iC)) := by
  rw [catb_flat, catb_flat, catb_flat, ← List.flatten_append]
  have h1 : (blk bs (iR ++ iC)).Perm (blk bs (List.range bs.length)) := h.map _
  rw [blk_all] at h1
  have h2 : blk bs (iR ++ iC) = blk bs iR ++ blk bs iC := by simp [blk]
  rw [h2] at h1
  exact h1.symm.flatten
/-- how a callee's world lies in ours, before and behind -/
def Cut (ws wc w1 ws' : va_W) : Prop := ∃ wr : va_W, ws.Perm (wr ++ wc) ∧ (wr ++ w1).Perm ws'
theorem cut_same {ws ws' : va_W} : Cut ws ws ws' ws' := ⟨[], List.Perm.refl _, List.Perm.refl _⟩
theorem cut_none {ws : va_W} : Cut ws [] [] ws := ⟨ws, by rw [List.append_nil], by rw [List.append_nil]⟩
theorem cut_blk (bs bs' : List va_W) (iR iC : List Nat) {ws wc w1 ws' : va_W} (h : ((iR ++ iC).isPerm (List.range bs.length)) = true) (hl : bs'.length = bs.length) (h0 : catb bs = ws) (h1 : catb bs' = ws') (hc : catb (blk bs iC) = wc) (hc' : catb (blk bs' iC) = w1) (hr : blk bs iR = blk bs' iR) : Cut ws wc w1 ws' := by
  subst h0; subst h1; subst hc; subst hc'
  have hp := List.isPerm_iff.mp h
  refine ⟨catb (blk bs iR), blk_perm hp, ?_⟩
  rw [hr]
  exact (blk_perm (by rw [hl]; exact hp)).symm
theorem Cut.free {A0 : Nat → Prop} {ws wc w1 ws' : va_W} {H0 H : Heap} {locs : List Loc} (h : Cut ws wc w1 ws') (hD : va_D A0 ws) (hS : va_S A0 H0 H locs) (hA : ∀ q, H0.size ≤ q → A0 q) : ∀ q, va_A wc H.size q → A0 q := by
  obtain ⟨wr, hp, -⟩ := h
  intro q hq
  rcases hq with ⟨k, e, h⟩ | h
  · exact (va_D_mem.mp (hD.perm hp)).2 (q, e) (List.mem_append_right _ (List.mem_of_getElem? h))
  · exact hA q (Nat.le_trans hS.1 h)
theorem Cut.callee {A0 : Nat → Prop} {D : va_G} {cl : List vw_C} {ws wc w1 ws' : va_W} {H : Heap} (h : Cut ws wc w1 ws') (hP : va_P D cl ws H) (hD : va_D A0 ws) : va_P D cl wc H ∧ va_D A0 wc := by
  obtain ⟨wr, hp, -⟩ := h
  have hP2 := va_P_mem.mp (hP.perm hp)
  have hD2 := va_D_mem.mp (hD.perm hp)
  refine ⟨va_P_mem.mpr fun q hq => hP2 q (List.mem_append_right _ hq), va_D_mem.mpr ⟨?_, fun q hq => hD2.2 q (List.mem_append_right _ hq)⟩⟩
  have hn := hD2.1
  rw [List.map_append, List.nodup_append] at hn
  exact hn.2.1
section Calls
variable {g : GT} {R : Room} {cc : ByteArray} {nL : Nat} {rt : Option FieldType} {own : String} {post : Option Value → va_W → Prop} {𝒥 : JT} {kc ks : Nat} {ws ws' wc : va_W} {lc : List (Nat × Value)} {rest : List Value} {pc : Nat}
theorem goodAll {y2 : Cond} (h : y2 ∈ wsG) : GoodIn wsG (y2 :: wsG) := by
  intro w hw
  rcases List.mem_cons.mp hw with rfl | hw
  · exact ⟨h, good_of_word (wsG_good _ h)⟩
  · exact ⟨hw, good_of_word (wsG_good _ hw)⟩
/-- what a contract's start is blind to -/
theorem mk_blind {g : GT} {sz : Nat} {av : List Value} {wc : va_W} : FrameBlind (MPc g av wc sz) := by
  intro a U f mk q
  obtain ⟨q0, q1, qP, qK, qD, qS⟩ := q
  exact ⟨q0, q1, qP, va_K.moved (u := U) (U := U.calling f mk a) (Vm.Alike.refl U.vm) qK, qD, qS.blind⟩
/-- a callee's start out of ours -/
theorem mk_start {g : GT} {A : Nat → Prop} {s : State} {H : Heap} {locs : List Loc} {av : List Value} {wc : va_W} (hK : va_K (g_D g) classes (g_tys g) s) (hSP : SPk g A s s.heap) (hS : va_S A s.heap H locs) (hPc : va_P (g_D g) classes wc H) (hDc : va_D A wc) (hF : ∀ q, va_A wc H.size q → A q) :
    ∀ U : State, U.heap = H → s.WarmedH U.vm → MPc g av wc H.size av.toArray U :=
  fun U hU hW => ⟨rfl, by rw [hU], by rw [hU]; exact hPc, va_K.moved hW.alike hK, hDc.weaken (fun _ _ _ _ => trivial), hSP.called hS hU hW hF⟩
/-- what the tables say of a method that is called: its code, whose it is, its class, the number of its arguments -/
def CB (y : MethodName) (cc : ByteArray) (nL : Nat) (rt : Option FieldType) (n : Nat) : Prop := Cond.code y cc nL rt ∈ wsG ∧ Cond.initialized y.cls ∈ wsG ∧ (y.cls ≠ "java/lang/invoke/MethodHandle" ∧ y.cls ≠ "java/lang/invoke/VarHandle" ∧ (parseMethodDescriptor y.desc).map (fun d => d.parameters.length) = some n)
def CV (y : MethodName) (cc : ByteArray) (nL : Nat) (rt : Option FieldType) (n : Nat) : Prop := CB y cc nL rt n ∧ Cond.instanceMethod y ∈ wsG ∧ Cond.selects y.cls y y ∈ wsG
def CS (y : MethodName) (cc : ByteArray) (nL : Nat) (rt : Option FieldType) (n : Nat) : Prop := CB y cc nL rt n ∧ Cond.static y ∈ wsG
/-- room for a call -/
abbrev RmOk (rm R : Room) (n2 : Nat) (kc ks kc2 ks2 : Nat) : Prop := (rm.frames + 1 ≤ R.frames ∧ 8 + (n2 + 11) + rm.locals ≤ R.locals) ∧ (kc + rm.cells ≤ R.cells ∧ ks + rm.slots ≤ R.slots) ∧ kc + rm.cells = kc2 ∧ ks + rm.slots = ks2
theorem j_callVi (C : JK g R cc nL rt own post 𝒥) {index n : Nat} (hdg : decode cc pc = .ok (.invokevirtual index, 3)) {y : MethodName} {c2 : ByteArray} {n2 : Nat} {r2 : Option FieldType} {rm : Room} {b : Nat} {As st0 : List Value} {r : Int32} {w1 : va_W} (hM : MI g y c2 n2 r2 rm (.ref b :: As) wc r w1) (hcv : CV y c2 n2 r2 n) (hw : Cond.methodLink own index y ∈ wsG) (qb : Nat) {ci : Nat} {fs : List Value} {T : u_T} {N : Nat} (hb : ws[qb]? = some (b, .inr (ci, fs))) (hci : classes[ci]? = some (y.cls, T, N)) (hcut : Cut ws wc w1 ws') (hst : st0 = As.reverse ++ .ref b :: rest) (hlen : As.length = n) (hroom : (rest.map fun v => v.category).sum ≤ 8) {kc2 ks2 : Nat} (hrm : RmOk rm R n2 kc ks kc2 ks2)
    (kk : 𝒥 kc2 ks2 ws' lc (.int r :: rest) (pc + 3)) : 𝒥 kc ks ws lc st0 pc := by
  obtain ⟨p, e, s, m, args, below, meth, c, A, Q, F, -, rfl⟩ := C
  subst hst
  obtain ⟨u1, u2, rfl, rfl⟩ := hrm
  intro H locs ls hP hD hS hl
  have hF := hcut.free hD hS F.2.2.2.2.2.2.2.2.1
  obtain ⟨hPc, hDc⟩ := hcut.callee hP hD
  have hts := F.2.2.2.2.2.2.1
  have fx : CallFix p m c cc nL s args wsG own := ⟨F.1, F.2.1, F.2.2.1, F.2.2.2.2.2.1, hts⟩
  refine va_calli (va_runV (C := y.cls) fx (hM H.size) ⟨callB_of n hts (goodAll hcv.1.1) rfl rfl rfl (hts _ hcv.1.2.1) (hts _ hw) hcv.1.2.2 u1, hts _ hcv.2.1, hts _ hcv.2.2⟩ ⟨mk_blind, va_recv F.2.2.2.2.2.2.2.1 hP hci hb, mk_start F.2.2.2.2.2.2.2.1 F.2.2.2.2.2.2.2.2.2 hS hPc hDc hF⟩ rfl hlen hl.1 rfl (lv_room hroom) hdg u2) hS (fun q _ h => hF q h) hF (fun x u t H1 locs1 ht hvm hp hB hz hk hS1 => ?_)
  obtain ⟨rfl, rfl⟩ := hp
  obtain ⟨hP1, -, hD1⟩ := hB
  rw [ht] at hP1
  obtain ⟨wr, p1, p2⟩ := hcut
  obtain ⟨hP2, hD2⟩ := va_cut hP hD p1 p2 hk hF hP1 hD1
  exact kk H1 locs1 ls hP2 hD2 hS1 hl
theorem j_callVl (C : JK g R cc nL rt own post 𝒥) {index n : Nat} (hdg : decode cc pc = .ok (.invokevirtual index, 3)) {y : MethodName} {c2 : ByteArray} {n2 : Nat} {r2 : Option FieldType} {rm : Room} {b : Nat} {As st0 : List Value} {r : Int64} {w1 : va_W} (hM : ML g y c2 n2 r2 rm (.ref b :: As) wc r w1) (hcv : CV y c2 n2 r2 n) (hw : Cond.methodLink own index y ∈ wsG) (qb : Nat) {ci : Nat} {fs : List Value} {T : u_T} {N : Nat} (hb : ws[qb]? = some (b, .inr (ci, fs))) (hci : classes[ci]? = some (y.cls, T, N)) (hcut : Cut ws wc w1 ws') (hst : st0 = As.reverse ++ .ref b :: rest) (hlen : As.length = n) (hroom : (rest.map fun v => v.category).sum ≤ 8) {kc2 ks2 : Nat} (hrm : RmOk rm R n2 kc ks kc2 ks2)
    (kk : 𝒥 kc2 ks2 ws' lc (.long r :: rest) (pc + 3)) : 𝒥 kc ks ws lc st0 pc := by
  obtain ⟨p, e, s, m, args, below, meth, c, A, Q, F, -, rfl⟩ := C
  subst hst
  obtain ⟨u1, u2, rfl, rfl⟩ := hrm
  intro H locs ls hP hD hS hl
  have hF := hcut.free hD hS F.2.2.2.2.2.2.2.2.1
  obtain ⟨hPc, hDc⟩ := hcut.callee hP hD
  have hts := F.2.2.2.2.2.2.1
  have fx : CallFix p m c cc nL s args wsG own := ⟨F.1, F.2.1, F.2.2.1, F.2.2.2.2.2.1, hts⟩
  refine va_calll (va_runV (C := y.cls) fx (hM H.size) ⟨callB_of n hts (goodAll hcv.1.1) rfl rfl rfl (hts _ hcv.1.2.1) (hts _ hw) hcv.1.2.2 u1, hts _ hcv.2.1, hts _ hcv.2.2⟩ ⟨mk_blind, va_recv F.2.2.2.2.2.2.2.1 hP hci hb, mk_start F.2.2.2.2.2.2.2.1 F.2.2.2.2.2.2.2.2.2 hS hPc hDc hF⟩ rfl hlen hl.1 rfl (lv_room hroom) hdg u2) hS (fun q _ h => hF q h) hF (fun x u t H1 locs1 ht hvm hp hB hz hk hS1 => ?_)
  obtain ⟨rfl, rfl⟩ := hp
  obtain ⟨hP1, -, hD1⟩ := hB
  rw [ht] at hP1
  obtain ⟨wr, p1, p2⟩ := hcut
  obtain ⟨hP2, hD2⟩ := va_cut hP hD p1 p2 hk hF hP1 hD1
  exact kk H1 locs1 ls hP2 hD2 hS1 hl
theorem j_callVv (C : JK g R cc nL rt own post 𝒥) {index n : Nat} (hdg : decode cc pc = .ok (.invokevirtual index, 3)) {y : MethodName} {c2 : ByteArray} {n2 : Nat} {r2 : Option FieldType} {rm : Room} {b : Nat} {As st0 : List Value} {w1 : va_W} (hM : MV g y c2 n2 r2 rm (.ref b :: As) wc w1) (hcv : CV y c2 n2 r2 n) (hw : Cond.methodLink own index y ∈ wsG) (qb : Nat) {ci : Nat} {fs : List Value} {T : u_T} {N : Nat} (hb : ws[qb]? = some (b, .inr (ci, fs))) (hci : classes[ci]? = some (y.cls, T, N)) (hcut : Cut ws wc w1 ws') (hst : st0 = As.reverse ++ .ref b :: rest) (hlen : As.length = n) (hroom : (rest.map fun v => v.category).sum ≤ 8) {kc2 ks2 : Nat} (hrm : RmOk rm R n2 kc ks kc2 ks2)
    (kk : 𝒥 kc2 ks2 ws' lc (rest) (pc + 3)) : 𝒥 kc ks ws lc st0 pc := by
  obtain ⟨p, e, s, m, args, below, meth, c, A, Q, F, -, rfl⟩ := C
  subst hst
  obtain ⟨u1, u2, rfl, rfl⟩ := hrm
  intro H locs ls hP hD hS hl
  have hF := hcut.free hD hS F.2.2.2.2.2.2.2.2.1
  obtain ⟨hPc, hDc⟩ := hcut.callee hP hD
  have hts := F.2.2.2.2.2.2.1
  have fx : CallFix p m c cc nL s args wsG own := ⟨F.1, F.2.1, F.2.2.1, F.2.2.2.2.2.1, hts⟩
  refine va_callv (va_runV (C := y.cls) fx (hM H.size) ⟨callB_of n hts (goodAll hcv.1.1) rfl rfl rfl (hts _ hcv.1.2.1) (hts _ hw) hcv.1.2.2 u1, hts _ hcv.2.1, hts _ hcv.2.2⟩ ⟨mk_blind, va_recv F.2.2.2.2.2.2.2.1 hP hci hb, mk_start F.2.2.2.2.2.2.2.1 F.2.2.2.2.2.2.2.2.2 hS hPc hDc hF⟩ rfl hlen hl.1 rfl (lv_room hroom) hdg u2) hS (fun q _ h => hF q h) hF (fun u t H1 locs1 ht hvm hp hB hz hk hS1 => ?_)
  subst hp
  obtain ⟨hP1, -, hD1⟩ := hB
  rw [ht] at hP1
  obtain ⟨wr, p1, p2⟩ := hcut
  obtain ⟨hP2, hD2⟩ := va_cut hP hD p1 p2 hk hF hP1 hD1
  exact kk H1 locs1 ls hP2 hD2 hS1 hl
theorem j_callSi (C : JK g R cc nL rt own post 𝒥) {index n : Nat} (hdg : decode cc pc = .ok (.invokestatic index, 3)) {y : MethodName} {c2 : ByteArray} {n2 : Nat} {r2 : Option FieldType} {rm : Room} {As st0 : List Value} {r : Int32} {w1 : va_W} (hM : MI g y c2 n2 r2 rm (As) wc r w1) (hcv : CS y c2 n2 r2 n) (hw : Cond.methodLink own index y ∈ wsG) (hcut : Cut ws wc w1 ws') (hst : st0 = As.reverse ++ rest) (hlen : As.length = n) (hroom : (rest.map fun v => v.category).sum ≤ 8) {kc2 ks2 : Nat} (hrm : RmOk rm R n2 kc ks kc2 ks2)
    (kk : 𝒥 kc2 ks2 ws' lc (.int r :: rest) (pc + 3)) : 𝒥 kc ks ws lc st0 pc := by
  obtain ⟨p, e, s, m, args, below, meth, c, A, Q, F, -, rfl⟩ := C
  subst hst
  obtain ⟨u1, u2, rfl, rfl⟩ := hrm
  intro H locs ls hP hD hS hl
  have hF := hcut.free hD hS F.2.2.2.2.2.2.2.2.1
  obtain ⟨hPc, hDc⟩ := hcut.callee hP hD
  have hts := F.2.2.2.2.2.2.1
  have fx : CallFix p m c cc nL s args wsG own := ⟨F.1, F.2.1, F.2.2.1, F.2.2.2.2.2.1, hts⟩
  refine va_calli (va_runS fx (hM H.size) ⟨callB_of n hts (goodAll hcv.1.1) rfl rfl rfl (hts _ hcv.1.2.1) (hts _ hw) hcv.1.2.2 u1, hts _ hcv.2⟩ ⟨mk_blind, mk_start F.2.2.2.2.2.2.2.1 F.2.2.2.2.2.2.2.2.2 hS hPc hDc hF⟩ rfl hlen hl.1 rfl (lv_room hroom) hdg u2) hS (fun q _ h => hF q h) hF (fun x u t H1 locs1 ht hvm hp hB hz hk hS1 => ?_)
  obtain ⟨rfl, rfl⟩ := hp
  obtain ⟨hP1, -, hD1⟩ := hB
  rw [ht] at hP1
  obtain ⟨wr, p1, p2⟩ := hcut
  obtain ⟨hP2, hD2⟩ := va_cut hP hD p1 p2 hk hF hP1 hD1
  exact kk H1 locs1 ls hP2 hD2 hS1 hl
theorem j_callSl (C : JK g R cc nL rt own post 𝒥) {index n : Nat} (hdg : decode cc pc = .ok (.invokestatic index, 3)) {y : MethodName} {c2 : ByteArray} {n2 : Nat} {r2 : Option FieldType} {rm : Room} {As st0 : List Value} {r : Int64} {w1 : va_W} (hM : ML g y c2 n2 r2 rm (As) wc r w1) (hcv : CS y c2 n2 r2 n) (hw : Cond.methodLink own index y ∈ wsG) (hcut : Cut ws wc w1 ws') (hst : st0 = As.reverse ++ rest) (hlen : As.length = n) (hroom : (rest.map fun v => v.category).sum ≤ 8) {kc2 ks2 : Nat} (hrm : RmOk rm R n2 kc ks kc2 ks2)
    (kk : 𝒥 kc2 ks2 ws' lc (.long r :: rest) (pc + 3)) : 𝒥 kc ks ws lc st0 pc := by
  obtain ⟨p, e, s, m, args, below, meth, c, A, Q, F, -, rfl⟩ := C
  subst hst
  obtain ⟨u1, u2, rfl, rfl⟩ := hrm
  intro H locs ls hP hD hS hl
  have hF := hcut.free hD hS F.2.2.2.2.2.2.2.2.1
  obtain ⟨hPc, hDc⟩ := hcut.callee hP hD
  have hts := F.2.2.2.2.2.2.1
  have fx : CallFix p m c cc nL s args wsG own := ⟨F.1, F.2.1, F.2.2.1, F.2.2.2.2.2.1, hts⟩
  refine va_calll (va_runS fx (hM H.size) ⟨callB_of n hts (goodAll hcv.1.1) rfl rfl rfl (hts _ hcv.1.2.1) (hts _ hw) hcv.1.2.2 u1, hts _ hcv.2⟩ ⟨mk_blind, mk_start F.2.2.2.2.2.2.2.1 F.2.2.2.2.2.2.2.2.2 hS hPc hDc hF⟩ rfl hlen hl.1 rfl (lv_room hroom) hdg u2) hS (fun q _ h => hF q h) hF (fun x u t H1 locs1 ht hvm hp hB hz hk hS1 => ?_)
  obtain ⟨rfl, rfl⟩ := hp
  obtain ⟨hP1, -, hD1⟩ := hB
  rw [ht] at hP1
  obtain ⟨wr, p1, p2⟩ := hcut
  obtain ⟨hP2, hD2⟩ := va_cut hP hD p1 p2 hk hF hP1 hD1
  exact kk H1 locs1 ls hP2 hD2 hS1 hl
theorem j_callSv (C : JK g R cc nL rt own post 𝒥) {index n : Nat} (hdg : decode cc pc = .ok (.invokestatic index, 3)) {y : MethodName} {c2 : ByteArray} {n2 : Nat} {r2 : Option FieldType} {rm : Room} {As st0 : List Value} {w1 : va_W} (hM : MV g y c2 n2 r2 rm (As) wc w1) (hcv : CS y c2 n2 r2 n) (hw : Cond.methodLink own index y ∈ wsG) (hcut : Cut ws wc w1 ws') (hst : st0 = As.reverse ++ rest) (hlen : As.length = n) (hroom : (rest.map fun v => v.category).sum ≤ 8) {kc2 ks2 : Nat} (hrm : RmOk rm R n2 kc ks kc2 ks2)
    (kk : 𝒥 kc2 ks2 ws' lc (rest) (pc + 3)) : 𝒥 kc ks ws lc st0 pc := by
  obtain ⟨p, e, s, m, args, below, meth, c, A, Q, F, -, rfl⟩ := C
  subst hst
  obtain ⟨u1, u2, rfl, rfl⟩ := hrm
  intro H locs ls hP hD hS hl
  have hF := hcut.free hD hS F.2.2.2.2.2.2.2.2.1
  obtain ⟨hPc, hDc⟩ := hcut.callee hP hD
  have hts := F.2.2.2.2.2.2.1
  have fx : CallFix p m c cc nL s args wsG own := ⟨F.1, F.2.1, F.2.2.1, F.2.2.2.2.2.1, hts⟩
  refine va_callv (va_runS fx (hM H.size) ⟨callB_of n hts (goodAll hcv.1.1) rfl rfl rfl (hts _ hcv.1.2.1) (hts _ hw) hcv.1.2.2 u1, hts _ hcv.2⟩ ⟨mk_blind, mk_start F.2.2.2.2.2.2.2.1 F.2.2.2.2.2.2.2.2.2 hS hPc hDc hF⟩ rfl hlen hl.1 rfl (lv_room hroom) hdg u2) hS (fun q _ h => hF q h) hF (fun u t H1 locs1 ht hvm hp hB hz hk hS1 => ?_)
  subst hp
  obtain ⟨hP1, -, hD1⟩ := hB
  rw [ht] at hP1
  obtain ⟨wr, p1, p2⟩ := hcut
  obtain ⟨hP2, hD2⟩ := va_cut hP hD p1 p2 hk hF hP1 hD1
  exact kk H1 locs1 ls hP2 hD2 hS1 hl
theorem j_callNi (C : JK g R cc nL rt own post 𝒥) {index n : Nat} (hdg : decode cc pc = .ok (.invokestatic index, 3)) {y : MethodName} {c2 : ByteArray} {n2 : Nat} {r2 : Option FieldType} {rm : Room} {As st0 : List Value} {r : Int32} {w1 : va_W} (hM : MI g y c2 n2 r2 rm (As) wc r w1) {host : String} (hcv : CS y c2 n2 r2 n) (hw : Cond.methodLinkNest own index y host ∈ nW) (hcut : Cut ws wc w1 ws') (hst : st0 = As.reverse ++ rest) (hlen : As.length = n) (hroom : (rest.map fun v => v.category).sum ≤ 8) {kc2 ks2 : Nat} (hrm : RmOk rm R n2 kc ks kc2 ks2)
    (kk : 𝒥 kc2 ks2 ws' lc (.int r :: rest) (pc + 3)) : 𝒥 kc ks ws lc st0 pc := by
  obtain ⟨p, e, s, m, args, below, meth, c, A, Q, F, -, rfl⟩ := C
  subst hst
  obtain ⟨u1, u2, rfl, rfl⟩ := hrm
  intro H locs ls hP hD hS hl
  have hF := hcut.free hD hS F.2.2.2.2.2.2.2.2.1
  obtain ⟨hPc, hDc⟩ := hcut.callee hP hD
  have hts := F.2.2.2.2.2.2.1
  have fx : CallFix p m c cc nL s args wsG own := ⟨F.1, F.2.1, F.2.2.1, F.2.2.2.2.2.1, hts⟩
  refine va_calli (va_runSN (host := host) fx (hM H.size) ⟨va_cnB n hts (goodAll hcv.1.1) rfl rfl rfl (F.2.2.2.2.2.2.2.2.2.1.2.2 _ hw) (hts _ hcv.1.2.1) hcv.1.2.2 u1, hts _ hcv.2, trivial⟩ ⟨mk_blind, mk_start F.2.2.2.2.2.2.2.1 F.2.2.2.2.2.2.2.2.2 hS hPc hDc hF⟩ rfl hlen hl.1 rfl (lv_room hroom) hdg u2) hS (fun q _ h => hF q h) hF (fun x u t H1 locs1 ht hvm hp hB hz hk hS1 => ?_)
  obtain ⟨rfl, rfl⟩ := hp
  obtain ⟨hP1, -, hD1⟩ := hB
  rw [ht] at hP1
  obtain ⟨wr, p1, p2⟩ := hcut
  obtain ⟨hP2, hD2⟩ := va_cut hP hD p1 p2 hk hF hP1 hD1
  exact kk H1 locs1 ls hP2 hD2 hS1 hl
theorem j_callNl (C : JK g R cc nL rt own post 𝒥) {index n : Nat} (hdg : decode cc pc = .ok (.invokestatic index, 3)) {y : MethodName} {c2 : ByteArray} {n2 : Nat} {r2 : Option FieldType} {rm : Room} {As st0 : List Value} {r : Int64} {w1 : va_W} (hM : ML g y c2 n2 r2 rm (As) wc r w1) {host : String} (hcv : CS y c2 n2 r2 n) (hw : Cond.methodLinkNest own index y host ∈ nW) (hcut : Cut ws wc w1 ws') (hst : st0 = As.reverse ++ rest) (hlen : As.length = n) (hroom : (rest.map fun v => v.category).sum ≤ 8) {kc2 ks2 : Nat} (hrm : RmOk rm R n2 kc ks kc2 ks2)
    (kk : 𝒥 kc2 ks2 ws' lc (.long r :: rest) (pc + 3)) : 𝒥 kc ks ws lc st0 pc := by
  obtain ⟨p, e, s, m, args, below, meth, c, A, Q, F, -, rfl⟩ := C
  subst hst
  obtain ⟨u1, u2, rfl, rfl⟩ := hrm
  intro H locs ls hP hD hS hl
  have hF := hcut.free hD hS F.2.2.2.2.2.2.2.2.1
  obtain ⟨hPc, hDc⟩ := hcut.callee hP hD
  have hts := F.2.2.2.2.2.2.1
  have fx : CallFix p m c cc nL s args wsG own := ⟨F.1, F.2.1, F.2.2.1, F.2.2.2.2.2.1, hts⟩
  refine va_calll (va_runSN (host := host) fx (hM H.size) ⟨va_cnB n hts (goodAll hcv.1.1) rfl rfl rfl (F.2.2.2.2.2.2.2.2.2.1.2.2 _ hw) (hts _ hcv.1.2.1) hcv.1.2.2 u1, hts _ hcv.2, trivial⟩ ⟨mk_blind, mk_start F.2.2.2.2.2.2.2.1 F.2.2.2.2.2.2.2.2.2 hS hPc hDc hF⟩ rfl hlen hl.1 rfl (lv_room hroom) hdg u2) hS (fun q _ h => hF q h) hF (fun x u t H1 locs1 ht hvm hp hB hz hk hS1 => ?_)
  obtain ⟨rfl, rfl⟩ := hp
  obtain ⟨hP1, -, hD1⟩ := hB
  rw [ht] at hP1
  obtain ⟨wr, p1, p2⟩ := hcut
  obtain ⟨hP2, hD2⟩ := va_cut hP hD p1 p2 hk hF hP1 hD1
  exact kk H1 locs1 ls hP2 hD2 hS1 hl
theorem j_callNv (C : JK g R cc nL rt own post 𝒥) {index n : Nat} (hdg : decode cc pc = .ok (.invokestatic index, 3)) {y : MethodName} {c2 : ByteArray} {n2 : Nat} {r2 : Option FieldType} {rm : Room} {As st0 : List Value} {w1 : va_W} (hM : MV g y c2 n2 r2 rm (As) wc w1) {host : String} (hcv : CS y c2 n2 r2 n) (hw : Cond.methodLinkNest own index y host ∈ nW) (hcut : Cut ws wc w1 ws') (hst : st0 = As.reverse ++ rest) (hlen : As.length = n) (hroom : (rest.map fun v => v.category).sum ≤ 8) {kc2 ks2 : Nat} (hrm : RmOk rm R n2 kc ks kc2 ks2)
    (kk : 𝒥 kc2 ks2 ws' lc (rest) (pc + 3)) : 𝒥 kc ks ws lc st0 pc := by
  obtain ⟨p, e, s, m, args, below, meth, c, A, Q, F, -, rfl⟩ := C
  subst hst
  obtain ⟨u1, u2, rfl, rfl⟩ := hrm
  intro H locs ls hP hD hS hl
  have hF := hcut.free hD hS F.2.2.2.2.2.2.2.2.1
  obtain ⟨hPc, hDc⟩ := hcut.callee hP hD
  have hts := F.2.2.2.2.2.2.1
  have fx : CallFix p m c cc nL s args wsG own := ⟨F.1, F.2.1, F.2.2.1, F.2.2.2.2.2.1, hts⟩
  refine va_callv (va_runSN (host := host) fx (hM H.size) ⟨va_cnB n hts (goodAll hcv.1.1) rfl rfl rfl (F.2.2.2.2.2.2.2.2.2.1.2.2 _ hw) (hts _ hcv.1.2.1) hcv.1.2.2 u1, hts _ hcv.2, trivial⟩ ⟨mk_blind, mk_start F.2.2.2.2.2.2.2.1 F.2.2.2.2.2.2.2.2.2 hS hPc hDc hF⟩ rfl hlen hl.1 rfl (lv_room hroom) hdg u2) hS (fun q _ h => hF q h) hF (fun u t H1 locs1 ht hvm hp hB hz hk hS1 => ?_)
  subst hp
  obtain ⟨hP1, -, hD1⟩ := hB
  rw [ht] at hP1
  obtain ⟨wr, p1, p2⟩ := hcut
  obtain ⟨hP2, hD2⟩ := va_cut hP hD p1 p2 hk hF hP1 hD1
  exact kk H1 locs1 ls hP2 hD2 hS1 hl
end Calls
/-- the cells of a world in another order -/
theorem j_perm {g : GT} {R : Room} {cc : ByteArray} {nL : Nat} {rt : Option FieldType} {own : String} {post : Option Value → va_W → Prop} {𝒥 : JT} {kc ks : Nat} {ws ws' : va_W} {lc : List (Nat × Value)} {st : List Value} {pc : Nat} (C : JK g R cc nL rt own post 𝒥) (hp : ws.Perm ws') (kk : 𝒥 kc ks ws' lc st pc) : 𝒥 kc ks ws lc st pc := by
  obtain ⟨p, e, s, m, args, below, meth, c, A, Q, F, -, rfl⟩ := C
  exact fun H locs ls hP hD hS hl => kk H locs ls (hP.perm hp) (hD.perm hp) hS hl
theorem blk_swap {a b c d ws ws' : va_W} (h : catb [a, b, c, d] = ws) (h' : a ++ (b ++ (d ++ c)) = ws') : ws.Perm ws' := by
  subst h; subst h'
  simp only [catb]
  exact List.Perm.append_left _ (List.Perm.append_left _ List.perm_append_comm)
def swp (n : Nat) (a b : va_W) : va_W := match n with
  | 0 => a
  | _ + 1 => b
def swq (r : Int32) (a b : va_W) : va_W := if r = 0 then a else b
def wD (g : GT) (ad : Nat → Nat) (A : Nat → Nat → Int32) (I : Nat → Int32) : va_W := [(ad 0, .inr (1, [.ref (ad 1), .ref (ad 3), .ref (ad 8), .ref (ad 12), .ref (ad 20), .ref (ad 23), .ref (ad 27), .ref (ad 28), .int (I 0), .ref (ad 29), .int (I 1), .int (I 2)])), (ad 1, .inr (6, [.ref (ad 2), .int (I 3)])), (ad 2, .inl (g_C g, 240, .inl (A 2))), (ad 3, .inr (7, [.ref (ad 4), .ref (ad 5), .ref (ad 6), .ref (ad 7), .int (I 4)])), (ad 4, .inl (g_I g, 240, .inl (A 4))), (ad 5, .inl (g_I g, 240, .inl (A 5))), (ad 6, .inl (g_I g, 240, .inl (A 6))), (ad 7, .inl (g_I g, 240, .inl (A 7))), (ad 8, .inr (2, [.ref (ad 9), .ref (ad 10), .ref (ad 11), .int (I 5), .ref (ad 3)])), (ad 9, .inl (g_I g, 4, .inl (A 9))), (ad 10, .inl (g_I g, 4, .inl (A 10))), (ad 11, .inl (g_I g, 4, .inl (A 11))), (ad 12, .inr (5, [.ref (ad 13), .ref (ad 14), .ref (ad 15), .ref (ad 16), .ref (ad 17), .ref (ad 18), .ref (ad 19), .ref (ad 3), .ref (ad 8)])), (ad 13, .inl (g_I g, 240, .inl (A 13))), (ad 14, .inl (g_I g, 240, .inl (A 14))), (ad 15, .inl (g_I g, 240, .inl (A 15))), (ad 16, .inl (g_I g, 240, .inl (A 16))), (ad 17, .inl (g_I g, 240, .inl (A 17))), (ad 18, .inl (g_I g, 240, .inl (A 18))), (ad 19, .inl (g_I g, 240, .inl (A 19))), (ad 20, .inr (0, [.ref (ad 21), .ref (ad 22), .int (I 6)])), (ad 21, .inl (g_I g, 240, .inl (A 21))), (ad 22, .inl (g_I g, 240, .inl (A 22))), (ad 23, .inr (3, [.int (I 7), .int (I 8), .int (I 9), .ref (ad 24), .ref (ad 25), .ref (ad 26), .ref (ad 3), .ref (ad 12), .ref (ad 8), .ref (ad 20)])), (ad 24, .inl (g_I g, 4, .inl (A 24))), (ad 25, .inl (g_I g, 4, .inl (A 25))), (ad 26, .inl (g_I g, 4, .inl (A 26))), (ad 27, .inl (g_I g, 5, .inl (A 27))), (ad 28, .inl (g_I g, 4, .inl (A 28))), (ad 29, .inl (g_I g, 244, .inl (A 29)))]
def wM (g : GT) (ad : Nat → Nat) (A : Nat → Nat → Int32) (I : Nat → Int32) : va_W := [(ad 0, .inr (4, [.ref (ad 1), .int (I 0), .int (I 1), .ref (ad 2), .ref (ad 3), .int (I 2), .ref (ad 4), .int (I 3), .int (I 4), .int (I 5), .int (I 6)])), (ad 1, .inl (g_I g, 32, .inl (A 1))), (ad 2, .inl (g_I g, 1920, .inl (A 2))), (ad 3, .inl (g_I g, 960, .inl (A 3))), (ad 4, .inl (g_I g, 8, .inl (A 4)))]
def wR (g : GT) (ad : Nat → Nat) (A : Nat → Nat → Int32) (I : Nat → Int32) (J : Nat → Nat → Int64) : va_W := [(ad 0, .inr (9, [.ref (ad 1), .int (I 0), .ref (ad 2), .int (I 1), .ref (ad 3), .int (I 2), .ref (ad 4), .int (I 3), .ref (ad 5), .ref (ad 6), .ref (ad 7), .ref (ad 8), .ref (ad 9), .ref (ad 10), .ref (ad 11), .ref (ad 12), .ref (ad 13), .ref (ad 14), .ref (ad 15), .int (I 4), .ref (ad 16), .ref (ad 17), .ref (ad 18), .ref (ad 19), .int (I 5), .ref (ad 20), .int (I 6), .int (I 7), .ref (ad 21), .int (I 8), .ref (ad 22), .ref (ad 23), .int (I 9), .int (I 10), .int (I 11), .ref (ad 24), .ref (ad 25), .ref (ad 26), .ref (ad 27), .int (I 12), .ref (ad 28), .ref (ad 29), .ref (ad 30), .ref (ad 31), .ref (ad 32), .ref (ad 33), .ref (ad 34), .ref (ad 35), .int (I 13), .int (I 14), .int (I 15), .int (I 16), .ref (ad 36), .int (I 17)])), (ad 1, .inl (g_J g, 6, .inr (.inl (J 1)))), (ad 2, .inl (g_I g, 240, .inl (A 2))), (ad 3, .inl (g_I g, 240, .inl (A 3))), (ad 4, .inl (g_I g, 240, .inl (A 4))), (ad 5, .inl (g_I g, 240, .inl (A 5))), (ad 6, .inl (g_I g, 240, .inl (A 6))), (ad 7, .inl (g_I g, 240, .inl (A 7))), (ad 8, .inl (g_J g, 240, .inr (.inl (J 8)))), (ad 9, .inl (g_I g, 240, .inl (A 9))), (ad 10, .inl (g_I g, 240, .inl (A 10))), (ad 11, .inl (g_I g, 240, .inl (A 11))), (ad 12, .inl (g_I g, 240, .inl (A 12))), (ad 13, .inl (g_I g, 240, .inl (A 13))), (ad 14, .inl (g_I g, 240, .inl (A 14))), (ad 15, .inl (g_I g, 240, .inl (A 15))), (ad 16, .inl (g_I g, 122, .inl (A 16))), (ad 17, .inl (g_I g, 122, .inl (A 17))), (ad 18, .inl (g_I g, 122, .inl (A 18))), (ad 19, .inl (g_I g, 122, .inl (A 19))), (ad 20, .inl (g_I g, 400, .inl (A 20))), (ad 21, .inl (g_I g, 5, .inl (A 21))), (ad 22, .inl (g_I g, 5, .inl (A 22))), (ad 23, .inl (g_Z g, 5, .inl (A 23))), (ad 24, .inl (g_I g, 700, .inl (A 24))), (ad 25, .inl (g_I g, 700, .inl (A 25))), (ad 26, .inl (g_I g, 122, .inl (A 26))), (ad 27, .inl (g_I g, 240, .inl (A 27))), (ad 28, .inl (g_I g, 64, .inl (A 28))), (ad 29, .inl (g_I g, 64, .inl (A 29))), (ad 30, .inl (g_I g, 6, .inl (A 30))), (ad 31, .inl (g_I g, 6, .inl (A 31))), (ad 32, .inl (g_I g, 6, .inl (A 32))), (ad 33, .inl (g_I g, 768, .inl (A 33))), (ad 34, .inl (g_I g, 9, .inl (A 34))), (ad 35, .inl (g_I g, 2000, .inl (A 35))), (ad 36, .inl (g_I g, 32, .inl (A 36)))]
def wO (g : GT) (ad : Nat → Nat) (d : OS) : va_W := [(ad 0, .inl (g_J g, 1, .inr (.inl d)))]
def wX (_ : GT) (ax am ad bd : Nat → Nat) : va_W := [(ax 0, .inr (8, [.ref (am 0), .ref (ad 0), .ref (bd 0)]))]
theorem pd_I : parseFieldDescriptor "I" = some .int := by decide +kernel
theorem pd_Z : parseFieldDescriptor "Z" = some .boolean := by decide +kernel
theorem nw35 : (Cond.methodLinkNest "ProgramDesk" 9 ({ cls := "ProgramDesk$Machine", name := "<init>", desc := "()V" } : Jvm.MethodName) "ProgramDesk") ∈ nW := nw_ 35 (by decide +kernel) (by decide +kernel)
theorem nw79 : (Cond.methodLinkNest "ProgramDesk" 18 ({ cls := "ProgramDesk$Draft", name := "<init>", desc := "()V" } : Jvm.MethodName) "ProgramDesk") ∈ nW := nw_ 79 (by decide +kernel) (by decide +kernel)
theorem nw85 : (Cond.methodLinkNest "ProgramDesk$Draft" 11 ({ cls := "ProgramDesk$Text", name := "<init>", desc := "()V" } : Jvm.MethodName) "ProgramDesk") ∈ nW := nw_ 85 (by decide +kernel) (by decide +kernel)
theorem nw104 : (Cond.methodLinkNest "ProgramDesk$Draft" 20 ({ cls := "ProgramDesk$Tokens", name := "<init>", desc := "()V" } : Jvm.MethodName) "ProgramDesk") ∈ nW := nw_ 104 (by decide +kernel) (by decide +kernel)
theorem nw212 : (Cond.methodLinkNest "ProgramDesk$Draft" 45 ({ cls := "ProgramDesk$Code", name := "<init>", desc := "()V" } : Jvm.MethodName) "ProgramDesk") ∈ nW := nw_ 212 (by decide +kernel) (by decide +kernel)
theorem nw470 : (Cond.methodLinkNest "ProgramDesk$Tokens" 61 ({ cls := "ProgramDesk", name := "keyword", desc := "(I)I" } : Jvm.MethodName) "ProgramDesk") ∈ nW := nw_ 470 (by decide +kernel) (by decide +kernel)
theorem xw616 : (Cond.castable "java/lang/IllegalArgumentException" "java/lang/IllegalArgumentException") ∈ xW := xw_ 616 (by decide +kernel) (by decide +kernel)
theorem xw617 : (Cond.declares ({ cls := "java/lang/RuntimeException", name := "<init>", desc := "()V" } : Jvm.MethodName)) ∈ xW := xw_ 617 (by decide +kernel) (by decide +kernel)
theorem xw618 : (Cond.declares ({ cls := "java/lang/RuntimeException", name := "<init>", desc := "(Ljava/lang/String;)V" } : Jvm.MethodName)) ∈ xW := xw_ 618 (by decide +kernel) (by decide +kernel)
theorem xw619 : (Cond.declares ({ cls := "java/lang/Exception", name := "<init>", desc := "()V" } : Jvm.MethodName)) ∈ xW := xw_ 619 (by decide +kernel) (by decide +kernel)
theorem xw620 : (Cond.declares ({ cls := "java/lang/Exception", name := "<init>", desc := "(Ljava/lang/String;)V" } : Jvm.MethodName)) ∈ xW := xw_ 620 (by decide +kernel) (by decide +kernel)
theorem xw621 : (Cond.declares ({ cls := "java/lang/Throwable", name := "<init>", desc := "()V" } : Jvm.MethodName)) ∈ xW := xw_ 621 (by decide +kernel) (by decide +kernel)
theorem xw622 : (Cond.declares ({ cls := "java/lang/Throwable", name := "<init>", desc := "(Ljava/lang/String;)V" } : Jvm.MethodName)) ∈ xW := xw_ 622 (by decide +kernel) (by decide +kernel)
theorem xw681 : (Cond.castable "java/lang/IndexOutOfBoundsException" "java/lang/IndexOutOfBoundsException") ∈ xW := xw_ 681 (by decide +kernel) (by decide +kernel)
theorem xw696 : (Cond.castable "java/lang/IllegalStateException" "java/lang/IllegalStateException") ∈ xW := xw_ 696 (by decide +kernel) (by decide +kernel)
theorem xw741 : (Cond.castable "java/util/NoSuchElementException" "java/util/NoSuchElementException") ∈ xW := xw_ 741 (by decide +kernel) (by decide +kernel)
theorem nw806 : (Cond.fieldLinkNest "ProgramDesk$Draft" 136 "ProgramDesk" "WORDS" "[I" "ProgramDesk") ∈ nW := nw_ 806 (by decide +kernel) (by decide +kernel)
theorem xw810 : (Cond.castable "java/lang/UnsupportedOperationException" "java/lang/UnsupportedOperationException") ∈ xW := xw_ 810 (by decide +kernel) (by decide +kernel)
