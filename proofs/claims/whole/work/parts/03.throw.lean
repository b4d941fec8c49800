/-! exceptions: thrown by a method of ours, handed on by its end, caught by a caller whose table names its class (linked already or not) -/
section XC
theorem xc_row {e : Env} {S : State} {f : JFrame} {a : Addr} {x : ExceptionTableEntry} {t : List ExceptionTableEntry} {c : ClassId} {cell : Cell} (hx : covers x f.pc = true) (h0 : x.catchType ≠ 0)
    (hl : S.vm.ClassLinks e.platform f.method.cls x.catchType c) (hcell : S.heap[a]? = some cell) (hobj : ∀ k, cell.vm ≠ .statics k) (hk : ∃ k, S.vm.classes[cell.cls]? = some k) (hc : ∃ k, S.vm.classes[c]? = some k)
    (Q : Handler → Pre) (E : CtlPost) (d : Bool) (acts : List Action) :
    wp (findHandler.go f a (x :: t)) Q E e d acts S ↔
      if S.vm.assignable cell.cls c = true then Q (.found x.handlerPc) d acts (S.setVm (S.vm.noted f.method.cls x.catchType (.cls c)))
      else wp (findHandler.go f a t) Q E e d acts (S.setVm (S.vm.noted f.method.cls x.catchType (.cls c))) := by
  have hx2 := hx
  simp only [covers] at hx2
  have al : S.vm.Alike (S.vm.noted f.method.cls x.catchType (.cls c)) := (Vm.Alike.refl S.vm).noted _ _ _
  obtain ⟨ans, tab⟩ := (resolveClass_links e.toSetting hl).op (op := VmOp.resolveClass f.method.cls x.catchType) rfl
  obtain ⟨u1, z1⟩ := hk
  obtain ⟨u2, z2⟩ := hc
  obtain ⟨v1, y1, -⟩ := al.2.2 _ _ z1
  obtain ⟨v2, y2, -⟩ := al.2.2 _ _ z2
  have eq : (S.vm.noted f.method.cls x.catchType (.cls c)).assignable cell.cls c = S.vm.assignable cell.cls c := by rw [al.assignable]
  cases hfit : S.vm.assignable cell.cls c <;> rw [hfit] at eq <;> simp [findHandler.go, hx2, h0, ans, tab, hcell, hobj, y1, y2, eq, VmOp.dirties, VmOp.acts]
/-- a row of the table, by what it does with an object of the class k: it isn't asked, it lets it pass, it takes it -/
def xc_pass (pl : Platform) (s : State) (d : ClassId) (pc : Nat) (k : ClassId) (x : ExceptionTableEntry) : Prop := covers x pc = false ∨ (x.catchType ≠ 0 ∧ ∃ c, s.vm.ClassLinks pl d x.catchType c ∧ s.vm.assignable k c = false)
def xc_takes (pl : Platform) (s : State) (d : ClassId) (pc : Nat) (k : ClassId) (x : ExceptionTableEntry) : Prop := covers x pc = true ∧ x.catchType ≠ 0 ∧ ∃ c, s.vm.ClassLinks pl d x.catchType c ∧ s.vm.assignable k c = true
theorem xc_find {e : Env} {s : State} {f : JFrame} {a : Addr} {cell : Cell} (hobj : ∀ k, cell.vm ≠ .statics k) (hk : ∃ k, s.vm.classes[cell.cls]? = some k) {x : ExceptionTableEntry} {suf : List ExceptionTableEntry} (hx : xc_takes e.platform s f.method.cls f.pc cell.cls x) :
    ∀ (pre : List ExceptionTableEntry) (S : State), (∀ y ∈ pre, xc_pass e.platform s f.method.cls f.pc cell.cls y) → s.WarmedH S.vm → S.heap[a]? = some cell →
      ∃ v, s.WarmedH v ∧ ∀ (Q : Handler → Pre) (E : CtlPost) (d : Bool) (acts : List Action), wp (findHandler.go f a (pre ++ x :: suf)) Q E e d acts S ↔ Q (.found x.handlerPc) d acts (S.setVm v)
  | [], S, _, hW, hcell => by
    obtain ⟨h1, h2, c, hl, hy⟩ := hx
    obtain ⟨dk, cf, nm, ck, g1, g2, g3, g4, g5, g6, g7, g8⟩ := hl.here
    obtain ⟨k, hk⟩ := hk
    obtain ⟨k1, z1, -⟩ := hW.alike.2.2 _ _ hk
    obtain ⟨k2, z2, -⟩ := hW.alike.2.2 _ _ g6
    refine ⟨_, hW.noted g1 g8 (State.rightAt_cls hl), fun Q E d acts => ?_⟩
    rw [List.nil_append, xc_row h1 h2 (hW.classLinks hl) hcell hobj ⟨k1, z1⟩ ⟨k2, z2⟩, if_pos (by rw [hW.alike.assignable]; exact hy)]
  | y :: ys, S, hp, hW, hcell => by
    have hp2 : ∀ z ∈ ys, xc_pass e.platform s f.method.cls f.pc cell.cls z := fun z hz => hp z (List.mem_cons_of_mem _ hz)
    by_cases hc : covers y f.pc = true
    · rcases hp y List.mem_cons_self with h | ⟨h2, c, hl, hn⟩
      · rw [hc] at h; cases h
      · obtain ⟨dk, cf, nm, ck, g1, g2, g3, g4, g5, g6, g7, g8⟩ := hl.here
        obtain ⟨k, hk2⟩ := hk
        obtain ⟨k1, z1, -⟩ := hW.alike.2.2 _ _ hk2
        obtain ⟨k2, z2, -⟩ := hW.alike.2.2 _ _ g6
        obtain ⟨v, hv, hq⟩ := xc_find hobj ⟨k, hk2⟩ (suf := suf) hx ys (S.setVm (S.vm.noted f.method.cls y.catchType (.cls c))) hp2 (hW.noted g1 g8 (State.rightAt_cls hl)) hcell
        refine ⟨v, hv, fun Q E d acts => ?_⟩
        rw [List.cons_append, xc_row hc h2 (hW.classLinks hl) hcell hobj ⟨k1, z1⟩ ⟨k2, z2⟩, if_neg (by rw [hW.alike.assignable, hn]; decide)]
        exact hq Q E d acts
    · obtain ⟨v, hv, hq⟩ := xc_find hobj hk (suf := suf) hx ys S hp2 hW hcell
      refine ⟨v, hv, fun Q E d acts => ?_⟩
      rw [List.cons_append, W.findHandler_go_skip (by simpa using hc)]
      exact hq Q E d acts
/-- the machine, an exception on its way over the frame f, goes on at the handler -/
theorem xc_step {p : Program} {l : Launch} {e : Env} {R : Room} {s : State} {m : MethodId} {args : Array Value} {below : List Frame} {meth : Method} {c : Code} {T : State} {locs : List Loc} {cells slots : Nat} (X : Stand p l e R s m args below meth c T locs cells slots) {a : Addr} {g : JFrame} (hg : g.method = m)
    {cell : Cell} (hcell : T.heap[a]? = some cell) (hobj : cell.vm.isStatics = false) (hk : ∃ k, s.vm.classes[cell.cls]? = some k) {pre suf : List ExceptionTableEntry} {x : ExceptionTableEntry} (hsplit : c.exceptionTable.toList = pre ++ x :: suf)
    (hp : ∀ y ∈ pre, xc_pass e.platform s m.cls g.pc cell.cls y) (hx : xc_takes e.platform s m.cls g.pc cell.cls x) :
    ∃ v, Stand p l e R s m args below meth c (T.setVm v) locs cells slots ∧ ∀ t, Steps p.tables e below ((T.setVm v).setTop { g with pc := x.handlerPc, stack := [.ref a] }) t → Steps p.tables e below ((T.setTop g).pushFrame (.throwing a)) t := by
  subst hg
  have hvm : ((T.setTop g).pushFrame (.throwing a)).vm = T.vm := Stand.throwing_vm T g a
  have hhp : ((T.setTop g).pushFrame (.throwing a)).heap = T.heap := Stand.throwing_heap T g a
  obtain ⟨v, hW, hq⟩ := xc_find (e := e) (f := g) (a := a) (VmData.ne_statics_of hobj) hk (suf := suf) hx pre ((T.setTop g).pushFrame (.throwing a)) hp (by rw [hvm]; exact X.warmed) (by rw [hhp]; exact hcell)
  refine ⟨v, X.noted hW, fun t ht => ?_⟩
  obtain ⟨hgo, hw⟩ := X.here.throwing (g := g) a
  refine Steps.head hgo hw ?_
  rw [stepThread_throwing (frames_entered X.here.top _)]
  have hfind : ∀ (Q : Handler → Pre) (E : CtlPost) (d : Bool) (acts : List Action), wp (findHandler g a) Q E e d acts ((T.setTop g).pushFrame (.throwing a)) ↔ Q (.found x.handlerPc) d acts (((T.setTop g).pushFrame (.throwing a)).setVm v) := by
    intro Q E d acts
    rw [W.findHandler_eq (meth := meth) (code := c) (by rw [hvm]; exact X.method') X.code, hsplit]
    exact hq Q E d acts
  have hst : (stepThrowing e ((T.setTop g).pushFrame (.throwing a)) a (.java g :: T.frames.tail)).1 = ((((T.setTop g).pushFrame (.throwing a)).setVm v).setFrames (.java { g with pc := x.handlerPc, stack := [.ref a] } :: T.frames.tail)) := by
    simp only [stepThrowing, searchFrame, vmDo]
    generalize hr : Sem.go _ e false [] ((T.setTop g).pushFrame (.throwing a)) = res
    obtain ⟨as, rfl, ha⟩ := Sem.eq_ok_of hr (a := Handler.found x.handlerPc) (s' := ((T.setTop g).pushFrame (.throwing a)).setVm v) (acts' := []) (by simp [hfind _ _ _ _])
    rfl
  rw [hst]
  obtain ⟨g₀, h0⟩ := Option.isSome_iff_exists.mp X.here.top
  obtain ⟨r, hr⟩ := State.topJava?_eq_some.mp h0
  have hr' : (T.setVm v).frames = .java g₀ :: r := hr
  have e1 : ∀ (u : State) (F G : List Frame), ((u.setFrames F).setVm v).setFrames G = (u.setVm v).setFrames G := fun u F G => by
    show ((u.setVm v).setFrames F).setFrames G = _
    rw [State.setFrames_setFrames]
  rw [State.setTop_of_frames _ hr'] at ht
  rw [hr, List.tail_cons, State.pushFrame, e1, State.setTop_of_frames _ hr, e1]
  exact ht
end XC
/-! a call of a method that may throw -/
theorem xr_call {p : Program} {l : Launch} {e : Env} {R : Room} {s : State} {m : MethodId} {args : Array Value} {below : List Frame} {meth : Method} {c : Code} {T : State} {locs : List Loc} {cells slots : Nat} (X : Stand p l e R s m args below meth c T locs cells slots)
    {y : MethodName} {S : Spec} {P : Array Value → State → Prop} {Q : Array Value → State → Outcome → State → Prop} {mk : MethodId} {a : Array Value} {maxL : Nat} {g : JFrame} {ig : Instr} {len : Nat} (hM : MetFree l y S P (fun _ _ _ _ _ => True) Q)
    (hg : g.method = m) (hsize : g.locals.size = c.maxLocals) (hdg : decode c.code g.pc = .ok (ig, len)) (hn : T.methodNamed? y = some mk) (h1 : S.pre.before a T = true) {methY : Method} {cY : Code} (hmY : T.vm.method? mk = some methY) (hcY : methY.code = some cY) (hlY : cY.maxLocals = maxL)
    (h3 : (Cond.initialized y.cls).before a T = true) (hfr : S.room.frames + 1 ≤ R.frames) (hlo : 2 * g.monitorRoom + (g.stack.map fun v => v.category).sum + (maxL + 11) + S.room.locals ≤ R.locals) (h4 : cells + S.room.cells ≤ R.cells) (h5 : slots + S.room.slots ≤ R.slots) (hP : P a (T.calling g mk a)) :
    ∃ (o : Outcome) (t : State), Q a (T.calling g mk a) o t ∧ ∀ (L : List Loc) (k n : Nat), (T.calling g mk a).WarmedH t.vm → (T.calling g mk a).sameButNew ({ t with vm := (T.calling g mk a).vm } : State) L k n →
      ∃ T' : State, T'.heap = t.heap ∧ T'.vm = t.vm ∧ Stand p l e R s m args below meth c T' (locs ++ L) (cells + k) (slots + n) ∧
        (∀ v, o = .returned v → Steps p.tables e below (doInvoke e (T.setTop g) [] mk a).1 (T'.setTop { g with pc := g.pc + len, stack := v.toList ++ g.stack })) ∧
        (∀ b, o = .threw b → Steps p.tables e below (doInvoke e (T.setTop g) [] mk a).1 ((T'.setTop g).pushFrame (.throwing b))) := by
  obtain ⟨kY, hkY, -⟩ := className_of_methodNamed hn
  have hi : kY.init = .initialized := Cond.initialized_spec (findClass_of_methodNamed hn) hkY h3
  subst hg
  have h := X.here
  have happ : S.appliesLoose y e.platform (T.calling g mk a) = true :=
    Spec.appliesLoose_calling (g := g) h hdg hn hkY hi (X.room_calling (g := g) (R' := S.room) hsize hmY hcY hfr (by rw [hlY]; exact hlo) h4 h5) h1
  obtain ⟨mid, hmid⟩ := h.above
  have hfs : (T.setTop g).frames = (.java g :: mid) ++ below := by rw [State.frames_setTop' g h.top, hmid]; rfl
  obtain ⟨o, t, hst, -, hend, hq⟩ := Steps.callFree hM p X.admits X.cas X.clock (acts := []) hfs happ hP trivial
  rw [State.frames_setTop' g h.top] at hend
  obtain ⟨g₀, h0⟩ := Option.isSome_iff_exists.mp h.top
  obtain ⟨r, hr⟩ := State.topJava?_eq_some.mp h0
  refine ⟨o, t, hq, fun L k n hW hsm => ?_⟩
  obtain ⟨e2, q2, q3, q4, q5, q6⟩ := hsm
  have hW' : T.WarmedH t.vm := hW
  have e3 : t = ({ (T.calling g mk a).setFrames t.frames with heap := t.heap, slotsUsed := t.slotsUsed } : State).setVm t.vm := by
    have : t = ({ t with vm := (T.calling g mk a).vm } : State).setVm t.vm := rfl
    rw [e2] at this
    exact this
  have hr' : (({ T with heap := t.heap, slotsUsed := t.slotsUsed } : State).setVm t.vm).frames = .java g₀ :: r := hr
  have hsame : T.sameButNew ({ T with heap := t.heap, slotsUsed := t.slotsUsed } : State) L k n := by
    refine ⟨?_, q2, q3, q4, q5, q6⟩
    obtain ⟨th, hth, -⟩ := State.frames_cons hr
    show ({ T with heap := t.heap, slotsUsed := t.slotsUsed } : State) = { T.setFrames T.frames with heap := t.heap, slotsUsed := t.slotsUsed }
    rw [State.setFrames_self hth]
  refine ⟨({ T with heap := t.heap, slotsUsed := t.slotsUsed } : State).setVm t.vm, rfl, rfl,
    ⟨X.admits, X.cas, X.clock, X.frames, X.room, X.hears, X.method, X.code, (X.here.setHeapUsed t.heap t.slotsUsed).setVm hW'.alike, X.tail, State.WarmedH.trans X.warmed hW', X.limits, X.bytes, X.same.trans (hsame.setVm s.vm)⟩, fun v hv => ?_, fun b hb => ?_⟩
  · subst hv
    obtain ⟨c₂, i₂, len₂, hc₂, hd₂, hf₂⟩ := hend
    have hcc : c₂ = c := by
      have h1 : t.code? g.method = T.code? g.method := by rw [State.code?_eq, State.code?_eq, hW'.alike.method?]
      exact Option.some.inj (hc₂.symm.trans (h1.trans h.code))
    subst hcc
    have hlen : len₂ = len := by rw [hdg] at hd₂; cases hd₂; rfl
    subst hlen
    have ht : t = (({ T with heap := t.heap, slotsUsed := t.slotsUsed } : State).setVm t.vm).setTop { g with pc := g.pc + len₂, stack := v.toList ++ g.stack } := by
      refine e3.trans ?_
      rw [hf₂, State.calling_eq h.top, State.setFrames_setFrames, State.setTop_of_frames _ hr', hr]
      rfl
    rw [← ht]
    exact hst
  · subst hb
    have hf₂ : t.frames = .throwing b :: .java g :: T.frames.tail := hend
    have ht : t = ((({ T with heap := t.heap, slotsUsed := t.slotsUsed } : State).setVm t.vm).setTop g).pushFrame (.throwing b) := by
      refine e3.trans ?_
      rw [hf₂, State.calling_eq h.top, State.setFrames_setFrames, State.pushFrame, State.frames_setTop _ hr', State.setTop_of_frames _ hr', State.setFrames_setFrames, hr]
      rfl
    rw [← ht]
    exact hst
/-! contracts of methods that may throw: code 0, it returned; else the exception of that number -/
def xN : Nat → String
  | 1 => "java/lang/IllegalArgumentException"
  | 2 => "java/lang/IndexOutOfBoundsException"
  | 3 => "java/lang/IllegalStateException"
  | 4 => "java/util/NoSuchElementException"
  | _ => "java/lang/UnsupportedOperationException"
def XAt (n : Nat) (a : Addr) (s t : State) : Prop := ∃ ce : Cell, t.heap[a]? = some ce ∧ ce.vm = .none ∧ s.vm.findClass (xN n) = some ce.cls
def QX (g : GT) (n : Nat) (r : Option Value) (w1 : va_W) (A : Nat → Prop) (mc ms : Nat) (s : State) (o : Outcome) (t : State) : Prop :=
  (n = 0 ∧ o = .returned r ∨ n ≠ 0 ∧ ∃ a, o = .threw a ∧ XAt n a s t) ∧ MB g A w1 t ∧ va_F A s t ∧ s.WarmedH t.vm ∧ ∃ L, s.sameButNew ({ t with vm := s.vm } : State) L mc ms ∧ ∀ q ∈ L, A q.base
def MX (g : GT) (y : MethodName) (cc : ByteArray) (nL : Nat) (rt : Option FieldType) (rm : Room) (av : List Value) (ws : va_W) (n : Nat) (r : Option Value) (w1 : va_W) : Prop :=
  ∀ sz : Nat, MetFree (g_l g) y (headSpec (Cond.code y cc nL rt :: wsG) rm) (MPc g av ws sz) (fun _ _ _ _ _ => True) (fun _ st o t => QX g n r w1 (va_A ws sz) rm.cells rm.slots st o t)
/-- a body that may throw -/
def JX (g : GT) (R : Room) (cc : ByteArray) (nL : Nat) (rt : Option FieldType) (own : String) (post : Option Value → va_W → Prop) (xp : Nat → va_W → Prop) (𝒥 : JT) : Prop :=
  ∃ (p : Program) (e : Env) (s : State) (m : MethodId) (args : Array Value) (below : List Frame) (meth : Method) (c : Code) (A : Nat → Prop) (Q : State → Prop),
    JF p g s m args meth c cc nL rt own A ∧
    (∀ (v : Option Value) (w : va_W), post v w → ∃ (Qc : Array Value → State → Outcome → State → Prop) (free : Addr → Prop), (∀ t, MQ below Qc args s R.cells R.slots free t → Q t) ∧ (∀ q, A q → free q) ∧ ∀ t : State, va_P (g_D g) classes w t.heap → va_D A w → s.WarmedH t.vm → va_F A s t → Qc args s (.returned v) t) ∧
    (∀ (n : Nat) (w : va_W), xp n w → ∀ (a : Addr) (t : State) (L : List Loc), t.status = .running → Ended t below (.threw a) → XAt n a s t → va_P (g_D g) classes w t.heap → va_D A w → s.WarmedH t.vm → va_F A s t → s.sameButNew ({ t with vm := s.vm } : State) L R.cells R.slots → (∀ q ∈ L, A q.base) → Q t) ∧
    (∀ x ∈ c.exceptionTable.toList, ∀ pc, covers x pc = false) ∧ (∀ q, A q → ∀ cell, s.heap[q]? = some cell → cell.vm.isStatics = false) ∧
    𝒥 = JJ p g e R s m args below meth c nL A Q
theorem JX.K {g : GT} {R : Room} {cc : ByteArray} {nL : Nat} {rt : Option FieldType} {own : String} {post : Option Value → va_W → Prop} {xp : Nat → va_W → Prop} {𝒥 : JT} (h : JX g R cc nL rt own post xp 𝒥) : JK g R cc nL rt own post 𝒥 := by
  obtain ⟨p, e, s, m, args, below, meth, c, A, Q, h1, h2, -, -, -, h3⟩ := h
  exact ⟨p, e, s, m, args, below, meth, c, A, Q, h1, h2, h3⟩
theorem va_A_ns {D : va_G} {cl : List vw_C} {ws : va_W} {H : Heap} (hP : va_P D cl ws H) : ∀ q, va_A ws H.size q → ∀ cell, H[q]? = some cell → cell.vm.isStatics = false := by
  intro q hq cell hc
  rcases hq with ⟨k, e, h⟩ | h
  · have h1 := hP k _ h
    cases e with
    | inl x =>
      have h2 : H[q]? = some (vp_cell x.1 x.2) := h1
      cases hc.symm.trans h2
      obtain ⟨cA, n, f⟩ := x
      rcases f with f | f | f | f | f <;> rfl
    | inr o =>
      obtain ⟨r, -, ce, g1, -, g3, -⟩ := h1
      cases hc.symm.trans g1
      rw [g3]; rfl
  · have := (Array.getElem?_eq_some_iff.mp hc).1
    omega
theorem MX.of {g : GT} {y : MethodName} {cc : ByteArray} {nL : Nat} {rt : Option FieldType} {rm : Room} {av : List Value} {ws w1 : va_W} {n : Nat} {r : Option Value} (hy : plainName y.cls = true) (hn : (lg_sl av).length ≤ nL)
    (h : ∀ 𝒥 : JT, JX g rm cc nL rt y.cls (fun v w => n = 0 ∧ v = r ∧ w = w1) (fun k w => k ≠ 0 ∧ k = n ∧ w = w1) 𝒥 → 𝒥 0 0 ws (lv_args 0 av) [] 0) : MX g y cc nL rt rm av ws n r w1 := by
  intro sz
  refine MetFree.of_bodyS (code := cc) (maxLocals := nL) (ret := rt) hy ?_ ?_
  · intro args s m h hn
    obtain ⟨meth, c, h1, h2, h3, h4, h5, h6, -, -⟩ := Cond.code_spec hn (atoms_spec (ws := Cond.code y cc nL rt :: wsG) h _ List.mem_cons_self)
    exact ⟨meth, c, h1, h2, h3, h4, h5, h6⟩
  · intro p e s m args below meth c s₁ B hml hv _
    obtain ⟨rfl, hsz, hP, hK, hD0, hSP⟩ := hv
    subst hsz
    have hts := atoms_spec (ws := Cond.code y cc nL rt :: wsG) B.pre
    have hD := hD0.self (sz := s.heap.size)
    have hemp : ∀ x ∈ c.exceptionTable.toList, ∀ pc, covers x pc = false := by
      obtain ⟨meth', c', h1, h2, -, -, -, -, h7, -⟩ := Cond.code_spec B.named (hts _ List.mem_cons_self)
      cases B.method.symm.trans h1
      have hc : c' = c := by
        have X := Stand.of_body B
        exact Option.some.inj (h2.symm.trans X.code)
      subst hc
      intro x hx
      have : c'.exceptionTable = #[] := by simpa using h7
      rw [this] at hx
      cases hx
    have h1 := h _ ⟨p, e, s, m, av.toArray, below, meth, c, va_A ws s.heap.size, (fun t => ∃ o, t.status = .running ∧ Ended t below o ∧ QX g n r w1 (va_A ws s.heap.size) rm.cells rm.slots s o t), ⟨B.exec, B.bytes, hml, B.returns, B.notSynchronized, findClass_of_methodNamed B.named, fun w hw => hts w (List.mem_cons_of_mem _ hw), hK, fun q hq => Or.inr hq, hSP⟩,
      fun v w hp => ⟨fun _ st oc t => oc = .returned v ∧ va_P (g_D g) classes w t.heap ∧ va_D (va_A ws s.heap.size) w ∧ va_F (va_A ws s.heap.size) s t, va_A ws s.heap.size, fun t ht => by
        obtain ⟨o, a1, a2, ⟨a3, a4, a5, a6⟩, L, ⟨-, a7, a8⟩, a9⟩ := ht
        obtain ⟨p1, rfl, rfl⟩ := hp
        exact ⟨o, a1, a2, Or.inl ⟨p1, a3⟩, ⟨a4, va_K.moved a7.alike hK, a5⟩, a6, a7, L, a8, a9⟩, fun _ h => h, fun t hPw hDw hW hF => ⟨rfl, hPw, hDw, hF⟩⟩,
      fun k w hp a t L b1 b2 b3 b4 b5 b6 b7 b8 b9 => by
        obtain ⟨p0, rfl, rfl⟩ := hp
        exact ⟨.threw a, b1, b2, Or.inr ⟨p0, a, rfl, b3⟩, ⟨b4, va_K.moved b6.alike hK, b5⟩, b7, b6, L, b8, b9⟩, hemp, va_A_ns hP, rfl⟩
    rw [lg_entry_eq]
    have hh0 : s₁.heap = s.heap := by rw [B.state]; rfl
    obtain ⟨t, a1, o, a2, a3, a4⟩ := h1 s.heap [] _ hP hD va_S.rf (lv_entry av hn) s₁ hh0 (Stand.of_body B)
    exact ⟨t, o, a1, a2, a3, a4⟩
/-! throw new E() -/
/-- where a walk stands, taken as the start of a walk of its own -/
theorem xt_anew {p : Program} {l : Launch} {e : Env} {R R' : Room} {s : State} {m : MethodId} {args : Array Value} {below : List Frame} {meth : Method} {c : Code} {T : State} {locs : List Loc} {cells slots : Nat} (X : Stand p l e R s m args below meth c T locs cells slots)
    (r1 : R'.frames ≤ R.frames) (r2 : R'.locals ≤ R.locals) (r3 : cells + R'.cells ≤ R.cells) (r4 : slots + R'.slots ≤ R.slots) : Stand p l e R' ((T.setVm s.vm).setFrames (.invoking m args :: below)) m args below meth c T [] 0 0 := by
  have top : (T.setVm s.vm).topJava?.isSome := X.here.top
  have fr : ((T.setVm s.vm).setFrames (.invoking m args :: below)).frames = .invoking m args :: below := State.frames_setFrames _ (State.cur_lt_of_top top)
  have lim : e.platform.stackLimits (T.setVm s.vm).me = e.platform.stackLimits s.me := X.limits
  have byt : (T.setVm s.vm).me.stackBytes = s.me.stackBytes := X.bytes
  have room : ((T.setVm s.vm).setFrames (.invoking m args :: below)).hasRoom e.platform R' = true := by
    have h := X.room
    have loc : ((T.setVm s.vm).setFrames (.invoking m args :: below)).localsInUse = s.localsInUse := by
      rw [State.localsInUse_invoking fr (meth := meth) (c := c) X.method X.code, State.localsInUse_invoking X.frames X.method X.code]
    have hs := X.heapSize
    have hu := X.used
    have hbk := X.book
    simp only [State.hasRoom, Bool.and_eq_true, decide_eq_true_eq] at h ⊢
    obtain ⟨⟨⟨⟨h1, h2, h3, h4, h5, h6⟩, h7⟩, h8⟩, h9⟩ := h
    rw [X.frames, List.length_cons] at h2 h3
    simp only [fr, loc, List.length_cons, State.stackLimits_setFrames, State.stackBytes_setFrames, lim, byt]
    refine ⟨⟨⟨⟨by omega, by omega, by omega, by omega, by omega, h6⟩, ?_⟩, ?_⟩, hbk⟩
    · show T.heap.size + R'.cells ≤ e.platform.maxCells
      omega
    · show T.slotsUsed + R'.slots ≤ e.platform.maxSlots
      omega
  have nil : (T.heap.toList.drop T.heap.size) = [] := List.drop_eq_nil_of_le (Nat.le_of_eq Array.length_toList)
  obtain ⟨g₀, h0⟩ := Option.isSome_iff_exists.mp top
  obtain ⟨r, hr⟩ := State.topJava?_eq_some.mp h0
  obtain ⟨th, hth, -⟩ := State.frames_cons hr
  refine ⟨X.admits, X.cas, X.clock, fr, room, X.hears, X.method, X.code, X.here, X.tail, X.warmed, by rw [State.stackLimits_setFrames]; rfl, by rw [State.stackBytes_setFrames]; rfl, ?_, Nat.le_refl _, Nat.le_refl _, ?_, ?_, fun a c9 h9 => ⟨c9, h9, rfl, rfl, fun _ _ => rfl⟩⟩
  · show T.setVm s.vm = { ((T.setVm s.vm).setFrames (.invoking m args :: below)).setFrames (T.setVm s.vm).frames with heap := T.heap, slotsUsed := T.slotsUsed }
    rw [State.setFrames_setFrames, State.setFrames_self hth]
    rfl
  · show T.slotsUsed = T.slotsUsed + ((T.heap.toList.drop T.heap.size).map (·.slots.size)).sum
    rw [nil]; rfl
  · show ((T.heap.toList.drop T.heap.size).map (·.slots.size)).sum ≤ 0
    rw [nil]; exact Nat.le_refl _
/-- cells that no written slot lies in are as they were -/
theorem xt_old {s U : State} {k n : Nat} (h : s.sameButNew ({ U with vm := s.vm } : State) [] k n) : s.heap.size ≤ U.heap.size ∧ ∀ q : Nat, q < s.heap.size → U.heap[q]? = s.heap[q]? := by
  obtain ⟨-, h2, -, -, -, h6⟩ := h
  refine ⟨h2, fun q hq => ?_⟩
  obtain ⟨ce, g1, g2, -, g4⟩ := h6 q _ (Array.getElem?_eq_getElem hq)
  have g5 : ce.slots = (s.heap[q]).slots := Array.ext_getElem? fun i => g4 i (fun hm => nomatch hm)
  rw [g5] at g2
  have g6 : U.heap[q]? = some ce := g1
  rw [g6, g2, Array.getElem?_eq_getElem hq]
def xFour : List Cond := [.isRef (.static "java/lang/Throwable" "UNASSIGNED_STACK" steD0), .isRef (.static "java/lang/Throwable" "SUPPRESSED_SENTINEL" listD0), .laysStatic "java/lang/Throwable" "UNASSIGNED_STACK" steD0, .laysStatic "java/lang/Throwable" "SUPPRESSED_SENTINEL" listD0]
def xOk (w : Cond) : Prop := w ∈ xFour ∨ w ∈ wsG ∨ w ∈ xW
/-- what the tables say of a throw of E in a method of 'own' -/
def XT (own : String) (ik ic n : Nat) (names : List String) : Prop := (∀ w ∈ Bundle.ownAtoms0 own ic (xN n) names, xOk w) ∧ Cond.classLink own ik (xN n) ∈ wsG ∧ Cond.initialized (xN n) ∈ wsG ∧ Bundle.fit (xN n) = true ∧ (∀ k ∈ names, Bundle.fit k = true)
theorem j_throw {g : GT} {R : Room} {cc : ByteArray} {nL : Nat} {rt : Option FieldType} {own : String} {post : Option Value → va_W → Prop} {xp : Nat → va_W → Prop} {𝒥 : JT} {ws : va_W} {lc : List (Nat × Value)} {pc : Nat} (C : JX g R cc nL rt own post xp 𝒥) {ik ic n : Nat} {names : List String} (hX : XT own ik ic n names)
    (d0 : decode cc pc = .ok (.new ik, 3)) (d3 : decode cc (pc + 3) = .ok (.dup, 1)) (d4 : decode cc (pc + 4) = .ok (.invokespecial ic, 3)) (d7 : decode cc (pc + 7) = .ok (.athrow, 1)) (hp : xp n ws) (hr : names.length + 3 < R.frames ∧ 13 * (names.length + 1) + 42 ≤ R.locals ∧ 1 ≤ R.cells ∧ 6 ≤ R.slots) : 𝒥 0 0 ws lc [] pc := by
  obtain ⟨p, e, s, m, args, below, meth, c, A, Q, F, -, thr, hout, hns, rfl⟩ := C
  obtain ⟨hx, hb, hml, hrt, hlk, hown, hts, hK, hA, hSP⟩ := F
  obtain ⟨hat, hk, hini, hfit, hfits⟩ := hX
  intro H locs ls hP hD hS hl T hT X
  have htr := hSP.2.1.1 e X.admits
  have Y := xt_anew X (R' := { frames := R.frames, locals := R.locals, cells := 1, slots := 6 }) (Nat.le_refl _) (Nat.le_refl _) (by rw [Nat.zero_add]; exact hr.2.2.1) (by rw [Nat.zero_add]; exact hr.2.2.2)
  obtain ⟨s', hs'⟩ : ∃ z, z = (T.setVm s.vm).setFrames (.invoking m args :: below) := ⟨_, rfl⟩
  rw [← hs'] at Y
  have hvm : s'.vm = s.vm := by rw [hs']; rfl
  have hhp : s'.heap = H := by rw [hs']; exact hT
  have hW0 : s.WarmedH s'.vm := by rw [hvm]; exact State.WarmedH.refl s
  have hSx : SPx g A s' s'.heap := by rw [hhp]; exact hSP.2.1.called (fun a h1 h2 => hS.2.1 a h1 h2) hW0.alike (fun _ h => h)
  have wG : ∀ w ∈ wsG, w.before args s' = true := fun w hw => word_at hW0 (good_of_word (wsG_good _ hw)) (hts w hw)
  have hatoms : ∀ w ∈ Bundle.ownAtoms0 own ic (xN n) names, w.before args s' = true := by
    intro w hw
    rcases hat w hw with h1 | h1 | h1
    · simp only [xFour, List.mem_cons, List.not_mem_nil, or_false] at h1
      rcases h1 with rfl | rfl | rfl | rfl
      · exact hSx.2.1.isref
      · exact hSx.2.2.1.isref
      · exact hSx.2.1.lays
      · exact hSx.2.2.1.lays
    · exact wG w h1
    · exact aWord.moved (xW_a w h1) (Vm.Alike.refl s'.vm) (hSx.2.2.2.1 w h1)
  have hown' : s'.vm.findClass own = some m.cls := by rw [hvm]; exact hown
  obtain ⟨vm₁, cX, kX, hfX, hkX, -, -, X₁, st1⟩ := Y.newCold hx (own := own) (C := xN n) (index := ik) (n := 6) hown' (wG _ hk) (hatoms _ (by simp [Bundle.ownAtoms0])) (wG _ hini) (g := F0 m pc ls []) rfl (by rw [hb]; exact d0) (Nat.le_refl _) (Nat.le_refl _)
  generalize hT1 : (T.setVm vm₁).pushCell { cls := cX, slots := kX.instanceTypes.map defaultValue, vm := .none } = T1 at X₁ st1
  have hcA : T1.heap[T.heap.size]? = some (freshCell cX kX) := by rw [← hT1]; exact State.heap_pushCell_size _ _
  have d3' : decode c.code (pc + 3) = .ok (.dup, 1) := by rw [hb]; exact d3
  obtain ⟨U, hst, hrun, hend, hW, hsame, ce, hce, hO⟩ := X₁.ctorThrow0 hx htr (own := own) (cls := xN n) (names := names) (ic := ic) hown' hfit hfits hatoms (fun x hx => nomatch hx) hfX hkX hcA (by rw [hhp, hT]; exact Nat.le_refl _)
    (g := { method := m, pc := pc + 4, locals := ls, stack := .ref T.heap.size :: .ref T.heap.size :: [], locked := none }) rfl (hl.1.trans hml.symm) rfl rfl (rest := []) rfl (by rw [hb]; exact d4) (by rw [hb]; exact d7) (fun x hx => hout x hx _) hr.1
    (by have h2 := hr.2.1; have h3 : ((Value.ref T.heap.size :: ([] : List Value)).map fun v => v.category).sum = 1 := rfl; rw [h3]; show 2 * 0 + 1 + (13 * (names.length + 1) + 41) ≤ R.locals; omega) hlk
  obtain ⟨f1, f2⟩ := xt_old hsame
  rw [hhp] at f1 f2
  have hWs : s.WarmedH U.vm := State.WarmedH.trans hW0 hW
  have hall : s.sameButNew ({ U with vm := s.vm } : State) locs R.cells R.slots := by
    subst hs'
    obtain ⟨e1, e2⟩ := hsame
    rw [State.setFrames_setFrames] at e1
    have h2 : (T.setVm s.vm).sameButNew ({ U with vm := s.vm } : State) [] (0 + 1) (0 + 6) := ⟨e1, e2⟩
    have h3 := X.same.trans h2
    rw [List.append_nil] at h3
    exact h3.mono (by have := hr.2.2.1; omega) (by have := hr.2.2.2; omega)
  have hPU : va_P (g_D g) classes ws U.heap := hP.kept (fun k q hk => f2 q.1 (hP k q hk).lt)
  have hFU : va_F A s U := ⟨Nat.le_trans hS.1 f1, fun q h1 h2 => (f2 q (Nat.lt_of_lt_of_le h1 hS.1)).trans (hS.2.1 q h1 h2)⟩
  refine ⟨U, ?_, thr n ws hp _ U locs hrun hend ⟨ce, hce, hO.vm, ?_⟩ hPU hD hWs hFU hall hS.2.2⟩
  · refine st1 _ ?_
    show Steps p.tables e below (T1.setTop { method := m, pc := pc + 3, locals := ls, stack := [.ref T.heap.size], locked := none }) _
    jvm_step X₁.here [X₁.here.top, hx, d3', Value.category]
    exact hst
  · have h9 := hO.cls
    rw [hvm] at h9
    exact h9
/-! a method whose table catches -/
def JH (g : GT) (R : Room) (cc : ByteArray) (nL : Nat) (rt : Option FieldType) (own : String) (hs : List (Nat × Nat × Nat × Nat)) (post : Option Value → va_W → Prop) (𝒥 : JT) : Prop :=
  ∃ (p : Program) (e : Env) (s : State) (m : MethodId) (args : Array Value) (below : List Frame) (meth : Method) (c : Code) (A : Nat → Prop) (Q : State → Prop),
    JF p g s m args meth c cc nL rt own A ∧
    (∀ (v : Option Value) (w : va_W), post v w → ∃ (Qc : Array Value → State → Outcome → State → Prop) (free : Addr → Prop), (∀ t, MQ below Qc args s R.cells R.slots free t → Q t) ∧ (∀ q, A q → free q) ∧ ∀ t : State, va_P (g_D g) classes w t.heap → va_D A w → s.WarmedH t.vm → va_F A s t → Qc args s (.returned v) t) ∧
    c.exceptionTable.toList.map (fun h => (h.startPc, h.endPc, h.handlerPc, h.catchType)) = hs ∧
    𝒥 = JJ p g e R s m args below meth c nL A Q
theorem JH.K {g : GT} {R : Room} {cc : ByteArray} {nL : Nat} {rt : Option FieldType} {own : String} {hs : List (Nat × Nat × Nat × Nat)} {post : Option Value → va_W → Prop} {𝒥 : JT} (h : JH g R cc nL rt own hs post 𝒥) : JK g R cc nL rt own post 𝒥 := by
  obtain ⟨p, e, s, m, args, below, meth, c, A, Q, h1, h2, -, h3⟩ := h
  exact ⟨p, e, s, m, args, below, meth, c, A, Q, h1, h2, h3⟩
def MH (g : GT) (y : MethodName) (cc : ByteArray) (nL : Nat) (rt : Option FieldType) (hs : List (Nat × Nat × Nat × Nat)) (rm : Room) (av : List Value) (ws : va_W) (r : Int32) (w1 : va_W) : Prop :=
  ∀ sz : Nat, Met (g_l g) y (Cond.codeWith y cc nL rt hs :: wsG) rm (MPc g av ws sz) (va_Qi (fun (x : Int32) (w : va_W) => x = r ∧ w = w1) (MB g (va_A ws sz)) (va_A ws sz)) rm.cells rm.slots (va_A ws sz)
theorem MH.of {g : GT} {y : MethodName} {cc : ByteArray} {nL : Nat} {rt : Option FieldType} {hs : List (Nat × Nat × Nat × Nat)} {rm : Room} {av : List Value} {ws w1 : va_W} {r : Int32} (hy : plainName y.cls = true) (hn : (lg_sl av).length ≤ nL)
    (h : ∀ 𝒥 : JT, JH g rm cc nL rt y.cls hs (fun v w => v = some (.int r) ∧ w = w1) 𝒥 → 𝒥 0 0 ws (lv_args 0 av) [] 0) : MH g y cc nL rt hs rm av ws r w1 := by
  intro sz
  refine MetFree.of_bodyS (code := cc) (maxLocals := nL) (ret := rt) hy ?_ ?_
  · intro args s m h hn
    obtain ⟨m', meth, c, h0, h1, h2, h3, h4, h5, h6, h7, -⟩ := Cond.codeWith_spec (atoms_spec (ws := Cond.codeWith y cc nL rt hs :: wsG) h _ List.mem_cons_self)
    cases hn.symm.trans h0
    exact ⟨meth, c, h1, h2, h3, h4, h6, h7⟩
  · intro p e s m args below meth c s₁ B hml hv _
    obtain ⟨rfl, hsz, hP, hK, hD0, hSP⟩ := hv
    subst hsz
    have hts := atoms_spec (ws := Cond.codeWith y cc nL rt hs :: wsG) B.pre
    have hD := hD0.self (sz := s.heap.size)
    have X := Stand.of_body B
    have htab : c.exceptionTable.toList.map (fun h => (h.startPc, h.endPc, h.handlerPc, h.catchType)) = hs := by
      obtain ⟨m', meth', c', h0, h1, h2, -, -, h5, -⟩ := Cond.codeWith_spec (hts _ List.mem_cons_self)
      cases B.named.symm.trans h0
      cases B.method.symm.trans h1
      cases h2.symm.trans X.code
      exact h5
    have h1 := h _ ⟨p, e, s, m, av.toArray, below, meth, c, va_A ws s.heap.size, (MQ below (va_Qi (fun (x : Int32) (w : va_W) => x = r ∧ w = w1) (MB g (va_A ws s.heap.size)) (va_A ws s.heap.size)) av.toArray s rm.cells rm.slots (va_A ws s.heap.size)), ⟨B.exec, B.bytes, hml, B.returns, B.notSynchronized, findClass_of_methodNamed B.named, fun w hw => hts w (List.mem_cons_of_mem _ hw), hK, fun q hq => Or.inr hq, hSP⟩,
      fun v w hp => ⟨(va_Qi (fun (x : Int32) (w : va_W) => x = r ∧ w = w1) (MB g (va_A ws s.heap.size)) (va_A ws s.heap.size)), va_A ws s.heap.size, fun _ h => h, fun _ h => h, fun t hPw hDw hW hF => ⟨⟨r, w, by rw [hp.1], ⟨rfl, hp.2⟩, hPw, va_K.moved hW.alike hK, hDw⟩, hF⟩⟩, htab, rfl⟩
    rw [lg_entry_eq]
    have hh0 : s₁.heap = s.heap := by rw [B.state]; rfl
    obtain ⟨t, a1, o, a2, a3, a4⟩ := h1 s.heap [] _ hP hD va_S.rf (lv_entry av hn) s₁ hh0 X
    exact ⟨t, o, a1, a2, a3, a4⟩
/-- which row of the table takes the exception number n at pc; those ahead let it pass -/
def XH (own : String) (hs : List (Nat × Nat × Nat × Nat)) (pc n hpc : Nat) : Prop := ∃ (pre suf : List (Nat × Nat × Nat × Nat)) (sp ep ct : Nat), hs = pre ++ (sp, ep, hpc, ct) :: suf ∧ (decide (sp ≤ pc) && decide (pc < ep)) = true ∧ ct ≠ 0 ∧ Cond.classLink own ct (xN n) ∈ wsG ∧ Cond.castable (xN n) (xN n) ∈ xW ∧
  ∀ z ∈ pre, z.2.2.2 ≠ 0 ∧ ∃ nm, Cond.classLink own z.2.2.2 nm ∈ wsG ∧ (xN n, nm) ∈ nCx
theorem j_callX {g : GT} {R : Room} {cc : ByteArray} {nL : Nat} {rt : Option FieldType} {own : String} {hs : List (Nat × Nat × Nat × Nat)} {post : Option Value → va_W → Prop} {𝒥 : JT} {kc ks : Nat} {ws ws' wc : va_W} {lc : List (Nat × Value)} {rest : List Value} {pc : Nat} (C : JH g R cc nL rt own hs post 𝒥)
    {index n : Nat} (hdg : decode cc pc = .ok (.invokevirtual index, 3)) {y : MethodName} {c2 : ByteArray} {n2 : Nat} {r2 : Option FieldType} {rm : Room} {b : Nat} {As st0 : List Value} {code : Nat} {r : Option Value} {w1 : va_W} (hM : MX g y c2 n2 r2 rm (.ref b :: As) wc code r w1)
    (hcv : CV y c2 n2 r2 n) (hw : Cond.methodLink own index y ∈ wsG) (qb : Nat) {ci : Nat} {fs : List Value} {T : u_T} {N : Nat} (hb : ws[qb]? = some (b, .inr (ci, fs))) (hci : classes[ci]? = some (y.cls, T, N)) (hcut : Cut ws wc w1 ws') (hst : st0 = As.reverse ++ .ref b :: rest) (hlen : As.length = n) (hroom : (rest.map fun v => v.category).sum ≤ 8) {kc2 ks2 : Nat} (hrm : RmOk rm R n2 kc ks kc2 ks2)
    (k0 : code = 0 → 𝒥 kc2 ks2 ws' lc (r.toList ++ rest) (pc + 3)) (kx : code ≠ 0 → ∃ hpc, XH own hs pc code hpc ∧ ∀ a : Nat, 𝒥 kc2 ks2 ws' lc [.ref a] hpc) : 𝒥 kc ks ws lc st0 pc := by
  obtain ⟨p, e, s, m, args, below, meth, c, A, Q, F, -, htab, rfl⟩ := C
  obtain ⟨hx, hbc, hml, hrt, hlk, hown, hts, hK, hA, hSP⟩ := F
  subst hst
  obtain ⟨u1, u2, rfl, rfl⟩ := hrm
  intro H locs ls hP hD hS hl T0 hT X
  have hF := hcut.free hD hS hA
  obtain ⟨hPc, hDc⟩ := hcut.callee hP hD
  obtain ⟨⟨hcode, hini, hy1, hy2, hpar⟩, hinst, hsel⟩ := hcv
  obtain ⟨mk, methM, hnamed, hmethM, hstM, habM⟩ := Cond.instanceMethod_spec (hts _ hinst)
  obtain ⟨methM', cM, hmethM', hcM, -, hlM, -, -, -, hsigM⟩ := Cond.code_spec hnamed (hts _ hcode)
  cases hmethM.symm.trans hmethM'
  obtain ⟨c2', r2', m2', q1, q2, q3, q4, kP, hkP, hkPi⟩ := Cond.selects_spec (hts _ hsel)
  obtain ⟨cellB, hcB, hoB, hclB⟩ := va_recv hK hP hci hb
  cases hclB.symm.trans q1
  cases (State.methodFound?_of_named hnamed ⟨hy1, hy2⟩).symm.trans q2
  cases hnamed.symm.trans q3
  have hselP : selectMethod e.platform s.vm cellB.cls mk = .method mk := by rw [Launch.admits_selectMethod X.admits]; exact q4
  have hlenS : As.length = methM.sig.parameters.length := by
    rw [hsigM] at hpar
    rw [hlen]
    exact (Option.some.inj hpar).symm
  obtain ⟨vm₁, X₁, hstep₁⟩ := X.invokevirtual hx hown (hts _ hw) hnamed hmethM hstM hkP hkPi ⟨hy1, hy2⟩ (a := b) (cell := cellB) (by rw [hT]; exact hcB) (fun z h => by rw [h] at hoB; cases hoB) hselP hmethM habM hkP hkPi (g := F0 m pc ls (As.reverse ++ .ref b :: rest)) rfl (argsL := As) (rest := rest) hlenS rfl (by rw [hbc]; exact hdg)
  have hT1 : (T0.setVm vm₁).heap = H := hT
  generalize T0.setVm vm₁ = T1 at X₁ hstep₁ hT1
  have hW1 := X₁.warmed
  have hgood : ∀ w ∈ (Cond.code y c2 n2 r2 :: wsG), w.before (Value.ref b :: As).toArray T1 = true := fun w hw => word_at hW1 ((goodAll hcode) w hw).2 (hts w ((goodAll hcode) w hw).1)
  obtain ⟨o, t, hq, hgo⟩ := xr_call X₁ (hM H.size) (mk := mk) (a := (Value.ref b :: As).toArray) (maxL := n2) (g := F0 m pc ls rest) (ig := .invokevirtual index) (len := 3) rfl (hl.1.trans hml.symm) (by rw [hbc]; exact hdg) (X₁.named hnamed) (atoms_intro hgood) (methY := methM) (cY := cM) (by rw [hW1.alike.method?]; exact hmethM) hcM hlM
    (word_at hW1 (Or.inl (by first | rfl | simp [Cond.onTables, Cond.keeps, Cond.steady])) (hts _ hini)) u1.1 (by have := lv_room (m := m) (pc := pc) (ls := ls) (rest := rest) hroom; have h2 := u1.2; show 2 * (F0 m pc ls rest).monitorRoom + (rest.map fun v => v.category).sum + (n2 + 11) + rm.locals ≤ R.locals; omega) u2.1 u2.2
    (mk_blind _ _ _ _ (mk_start hK hSP hS hPc hDc hF T1 hT1 hW1))
  obtain ⟨hoc, ⟨hP1, hK1, hD1⟩, hFr, hWt, L, hsm, hL⟩ := hq
  obtain ⟨T2, e1, e2, X2, hret, hthr⟩ := hgo L rm.cells rm.slots hWt hsm
  have hz : H.size ≤ t.heap.size := by
    have := hFr.1
    have h2 : ((T1.calling (F0 m pc ls rest) mk (Value.ref b :: As).toArray).heap).size = H.size := by show T1.heap.size = _; rw [hT1]
    rw [h2] at this; exact this
  have hk : ∀ q : Nat, q < H.size → ¬ va_A wc H.size q → t.heap[q]? = H[q]? := fun q h1 h2 => by
    have h3 := hFr.2 q (by show q < T1.heap.size; rw [hT1]; exact h1) h2
    have h4 : (T1.calling (F0 m pc ls rest) mk (Value.ref b :: As).toArray).heap = H := hT1
    rw [h4] at h3; exact h3
  obtain ⟨wr, p1, p2⟩ := hcut
  obtain ⟨hP2, hD2⟩ := va_cut hP hD p1 p2 hk hF hP1 hD1
  have hS2 : va_S A s.heap t.heap (locs ++ L) := ⟨Nat.le_trans hS.1 hz, fun q h1 h2 => (hk q (Nat.lt_of_lt_of_le h1 hS.1) (fun z => h2 (hF q z))).trans (hS.2.1 q h1 h2), fun q hq => by
    rcases List.mem_append.mp hq with h | h
    · exact hS.2.2 q h
    · exact hF _ (hL q h)⟩
  rcases hoc with ⟨hn0, rfl⟩ | ⟨hn0, a, rfl, ce, hce, hcv2, hcl⟩
  · obtain ⟨t2, a1, b1⟩ := k0 hn0 t.heap (locs ++ L) ls hP2 hD2 hS2 hl T2 e1 X2
    exact ⟨t2, hstep₁ _ fun acts => by rw [doInvoke_state]; exact (hret r rfl).trans a1, b1⟩
  · obtain ⟨hpc, ⟨pre, suf, sp, ep, ct, htt, hcov, hct, hlink, hcast, hpass⟩, kx⟩ := kx hn0
    have hcl2 : s.vm.findClass (xN code) = some ce.cls := by
      have h5 : T1.vm.findClass (xN code) = some ce.cls := hcl
      rw [hW1.alike.findClass] at h5; exact h5
    have hpl : e.platform.magicAccessors = ({} : Platform).magicAccessors := by rw [X.admits.platform]
    rw [htt] at htab
    obtain ⟨pre1, rest1, hsp, hpre, hrest1⟩ := List.map_eq_append_iff.mp htab
    obtain ⟨x1, suf1, hrs, hx1, hsuf⟩ := List.map_eq_cons_iff.mp hrest1
    subst hrs
    simp only [Prod.mk.injEq] at hx1
    obtain ⟨x_s, x_e, x_h, x_c⟩ := hx1
    have hcovx : covers x1 pc = true := by simp only [covers]; rw [x_s, x_e]; exact hcov
    obtain ⟨cT, hcT, hlk2⟩ := Cond.classLink_spec hown (hts _ hlink) e.platform hpl
    obtain ⟨ca, cb, h6, h7, hasg⟩ := Cond.castable_spec (aWord.moved (A' := args) rfl (Vm.Alike.refl s.vm) (hSP.2.1.2.2.2.1 _ hcast))
    cases h6.symm.trans hcl2
    cases h7.symm.trans hcT
    obtain ⟨v, X3, st3⟩ := xc_step X2 (a := a) (g := F0 m pc ls rest) rfl (cell := ce) (by rw [e1]; exact hce) (by rw [hcv2]; rfl) (by obtain ⟨k9, h9, -⟩ := Vm.findClass_spec hcl2; exact ⟨k9, h9⟩) hsp
      (fun z hz => by
        have hz2 : (z.startPc, z.endPc, z.handlerPc, z.catchType) ∈ pre := by rw [← hpre]; exact List.mem_map.mpr ⟨z, hz, rfl⟩
        obtain ⟨z0, nm, zl, zn⟩ := hpass _ hz2
        obtain ⟨cN, hcN, hlN⟩ := Cond.classLink_spec hown (hts _ zl) e.platform hpl
        obtain ⟨c8, t8, h8, h9, h10⟩ := hSP.2.1.2.2.2.2 _ zn
        cases h8.symm.trans hcl2
        cases h9.symm.trans hcN
        exact Or.inr ⟨z0, cN, hlN, h10⟩)
      ⟨hcovx, by rw [x_c]; exact hct, cT, by rw [x_c]; exact hlk2, hasg⟩
    obtain ⟨t2, a1, b1⟩ := kx a t.heap (locs ++ L) ls hP2 hD2 hS2 hl (T2.setVm v) e1 X3
    refine ⟨t2, hstep₁ _ fun acts => ?_, b1⟩
    rw [doInvoke_state]
    refine (hthr a rfl).trans (st3 t2 ?_)
    rw [x_h]
    exact a1
/-- the law's call of a method whose table catches -/
theorem j_callH {g : GT} {R : Room} {cc : ByteArray} {nL : Nat} {rt : Option FieldType} {own : String} {post : Option Value → va_W → Prop} {𝒥 : JT} {kc ks : Nat} {ws ws' wc : va_W} {lc : List (Nat × Value)} {rest : List Value} {pc : Nat} (C : JK g R cc nL rt own post 𝒥)
    {index n : Nat} (hdg : decode cc pc = .ok (.invokestatic index, 3)) {y : MethodName} {c2 : ByteArray} {n2 : Nat} {r2 : Option FieldType} {hs : List (Nat × Nat × Nat × Nat)} {rm : Room} {As st0 : List Value} {r : Int32} {w1 : va_W} (hM : MH g y c2 n2 r2 hs rm As wc r w1)
    (hcode : Cond.codeWith y c2 n2 r2 hs ∈ wsG) (hini : Cond.initialized y.cls ∈ wsG) (hstat : Cond.static y ∈ wsG) (hpar : y.cls ≠ "java/lang/invoke/MethodHandle" ∧ y.cls ≠ "java/lang/invoke/VarHandle" ∧ (parseMethodDescriptor y.desc).map (fun d => d.parameters.length) = some n)
    (hw : Cond.methodLink own index y ∈ wsG) (hcut : Cut ws wc w1 ws') (hst : st0 = As.reverse ++ rest) (hlen : As.length = n) (hroom : (rest.map fun v => v.category).sum ≤ 8) {kc2 ks2 : Nat} (hrm : RmOk rm R n2 kc ks kc2 ks2)
    (kk : 𝒥 kc2 ks2 ws' lc (.int r :: rest) (pc + 3)) : 𝒥 kc ks ws lc st0 pc := by
  obtain ⟨p, e, s, m, args, below, meth, c, A, Q, F, -, rfl⟩ := C
  obtain ⟨hx, hbc, hml, hrt, hlk, hown, hts, hK, hA, hSP⟩ := F
  subst hst
  obtain ⟨u1, u2, rfl, rfl⟩ := hrm
  intro H locs ls hP hD hS hl T0 hT X
  have hF := hcut.free hD hS hA
  obtain ⟨hPc, hDc⟩ := hcut.callee hP hD
  obtain ⟨hy1, hy2, hpar⟩ := hpar
  obtain ⟨mk, methM, cM, hnamed, hmethM, hcM, -, hlM, -, -, -, hsigM⟩ := Cond.codeWith_spec (hts _ hcode)
  have hstatic : methM.isStatic = true := Cond.static_spec hnamed hmethM (hts _ hstat)
  obtain ⟨kP, hkP, -⟩ := className_of_methodNamed hnamed
  have hinitP : kP.init = .initialized := Cond.initialized_spec (findClass_of_methodNamed hnamed) hkP (hts _ hini)
  have hlenS : As.length = methM.sig.parameters.length := by
    rw [hsigM] at hpar
    rw [hlen]
    exact (Option.some.inj hpar).symm
  obtain ⟨vm₁, X₁, hstep₁⟩ := X.invokestatic hx hown (hts _ hw) hnamed hmethM hstatic hkP hinitP ⟨hy1, hy2⟩ (g := F0 m pc ls (As.reverse ++ rest)) rfl (argsL := As) (rest := rest) hlenS rfl (by rw [hbc]; exact hdg)
  have hT1 : (T0.setVm vm₁).heap = H := hT
  generalize T0.setVm vm₁ = T1 at X₁ hstep₁ hT1
  have hW1 := X₁.warmed
  have hgood : ∀ w ∈ (Cond.codeWith y c2 n2 r2 hs :: wsG), w.before As.toArray T1 = true := fun w hw => word_at hW1 ((goodAll hcode) w hw).2 (hts w ((goodAll hcode) w hw).1)
  obtain ⟨o, t, ⟨⟨⟨x, u, rfl, ⟨rfl, rfl⟩, ⟨hP1, hK1, hD1⟩⟩, hFr⟩, L, ⟨-, hWt, hsm⟩, hL⟩, hgo⟩ := xr_call X₁ (hM H.size) (mk := mk) (a := As.toArray) (maxL := n2) (g := F0 m pc ls rest) (ig := .invokestatic index) (len := 3) rfl (hl.1.trans hml.symm) (by rw [hbc]; exact hdg) (X₁.named hnamed) (atoms_intro hgood) (methY := methM) (cY := cM) (by rw [hW1.alike.method?]; exact hmethM) hcM hlM
    (word_at hW1 (Or.inl (by first | rfl | simp [Cond.onTables, Cond.keeps, Cond.steady])) (hts _ hini)) u1.1 (by have := lv_room (m := m) (pc := pc) (ls := ls) (rest := rest) hroom; have h2 := u1.2; show 2 * (F0 m pc ls rest).monitorRoom + (rest.map fun v => v.category).sum + (n2 + 11) + rm.locals ≤ R.locals; omega) u2.1 u2.2
    (mk_blind _ _ _ _ (mk_start hK hSP hS hPc hDc hF T1 hT1 hW1))
  obtain ⟨T2, e1, e2, X2, hret, -⟩ := hgo L rm.cells rm.slots hWt hsm
  have hz : H.size ≤ t.heap.size := by
    have := hFr.1
    have h2 : ((T1.calling (F0 m pc ls rest) mk As.toArray).heap).size = H.size := by show T1.heap.size = _; rw [hT1]
    rw [h2] at this; exact this
  have hk : ∀ q : Nat, q < H.size → ¬ va_A wc H.size q → t.heap[q]? = H[q]? := fun q h1 h2 => by
    have h3 := hFr.2 q (by show q < T1.heap.size; rw [hT1]; exact h1) h2
    have h4 : (T1.calling (F0 m pc ls rest) mk As.toArray).heap = H := hT1
    rw [h4] at h3; exact h3
  obtain ⟨wr, p1, p2⟩ := hcut
  obtain ⟨hP2, hD2⟩ := va_cut hP hD p1 p2 hk hF hP1 hD1
  have hS2 : va_S A s.heap t.heap (locs ++ L) := ⟨Nat.le_trans hS.1 hz, fun q h1 h2 => (hk q (Nat.lt_of_lt_of_le h1 hS.1) (fun z => h2 (hF q z))).trans (hS.2.1 q h1 h2), fun q hq => by
    rcases List.mem_append.mp hq with h | h
    · exact hS.2.2 q h
    · exact hF _ (hL q h)⟩
  obtain ⟨t2, a1, b1⟩ := kk t.heap (locs ++ L) ls hP2 hD2 hS2 hl T2 e1 X2
  exact ⟨t2, hstep₁ _ fun acts => by rw [doInvoke_state]; exact (hret _ rfl).trans a1, b1⟩
/-! constructors: cells are made -/
def JC (g : GT) (R : Room) (cc : ByteArray) (nL : Nat) (own : String) (post : va_W → Prop) (𝒥 : JT) : Prop :=
  ∃ (p : Program) (e : Env) (s : State) (m : MethodId) (args : Array Value) (below : List Frame) (meth : Method) (c : Code) (A : Nat → Prop) (Q : State → Prop),
    JF p g s m args meth c cc nL none own A ∧
    (∀ (v : Option Value) (w : va_W), v = none ∧ post w → ∃ (Qc : Array Value → State → Outcome → State → Prop) (free : Addr → Prop), (∀ t, MQ below Qc args s R.cells R.slots free t → Q t) ∧ (∀ q, A q → free q) ∧ ∀ t : State, va_P (g_D g) classes w t.heap → va_D A w → s.WarmedH t.vm → va_F A s t → Qc args s (.returned v) t) ∧
    meth.name = "<init>" ∧ 𝒥 = JJ p g e R s m args below meth c nL A Q
theorem JC.K {g : GT} {R : Room} {cc : ByteArray} {nL : Nat} {own : String} {post : va_W → Prop} {𝒥 : JT} (h : JC g R cc nL own post 𝒥) : JK g R cc nL none own (fun v w => v = none ∧ post w) 𝒥 := by
  obtain ⟨p, e, s, m, args, below, meth, c, A, Q, h1, h2, -, h3⟩ := h
  exact ⟨p, e, s, m, args, below, meth, c, A, Q, h1, h2, h3⟩
def MC (g : GT) (y : MethodName) (cc : ByteArray) (nL : Nat) (rm : Room) (av : List Value) (ws : va_W) (post : va_W → Prop) : Prop :=
  ∀ sz : Nat, Met (g_l g) y (Cond.code y cc nL none :: wsG) rm (MPc g av ws sz) (va_Qv post (MB g (va_A ws sz)) (va_A ws sz)) rm.cells rm.slots (va_A ws sz)
theorem MC.of {g : GT} {y : MethodName} {cc : ByteArray} {nL : Nat} {rm : Room} {av : List Value} {ws : va_W} {post : va_W → Prop} (hy : plainName y.cls = true) (hi : y.name = "<init>") (hn : (lg_sl av).length ≤ nL)
    (h : ∀ 𝒥 : JT, JC g rm cc nL y.cls post 𝒥 → 𝒥 0 0 ws (lv_args 0 av) [] 0) : MC g y cc nL rm av ws post := by
  intro sz
  refine Met.ofW (cc := cc) (maxL := nL) (ret := none) hy rfl ?_
  intro p e s m args below meth c s₁ B hml hv
  obtain ⟨rfl, hsz, hP, hK, hD0, hSP⟩ := hv
  subst hsz
  have hts := atoms_spec (ws := Cond.code y cc nL none :: wsG) B.pre
  have hD := hD0.self (sz := s.heap.size)
  have hnm : meth.name = "<init>" := (name_of_methodNamed B.named B.method).1.trans hi
  have h1 := h _ ⟨p, e, s, m, av.toArray, below, meth, c, va_A ws s.heap.size, MQ below (va_Qv post (MB g (va_A ws s.heap.size)) (va_A ws s.heap.size)) av.toArray s rm.cells rm.slots (va_A ws s.heap.size), ⟨B.exec, B.bytes, hml, B.returns, B.notSynchronized, findClass_of_methodNamed B.named, fun w hw => hts w (List.mem_cons_of_mem _ hw), hK, fun q hq => Or.inr hq, hSP⟩,
    fun v w hp => ⟨(va_Qv post (MB g (va_A ws s.heap.size)) (va_A ws s.heap.size)), va_A ws s.heap.size, fun _ h => h, fun _ h => h, fun t hPw hDw hW hF => ⟨⟨w, by rw [hp.1], hp.2, hPw, va_K.moved hW.alike hK, hDw⟩, hF⟩⟩, hnm, rfl⟩
  rw [lg_entry_eq]
  exact h1 s.heap [] _ hP hD va_S.rf (lv_entry av hn)
section New
variable {g : GT} {R : Room} {cc : ByteArray} {nL : Nat} {rt : Option FieldType} {own : String} {post : Option Value → va_W → Prop} {pc1 : va_W → Prop} {𝒥 : JT} {kc ks : Nat} {ws ws' wc wr : va_W} {lc : List (Nat × Value)} {rest : List Value} {pc : Nat}
theorem j_objInit (C : JK g R cc nL rt own post 𝒥) {idx a : Nat} (hdg : decode cc pc = .ok (.invokespecial idx, 3)) (h1 : Cond.methodLink own idx Lib.objectInit ∈ wsG) (h2 : Cond.instanceMethod Lib.objectInit ∈ wsG) (h3 : Cond.code Lib.objectInit ⟨#[0xb1]⟩ 1 none ∈ wsG) (hr : 1 ≤ R.frames ∧ (rest.map fun v => v.category).sum + 12 ≤ R.locals) (kk : 𝒥 kc ks ws lc rest (pc + 3)) : 𝒥 kc ks ws lc (.ref a :: rest) pc := by
  obtain ⟨p, e, s, m, args, below, meth, c, A, Q, F, -, rfl⟩ := C
  intro H locs ls hP hD hS hl
  refine W.objInit F.1 F.2.1 F.2.2.2.2.2.1 (F.2.2.2.2.2.2.1 _ h1) (F.2.2.2.2.2.2.1 _ h2) (F.2.2.2.2.2.2.1 _ h3) rfl (hl.1.trans F.2.2.1.symm) rfl hdg hr.1 ?_ ?_
  · show 2 * 0 + (rest.map fun v => v.category).sum + 12 ≤ R.locals
    omega
  · exact kk H locs ls hP hD hS hl
/-- new C -/
theorem j_new (C : JK g R cc nL rt own post 𝒥) {index ci N : Nat} {cn : String} {T : u_T} {fs : List Value} (hdg : decode cc pc = .ok (.new index, 3)) (hc : classes[ci]? = some (cn, T, N)) (hl : Cond.classLink own index cn ∈ wsG) (hi : Cond.instantiable cn N ∈ wsG) (hn : Cond.initialized cn ∈ wsG) (hfs : ∀ j, j < N → defaultValue ((parseFieldDescriptor (T j).2.2.1).getD .int) = vp_V fs j) {kc2 ks2 : Nat} (hk : kc + 1 = kc2 ∧ ks + N = ks2) (hr : kc + 1 ≤ R.cells ∧ ks + N ≤ R.slots)
    (kk : ∀ q : Nat, 𝒥 kc2 ks2 (ws ++ [(q, .inr (ci, fs))]) lc (.ref q :: rest) (pc + 3)) : 𝒥 kc ks ws lc rest pc := by
  obtain ⟨p, e, s, m, args, below, meth, c, A, Q, F, -, rfl⟩ := C
  obtain ⟨rfl, rfl⟩ := hk
  have hm := List.mem_of_getElem? hc
  intro H locs ls hP hD hS hls
  exact va_new (D := g_D g) (cl := classes) (ci := ci) (fs := fs) (C := cn) (T := T) (N := N) F.1 F.2.1 F.2.2.2.2.2.2.1 (clsIn _ hm) (fun k => (parseFieldDescriptor (T k).2.2.1).getD .int) (fun k hk => clsTy _ hm k hk) F.2.2.2.2.2.1 (F.2.2.2.2.2.2.1 _ hl) (F.2.2.2.2.2.2.1 _ hi) (F.2.2.2.2.2.2.1 _ hn) F.2.2.2.2.2.2.2.1 hP hD hS F.2.2.2.2.2.2.2.2.1 hc hfs hr.1 hr.2 hdg (fun q H1 hP1 hD1 hS1 => kk q H1 locs ls hP1 hD1 hS1 hls)
/-- new int[n] and the like -/
theorem j_newa (C : JK g R cc nL rt own post 𝒥) {at1 : ArrayType} {ty : FieldType} {a0 : vp_A} {i : Int32} {n : Nat} {cA : ClassId} (hdg : decode cc pc = .ok (.newarray at1, 2)) (hty : newarray.typeOf at1 = ty) (t0 : Nat) (htys : (g_tys g)[t0]? = some (cA, ty)) (hprim : ∀ (U : State) (c : ClassId), va_RA U c ty → U.vm.findClass ("[" ++ ty.toString) = some c) (hw : Cond.arrayClass ty ∈ wsG) (ha : ∀ c : ClassId, vp_cell c a0 = arrV c n (fun _ => defaultValue ty)) (hi : ¬ i < 0) (hn : i.toNatClampNeg = n) (hby : n * componentBytes ty ≤ 536870912)
    {kc2 ks2 : Nat} (hk : kc + 1 = kc2 ∧ ks + n = ks2) (hr : kc + 1 ≤ R.cells ∧ ks + n ≤ R.slots) (kk : ∀ q : Nat, 𝒥 kc2 ks2 (ws ++ [(q, .inl (cA, a0))]) lc (.ref q :: rest) (pc + 2)) : 𝒥 kc ks ws lc (.int i :: rest) pc := by
  obtain ⟨p, e, s, m, args, below, meth, c, A, Q, F, -, rfl⟩ := C
  obtain ⟨rfl, rfl⟩ := hk
  intro H locs ls hP hD hS hls
  have hK := F.2.2.2.2.2.2.2.1
  refine va_newa (D := g_D g) (cl := classes) F.1 F.2.1 (by rw [hty]; exact F.2.2.2.2.2.2.1 _ hw) hty hK hP hD hS F.2.2.2.2.2.2.2.2.1 ha hi hn hby hr.1 hr.2 hdg (fun q cB H1 hK1 hP1 hD1 hS1 => ?_)
  have e1 := hprim s cA (hK.2 t0 _ htys).2
  have e2 := hprim s cB (hK1.2 (g_tys g).length (cB, ty) (by rw [List.getElem?_append_right (Nat.le_refl _), Nat.sub_self]; rfl)).2
  cases e1.symm.trans e2
  exact kk q H1 locs ls hP1 hD1 hS1 hls
/-- a final field in its class's constructor -/
theorem j_putF (C : JC g R cc nL own pc1 𝒥) {a ci N index : Nat} {fs : List Value} {v : Value} {ref : String} {T : u_T} {ty : FieldType} (hdg : decode cc pc = .ok (.putfield index, 3)) (q0 k : Nat) (he : ws[q0]? = some (a, .inr (ci, fs))) (hc : classes[ci]? = some (ref, T, N)) (hk : k < N) (hw : Cond.fieldLink own index ref (T k).2.1 (T k).2.2.1 ∈ wsG) (hd : parseFieldDescriptor (T k).2.2.1 = some ty) (hfin : (T k).2.2.2 = true) (hdecl : (T k).1 = own) (hn : narrow ty v = v) (hfit : fits ty v = true) (hl2 : k < fs.length)
    (hws : ws.set q0 (a, .inr (ci, fs.set k v)) = ws') (kk : 𝒥 kc ks ws' lc rest (pc + 3)) : 𝒥 kc ks ws lc (v :: .ref a :: rest) pc := by
  subst hws
  obtain ⟨p, e, s, m, args, below, meth, c, A, Q, F, -, hnm, rfl⟩ := C
  have hm := List.mem_of_getElem? hc
  have h1 := clsOwn _ hm k hk
  exact fun H locs ls hP hD hS hl => va_putF (D := g_D g) (cl := classes) F.1 F.2.1 F.2.2.2.2.2.2.1 (clsIn _ hm) (fun k => (parseFieldDescriptor (T k).2.2.1).getD .int) (fun k hk => clsTy _ hm k hk) (clsNm _ hm) F.2.2.2.2.2.1 F.2.2.2.2.2.2.2.1 hP hD hS q0 he hc k hk (F.2.2.2.2.2.2.1 _ hw) (fun x h => by rw [h1] at h; exact h) hfin hnm hdecl hd hn hfit hl2 hdg (fun H1 locs1 hP1 hD1 hS1 => kk H1 locs1 ls hP1 hD1 hS1 hl)
/-- a constructor is called -/
theorem j_callC (C : JK g R cc nL rt own post 𝒥) {index n : Nat} (hdg : decode cc pc = .ok (.invokespecial index, 3)) {y : MethodName} {c2 : ByteArray} {n2 : Nat} {rm : Room} {b : Nat} {As st0 : List Value} {po : va_W → Prop} (hM : MC g y c2 n2 rm (.ref b :: As) wc po) (hcb : CB y c2 n2 none n) (hin : Cond.instanceMethod y ∈ wsG) (hnm : y.name = "<init>") (hw : Cond.methodLink own index y ∈ wsG) (hws : wr ++ wc = ws) (hst : st0 = As.reverse ++ .ref b :: rest) (hlen : As.length = n) (hroom : (rest.map fun v => v.category).sum ≤ 8) {kc2 ks2 : Nat} (hrm : RmOk rm R n2 kc ks kc2 ks2)
    (kk : ∀ w1 : va_W, po w1 → 𝒥 kc2 ks2 (wr ++ w1) lc rest (pc + 3)) : 𝒥 kc ks ws lc st0 pc := by
  obtain ⟨p, e, s, m, args, below, meth, c, A, Q, F, -, rfl⟩ := C
  subst hst
  subst hws
  obtain ⟨u1, u2, rfl, rfl⟩ := hrm
  intro H locs ls hP hD hS hl
  have hcut : ∀ w1 : va_W, Cut (wr ++ wc) wc w1 (wr ++ w1) := fun w1 => ⟨wr, List.Perm.refl _, List.Perm.refl _⟩
  have hF := (hcut []).free hD hS F.2.2.2.2.2.2.2.2.1
  obtain ⟨hPc, hDc⟩ := (hcut []).callee hP hD
  have hts := F.2.2.2.2.2.2.1
  have fx : CallFix p m c cc nL s args wsG own := ⟨F.1, F.2.1, F.2.2.1, F.2.2.2.2.2.1, hts⟩
  refine va_callv (va_runI fx (hM H.size) ⟨callB_of n hts (goodAll hcb.1) rfl rfl rfl (hts _ hcb.2.1) (hts _ hw) hcb.2.2 u1, hnm, hts _ hin⟩ ⟨mk_blind, mk_start F.2.2.2.2.2.2.2.1 F.2.2.2.2.2.2.2.2.2 hS hPc hDc hF⟩ rfl hlen hl.1 rfl (lv_room hroom) hdg u2) hS (fun q _ h => hF q h) hF (fun u t H1 locs1 ht hvm hp hB hz hk hS1 => ?_)
  obtain ⟨hP1, -, hD1⟩ := hB
  rw [ht] at hP1
  obtain ⟨hP2, hD2⟩ := va_cut hP hD (List.Perm.refl _) (List.Perm.refl _) hk hF hP1 hD1
  exact kk u hp H1 locs1 ls hP2 hD2 hS1 hl
/-- a constructor is called -/
theorem j_callCN (C : JK g R cc nL rt own post 𝒥) {index n : Nat} (hdg : decode cc pc = .ok (.invokespecial index, 3)) {y : MethodName} {c2 : ByteArray} {n2 : Nat} {rm : Room} {b : Nat} {As st0 : List Value} {po : va_W → Prop} (hM : MC g y c2 n2 rm (.ref b :: As) wc po) (hcb : CB y c2 n2 none n) (hin : Cond.instanceMethod y ∈ wsG) (hnm : y.name = "<init>") {host : String} (hw : Cond.methodLinkNest own index y host ∈ nW) (hws : wr ++ wc = ws) (hst : st0 = As.reverse ++ .ref b :: rest) (hlen : As.length = n) (hroom : (rest.map fun v => v.category).sum ≤ 8) {kc2 ks2 : Nat} (hrm : RmOk rm R n2 kc ks kc2 ks2)
    (kk : ∀ w1 : va_W, po w1 → 𝒥 kc2 ks2 (wr ++ w1) lc rest (pc + 3)) : 𝒥 kc ks ws lc st0 pc := by
  obtain ⟨p, e, s, m, args, below, meth, c, A, Q, F, -, rfl⟩ := C
  subst hst
  subst hws
  obtain ⟨u1, u2, rfl, rfl⟩ := hrm
  intro H locs ls hP hD hS hl
  have hcut : ∀ w1 : va_W, Cut (wr ++ wc) wc w1 (wr ++ w1) := fun w1 => ⟨wr, List.Perm.refl _, List.Perm.refl _⟩
  have hF := (hcut []).free hD hS F.2.2.2.2.2.2.2.2.1
  obtain ⟨hPc, hDc⟩ := (hcut []).callee hP hD
  have hts := F.2.2.2.2.2.2.1
  have fx : CallFix p m c cc nL s args wsG own := ⟨F.1, F.2.1, F.2.2.1, F.2.2.2.2.2.1, hts⟩
  refine va_callv (va_runIN (host := host) fx (hM H.size) ⟨va_cnB n hts (goodAll hcb.1) rfl rfl rfl (F.2.2.2.2.2.2.2.2.2.1.2.2 _ hw) (hts _ hcb.2.1) hcb.2.2 u1, hnm, hts _ hin⟩ ⟨mk_blind, mk_start F.2.2.2.2.2.2.2.1 F.2.2.2.2.2.2.2.2.2 hS hPc hDc hF⟩ rfl hlen hl.1 rfl (lv_room hroom) hdg u2) hS (fun q _ h => hF q h) hF (fun u t H1 locs1 ht hvm hp hB hz hk hS1 => ?_)
  obtain ⟨hP1, -, hD1⟩ := hB
  rw [ht] at hP1
  obtain ⟨hP2, hD2⟩ := va_cut hP hD (List.Perm.refl _) (List.Perm.refl _) hk hF hP1 hD1
  exact kk u hp H1 locs1 ls hP2 hD2 hS1 hl
end New
/-! the law: its script, its room -/
def JL (g : GT) (R : Room) (cc : ByteArray) (nL : Nat) (rt : Option FieldType) (own : String) (b L : Nat) (xs : Nat → Int32) (𝒥 : JT) : Prop :=
  ∃ (p : Program) (e : Env) (s : State) (m : MethodId) (args : Array Value) (below : List Frame) (meth : Method) (c : Code) (A : Nat → Prop) (Q : State → Prop),
    JF p g s m args meth c cc nL rt own A ∧ va_X b L xs s s.heap ∧ ¬ A b ∧ L ≤ 2048 ∧ 𝒥 = JJ p g e R s m args below meth c nL A Q
theorem JL.K {g : GT} {R : Room} {cc : ByteArray} {nL : Nat} {rt : Option FieldType} {own : String} {b L : Nat} {xs : Nat → Int32} {𝒥 : JT} (h : JL g R cc nL rt own b L xs 𝒥) : JK g R cc nL rt own (fun _ _ => False) 𝒥 := by
  obtain ⟨p, e, s, m, args, below, meth, c, A, Q, h1, -, -, -, h3⟩ := h
  exact ⟨p, e, s, m, args, below, meth, c, A, Q, h1, fun _ _ h => h.elim, h3⟩
theorem j_widen {g : GT} {R : Room} {cc : ByteArray} {nL : Nat} {rt : Option FieldType} {own : String} {post : Option Value → va_W → Prop} {𝒥 : JT} {kc ks kc2 ks2 : Nat} {ws : va_W} {lc : List (Nat × Value)} {st : List Value} {pc : Nat} (C : JK g R cc nL rt own post 𝒥) (h1 : kc ≤ kc2) (h2 : ks ≤ ks2) (kk : 𝒥 kc2 ks2 ws lc st pc) : 𝒥 kc ks ws lc st pc := by
  obtain ⟨p, e, s, m, args, below, meth, c, A, Q, F, -, rfl⟩ := C
  exact fun H locs ls hP hD hS hl => W.widen h1 h2 (kk H locs ls hP hD hS hl)
theorem JL.lt {b L : Nat} {xs : Nat → Int32} {s : State} {H : Heap} (h : va_X b L xs s H) : b < H.size := by
  obtain ⟨scr, h1, -⟩ := h
  exact (Array.getElem?_eq_some_iff.mp h1).1
theorem j_sld {g : GT} {R : Room} {cc : ByteArray} {nL : Nat} {rt : Option FieldType} {own : String} {b L : Nat} {xs : Nat → Int32} {𝒥 : JT} {kc ks : Nat} {ws : va_W} {lc : List (Nat × Value)} {rest : List Value} {pc : Nat} (CL : JL g R cc nL rt own b L xs 𝒥) {i : Int32} (hdg : decode cc pc = .ok (.iaload, 1)) (hin : vp_in i L) (kk : 𝒥 kc ks ws lc (.int (xs i.toNatClampNeg) :: rest) (pc + 1)) : 𝒥 kc ks ws lc (.int i :: .ref b :: rest) pc := by
  obtain ⟨p, e, s, m, args, below, meth, c, A, Q, F, hX, hA, -, rfl⟩ := CL
  exact fun H locs ls hP hD hS hl => va_sld F.1 F.2.1 hX (JL.lt hX) hA hS hin hdg (kk H locs ls hP hD hS hl)
theorem j_slen {g : GT} {R : Room} {cc : ByteArray} {nL : Nat} {rt : Option FieldType} {own : String} {b L : Nat} {xs : Nat → Int32} {𝒥 : JT} {kc ks : Nat} {ws : va_W} {lc : List (Nat × Value)} {rest : List Value} {pc : Nat} (CL : JL g R cc nL rt own b L xs 𝒥) (hdg : decode cc pc = .ok (.arraylength, 1)) (kk : 𝒥 kc ks ws lc (.int (Int32.ofNat L) :: rest) (pc + 1)) : 𝒥 kc ks ws lc (.ref b :: rest) pc := by
  obtain ⟨p, e, s, m, args, below, meth, c, A, Q, F, hX, hA, -, rfl⟩ := CL
  exact fun H locs ls hP hD hS hl => va_slen F.1 F.2.1 hX (JL.lt hX) hA hS hdg (kk H locs ls hP hD hS hl)
theorem pd_0 : parseFieldDescriptor "[C" = some (.array .char) := by decide +kernel
theorem pd_1 : parseFieldDescriptor "[I" = some (.array .int) := by decide +kernel
theorem pd_2 : parseFieldDescriptor "LProgramDesk$Tokens;" = some (.object "ProgramDesk$Tokens") := by decide +kernel
theorem pd_3 : parseFieldDescriptor "LProgramDesk$Functions;" = some (.object "ProgramDesk$Functions") := by decide +kernel
theorem pd_4 : parseFieldDescriptor "LProgramDesk$Names;" = some (.object "ProgramDesk$Names") := by decide +kernel
theorem pd_5 : parseFieldDescriptor "LProgramDesk$Code;" = some (.object "ProgramDesk$Code") := by decide +kernel
theorem pd_6 : parseFieldDescriptor "LProgramDesk$Text;" = some (.object "ProgramDesk$Text") := by decide +kernel
theorem pd_7 : parseFieldDescriptor "LProgramDesk$Grammar;" = some (.object "ProgramDesk$Grammar") := by decide +kernel
theorem pd_8 : parseFieldDescriptor "LProgramDesk$Machine;" = some (.object "ProgramDesk$Machine") := by decide +kernel
theorem pd_9 : parseFieldDescriptor "LProgramDesk$Draft;" = some (.object "ProgramDesk$Draft") := by decide +kernel
theorem pd_10 : parseFieldDescriptor "[J" = some (.array .long) := by decide +kernel
theorem pd_11 : parseFieldDescriptor "[Z" = some (.array .boolean) := by decide +kernel
