/-! ===== catching: the rows of a table, tried one behind another ===== -/
/-- the search along these rows ends in h, and leaves the tables warmer at most -/
def cxTo (e : Env) (f : JFrame) (a : Addr) (rows : List ExceptionTableEntry) (h : Handler) (s0 S : State) : Prop :=
  ∃ vm', s0.WarmedH vm' ∧ ∀ (Q : Handler → Pre) (E : CtlPost) (d : Bool) (acts : List Action), wp (findHandler.go f a rows) Q E e d acts S ↔ Q h d acts (S.setVm vm')
section CX
variable {e : Env} {s0 S : State} {f : JFrame} {a : Addr} {x : ExceptionTableEntry} {rows : List ExceptionTableEntry} {cell : Cell} {k : ClassId}
/-- how a row's class is looked up: the tables note it -/
theorem cx_row (hW : s0.WarmedH S.vm) (hl : s0.vm.ClassLinks e.platform f.method.cls x.catchType k) (hk : ∃ z, s0.vm.classes[cell.cls]? = some z) :
    s0.WarmedH (S.vm.noted f.method.cls x.catchType (.cls k)) ∧ S.vm.ClassLinks e.platform f.method.cls x.catchType k ∧ (∃ z, (S.vm.noted f.method.cls x.catchType (.cls k)).classes[cell.cls]? = some z) ∧
      (∃ z, (S.vm.noted f.method.cls x.catchType (.cls k)).classes[k]? = some z) ∧ (S.vm.noted f.method.cls x.catchType (.cls k)).assignable cell.cls k = s0.vm.assignable cell.cls k := by
  obtain ⟨dk, _, _, kt, hd, _, _, _, _, hkt, _, ho⟩ := hl.here
  have hW' := hW.noted hd ho (State.rightAt_cls hl)
  obtain ⟨z, hz⟩ := hk
  obtain ⟨z1, hz1, -⟩ := hW'.alike.2.2 _ _ hz
  obtain ⟨z2, hz2, -⟩ := hW'.alike.2.2 _ _ hkt
  exact ⟨hW', hW.classLinks hl, ⟨z1, hz1⟩, ⟨z2, hz2⟩, by rw [hW'.alike.assignable]⟩
theorem cx_hit (hW : s0.WarmedH S.vm) (hx : covers x f.pc = true) (h0 : x.catchType ≠ 0) (hl : s0.vm.ClassLinks e.platform f.method.cls x.catchType k) (hcell : S.heap[a]? = some cell) (hobj : ∀ z, cell.vm ≠ .statics z) (hk : ∃ z, s0.vm.classes[cell.cls]? = some z) (hfit : s0.vm.assignable cell.cls k = true) :
    cxTo e f a (x :: rows) (.found x.handlerPc) s0 S := by
  obtain ⟨r1, r2, ⟨z1, r3⟩, ⟨z2, r4⟩, r5⟩ := cx_row (cell := cell) hW hl hk
  rw [hfit] at r5
  simp only [covers] at hx
  obtain ⟨o1, o2⟩ := (resolveClass_links e.toSetting r2).op (op := VmOp.resolveClass f.method.cls x.catchType) rfl
  exact ⟨_, r1, fun Q E d acts => by simp [findHandler.go, hx, h0, o1, o2, hcell, hobj, r3, r4, r5, VmOp.dirties, VmOp.acts]⟩
theorem cx_miss {h : Handler} (hW : s0.WarmedH S.vm) (hx : covers x f.pc = true) (h0 : x.catchType ≠ 0) (hl : s0.vm.ClassLinks e.platform f.method.cls x.catchType k) (hcell : S.heap[a]? = some cell) (hobj : ∀ z, cell.vm ≠ .statics z) (hk : ∃ z, s0.vm.classes[cell.cls]? = some z) (hno : s0.vm.assignable cell.cls k = false)
    (go : ∀ vm1, s0.WarmedH vm1 → cxTo e f a rows h s0 (S.setVm vm1)) : cxTo e f a (x :: rows) h s0 S := by
  obtain ⟨r1, r2, ⟨z1, r3⟩, ⟨z2, r4⟩, r5⟩ := cx_row (cell := cell) hW hl hk
  rw [hno] at r5
  simp only [covers] at hx
  obtain ⟨o1, o2⟩ := (resolveClass_links e.toSetting r2).op (op := VmOp.resolveClass f.method.cls x.catchType) rfl
  obtain ⟨vm2, w2, hq⟩ := go _ r1
  refine ⟨vm2, w2, fun Q E d acts => ?_⟩
  have key : wp (findHandler.go f a (x :: rows)) Q E e d acts S ↔ wp (findHandler.go f a rows) Q E e d acts (S.setVm (S.vm.noted f.method.cls x.catchType (.cls k))) := by
    simp [findHandler.go, hx, h0, o1, o2, hcell, hobj, r3, r4, r5, VmOp.dirties, VmOp.acts]
  rw [key]
  exact hq Q E d acts
/-- the machine goes on at the handler -/
theorem cx_steps {tb : Tables} {s target : State} {g : JFrame} {c : Code} {below : List Frame} {meth : Method} (h : At s g.method c below) (hm : s.vm.method? g.method = some meth) (hc : meth.code = some c) {hp : Nat} {vm' : Vm}
    (hq : ∀ (Q : Handler → Pre) (E : CtlPost) (d : Bool) (acts : List Action), wp (findHandler.go g a c.exceptionTable.toList) Q E e d acts ((s.setTop g).pushFrame (.throwing a)) ↔ Q (.found hp) d acts (((s.setTop g).pushFrame (.throwing a)).setVm vm'))
    (hrest : Steps tb e below ((s.setVm vm').setTop { g with pc := hp, stack := [.ref a] }) target) : Steps tb e below ((s.setTop g).pushFrame (.throwing a)) target := by
  have find : ∀ (Q : Handler → Pre) (E : CtlPost) (d : Bool) (acts : List Action), wp (findHandler g a) Q E e d acts ((s.setTop g).pushFrame (.throwing a)) ↔ Q (.found hp) d acts (((s.setTop g).pushFrame (.throwing a)).setVm vm') := by
    intro Q E d acts
    rw [W.findHandler_eq (s := (s.setTop g).pushFrame (.throwing a)) (meth := meth) (code := c) hm hc]
    exact hq Q E d acts
  obtain ⟨hgo, hw⟩ := h.throwing a
  refine Steps.head hgo hw ?_
  have one : (stepThrowing e ((s.setTop g).pushFrame (.throwing a)) a (.java g :: s.frames.tail)).Is ((((s.setTop g).pushFrame (.throwing a)).setVm vm').setFrames (.java { g with pc := hp, stack := [.ref a] } :: s.frames.tail)) [] := by
    simp only [stepThrowing, searchFrame, vmDo]
    generalize hr : Sem.go _ e false [] ((s.setTop g).pushFrame (.throwing a)) = res
    obtain ⟨as, rfl, ha⟩ := Sem.eq_ok_of hr (a := Handler.found hp) (s' := ((s.setTop g).pushFrame (.throwing a)).setVm vm') (acts' := []) (by simp [find _ _ _ _])
    exact ⟨rfl, ha⟩
  rw [stepThread_throwing (frames_entered h.top _), one.1]
  obtain ⟨g₀, hg⟩ := Option.isSome_iff_exists.mp h.top
  obtain ⟨r, hr⟩ := State.topJava?_eq_some.mp hg
  have hr' : (s.setVm vm').frames = .java g₀ :: r := hr
  rw [State.setTop_of_frames _ hr'] at hrest
  have sw : ∀ (u : State) (F G : List Frame), ((u.setFrames F).setVm vm').setFrames G = (u.setVm vm').setFrames G := fun u F G => by
    have h1 : (u.setFrames F).setVm vm' = (u.setVm vm').setFrames F := rfl
    rw [h1, State.setFrames_setFrames]
  rw [hr, List.tail_cons, State.pushFrame, sw, State.setTop_of_frames _ hr, sw]
  exact hrest
end CX
/-- a class that isn't one of another -/
def kNo (U : State) : Prop := va_Nc "java/lang/IllegalStateException" "java/lang/IllegalArgumentException" U ∧ va_Nc "java/lang/IllegalStateException" "java/util/NoSuchElementException" U ∧ va_Nc "java/lang/IllegalArgumentException" "java/util/NoSuchElementException" U
theorem kNo.moved {u U : State} (hvm : u.vm.Alike U.vm) (h : kNo u) : kNo U := ⟨h.1.moved hvm, h.2.1.moved hvm, h.2.2.moved hvm⟩
section KCX
variable {w : kW} {p : Program} {l : Launch} {e : Env} {R : Room} {s : State} {m : MethodId} {args : Array Value} {below : List Frame} {meth : Method} {c : Code} {Q : State → Prop}
variable {cc : ByteArray} {nL : Nat} {own : String} {σ : kS} {pc : Nat} {lv : List (Nat × Value)} {st : List Value} {cells slots : Nat}
/-- an exception of the class E that a row ahead names other classes for, and the row x names E itself -/
theorem k_catch {E : String} (K : kC w p s m args meth c cc nL own) (KX : kX w l s) (pre : List ExceptionTableEntry) (x : ExceptionTableEntry) (suf : List ExceptionTableEntry) (hsplit : c.exceptionTable.toList = pre ++ x :: suf)
    (hpass : ∀ z ∈ pre, covers z pc = true ∧ z.catchType ≠ 0 ∧ ∃ nm, Cond.classLink own z.catchType nm ∈ TB ∧ va_Nc E nm s) (hx : covers x pc = true) (h0 : x.catchType ≠ 0) (hl : Cond.classLink own x.catchType E ∈ TB) (hcast : Cond.castable E E ∈ NB)
    (kk : ∀ q : Nat, kG w p l e R s m args below meth c Q nL σ x.handlerPc lv [.ref q] cells slots) : kGx w p l e R s m args below meth c Q nL E σ pc lv st cells slots := by
  intro H locs ls q ce hH hS hv hq hcv hcl T hT X
  have hpl : e.platform.magicAccessors = ({} : Platform).magicAccessors := by rw [X.admits.platform]
  have hobj : ∀ z, ce.vm ≠ .statics z := fun z => by rw [hcv]; intro h; cases h
  have hk0 : ∃ z, s.vm.classes[ce.cls]? = some z := by obtain ⟨k9, h9, -⟩ := Vm.findClass_spec hcl; exact ⟨k9, h9⟩
  obtain ⟨c5, hc5, hl5⟩ := Cond.classLink_spec K.ow (K.ts _ hl) e.platform hpl
  obtain ⟨c3, c4, hc3, hc4, hasg⟩ := Cond.castable_spec (args := args) ((KX.2.2.2.1 _ hcast).use rfl)
  cases Option.some.inj (hc3.symm.trans hcl)
  cases Option.some.inj (hc4.symm.trans hcl)
  cases Option.some.inj (hc5.symm.trans hcl)
  have go : ∀ (rows : List ExceptionTableEntry), (∀ z ∈ rows, covers z pc = true ∧ z.catchType ≠ 0 ∧ ∃ nm, Cond.classLink own z.catchType nm ∈ TB ∧ va_Nc E nm s) → ∀ S : State, s.WarmedH S.vm → S.heap[q]? = some ce → cxTo e (F0 m pc ls st) q (rows ++ x :: suf) (.found x.handlerPc) s S := by
    intro rows
    induction rows with
    | nil => intro _ S hW hqS; exact cx_hit hW hx h0 hl5 hqS hobj hk0 hasg
    | cons z zs ih =>
      intro hz S hW hqS
      obtain ⟨z1, z2, nm, z3, z4⟩ := hz z List.mem_cons_self
      obtain ⟨c6, hc6, hl6⟩ := Cond.classLink_spec K.ow (K.ts _ z3) e.platform hpl
      obtain ⟨a8, b8, n1, n2, n3⟩ := z4
      cases Option.some.inj (n1.symm.trans hcl)
      cases Option.some.inj (n2.symm.trans hc6)
      exact cx_miss hW z1 z2 hl6 hqS hobj hk0 n3 (fun vm1 hW1 => ih (fun y hy => hz y (List.mem_cons_of_mem _ hy)) (S.setVm vm1) hW1 hqS)
  obtain ⟨vm', hW', hfind⟩ := go pre hpass ((T.setTop (F0 m pc ls st)).pushFrame (.throwing q)) X.warmed (by show T.heap[q]? = _; rw [hT]; exact hq)
  obtain ⟨t, a1, b1⟩ := kk q H locs ls hH hS hv (T.setVm vm') hT (X.noted hW')
  rw [← hsplit] at hfind
  exact ⟨t, cx_steps (g := F0 m pc ls st) X.here X.method' X.code hfind a1, b1⟩
end KCX
