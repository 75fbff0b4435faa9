section
variable {E : CtlPost} {e : Env} {d : Bool} {acts : List Action} {s : State} {f : JFrame} {a : Addr} {Q : Handler → Pre}
theorem am_go_cold {x : ExceptionTableEntry} {t : List ExceptionTableEntry} {c : ClassId} (hx : covers x f.pc = true) (h0 : x.catchType ≠ 0) (hcl : s.vm.ClassLinks e.platform f.method.cls x.catchType c) :
    wp (findHandler.go f a (x :: t)) Q E e d acts s ↔ wp (findHandler.go f a (x :: t)) Q E e d acts (s.setVm (s.vm.noted f.method.cls x.catchType (.cls c))) := by
  obtain ⟨ha, ht⟩ := (resolveClass_links e.toSetting hcl).op (op := VmOp.resolveClass f.method.cls x.catchType) rfl
  obtain ⟨k, hk, hr⟩ := hcl.ready
  obtain ⟨ha2, ht2⟩ := resolveClass_memo e hk hr
  have hsz : (s.vm.noted f.method.cls x.catchType (.cls c)).classes.size ≤ s.vm.classes.size := by no_record
  have hvv : ∀ v, (s.setVm v).setVm v = s.setVm v := fun _ => rfl
  simp only [covers] at hx
  simp [findHandler.go, hx, h0, ha, ht, ha2, ht2, hsz, hvv, VmOp.dirties, VmOp.acts]
theorem am_go_one {x : ExceptionTableEntry} {t : List ExceptionTableEntry} {c : ClassId} {cell : Cell} (hx : covers x f.pc = true) (h0 : x.catchType ≠ 0) (hcl : s.vm.ClassLinks e.platform f.method.cls x.catchType c)
    (hcell : s.heap[a]? = some cell) (hobj : ∀ k, cell.vm ≠ .statics k) (hk : ∃ k, (s.vm.noted f.method.cls x.catchType (.cls c)).classes[cell.cls]? = some k) (hc : ∃ k, (s.vm.noted f.method.cls x.catchType (.cls c)).classes[c]? = some k) :
    wp (findHandler.go f a (x :: t)) Q E e d acts s ↔ if (s.vm.noted f.method.cls x.catchType (.cls c)).assignable cell.cls c = true then Q (.found x.handlerPc) d acts (s.setVm (s.vm.noted f.method.cls x.catchType (.cls c))) else wp (findHandler.go f a t) Q E e d acts (s.setVm (s.vm.noted f.method.cls x.catchType (.cls c))) := by
  rw [am_go_cold hx h0 hcl]
  exact W.findHandler_go_class (s := s.setVm (s.vm.noted f.method.cls x.catchType (.cls c))) hx h0 hcl.ready hcell hobj hk hc
def am_FT (e : Env) (s : State) (f : JFrame) (a : Addr) (h : Handler) (vm : Vm) : Prop := ∀ (Q : Handler → Pre) (E : CtlPost) (d : Bool) (acts : List Action), wp (findHandler f a) Q E e d acts s ↔ Q h d acts (s.setVm vm)
theorem am_catch_is {r : List Frame} {pc : Nat} {vm : Vm} (hfind : am_FT e s f a (.found pc) vm) : (stepThrowing e s a (.java f :: r)).Is ((s.setVm vm).setFrames (.java { f with pc := pc, stack := [.ref a] } :: r)) [] := by
  simp only [stepThrowing, searchFrame, vmDo]
  generalize hr : Sem.go _ e false [] s = res
  obtain ⟨as, rfl, ha⟩ := Sem.eq_ok_of hr (a := Handler.found pc) (s' := s.setVm vm) (acts' := []) (by simp [hfind _ _ _ _])
  exact ⟨rfl, ha⟩
theorem am_caught {tb : Tables} {target : State} {g : JFrame} {c : Code} {below : List Frame} {pc : Nat} {vm : Vm} (h : At s g.method c below) (hfind : am_FT e ((s.setTop g).pushFrame (.throwing a)) g a (.found pc) vm)
    (hrest : Steps tb e below ((s.setVm vm).setTop { g with pc := pc, stack := [.ref a] }) target) : Steps tb e below ((s.setTop g).pushFrame (.throwing a)) target := by
  obtain ⟨hgo, hw⟩ := h.throwing a
  refine Steps.head hgo hw ?_
  rw [stepThread_throwing (frames_entered h.top _), (am_catch_is (s := (s.setTop g).pushFrame (.throwing a)) hfind).1]
  obtain ⟨g₀, hg⟩ := Option.isSome_iff_exists.mp h.top
  obtain ⟨r, hr⟩ := State.topJava?_eq_some.mp hg
  have hr2 : (s.setVm vm).frames = .java g₀ :: r := hr
  rw [State.setTop_of_frames _ hr2] at hrest
  rw [State.pushFrame, State.setTop_of_frames _ hr, State.setFrames_setFrames]
  show Steps tb e below (((s.setVm vm).setFrames _).setFrames _) target
  rw [State.setFrames_setFrames, hr]
  exact hrest
end
def am_cls (s : State) (args : Array Value) (own : String) (cX : ClassId) (pc : Nat) (ok : Bool) (x : ExceptionTableEntry) : Prop :=
  covers x pc = true ∧ x.catchType ≠ 0 ∧ ∃ (name : String) (c : ClassId), (Cond.classLink own x.catchType name).before args s = true ∧ s.vm.findClass name = some c ∧ s.vm.assignable cX c = ok
section
variable {p : Program} {l : Launch} {e : Env} {R : Room} {s : State} {m : MethodId} {args : Array Value} {below : List Frame} {meth : Method} {c : Code} {locs : List Loc} {cells slots : Nat}
theorem am_search {own : String} {g : JFrame} {a : Addr} {cell : Cell} {kX : Class} (hown : s.vm.findClass own = some m.cls) (hg : g.method = m) (hobj : ∀ k, cell.vm ≠ .statics k) (hkX : s.vm.classes[cell.cls]? = some kX) :
    ∀ (pre : List ExceptionTableEntry) (x : ExceptionTableEntry) (rest : List ExceptionTableEntry) (T : State), Stand p l e R s m args below meth c T locs cells slots → T.heap[a]? = some cell →
      (∀ y ∈ pre, am_cls s args own cell.cls g.pc false y) → am_cls s args own cell.cls g.pc true x →
      ∃ vm, Stand p l e R s m args below meth c (T.setVm vm) locs cells slots ∧ ∀ (Q : Handler → Pre) (E : CtlPost) (d : Bool) (acts : List Action), wp (findHandler.go g a (pre ++ x :: rest)) Q E e d acts ((T.setTop g).pushFrame (.throwing a)) ↔ Q (.found x.handlerPc) d acts (((T.setTop g).pushFrame (.throwing a)).setVm vm) := by
  intro pre
  have one : ∀ (y : ExceptionTableEntry) (T : State) (ok : Bool), Stand p l e R s m args below meth c T locs cells slots → T.heap[a]? = some cell → am_cls s args own cell.cls g.pc ok y →
      ∃ vm, Stand p l e R s m args below meth c (T.setVm vm) locs cells slots ∧ ∀ (t : List ExceptionTableEntry) (Q : Handler → Pre) (E : CtlPost) (d : Bool) (acts : List Action), wp (findHandler.go g a (y :: t)) Q E e d acts ((T.setTop g).pushFrame (.throwing a)) ↔ if ok = true then Q (.found y.handlerPc) d acts (((T.setTop g).pushFrame (.throwing a)).setVm vm) else wp (findHandler.go g a t) Q E e d acts (((T.setTop g).pushFrame (.throwing a)).setVm vm) := by
    rintro y T ok X hcell ⟨h1, h2, name, cy, h3, h4, h5⟩
    have hpl : e.platform.magicAccessors = ({} : Platform).magicAccessors := by rw [X.admits.platform]
    obtain ⟨c', hc', hcl⟩ := Cond.classLink_spec hown h3 e.platform hpl
    cases h4.symm.trans hc'
    obtain ⟨dk, _, _, kt, hd, _, _, _, _, hkt, _, hopen⟩ := hcl.here
    have hcl₀ := X.warmed.classLinks hcl
    have hW' : s.WarmedH (T.vm.noted m.cls y.catchType (.cls cy)) := X.warmed.noted hd hopen (State.rightAt_cls hcl)
    obtain ⟨ks', hks', -⟩ := hW'.alike.2.2 _ _ hkX
    obtain ⟨kt', hkt', -⟩ := hW'.alike.2.2 _ _ hkt
    refine ⟨_, X.noted hW', fun t Q E d acts => ?_⟩
    subst hg
    have hvm : ((T.setTop g).pushFrame (.throwing a)).vm = T.vm := Stand.throwing_vm T g a
    have hheap : ((T.setTop g).pushFrame (.throwing a)).heap = T.heap := Stand.throwing_heap T g a
    have K := am_go_one (e := e) (E := E) (d := d) (acts := acts) (Q := Q) (s := (T.setTop g).pushFrame (.throwing a)) (f := g) (a := a) (t := t) h1 h2 (by rw [hvm]; exact hcl₀) (by rw [hheap]; exact hcell) hobj (by rw [hvm]; exact ⟨ks', hks'⟩) (by rw [hvm]; exact ⟨kt', hkt'⟩)
    rw [hvm, hW'.alike.assignable, h5] at K
    exact K
  induction pre with
  | nil =>
    intro x rest T X hcell _ hx
    obtain ⟨vm, X1, h1⟩ := one x T true X hcell hx
    exact ⟨vm, X1, fun Q E d acts => by rw [List.nil_append, h1 rest Q E d acts, if_pos rfl]⟩
  | cons y pre ih =>
    intro x rest T X hcell hpre hx
    obtain ⟨vm, X1, h1⟩ := one y T false X hcell (hpre y List.mem_cons_self)
    obtain ⟨vm2, X2, h2⟩ := ih x rest (T.setVm vm) X1 hcell (fun z hz => hpre z (List.mem_cons_of_mem _ hz)) hx
    refine ⟨vm2, X2, fun Q E d acts => ?_⟩
    rw [List.cons_append, h1 _ Q E d acts, if_neg (by decide)]
    have e1 : ((T.setTop g).pushFrame (.throwing a)).setVm vm = ((T.setVm vm).setTop g).pushFrame (.throwing a) := rfl
    rw [e1, h2 Q E d acts]
    exact Iff.rfl
theorem am_taken {T : State} {own : String} {g : JFrame} {a : Addr} {cell : Cell} {kX : Class} (X : Stand p l e R s m args below meth c T locs cells slots) (hown : s.vm.findClass own = some m.cls) (hg : g.method = m) (hobj : ∀ k, cell.vm ≠ .statics k) (hkX : s.vm.classes[cell.cls]? = some kX) (hcell : T.heap[a]? = some cell)
    {pre rest : List ExceptionTableEntry} {x : ExceptionTableEntry} (htab : c.exceptionTable.toList = pre ++ x :: rest) (hpre : ∀ y ∈ pre, am_cls s args own cell.cls g.pc false y) (hx : am_cls s args own cell.cls g.pc true x) :
    ∃ vm, Stand p l e R s m args below meth c (T.setVm vm) locs cells slots ∧ ∀ target, Steps p.tables e below ((T.setVm vm).setTop { g with pc := x.handlerPc, stack := [.ref a] }) target → Steps p.tables e below ((T.setTop g).pushFrame (.throwing a)) target := by
  obtain ⟨vm, X1, h1⟩ := am_search hown hg hobj hkX pre x rest T X hcell hpre hx
  refine ⟨vm, X1, fun target hrest => ?_⟩
  have h : At T g.method c below := by rw [hg]; exact X.here
  refine am_caught h (fun Q E d acts => ?_) hrest
  rw [W.findHandler_eq (s := (T.setTop g).pushFrame (.throwing a)) (meth := meth) (code := c) (by rw [Stand.throwing_vm, hg]; exact X.method') X.code, htab]
  exact h1 Q E d acts
end
