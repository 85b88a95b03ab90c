/-! A CALL that may throw, and the catch of what it throws -/
section CAT
variable {p : Program} {l : Launch} {e : Env} {R : Room} {s : State} {m : MethodId} {args : Array Value} {below : List Frame} {meth : Method} {c : Code} {T : State} {locs : List Loc} {cells slots : Nat}
/-- the handler is found: the one row of the table, its class linked now or before -/
theorem cat_go {u : State} {f : JFrame} {a : Addr} {x : ExceptionTableEntry} {cT : ClassId} {cell : Cell} {k k2 : Class} {Q : Handler → _root_.Jvm.Pre} {E : CtlPost} {d : Bool} {acts : List Action} (hx : covers x f.pc = true) (h0 : x.catchType ≠ 0) (hl : u.vm.ClassLinks e.platform f.method.cls x.catchType cT) (hcell : u.heap[a]? = some cell) (hv : cell.vm = .none) (hk : u.vm.classes[cell.cls]? = some k) (hk2 : u.vm.classes[cT]? = some k2) (hfit : u.vm.assignable cell.cls cT = true) :
    Sem.wp (findHandler.go f a [x]) Q E e d acts u ↔ Q (.found x.handlerPc) d acts (u.setVm (u.vm.noted f.method.cls x.catchType (.cls cT))) := by
  simp only [covers] at hx
  obtain ⟨q1, q2⟩ := (resolveClass_links e.toSetting hl).op (op := VmOp.resolveClass f.method.cls x.catchType) rfl
  have hal : u.vm.Alike (u.vm.noted f.method.cls x.catchType (.cls cT)) := (Vm.Alike.refl u.vm).noted _ _ _
  obtain ⟨k', hk', -⟩ := hal.2.2 _ _ hk
  obtain ⟨k2', hk2', -⟩ := hal.2.2 _ _ hk2
  have hfit' : (u.vm.noted f.method.cls x.catchType (.cls cT)).assignable cell.cls cT = true := by rw [hal.assignable]; exact hfit
  have hobj : ∀ z, cell.vm ≠ .statics z := fun z h => by rw [hv] at h; cases h
  simp [findHandler.go, hx, h0, q1, q2, hcell, hobj, hk', hk2', hfit', VmOp.dirties, VmOp.acts]
theorem cat_ns (X : Stand p l e R s m args below meth c T locs cells slots) {a : Addr} {g : JFrame} (hg : g.method = m) (hown : s.vm.findClass "WatchValleyLaw" = some m.cls) {x : ExceptionTableEntry} (hex : c.exceptionTable.toList = [x]) (hx : covers x g.pc = true) (h0 : x.catchType ≠ 0) (hlink : (Cond.classLink "WatchValleyLaw" x.catchType NSE).before args s = true) {cell : Cell} (hcell : T.heap[a]? = some cell) (hv : cell.vm = .none) (hcls : s.vm.findClass NSE = some cell.cls) :
    ∃ vm', Stand p l e R s m args below meth c (T.setVm vm') locs cells slots ∧ ∀ target, Steps p.tables e below ((T.setVm vm').setTop { g with pc := x.handlerPc, stack := [.ref a] }) target → Steps p.tables e below (T.setFrames (.throwing a :: .java g :: below)) target := by
  have hpl : e.platform.magicAccessors = ({} : Platform).magicAccessors := by rw [X.admits.platform]
  obtain ⟨c', hc', hcl⟩ := Cond.classLink_spec hown hlink e.platform hpl
  cases hcls.symm.trans hc'
  obtain ⟨dk, _, _, kt, hd, _, _, _, _, hkt, _, hopen⟩ := hcl.here
  have hcl₀ := X.warmed.classLinks hcl
  have hW' : s.WarmedH (T.vm.noted m.cls x.catchType (.cls cell.cls)) := X.warmed.noted hd hopen (State.rightAt_cls hcl)
  have hal := X.warmed.alike
  obtain ⟨kt', hkt', -⟩ := hal.2.2 _ _ hkt
  refine ⟨_, X.noted hW', fun target hrest => ?_⟩
  subst hg
  have hfr : ∃ g₁, T.frames = .java g₁ :: below := by
    obtain ⟨g₀, hg0⟩ := Option.isSome_iff_exists.mp X.here.top
    obtain ⟨r, hr⟩ := State.topJava?_eq_some.mp hg0
    have ht := X.tail
    rw [hr, List.tail_cons] at ht
    rw [ht] at hr
    exact ⟨g₀, hr⟩
  obtain ⟨g₁, hfr⟩ := hfr
  have e1 : (T.setTop g).pushFrame (.throwing a) = T.setFrames (.throwing a :: .java g :: below) := by
    rw [State.pushFrame, State.frames_setTop _ hfr, State.setTop_of_frames _ hfr, State.setFrames_setFrames]
  rw [← e1]
  obtain ⟨hgo, hw⟩ := X.here.throwing a
  refine Steps.head hgo hw ?_
  have hfind : ∀ (Q : Handler → _root_.Jvm.Pre) (E : CtlPost) (d : Bool) (acts : List Action), Sem.wp (findHandler g a) Q E e d acts ((T.setTop g).pushFrame (.throwing a)) ↔ Q (.found x.handlerPc) d acts (((T.setTop g).pushFrame (.throwing a)).setVm (T.vm.noted g.method.cls x.catchType (.cls cell.cls))) := by
    intro Q E d acts
    rw [_root_.Jvm.W.findHandler_eq (s := (T.setTop g).pushFrame (.throwing a)) (meth := meth) (code := c) X.method' X.code, hex]
    exact cat_go (u := (T.setTop g).pushFrame (.throwing a)) hx h0 hcl₀ hcell hv hkt' hkt' (va_asg _ _)
  have hst : (stepThrowing e ((T.setTop g).pushFrame (.throwing a)) a (.java g :: below)).1 = (((T.setTop g).pushFrame (.throwing a)).setVm (T.vm.noted g.method.cls x.catchType (.cls cell.cls))).setFrames (.java { g with pc := x.handlerPc, stack := [.ref a] } :: below) := by
    simp only [stepThrowing, searchFrame, vmDo]
    generalize hr : Sem.go _ e false [] ((T.setTop g).pushFrame (.throwing a)) = res
    obtain ⟨as, rfl, -⟩ := Sem.eq_ok_of hr (a := Handler.found x.handlerPc) (s' := ((T.setTop g).pushFrame (.throwing a)).setVm (T.vm.noted g.method.cls x.catchType (.cls cell.cls))) (acts' := []) (by simp [hfind _ _ _ _])
    rfl
  have hfr2 : ((T.setTop g).pushFrame (.throwing a)).frames = .throwing a :: .java g :: below := by
    rw [e1]
    exact State.frames_setFrames _ (State.cur_lt_of_frames hfr)
  rw [stepThread_throwing hfr2, hst]
  have hfr3 : (T.setVm (T.vm.noted g.method.cls x.catchType (.cls cell.cls))).frames = .java g₁ :: below := hfr
  rw [State.setTop_of_frames _ hfr3] at hrest
  rw [e1]
  have e2 : ∀ (vm' : Vm) (F K : List Frame), ((T.setFrames F).setVm vm').setFrames K = (T.setVm vm').setFrames K := fun vm' F K => by
    have h1 : (T.setFrames F).setVm vm' = (T.setVm vm').setFrames F := rfl
    rw [h1, State.setFrames_setFrames]
  rw [e2]
  exact hrest
end CAT
