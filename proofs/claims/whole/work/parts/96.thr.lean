/-! A THROW: new NoSuchElementException(a text), thrown -/
abbrev NSE : String := "java/util/NoSuchElementException"
abbrev thN : String := "java/lang/Throwable"
abbrev steN : String := "[Ljava/lang/StackTraceElement;"
abbrev lstN : String := "Ljava/util/List;"
/-- what the tables say of the throw -/
def nsT : List Cond := Bundle.throwableAtoms ++ Bundle.throwableSAtoms ++ Bundle.passSAtoms NSE "java/lang/RuntimeException" 13 prog_20_method_4_code ++ Bundle.chainSAtoms "java/lang/RuntimeException" ["java/lang/Exception"] ++
  [.methodLink "WatchValley" 165 (Bundle.initS NSE), .instantiable NSE 6, .selects NSE Bundle.tFill0 Bundle.tFill0, .selects NSE Bundle.tFill Bundle.tFill, .lays NSE thN "cause" "Ljava/lang/Throwable;", .lays NSE thN "stackTrace" steN, .lays NSE thN "suppressedExceptions" lstN, .lays NSE thN "detailMessage" "Ljava/lang/String;",
   .fieldLink thN 198 thN "backtrace" "Ljava/lang/Object;", .lays thN thN "backtrace" "Ljava/lang/Object;", .lays NSE thN "backtrace" "Ljava/lang/Object;", .classLink "WatchValley" 161 NSE, .initialized NSE]
def nsX : List Cond := [.laysStatic thN "UNASSIGNED_STACK" steN, .laysStatic thN "SUPPRESSED_SENTINEL" lstN, .declares (Bundle.initS "java/lang/RuntimeException"), .declares (Bundle.initS "java/lang/Exception"), .declares (Bundle.initS thN)]
set_option maxRecDepth 100000 in
theorem nsT_in : ∀ w ∈ nsT, w ∈ lw_tbl := lw_of nsT [48, 693, 702, 704, 707, 709, 694, 695, 63, 64, 696, 701, 705, 725, 683, 726, 685, 727, 687, 697, 698, 699, 700, 689, 721, 722, 724, 689, 712, 713, 714, 715, 675, 715, 716, 717, 718, 677, 718, 719, 720, 721, 679, 711, 672, 680, 681, 682, 684, 686, 688, 692, 691, 690, 671, 51] rfl
set_option maxRecDepth 100000 in
theorem nsT_x : nsT.filter (fun w => !goodWord w) = nsX := rfl
theorem nsT_ok : ∀ w ∈ nsT, w ∈ tb ∨ w ∈ nsX := fun w hw => by
  cases h : goodWord w with
  | true => exact Or.inl (List.mem_filter.mpr ⟨nsT_in w hw, h⟩)
  | false => exact Or.inr (by rw [← nsT_x]; exact List.mem_filter.mpr ⟨hw, by rw [h]; rfl⟩)
/-- a static field is laid, its cell none of ours -/
def LSt (n d : String) (A : Nat → Prop) (U : State) (H : Heap) : Prop := ∃ (c : ClassId) (k : Class) (i : Nat) (f : Field) (a : Nat) (cell : Cell), U.vm.findClass thN = some c ∧ U.fieldFound? thN n d = some (c, k, i, f) ∧ f.isStatic = true ∧ k.statics = some a ∧ H[a]? = some cell ∧ cell.vm.isStatics = true ∧ cell.cls = c ∧ f.slot < cell.slots.size ∧ k.staticTypes[f.slot]? = some f.type ∧ ¬ A a
theorem LSt.moved {n d : String} {A : Nat → Prop} {u U : State} {H : Heap} (hvm : u.vm.Alike U.vm) (h : LSt n d A u H) : LSt n d A U H := by
  obtain ⟨c, k, i, f, a, cell, h1, h2, h3, h4, h5, h6, h7, h8, h9, h10⟩ := h
  obtain ⟨k', hi', he⟩ := State.fieldFound?_setVm hvm h2
  exact ⟨c, k', i, f, a, cell, by rw [hvm.findClass]; exact h1, hi', h3, by rw [he]; exact h4, h5, h6, h7, h8, by rw [he]; exact h9, h10⟩
theorem LSt.kept {n d : String} {A : Nat → Prop} {U : State} {H H1 : Heap} (h : LSt n d A U H) (hq : ∀ a : Nat, a < H.size → ¬ A a → H1[a]? = H[a]?) : LSt n d A U H1 := by
  obtain ⟨c, k, i, f, a, cell, h1, h2, h3, h4, h5, h6, h7, h8, h9, h10⟩ := h
  exact ⟨c, k, i, f, a, cell, h1, h2, h3, h4, by rw [hq a (Array.getElem?_eq_some_iff.mp h5).1 h10]; exact h5, h6, h7, h8, h9, h10⟩
theorem LSt.of {n d : String} {A : Nat → Prop} {s : State} {args : Array Value} (h : (Cond.laysStatic thN n d).before args s = true) (hA : ∀ a : Nat, a < s.heap.size → ¬ A a) : LSt n d A s s.heap := by
  obtain ⟨c, k, i, f, a, cell, h1, h2, h3, h4, h5, h6, h7, h8, h9⟩ := Cond.laysStatic_spec h
  exact ⟨c, k, i, f, a, cell, h1, h2, h3, h4, h5, h6, h7, h8, h9, hA a (Array.getElem?_eq_some_iff.mp h5).1⟩
theorem LSt.word {n d : String} {A : Nat → Prop} {s : State} {args : Array Value} (h : LSt n d A s s.heap) : (Cond.laysStatic thN n d).before args s = true := by
  obtain ⟨c, k, i, f, a, cell, h1, h2, h3, h4, h5, h6, h7, h8, h9, h10⟩ := h
  exact Cond.laysStatic_of h1 h2 h3 h4 h5 h6 h7 h8 h9
def Dcl (y : MethodName) (U : State) : Prop := ∀ args, (Cond.declares y).before args U = true
theorem Dcl.moved {y : MethodName} {u U : State} (hvm : u.vm.Alike U.vm) (h : Dcl y u) : Dcl y U := fun args => by
  have h1 := Cond.declares_setVm (args := args) hvm y
  rw [h args] at h1
  exact h1
/-- Throwable's two statics hold references or null, and none of ours is their cell -/
def ZZ (A : Nat → Prop) (U : State) (H : Heap) : Prop := (va_Zq thN "UNASSIGNED_STACK" steN A U H ∧ va_Zq thN "SUPPRESSED_SENTINEL" lstN A U H) ∧ (LSt "UNASSIGNED_STACK" steN A U H ∧ LSt "SUPPRESSED_SENTINEL" lstN A U H) ∧ Dcl (Bundle.initS "java/lang/RuntimeException") U ∧ Dcl (Bundle.initS "java/lang/Exception") U ∧ Dcl (Bundle.initS thN) U
theorem ZZ.moved {A : Nat → Prop} {u U : State} {H : Heap} (hvm : u.vm.Alike U.vm) (h : ZZ A u H) : ZZ A U H := ⟨⟨va_Zq.moved hvm h.1.1, va_Zq.moved hvm h.1.2⟩, ⟨h.2.1.1.moved hvm, h.2.1.2.moved hvm⟩, h.2.2.1.moved hvm, h.2.2.2.1.moved hvm, h.2.2.2.2.moved hvm⟩
theorem ZZ.kept {A : Nat → Prop} {U : State} {H H1 : Heap} (h : ZZ A U H) (hq : ∀ a : Nat, a < H.size → ¬ A a → H1[a]? = H[a]?) : ZZ A U H1 := ⟨⟨h.1.1.kept hq, h.1.2.kept hq⟩, ⟨h.2.1.1.kept hq, h.2.1.2.kept hq⟩, h.2.2⟩
theorem ZZ.x {A : Nat → Prop} {s : State} {args : Array Value} (h : ZZ A s s.heap) : ∀ w ∈ nsX, w.before args s = true := by
  intro w hw
  simp only [nsX, List.mem_cons, List.not_mem_nil, or_false] at hw
  rcases hw with rfl | rfl | rfl | rfl | rfl
  · exact h.2.1.1.word
  · exact h.2.1.2.word
  · exact h.2.2.1 args
  · exact h.2.2.2.1 args
  · exact h.2.2.2.2 args
theorem Zq_at {C n d : String} {A : Nat → Prop} {U : State} {H : Heap} {c i a : Nat} {k : Class} {f : Field} (h : va_Zq C n d A U H) (hf : U.fieldFound? C n d = some (c, k, i, f)) (hs : k.statics = some a) : ¬ A a ∧ ∃ (cell : Cell) (u : RefV), H[a]? = some cell ∧ cell.vm.isStatics = true ∧ cell.slots[f.slot]? = some u.v := by
  have key : ∀ v, va_Z C n d v A U H → ¬ A a ∧ ∃ cell : Cell, H[a]? = some cell ∧ cell.vm.isStatics = true ∧ cell.slots[f.slot]? = some v := by
    rintro v ⟨cf, kf, fi, f', a', cell, h1, h2, h3, h4, h5, h6, h7, h8⟩
    have e := h1.symm.trans hf
    simp only [Option.some.injEq, Prod.mk.injEq] at e
    obtain ⟨_, e2, _, e4⟩ := e
    subst e2 e4
    have e5 : a' = a := Option.some.inj (h4.symm.trans hs)
    subst e5
    exact ⟨h8, cell, h5, h6, h7⟩
  rcases h with h | ⟨t, h⟩
  · obtain ⟨a1, cell, a2, a3, a4⟩ := key _ h
    exact ⟨a1, cell, ⟨.null, rfl⟩, a2, a3, a4⟩
  · obtain ⟨a1, cell, a2, a3, a4⟩ := key _ h
    exact ⟨a1, cell, ⟨.ref t, rfl⟩, a2, a3, a4⟩
section THR
variable {p : Program} {l : Launch} {e : Env} {R : Room} {s : State} {m₀ : MethodId} {args : Array Value} {below : List Frame} {meth : Method} {c : Code} {W : State} {locs : List Loc} {cells slots : Nat} {A : Nat → Prop}
set_option maxHeartbeats 2000000 in
theorem thr_ns (X : Stand p l e R s m₀ args below meth c W locs cells slots) (hexec : p.tables.exec = Jvm.exec) (hltr : l.stackTraces = false) (hown : s.vm.findClass "WatchValley" = some m₀.cls) (hts : ∀ w ∈ tb, w.before args s = true) (hZ : ZZ A s s.heap) (hlo : ∀ x ∈ locs, A x.base)
    {a : Addr} {cX : ClassId} {kX : Class} (hfoundX : s.vm.findClass NSE = some cX) (hkX : s.vm.classes[cX]? = some kX) (hcell : W.heap[a]? = some (freshCell cX kX)) (hnew : s.heap.size ≤ a)
    {msg : Value} (hmsg : msg.isRef = true) {g : JFrame} (hg : g.method = m₀) (hsize : g.locals.size = c.maxLocals) (hlocked : g.locked = none) (hentered : g.entered = []) (hstack : g.stack = [msg, .ref a, .ref a])
    (hd6 : decode c.code g.pc = .ok (.invokespecial 165, 3)) (hd9 : decode c.code (g.pc + 3) = .ok (.athrow, 1)) (hout : ∀ x ∈ c.exceptionTable.toList, covers x (g.pc + 3) = false)
    (hRf : 6 ≤ R.frames) (hRl : 2 * g.monitorRoom + 90 ≤ R.locals) (hlocks : meth.locks = false) :
    ∃ U : State, Steps p.tables e below (W.setTop g) U ∧ U.status = .running ∧ Ended U below (.threw a) ∧ s.WarmedH U.vm ∧ (∃ L, s.sameButNew ({ U with vm := s.vm } : State) (locs ++ L) cells slots ∧ ∀ x ∈ L, x.base = a) ∧
      U.heap.size = W.heap.size ∧ (∀ q : Nat, q ≠ a → U.heap[q]? = W.heap[q]?) ∧ ∃ ce : Cell, U.heap[a]? = some ce ∧ ce.cls = cX ∧ ce.vm = .none := by
  have htr : e.platform.stackTraces = false := by rw [X.admits.platform]; exact hltr
  have howns : e.platform.frameOwnsMonitors = true := by rw [X.admits.platform]
  have hfin : e.platform.finalization = false := by rw [X.admits.platform]
  have hpl : e.platform.magicAccessors = ({} : Platform).magicAccessors := by rw [X.admits.platform]
  have h : ∀ x, x ∈ nsT → x.before args s = true := fun x hx => (nsT_ok x hx).elim (hts x) (hZ.x x)
  have a' : ∀ x, x ∈ nsT → x.holds args s none s [] = true := fun x hx => h x hx
  obtain ⟨T, Z0, L, -, Y⟩ := ThrowableC.of_atoms (args := args) howns hfin hpl (fun x hx => h x (by simp [nsT, hx]))
  obtain ⟨Z, M, LZ, LM, hnZ⟩ := Init0T.ofS_atoms (args := args) hpl L Y (fun x hx => h x (by simp [nsT, hx]))
  obtain ⟨P1, L1, hP1m, hP1s⟩ := PassC.ofS_atoms (args := args) (s := s) hpl (X := NSE) (Y := "java/lang/RuntimeException") (by decide) (by decide) (index := 13) (bytes := prog_20_method_4_code) (by decide +kernel) (by decide +kernel) (by decide +kernel) (by decide +kernel) (fun x hx => h x (by simp [nsT, hx]))
  obtain ⟨P2, Ps, hlen, L2, hL, hP2m, hlink2, hlink⟩ := Bundle.chainS (args := args) hpl hnZ ["java/lang/Exception"] "java/lang/RuntimeException" (by decide) (by decide) (fun x hx => h x (by simp [nsT, hx]))
  have hlink1 : P1.sup = P2.m := Option.some.inj (hP1s.symm.trans hP2m)
  have hfound : s.vm.findClass NSE = some P1.m.cls := findClass_of_methodNamed hP1m
  cases Option.some.inj (hfoundX.symm.trans hfound)
  obtain ⟨c1, kX', hc1, hk, hord, -, -, hn6⟩ := Cond.instantiable_spec (a' (.instantiable NSE 6) (by simp [nsT]))
  cases Option.some.inj (hc1.symm.trans hfound)
  cases Option.some.inj (hkX.symm.trans hk)
  have hsel0 : selectMethod e.platform s.vm P1.m.cls T.fill0 = .method T.fill0 := by
    obtain ⟨c2, r2, m2, q1, q2, q3, q4, -⟩ := Cond.selects_spec (a' (.selects NSE Bundle.tFill0 Bundle.tFill0) (by simp [nsT]))
    cases Option.some.inj (q1.symm.trans hfound)
    cases Option.some.inj (q2.symm.trans (State.methodFound?_of_named Y.fill0 (by decide)))
    cases Option.some.inj (q3.symm.trans Y.fill0)
    rw [Launch.admits_selectMethod X.admits]; exact q4
  have hselF : selectMethod e.platform s.vm P1.m.cls T.fill = .method T.fill := by
    obtain ⟨c2, r2, m2, q1, q2, q3, q4, -⟩ := Cond.selects_spec (a' (.selects NSE Bundle.tFill Bundle.tFill) (by simp [nsT]))
    cases Option.some.inj (q1.symm.trans hfound)
    cases Option.some.inj (q2.symm.trans (State.methodFound?_of_named Y.fill (by decide)))
    cases Option.some.inj (q3.symm.trans Y.fill)
    rw [Launch.admits_selectMethod X.admits]; exact q4
  obtain ⟨hnA, cellS0, u0, hcS0, hiss, hu0⟩ := Zq_at hZ.1.1 Y.unassigned L.statics
  obtain ⟨-, cellS1, sen, hcS1, -, hsen⟩ := Zq_at hZ.1.2 Y.sentinel L.statics
  cases Option.some.inj (hcS1.symm.trans hcS0)
  obtain ⟨ci198, i198, fB, hk198, hg198, ha198, hsB, -, hnB, htB, hffB⟩ := Cond.ownField (t := .object "java/lang/Object") Y.found L.cls (by decide +kernel) (a' (.fieldLink thN 198 thN "backtrace" "Ljava/lang/Object;") (by simp [nsT])) (a' (.lays thN thN "backtrace" "Ljava/lang/Object;") (by simp [nsT])) e.platform hpl
  obtain ⟨cellS, hcS', heS, -, hkeep⟩ := X.same.2.2.2.2.2 T.aS cellS0 hcS0
  have hcellS : W.heap[T.aS]? = some cellS := hcS'
  have hout' : ∀ i, (⟨T.aS, i⟩ : Loc) ∉ locs := fun i hmem => hnA (hlo _ hmem)
  have hknownS : cellS.vm ≠ .unknown := by
    rw [heS]; intro hu
    rw [show cellS0.vm = .unknown from hu] at hiss
    cases hiss
  have hneS : T.aS ≠ a := Nat.ne_of_lt (Nat.lt_of_lt_of_le (Array.getElem?_eq_some_iff.mp hcS0).1 hnew)
  obtain ⟨iM, hffM⟩ := Y.msg
  obtain ⟨tyC, dC, hdC, hdnC⟩ := Cond.laysAt hfound hk Y.cause (a' (.lays NSE thN "cause" "Ljava/lang/Throwable;") (by simp [nsT]))
  obtain ⟨tyS, dS, hdS, hdnS⟩ := Cond.laysAt hfound hk Y.stack (a' (.lays NSE thN "stackTrace" steN) (by simp [nsT]))
  obtain ⟨tyP, dP, hdP, hdnP⟩ := Cond.laysAt hfound hk Y.supp (a' (.lays NSE thN "suppressedExceptions" lstN) (by simp [nsT]))
  obtain ⟨tyM, dM, hdM, hdnM⟩ := Cond.laysAt hfound hk hffM (a' (.lays NSE thN "detailMessage" "Ljava/lang/String;") (by simp [nsT]))
  obtain ⟨tyB, dB, hdB, hdnB⟩ := Cond.laysAt hfound hk hffB (a' (.lays NSE thN "backtrace" "Ljava/lang/Object;") (by simp [nsT]))
  have bC := Cond.laysApart hdB hdC hdnB hdnC (by rw [hnB, Y.causeName]; decide)
  have bS := Cond.laysApart hdB hdS hdnB hdnS (by rw [hnB, Y.stackName]; decide)
  have bP := Cond.laysApart hdB hdP hdnB hdnP (by rw [hnB, Y.suppName]; decide)
  have hskip : SkipFacts T e.platform s (fun u => u) u0 ((preparedCellV T.toThrowableT (freshCell P1.m.cls kX) a u0 sen).withEntry W.cur) :=
    ⟨{ ci198 := ci198, i198 := i198, fBack := fB }, ⟨hk198, hg198, ha198, hsB⟩, by
      have := fresh_default (c := P1.m.cls) tyB
      rw [htB] at this
      simpa [preparedCellV, Cell.setSlot, Cell.withEntry, Array.getElem?_setIfInBounds, bC, bS, bP, bC.symm, bS.symm, bP.symm, defaultValue] using this, fun _ _ => rfl⟩
  obtain ⟨tm, methC, cdC, kC, vm₁, hnC, -, -, -, -, -, -, -, hW₁, st1⟩ := Steps.initColdS (tb := p.tables) (e := e) (below := below) (s := s) (U := W) X.here hexec X.warmed hpl hown (t := Bundle.initS NSE) rfl rfl (by decide)
    (a' (.methodLink "WatchValley" 165 (Bundle.initS NSE)) (by simp [nsT])) (h (.instanceMethod (Bundle.initS NSE)) (by simp [nsT, Bundle.passSAtoms])) (bytes := prog_20_method_4_code) (maxL := 2) (h (.code (Bundle.initS NSE) prog_20_method_4_code 2 none) (by simp [nsT, Bundle.passSAtoms]))
    (f := g) hg (a := a) (msg := msg) (rest := [.ref a]) hstack hd6
  cases Option.some.inj (hnC.symm.trans hP1m)
  have X₁ := X.noted hW₁
  obtain ⟨vm₂, X₂, st2⟩ := X₁.ctorMessageOffV hexec (g := { g with stack := [.ref a] }) hg hsize T L Z LZ M LM (P1 :: P2 :: Ps)
    (fun P hP => by
      rcases List.mem_cons.mp hP with rfl | hP
      · exact L1
      · rcases List.mem_cons.mp hP with rfl | hP
        · exact L2
        · exact hL P hP) ⟨hlink1, hlink2, hlink⟩ (u0 := u0) (sen := sen) (self := a) hmsg (cell := freshCell P1.m.cls kX) (cellS := cellS)
    hcell (fun _ => by simp) (by simp) rfl rfl hsel0 hselF hcellS hneS hknownS (by rw [hkeep _ (hout' _)]; exact hu0) (by rw [hkeep _ (hout' _)]; exact hsen)
    (Takes.of_laid hk hord tyC (by rw [Y.causeType]; rfl)) (Takes.of_laid hk hord tyS (by rw [Y.stackType]; exact fits_refV_array _ u0)) (Takes.of_laid hk hord tyP (by rw [Y.suppType]; exact fits_refV_object _ sen))
    (Takes.of_laid hk hord tyM (by rw [Y.msgType]; exact fits_refV_object _ ⟨msg, hmsg⟩)) Y.objLocals hskip htr [] hd6
    (by simp only [List.length_cons, hlen, List.length_nil]; omega) (by
      have hl1 : Ps.length = 1 := hlen
      have e1 : 2 * JFrame.monitorRoom { g with stack := [.ref a] } = 2 * g.monitorRoom := rfl
      rw [e1]
      simp only [List.length_cons, hl1, List.map_cons, List.map_nil, List.sum_cons, List.sum_nil, Value.category]
      omega)
  obtain ⟨hwalk, hrun, hended, hWU, hsame⟩ := X₂.athrowLeaves hexec (g := { g with stack := [.ref a], pc := g.pc + 3 }) hg hlocked hentered hout (a := a) (rest := []) rfl hd9 hlocks
  have hlt : a < ((W.setVm vm₁).setVm vm₂).heap.size := (Array.getElem?_eq_some_iff.mp hcell).1
  have hU := heapAt_setCell_self (s := (W.setVm vm₁).setVm vm₂) (plainBareV T.toThrowableT (freshCell P1.m.cls kX) a u0 sen msg) hlt
  refine ⟨_, st1 _ (fun acts => ?_), hrun, hended, hWU, ⟨_, hsame, fun y hy => ?_⟩, ?_, fun q hq => ?_, _, hU, rfl, rfl⟩
  · rw [doInvoke_state]
    exact st2 _ hwalk
  · simp only [List.mem_cons, List.not_mem_nil, or_false] at hy
    rcases hy with rfl | rfl | rfl | rfl | rfl <;> rfl
  · show (Array.setIfInBounds W.heap a _).size = W.heap.size
    exact Array.size_setIfInBounds
  · show (Array.setIfInBounds W.heap a _)[q]? = W.heap[q]?
    exact Array.getElem?_setIfInBounds_ne (Ne.symm hq)
end THR
