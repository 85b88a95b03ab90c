/-! METHODS THAT THROW: their contracts -/
/-- an address is used up: nothing of ours lies there -/
def sSk (S : Hp) : Hp := (gK S, gI S, gR S, gN S, gA S, gQ S, gJ S, gZ S + 1)
theorem hd_sk {G : GG} {A : Nat → Prop} {S : Hp} {H U : Heap} (h : hd G A S H) (hz : U.size = H.size + 1) (ho : ∀ q : Nat, q < H.size → U[q]? = H[q]?) : hd G A (sSk S) U := by
  obtain ⟨h0, LP, hL, hP, hD⟩ := h
  exact ⟨by rw [hz, h0]; rfl, LP, hL, hP.kept (fun k x hx => ho x.1 ((hP k x hx).lt)), hD⟩
def strL : List (Nat × String) := [(163, "no such piece"), (181, "no such question about a piece"), (211, "no such home"), (213, "no such day yet")]
/-- what a throw needs of the run -/
def EE (A : Nat → Prop) (U : State) : Prop := ZZ A U U.heap ∧ ∀ q ∈ strL, ∃ a, vk_R "WatchValley" q.1 q.2 a U
theorem EE.same {A : Nat → Prop} {u U : State} (hv : U.vm = u.vm) (hh : U.heap = u.heap) (h : EE A u) : EE A U := by
  refine ⟨?_, fun q hq => ?_⟩
  · have : u.vm.Alike U.vm := by rw [hv]; exact Vm.Alike.refl _
    rw [hh]
    exact h.1.moved this
  · obtain ⟨a, ha⟩ := h.2 q hq
    exact ⟨a, vk_R.same hv ha⟩
theorem EE.warm {A : Nat → Prop} {s U : State} (hW : s.WarmedH U.vm) (hq : ∀ a : Nat, a < s.heap.size → ¬ A a → U.heap[a]? = s.heap[a]?) (h : EE A s) : EE A U := by
  refine ⟨(h.1.kept hq).moved hW.alike, fun q hq => ?_⟩
  obtain ⟨a, ha⟩ := h.2 q hq
  exact ⟨a, vk_R.warm hW ha⟩
/-- thrown -/
def ThE (G : GG) (A : Nat → Prop) (Pt : Hp → Prop) (mc ms : Nat) (st : State) (o : Outcome) (t : State) : Prop := ∃ a : Nat, o = .threw a ∧ st.WarmedH t.vm ∧ (∃ L, st.sameButNew ({ t with vm := st.vm } : State) L mc ms ∧ ∀ q ∈ L, A q.base) ∧ va_F A st t ∧ (∃ w, Pt w ∧ hd G A (sSk w) t.heap) ∧ ∃ ce : Cell, t.heap[a]? = some ce ∧ st.vm.findClass NSE = some ce.cls ∧ ce.vm = .none
def QE (G : GG) (A : Nat → Prop) (Po : Option Value → Hp → Prop) (Pt : Hp → Prop) (mc ms : Nat) : Array Value → State → Outcome → State → Prop := fun a st o t => (Pst G A Po a st o t ∧ ∃ L, FrameEnd st o t L mc ms ∧ ∀ q ∈ L, A q.base) ∨ ThE G A Pt mc ms st o t
def QQ (below : List Frame) (G : GG) (A : Nat → Prop) (Po : Option Value → Hp → Prop) (Pt : Hp → Prop) (args : Array Value) (s : State) (mc ms : Nat) : State → Prop := fun t => ∃ o, t.status = .running ∧ Ended t below o ∧ QE G A Po Pt mc ms args s o t
theorem QQ_m {below : List Frame} {G : GG} {A : Nat → Prop} {Po : Option Value → Hp → Prop} {Pt : Hp → Prop} {args : Array Value} {s : State} {mc ms : Nat} : ∀ t, MQ below (Pst G A Po) args s mc ms A t → QQ below G A Po Pt args s mc ms t := fun t ⟨o, h1, h2, h3, h4⟩ => ⟨o, h1, h2, Or.inl ⟨h3, h4⟩⟩
section THW
variable {p : Program} {l : Launch} {e : Env} {R : Room} {s : State} {m : MethodId} {args : Array Value} {below : List Frame} {meth : Method} {c : Code} {H : Heap} {locs : List Loc} {nc ns : Nat}
variable {cc : ByteArray} {pc nL : Nat} {G : GG} {rt : Option FieldType} {A : Nat → Prop} {ls : Array Slot} {w : Hp} {Po : Option Value → Hp → Prop} {Pt : Hp → Prop} {mc ms : Nat}
theorem thr_W (C : Cx p s m args meth c cc nL 9 G rt) (hA : ∀ q, s.heap.size ≤ q → A q) (hR : 8 ≤ R.frames ∧ 320 ≤ R.locals) (hRc : R.cells = mc) (hRs : R.slots = ms) (hltr : l.stackTraces = false) (hE : EE A s) (hex : c.exceptionTable.toList = []) (hh : hd G A w H) (hS : va_S A s.heap H locs) (hls : ls.size = nL) (hnc : nc + 1 ≤ mc ∧ ns + 6 ≤ ms) {k : Nat} {tx : String} (hk : (k, tx) ∈ strL)
    (d0 : decode cc pc = .ok (.new 161, 3)) (d3 : decode cc (pc + 3) = .ok (.dup, 1)) (d4 : decode cc (pc + 4) = .ok (.ldc k, 2)) (d6 : decode cc (pc + 6) = .ok (.invokespecial 165, 3)) (d9 : decode cc (pc + 9) = .ok (.athrow, 1)) (hPt : Pt w) : W p l e R s m args below meth c H locs nc ns (QQ below G A Po Pt args s mc ms) (F0 m pc ls []) := by
  obtain ⟨hx, hb, hml, hown, hts, hK, hr, hlk⟩ := id C
  have hown : s.vm.findClass "WatchValley" = some m.cls := hown
  have w1 : ∀ x ∈ nsT, x.before args s = true := fun x hx => (nsT_ok x hx).elim (hts x) (hE.1.x x)
  obtain ⟨q, hq⟩ := hE.2 _ hk
  refine W.newc hx hb hown (w1 (.classLink "WatchValley" 161 NSE) (by simp [nsT])) (w1 (.instantiable NSE 6) (by simp [nsT])) (w1 (.initialized NSE) (by simp [nsT])) rfl d0 (by rw [hRc]; exact hnc.1) (by rw [hRs]; exact hnc.2) (fun cC kC f1 f2 f3 f4 => ?_)
  refine lv_dup hx hb d3 rfl ?_
  refine va_ldcS hx hb hown hq d4 ?_
  intro T hT X
  have hsz : T.heap.size = H.size + 1 := by rw [hT, Array.size_push]
  have hold : ∀ q : Nat, q < H.size → T.heap[q]? = H[q]? := fun q hq => by rw [hT, Array.getElem?_push, if_neg (Nat.ne_of_lt hq)]
  obtain ⟨U, u1, u2, u3, u4, ⟨L, u5, u6⟩, u7, u8, ce, u9, u10, u11⟩ := thr_ns (A := A) (a := H.size) (msg := .ref q) (g := F0 m (pc + 6) ls [.ref q, .ref H.size, .ref H.size]) X hx hltr hown hts hE.1 hS.2.2 f1 f2 (by rw [hT, Array.getElem?_push_size]) hS.1 rfl rfl (by rw [hml]; exact hls) rfl rfl rfl (by rw [hb]; exact d6) (by rw [hb]; exact d9) (by rw [hex]; intro x hx; cases hx) (by omega) (by
    show 2 * 0 + 90 ≤ R.locals
    omega) hlk
  refine ⟨U, u1, _, u2, u3, Or.inr ⟨H.size, rfl, u4, ⟨_, u5.mono hnc.1 hnc.2, fun x hx => ?_⟩, ⟨?_, fun y hy hn => ?_⟩, ⟨w, hPt, hd_sk hh (by rw [u7, hsz]) (fun y hy => ?_)⟩, ce, u9, by rw [u10]; exact f1, u11⟩⟩
  · rcases List.mem_append.mp hx with z | z
    · exact hS.2.2 x z
    · rw [u6 x z]
      exact hA _ hS.1
  · rw [u7, hsz]
    exact Nat.le_trans hS.1 (Nat.le_succ _)
  · have : y < H.size := Nat.lt_of_lt_of_le hy hS.1
    rw [u8 y (Nat.ne_of_lt this), hold y this]
    exact hS.2.1 y hy hn
  · rw [u8 y (Nat.ne_of_lt hy), hold y hy]
end THW
/-- at a place of a method that may throw -/
def JdT (l : Launch) (k lv mc ms : Nat) (rt : Option FieldType) (Po : Option Value → Hp → Prop) (Pt : Hp → Prop) (pc : Nat) : Kt := fun L S w nc ns =>
  ∀ (p : Program) (e : Env) (s : State) (m : MethodId) (args : Array Value) (below : List Frame) (meth : Method) (c : Code) (G : GG) (A : Nat → Prop) (R : Room), Cx p s m args meth c (mt k).2.1 (mt k).2.2.1 (mtC.getD k 0) G rt → (∀ q, s.heap.size ≤ q → A q) → (lv ≤ R.frames ∧ 40 * lv ≤ R.locals) → R.cells = mc → R.slots = ms → (mtI k = true → meth.name = "<init>") → l.stackTraces = false → EE A s → c.exceptionTable.toList = [] →
    Sf p l e R s m args below meth c (QQ below G A Po Pt args s mc ms) G A (mt k).2.2.1 pc L S w nc ns
section METT
variable {l : Launch} {k lv mc ms : Nat} {rt : Option FieldType} {ev : Ev} {Po : Option Value → Hp → Prop} {Pt : Hp → Prop} {full : List CI} {bad : List Nat}
theorem jdT_s (hcd : (∀ q ∈ full, bad.contains q.1 = false → ciOK (mt k).2.1 (mtC.getD k 0) (mt k).2.2.1 (mtI k) q) ∧ chn full = true) (hev : ∀ k r, ev k = some r → Ct l k r.1 r.2.1 r.2.2.1 r.2.2.2) (stops : List Nat) (hbs : ∀ b, bad.contains b = true → stops.contains b = true) (n : Nat) {pc : Nat} (hpc : bad.contains pc = false) {L : Ls} {S : List Value} {w : Hp} {nc ns : Nat} (hb : nc ≤ mc ∧ ns ≤ ms) (h : wp lv mc ms ev rt Po full stops (fun pc => JdT l k lv mc ms rt Po Pt pc) n (seek full pc) L S w nc ns) : JdT l k lv mc ms rt Po Pt pc L S w nc ns := by
  intro p e s m args below meth c G A R C hA hR hRc hRs hini hl hE hex
  cases hs : seek full pc with
  | nil =>
    rw [hs] at h
    cases n <;> exact False.elim h
  | cons q t =>
    rw [hs] at h
    have e1 := seek_pc hs
    rw [← e1]
    exact wp_okQ QQ_m C hA hR hRc hRs hini hev hcd hbs (fun pc L S w nc ns hb h => h p e s m args below meth c G A R C hA hR hRc hRs hini hl hE hex) n q t L S w nc ns (by rw [← hs]; exact seek_suf) (by rw [e1]; exact hpc) hb h
theorem jdT_thr (h9 : mtC.getD k 0 = 9) (hlv : 8 ≤ lv) {j : Nat} {tx : String} (hj : (j, tx) ∈ strL) {pc : Nat} (d0 : decode (mt k).2.1 pc = .ok (.new 161, 3)) (d3 : decode (mt k).2.1 (pc + 3) = .ok (.dup, 1)) (d4 : decode (mt k).2.1 (pc + 4) = .ok (.ldc j, 2)) (d6 : decode (mt k).2.1 (pc + 6) = .ok (.invokespecial 165, 3)) (d9 : decode (mt k).2.1 (pc + 9) = .ok (.athrow, 1)) {L : Ls} {w : Hp} {nc ns : Nat} (hnc : nc + 1 ≤ mc ∧ ns + 6 ≤ ms) (hPt : Pt w) : JdT l k lv mc ms rt Po Pt pc L [] w nc ns := by
  intro p e s m args below meth c G A R C hA hR hRc hRs hini hl hE hex H locs ls hh hS hls
  rw [h9] at C
  exact thr_W C hA (by omega) hRc hRs hl hE hex hh hS hls.1 hnc hj d0 d3 d4 d6 d9 hPt
end METT
abbrev SpT : Type := List Value → Hp → (Option Value → Hp → Prop) → (Hp → Prop) → Prop
def PreE (G : GG) (A : Nat → Prop) (as : List Value) (w : Hp) : Array Value → State → Prop := fun v U => Pre G A as w v U ∧ EE A U
/-- method k, which may throw, keeps sp -/
def CtT (l : Launch) (k lv mc ms : Nat) (sp : SpT) : Prop := ∀ (G : GG) (A : Nat → Prop) (as : List Value) (w : Hp) (Po : Option Value → Hp → Prop) (Pt : Hp → Prop), sp as w Po Pt → Free.MetFree l (mt k).1 (D.headSpec (wsT k) (rmL lv mc ms)) (PreE G A as w) (fun _ _ _ _ _ => True) (QE G A Po Pt mc ms)
theorem ctT_jd {l : Launch} {k lv mc ms : Nat} {rt : Option FieldType} (hl : l.stackTraces = false) (hk : k < 128) (hrt : (mt k).2.2.2 = rt) {sp : SpT} (h : ∀ as w Po Pt, sp as w Po Pt → (lg_sl as).length ≤ (mt k).2.2.1 ∧ JdT l k lv mc ms rt Po Pt 0 (lv_args 0 as) [] w 0 0) : CtT l k lv mc ms sp := by
  intro G A as w Po Pt hsp
  obtain ⟨hlen, hJ⟩ := h as w Po Pt hsp
  refine Free.MetFree.of_bodySF (code := (mt k).2.1) (maxLocals := (mt k).2.2.1) (ret := (mt k).2.2.2) (mt_pf k hk) ?_ ?_
  · intro args s m h hn
    obtain ⟨meth, c, h1, h2, h3, h4, h5, h6, -, -⟩ := Cond.code_spec hn (atoms_spec (ws := wsT k) h _ List.mem_cons_self)
    exact ⟨meth, c, h1, h2, h3, h4, h5, h6⟩
  · intro p e s m args below meth c s₁ B hml hP _
    obtain ⟨⟨rfl, hK, hh, hA⟩, hE⟩ := hP
    have hts0 := atoms_spec (ws := wsT k) B.pre
    have hts : ∀ w ∈ tb, w.before as.toArray s = true := fun w h => hts0 w (List.mem_cons_of_mem _ h)
    have hown : s.vm.findClass (ownS (mtC.getD k 0)) = some m.cls := by rw [← mt_cls k hk]; exact findClass_of_methodNamed B.named
    have hr := B.returns
    rw [hrt] at hr
    have hin : mtI k = true → meth.name = "<init>" := fun h => (name_of_methodNamed B.named B.method).1.trans (of_decide_eq_true h)
    have X₀ : Stand p l e (D.headSpec (wsT k) (rmL lv mc ms)).room s m as.toArray below meth c s₁ [] 0 0 := Stand.of_body B
    have hex : c.exceptionTable.toList = [] := by
      obtain ⟨meth', c', h1, h2, -, -, -, -, h7, -⟩ := Cond.code_spec B.named (hts0 _ List.mem_cons_self)
      cases B.method.symm.trans h1
      cases X₀.code.symm.trans h2
      simpa using h7
    have hl1 := lv_entry as (n := (mt k).2.2.1) hlen
    have hh0 : s₁.heap = s.heap := by rw [B.state]; rfl
    have K := hJ p e s m as.toArray below meth c G A (rmL lv mc ms) ⟨B.exec, B.bytes, hml, hown, hts, hK, hr, B.notSynchronized⟩ (fun q hq => hA q (by rw [← hh.1]; exact hq)) ⟨Nat.le_refl _, Nat.le_refl _⟩ rfl rfl hin hl hE hex s.heap [] _ hh va_S.rf hl1
    rw [← lg_entry_eq] at K
    obtain ⟨t, a1, o, b1, b2, b3⟩ := K s₁ hh0 X₀
    exact ⟨t, o, a1, b1, b2, b3⟩
