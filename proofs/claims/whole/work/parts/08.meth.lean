/-! A METHOD's contract out of the calculus -/
def mtI (k : Nat) : Bool := decide ((mt k).1.name = "<init>")
/-- at the place pc of method k, with these locals, this stack and this store: the method ends as Po wants -/
def Jd (l : Launch) (k lv mc ms : Nat) (rt : Option FieldType) (Po : Option Value → Hp → Prop) (pc : Nat) : Kt := fun L S w nc ns =>
  ∀ (p : Program) (e : Env) (s : State) (m : MethodId) (args : Array Value) (below : List Frame) (meth : Method) (c : Code) (G : GG) (A : Nat → Prop) (R : Room), Cx p s m args meth c (mt k).2.1 (mt k).2.2.1 (mtC.getD k 0) G rt → (∀ q, s.heap.size ≤ q → A q) → (lv ≤ R.frames ∧ 40 * lv ≤ R.locals) → R.cells = mc → R.slots = ms → (mtI k = true → meth.name = "<init>") →
    Sf p l e R s m args below meth c (MQ below (Pst G A Po) args s mc ms A) G A (mt k).2.2.1 pc L S w nc ns
abbrev cdM (k : Nat) (full : List CI) : Prop := cdOK (mt k).2.1 (mtC.getD k 0) (mt k).2.2.1 (mtI k) full
section METH
variable {l : Launch} {k lv mc ms : Nat} {rt : Option FieldType} {ev : Ev} {Po : Option Value → Hp → Prop} {full : List CI} {stops : List Nat} {K : Nat → Kt}
theorem jd_wp (hcd : cdM k full) (hev : ∀ k r, ev k = some r → Ct l k r.1 r.2.1 r.2.2.1 r.2.2.2) (hK : ∀ pc L S w nc ns, nc ≤ mc ∧ ns ≤ ms → K pc L S w nc ns → Jd l k lv mc ms rt Po pc L S w nc ns) (n : Nat) {pc : Nat} {L : Ls} {S : List Value} {w : Hp} {nc ns : Nat} (hb : nc ≤ mc ∧ ns ≤ ms) (h : wp lv mc ms ev rt Po full stops K n (seek full pc) L S w nc ns) : Jd l k lv mc ms rt Po pc L S w nc ns := by
  intro p e s m args below meth c G A R C hA hR hRc hRs hini
  cases hs : seek full pc with
  | nil =>
    rw [hs] at h
    cases n <;> exact False.elim h
  | cons q t =>
    rw [hs] at h
    have e1 := seek_pc hs
    rw [← e1]
    exact wp_ok C hA hR hRc hRs hini hev hcd (fun pc L S w nc ns hb h => hK pc L S w nc ns hb h p e s m args below meth c G A R C hA hR hRc hRs hini) n q t L S w nc ns (by rw [← hs]; exact seek_suf) hb h
/-- no loop -/
theorem jd_run (hcd : cdM k full) (hev : ∀ k r, ev k = some r → Ct l k r.1 r.2.1 r.2.2.1 r.2.2.2) (n : Nat) {L : Ls} {S : List Value} {w : Hp} {pc : Nat} {nc ns : Nat} (hb : nc ≤ mc ∧ ns ≤ ms) (h : wp lv mc ms ev rt Po full [] (fun _ _ _ _ _ _ => False) n (seek full pc) L S w nc ns) : Jd l k lv mc ms rt Po pc L S w nc ns :=
  jd_wp hcd hev (fun _ _ _ _ _ _ _ h => False.elim h) n hb h
/-- a loop with its head at hp: the measure falls -/
theorem jd_loop (hcd : cdM k full) (hev : ∀ k r, ev k = some r → Ct l k r.1 r.2.1 r.2.2.1 r.2.2.2) (n hp : Nat) (I : Nat → Kt) (hst : stops.contains hp = true)
    (hb : ∀ i L S w nc ns, I i L S w nc ns → nc ≤ mc ∧ ns ≤ ms)
    (ho : ∀ pc L S w nc ns, ¬ pc = hp → nc ≤ mc ∧ ns ≤ ms → K pc L S w nc ns → Jd l k lv mc ms rt Po pc L S w nc ns)
    (h : ∀ i L S w nc ns, I i L S w nc ns → wp lv mc ms ev rt Po full stops (fun pc L S w nc ns => if pc = hp then ∃ j, j < i ∧ I j L S w nc ns else K pc L S w nc ns) n (seek full hp) L S w nc ns) :
    ∀ i L S w nc ns, I i L S w nc ns → Jd l k lv mc ms rt Po hp L S w nc ns := by
  intro i
  induction i using Nat.strongRecOn with
  | _ i ih =>
    intro L S w nc ns hI
    refine jd_wp hcd hev (fun pc L S w nc ns hbb hk => ?_) n (hb _ _ _ _ _ _ hI) (h i L S w nc ns hI)
    by_cases hpc : pc = hp
    · rw [if_pos hpc] at hk
      obtain ⟨j, hj, hk⟩ := hk
      rw [hpc]
      exact ih j hj L S w nc ns hk
    · rw [if_neg hpc] at hk
      exact ho _ _ _ _ _ _ hpc hbb hk
theorem ct_jd (hk : k < 128) (hrt : (mt k).2.2.2 = rt) {sp : Sp} (h : ∀ as w Po, sp as w Po → (lg_sl as).length ≤ (mt k).2.2.1 ∧ Jd l k lv mc ms rt Po 0 (lv_args 0 as) [] w 0 0) : Ct l k lv mc ms sp := by
  intro G A as w Po hsp
  obtain ⟨hlen, hJ⟩ := h as w Po hsp
  refine va_MetF (cc := (mt k).2.1) (maxL := (mt k).2.2.1) (ret := (mt k).2.2.2) (mt_pf k hk) rfl ?_
  intro p e s m args below meth c s₁ B hml hv
  obtain ⟨rfl, hK, hh, hA⟩ := hv
  have hts0 := atoms_spec (ws := wsT k) B.pre
  have hts : ∀ w ∈ tb, w.before as.toArray s = true := fun w h => hts0 w (List.mem_cons_of_mem _ h)
  have hown : s.vm.findClass (ownS (mtC.getD k 0)) = some m.cls := by rw [← mt_cls k hk]; exact findClass_of_methodNamed B.named
  have hr := B.returns
  rw [hrt] at hr
  have hin : mtI k = true → meth.name = "<init>" := fun h => (name_of_methodNamed B.named B.method).1.trans (of_decide_eq_true h)
  have hl := lv_entry as (n := (mt k).2.2.1) hlen
  rw [lg_entry_eq]
  exact hJ p e s m as.toArray below meth c G A (rmL lv mc ms) ⟨B.exec, B.bytes, hml, hown, hts, hK, hr, B.notSynchronized⟩ (fun q hq => hA q (by rw [← hh.1]; exact hq)) ⟨Nat.le_refl _, Nat.le_refl _⟩ rfl rfl hin s.heap [] _ hh va_S.rf hl
end METH
