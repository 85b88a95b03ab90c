/-! THE LAW calls a helper, over a part of the store -/
section LCQ
variable {p : Program} {l : Launch} {e : Env} {R : Room} {s : State} {m : MethodId} {args : Array Value} {below : List Frame} {meth : Method} {c : Code} {H : Heap} {locs : List Loc} {cells slots : Nat} {Q : State → Prop}
variable {cc : ByteArray} {pc nL : Nat} {G : GG} {rt : Option FieldType} {A : Nat → Prop} {ls : Array Slot} {rest : List Value} {S : Hp}
theorem r_callP0 (C : Cx p s m args meth c cc nL 11 G rt) (hE : EE A s) (hh : hd G A S H) (hS0 : ∀ a : Nat, a < s.heap.size → ¬ A a → H[a]? = s.heap[a]?) {H0 : Heap} (hS : va_S A H0 H locs) (hA : ∀ q, gZ S ≤ q → A q) (hls : ls.size = nL) {idx lv lv' mc' ms' n : Nat} {y : MethodName} {bytes : ByteArray} {hs : List (Nat × Nat × Nat × Nat)} {sp : Sp} {As : List Value} {Po : Option Value → Hp → Prop} (hC : CtP l y (.codeWith y bytes 5 (some .int) hs) lv' mc' ms' sp) (hcw : Cond.codeWith y bytes 5 (some .int) hs ∈ tb) (hlw : Cond.methodLink "WatchValleyLaw" idx y ∈ tb) (hsw : Cond.static y ∈ tb) (hiw : Cond.initialized y.cls ∈ tb) (hy : y.cls ≠ "java/lang/invoke/MethodHandle" ∧ y.cls ≠ "java/lang/invoke/VarHandle") (hpn : (parseMethodDescriptor y.desc).map (fun d => d.parameters.length) = some n) (hlv : lv' < lv) (hR : lv ≤ R.frames ∧ 40 * lv ≤ R.locals) (hc : cells + mc' ≤ R.cells) (hsl : slots + ms' ≤ R.slots) (hAs : As.length = n) (hcat : catB rest = true) (hsp : sp As S Po) (hdg : decode cc pc = .ok (.invokestatic idx, 3))
    (kk : ∀ (r : Option Value) (w : Hp) (H1 : Heap) (locs1 : List Loc), Po r w → hd G A w H1 → va_S A H0 H1 locs1 → W p l e R s m args below meth c H1 locs1 (cells + mc') (slots + ms') Q (F0 m (pc + 3) ls (r.toList ++ rest))) : W p l e R s m args below meth c H locs cells slots Q (F0 m pc ls (As.reverse ++ rest)) := by
  obtain ⟨hexec, hbb, hml, hown, hts, hK, hr, hlk⟩ := id C
  have hM : Met l y (.codeWith y bytes 5 (some .int) hs :: tb) (rmL lv' mc' ms') (PreE G A As S) (Pst G A Po) mc' ms' A := hC G A As S Po hsp
  have hcat8 : ((rest.map fun v => v.category).sum) ≤ 8 := Nat.le_of_ble_eq_true hcat
  have hB : Back l R p e below s args y 3 8 (PreOf R mc' ms' (PreE G A As S)) (PostOf (Pst G A Po) mc' ms' A) := by
    refine Back.of_freeWith (S := D.headSpec (.codeWith y bytes 5 (some .int) hs :: tb) (rmL lv' mc' ms')) (P := PreE G A As S) (K := fun _ _ _ _ _ => True) (Q := fun a st o t => Pst G A Po a st o t ∧ ∃ L, FrameEnd st o t L mc' ms' ∧ ∀ q ∈ L, A q.base) (bytes := bytes) (maxL := 5) (ret := some .int) (handlers := hs)
      (E := fun a st o t L k n => k = mc' ∧ n = ms' ∧ ∀ q ∈ L, A q.base) hM (by show lv' + 1 ≤ R.frames; omega) (by show 8 + (5 + 11) + 40 * lv' ≤ R.locals; omega) ?_ ?_ (fun _ _ _ _ _ _ _ _ _ => trivial) ?_ ?_
    · intro m1 meth1 c1 B a X hp
      have tr : ∀ w ∈ tb, w.before a B.U = true := fun w hw => word_at X.warmed (good_of_word (tb_good _ hw)) (hts w hw)
      exact ⟨atoms_intro fun w hw => by
        rcases List.mem_cons.mp hw with rfl | hw
        · exact tr _ hcw
        · exact tr w hw, tr _ hcw, tr _ hiw, hp.1, hp.2.1⟩
    · intro m1 meth1 c1 B a g mk X hp
      exact preE_blind _ _ _ _ hp.2.2
    · intro a st o t ⟨hq, L, hF, hL⟩
      exact ⟨L, mc', ms', hF, rfl, rfl, hL⟩
    · intro m1 meth1 c1 B a g mk v t L k n X hp hq hF ⟨e1, e2, hL⟩
      subst e1; subst e2
      exact ⟨g, mk, t, L, rfl, rfl, hq.1, rfl, hL, rfl, rfl⟩
  refine r_back (as := As.toArray) (mc := mc') (ms := ms') (Po := Po) (G := G) (A := A) (H0 := H0) ?_ hS kk
  intro T hT X
  obtain ⟨mk, methM, cM, hnamed, hmethM, -, -, -, -, -, -, hsigM⟩ := Cond.codeWith_spec (hts _ hcw)
  have hstatic : methM.isStatic = true := Cond.static_spec hnamed hmethM (hts _ hsw)
  obtain ⟨kP, hkP, -⟩ := className_of_methodNamed hnamed
  have hinitP : kP.init = .initialized := Cond.initialized_spec (findClass_of_methodNamed hnamed) hkP (hts _ hiw)
  have hpar : As.length = methM.sig.parameters.length := by
    rw [hsigM] at hpn
    have e1 : methM.sig.parameters.length = n := by simpa using hpn
    rw [hAs, e1]
  obtain ⟨vm₁, X₁, hstep₁⟩ := X.invokestatic hexec hown (hts _ hlw) hnamed hmethM hstatic hkP hinitP hy (g := F0 m pc ls (As.reverse ++ rest)) rfl (argsL := As) (rest := rest) hpar rfl (by rw [hbb]; exact hdg)
  obtain ⟨v, ⟨U', l2, c2, s2⟩, X', ⟨g', mk', t, L, e1, e2, hq, h1, hL, h2, h3⟩, hsteps⟩ := hB m meth c ⟨T.setVm vm₁, locs, cells, slots⟩ (F0 m pc ls rest) (.invokestatic idx) mk As.toArray X₁ rfl (by rw [hml]; exact hls) (by rw [hbb]; exact hdg) (lv_room hcat8) (X₁.named hnamed) ⟨hc, hsl, ⟨rfl, kk_warm X₁.warmed hK, by show hd G A S T.heap; rw [hT]; exact hh, hA⟩, EE.warm X₁.warmed (fun a h1 h2 => by show T.heap[a]? = s.heap[a]?; rw [hT]; exact hS0 a h1 h2) hE⟩
  dsimp only [Pt.U, Pt.locs, Pt.cells, Pt.slots] at X' e1 e2 h1 h2 h3 hsteps
  subst h1; subst h2; subst h3
  exact ⟨v, (T.setVm vm₁).calling g' mk' As.toArray, t, U', L, hT, X', hL, e1, e2, hq, fun target h => hstep₁ _ fun acts => by rw [doInvoke_state]; exact hsteps.trans h⟩
end LCQ
section LCF
variable {p : Program} {l : Launch} {e : Env} {R : Room} {s : State} {m : MethodId} {args : Array Value} {below : List Frame} {meth : Method} {c : Code} {H : Heap} {locs : List Loc} {cells slots : Nat} {Q : State → Prop}
variable {cc : ByteArray} {pc nL : Nat} {G : GG} {rt : Option FieldType} {A : Nat → Prop} {ls : Array Slot} {rest : List Value} {S : Hp}
theorem LSt.narrow {n d : String} {A B : Nat → Prop} {U : State} {H : Heap} (h : LSt n d A U H) (hAB : ∀ q, B q → A q) : LSt n d B U H := by
  obtain ⟨c, k, i, f, a, cell, h1, h2, h3, h4, h5, h6, h7, h8, h9, h10⟩ := h
  exact ⟨c, k, i, f, a, cell, h1, h2, h3, h4, h5, h6, h7, h8, h9, fun z => h10 (hAB a z)⟩
theorem EE.narrow {A B : Nat → Prop} {U : State} (h : EE A U) (hAB : ∀ q, B q → A q) : EE B U := ⟨⟨⟨h.1.1.1.narrow hAB, h.1.1.2.narrow hAB⟩, ⟨h.1.2.1.1.narrow hAB, h.1.2.1.2.narrow hAB⟩, h.1.2.2⟩, h.2⟩
theorem r_callPF (C : Cx p s m args meth c cc nL 11 G rt) (hE : EE A s) (hAA : ∀ q, A q → s.heap.size ≤ q) (hA : ∀ q, s.heap.size ≤ q → A q) (hh : hd G A S H) (hS : va_S A s.heap H locs) (hls : ls.size = nL) {idx lv lv' mc' ms' n : Nat} {y : MethodName} {bytes : ByteArray} {hs : List (Nat × Nat × Nat × Nat)} {sp : Sp} {As : List Value} {Po : Option Value → Hp → Prop} (P : Nat → Bool) (hC : CtP l y (.codeWith y bytes 5 (some .int) hs) lv' mc' ms' sp) (hcw : Cond.codeWith y bytes 5 (some .int) hs ∈ tb) (hlw : Cond.methodLink "WatchValleyLaw" idx y ∈ tb) (hsw : Cond.static y ∈ tb) (hiw : Cond.initialized y.cls ∈ tb) (hy : y.cls ≠ "java/lang/invoke/MethodHandle" ∧ y.cls ≠ "java/lang/invoke/VarHandle") (hpn : (parseMethodDescriptor y.desc).map (fun d => d.parameters.length) = some n) (hlv : lv' < lv) (hR : lv ≤ R.frames ∧ 40 * lv ≤ R.locals) (hc : cells + mc' ≤ R.cells) (hsl : slots + ms' ≤ R.slots) (hAs : As.length = n) (hcat : catB rest = true) (hsp : sp As (rst P S) (fun r w => (∀ a, gK w a ≠ none → P a = true ∨ gZ S ≤ a) → gZ S ≤ gZ w → Po r (mrg P S w))) (hdg : decode cc pc = .ok (.invokestatic idx, 3))
    (kk : ∀ (r : Option Value) (w : Hp) (H1 : Heap) (locs1 : List Loc), Po r w → hd G A w H1 → va_S A s.heap H1 locs1 → W p l e R s m args below meth c H1 locs1 (cells + mc') (slots + ms') Q (F0 m (pc + 3) ls (r.toList ++ rest))) : W p l e R s m args below meth c H locs cells slots Q (F0 m pc ls (As.reverse ++ rest)) := by
  have hF := W.forget (L := locs) (locs := []) (g := F0 m pc ls (As.reverse ++ rest)) (s := s) (p := p) (l := l) (e := e) (R := R) (m := m) (args := args) (below := below) (meth := meth) (c := c) (H := H) (cells := cells) (slots := slots) (Q := Q) (fun q hq => hAA _ (hS.2.2 q hq))
  rw [List.nil_append] at hF
  refine hF ?_
  have hAz : ∀ q, gZ S ≤ q → A q := fun q hq => hA q (Nat.le_trans hS.1 (by rw [hh.1]; exact hq))
  have hsub : ∀ q, AP P A (gZ S) q → A q := fun q z => z.elim (fun y => y.2) (hAz q)
  refine r_callP0 C (hE.narrow hsub) (hd_rst P hh) (fun a h1 _ => hS.2.1 a h1 (fun z => by have := hAA a z; omega)) va_S.rf (fun q hq => Or.inr hq) hls hC hcw hlw hsw hiw hy hpn hlv hR hc hsl hAs hcat hsp hdg (fun r w H1 locs1 hpo hh1 hS1 => ?_)
  obtain ⟨b1, b2, b3, b4⟩ := fr_k hAA hA hh hS hh1 hS1
  exact kk r _ H1 locs1 (hpo b1 b2) b3 b4
end LCF
/-! THE LAW's calculus: its script, its calls over parts of the store -/
def stepF (b Ln : Nat) (xs : Nat → Int32) (lv mc ms : Nat) (ev : Ev) (rt : Option FieldType) (Po : Option Value → Hp → Prop) (q : CI) (nx : Kt) (jp : Nat → Kt) : Kt := match q with | (_, ins, _, r1, r2, _, _) => fun L S w nc ns => match ins with
  | .iaload => pIx S fun i a S' => a = b ∧ ∃ j, ixO i Ln j ∧ nx L (.int (xs j) :: S') w nc ns
  | .arraylength => pA S fun a S' => a = b ∧ nx L (.int (nI Ln) :: S') w nc ns
  | .invokevirtual _ => cll lv mc ms ev r1 nc ns fun sp c' s' => pA (S.drop (mtN.getD r1 0)) fun x rest => catB rest = true ∧ gK w x = some (mtC.getD r1 0) ∧ ∃ P : Nat → Bool, P x = true ∧ sp (.ref x :: (S.take (mtN.getD r1 0)).reverse) (rst P w) (fun r w' => (∀ a, gK w' a ≠ none → P a = true ∨ gZ w ≤ a) → gZ w ≤ gZ w' → nx L (r.toList ++ rest) (mrg P w w') c' s')
  | .invokespecial _ => r2 = 0 ∧ cll lv mc ms ev r1 nc ns fun sp c' s' => pA (S.drop (mtN.getD r1 0)) fun x rest => catB rest = true ∧ ∃ P : Nat → Bool, sp (.ref x :: (S.take (mtN.getD r1 0)).reverse) (rst P w) (fun r w' => (∀ a, gK w' a ≠ none → P a = true ∨ gZ w ≤ a) → gZ w ≤ gZ w' → nx L (r.toList ++ rest) (mrg P w w') c' s')
  | .invokestatic _ => False
  | _ => step lv mc ms ev rt Po q nx jp L S w nc ns
section STF
variable {p : Program} {l : Launch} {e : Env} {s : State} {m : MethodId} {args : Array Value} {below : List Frame} {meth : Method} {c : Code}
variable {cc : ByteArray} {nL ow : Nat} {G : GG} {rt : Option FieldType} {A : Nat → Prop} {lv mc ms : Nat} {ev : Ev} {Po : Option Value → Hp → Prop} {R : Room} {b Ln : Nat} {xs : Nat → Int32}
set_option maxHeartbeats 4000000 in
set_option maxRecDepth 100000 in
theorem stepF_ok (hX : va_X b Ln xs s s.heap) (hbl : b < s.heap.size) (hAA : ∀ q, A q → s.heap.size ≤ q) (C : Cx p s m args meth c cc nL ow G rt) (hA : ∀ q, s.heap.size ≤ q → A q) (hR : lv ≤ R.frames ∧ 40 * lv ≤ R.locals) (hRc : R.cells = mc) (hRs : R.slots = ms) {ini : Bool} (hini : ini = true → meth.name = "<init>") (hev : ∀ k r, ev k = some r → Ct l k r.1 r.2.1 r.2.2.1 r.2.2.2) (q : CI) (hq : ciOK cc ow nL ini q) {nx : Kt} {jp : Nat → Kt}
    (hnx : ∀ L S w nc ns, nc ≤ mc ∧ ns ≤ ms → nx L S w nc ns → Sf p l e R s m args below meth c (MQ below (Pst G A Po) args s mc ms A) G A nL (q.1 + q.2.2.1) L S w nc ns)
    (hjp : ∀ t L S w nc ns, nc ≤ mc ∧ ns ≤ ms → jp t L S w nc ns → Sf p l e R s m args below meth c (MQ below (Pst G A Po) args s mc ms A) G A nL t L S w nc ns)
    {L : Ls} {S : List Value} {w : Hp} {nc ns : Nat} (hnc : nc ≤ mc ∧ ns ≤ ms) (h : stepF b Ln xs lv mc ms ev rt Po q nx jp L S w nc ns) : Sf p l e R s m args below meth c (MQ below (Pst G A Po) args s mc ms A) G A nL q.1 L S w nc ns := by
  obtain ⟨hx, hb, hml, hown, hts, hK, hr, hlk⟩ := id C
  obtain ⟨pc, i, len, r1, r2, v, ts⟩ := q
  have hq0 := hq
  obtain ⟨hdg, hlen, hok⟩ := hq
  dsimp only at hdg hlen hnx
  have nb : ¬ A b := fun z => by have := hAA b z; omega
  cases i with
  | iaload =>
    obtain rfl : 1 = len := Nat.eq_of_beq_eq_true hlen
    unfold stepF at h; dsimp only at h
    obtain ⟨i, a, S', rfl, rfl, j, ⟨e1, e2, e3⟩, h5⟩ := pIx_el h
    intro H locs ls hh hS hl
    subst e1
    refine va_sld hx hb hX hbl nb hS (vp_ix e2 e3) hdg ?_
    rw [cl_ix e3]
    exact hnx _ _ _ _ _ hnc h5 H locs ls hh hS hl
  | arraylength =>
    obtain rfl : 1 = len := Nat.eq_of_beq_eq_true hlen
    unfold stepF at h; dsimp only at h
    obtain ⟨a, S', rfl, rfl, h5⟩ := pA_el h
    intro H locs ls hh hS hl
    exact va_slen hx hb hX hbl nb hS hdg (hnx _ _ _ _ _ hnc h5 H locs ls hh hS hl)
  | invokevirtual i =>
    obtain rfl : 3 = len := Nat.eq_of_beq_eq_true hlen
    unfold stepF at h; dsimp only at h
    obtain ⟨r, hr1, ⟨h1, h2, h3⟩, h⟩ := cll_el h
    obtain ⟨x, rest, hd1, hcat, hbk, P, hPx, hsp⟩ := pA_el h
    intro H locs ls hh hS hl
    show W p l e R s m args below meth c H locs nc ns _ (F0 m pc ls S)
    rw [tak_drop hd1]
    exact r_callVF C hAA hA hh hS hl.1 P (con_mem hok) (hev _ _ hr1) h1 hR (by rw [hRc]; exact h2) (by rw [hRs]; exact h3) (tak_len2 hd1) hcat (ivt_c _ (con_mem hok)) hbk hPx hsp hdg (fun r w' H1 locs1 hp hh1 hS1 => hnx _ _ _ _ _ ⟨h2, h3⟩ hp H1 locs1 ls hh1 hS1 hl)
  | invokespecial i =>
    obtain rfl : 3 = len := Nat.eq_of_beq_eq_true hlen
    unfold stepF at h; dsimp only at h
    obtain ⟨hr2, h⟩ := h
    subst hr2
    obtain ⟨r, hr1, ⟨h1, h2, h3⟩, h⟩ := cll_el h
    obtain ⟨x, rest, hd1, hcat, P, hsp⟩ := pA_el h
    intro H locs ls hh hS hl
    show W p l e R s m args below meth c H locs nc ns _ (F0 m pc ls S)
    rw [tak_drop hd1]
    exact r_callIF C hAA hA hh hS hl.1 P (con_mem (show IIT.contains (ow, i, r1) = true from hok)) (hev _ _ hr1) h1 hR (by rw [hRc]; exact h2) (by rw [hRs]; exact h3) (tak_len2 hd1) hcat hsp hdg (fun r w' H1 locs1 hp hh1 hS1 => hnx _ _ _ _ _ ⟨h2, h3⟩ hp H1 locs1 ls hh1 hS1 hl)
  | invokestatic i => exact False.elim h
  | _ => exact step_ok C hA hR hRc hRs hini hev _ hq0 hnx hjp hnc h
end STF
/-- to a stop, or to a row -/
def jgate (stops : List Nat) (K : Nat → Kt) (go : List CI → Kt) (full : List CI) (pc : Nat) : Kt := fun L S w nc ns => bif stops.contains pc then K pc L S w nc ns else gate stops K go (seek full pc) L S w nc ns
def wpF (b Ln : Nat) (xs : Nat → Int32) (lv mc ms : Nat) (ev : Ev) (rt : Option FieldType) (Po : Option Value → Hp → Prop) (full : List CI) (stops : List Nat) (K : Nat → Kt) : Nat → List CI → Kt
  | 0, _ => fun _ _ _ _ _ => False
  | n + 1, cd => fun L S w nc ns => match cd with
    | [] => False
    | q :: t => stepF b Ln xs lv mc ms ev rt Po q (gate stops K (wpF b Ln xs lv mc ms ev rt Po full stops K n) t) (fun pc => jgate stops K (wpF b Ln xs lv mc ms ev rt Po full stops K n) full pc) L S w nc ns
/-- what holds in the law's body -/
def LWX (p : Program) (l : Launch) (s : State) (m : MethodId) (args : Array Value) (meth : Method) (c : Code) (G : GG) (A : Nat → Prop) (R : Room) (b Ln : Nat) (xs : Nat → Int32) : Prop := Cx p s m args meth c code 8 11 G (some .boolean) ∧ (∀ q, A q → s.heap.size ≤ q) ∧ (∀ q, s.heap.size ≤ q → A q) ∧ (30 ≤ R.frames ∧ 40 * 30 ≤ R.locals) ∧ R.cells = 601024 ∧ R.slots = 7293034 ∧ l.stackTraces = false ∧ EE A s ∧ va_X b Ln xs s s.heap ∧ b < s.heap.size
abbrev LPo : Option Value → Hp → Prop := fun r _ => r = some (.int 1)
/-- at a place of the law: it ends with true -/
def JL (l : Launch) (b Ln : Nat) (xs : Nat → Int32) (pc : Nat) : Kt := fun L S w nc ns =>
  ∀ (p : Program) (e : Env) (s : State) (m : MethodId) (args : Array Value) (below : List Frame) (meth : Method) (c : Code) (G : GG) (A : Nat → Prop) (R : Room), LWX p l s m args meth c G A R b Ln xs → Sf p l e R s m args below meth c (MQ below (Pst G A LPo) args s 601024 7293034 A) G A 8 pc L S w nc ns
theorem jl_s {l : Launch} {b Ln : Nat} {xs : Nat → Int32} {ev : Ev} {full : List CI} {bad : List Nat} (hcd : (∀ q ∈ full, bad.contains q.1 = false → ciOK code 11 8 false q) ∧ chn full = true) (hev : ∀ k r, ev k = some r → Ct l k r.1 r.2.1 r.2.2.1 r.2.2.2) (stops : List Nat) (hbs : ∀ x, bad.contains x = true → stops.contains x = true) : ∀ (n : Nat) {pc : Nat} {L : Ls} {S : List Value} {w : Hp} {nc ns : Nat}, bad.contains pc = false → nc ≤ 601024 ∧ ns ≤ 7293034 → wpF b Ln xs 30 601024 7293034 ev (some .boolean) LPo full stops (fun pc => JL l b Ln xs pc) n (seek full pc) L S w nc ns → JL l b Ln xs pc L S w nc ns := by
  intro n pc L S w nc ns hpc hb h p e s m args below meth c G A R hX
  obtain ⟨C, hAA, hA, hR, hRc, hRs, hl, hE, hxs, hbl⟩ := id hX
  have key : ∀ (n : Nat) (q : CI) (t : List CI) (L : Ls) (S : List Value) (w : Hp) (nc ns : Nat), (q :: t) <:+ full → bad.contains q.1 = false → nc ≤ 601024 ∧ ns ≤ 7293034 → wpF b Ln xs 30 601024 7293034 ev (some .boolean) LPo full stops (fun pc => JL l b Ln xs pc) n (q :: t) L S w nc ns → Sf p l e R s m args below meth c (MQ below (Pst G A LPo) args s 601024 7293034 A) G A 8 q.1 L S w nc ns := by
    intro n
    induction n with
    | zero => intro q t L S w nc ns _ _ _ h; exact False.elim h
    | succ n ih =>
      intro q t L S w nc ns hsuf hbad hn h
      have hq : ciOK code 11 8 false q := hcd.1 q (hsuf.subset List.mem_cons_self) hbad
      have hgate : ∀ (cd : List CI) (pc : Nat), cd <:+ full → (∀ q' t', cd = q' :: t' → q'.1 = pc) → ∀ L S w nc ns, nc ≤ 601024 ∧ ns ≤ 7293034 → gate stops (fun pc => JL l b Ln xs pc) (wpF b Ln xs 30 601024 7293034 ev (some .boolean) LPo full stops (fun pc => JL l b Ln xs pc) n) cd L S w nc ns → Sf p l e R s m args below meth c (MQ below (Pst G A LPo) args s 601024 7293034 A) G A 8 pc L S w nc ns := by
        intro cd pc hcd' hpc L S w nc ns hn hg
        cases cd with
        | nil => exact False.elim hg
        | cons q' t' =>
          have e1 := hpc q' t' rfl
          unfold gate at hg
          dsimp only at hg
          cases hs : stops.contains q'.1 with
          | true =>
            rw [hs, cond_true, e1] at hg
            exact hg p e s m args below meth c G A R hX
          | false =>
            rw [hs, cond_false] at hg
            rw [← e1]
            refine ih q' t' L S w nc ns hcd' ?_ hn hg
            cases hb : bad.contains q'.1 with
            | false => rfl
            | true => rw [hbs _ hb] at hs; cases hs
      have hseq : ∀ q' t', t = q' :: t' → q'.1 = q.1 + q.2.2.1 := by
        intro q' t' et
        have hc := chn_suf hsuf hcd.2
        rw [et] at hc
        exact (Nat.eq_of_beq_eq_true (Bool.and_eq_true_iff.mp hc).1).symm
      have htl : t <:+ full := List.IsSuffix.trans (List.suffix_cons q t) hsuf
      refine stepF_ok hxs hbl hAA C hA hR hRc hRs (fun z => absurd z Bool.false_ne_true) hev q hq (fun L S w nc ns hn h => hgate t _ htl hseq L S w nc ns hn h) (fun pc L S w nc ns hn h => ?_) hn h
      unfold jgate at h
      dsimp only at h
      cases hs : stops.contains pc with
      | true =>
        rw [hs, cond_true] at h
        exact h p e s m args below meth c G A R hX
      | false =>
        rw [hs, cond_false] at h
        exact hgate _ pc seek_suf (fun q' t' h => seek_pc h) L S w nc ns hn h
  cases hs : seek full pc with
  | nil =>
    rw [hs] at h
    cases n <;> exact False.elim h
  | cons q t =>
    rw [hs] at h
    have e1 := seek_pc hs
    rw [← e1]
    exact key n q t L S w nc ns (by rw [← hs]; exact seek_suf) (by rw [e1]; exact hpc) hb h
theorem jl_pk {l : Launch} {b Ln : Nat} {xs : Nat → Int32} {pc : Nat} {L : Ls} {S : List Value} {w : Hp} {nc ns : Nat} (ks : List Nat) (h : JL l b Ln xs pc (lv_pick L ks) S w nc ns) : JL l b Ln xs pc L S w nc ns :=
  fun p e s m args below meth c G A R hX H locs ls hh hS hl => h p e s m args below meth c G A R hX H locs ls hh hS (lv_sub hl ks rfl)
