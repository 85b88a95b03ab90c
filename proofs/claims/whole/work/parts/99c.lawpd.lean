/-! THE LAW's two helpers, which catch -/
abbrev lpN : MethodName := ⟨"WatchValleyLaw", "piece", "(LWatchValley;II[J)I"⟩
abbrev ldN : MethodName := ⟨"WatchValleyLaw", "due", "(LWatchValley;II[J)I"⟩
abbrev lpW : Cond := .codeWith lpN method_3_code 5 (some .int) [(0, 10, 13, 13)]
abbrev ldW : Cond := .codeWith ldN method_4_code 5 (some .int) [(0, 9, 12, 13)]
set_option maxRecDepth 100000 in
theorem lpd_ok : ∀ w ∈ [Cond.initialized "WatchValleyLaw", .methodLink "WatchValleyLaw" 63 lpN, .static lpN, lpW, .classLink "WatchValleyLaw" 13 NSE, .methodLink "WatchValleyLaw" 82 ldN, .static ldN, ldW], w ∈ tb := tb_of _ [38, 663, 664, 665, 666, 738, 739, 740] rfl (by decide +kernel)
theorem preE_blind {G : GG} {A : Nat → Prop} {as : List Value} {w : Hp} : FrameBlind (PreE G A as w) := fun a U g mk q => ⟨pre_blind a U g mk q.1, EE.same (u := U) rfl rfl q.2⟩
section SFW
variable {p : Program} {l : Launch} {e : Env} {s : State} {m : MethodId} {args : Array Value} {below : List Frame} {meth : Method} {c : Code}
variable {cc : ByteArray} {nL ow : Nat} {G : GG} {rt : Option FieldType} {A : Nat → Prop} {lv mc ms : Nat} {ev : Ev} {Po : Option Value → Hp → Prop} {R : Room}
/-- from a place on, any code list -/
theorem sf_wp (C : Cx p s m args meth c cc nL ow G rt) (hA : ∀ q, s.heap.size ≤ q → A q) (hR : lv ≤ R.frames ∧ 40 * lv ≤ R.locals) (hRc : R.cells = mc) (hRs : R.slots = ms) (hev : ∀ k r, ev k = some r → Ct l k r.1 r.2.1 r.2.2.1 r.2.2.2) {full : List CI} (hfull : cdOK cc ow nL false full) (stops : List Nat) (n : Nat) {pc : Nat} {L : Ls} {S : List Value} {w : Hp} {nc ns : Nat} (hb : nc ≤ mc ∧ ns ≤ ms) (h : wp lv mc ms ev rt Po full stops (fun pc => Sf p l e R s m args below meth c (MQ below (Pst G A Po) args s mc ms A) G A nL pc) n (seek full pc) L S w nc ns) : Sf p l e R s m args below meth c (MQ below (Pst G A Po) args s mc ms A) G A nL pc L S w nc ns := by
  cases hs : seek full pc with
  | nil =>
    rw [hs] at h
    cases n <;> exact False.elim h
  | cons q t =>
    rw [hs] at h
    have e1 := seek_pc hs
    rw [← e1]
    exact wp_ok C hA hR hRc hRs (fun z => absurd z Bool.false_ne_true) hev hfull (fun pc L S w nc ns _ h => h) n q t L S w nc ns (by rw [← hs]; exact seek_suf) hb h
end SFW
def cd_lp : List CI := [(0, .aload_n 3, 1, 0, 0, 0, []), (1, .iconst 0, 1, 0, 0, 0, []), (2, .aload_n 0, 1, 0, 0, 0, []), (3, .iload_n 1, 1, 0, 0, 0, []), (4, .iload_n 2, 1, 0, 0, 0, []), (5, .invokevirtual 7, 3, 78, 0, 0, []), (8, .i2l, 1, 0, 0, 0, []), (9, .lastore, 1, 0, 0, 0, []), (10, .goto 7, 3, 17, 0, 0, []), (13, .astore 4, 2, 0, 0, 0, []), (15, .iconst 1, 1, 0, 0, 1, []), (16, .ireturn, 1, 0, 0, 0, []), (17, .iconst 0, 1, 0, 0, 0, []), (18, .ireturn, 1, 0, 0, 0, [])]
set_option maxRecDepth 100000 in
theorem cdo_lp : cdOK method_3_code 11 5 false cd_lp := ⟨by unfold ciOK; decide +kernel, by decide +kernel⟩
def cd_ld : List CI := [(0, .aload_n 3, 1, 0, 0, 0, []), (1, .iconst 0, 1, 0, 0, 0, []), (2, .aload_n 0, 1, 0, 0, 0, []), (3, .iload_n 1, 1, 0, 0, 0, []), (4, .iload_n 2, 1, 0, 0, 0, []), (5, .invokevirtual 15, 3, 79, 0, 0, []), (8, .lastore, 1, 0, 0, 0, []), (9, .goto 7, 3, 16, 0, 0, []), (12, .astore 4, 2, 0, 0, 0, []), (14, .iconst 1, 1, 0, 0, 1, []), (15, .ireturn, 1, 0, 0, 0, []), (16, .iconst 0, 1, 0, 0, 0, []), (17, .ireturn, 1, 0, 0, 0, [])]
set_option maxRecDepth 100000 in
theorem cdo_ld : cdOK method_4_code 11 5 false cd_ld := ⟨by unfold ciOK; decide +kernel, by decide +kernel⟩
def sp_lp : Sp := fun as w K => ∃ x p q o, as = [.ref x, .int p, .int q, .ref o] ∧ gK w x = some 9 ∧ sp_cpiece [.ref x, .int p, .int q] w (fun r w' => ∃ v, r = some (.int v) ∧ (gK w' o = some 22 ∧ gN w' o = 1) ∧ K (some (.int 0)) (sJ w' o 0 v.toInt64)) (fun w' => K (some (.int 1)) (sSk w'))
def sp_ld : Sp := fun as w K => ∃ x p q o, as = [.ref x, .int p, .int q, .ref o] ∧ gK w x = some 9 ∧ sp_cdue [.ref x, .int p, .int q] w (fun r w' => ∃ v, r = some (.long v) ∧ (gK w' o = some 22 ∧ gN w' o = 1) ∧ K (some (.int 0)) (sJ w' o 0 v)) (fun w' => K (some (.int 1)) (sSk w'))
/-- a helper's contract -/
def CtP (l : Launch) (y : MethodName) (cw : Cond) (lv mc ms : Nat) (sp : Sp) : Prop := ∀ (G : GG) (A : Nat → Prop) (as : List Value) (w : Hp) (Po : Option Value → Hp → Prop), sp as w Po → Met l y (cw :: tb) (rmL lv mc ms) (PreE G A as w) (Pst G A Po) mc ms A
/-- a helper's body -/
theorem ctP_of {l : Launch} {y : MethodName} {bytes : ByteArray} {hs : List (Nat × Nat × Nat × Nat)} {lv mc ms : Nat} {sp : Sp} (hy : plainFor y = true) (hc : y.cls = "WatchValleyLaw") (h : ∀ as w Po, sp as w Po → (lg_sl as).length ≤ 5 ∧ ∀ (p : Program) (e : Env) (s : State) (m : MethodId) (args : Array Value) (below : List Frame) (meth : Method) (c : Code) (G : GG) (A : Nat → Prop) (R : Room), Cx p s m args meth c bytes 5 11 G (some .int) → (∀ q, s.heap.size ≤ q → A q) → (lv ≤ R.frames ∧ 40 * lv ≤ R.locals) → R.cells = mc → R.slots = ms → EE A s → c.exceptionTable.toList = tableOf hs → Sf p l e R s m args below meth c (MQ below (Pst G A Po) args s mc ms A) G A 5 0 (lv_args 0 as) [] w 0 0) : CtP l y (.codeWith y bytes 5 (some .int) hs) lv mc ms sp := by
  intro G A as w Po hsp
  obtain ⟨hlen, hJ⟩ := h as w Po hsp
  refine Free.MetFree.of_bodySF (code := bytes) (maxLocals := 5) (ret := some .int) hy ?_ ?_
  · intro args s m h hn
    obtain ⟨m', meth, c, h1, h2, h3, h4, h5, -, h6, h7, -⟩ := Cond.codeWith_spec (atoms_spec (ws := .codeWith y bytes 5 (some .int) hs :: tb) h _ List.mem_cons_self)
    cases hn.symm.trans h1
    exact ⟨meth, c, h2, h3, h4, h5, h6, h7⟩
  · intro p e s m args below meth c s₁ B hml hP _
    obtain ⟨⟨rfl, hK, hh, hA⟩, hE⟩ := hP
    have hts0 := atoms_spec (ws := .codeWith y bytes 5 (some .int) hs :: tb) B.pre
    have hts : ∀ w ∈ tb, w.before as.toArray s = true := fun w h => hts0 w (List.mem_cons_of_mem _ h)
    have hown : s.vm.findClass (ownS 11) = some m.cls := by
      have := findClass_of_methodNamed B.named
      rw [hc] at this
      exact this
    have X₀ : Stand p l e (D.headSpec (.codeWith y bytes 5 (some .int) hs :: tb) (rmL lv mc ms)).room s m as.toArray below meth c s₁ [] 0 0 := Stand.of_body B
    have hex : c.exceptionTable.toList = tableOf hs := by
      obtain ⟨m', meth', c', h1, h2, h3, -, -, h6, -⟩ := Cond.codeWith_spec (hts0 _ List.mem_cons_self)
      cases B.named.symm.trans h1
      cases B.method.symm.trans h2
      cases X₀.code.symm.trans h3
      have := table_eq c.exceptionTable.toList
      rw [h6] at this
      exact this.symm
    have hl1 := lv_entry as (n := 5) hlen
    have hh0 : s₁.heap = s.heap := by rw [B.state]; rfl
    have K := hJ p e s m as.toArray below meth c G A (rmL lv mc ms) ⟨B.exec, B.bytes, hml, hown, hts, hK, B.returns, B.notSynchronized⟩ (fun q hq => hA q (by rw [← hh.1]; exact hq)) ⟨Nat.le_refl _, Nat.le_refl _⟩ rfl rfl hE hex s.heap [] _ hh va_S.rf hl1
    rw [← lg_entry_eq] at K
    obtain ⟨t, a1, o, b1, b2, b3⟩ := K s₁ hh0 X₀
    exact ⟨t, o, a1, b1, b2, b3.1, b3.2⟩
theorem c_lp (l : Launch) (hl : l.stackTraces = false) : CtP l lpN lpW 9 1 6 sp_lp := by
  refine ctP_of (by decide) rfl (fun as w Po h => ?_)
  obtain ⟨x, pp, q, o, rfl, hx9, hsp⟩ := h
  refine ⟨Nat.le_of_ble_eq_true rfl, ?_⟩
  intro p e s m args below meth c G A R C hA hR hRc hRs hE hex
  have hlink := C.2.2.2.2.1 _ (lpd_ok (.classLink "WatchValleyLaw" 13 NSE) (by simp))
  refine sf_wp C hA hR hRc hRs ev0 cdo_lp [5] 20 ⟨by decide, by decide⟩ ?_
  intro H locs ls hh hS hls
  have hAz : ∀ q, gZ w ≤ q → A q := fun q hq => hA q (Nat.le_trans hS.1 (by rw [hh.1]; exact hq))
  refine r_callT (As := [.int pp, .int q]) (x := ⟨0, 10, 13, 13⟩) C hE hh hS hAz hls.1 (k := 78) (idx := 7) (by decide +kernel) (c_cpiece l hl) (show 8 < 9 by decide) hR (by rw [hRc]; decide) (by rw [hRs]; decide) rfl rfl (by decide) hx9 hsp (by decide +kernel) hex (by decide) (by decide) hlink (fun r w' H1 locs1 hp hh1 hS1 => ?_) (fun a w' H1 locs1 hp hh1 hS1 => ?_)
  · obtain ⟨v, rfl, ⟨k1, k2⟩, hp⟩ := hp
    refine sf_wp C hA hR hRc hRs ev0 cdo_lp [] 20 (pc := 8) (L := [(0, .ref x), (1, .int pp), (2, .int q), (3, .ref o)]) (w := w') (nc := 1) (ns := 6) ⟨by decide, by decide⟩ ?_ H1 locs1 ls hh1 hS1 hls
    exact ⟨k1, 0, ⟨rfl, by rw [k2]; decide, by decide⟩, hp⟩
  · refine sf_wp C hA hR hRc hRs ev0 cdo_lp [] 20 (pc := 13) (L := [(0, .ref x), (1, .int pp), (2, .int q), (3, .ref o)]) (w := sSk w') (nc := 1) (ns := 6) ⟨by decide, by decide⟩ ?_ H1 locs1 ls hh1 hS1 hls
    exact hp
theorem c_ld (l : Launch) (hl : l.stackTraces = false) : CtP l ldN ldW 9 1 6 sp_ld := by
  refine ctP_of (by decide) rfl (fun as w Po h => ?_)
  obtain ⟨x, pp, q, o, rfl, hx9, hsp⟩ := h
  refine ⟨Nat.le_of_ble_eq_true rfl, ?_⟩
  intro p e s m args below meth c G A R C hA hR hRc hRs hE hex
  have hlink := C.2.2.2.2.1 _ (lpd_ok (.classLink "WatchValleyLaw" 13 NSE) (by simp))
  refine sf_wp C hA hR hRc hRs ev0 cdo_ld [5] 20 ⟨by decide, by decide⟩ ?_
  intro H locs ls hh hS hls
  have hAz : ∀ q, gZ w ≤ q → A q := fun q hq => hA q (Nat.le_trans hS.1 (by rw [hh.1]; exact hq))
  refine r_callT (As := [.int pp, .int q]) (x := ⟨0, 9, 12, 13⟩) C hE hh hS hAz hls.1 (k := 79) (idx := 15) (by decide +kernel) (c_cdue l hl) (show 8 < 9 by decide) hR (by rw [hRc]; decide) (by rw [hRs]; decide) rfl rfl (by decide) hx9 hsp (by decide +kernel) hex (by decide) (by decide) hlink (fun r w' H1 locs1 hp hh1 hS1 => ?_) (fun a w' H1 locs1 hp hh1 hS1 => ?_)
  · obtain ⟨v, rfl, ⟨k1, k2⟩, hp⟩ := hp
    refine sf_wp C hA hR hRc hRs ev0 cdo_ld [] 20 (pc := 8) (L := [(0, .ref x), (1, .int pp), (2, .int q), (3, .ref o)]) (w := w') (nc := 1) (ns := 6) ⟨by decide, by decide⟩ ?_ H1 locs1 ls hh1 hS1 hls
    exact ⟨k1, 0, ⟨rfl, by rw [k2]; decide, by decide⟩, hp⟩
  · refine sf_wp C hA hR hRc hRs ev0 cdo_ld [] 20 (pc := 12) (L := [(0, .ref x), (1, .int pp), (2, .int q), (3, .ref o)]) (w := sSk w') (nc := 1) (ns := 6) ⟨by decide, by decide⟩ ?_ H1 locs1 ls hh1 hS1 hls
    exact hp
