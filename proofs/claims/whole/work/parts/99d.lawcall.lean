/-! THE LAW calls a helper -/
section LCP
variable {p : Program} {l : Launch} {e : Env} {R : Room} {s : State} {m : MethodId} {args : Array Value} {below : List Frame} {meth : Method} {c : Code} {H : Heap} {locs : List Loc} {cells slots : Nat} {Q : State → Prop}
variable {cc : ByteArray} {pc nL : Nat} {G : GG} {rt : Option FieldType} {A : Nat → Prop} {ls : Array Slot} {rest : List Value} {S : Hp}
theorem r_callP (C : Cx p s m args meth c cc nL 11 G rt) (hE : EE A s) (hh : hd G A S H) (hS : va_S A s.heap H locs) (hA : ∀ q, gZ S ≤ q → A q) (hls : ls.size = nL) {idx lv lv' mc' ms' n : Nat} {y : MethodName} {bytes : ByteArray} {hs : List (Nat × Nat × Nat × Nat)} {sp : Sp} {As : List Value} {Po : Option Value → Hp → Prop} (hC : CtP l y (.codeWith y bytes 5 (some .int) hs) lv' mc' ms' sp) (hcw : Cond.codeWith y bytes 5 (some .int) hs ∈ tb) (hlw : Cond.methodLink "WatchValleyLaw" idx y ∈ tb) (hsw : Cond.static y ∈ tb) (hiw : Cond.initialized y.cls ∈ tb) (hy : y.cls ≠ "java/lang/invoke/MethodHandle" ∧ y.cls ≠ "java/lang/invoke/VarHandle") (hpn : (parseMethodDescriptor y.desc).map (fun d => d.parameters.length) = some n) (hlv : lv' < lv) (hR : lv ≤ R.frames ∧ 40 * lv ≤ R.locals) (hc : cells + mc' ≤ R.cells) (hsl : slots + ms' ≤ R.slots) (hAs : As.length = n) (hcat : catB rest = true) (hsp : sp As S Po) (hdg : decode cc pc = .ok (.invokestatic idx, 3))
    (kk : ∀ (r : Option Value) (w : Hp) (H1 : Heap) (locs1 : List Loc), Po r w → hd G A w H1 → va_S A s.heap H1 locs1 → W p l e R s m args below meth c H1 locs1 (cells + mc') (slots + ms') Q (F0 m (pc + 3) ls (r.toList ++ rest))) : W p l e R s m args below meth c H locs cells slots Q (F0 m pc ls (As.reverse ++ rest)) := by
  obtain ⟨hexec, hbb, hml, hown, hts, hK, hr, hlk⟩ := id C
  have hM : Met l y (.codeWith y bytes 5 (some .int) hs :: tb) (rmL lv' mc' ms') (PreE G A As S) (Pst G A Po) mc' ms' A := hC G A As S Po hsp
  have hcat8 : ((rest.map fun v => v.category).sum) ≤ 8 := Nat.le_of_ble_eq_true hcat
  have hB : Back l R p e below s args y 3 8 (PreOf R mc' ms' (PreE G A As S)) (PostOf (Pst G A Po) mc' ms' A) := by
    refine Back.of_freeWith (S := D.headSpec (.codeWith y bytes 5 (some .int) hs :: tb) (rmL lv' mc' ms')) (P := PreE G A As S) (K := fun _ _ _ _ _ => True) (Q := fun a st o t => Pst G A Po a st o t ∧ ∃ L, FrameEnd st o t L mc' ms' ∧ ∀ q ∈ L, A q.base) (bytes := bytes) (maxL := 5) (ret := some .int) (handlers := hs)
      (E := fun a st o t L k n => k = mc' ∧ n = ms' ∧ ∀ q ∈ L, A q.base) hM (by show lv' + 1 ≤ R.frames; omega) (by show 8 + (5 + 11) + 40 * lv' ≤ R.locals; omega) ?_ ?_ (fun _ _ _ _ _ _ _ _ _ => trivial) ?_ ?_
    · intro m1 meth1 c1 B a X hp
      have tr : ∀ w ∈ tb, w.before a B.U = true := fun w hw => word_at X.warmed (good_of_word (tb_good _ hw)) (hts w hw)
      exact ⟨atoms_intro fun w hw => by
        rcases List.mem_cons.mp hw with rfl | hw
        · exact tr _ hcw
        · exact tr w hw, tr _ hcw, tr _ hiw, hp.1, hp.2.1⟩
    · intro m1 meth1 c1 B a g mk X hp
      exact preE_blind _ _ _ _ hp.2.2
    · intro a st o t ⟨hq, L, hF, hL⟩
      exact ⟨L, mc', ms', hF, rfl, rfl, hL⟩
    · intro m1 meth1 c1 B a g mk v t L k n X hp hq hF ⟨e1, e2, hL⟩
      subst e1; subst e2
      exact ⟨g, mk, t, L, rfl, rfl, hq.1, rfl, hL, rfl, rfl⟩
  refine r_back (as := As.toArray) (mc := mc') (ms := ms') (Po := Po) (G := G) (A := A) ?_ hS kk
  intro T hT X
  obtain ⟨mk, methM, cM, hnamed, hmethM, -, -, -, -, -, -, hsigM⟩ := Cond.codeWith_spec (hts _ hcw)
  have hstatic : methM.isStatic = true := Cond.static_spec hnamed hmethM (hts _ hsw)
  obtain ⟨kP, hkP, -⟩ := className_of_methodNamed hnamed
  have hinitP : kP.init = .initialized := Cond.initialized_spec (findClass_of_methodNamed hnamed) hkP (hts _ hiw)
  have hpar : As.length = methM.sig.parameters.length := by
    rw [hsigM] at hpn
    have e1 : methM.sig.parameters.length = n := by simpa using hpn
    rw [hAs, e1]
  obtain ⟨vm₁, X₁, hstep₁⟩ := X.invokestatic hexec hown (hts _ hlw) hnamed hmethM hstatic hkP hinitP hy (g := F0 m pc ls (As.reverse ++ rest)) rfl (argsL := As) (rest := rest) hpar rfl (by rw [hbb]; exact hdg)
  obtain ⟨v, ⟨U', l2, c2, s2⟩, X', ⟨g', mk', t, L, e1, e2, hq, h1, hL, h2, h3⟩, hsteps⟩ := hB m meth c ⟨T.setVm vm₁, locs, cells, slots⟩ (F0 m pc ls rest) (.invokestatic idx) mk As.toArray X₁ rfl (by rw [hml]; exact hls) (by rw [hbb]; exact hdg) (lv_room hcat8) (X₁.named hnamed) ⟨hc, hsl, ⟨rfl, kk_warm X₁.warmed hK, by show hd G A S T.heap; rw [hT]; exact hh, hA⟩, EE.warm X₁.warmed (fun a h1 h2 => by show T.heap[a]? = s.heap[a]?; rw [hT]; exact hS.2.1 a h1 h2) hE⟩
  dsimp only [Pt.U, Pt.locs, Pt.cells, Pt.slots] at X' e1 e2 h1 h2 h3 hsteps
  subst h1; subst h2; subst h3
  exact ⟨v, (T.setVm vm₁).calling g' mk' As.toArray, t, U', L, hT, X', hL, e1, e2, hq, fun target h => hstep₁ _ fun acts => by rw [doInvoke_state]; exact hsteps.trans h⟩
end LCP
