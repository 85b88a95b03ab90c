/-! A CALL of a method that may throw, out of a method that catches it -/
section CLT
variable {p : Program} {l : Launch} {e : Env} {R : Room} {s : State} {m : MethodId} {args : Array Value} {below : List Frame} {meth : Method} {c : Code} {H : Heap} {locs : List Loc} {cells slots : Nat} {Q : State → Prop}
variable {cc : ByteArray} {pc nL : Nat} {G : GG} {rt : Option FieldType} {A : Nat → Prop} {ls : Array Slot} {rest : List Value} {S : Hp}
theorem r_callT (C : Cx p s m args meth c cc nL 11 G rt) (hE : EE A s) (hh : hd G A S H) (hS : va_S A s.heap H locs) (hA : ∀ q, gZ S ≤ q → A q) (hls : ls.size = nL) {idx k lv lv' mc' ms' b : Nat} {sp : SpT} {As : List Value} {Po : Option Value → Hp → Prop} {Pt : Hp → Prop} (hq : (11, idx, k) ∈ IVT) (hC : CtT l k lv' mc' ms' sp) (hlv : lv' < lv) (hR : lv ≤ R.frames ∧ 40 * lv ≤ R.locals) (hc : cells + mc' ≤ R.cells) (hsl : slots + ms' ≤ R.slots) (hAs : As.length = mtN.getD k 0) (hcat : catB rest = true) (hci : mtC.getD k 0 < 11) (hb : gK S b = some (mtC.getD k 0)) (hsp : sp (.ref b :: As) S Po Pt) (hdg : decode cc pc = .ok (.invokevirtual idx, 3)) {x : ExceptionTableEntry} (hex : c.exceptionTable.toList = [x]) (hx : covers x pc = true) (h0 : x.catchType ≠ 0) (hlink : (Cond.classLink "WatchValleyLaw" x.catchType NSE).before args s = true)
    (kr : ∀ (r : Option Value) (w : Hp) (H1 : Heap) (locs1 : List Loc), Po r w → hd G A w H1 → va_S A s.heap H1 locs1 → W p l e R s m args below meth c H1 locs1 (cells + mc') (slots + ms') Q (F0 m (pc + 3) ls (r.toList ++ rest)))
    (kt : ∀ (a : Nat) (w : Hp) (H1 : Heap) (locs1 : List Loc), Pt w → hd G A (sSk w) H1 → va_S A s.heap H1 locs1 → W p l e R s m args below meth c H1 locs1 (cells + mc') (slots + ms') Q (F0 m x.handlerPc ls [.ref a])) : W p l e R s m args below meth c H locs cells slots Q (F0 m pc ls (As.reverse ++ .ref b :: rest)) := by
  obtain ⟨hexec, hbb, hml, hown, hts, hK, hr, hlk⟩ := id C
  have hk : k < 128 := IVT_lt _ hq
  have hw := IVT_ok _ hq
  have hy : (mt k).1.cls ≠ "java/lang/invoke/MethodHandle" ∧ (mt k).1.cls ≠ "java/lang/invoke/VarHandle" := mt_mh k hk
  have hlk1 := hts _ (hw (.methodLink (ownS 11) idx (mt k).1) (by simp [IVW]))
  have hin1 := hts _ (hw (.instanceMethod (mt k).1) (by simp [IVW]))
  have hse1 := hts _ (hw (.selects (mt k).1.cls (mt k).1 (mt k).1) (by simp [IVW]))
  have hcw := MTT_ok _ (mt_mem hk)
  have hcode : (Cond.code (mt k).1 (mt k).2.1 (mt k).2.2.1 (mt k).2.2.2).before args s = true := hts _ hcw
  intro T hT X
  obtain ⟨cellB, hcB, hoB, hclB⟩ := r_recv C hh hci hb
  rw [← mt_cls k hk] at hclB
  obtain ⟨mk, methM, hnamed, hmethM, hstM, habM⟩ := Cond.instanceMethod_spec hin1
  obtain ⟨methM', cM, hmethM', hcodeM, -, hlY, -, -, -, hsigM⟩ := Cond.code_spec hnamed hcode
  cases hmethM.symm.trans hmethM'
  obtain ⟨c2, r2, m2, q1, q2, q3, q4, kP, hkP, hkPi⟩ := Cond.selects_spec hse1
  cases hclB.symm.trans q1
  cases (State.methodFound?_of_named hnamed hy).symm.trans q2
  cases hnamed.symm.trans q3
  have hselP : selectMethod e.platform s.vm cellB.cls mk = .method mk := by rw [Launch.admits_selectMethod X.admits]; exact q4
  have hpar : As.length = methM.sig.parameters.length := by
    have := mt_par k hk
    rw [hsigM] at this
    have e1 : methM.sig.parameters.length = mtN.getD k 0 := by simpa using this
    rw [hAs, e1]
  obtain ⟨vm₁, X₁, hstep₁⟩ := X.invokevirtual hexec hown hlk1 hnamed hmethM hstM hkP hkPi hy (a := b) (cell := cellB) (by rw [hT]; exact hcB)
    (fun z h => by rw [h] at hoB; cases hoB) hselP hmethM habM hkP hkPi (g := F0 m pc ls (As.reverse ++ .ref b :: rest)) rfl (argsL := As) (rest := rest) hpar rfl (by rw [hbb]; exact hdg)
  generalize hU : T.setVm vm₁ = U at X₁ hstep₁
  have hUh : U.heap = H := by rw [← hU]; exact hT
  have hn := X₁.named hnamed
  obtain ⟨kY, hkY, -⟩ := className_of_methodNamed hn
  have tr : ∀ w ∈ tb, ∀ a', w.before a' U = true := fun w hw a' => word_at X₁.warmed (good_of_word (tb_good _ hw)) (hts w hw)
  have hinitY : kY.init = .initialized := Cond.initialized_spec (findClass_of_methodNamed hn) hkY (tr _ (hw (.initialized (mt k).1.cls) (by simp [IVW])) #[])
  have hmU : U.vm.method? mk = some methM := by rw [X₁.warmed.alike.method?]; exact hmethM
  have hcatN : ((rest.map fun v => v.category).sum) ≤ 8 := Nat.le_of_ble_eq_true hcat
  have hml2 := mt_ml k hk
  have hdgc : decode c.code (F0 m pc ls rest).pc = .ok (.invokevirtual idx, 3) := by rw [hbb]; exact hdg
  have happ : (D.headSpec (wsT k) (rmL lv' mc' ms')).appliesLoose (mt k).1 e.platform (U.calling (F0 m pc ls rest) mk (Value.ref b :: As).toArray) = true :=
    Spec.appliesLoose_calling (g := F0 m pc ls rest) X₁.here hdgc hn hkY hinitY
      (X₁.room_calling (g := F0 m pc ls rest) (R' := rmL lv' mc' ms') (by rw [hml]; exact hls) hmU hcodeM (by show lv' + 1 ≤ R.frames; omega) (by
        rw [hlY]
        show 2 * 0 + (rest.map fun v => v.category).sum + ((mt k).2.2.1 + 11) + 40 * lv' ≤ R.locals
        omega) hc hsl) (atoms_intro fun w hw => by
          rcases List.mem_cons.mp hw with rfl | hw
          · exact tr _ hcw _
          · exact tr w hw _)
  have hPre : PreE G A (.ref b :: As) S (Value.ref b :: As).toArray (U.calling (F0 m pc ls rest) mk (Value.ref b :: As).toArray) := by
    refine ⟨pre_blind _ _ _ _ ⟨rfl, kk_warm X₁.warmed hK, by rw [hUh]; exact hh, hA⟩, EE.same (u := U) rfl rfl ?_⟩
    exact EE.warm X₁.warmed (fun a h1 h2 => by rw [hUh]; exact hS.2.1 a h1 h2) hE
  obtain ⟨mid, hmid⟩ := X₁.here.above
  have hfr : (U.setTop (F0 m pc ls rest)).frames = (.java (F0 m pc ls rest) :: mid) ++ below := by rw [State.frames_setTop' _ X₁.here.top, hmid]; rfl
  obtain ⟨o, s₂, hsteps, -, hend, hqe⟩ := Steps.callFree (hC G A (.ref b :: As) S Po Pt hsp) p X₁.admits X₁.cas X₁.clock (acts := []) hfr happ hPre trivial
  have hqe : QE G A Po Pt mc' ms' (Value.ref b :: As).toArray (U.calling (F0 m pc ls rest) mk (Value.ref b :: As).toArray) o s₂ := hqe
  rw [State.frames_setTop' _ X₁.here.top, X₁.tail] at hend
  have com : ∀ L, (U.calling (F0 m pc ls rest) mk (Value.ref b :: As).toArray).WarmedH s₂.vm → (U.calling (F0 m pc ls rest) mk (Value.ref b :: As).toArray).sameButNew ({ s₂ with vm := (U.calling (F0 m pc ls rest) mk (Value.ref b :: As).toArray).vm } : State) L mc' ms' → va_F A (U.calling (F0 m pc ls rest) mk (Value.ref b :: As).toArray) s₂ → (∀ q ∈ L, A q.base) →
      Stand p l e R s m args below meth c (({ U with heap := s₂.heap, slotsUsed := s₂.slotsUsed } : State).setVm s₂.vm) (locs ++ L) (cells + mc') (slots + ms') ∧ (∀ F, s₂.frames = F → s₂ = (({ U with heap := s₂.heap, slotsUsed := s₂.slotsUsed } : State).setVm s₂.vm).setFrames F) ∧ va_S A s.heap s₂.heap (locs ++ L) := by
    intro L hW₂ hsb hF hL
    obtain ⟨e2, q2, q3, q4, q5, q6⟩ := hsb
    have e3 : s₂ = ({ (U.calling (F0 m pc ls rest) mk (Value.ref b :: As).toArray).setFrames s₂.frames with heap := s₂.heap, slotsUsed := s₂.slotsUsed } : State).setVm s₂.vm := by
      have : s₂ = ({ s₂ with vm := (U.calling (F0 m pc ls rest) mk (Value.ref b :: As).toArray).vm } : State).setVm s₂.vm := rfl
      rw [e2] at this
      exact this
    have hW' : U.WarmedH s₂.vm := hW₂
    obtain ⟨g₀, hg0⟩ := Option.isSome_iff_exists.mp X₁.here.top
    obtain ⟨r, hr⟩ := State.topJava?_eq_some.mp hg0
    have hsame : U.sameButNew ({ U with heap := s₂.heap, slotsUsed := s₂.slotsUsed } : State) L mc' ms' := by
      refine ⟨?_, q2, q3, q4, q5, q6⟩
      obtain ⟨t, ht, -⟩ := State.frames_cons hr
      show ({ U with heap := s₂.heap, slotsUsed := s₂.slotsUsed } : State) = { U.setFrames U.frames with heap := s₂.heap, slotsUsed := s₂.slotsUsed }
      rw [State.setFrames_self ht]
    refine ⟨⟨X₁.admits, X₁.cas, X₁.clock, X₁.frames, X₁.room, X₁.hears, X₁.method, X₁.code, (X₁.here.setHeapUsed s₂.heap s₂.slotsUsed).setVm hW'.alike, X₁.tail, State.WarmedH.trans X₁.warmed hW', X₁.limits, X₁.bytes, X₁.same.trans (hsame.setVm s.vm)⟩, fun F hF2 => ?_, ?_⟩
    · refine e3.trans ?_
      rw [hF2, State.calling_eq X₁.here.top, State.setFrames_setFrames]
      rfl
    · have hz : H.size ≤ s₂.heap.size := by rw [← hUh]; exact hF.1
      refine ⟨Nat.le_trans hS.1 hz, fun q h1 h2 => ?_, fun q hq => ?_⟩
      · have : s₂.heap[q]? = H[q]? := by rw [← hUh]; exact hF.2 q (by show q < U.heap.size; rw [hUh]; exact Nat.lt_of_lt_of_le h1 hS.1) h2
        rw [this]
        exact hS.2.1 q h1 h2
      · rcases List.mem_append.mp hq with z | z
        · exact hS.2.2 q z
        · exact hL q z
  have go : ∀ target, Steps p.tables e below s₂ target → Steps p.tables e below (T.setTop (F0 m pc ls (As.reverse ++ .ref b :: rest))) target := fun target h => hstep₁ _ fun acts => by rw [doInvoke_state]; exact hsteps.trans h
  rcases hqe with ⟨⟨⟨r, w, rfl, hpo, hhd⟩, hF⟩, L, ⟨_, hW₂, hsb⟩, hL⟩ | ⟨a, rfl, hW₂, ⟨L, hsb, hL⟩, hF, ⟨w, hpt, hhd⟩, ce, hce1, hce2, hce3⟩
  · obtain ⟨X', hs₂, hS'⟩ := com L hW₂ hsb hF hL
    obtain ⟨c₂, i₂, len₂, hc₂, hd₂, hf₂⟩ := hend
    have hW' : U.WarmedH s₂.vm := hW₂
    have hcc : c₂ = c := by
      have h1 : s₂.code? (F0 m pc ls rest).method = U.code? (F0 m pc ls rest).method := by
        rw [State.code?_eq, State.code?_eq, hW'.alike.method?]
      exact Option.some.inj (hc₂.symm.trans (h1.trans X₁.here.code))
    subst hcc
    have hlen : len₂ = 3 := by rw [hdgc] at hd₂; cases hd₂; rfl
    subst hlen
    obtain ⟨t, a1, b1⟩ := kr r w s₂.heap (locs ++ L) hpo hhd hS' (({ U with heap := s₂.heap, slotsUsed := s₂.slotsUsed } : State).setVm s₂.vm) rfl X'
    refine ⟨t, go t ?_, b1⟩
    obtain ⟨g₀, hg0⟩ := Option.isSome_iff_exists.mp X'.here.top
    obtain ⟨r', hr'⟩ := State.topJava?_eq_some.mp hg0
    have ht := X'.tail
    rw [hr', List.tail_cons] at ht
    rw [ht] at hr'
    rw [hs₂ _ hf₂]
    rw [State.setTop_of_frames _ hr'] at a1
    exact a1
  · obtain ⟨X', hs₂, hS'⟩ := com L hW₂ hsb hF hL
    have hf₂ : s₂.frames = .throwing a :: .java (F0 m pc ls rest) :: below := hend
    have hcls : s.vm.findClass NSE = some ce.cls := by
      have h1 : U.vm.findClass NSE = some ce.cls := hce2
      rw [X₁.warmed.alike.findClass] at h1
      exact h1
    obtain ⟨vm₂, X₂, st₂⟩ := cat_ns X' (a := a) (g := F0 m pc ls rest) rfl hown hex hx h0 hlink (cell := ce) hce1 hce3 hcls
    obtain ⟨t, a1, b1⟩ := kt a w s₂.heap (locs ++ L) hpt hhd hS' ((({ U with heap := s₂.heap, slotsUsed := s₂.slotsUsed } : State).setVm s₂.vm).setVm vm₂) rfl X₂
    refine ⟨t, go t ?_, b1⟩
    rw [hs₂ _ hf₂]
    exact st₂ t a1
end CLT
