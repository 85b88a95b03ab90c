/-! CONTRACTS, and that the calculus speaks of the machine -/
def rmL (lv mc ms : Nat) : Room := { frames := lv, cells := mc, slots := ms, locals := 40 * lv }
def Pre (G : GG) (A : Nat → Prop) (as : List Value) (w : Hp) : Array Value → State → Prop := fun v U => v = as.toArray ∧ kk G U ∧ hd G A w U.heap ∧ ∀ q, gZ w ≤ q → A q
def Pst (G : GG) (A : Nat → Prop) (Po : Option Value → Hp → Prop) : Array Value → State → Outcome → State → Prop := fun _ st oc t => (∃ (r : Option Value) (w : Hp), oc = .returned r ∧ Po r w ∧ hd G A w t.heap) ∧ va_F A st t
def wsT (k : Nat) : List Cond := mtW (mt k) :: tb
/-- method k keeps the contract sp at the level lv, making at most mc cells of ms slots -/
def Ct (l : Launch) (k lv mc ms : Nat) (sp : Sp) : Prop := ∀ (G : GG) (A : Nat → Prop) (as : List Value) (w : Hp) (Po : Option Value → Hp → Prop), sp as w Po → Met l (mt k).1 (wsT k) (rmL lv mc ms) (Pre G A as w) (Pst G A Po) mc ms A
theorem goodT {k : Nat} (hk : k < 128) : GoodIn tb (wsT k) := by
  intro w hw
  rcases List.mem_cons.mp hw with rfl | h
  · exact ⟨MTT_ok _ (mt_mem hk), good_of_word (tb_good _ (MTT_ok _ (mt_mem hk)))⟩
  · exact ⟨h, good_of_word (tb_good _ h)⟩
theorem pre_blind {G : GG} {A : Nat → Prop} {as : List Value} {w : Hp} : FrameBlind (Pre G A as w) := fun a U g mk q => ⟨q.1, kk_same rfl q.2.1, q.2.2.1, q.2.2.2⟩
set_option maxRecDepth 100000 in
theorem mt_ml : ∀ k, k < 128 → (mt k).2.2.1 ≤ 21 := by decide +kernel
section SOUND
variable {p : Program} {l : Launch} {e : Env} {R : Room} {s : State} {m : MethodId} {args : Array Value} {below : List Frame} {meth : Method} {c : Code} {H H0 : Heap} {locs : List Loc} {cells slots : Nat} {Q : State → Prop}
variable {cc : ByteArray} {pc nL ow : Nat} {G : GG} {rt : Option FieldType} {A : Nat → Prop} {ls : Array Slot} {rest : List Value} {S : Hp}
theorem r_newq (C : Cx p s m args meth c cc nL ow G rt) (hh : hd G A S H) (hS : va_S A H0 H locs) (hA : ∀ q, gZ S ≤ q → A q) {idx t n : Nat} (hq : (ow, idx, rwC.getD (t - 23) 0) ∈ NWT) (h1 : 23 ≤ t) (h2 : t < 27) (hn : n < 65536) (hcells : cells + 1 ≤ R.cells) (hslots : slots + n ≤ R.slots) (hdg : decode cc pc = .ok (.anewarray idx, 3))
    (kk : ∀ (H1 : Heap), hd G A (sArr S t n) H1 → va_S A H0 H1 locs → W p l e R s m args below meth c H1 locs (cells + 1) (slots + n) Q (F0 m (pc + 3) ls (.ref (gZ S) :: rest))) : W p l e R s m args below meth c H locs cells slots Q (F0 m pc ls (.int (nI n) :: rest)) := by
  obtain ⟨hx, hb, hml, hown, hts, hK, hr, hlk⟩ := C
  have hw := NWT_ok _ hq
  have hcl : (nI n).toNatClampNeg = n := nI_clamp (by omega)
  have hov : va_AO (ownS (rwC.getD (t - 23) 0)) s := by
    rcases (show t = 23 ∨ t = 24 ∨ t = 25 ∨ t = 26 by omega) with rfl | rfl | rfl | rfl
    · exact hK.2.1.1
    · exact hK.2.1.2.1
    · exact hK.2.1.2.2.1
    · exact hK.2.1.2.2.2
  refine W.anew (C := ownS (rwC.getD (t - 23) 0)) hx hb hown (hts _ (hw _ (List.mem_of_getElem? (i := 0) rfl))) (va_AO.use hov) rfl hdg rfl (nI_pos (by omega)) (by rw [hcl]; omega) hcells (by rw [hcl]; exact hslots) fun cA kA comp f1 f2 f3 f4 => ?_
  rw [hcl]
  have hcA : cA = G.2 (t - 20) := by
    obtain ⟨_, _, _, _, _, g4⟩ := (hK.1.2 _ _ (tys_q G t h1 h2)).2
    exact Option.some.inj (f1.symm.trans g4)
  subst hcA
  generalize hH1 : H.push ({ cls := G.2 (t - 20), slots := Array.replicate n .null, vm := .none } : Cell) = H1
  have z1 : H1.size = H.size + 1 := by rw [← hH1, Array.size_push]
  have e1 : H1[H.size]? = some (arrV (G.2 (t - 20)) n (fun _ => .null)) := by rw [← hH1, Array.getElem?_push_size, ← arrV_new]
  have o1 : ∀ q : Nat, q < H.size → H1[q]? = H[q]? := fun q hq => by rw [← hH1, Array.getElem?_push, if_neg (Nat.ne_of_lt hq)]
  have hK2 : gK (sArr S t n) (gZ S) = some t := by simp [gK, sArr]
  have hN2 : gN (sArr S t n) (gZ S) = n := by simp [gN, sArr]
  have hQ2 : gQ (sArr S t n) (gZ S) = fun _ => none := by funext j; simp [gQ, sArr]
  have hW := kk H1 (hd_push hh rfl (by simp [gK, sArr]) (fun b hb => ⟨enc_eq (by simp [gK, sArr, hb]) (fun _ _ => rfl) (fun _ _ => rfl) (by simp [gN, sArr, hb]) (fun _ => by simp [gA, sArr, hb]) (fun _ => by simp [gQ, sArr, hb]) (fun _ => by simp [gJ, sArr, hb]), by simp [gK, sArr, hb]⟩) rfl z1 (by
    rw [enc_q hK2 h1, hN2, hQ2, ← hh.1]
    exact e1) o1 (hA _ (Nat.le_refl _))) ⟨Nat.le_trans hS.1 (by omega), fun x h1 h2 => (o1 x (Nat.lt_of_lt_of_le h1 hS.1)).trans (hS.2.1 x h1 h2), hS.2.2⟩
  rw [← hh.1] at hW
  exact hW
/-- behind a call -/
theorem r_back {st0 : List Value} {as : Array Value} {mc ms : Nat} {Po : Option Value → Hp → Prop} (hr : va_Run p l e R s m args below meth c H locs cells slots mc ms (F0 m pc ls st0) rest (Pst G A Po as) A) (hS : va_S A H0 H locs)
    (kk : ∀ (r : Option Value) (w : Hp) (H1 : Heap) (locs1 : List Loc), Po r w → hd G A w H1 → va_S A H0 H1 locs1 → W p l e R s m args below meth c H1 locs1 (cells + mc) (slots + ms) Q (F0 m (pc + 3) ls (r.toList ++ rest))) : W p l e R s m args below meth c H locs cells slots Q (F0 m pc ls st0) := by
  intro T hT X
  obtain ⟨v, st₀, t, T', L, h0, X', hL, e1, e2, ⟨⟨r, w, hv, hp, hw⟩, hz, hk⟩, st⟩ := hr T hT X
  cases hv
  rw [h0] at hz hk
  obtain ⟨t2, a1, b1⟩ := kk v w T'.heap (locs ++ L) hp (by rw [e1]; exact hw) ⟨Nat.le_trans hS.1 (by rw [e1]; exact hz), fun q h1 h2 => by rw [e1, hk q (Nat.lt_of_lt_of_le h1 hS.1) h2]; exact hS.2.1 q h1 h2, fun q hq => by
      rcases List.mem_append.mp hq with h | h
      · exact hS.2.2 q h
      · exact hL q h⟩ T' rfl X'
  exact ⟨t2, st t2 a1, b1⟩
theorem r_pre (C : Cx p s m args meth c cc nL ow G rt) (hh : hd G A S H) (hA : ∀ q, gZ S ≤ q → A q) (as : List Value) : PreS s H (Pre G A as S) as := ⟨pre_blind, fun U hU hW => ⟨rfl, kk_warm hW C.2.2.2.2.2.1, by rw [hU]; exact hh, hA⟩⟩
theorem r_recv (C : Cx p s m args meth c cc nL ow G rt) (hh : hd G A S H) {b t : Nat} (ht : t < 11) (hk : gK S b = some t) : ∃ cellB : Cell, H[b]? = some cellB ∧ cellB.vm.isStatics = false ∧ s.vm.findClass (ownS t) = some cellB.cls := by
  obtain ⟨LP, q, ha, h0, hL, hP, hD⟩ := hd_in hh hk
  rw [enc_o hk (by omega)] at h0
  exact va_recv C.2.2.2.2.2.1.1 hP (cl_at t ht) h0
theorem lvl {lv lv' mc' ms' k : Nat} (h : lv' < lv) (hk : k < 128) (hR : lv ≤ R.frames ∧ 40 * lv ≤ R.locals) : (rmL lv' mc' ms').frames + 1 ≤ R.frames ∧ 8 + ((mt k).2.2.1 + 11) + (rmL lv' mc' ms').locals ≤ R.locals := by
  have := mt_ml k hk
  refine ⟨?_, ?_⟩
  · show lv' + 1 ≤ R.frames; omega
  · show 8 + ((mt k).2.2.1 + 11) + 40 * lv' ≤ R.locals; omega
theorem r_callV (C : Cx p s m args meth c cc nL ow G rt) (hh : hd G A S H) (hS : va_S A H0 H locs) (hA : ∀ q, gZ S ≤ q → A q) (hls : ls.size = nL) {idx k lv lv' mc' ms' b : Nat} {sp : Sp} {As : List Value} {Po : Option Value → Hp → Prop} (hq : (ow, idx, k) ∈ IVT) (hC : Ct l k lv' mc' ms' sp) (hlv : lv' < lv) (hR : lv ≤ R.frames ∧ 40 * lv ≤ R.locals) (hc : cells + mc' ≤ R.cells) (hsl : slots + ms' ≤ R.slots) (hAs : As.length = mtN.getD k 0) (hcat : catB rest = true) (hci : mtC.getD k 0 < 11) (hb : gK S b = some (mtC.getD k 0)) (hsp : sp (.ref b :: As) S Po) (hdg : decode cc pc = .ok (.invokevirtual idx, 3))
    (kk : ∀ (r : Option Value) (w : Hp) (H1 : Heap) (locs1 : List Loc), Po r w → hd G A w H1 → va_S A H0 H1 locs1 → W p l e R s m args below meth c H1 locs1 (cells + mc') (slots + ms') Q (F0 m (pc + 3) ls (r.toList ++ rest))) : W p l e R s m args below meth c H locs cells slots Q (F0 m pc ls (As.reverse ++ .ref b :: rest)) := by
  obtain ⟨hx, hbb, hml, hown, hts, hK, hr, hlk⟩ := id C
  have hk : k < 128 := IVT_lt _ hq
  have hw := IVT_ok _ hq
  have hG : GoodIn tb (wsV (ownS ow) idx (mt k).1.cls (mt k).1 (wsT k)) := by
    intro w h
    unfold wsV at h
    rcases List.mem_append.mp h with h | h
    · have h2 : w ∈ IVW (ow, idx, k) := by
        simp only [List.mem_cons, List.not_mem_nil, or_false] at h
        rcases h with rfl | rfl | rfl | rfl <;> simp [IVW]
      exact ⟨hw _ h2, good_of_word (tb_good _ (hw _ h2))⟩
    · exact goodT hk w h
  refine r_back (va_runV (C := (mt k).1.cls) (b := b) (As := As) ⟨hx, hbb, hml, hown, hts⟩ (hC G A (.ref b :: As) S Po hsp) (cwV (mtN.getD k 0) hts hG rfl rfl rfl ⟨rfl, (mt_mh k hk).1, (mt_mh k hk).2, mt_par k hk⟩ (lvl hlv hk hR)) ⟨pre_blind, ?_, (r_pre C hh hA _).2⟩ rfl hAs hls rfl (lv_room (Nat.le_of_ble_eq_true hcat)) hdg ⟨hc, hsl⟩) hS kk
  rw [mt_cls k hk]
  exact r_recv C hh hci hb
theorem r_callS (C : Cx p s m args meth c cc nL ow G rt) (hh : hd G A S H) (hS : va_S A H0 H locs) (hA : ∀ q, gZ S ≤ q → A q) (hls : ls.size = nL) {idx k lv lv' mc' ms' : Nat} {sp : Sp} {As : List Value} {Po : Option Value → Hp → Prop} (hq : (ow, idx, k) ∈ IST) (hC : Ct l k lv' mc' ms' sp) (hlv : lv' < lv) (hR : lv ≤ R.frames ∧ 40 * lv ≤ R.locals) (hc : cells + mc' ≤ R.cells) (hsl : slots + ms' ≤ R.slots) (hAs : As.length = mtN.getD k 0) (hcat : catB rest = true) (hsp : sp As S Po) (hdg : decode cc pc = .ok (.invokestatic idx, 3))
    (kk : ∀ (r : Option Value) (w : Hp) (H1 : Heap) (locs1 : List Loc), Po r w → hd G A w H1 → va_S A H0 H1 locs1 → W p l e R s m args below meth c H1 locs1 (cells + mc') (slots + ms') Q (F0 m (pc + 3) ls (r.toList ++ rest))) : W p l e R s m args below meth c H locs cells slots Q (F0 m pc ls (As.reverse ++ rest)) := by
  obtain ⟨hx, hbb, hml, hown, hts, hK, hr, hlk⟩ := id C
  have hk : k < 128 := IST_lt _ hq
  have hw := IST_ok _ hq
  have hG : GoodIn tb (va_wsS (ownS ow) idx (mt k).1 (wsT k)) := by
    intro w h
    unfold va_wsS at h
    rcases List.mem_append.mp h with h | h
    · have h2 : w ∈ ISW (ow, idx, k) := by
        simp only [List.mem_cons, List.not_mem_nil, or_false] at h
        rcases h with rfl | rfl | rfl <;> simp [ISW]
      exact ⟨hw _ h2, good_of_word (tb_good _ (hw _ h2))⟩
    · exact goodT hk w h
  exact r_back (va_runS (As := As) ⟨hx, hbb, hml, hown, hts⟩ (hC G A As S Po hsp) (va_cwS (mtN.getD k 0) hts hG rfl rfl rfl ⟨(mt_mh k hk).1, (mt_mh k hk).2, mt_par k hk⟩ (lvl hlv hk hR)) (r_pre C hh hA _) rfl hAs hls rfl (lv_room (Nat.le_of_ble_eq_true hcat)) hdg ⟨hc, hsl⟩) hS kk
theorem iit_v : ∀ q ∈ IIT, (mt q.2.2).2.2.2 = none ∧ (mt q.2.2).1.name = "<init>" := by decide +kernel
theorem int_v : ∀ q ∈ INT, (mt q.2.2).2.2.2 = none ∧ (mt q.2.2).1.name = "<init>" := by decide +kernel
theorem r_callI (C : Cx p s m args meth c cc nL ow G rt) (hh : hd G A S H) (hS : va_S A H0 H locs) (hA : ∀ q, gZ S ≤ q → A q) (hls : ls.size = nL) {idx k lv lv' mc' ms' b : Nat} {sp : Sp} {As : List Value} {Po : Option Value → Hp → Prop} (hq : (ow, idx, k) ∈ IIT) (hC : Ct l k lv' mc' ms' sp) (hlv : lv' < lv) (hR : lv ≤ R.frames ∧ 40 * lv ≤ R.locals) (hc : cells + mc' ≤ R.cells) (hsl : slots + ms' ≤ R.slots) (hAs : As.length = mtN.getD k 0) (hcat : catB rest = true) (hsp : sp (.ref b :: As) S Po) (hdg : decode cc pc = .ok (.invokespecial idx, 3))
    (kk : ∀ (r : Option Value) (w : Hp) (H1 : Heap) (locs1 : List Loc), Po r w → hd G A w H1 → va_S A H0 H1 locs1 → W p l e R s m args below meth c H1 locs1 (cells + mc') (slots + ms') Q (F0 m (pc + 3) ls (r.toList ++ rest))) : W p l e R s m args below meth c H locs cells slots Q (F0 m pc ls (As.reverse ++ .ref b :: rest)) := by
  obtain ⟨hx, hbb, hml, hown, hts, hK, hr, hlk⟩ := id C
  have hk : k < 128 := IIT_lt _ hq
  have hw := IIT_ok _ hq
  have hv := iit_v _ hq
  have hv1 : (mt k).2.2.2 = none := hv.1
  have e1 : wsT k = Cond.code (mt k).1 (mt k).2.1 (mt k).2.2.1 none :: tb := by rw [← hv1]; rfl
  exact r_back (va_runI (b := b) (As := As) ⟨hx, hbb, hml, hown, hts⟩ (hC G A (.ref b :: As) S Po hsp) (cwI (mtN.getD k 0) hts (goodT hk) e1 rfl rfl (hts _ (hw _ (List.mem_of_getElem? (i := 2) rfl))) (hts _ (hw _ (List.mem_of_getElem? (i := 0) rfl))) (hts _ (hw _ (List.mem_of_getElem? (i := 1) rfl))) hv.2 ⟨(mt_mh k hk).1, (mt_mh k hk).2, mt_par k hk⟩ (lvl hlv hk hR)) (r_pre C hh hA _) rfl hAs hls rfl (lv_room (Nat.le_of_ble_eq_true hcat)) hdg ⟨hc, hsl⟩) hS kk
theorem r_callN (C : Cx p s m args meth c cc nL ow G rt) (hh : hd G A S H) (hS : va_S A H0 H locs) (hA : ∀ q, gZ S ≤ q → A q) (hls : ls.size = nL) {idx k lv lv' mc' ms' b : Nat} {sp : Sp} {As : List Value} {Po : Option Value → Hp → Prop} (hq : (ow, idx, k) ∈ INT) (hC : Ct l k lv' mc' ms' sp) (hlv : lv' < lv) (hR : lv ≤ R.frames ∧ 40 * lv ≤ R.locals) (hc : cells + mc' ≤ R.cells) (hsl : slots + ms' ≤ R.slots) (hAs : As.length = mtN.getD k 0) (hcat : catB rest = true) (hsp : sp (.ref b :: As) S Po) (hdg : decode cc pc = .ok (.invokespecial idx, 3))
    (kk : ∀ (r : Option Value) (w : Hp) (H1 : Heap) (locs1 : List Loc), Po r w → hd G A w H1 → va_S A H0 H1 locs1 → W p l e R s m args below meth c H1 locs1 (cells + mc') (slots + ms') Q (F0 m (pc + 3) ls (r.toList ++ rest))) : W p l e R s m args below meth c H locs cells slots Q (F0 m pc ls (As.reverse ++ .ref b :: rest)) := by
  obtain ⟨hx, hbb, hml, hown, hts, hK, hr, hlk⟩ := id C
  have hk : k < 128 := INT_lt _ hq
  have hw := INT_ok _ hq
  have hv := int_v _ hq
  have hv1 : (mt k).2.2.2 = none := hv.1
  have e1 : wsT k = Cond.code (mt k).1 (mt k).2.1 (mt k).2.2.1 none :: tb := by rw [← hv1]; rfl
  exact r_back (va_runIN (b := b) (As := As) ⟨hx, hbb, hml, hown, hts⟩ (hC G A (.ref b :: As) S Po hsp) ⟨va_cnB (mtN.getD k 0) hts (goodT hk) e1 rfl rfl (hK.2.2 _ hq) (hts _ (hw _ (List.mem_of_getElem? (i := 1) rfl))) ⟨(mt_mh k hk).1, (mt_mh k hk).2, mt_par k hk⟩ (lvl hlv hk hR), hv.2, hts _ (hw _ (List.mem_of_getElem? (i := 0) rfl))⟩ (r_pre C hh hA _) rfl hAs hls rfl (lv_room (Nat.le_of_ble_eq_true hcat)) hdg ⟨hc, hsl⟩) hS kk
end SOUND
