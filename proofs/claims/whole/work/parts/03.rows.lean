/-! ROWS: an instruction over the store -/
/-- what holds in a method's body -/
def Cx (p : Program) (s : State) (m : MethodId) (args : Array Value) (meth : Method) (c : Code) (cc : ByteArray) (nL ow : Nat) (G : GG) (rt : Option FieldType) : Prop :=
  p.tables.exec = Jvm.exec ∧ c.code = cc ∧ c.maxLocals = nL ∧ s.vm.findClass (ownS ow) = some m.cls ∧ (∀ w ∈ tb, w.before args s = true) ∧ kk G s ∧ meth.sig.returnType = rt ∧ meth.locks = false
section ROWS
variable {p : Program} {l : Launch} {e : Env} {R : Room} {s : State} {m : MethodId} {args : Array Value} {below : List Frame} {meth : Method} {c : Code} {H H0 : Heap} {locs : List Loc} {cells slots : Nat} {Q : State → Prop}
variable {cc : ByteArray} {pc nL ow : Nat} {G : GG} {rt : Option FieldType} {A : Nat → Prop} {ls : Array Slot} {rest : List Value} {S : Hp}
theorem r_get (C : Cx p s m args meth c cc nL ow G rt) (hh : hd G A S H) {idx t k a : Nat} (hq : (ow, idx, t, k) ∈ FLT) (hk : gK S a = some t) (hdg : decode cc pc = .ok (.getfield idx, 3))
    (kk : W p l e R s m args below meth c H locs cells slots Q (F0 m (pc + 3) ls (fv S t k a :: rest))) : W p l e R s m args below meth c H locs cells slots Q (F0 m pc ls (.ref a :: rest)) := by
  obtain ⟨hx, hb, hml, hown, hts, hK, hr, hlk⟩ := C
  obtain ⟨ht, hkN⟩ : t < 11 ∧ k < clN t := FLT_lt _ hq
  obtain ⟨LP, q, ha, h0, hL, hP, hD⟩ := hd_in hh hk
  rw [enc_o hk (by omega)] at h0
  have hl := hts _ (FLT_ok _ hq)
  exact va_get (D := G.1) (ci := t) (v := fv S t k a) (C := ownS t) (T := clT t) (N := clN t) hx hb hts (cl_in t ht) hown hK.1 hP q h0 (cl_at t ht) k hkN hl (fun _ h9 => by rw [cl_dc t ht k hkN] at h9; exact h9) (encO_get hkN) hdg kk
theorem r_put (C : Cx p s m args meth c cc nL ow G rt) (hh : hd G A S H) (hS : va_S A H0 H locs) {idx t k a : Nat} {v : Value} {S' : Hp} (hq : (ow, idx, t, k) ∈ FLT) (hk : gK S a = some t) (hfin : isFin t k = false ∨ (meth.name = "<init>" ∧ ow = t)) (hn : narrow (clTy t k) v = v) (hf : fits (clTy t k) v = true)
    (hup : ∀ b, va_up (enc G S) a (.inr (t, (encO S t a).set k v)) b = enc G S' b) (hKK : gK S' = gK S) (hZ : gZ S' = gZ S) (hdg : decode cc pc = .ok (.putfield idx, 3))
    (kk : ∀ (H1 : Heap) (locs1 : List Loc), hd G A S' H1 → va_S A H0 H1 locs1 → W p l e R s m args below meth c H1 locs1 cells slots Q (F0 m (pc + 3) ls rest)) : W p l e R s m args below meth c H locs cells slots Q (F0 m pc ls (v :: .ref a :: rest)) := by
  obtain ⟨hx, hb, hml, hown, hts, hK, hr, hlk⟩ := C
  obtain ⟨ht, hkN⟩ : t < 11 ∧ k < clN t := FLT_lt _ hq
  obtain ⟨LP, q, ha, h0, hL, hP, hD⟩ := hd_in hh hk
  have h0' := h0
  rw [enc_o hk (by omega)] at h0'
  have hlink := hts _ (FLT_ok _ hq)
  have hc := cl_at t ht
  have hap := va_apart (own := ownS ow) hts (cl_in t ht) (clTy t) (cl_ty t ht) (cl_nm t ht) hK.1 hc
  obtain ⟨r, h1, cell, q1, q2, q3, q4⟩ := hP q _ h0'
  have hr1 : r = (ownS t, clT t, clN t) := Option.some.inj (h1.symm.trans hc)
  subst hr1
  obtain ⟨hSl, hfc, kC, hkC, hkind⟩ := hK.1.1 t _ hc
  obtain ⟨cf, kf, fi, f, hi, hsl⟩ := hSl k hkN
  have hst := (u_facts hfc hkC (u_lays hts (cl_in t ht) hkN) hi).1
  have hlen : k < (encO S t a).length := by rw [encO_len]; exact hkN
  have hi2 : s.fieldFound? (ownS t) (clT t k).2.1 (clT t k).2.2.1 = some (cf, kf, fi, f) := by
    have h9 := hi
    rw [cl_dc t ht k hkN] at h9
    exact h9
  have fin : ∀ H' : Heap, H'[a]? = some (cell.setSlot (G.1.2 t k) v) → H'.size = H.size → (∀ q : Nat, q ≠ a → H'[q]? = H[q]?) → hd G A S' H' := by
    intro H' e1 e2 e3
    refine hd_put (H := H) ha h0 hL hD hup hKK (by rw [e2, hh.1, hZ]) (hP.set hD h0' ⟨_, hc, t_OB.to (V := updV (vp_V (encO S t a)) k v) ⟨_, e1, q2, q3, t_set q4 hap hkN v⟩ (fun j _ => vp_updV_set hlen v j)⟩ e3) (hD.set h0')
  have hlay := hts _ (cl_in t ht _ (u_in_lay hkN))
  by_cases hF : isFin t k = true
  · obtain ⟨hin, hot⟩ := hfin.resolve_left (by rw [hF]; decide)
    subst hot
    unfold u_lay at hlay
    rw [if_pos (by rw [cl_fi ow ht k hkN]; exact hF)] at hlay
    have hcf : m.cls = cf := by
      obtain ⟨_, _, c', _, _, _, -, -, hf', -, -, -, hown2, -⟩ := Cond.laysFinal_spec hlay
      have e1 : c' = cf := by have := hi.symm.trans hf'; simp at this; exact this.1.symm
      rw [cl_dc ow ht k hkN] at hown2
      rw [← e1]; exact Option.some.inj (hown.symm.trans hown2)
    have h6 := u_fits hfc hkC hkind (Or.inr hlay) hi (cl_ty ow ht k hkN) hn hf
    refine W.putFinK hx hb hown hlink hi2 hst hcf hin (by rw [q2]; exact h6) q1 q3 (by rw [hsl]; exact k2_hasslot (q4 k hkN)) rfl rfl hdg fun H' e1 e2 e3 => ?_
    rw [hsl] at e1
    exact kk H' _ (fin H' e1 e2 e3) (hS.put e2 e3 (hD.2 q _ h0'))
  · have hF : isFin t k = false := by simpa using hF
    unfold u_lay at hlay
    rw [if_neg (by rw [cl_fi t ht k hkN, hF]; decide)] at hlay
    have h6 := u_store hfc hkC hkind hlay hi (cl_ty t ht k hkN) hn hf
    refine W.putK hx hb (f := f) ⟨hown, hlink, ⟨_, _, _, hi2⟩, hst⟩ (by rw [q2]; exact h6) q1 q3 (by rw [hsl]; exact k2_hasslot (q4 k hkN)) rfl rfl hdg fun H' e1 e2 e3 => ?_
    rw [hsl] at e1
    exact kk H' _ (fin H' e1 e2 e3) (hS.put e2 e3 (hD.2 q _ h0'))
theorem vp_ix {j n : Nat} (h : j < n) (hj : j < 2147483648) : vp_in (nI j) n := by
  have hc : (nI j).toNatClampNeg = j := nI_clamp hj
  intro q
  rcases q with q | q
  · exact nI_pos hj q
  · rw [hc] at q; omega
theorem cl_ix {j : Nat} (hj : j < 2147483648) : (nI j).toNatClampNeg = j := nI_clamp hj
theorem r_iald (C : Cx p s m args meth c cc nL ow G rt) (hh : hd G A S H) {a j : Nat} (hk : gK S a = some 20) (hj : j < gN S a) (hj2 : j < 2147483648) (hdg : decode cc pc = .ok (.iaload, 1))
    (kk : W p l e R s m args below meth c H locs cells slots Q (F0 m (pc + 1) ls (.int (gA S a j) :: rest))) : W p l e R s m args below meth c H locs cells slots Q (F0 m pc ls (.int (nI j) :: .ref a :: rest)) := by
  obtain ⟨hx, hb, hml, hown, hts, hK, hr, hlk⟩ := C
  obtain ⟨LP, q, ha, h0, hL, hP, hD⟩ := hd_in hh hk
  rw [enc_i hk (by decide) (by decide)] at h0
  refine va_iald hx hb hK.1 hP q 0 h0 rfl (vp_ix hj hj2) hdg ?_
  rw [cl_ix hj2]
  exact kk
theorem r_zald (C : Cx p s m args meth c cc nL ow G rt) (hh : hd G A S H) {a j : Nat} (hk : gK S a = some 21) (hj : j < gN S a) (hj2 : j < 2147483648) (hdg : decode cc pc = .ok (.baload, 1))
    (kk : W p l e R s m args below meth c H locs cells slots Q (F0 m (pc + 1) ls (.int (gA S a j) :: rest))) : W p l e R s m args below meth c H locs cells slots Q (F0 m pc ls (.int (nI j) :: .ref a :: rest)) := by
  obtain ⟨hx, hb, hml, hown, hts, hK, hr, hlk⟩ := C
  obtain ⟨LP, q, ha, h0, hL, hP, hD⟩ := hd_in hh hk
  rw [enc_i hk (by decide) (by decide)] at h0
  refine va_zald hx hb hK.1 hP q 1 h0 rfl (vp_ix hj hj2) hdg ?_
  rw [cl_ix hj2]
  exact kk
theorem r_lald (C : Cx p s m args meth c cc nL ow G rt) (hh : hd G A S H) {a j : Nat} (hk : gK S a = some 22) (hj : j < gN S a) (hj2 : j < 2147483648) (hdg : decode cc pc = .ok (.laload, 1))
    (kk : W p l e R s m args below meth c H locs cells slots Q (F0 m (pc + 1) ls (.long (gJ S a j) :: rest))) : W p l e R s m args below meth c H locs cells slots Q (F0 m pc ls (.int (nI j) :: .ref a :: rest)) := by
  obtain ⟨hx, hb, hml, hown, hts, hK, hr, hlk⟩ := C
  obtain ⟨LP, q, ha, h0, hL, hP, hD⟩ := hd_in hh hk
  rw [enc_j hk] at h0
  refine va_lald hx hb hK.1 hP q 2 h0 rfl (vp_ix hj hj2) hdg ?_
  rw [cl_ix hj2]
  exact kk
/-- the rows of references, by kind: which objects they hold -/
def rwC : List Nat := [5, 2, 1, 8]
theorem tys_q (G : GG) : ∀ t, 23 ≤ t → t < 27 → (tysG G)[t - 20]? = some (G.2 (t - 20), .object (ownS (rwC.getD (t - 23) 0))) := by
  intro t h1 h2
  rcases (show t = 23 ∨ t = 24 ∨ t = 25 ∨ t = 26 by omega) with rfl | rfl | rfl | rfl <;> rfl
theorem r_aald (C : Cx p s m args meth c cc nL ow G rt) (hh : hd G A S H) {a j t : Nat} (hk : gK S a = some t) (ht : 23 ≤ t) (ht2 : t < 27) (hj : j < gN S a) (hj2 : j < 2147483648) (hdg : decode cc pc = .ok (.aaload, 1))
    (kk : W p l e R s m args below meth c H locs cells slots Q (F0 m (pc + 1) ls (va_rf (gQ S a j) :: rest))) : W p l e R s m args below meth c H locs cells slots Q (F0 m pc ls (.int (nI j) :: .ref a :: rest)) := by
  obtain ⟨hx, hb, hml, hown, hts, hK, hr, hlk⟩ := C
  obtain ⟨LP, q, ha, h0, hL, hP, hD⟩ := hd_in hh hk
  rw [enc_q hk ht] at h0
  refine va_aldq hx hb hK.1 hP q (t - 20) h0 (tys_q G t ht ht2) (vp_ix hj hj2) hdg ?_
  rw [cl_ix hj2]
  exact kk
theorem r_alen (C : Cx p s m args meth c cc nL ow G rt) (hh : hd G A S H) {a : Nat} (hk : gK S a = some 20) (hdg : decode cc pc = .ok (.arraylength, 1))
    (kk : W p l e R s m args below meth c H locs cells slots Q (F0 m (pc + 1) ls (.int (nI (gN S a)) :: rest))) : W p l e R s m args below meth c H locs cells slots Q (F0 m pc ls (.ref a :: rest)) := by
  obtain ⟨hx, hb, hml, hown, hts, hK, hr, hlk⟩ := C
  obtain ⟨LP, q, ha, h0, hL, hP, hD⟩ := hd_in hh hk
  rw [enc_i hk (by decide) (by decide)] at h0
  exact va_alen hx hb hK.1 hP q 0 h0 rfl rfl hdg kk
theorem r_iast (C : Cx p s m args meth c cc nL ow G rt) (hh : hd G A S H) (hS : va_S A H0 H locs) {a j : Nat} {x : Int32} (hk : gK S a = some 20) (hj : j < gN S a) (hj2 : j < 2147483648) (hdg : decode cc pc = .ok (.iastore, 1))
    (kk : ∀ (H1 : Heap) (locs1 : List Loc), hd G A (sA S a j x) H1 → va_S A H0 H1 locs1 → W p l e R s m args below meth c H1 locs1 cells slots Q (F0 m (pc + 1) ls rest)) : W p l e R s m args below meth c H locs cells slots Q (F0 m pc ls (.int x :: .int (nI j) :: .ref a :: rest)) := by
  obtain ⟨hx, hb, hml, hown, hts, hK, hr, hlk⟩ := C
  obtain ⟨LP, q, ha, h0, hL, hP, hD⟩ := hd_in hh hk
  have h0' := h0
  rw [enc_i hk (by decide) (by decide)] at h0'
  refine W.iast hx hb (hP q _ h0') ((hK.1.2 0 _ rfl).1 (gN S a) (fun j => .int (gA S a j))) (fun q => by cases q) (by show ¬ (nI j < 0 ∨ (arrV _ _ _).slots.size ≤ _); rw [arrV_size]; exact vp_ix hj hj2) rfl rfl hdg fun H1 e z oq => ?_
  refine kk H1 _ (hd_put (H := H) ha h0 hL hD (up_sA (j := j) (v := x) hk (by decide) (by decide)) rfl (by rw [z, hh.1]; rfl) (hP.set hD h0' ?_ oq) (hD.set h0')) (hS.put z oq (hD.2 q _ h0'))
  show H1[a]? = some (vp_cell _ _)
  rw [e, cl_ix hj2, vp_cell_i, vp_cell_i, arrV_store]
  congr 2
  funext q
  by_cases hq : q = j
  · subst hq
    simp [updV, upd]
  · simp [updV, upd, hq]
theorem nar_z {x : Int32} (h : x = 0 ∨ x = 1) : vp_nar .boolean x = x := by rcases h with rfl | rfl <;> decide
theorem r_zast (C : Cx p s m args meth c cc nL ow G rt) (hh : hd G A S H) (hS : va_S A H0 H locs) {a j : Nat} {x : Int32} (hk : gK S a = some 21) (hj : j < gN S a) (hj2 : j < 2147483648) (hx01 : x = 0 ∨ x = 1) (hdg : decode cc pc = .ok (.bastore, 1))
    (kk : ∀ (H1 : Heap) (locs1 : List Loc), hd G A (sA S a j x) H1 → va_S A H0 H1 locs1 → W p l e R s m args below meth c H1 locs1 cells slots Q (F0 m (pc + 1) ls rest)) : W p l e R s m args below meth c H locs cells slots Q (F0 m pc ls (.int x :: .int (nI j) :: .ref a :: rest)) := by
  obtain ⟨hx, hb, hml, hown, hts, hK, hr, hlk⟩ := C
  obtain ⟨LP, q, ha, h0, hL, hP, hD⟩ := hd_in hh hk
  have h0' := h0
  rw [enc_i hk (by decide) (by decide)] at h0'
  refine W.zast hx hb (hP q _ h0') ((hK.1.2 1 _ rfl).1 (gN S a) (fun j => .int (gA S a j))) (fun q => by cases q) (by show ¬ (nI j < 0 ∨ (arrV _ _ _).slots.size ≤ _); rw [arrV_size]; exact vp_ix hj hj2) rfl rfl hdg fun H1 e z oq => ?_
  refine kk H1 _ (hd_put (H := H) ha h0 hL hD (up_sA (j := j) (v := x) hk (by decide) (by decide)) rfl (by rw [z, hh.1]; rfl) (hP.set hD h0' ?_ oq) (hD.set h0')) (hS.put z oq (hD.2 q _ h0'))
  show H1[a]? = some (vp_cell _ _)
  rw [e, cl_ix hj2, vp_cell_i, vp_cell_i, arrV_store]
  congr 2
  have hz : narrow .boolean (.int x) = .int x := by rcases hx01 with rfl | rfl <;> rfl
  funext q
  by_cases hq : q = j
  · subst hq
    simp [updV, upd, hz]
  · simp [updV, upd, hq]
theorem r_last (C : Cx p s m args meth c cc nL ow G rt) (hh : hd G A S H) (hS : va_S A H0 H locs) {a j : Nat} {x : Int64} (hk : gK S a = some 22) (hj : j < gN S a) (hj2 : j < 2147483648) (hdg : decode cc pc = .ok (.lastore, 1))
    (kk : ∀ (H1 : Heap) (locs1 : List Loc), hd G A (sJ S a j x) H1 → va_S A H0 H1 locs1 → W p l e R s m args below meth c H1 locs1 cells slots Q (F0 m (pc + 1) ls rest)) : W p l e R s m args below meth c H locs cells slots Q (F0 m pc ls (.long x :: .int (nI j) :: .ref a :: rest)) := by
  obtain ⟨hx, hb, hml, hown, hts, hK, hr, hlk⟩ := C
  obtain ⟨LP, q, ha, h0, hL, hP, hD⟩ := hd_in hh hk
  have h0' := h0
  rw [enc_j hk] at h0'
  refine W.last hx hb (hP q _ h0') ((hK.1.2 2 _ rfl).1 (gN S a) (fun j => .long (gJ S a j))) (fun q => by cases q) (by show ¬ (nI j < 0 ∨ (arrV _ _ _).slots.size ≤ _); rw [arrV_size]; exact vp_ix hj hj2) rfl rfl hdg fun H1 e z oq => ?_
  refine kk H1 _ (hd_put (H := H) ha h0 hL hD (up_sJ (j := j) (v := x) hk) rfl (by rw [z, hh.1]; rfl) (hP.set hD h0' ?_ oq) (hD.set h0')) (hS.put z oq (hD.2 q _ h0'))
  show H1[a]? = some (vp_cell _ _)
  rw [e, cl_ix hj2, vp_cell_l, vp_cell_l, arrV_store]
  congr 2
  funext q
  by_cases hq : q = j
  · subst hq
    simp [updV, vp_updL]
  · simp [updV, vp_updL, hq]
theorem r_aast (C : Cx p s m args meth c cc nL ow G rt) (hh : hd G A S H) (hS : va_S A H0 H locs) {a j t v : Nat} (hk : gK S a = some t) (ht : 23 ≤ t) (ht2 : t < 27) (hv : gK S v = some (rwC.getD (t - 23) 0)) (hj : j < gN S a) (hj2 : j < 2147483648) (hdg : decode cc pc = .ok (.aastore, 1))
    (kk : ∀ (H1 : Heap) (locs1 : List Loc), hd G A (sQ S a j (some v)) H1 → va_S A H0 H1 locs1 → W p l e R s m args below meth c H1 locs1 cells slots Q (F0 m (pc + 1) ls rest)) : W p l e R s m args below meth c H locs cells slots Q (F0 m pc ls (.ref v :: .int (nI j) :: .ref a :: rest)) := by
  obtain ⟨hx, hb, hml, hown, hts, hK, hr, hlk⟩ := C
  obtain ⟨LP, q, ha, h0, hL, hP, hD⟩ := hd_in hh hk
  obtain ⟨LP2, q2, ha2, h02, hL2, hP2, hD2⟩ := hd_in hh hv
  have h0' := h0
  rw [enc_q hk ht] at h0'
  have hci : rwC.getD (t - 23) 0 < 11 := by
    rcases (show t = 23 ∨ t = 24 ∨ t = 25 ∨ t = 26 by omega) with rfl | rfl | rfl | rfl <;> decide
  rw [enc_o hv (by omega)] at h02
  have hc := cl_at _ hci
  have h0n : ¬ nI j < 0 := nI_pos hj2
  obtain ⟨r', hr', cellV, g1, g2, g3, -⟩ := hP2 q2 _ h02
  have hcls := (hK.1.1 _ _ hc).2
  obtain ⟨kA, comp, k1, k2, k3, -⟩ := (hK.1.2 _ _ (tys_q G t ht ht2)).2
  have hcomp : comp = G.1.1 (rwC.getD (t - 23) 0) := Option.some.inj (k3.symm.trans hcls.1)
  subst hcomp
  obtain ⟨kC, hkC, -⟩ := hcls.2
  refine W.aast hx hb (hP q _ h0') (fun q h => by cases h) (fun h => by cases h) k1 k2 rfl hkC ⟨h0n, by show _ < (arrV _ _ _).slots.size; rw [arrV_size, cl_ix hj2]; exact hj⟩ g1 (fun q h => by rw [g3] at h; cases h) (by rw [g2]; exact hkC) (by rw [g2]; exact va_assign hcls) rfl rfl hdg fun H1 e z oq => ?_
  refine kk H1 _ (hd_put (H := H) ha h0 hL hD (up_sQ (j := j) (v := some v) hk ht) rfl (by rw [z, hh.1]; rfl) (hP.set hD h0' ?_ oq) (hD.set h0')) (hS.put z oq (hD.2 q _ h0'))
  show H1[a]? = some (vp_cell _ _)
  rw [e, cl_ix hj2, vp_cell_q, vp_cell_q, arrV_store]
  congr 2
  funext q
  by_cases hq : q = j
  · subst hq
    simp [updV, va_up, va_rf]
  · simp [updV, va_up, hq]
theorem dfl_fv : ∀ t, t < 11 → ∀ j, j < clN t → defaultValue (clTy t j) = bif isRf t j then .null else .int 0 := by decide +kernel
theorem fv_new {S : Hp} {t j : Nat} : fv (sNew S t) t j (gZ S) = bif isRf t j then .null else .int 0 := by
  unfold fv
  cases isRf t j <;> simp [gI, gR, sNew, va_rf]
theorem r_new (C : Cx p s m args meth c cc nL ow G rt) (hh : hd G A S H) (hS : va_S A H0 H locs) (hA : ∀ q, gZ S ≤ q → A q) {idx t : Nat} (hq : (ow, idx, t) ∈ NWT) (hcells : cells + 1 ≤ R.cells) (hslots : slots + clN t ≤ R.slots) (hdg : decode cc pc = .ok (.new idx, 3))
    (kk : ∀ (H1 : Heap), hd G A (sNew S t) H1 → va_S A H0 H1 locs → W p l e R s m args below meth c H1 locs (cells + 1) (slots + clN t) Q (F0 m (pc + 3) ls (.ref (gZ S) :: rest))) : W p l e R s m args below meth c H locs cells slots Q (F0 m pc ls rest) := by
  obtain ⟨hx, hb, hml, hown, hts, hK, hr, hlk⟩ := C
  have ht : t < 11 := NWT_lt _ hq
  have hw := NWT_ok _ hq
  have hc := cl_at t ht
  have hKn := hK.1.1 t _ hc
  refine W.newcK hx hb hown (hts _ (hw _ (List.mem_of_getElem? (i := 0) rfl))) (hts _ (hw _ (List.mem_of_getElem? (i := 1) rfl))) (hts _ (hw _ (List.mem_of_getElem? (i := 2) rfl))) rfl hdg hcells hslots hKn.2.1 hh.1 fun H1 kC hkC e1 z1 o1 => ?_
  refine kk H1 (hd_push hh (enc_new (by omega)) (by simp [gK, sNew]) (fun b hb => ⟨enc_eq (by simp [gK, sNew, hb]) (fun _ _ => by simp [gI, sNew, hb]) (fun _ _ => by simp [gR, sNew, hb]) rfl (fun _ => rfl) (fun _ => rfl) (fun _ => rfl), by simp [gK, sNew, hb]⟩) rfl (by rw [z1, hh.1]) ⟨_, hc, (u_born (clTy t) hts (cl_in t ht) hKn hkC e1 (cl_ty t ht)).to (fun j hj => ?_)⟩ (by rw [hh.1]; exact o1) (hA _ (Nat.le_refl _))) ⟨Nat.le_trans hS.1 (by rw [z1, hh.1]; omega), fun x h1 h2 => (o1 x (by have := hS.1; rw [hh.1] at this; omega)).trans (hS.2.1 x h1 h2), hS.2.2⟩
  show _ = vp_V (encO (sNew S t) t (gZ S)) j
  rw [vp_V, List.getD_eq_getElem?_getD, encO_get hj, Option.getD_some, fv_new]
  exact dfl_fv t ht j hj
theorem arr_at {G : GG} {k : Nat} {ty : FieldType} {U : State} {cA : ClassId} (hK : va_K G.1 classes (tysG G) U) (ht : (tysG G)[k]? = some (G.2 k, ty)) (hty : ∀ C, ty ≠ .object C) (h : U.vm.findClass ("[" ++ ty.toString) = some cA) : cA = G.2 k := by
  have h2 := (hK.2 k _ ht).2
  cases ty with
  | object C => exact absurd rfl (hty C)
  | _ => exact Option.some.inj (h.symm.trans h2)
theorem r_newa (C : Cx p s m args meth c cc nL ow G rt) (hh : hd G A S H) (hS : va_S A H0 H locs) (hA : ∀ q, gZ S ≤ q → A q) {at0 : ArrayType} {n k : Nat} (hk : (at0 = .int ∧ k = 0) ∨ (at0 = .boolean ∧ k = 1) ∨ (at0 = .long ∧ k = 2)) (hn : n < 65536) (hcells : cells + 1 ≤ R.cells) (hslots : slots + n ≤ R.slots) (hdg : decode cc pc = .ok (.newarray at0, 2))
    (kk : ∀ (H1 : Heap), hd G A (sArr S (20 + k) n) H1 → va_S A H0 H1 locs → W p l e R s m args below meth c H1 locs (cells + 1) (slots + n) Q (F0 m (pc + 2) ls (.ref (gZ S) :: rest))) : W p l e R s m args below meth c H locs cells slots Q (F0 m pc ls (.int (nI n) :: rest)) := by
  obtain ⟨hx, hb, hml, hown, hts, hK, hr, hlk⟩ := C
  have hac : (Cond.arrayClass (newarray.typeOf at0)).before args s = true := by
    rcases hk with ⟨rfl, -⟩ | ⟨rfl, -⟩ | ⟨rfl, -⟩
    · exact hts _ (ACok _ (List.mem_of_getElem? (i := 0) rfl))
    · exact hts _ (ACok _ (List.mem_of_getElem? (i := 1) rfl))
    · exact hts _ (ACok _ (List.mem_of_getElem? (i := 2) rfl))
  refine va_newaK hx hb hac rfl hdg rfl (nI_pos (by omega)) (nI_clamp (by omega)) (by rcases hk with ⟨rfl, -⟩ | ⟨rfl, -⟩ | ⟨rfl, -⟩ <;> simp [newarray.typeOf, componentBytes] <;> omega) hcells hslots hh.1 fun H1 cA e1 z1 o1 hAr hNm => ?_
  have hcA : cA = G.2 k := by
    rcases hk with ⟨rfl, rfl⟩ | ⟨rfl, rfl⟩ | ⟨rfl, rfl⟩
    · exact arr_at hK.1 rfl (fun C h => by cases h) hNm
    · exact arr_at hK.1 rfl (fun C h => by cases h) hNm
    · exact arr_at hK.1 rfl (fun C h => by cases h) hNm
  subst hcA
  refine kk H1 (hd_push hh rfl (by simp [gK, sArr]) (fun b hb => ⟨enc_eq (by simp [gK, sArr, hb]) (fun _ _ => rfl) (fun _ _ => rfl) (by simp [gN, sArr, hb]) (fun _ => by simp [gA, sArr, hb]) (fun _ => by simp [gQ, sArr, hb]) (fun _ => by simp [gJ, sArr, hb]), by simp [gK, sArr, hb]⟩) rfl (by rw [z1, hh.1]) ?_ (by rw [hh.1]; exact o1) (hA _ (Nat.le_refl _))) ⟨Nat.le_trans hS.1 (by rw [z1, hh.1]; omega), fun x h1 h2 => (o1 x (by have := hS.1; rw [hh.1] at this; omega)).trans (hS.2.1 x h1 h2), hS.2.2⟩
  have hK2 : gK (sArr S (20 + k) n) (gZ S) = some (20 + k) := by simp [gK, sArr]
  have hN2 : gN (sArr S (20 + k) n) (gZ S) = n := by simp [gN, sArr]
  have hA2 : gA (sArr S (20 + k) n) (gZ S) = fun _ => 0 := by funext j; simp [gA, sArr]
  have hJ2 : gJ (sArr S (20 + k) n) (gZ S) = fun _ => 0 := by funext j; simp [gJ, sArr]
  rcases hk with ⟨rfl, rfl⟩ | ⟨rfl, rfl⟩ | ⟨rfl, rfl⟩
  · rw [enc_i hK2 (by decide) (by decide), hN2, hA2]; exact e1
  · rw [enc_i hK2 (by decide) (by decide), hN2, hA2]; exact e1
  · rw [enc_j hK2, hN2, hJ2]; exact e1
end ROWS
