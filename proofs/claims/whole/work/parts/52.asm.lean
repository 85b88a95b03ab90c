/-! THE CLASS: a watch is made -/
def cWI (C : Cs) (i p q r : Nat) : Cs := wL (wL (wL C 8 0 i (p + 1)) 8 1 i (q + 1)) 8 2 i (r + 1)
def sp_WatchInit : Sp := fun as w K => ∃ C i a p q r, as = [.ref a, .ref (cA C 5 p), .ref (cA C 5 q), .ref (cA C 5 r)] ∧ RX C w ∧ (i < cN C 8 ∧ cA C 8 i = a ∧ p < cN C 5 ∧ q < cN C 5 ∧ r < cN C 5) ∧ ∀ w', RX (cWI C i p q r) w' → K none w'
theorem c_WatchInit (l : Launch) : Ct l 67 1 0 0 sp_WatchInit := by
  refine ct_jd (by decide) rfl (fun as w Po h => ?_)
  obtain ⟨C, i, a, p, q, r, rfl, hX, ⟨hi, rfl, hp, hq, hr⟩, h⟩ := h
  refine ⟨Nat.le_of_ble_eq_true rfl, jd_run cdo_67 ev0 40 z00 ?_⟩
  refine ⟨rfl, by decide, hX.k 8 i hi, some (cA C 5 p), rfl, ?_⟩
  have hX := hX.wl 8 0 i (p + 1) hi hp (by decide)
  refine ⟨hX.k 8 i hi, some (cA C 5 q), rfl, ?_⟩
  have hX := hX.wl 8 1 i (q + 1) hi hq (by decide)
  refine ⟨hX.k 8 i hi, some (cA C 5 r), rfl, ?_⟩
  exact h _ (hX.wl 8 2 i (r + 1) hi hr (by decide))
def cAs3 (C : Cs) (p q r nw : Nat) : Cs := cLR (cLR (cLR C p 2 (nI nw)) q 2 (nI nw)) r 2 (nI nw)
def cAs (C : Cs) (a p q r nw : Nat) : Cs := wI (wL (cWI (wN (cAs3 C p q r nw) 8 a) nw p q r) 26 nw 0 (nw + 1)) 9 10 0 (nI (nw + 1))
theorem cAs3_Kp (C : Cs) (p q r nw : Nat) : Kp C (cAs3 C p q r nw) := ((cLR_Kp _ _ _ _).tr (cLR_Kp _ _ _ _)).tr (cLR_Kp _ _ _ _)
theorem cWI_fx {C : Cs} (h : FX C) (i p q r : Nat) : FX (cWI C i p q r) := FX_wL (FX_wL (FX_wL h _ _ _ _ (by decide)) _ _ _ _ (by decide)) _ _ _ _ (by decide)
def cAsm (a nw cp cq cr : Nat) (C : Cs) : Cs × Nat := match cp, cq, cr with
  | p + 1, q + 1, r + 1 => if nw < 100 then (cAs C a p q r nw, nw + 1) else (C, nw)
  | _, _, _ => (C, nw)
theorem c_asmT (l : Launch) (Po : Option Value → Hp → Prop) (a0 a1 a2 a3 nw : Nat) : ∀ E w2 z, RX E w2 → cA E 9 0 = a0 → cA E 8 nw = z → nw < cN E 8 → FX E → cI E 9 10 0 = nI nw → nw < 100 → (∀ w', RX (wI (wL E 26 nw 0 (nw + 1)) 9 10 0 (nI (nw + 1))) w' → Po none w') → Jd l 66 2 1 4 none Po 67 [(0, .ref a0), (1, .ref a1), (2, .ref a2), (3, .ref a3)] [.ref z, .int (nI nw), .ref (cA E 26 0)] w2 1 4 := by
  intro E w2 z hX eA ez hi hF e10 hn h1
  refine jd_s cdo_66 ev0 [] 40 ⟨by decide, by decide⟩ ?_
  refine ⟨26, ⟨hX.k 26 0 (by rw [hX.qc 26 (by decide) (by decide)]; decide), by decide, by decide, hX.k' 8 nw ez hi⟩, nw, hX.ix 26 (by decide) (by decide) rfl hn, ?_⟩
  have hX := hX.wq' 26 nw nw rfl ez (by decide) (by decide) hi
  refine ⟨hX.k' 9 0 eA hF.x, _, (hX.gi' 9 10 0 eA (by decide) hF.x rfl).trans e10, hX.k' 9 0 eA hF.x, ?_⟩
  have hX := hX.wi' 9 10 0 eA hF.x (nI nw + 1)
  refine h1 _ ?_
  rw [← nI_1]
  exact hX
theorem c_asmN (l : Launch) (Po : Option Value → Hp → Prop) (D : Cs) (w : Hp) (p q r nw : Nat) (hX : RX D w) (hF : FX D) (h10 : cI D 9 10 0 = nI nw) (hc : cN D 8 = nw) (hn : nw < 100) (hp : p < cN D 5) (hq : q < cN D 5) (hr : r < cN D 5) (h1 : ∀ a w', RX (wI (wL (cWI (wN D 8 a) nw p q r) 26 nw 0 (nw + 1)) 9 10 0 (nI (nw + 1))) w' → Po none w') : Jd l 66 2 1 4 none Po 49 [(0, .ref (cA D 9 0)), (1, .ref (cA D 5 p)), (2, .ref (cA D 5 q)), (3, .ref (cA D 5 r))] [] w 0 0 := by
  have hev : ∀ (k : Nat) (r : Nat × Nat × Nat × Sp), evL [(67, 1, 0, 0, sp_WatchInit)] k = some r → Ct l k r.1 r.2.1 r.2.2.1 r.2.2.2 := evL_ok (by simpa using c_WatchInit l)
  have h1 := h1 (gZ w)
  have hX1 := hX.new 8 (by decide)
  have ez : cA (wN D 8 (gZ w)) 8 nw = gZ w := by rw [← hc]; exact cA_new D 8 _
  have hi : nw < cN (wN D 8 (gZ w)) 8 := by have := cN_new D 8 (gZ w); rw [hc] at this; exact this
  have hF1 : FX (wN D 8 (gZ w)) := FX_wN hF 8 _ (by decide)
  have eA : cA (wN D 8 (gZ w)) 9 0 = cA D 9 0 := cA_wNt (by decide)
  have e26 : cA (wN D 8 (gZ w)) 26 0 = cA D 26 0 := cA_wNt (by decide)
  have e5 : ∀ i, cA (wN D 8 (gZ w)) 5 i = cA D 5 i := fun i => cA_wNt (by decide)
  have n5 : cN (wN D 8 (gZ w)) 5 = cN D 5 := cN_wNt (by decide)
  have e10 : cI (wN D 8 (gZ w)) 9 10 0 = nI nw := (cI_wNt (by decide)).trans h10
  refine jd_s cdo_66 hev [67] 40 ⟨by decide, by decide⟩ ?_
  refine ⟨hX.k 9 0 hF.x, _, hX.g1 9 3 0 (by decide) hF.x rfl hF.l3, hX.k 9 0 hF.x, _, (hX.gi 9 10 0 (by decide) hF.x rfl).trans h10, ⟨by decide, by decide⟩, ?_⟩
  refine ⟨⟨by decide, by decide, by decide⟩, rfl, wN D 8 (gZ w), nw, gZ w, p, q, r, by rw [e5, e5, e5]; rfl, hX1, ⟨hi, ez, by rw [n5]; exact hp, by rw [n5]; exact hq, by rw [n5]; exact hr⟩, fun w2 hX2 => ?_⟩
  have f10 : cI (cWI (wN D 8 (gZ w)) nw p q r) 9 10 0 = nI nw := e10
  have fA : cA (cWI (wN D 8 (gZ w)) nw p q r) 9 0 = cA D 9 0 := eA
  have f26 : cA (cWI (wN D 8 (gZ w)) nw p q r) 26 0 = cA D 26 0 := e26
  have fz : cA (cWI (wN D 8 (gZ w)) nw p q r) 8 nw = gZ w := ez
  have fi : nw < cN (cWI (wN D 8 (gZ w)) nw p q r) 8 := hi
  have fF : FX (cWI (wN D 8 (gZ w)) nw p q r) := cWI_fx hF1 _ _ _ _
  have := c_asmT l Po (cA D 9 0) (cA D 5 p) (cA D 5 q) (cA D 5 r) nw _ w2 _ hX2 fA fz fi fF f10 hn h1
  rw [f26] at this
  exact this
def sp_asm : Sp := fun as w K => ∃ C cp cq cr nw, as = [.ref (cA C 9 0), va_rf (adO C 5 cp), va_rf (adO C 5 cq), va_rf (adO C 5 cr)] ∧ RX C w ∧ FX C ∧ (cI C 9 10 0 = nI nw ∧ nw ≤ 100 ∧ cN C 8 = nw) ∧ (cp ≤ cN C 5 ∧ cq ≤ cN C 5 ∧ cr ≤ cN C 5) ∧ ∀ a w', RX (cAsm a nw cp cq cr C).1 w' → K none w'
theorem c_asm (l : Launch) : Ct l 66 2 1 4 sp_asm := by
  have hev : ∀ (k : Nat) (r : Nat × Nat × Nat × Sp), evL [(29, 1, 0, 0, sp_leaveRow)] k = some r → Ct l k r.1 r.2.1 r.2.2.1 r.2.2.2 := evL_ok (by simpa using c_leaveRow l)
  refine ct_jd (by decide) rfl (fun as w Po h => ?_)
  obtain ⟨C, cp, cq, cr, nw, rfl, hX, hF, ⟨h10, hnw, hc⟩, ⟨hp, hq, hr⟩, h⟩ := h
  cases cp with
  | zero =>
    refine ⟨by cases cq <;> cases cr <;> exact Nat.le_of_ble_eq_true rfl, ?_⟩
    cases cq <;> cases cr <;> exact jd_s cdo_66 hev [] 20 ⟨by decide, by decide⟩ (h 0 w hX)
  | succ p =>
    cases cq with
    | zero =>
      refine ⟨by cases cr <;> exact Nat.le_of_ble_eq_true rfl, ?_⟩
      cases cr <;> exact jd_s cdo_66 hev [] 20 ⟨by decide, by decide⟩ (h 0 w hX)
    | succ q =>
      cases cr with
      | zero => exact ⟨Nat.le_of_ble_eq_true rfl, jd_s cdo_66 hev [] 20 ⟨by decide, by decide⟩ (h 0 w hX)⟩
      | succ r =>
        have hp : p < cN C 5 := hp
        have hq : q < cN C 5 := hq
        have hr : r < cN C 5 := hr
        refine ⟨Nat.le_of_ble_eq_true rfl, jd_s cdo_66 hev [49] 40 ⟨by decide, by decide⟩ ?_⟩
        refine ⟨hX.k 9 0 hF.x, _, (hX.gi 9 10 0 (by decide) hF.x rfl).trans h10, fun c => ?_, fun c => ?_⟩
        · have hn : nw < 100 := (nI_ltI (a := nw) (b := 100) (by omega) (by omega)).mp c
          have h : ∀ a w', RX (cAs C a p q r nw) w' → Po none w' := fun a w' hX' => h a w' (by
            show RX (if nw < 100 then (cAs C a p q r nw, nw + 1) else (C, nw)).1 w'
            rw [if_pos hn]
            exact hX')
          refine ⟨hX.k 9 0 hF.x, _, (hX.gi 9 10 0 (by decide) hF.x rfl).trans h10, ?_⟩
          refine ⟨⟨by decide, by decide, by decide⟩, rfl, hX.k 5 p hp, C, p, 2, nI nw, rfl, hX, hp, fun w2 hX2 => ?_⟩
          have hK1 := cLR_Kp C p 2 (nI nw)
          have g1 : cI (cLR C p 2 (nI nw)) 9 10 0 = nI nw := (hK1.2.1 9 10 0 (by decide) (by decide) (by decide)).trans h10
          refine ⟨hX2.k 9 0 (hK1.fx hF).x, _, (hX2.gi 9 10 0 (by decide) (hK1.fx hF).x rfl).trans g1, ?_⟩
          refine ⟨⟨by decide, by decide, by decide⟩, rfl, hX2.k 5 q hq, cLR C p 2 (nI nw), q, 2, nI nw, rfl, hX2, hq, fun w3 hX3 => ?_⟩
          have hK2 := hK1.tr (cLR_Kp (cLR C p 2 (nI nw)) q 2 (nI nw))
          have g2 : cI (cLR (cLR C p 2 (nI nw)) q 2 (nI nw)) 9 10 0 = nI nw := (hK2.2.1 9 10 0 (by decide) (by decide) (by decide)).trans h10
          refine ⟨hX3.k 9 0 (hK2.fx hF).x, _, (hX3.gi 9 10 0 (by decide) (hK2.fx hF).x rfl).trans g2, ?_⟩
          refine ⟨⟨by decide, by decide, by decide⟩, rfl, hX3.k 5 r hr, cLR (cLR C p 2 (nI nw)) q 2 (nI nw), r, 2, nI nw, rfl, hX3, hr, fun w4 hX4 => ?_⟩
          have hK3 := cAs3_Kp C p q r nw
          have g3 : cI (cAs3 C p q r nw) 9 10 0 = nI nw := (hK3.2.1 9 10 0 (by decide) (by decide) (by decide)).trans h10
          exact c_asmN l Po (cAs3 C p q r nw) w4 p q r nw hX4 (hK3.fx hF) g3 hc hn hp hq hr h
        · have hn : ¬ nw < 100 := fun z => c ((nI_ltI (a := nw) (b := 100) (by omega) (by omega)).mpr z)
          refine h 0 w ?_
          show RX (if nw < 100 then (cAs C 0 p q r nw, nw + 1) else (C, nw)).1 w
          rw [if_neg hn]
          exact hX
