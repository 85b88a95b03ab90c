/-! THE CLASS: send, wage, raw -/
theorem cSI_fx {D : Cs} (hF : FX D) (i : Nat) (d p : Int32) (b : Nat) : FX (cSI D i d p b) := FX_wL (C := wI (wI D 6 0 i d) 6 1 i p) hF _ _ _ _ (by decide)
def cSend (C : Cs) (a j h ns : Nat) : Cs := wI (wI (wL (wL (cSI (wN (wI C 9 11 0 (nI (ns + 1))) 6 a) ns (cI C 9 13 0) (cI C 2 4 j) (cL C 1 10 h)) 1 10 h (ns + 1)) 2 6 j (h + 1)) 2 5 j 1) 2 7 j (cI C 1 4 h)
theorem c_csendT (l : Launch) (Po : Option Value → Hp → Prop) (a0 al ah : Nat) (x y : Int32) (j h ns : Nat) (v : Int32) : ∀ E w2 z, RX E w2 → cA E 1 h = ah → cA E 2 j = al → cA E 6 ns = z → ns < cN E 6 → h < cN E 1 → j < cN E 2 → cI E 1 4 h = v → (∀ w', RX (wI (wI (wL (wL E 1 10 h (ns + 1)) 2 6 j (h + 1)) 2 5 j 1) 2 7 j v) w' → Po (some (.int 1)) w') → Jd l 18 3 1 3 (some .boolean) Po 66 [(4, .ref ah), (3, .ref al), (0, .ref a0), (1, .int x), (2, .int y)] [.ref z, .ref ah] w2 1 3 := by
  intro E w2 z hX ea el ez hs hh hj hv h1
  refine jd_s cdo_18 ev0 [] 40 ⟨by decide, by decide⟩ ?_
  refine ⟨hX.k' 1 h ea hh, some z, rfl, ?_⟩
  have hX := hX.wl' 1 10 h (ns + 1) (o := some z) ea (by rw [← ez]; rfl) hh hs (by decide)
  refine ⟨hX.k' 2 j el hj, some ah, rfl, ?_⟩
  have hX := hX.wl' 2 6 j (h + 1) (o := some ah) el (by rw [← ea]; rfl) hj hh (by decide)
  refine ⟨hX.k' 2 j el hj, ?_⟩
  have hX := hX.wi' 2 5 j el hj 1
  refine ⟨hX.k' 1 h ea hh, _, (hX.gi' 1 4 h ea (by decide) hh rfl).trans hv, hX.k' 2 j el hj, ?_⟩
  have hX := hX.wi' 2 7 j el hj v
  exact ⟨Or.inr rfl, h1 _ hX⟩
def sp_csend : Sp := fun as w K => ∃ C x y nl nh ns, as = [.ref (cA C 9 0), .int x, .int y] ∧ RX C w ∧ FX C ∧ NB C 24 2 8 60 nl ∧ NB C 25 1 9 9 nh ∧ (cI C 9 11 0 = nI ns ∧ ns ≤ 500 ∧ cN C 6 = ns) ∧ (∀ j h, j < nl → h < nh → x = nI j → y = nI h → cI C 2 5 j = 0 → ns < 500 → ∀ a w', RX (cSend C a j h ns) w' → K (some (.int 1)) w') ∧ ((¬ ∃ j h, j < nl ∧ h < nh ∧ x = nI j ∧ y = nI h ∧ cI C 2 5 j = 0 ∧ ns < 500) → K (some (.int 0)) w)
theorem c_csendN (l : Launch) (Po : Option Value → Hp → Prop) (D : Cs) (x y : Int32) (j h ns : Nat) (w : Hp) (hX : RX D w) (hF1 : FX D) (hc : cN D 6 = ns) (hj : j < cN D 2) (hh : h < cN D 1) (h1 : ∀ a w', RX (wI (wI (wL (wL (cSI (wN D 6 a) ns (cI D 9 13 0) (cI D 2 4 j) (cL D 1 10 h)) 1 10 h (ns + 1)) 2 6 j (h + 1)) 2 5 j 1) 2 7 j (cI D 1 4 h)) w' → Po (some (.int 1)) w') : Jd l 18 3 1 3 (some .boolean) Po 44 [(4, .ref (cA D 1 h)), (3, .ref (cA D 2 j)), (0, .ref (cA D 9 0)), (1, .int x), (2, .int y)] [] w 0 0 := by
  have hev : ∀ (k : Nat) (r : Nat × Nat × Nat × Sp), evL [(20, 1, 0, 0, sp_SendInit)] k = some r → Ct l k r.1 r.2.1 r.2.2.1 r.2.2.2 := evL_ok (by simpa using c_SendInit l)
  have hlb : cL D 1 10 h ≤ cN D 6 := hX.lb 1 10 h (by decide) hh rfl
  have h1 := h1 (gZ w)
  have hX1 := hX.new 6 (by decide)
  have ez : cA (wN D 6 (gZ w)) 6 ns = gZ w := by rw [← hc]; exact cA_new D 6 _
  have hns : ns < cN (wN D 6 (gZ w)) 6 := by have := cN_new D 6 (gZ w); rw [hc] at this; exact this
  have hF2 : FX (wN D 6 (gZ w)) := FX_wN hF1 6 _ (by decide)
  have b9 : cA (wN D 6 (gZ w)) 9 0 = cA D 9 0 := cA_wNt (by decide)
  have b1 : cA (wN D 6 (gZ w)) 1 h = cA D 1 h := cA_wNt (by decide)
  have b2 : cA (wN D 6 (gZ w)) 2 j = cA D 2 j := cA_wNt (by decide)
  have f13 : cI (wN D 6 (gZ w)) 9 13 0 = cI D 9 13 0 := cI_wNt (by decide)
  have f24 : cI (wN D 6 (gZ w)) 2 4 j = cI D 2 4 j := cI_wNt (by decide)
  have f14 : cI (wN D 6 (gZ w)) 1 4 h = cI D 1 4 h := cI_wNt (by decide)
  have fL : cL (wN D 6 (gZ w)) 1 10 h = cL D 1 10 h := cL_wNt (by decide)
  have hj2 : j < cN (wN D 6 (gZ w)) 2 := by rw [cN_wNt (by decide)]; exact hj
  have hh2 : h < cN (wN D 6 (gZ w)) 1 := by rw [cN_wNt (by decide)]; exact hh
  have hlb2 : cL D 1 10 h ≤ cN (wN D 6 (gZ w)) 6 := Nat.le_trans hlb wN_le
  refine jd_s cdo_18 hev [66] 40 ⟨by decide, by decide⟩ ?_
  refine ⟨⟨by decide, by decide⟩, ?_⟩
  generalize wN D 6 (gZ w) = E at *
  refine ⟨hX1.k' 9 0 b9 hF2.x, _, (hX1.gi' 9 13 0 b9 (by decide) hF2.x rfl).trans f13, ?_⟩
  refine ⟨hX1.k' 2 j b2 hj2, _, (hX1.gi' 2 4 j b2 (by decide) hj2 rfl).trans f24, ?_⟩
  refine ⟨hX1.k' 1 h b1 hh2, _, (hX1.gr' 1 10 h b1 (by decide) hh2 rfl).trans (by rw [fL]), ?_⟩
  refine ⟨⟨by decide, by decide, by decide⟩, rfl, E, ns, gZ w, cI D 9 13 0, cI D 2 4 j, cL D 1 10 h, rfl, hX1, ⟨hns, ez, hlb2⟩, fun w2 hX => ?_⟩
  exact c_csendT l Po _ _ _ x y j h ns _ (cSI E ns (cI D 9 13 0) (cI D 2 4 j) (cL D 1 10 h)) w2 (gZ w) hX b1 b2 ez hns hh2 hj2 (by simp [cSI, cI_wI, cI_wL]; exact f14) h1
theorem c_csendM (l : Launch) (Po : Option Value → Hp → Prop) (C : Cs) (x y : Int32) (j h ns : Nat) (w : Hp) (hX : RX C w) (hF : FX C) (hs : cI C 9 11 0 = nI ns) (hc : cN C 6 = ns) (hj : j < cN C 2) (hh : h < cN C 1) (h1 : ∀ a w', RX (cSend C a j h ns) w' → Po (some (.int 1)) w') : Jd l 18 3 1 3 (some .boolean) Po 34 [(4, .ref (cA C 1 h)), (3, .ref (cA C 2 j)), (0, .ref (cA C 9 0)), (1, .int x), (2, .int y)] [] w 0 0 := by
  have e13 : cI (wI C 9 11 0 (nI (ns + 1))) 9 13 0 = cI C 9 13 0 := by simp [cI_wI]
  have e24 : cI (wI C 9 11 0 (nI (ns + 1))) 2 4 j = cI C 2 4 j := by simp [cI_wI]
  have e14 : cI (wI C 9 11 0 (nI (ns + 1))) 1 4 h = cI C 1 4 h := by simp [cI_wI]
  have eL : cL (wI C 9 11 0 (nI (ns + 1))) 1 10 h = cL C 1 10 h := rfl
  refine jd_s cdo_18 ev0 [44] 40 ⟨by decide, by decide⟩ ?_
  refine ⟨hX.k 9 0 hF.x, _, (hX.gi 9 11 0 (by decide) hF.x rfl).trans hs, hX.k 9 0 hF.x, ?_⟩
  have hX := hX.wi 9 11 0 hF.x (nI ns + 1)
  rw [nI_1] at hX ⊢
  simp only [cSend, ← e13, ← e24, ← e14, ← eL] at h1
  exact c_csendN l Po (wI C 9 11 0 (nI (ns + 1))) x y j h ns _ hX (FX_wI hF _ _ _ _) hc hj hh h1
theorem c_csend (l : Launch) : Ct l 18 3 1 3 sp_csend := by
  have hev : ∀ (k : Nat) (r : Nat × Nat × Nat × Sp), evL [(13, 2, 0, 0, sp_lotAtHouse), (19, 1, 0, 0, sp_nb 25 1 9 9)] k = some r → Ct l k r.1 r.2.1 r.2.2.1 r.2.2.2 := evL_ok (by simpa using ⟨c_lotAtHouse l, c_homeN l⟩)
  refine ct_jd (by decide) rfl (fun as w Po h => ?_)
  obtain ⟨C, x, y, nl, nh, ns, rfl, hX, hF, hNl, hNh, ⟨hs, hs5, hc⟩, h1, h2⟩ := h
  have hn60 := hNl.2.1
  have hn9 := hNh.2.1
  refine ⟨Nat.le_of_ble_eq_true rfl, jd_s cdo_18 hev [34] 60 ⟨by decide, by decide⟩ ?_⟩
  refine ⟨⟨by decide, by decide, by decide⟩, rfl, hX.k 9 0 hF.x, C, x, nl, rfl, hX, hF, hNl, fun j hj ex j0 => ?_, fun q => ?_⟩
  · have hj2 : j < cN C 2 := by rw [hNl.2.2.1]; exact hj
    refine ⟨⟨by decide, by decide, by decide⟩, rfl, hX.k 9 0 hF.x, C, y, nh, rfl, hX, hF, hNh, fun h hh ey => ?_, fun q => ⟨Or.inl rfl, h2 (fun ⟨_, h, _, hh, _, e, _⟩ => q ⟨h, hh, e⟩)⟩⟩
    have hh2 : h < cN C 1 := by rw [hNh.2.2.1]; exact hh
    refine ⟨hX.k 9 0 hF.x, _, (hX.gi 9 11 0 (by decide) hF.x rfl).trans hs, fun c => ?_, fun c => ⟨Or.inl rfl, h2 (fun ⟨_, _, _, _, _, _, _, q⟩ => c ((nI_ltI (a := ns) (b := 500) (by omega) (by omega)).mpr q))⟩⟩
    exact c_csendM l Po C x y j h ns w hX hF hs hc hj2 hh2 (h1 j h hj hh ex ey j0 ((nI_ltI (a := ns) (b := 500) (by omega) (by omega)).mp c))
  · have no : Po (some (.int 0)) w := h2 (fun ⟨a, _, ha, _, e, _, a0, _⟩ => q ⟨a, ha, e, a0⟩)
    exact ⟨⟨by decide, by decide, by decide⟩, rfl, hX.k 9 0 hF.x, C, y, nh, rfl, hX, hF, hNh, fun b hb ey => ⟨Or.inl rfl, no⟩, fun q => ⟨Or.inl rfl, no⟩⟩
def cWage (C : Cs) (a h ng : Nat) (f v : Int32) : Cs := wL (cGI (wN (wI C 9 12 0 (nI (ng + 1))) 7 a) ng (cI C 9 13 0) f v (cL C 1 11 h)) 1 11 h (ng + 1)
theorem c_cwageN (l : Launch) (Po : Option Value → Hp → Prop) (D : Cs) (y f v : Int32) (h ng : Nat) (w : Hp) (hX : RX D w) (hF1 : FX D) (e12 : cI D 9 12 0 = nI (ng + 1)) (hc : cN D 7 = ng) (hh : h < cN D 1) (h1 : ∀ a w', RX (wL (cGI (wN D 7 a) ng (cI D 9 13 0) f v (cL D 1 11 h)) 1 11 h (ng + 1)) w' → Po (some (.int (nI (ng + 1)))) w') : Jd l 39 3 1 4 (some .int) Po 57 [(4, .ref (cA D 1 h)), (0, .ref (cA D 9 0)), (1, .int y), (2, .int f), (3, .int v)] [] w 0 0 := by
  have hev : ∀ (k : Nat) (r : Nat × Nat × Nat × Sp), evL [(40, 1, 0, 0, sp_WageInit)] k = some r → Ct l k r.1 r.2.1 r.2.2.1 r.2.2.2 := evL_ok (by simpa using c_WageInit l)
  have hlb : cL D 1 11 h ≤ cN D 7 := hX.lb 1 11 h (by decide) hh rfl
  have h1 := h1 (gZ w)
  have hX1 := hX.new 7 (by decide)
  have ez : cA (wN D 7 (gZ w)) 7 ng = gZ w := by rw [← hc]; exact cA_new D 7 _
  have hns : ng < cN (wN D 7 (gZ w)) 7 := by have := cN_new D 7 (gZ w); rw [hc] at this; exact this
  have hF2 : FX (wN D 7 (gZ w)) := FX_wN hF1 7 _ (by decide)
  have b9 : cA (wN D 7 (gZ w)) 9 0 = cA D 9 0 := cA_wNt (by decide)
  have b1 : cA (wN D 7 (gZ w)) 1 h = cA D 1 h := cA_wNt (by decide)
  have f13 : cI (wN D 7 (gZ w)) 9 13 0 = cI D 9 13 0 := cI_wNt (by decide)
  have f12 : cI (wN D 7 (gZ w)) 9 12 0 = nI (ng + 1) := (cI_wNt (by decide)).trans e12
  have fL : cL (wN D 7 (gZ w)) 1 11 h = cL D 1 11 h := cL_wNt (by decide)
  have hh2 : h < cN (wN D 7 (gZ w)) 1 := by rw [cN_wNt (by decide)]; exact hh
  have hlb2 : cL D 1 11 h ≤ cN (wN D 7 (gZ w)) 7 := Nat.le_trans hlb wN_le
  refine jd_s cdo_39 hev [] 40 ⟨by decide, by decide⟩ ?_
  refine ⟨⟨by decide, by decide⟩, ?_⟩
  generalize wN D 7 (gZ w) = E at *
  refine ⟨hX1.k' 9 0 b9 hF2.x, _, (hX1.gi' 9 13 0 b9 (by decide) hF2.x rfl).trans f13, ?_⟩
  refine ⟨hX1.k' 1 h b1 hh2, _, (hX1.gr' 1 11 h b1 (by decide) hh2 rfl).trans (by rw [fL]), ?_⟩
  refine ⟨⟨by decide, by decide, by decide⟩, rfl, E, ng, gZ w, cI D 9 13 0, f, v, cL D 1 11 h, rfl, hX1, ⟨hns, ez, hlb2⟩, fun w2 hX => ?_⟩
  have f12 : cI (cGI E ng (cI D 9 13 0) f v (cL D 1 11 h)) 9 12 0 = nI (ng + 1) := by simp [cGI, cI_wI, cI_wL]; exact f12
  have hF3 : FX (cGI E ng (cI D 9 13 0) f v (cL D 1 11 h)) := FX_wL (C := wI (wI (wI E 7 0 ng (cI D 9 13 0)) 7 1 ng f) 7 2 ng v) hF2 _ _ _ _ (by decide)
  have ez : cA (cGI E ng (cI D 9 13 0) f v (cL D 1 11 h)) 7 ng = gZ w := ez
  have b1 : cA (cGI E ng (cI D 9 13 0) f v (cL D 1 11 h)) 1 h = cA D 1 h := b1
  have b9 : cA (cGI E ng (cI D 9 13 0) f v (cL D 1 11 h)) 9 0 = cA D 9 0 := b9
  have hns : ng < cN (cGI E ng (cI D 9 13 0) f v (cL D 1 11 h)) 7 := hns
  have hh2 : h < cN (cGI E ng (cI D 9 13 0) f v (cL D 1 11 h)) 1 := hh2
  generalize cGI E ng (cI D 9 13 0) f v (cL D 1 11 h) = G at *
  refine ⟨hX.k' 1 h b1 hh2, some (gZ w), rfl, ?_⟩
  have hX := hX.wl' 1 11 h (ng + 1) (o := some (gZ w)) b1 (by rw [← ez]; rfl) hh2 hns (by decide)
  refine ⟨hX.k' 9 0 b9 hF3.x, _, (hX.gi' 9 12 0 b9 (by decide) hF3.x rfl).trans f12, ?_⟩
  exact h1 _ hX
theorem c_cwageM (l : Launch) (Po : Option Value → Hp → Prop) (C : Cs) (y f v : Int32) (h ng : Nat) (w : Hp) (hX : RX C w) (hF : FX C) (hs : cI C 9 12 0 = nI ng) (hc : cN C 7 = ng) (hh : h < cN C 1) (h1 : ∀ a w', RX (cWage C a h ng f v) w' → Po (some (.int (nI (ng + 1)))) w') : Jd l 39 3 1 4 (some .int) Po 47 [(4, .ref (cA C 1 h)), (0, .ref (cA C 9 0)), (1, .int y), (2, .int f), (3, .int v)] [] w 0 0 := by
  have e13 : cI (wI C 9 12 0 (nI (ng + 1))) 9 13 0 = cI C 9 13 0 := by simp [cI_wI]
  have e12 : cI (wI C 9 12 0 (nI (ng + 1))) 9 12 0 = nI (ng + 1) := by simp [cI_wI]
  have eL : cL (wI C 9 12 0 (nI (ng + 1))) 1 11 h = cL C 1 11 h := rfl
  refine jd_s cdo_39 ev0 [57] 40 ⟨by decide, by decide⟩ ?_
  refine ⟨hX.k 9 0 hF.x, _, (hX.gi 9 12 0 (by decide) hF.x rfl).trans hs, hX.k 9 0 hF.x, ?_⟩
  have hX := hX.wi 9 12 0 hF.x (nI ng + 1)
  rw [nI_1] at hX ⊢
  simp only [cWage, ← e13, ← eL] at h1
  exact c_cwageN l Po (wI C 9 12 0 (nI (ng + 1))) y f v h ng _ hX (FX_wI hF _ _ _ _) e12 hc hh h1
def sp_cwage : Sp := fun as w K => ∃ C y f v nh ng, as = [.ref (cA C 9 0), .int y, .int f, .int v] ∧ RX C w ∧ FX C ∧ NB C 25 1 9 9 nh ∧ (cI C 9 12 0 = nI ng ∧ ng ≤ 100 ∧ cN C 7 = ng) ∧ (okWage y f v nh ng → ∀ h, h < nh → y = nI h → ∀ a w', RX (cWage C a h ng f v) w' → K (some (.int (nI (ng + 1)))) w') ∧ (¬ okWage y f v nh ng → K (some (.int (-1))) w)
theorem c_cwage (l : Launch) : Ct l 39 3 1 4 sp_cwage := by
  have hev : ∀ (k : Nat) (r : Nat × Nat × Nat × Sp), evL [(19, 1, 0, 0, sp_nb 25 1 9 9)] k = some r → Ct l k r.1 r.2.1 r.2.2.1 r.2.2.2 := evL_ok (by simpa using c_homeN l)
  refine ct_jd (by decide) rfl (fun as w Po h => ?_)
  obtain ⟨C, y, f, v, nh, ng, rfl, hX, hF, hNh, ⟨hs, hs5, hc⟩, h1, h2⟩ := h
  have hn9 := hNh.2.1
  refine ⟨Nat.le_of_ble_eq_true rfl, jd_s cdo_39 hev [47] 60 ⟨by decide, by decide⟩ ?_⟩
  refine ⟨⟨by decide, by decide, by decide⟩, rfl, hX.k 9 0 hF.x, C, y, nh, rfl, hX, hF, hNh, fun h hh ey => ?_, fun q => h2 (fun z => q z.1)⟩
  have hh2 : h < cN C 1 := by rw [hNh.2.2.1]; exact hh
  refine ⟨fun c => h2 (fun q => lt_nle c q.2.1.1), fun c1 => ⟨fun c => h2 (fun q => lt_nle c q.2.1.2), fun c2 => ⟨fun c => h2 (fun q => lt_nle c q.2.2.1.1), fun c3 => ⟨fun c4 => ?_, fun c => h2 (fun q => c q.2.2.1.2)⟩⟩⟩⟩
  refine ⟨hX.k 9 0 hF.x, _, (hX.gi 9 12 0 (by decide) hF.x rfl).trans hs, fun c => ?_, fun c => h2 (fun q => c ((nI_ltI (a := ng) (b := 100) (by omega) (by omega)).mpr q.2.2.2))⟩
  exact c_cwageM l Po C y f v h ng w hX hF hs hc hh2 (h1 ⟨⟨h, hh, ey⟩, ⟨nlt_le c1, nlt_le c2⟩, ⟨nlt_le c3, c4⟩, (nI_ltI (a := ng) (b := 100) (by omega) (by omega)).mp c⟩ h hh ey)
