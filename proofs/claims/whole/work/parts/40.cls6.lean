/-! THE CLASS: a new lot, split, join, send, wage -/
theorem cLI_fx {D : Cs} (hF : FX D) (i : Nat) (n k : Int32) : FX (cLI D i n k) := hF
theorem cLI_A (D : Cs) (i : Nat) (n k : Int32) : cA (cLI D i n k) = cA D := rfl
theorem cLI_N (D : Cs) (i : Nat) (n k : Int32) : cN (cLI D i n k) = cN D := rfl
theorem cLI_9 (D : Cs) (i : Nat) (n k : Int32) (j : Nat) : cI (cLI D i n k) 9 j 0 = cI D 9 j 0 := by simp [cLI, cI_wI]
def cNL (C : Cs) (a n : Nat) (k : Int32) : Cs := wI (wL (cLI (wN C 2 a) n (nI n) k) 24 n 0 (n + 1)) 9 8 0 (nI (n + 1))
def sp_cnewLot : Sp := fun as w K => ∃ C k n, as = [.ref (cA C 9 0), .int k] ∧ RX C w ∧ FX C ∧ NB C 24 2 8 60 n ∧ (n < 60 → ∀ a w', RX (cNL C a n k) w' → cA (cNL C a n k) 2 n = a → K (some (.ref a)) w') ∧ (¬ n < 60 → K (some .null) w)
theorem c_cnewLotT (l : Launch) (Po : Option Value → Hp → Prop) (C : Cs) (k : Int32) (n : Nat) : ∀ E w2 z, RX E w2 → cA E 9 0 = cA C 9 0 → cA E 2 n = z → n < cN E 2 → FX E → cI E 9 8 0 = nI n → n < 60 → (∀ w', RX (wI (wL E 24 n 0 (n + 1)) 9 8 0 (nI (n + 1))) w' → Po (some (.ref z)) w') → Jd l 8 2 1 11 (some (.object "WatchValley$Lot")) Po 23 [(0, .ref (cA C 9 0)), (1, .int k)] [.ref z] w2 1 11 := by
  intro E w2 z hX eA ha hi hF1 e98 hn9' h1
  refine jd_s cdo_8 ev0 [] 40 ⟨by decide, by decide⟩ ?_
  refine ⟨hX.k' 9 0 eA hF1.x, some (cA E 24 0), (hX.gr' 9 1 0 eA (by decide) hF1.x rfl).trans (by rw [hF1.l1]; rfl), hX.k' 9 0 eA hF1.x, _, (hX.gi' 9 8 0 eA (by decide) hF1.x rfl).trans e98, ?_⟩
  refine ⟨24, ⟨hX.k 24 0 (by rw [hX.qc 24 (by decide) (by decide)]; decide), by decide, by decide, hX.k' 2 n ha hi⟩, n, hX.ix 24 (by decide) (by decide) rfl hn9', ?_⟩
  have hX := hX.wq' 24 n n rfl ha (by decide) (by decide) hi
  refine ⟨hX.k' 9 0 eA hF1.x, _, (hX.gi' 9 8 0 eA (by decide) hF1.x rfl).trans e98, hX.k' 9 0 eA hF1.x, ?_⟩
  have hX := hX.wi' 9 8 0 eA hF1.x (nI n + 1)
  refine ⟨some z, rfl, h1 _ ?_⟩
  rw [← nI_1]
  exact hX
theorem c_cnewLot (l : Launch) : Ct l 8 2 1 11 sp_cnewLot := by
  have hev : ∀ (k : Nat) (r : Nat × Nat × Nat × Sp), evL [(9, 1, 0, 0, sp_LotInit)] k = some r → Ct l k r.1 r.2.1 r.2.2.1 r.2.2.2 := evL_ok (by simpa using c_LotInit l)
  refine ct_jd (by decide) rfl (fun as w Po h => ?_)
  obtain ⟨C, k, n, rfl, hX, hF, ⟨hn, hn60, hc, hr⟩, h1, h2⟩ := h
  refine ⟨Nat.le_of_ble_eq_true rfl, jd_s cdo_8 hev [23] 40 ⟨by decide, by decide⟩ ?_⟩
  refine ⟨hX.k 9 0 hF.x, _, (hX.gi 9 8 0 (by decide) hF.x rfl).trans hn, fun c => ?_, fun c => ⟨none, rfl, h2 (fun q => c ((nI_ltI (a := n) (b := 60) (by omega) (by omega)).mpr q))⟩⟩
  have hn' : n < 60 := (nI_ltI (a := n) (b := 60) (by omega) (by omega)).mp c
  have h1 := h1 hn' (gZ w)
  have hX1 := hX.new 2 (by decide)
  have ha : cA (wN C 2 (gZ w)) 2 n = gZ w := by rw [← hc]; exact cA_new C 2 _
  have hi : n < cN (wN C 2 (gZ w)) 2 := by have := cN_new C 2 (gZ w); rw [hc] at this; exact this
  have hF1 : FX (wN C 2 (gZ w)) := FX_wN hF 2 _ (by decide)
  have eA : cA (wN C 2 (gZ w)) 9 0 = cA C 9 0 := cA_wNt (by decide)
  have e98 : cI (wN C 2 (gZ w)) 9 8 0 = nI n := (cI_wNt (by decide)).trans hn
  refine ⟨⟨by decide, by decide⟩, ?_⟩
  refine ⟨hX1.k' 9 0 eA hF1.x, _, (hX1.gi' 9 8 0 eA (by decide) hF1.x rfl).trans e98, ?_⟩
  refine ⟨⟨by decide, by decide, by decide⟩, rfl, wN C 2 (gZ w), n, gZ w, nI n, k, rfl, hX1, ⟨hi, ha⟩, fun w2 hX => ?_⟩
  exact c_cnewLotT l Po C k n (cLI (wN C 2 (gZ w)) n (nI n) k) w2 (gZ w) hX (by rw [cLI_A]; exact eA) (by rw [cLI_A]; exact ha) (by rw [cLI_N]; exact hi) (cLI_fx hF1 _ _ _) (by rw [cLI_9]; exact e98) hn' (fun w' hX' => h1 w' hX' ha)
theorem cNL_A (C : Cs) (a n : Nat) (k : Int32) (t i : Nat) (ht : t ≠ 2) : cA (cNL C a n k) t i = cA C t i := cA_wNt ht
theorem cNL_Ao (C : Cs) (a n : Nat) (k : Int32) (i : Nat) (hi : i < cN C 2) : cA (cNL C a n k) 2 i = cA C 2 i := if_neg (fun q => by omega)
theorem cNL_N (C : Cs) (a n : Nat) (k : Int32) (t : Nat) (ht : t ≠ 2) : cN (cNL C a n k) t = cN C t := cN_wNt (a := a) ht
theorem cNL_N2 (C : Cs) (a n : Nat) (k : Int32) : cN (cNL C a n k) 2 = cN C 2 + 1 := (cN_wN C 2 a 2).trans (if_pos rfl)
theorem cNL_F (C : Cs) (a n : Nat) (k : Int32) (hF : FX C) : FX (cNL C a n k) := FX_wI (FX_wL (cLI_fx (FX_wN hF 2 a (by decide)) _ _ _) _ _ _ _ (by decide)) _ _ _ _
def cSpl (C : Cs) (a j n : Nat) (m : Nat) : Cs := cMv j n m (cNL C a n (cI C 2 1 j))
def sp_csplit : Sp := fun as w K => ∃ C x y n, ∃ mn : Nat → Nat, as = [.ref (cA C 9 0), .int x, .int y] ∧ RX C w ∧ FX C ∧ NB C 24 2 8 60 n ∧ (∀ j, j < n → cI C 2 4 j = nI (mn j) ∧ mn j ≤ 300) ∧ (∀ j m, j < n → m ≤ mn j → x = nI j → y = nI m → cI C 2 5 j = 0 → n < 60 → ∀ a w', RX (cSpl C a j n m) w' → K (some (.int (nI n))) w') ∧ ((¬ ∃ j m, j < n ∧ m ≤ mn j ∧ x = nI j ∧ y = nI m ∧ cI C 2 5 j = 0 ∧ n < 60) → K (some (.int (-1))) w)
theorem cMv_0 (a b : Nat) : ∀ k C l, cI (cMv a b k C) 2 0 l = cI C 2 0 l
  | 0, C, l => rfl
  | k + 1, C, l => by
    have e1 : ∀ q, cI (cUnl C a 0 q) 2 0 l = cI C 2 0 l := fun q => by
      unfold cUnl
      rw [cI_wI, if_neg (fun z => absurd z.2.1 (by decide))]
      split <;> rfl
    have e2 : ∀ D q, cI (cApp D b q) 2 0 l = cI D 2 0 l := fun D q => by
      unfold cApp
      rw [cI_wI, if_neg (fun z => absurd z.2.1 (by decide)), cI_wL]
      split
      · rw [cI_wL, cI_wL, cI_wI, if_neg (fun z => absurd z.1 (by decide))]
      · rw [cI_wL, cI_wL, cI_wI, if_neg (fun z => absurd z.1 (by decide))]
    unfold cMv
    split
    · rfl
    · rw [cMv_0 a b k, e2, e1]
theorem c_split (l : Launch) : Ct l 12 3 1 11 sp_csplit := by
  have hev : ∀ (k : Nat) (r : Nat × Nat × Nat × Sp), evL [(13, 2, 0, 0, sp_lotAtHouse), (8, 2, 1, 11, sp_cnewLot), (15, 2, 0, 0, sp_moveFirst)] k = some r → Ct l k r.1 r.2.1 r.2.2.1 r.2.2.2 := evL_ok (by simpa using ⟨c_lotAtHouse l, c_cnewLot l, c_moveFirst l⟩)
  refine ct_jd (by decide) rfl (fun as w Po h => ?_)
  obtain ⟨C, x, y, n, mn, rfl, hX, hF, hN, hmn, h1, h2⟩ := h
  have hn60 := hN.2.1
  refine ⟨Nat.le_of_ble_eq_true rfl, jd_run cdo_12 hev 60 ⟨by decide, by decide⟩ ?_⟩
  refine ⟨⟨by decide, by decide, by decide⟩, rfl, hX.k 9 0 hF.x, C, x, n, rfl, hX, hF, hN, fun j hj ex h0 => ?_, fun q => h2 (fun ⟨j, m, hj, _, e, _, h0, _⟩ => q ⟨j, hj, e, h0⟩)⟩
  have hj2 : j < cN C 2 := by rw [hN.2.2.1]; exact hj
  have no : (¬ ∃ m, m ≤ mn j ∧ y = nI m ∧ n < 60) → Po (some (.int (-1))) w := fun q => h2 (fun ⟨i, m, hi, hm, e, ey, _, hn⟩ => q ⟨m, by rw [two_eq (a := j) (b := i) (by omega) (by omega) ex e]; exact hm, ey, hn⟩)
  have hmj := (hmn j hj).2
  refine ⟨fun c => no (fun ⟨m, hm, e, _⟩ => nI_pos (show m < 2147483648 by omega) (by rw [← e]; exact c)), fun c => ?_⟩
  obtain ⟨m, hm, rfl⟩ := nlt0 c
  refine ⟨hX.k 2 j hj2, _, (hX.gi 2 4 j (by decide) hj2 rfl).trans (hmn j hj).1, fun c2 => ?_, fun c2 => no (fun ⟨m', hm', e, _⟩ => c2 ((nI_leI (by omega) (by omega)).mpr (by rw [(nI_eq hm (by omega)).mp e]; exact hm')))⟩
  have hm' : m ≤ mn j := (nI_leI hm (by omega)).mp c2
  refine ⟨hX.k 2 j hj2, _, hX.gi 2 1 j (by decide) hj2 rfl, ?_⟩
  refine ⟨⟨by decide, by decide, by decide⟩, rfl, hX.k 9 0 hF.x, C, cI C 2 1 j, n, rfl, hX, hF, hN, fun hn a w2 hX2 ea => ?_, fun hn => no (fun ⟨_, _, _, q⟩ => hn q)⟩
  have eN : n < cN (cNL C a n (cI C 2 1 j)) 2 := by rw [cNL_N2, hN.2.2.1]; exact Nat.lt_succ_self n
  have eJ : j < cN (cNL C a n (cI C 2 1 j)) 2 := by rw [cNL_N2, hN.2.2.1]; omega
  have eaj : cA (cNL C a n (cI C 2 1 j)) 2 j = cA C 2 j := cNL_Ao C a n _ j hj2
  have e0 : cI (cNL C a n (cI C 2 1 j)) 2 0 n = nI n := by simp [cNL, cLI, cI_wI, cI_wL]
  have h1 := h1 j m hj hm' ex rfl h0 hn a
  rw [cSpl] at h1
  generalize cNL C a n (cI C 2 1 j) = D at *
  refine ⟨⟨by decide, by decide, by decide⟩, rfl, hX2.k' 2 j eaj eJ, D, j, m, n, by rw [eaj, ea]; rfl, hX2, ⟨eJ, eN, by omega⟩, fun w3 hX3 => ?_⟩
  have hK := cMv_Kp j n m D
  refine ⟨hX3.k' 2 n (by rw [hK.1.1]; exact ea) (by rw [hK.1.2.1]; exact eN), _, (hX3.gi' 2 0 n (by rw [hK.1.1]; exact ea) (by decide) (by rw [hK.1.2.1]; exact eN) rfl).trans ((cMv_0 j n m D n).trans e0), ?_⟩
  exact h1 _ hX3
def sp_cjoin : Sp := fun as w K => ∃ C x y n, ∃ mn : Nat → Nat, as = [.ref (cA C 9 0), .int x, .int y] ∧ RX C w ∧ FX C ∧ NB C 24 2 8 60 n ∧ (∀ j, j < n → cI C 2 4 j = nI (mn j) ∧ mn j ≤ 300) ∧ (∀ a b, a < n → b < n → x = nI a → y = nI b → cI C 2 5 a = 0 → cI C 2 5 b = 0 → a ≠ b → cI C 2 1 a = cI C 2 1 b → ∀ w', RX (cMv b a (mn b) C) w' → K (some (.int (cI (cMv b a (mn b) C) 2 4 a))) w') ∧ ((¬ ∃ a b, a < n ∧ b < n ∧ x = nI a ∧ y = nI b ∧ cI C 2 5 a = 0 ∧ cI C 2 5 b = 0 ∧ a ≠ b ∧ cI C 2 1 a = cI C 2 1 b) → K (some (.int (-1))) w)
theorem c_join (l : Launch) : Ct l 17 3 0 0 sp_cjoin := by
  have hev : ∀ (k : Nat) (r : Nat × Nat × Nat × Sp), evL [(13, 2, 0, 0, sp_lotAtHouse), (15, 2, 0, 0, sp_moveFirst)] k = some r → Ct l k r.1 r.2.1 r.2.2.1 r.2.2.2 := evL_ok (by simpa using ⟨c_lotAtHouse l, c_moveFirst l⟩)
  refine ct_jd (by decide) rfl (fun as w Po h => ?_)
  obtain ⟨C, x, y, n, mn, rfl, hX, hF, hN, hmn, h1, h2⟩ := h
  have hn60 := hN.2.1
  refine ⟨Nat.le_of_ble_eq_true rfl, jd_run cdo_17 hev 60 z00 ?_⟩
  refine ⟨⟨by decide, by decide, by decide⟩, rfl, hX.k 9 0 hF.x, C, x, n, rfl, hX, hF, hN, fun a ha ex a0 => ?_, fun q => ?_⟩
  · have ha2 : a < cN C 2 := by rw [hN.2.2.1]; exact ha
    refine ⟨⟨by decide, by decide, by decide⟩, rfl, hX.k 9 0 hF.x, C, y, n, rfl, hX, hF, hN, fun b hb ey b0 => ?_, fun q => h2 (fun ⟨_, b, _, hb, _, e, _, b0, _⟩ => q ⟨b, hb, e, b0⟩)⟩
    have hb2 : b < cN C 2 := by rw [hN.2.2.1]; exact hb
    have no : ¬ (a ≠ b ∧ cI C 2 1 a = cI C 2 1 b) → Po (some (.int (-1))) w := fun q => h2 (fun ⟨a', b', ha', hb', ea, eb, _, _, q'⟩ => q (by
      rw [two_eq (a := a) (b := a') (by omega) (by omega) ex ea, two_eq (a := b) (b := b') (by omega) (by omega) ey eb]; exact q'))
    refine ⟨fun c => no (fun q => q.1 (two_eq (by omega) (by omega) ex (c.trans ey))), fun c => ?_⟩
    have hab : a ≠ b := fun e => c (by rw [ex, ey, e])
    refine ⟨hX.k 2 a ha2, _, hX.gi 2 1 a (by decide) ha2 rfl, hX.k 2 b hb2, _, hX.gi 2 1 b (by decide) hb2 rfl, fun c2 => ?_, fun c2 => no (fun q => c2 q.2)⟩
    refine ⟨hX.k 2 b hb2, _, (hX.gi 2 4 b (by decide) hb2 rfl).trans (hmn b hb).1, ?_⟩
    refine ⟨⟨by decide, by decide, by decide⟩, rfl, hX.k 2 b hb2, C, b, mn b, a, rfl, hX, ⟨hb2, ha2, (hmn b hb).2⟩, fun w3 hX3 => ?_⟩
    have hK := cMv_Kp b a (mn b) C
    refine ⟨hX3.k' 2 a (by rw [hK.1.1]) (by rw [hK.1.2.1]; exact ha2), _, hX3.gi' 2 4 a (by rw [hK.1.1]) (by decide) (by rw [hK.1.2.1]; exact ha2) rfl, ?_⟩
    exact h1 a b ha hb ex ey a0 b0 hab c2 _ hX3
  · have no : Po (some (.int (-1))) w := h2 (fun ⟨a, _, ha, _, e, _, a0, _⟩ => q ⟨a, ha, e, a0⟩)
    exact ⟨⟨by decide, by decide, by decide⟩, rfl, hX.k 9 0 hF.x, C, y, n, rfl, hX, hF, hN, fun b hb ey b0 => no, fun q => no⟩
