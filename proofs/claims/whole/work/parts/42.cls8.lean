/-! THE CLASS: raw -/
def sp_isRawSize : Sp := fun as w K => ∃ x : Int64, as = [.long x] ∧ ((-100 ≤ x.toInt ∧ x.toInt ≤ 100) → K (some (.int 1)) w) ∧ (¬ (-100 ≤ x.toInt ∧ x.toInt ≤ 100) → K (some (.int 0)) w)
theorem c_isRawSize (l : Launch) : Ct l 7 1 0 0 sp_isRawSize := by
  refine ct_jd (by decide) rfl (fun as w Po h => ?_)
  obtain ⟨x, rfl, h1, h2⟩ := h
  refine ⟨Nat.le_of_ble_eq_true rfl, jd_run cdo_7 ev0 30 z00 ?_⟩
  have e1 : ((-100 : Int32).toInt64).toInt = -100 := by decide
  have e2 : ((100 : Int32).toInt64).toInt = 100 := by decide
  refine ⟨fun c => ⟨Or.inl rfl, h2 (fun q => ?_)⟩, fun c => ⟨fun c2 => ⟨Or.inl rfl, h2 (fun q => ?_)⟩, fun c2 => ⟨Or.inr rfl, h1 ⟨?_, ?_⟩⟩⟩⟩
  · have := (cmp_lt _ _).mp c
    rw [e1] at this
    omega
  · have := (cmp_le x (100 : Int32).toInt64).mpr (by rw [e2]; omega)
    exact lt_nle c2 this
  · rcases Int.lt_or_le x.toInt (-100) with q | q
    · exact absurd ((cmp_lt x (-100 : Int32).toInt64).mpr (by rw [e1]; exact q)) c
    · exact q
  · have := (cmp_le _ _).mp (nlt_le c2)
    rw [e2] at this
    exact this
theorem m64 (m : Nat) (hm : m < 1000) : (nI (m + 1)).toInt64 - Int64.ofNat 1 = (nI m).toInt64 := by
  apply Int64.toInt_inj.mp
  have e : (Int64.ofNat 1).toInt = 1 := by decide
  rw [Int64.toInt_sub, Int32.toInt_toInt64, Int32.toInt_toInt64, nI_toInt (by omega), nI_toInt (by omega), e, bm64 (by omega) (by omega)]
  omega
theorem sz_all {f st : Int32} {m : Nat} (h0 : szOK f st 0) (h1 : szOK f st m) : ∀ i, i ≤ m → szOK f st i := by
  intro i hi
  unfold szOK at *
  rcases Int.lt_or_le st.toInt 0 with q | q
  · have a1 := Int.mul_le_mul_of_nonpos_right (show (i : Int) ≤ m by omega) (show st.toInt ≤ 0 by omega)
    have a2 := Int.mul_le_mul_of_nonpos_right (show (0 : Int) ≤ i by omega) (show st.toInt ≤ 0 by omega)
    omega
  · have a1 := Int.mul_le_mul_of_nonneg_right (show (i : Int) ≤ m by omega) q
    have a2 := Int.mul_le_mul_of_nonneg_right (show (0 : Int) ≤ i by omega) q
    omega
theorem cApp_20 (D : Cs) (b q l : Nat) : cI (cApp D b q) 2 0 l = cI D 2 0 l := by
  unfold cApp
  rw [cI_wI, if_neg (fun z => absurd z.2.1 (by decide)), cI_wL]
  split
  · rw [cI_wL, cI_wL, cI_wI, if_neg (fun z => absurd z.1 (by decide))]
  · rw [cI_wL, cI_wL, cI_wI, if_neg (fun z => absurd z.1 (by decide))]
def cRw1 (a : Nat) (k s : Int32) (lo p : Nat) (D : Cs) : Cs := cApp (wI (wL (cPI (wN D 5 a) p (nI p) k s (nI lo)) 23 p 0 (p + 1)) 9 7 0 (nI (p + 1))) lo p
def cRwQ (lo np : Nat) (k f st : Int32) : List Nat → Nat → Cs → Cs
  | [], _, D => D
  | a :: t, i, D => cRwQ lo np k f st t (i + 1) (cRw1 a k (f + nI i * st) lo (np + i) D)
def RwI (C : Cs) (z lo np : Nat) (D : Cs) : Prop := FX D ∧ cN D 5 = np ∧ cI D 9 7 0 = nI np ∧ cA D 9 0 = cA C 9 0 ∧ cA D 2 lo = z ∧ lo < cN D 2 ∧ cI D 2 0 lo = nI lo
theorem cPI_fx {D : Cs} (hF : FX D) (i : Nat) (n k s r : Int32) : FX (cPI D i n k s r) := hF
theorem RwI_1 {C D : Cs} {z lo p a : Nat} {k s : Int32} (h : RwI C z lo p D) : RwI C z lo (p + 1) (cRw1 a k s lo p D) := by
  obtain ⟨hF, h5, h7, hA, hz, hl, h0⟩ := h
  have hK := cApp_Kp (wI (wL (cPI (wN D 5 a) p (nI p) k s (nI lo)) 23 p 0 (p + 1)) 9 7 0 (nI (p + 1))) lo p
  have hF2 : FX (wI (wL (cPI (wN D 5 a) p (nI p) k s (nI lo)) 23 p 0 (p + 1)) 9 7 0 (nI (p + 1))) := FX_wI (FX_wL (cPI_fx (FX_wN hF 5 a (by decide)) _ _ _ _ _) _ _ _ _ (by decide)) _ _ _ _
  refine ⟨hK.fx hF2, ?_, ?_, ?_, ?_, ?_, ?_⟩
  · rw [cRw1, hK.1.2.1]
    exact (cN_wN D 5 a 5).trans (by rw [if_pos rfl, h5])
  · rw [cRw1, hK.2.1 9 7 0 (by decide) (by decide) (by decide), cI_wI, if_pos ⟨rfl, rfl, rfl⟩]
  · rw [cRw1, hK.1.1]
    exact (cA_wNt (C := D) (a := a) (show 9 ≠ 5 by decide)).trans hA
  · rw [cRw1, hK.1.1]
    exact (cA_wNt (C := D) (a := a) (show 2 ≠ 5 by decide)).trans hz
  · rw [cRw1, hK.1.2.1]
    exact Nat.lt_of_lt_of_eq hl (cN_wNt (C := D) (a := a) (show 2 ≠ 5 by decide)).symm
  · rw [cRw1, cApp_20, cI_wI, if_neg (fun z => absurd z.1 (by decide)), cI_wL, ← h0]
    simp [cPI, cI_wI, cI_wN]
theorem c_crawT (l : Launch) (Po : Option Value → Hp → Prop) (C : Cs) (k f st : Int32) (n' i z np lo : Nat) (la : Int64) (nc ns : Nat) (zp : Nat) (hb : nc ≤ 31 ∧ ns ≤ 251) : ∀ E w2, RX E w2 → FX E → cA E 9 0 = cA C 9 0 → cA E 2 lo = z → lo < cN E 2 → cA E 5 np = zp → np < cN E 5 → cI E 9 7 0 = nI np → np < 300 → (∀ w', RX (cApp (wI (wL E 23 np 0 (np + 1)) 9 7 0 (nI (np + 1))) lo np) w' → Jd l 6 3 31 251 (some .int) Po 82 [(8, .int (nI (i + 1))), (7, .ref z), (5, .long la), (0, .ref (cA C 9 0)), (1, .int k), (2, .int (nI n')), (3, .int f), (4, .int st)] [] w' nc ns) → Jd l 6 3 31 251 (some .int) Po 112 [(8, .int (nI i)), (7, .ref z), (5, .long la), (0, .ref (cA C 9 0)), (1, .int k), (2, .int (nI n')), (3, .int f), (4, .int st)] [.ref zp] w2 nc ns := by
  have hev : ∀ (k : Nat) (r : Nat × Nat × Nat × Sp), evL [(11, 1, 0, 0, sp_append)] k = some r → Ct l k r.1 r.2.1 r.2.2.1 r.2.2.2 := evL_ok (by simpa using c_append l)
  intro E w2 hX hF eA ez hl ep hp e7 h300 h1
  refine jd_s cdo_6 hev [82] 40 hb ?_
  refine ⟨hX.k' 9 0 eA hF.x, some (cA E 23 0), (hX.gr' 9 0 0 eA (by decide) hF.x rfl).trans (by rw [hF.l0]; rfl), hX.k' 9 0 eA hF.x, _, (hX.gi' 9 7 0 eA (by decide) hF.x rfl).trans e7, ?_⟩
  refine ⟨23, ⟨hX.k 23 0 (by rw [hX.qc 23 (by decide) (by decide)]; decide), by decide, by decide, hX.k' 5 np ep hp⟩, np, hX.ix 23 (by decide) (by decide) rfl h300, ?_⟩
  have hX := hX.wq' 23 np np rfl ep (by decide) (by decide) hp
  refine ⟨hX.k' 9 0 eA hF.x, _, (hX.gi' 9 7 0 eA (by decide) hF.x rfl).trans e7, hX.k' 9 0 eA hF.x, ?_⟩
  have hX := hX.wi' 9 7 0 eA hF.x (nI np + 1)
  rw [nI_1] at hX
  refine ⟨⟨by decide, hb.1, hb.2⟩, rfl, hX.k' 2 lo ez hl, wI (wL E 23 np 0 (np + 1)) 9 7 0 (nI (np + 1)), lo, np, by rw [← ez, ← ep]; rfl, by rw [nI_1]; exact hX, ⟨hl, hp⟩, fun w3 hX3 => ?_⟩
  have := h1 w3 hX3
  rw [← nI_1] at this
  exact jd_pk [0, 2, 3, 4, 5, 6, 7, 8] this
