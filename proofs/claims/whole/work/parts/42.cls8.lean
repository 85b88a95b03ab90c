/-! THE CLASS: raw -/
def sp_isRawSize : Sp := fun as w K => ∃ x : Int64, as = [.long x] ∧ ((-100 ≤ x.toInt ∧ x.toInt ≤ 100) → K (some (.int 1)) w) ∧ (¬ (-100 ≤ x.toInt ∧ x.toInt ≤ 100) → K (some (.int 0)) w)
theorem c_isRawSize (l : Launch) : Ct l 7 1 0 0 sp_isRawSize := by
  refine ct_jd (by decide) rfl (fun as w Po h => ?_)
  obtain ⟨x, rfl, h1, h2⟩ := h
  refine ⟨Nat.le_of_ble_eq_true rfl, jd_run cdo_7 ev0 30 z00 ?_⟩
  have e1 : ((-100 : Int32).toInt64).toInt = -100 := by decide
  have e2 : ((100 : Int32).toInt64).toInt = 100 := by decide
  refine ⟨fun c => ⟨Or.inl rfl, h2 (fun q => ?_)⟩, fun c => ⟨fun c2 => ⟨Or.inl rfl, h2 (fun q => ?_)⟩, fun c2 => ⟨Or.inr rfl, h1 ⟨?_, ?_⟩⟩⟩⟩
  · have := (cmp_lt _ _).mp c
    rw [e1] at this
    omega
  · have := (cmp_le x (100 : Int32).toInt64).mpr (by rw [e2]; omega)
    exact lt_nle c2 this
  · rcases Int.lt_or_le x.toInt (-100) with q | q
    · exact absurd ((cmp_lt x (-100 : Int32).toInt64).mpr (by rw [e1]; exact q)) c
    · exact q
  · have := (cmp_le _ _).mp (nlt_le c2)
    rw [e2] at this
    exact this
theorem m64 (m : Nat) (hm : m < 1000) : (nI (m + 1)).toInt64 - Int64.ofNat 1 = (nI m).toInt64 := by
  apply Int64.toInt_inj.mp
  have e : (Int64.ofNat 1).toInt = 1 := by decide
  rw [Int64.toInt_sub, Int32.toInt_toInt64, Int32.toInt_toInt64, nI_toInt (by omega), nI_toInt (by omega), e, bm64 (by omega) (by omega)]
  omega
theorem sz_all {f st : Int32} {m : Nat} (h0 : szOK f st 0) (h1 : szOK f st m) : ∀ i, i ≤ m → szOK f st i := by
  intro i hi
  unfold szOK at *
  rcases Int.lt_or_le st.toInt 0 with q | q
  · have a1 := Int.mul_le_mul_of_nonpos_right (show (i : Int) ≤ m by omega) (show st.toInt ≤ 0 by omega)
    have a2 := Int.mul_le_mul_of_nonpos_right (show (0 : Int) ≤ i by omega) (show st.toInt ≤ 0 by omega)
    omega
  · have a1 := Int.mul_le_mul_of_nonneg_right (show (i : Int) ≤ m by omega) q
    have a2 := Int.mul_le_mul_of_nonneg_right (show (0 : Int) ≤ i by omega) q
    omega
theorem cApp_20 (D : Cs) (b q l : Nat) : cI (cApp D b q) 2 0 l = cI D 2 0 l := by
  unfold cApp
  rw [cI_wI, if_neg (fun z => absurd z.2.1 (by decide)), cI_wL]
  split
  · rw [cI_wL, cI_wL, cI_wI, if_neg (fun z => absurd z.1 (by decide))]
  · rw [cI_wL, cI_wL, cI_wI, if_neg (fun z => absurd z.1 (by decide))]
def cRw1 (a : Nat) (k s : Int32) (lo p : Nat) (D : Cs) : Cs := cApp (wI (wL (cPI (wN D 5 a) p (nI p) k s (nI lo)) 23 p 0 (p + 1)) 9 7 0 (nI (p + 1))) lo p
def cRwQ (lo np : Nat) (k f st : Int32) : List Nat → Nat → Cs → Cs
  | [], _, D => D
  | a :: t, i, D => cRwQ lo np k f st t (i + 1) (cRw1 a k (f + nI i * st) lo (np + i) D)
def RwI (C : Cs) (z lo np : Nat) (D : Cs) : Prop := FX D ∧ cN D 5 = np ∧ cI D 9 7 0 = nI np ∧ cA D 9 0 = cA C 9 0 ∧ cA D 2 lo = z ∧ lo < cN D 2 ∧ cI D 2 0 lo = nI lo
theorem cPI_fx {D : Cs} (hF : FX D) (i : Nat) (n k s r : Int32) : FX (cPI D i n k s r) := hF
theorem RwI_1 {C D : Cs} {z lo p a : Nat} {k s : Int32} (h : RwI C z lo p D) : RwI C z lo (p + 1) (cRw1 a k s lo p D) := by
  obtain ⟨hF, h5, h7, hA, hz, hl, h0⟩ := h
  have hK := cApp_Kp (wI (wL (cPI (wN D 5 a) p (nI p) k s (nI lo)) 23 p 0 (p + 1)) 9 7 0 (nI (p + 1))) lo p
  have hF2 : FX (wI (wL (cPI (wN D 5 a) p (nI p) k s (nI lo)) 23 p 0 (p + 1)) 9 7 0 (nI (p + 1))) := FX_wI (FX_wL (cPI_fx (FX_wN hF 5 a (by decide)) _ _ _ _ _) _ _ _ _ (by decide)) _ _ _ _
  refine ⟨hK.fx hF2, ?_, ?_, ?_, ?_, ?_, ?_⟩
  · rw [cRw1, hK.1.2.1]
    exact (cN_wN D 5 a 5).trans (by rw [if_pos rfl, h5])
  · rw [cRw1, hK.2.1 9 7 0 (by decide) (by decide) (by decide), cI_wI, if_pos ⟨rfl, rfl, rfl⟩]
  · rw [cRw1, hK.1.1]
    exact (cA_wNt (C := D) (a := a) (show 9 ≠ 5 by decide)).trans hA
  · rw [cRw1, hK.1.1]
    exact (cA_wNt (C := D) (a := a) (show 2 ≠ 5 by decide)).trans hz
  · rw [cRw1, hK.1.2.1]
    exact Nat.lt_of_lt_of_eq hl (cN_wNt (C := D) (a := a) (show 2 ≠ 5 by decide)).symm
  · rw [cRw1, cApp_20, cI_wI, if_neg (fun z => absurd z.1 (by decide)), cI_wL, ← h0]
    simp [cPI, cI_wI, cI_wN]
theorem c_crawT (l : Launch) (Po : Option Value → Hp → Prop) (C : Cs) (k f st : Int32) (n' i z np lo : Nat) (la : Int64) (nc ns : Nat) (zp : Nat) (hb : nc ≤ 31 ∧ ns ≤ 251) : ∀ E w2, RX E w2 → FX E → cA E 9 0 = cA C 9 0 → cA E 2 lo = z → lo < cN E 2 → cA E 5 np = zp → np < cN E 5 → cI E 9 7 0 = nI np → np < 300 → (∀ w', RX (cApp (wI (wL E 23 np 0 (np + 1)) 9 7 0 (nI (np + 1))) lo np) w' → Jd l 6 3 31 251 (some .int) Po 82 [(8, .int (nI (i + 1))), (7, .ref z), (5, .long la), (0, .ref (cA C 9 0)), (1, .int k), (2, .int (nI n')), (3, .int f), (4, .int st)] [] w' nc ns) → Jd l 6 3 31 251 (some .int) Po 112 [(8, .int (nI i)), (7, .ref z), (5, .long la), (0, .ref (cA C 9 0)), (1, .int k), (2, .int (nI n')), (3, .int f), (4, .int st)] [.ref zp] w2 nc ns := by
  have hev : ∀ (k : Nat) (r : Nat × Nat × Nat × Sp), evL [(11, 1, 0, 0, sp_append)] k = some r → Ct l k r.1 r.2.1 r.2.2.1 r.2.2.2 := evL_ok (by simpa using c_append l)
  intro E w2 hX hF eA ez hl ep hp e7 h300 h1
  refine jd_s cdo_6 hev [82] 40 hb ?_
  refine ⟨hX.k' 9 0 eA hF.x, some (cA E 23 0), (hX.gr' 9 0 0 eA (by decide) hF.x rfl).trans (by rw [hF.l0]; rfl), hX.k' 9 0 eA hF.x, _, (hX.gi' 9 7 0 eA (by decide) hF.x rfl).trans e7, ?_⟩
  refine ⟨23, ⟨hX.k 23 0 (by rw [hX.qc 23 (by decide) (by decide)]; decide), by decide, by decide, hX.k' 5 np ep hp⟩, np, hX.ix 23 (by decide) (by decide) rfl h300, ?_⟩
  have hX := hX.wq' 23 np np rfl ep (by decide) (by decide) hp
  refine ⟨hX.k' 9 0 eA hF.x, _, (hX.gi' 9 7 0 eA (by decide) hF.x rfl).trans e7, hX.k' 9 0 eA hF.x, ?_⟩
  have hX := hX.wi' 9 7 0 eA hF.x (nI np + 1)
  rw [nI_1] at hX
  refine ⟨⟨by decide, hb.1, hb.2⟩, rfl, hX.k' 2 lo ez hl, wI (wL E 23 np 0 (np + 1)) 9 7 0 (nI (np + 1)), lo, np, by rw [← ez, ← ep]; rfl, by rw [nI_1]; exact hX, ⟨hl, hp⟩, fun w3 hX3 => ?_⟩
  have := h1 w3 hX3
  rw [← nI_1] at this
  exact jd_pk [0, 2, 3, 4, 5, 6, 7, 8] this
theorem c_crawK (l : Launch) (Po : Option Value → Hp → Prop) (C : Cs) (k f st : Int32) (n' z np nl : Nat) (la : Int64) (hn30 : n' ≤ 30) (hp3 : np + n' ≤ 300) : ∀ d i D w', i + d = n' → RX D w' → RwI C z nl (np + i) D → (∀ ads w2, ads.length = d → RX (cRwQ nl np k f st ads i D) w2 → Po (some (.int (nI nl))) w2) → Jd l 6 3 31 251 (some .int) Po 82 [(8, .int (nI i)), (7, .ref z), (5, .long la), (0, .ref (cA C 9 0)), (1, .int k), (2, .int (nI n')), (3, .int f), (4, .int st)] [] w' (1 + i) (11 + 8 * i) := by
  have hev : ∀ (k : Nat) (r : Nat × Nat × Nat × Sp), evL [(10, 1, 0, 0, sp_PieceInit)] k = some r → Ct l k r.1 r.2.1 r.2.2.1 r.2.2.2 := evL_ok (by simpa using c_PieceInit l)
  intro d
  induction d with
  | zero =>
    intro i D w' hi hX hR hk
    obtain ⟨hF, h5, h7, hA, hz, hl, h0⟩ := hR
    obtain rfl : i = n' := by omega
    refine jd_s cdo_6 hev [] 20 ⟨by omega, by omega⟩ ⟨fun _ => ?_, fun c => absurd (nI_le (Nat.le_refl i) (by omega)) c⟩
    exact ⟨hX.k' 2 nl hz hl, _, (hX.gi' 2 0 nl hz (by decide) hl rfl).trans h0, hk [] w' rfl hX⟩
  | succ d ih =>
    intro i D w' hi hX hR hk
    have hR1 := hR
    obtain ⟨hF, h5, h7, hA, hz, hl, h0⟩ := hR
    refine jd_s cdo_6 hev [112] 40 ⟨by omega, by omega⟩ ⟨fun c => ?_, fun _ => ?_⟩
    · have := ge_n (a := i) (b := n') (by omega) (by omega) c
      omega
    have hX1 := hX.new 5 (by decide)
    have ep : cA (wN D 5 (gZ w')) 5 (np + i) = gZ w' := by rw [← h5]; exact cA_new D 5 _
    have hp : np + i < cN (wN D 5 (gZ w')) 5 := by have := cN_new D 5 (gZ w'); rw [h5] at this; exact this
    have hF1 : FX (wN D 5 (gZ w')) := FX_wN hF 5 _ (by decide)
    have eA : cA (wN D 5 (gZ w')) 9 0 = cA C 9 0 := (cA_wNt (by decide)).trans hA
    have eZ : cA (wN D 5 (gZ w')) 2 nl = z := (cA_wNt (by decide)).trans hz
    have hl1 : nl < cN (wN D 5 (gZ w')) 2 := by rw [cN_wNt (by decide)]; exact hl
    have e7 : cI (wN D 5 (gZ w')) 9 7 0 = nI (np + i) := (cI_wNt (by decide)).trans h7
    have e0 : cI (wN D 5 (gZ w')) 2 0 nl = nI nl := (cI_wNt (by decide)).trans h0
    refine ⟨⟨by omega, show 11 + 8 * i + 8 ≤ 251 by omega⟩, ?_⟩
    refine ⟨hX1.k' 9 0 eA hF1.x, _, (hX1.gi' 9 7 0 eA (by decide) hF1.x rfl).trans e7, ?_⟩
    refine ⟨hX1.k' 2 nl eZ hl1, _, (hX1.gi' 2 0 nl eZ (by decide) hl1 rfl).trans e0, ?_⟩
    refine ⟨⟨by decide, show 1 + i + 1 + 0 ≤ 31 by omega, show 11 + 8 * i + 8 + 0 ≤ 251 by omega⟩, rfl, wN D 5 (gZ w'), np + i, gZ w', nI (np + i), k, f + nI i * st, nI nl, rfl, hX1, ⟨hp, ep⟩, fun w2 hX2 => ?_⟩
    refine c_crawT l Po C k f st n' i z (np + i) nl la (1 + i + 1) (11 + 8 * i + 8) (gZ w') ⟨by omega, by omega⟩ (cPI (wN D 5 (gZ w')) (np + i) (nI (np + i)) k (f + nI i * st) (nI nl)) w2 hX2 (cPI_fx hF1 _ _ _ _ _) eA eZ hl1 ep hp (by simp only [cPI, cI_wI]; simp; exact e7) (by omega) (fun w3 hX3 => ?_)
    have e1 : 1 + (i + 1) = 1 + i + 1 := by omega
    have e2 : 11 + 8 * (i + 1) = 11 + 8 * i + 8 := by omega
    have := ih (i + 1) (cRw1 (gZ w') k (f + nI i * st) nl (np + i) D) w3 (by omega) hX3 (RwI_1 hR1) (fun ads w2 ha hX4 => hk (gZ w' :: ads) w2 (by rw [List.length_cons, ha]) hX4)
    rw [e1, e2] at this
    exact this
def sp_craw : Sp := fun as w K => ∃ C k n f st np nl, as = [.ref (cA C 9 0), .int k, .int n, .int f, .int st] ∧ RX C w ∧ FX C ∧ NB C 23 5 7 300 np ∧ NB C 24 2 8 60 nl ∧ (∀ n', okRaw k n f st np nl n' → ∀ a ads w', ads.length = n' → RX (cRwQ nl np k f st ads 0 (cNL C a nl k)) w' → K (some (.int (nI nl))) w') ∧ ((¬ ∃ n', okRaw k n f st np nl n') → K (some (.int (-1))) w)
theorem c_raw (l : Launch) : Ct l 6 3 31 251 sp_craw := by
  have hev : ∀ (k : Nat) (r : Nat × Nat × Nat × Sp), evL [(7, 1, 0, 0, sp_isRawSize), (8, 2, 1, 11, sp_cnewLot)] k = some r → Ct l k r.1 r.2.1 r.2.2.1 r.2.2.2 := evL_ok (by simpa using ⟨c_isRawSize l, c_cnewLot l⟩)
  refine ct_jd (by decide) rfl (fun as w Po h => ?_)
  obtain ⟨C, k, n, f, st, np, nl, rfl, hX, hF, hNp, hNl, h1, h2⟩ := h
  have hnp := hNp.2.1
  have hnl := hNl.2.1
  refine ⟨Nat.le_of_ble_eq_true rfl, jd_s cdo_6 hev [82] 80 ⟨by decide, by decide⟩ ?_⟩
  refine ⟨fun c => h2 (fun ⟨_, q⟩ => lt_nle c q.1.1), fun c1 => ⟨fun c => h2 (fun ⟨_, q⟩ => lt_nle c q.1.2), fun c2 => ⟨fun c => h2 (fun ⟨n', q⟩ => lt_nle c (by rw [q.2.1.1]; exact nI_le (a := 1) q.2.1.2.1 (by have := q.2.1.2.2; omega))), fun c3 => ⟨fun c4 => ?_, fun c => h2 (fun ⟨n', q⟩ => c (by rw [q.2.1.1]; exact nI_le (b := 30) q.2.1.2.2 (by decide)))⟩⟩⟩⟩
  obtain ⟨n', hn', rfl⟩ : ∃ n' : Nat, n' < 2 ^ 31 ∧ n = nI n' := nI_of (one_pos (nlt_le c3))
  have hn1 : 1 ≤ n' := ge_n (b := 1) (by omega) (by decide) (nlt_le c3)
  have hn30 : n' ≤ 30 := ge_n (a := 30) (by decide) (by omega) c4
  obtain ⟨m, rfl⟩ : ∃ m, n' = m + 1 := ⟨n' - 1, by omega⟩
  have only : ∀ n'', okRaw k (nI (m + 1)) f st np nl n'' → n'' = m + 1 := fun n'' z => ((nI_eq (by omega) (by have := z.2.1.2.2; omega)).mp z.2.1.1).symm
  have ef : f.toInt64.toInt = f.toInt + ((0 : Nat) : Int) * st.toInt := by rw [Int32.toInt_toInt64]; simp
  have el : (f.toInt64 + ((nI (m + 1)).toInt64 - Int64.ofNat 1) * st.toInt64).toInt = f.toInt + (m : Int) * st.toInt := by rw [m64 m (by omega), sz64 f st m (by omega)]
  refine ⟨⟨by decide, by decide, by decide⟩, rfl, Nat.le_of_ble_eq_true rfl, f.toInt64, rfl, fun c5 => br1 ?_, fun c => br0 (h2 (fun ⟨n'', q⟩ => c (by rw [ef]; exact q.2.2.2.2 0 (by have := q.2.1.2.1; omega))))⟩
  refine ⟨⟨by decide, by decide, by decide⟩, rfl, Nat.le_of_ble_eq_true rfl, f.toInt64 + ((nI (m + 1)).toInt64 - Int64.ofNat 1) * st.toInt64, rfl, fun c6 => br1 ?_, fun c => br0 (h2 (fun ⟨n'', q⟩ => c (by rw [el]; exact q.2.2.2.2 m (by have := only n'' q; omega))))⟩
  rw [ef] at c5
  rw [el] at c6
  have hall : ∀ i, i < m + 1 → szOK f st i := fun i hi => sz_all c5 c6 i (by omega)
  refine ⟨hX.k 9 0 hF.x, _, (hX.gi 9 7 0 (by decide) hF.x rfl).trans hNp.1, ?_⟩
  show cc6 .le (nI np + nI (m + 1)) 300 _ _
  rw [nI_add]
  refine ⟨fun c7 => ?_, fun c => h2 (fun ⟨n'', q⟩ => c (nI_le (b := 300) (by have := q.2.2.2.1; have := only n'' q; omega) (by decide)))⟩
  have hp3 : np + (m + 1) ≤ 300 := ge_n (a := 300) (by decide) (by omega) c7
  refine ⟨⟨by decide, by decide, by decide⟩, rfl, hX.k 9 0 hF.x, C, k, nl, rfl, hX, hF, hNl, fun hn a w2 hX2 ea => ?_, fun hn => h2 (fun ⟨_, q⟩ => hn q.2.2.1)⟩
  have hok : okRaw k (nI (m + 1)) f st np nl (m + 1) := ⟨⟨nlt_le c1, nlt_le c2⟩, ⟨rfl, hn1, hn30⟩, hn, hp3, hall⟩
  have hR : RwI C a nl (np + 0) (cNL C a nl k) := by
    refine ⟨cNL_F C a nl k hF, ?_, ?_, ?_, ea, ?_, ?_⟩
    · rw [cNL_N C a nl k 5 (by decide)]; exact hNp.2.2.1
    · rw [show np + 0 = np from rfl, ← hNp.1]
      simp [cNL, cLI, cI_wI, cI_wL, cI_wN]
    · exact cNL_A C a nl k 9 0 (by decide)
    · rw [cNL_N2, hNl.2.2.1]; exact Nat.lt_succ_self nl
    · simp [cNL, cLI, cI_wI, cI_wL]
  exact c_crawK l Po C k f st (m + 1) a np nl _ hn30 hp3 (m + 1) 0 (cNL C a nl k) w2 (by omega) hX2 hR (fun ads w3 ha hX3 => h1 (m + 1) hok a ads w3 ha hX3)
