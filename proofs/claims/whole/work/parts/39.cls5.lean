/-! THE CLASS: what is made new: homes, lots, sendings, wages -/
theorem cA_new (C : Cs) (t a : Nat) : cA (wN C t a) t (cN C t) = a := if_pos ⟨rfl, rfl⟩
theorem cN_new (C : Cs) (t a : Nat) : cN C t < cN (wN C t a) t := by
  show _ < if t = t then cN C t + 1 else cN C t
  rw [if_pos rfl]
  exact Nat.lt_succ_self _
theorem cN_wN (C : Cs) (t a s : Nat) : cN (wN C t a) s = if s = t then cN C t + 1 else cN C s := id rfl
theorem cA_wN (C : Cs) (t a s i : Nat) : cA (wN C t a) s i = if s = t ∧ i = cN C t then a else cA C s i := id rfl
theorem cI_wN (C : Cs) (t a s k i : Nat) : cI (wN C t a) s k i = if s = t ∧ i = cN C t then 0 else cI C s k i := id rfl
theorem cL_wN (C : Cs) (t a s k i : Nat) : cL (wN C t a) s k i = if s = t ∧ i = cN C t then 0 else cL C s k i := id rfl
theorem cI_wNt {C : Cs} {t a s k i : Nat} (h : s ≠ t) : cI (wN C t a) s k i = cI C s k i := if_neg (fun q => h q.1)
theorem cL_wNt {C : Cs} {t a s k i : Nat} (h : s ≠ t) : cL (wN C t a) s k i = cL C s k i := if_neg (fun q => h q.1)
theorem cN_wNt {C : Cs} {t a s : Nat} (h : s ≠ t) : cN (wN C t a) s = cN C s := if_neg h
theorem cA_wNt {C : Cs} {t a s i : Nat} (h : s ≠ t) : cA (wN C t a) s i = cA C s i := if_neg (fun q => h q.1)
theorem FX_wN {C : Cs} (h : FX C) (t a : Nat) (ht : t = 1 ∨ t = 2 ∨ t = 5 ∨ t = 6 ∨ t = 7 ∨ t = 8) : FX (wN C t a) := by
  obtain ⟨h1, h2, h3, h4⟩ := h
  have e : ∀ s k i, s = 9 ∨ s = 3 ∨ s = 4 → cL (wN C t a) s k i = cL C s k i := fun s k i q => cL_wNt (by omega)
  refine ⟨?_, ?_, ?_, fun k' i' p q => (e 4 k' i' (by decide)).trans (h4 k' i' p q)⟩
  · rw [cN_wNt (by omega), cN_wNt (by omega), cN_wNt (by omega), cN_wNt (by omega), cN_wNt (by omega)]; exact h1
  · rw [e 9 _ _ (by decide), e 9 _ _ (by decide), e 9 _ _ (by decide), e 9 _ _ (by decide), e 9 _ _ (by decide), e 9 _ _ (by decide), e 9 _ _ (by decide)]; exact h2
  · rw [e 3 _ _ (by decide), e 3 _ _ (by decide)]; exact h3
theorem FX_wI {C : Cs} (h : FX C) (t k i : Nat) (v : Int32) : FX (wI C t k i v) := h
def cHI (C : Cs) (i : Nat) (n r o b v : Int32) : Cs := wI (wI (wI (wI (wI C 1 0 i n) 1 1 i r) 1 2 i o) 1 3 i b) 1 4 i v
def sp_HomeInit : Sp := fun as w K => ∃ C i a n r o b v, as = [.ref a, .int n, .int r, .int o, .int b, .int v] ∧ RX C w ∧ (i < cN C 1 ∧ cA C 1 i = a) ∧ ∀ w', RX (cHI C i n r o b v) w' → K none w'
theorem c_HomeInit (l : Launch) : Ct l 5 1 0 0 sp_HomeInit := by
  refine ct_jd (by decide) rfl (fun as w Po h => ?_)
  obtain ⟨C, i, a, n, r, o, b, v, rfl, hX, ⟨hi, rfl⟩, h⟩ := h
  refine ⟨Nat.le_of_ble_eq_true rfl, jd_run cdo_5 ev0 40 z00 ?_⟩
  refine ⟨rfl, by decide, hX.k 1 i hi, ?_⟩
  have hX := hX.wi 1 0 i hi n
  refine ⟨hX.k 1 i hi, ?_⟩
  have hX := hX.wi 1 1 i hi r
  refine ⟨hX.k 1 i hi, ?_⟩
  have hX := hX.wi 1 2 i hi o
  refine ⟨hX.k 1 i hi, ?_⟩
  have hX := hX.wi 1 3 i hi b
  refine ⟨hX.k 1 i hi, ?_⟩
  exact h _ (hX.wi 1 4 i hi v)
def cLI (C : Cs) (i : Nat) (n k : Int32) : Cs := wI (wI (wI C 2 5 i 0) 2 0 i n) 2 1 i k
def sp_LotInit : Sp := fun as w K => ∃ C i a n k, as = [.ref a, .int n, .int k] ∧ RX C w ∧ (i < cN C 2 ∧ cA C 2 i = a) ∧ ∀ w', RX (cLI C i n k) w' → K none w'
theorem c_LotInit (l : Launch) : Ct l 9 1 0 0 sp_LotInit := by
  refine ct_jd (by decide) rfl (fun as w Po h => ?_)
  obtain ⟨C, i, a, n, k, rfl, hX, ⟨hi, rfl⟩, h⟩ := h
  refine ⟨Nat.le_of_ble_eq_true rfl, jd_run cdo_9 ev0 40 z00 ?_⟩
  refine ⟨rfl, by decide, hX.k 2 i hi, ?_⟩
  have hX := hX.wi 2 5 i hi 0
  refine ⟨hX.k 2 i hi, ?_⟩
  have hX := hX.wi 2 0 i hi n
  refine ⟨hX.k 2 i hi, ?_⟩
  exact h _ (hX.wi 2 1 i hi k)
def cPI (C : Cs) (i : Nat) (n k s r : Int32) : Cs := wI (wI (wI (wI (wI C 5 5 i 0) 5 0 i n) 5 1 i k) 5 3 i s) 5 2 i r
def sp_PieceInit : Sp := fun as w K => ∃ C i a n k s r, as = [.ref a, .int n, .int k, .int s, .int r] ∧ RX C w ∧ (i < cN C 5 ∧ cA C 5 i = a) ∧ ∀ w', RX (cPI C i n k s r) w' → K none w'
theorem c_PieceInit (l : Launch) : Ct l 10 1 0 0 sp_PieceInit := by
  refine ct_jd (by decide) rfl (fun as w Po h => ?_)
  obtain ⟨C, i, a, n, k, s, r, rfl, hX, ⟨hi, rfl⟩, h⟩ := h
  refine ⟨Nat.le_of_ble_eq_true rfl, jd_run cdo_10 ev0 40 z00 ?_⟩
  refine ⟨rfl, by decide, hX.k 5 i hi, ?_⟩
  have hX := hX.wi 5 5 i hi 0
  refine ⟨hX.k 5 i hi, ?_⟩
  have hX := hX.wi 5 0 i hi n
  refine ⟨hX.k 5 i hi, ?_⟩
  have hX := hX.wi 5 1 i hi k
  refine ⟨hX.k 5 i hi, ?_⟩
  have hX := hX.wi 5 3 i hi s
  refine ⟨hX.k 5 i hi, ?_⟩
  exact h _ (hX.wi 5 2 i hi r)
def cSI (C : Cs) (i : Nat) (d p : Int32) (b : Nat) : Cs := wL (wI (wI C 6 0 i d) 6 1 i p) 6 2 i b
def sp_SendInit : Sp := fun as w K => ∃ C i a d p b, as = [.ref a, .int d, .int p, va_rf (adO C 6 b)] ∧ RX C w ∧ (i < cN C 6 ∧ cA C 6 i = a ∧ b ≤ cN C 6) ∧ ∀ w', RX (cSI C i d p b) w' → K none w'
theorem c_SendInit (l : Launch) : Ct l 20 1 0 0 sp_SendInit := by
  refine ct_jd (by decide) rfl (fun as w Po h => ?_)
  obtain ⟨C, i, a, d, p, b, rfl, hX, ⟨hi, rfl, hb⟩, h⟩ := h
  cases b with
  | zero =>
    refine ⟨Nat.le_of_ble_eq_true rfl, jd_run cdo_20 ev0 40 z00 ?_⟩
    refine ⟨rfl, by decide, hX.k 6 i hi, ?_⟩
    have hX := hX.wi 6 0 i hi d
    refine ⟨hX.k 6 i hi, ?_⟩
    have hX := hX.wi 6 1 i hi p
    refine ⟨hX.k 6 i hi, none, rfl, ?_⟩
    exact h _ (hX.wl 6 2 i 0 hi hb (by decide))
  | succ q =>
    refine ⟨Nat.le_of_ble_eq_true rfl, jd_run cdo_20 ev0 40 z00 ?_⟩
    refine ⟨rfl, by decide, hX.k 6 i hi, ?_⟩
    have hX := hX.wi 6 0 i hi d
    refine ⟨hX.k 6 i hi, ?_⟩
    have hX := hX.wi 6 1 i hi p
    refine ⟨hX.k 6 i hi, some (cA C 6 q), rfl, ?_⟩
    exact h _ (hX.wl 6 2 i (q + 1) hi hb (by decide))
def cGI (C : Cs) (i : Nat) (t f v : Int32) (b : Nat) : Cs := wL (wI (wI (wI C 7 0 i t) 7 1 i f) 7 2 i v) 7 3 i b
def sp_WageInit : Sp := fun as w K => ∃ C i a t f v b, as = [.ref a, .int t, .int f, .int v, va_rf (adO C 7 b)] ∧ RX C w ∧ (i < cN C 7 ∧ cA C 7 i = a ∧ b ≤ cN C 7) ∧ ∀ w', RX (cGI C i t f v b) w' → K none w'
theorem c_WageInit (l : Launch) : Ct l 40 1 0 0 sp_WageInit := by
  refine ct_jd (by decide) rfl (fun as w Po h => ?_)
  obtain ⟨C, i, a, t, f, v, b, rfl, hX, ⟨hi, rfl, hb⟩, h⟩ := h
  cases b with
  | zero =>
    refine ⟨Nat.le_of_ble_eq_true rfl, jd_run cdo_40 ev0 40 z00 ?_⟩
    refine ⟨rfl, by decide, hX.k 7 i hi, ?_⟩
    have hX := hX.wi 7 0 i hi t
    refine ⟨hX.k 7 i hi, ?_⟩
    have hX := hX.wi 7 1 i hi f
    refine ⟨hX.k 7 i hi, ?_⟩
    have hX := hX.wi 7 2 i hi v
    refine ⟨hX.k 7 i hi, none, rfl, ?_⟩
    exact h _ (hX.wl 7 3 i 0 hi hb (by decide))
  | succ q =>
    refine ⟨Nat.le_of_ble_eq_true rfl, jd_run cdo_40 ev0 40 z00 ?_⟩
    refine ⟨rfl, by decide, hX.k 7 i hi, ?_⟩
    have hX := hX.wi 7 0 i hi t
    refine ⟨hX.k 7 i hi, ?_⟩
    have hX := hX.wi 7 1 i hi f
    refine ⟨hX.k 7 i hi, ?_⟩
    have hX := hX.wi 7 2 i hi v
    refine ⟨hX.k 7 i hi, some (cA C 7 q), rfl, ?_⟩
    exact h _ (hX.wl 7 3 i (q + 1) hi hb (by decide))
def cHome (C : Cs) (a n : Nat) (r o b y : Int32) : Cs := wI (wL (cHI (wN C 1 a) n (nI n) r o b y) 25 n 0 (n + 1)) 9 9 0 (nI (n + 1))
def sp_chome : Sp := fun as w K => ∃ C r o b y n, as = [.ref (cA C 9 0), .int r, .int o, .int b, .int y] ∧ RX C w ∧ FX C ∧ NB C 25 1 9 9 n ∧ (okHome r o b y n → ∀ a w', RX (cHome C a n r o b y) w' → K (some (.int (nI n))) w') ∧ (¬ okHome r o b y n → K (some (.int (-1))) w)
theorem c_homeT (l : Launch) (Po : Option Value → Hp → Prop) (C : Cs) (r o b y : Int32) (n : Nat) : ∀ E w2 z, RX E w2 → cA E 9 0 = cA C 9 0 → cA E 1 n = z → n < cN E 1 → FX E → cI E 9 9 0 = nI n → cI E 1 0 n = nI n → n < 9 → (∀ w', RX (wI (wL E 25 n 0 (n + 1)) 9 9 0 (nI (n + 1))) w' → Po (some (.int (nI n))) w') → Jd l 4 2 1 12 (some .int) Po 76 [(0, .ref (cA C 9 0)), (1, .int r), (2, .int o), (3, .int b), (4, .int y)] [.ref z] w2 1 12 := by
  have hev : ∀ (k : Nat) (r : Nat × Nat × Nat × Sp), evL [(5, 1, 0, 0, sp_HomeInit)] k = some r → Ct l k r.1 r.2.1 r.2.2.1 r.2.2.2 := evL_ok (by simpa using c_HomeInit l)
  intro E w2 z hX eA ha hi hF1 e99 e0 hn9' h1
  refine jd_s cdo_4 hev [] 40 ⟨by decide, by decide⟩ ?_
  refine ⟨hX.k' 9 0 eA hF1.x, some (cA E 25 0), (hX.gr' 9 2 0 eA (by decide) hF1.x rfl).trans (by rw [hF1.l2]; rfl), hX.k' 9 0 eA hF1.x, _, (hX.gi' 9 9 0 eA (by decide) hF1.x rfl).trans e99, ?_⟩
  refine ⟨25, ⟨hX.k 25 0 (by rw [hX.qc 25 (by decide) (by decide)]; decide), by decide, by decide, hX.k' 1 n ha hi⟩, n, hX.ix 25 (by decide) (by decide) rfl hn9', ?_⟩
  have hX := hX.wq' 25 n n rfl ha (by decide) (by decide) hi
  refine ⟨hX.k' 9 0 eA hF1.x, _, (hX.gi' 9 9 0 eA (by decide) hF1.x rfl).trans e99, hX.k' 9 0 eA hF1.x, ?_⟩
  have hX := hX.wi' 9 9 0 eA hF1.x (nI n + 1)
  refine ⟨hX.k' 1 n ha hi, _, (hX.gi' 1 0 n ha (by decide) hi rfl).trans e0, ?_⟩
  refine h1 _ ?_
  rw [← nI_1]
  exact hX
theorem cHI_fx {D : Cs} (hF : FX D) (i : Nat) (n r o b v : Int32) : FX (cHI D i n r o b v) := hF
theorem cHI_A (D : Cs) (i : Nat) (n r o b v : Int32) : cA (cHI D i n r o b v) = cA D := rfl
theorem cHI_N (D : Cs) (i : Nat) (n r o b v : Int32) : cN (cHI D i n r o b v) = cN D := rfl
theorem cHI_9 (D : Cs) (i : Nat) (n r o b v : Int32) (k : Nat) : cI (cHI D i n r o b v) 9 k 0 = cI D 9 k 0 := by simp [cHI, cI_wI]
theorem cHI_0 (D : Cs) (i : Nat) (n r o b v : Int32) : cI (cHI D i n r o b v) 1 0 i = n := by simp [cHI, cI_wI]
theorem c_homeM (l : Launch) (Po : Option Value → Hp → Prop) (C : Cs) (r o b y : Int32) (n : Nat) (w : Hp) (hX : RX C w) (hF : FX C) (hN : NB C 25 1 9 9 n) (hn9 : n < 9) (h1 : ∀ a w', RX (cHome C a n r o b y) w' → Po (some (.int (nI n))) w') : Jd l 4 2 1 12 (some .int) Po 60 [(0, .ref (cA C 9 0)), (1, .int r), (2, .int o), (3, .int b), (4, .int y)] [] w 0 0 := by
  have hev : ∀ (k : Nat) (r : Nat × Nat × Nat × Sp), evL [(5, 1, 0, 0, sp_HomeInit)] k = some r → Ct l k r.1 r.2.1 r.2.2.1 r.2.2.2 := evL_ok (by simpa using c_HomeInit l)
  obtain ⟨hn, -, hc, hr⟩ := hN
  have h1 := h1 (gZ w)
  have hX1 := hX.new 1 (by decide)
  have ha : cA (wN C 1 (gZ w)) 1 n = gZ w := by rw [← hc]; exact cA_new C 1 _
  have hi : n < cN (wN C 1 (gZ w)) 1 := by have := cN_new C 1 (gZ w); rw [hc] at this; exact this
  have hF1 : FX (wN C 1 (gZ w)) := FX_wN hF 1 _ (by decide)
  have eA : cA (wN C 1 (gZ w)) 9 0 = cA C 9 0 := cA_wNt (by decide)
  have e99 : cI (wN C 1 (gZ w)) 9 9 0 = nI n := (cI_wNt (by decide)).trans hn
  rw [cHome] at h1
  refine jd_s cdo_4 hev [76] 40 ⟨by decide, by decide⟩ ?_
  refine ⟨⟨by decide, by decide⟩, ?_⟩
  refine ⟨hX1.k' 9 0 eA hF1.x, _, (hX1.gi' 9 9 0 eA (by decide) hF1.x rfl).trans e99, ?_⟩
  refine ⟨⟨by decide, by decide, by decide⟩, rfl, wN C 1 (gZ w), n, gZ w, nI n, r, o, b, y, rfl, hX1, ⟨hi, ha⟩, fun w2 hX => ?_⟩
  exact c_homeT l Po C r o b y n (cHI (wN C 1 (gZ w)) n (nI n) r o b y) w2 (gZ w) hX (by rw [cHI_A]; exact eA) (by rw [cHI_A]; exact ha) (by rw [cHI_N]; exact hi) (cHI_fx hF1 _ _ _ _ _ _) (by rw [cHI_9]; exact e99) (cHI_0 _ _ _ _ _ _ _) hn9 h1
theorem c_home (l : Launch) : Ct l 4 2 1 12 sp_chome := by
  have hev : ∀ (k : Nat) (r : Nat × Nat × Nat × Sp), evL [(5, 1, 0, 0, sp_HomeInit)] k = some r → Ct l k r.1 r.2.1 r.2.2.1 r.2.2.2 := evL_ok (by simpa using c_HomeInit l)
  refine ct_jd (by decide) rfl (fun as w Po h => ?_)
  obtain ⟨C, r, o, b, y, n, rfl, hX, hF, hN, h1, h2⟩ := h
  have hn := hN.1
  have hn9 := hN.2.1
  refine ⟨Nat.le_of_ble_eq_true rfl, jd_s cdo_4 hev [60] 80 ⟨by decide, by decide⟩ ?_⟩
  refine ⟨fun c => h2 (fun q => lt_nle c q.1.1), fun c1 => ⟨fun c => h2 (fun q => lt_nle c q.1.2), fun c2 => ⟨fun c => h2 (fun q => lt_nle c q.2.1.1), fun c3 => ⟨fun c4 => ?_, fun c => h2 (fun q => c q.2.1.2)⟩⟩⟩⟩
  refine ⟨fun c => h2 (fun q => lt_nle c q.2.2.1.1), fun c5 => ⟨fun c => h2 (fun q => lt_nle c q.2.2.1.2), fun c6 => ⟨fun c => h2 (fun q => lt_nle c q.2.2.2.1.1), fun c7 => ⟨fun c8 => ?_, fun c => h2 (fun q => c q.2.2.2.1.2)⟩⟩⟩⟩
  refine ⟨hX.k 9 0 hF.x, _, (hX.gi 9 9 0 (by decide) hF.x rfl).trans hn, fun c9 => ?_, fun c => h2 (fun q => c ((nI_ltI (a := n) (b := 9) (by omega) (by omega)).mpr q.2.2.2.2))⟩
  have hn9' : n < 9 := (nI_ltI (a := n) (b := 9) (by omega) (by omega)).mp c9
  have hok : okHome r o b y n := ⟨⟨nlt_le c1, nlt_le c2⟩, ⟨nlt_le c3, c4⟩, ⟨nlt_le c5, nlt_le c6⟩, ⟨nlt_le c7, c8⟩, hn9'⟩
  exact c_homeM l Po C r o b y n w hX hF hN hn9' (h1 hok)
