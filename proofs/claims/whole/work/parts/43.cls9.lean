/-! THE CLASS: what is asked of the whole, of lots and homes -/
def cBr (C : Cs) : Nat → Int32
  | 0 => 0
  | n + 1 => cBr C n + cI C 1 6 n
def sp_broken : Sp := fun as w K => ∃ C n, as = [.ref (cA C 9 0)] ∧ RX C w ∧ FX C ∧ NB C 25 1 9 9 n ∧ K (some (.int (cBr C n))) w
theorem c_broken (l : Launch) : Ct l 31 2 0 0 sp_broken := by
  have hev : ∀ (k : Nat) (r : Nat × Nat × Nat × Sp), evL [(19, 1, 0, 0, sp_nb 25 1 9 9)] k = some r → Ct l k r.1 r.2.1 r.2.2.1 r.2.2.2 := evL_ok (by simpa using c_homeN l)
  refine ct_jd (by decide) rfl (fun as w Po h => ?_)
  obtain ⟨C, n, rfl, hX, hF, hN, h⟩ := h
  have hn := hN.2.1
  refine ⟨Nat.le_of_ble_eq_true rfl, ?_⟩
  have key : ∀ d i, i + d = n → Jd l 31 2 0 0 (some .int) Po 4 [(2, .int (nI i)), (1, .int (cBr C i)), (0, .ref (cA C 9 0))] [] w 0 0 := by
    intro d
    induction d with
    | zero =>
      intro i hi
      have e : i = n := by omega
      rw [e]
      exact jd_s cdo_31 hev [] 20 z00 ⟨hX.k 9 0 hF.x, _, (hX.gi 9 9 0 (by decide) hF.x rfl).trans hN.1, fun _ => h, fun c => absurd (nI_le (Nat.le_refl n) (by omega)) c⟩
    | succ d ih =>
      intro i hi
      refine jd_s cdo_31 hev [4] 40 z00 ⟨hX.k 9 0 hF.x, _, (hX.gi 9 9 0 (by decide) hF.x rfl).trans hN.1, fun c => ?_, fun _ => ?_⟩
      · have := ge_n (a := i) (b := n) (by omega) (by omega) c
        omega
      refine ⟨⟨by decide, by decide, by decide⟩, rfl, hX.k 9 0 hF.x, C, nI i, n, rfl, hX, hF, hN, fun j hj ej => ?_, fun q => absurd ⟨i, by omega, rfl⟩ q⟩
      obtain rfl : i = j := (nI_eq (by omega) (by omega)).mp ej
      have hi1 : i < cN C 1 := by rw [hN.2.2.1]; exact hj
      refine ⟨hX.k 1 i hi1, _, hX.gi 1 6 i (by decide) hi1 rfl, ?_⟩
      have := ih (i + 1) (by omega)
      rw [← nI_1] at this
      exact jd_pk [0, 1, 3] this
  refine jd_s cdo_31 hev [4] 10 z00 ?_
  exact key n 0 (by omega)
def bkC (C : Cs) : Nat → Bool := fun k => !decide (cI C 8 3 k = 0)
def sp_wback : Sp := fun as w K => ∃ C n, as = [.ref (cA C 9 0)] ∧ RX C w ∧ FX C ∧ NB C 26 8 10 100 n ∧ K (some (.int (nI (cn (bkC C) n)))) w
theorem c_wback (l : Launch) : Ct l 32 2 0 0 sp_wback := by
  have hev : ∀ (k : Nat) (r : Nat × Nat × Nat × Sp), evL [(33, 1, 0, 0, sp_nb 26 8 10 100)] k = some r → Ct l k r.1 r.2.1 r.2.2.1 r.2.2.2 := evL_ok (by simpa using c_watchN l)
  refine ct_jd (by decide) rfl (fun as w Po h => ?_)
  obtain ⟨C, n, rfl, hX, hF, hN, h⟩ := h
  have hn := hN.2.1
  refine ⟨Nat.le_of_ble_eq_true rfl, ?_⟩
  have key : ∀ d i, i + d = n → Jd l 32 2 0 0 (some .int) Po 4 [(2, .int (nI i)), (1, .int (nI (cn (bkC C) i))), (0, .ref (cA C 9 0))] [] w 0 0 := by
    intro d
    induction d with
    | zero =>
      intro i hi
      have e : i = n := by omega
      rw [e]
      exact jd_s cdo_32 hev [] 20 z00 ⟨hX.k 9 0 hF.x, _, (hX.gi 9 10 0 (by decide) hF.x rfl).trans hN.1, fun _ => h, fun c => absurd (nI_le (Nat.le_refl n) (by omega)) c⟩
    | succ d ih =>
      intro i hi
      refine jd_s cdo_32 hev [4] 40 z00 ⟨hX.k 9 0 hF.x, _, (hX.gi 9 10 0 (by decide) hF.x rfl).trans hN.1, fun c => ?_, fun _ => ?_⟩
      · have := ge_n (a := i) (b := n) (by omega) (by omega) c
        omega
      refine ⟨⟨by decide, by decide, by decide⟩, rfl, hX.k 9 0 hF.x, C, nI i, n, rfl, hX, hF, hN, fun j hj ej => ?_, fun q => absurd ⟨i, by omega, rfl⟩ q⟩
      obtain rfl : i = j := (nI_eq (by omega) (by omega)).mp ej
      have hi1 : i < cN C 8 := by rw [hN.2.2.1]; exact hj
      have := ih (i + 1) (by omega)
      refine ⟨hX.k 8 i hi1, _, hX.gi 8 3 i (by decide) hi1 rfl, fun c => ?_, fun c => ?_⟩
      · rw [cn_n (by simp [bkC, c]), ← nI_1] at this
        exact jd_pk [0, 2, 3] this
      · rw [cn_y (by simp [bkC, c]), ← nI_1, ← nI_1] at this
        exact jd_pk [0, 1, 3] this
  refine jd_s cdo_32 hev [4] 10 z00 ?_
  exact key n 0 (by omega)
def otC (C : Cs) : Nat → Bool := fun k => !decide (cI C 2 5 k = 0)
def sp_lout : Sp := fun as w K => ∃ C n, as = [.ref (cA C 9 0)] ∧ RX C w ∧ FX C ∧ NB C 24 2 8 60 n ∧ K (some (.int (nI (cn (otC C) n)))) w
theorem c_lout (l : Launch) : Ct l 34 2 0 0 sp_lout := by
  have hev : ∀ (k : Nat) (r : Nat × Nat × Nat × Sp), evL [(14, 1, 0, 0, sp_nb 24 2 8 60)] k = some r → Ct l k r.1 r.2.1 r.2.2.1 r.2.2.2 := evL_ok (by simpa using c_lotN l)
  refine ct_jd (by decide) rfl (fun as w Po h => ?_)
  obtain ⟨C, n, rfl, hX, hF, hN, h⟩ := h
  have hn := hN.2.1
  refine ⟨Nat.le_of_ble_eq_true rfl, ?_⟩
  have key : ∀ d i, i + d = n → Jd l 34 2 0 0 (some .int) Po 4 [(2, .int (nI i)), (1, .int (nI (cn (otC C) i))), (0, .ref (cA C 9 0))] [] w 0 0 := by
    intro d
    induction d with
    | zero =>
      intro i hi
      have e : i = n := by omega
      rw [e]
      exact jd_s cdo_34 hev [] 20 z00 ⟨hX.k 9 0 hF.x, _, (hX.gi 9 8 0 (by decide) hF.x rfl).trans hN.1, fun _ => h, fun c => absurd (nI_le (Nat.le_refl n) (by omega)) c⟩
    | succ d ih =>
      intro i hi
      refine jd_s cdo_34 hev [4] 40 z00 ⟨hX.k 9 0 hF.x, _, (hX.gi 9 8 0 (by decide) hF.x rfl).trans hN.1, fun c => ?_, fun _ => ?_⟩
      · have := ge_n (a := i) (b := n) (by omega) (by omega) c
        omega
      refine ⟨⟨by decide, by decide, by decide⟩, rfl, hX.k 9 0 hF.x, C, nI i, n, rfl, hX, hF, hN, fun j hj ej => ?_, fun q => absurd ⟨i, by omega, rfl⟩ q⟩
      obtain rfl : i = j := (nI_eq (by omega) (by omega)).mp ej
      have hi1 : i < cN C 2 := by rw [hN.2.2.1]; exact hj
      have := ih (i + 1) (by omega)
      refine ⟨hX.k 2 i hi1, _, hX.gi 2 5 i (by decide) hi1 rfl, fun c => ?_, fun c => ?_⟩
      · rw [cn_n (by simp [otC, c]), ← nI_1] at this
        exact jd_pk [0, 2, 3] this
      · rw [cn_y (by simp [otC, c]), ← nI_1, ← nI_1] at this
        exact jd_pk [0, 1, 3] this
  refine jd_s cdo_34 hev [4] 10 z00 ?_
  exact key n 0 (by omega)
def countC (C : Cs) (nl nh nw c : Nat) : Int32 := match c with
  | 0 => cI C 9 13 0
  | 1 => cI C 9 9 0
  | 2 => cI C 9 8 0
  | 3 => cI C 9 7 0
  | 4 => cBr C nh
  | 5 => cI C 9 10 0
  | 6 => nI (cn (bkC C) nw)
  | 7 => nI (cn (otC C) nl)
  | _ => -1
def sp_ccount : Sp := fun as w K => ∃ C x nl nh nw, as = [.ref (cA C 9 0), .int x] ∧ RX C w ∧ FX C ∧ NB C 24 2 8 60 nl ∧ NB C 25 1 9 9 nh ∧ NB C 26 8 10 100 nw ∧ (∀ c, c < 8 → x = nI c → K (some (.int (countC C nl nh nw c))) w) ∧ ((¬ ∃ c, c < 8 ∧ x = nI c) → K (some (.int (-1))) w)
theorem c_count (l : Launch) : Ct l 30 3 0 0 sp_ccount := by
  have hev : ∀ (k : Nat) (r : Nat × Nat × Nat × Sp), evL [(31, 2, 0, 0, sp_broken), (32, 2, 0, 0, sp_wback), (34, 2, 0, 0, sp_lout)] k = some r → Ct l k r.1 r.2.1 r.2.2.1 r.2.2.2 := evL_ok (by simpa using ⟨c_broken l, c_wback l, c_lout l⟩)
  refine ct_jd (by decide) rfl (fun as w Po h => ?_)
  obtain ⟨C, x, nl, nh, nw, rfl, hX, hF, hNl, hNh, hNw, h1, h2⟩ := h
  refine ⟨Nat.le_of_ble_eq_true rfl, jd_run cdo_30 hev 40 z00 ?_⟩
  refine ⟨fun z => h2 (fun ⟨c', hc, hy⟩ => tw_out (n := 8) (by decide) z rfl rfl ⟨c', hc, hy⟩), fun z => ?_, fun z => ?_, fun z => ?_, fun z => ?_, fun z => ?_, fun z => ?_, fun z => ?_, fun z => ?_, trivial⟩
  · exact ⟨hX.k 9 0 hF.x, _, hX.gi 9 13 0 (by decide) hF.x rfl, h1 0 (by decide) (ti_n (by decide) (by omega))⟩
  · exact ⟨hX.k 9 0 hF.x, _, hX.gi 9 9 0 (by decide) hF.x rfl, h1 1 (by decide) (ti_n (by decide) (by omega))⟩
  · exact ⟨hX.k 9 0 hF.x, _, hX.gi 9 8 0 (by decide) hF.x rfl, h1 2 (by decide) (ti_n (by decide) (by omega))⟩
  · exact ⟨hX.k 9 0 hF.x, _, hX.gi 9 7 0 (by decide) hF.x rfl, h1 3 (by decide) (ti_n (by decide) (by omega))⟩
  · exact ⟨⟨by decide, by decide, by decide⟩, rfl, hX.k 9 0 hF.x, C, nh, rfl, hX, hF, hNh, h1 4 (by decide) (ti_n (by decide) (by omega))⟩
  · exact ⟨hX.k 9 0 hF.x, _, hX.gi 9 10 0 (by decide) hF.x rfl, h1 5 (by decide) (ti_n (by decide) (by omega))⟩
  · exact ⟨⟨by decide, by decide, by decide⟩, rfl, hX.k 9 0 hF.x, C, nw, rfl, hX, hF, hNw, h1 6 (by decide) (ti_n (by decide) (by omega))⟩
  · exact ⟨⟨by decide, by decide, by decide⟩, rfl, hX.k 9 0 hF.x, C, nl, rfl, hX, hF, hNl, h1 7 (by decide) (ti_n (by decide) (by omega))⟩
def lotC (C : Cs) (l c : Nat) : Int32 := match c with
  | 0 => cI C 2 1 l
  | 1 => cI C 2 4 l
  | 2 => cI C 2 5 l
  | 3 => if cL C 2 6 l = 0 then -1 else cI C 1 0 (cL C 2 6 l - 1)
  | 4 => cI C 2 7 l
  | 5 => cI C 2 9 l
  | _ => -1
def sp_clot : Sp := fun as w K => ∃ C x y n, as = [.ref (cA C 9 0), .int x, .int y] ∧ RX C w ∧ FX C ∧ NB C 24 2 8 60 n ∧ (∀ j c, j < n → c < 6 → x = nI j → y = nI c → K (some (.int (lotC C j c))) w) ∧ ((¬ ∃ j c, j < n ∧ c < 6 ∧ x = nI j ∧ y = nI c) → K (some (.int (-1))) w)
theorem c_lot (l : Launch) : Ct l 35 2 0 0 sp_clot := by
  have hev : ∀ (k : Nat) (r : Nat × Nat × Nat × Sp), evL [(14, 1, 0, 0, sp_nb 24 2 8 60)] k = some r → Ct l k r.1 r.2.1 r.2.2.1 r.2.2.2 := evL_ok (by simpa using c_lotN l)
  refine ct_jd (by decide) rfl (fun as w Po h => ?_)
  obtain ⟨C, x, y, n, rfl, hX, hF, hN, h1, h2⟩ := h
  refine ⟨Nat.le_of_ble_eq_true rfl, jd_run cdo_35 hev 40 z00 ?_⟩
  refine ⟨⟨by decide, by decide, by decide⟩, rfl, hX.k 9 0 hF.x, C, x, n, rfl, hX, hF, hN, fun j hj ex => ?_, fun q => h2 (fun ⟨j, _, hj, _, e, _⟩ => q ⟨j, hj, e⟩)⟩
  have hj2 : j < cN C 2 := by rw [hN.2.2.1]; exact hj
  have h1 := fun c hc => h1 j c hj hc ex
  refine ⟨fun z => h2 (fun ⟨_, c', _, hc, _, hy⟩ => tw_out (n := 6) (by decide) z rfl rfl ⟨c', hc, hy⟩), fun z => ?_, fun z => ?_, fun z => ?_, fun z => ?_, fun z => ?_, fun z => ?_, trivial⟩
  · exact ⟨hX.k 2 j hj2, _, hX.gi 2 1 j (by decide) hj2 rfl, h1 0 (by decide) (ti_n (by decide) (by omega))⟩
  · exact ⟨hX.k 2 j hj2, _, hX.gi 2 4 j (by decide) hj2 rfl, h1 1 (by decide) (ti_n (by decide) (by omega))⟩
  · exact ⟨hX.k 2 j hj2, _, hX.gi 2 5 j (by decide) hj2 rfl, h1 2 (by decide) (ti_n (by decide) (by omega))⟩
  · have h3 := h1 3 (by decide) (ti_n (by decide) (by omega))
    rw [lotC] at h3
    cases e : cL C 2 6 j with
    | zero =>
      rw [if_pos e] at h3
      exact ⟨hX.k 2 j hj2, _, hX.g0 2 6 j (by decide) hj2 rfl e, h3⟩
    | succ ho =>
      have hh : ho < cN C 1 := hX.l1 2 6 j (by decide) hj2 rfl e
      rw [e, if_neg (Nat.succ_ne_zero ho)] at h3
      exact ⟨hX.k 2 j hj2, _, hX.g1 2 6 j (by decide) hj2 rfl e, hX.k 2 j hj2, _, hX.g1 2 6 j (by decide) hj2 rfl e, hX.k 1 ho hh, _, hX.gi 1 0 ho (by decide) hh rfl, h3⟩
  · exact ⟨hX.k 2 j hj2, _, hX.gi 2 7 j (by decide) hj2 rfl, h1 4 (by decide) (ti_n (by decide) (by omega))⟩
  · exact ⟨hX.k 2 j hj2, _, hX.gi 2 9 j (by decide) hj2 rfl, h1 5 (by decide) (ti_n (by decide) (by omega))⟩
def sp_cof : Sp := fun as w K => ∃ C x y n, as = [.ref (cA C 9 0), .int x, .int y] ∧ RX C w ∧ FX C ∧ NB C 25 1 9 9 n ∧ (∀ j c, j < n → c < 7 → x = nI j → y = nI c → K (some (.int (cI C 1 (c + 1) j))) w) ∧ ((¬ ∃ j c, j < n ∧ c < 7 ∧ x = nI j ∧ y = nI c) → K (some (.int (-1))) w)
theorem c_of (l : Launch) : Ct l 38 2 0 0 sp_cof := by
  have hev : ∀ (k : Nat) (r : Nat × Nat × Nat × Sp), evL [(19, 1, 0, 0, sp_nb 25 1 9 9)] k = some r → Ct l k r.1 r.2.1 r.2.2.1 r.2.2.2 := evL_ok (by simpa using c_homeN l)
  refine ct_jd (by decide) rfl (fun as w Po h => ?_)
  obtain ⟨C, x, y, n, rfl, hX, hF, hN, h1, h2⟩ := h
  refine ⟨Nat.le_of_ble_eq_true rfl, jd_run cdo_38 hev 40 z00 ?_⟩
  refine ⟨⟨by decide, by decide, by decide⟩, rfl, hX.k 9 0 hF.x, C, x, n, rfl, hX, hF, hN, fun j hj ex => ?_, fun q => h2 (fun ⟨j, _, hj, _, e, _⟩ => q ⟨j, hj, e⟩)⟩
  have hj2 : j < cN C 1 := by rw [hN.2.2.1]; exact hj
  have h1 := fun c hc => h1 j c hj hc ex
  refine ⟨fun z => h2 (fun ⟨_, c', _, hc, _, hy⟩ => tw_out (n := 7) (by decide) z rfl rfl ⟨c', hc, hy⟩), fun z => ?_, fun z => ?_, fun z => ?_, fun z => ?_, fun z => ?_, fun z => ?_, fun z => ?_, trivial⟩
  · exact ⟨hX.k 1 j hj2, _, hX.gi 1 1 j (by decide) hj2 rfl, h1 0 (by decide) (ti_n (by decide) (by omega))⟩
  · exact ⟨hX.k 1 j hj2, _, hX.gi 1 2 j (by decide) hj2 rfl, h1 1 (by decide) (ti_n (by decide) (by omega))⟩
  · exact ⟨hX.k 1 j hj2, _, hX.gi 1 3 j (by decide) hj2 rfl, h1 2 (by decide) (ti_n (by decide) (by omega))⟩
  · exact ⟨hX.k 1 j hj2, _, hX.gi 1 4 j (by decide) hj2 rfl, h1 3 (by decide) (ti_n (by decide) (by omega))⟩
  · exact ⟨hX.k 1 j hj2, _, hX.gi 1 5 j (by decide) hj2 rfl, h1 4 (by decide) (ti_n (by decide) (by omega))⟩
  · exact ⟨hX.k 1 j hj2, _, hX.gi 1 6 j (by decide) hj2 rfl, h1 5 (by decide) (ti_n (by decide) (by omega))⟩
  · exact ⟨hX.k 1 j hj2, _, hX.gi 1 7 j (by decide) hj2 rfl, h1 6 (by decide) (ti_n (by decide) (by omega))⟩
