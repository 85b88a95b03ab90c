/-! THE CLASS: what is asked of watches -/
def WK (C : Cs) (nw : Nat) : Prop := ∀ k i, k < nw → i < 3 → cL C 8 i k ≠ 0
def wPc (C : Cs) (i k : Nat) : Nat := cL C 8 i k - 1
theorem WK.e {C : Cs} {nw k i : Nat} (h : WK C nw) (hk : k < nw) (hi : i < 3) : cL C 8 i k = wPc C i k + 1 := by
  have := h k i hk hi
  unfold wPc
  omega
def hoC (C : Cs) (k : Nat) : Int32 := cI C 5 4 (wPc C 0 k) ||| cI C 5 4 (wPc C 1 k) ||| cI C 5 4 (wPc C 2 k)
def sp_hTW : Sp := fun as w K => ∃ C k nw, as = [.ref (cA C 8 k)] ∧ RX C w ∧ (k < nw ∧ cN C 8 = nw ∧ WK C nw) ∧ K (some (.int (hoC C k))) w
theorem c_hTW (l : Launch) : Ct l 70 1 0 0 sp_hTW := by
  refine ct_jd (by decide) rfl (fun as w Po h => ?_)
  obtain ⟨C, k, nw, rfl, hX, ⟨hk, hc, hW⟩, h⟩ := h
  have hk8 : k < cN C 8 := by rw [hc]; exact hk
  have p0 : wPc C 0 k < cN C 5 := hX.l1 8 0 k (by decide) hk8 rfl (hW.e hk (by decide))
  have p1 : wPc C 1 k < cN C 5 := hX.l1 8 1 k (by decide) hk8 rfl (hW.e hk (by decide))
  have p2 : wPc C 2 k < cN C 5 := hX.l1 8 2 k (by decide) hk8 rfl (hW.e hk (by decide))
  refine ⟨Nat.le_of_ble_eq_true rfl, jd_run cdo_70 ev0 40 z00 ?_⟩
  refine ⟨hX.k 8 k hk8, _, hX.g1 8 0 k (by decide) hk8 rfl (hW.e hk (by decide)), hX.k 5 _ p0, _, hX.gi 5 4 _ (by decide) p0 rfl, ?_⟩
  refine ⟨hX.k 8 k hk8, _, hX.g1 8 1 k (by decide) hk8 rfl (hW.e hk (by decide)), hX.k 5 _ p1, _, hX.gi 5 4 _ (by decide) p1 rfl, ?_⟩
  exact ⟨hX.k 8 k hk8, _, hX.g1 8 2 k (by decide) hk8 rfl (hW.e hk (by decide)), hX.k 5 _ p2, _, hX.gi 5 4 _ (by decide) p2 rfl, h⟩
def watchC (C : Cs) (k c : Nat) : Int32 := match c with
  | 0 => cI C 5 0 (wPc C 0 k)
  | 1 => cI C 5 0 (wPc C 1 k)
  | 2 => cI C 5 0 (wPc C 2 k)
  | 3 => if cI C 8 3 k = 0 then 0 else 1
  | 4 => hoC C k
  | _ => -1
def sp_cwatch : Sp := fun as w K => ∃ C x y n, as = [.ref (cA C 9 0), .int x, .int y] ∧ RX C w ∧ FX C ∧ NB C 26 8 10 100 n ∧ WK C n ∧ (∀ j c, j < n → c < 5 → x = nI j → y = nI c → K (some (.int (watchC C j c))) w) ∧ ((¬ ∃ j c, j < n ∧ c < 5 ∧ x = nI j ∧ y = nI c) → K (some (.int (-1))) w)
theorem c_watch (l : Launch) : Ct l 69 2 0 0 sp_cwatch := by
  have hev : ∀ (k : Nat) (r : Nat × Nat × Nat × Sp), evL [(33, 1, 0, 0, sp_nb 26 8 10 100), (70, 1, 0, 0, sp_hTW)] k = some r → Ct l k r.1 r.2.1 r.2.2.1 r.2.2.2 := evL_ok (by simpa using ⟨c_watchN l, c_hTW l⟩)
  refine ct_jd (by decide) rfl (fun as w Po h => ?_)
  obtain ⟨C, x, y, n, rfl, hX, hF, hN, hW, h1, h2⟩ := h
  refine ⟨Nat.le_of_ble_eq_true rfl, jd_run cdo_69 hev 40 z00 ?_⟩
  refine ⟨⟨by decide, by decide, by decide⟩, rfl, hX.k 9 0 hF.x, C, x, n, rfl, hX, hF, hN, fun j hj ex => ?_, fun q => h2 (fun ⟨j, _, hj, _, e, _⟩ => q ⟨j, hj, e⟩)⟩
  have hj2 : j < cN C 8 := by rw [hN.2.2.1]; exact hj
  have h1 := fun c hc => h1 j c hj hc ex
  have p0 : wPc C 0 j < cN C 5 := hX.l1 8 0 j (by decide) hj2 rfl (hW.e hj (by decide))
  have p1 : wPc C 1 j < cN C 5 := hX.l1 8 1 j (by decide) hj2 rfl (hW.e hj (by decide))
  have p2 : wPc C 2 j < cN C 5 := hX.l1 8 2 j (by decide) hj2 rfl (hW.e hj (by decide))
  refine ⟨fun z => h2 (fun ⟨_, c', _, hc, _, hy⟩ => tw_out (n := 5) (by decide) z rfl rfl ⟨c', hc, hy⟩), fun z => ?_, fun z => ?_, fun z => ?_, fun z => ?_, fun z => ?_, trivial⟩
  · exact ⟨hX.k 8 j hj2, _, hX.g1 8 0 j (by decide) hj2 rfl (hW.e hj (by decide)), hX.k 5 _ p0, _, hX.gi 5 0 _ (by decide) p0 rfl, h1 0 (by decide) (ti_n (by decide) (by omega))⟩
  · exact ⟨hX.k 8 j hj2, _, hX.g1 8 1 j (by decide) hj2 rfl (hW.e hj (by decide)), hX.k 5 _ p1, _, hX.gi 5 0 _ (by decide) p1 rfl, h1 1 (by decide) (ti_n (by decide) (by omega))⟩
  · exact ⟨hX.k 8 j hj2, _, hX.g1 8 2 j (by decide) hj2 rfl (hW.e hj (by decide)), hX.k 5 _ p2, _, hX.gi 5 0 _ (by decide) p2 rfl, h1 2 (by decide) (ti_n (by decide) (by omega))⟩
  · have h3 := h1 3 (by decide) (ti_n (by decide) (by omega))
    rw [watchC] at h3
    refine ⟨hX.k 8 j hj2, _, hX.gi 8 3 j (by decide) hj2 rfl, fun c => ?_, fun c => ?_⟩
    · rw [if_pos c] at h3; exact h3
    · rw [if_neg c] at h3; exact h3
  · exact ⟨⟨by decide, by decide, by decide⟩, rfl, hX.k 8 j hj2, C, j, n, rfl, hX, ⟨hj, hN.2.2.1, hW⟩, h1 4 (by decide) (ti_n (by decide) (by omega))⟩
def sp_cback : Sp := fun as w K => ∃ C x b n, as = [.ref (cA C 9 0), .int x, .int b] ∧ RX C w ∧ FX C ∧ NB C 26 8 10 100 n ∧ (b = 0 ∨ b = 1) ∧ (∀ j, j < n → x = nI j → ∀ w', RX (wI C 8 3 j b) w' → K (some (.int 1)) w') ∧ ((¬ ∃ j, j < n ∧ x = nI j) → K (some (.int 0)) w)
theorem c_back (l : Launch) : Ct l 71 2 0 0 sp_cback := by
  have hev : ∀ (k : Nat) (r : Nat × Nat × Nat × Sp), evL [(33, 1, 0, 0, sp_nb 26 8 10 100)] k = some r → Ct l k r.1 r.2.1 r.2.2.1 r.2.2.2 := evL_ok (by simpa using c_watchN l)
  refine ct_jd (by decide) rfl (fun as w Po h => ?_)
  obtain ⟨C, x, b, n, rfl, hX, hF, hN, hb, h1, h2⟩ := h
  refine ⟨Nat.le_of_ble_eq_true rfl, jd_run cdo_71 hev 40 z00 ?_⟩
  refine ⟨⟨by decide, by decide, by decide⟩, rfl, hX.k 9 0 hF.x, C, x, n, rfl, hX, hF, hN, fun j hj ex => ?_, fun q => ⟨Or.inl rfl, h2 q⟩⟩
  have hj2 : j < cN C 8 := by rw [hN.2.2.1]; exact hj
  exact ⟨hX.k 8 j hj2, hb, Or.inr rfl, h1 j hj ex _ (hX.wi 8 3 j hj2 b)⟩
def sp_wWB : Sp := fun as w K => ∃ C k nw x, as = [.ref (cA C 8 k), .int x] ∧ RX C w ∧ (k < nw ∧ cN C 8 = nw ∧ WK C nw) ∧ (hoC C k >>> (x &&& 31) &&& 1 = 1 → K (some (.int 1)) w) ∧ (¬ hoC C k >>> (x &&& 31) &&& 1 = 1 → K (some (.int 0)) w)
theorem c_wWB (l : Launch) : Ct l 74 2 0 0 sp_wWB := by
  have hev : ∀ (k : Nat) (r : Nat × Nat × Nat × Sp), evL [(70, 1, 0, 0, sp_hTW)] k = some r → Ct l k r.1 r.2.1 r.2.2.1 r.2.2.2 := evL_ok (by simpa using c_hTW l)
  refine ct_jd (by decide) rfl (fun as w Po h => ?_)
  obtain ⟨C, k, nw, x, rfl, hX, hk, h1, h2⟩ := h
  have hk8 : k < cN C 8 := by rw [hk.2.1]; exact hk.1
  refine ⟨Nat.le_of_ble_eq_true rfl, jd_run cdo_74 hev 40 z00 ?_⟩
  exact ⟨⟨by decide, by decide, by decide⟩, rfl, hX.k 8 k hk8, C, k, nw, rfl, hX, hk, fun c => ⟨Or.inl rfl, h2 c⟩, fun c => ⟨Or.inr rfl, h1 c⟩⟩
def cofC (C : Cs) (x : Int32) (bad : Bool) : Nat → Bool := fun k => decide ((hoC C k >>> (x &&& 31)) &&& 1 = 1) && (!bad || !decide (cI C 8 3 k = 0))
def sp_wOf : Sp := fun as w K => ∃ C x n, ∃ b : Bool, as = [.ref (cA C 9 0), .int x, .int (if b = true then 1 else 0)] ∧ RX C w ∧ FX C ∧ NB C 26 8 10 100 n ∧ WK C n ∧ K (some (.int (nI (cn (cofC C x b) n)))) w
theorem c_wOf (l : Launch) : Ct l 73 3 0 0 sp_wOf := by
  have hev : ∀ (k : Nat) (r : Nat × Nat × Nat × Sp), evL [(33, 1, 0, 0, sp_nb 26 8 10 100), (74, 2, 0, 0, sp_wWB)] k = some r → Ct l k r.1 r.2.1 r.2.2.1 r.2.2.2 := evL_ok (by simpa using ⟨c_watchN l, c_wWB l⟩)
  refine ct_jd (by decide) rfl (fun as w Po h => ?_)
  obtain ⟨C, x, n, b, rfl, hX, hF, hN, hW, h⟩ := h
  have hn := hN.2.1
  refine ⟨Nat.le_of_ble_eq_true rfl, ?_⟩
  have key : ∀ d i, i + d = n → Jd l 73 3 0 0 (some .int) Po 5 [(4, .int (nI i)), (3, .int (nI (cn (cofC C x b) i))), (0, .ref (cA C 9 0)), (1, .int x), (2, .int (if b = true then 1 else 0))] [] w 0 0 := by
    intro d
    induction d with
    | zero =>
      intro i hi
      have e : i = n := by omega
      rw [e]
      exact jd_s cdo_73 hev [] 20 z00 ⟨hX.k 9 0 hF.x, _, (hX.gi 9 10 0 (by decide) hF.x rfl).trans hN.1, fun _ => h, fun c => absurd (nI_le (Nat.le_refl n) (by omega)) c⟩
    | succ d ih =>
      intro i hi
      refine jd_s cdo_73 hev [5] 40 z00 ⟨hX.k 9 0 hF.x, _, (hX.gi 9 10 0 (by decide) hF.x rfl).trans hN.1, fun c => ?_, fun _ => ?_⟩
      · have := ge_n (a := i) (b := n) (by omega) (by omega) c
        omega
      refine ⟨⟨by decide, by decide, by decide⟩, rfl, hX.k 9 0 hF.x, C, nI i, n, rfl, hX, hF, hN, fun j hj ej => ?_, fun q => absurd ⟨i, by omega, rfl⟩ q⟩
      obtain rfl : i = j := (nI_eq (by omega) (by omega)).mp ej
      have hi1 : i < cN C 8 := by rw [hN.2.2.1]; exact hj
      have := ih (i + 1) (by omega)
      refine ⟨⟨by decide, by decide, by decide⟩, rfl, hX.k 8 i hi1, C, i, n, x, rfl, hX, ⟨hj, hN.2.2.1, hW⟩, fun c => br1 ?_, fun c => br0 ?_⟩
      · refine ⟨hX.k 8 i hi1, _, hX.gi 8 3 i (by decide) hi1 rfl, fun c3 => ?_, fun c3 => ?_⟩
        · rw [cn_y (show cofC C x b i = true by simp [cofC, c, c3]), ← nI_1, ← nI_1] at this
          exact jd_pk [0, 1, 3, 4, 5] this
        · cases b with
          | true =>
            rw [cn_n (show ¬ cofC C x true i = true by simp [cofC, c3]), ← nI_1] at this
            refine ⟨fun _ => ?_, fun z => absurd z (by decide)⟩
            exact jd_pk [0, 2, 3, 4, 5] this
          | false =>
            rw [cn_y (show cofC C x false i = true by simp [cofC, c]), ← nI_1, ← nI_1] at this
            refine ⟨fun z => absurd rfl z, fun _ => ?_⟩
            exact jd_pk [0, 1, 3, 4, 5] this
      · rw [cn_n (show ¬ cofC C x b i = true by simp [cofC, c]), ← nI_1] at this
        exact jd_pk [0, 2, 3, 4, 5] this
  refine jd_s cdo_73 hev [5] 10 z00 ?_
  exact key n 0 (by omega)
def sp_ccounts : Sp := fun as w K => ∃ C x y nh nw, as = [.ref (cA C 9 0), .int x, .int y] ∧ RX C w ∧ FX C ∧ NB C 25 1 9 9 nh ∧ NB C 26 8 10 100 nw ∧ WK C nw ∧ (∀ h, h < nh → x = nI h → (y = 0 → K (some (.int (nI (cn (cofC C x false) nw)))) w) ∧ (y = 1 → K (some (.int (nI (cn (cofC C x true) nw)))) w)) ∧ ((¬ ((∃ h, h < nh ∧ x = nI h) ∧ (y = 0 ∨ y = 1))) → K (some (.int (-1))) w)
theorem c_counts (l : Launch) : Ct l 72 4 0 0 sp_ccounts := by
  have hev : ∀ (k : Nat) (r : Nat × Nat × Nat × Sp), evL [(19, 1, 0, 0, sp_nb 25 1 9 9), (73, 3, 0, 0, sp_wOf)] k = some r → Ct l k r.1 r.2.1 r.2.2.1 r.2.2.2 := evL_ok (by simpa using ⟨c_homeN l, c_wOf l⟩)
  refine ct_jd (by decide) rfl (fun as w Po h => ?_)
  obtain ⟨C, x, y, nh, nw, rfl, hX, hF, hN, hNw, hW, h1, h2⟩ := h
  refine ⟨Nat.le_of_ble_eq_true rfl, jd_run cdo_72 hev 40 z00 ?_⟩
  refine ⟨⟨by decide, by decide, by decide⟩, rfl, hX.k 9 0 hF.x, C, x, nh, rfl, hX, hF, hN, fun j hj ex => ?_, fun q => h2 (fun z => q z.1)⟩
  obtain ⟨a0, a1⟩ := h1 j hj ex
  refine ⟨fun c => ?_, fun c => ⟨fun c2 => ?_, fun c2 => ?_⟩⟩
  · exact ⟨⟨by decide, by decide, by decide⟩, rfl, hX.k 9 0 hF.x, C, x, nw, false, rfl, hX, hF, hNw, hW, a0 ((i_eq _ _).mpr (by rw [c]; decide))⟩
  · exact ⟨⟨by decide, by decide, by decide⟩, rfl, hX.k 9 0 hF.x, C, x, nw, true, rfl, hX, hF, hNw, hW, a1 ((i_eq _ _).mpr (by rw [c2]; decide))⟩
  · refine h2 (fun z => z.2.elim (fun e => c ?_) (fun e => c2 ?_))
    · rw [e]; decide
    · rw [e]; decide
