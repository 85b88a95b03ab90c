/-! the reference: questions -/
theorem ti_n {y : Int32} {c : Nat} (hc : c < 2147483648) (h : y.toInt = (c : Int)) : y = nI c := by rw [i_eq, nI_toInt hc, h]
theorem tw_out {y : Int32} {n : Nat} (hn : n < 2147483648) {lo hi : Int} (h : y.toInt < lo ∨ hi < y.toInt) (h0 : lo = 0) (h1 : hi = (n : Int) - 1) : ¬ ∃ c, c < n ∧ y = nI c := by
  rintro ⟨c, hc, rfl⟩
  rw [nI_toInt (by omega)] at h
  omega
theorem two_eq {a b : Nat} {x : Int32} (ha : a < 2147483648) (hb : b < 2147483648) (h1 : x = nI a) (h2 : x = nI b) : a = b := (nI_eq ha hb).mp (h1.symm.trans h2)
/-- numbers of things: pieces, lots, homes, watches, in their bounds -/
def mCn (M : Ms) (np nl nh nw : Nat) : Prop := (M 6 0 = nI np ∧ np ≤ 300) ∧ (M 16 0 = nI nl ∧ nl ≤ 60) ∧ (M 24 0 = nI nh ∧ nh ≤ 9) ∧ (M 40 0 = nI nw ∧ nw ≤ 100)
def lotA (M : Ms) (l c : Nat) : Int32 := match c with
  | 0 => M 7 l
  | 1 => M 9 l
  | 2 => M 10 l
  | 3 => if M 10 l ≤ 0 then -1 else M 11 l
  | 4 => if M 10 l = 1 ∨ M 10 l = 3 then M 12 l else 0
  | 5 => if M 10 l = 2 then M 13 l else 0
  | _ => -1
def sp_lot : Sp := fun as w K => ∃ m0 M x y n, as = [.ref m0, .int x, .int y] ∧ RM m0 M w ∧ (M 16 0 = nI n ∧ n ≤ 60) ∧ (∀ j, j < n → ∃ k, k < 4 ∧ M 10 j = nI k) ∧
  (∀ w', RM m0 (m41 M) w' → (∀ j c, j < n → c < 6 → x = nI j → y = nI c → K (some (.int (lotA M j c))) w') ∧ ((¬ ∃ j c, j < n ∧ c < 6 ∧ x = nI j ∧ y = nI c) → K (some (.int (-1))) w'))
theorem c_mlot (l : Launch) : Ct l 101 3 0 0 sp_lot := by
  refine ct_jd (by decide) rfl (fun as w Po h => ?_)
  obtain ⟨m0, M, x, y, n, rfl, hM, ⟨hn, hn2⟩, hw, h⟩ := h
  refine ⟨Nat.le_of_ble_eq_true rfl, jd_run cdo_101 (evL_ok (L := [(91, 2, 0, 0, sp_isLot)]) (by simpa using c_isLot l)) 60 ⟨Nat.le_refl _, Nat.le_refl _⟩ ?_⟩
  refine ⟨hM.k, ?_⟩
  have hM := hM.si 41 rfl 0
  obtain ⟨h1, h2⟩ := h _ hM
  refine ⟨⟨by decide, by decide, by decide⟩, rfl, hM.k, m0, _, x, n, rfl, hM, ⟨hn, by omega⟩, fun j hj hx => ?_, fun c => ⟨fun z => absurd rfl z, fun _ => h2 (fun ⟨j, c', hj, _, hx, _⟩ => c ⟨j, hj, hx⟩)⟩⟩
  refine ⟨fun _ => ?_, fun z => absurd z (by decide)⟩
  obtain ⟨k, hk, hwk⟩ := hw j hj
  refine ⟨fun z => h2 (fun ⟨_, c', _, hc, _, hy⟩ => tw_out (n := 6) (by decide) z rfl rfl ⟨c', hc, hy⟩), fun z => ?_, fun z => ?_, fun z => ?_, fun z => ?_, fun z => ?_, fun z => ?_, trivial⟩
  · refine ⟨hM.k, _, hM.rf _ rfl, hM.kd _ rfl, j, _, hM.ix _ rfl hx (show j < 60 by omega), hM.rd _ rfl j, ?_⟩
    exact h1 j 0 hj (by decide) hx (ti_n (by decide) (by omega))
  · refine ⟨hM.k, _, hM.rf _ rfl, hM.kd _ rfl, j, _, hM.ix _ rfl hx (show j < 60 by omega), hM.rd _ rfl j, ?_⟩
    exact h1 j 1 hj (by decide) hx (ti_n (by decide) (by omega))
  · refine ⟨hM.k, _, hM.rf _ rfl, hM.kd _ rfl, j, _, hM.ix _ rfl hx (show j < 60 by omega), hM.rd _ rfl j, ?_⟩
    exact h1 j 2 hj (by decide) hx (ti_n (by decide) (by omega))
  · have h3 := h1 j 3 hj (by decide) hx (ti_n (by decide) (by omega))
    refine ⟨hM.k, _, hM.rf _ rfl, hM.kd _ rfl, j, _, hM.ix _ rfl hx (show j < 60 by omega), hM.rd _ rfl j, fun c => ?_, fun c => ?_⟩
    · have e : lotA M j 3 = -1 := if_pos c
      rw [e] at h3
      exact h3
    · have e : lotA M j 3 = M 11 j := if_neg c
      rw [e] at h3
      exact ⟨hM.k, _, hM.rf _ rfl, hM.kd _ rfl, j, _, hM.ix _ rfl hx (show j < 60 by omega), hM.rd _ rfl j, h3⟩
  · have h3 := h1 j 4 hj (by decide) hx (ti_n (by decide) (by omega))
    refine ⟨hM.k, _, hM.rf _ rfl, hM.kd _ rfl, j, _, hM.ix _ rfl hx (show j < 60 by omega), (hM.rd _ rfl j).trans hwk, by decide, fun c => ?_, fun c => ?_⟩
    · have e : lotA M j 4 = 0 := if_neg (by rw [hwk]; rcases (show k = 0 ∨ k = 1 ∨ k = 2 ∨ k = 3 by omega) with rfl | rfl | rfl | rfl <;> first | decide | exact absurd (by decide) c)
      rw [e] at h3
      exact h3
    · have e : lotA M j 4 = M 12 j := if_pos (by rw [hwk]; rcases (show k = 0 ∨ k = 1 ∨ k = 2 ∨ k = 3 by omega) with rfl | rfl | rfl | rfl <;> first | decide | exact absurd c (by decide))
      rw [e] at h3
      exact ⟨hM.k, _, hM.rf _ rfl, hM.kd _ rfl, j, _, hM.ix _ rfl hx (show j < 60 by omega), hM.rd _ rfl j, h3⟩
  · have h3 := h1 j 5 hj (by decide) hx (ti_n (by decide) (by omega))
    refine ⟨hM.k, _, hM.rf _ rfl, hM.kd _ rfl, j, _, hM.ix _ rfl hx (show j < 60 by omega), hM.rd _ rfl j, fun c => ?_, fun c => ?_⟩
    · have e : lotA M j 5 = 0 := if_neg c
      rw [e] at h3
      exact h3
    · have e : lotA M j 5 = M 13 j := if_pos c
      rw [e] at h3
      exact ⟨hM.k, _, hM.rf _ rfl, hM.kd _ rfl, j, _, hM.ix _ rfl hx (show j < 60 by omega), hM.rd _ rfl j, h3⟩
def sp_at : Sp := fun as w K => ∃ m0 M x y n, ∃ mn : Nat → Nat, as = [.ref m0, .int x, .int y] ∧ RM m0 M w ∧ (M 16 0 = nI n ∧ n ≤ 60) ∧ (∀ j, j < n → M 9 j = nI (mn j) ∧ mn j ≤ 300) ∧
  (∀ w', RM m0 (m41 M) w' → (∀ j i, j < n → i < mn j → x = nI j → y = nI i → K (some (.int (M 8 (300 * j + i)))) w') ∧ ((¬ ∃ j i, j < n ∧ i < mn j ∧ x = nI j ∧ y = nI i) → K (some (.int (-1))) w'))
theorem c_mat (l : Launch) : Ct l 102 3 0 0 sp_at := by
  refine ct_jd (by decide) rfl (fun as w Po h => ?_)
  obtain ⟨m0, M, x, y, n, mn, rfl, hM, ⟨hn, hn2⟩, hw, h⟩ := h
  refine ⟨Nat.le_of_ble_eq_true rfl, jd_run cdo_102 (evL_ok (L := [(91, 2, 0, 0, sp_isLot), (85, 1, 0, 0, sp_in)]) (by simpa using ⟨c_isLot l, c_in l⟩)) 60 ⟨Nat.le_refl _, Nat.le_refl _⟩ ?_⟩
  refine ⟨hM.k, ?_⟩
  have hM := hM.si 41 rfl 0
  obtain ⟨h1, h2⟩ := h _ hM
  refine ⟨⟨by decide, by decide, by decide⟩, rfl, hM.k, m0, _, x, n, rfl, hM, ⟨hn, by omega⟩, fun j hj hx => br1 ?_, fun c => br0 (h2 (fun ⟨j, _, hj, _, hx, _⟩ => c ⟨j, hj, hx⟩))⟩
  obtain ⟨hmj, hm3⟩ := hw j hj
  refine ⟨hM.k, _, hM.rf _ rfl, hM.kd _ rfl, j, _, hM.ix _ rfl hx (show j < 60 by omega), (hM.rd _ rfl j).trans hmj, ?_⟩
  refine ⟨⟨by decide, by decide, by decide⟩, rfl, Nat.le_of_ble_eq_true rfl, y, 0, _, rfl, fun c => br1 ?_, fun c => br0 (h2 (fun ⟨j', i, hj', hi, hx', hy⟩ => c ((pr_n (by omega) y).mpr ⟨i, by rw [two_eq (by omega) (by omega) hx hx']; exact hi, hy⟩)))⟩
  obtain ⟨i, hi, hy⟩ := (pr_n (by omega) y).mp c
  refine ⟨hM.k, _, hM.rf _ rfl, hM.kd _ rfl, 300 * j + i, _, hM.ix _ rfl (by rw [hx, hy, n300, nI_add]) (show 300 * j + i < 18000 by omega), hM.rd _ rfl _, ?_⟩
  exact h1 j i hj hi hx hy
def sp_piece : Sp := fun as w K => ∃ m0 M x y n, as = [.ref m0, .int x, .int y] ∧ RM m0 M w ∧ (M 6 0 = nI n ∧ n ≤ 300) ∧
  (∀ j c, j < n → c < 6 → x = nI j → y = nI c → ∀ w', RM m0 (m41 M) w' → K (some (.int (M c j))) w') ∧ ((¬ ∃ j c, j < n ∧ c < 6 ∧ x = nI j ∧ y = nI c) → ∀ w', RM m0 (u2 (m41 M) 41 0 1) w' → K (some (.int 0)) w')
theorem c_mpiece (l : Launch) : Ct l 103 3 0 0 sp_piece := by
  refine ct_jd (by decide) rfl (fun as w Po h => ?_)
  obtain ⟨m0, M, x, y, n, rfl, hM, ⟨hn, hn2⟩, h1, h2⟩ := h
  refine ⟨Nat.le_of_ble_eq_true rfl, jd_run cdo_103 (evL_ok cIn) 60 ⟨Nat.le_refl _, Nat.le_refl _⟩ ?_⟩
  refine ⟨hM.k, ?_⟩
  have hM := hM.si 41 rfl 0
  refine ⟨hM.k, _, (hM.ri _ rfl).trans hn, ?_⟩
  have e6 : (0 ≤ y ∧ y ≤ 5) ↔ ∃ c, c < 6 ∧ y = nI c := pr_n (n := 6) (by decide) y
  refine ⟨⟨by decide, by decide, by decide⟩, rfl, Nat.le_of_ble_eq_true rfl, x, 0, _, rfl, fun c => br1 ?_, fun c => br0 ?_⟩
  · obtain ⟨j, hj, hx⟩ := (pr_n (by omega) x).mp c
    refine ⟨⟨by decide, by decide, by decide⟩, rfl, Nat.le_of_ble_eq_true rfl, y, 0, 5, rfl, fun c2 => ⟨fun _ => ?_, fun z => absurd z (by decide)⟩, fun c2 => ⟨fun z => absurd rfl z, fun _ => ?_⟩⟩
    · obtain ⟨c', hc', hy⟩ := e6.mp c2
      have hyt : y.toInt = (c' : Int) := by rw [hy, nI_toInt (by omega)]
      refine ⟨fun z => ?_, fun z => ?_, fun z => ?_, fun z => ?_, fun z => ?_, fun z => ?_, trivial⟩
      · have hc5 : c' = 5 := by omega
        subst hc5
        exact ⟨hM.k, _, hM.rf _ rfl, hM.kd _ rfl, j, _, hM.ix _ rfl hx (show j < 300 by omega), hM.rd _ rfl j, h1 j 5 hj hc' hx hy _ hM⟩
      · have hc5 : c' = 0 := by omega
        subst hc5
        exact ⟨hM.k, _, hM.rf _ rfl, hM.kd _ rfl, j, _, hM.ix _ rfl hx (show j < 300 by omega), hM.rd _ rfl j, h1 j 0 hj hc' hx hy _ hM⟩
      · have hc5 : c' = 1 := by omega
        subst hc5
        exact ⟨hM.k, _, hM.rf _ rfl, hM.kd _ rfl, j, _, hM.ix _ rfl hx (show j < 300 by omega), hM.rd _ rfl j, h1 j 1 hj hc' hx hy _ hM⟩
      · have hc5 : c' = 2 := by omega
        subst hc5
        exact ⟨hM.k, _, hM.rf _ rfl, hM.kd _ rfl, j, _, hM.ix _ rfl hx (show j < 300 by omega), hM.rd _ rfl j, h1 j 2 hj hc' hx hy _ hM⟩
      · have hc5 : c' = 3 := by omega
        subst hc5
        exact ⟨hM.k, _, hM.rf _ rfl, hM.kd _ rfl, j, _, hM.ix _ rfl hx (show j < 300 by omega), hM.rd _ rfl j, h1 j 3 hj hc' hx hy _ hM⟩
      · have hc5 : c' = 4 := by omega
        subst hc5
        exact ⟨hM.k, _, hM.rf _ rfl, hM.kd _ rfl, j, _, hM.ix _ rfl hx (show j < 300 by omega), hM.rd _ rfl j, h1 j 4 hj hc' hx hy _ hM⟩
    · refine ⟨hM.k, ?_⟩
      exact h2 (fun ⟨_, c', _, hc', _, hy⟩ => c2 (e6.mpr ⟨c', hc', hy⟩)) _ (hM.si 41 rfl 1)
  · refine ⟨hM.k, ?_⟩
    exact h2 (fun ⟨j, _, hj, _, hx, _⟩ => c ((pr_n (by omega) x).mpr ⟨j, hj, hx⟩)) _ (hM.si 41 rfl 1)
