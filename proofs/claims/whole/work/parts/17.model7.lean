/-! the reference: count, counts, recall, of -/
theorem br1n {A B : Prop} (h : A) : (¬ (1 : Int32) = 0 → A) ∧ ((1 : Int32) = 0 → B) := ⟨fun _ => h, fun z => absurd z (by decide)⟩
theorem br0n {A B : Prop} (h : B) : (¬ (0 : Int32) = 0 → A) ∧ ((0 : Int32) = 0 → B) := ⟨fun z => absurd rfl z, fun _ => h⟩
def bkP (M : Ms) : Nat → Bool := fun k => !decide (M 39 k = 0)
def countA (M : Ms) (nl nw c : Nat) : Int32 := match c with
  | 0 => M 25 0
  | 1 => M 24 0
  | 2 => M 16 0
  | 3 => M 6 0
  | 4 => M 26 0
  | 5 => M 40 0
  | 6 => nI (cn (bkP M) nw)
  | _ => nI (cn (outP M) nl)
def sp_count : Sp := fun as w K => ∃ m0 M x nl nw, as = [.ref m0, .int x] ∧ RM m0 M w ∧ (M 16 0 = nI nl ∧ nl ≤ 60) ∧ (M 40 0 = nI nw ∧ nw ≤ 100) ∧ ∀ w', RM m0 (m41 M) w' → (∀ c, c < 8 → x = nI c → K (some (.int (countA M nl nw c))) w') ∧ ((¬ ∃ c, c < 8 ∧ x = nI c) → K (some (.int (-1))) w')
theorem c_mcount (l : Launch) : Ct l 99 2 0 0 sp_count := by
  refine ct_jd (by decide) rfl (fun as w Po h => ?_)
  obtain ⟨m0, M, x, nl, nw, rfl, hM0, ⟨hn, hn2⟩, ⟨hv, hv2⟩, h⟩ := h
  have hM := hM0.si 41 rfl 0
  obtain ⟨h1, h2⟩ := h _ hM
  refine ⟨Nat.le_of_ble_eq_true rfl, jd_for cdo_99 (evL_ok (L := [(100, 1, 0, 0, sp_outMany)]) (by simpa using c_outMany l)) 40 40 88 (fun d L S w' nc ns => S = [] ∧ nc = 0 ∧ ns = 0 ∧ w' = sI w 10 41 m0 0 ∧ x = nI 6 ∧ ∃ i, i + d = nw ∧ L = [(3, .int (nI i)), (2, .int (nI (cn (bkP M) i))), (0, .ref m0), (1, .int x)]) ⟨Nat.le_refl _, Nat.le_refl _⟩ ?_ ?_ ?_⟩
  · rintro d L S w' nc ns ⟨-, rfl, rfl, -⟩
    exact ⟨Nat.le_refl _, Nat.le_refl _⟩
  · rintro d L S w' nc ns ⟨rfl, rfl, rfl, rfl, hx6, i, hi, rfl⟩
    refine ⟨hM.k, _, (hM.ri _ rfl).trans hv, fun c => ?_, fun c => ?_⟩
    · have hin : i = nw := by have := ge_n (by omega) (by omega) c; omega
      subst hin
      exact h1 6 (by decide) hx6
    · have hin := nge_n (by omega) c
      refine ⟨hM.k, _, hM.rf _ rfl, hM.kd _ rfl, i, _, hM.ix _ rfl rfl (show i < 100 by omega), hM.rd _ rfl i, fun c2 => ?_, fun c2 => ?_⟩
      · have c2 : M 39 i = 0 := c2
        refine ⟨d - 1, by omega, rfl, rfl, rfl, rfl, hx6, i + 1, by omega, ?_⟩
        rw [cn_n (show ¬ bkP M i = true by simp [bkP, c2]), ← nI_1]
        rfl
      · have c2 : ¬ M 39 i = 0 := c2
        refine ⟨d - 1, by omega, rfl, rfl, rfl, rfl, hx6, i + 1, by omega, ?_⟩
        rw [cn_y (show bkP M i = true by simp [bkP, c2]), ← nI_1, ← nI_1]
        rfl
  · refine ⟨hM0.k, ?_⟩
    refine ⟨fun z => h2 (tw_out (n := 8) (by decide) z rfl rfl), fun z => ?_, fun z => ?_, fun z => ?_, fun z => ?_, fun z => ?_, fun z => ?_, fun z => ?_, fun z => ?_, trivial⟩
    · exact ⟨hM.k, _, hM.ri _ rfl, h1 0 (by decide) (ti_n (by decide) (by omega))⟩
    · exact ⟨hM.k, _, hM.ri _ rfl, h1 1 (by decide) (ti_n (by decide) (by omega))⟩
    · exact ⟨hM.k, _, hM.ri _ rfl, h1 2 (by decide) (ti_n (by decide) (by omega))⟩
    · exact ⟨hM.k, _, hM.ri _ rfl, h1 3 (by decide) (ti_n (by decide) (by omega))⟩
    · exact ⟨hM.k, _, hM.ri _ rfl, h1 4 (by decide) (ti_n (by decide) (by omega))⟩
    · exact ⟨hM.k, _, hM.ri _ rfl, h1 5 (by decide) (ti_n (by decide) (by omega))⟩
    · exact ⟨rfl, nw, rfl, rfl, rfl, rfl, ti_n (by decide) (by omega), 0, by omega, rfl⟩
    · exact ⟨⟨by decide, by decide, by decide⟩, rfl, hM.k, m0, _, nl, rfl, hM, ⟨hn, hn2⟩, h1 7 (by decide) (ti_n (by decide) (by omega))⟩
def sp_counts : Sp := fun as w K => ∃ m0 M x y nh nw, as = [.ref m0, .int x, .int y] ∧ RM m0 M w ∧ (M 24 0 = nI nh ∧ nh ≤ 9) ∧ (M 40 0 = nI nw ∧ nw ≤ 100) ∧ (∀ k, k < nw → wOK M k) ∧ ∀ w', RM m0 (m41 M) w' → (∀ h, h < nh → x = nI h → (y = 0 → K (some (.int (nI (cn (cofP M h false) nw)))) w') ∧ (y = 1 → K (some (.int (nI (cn (cofP M h true) nw)))) w')) ∧ ((¬ ((∃ h, h < nh ∧ x = nI h) ∧ (y = 0 ∨ y = 1))) → K (some (.int (-1))) w')
theorem c_mcounts (l : Launch) : Ct l 124 3 0 0 sp_counts := by
  refine ct_jd (by decide) rfl (fun as w Po h => ?_)
  obtain ⟨m0, M, x, y, nh, nw, rfl, hM, ⟨hh, hh2⟩, ⟨hv, hv2⟩, hw, h⟩ := h
  refine ⟨Nat.le_of_ble_eq_true rfl, jd_run cdo_124 (evL_ok (L := [(85, 1, 0, 0, sp_in), (125, 2, 0, 0, sp_countOf)]) (by simpa using ⟨c_in l, c_countOf l⟩)) 60 ⟨Nat.le_refl _, Nat.le_refl _⟩ ?_⟩
  refine ⟨hM.k, ?_⟩
  have hM := hM.si 41 rfl 0
  obtain ⟨h1, h2⟩ := h _ hM
  refine ⟨hM.k, _, (hM.ri _ rfl).trans hh, ?_⟩
  have e2 : (0 ≤ y ∧ y ≤ 1) ↔ ∃ c, c < 2 ∧ y = nI c := pr_n (n := 2) (by decide) y
  refine ⟨⟨by decide, by decide, by decide⟩, rfl, Nat.le_of_ble_eq_true rfl, x, 0, _, rfl, fun c => br1 ?_, fun c => br0 (h2 (fun z => c ((pr_n (by omega) x).mpr z.1)))⟩
  obtain ⟨hm, hhm, hx⟩ := (pr_n (by omega) x).mp c
  refine ⟨⟨by decide, by decide, by decide⟩, rfl, Nat.le_of_ble_eq_true rfl, y, 0, 1, rfl, fun c => br1 ?_, fun c => br0 (h2 (fun z => c (e2.mpr (by rcases z.2 with rfl | rfl; exact ⟨0, by decide, rfl⟩; exact ⟨1, by decide, rfl⟩))))⟩
  obtain ⟨c', hc', hy⟩ := e2.mp c
  obtain ⟨g0, g1⟩ := h1 hm hhm hx
  refine ⟨fun c2 => ?_, fun c2 => ?_⟩
  · have hy0 : y = 0 := by
      rcases (show c' = 0 ∨ c' = 1 by omega) with rfl | rfl
      · exact hy
      · exact absurd hy c2
    exact ⟨⟨by decide, by decide, by decide⟩, rfl, hM.k, m0, _, hm, nw, false, by rw [hx]; rfl, hM, ⟨hv, hv2⟩, hw, g0 hy0⟩
  · exact ⟨⟨by decide, by decide, by decide⟩, rfl, hM.k, m0, _, hm, nw, true, by rw [hx]; rfl, hM, ⟨hv, hv2⟩, hw, g1 c2⟩
/-- a watch with a piece of the raw lot x -/
def rcP (M : Ms) (x : Int32) : Nat → Bool := fun k => decide (M 2 (pN (M 38 (3 * k))) = x ∨ M 2 (pN (M 38 (3 * k + 1))) = x ∨ M 2 (pN (M 38 (3 * k + 2))) = x)
def sp_recall : Sp := fun as w K => ∃ m0 M x nl nw, as = [.ref m0, .int x] ∧ RM m0 M w ∧ (M 16 0 = nI nl ∧ nl ≤ 60) ∧ (M 40 0 = nI nw ∧ nw ≤ 100) ∧ (∀ k, k < nw → wOK M k) ∧ ∀ w', RM m0 (m41 M) w' → ((∃ j, j < nl ∧ x = nI j) → K (some (.int (nI (cn (rcP M x) nw)))) w') ∧ ((¬ ∃ j, j < nl ∧ x = nI j) → K (some (.int (-1))) w')
theorem c_mrecall (l : Launch) : Ct l 127 3 0 0 sp_recall := by
  refine ct_jd (by decide) rfl (fun as w Po h => ?_)
  obtain ⟨m0, M, x, nl, nw, rfl, hM0, ⟨hn, hn2⟩, ⟨hv, hv2⟩, hw, h⟩ := h
  have hM := hM0.si 41 rfl 0
  obtain ⟨h1, h2⟩ := h _ hM
  refine ⟨Nat.le_of_ble_eq_true rfl, jd_for cdo_127 (evL_ok (L := [(91, 2, 0, 0, sp_isLot)]) (by simpa using c_isLot l)) 40 80 19 (fun d L S w' nc ns => S = [] ∧ nc = 0 ∧ ns = 0 ∧ w' = sI w 10 41 m0 0 ∧ (∃ j, j < nl ∧ x = nI j) ∧ ∃ i, i + d = nw ∧ L = [(3, .int (nI i)), (2, .int (nI (cn (rcP M x) i))), (0, .ref m0), (1, .int x)]) ⟨Nat.le_refl _, Nat.le_refl _⟩ ?_ ?_ ?_⟩
  · rintro d L S w' nc ns ⟨-, rfl, rfl, -⟩
    exact ⟨Nat.le_refl _, Nat.le_refl _⟩
  · rintro d L S w' nc ns ⟨rfl, rfl, rfl, rfl, hxl, i, hi, rfl⟩
    refine ⟨hM.k, _, (hM.ri _ rfl).trans hv, fun c => ?_, fun c => ?_⟩
    · have hin : i = nw := by have := ge_n (by omega) (by omega) c; omega
      subst hin
      exact h1 hxl
    · have hin := nge_n (by omega) c
      obtain ⟨p0, hp0, e0⟩ := hw i hin 0 (by decide)
      obtain ⟨p1, hp1, e1⟩ := hw i hin 1 (by decide)
      obtain ⟨p2, hp2, e2⟩ := hw i hin 2 (by decide)
      have e0 : M 38 (3 * i) = nI p0 := e0
      have hrc : rcP M x i = decide (M 2 p0 = x ∨ M 2 p1 = x ∨ M 2 p2 = x) := by
        unfold rcP
        rw [e0, e1, e2, pN_n (by omega), pN_n (by omega), pN_n (by omega)]
      have yes : (M 2 p0 = x ∨ M 2 p1 = x ∨ M 2 p2 = x) → cn (rcP M x) (i + 1) = cn (rcP M x) i + 1 := fun z => cn_y (by rw [hrc]; exact decide_eq_true z)
      have no : ¬ (M 2 p0 = x ∨ M 2 p1 = x ∨ M 2 p2 = x) → cn (rcP M x) (i + 1) = cn (rcP M x) i := fun z => cn_n (by rw [hrc]; simpa using z)
      refine ⟨hM.k, _, hM.rf _ rfl, hM.k, _, hM.rf _ rfl, hM.kd _ rfl, 3 * i, _, hM.ix _ rfl (n3 i) (show 3 * i < 300 by omega), (hM.rd _ rfl _).trans e0, hM.kd _ rfl, p0, _, hM.ix _ rfl rfl hp0, hM.rd _ rfl p0, fun c2 => ?_, fun c2 => ?_⟩
      · refine ⟨d - 1, by omega, rfl, rfl, rfl, rfl, hxl, i + 1, by omega, ?_⟩
        rw [yes (Or.inl c2), ← nI_1, ← nI_1]
        rfl
      · refine ⟨hM.k, _, hM.rf _ rfl, hM.k, _, hM.rf _ rfl, hM.kd _ rfl, 3 * i + 1, _, hM.ix _ rfl (by rw [n3, nI_1]) (show 3 * i + 1 < 300 by omega), (hM.rd _ rfl _).trans e1, hM.kd _ rfl, p1, _, hM.ix _ rfl rfl hp1, hM.rd _ rfl p1, fun c3 => ?_, fun c3 => ?_⟩
        · refine ⟨d - 1, by omega, rfl, rfl, rfl, rfl, hxl, i + 1, by omega, ?_⟩
          rw [yes (Or.inr (Or.inl c3)), ← nI_1, ← nI_1]
          rfl
        · refine ⟨hM.k, _, hM.rf _ rfl, hM.k, _, hM.rf _ rfl, hM.kd _ rfl, 3 * i + 2, _, hM.ix _ rfl (by rw [n3]; exact nI_add (3 * i) 2) (show 3 * i + 2 < 300 by omega), (hM.rd _ rfl _).trans e2, hM.kd _ rfl, p2, _, hM.ix _ rfl rfl hp2, hM.rd _ rfl p2, fun c4 => ?_, fun c4 => ?_⟩
          · refine ⟨d - 1, by omega, rfl, rfl, rfl, rfl, hxl, i + 1, by omega, ?_⟩
            rw [no (fun z => by rcases z with z | z | z; exact c2 z; exact c3 z; exact c4 z), ← nI_1]
            rfl
          · refine ⟨d - 1, by omega, rfl, rfl, rfl, rfl, hxl, i + 1, by omega, ?_⟩
            rw [yes (Or.inr (Or.inr c4)), ← nI_1, ← nI_1]
            rfl
  · refine ⟨hM0.k, ?_⟩
    exact ⟨⟨by decide, by decide, by decide⟩, rfl, hM.k, m0, _, x, nl, rfl, hM, ⟨hn, by omega⟩, fun j hj hx => br1n ⟨rfl, nw, rfl, rfl, rfl, rfl, ⟨j, hj, hx⟩, 0, by omega, rfl⟩, fun c => br0n (h2 c)⟩
/-- a lot that waits at home h -/
def wtP (M : Ms) (h : Nat) : Nat → Bool := fun l => decide (M 10 l = 2 ∧ M 11 l = nI h)
def ofA (M : Ms) (h nl c : Nat) : Int32 := match c with
  | 0 => M 18 h
  | 1 => M 19 h
  | 2 => M 20 h
  | 3 => M 21 h
  | 4 => M 22 h
  | 5 => M 23 h
  | _ => nI (cn (wtP M h) nl)
def sp_of : Sp := fun as w K => ∃ m0 M x y nh nl, as = [.ref m0, .int x, .int y] ∧ RM m0 M w ∧ (M 24 0 = nI nh ∧ nh ≤ 9) ∧ (M 16 0 = nI nl ∧ nl ≤ 60) ∧ ∀ w', RM m0 (m41 M) w' → (∀ h c, h < nh → c < 7 → x = nI h → y = nI c → K (some (.int (ofA M h nl c))) w') ∧ ((¬ ∃ h c, h < nh ∧ c < 7 ∧ x = nI h ∧ y = nI c) → K (some (.int (-1))) w')
theorem c_mof (l : Launch) : Ct l 104 2 0 0 sp_of := by
  refine ct_jd (by decide) rfl (fun as w Po h => ?_)
  obtain ⟨m0, M, x, y, nh, nl, rfl, hM0, ⟨hh, hh2⟩, ⟨hn, hn2⟩, h⟩ := h
  have hM := hM0.si 41 rfl 0
  obtain ⟨h1, h2⟩ := h _ hM
  refine ⟨Nat.le_of_ble_eq_true rfl, jd_for cdo_104 (evL_ok cIn) 40 40 113 (fun d L S w' nc ns => S = [] ∧ nc = 0 ∧ ns = 0 ∧ w' = sI w 10 41 m0 0 ∧ y = nI 6 ∧ ∃ hm i, hm < nh ∧ x = nI hm ∧ i + d = nl ∧ L = [(4, .int (nI i)), (3, .int (nI (cn (wtP M hm) i))), (0, .ref m0), (1, .int x), (2, .int y)]) ⟨Nat.le_refl _, Nat.le_refl _⟩ ?_ ?_ ?_⟩
  · rintro d L S w' nc ns ⟨-, rfl, rfl, -⟩
    exact ⟨Nat.le_refl _, Nat.le_refl _⟩
  · rintro d L S w' nc ns ⟨rfl, rfl, rfl, rfl, hy6, hm, i, hhm, hx, hi, rfl⟩
    refine ⟨hM.k, _, (hM.ri _ rfl).trans hn, fun c => ?_, fun c => ?_⟩
    · have hin : i = nl := by have := ge_n (by omega) (by omega) c; omega
      subst hin
      exact h1 hm 6 hhm (by decide) hx hy6
    · have hin := nge_n (by omega) c
      have no : ¬ (M 10 i = 2 ∧ M 11 i = x) → cn (wtP M hm) (i + 1) = cn (wtP M hm) i := fun z => cn_n (by simp only [wtP, decide_eq_true_eq]; rw [← hx]; exact z)
      refine ⟨hM.k, _, hM.rf _ rfl, hM.kd _ rfl, i, _, hM.ix _ rfl rfl (show i < 60 by omega), hM.rd _ rfl i, fun c2 => ?_, fun c2 => ?_⟩
      · refine ⟨d - 1, by omega, rfl, rfl, rfl, rfl, hy6, hm, i + 1, hhm, hx, by omega, ?_⟩
        rw [no (fun z => c2 z.1), ← nI_1]
        rfl
      · refine ⟨hM.k, _, hM.rf _ rfl, hM.kd _ rfl, i, _, hM.ix _ rfl rfl (show i < 60 by omega), hM.rd _ rfl i, fun c3 => ?_, fun c3 => ?_⟩
        · refine ⟨d - 1, by omega, rfl, rfl, rfl, rfl, hy6, hm, i + 1, hhm, hx, by omega, ?_⟩
          rw [no (fun z => c3 z.2), ← nI_1]
          rfl
        · refine ⟨d - 1, by omega, rfl, rfl, rfl, rfl, hy6, hm, i + 1, hhm, hx, by omega, ?_⟩
          rw [cn_y (p := wtP M hm) (n := i) (by simp only [wtP, decide_eq_true_eq]; rw [← hx]; exact ⟨c2, c3⟩), ← nI_1, ← nI_1]
          rfl
  · refine ⟨hM0.k, hM.k, _, (hM.ri _ rfl).trans hh, ?_⟩
    refine ⟨⟨by decide, by decide, by decide⟩, rfl, Nat.le_of_ble_eq_true rfl, x, 0, _, rfl, fun c => br1n ?_, fun c => br0n (h2 (fun ⟨hm, _, hhm, _, hx, _⟩ => c ((pr_n (by omega) x).mpr ⟨hm, hhm, hx⟩)))⟩
    obtain ⟨hm, hhm, hx⟩ := (pr_n (by omega) x).mp c
    refine ⟨fun z => h2 (fun ⟨_, c', _, hc, _, hy⟩ => tw_out (n := 7) (by decide) z rfl rfl ⟨c', hc, hy⟩), fun z => ?_, fun z => ?_, fun z => ?_, fun z => ?_, fun z => ?_, fun z => ?_, fun z => ?_, trivial⟩
    · exact ⟨hM.k, _, hM.rf _ rfl, hM.kd _ rfl, hm, _, hM.ix _ rfl hx (show hm < 9 by omega), hM.rd _ rfl hm, h1 hm 0 hhm (by decide) hx (ti_n (by decide) (by omega))⟩
    · exact ⟨hM.k, _, hM.rf _ rfl, hM.kd _ rfl, hm, _, hM.ix _ rfl hx (show hm < 9 by omega), hM.rd _ rfl hm, h1 hm 1 hhm (by decide) hx (ti_n (by decide) (by omega))⟩
    · exact ⟨hM.k, _, hM.rf _ rfl, hM.kd _ rfl, hm, _, hM.ix _ rfl hx (show hm < 9 by omega), hM.rd _ rfl hm, h1 hm 2 hhm (by decide) hx (ti_n (by decide) (by omega))⟩
    · exact ⟨hM.k, _, hM.rf _ rfl, hM.kd _ rfl, hm, _, hM.ix _ rfl hx (show hm < 9 by omega), hM.rd _ rfl hm, h1 hm 3 hhm (by decide) hx (ti_n (by decide) (by omega))⟩
    · exact ⟨hM.k, _, hM.rf _ rfl, hM.kd _ rfl, hm, _, hM.ix _ rfl hx (show hm < 9 by omega), hM.rd _ rfl hm, h1 hm 4 hhm (by decide) hx (ti_n (by decide) (by omega))⟩
    · exact ⟨hM.k, _, hM.rf _ rfl, hM.kd _ rfl, hm, _, hM.ix _ rfl hx (show hm < 9 by omega), hM.rd _ rfl hm, h1 hm 5 hhm (by decide) hx (ti_n (by decide) (by omega))⟩
    · exact ⟨rfl, nl, rfl, rfl, rfl, rfl, ti_n (by decide) (by omega), hm, 0, hhm, hx, by omega, rfl⟩
