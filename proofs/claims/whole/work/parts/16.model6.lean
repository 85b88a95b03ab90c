/-! the reference: counting -/
theorem ge_n {a b : Nat} (ha : a < 2147483648) (hb : b < 2147483648) (c : nI b ≤ nI a) : b ≤ a := (nI_leI hb ha).mp c
theorem nge_n {a b : Nat} (ha : a < 2147483648) (c : ¬ nI b ≤ nI a) : a < b := by
  rcases Nat.lt_or_ge a b with q | q
  · exact q
  · exact absurd (nI_le q ha) c
/-- how many of the first n are so -/
def cn (p : Nat → Bool) : Nat → Nat
  | 0 => 0
  | n + 1 => cn p n + (if p n = true then 1 else 0)
theorem cn_y {p : Nat → Bool} {n : Nat} (h : p n = true) : cn p (n + 1) = cn p n + 1 := by simp [cn, h]
theorem cn_n {p : Nat → Bool} {n : Nat} (h : ¬ p n = true) : cn p (n + 1) = cn p n := by simp [cn, h]
theorem cn_le (p : Nat → Bool) : ∀ n, cn p n ≤ n
  | 0 => Nat.le_refl _
  | n + 1 => by
    have h := cn_le p n
    simp only [cn]
    split <;> omega
theorem cn_cong {p q : Nat → Bool} : ∀ {n : Nat}, (∀ i, i < n → p i = q i) → cn p n = cn q n
  | 0, _ => rfl
  | n + 1, h => by rw [cn, cn, cn_cong (fun i hi => h i (by omega)), h n (by omega)]
def outP (M : Ms) : Nat → Bool := fun l => decide (0 < M 10 l)
def sp_outMany : Sp := fun as w K => ∃ m0 M n, as = [.ref m0] ∧ RM m0 M w ∧ (M 16 0 = nI n ∧ n ≤ 60) ∧ K (some (.int (nI (cn (outP M) n)))) w
theorem c_outMany (l : Launch) : Ct l 100 1 0 0 sp_outMany := by
  refine ct_jd (by decide) rfl (fun as w Po h => ?_)
  obtain ⟨m0, M, n, rfl, hM, ⟨hn, hn2⟩, h⟩ := h
  refine ⟨Nat.le_of_ble_eq_true rfl, jd_for cdo_100 ev0 10 40 4 (fun d L S w' nc ns => S = [] ∧ nc = 0 ∧ ns = 0 ∧ w' = w ∧ ∃ i, i + d = n ∧ L = [(2, .int (nI i)), (1, .int (nI (cn (outP M) i))), (0, .ref m0)]) ⟨Nat.le_refl _, Nat.le_refl _⟩ ?_ ?_ ?_⟩
  · rintro d L S w' nc ns ⟨-, rfl, rfl, -⟩
    exact ⟨Nat.le_refl _, Nat.le_refl _⟩
  · rintro d L S w' nc ns ⟨rfl, rfl, rfl, rfl, i, hi, rfl⟩
    refine ⟨hM.k, _, (hM.ri _ rfl).trans hn, fun c => ?_, fun c => ?_⟩
    · have hin : i = n := by have := ge_n (by omega) (by omega) c; omega
      subst hin
      exact h
    · have hin := nge_n (by omega) c
      refine ⟨hM.k, _, hM.rf _ rfl, hM.kd _ rfl, i, _, hM.ix _ rfl rfl (show i < 60 by omega), hM.rd _ rfl i, fun c2 => ?_, fun c2 => ?_⟩
      · refine ⟨d - 1, by omega, rfl, rfl, rfl, rfl, i + 1, by omega, ?_⟩
        rw [cn_n (show ¬ outP M i = true by simp only [outP, decide_eq_true_eq]; exact le_nlt c2), ← nI_1]
        rfl
      · refine ⟨d - 1, by omega, rfl, rfl, rfl, rfl, i + 1, by omega, ?_⟩
        rw [cn_y (show outP M i = true by simp only [outP, decide_eq_true_eq]; exact nle_lt c2), ← nI_1, ← nI_1]
        rfl
  · exact ⟨rfl, n, rfl, rfl, rfl, rfl, 0, by omega, rfl⟩
/-- the homes that worked a watch's pieces -/
def hoW (M : Ms) (k : Nat) : Int32 := M 3 (pN (M 38 (3 * k))) ||| M 3 (pN (M 38 (3 * k + 1))) ||| M 3 (pN (M 38 (3 * k + 2)))
def wOK (M : Ms) (k : Nat) : Prop := ∀ i, i < 3 → ∃ p, p < 300 ∧ M 38 (3 * k + i) = nI p
def sp_hoW : Sp := fun as w K => ∃ m0 M k, as = [.ref m0, .int (nI k)] ∧ RM m0 M w ∧ (k < 100 ∧ wOK M k) ∧ K (some (.int (hoW M k))) w
theorem c_hoW (l : Launch) : Ct l 122 1 0 0 sp_hoW := by
  refine ct_jd (by decide) rfl (fun as w Po h => ?_)
  obtain ⟨m0, M, k, rfl, hM, ⟨hk, hw⟩, h⟩ := h
  obtain ⟨p0, hp0, e0⟩ := hw 0 (by decide)
  obtain ⟨p1, hp1, e1⟩ := hw 1 (by decide)
  obtain ⟨p2, hp2, e2⟩ := hw 2 (by decide)
  have e0 : M 38 (3 * k) = nI p0 := e0
  have hh : hoW M k = M 3 p0 ||| M 3 p1 ||| M 3 p2 := by
    unfold hoW
    rw [e0, e1, e2, pN_n (by omega), pN_n (by omega), pN_n (by omega)]
  rw [hh] at h
  refine ⟨Nat.le_of_ble_eq_true rfl, jd_run cdo_122 ev0 60 ⟨Nat.le_refl _, Nat.le_refl _⟩ ?_⟩
  refine ⟨hM.k, _, hM.rf _ rfl, hM.k, _, hM.rf _ rfl, hM.kd _ rfl, 3 * k, _, hM.ix _ rfl (n3 k) (show 3 * k < 300 by omega), (hM.rd _ rfl _).trans e0, hM.kd _ rfl, p0, _, hM.ix _ rfl rfl hp0, hM.rd _ rfl p0, ?_⟩
  refine ⟨hM.k, _, hM.rf _ rfl, hM.k, _, hM.rf _ rfl, hM.kd _ rfl, 3 * k + 1, _, hM.ix _ rfl (by rw [n3, nI_1]) (show 3 * k + 1 < 300 by omega), (hM.rd _ rfl _).trans e1, hM.kd _ rfl, p1, _, hM.ix _ rfl rfl hp1, hM.rd _ rfl p1, ?_⟩
  refine ⟨hM.k, _, hM.rf _ rfl, hM.k, _, hM.rf _ rfl, hM.kd _ rfl, 3 * k + 2, _, hM.ix _ rfl (by rw [n3]; exact nI_add (3 * k) 2) (show 3 * k + 2 < 300 by omega), (hM.rd _ rfl _).trans e2, hM.kd _ rfl, p2, _, hM.ix _ rfl rfl hp2, hM.rd _ rfl p2, ?_⟩
  exact h
/-- a watch that home h has worked; bad: that is back -/
def cofP (M : Ms) (h : Nat) (bad : Bool) : Nat → Bool := fun k => decide ((hoW M k >>> (nI h &&& 31)) &&& 1 = 1) && (!bad || !decide (M 39 k = 0))
def sp_countOf : Sp := fun as w K => ∃ m0 M h n, ∃ b : Bool, as = [.ref m0, .int (nI h), .int (if b = true then 1 else 0)] ∧ RM m0 M w ∧ (M 40 0 = nI n ∧ n ≤ 100) ∧ (∀ k, k < n → wOK M k) ∧ K (some (.int (nI (cn (cofP M h b) n)))) w
theorem c_countOf (l : Launch) : Ct l 125 2 0 0 sp_countOf := by
  refine ct_jd (by decide) rfl (fun as w Po h => ?_)
  obtain ⟨m0, M, hm, n, b, rfl, hM, ⟨hn, hn2⟩, hw, h⟩ := h
  refine ⟨Nat.le_of_ble_eq_true rfl, jd_for cdo_125 (evL_ok (L := [(122, 1, 0, 0, sp_hoW)]) (by simpa using c_hoW l)) 10 40 5 (fun d L S w' nc ns => S = [] ∧ nc = 0 ∧ ns = 0 ∧ w' = w ∧ ∃ i, i + d = n ∧ L = [(4, .int (nI i)), (3, .int (nI (cn (cofP M hm b) i))), (0, .ref m0), (1, .int (nI hm)), (2, .int (if b = true then 1 else 0))]) ⟨Nat.le_refl _, Nat.le_refl _⟩ ?_ ?_ ?_⟩
  · rintro d L S w' nc ns ⟨-, rfl, rfl, -⟩
    exact ⟨Nat.le_refl _, Nat.le_refl _⟩
  · rintro d L S w' nc ns ⟨rfl, rfl, rfl, rfl, i, hi, rfl⟩
    refine ⟨hM.k, _, (hM.ri _ rfl).trans hn, fun c => ?_, fun c => ?_⟩
    · have hin : i = n := by have := ge_n (by omega) (by omega) c; omega
      subst hin
      exact h
    · have hin := nge_n (by omega) c
      refine ⟨⟨by decide, by decide, by decide⟩, rfl, hM.k, m0, M, i, rfl, hM, ⟨by omega, hw i hin⟩, fun c2 => ?_, fun c2 => ?_⟩
      · refine ⟨d - 1, by omega, rfl, rfl, rfl, rfl, i + 1, by omega, ?_⟩
        rw [cn_n (show ¬ cofP M hm b i = true by simp only [cofP, Bool.and_eq_true, decide_eq_true_eq]; exact fun z => c2 z.1), ← nI_1]
        rfl
      · cases b with
        | false =>
          refine ⟨fun _ => ?_, fun z => absurd rfl z⟩
          refine ⟨d - 1, by omega, rfl, rfl, rfl, rfl, i + 1, by omega, ?_⟩
          rw [cn_y (show cofP M hm false i = true by simp only [cofP, Bool.and_eq_true, decide_eq_true_eq]; exact ⟨c2, rfl⟩), ← nI_1, ← nI_1]
          rfl
        | true =>
          refine ⟨fun z => absurd z (by decide), fun _ => ?_⟩
          refine ⟨hM.k, _, hM.rf _ rfl, hM.kd _ rfl, i, _, hM.ix _ rfl rfl (show i < 100 by omega), hM.rd _ rfl i, fun c3 => ?_, fun c3 => ?_⟩
          · refine ⟨d - 1, by omega, rfl, rfl, rfl, rfl, i + 1, by omega, ?_⟩
            rw [cn_n (show ¬ cofP M hm true i = true by simp [cofP, c3]), ← nI_1]
            rfl
          · refine ⟨d - 1, by omega, rfl, rfl, rfl, rfl, i + 1, by omega, ?_⟩
            rw [cn_y (show cofP M hm true i = true by simp [cofP, c2, c3]), ← nI_1, ← nI_1]
            rfl
  · exact ⟨rfl, n, rfl, rfl, rfl, rfl, 0, by omega, rfl⟩
