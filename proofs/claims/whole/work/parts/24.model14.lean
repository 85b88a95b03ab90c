/-! the reference: raw -/
/-- the i-th size, as it is tested -/
def szOK (f st : Int32) (i : Nat) : Prop := -100 ≤ f.toInt + (i : Int) * st.toInt ∧ f.toInt + (i : Int) * st.toInt ≤ 100
theorem i_rng (x : Int32) : -2147483648 ≤ x.toInt ∧ x.toInt < 2147483648 := by
  have h1 := Int32.le_toInt x
  have h2 := Int32.toInt_lt x
  omega
theorem bm64 {z : Int} (h1 : -9223372036854775808 ≤ z) (h2 : z < 9223372036854775808) : z.bmod (2 ^ 64) = z := by
  rw [Int.bmod_eq_of_le (by omega) (by omega)]
theorem sz64 (f st : Int32) (i : Nat) (hi : i < 1000) : (f.toInt64 + (nI i).toInt64 * st.toInt64).toInt = f.toInt + (i : Int) * st.toInt := by
  have hf := i_rng f
  have hs := i_rng st
  have e1 : (nI i).toInt64.toInt = (i : Int) := by rw [Int32.toInt_toInt64, nI_toInt (by omega)]
  have e2 : ((nI i).toInt64 * st.toInt64).toInt = (i : Int) * st.toInt := by
    have b1 : -2147483648 * 1000 ≤ (i : Int) * st.toInt := by
      have := Int.mul_le_mul_of_nonneg_left hs.1 (show (0 : Int) ≤ i by omega)
      omega
    have b2 : (i : Int) * st.toInt ≤ 2147483648 * 1000 := by
      have := Int.mul_le_mul_of_nonneg_left (show st.toInt ≤ 2147483648 by omega) (show (0 : Int) ≤ i by omega)
      omega
    rw [Int64.toInt_mul, e1, Int32.toInt_toInt64, bm64 (by omega) (by omega)]
  have b1 : -2147483648 * 1000 ≤ (i : Int) * st.toInt := by
    have := Int.mul_le_mul_of_nonneg_left hs.1 (show (0 : Int) ≤ i by omega)
    omega
  have b2 : (i : Int) * st.toInt ≤ 2147483648 * 1000 := by
    have := Int.mul_le_mul_of_nonneg_left (show st.toInt ≤ 2147483648 by omega) (show (0 : Int) ≤ i by omega)
    omega
  rw [Int64.toInt_add, e2, Int32.toInt_toInt64, bm64 (by omega) (by omega)]
theorem cmp_lt (x y : Int64) : lg_cmp x y < 0 ↔ x.toInt < y.toInt := by
  have h := lg_cmp_ge x y
  rw [Int64.le_iff_toInt_le] at h
  constructor
  · intro c
    rcases Int.lt_or_le x.toInt y.toInt with q | q
    · exact q
    · exact absurd (h.mpr q) (lt_nle c)
  · intro c
    refine nle_lt (fun z => ?_)
    have := h.mp z
    omega
theorem cmp_le (x y : Int64) : lg_cmp x y ≤ 0 ↔ x.toInt ≤ y.toInt := by
  unfold lg_cmp
  by_cases h1 : x > y
  · rw [if_pos h1]
    have : y.toInt < x.toInt := Int64.lt_iff_toInt_lt.mp h1
    constructor
    · intro c; exact absurd c (by decide)
    · intro c; omega
  · rw [if_neg h1]
    have h1 : x.toInt ≤ y.toInt := by
      rcases Int.lt_or_le y.toInt x.toInt with q | q
      · exact absurd (Int64.lt_iff_toInt_lt.mpr q) h1
      · exact q
    constructor
    · intro _; exact h1
    · intro _; split <;> decide
theorem one_pos {n : Int32} (h : 1 ≤ n) : ¬ n < 0 := by
  rw [i_lt]
  have h1 := (i_le 1 n).mp h
  have e : (1 : Int32).toInt = 1 := by decide
  have e0 : (0 : Int32).toInt = 0 := by decide
  omega
def mRawP (M : Ms) (l np : Nat) (k f st : Int32) : Nat → Ms
  | 0 => M
  | i + 1 => u2 (mAdd (u2 (u2 (u2 (u2 (u2 (mRawP M l np k f st i) 0 (np + i) k) 1 (np + i) (f + nI i * st)) 2 (np + i) (nI l)) 3 (np + i) 0) 4 (np + i) 0) l i (np + i)) 6 0 (nI (np + i + 1))
theorem mrp9 {M : Ms} {l np : Nat} {k f st : Int32} (h : M 9 l = 0) : ∀ i, mRawP M l np k f st i 9 l = nI i
  | 0 => h
  | i + 1 => by simp [mRawP, mAdd, u2]
theorem mrp6 {M : Ms} {l np : Nat} {k f st : Int32} (h : M 6 0 = nI np) : ∀ i, mRawP M l np k f st i 6 0 = nI (np + i)
  | 0 => h
  | i + 1 => by simp [mRawP, u2]; rfl
def okRaw (k n f st : Int32) (np nl n' : Nat) : Prop := (0 ≤ k ∧ k ≤ 2) ∧ (n = nI n' ∧ 1 ≤ n' ∧ n' ≤ 30) ∧ nl < 60 ∧ np + n' ≤ 300 ∧ ∀ i, i < n' → szOK f st i
def mRaw (M : Ms) (k f st : Int32) (np nl n' : Nat) : Ms := mRawP (mNewLot (m41 M) nl k) nl np k f st n'
def sp_raw : Sp := fun as w K => ∃ m0 M k n f st np nl, as = [.ref m0, .int k, .int n, .int f, .int st] ∧ RM m0 M w ∧ (M 6 0 = nI np ∧ np ≤ 300) ∧ (M 16 0 = nI nl ∧ nl ≤ 60) ∧
  (∀ n', okRaw k n f st np nl n' → ∀ w', RM m0 (mRaw M k f st np nl n') w' → K (some (.int (nI nl))) w') ∧ ((¬ ∃ n', okRaw k n f st np nl n') → ∀ w', RM m0 (m41 M) w' → K (some (.int (-1))) w')
theorem c_mraw (l : Launch) : Ct l 86 2 0 0 sp_raw := by
  have hev : ∀ (k : Nat) (r : Nat × Nat × Nat × Sp), evL [(85, 1, 0, 0, sp_in), (87, 1, 0, 0, sp_newLot), (88, 1, 0, 0, sp_add)] k = some r → Ct l k r.1 r.2.1 r.2.2.1 r.2.2.2 := evL_ok (by simpa using ⟨c_in l, c_newLot l, c_add l⟩)
  refine ct_jd (by decide) rfl (fun as w Po hq => ?_)
  obtain ⟨m0, M, k, n, f, st, np, nl, rfl, hM, ⟨hp, hp2⟩, ⟨hn, hn2⟩, h1, h2⟩ := hq
  refine ⟨Nat.le_of_ble_eq_true rfl, ?_⟩
  refine jd_s cdo_86 hev [50] 60 z00 ?_
  refine ⟨hM.k, ?_⟩
  have hM := hM.si 41 rfl 0
  have hM : RM m0 (m41 M) _ := hM
  refine ⟨⟨by decide, by decide, by decide⟩, rfl, Nat.le_of_ble_eq_true rfl, k, 0, 2, rfl, fun c1 => br1 ?_, fun c => br0 (h2 (fun ⟨_, z⟩ => c z.1) _ hM)⟩
  refine ⟨⟨by decide, by decide, by decide⟩, rfl, Nat.le_of_ble_eq_true rfl, n, 1, 30, rfl, fun c2 => br1 ?_, fun c => br0 (h2 (fun ⟨n', z⟩ => c (by rw [z.2.1.1]; exact ⟨nI_le (a := 1) z.2.1.2.1 (by have := z.2.1.2.2; omega), nI_le (b := 30) z.2.1.2.2 (by decide)⟩)) _ hM)⟩
  obtain ⟨n', hn', rfl⟩ : ∃ n' : Nat, n' < 2 ^ 31 ∧ n = nI n' := nI_of (one_pos c2.1)
  have hn1 : 1 ≤ n' := ge_n (b := 1) (by omega) (by decide) c2.1
  have hn30 : n' ≤ 30 := ge_n (a := 30) (by decide) (by omega) c2.2
  have only : ∀ n'', okRaw k (nI n') f st np nl n'' → n'' = n' := fun n'' z => ((nI_eq (by omega) (by have := z.2.1.2.2; omega)).mp z.2.1.1).symm
  refine ⟨hM.k, _, (hM.ri _ rfl).trans hn, fun c3 => ?_, fun c3 => ?_⟩
  · have h60 : nI nl = nI 60 := c3
    have := (nI_eq (by omega) (by omega)).mp h60
    exact h2 (fun ⟨n'', z⟩ => by have := z.2.2.1; omega) _ hM
  have hnl : nl < 60 := by
    rcases Nat.lt_or_ge nl 60 with q | q
    · exact q
    · exact absurd (show nI nl = 60 by rw [show nl = 60 by omega]; rfl) c3
  refine ⟨hM.k, _, (hM.ri _ rfl).trans hp, ?_⟩
  show cc6 .le (nI np + nI n') 300 _ _
  rw [nI_add]
  refine ⟨fun c4 => ?_, fun c4 => ?_⟩
  · have hpn : np + n' ≤ 300 := ge_n (a := 300) (by decide) (by omega) c4
    -- the pieces
    have key2 : (∀ i, i < n' → szOK f st i) → ∀ d i w', i + d = n' → RM m0 (mRawP (mNewLot (m41 M) nl k) nl np k f st i) w' → Jd l 86 2 0 0 (some .int) Po 104 [(6, .int (nI i)), (5, .int (nI nl)), (0, .ref m0), (1, .int k), (2, .int (nI n')), (3, .int f), (4, .int st)] [] w' 0 0 := by
      intro hall d
      induction d with
      | zero =>
        intro i w' hi hM
        obtain rfl : i = n' := by omega
        refine jd_s cdo_86 hev [] 20 z00 ?_
        exact ⟨fun c => h1 i ⟨c1, ⟨rfl, hn1, hn30⟩, hnl, hpn, hall⟩ _ hM, fun c => absurd (nI_le (Nat.le_refl i) (by omega)) c⟩
      | succ d ih =>
        intro i w' hi hM
        have e6 : mRawP (mNewLot (m41 M) nl k) nl np k f st i 6 0 = nI (np + i) := mrp6 (M := mNewLot (m41 M) nl k) hp i
        have e9 : mRawP (mNewLot (m41 M) nl k) nl np k f st i 9 nl = nI i := mrp9 (by simp [mNewLot, u2]) i
        refine jd_s cdo_86 hev [104] 90 z00 ?_
        refine ⟨fun c => ?_, fun c => ?_⟩
        · have := ge_n (by omega) (by omega) c
          omega
        · refine ⟨hM.k, _, hM.rf _ rfl, hM.k, _, (hM.ri _ rfl).trans e6, hM.kd _ rfl, np + i, hM.ix _ rfl rfl (show np + i < 300 by omega), ?_⟩
          have hM := hM.sa 0 rfl (np + i) k
          refine ⟨hM.k, _, hM.rf _ rfl, hM.k, _, (hM.ri _ rfl).trans e6, hM.kd _ rfl, np + i, hM.ix _ rfl rfl (show np + i < 300 by omega), ?_⟩
          have hM := hM.sa 1 rfl (np + i) (f + nI i * st)
          refine ⟨hM.k, _, hM.rf _ rfl, hM.k, _, (hM.ri _ rfl).trans e6, hM.kd _ rfl, np + i, hM.ix _ rfl rfl (show np + i < 300 by omega), ?_⟩
          have hM := hM.sa 2 rfl (np + i) (nI nl)
          refine ⟨hM.k, _, hM.rf _ rfl, hM.k, _, (hM.ri _ rfl).trans e6, hM.kd _ rfl, np + i, hM.ix _ rfl rfl (show np + i < 300 by omega), ?_⟩
          have hM := hM.sa 3 rfl (np + i) 0
          refine ⟨hM.k, _, hM.rf _ rfl, hM.k, _, (hM.ri _ rfl).trans e6, hM.kd _ rfl, np + i, hM.ix _ rfl rfl (show np + i < 300 by omega), ?_⟩
          have hM := hM.sa 4 rfl (np + i) 0
          refine ⟨hM.k, _, (hM.ri _ rfl).trans e6, ?_⟩
          refine ⟨⟨by decide, by decide, by decide⟩, rfl, hM.k, m0, _, nl, i, np + i, rfl, hM, ⟨e9, by omega, hnl, by omega⟩, fun w2 hM => ?_⟩
          refine ⟨hM.k, _, (hM.ri _ rfl).trans (show _ = nI (np + i) from e6), hM.k, ?_⟩
          have hM := hM.si 6 rfl (nI (np + i) + 1)
          have hM2 : RM m0 (mRawP (mNewLot (m41 M) nl k) nl np k f st (i + 1)) (sI w2 10 6 m0 (nI (np + i) + 1)) := by
            rw [mRawP, ← nI_1]
            exact hM
          have := ih (i + 1) _ (by omega) hM2
          rw [← nI_1] at this
          exact this
    have key1 : ∀ d i, i + d = n' → (∀ j, j < i → szOK f st j) → Jd l 86 2 0 0 (some .int) Po 50 [(5, .int (nI i)), (0, .ref m0), (1, .int k), (2, .int (nI n')), (3, .int f), (4, .int st)] [] (sI w 10 41 m0 0) 0 0 := by
      intro d
      induction d with
      | zero =>
        intro i hi hall
        obtain rfl : i = n' := by omega
        refine jd_s cdo_86 hev [104] 30 z00 ?_
        refine ⟨fun c => ?_, fun c => absurd (nI_le (Nat.le_refl i) (by omega)) c⟩
        refine ⟨⟨by decide, by decide, by decide⟩, rfl, hM.k, m0, _, k, nl, rfl, hM, ⟨hn, hnl⟩, fun w2 hM2 => ?_⟩
        exact key2 hall i 0 w2 (by omega) hM2
      | succ d ih =>
        intro i hi hall
        refine jd_s cdo_86 hev [50] 40 z00 ?_
        refine ⟨fun c => ?_, fun c => ?_⟩
        · have := ge_n (by omega) (by omega) c
          omega
        · have es := sz64 f st i (by omega)
          have em : (Int32.toInt64 (-100)).toInt = -100 := by decide
          have ep : (Int32.toInt64 100).toInt = 100 := by decide
          refine ⟨fun c5 => ?_, fun c5 => ⟨fun c6 => ?_, fun c6 => ?_⟩⟩
          · have c5 := (cmp_lt _ _).mp c5
            rw [es, em] at c5
            exact h2 (fun ⟨n'', z⟩ => by
              have e := only n'' z
              subst e
              have := (z.2.2.2.2 i (by omega)).1
              omega) _ hM
          · have c6 := (cmp_le _ _).mp c6
            rw [es, ep] at c6
            have c5 : ¬ f.toInt + (i : Int) * st.toInt < -100 := fun z => c5 ((cmp_lt _ _).mpr (by rw [es, em]; exact z))
            refine jd_pk [0, 2, 3, 4, 5, 6] ?_
            have := ih (i + 1) (by omega) (fun j hj => by
              by_cases hji : j = i
              · subst hji
                exact ⟨by omega, c6⟩
              · exact hall j (by omega))
            rw [← nI_1] at this
            exact this
          · have c6 : ¬ f.toInt + (i : Int) * st.toInt ≤ 100 := fun z => c6 ((cmp_le _ _).mpr (by rw [es, ep]; exact z))
            exact h2 (fun ⟨n'', z⟩ => by
              have e := only n'' z
              subst e
              exact c6 (z.2.2.2.2 i (by omega)).2) _ hM
    exact key1 n' 0 (by omega) (fun j hj => absurd hj (Nat.not_lt_zero _))
  · have hpn : 300 < np + n' := by
      rcases Nat.lt_or_ge 300 (np + n') with q | q
      · exact q
      · exact absurd (nI_le (b := 300) q (by decide)) c4
    exact h2 (fun ⟨n'', z⟩ => by
      have e := only n'' z
      subst e
      have := z.2.2.2.1
      omega) _ hM
