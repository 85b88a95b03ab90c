/-! the reference: work -/
def remI (x y : Int32) : Int32 := x - x / y * y
def mWork4 (M : Ms) (h l p : Nat) : Ms := u2 (u2 (u2 (u2 M 1 p (M 1 p + M 19 h)) 3 p (M 3 p ||| (1 <<< (nI h &&& 31)))) 22 h (M 22 h + 1)) 13 l (M 13 l + 1)
def mBrk (M : Ms) (h l p : Nat) : Ms := u2 (u2 (u2 (u2 (mWork4 M h l p) 4 p 1) 5 p (nI h)) 23 h (M 23 h + 1)) 26 0 (M 26 0 + 1)
def mWorkX (M : Ms) (h l x p n : Nat) : Ms := if M 20 h = 0 ∨ ¬ remI (M 22 h + 1) (M 20 h) = 0 then u2 (mWork4 M h l p) 14 l (nI (x + 1)) else mTake (mBrk M h l p) l x n
def sp_work : Sp := fun as w K => ∃ m0 M h l x p n, as = [.ref m0, .int (nI h), .int (nI l)] ∧ RM m0 M w ∧ (h < 9 ∧ l < 60 ∧ M 14 l = nI x ∧ x ≤ n ∧ n < 300 ∧ M 9 l = nI (n + 1) ∧ p < 300 ∧ M 8 (300 * l + x) = nI p) ∧ ∀ w', RM m0 (mWorkX M h l x p n) w' → K none w'
theorem c_work (l : Launch) : Ct l 98 2 0 0 sp_work := by
  refine ct_jd (by decide) rfl (fun as w Po hq => ?_)
  obtain ⟨m0, M, h, l, x, p, n, rfl, hM, ⟨hh, hl, hx, hxn, hn, h9, hp, h8⟩, hk⟩ := hq
  refine ⟨Nat.le_of_ble_eq_true rfl, ?_⟩
  have step1 : ∀ w2, RM m0 (mWork4 M h l p) w2 → (M 20 h = 0 ∨ ¬ remI (M 22 h + 1) (M 20 h) = 0) → Jd ‹Launch› 98 2 0 0 none Po 90 [(3, .int (nI p)), (0, .ref m0), (1, .int (nI h)), (2, .int (nI l))] [] w2 0 0 := by
    intro w2 hM hc
    refine jd_s cdo_98 (evL_ok (L := [(92, 1, 0, 0, sp_take)]) (by simpa using c_take _)) [] 30 z00 ?_
    refine ⟨hM.k, _, hM.rf _ rfl, hM.kd _ rfl, l, _, hM.ix _ rfl rfl hl, (hM.rd _ rfl l).trans hx, hM.kd _ rfl, l, hM.ix _ rfl rfl hl, ?_⟩
    have hM := hM.sa 14 rfl l (nI x + 1)
    refine hk _ ?_
    unfold mWorkX
    rw [if_pos hc, ← nI_1]
    exact hM
  refine jd_s cdo_98 (evL_ok (L := [(92, 1, 0, 0, sp_take)]) (by simpa using c_take _)) [90] 120 z00 ?_
  refine ⟨hM.k, _, hM.rf _ rfl, hM.k, _, hM.rf _ rfl, hM.kd _ rfl, l, _, hM.ix _ rfl rfl hl, (hM.rd _ rfl l).trans hx, ?_⟩
  refine ⟨hM.kd _ rfl, 300 * l + x, _, hM.ix _ rfl (by rw [n300, nI_add]) (show 300 * l + x < 18000 by omega), (hM.rd _ rfl _).trans h8, ?_⟩
  refine ⟨hM.k, _, hM.rf _ rfl, hM.kd _ rfl, p, _, hM.ix _ rfl rfl hp, hM.rd _ rfl p, hM.k, _, hM.rf _ rfl, hM.kd _ rfl, h, _, hM.ix _ rfl rfl hh, hM.rd _ rfl h, hM.kd _ rfl, p, hM.ix _ rfl rfl hp, ?_⟩
  have hM := hM.sa 1 rfl p (M 1 p + M 19 h)
  refine ⟨hM.k, _, hM.rf _ rfl, hM.kd _ rfl, p, _, hM.ix _ rfl rfl hp, (hM.rd _ rfl p).trans (show _ = M 3 p from rfl), hM.kd _ rfl, p, hM.ix _ rfl rfl hp, ?_⟩
  have hM := hM.sa 3 rfl p (M 3 p ||| (1 <<< (nI h &&& 31)))
  refine ⟨hM.k, _, hM.rf _ rfl, hM.kd _ rfl, h, _, hM.ix _ rfl rfl hh, (hM.rd _ rfl h).trans (show _ = M 22 h from rfl), hM.kd _ rfl, h, hM.ix _ rfl rfl hh, ?_⟩
  have hM := hM.sa 22 rfl h (M 22 h + 1)
  refine ⟨hM.k, _, hM.rf _ rfl, hM.kd _ rfl, l, _, hM.ix _ rfl rfl hl, (hM.rd _ rfl l).trans (show _ = M 13 l from rfl), hM.kd _ rfl, l, hM.ix _ rfl rfl hl, ?_⟩
  have hM := hM.sa 13 rfl l (M 13 l + 1)
  have hM : RM m0 (mWork4 M h l p) _ := hM
  have e22 : mWork4 M h l p 22 h = M 22 h + 1 := by simp [mWork4, u2]
  refine ⟨hM.k, _, hM.rf _ rfl, hM.kd _ rfl, h, _, hM.ix _ rfl rfl hh, (hM.rd _ rfl h).trans (show _ = M 20 h from rfl), fun c => step1 _ hM (Or.inl c), fun c => ?_⟩
  refine ⟨hM.k, _, hM.rf _ rfl, hM.kd _ rfl, h, _, hM.ix _ rfl rfl hh, (hM.rd _ rfl h).trans e22, ?_⟩
  refine ⟨hM.k, _, hM.rf _ rfl, hM.kd _ rfl, h, _, hM.ix _ rfl rfl hh, (hM.rd _ rfl h).trans (show _ = M 20 h from rfl), c, fun c2 => ?_, fun c2 => step1 _ hM (Or.inr c2)⟩
  refine ⟨hM.k, _, hM.rf _ rfl, hM.kd _ rfl, p, hM.ix _ rfl rfl hp, ?_⟩
  have hM := hM.sa 4 rfl p 1
  refine ⟨hM.k, _, hM.rf _ rfl, hM.kd _ rfl, p, hM.ix _ rfl rfl hp, ?_⟩
  have hM := hM.sa 5 rfl p (nI h)
  refine ⟨hM.k, _, hM.rf _ rfl, hM.kd _ rfl, h, _, hM.ix _ rfl rfl hh, (hM.rd _ rfl h).trans (show _ = M 23 h from rfl), hM.kd _ rfl, h, hM.ix _ rfl rfl hh, ?_⟩
  have hM := hM.sa 23 rfl h (M 23 h + 1)
  refine ⟨hM.k, _, (hM.ri _ rfl).trans (show _ = M 26 0 from rfl), hM.k, ?_⟩
  have hM := hM.si 26 rfl (M 26 0 + 1)
  have hM : RM m0 (mBrk M h l p) _ := hM
  refine ⟨hM.k, _, hM.rf _ rfl, hM.kd _ rfl, l, _, hM.ix _ rfl rfl hl, (hM.rd _ rfl l).trans hx, ?_⟩
  refine ⟨⟨by decide, by decide, by decide⟩, rfl, hM.k, m0, _, l, x, n, rfl, hM, ⟨h9, hxn, hn, hl⟩, fun w' hw' => ?_⟩
  refine hk _ ?_
  unfold mWorkX
  rw [if_neg (fun z => z.elim c (fun q => q c2))]
  exact hw'
/-- by what stands in the store -/
def mWork (M : Ms) (h l : Nat) : Ms := mWorkX M h l (pN (M 14 l)) (pN (M 8 (300 * l + pN (M 14 l)))) (pN (M 9 l) - 1)
/-- the row of a lot, and how far it is worked -/
def LW (M : Ms) (l x n : Nat) : Prop := M 14 l = nI x ∧ M 9 l = nI n ∧ x ≤ n ∧ n ≤ 300 ∧ ∀ i, i < n → ∃ p, p < 300 ∧ M 8 (300 * l + i) = nI p
theorem mWork_eq {M : Ms} {h l x n p : Nat} (h14 : M 14 l = nI x) (h9 : M 9 l = nI (n + 1)) (h8 : M 8 (300 * l + x) = nI p) (hx : x < 1000) (hn : n < 1000) (hp : p < 1000) : mWork M h l = mWorkX M h l x p n := by
  unfold mWork
  rw [h14, h9, pN_n (by omega), pN_n (by omega), h8, pN_n (by omega)]
  rfl
/-- rows that work leaves as they are -/
theorem mWorkX_ot (M : Ms) (h l x p n f i : Nat) (hf : f ≠ 1 ∧ f ≠ 3 ∧ f ≠ 22 ∧ f ≠ 13 ∧ f ≠ 14 ∧ f ≠ 4 ∧ f ≠ 5 ∧ f ≠ 23 ∧ f ≠ 26 ∧ f ≠ 8 ∧ f ≠ 9) : mWorkX M h l x p n f i = M f i := by
  obtain ⟨a1, a3, a22, a13, a14, a4, a5, a23, a26, a8, a9⟩ := hf
  have e4 : mWork4 M h l p f i = M f i := by unfold mWork4; rw [u2_ne a13, u2_ne a22, u2_ne a3, u2_ne a1]
  unfold mWorkX
  split
  · rw [u2_ne a14, e4]
  · unfold mTake mTakeK mBrk
    rw [if_neg (fun z => a9 z.1), if_neg (fun z => a8 z.1), u2_ne a26, u2_ne a23, u2_ne a5, u2_ne a4, e4]
theorem mWorkX_fi (M : Ms) (h l x p n g : Nat) : ∀ k, fiF (mWorkX M h l x p n) g k = fiF M g k
  | 0 => rfl
  | k + 1 => by
    rw [fiF, fiF, mWorkX_fi M h l x p n g k, mWorkX_ot _ _ _ _ _ _ 10 k (by decide), mWorkX_ot _ _ _ _ _ _ 11 k (by decide), mWorkX_ot _ _ _ _ _ _ 15 k (by decide)]
    cases fiF M g k with
    | none => rfl
    | some f => simp only [mWorkX_ot _ _ _ _ _ _ 15 f (by decide)]
theorem mWorkX_LWo {M : Ms} {h l x p n k x' n' : Nat} (hk : k ≠ l) (hn : n ≤ 300) (hL : LW M k x' n') : LW (mWorkX M h l x p n) k x' n' := by
  obtain ⟨h14, h9, hx, hn', h8⟩ := hL
  have e14 : mWorkX M h l x p n 14 k = M 14 k := by
    unfold mWorkX
    split
    · simp [u2, mWork4, hk]
    · simp [mTake, mTakeK, mBrk, mWork4, u2, hk]
  have e9 : mWorkX M h l x p n 9 k = M 9 k := by
    unfold mWorkX
    split
    · simp [u2, mWork4]
    · simp [mTake, mTakeK, mBrk, mWork4, u2, hk]
  have e8 : ∀ i, i < n' → mWorkX M h l x p n 8 (300 * k + i) = M 8 (300 * k + i) := by
    intro i hi
    unfold mWorkX
    split
    · simp [u2, mWork4]
    · unfold mTake mTakeK
      rw [if_neg (by omega), if_neg (by omega)]
      simp [mBrk, mWork4, u2]
  exact ⟨e14.trans h14, e9.trans h9, hx, hn', fun i hi => by rw [e8 i hi]; exact h8 i hi⟩
theorem mWorkX_LWs {M : Ms} {h l x p n : Nat} (hxn : x ≤ n) (hL : LW M l x (n + 1)) : ∃ x' n', LW (mWorkX M h l x p n) l x' n' := by
  obtain ⟨h14, h9, hx, hn', h8⟩ := hL
  unfold mWorkX
  split
  · refine ⟨x + 1, n + 1, by simp [u2], ?_, by omega, hn', fun i hi => ?_⟩
    · show u2 (mWork4 M h l p) 14 l (nI (x + 1)) 9 l = _
      rw [← h9]; rfl
    · obtain ⟨q, hq, e⟩ := h8 i hi
      exact ⟨q, hq, e⟩
  · refine ⟨x, n, ?_, ?_, hxn, by omega, fun i hi => ?_⟩
    · rw [← h14]; rfl
    · simp [mTake, mTakeK]
    · unfold mTake mTakeK
      rw [if_neg (by omega)]
      by_cases hq : x ≤ i
      · rw [if_pos (by omega)]
        obtain ⟨q, hq2, e⟩ := h8 (i + 1) (by omega)
        exact ⟨q, hq2, e⟩
      · rw [if_neg (by omega)]
        obtain ⟨q, hq2, e⟩ := h8 i (by omega)
        exact ⟨q, hq2, e⟩
