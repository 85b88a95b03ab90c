/-! the reference: lots and their rows -/
section FOR
variable {l : Launch} {k lv mc ms : Nat} {rt : Option FieldType} {ev : Ev} {Po : Option Value → Hp → Prop} {full : List CI}
/-- a method with one loop, its head at hp -/
theorem jd_for (hcd : cdM k full) (hev : ∀ k r, ev k = some r → Ct l k r.1 r.2.1 r.2.2.1 r.2.2.2) (n1 n2 hp : Nat) (I : Nat → Kt) {pc : Nat} {L : Ls} {S : List Value} {w : Hp} {nc ns : Nat} (hb0 : nc ≤ mc ∧ ns ≤ ms)
    (hb : ∀ i L S w nc ns, I i L S w nc ns → nc ≤ mc ∧ ns ≤ ms)
    (h : ∀ i L S w nc ns, I i L S w nc ns → wp lv mc ms ev rt Po full [hp] (fun pc L S w nc ns => if pc = hp then ∃ j, j < i ∧ I j L S w nc ns else False) n2 (seek full hp) L S w nc ns)
    (h0 : wp lv mc ms ev rt Po full [hp] (fun pc L S w nc ns => pc = hp ∧ ∃ i, I i L S w nc ns) n1 (seek full pc) L S w nc ns) : Jd l k lv mc ms rt Po pc L S w nc ns := by
  refine jd_wp hcd hev ?_ n1 hb0 h0
  rintro pc L S w nc ns - ⟨rfl, i, hI⟩
  exact jd_loop (stops := [pc]) (K := fun _ _ _ _ _ _ => False) hcd hev n2 pc I (by simp) hb (fun _ _ _ _ _ _ _ _ h => False.elim h) h i L S w nc ns hI
end FOR
theorem n300 (l : Nat) : (300 : Int32) * nI l = nI (300 * l) := by rw [show (300 : Int32) = nI 300 from rfl, pk_mul]
def mNewLot (M : Ms) (nl : Nat) (k : Int32) : Ms := u2 (u2 (u2 (u2 M 7 nl k) 9 nl 0) 10 nl 0) 16 0 (nI (nl + 1))
def sp_newLot : Sp := fun as w K => ∃ m0 M k nl, as = [.ref m0, .int k] ∧ RM m0 M w ∧ (M 16 0 = nI nl ∧ nl < 60) ∧ ∀ w', RM m0 (mNewLot M nl k) w' → K (some (.int (nI nl))) w'
theorem c_newLot (l : Launch) : Ct l 87 1 0 0 sp_newLot := by
  refine ct_jd (by decide) rfl (fun as w Po h => ?_)
  obtain ⟨m0, M, k, nl, rfl, hM, ⟨hn, hn2⟩, h⟩ := h
  refine ⟨Nat.le_of_ble_eq_true rfl, jd_run cdo_87 ev0 40 ⟨Nat.le_refl _, Nat.le_refl _⟩ ?_⟩
  refine ⟨hM.k, _, hM.rf _ rfl, hM.k, _, (hM.ri _ rfl).trans hn, ?_⟩
  refine ⟨hM.kd _ rfl, nl, hM.ix _ rfl rfl hn2, ?_⟩
  have hM := hM.sa 7 rfl nl k
  refine ⟨hM.k, _, hM.rf _ rfl, hM.k, _, (hM.ri _ rfl).trans hn, ?_⟩
  refine ⟨hM.kd _ rfl, nl, hM.ix _ rfl rfl hn2, ?_⟩
  have hM := hM.sa 9 rfl nl 0
  refine ⟨hM.k, _, hM.rf _ rfl, hM.k, _, (hM.ri _ rfl).trans hn, ?_⟩
  refine ⟨hM.kd _ rfl, nl, hM.ix _ rfl rfl hn2, ?_⟩
  have hM := hM.sa 10 rfl nl 0
  refine ⟨hM.k, _, (hM.ri _ rfl).trans hn, hM.k, ?_⟩
  have hM := hM.si 16 rfl (nI nl + 1)
  refine ⟨hM.k, _, hM.ri _ rfl, ?_⟩
  have e : (nI nl + 1 : Int32) - 1 = nI nl := by rw [nI_1, nI_pred]
  show Po (some (.int (nI nl + 1 - 1))) _
  rw [e]
  rw [nI_1] at hM
  exact h _ (by rw [nI_1]; exact hM)
def mAdd (M : Ms) (l n p : Nat) : Ms := u2 (u2 (u2 M 8 (300 * l + n) (nI p)) 9 l (nI (n + 1))) 5 p (nI l)
def sp_add : Sp := fun as w K => ∃ m0 M l n p, as = [.ref m0, .int (nI l), .int (nI p)] ∧ RM m0 M w ∧ (M 9 l = nI n ∧ n < 300 ∧ l < 60 ∧ p < 300) ∧ ∀ w', RM m0 (mAdd M l n p) w' → K none w'
theorem c_add (l : Launch) : Ct l 88 1 0 0 sp_add := by
  refine ct_jd (by decide) rfl (fun as w Po h => ?_)
  obtain ⟨m0, M, l, n, p, rfl, hM, ⟨hn, hn2, hl, hp⟩, h⟩ := h
  refine ⟨Nat.le_of_ble_eq_true rfl, jd_run cdo_88 ev0 40 ⟨Nat.le_refl _, Nat.le_refl _⟩ ?_⟩
  refine ⟨hM.k, _, hM.rf _ rfl, hM.k, _, hM.rf _ rfl, ?_⟩
  refine ⟨hM.kd _ rfl, l, _, hM.ix _ rfl rfl hl, (hM.rd _ rfl l).trans hn, ?_⟩
  refine ⟨hM.kd _ rfl, 300 * l + n, hM.ix _ rfl (by rw [n300, nI_add]) (show 300 * l + n < 18000 by omega), ?_⟩
  have hM := hM.sa 8 rfl (300 * l + n) (nI p)
  refine ⟨hM.k, _, hM.rf _ rfl, ?_⟩
  refine ⟨hM.kd _ rfl, l, _, hM.ix _ rfl rfl hl, (hM.rd _ rfl l).trans hn, ?_⟩
  refine ⟨hM.kd _ rfl, l, hM.ix _ rfl rfl hl, ?_⟩
  have hM := hM.sa 9 rfl l (nI n + 1)
  refine ⟨hM.k, _, hM.rf _ rfl, ?_⟩
  refine ⟨hM.kd _ rfl, p, hM.ix _ rfl rfl hp, ?_⟩
  have hM := hM.sa 5 rfl p (nI l)
  rw [nI_1] at hM
  exact h _ (by rw [nI_1]; exact hM)
/-- the row of lot l without its place i, shifted as far as k -/
def mTakeK (M : Ms) (l i n k : Nat) : Ms := fun f j => if f = 9 ∧ j = l then nI n else if f = 8 ∧ 300 * l + i ≤ j ∧ j < 300 * l + k then M 8 (j + 1) else M f j
def mTake (M : Ms) (l i n : Nat) : Ms := mTakeK M l i n n
def sp_take : Sp := fun as w K => ∃ m0 M l i n, as = [.ref m0, .int (nI l), .int (nI i)] ∧ RM m0 M w ∧ (M 9 l = nI (n + 1) ∧ i ≤ n ∧ n < 300 ∧ l < 60) ∧ ∀ w', RM m0 (mTake M l i n) w' → K none w'
theorem RM_eq {m0 : Nat} {M M' : Ms} {w : Hp} (h : RM m0 M w) (e : ∀ f i, M f i = M' f i) : RM m0 M' w := by
  have : M = M' := funext fun f => funext fun i => e f i
  rw [← this]
  exact h
theorem takeK_0 (M : Ms) (l i n : Nat) : ∀ f j, u2 M 9 l (nI n) f j = mTakeK M l i n i f j := by
  intro f j
  simp only [u2, mTakeK]
  by_cases h : f = 9 ∧ j = l
  · simp [h]
  · rw [if_neg h, if_neg h, if_neg (by omega)]
theorem takeK_s (M : Ms) (l i n k : Nat) (hk : i ≤ k) : ∀ f j, u2 (mTakeK M l i n k) 8 (300 * l + k) (M 8 (300 * l + k + 1)) f j = mTakeK M l i n (k + 1) f j := by
  intro f j
  simp only [u2, mTakeK]
  by_cases h9 : f = 9 ∧ j = l
  · obtain ⟨rfl, rfl⟩ := h9
    simp
  · by_cases h8 : f = 8 ∧ j = 300 * l + k
    · obtain ⟨rfl, rfl⟩ := h8
      rw [if_pos ⟨rfl, rfl⟩, if_neg h9, if_pos (by omega)]
    · rw [if_neg h8, if_neg h9, if_neg h9]
      by_cases hq : f = 8 ∧ 300 * l + i ≤ j ∧ j < 300 * l + k
      · rw [if_pos hq, if_pos (by omega)]
      · rw [if_neg hq, if_neg (by omega)]
theorem c_take (l : Launch) : Ct l 92 1 0 0 sp_take := by
  refine ct_jd (by decide) rfl (fun as w Po h => ?_)
  obtain ⟨m0, M, l, i, n, rfl, hM, ⟨hn, hi, hn2, hl⟩, h⟩ := h
  refine ⟨Nat.le_of_ble_eq_true rfl, jd_for cdo_92 ev0 20 40 12 (fun d L S w' nc ns => S = [] ∧ nc = 0 ∧ ns = 0 ∧ ∃ k, i ≤ k ∧ k + d = n ∧ L = [(3, .int (nI k)), (0, .ref m0), (1, .int (nI l)), (2, .int (nI i))] ∧ RM m0 (mTakeK M l i n k) w') ⟨Nat.le_refl _, Nat.le_refl _⟩ ?_ ?_ ?_⟩
  · rintro d L S w' nc ns ⟨-, rfl, rfl, -⟩
    exact ⟨Nat.le_refl _, Nat.le_refl _⟩
  · rintro d L S w' nc ns ⟨rfl, rfl, rfl, k, hk1, hk2, rfl, hM⟩
    have h9 : mTakeK M l i n k 9 l = nI n := by simp [mTakeK]
    refine ⟨hM.k, _, hM.rf _ rfl, ?_⟩
    refine ⟨hM.kd _ rfl, l, _, hM.ix _ rfl rfl hl, (hM.rd _ rfl l).trans h9, ?_⟩
    refine ⟨fun c => ?_, fun c => ?_⟩
    · have hkn : k = n := by
        rcases Nat.lt_or_ge k n with q | q
        · exact absurd c (nI_ge q (by omega))
        · omega
      subst hkn
      exact h _ hM
    · have hkn : k < n := by
        rcases Nat.lt_or_ge k n with q | q
        · exact q
        · exact absurd (nI_le q (by omega)) c
      refine ⟨hM.k, _, hM.rf _ rfl, hM.k, _, hM.rf _ rfl, ?_⟩
      refine ⟨hM.kd _ rfl, 300 * l + k + 1, _, hM.ix _ rfl (by rw [n300, nI_add, nI_1]) (show 300 * l + k + 1 < 18000 by omega), (hM.rd _ rfl (300 * l + k + 1)).trans (show mTakeK M l i n k 8 (300 * l + k + 1) = M 8 (300 * l + k + 1) from by simp only [mTakeK]; rw [if_neg (by omega), if_neg (by omega)]), ?_⟩
      refine ⟨hM.kd _ rfl, 300 * l + k, hM.ix _ rfl (by rw [n300, nI_add]) (show 300 * l + k < 18000 by omega), ?_⟩
      have hM := RM_eq (hM.sa 8 rfl (300 * l + k) (M 8 (300 * l + k + 1))) (takeK_s M l i n k hk1)
      refine ⟨d - 1, by omega, rfl, rfl, rfl, k + 1, by omega, by omega, ?_, hM⟩
      rw [← nI_1]
      rfl
  · refine ⟨hM.k, _, hM.rf _ rfl, ?_⟩
    refine ⟨hM.kd _ rfl, l, _, hM.ix _ rfl rfl hl, (hM.rd _ rfl l).trans hn, ?_⟩
    refine ⟨hM.kd _ rfl, l, hM.ix _ rfl rfl hl, ?_⟩
    have hM := hM.sa 9 rfl l (nI (n + 1) - 1)
    rw [nI_pred] at hM
    exact ⟨rfl, n - i, rfl, rfl, rfl, i, Nat.le_refl _, by omega, rfl, by rw [nI_pred]; exact RM_eq hM (takeK_0 M l i n)⟩
