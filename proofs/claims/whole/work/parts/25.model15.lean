/-! the reference: split, join -/
def mSplP (M : Ms) (l nl m : Nat) : Nat → Ms
  | 0 => M
  | i + 1 => mTake (mAdd (mSplP M l nl m i) nl i (pN (mSplP M l nl m i 8 (300 * l)))) l 0 (m - (i + 1))
theorem mSplP_ot (M : Ms) (l nl m f j : Nat) (hf : f ≠ 8 ∧ f ≠ 9 ∧ f ≠ 5) : ∀ i, mSplP M l nl m i f j = M f j
  | 0 => rfl
  | i + 1 => by
    rw [mSplP]
    unfold mTake mTakeK mAdd
    rw [if_neg (fun z => hf.2.1 z.1), if_neg (fun z => hf.1 z.1), u2_ne hf.2.2, u2_ne hf.2.1, u2_ne hf.1, mSplP_ot M l nl m f j hf i]
/-- how the rows stand behind i steps -/
theorem mSplP_in {M : Ms} {l nl m : Nat} (hl : l < nl) (h9 : M 9 l = nI m) (h9' : M 9 nl = 0) (hm : m ≤ 300) : ∀ i, i ≤ m → mSplP M l nl m i 9 l = nI (m - i) ∧ mSplP M l nl m i 9 nl = nI i ∧ ∀ j, j < m - i → mSplP M l nl m i 8 (300 * l + j) = M 8 (300 * l + i + j)
  | 0, _ => ⟨h9, h9', fun j _ => rfl⟩
  | i + 1, hi => by
    obtain ⟨a, b, c⟩ := mSplP_in hl h9 h9' hm i (by omega)
    have hne : l ≠ nl := by omega
    refine ⟨?_, ?_, fun j hj => ?_⟩
    · rw [mSplP]
      simp [mTake, mTakeK]
    · rw [mSplP]
      unfold mTake mTakeK
      rw [if_neg (by omega), if_neg (by omega)]
      simp [mAdd, u2]
    · rw [mSplP]
      unfold mTake mTakeK
      rw [if_neg (by omega), if_pos (by omega)]
      have e : mAdd (mSplP M l nl m i) nl i (pN (mSplP M l nl m i 8 (300 * l))) 8 (300 * l + j + 1) = mSplP M l nl m i 8 (300 * l + (j + 1)) := by
        have : 300 * l + (j + 1) ≠ 300 * nl + i := by omega
        simp [mAdd, u2, this, Nat.add_assoc]
      rw [e, c (j + 1) (by omega)]
      congr 1
      omega
def mSplit (M : Ms) (l nl m n : Nat) : Ms := mSplP (mNewLot (m41 M) nl (M 7 l)) l nl m n
def sp_split : Sp := fun as w K => ∃ m0 M x y nl, ∃ mn : Nat → Nat, as = [.ref m0, .int x, .int y] ∧ RM m0 M w ∧ (M 16 0 = nI nl ∧ nl ≤ 60) ∧ (∀ j, j < nl → M 9 j = nI (mn j) ∧ mn j ≤ 300 ∧ ∀ i, i < mn j → ∃ p, p < 300 ∧ M 8 (300 * j + i) = nI p) ∧
  (∀ i n, i < nl → x = nI i → M 10 i = 0 → n ≤ mn i → y = nI n → nl < 60 → ∀ w', RM m0 (mSplit M i nl (mn i) n) w' → K (some (.int (nI nl))) w') ∧ ((¬ ∃ i n, i < nl ∧ x = nI i ∧ M 10 i = 0 ∧ n ≤ mn i ∧ y = nI n ∧ nl < 60) → ∀ w', RM m0 (m41 M) w' → K (some (.int (-1))) w')
theorem pr_le {n : Nat} (hn : n < 2147483648) (x : Int32) : (0 ≤ x ∧ x ≤ nI n) ↔ ∃ j, j ≤ n ∧ x = nI j := by
  constructor
  · intro ⟨h0, h1⟩
    obtain ⟨j, hj, rfl⟩ := nI_of (le_nlt h0)
    exact ⟨j, (nI_leI hj hn).mp h1, rfl⟩
  · rintro ⟨j, hj, rfl⟩
    exact ⟨nI_pos' (by omega), nI_le hj hn⟩
theorem c_msplit (l : Launch) : Ct l 89 4 0 0 sp_split := by
  have hev : ∀ (k : Nat) (r : Nat × Nat × Nat × Sp), evL [(85, 1, 0, 0, sp_in), (90, 3, 0, 0, sp_isHere), (87, 1, 0, 0, sp_newLot), (88, 1, 0, 0, sp_add), (92, 1, 0, 0, sp_take)] k = some r → Ct l k r.1 r.2.1 r.2.2.1 r.2.2.2 := evL_ok (by simpa using ⟨c_in l, c_isHere l, c_newLot l, c_add l, c_take l⟩)
  refine ct_jd (by decide) rfl (fun as w Po hq => ?_)
  obtain ⟨m0, M, x, y, nl, mn, rfl, hM, ⟨hn, hn2⟩, hrow, h1, h2⟩ := hq
  refine ⟨Nat.le_of_ble_eq_true rfl, ?_⟩
  refine jd_s cdo_89 hev [52] 60 z00 ?_
  refine ⟨hM.k, ?_⟩
  have hM := hM.si 41 rfl 0
  have hM : RM m0 (m41 M) _ := hM
  refine ⟨⟨by decide, by decide, by decide⟩, rfl, hM.k, m0, _, x, nl, rfl, hM, ⟨hn, hn2⟩, fun i hi hx hw => br1 ?_, fun c => br0 (h2 (fun ⟨i, _, hi, hx, hw, _⟩ => c ⟨i, hi, hx, hw⟩) _ hM)⟩
  subst hx
  obtain ⟨h9, hm3, h8⟩ := hrow i hi
  refine ⟨hM.k, _, hM.rf _ rfl, hM.kd _ rfl, i, _, hM.ix _ rfl rfl (show i < 60 by omega), (hM.rd _ rfl i).trans h9, ?_⟩
  have only : ∀ i', i' < nl → nI i = nI i' → i' = i := fun i' h e => ((nI_eq (by omega) (by omega)).mp e).symm
  refine ⟨⟨by decide, by decide, by decide⟩, rfl, Nat.le_of_ble_eq_true rfl, y, 0, _, rfl, fun c => br1 ?_, fun c => br0 (h2 (fun ⟨i', n, hi', hx', _, hnm, hy, _⟩ => c ((pr_le (by omega) y).mpr ⟨n, by rw [only i' hi' hx'] at hnm; exact hnm, hy⟩)) _ hM)⟩
  obtain ⟨n, hnm, rfl⟩ := (pr_le (by omega) y).mp c
  refine ⟨hM.k, _, (hM.ri _ rfl).trans hn, fun c => ?_, fun c => ?_⟩
  · have hnl : nl < 60 := by
      rcases Nat.lt_or_ge nl 60 with q | q
      · exact q
      · exact absurd (show nI nl = 60 by rw [show nl = 60 by omega]; rfl) c
    refine ⟨hM.k, _, hM.rf _ rfl, hM.kd _ rfl, i, _, hM.ix _ rfl rfl (show i < 60 by omega), (hM.rd _ rfl i).trans (show _ = M 7 i from rfl), ?_⟩
    refine ⟨⟨by decide, by decide, by decide⟩, rfl, hM.k, m0, _, M 7 i, nl, rfl, hM, ⟨hn, hnl⟩, fun w2 hM2 => ?_⟩
    have hne : i ≠ nl := by omega
    have inv := mSplP_in (M := mNewLot (m41 M) nl (M 7 i)) (l := i) (nl := nl) (m := mn i) hi (by rw [← h9]; simp [mNewLot, m41, u2, hne]) (by simp [mNewLot, u2]) hm3
    have g8 : ∀ j, j < mn i → ∃ p, p < 300 ∧ mNewLot (m41 M) nl (M 7 i) 8 (300 * i + j) = nI p := fun j hj => h8 j hj
    have key : ∀ d j w', j + d = n → RM m0 (mSplP (mNewLot (m41 M) nl (M 7 i)) i nl (mn i) j) w' → Jd l 89 4 0 0 (some .int) Po 52 [(4, .int (nI j)), (3, .int (nI nl)), (0, .ref m0), (1, .int (nI i)), (2, .int (nI n))] [] w' 0 0 := by
      intro d
      induction d with
      | zero =>
        intro j w' hj hM
        obtain rfl : j = n := by omega
        refine jd_s cdo_89 hev [] 20 z00 ?_
        exact ⟨fun c => h1 i j hi rfl hw hnm rfl hnl _ hM, fun c => absurd (nI_le (Nat.le_refl j) (by omega)) c⟩
      | succ d ih =>
        intro j w' hj hM
        obtain ⟨e9, e9', e8⟩ := inv j (by omega)
        obtain ⟨p, hp, ep⟩ := g8 j (by omega)
        have e80 : mSplP (mNewLot (m41 M) nl (M 7 i)) i nl (mn i) j 8 (300 * i) = nI p := (e8 0 (by omega)).trans ep
        refine jd_s cdo_89 hev [52] 60 z00 ?_
        refine ⟨fun c => ?_, fun c => ?_⟩
        · have := ge_n (by omega) (by omega) c
          omega
        · refine ⟨hM.k, _, hM.rf _ rfl, hM.kd _ rfl, 300 * i, _, hM.ix _ rfl (n300 i) (show 300 * i < 18000 by omega), (hM.rd _ rfl _).trans e80, ?_⟩
          refine ⟨⟨by decide, by decide, by decide⟩, rfl, hM.k, m0, _, nl, j, p, rfl, hM, ⟨e9', by omega, hnl, hp⟩, fun w3 hM3 => ?_⟩
          have e9b : mAdd (mSplP (mNewLot (m41 M) nl (M 7 i)) i nl (mn i) j) nl j p 9 i = nI (mn i - (j + 1) + 1) := by
            rw [show mn i - (j + 1) + 1 = mn i - j by omega, ← e9]
            simp [mAdd, u2, hne]
          refine ⟨⟨by decide, by decide, by decide⟩, rfl, hM3.k, m0, _, i, 0, mn i - (j + 1), rfl, hM3, ⟨e9b, by omega, by omega, by omega⟩, fun w4 hM4 => ?_⟩
          have := ih (j + 1) w4 (by omega) (by rw [mSplP, e80, pN_n (by omega)]; exact hM4)
          rw [← nI_1] at this
          exact this
    exact key n 0 w2 (by omega) hM2
  · have h60 : nI nl = nI 60 := c
    have := (nI_eq (by omega) (by omega)).mp h60
    exact h2 (fun ⟨_, _, _, _, _, _, _, z⟩ => by omega) _ hM
def mJoinP (M : Ms) (a b ma : Nat) : Nat → Ms
  | 0 => M
  | i + 1 => mAdd (mJoinP M a b ma i) a (ma + i) (pN (M 8 (300 * b + i)))
theorem mJoinP_in {M : Ms} {a b ma mb : Nat} (hab : a ≠ b) (h9 : M 9 a = nI ma) (h9b : M 9 b = nI mb) (hm : ma + mb ≤ 300) : ∀ i, i ≤ mb → mJoinP M a b ma i 9 a = nI (ma + i) ∧ mJoinP M a b ma i 9 b = nI mb ∧ ∀ j, j < 300 → mJoinP M a b ma i 8 (300 * b + j) = M 8 (300 * b + j)
  | 0, _ => ⟨h9, h9b, fun j _ => rfl⟩
  | i + 1, hi => by
    obtain ⟨e1, e2, e3⟩ := mJoinP_in hab h9 h9b hm i (by omega)
    refine ⟨?_, ?_, fun j hj => ?_⟩
    · rw [mJoinP]
      simp [mAdd, u2, Nat.add_assoc]
    · rw [mJoinP, ← e2]
      simp [mAdd, u2, Ne.symm hab]
    · rw [mJoinP, ← e3 j hj]
      have : 300 * b + j ≠ 300 * a + (ma + i) := by omega
      simp [mAdd, u2, this]
def mJoin (M : Ms) (a b ma mb : Nat) : Ms := u2 (mJoinP (m41 M) a b ma mb) 9 b 0
def okJoin (M : Ms) (nl : Nat) (x y : Int32) (a b : Nat) : Prop := (a < nl ∧ x = nI a ∧ M 10 a = 0) ∧ (b < nl ∧ y = nI b ∧ M 10 b = 0) ∧ a ≠ b ∧ M 7 a = M 7 b
def sp_join : Sp := fun as w K => ∃ m0 M x y nl, ∃ mn : Nat → Nat, as = [.ref m0, .int x, .int y] ∧ RM m0 M w ∧ (M 16 0 = nI nl ∧ nl ≤ 60) ∧ (∀ j, j < nl → M 9 j = nI (mn j) ∧ mn j ≤ 300 ∧ ∀ i, i < mn j → ∃ p, p < 300 ∧ M 8 (300 * j + i) = nI p) ∧ (∀ a b, a < nl → b < nl → a ≠ b → mn a + mn b ≤ 300) ∧
  (∀ a b, okJoin M nl x y a b → ∀ w', RM m0 (mJoin M a b (mn a) (mn b)) w' → K (some (.int (nI (mn a + mn b)))) w') ∧ ((¬ ∃ a b, okJoin M nl x y a b) → ∀ w', RM m0 (m41 M) w' → K (some (.int (-1))) w')
theorem c_mjoin (l : Launch) : Ct l 93 4 0 0 sp_join := by
  have hev : ∀ (k : Nat) (r : Nat × Nat × Nat × Sp), evL [(90, 3, 0, 0, sp_isHere), (88, 1, 0, 0, sp_add)] k = some r → Ct l k r.1 r.2.1 r.2.2.1 r.2.2.2 := evL_ok (by simpa using ⟨c_isHere l, c_add l⟩)
  refine ct_jd (by decide) rfl (fun as w Po hq => ?_)
  obtain ⟨m0, M, x, y, nl, mn, rfl, hM, ⟨hn, hn2⟩, hrow, hsum, h1, h2⟩ := hq
  refine ⟨Nat.le_of_ble_eq_true rfl, ?_⟩
  refine jd_s cdo_93 hev [45] 60 z00 ?_
  refine ⟨hM.k, ?_⟩
  have hM := hM.si 41 rfl 0
  have hM : RM m0 (m41 M) _ := hM
  refine ⟨⟨by decide, by decide, by decide⟩, rfl, hM.k, m0, _, x, nl, rfl, hM, ⟨hn, hn2⟩, fun a ha hx hwa => br1 ?_, fun c => br0 (h2 (fun ⟨a, _, z⟩ => c ⟨a, z.1⟩) _ hM)⟩
  refine ⟨⟨by decide, by decide, by decide⟩, rfl, hM.k, m0, _, y, nl, rfl, hM, ⟨hn, hn2⟩, fun b hb hy hwb => br1 ?_, fun c => br0 (h2 (fun ⟨_, b, z⟩ => c ⟨b, z.2.1⟩) _ hM)⟩
  subst hx
  subst hy
  have only : ∀ a' b', okJoin M nl (nI a) (nI b) a' b' → a' = a ∧ b' = b := fun a' b' z => ⟨((nI_eq (by omega) (by have := z.1.1; omega)).mp z.1.2.1).symm, ((nI_eq (by omega) (by have := z.2.1.1; omega)).mp z.2.1.2.1).symm⟩
  refine ⟨fun c => ?_, fun c => ?_⟩
  · exact h2 (fun ⟨a', b', z⟩ => by
      obtain ⟨rfl, rfl⟩ := only a' b' z
      exact z.2.2.1 ((nI_eq (by omega) (by omega)).mp c)) _ hM
  have hab : a ≠ b := fun z => c (by rw [z])
  refine ⟨hM.k, _, hM.rf _ rfl, hM.kd _ rfl, a, _, hM.ix _ rfl rfl (show a < 60 by omega), hM.rd _ rfl a, hM.k, _, hM.rf _ rfl, hM.kd _ rfl, b, _, hM.ix _ rfl rfl (show b < 60 by omega), hM.rd _ rfl b, fun c => ?_, fun c => ?_⟩
  · obtain ⟨h9, hm3, h8⟩ := hrow a ha
    obtain ⟨h9b, hm3b, h8b⟩ := hrow b hb
    have hs := hsum a b ha hb hab
    have inv := mJoinP_in (M := m41 M) (a := a) (b := b) (ma := mn a) (mb := mn b) hab h9 h9b hs
    have key : ∀ d j w', j + d = mn b → RM m0 (mJoinP (m41 M) a b (mn a) j) w' → Jd l 93 4 0 0 (some .int) Po 45 [(3, .int (nI j)), (0, .ref m0), (1, .int (nI a)), (2, .int (nI b))] [] w' 0 0 := by
      intro d
      induction d with
      | zero =>
        intro j w' hj hM
        obtain rfl : j = mn b := by omega
        obtain ⟨e9, e9b, e8⟩ := inv (mn b) (Nat.le_refl _)
        refine jd_s cdo_93 hev [] 40 z00 ?_
        refine ⟨hM.k, _, hM.rf _ rfl, hM.kd _ rfl, b, _, hM.ix _ rfl rfl (show b < 60 by omega), (hM.rd _ rfl b).trans e9b, fun c2 => ?_, fun c2 => absurd (nI_le (Nat.le_refl _) (by omega)) c2⟩
        refine ⟨hM.k, _, hM.rf _ rfl, hM.kd _ rfl, b, hM.ix _ rfl rfl (show b < 60 by omega), ?_⟩
        have hM := hM.sa 9 rfl b 0
        refine ⟨hM.k, _, hM.rf _ rfl, hM.kd _ rfl, a, _, hM.ix _ rfl rfl (show a < 60 by omega), (hM.rd _ rfl a).trans (show _ = nI (mn a + mn b) from by rw [← e9]; simp [u2, hab]), ?_⟩
        exact h1 a b ⟨⟨ha, rfl, hwa⟩, ⟨hb, rfl, hwb⟩, hab, c⟩ _ hM
      | succ d ih =>
        intro j w' hj hM
        obtain ⟨e9, e9b, e8⟩ := inv j (by omega)
        obtain ⟨p, hp, ep⟩ := h8b j (by omega)
        refine jd_s cdo_93 hev [45] 60 z00 ?_
        refine ⟨hM.k, _, hM.rf _ rfl, hM.kd _ rfl, b, _, hM.ix _ rfl rfl (show b < 60 by omega), (hM.rd _ rfl b).trans e9b, fun c2 => ?_, fun c2 => ?_⟩
        · have := ge_n (by omega) (by omega) c2
          omega
        · refine ⟨hM.k, _, hM.rf _ rfl, hM.kd _ rfl, 300 * b + j, _, hM.ix _ rfl (by rw [n300, nI_add]) (show 300 * b + j < 18000 by omega), (hM.rd _ rfl _).trans ((e8 j (by omega)).trans ep), ?_⟩
          refine ⟨⟨by decide, by decide, by decide⟩, rfl, hM.k, m0, _, a, mn a + j, p, rfl, hM, ⟨e9, by omega, by omega, hp⟩, fun w3 hM3 => ?_⟩
          have ep' : m41 M 8 (300 * b + j) = nI p := ep
          have := ih (j + 1) w3 (by omega) (by rw [mJoinP, ep', pN_n (by omega)]; exact hM3)
          rw [← nI_1] at this
          exact this
    exact key (mn b) 0 _ (by omega) hM
  · exact h2 (fun ⟨a', b', z⟩ => by
      obtain ⟨rfl, rfl⟩ := only a' b' z
      exact c z.2.2.2) _ hM
