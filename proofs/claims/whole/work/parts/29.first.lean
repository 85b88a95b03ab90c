/-! the reference: firstFor, leave -/
theorem and_p (a i : Nat) : a &&& 2 ^ i = 0 ↔ a.testBit i = false := by
  constructor
  · intro h
    have h1 : (a &&& 2 ^ i).testBit i = false := by rw [h]; simp
    rw [Nat.testBit_and, Nat.testBit_two_pow] at h1
    simpa using h1
  · intro h
    apply Nat.eq_of_testBit_eq
    intro j
    rw [Nat.testBit_and, Nat.testBit_two_pow]
    by_cases hj : i = j
    · subst hj; simp [h]
    · simp [hj]
theorem sub1 (x : Int32) : x - 1 = x + (-1) := by rw [Int32.sub_eq_add_neg]
/-- the place i does for wheel w -/
def ffP (g : Nat → Nat) (w be os i : Nat) : Prop := (g w).testBit i = true ∧ os.testBit i = true ∧ Mt g be (os ^^^ 2 ^ i)
def sp_firstFor : Sp := fun as w K => ∃ m0 M x wh be os, ∃ g : Nat → Nat, as = [.ref m0, .int (nI x), .int (nI wh), .int (nI be), .int (nI os)] ∧ RM m0 M w ∧ (x < 2 ∧ wh < 10 ∧ be < 1024 ∧ os < 1024) ∧ gwOK M x g ∧ (∀ i, i < 10 → ffP g wh be os i → (∀ j, j < i → ¬ ffP g wh be os j) → K (some (.int (nI i))) w) ∧ ((¬ ∃ i, i < 10 ∧ ffP g wh be os i) → K (some (.int (-1))) w)
theorem bc_le (s : Nat) : bc s ≤ 10 := cn_le _ 10
theorem c_firstFor (l : Launch) : Ct l 119 13 0 0 sp_firstFor := by
  have hev : ∀ (k : Nat) (r : Nat × Nat × Nat × Sp), evL [(116, 12, 0, 0, sp_can 10)] k = some r → Ct l k r.1 r.2.1 r.2.2.1 r.2.2.2 := evL_ok (by simpa using c_can l 10)
  refine ct_jd (by decide) rfl (fun as w Po hq => ?_)
  obtain ⟨m0, M, x, wh, be, os, g, rfl, hM, ⟨hx, hwh, hbe, hos⟩, hg, h1, h2⟩ := hq
  refine ⟨Nat.le_of_ble_eq_true rfl, ?_⟩
  obtain ⟨hg1, hg2⟩ := hg wh hwh
  have key : ∀ d i, i + d = 10 → (∀ j, j < i → ¬ ffP g wh be os j) → Jd l 119 13 0 0 (some .int) Po 3 [(5, .int (nI i)), (0, .ref m0), (1, .int (nI x)), (2, .int (nI wh)), (3, .int (nI be)), (4, .int (nI os))] [] w 0 0 := by
    intro d
    induction d with
    | zero =>
      intro i hi hno
      obtain rfl : i = 10 := by omega
      refine jd_s cdo_119 hev [] 10 z00 ?_
      exact ⟨fun _ => h2 (fun ⟨j, hj, z⟩ => hno j hj z), fun c => absurd (Int32.le_refl _) c⟩
    | succ d ih =>
      intro i hi hno
      have hi10 : i < 10 := by omega
      have fin : ¬ ffP g wh be os i → Jd l 119 13 0 0 (some .int) Po 54 [(5, .int (nI i)), (0, .ref m0), (1, .int (nI x)), (2, .int (nI wh)), (3, .int (nI be)), (4, .int (nI os))] [] w 0 0 := by
        intro hn
        refine jd_s cdo_119 hev [3] 10 z00 ?_
        have := ih (i + 1) (by omega) (fun j hj => by
          by_cases z : j = i
          · subst z; exact hn
          · exact hno j (by omega))
        rw [← nI_1] at this
        exact this
      refine jd_s cdo_119 hev [54] 60 z00 ?_
      refine ⟨fun c => ?_, fun c => ?_⟩
      · have := ge_n (a := i) (b := 10) (by omega) (by omega) c
        omega
      · refine ⟨hM.k, _, hM.rf _ rfl, hM.kd _ rfl, 10 * x + wh, _, hM.ix _ rfl (by rw [n10, nI_add]) (show 10 * x + wh < 20 by omega), (hM.rd _ rfl _).trans hg1, ?_⟩
        have e : nI (g wh) &&& nI os &&& ((1 : Int32) <<< (nI i &&& 31)) = nI ((g wh &&& os) &&& 2 ^ i) := by rw [sh1 _ (by omega), nI_and, nI_and]
        have hb : ((g wh &&& os) &&& 2 ^ i) < 2147483648 := by
          have h3 := Nat.and_le_left (n := g wh &&& os) (m := 2 ^ i)
          have h4 := Nat.and_le_left (n := g wh) (m := os)
          omega
        refine ⟨fun c2 => ?_, fun c2 => ?_⟩
        · have c2 : ¬ nI ((g wh &&& os) &&& 2 ^ i) = 0 := fun z => c2 (e.trans z)
          have hbit : (g wh &&& os).testBit i = true := by
            cases hq : (g wh &&& os).testBit i with
            | true => rfl
            | false => exact absurd (show nI ((g wh &&& os) &&& 2 ^ i) = 0 by rw [(and_p _ _).mpr hq]; rfl) c2
          rw [Nat.testBit_and, Bool.and_eq_true] at hbit
          have harg : ([.ref m0, .int (nI x), .int (nI be), .int (nI os ^^^ ((1 : Int32) <<< (nI i &&& 31)))] : List Value) = [.ref m0, .int (nI x), .int (nI be), .int (nI (os ^^^ 2 ^ i))] := by rw [sh1 _ (by omega), nI_xor]
          refine ⟨⟨by decide, by decide, by decide⟩, rfl, hM.k, m0, M, x, be, os ^^^ 2 ^ i, g, harg, hM, ⟨hx, hbe, x_lt hos (p_lt hi10), bc_le be⟩, hg, fun mt => br1 (h1 i hi10 ⟨hbit.1, hbit.2, mt⟩ hno), fun nmt => br0 (fin (fun z => nmt z.2.2))⟩
        · have c2 : nI ((g wh &&& os) &&& 2 ^ i) = 0 := e.symm.trans c2
          refine fin (fun z => ?_)
          have h5 : ((g wh &&& os) &&& 2 ^ i) = 0 := (nI_eq hb (by decide)).mp c2
          have h6 := (and_p _ _).mp h5
          rw [Nat.testBit_and, z.1, z.2.1] at h6
          cases h6
  refine jd_s cdo_119 hev [3] 10 z00 ?_
  exact key 10 0 (by omega) (fun j hj => absurd hj (Nat.not_lt_zero _))
theorem sh31 : ∀ i, i < 10 → ((nI i &&& 31).toBitVec.smod 32).toNat = i := by decide +kernel
theorem bitI {s i : Nat} (hs : s < 1024) (hi : i < 10) : (nI s >>> (nI i &&& 31)) &&& 1 = (if s.testBit i = true then 1 else 0) := by
  rw [pk_shrN (by omega) _ i (sh31 i hi), pk_andN (m := 1) (by have := Nat.div_le_self s (2 ^ i); omega) 1 (by decide), Nat.testBit_eq_decide_div_mod_eq]
  rcases Nat.mod_two_eq_zero_or_one (s / 2 ^ i) with h | h <;> simp [h] <;> rfl
/-- the row of lot l without the places of s below i, from the last on; c: how many it has now -/
def mLvP (l s : Nat) : Nat → Nat → Ms → Ms
  | 0, _, M => M
  | i + 1, c, M => if s.testBit i = true then mLvP l s i (c - 1) (mTake M l i (c - 1)) else mLvP l s i c M
def sp_leave : Sp := fun as w K => ∃ m0 M l s m, as = [.ref m0, .int (nI l), .int (nI s)] ∧ RM m0 M w ∧ (l < 60 ∧ s < 1024 ∧ m ≤ 10 ∧ M 9 l = nI m) ∧ ∀ w', RM m0 (mLvP l s m m M) w' → K none w'
theorem c_leave (l : Launch) : Ct l 120 2 0 0 sp_leave := by
  have hev : ∀ (k : Nat) (r : Nat × Nat × Nat × Sp), evL [(92, 1, 0, 0, sp_take)] k = some r → Ct l k r.1 r.2.1 r.2.2.1 r.2.2.2 := evL_ok (by simpa using c_take l)
  refine ct_jd (by decide) rfl (fun as w Po hq => ?_)
  obtain ⟨m0, M, lo, s, m, rfl, hM, ⟨hl, hs, hm, h9⟩, h⟩ := hq
  refine ⟨Nat.le_of_ble_eq_true rfl, ?_⟩
  have key : ∀ i c N w', i ≤ c → c ≤ 10 → N 9 lo = nI c → RM m0 N w' → (∀ w2, RM m0 (mLvP lo s i c N) w2 → Po none w2) → Jd l 120 2 0 0 none Po 9 [(3, .int (nI i - 1)), (0, .ref m0), (1, .int (nI lo)), (2, .int (nI s))] [] w' 0 0 := by
    intro i
    induction i with
    | zero =>
      intro c N w' _ _ _ hM hk
      refine jd_s cdo_120 hev [] 10 z00 ?_
      exact ⟨fun _ => hk _ hM, fun c => absurd (show nI 0 - 1 < 0 by decide) c⟩
    | succ i ih =>
      intro c N w' hic hc h9 hM hk
      rw [nI_pred]
      rw [mLvP] at hk
      refine jd_s cdo_120 hev [9] 40 z00 ?_
      refine ⟨fun c => absurd c (nI_pos (by omega)), fun _ => ?_⟩
      have hb := bitI hs (show i < 10 by omega)
      refine ⟨fun c2 => ?_, fun c2 => ?_⟩
      · have hf : ¬ s.testBit i = true := fun z => c2 (by rw [hb, if_pos z])
        rw [if_neg hf] at hk
        have := ih c N w' (by omega) hc h9 hM hk
        rw [sub1] at this
        exact this
      · have ht : s.testBit i = true := by
          by_cases z : s.testBit i = true
          · exact z
          · have c2 : (nI s >>> (nI i &&& 31)) &&& 1 = 1 := c2
            rw [hb, if_neg z] at c2
            exact absurd c2 (by decide)
        rw [if_pos ht] at hk
        refine ⟨⟨by decide, by decide, by decide⟩, rfl, hM.k, m0, N, lo, i, c - 1, rfl, hM, ⟨by rw [show c - 1 + 1 = c by omega]; exact h9, by omega, by omega, hl⟩, fun w2 hM2 => ?_⟩
        have := ih (c - 1) _ w2 (by omega) (by omega) (by simp [mTake, mTakeK]) hM2 hk
        rw [sub1] at this
        exact this
  refine jd_s cdo_120 hev [9] 20 z00 ?_
  refine ⟨hM.k, _, hM.rf _ rfl, hM.kd _ rfl, lo, _, hM.ix _ rfl rfl hl, (hM.rd _ rfl lo).trans h9, ?_⟩
  exact key m m M w (Nat.le_refl _) hm h9 hM h
