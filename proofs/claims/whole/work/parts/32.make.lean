/-! the reference: most, make -/
def sp_most : Sp := fun as w K => ∃ m0 M N x y z nl, ∃ mn : Nat → Nat, as = [.ref m0, .int x, .int y, .int z] ∧ RM m0 M w ∧ N = u2 M 41 0 0 ∧ (N 16 0 = nI nl ∧ nl ≤ 60) ∧ (∀ j, j < nl → N 9 j = nI (mn j) ∧ mn j ≤ 300) ∧ (G42 N ∧ ∀ a b c, okMk N nl mn x y z a b c → okR N a (mn a) 0 ∧ okR N b (mn b) 1 ∧ okR N c (mn c) 2) ∧ (∀ a b c B w', okMk N nl mn x y z a b c → isB N a b c (mn a) (mn b) (mn c) B → RM m0 (mGw N a b c (mn a) (mn c) (mn b)) w' → K (some (.int (nI (bc B)))) w') ∧ ((¬ ∃ a b c, okMk N nl mn x y z a b c) → ∀ w', RM m0 N w' → K (some (.int (-1))) w')
theorem c_most (l : Launch) : Ct l 111 14 0 0 sp_most := by
  refine ct_jd (by decide) rfl (fun as w Po h => ?_)
  obtain ⟨m0, M, N, x, y, z, nl, mn, rfl, hM, eN, hn, hm, ⟨h42, hok⟩, h1, h2⟩ := h
  refine ⟨Nat.le_of_ble_eq_true rfl, jd_run cdo_111 (evL_ok (L := [(112, 4, 0, 0, sp_areLots), (113, 13, 0, 0, sp_taken), (114, 1, 0, 0, sp_bitCount)]) (by simpa using ⟨c_areLots l, c_taken l, c_bitCount l⟩)) 40 z00 ?_⟩
  refine ⟨hM.k, ?_⟩
  have hM := hM.si 41 rfl 0
  rw [← eN] at hM
  refine ⟨⟨by decide, by decide, by decide⟩, rfl, hM.k, m0, N, x, y, z, nl, mn, rfl, hM, hn, hm, fun a b c hk => br1 ?_, fun hno => br0 (h2 hno _ hM)⟩
  obtain ⟨ha, hb, hc⟩ := hok a b c hk
  refine ⟨⟨by decide, by decide, by decide⟩, rfl, hM.k, m0, N, a, b, c, mn a, mn b, mn c, by rw [hk.1.2.1, hk.2.1.2.1, hk.2.2.1.2.1]; rfl, hM, ⟨ha, hb, hc, h42⟩, fun w' B hw' hB => ?_⟩
  refine ⟨⟨by decide, by decide, by decide⟩, rfl, Nat.le_of_ble_eq_true rfl, B, rfl, Nat.lt_of_lt_of_le hB.1 (p10 hb.2.1), ?_⟩
  exact h1 a b c B w' hk hB hw'
/-- the first place that does -/
def fF (g : Nat → Nat) (w be os i : Nat) : Prop := i < 10 ∧ ffP g w be os i ∧ ∀ j, j < i → ¬ ffP g w be os j
/-- the wheels of be in their order, each with its plate and its stone -/
def MkS (g0 g1 : Nat → Nat) : List (Nat × Nat × Nat) → Nat → Nat → Nat → Nat → Nat → Prop
  | [], be, pl, st, pl', st' => be = 0 ∧ pl' = pl ∧ st' = st
  | q :: t, be, pl, st, pl', st' => be ≠ 0 ∧ q.1 = tz be ∧ fF g0 q.1 (be ^^^ 2 ^ q.1) pl q.2.1 ∧ fF g1 q.1 (be ^^^ 2 ^ q.1) st q.2.2 ∧ MkS g0 g1 t (be ^^^ 2 ^ q.1) (pl ^^^ 2 ^ q.2.1) (st ^^^ 2 ^ q.2.2) pl' st'
def mW1 (M : Ms) (k P : Nat) : Ms := u2 (u2 M 4 P 2) 5 P (nI k)
def mW (M : Ms) (k P Q R : Nat) : Ms := u2 (u2 (mW1 (mW1 (mW1 (u2 (u2 (u2 M 38 (3 * k) (nI P)) 38 (3 * k + 1) (nI Q)) 38 (3 * k + 2) (nI R)) k P) k Q) k R) 39 k 0) 40 0 (nI (k + 1))
def mMk (a b c : Nat) : List (Nat × Nat × Nat) → Nat → Ms → Ms
  | [], _, M => M
  | q :: t, k, M => mMk a b c t (k + 1) (mW M k (prN M a q.2.1) (prN M b q.1) (prN M c q.2.2))
theorem mW1_ot (M : Ms) (k P f i : Nat) (h : f ≠ 4 ∧ f ≠ 5) : mW1 M k P f i = M f i := by rw [mW1, u2_ne h.2, u2_ne h.1]
theorem mW_40 (M : Ms) (k P Q R : Nat) : mW M k P Q R 40 0 = nI (k + 1) := by simp [mW, u2]
theorem mW_ot (M : Ms) (k P Q R f i : Nat) (h : f ≠ 38 ∧ f ≠ 4 ∧ f ≠ 5 ∧ f ≠ 39 ∧ f ≠ 40) : mW M k P Q R f i = M f i := by
  obtain ⟨h1, h2, h3, h4, h5⟩ := h
  rw [mW, mW1, mW1, mW1, u2_ne h5, u2_ne h4, u2_ne h3, u2_ne h2, u2_ne h3, u2_ne h2, u2_ne h3, u2_ne h2, u2_ne h1, u2_ne h1, u2_ne h1]
theorem mMk_ot (a b c f i : Nat) (h : f ≠ 38 ∧ f ≠ 4 ∧ f ≠ 5 ∧ f ≠ 39 ∧ f ≠ 40) : ∀ (T : List (Nat × Nat × Nat)) (k : Nat) (M : Ms), mMk a b c T k M f i = M f i
  | [], _, _ => rfl
  | q :: t, k, M => by rw [mMk, mMk_ot a b c f i h t, mW_ot _ _ _ _ _ _ _ h]
theorem mLvP_9 (l s f j : Nat) (h : f ≠ 8 ∧ (f = 9 → j ≠ l)) : ∀ i c M, mLvP l s i c M f j = M f j
  | 0, c, M => rfl
  | i + 1, c, M => by
    rw [mLvP]
    split
    · rw [mLvP_9 l s f j h i]
      have h1 : ¬ (f = 9 ∧ j = l) := fun z => h.2 z.1 z.2
      have h2 : ¬ (f = 8 ∧ 300 * l + i ≤ j ∧ j < 300 * l + (c - 1)) := fun z => h.1 z.1
      rw [mTake, mTakeK, if_neg h1, if_neg h2]
    · exact mLvP_9 l s f j h i c M
def mMake (M : Ms) (a b c ma mb mc B pl st : Nat) (T : List (Nat × Nat × Nat)) (nw : Nat) : Ms := mLvP c ((2 ^ mc - 1) ^^^ st) mc mc (mLvP b B mb mb (mLvP a ((2 ^ ma - 1) ^^^ pl) ma ma (mMk a b c T nw (mGw M a b c ma mc mb))))
theorem ffP_cong {g g' : Nat → Nat} {w be os i : Nat} (h1 : g w = g' w) (h2 : ∀ v, be.testBit v = true → g v = g' v) : ffP g w be os i ↔ ffP g' w be os i := by
  rw [ffP, ffP, h1, Mt_cong h2]
theorem n3I (k : Nat) : (3 : Int32) * nI k = nI (3 * k) := by rw [show (3 : Int32) = nI 3 from rfl, pk_mul]
theorem x_2 {a i m : Nat} (ha : a < 2 ^ m) (h : a.testBit i = true) : a ^^^ 2 ^ i < 2 ^ m := Nat.xor_lt_two_pow ha (Nat.pow_lt_pow_right (by decide) (bl_lt ha h))
section MKB
variable {l : Launch} {Po : Option Value → Hp → Prop} {m0 k : Nat} {v6 v5 v11 v10 v7 v9 v8 v4 v1 v2 v3 : Value}
/-- a piece of the watch is told of it -/
theorem mk_b {i X : Nat} {P : Ms} {w : Hp} (hM : RM m0 P w) (hi : i < 3) (hk : k < 100) (h38 : P 38 (3 * k + i) = nI X) (hX : X < 300) (h40 : P 40 0 = nI k) (h : ∀ w', RM m0 (mW1 P k X) w' → Jd l 118 14 0 0 (some .int) Po 197 [(13, .int (nI (i + 1))), (12, .int (nI (3 * k))), (6, v6), (5, v5), (11, v11), (10, v10), (7, v7), (9, v9), (8, v8), (4, v4), (0, .ref m0), (1, v1), (2, v2), (3, v3)] [] w' 0 0) : Jd l 118 14 0 0 (some .int) Po 197 [(13, .int (nI i)), (12, .int (nI (3 * k))), (6, v6), (5, v5), (11, v11), (10, v10), (7, v7), (9, v9), (8, v8), (4, v4), (0, .ref m0), (1, v1), (2, v2), (3, v3)] [] w 0 0 := by
  refine jd_s cdo_118 ev0 [197] 60 z00 ⟨fun q => ?_, fun _ => ?_⟩
  · have := ge_n (a := i) (b := 3) (by omega) (by omega) q
    omega
  refine ⟨hM.k, _, hM.rf _ rfl, hM.k, _, hM.rf _ rfl, hM.kd _ rfl, 3 * k + i, _, hM.ix _ rfl (nI_add (3 * k) i) (show 3 * k + i < 300 by omega), (hM.rd _ rfl _).trans h38, hM.kd _ rfl, X, hM.ix _ rfl rfl hX, ?_⟩
  have hM := hM.sa 4 rfl X 2
  refine ⟨hM.k, _, hM.rf _ rfl, hM.k, _, hM.rf _ rfl, hM.kd _ rfl, 3 * k + i, _, hM.ix _ rfl (nI_add (3 * k) i) (show 3 * k + i < 300 by omega), (hM.rd _ rfl _).trans h38, hM.k, _, (hM.ri _ rfl).trans h40, hM.kd _ rfl, X, hM.ix _ rfl rfl hX, ?_⟩
  have hM := hM.sa 5 rfl X (nI k)
  have := h _ hM
  rw [← nI_1] at this
  exact this
/-- the three pieces into the row of watches -/
theorem mk_a {a b c p s t X Y Z pl st : Nat} {P : Ms} {w : Hp} {x4 : Int32} {v7 v8 : Value} (hM : RM m0 P w) (hk : k < 100) (hal : a < 60 ∧ b < 60 ∧ c < 60) (hpp : p < 10 ∧ s < 10 ∧ t < 10) (qa : P 8 (300 * a + p) = nI X) (qb : P 8 (300 * b + t) = nI Y) (qc : P 8 (300 * c + s) = nI Z) (h40 : P 40 0 = nI k) (h : ∀ w', RM m0 (u2 (u2 (u2 P 38 (3 * k) (nI X)) 38 (3 * k + 1) (nI Y)) 38 (3 * k + 2) (nI Z)) w' → Jd l 118 14 0 0 (some .int) Po 197 [(13, .int (nI 0)), (12, .int (nI (3 * k))), (6, .int (nI (st ^^^ 2 ^ s))), (5, .int (nI (pl ^^^ 2 ^ p))), (11, .int (nI s)), (10, .int (nI p)), (7, v7), (9, .int (nI t)), (8, v8), (4, .int x4), (0, .ref m0), (1, .int (nI a)), (2, .int (nI b)), (3, .int (nI c))] [] w' 0 0) : Jd l 118 14 0 0 (some .int) Po 104 [(11, .int (nI s)), (10, .int (nI p)), (7, v7), (9, .int (nI t)), (8, v8), (6, .int (nI st)), (5, .int (nI pl)), (4, .int x4), (0, .ref m0), (1, .int (nI a)), (2, .int (nI b)), (3, .int (nI c))] [] w 0 0 := by
  obtain ⟨hal, hbl, hcl⟩ := hal
  obtain ⟨hp, hs, ht⟩ := hpp
  rw [← nI_xor, ← nI_xor, ← sh1 p (by omega), ← sh1 s (by omega), ← n3I] at h
  refine jd_s cdo_118 ev0 [150] 60 z00 ?_
  refine ⟨hM.k, _, (hM.ri _ rfl).trans h40, ?_⟩
  refine ⟨hM.k, _, hM.rf _ rfl, hM.k, _, hM.rf _ rfl, hM.kd _ rfl, 300 * a + p, _, hM.ix _ rfl (by rw [n300, nI_add]) (show 300 * a + p < 18000 by omega), (hM.rd _ rfl _).trans qa, hM.kd _ rfl, 3 * k, hM.ix _ rfl (n3I k) (show 3 * k < 300 by omega), ?_⟩
  have hM := hM.sa 38 rfl (3 * k) (nI X)
  refine jd_s cdo_118 ev0 [172] 60 z00 ?_
  refine ⟨hM.k, _, hM.rf _ rfl, hM.k, _, hM.rf _ rfl, hM.kd _ rfl, 300 * b + t, _, hM.ix _ rfl (by rw [n300, nI_add]) (show 300 * b + t < 18000 by omega), (hM.rd _ rfl _).trans qb, hM.kd _ rfl, 3 * k + 1, hM.ix _ rfl (by rw [n3I, nI_1]) (show 3 * k + 1 < 300 by omega), ?_⟩
  have hM := hM.sa 38 rfl (3 * k + 1) (nI Y)
  refine jd_s cdo_118 ev0 [197] 60 z00 ?_
  refine ⟨hM.k, _, hM.rf _ rfl, hM.k, _, hM.rf _ rfl, hM.kd _ rfl, 300 * c + s, _, hM.ix _ rfl (by rw [n300, nI_add]) (show 300 * c + s < 18000 by omega), (hM.rd _ rfl _).trans qc, hM.kd _ rfl, 3 * k + 2, hM.ix _ rfl (by rw [n3I]; exact nI_add (3 * k) 2) (show 3 * k + 2 < 300 by omega), ?_⟩
  have hM := hM.sa 38 rfl (3 * k + 2) (nI Z)
  exact h _ hM
/-- the watch is there -/
theorem mk_e {P : Ms} {w : Hp} {made : Nat} {x7 : Int32} (hM : RM m0 P w) (hk : k < 100) (h40 : P 40 0 = nI k) (h : ∀ w', RM m0 (u2 (u2 P 39 k 0) 40 0 (nI (k + 1))) w' → Jd l 118 14 0 0 (some .int) Po 57 [(8, .int (nI (made + 1))), (7, .int x7), (6, v6), (5, v5), (4, v4), (0, .ref m0), (1, v1), (2, v2), (3, v3)] [] w' 0 0) : Jd l 118 14 0 0 (some .int) Po 197 [(13, .int (nI 3)), (12, .int (nI (3 * k))), (6, v6), (5, v5), (11, v11), (10, v10), (7, .int x7), (9, v9), (8, .int (nI made)), (4, v4), (0, .ref m0), (1, v1), (2, v2), (3, v3)] [] w 0 0 := by
  rw [← nI_1, ← nI_1] at h
  refine jd_s cdo_118 ev0 [57] 60 z00 ?_
  refine ⟨fun _ => ?_, fun q => absurd (show (3 : Int32) ≤ nI 3 by decide) q⟩
  refine ⟨hM.k, _, hM.rf _ rfl, hM.k, _, (hM.ri _ rfl).trans h40, hM.kd _ rfl, Or.inl rfl, k, hM.ix _ rfl rfl hk, ?_⟩
  have hM := hM.sa 39 rfl k 0
  refine ⟨hM.k, _, (hM.ri _ rfl).trans h40, hM.k, ?_⟩
  have hM := hM.si 40 rfl (nI k + 1)
  exact jd_pk [0, 7, 3, 4, 9, 10, 11, 12, 13] (h _ hM)
end MKB
theorem mk_z {l : Launch} {Po : Option Value → Hp → Prop} {m0 a b c ma mb mc B pl st t : Nat} {Q : Ms} {w2 : Hp} {x7 : Int32} (hM2 : RM m0 Q w2) (hab : a ≠ b) (hac : a ≠ c) (hbc : b ≠ c) (hal : a < 60) (hbl : b < 60) (hcl : c < 60) (ham : ma ≤ 10) (hbm : mb ≤ 10) (hcm : mc ≤ 10) (hB1 : B < 2 ^ mb) (hpl' : pl < 2 ^ ma) (hst' : st < 2 ^ mc) (ta : Q 9 a = nI ma) (tb : Q 9 b = nI mb) (tc : Q 9 c = nI mc) (h : ∀ w', RM m0 (mLvP c ((2 ^ mc - 1) ^^^ st) mc mc (mLvP b B mb mb (mLvP a ((2 ^ ma - 1) ^^^ pl) ma ma Q))) w' → Po (some (.int (nI t))) w') : Jd l 118 14 0 0 (some .int) Po 270 [(8, .int (nI t)), (7, .int x7), (6, .int (nI st)), (5, .int (nI pl)), (4, .int (nI B)), (0, .ref m0), (1, .int (nI a)), (2, .int (nI b)), (3, .int (nI c))] [] w2 0 0 := by
  have ha2 := p10 ham
  have hb2 := p10 hbm
  have hc2 := p10 hcm
  have ppa := Nat.two_pow_pos ma
  have ppc := Nat.two_pow_pos mc
  refine jd_s cdo_118 (evL_ok (L := [(120, 2, 0, 0, sp_leave)]) (by simpa using c_leave l)) [] 60 z00 ?_
  refine ⟨hM2.k, _, hM2.rf _ rfl, hM2.kd _ rfl, a, _, hM2.ix _ rfl rfl hal, (hM2.rd _ rfl a).trans ta, ?_⟩
  have xa : (2 ^ ma - 1) ^^^ pl < 2 ^ ma := Nat.xor_lt_two_pow (by omega) hpl'
  have xc : (2 ^ mc - 1) ^^^ st < 2 ^ mc := Nat.xor_lt_two_pow (by omega) hst'
  refine ⟨⟨by decide, by decide, by decide⟩, rfl, hM2.k, m0, _, a, (2 ^ ma - 1) ^^^ pl, ma, by rw [← nI_xor, ← pm1, ← sh1 ma (by omega)]; rfl, hM2, ⟨hal, by omega, ham, ta⟩, fun w3 hM3 => ?_⟩
  refine ⟨⟨by decide, by decide, by decide⟩, rfl, hM3.k, m0, _, b, B, mb, rfl, hM3, ⟨hbl, by omega, hbm, (mLvP_9 a _ 9 b ⟨by decide, fun _ => Ne.symm hab⟩ _ _ _).trans tb⟩, fun w4 hM4 => ?_⟩
  have t9c := (mLvP_9 b B 9 c ⟨by decide, fun _ => Ne.symm hbc⟩ mb mb (mLvP a ((2 ^ ma - 1) ^^^ pl) ma ma Q)).trans ((mLvP_9 a ((2 ^ ma - 1) ^^^ pl) 9 c ⟨by decide, fun _ => Ne.symm hac⟩ ma ma Q).trans tc)
  refine ⟨hM4.k, _, hM4.rf _ rfl, hM4.kd _ rfl, c, _, hM4.ix _ rfl rfl hcl, (hM4.rd _ rfl c).trans t9c, ?_⟩
  refine ⟨⟨by decide, by decide, by decide⟩, rfl, hM4.k, m0, _, c, (2 ^ mc - 1) ^^^ st, mc, by rw [← nI_xor, ← pm1, ← sh1 mc (by omega)]; rfl, hM4, ⟨hcl, by omega, hcm, t9c⟩, fun w5 hM5 => ?_⟩
  exact h w5 hM5
theorem mk_s {l : Launch} {Po : Option Value → Hp → Prop} {m0 be pl st : Nat} {P : Ms} {w : Hp} {x8 x4 x1 x2 x3 : Int32} {G0 G1 : Nat → Nat} (hM : RM m0 P w) (g0 : gwOK P 0 G0) (g1 : gwOK P 1 G1) (hpos : 0 < be) (hbe : be < 1024) (hpl : pl < 1024) (hst : st < 1024) (i0 : ∃ i, i < 10 ∧ ffP G0 (tz be) (be ^^^ 2 ^ tz be) pl i) (i1 : ∃ i, i < 10 ∧ ffP G1 (tz be) (be ^^^ 2 ^ tz be) st i) (h : ∀ p s, fF G0 (tz be) (be ^^^ 2 ^ tz be) pl p → fF G1 (tz be) (be ^^^ 2 ^ tz be) st s → Jd l 118 14 0 0 (some .int) Po 104 [(11, .int (nI s)), (10, .int (nI p)), (7, .int (nI (be ^^^ 2 ^ tz be))), (9, .int (nI (tz be))), (8, .int x8), (6, .int (nI st)), (5, .int (nI pl)), (4, .int x4), (0, .ref m0), (1, .int x1), (2, .int x2), (3, .int x3)] [] w 0 0) : Jd l 118 14 0 0 (some .int) Po 57 [(8, .int x8), (7, .int (nI be)), (6, .int (nI st)), (5, .int (nI pl)), (4, .int x4), (0, .ref m0), (1, .int x1), (2, .int x2), (3, .int x3)] [] w 0 0 := by
  obtain ⟨ht, htb⟩ := tz_ok be hbe hpos
  have hx : be ^^^ 2 ^ tz be < 1024 := x_lt hbe (p_lt ht)
  have hne : ¬ nI be = 0 := nI_ne0 hpos (by omega)
  have e1 : nI be ^^^ ((1 : Int32) <<< (nI (tz be) &&& 31)) = nI (be ^^^ 2 ^ tz be) := by rw [sh1 _ (by omega), nI_xor]
  refine jd_s cdo_118 (evL_ok (L := [(117, 1, 0, 0, sp_ntz), (119, 13, 0, 0, sp_firstFor)]) (by simpa using ⟨c_ntz l, c_firstFor l⟩)) [104] 60 z00 ⟨fun q => absurd q hne, fun _ => ?_⟩
  refine ⟨⟨by decide, by decide, by decide⟩, rfl, Nat.le_of_ble_eq_true rfl, be, rfl, hbe, hpos, ?_⟩
  refine ⟨⟨by decide, by decide, by decide⟩, rfl, hM.k, m0, P, 0, tz be, be ^^^ 2 ^ tz be, pl, G0, by rw [← e1]; rfl, hM, ⟨by decide, ht, hx, hpl⟩, g0, fun p hp hfp hfl => ?_, fun hno => absurd i0 hno⟩
  refine ⟨⟨by decide, by decide, by decide⟩, rfl, hM.k, m0, P, 1, tz be, be ^^^ 2 ^ tz be, st, G1, by rw [← e1]; rfl, hM, ⟨by decide, ht, hx, hst⟩, g1, fun s hs hfs hfsl => ?_, fun hno => absurd i1 hno⟩
  have := h p s ⟨hp, hfp, hfl⟩ ⟨hs, hfs, hfsl⟩
  rw [← e1] at this
  exact this
def sp_make : Sp := fun as w K => ∃ m0 M N x y z nl nw, ∃ mn : Nat → Nat, as = [.ref m0, .int x, .int y, .int z] ∧ RM m0 M w ∧ N = u2 M 41 0 0 ∧ (N 16 0 = nI nl ∧ nl ≤ 60 ∧ N 40 0 = nI nw) ∧ (∀ j, j < nl → N 9 j = nI (mn j) ∧ mn j ≤ 300) ∧ (G42 N ∧ ∀ a b c, okMk N nl mn x y z a b c → okR N a (mn a) 0 ∧ okR N b (mn b) 1 ∧ okR N c (mn c) 2 ∧ ∀ B, isB N a b c (mn a) (mn b) (mn c) B → nw + bc B ≤ 100) ∧ (∀ a b c B T pl st w', okMk N nl mn x y z a b c → isB N a b c (mn a) (mn b) (mn c) B → MkS (gPl N a b (mn a)) (gSt N b c (mn c)) T B (2 ^ mn a - 1) (2 ^ mn c - 1) pl st → RM m0 (mMake N a b c (mn a) (mn b) (mn c) B pl st T nw) w' → K (some (.int (nI T.length))) w') ∧ ((¬ ∃ a b c, okMk N nl mn x y z a b c) → ∀ w', RM m0 N w' → K (some (.int (-1))) w')
set_option maxHeartbeats 1000000 in
theorem c_make (l : Launch) : Ct l 118 14 0 0 sp_make := by
  have hev : ∀ (k : Nat) (r : Nat × Nat × Nat × Sp), evL [(112, 4, 0, 0, sp_areLots), (113, 13, 0, 0, sp_taken), (117, 1, 0, 0, sp_ntz), (119, 13, 0, 0, sp_firstFor), (120, 2, 0, 0, sp_leave)] k = some r → Ct l k r.1 r.2.1 r.2.2.1 r.2.2.2 := evL_ok (by simpa using ⟨c_areLots l, c_taken l, c_ntz l, c_firstFor l, c_leave l⟩)
  refine ct_jd (by decide) rfl (fun as w Po h => ?_)
  obtain ⟨m0, M, N, x, y, z, nl, nw, mn, rfl, hM, eN, ⟨hn, hn2, hnw⟩, hm, ⟨h42, hok⟩, h1, h2⟩ := h
  refine ⟨Nat.le_of_ble_eq_true rfl, jd_s cdo_118 hev [57] 60 z00 ?_⟩
  refine ⟨hM.k, ?_⟩
  have hM := hM.si 41 rfl 0
  rw [← eN] at hM
  refine ⟨⟨by decide, by decide, by decide⟩, rfl, hM.k, m0, N, x, y, z, nl, mn, rfl, hM, ⟨hn, hn2⟩, hm, fun a b c hk => br1n ?_, fun hno => br0n (h2 hno _ hM)⟩
  obtain ⟨ha, hb, hc, hcnt⟩ := hok a b c hk
  have hab : a ≠ b := fun q => absurd (hk.2.2.2.1.1.symm.trans ((congrArg (N 7) q).trans hk.2.2.2.1.2.1)) (by decide)
  have hac : a ≠ c := fun q => absurd (hk.2.2.2.1.1.symm.trans ((congrArg (N 7) q).trans hk.2.2.2.1.2.2)) (by decide)
  have hbc : b ≠ c := fun q => absurd (hk.2.2.2.1.2.1.symm.trans ((congrArg (N 7) q).trans hk.2.2.2.1.2.2)) (by decide)
  obtain rfl : x = nI a := hk.1.2.1
  obtain rfl : y = nI b := hk.2.1.2.1
  obtain rfl : z = nI c := hk.2.2.1.2.1
  refine ⟨⟨by decide, by decide, by decide⟩, rfl, hM.k, m0, N, a, b, c, mn a, mn b, mn c, rfl, hM, ⟨ha, hb, hc, h42⟩, fun w1 B hM1 hB => ?_⟩
  replace h1 := fun T pl st w' => h1 a b c B T pl st w' hk hB
  replace hcnt := hcnt B hB
  clear h2 hok hM hm hn hn2 eN hk
  obtain ⟨ha9, ham, hal, har⟩ := ha
  obtain ⟨hb9, hbm, hbl, hbr⟩ := hb
  obtain ⟨hc9, hcm, hcl, hcr⟩ := hc
  generalize mn a = ma at *
  generalize mn b = mb at *
  generalize mn c = mc at *
  have ha2 := p10 ham
  have hb2 := p10 hbm
  have hc2 := p10 hcm
  obtain ⟨hB1, hB2, -⟩ := hB
  have base : ∀ f i, f ≠ 42 → mGw N a b c ma mc mb f i = N f i := fun f i hf => mGw_ot N a b c ma mc f i hf mb
  have hG : G42 (mGw N a b c ma mc mb) := G42_mGw h42 ham hcm mb
  have b0 : ∀ v, v < mb → pN (mGw N a b c ma mc mb 42 (10 * 0 + v)) = gPl N a b ma v := fun v hv => by
    rw [Nat.mul_zero, Nat.zero_add, mGw_0 N a b c ma mc v mb hbm hv]
    exact pN_n (by have := mkM_lt (fun i => fitb N (prN N a i) (prN N b v) 0) ma ham; exact Nat.lt_trans this (by decide))
  have b1 : ∀ v, v < mb → pN (mGw N a b c ma mc mb 42 (10 * 1 + v)) = gSt N b c mc v := fun v hv => by
    rw [Nat.mul_one, mGw_1 N a b c ma mc v mb hbm hv]
    exact pN_n (by have := mkM_lt (fun i => fitb N (prN N b v) (prN N c i) 1) mc hcm; exact Nat.lt_trans this (by decide))
  have key : ∀ n be pl st P k made w', bc be = n → be < 2 ^ mb → pl < 2 ^ ma → st < 2 ^ mc → Mt (gPl N a b ma) be pl → Mt (gSt N b c mc) be st → (∀ f i, f ≠ 38 ∧ f ≠ 4 ∧ f ≠ 5 ∧ f ≠ 39 ∧ f ≠ 40 → P f i = mGw N a b c ma mc mb f i) → P 40 0 = nI k → k + n ≤ 100 → RM m0 P w' → (∀ T pl' st' w2, MkS (gPl N a b ma) (gSt N b c mc) T be pl st pl' st' → pl' < 2 ^ ma → st' < 2 ^ mc → RM m0 (mMk a b c T k P) w2 → Jd l 118 14 0 0 (some .int) Po 270 [(8, .int (nI (made + T.length))), (7, .int 0), (6, .int (nI st')), (5, .int (nI pl')), (4, .int (nI B)), (0, .ref m0), (1, .int (nI a)), (2, .int (nI b)), (3, .int (nI c))] [] w2 0 0) → Jd l 118 14 0 0 (some .int) Po 57 [(8, .int (nI made)), (7, .int (nI be)), (6, .int (nI st)), (5, .int (nI pl)), (4, .int (nI B)), (0, .ref m0), (1, .int (nI a)), (2, .int (nI b)), (3, .int (nI c))] [] w' 0 0 := by
    intro n
    induction n with
    | zero =>
      intro be pl st P k made w' hbe hbe2 hpl hst _ _ _ _ _ hM hk
      obtain rfl := bc_0 be (by omega) hbe
      refine jd_s cdo_118 hev [270] 10 z00 ⟨fun _ => ?_, fun q => absurd rfl q⟩
      exact hk [] pl st w' ⟨rfl, rfl, rfl⟩ hpl hst hM
    | succ n ih =>
      intro be pl st P k made w' hbe hbe2 hpl hst mt0 mt1 hP h40 hkn hM hk
      have hpos : 0 < be := by
        rcases Nat.eq_zero_or_pos be with q | q
        · rw [q] at hbe
          exact absurd (show bc 0 = 0 by decide) (by omega)
        · exact q
      obtain ⟨ht, htb⟩ := tz_ok be (by omega) hpos
      have htm : tz be < mb := bl_lt hbe2 htb
      have hbx := bc_x ht htb
      have hbe' : be ^^^ 2 ^ tz be < 2 ^ mb := x_2 hbe2 htb
      have bits : ∀ v, (be ^^^ 2 ^ tz be).testBit v = true → v < mb := fun v hv => bl_lt hbe' hv
      have g0 : gwOK P 0 (fun w => pN (mGw N a b c ma mc mb 42 (10 * 0 + w))) := fun w hw => by rw [hP 42 _ (by decide)]; exact hG (10 * 0 + w) (by omega)
      have g1 : gwOK P 1 (fun w => pN (mGw N a b c ma mc mb 42 (10 * 1 + w))) := fun w hw => by rw [hP 42 _ (by decide)]; exact hG (10 * 1 + w) (by omega)
      have c0 : ∀ i, ffP (fun w => pN (mGw N a b c ma mc mb 42 (10 * 0 + w))) (tz be) (be ^^^ 2 ^ tz be) pl i ↔ ffP (gPl N a b ma) (tz be) (be ^^^ 2 ^ tz be) pl i := fun i => ffP_cong (b0 _ htm) (fun v hv => b0 v (bits v hv))
      have c1 : ∀ i, ffP (fun w => pN (mGw N a b c ma mc mb 42 (10 * 1 + w))) (tz be) (be ^^^ 2 ^ tz be) st i ↔ ffP (gSt N b c mc) (tz be) (be ^^^ 2 ^ tz be) st i := fun i => ffP_cong (b1 _ htm) (fun v hv => b1 v (bits v hv))
      have i0 : ∃ i, i < 10 ∧ ffP (fun w => pN (mGw N a b c ma mc mb 42 (10 * 0 + w))) (tz be) (be ^^^ 2 ^ tz be) pl i := by
        obtain ⟨o, ho1, ho2, ho3⟩ := (Mt_step htb).mp mt0
        exact ⟨o, b_lt (show pl < 1024 by omega) ho2, (c0 o).mpr ⟨ho1, ho2, ho3⟩⟩
      have i1 : ∃ i, i < 10 ∧ ffP (fun w => pN (mGw N a b c ma mc mb 42 (10 * 1 + w))) (tz be) (be ^^^ 2 ^ tz be) st i := by
        obtain ⟨o, ho1, ho2, ho3⟩ := (Mt_step htb).mp mt1
        exact ⟨o, b_lt (show st < 1024 by omega) ho2, (c1 o).mpr ⟨ho1, ho2, ho3⟩⟩
      refine mk_s hM g0 g1 hpos (by omega) (by omega) (by omega) i0 i1 (fun p s hp0 hs0 => ?_)
      obtain ⟨hp, hfp, hfl⟩ := hp0
      obtain ⟨hs, hfs, hfsl⟩ := hs0
      replace hfp := (c0 p).mp hfp
      replace hfl : ∀ j, j < p → ¬ ffP (gPl N a b ma) (tz be) (be ^^^ 2 ^ tz be) pl j := fun j hj q => hfl j hj ((c0 j).mpr q)
      replace hfs := (c1 s).mp hfs
      replace hfsl : ∀ j, j < s → ¬ ffP (gSt N b c mc) (tz be) (be ^^^ 2 ^ tz be) st j := fun j hj q => hfsl j hj ((c1 j).mpr q)
      have hpm : p < ma := bl_lt hpl hfp.2.1
      have hsm : s < mc := bl_lt hst hfs.2.1
      obtain ⟨qa1, qa2, -⟩ := har p hpm
      obtain ⟨qb1, qb2, -⟩ := hbr (tz be) htm
      obtain ⟨qc1, qc2, -⟩ := hcr s hsm
      have p8 : ∀ i, P 8 i = N 8 i := fun i => (hP 8 i (by decide)).trans (base 8 i (by decide))
      have qa : P 8 (300 * a + p) = nI (prN P a p) ∧ prN P a p < 300 := by rw [prN, p8]; exact ⟨qa1, qa2⟩
      have qb : P 8 (300 * b + tz be) = nI (prN P b (tz be)) ∧ prN P b (tz be) < 300 := by rw [prN, p8]; exact ⟨qb1, qb2⟩
      have qc : P 8 (300 * c + s) = nI (prN P c s) ∧ prN P c s < 300 := by rw [prN, p8]; exact ⟨qc1, qc2⟩
      have hih := fun P' w2 => ih (be ^^^ 2 ^ tz be) (pl ^^^ 2 ^ p) (st ^^^ 2 ^ s) P' (k + 1) (made + 1) w2 (by omega) hbe' (x_2 hpl hfp.2.1) (x_2 hst hfs.2.1) hfp.2.2 hfs.2.2
      have hkk := fun T pl' st' w2 hT => hk ((tz be, p, s) :: T) pl' st' w2 ⟨by omega, rfl, ⟨hp, hfp, hfl⟩, ⟨hs, hfs, hfsl⟩, hT⟩
      have emk : ∀ T, mMk a b c ((tz be, p, s) :: T) k P = mMk a b c T (k + 1) (mW P k (prN P a p) (prN P b (tz be)) (prN P c s)) := fun T => rfl
      have hih := hih (mW P k (prN P a p) (prN P b (tz be)) (prN P c s))
      simp only [emk] at hkk
      clear emk
      generalize prN P a p = X at *
      generalize prN P b (tz be) = Y at *
      generalize prN P c s = Z at *
      have r0 : u2 (u2 (u2 P 38 (3 * k) (nI X)) 38 (3 * k + 1) (nI Y)) 38 (3 * k + 2) (nI Z) 38 (3 * k + 0) = nI X := by simp [u2]
      have r1 : u2 (u2 (u2 P 38 (3 * k) (nI X)) 38 (3 * k + 1) (nI Y)) 38 (3 * k + 2) (nI Z) 38 (3 * k + 1) = nI Y := by simp [u2]
      have r2 : u2 (u2 (u2 P 38 (3 * k) (nI X)) 38 (3 * k + 1) (nI Y)) 38 (3 * k + 2) (nI Z) 38 (3 * k + 2) = nI Z := by simp [u2]
      refine mk_a hM (by omega) ⟨hal, hbl, hcl⟩ ⟨hp, hs, ht⟩ qa.1 qb.1 qc.1 h40 (fun w2 hM => ?_)
      have p40 : u2 (u2 (u2 P 38 (3 * k) (nI X)) 38 (3 * k + 1) (nI Y)) 38 (3 * k + 2) (nI Z) 40 0 = nI k := by rw [u2_ne (by decide), u2_ne (by decide), u2_ne (by decide)]; exact h40
      generalize e3 : u2 (u2 (u2 P 38 (3 * k) (nI X)) 38 (3 * k + 1) (nI Y)) 38 (3 * k + 2) (nI Z) = P3 at *
      refine mk_b (i := 0) (X := X) hM (by decide) (by omega) r0 qa.2 p40 (fun w2 hM => ?_)
      refine mk_b (i := 1) (X := Y) hM (by decide) (by omega) ((mW1_ot _ _ _ _ _ (by decide)).trans r1) qb.2 ((mW1_ot _ _ _ _ _ (by decide)).trans p40) (fun w2 hM => ?_)
      refine mk_b (i := 2) (X := Z) hM (by decide) (by omega) ((mW1_ot _ _ _ _ _ (by decide)).trans ((mW1_ot _ _ _ _ _ (by decide)).trans r2)) qc.2 ((mW1_ot _ _ _ _ _ (by decide)).trans ((mW1_ot _ _ _ _ _ (by decide)).trans p40)) (fun w2 hM => ?_)
      refine mk_e hM (by omega) ((mW1_ot _ _ _ _ _ (by decide)).trans ((mW1_ot _ _ _ _ _ (by decide)).trans ((mW1_ot _ _ _ _ _ (by decide)).trans p40))) (fun w2 hM => ?_)
      have eW : u2 (u2 (mW1 (mW1 (mW1 P3 k X) k Y) k Z) 39 k 0) 40 0 (nI (k + 1)) = mW P k X Y Z := by rw [← e3, mW]
      rw [eW] at hM
      exact hih _ (fun f i hf => (mW_ot P k X Y Z f i hf).trans (hP f i hf)) (mW_40 P k X Y Z) (by omega) hM (fun T pl' st' w2 hT q1 q2 hM2 => by
        have := hkk T pl' st' w2 hT q1 q2 hM2
        rw [List.length_cons, show made + (T.length + 1) = made + 1 + T.length by omega] at this
        exact this)
  have n9 : ∀ i, mGw N a b c ma mc mb 9 i = N 9 i := fun i => base 9 i (by decide)
  refine ⟨hM1.k, _, hM1.rf _ rfl, hM1.kd _ rfl, a, _, hM1.ix _ rfl rfl hal, (hM1.rd _ rfl a).trans ((n9 a).trans ha9), ?_⟩
  refine ⟨hM1.k, _, hM1.rf _ rfl, hM1.kd _ rfl, c, _, hM1.ix _ rfl rfl hcl, (hM1.rd _ rfl c).trans ((n9 c).trans hc9), ?_⟩
  have ppa := Nat.two_pow_pos ma
  have ppc := Nat.two_pow_pos mc
  have go := key (bc B) B (2 ^ ma - 1) (2 ^ mc - 1) _ nw 0 w1 rfl hB1 (by omega) (by omega) hB2.1 hB2.2 (fun _ _ _ => rfl) ((base 40 0 (by decide)).trans hnw) hcnt hM1 (fun T pl' st' w2 hT hpl' hst' hM2 => by
    rw [Nat.zero_add]
    exact mk_z hM2 hab hac hbc hal hbl hcl ham hbm hcm hB1 hpl' hst' ((mMk_ot a b c 9 a (by decide) T nw _).trans ((n9 a).trans ha9)) ((mMk_ot a b c 9 b (by decide) T nw _).trans ((n9 b).trans hb9)) ((mMk_ot a b c 9 c (by decide) T nw _).trans ((n9 c).trans hc9)) (fun w5 hM5 => h1 T pl' st' w5 hT hM5))
  rw [← pm1, ← pm1, ← sh1 ma (by omega), ← sh1 mc (by omega)] at go
  exact go
