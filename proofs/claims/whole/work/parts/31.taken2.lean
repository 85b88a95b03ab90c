/-! the reference: taken -/
def okR (M : Ms) (l m k : Nat) : Prop := M 9 l = nI m ∧ m ≤ 10 ∧ l < 60 ∧ ∀ i, i < m → M 8 (300 * l + i) = nI (prN M l i) ∧ prN M l i < 300 ∧ M 0 (prN M l i) = nI k
def G42 (M : Ms) : Prop := ∀ i, i < 20 → M 42 i = nI (pN (M 42 i)) ∧ pN (M 42 i) < 1024
def good (M : Ms) (a b c ma mc t : Nat) : Prop := Mt (gPl M a b ma) t (2 ^ ma - 1) ∧ Mt (gSt M b c mc) t (2 ^ mc - 1)
def isB (M : Ms) (a b c ma mb mc B : Nat) : Prop := B < 2 ^ mb ∧ good M a b c ma mc B ∧ ∀ t, t < 2 ^ mb → good M a b c ma mc t → nob t B
theorem Mt_cong {g g' : Nat → Nat} {ws os : Nat} (h : ∀ w, ws.testBit w = true → g w = g' w) : Mt g ws os ↔ Mt g' ws os := by
  constructor
  · rintro ⟨f, h1, h2⟩
    exact ⟨f, fun w hw => by rw [← h w hw]; exact h1 w hw, h2⟩
  · rintro ⟨f, h1, h2⟩
    exact ⟨f, fun w hw => by rw [h w hw]; exact h1 w hw, h2⟩
theorem bl_lt {t m w : Nat} (ht : t < 2 ^ m) (h : t.testBit w = true) : w < m := by
  rcases Nat.lt_or_ge w m with q | q
  · exact q
  · have h2 : 2 ^ m ≤ 2 ^ w := Nat.pow_le_pow_right (show 0 < 2 by decide) q
    rw [Nat.testBit_lt_two_pow (Nat.lt_of_lt_of_le ht h2)] at h
    cases h
theorem G42_u {M : Ms} (h : G42 M) (j v : Nat) (hv : v < 1024) : G42 (u2 M 42 j (nI v)) := by
  intro i hi
  by_cases hj : i = j
  · subst hj
    have e : u2 M 42 i (nI v) 42 i = nI v := by simp [u2]
    rw [e, pN_n (by omega)]
    exact ⟨rfl, hv⟩
  · have e : u2 M 42 j (nI v) 42 i = M 42 i := by simp [u2, hj]
    rw [e]
    exact h i hi
theorem G42_mGw {M : Ms} {a b c ma mc : Nat} (h : G42 M) (ha : ma ≤ 10) (hc : mc ≤ 10) : ∀ w, G42 (mGw M a b c ma mc w)
  | 0 => h
  | w + 1 => G42_u (G42_u (G42_mGw h ha hc w) _ _ (mkM_lt _ _ ha)) _ _ (mkM_lt _ _ hc)
theorem nob_tr {t B s : Nat} (h : nob t B) (h2 : bc B < bc s ∨ (bc B = bc s ∧ ahd s B)) : nob t s := by
  rcases h with h | ⟨h, h3⟩
  · rcases h2 with h2 | ⟨h2, _⟩
    · exact Or.inl (by omega)
    · exact Or.inl (by omega)
  · rcases h2 with h2 | ⟨h2, h4⟩
    · exact Or.inl (by omega)
    · refine Or.inr ⟨by omega, Or.inr ?_⟩
      rcases h3 with rfl | h3
      · exact h4
      · exact ahd_tr h4 h3
theorem pm1 (m : Nat) : nI (2 ^ m) - 1 = nI (2 ^ m - 1) := by
  have h : 2 ^ m = (2 ^ m - 1) + 1 := by have := Nat.two_pow_pos m; omega
  rw [h, nI_pred, Nat.add_sub_cancel]
theorem p10 {m : Nat} (h : m ≤ 10) : 2 ^ m ≤ 1024 := Nat.pow_le_pow_right (by decide) h
def sp_taken : Sp := fun as w K => ∃ m0 M a b c ma mb mc, as = [.ref m0, .int (nI a), .int (nI b), .int (nI c)] ∧ RM m0 M w ∧ (okR M a ma 0 ∧ okR M b mb 1 ∧ okR M c mc 2 ∧ G42 M) ∧ ∀ w' B, RM m0 (mGw M a b c ma mc mb) w' → isB M a b c ma mb mc B → K (some (.int (nI B))) w'
theorem c_taken (l : Launch) : Ct l 113 13 0 0 sp_taken := by
  have hev : ∀ (k : Nat) (r : Nat × Nat × Nat × Sp), evL [(110, 1, 0, 0, sp_doFit), (114, 1, 0, 0, sp_bitCount), (115, 1, 0, 0, sp_isAhead), (116, 12, 0, 0, sp_can 10)] k = some r → Ct l k r.1 r.2.1 r.2.2.1 r.2.2.2 := evL_ok (by simpa using ⟨c_doFit l, c_bitCount l, c_isAhead l, c_can l 10⟩)
  refine ct_jd (by decide) rfl (fun as w Po hq => ?_)
  obtain ⟨m0, M, a, b, c, ma, mb, mc, rfl, hM, ⟨⟨ha9, ham, hal, har⟩, ⟨hb9, hbm, hbl, hbr⟩, ⟨hc9, hcm, hcl, hcr⟩, h42⟩, h⟩ := hq
  refine ⟨Nat.le_of_ble_eq_true rfl, ?_⟩
  -- the sets
  have sets : ∀ (N : Ms) (w' : Hp), N = mGw M a b c ma mc mb → RM m0 N w' → Jd l 113 13 0 0 (some .int) Po 164 [(4, .int (nI mb)), (0, .ref m0), (1, .int (nI a)), (2, .int (nI b)), (3, .int (nI c))] [] w' 0 0 := by
    intro N w' eN hM
    have n9 : ∀ i, N 9 i = M 9 i := fun i => by rw [eN]; exact mGw_ot M a b c ma mc 9 i (by decide) mb
    have hG : G42 N := by rw [eN]; exact G42_mGw h42 ham hcm mb
    have g0 : gwOK N 0 (fun w => pN (N 42 (10 * 0 + w))) := fun w hw => hG (10 * 0 + w) (by omega)
    have g1 : gwOK N 1 (fun w => pN (N 42 (10 * 1 + w))) := fun w hw => hG (10 * 1 + w) (by omega)
    have e0 : ∀ t, t < 2 ^ mb → (Mt (fun w => pN (N 42 (10 * 0 + w))) t (2 ^ ma - 1) ↔ Mt (gPl M a b ma) t (2 ^ ma - 1)) := fun t ht => Mt_cong (fun w hw => by
      have hwb := bl_lt ht hw
      show pN (N 42 (10 * 0 + w)) = _
      rw [Nat.mul_zero, Nat.zero_add, eN, mGw_0 M a b c ma mc w mb hbm hwb]
      exact pN_n (by have := mkM_lt (fun i => fitb M (prN M a i) (prN M b w) 0) ma ham; exact Nat.lt_trans this (by decide)))
    have e1 : ∀ t, t < 2 ^ mb → (Mt (fun w => pN (N 42 (10 * 1 + w))) t (2 ^ mc - 1) ↔ Mt (gSt M b c mc) t (2 ^ mc - 1)) := fun t ht => Mt_cong (fun w hw => by
      have hwb := bl_lt ht hw
      show pN (N 42 (10 * 1 + w)) = _
      rw [Nat.mul_one, eN, mGw_1 M a b c ma mc w mb hbm hwb]
      exact pN_n (by have := mkM_lt (fun i => fitb M (prN M b w) (prN M c i) 1) mc hcm; exact Nat.lt_trans this (by decide)))
    have hb2 := p10 hbm
    have ha2 := p10 ham
    have hc2 := p10 hcm
    have key : ∀ d s B, s + d = 2 ^ mb → 0 < s → B < s → good M a b c ma mc B → (∀ t, t < s → good M a b c ma mc t → nob t B) → Jd l 113 13 0 0 (some .int) Po 170 [(5, .int (nI s)), (4, .int (nI B)), (0, .ref m0), (1, .int (nI a)), (2, .int (nI b)), (3, .int (nI c))] [] w' 0 0 := by
      intro d
      induction d with
      | zero =>
        intro s B hs hs0 hB hg hall
        obtain rfl : s = 2 ^ mb := by omega
        refine jd_s cdo_113 hev [] 20 z00 ?_
        refine ⟨hM.k, _, hM.rf _ rfl, hM.kd _ rfl, b, _, hM.ix _ rfl rfl hbl, (hM.rd _ rfl b).trans ((n9 b).trans hb9), fun _ => ?_, fun z => ?_⟩
        · exact h w' B (by rw [← eN]; exact hM) ⟨hB, hg, hall⟩
        · exact absurd (show (1 : Int32) <<< (nI mb &&& 31) ≤ nI (2 ^ mb) by rw [sh1 mb (by omega)]; exact nI_le (Nat.le_refl _) (by omega)) z
      | succ d ih =>
        intro s B hs hs0 hB hg hall
        have hsb : s < 2 ^ mb := by omega
        have fin : ∀ B', B' < s + 1 → good M a b c ma mc B' → (∀ t, t < s + 1 → good M a b c ma mc t → nob t B') → Jd l 113 13 0 0 (some .int) Po 268 [(5, .int (nI s)), (4, .int (nI B')), (0, .ref m0), (1, .int (nI a)), (2, .int (nI b)), (3, .int (nI c))] [] w' 0 0 := by
          intro B' h1 h2 h3
          refine jd_s cdo_113 hev [170] 20 z00 ?_
          have := ih (s + 1) B' (by omega) (by omega) h1 h2 h3
          rw [← nI_1] at this
          exact this
        have skip : (good M a b c ma mc s → nob s B) → Jd l 113 13 0 0 (some .int) Po 268 [(5, .int (nI s)), (4, .int (nI B)), (0, .ref m0), (1, .int (nI a)), (2, .int (nI b)), (3, .int (nI c))] [] w' 0 0 := fun hn => fin B (by omega) hg (fun t ht gt => by
          by_cases z : t = s
          · subst z; exact hn gt
          · exact hall t (by omega) gt)
        have try_ : (bc B < bc s ∨ (bc B = bc s ∧ ahd s B)) → Jd l 113 13 0 0 (some .int) Po 224 [(7, .int (nI (bc B))), (6, .int (nI (bc s))), (5, .int (nI s)), (4, .int (nI B)), (0, .ref m0), (1, .int (nI a)), (2, .int (nI b)), (3, .int (nI c))] [] w' 0 0 := by
          intro hbet
          refine jd_s cdo_113 hev [268] 60 z00 ?_
          refine ⟨hM.k, _, hM.rf _ rfl, hM.kd _ rfl, a, _, hM.ix _ rfl rfl hal, (hM.rd _ rfl a).trans ((n9 a).trans ha9), ?_⟩
          refine ⟨⟨by decide, by decide, by decide⟩, rfl, hM.k, m0, N, 0, s, 2 ^ ma - 1, _, by rw [← pm1, ← sh1 ma (by omega)]; rfl, hM, ⟨by decide, by omega, by omega, bc_le s⟩, g0, fun mt => br1 ?_, fun nmt => br0 (jd_pk [2, 3, 4, 5, 6, 7] (skip (fun gs => absurd ((e0 s hsb).mpr gs.1) nmt)))⟩
          refine ⟨hM.k, _, hM.rf _ rfl, hM.kd _ rfl, c, _, hM.ix _ rfl rfl hcl, (hM.rd _ rfl c).trans ((n9 c).trans hc9), ?_⟩
          refine ⟨⟨by decide, by decide, by decide⟩, rfl, hM.k, m0, N, 1, s, 2 ^ mc - 1, _, by rw [← pm1, ← sh1 mc (by omega)]; rfl, hM, ⟨by decide, by omega, by omega, bc_le s⟩, g1, fun mt2 => br1 (jd_pk [3, 0, 4, 5, 6, 7] ?_), fun nmt => br0 (jd_pk [2, 3, 4, 5, 6, 7] (skip (fun gs => absurd ((e1 s hsb).mpr gs.2) nmt)))⟩
          exact fin s (by omega) ⟨(e0 s hsb).mp mt, (e1 s hsb).mp mt2⟩ (fun t ht gt => by
            by_cases z : t = s
            · subst z; exact Or.inr ⟨rfl, Or.inl rfl⟩
            · exact nob_tr (hall t (by omega) gt) hbet)
        have hs10 : s < 1024 := by omega
        have hB10 : B < 1024 := by omega
        have hbs := bc_le s
        have hbB := bc_le B
        refine jd_s cdo_113 hev [268, 224] 60 z00 ?_
        refine ⟨hM.k, _, hM.rf _ rfl, hM.kd _ rfl, b, _, hM.ix _ rfl rfl hbl, (hM.rd _ rfl b).trans ((n9 b).trans hb9), fun c0 => ?_, fun _ => ?_⟩
        · have c0 : (1 : Int32) <<< (nI mb &&& 31) ≤ nI s := c0
          rw [sh1 mb (by omega)] at c0
          have := ge_n (by omega) (by omega) c0
          omega
        · refine ⟨⟨by decide, by decide, by decide⟩, rfl, Nat.le_of_ble_eq_true rfl, s, rfl, hs10, ?_⟩
          refine ⟨⟨by decide, by decide, by decide⟩, rfl, Nat.le_of_ble_eq_true rfl, B, rfl, hB10, ?_⟩
          refine ⟨fun c1 => jd_pk [2, 3, 4, 5, 6, 7] (skip (fun _ => Or.inl ?_)), fun c1 => ?_⟩
          · exact (nI_ltI (by omega) (by omega)).mp c1
          · have c1' : ¬ bc s < bc B := fun z => c1 ((nI_ltI (by omega) (by omega)).mpr z)
            refine ⟨fun c2 => try_ (Or.inl ?_), fun c2 => ?_⟩
            · have : ¬ bc s = bc B := fun z => c2 (by rw [z])
              omega
            · have c2' : bc s = bc B := (nI_eq (by omega) (by omega)).mp c2
              refine ⟨⟨by decide, by decide, by decide⟩, rfl, Nat.le_of_ble_eq_true rfl, nI s, nI B, rfl, fun c3 => br1n (try_ (Or.inr ⟨c2'.symm, (ahI hs10 hB10).mp c3⟩)), fun c3 => br0n (jd_pk [2, 3, 4, 5, 6, 7] (skip (fun _ => Or.inr ⟨c2', Or.inr ?_⟩)))⟩
              rcases ahd_or hs10 hB10 (by omega) with ⟨_, q⟩ | ⟨_, q⟩
              · exact absurd ((ahI hs10 hB10).mpr q) c3
              · exact q
    refine jd_s cdo_113 hev [170] 20 z00 ?_
    have hb0 := Nat.two_pow_pos mb
    exact key (2 ^ mb - 1) 1 0 (by omega) (by decide) (by decide) ⟨Mt_0 _ _, Mt_0 _ _⟩ (fun t ht _ => by
      obtain rfl : t = 0 := by omega
      exact Or.inr ⟨rfl, Or.inl rfl⟩)
  -- what goes with what
  have rows : ∀ d v w', v + d = mb → RM m0 (mGw M a b c ma mc v) w' → Jd l 113 13 0 0 (some .int) Po 3 [(4, .int (nI v)), (0, .ref m0), (1, .int (nI a)), (2, .int (nI b)), (3, .int (nI c))] [] w' 0 0 := by
    intro d
    induction d with
    | zero =>
      intro v w' hv hM
      obtain rfl : v = mb := by omega
      refine jd_s cdo_113 hev [164] 20 z00 ?_
      refine ⟨hM.k, _, hM.rf _ rfl, hM.kd _ rfl, b, _, hM.ix _ rfl rfl hbl, (hM.rd _ rfl b).trans ((mGw_ot M a b c ma mc 9 b (by decide) v).trans hb9), fun _ => sets _ w' rfl hM, fun z => absurd (nI_le (Nat.le_refl v) (by omega)) z⟩
    | succ d ih =>
      intro v w' hv hM
      have hvb : v < mb := by omega
      have hn : mGw M a b c ma mc (v + 1) = u2 (u2 (mGw M a b c ma mc v) 42 v (nI (gPl M a b ma v))) 42 (10 + v) (nI (gSt M b c mc v)) := rfl
      have not_ : ∀ f i, f ≠ 42 → mGw M a b c ma mc v f i = M f i := fun f i hf => mGw_ot M a b c ma mc f i hf v
      have ihv := ih (v + 1)
      rw [hn] at ihv
      generalize mGw M a b c ma mc v = N at hM not_ ihv
      obtain ⟨hp1, hp2, hp3⟩ := hbr v hvb
      have fb : ∀ p q k, fitB N p q k ↔ fitb M p q k = true := fun p q k => by
        rw [fitb_iff, fitB, fitB, not_ 36 k (by decide), not_ 37 k (by decide), not_ 1 p (by decide), not_ 1 q (by decide)]
      have st : ∀ d i, i + d = mc → Jd l 113 13 0 0 (some .int) Po 89 [(8, .int (nI i)), (7, .int (nI (mkM (fun i => fitb M (prN M b v) (prN M c i) 1) i))), (6, .int (nI (gPl M a b ma v))), (5, .int (nI (prN M b v))), (4, .int (nI v)), (0, .ref m0), (1, .int (nI a)), (2, .int (nI b)), (3, .int (nI c))] [] w' 0 0 := by
        intro d
        induction d with
        | zero =>
          intro i hi
          obtain rfl : i = mc := by omega
          refine jd_s cdo_113 hev [3] 40 z00 ?_
          refine ⟨hM.k, _, hM.rf _ rfl, hM.kd _ rfl, c, _, hM.ix _ rfl rfl hcl, (hM.rd _ rfl c).trans ((not_ 9 c (by decide)).trans hc9), fun _ => ?_, fun z => absurd (nI_le (Nat.le_refl i) (by omega)) z⟩
          refine ⟨hM.k, _, hM.rf _ rfl, hM.kd _ rfl, v, hM.ix _ rfl rfl (show v < 20 by omega), ?_⟩
          have hM := hM.sa 42 rfl v (nI (gPl M a b ma v))
          refine ⟨hM.k, _, hM.rf _ rfl, hM.kd _ rfl, 10 + v, hM.ix _ rfl (nI_add 10 v) (show 10 + v < 20 by omega), ?_⟩
          have hM := hM.sa 42 rfl (10 + v) (nI (gSt M b c i v))
          have := ihv _ (by omega) hM
          rw [← nI_1] at this
          exact jd_pk [0, 5, 6, 7, 8] this
        | succ d ih2 =>
          intro i hi
          have him : i < mc := by omega
          obtain ⟨hq1, hq2, hq3⟩ := hcr i him
          have nxt : ∀ x, x = mkM (fun i => fitb M (prN M b v) (prN M c i) 1) (i + 1) → Jd l 113 13 0 0 (some .int) Po 131 [(8, .int (nI i)), (7, .int (nI x)), (6, .int (nI (gPl M a b ma v))), (5, .int (nI (prN M b v))), (4, .int (nI v)), (0, .ref m0), (1, .int (nI a)), (2, .int (nI b)), (3, .int (nI c))] [] w' 0 0 := by
            intro x hx
            refine jd_s cdo_113 hev [89] 20 z00 ?_
            have := ih2 (i + 1) (by omega)
            rw [← nI_1, ← hx] at this
            exact this
          refine jd_s cdo_113 hev [131] 40 z00 ?_
          refine ⟨hM.k, _, hM.rf _ rfl, hM.kd _ rfl, c, _, hM.ix _ rfl rfl hcl, (hM.rd _ rfl c).trans ((not_ 9 c (by decide)).trans hc9), fun z => ?_, fun _ => ?_⟩
          · have := ge_n (by omega) (by omega) z
            omega
          · refine ⟨hM.k, _, hM.rf _ rfl, hM.kd _ rfl, 300 * c + i, _, hM.ix _ rfl (by rw [n300, nI_add]) (show 300 * c + i < 18000 by omega), (hM.rd _ rfl _).trans ((not_ 8 _ (by decide)).trans hq1), ?_⟩
            refine ⟨⟨by decide, by decide, by decide⟩, rfl, hM.k, m0, N, prN M b v, prN M c i, 1, rfl, hM, ⟨hp2, hq2, by decide, (not_ 0 _ (by decide)).trans hp3⟩, fun y => br1 ?_, fun n => br0 (nxt _ ?_)⟩
            · have := nxt (mkM (fun i => fitb M (prN M b v) (prN M c i) 1) i ||| 2 ^ i) (by rw [mkM, if_pos ((fb _ _ _).mp y)])
              rw [← nI_or, ← sh1 i (by omega)] at this
              exact jd_pk [1, 0, 2, 3, 4, 5, 6, 7, 8] this
            · rw [mkM, if_neg (fun z => n ((fb _ _ _).mpr z)), Nat.or_zero]
      have pl : ∀ d i, i + d = ma → Jd l 113 13 0 0 (some .int) Po 38 [(8, .int (nI i)), (7, .int 0), (6, .int (nI (mkM (fun i => fitb M (prN M a i) (prN M b v) 0) i))), (5, .int (nI (prN M b v))), (4, .int (nI v)), (0, .ref m0), (1, .int (nI a)), (2, .int (nI b)), (3, .int (nI c))] [] w' 0 0 := by
        intro d
        induction d with
        | zero =>
          intro i hi
          obtain rfl : i = ma := by omega
          refine jd_s cdo_113 hev [89] 40 z00 ?_
          refine ⟨hM.k, _, hM.rf _ rfl, hM.kd _ rfl, a, _, hM.ix _ rfl rfl hal, (hM.rd _ rfl a).trans ((not_ 9 a (by decide)).trans ha9), fun _ => ?_, fun z => absurd (nI_le (Nat.le_refl i) (by omega)) z⟩
          exact st mc 0 (by omega)
        | succ d ih2 =>
          intro i hi
          have him : i < ma := by omega
          obtain ⟨hq1, hq2, hq3⟩ := har i him
          have nxt : ∀ x, x = mkM (fun i => fitb M (prN M a i) (prN M b v) 0) (i + 1) → Jd l 113 13 0 0 (some .int) Po 80 [(8, .int (nI i)), (7, .int 0), (6, .int (nI x)), (5, .int (nI (prN M b v))), (4, .int (nI v)), (0, .ref m0), (1, .int (nI a)), (2, .int (nI b)), (3, .int (nI c))] [] w' 0 0 := by
            intro x hx
            refine jd_s cdo_113 hev [38] 20 z00 ?_
            have := ih2 (i + 1) (by omega)
            rw [← nI_1, ← hx] at this
            exact this
          refine jd_s cdo_113 hev [80] 40 z00 ?_
          refine ⟨hM.k, _, hM.rf _ rfl, hM.kd _ rfl, a, _, hM.ix _ rfl rfl hal, (hM.rd _ rfl a).trans ((not_ 9 a (by decide)).trans ha9), fun z => ?_, fun _ => ?_⟩
          · have := ge_n (by omega) (by omega) z
            omega
          · refine ⟨hM.k, _, hM.rf _ rfl, hM.kd _ rfl, 300 * a + i, _, hM.ix _ rfl (by rw [n300, nI_add]) (show 300 * a + i < 18000 by omega), (hM.rd _ rfl _).trans ((not_ 8 _ (by decide)).trans hq1), ?_⟩
            refine ⟨⟨by decide, by decide, by decide⟩, rfl, hM.k, m0, N, prN M a i, prN M b v, 0, rfl, hM, ⟨hq2, hp2, by decide, (not_ 0 _ (by decide)).trans hq3⟩, fun y => br1 ?_, fun n => br0 (nxt _ ?_)⟩
            · have := nxt (mkM (fun i => fitb M (prN M a i) (prN M b v) 0) i ||| 2 ^ i) (by rw [mkM, if_pos ((fb _ _ _).mp y)])
              rw [← nI_or, ← sh1 i (by omega)] at this
              exact jd_pk [1, 2, 0, 3, 4, 5, 6, 7, 8] this
            · rw [mkM, if_neg (fun z => n ((fb _ _ _).mpr z)), Nat.or_zero]
      refine jd_s cdo_113 hev [38] 40 z00 ?_
      refine ⟨hM.k, _, hM.rf _ rfl, hM.kd _ rfl, b, _, hM.ix _ rfl rfl hbl, (hM.rd _ rfl b).trans ((not_ 9 b (by decide)).trans hb9), fun z => ?_, fun _ => ?_⟩
      · have := ge_n (by omega) (by omega) z
        omega
      · refine ⟨hM.k, _, hM.rf _ rfl, hM.kd _ rfl, 300 * b + v, _, hM.ix _ rfl (by rw [n300, nI_add]) (show 300 * b + v < 18000 by omega), (hM.rd _ rfl _).trans ((not_ 8 _ (by decide)).trans hp1), ?_⟩
        exact pl ma 0 (by omega)
  refine jd_s cdo_113 hev [3] 10 z00 ?_
  exact rows mb 0 w (by omega) hM
