/-! the reference: what fits, sending, wages, watches -/
def pN (x : Int32) : Nat := x.toNatClampNeg
theorem pN_n {j : Nat} (h : j < 2147483648) : pN (nI j) = j := nI_clamp h
theorem n3 (l : Nat) : (3 : Int32) * nI l = nI (3 * l) := by rw [show (3 : Int32) = nI 3 from rfl, pk_mul]
/-- the piece p fits to q: kinds k and k + 1 -/
def fitB (M : Ms) (p q k : Nat) : Prop := M 36 k ≤ M 1 p - M 1 q ∧ M 1 p - M 1 q ≤ M 37 k
def sp_doFit : Sp := fun as w K => ∃ m0 M p q k, as = [.ref m0, .int (nI p), .int (nI q)] ∧ RM m0 M w ∧ (p < 300 ∧ q < 300 ∧ k < 2 ∧ M 0 p = nI k) ∧ (fitB M p q k → K (some (.int 1)) w) ∧ (¬ fitB M p q k → K (some (.int 0)) w)
theorem c_doFit (l : Launch) : Ct l 110 1 0 0 sp_doFit := by
  refine ct_jd (by decide) rfl (fun as w Po h => ?_)
  obtain ⟨m0, M, p, q, k, rfl, hM, ⟨hp, hq, hk, hpk⟩, h1, h2⟩ := h
  refine ⟨Nat.le_of_ble_eq_true rfl, jd_run cdo_110 ev0 60 ⟨Nat.le_refl _, Nat.le_refl _⟩ ?_⟩
  refine ⟨hM.k, _, hM.rf _ rfl, hM.kd _ rfl, p, _, hM.ix _ rfl rfl hp, hM.rd _ rfl p, ?_⟩
  refine ⟨hM.k, _, hM.rf _ rfl, hM.kd _ rfl, q, _, hM.ix _ rfl rfl hq, hM.rd _ rfl q, ?_⟩
  refine ⟨hM.k, _, hM.rf _ rfl, hM.k, _, hM.rf _ rfl, hM.kd _ rfl, p, _, hM.ix _ rfl rfl hp, (hM.rd _ rfl p).trans hpk, ?_⟩
  refine ⟨hM.kd _ rfl, k, _, hM.ix _ rfl rfl hk, hM.rd _ rfl k, fun c => ⟨Or.inl rfl, h2 (fun z => lt_nle c z.1)⟩, fun c => ?_⟩
  refine ⟨hM.k, _, hM.rf _ rfl, hM.k, _, hM.rf _ rfl, hM.kd _ rfl, p, _, hM.ix _ rfl rfl hp, (hM.rd _ rfl p).trans hpk, ?_⟩
  exact ⟨hM.kd _ rfl, k, _, hM.ix _ rfl rfl hk, hM.rd _ rfl k, fun c => ⟨Or.inl rfl, h2 (fun z => lt_nle c z.2)⟩, fun c2 => ⟨Or.inr rfl, h1 ⟨nlt_le c, nlt_le c2⟩⟩⟩
def sp_fits : Sp := fun as w K => ∃ m0 M x y n, ∃ kd : Nat → Nat, as = [.ref m0, .int x, .int y] ∧ RM m0 M w ∧ (M 6 0 = nI n ∧ n ≤ 300) ∧ (∀ j, j < n → M 0 j = nI (kd j) ∧ kd j < 3) ∧
  (∀ w', RM m0 (m41 M) w' → (∀ p q, p < n → q < n → x = nI p → y = nI q → kd p < 2 → kd q = kd p + 1 → (fitB M p q (kd p) → K (some (.int 1)) w') ∧ (¬ fitB M p q (kd p) → K (some (.int 0)) w')) ∧ ((¬ ∃ p q, p < n ∧ q < n ∧ x = nI p ∧ y = nI q ∧ kd p < 2 ∧ kd q = kd p + 1) → K (some (.int (-1))) w'))
theorem c_mfits (l : Launch) : Ct l 109 2 0 0 sp_fits := by
  refine ct_jd (by decide) rfl (fun as w Po h => ?_)
  obtain ⟨m0, M, x, y, n, kd, rfl, hM, ⟨hn, hn2⟩, hkd, h⟩ := h
  refine ⟨Nat.le_of_ble_eq_true rfl, jd_run cdo_109 (evL_ok (L := [(85, 1, 0, 0, sp_in), (110, 1, 0, 0, sp_doFit)]) (by simpa using ⟨c_in l, c_doFit l⟩)) 80 ⟨Nat.le_refl _, Nat.le_refl _⟩ ?_⟩
  refine ⟨hM.k, ?_⟩
  have hM := hM.si 41 rfl 0
  obtain ⟨h1, h2⟩ := h _ hM
  refine ⟨hM.k, _, (hM.ri _ rfl).trans hn, ?_⟩
  refine ⟨⟨by decide, by decide, by decide⟩, rfl, Nat.le_of_ble_eq_true rfl, x, 0, _, rfl, fun c => br1 ?_, fun c => br0 (h2 (fun ⟨p, _, hp, _, hx, _⟩ => c ((pr_n (by omega) x).mpr ⟨p, hp, hx⟩)))⟩
  obtain ⟨p, hp, rfl⟩ := (pr_n (by omega) x).mp c
  refine ⟨hM.k, _, (hM.ri _ rfl).trans hn, ?_⟩
  refine ⟨⟨by decide, by decide, by decide⟩, rfl, Nat.le_of_ble_eq_true rfl, y, 0, _, rfl, fun c => br1 ?_, fun c => br0 (h2 (fun ⟨_, q, _, hq, _, hy, _⟩ => c ((pr_n (by omega) y).mpr ⟨q, hq, hy⟩)))⟩
  obtain ⟨q, hq, rfl⟩ := (pr_n (by omega) y).mp c
  obtain ⟨hpk, hp3⟩ := hkd p hp
  obtain ⟨hqk, hq3⟩ := hkd q hq
  have hun : ∀ p' q', p' < n → q' < n → nI p = nI p' → nI q = nI q' → p' = p ∧ q' = q := fun p' q' hp' hq' e1 e2 => ⟨((nI_eq (by omega) (by omega)).mp e1).symm, ((nI_eq (by omega) (by omega)).mp e2).symm⟩
  refine ⟨hM.k, _, hM.rf _ rfl, hM.kd _ rfl, p, _, hM.ix _ rfl rfl (show p < 300 by omega), (hM.rd _ rfl p).trans hpk, fun c => ?_, fun c => ?_⟩
  · refine h2 (fun ⟨p', q', hp', hq', e1, e2, hk, _⟩ => ?_)
    rw [(hun p' q' hp' hq' e1 e2).1] at hk
    exact absurd c (nI_nlt (show kd p ≤ 1 by omega) (by decide))
  · have hk2 : kd p < 2 := by
      rcases Nat.lt_or_ge (kd p) 2 with z | z
      · exact z
      · exact absurd (show (1 : Int32) < nI (kd p) from nI_lt (a := 1) (by omega) (by omega)) c
    refine ⟨hM.k, _, hM.rf _ rfl, hM.kd _ rfl, q, _, hM.ix _ rfl rfl (show q < 300 by omega), (hM.rd _ rfl q).trans hqk, ?_⟩
    refine ⟨hM.k, _, hM.rf _ rfl, hM.kd _ rfl, p, _, hM.ix _ rfl rfl (show p < 300 by omega), (hM.rd _ rfl p).trans hpk, fun c2 => ?_, fun c2 => ?_⟩
    · have hqe : kd q = kd p + 1 := by
        rw [nI_1] at c2
        exact (nI_eq (by omega) (by omega)).mp c2
      obtain ⟨g1, g2⟩ := h1 p q hp hq rfl rfl hk2 hqe
      refine ⟨⟨by decide, by decide, by decide⟩, rfl, hM.k, m0, _, p, q, kd p, rfl, hM, ⟨by omega, by omega, hk2, hpk⟩, fun z => br1 (g1 z), fun z => br0 (g2 z)⟩
    · refine h2 (fun ⟨p', q', hp', hq', e1, e2, hk, hk3⟩ => ?_)
      obtain ⟨rfl, rfl⟩ := hun p' q' hp' hq' e1 e2
      exact c2 (by rw [hk3, nI_1])
def mSend (M : Ms) (l h ns : Nat) : Ms := u2 (u2 (u2 (u2 (u2 (u2 (u2 (m41 M) 10 l 1) 11 l (nI h)) 12 l (M 21 h)) 27 ns (nI h)) 28 ns (M 25 0)) 29 ns (M 9 l)) 30 0 (nI (ns + 1))
def sp_send : Sp := fun as w K => ∃ m0 M x y nl nh ns, as = [.ref m0, .int x, .int y] ∧ RM m0 M w ∧ (M 16 0 = nI nl ∧ nl ≤ 60) ∧ (M 24 0 = nI nh ∧ nh ≤ 9) ∧ (M 30 0 = nI ns ∧ ns ≤ 500) ∧
  (∀ i h, i < nl → h < nh → x = nI i → y = nI h → M 10 i = 0 → ns < 500 → ∀ w', RM m0 (mSend M i h ns) w' → K (some (.int 1)) w') ∧ ((¬ ∃ i h, i < nl ∧ h < nh ∧ x = nI i ∧ y = nI h ∧ M 10 i = 0 ∧ ns < 500) → ∀ w', RM m0 (m41 M) w' → K (some (.int 0)) w')
theorem c_msend (l : Launch) : Ct l 94 4 0 0 sp_send := by
  refine ct_jd (by decide) rfl (fun as w Po h => ?_)
  obtain ⟨m0, M, x, y, nl, nh, ns, rfl, hM, ⟨hn, hn2⟩, ⟨hh, hh2⟩, ⟨hs, hs2⟩, h1, h2⟩ := h
  refine ⟨Nat.le_of_ble_eq_true rfl, jd_run cdo_94 (evL_ok (L := [(90, 3, 0, 0, sp_isHere), (85, 1, 0, 0, sp_in)]) (by simpa using ⟨c_isHere l, c_in l⟩)) 80 ⟨Nat.le_refl _, Nat.le_refl _⟩ ?_⟩
  refine ⟨hM.k, ?_⟩
  have hM := hM.si 41 rfl 0
  refine ⟨⟨by decide, by decide, by decide⟩, rfl, hM.k, m0, _, x, nl, rfl, hM, ⟨hn, hn2⟩, fun i hi hx hw => br1 ?_, fun c => br0 ⟨Or.inl rfl, h2 (fun ⟨i, _, hi, _, hx, _, hw, _⟩ => c ⟨i, hi, hx, hw⟩) _ hM⟩⟩
  subst hx
  refine ⟨hM.k, _, (hM.ri _ rfl).trans hh, ?_⟩
  refine ⟨⟨by decide, by decide, by decide⟩, rfl, Nat.le_of_ble_eq_true rfl, y, 0, _, rfl, fun c => br1 ?_, fun c => br0 ⟨Or.inl rfl, h2 (fun ⟨_, h, _, hl, _, hy, _⟩ => c ((pr_n (by omega) y).mpr ⟨h, hl, hy⟩)) _ hM⟩⟩
  obtain ⟨h, hhh, rfl⟩ := (pr_n (by omega) y).mp c
  refine ⟨hM.k, _, (hM.ri _ rfl).trans hs, fun c => ?_, fun c => ?_⟩
  · have hlt : ns < 500 := by
      rcases Nat.lt_or_ge ns 500 with q | q
      · exact q
      · exact absurd (show nI ns = 500 by rw [show ns = 500 by omega]; rfl) c
    refine ⟨hM.k, _, hM.rf _ rfl, hM.kd _ rfl, i, hM.ix _ rfl rfl (show i < 60 by omega), ?_⟩
    have hM := hM.sa 10 rfl i 1
    refine ⟨hM.k, _, hM.rf _ rfl, hM.kd _ rfl, i, hM.ix _ rfl rfl (show i < 60 by omega), ?_⟩
    have hM := hM.sa 11 rfl i (nI h)
    refine ⟨hM.k, _, hM.rf _ rfl, hM.k, _, hM.rf _ rfl, hM.kd _ rfl, h, _, hM.ix _ rfl rfl (show h < 9 by omega), (hM.rd _ rfl h).trans (show _ = M 21 h from rfl), hM.kd _ rfl, i, hM.ix _ rfl rfl (show i < 60 by omega), ?_⟩
    have hM := hM.sa 12 rfl i (M 21 h)
    refine ⟨hM.k, _, hM.rf _ rfl, hM.k, _, (hM.ri _ rfl).trans hs, hM.kd _ rfl, ns, hM.ix _ rfl rfl hlt, ?_⟩
    have hM := hM.sa 27 rfl ns (nI h)
    refine ⟨hM.k, _, hM.rf _ rfl, hM.k, _, (hM.ri _ rfl).trans hs, hM.k, _, (hM.ri _ rfl).trans (show _ = M 25 0 from rfl), hM.kd _ rfl, ns, hM.ix _ rfl rfl hlt, ?_⟩
    have hM := hM.sa 28 rfl ns (M 25 0)
    refine ⟨hM.k, _, hM.rf _ rfl, hM.k, _, (hM.ri _ rfl).trans hs, hM.k, _, hM.rf _ rfl, hM.kd _ rfl, i, _, hM.ix _ rfl rfl (show i < 60 by omega), (hM.rd _ rfl i).trans (show _ = M 9 i from rfl), hM.kd _ rfl, ns, hM.ix _ rfl rfl hlt, ?_⟩
    have hM := hM.sa 29 rfl ns (M 9 i)
    refine ⟨hM.k, _, (hM.ri _ rfl).trans hs, hM.k, ?_⟩
    have hM := hM.si 30 rfl (nI ns + 1)
    rw [nI_1] at hM
    exact ⟨Or.inr rfl, h1 i h hi hhh rfl rfl hw hlt _ (by rw [nI_1]; exact hM)⟩
  · refine ⟨Or.inl rfl, h2 (fun ⟨_, _, _, _, _, _, _, hlt⟩ => ?_) _ hM⟩
    have h9 : nI ns = nI 500 := c
    have := (nI_eq (a := ns) (b := 500) (by omega) (by omega)).mp h9
    omega
def mWage (M : Ms) (h ng : Nat) (f v : Int32) : Ms := u2 (u2 (u2 (u2 (u2 (m41 M) 31 ng (nI h)) 32 ng f) 33 ng v) 34 ng (M 25 0)) 35 0 (nI (ng + 1))
def okWage (y f v : Int32) (nh ng : Nat) : Prop := (∃ h, h < nh ∧ y = nI h) ∧ (0 ≤ f ∧ f ≤ 400) ∧ (0 ≤ v ∧ v ≤ 1000) ∧ ng < 100
def sp_wage : Sp := fun as w K => ∃ m0 M y f v nh ng, as = [.ref m0, .int y, .int f, .int v] ∧ RM m0 M w ∧ (M 24 0 = nI nh ∧ nh ≤ 9) ∧ (M 35 0 = nI ng ∧ ng ≤ 100) ∧
  (∀ h, h < nh → y = nI h → okWage y f v nh ng → ∀ w', RM m0 (mWage M h ng f v) w' → K (some (.int (nI (ng + 1)))) w') ∧ (¬ okWage y f v nh ng → ∀ w', RM m0 (m41 M) w' → K (some (.int (-1))) w')
theorem c_mwage (l : Launch) : Ct l 105 2 0 0 sp_wage := by
  refine ct_jd (by decide) rfl (fun as w Po h => ?_)
  obtain ⟨m0, M, y, f, v, nh, ng, rfl, hM, ⟨hh, hh2⟩, ⟨hg, hg2⟩, h1, h2⟩ := h
  refine ⟨Nat.le_of_ble_eq_true rfl, jd_run cdo_105 (evL_ok cIn) 80 ⟨Nat.le_refl _, Nat.le_refl _⟩ ?_⟩
  refine ⟨hM.k, ?_⟩
  have hM := hM.si 41 rfl 0
  refine ⟨hM.k, _, (hM.ri _ rfl).trans hh, ?_⟩
  refine ⟨⟨by decide, by decide, by decide⟩, rfl, Nat.le_of_ble_eq_true rfl, y, 0, _, rfl, fun c => br1 ?_, fun c => br0 (h2 (fun z => c ((pr_n (by omega) y).mpr z.1)) _ hM)⟩
  obtain ⟨h, hhh, rfl⟩ := (pr_n (by omega) y).mp c
  refine ⟨⟨by decide, by decide, by decide⟩, rfl, Nat.le_of_ble_eq_true rfl, f, 0, 400, rfl, fun c1 => br1 ?_, fun c => br0 (h2 (fun z => c z.2.1) _ hM)⟩
  refine ⟨⟨by decide, by decide, by decide⟩, rfl, Nat.le_of_ble_eq_true rfl, v, 0, 1000, rfl, fun c2 => br1 ?_, fun c => br0 (h2 (fun z => c z.2.2.1) _ hM)⟩
  refine ⟨hM.k, _, (hM.ri _ rfl).trans hg, fun c => ?_, fun c => ?_⟩
  · have hlt : ng < 100 := by
      rcases Nat.lt_or_ge ng 100 with q | q
      · exact q
      · exact absurd (show nI ng = 100 by rw [show ng = 100 by omega]; rfl) c
    refine ⟨hM.k, _, hM.rf _ rfl, hM.k, _, (hM.ri _ rfl).trans hg, hM.kd _ rfl, ng, hM.ix _ rfl rfl hlt, ?_⟩
    have hM := hM.sa 31 rfl ng (nI h)
    refine ⟨hM.k, _, hM.rf _ rfl, hM.k, _, (hM.ri _ rfl).trans hg, hM.kd _ rfl, ng, hM.ix _ rfl rfl hlt, ?_⟩
    have hM := hM.sa 32 rfl ng f
    refine ⟨hM.k, _, hM.rf _ rfl, hM.k, _, (hM.ri _ rfl).trans hg, hM.kd _ rfl, ng, hM.ix _ rfl rfl hlt, ?_⟩
    have hM := hM.sa 33 rfl ng v
    refine ⟨hM.k, _, hM.rf _ rfl, hM.k, _, (hM.ri _ rfl).trans hg, hM.k, _, (hM.ri _ rfl).trans (show _ = M 25 0 from rfl), hM.kd _ rfl, ng, hM.ix _ rfl rfl hlt, ?_⟩
    have hM := hM.sa 34 rfl ng (M 25 0)
    refine ⟨hM.k, _, (hM.ri _ rfl).trans hg, hM.k, ?_⟩
    have hM := hM.si 35 rfl (nI ng + 1)
    refine ⟨hM.k, _, (hM.ri _ rfl).trans (show _ = nI (ng + 1) from nI_1 ng), ?_⟩
    rw [nI_1] at hM
    exact h1 h hhh rfl ⟨⟨h, hhh, rfl⟩, c1, c2, hlt⟩ _ (by rw [nI_1]; exact hM)
  · refine h2 (fun z => ?_) _ hM
    have h9 : nI ng = nI 100 := c
    have := (nI_eq (a := ng) (b := 100) (by omega) (by omega)).mp h9
    have := z.2.2.2
    omega
