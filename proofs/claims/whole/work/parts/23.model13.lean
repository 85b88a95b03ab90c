/-! the reference: day, whole -/
theorem dH_le (h nl : Nat) : ∀ (n : Nat) (M : Ms) (lf : Nat), (dH h nl n M lf).2 ≤ lf
  | 0, M, lf => Nat.zero_le _
  | n + 1, M, lf => by
    rw [dH]
    cases fiF M h nl with
    | none => exact Nat.zero_le _
    | some l =>
      dsimp only
      split
      · exact dH_le h nl n _ _
      · split
        · have := dH_le h nl n (mWork M h l) (lf - 1)
          dsimp only
          omega
        · exact Nat.zero_le _
theorem dD_le (fu nl : Nat) (M : Ms) : ∀ h, (∀ i, i < h → pN (M 18 i) ≤ 20) → (dD fu nl M h).2 ≤ 20 * h
  | 0, _ => Nat.zero_le _
  | h + 1, hr => by
    rw [dD]
    have h1 := dD_le fu nl M h (fun i hi => hr i (by omega))
    have h2 := dH_le h nl fu (dD fu nl M h).1 (pN (M 18 h))
    have h3 := hr h (by omega)
    dsimp only
    omega
def mDay (fu : Nat) (M : Ms) (sn : Int32) (nl nh : Nat) : Ms := u2 (dD fu nl (mGoes (m41 M) sn nl) nh).1 25 0 (M 25 0 + 1)
def sp_day (fu : Nat) : Sp := fun as w K => ∃ m0 M sn nl nh nd, as = [.ref m0, .int sn] ∧ RM m0 M w ∧ (M 16 0 = nI nl ∧ nl ≤ 60) ∧ (M 24 0 = nI nh ∧ nh ≤ 9) ∧ (M 25 0 = nI nd ∧ nd ≤ 400) ∧ (∀ h, h < nh → ∃ r, r ≤ 20 ∧ M 18 h = nI r) ∧ DW (mGoes (m41 M) sn nl) nl ∧
  (nd < 400 → ∀ w', RM m0 (mDay fu M sn nl nh) w' → K (some (.int (nI (dD fu nl (mGoes (m41 M) sn nl) nh).2))) w') ∧ (nd = 400 → ∀ w', RM m0 (m41 M) w' → K (some (.int (-1))) w')
theorem c_mday (l : Launch) (fu : Nat) (hfu : 80 < fu) : Ct l 95 3 0 0 (sp_day fu) := by
  have hev : ∀ (k : Nat) (r : Nat × Nat × Nat × Sp), evL [(96, 1, 0, 0, sp_goes), (97, 1, 0, 0, sp_first), (98, 2, 0, 0, sp_work)] k = some r → Ct l k r.1 r.2.1 r.2.2.1 r.2.2.2 := evL_ok (by simpa using ⟨c_goes l, c_first l, c_work l⟩)
  refine ct_jd (by decide) rfl (fun as w Po hq => ?_)
  obtain ⟨m0, M, sn, nl, nh, nd, rfl, hM, ⟨hn, hn2⟩, ⟨hh, hh2⟩, ⟨hd, hd2⟩, hr, hD, h1, h2⟩ := hq
  refine ⟨Nat.le_of_ble_eq_true rfl, ?_⟩
  have hot : ∀ f i, (f ≠ 10 ∧ f ≠ 12 ∧ f ≠ 13 ∧ f ≠ 14 ∧ f ≠ 15 ∧ f ≠ 17) → mGoes (m41 M) sn nl f i = m41 M f i := fun f i hf => mGoes_ot _ _ _ _ hf nl
  have g16 : mGoes (m41 M) sn nl 16 0 = nI nl := (hot 16 0 (by decide)).trans hn
  have g24 : mGoes (m41 M) sn nl 24 0 = nI nh := (hot 24 0 (by decide)).trans hh
  have g25 : mGoes (m41 M) sn nl 25 0 = M 25 0 := hot 25 0 (by decide)
  have g18 : ∀ h, h < nh → ∃ r, r ≤ 20 ∧ mGoes (m41 M) sn nl 18 h = nI r := fun h hlt => by
    obtain ⟨r, hr1, hr2⟩ := hr h hlt
    exact ⟨r, hr1, (hot 18 h (by decide)).trans hr2⟩
  have fin : ∀ w', RM m0 (u2 (dD fu nl (mGoes (m41 M) sn nl) nh).1 25 0 (M 25 0 + 1)) w' → nd < 400 → Po (some (.int (nI (dD fu nl (mGoes (m41 M) sn nl) nh).2))) w' := fun w' hw hnd => h1 hnd w' hw
  generalize hN : mGoes (m41 M) sn nl = N at g16 g24 g25 g18 hD fin
  have hle : ∀ h, h ≤ nh → (dD fu nl N h).2 ≤ 20 * h := fun h hlt => dD_le fu nl N h (fun i hi => by
    obtain ⟨r, hr1, hr2⟩ := g18 i (by omega)
    rw [hr2, pN_n (by omega)]
    exact hr1)
  have key : nd < 400 → ∀ d h w', h + d = nh → RM m0 (dD fu nl N h).1 w' → Jd l 95 3 0 0 (some .int) Po 26 [(3, .int (nI h)), (2, .int (nI (dD fu nl N h).2)), (0, .ref m0), (1, .int sn)] [] w' 0 0 := by
    intro hnd d
    induction d with
    | zero =>
      intro h w' hi hM
      obtain rfl : h = nh := by omega
      have e24 := (dD_ot fu nl N 24 0 (by decide) (by decide) h).trans g24
      have e25 := (dD_ot fu nl N 25 0 (by decide) (by decide) h).trans g25
      refine jd_s cdo_95 hev [] 30 z00 ?_
      refine ⟨hM.k, _, (hM.ri _ rfl).trans e24, fun c => ?_, fun c => absurd (nI_le (Nat.le_refl h) (by omega)) c⟩
      refine ⟨hM.k, _, (hM.ri _ rfl).trans e25, hM.k, ?_⟩
      exact fin _ (hM.si 25 rfl (M 25 0 + 1)) hnd
    | succ d ih =>
      intro h w' hi hM
      have e24 := (dD_ot fu nl N 24 0 (by decide) (by decide) h).trans g24
      have e16 := (dD_ot fu nl N 16 0 (by decide) (by decide) h).trans g16
      obtain ⟨r, hr1, hr2⟩ := g18 h (by omega)
      have e18 := (dD_ot fu nl N 18 h (by decide) (by decide) h).trans hr2
      have hDh := dD_DW fu nl N hD h
      have hsum := hle h (by omega)
      have hin := c_dayIn l Po m0 h nl sn (by omega) hn2 fu (dD fu nl N h).1 w' r (dD fu nl N h).2 (by have := cn_le (wtP (dD fu nl N h).1 h) nl; omega) hr1 (by omega) hM e16 hDh (by
        intro w2 v4 v5 v6 hw2
        refine jd_s cdo_95 hev [26] 20 z00 ?_
        refine jd_pk [0, 4, 5, 6] ?_
        have hn1 := ih (h + 1) w2 (by omega) (by rw [dD, hr2, pN_n (by omega)]; exact hw2)
        have e2 : (dD fu nl N (h + 1)).2 = (dD fu nl N h).2 + (dH h nl fu (dD fu nl N h).1 r).2 := by rw [dD, hr2, pN_n (by omega)]
        rw [e2, ← nI_1] at hn1
        exact hn1)
      refine jd_s cdo_95 hev [62] 60 z00 ?_
      refine ⟨hM.k, _, (hM.ri _ rfl).trans e24, fun c => ?_, fun c => ?_⟩
      · have := ge_n (by omega) (by omega) c
        omega
      · refine ⟨hM.k, _, hM.rf _ rfl, hM.kd _ rfl, h, _, hM.ix _ rfl rfl (show h < 9 by omega), (hM.rd _ rfl h).trans e18, ?_⟩
        refine ⟨⟨by decide, by decide, by decide⟩, rfl, hM.k, m0, _, h, nl, rfl, hM, ⟨e16, hn2⟩, ?_⟩
        cases hb : fiF (dD fu nl N h).1 h nl with
        | none =>
          rw [hb] at hin
          exact ⟨fun _ => hin, fun z => absurd rfl z⟩
        | some j =>
          rw [hb] at hin
          have hjl := (fiF_lt _ h nl j hb).1
          exact ⟨fun z => absurd z (nI_m1 (by omega)), fun _ => hin⟩
  refine jd_s cdo_95 hev [26] 40 z00 ?_
  refine ⟨hM.k, ?_⟩
  have hM := hM.si 41 rfl 0
  have hM : RM m0 (m41 M) _ := hM
  refine ⟨hM.k, _, (hM.ri _ rfl).trans hd, fun c => ?_, fun c => ?_⟩
  · have hnd : nd < 400 := by
      rcases Nat.lt_or_ge nd 400 with q | q
      · exact q
      · exact absurd (show nI nd = 400 by rw [show nd = 400 by omega]; rfl) c
    exact ⟨⟨by decide, by decide, by decide⟩, rfl, hM.k, m0, _, sn, nl, rfl, hM, ⟨hn, hn2⟩, fun w' hw' => key hnd nh 0 w' (by omega) (by rw [hN] at hw'; exact hw')⟩
  · have h9 : nI nd = nI 400 := c
    exact h2 ((nI_eq (by omega) (by omega)).mp h9) _ hM
