/-! the reference: members without a loop -/
theorem br1 {A B : Prop} (h : B) : ((1 : Int32) = 0 → A) ∧ (¬ (1 : Int32) = 0 → B) := ⟨fun z => absurd z (by decide), fun _ => h⟩
theorem br0 {A B : Prop} (h : A) : ((0 : Int32) = 0 → A) ∧ (¬ (0 : Int32) = 0 → B) := ⟨fun _ => h, fun z => absurd rfl z⟩
theorem cIn {l : Launch} : ∀ q ∈ [((85 : Nat), 1, 0, 0, sp_in)], Ct l q.1 q.2.1 q.2.2.1 q.2.2.2.1 q.2.2.2.2 := by simpa using c_in l
def okHome (r o b y : Int32) (nh : Nat) : Prop := (1 ≤ r ∧ r ≤ 20) ∧ (-9 ≤ o ∧ o ≤ 9) ∧ (0 ≤ b ∧ b ≤ 30) ∧ (0 ≤ y ∧ y ≤ 9) ∧ nh < 9
/-- thrown is wiped -/
def m41 (M : Ms) : Ms := u2 M 41 0 0
def mHome (M : Ms) (nh : Nat) (r o b y : Int32) : Ms := u2 (u2 (u2 (u2 (u2 (m41 M) 18 nh r) 19 nh o) 20 nh b) 21 nh y) 24 0 (nI (nh + 1))
def sp_home : Sp := fun as w K => ∃ m0 M r o b y nh, as = [.ref m0, .int r, .int o, .int b, .int y] ∧ RM m0 M w ∧ (M 24 0 = nI nh ∧ nh ≤ 9) ∧ (okHome r o b y nh → ∀ w', RM m0 (mHome M nh r o b y) w' → K (some (.int (nI nh))) w') ∧ (¬ okHome r o b y nh → ∀ w', RM m0 (m41 M) w' → K (some (.int (-1))) w')
theorem c_mhome (l : Launch) : Ct l 84 2 0 0 sp_home := by
  refine ct_jd (by decide) rfl (fun as w Po h => ?_)
  obtain ⟨m0, M, r, o, b, y, nh, rfl, hM, ⟨hn, hn2⟩, h1, h2⟩ := h
  refine ⟨Nat.le_of_ble_eq_true rfl, jd_run cdo_84 (evL_ok cIn) 80 ⟨Nat.le_refl _, Nat.le_refl _⟩ ?_⟩
  refine ⟨hM.k, ?_⟩
  have hM := hM.si 41 rfl 0
  refine ⟨⟨by decide, by decide, by decide⟩, rfl, Nat.le_of_ble_eq_true rfl, r, 1, 20, rfl, fun c1 => br1 ?_, fun c1 => br0 (h2 (fun z => c1 z.1) _ hM)⟩
  refine ⟨⟨by decide, by decide, by decide⟩, rfl, Nat.le_of_ble_eq_true rfl, o, -9, 9, rfl, fun c2 => br1 ?_, fun c2 => br0 (h2 (fun z => c2 z.2.1) _ hM)⟩
  refine ⟨⟨by decide, by decide, by decide⟩, rfl, Nat.le_of_ble_eq_true rfl, b, 0, 30, rfl, fun c3 => br1 ?_, fun c3 => br0 (h2 (fun z => c3 z.2.2.1) _ hM)⟩
  refine ⟨⟨by decide, by decide, by decide⟩, rfl, Nat.le_of_ble_eq_true rfl, y, 0, 9, rfl, fun c4 => br1 ?_, fun c4 => br0 (h2 (fun z => c4 z.2.2.2.1) _ hM)⟩
  refine ⟨hM.k, _, (hM.ri _ rfl).trans hn, fun c5 => ?_, fun c5 => ?_⟩
  · have hlt : nh < 9 := by
      rcases Nat.lt_or_ge nh 9 with q | q
      · exact q
      · exact absurd (show nI nh = 9 by rw [show nh = 9 by omega]; rfl) c5
    refine ⟨hM.k, _, hM.rf _ rfl, hM.k, _, (hM.ri _ rfl).trans hn, hM.kd _ rfl, nh, hM.ix _ rfl rfl hlt, ?_⟩
    have hM := hM.sa 18 rfl nh r
    refine ⟨hM.k, _, hM.rf _ rfl, hM.k, _, (hM.ri _ rfl).trans hn, hM.kd _ rfl, nh, hM.ix _ rfl rfl hlt, ?_⟩
    have hM := hM.sa 19 rfl nh o
    refine ⟨hM.k, _, hM.rf _ rfl, hM.k, _, (hM.ri _ rfl).trans hn, hM.kd _ rfl, nh, hM.ix _ rfl rfl hlt, ?_⟩
    have hM := hM.sa 20 rfl nh b
    refine ⟨hM.k, _, hM.rf _ rfl, hM.k, _, (hM.ri _ rfl).trans hn, hM.kd _ rfl, nh, hM.ix _ rfl rfl hlt, ?_⟩
    have hM := hM.sa 21 rfl nh y
    refine ⟨hM.k, _, (hM.ri _ rfl).trans hn, hM.k, ?_⟩
    have hM := hM.si 24 rfl (nI nh + 1)
    refine ⟨hM.k, _, hM.ri _ rfl, ?_⟩
    have e : (nI nh + 1 : Int32) - 1 = nI nh := by rw [nI_1, nI_pred]
    show Po (some (.int (nI nh + 1 - 1))) _
    rw [e]
    rw [nI_1] at hM
    exact h1 ⟨c1, c2, c3, c4, hlt⟩ _ (by rw [nI_1]; exact hM)
  · exact h2 (fun z => by
      have h9 : nI nh = 9 := c5
      have := (nI_eq (a := nh) (b := 9) (by omega) (by omega)).mp h9
      have := z.2.2.2.2
      omega) _ hM
def mFit (M : Ms) (x : Nat) (a b : Int32) : Ms := u2 (u2 (m41 M) 36 x a) 37 x b
def sp_fit : Sp := fun as w K => ∃ m0 M x a b, as = [.ref m0, .int x, .int a, .int b] ∧ RM m0 M w ∧ (∀ j, j < 2 → x = nI j → a ≤ b → ∀ w', RM m0 (mFit M j a b) w' → K (some (.int 1)) w') ∧ ((¬ ((∃ j, j < 2 ∧ x = nI j) ∧ a ≤ b)) → ∀ w', RM m0 (m41 M) w' → K (some (.int 0)) w')
theorem c_mfit (l : Launch) : Ct l 108 2 0 0 sp_fit := by
  refine ct_jd (by decide) rfl (fun as w Po h => ?_)
  obtain ⟨m0, M, x, a, b, rfl, hM, h1, h2⟩ := h
  refine ⟨Nat.le_of_ble_eq_true rfl, jd_run cdo_108 (evL_ok cIn) 80 ⟨Nat.le_refl _, Nat.le_refl _⟩ ?_⟩
  refine ⟨hM.k, ?_⟩
  have hM := hM.si 41 rfl 0
  have e : (0 ≤ x ∧ x ≤ 1) ↔ ∃ j, j < 2 ∧ x = nI j := pr_n (n := 2) (by decide) x
  refine ⟨⟨by decide, by decide, by decide⟩, rfl, Nat.le_of_ble_eq_true rfl, x, 0, 1, rfl, fun c1 => br1 ?_, fun c1 => br0 ⟨Or.inl rfl, h2 (fun z => c1 (e.mpr z.1)) _ hM⟩⟩
  obtain ⟨j, hj, rfl⟩ := e.mp c1
  refine ⟨fun c2 => ?_, fun c2 => ⟨Or.inl rfl, h2 (fun z => c2 z.2) _ hM⟩⟩
  refine ⟨hM.k, _, hM.rf _ rfl, hM.kd _ rfl, j, hM.ix _ rfl rfl hj, ?_⟩
  have hM := hM.sa 36 rfl j a
  refine ⟨hM.k, _, hM.rf _ rfl, hM.kd _ rfl, j, hM.ix _ rfl rfl hj, ?_⟩
  have hM := hM.sa 37 rfl j b
  exact ⟨Or.inr rfl, h1 j hj rfl c2 _ hM⟩
