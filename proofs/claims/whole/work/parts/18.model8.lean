/-! the reference: back, watch, wages, suspect, lots for making -/
def sp_back : Sp := fun as w K => ∃ m0 M x b nw, as = [.ref m0, .int x, .int b] ∧ RM m0 M w ∧ (b = 0 ∨ b = 1) ∧ (M 40 0 = nI nw ∧ nw ≤ 100) ∧ (∀ k, k < nw → x = nI k → ∀ w', RM m0 (u2 (m41 M) 39 k b) w' → K (some (.int 1)) w') ∧ ((¬ ∃ k, k < nw ∧ x = nI k) → ∀ w', RM m0 (m41 M) w' → K (some (.int 0)) w')
theorem c_mback (l : Launch) : Ct l 123 2 0 0 sp_back := by
  refine ct_jd (by decide) rfl (fun as w Po h => ?_)
  obtain ⟨m0, M, x, b, nw, rfl, hM, hb, ⟨hv, hv2⟩, h1, h2⟩ := h
  refine ⟨Nat.le_of_ble_eq_true rfl, jd_run cdo_123 (evL_ok cIn) 60 ⟨Nat.le_refl _, Nat.le_refl _⟩ ?_⟩
  refine ⟨hM.k, ?_⟩
  have hM := hM.si 41 rfl 0
  refine ⟨hM.k, _, (hM.ri _ rfl).trans hv, ?_⟩
  refine ⟨⟨by decide, by decide, by decide⟩, rfl, Nat.le_of_ble_eq_true rfl, x, 0, _, rfl, fun c => br1n ?_, fun c => br0n ⟨Or.inl rfl, h2 (fun z => c ((pr_n (by omega) x).mpr z)) _ hM⟩⟩
  obtain ⟨k, hk, hx⟩ := (pr_n (by omega) x).mp c
  refine ⟨hM.k, _, hM.rf _ rfl, hM.kd _ rfl, hb, k, hM.ix _ rfl hx (show k < 100 by omega), ?_⟩
  exact ⟨Or.inr rfl, h1 k hk hx _ (hM.sa 39 rfl k b)⟩
def watchA (M : Ms) (k c : Nat) : Int32 := match c with
  | 0 => M 38 (3 * k)
  | 1 => M 38 (3 * k + 1)
  | 2 => M 38 (3 * k + 2)
  | 3 => if M 39 k = 0 then 0 else 1
  | _ => hoW M k
theorem watchA_lt {M : Ms} {k c : Nat} (h : c < 3) : watchA M k c = M 38 (3 * k + c) := by
  rcases (show c = 0 ∨ c = 1 ∨ c = 2 by omega) with rfl | rfl | rfl <;> rfl
def sp_watch : Sp := fun as w K => ∃ m0 M x y nw, as = [.ref m0, .int x, .int y] ∧ RM m0 M w ∧ (M 40 0 = nI nw ∧ nw ≤ 100) ∧ (∀ k, k < nw → wOK M k) ∧ ∀ w', RM m0 (m41 M) w' → (∀ k c, k < nw → c < 5 → x = nI k → y = nI c → K (some (.int (watchA M k c))) w') ∧ ((¬ ∃ k c, k < nw ∧ c < 5 ∧ x = nI k ∧ y = nI c) → K (some (.int (-1))) w')
theorem c_mwatch (l : Launch) : Ct l 121 2 0 0 sp_watch := by
  refine ct_jd (by decide) rfl (fun as w Po h => ?_)
  obtain ⟨m0, M, x, y, nw, rfl, hM, ⟨hv, hv2⟩, hw, h⟩ := h
  refine ⟨Nat.le_of_ble_eq_true rfl, jd_run cdo_121 (evL_ok (L := [(85, 1, 0, 0, sp_in), (122, 1, 0, 0, sp_hoW)]) (by simpa using ⟨c_in l, c_hoW l⟩)) 60 ⟨Nat.le_refl _, Nat.le_refl _⟩ ?_⟩
  refine ⟨hM.k, ?_⟩
  have hM := hM.si 41 rfl 0
  obtain ⟨h1, h2⟩ := h _ hM
  refine ⟨hM.k, _, (hM.ri _ rfl).trans hv, ?_⟩
  have e5 : (0 ≤ y ∧ y ≤ 4) ↔ ∃ c, c < 5 ∧ y = nI c := pr_n (n := 5) (by decide) y
  refine ⟨⟨by decide, by decide, by decide⟩, rfl, Nat.le_of_ble_eq_true rfl, x, 0, _, rfl, fun c => br1 ?_, fun c => br0 (h2 (fun ⟨k, _, hk, _, hx, _⟩ => c ((pr_n (by omega) x).mpr ⟨k, hk, hx⟩)))⟩
  obtain ⟨k, hk, hx⟩ := (pr_n (by omega) x).mp c
  refine ⟨⟨by decide, by decide, by decide⟩, rfl, Nat.le_of_ble_eq_true rfl, y, 0, 4, rfl, fun c => br1n ?_, fun c => br0n (h2 (fun ⟨_, c', _, hc, _, hy⟩ => c (e5.mpr ⟨c', hc, hy⟩)))⟩
  obtain ⟨c', hc', hy⟩ := e5.mp c
  have h3 := h1 k c' hk hc' hx hy
  refine ⟨fun c2 => ⟨fun c3 => ?_, fun c3 => ?_⟩, fun c2 => ?_⟩
  · have hc4 : c' = 4 := by
      have z1 : 3 ≤ c' := by rw [hy] at c2; exact ge_n (b := 3) (by omega) (by omega) c2
      have z2 : c' ≠ 3 := fun z => c3 (by rw [hy, z]; rfl)
      omega
    subst hc4
    exact ⟨⟨by decide, by decide, by decide⟩, rfl, hM.k, m0, _, k, by rw [hx]; rfl, hM, ⟨by omega, hw k hk⟩, h3⟩
  · have hc4 : c' = 3 := two_eq (b := 3) (by omega) (by omega) hy c3
    subst hc4
    refine ⟨hM.k, _, hM.rf _ rfl, hM.kd _ rfl, k, _, hM.ix _ rfl hx (show k < 100 by omega), hM.rd _ rfl k, fun c4 => ?_, fun c4 => ?_⟩
    · have e : watchA M k 3 = 0 := if_pos c4
      rw [e] at h3
      exact h3
    · have e : watchA M k 3 = 1 := if_neg c4
      rw [e] at h3
      exact h3
  · have hc3 : c' < 3 := by rw [hy] at c2; exact nge_n (b := 3) (by omega) c2
    rw [watchA_lt hc3] at h3
    exact ⟨hM.k, _, hM.rf _ rfl, hM.kd _ rfl, 3 * k + c', _, hM.ix _ rfl (by rw [hx, hy, n3, nI_add]) (show 3 * k + c' < 300 by omega), hM.rd _ rfl _, h3⟩
/-- a number or none -/
def oI (o : Option Nat) : Int32 := match o with
  | none => -1
  | some j => nI j
/-- a wage told of home h, known on day kn, from day d on -/
def wgOK (M : Ms) (h : Nat) (d kn : Int32) (k : Nat) : Prop := M 31 k = nI h ∧ M 34 k ≤ kn ∧ M 32 k ≤ d
def wgBest (M : Ms) (h : Nat) (d kn : Int32) : Nat → Option Nat
  | 0 => none
  | k + 1 => if M 31 k = nI h ∧ M 34 k ≤ kn ∧ M 32 k ≤ d then (match wgBest M h d kn k with
    | none => some k
    | some b => if M 32 b ≤ M 32 k then some k else some b) else wgBest M h d kn k
theorem wgBest_lt (M : Ms) (h : Nat) (d kn : Int32) : ∀ n b, wgBest M h d kn n = some b → b < n
  | 0, b, e => by cases e
  | n + 1, b, e => by
    unfold wgBest at e
    split at e
    · split at e
      · cases e; omega
      · rename_i b' hb'
        have := wgBest_lt M h d kn n b' hb'
        split at e
        · cases e; omega
        · cases e; omega
    · have := wgBest_lt M h d kn n b e
      omega
def wgFor (M : Ms) (h : Nat) (d kn : Int32) (n : Nat) : Int32 := match wgBest M h d kn n with
  | none => 0
  | some b => M 33 b
theorem wgBest_41 (M : Ms) (h : Nat) (d kn : Int32) : ∀ n, wgBest (u2 M 41 0 0) h d kn n = wgBest M h d kn n
  | 0 => rfl
  | n + 1 => by
    show (if M 31 n = nI h ∧ M 34 n ≤ kn ∧ M 32 n ≤ d then (match wgBest (u2 M 41 0 0) h d kn n with
      | none => some n
      | some b => if M 32 b ≤ M 32 n then some n else some b) else wgBest (u2 M 41 0 0) h d kn n) = _
    rw [wgBest_41 M h d kn n]
    rfl
theorem wgFor_41 (M : Ms) (h : Nat) (d kn : Int32) (n : Nat) : wgFor (u2 M 41 0 0) h d kn n = wgFor M h d kn n := by
  unfold wgFor
  rw [wgBest_41]
  cases wgBest M h d kn n <;> rfl
def sp_wageFor : Sp := fun as w K => ∃ m0 M h d kn n, as = [.ref m0, .int (nI h), .int d, .int kn] ∧ RM m0 M w ∧ (M 35 0 = nI n ∧ n ≤ 100) ∧ K (some (.int (wgFor M h d kn n))) w
theorem c_mwageFor (l : Launch) : Ct l 107 1 0 0 sp_wageFor := by
  refine ct_jd (by decide) rfl (fun as w Po h => ?_)
  obtain ⟨m0, M, hm, dd, kn, n, rfl, hM, ⟨hn, hn2⟩, h⟩ := h
  refine ⟨Nat.le_of_ble_eq_true rfl, jd_for cdo_107 ev0 10 60 6 (fun d L S w' nc ns => S = [] ∧ nc = 0 ∧ ns = 0 ∧ w' = w ∧ ∃ i, i + d = n ∧ L = [(5, .int (nI i)), (4, .int (oI (wgBest M hm dd kn i))), (0, .ref m0), (1, .int (nI hm)), (2, .int dd), (3, .int kn)]) ⟨Nat.le_refl _, Nat.le_refl _⟩ ?_ ?_ ?_⟩
  · rintro d L S w' nc ns ⟨-, rfl, rfl, -⟩
    exact ⟨Nat.le_refl _, Nat.le_refl _⟩
  · rintro d L S w' nc ns ⟨rfl, rfl, rfl, rfl, i, hi, rfl⟩
    refine ⟨hM.k, _, (hM.ri _ rfl).trans hn, fun c => ?_, fun c => ?_⟩
    · have hin : i = n := by have := ge_n (by omega) (by omega) c; omega
      subst hin
      unfold wgFor at h
      cases hb : wgBest M hm dd kn i with
      | none =>
        rw [hb] at h
        exact ⟨fun z => absurd rfl z, fun _ => h⟩
      | some b =>
        rw [hb] at h
        have hbl := wgBest_lt M hm dd kn i b hb
        have hne : ¬ nI b = -1 := fun z => by
          have := congrArg Int32.toInt z
          rw [nI_toInt (by omega)] at this
          have e : (-1 : Int32).toInt = -1 := by decide
          omega
        refine ⟨fun _ => ?_, fun z => absurd z hne⟩
        exact ⟨hM.k, _, hM.rf _ rfl, hM.kd _ rfl, b, _, hM.ix _ rfl rfl (show b < 100 by omega), hM.rd _ rfl b, h⟩
    · have hin := nge_n (by omega) c
      have no : ¬ (M 31 i = nI hm ∧ M 34 i ≤ kn ∧ M 32 i ≤ dd) → wgBest M hm dd kn (i + 1) = wgBest M hm dd kn i := fun z => by rw [wgBest, if_neg z]
      have stay : ∀ z : Option Nat, wgBest M hm dd kn (i + 1) = z → ∀ L' : Ls, L' = [(5, .int (nI (i + 1))), (4, .int (oI z)), (0, .ref m0), (1, .int (nI hm)), (2, .int dd), (3, .int kn)] → ∃ j, j < d ∧ (([] : List Value) = [] ∧ 0 = 0 ∧ 0 = 0 ∧ w' = w' ∧ ∃ i, i + j = n ∧ L' = [(5, .int (nI i)), (4, .int (oI (wgBest M hm dd kn i))), (0, .ref m0), (1, .int (nI hm)), (2, .int dd), (3, .int kn)]) := fun z hz L' hL => ⟨d - 1, by omega, rfl, rfl, rfl, rfl, i + 1, by omega, by rw [hL, hz]⟩
      refine ⟨hM.k, _, hM.rf _ rfl, hM.kd _ rfl, i, _, hM.ix _ rfl rfl (show i < 100 by omega), hM.rd _ rfl i, fun c2 => ?_, fun c2 => ?_⟩
      · exact stay _ (no (fun z => c2 z.1)) _ (by rw [← nI_1]; rfl)
      · refine ⟨hM.k, _, hM.rf _ rfl, hM.kd _ rfl, i, _, hM.ix _ rfl rfl (show i < 100 by omega), hM.rd _ rfl i, fun c3 => ?_, fun c3 => ?_⟩
        · exact stay _ (no (fun z => lt_nle c3 z.2.1)) _ (by rw [← nI_1]; rfl)
        · refine ⟨hM.k, _, hM.rf _ rfl, hM.kd _ rfl, i, _, hM.ix _ rfl rfl (show i < 100 by omega), hM.rd _ rfl i, fun c4 => ?_, fun c4 => ?_⟩
          · have hok : M 31 i = nI hm ∧ M 34 i ≤ kn ∧ M 32 i ≤ dd := ⟨c2, nlt_le c3, c4⟩
            cases hb : wgBest M hm dd kn i with
            | none =>
              have hs : wgBest M hm dd kn (i + 1) = some i := by rw [wgBest, if_pos hok, hb]
              refine ⟨fun _ => ?_, fun z => absurd rfl z⟩
              exact stay _ hs _ (by rw [← nI_1]; rfl)
            | some b =>
              have hbl := wgBest_lt M hm dd kn i b hb
              have hne : ¬ nI b = -1 := fun z => by
                have := congrArg Int32.toInt z
                rw [nI_toInt (by omega)] at this
                have e : (-1 : Int32).toInt = -1 := by decide
                omega
              refine ⟨fun z => absurd z hne, fun _ => ?_⟩
              refine ⟨hM.k, _, hM.rf _ rfl, hM.kd _ rfl, i, _, hM.ix _ rfl rfl (show i < 100 by omega), hM.rd _ rfl i, ?_⟩
              refine ⟨hM.k, _, hM.rf _ rfl, hM.kd _ rfl, b, _, hM.ix _ rfl rfl (show b < 100 by omega), hM.rd _ rfl b, fun c5 => ?_, fun c5 => ?_⟩
              · have hs : wgBest M hm dd kn (i + 1) = some b := by rw [wgBest, if_pos hok, hb]; exact if_neg (lt_nle c5)
                exact stay _ hs _ (by rw [← nI_1]; rfl)
              · have hs : wgBest M hm dd kn (i + 1) = some i := by rw [wgBest, if_pos hok, hb]; exact if_pos (nlt_le c5)
                exact stay _ hs _ (by rw [← nI_1]; rfl)
          · exact stay _ (no (fun z => c4 z.2.2)) _ (by rw [← nI_1]; rfl)
  · exact ⟨rfl, n, rfl, rfl, rfl, rfl, 0, by omega, rfl⟩
def dueS (M : Ms) (h : Nat) (kn : Int32) (ng : Nat) : Nat → Int64
  | 0 => 0
  | k + 1 => if M 27 k = nI h ∧ M 28 k ≤ kn then dueS M h kn ng k + (M 29 k).toInt64 * (wgFor M h (M 28 k) kn ng).toInt64 else dueS M h kn ng k
def sp_due : Sp := fun as w K => ∃ m0 M x kn nh ns ng, as = [.ref m0, .int x, .int kn] ∧ RM m0 M w ∧ (M 24 0 = nI nh ∧ nh ≤ 9) ∧ (M 30 0 = nI ns ∧ ns ≤ 500) ∧ (M 35 0 = nI ng ∧ ng ≤ 100) ∧
  (∀ h, h < nh → x = nI h → 0 ≤ kn ∧ kn ≤ M 25 0 → ∀ w', RM m0 (m41 M) w' → K (some (.long (dueS M h kn ng ns))) w') ∧ ((¬ ((∃ h, h < nh ∧ x = nI h) ∧ 0 ≤ kn ∧ kn ≤ M 25 0)) → ∀ w', RM m0 (u2 (m41 M) 41 0 1) w' → K (some (.long 0)) w')
theorem c_mdue (l : Launch) : Ct l 106 2 0 0 sp_due := by
  refine ct_jd (by decide) rfl (fun as w Po h => ?_)
  obtain ⟨m0, M, x, kn, nh, n, ng, rfl, hM0, ⟨hh, hh2⟩, ⟨hn, hn2⟩, ⟨hg, hg2⟩, h1, h2⟩ := h
  have hM := hM0.si 41 rfl 0
  refine ⟨Nat.le_of_ble_eq_true rfl, jd_for cdo_106 (evL_ok (L := [(85, 1, 0, 0, sp_in), (107, 1, 0, 0, sp_wageFor)]) (by simpa using ⟨c_in l, c_mwageFor l⟩)) 40 60 43 (fun d L S w' nc ns => S = [] ∧ nc = 0 ∧ ns = 0 ∧ w' = sI w 10 41 m0 0 ∧ ∃ hm i, hm < nh ∧ x = nI hm ∧ (0 ≤ kn ∧ kn ≤ M 25 0) ∧ i + d = n ∧ (L = [(5, .int (nI i)), (3, .long (dueS M hm kn ng i)), (0, .ref m0), (1, .int x), (2, .int kn)])) ⟨Nat.le_refl _, Nat.le_refl _⟩ ?_ ?_ ?_⟩
  · rintro d L S w' nc ns ⟨-, rfl, rfl, -⟩
    exact ⟨Nat.le_refl _, Nat.le_refl _⟩
  · rintro d L S w' nc ns ⟨rfl, rfl, rfl, rfl, hm, i, hhm, hx, hkn, hi, rfl⟩
    refine ⟨hM.k, _, (hM.ri _ rfl).trans hn, fun c => ?_, fun c => ?_⟩
    · have hin : i = n := by have := ge_n (by omega) (by omega) c; omega
      subst hin
      exact h1 hm hhm hx hkn _ hM
    · have hin := nge_n (by omega) c
      have no : ¬ (M 27 i = nI hm ∧ M 28 i ≤ kn) → dueS M hm kn ng (i + 1) = dueS M hm kn ng i := fun z => by rw [dueS, if_neg z]
      refine ⟨hM.k, _, hM.rf _ rfl, hM.kd _ rfl, i, _, hM.ix _ rfl rfl (show i < 500 by omega), hM.rd _ rfl i, fun c2 => ?_, fun c2 => ?_⟩
      · refine ⟨d - 1, by omega, rfl, rfl, rfl, rfl, hm, i + 1, hhm, hx, hkn, by omega, ?_⟩
        rw [no (fun z => c2 (hx ▸ z.1)), ← nI_1]
        rfl
      · refine ⟨hM.k, _, hM.rf _ rfl, hM.kd _ rfl, i, _, hM.ix _ rfl rfl (show i < 500 by omega), hM.rd _ rfl i, fun c3 => ?_, fun c3 => ?_⟩
        · refine ⟨d - 1, by omega, rfl, rfl, rfl, rfl, hm, i + 1, hhm, hx, hkn, by omega, ?_⟩
          rw [no (fun z => lt_nle c3 z.2), ← nI_1]
          rfl
        · have hok : M 27 i = nI hm ∧ M 28 i ≤ kn := ⟨hx ▸ c2, nlt_le c3⟩
          refine ⟨hM.k, _, hM.rf _ rfl, hM.kd _ rfl, i, _, hM.ix _ rfl rfl (show i < 500 by omega), hM.rd _ rfl i, ?_⟩
          refine ⟨hM.k, _, hM.rf _ rfl, hM.kd _ rfl, i, _, hM.ix _ rfl rfl (show i < 500 by omega), hM.rd _ rfl i, ?_⟩
          refine ⟨⟨by decide, by decide, by decide⟩, rfl, hM.k, m0, _, hm, M 28 i, kn, ng, by rw [hx]; rfl, hM, ⟨hg, hg2⟩, ?_⟩
          refine ⟨d - 1, by omega, rfl, rfl, rfl, rfl, hm, i + 1, hhm, hx, hkn, by omega, ?_⟩
          rw [dueS, if_pos hok, ← nI_1, wgFor_41]
          rfl
  · refine ⟨hM0.k, hM.k, _, (hM.ri _ rfl).trans hh, ?_⟩
    refine ⟨⟨by decide, by decide, by decide⟩, rfl, Nat.le_of_ble_eq_true rfl, x, 0, _, rfl, fun c => br1 ?_, fun c => br0 ⟨hM.k, h2 (fun z => c ((pr_n (by omega) x).mpr z.1)) _ (hM.si 41 rfl 1)⟩⟩
    obtain ⟨hm, hhm, hx⟩ := (pr_n (by omega) x).mp c
    refine ⟨hM.k, _, hM.ri _ rfl, ?_⟩
    refine ⟨⟨by decide, by decide, by decide⟩, rfl, Nat.le_of_ble_eq_true rfl, kn, 0, _, rfl, fun c => br1n ?_, fun c => br0n ⟨hM.k, h2 (fun z => c z.2) _ (hM.si 41 rfl 1)⟩⟩
    exact ⟨rfl, n, rfl, rfl, rfl, rfl, hm, 0, hhm, hx, c, by omega, rfl⟩
