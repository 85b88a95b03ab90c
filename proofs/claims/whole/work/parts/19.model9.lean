/-! the reference: suspect; lots for making -/
abbrev badN (M : Ms) (nw h : Nat) : Nat := cn (cofP M h true) nw
abbrev allN (M : Ms) (nw h : Nat) : Nat := cn (cofP M h false) nw
def susF (M : Ms) (m : Int32) (nw : Nat) : Nat → Option Nat
  | 0 => none
  | k + 1 => if nI (badN M nw k) < m then susF M m nw k else (match susF M m nw k with
    | none => some k
    | some f => if nI (badN M nw f) * nI (allN M nw k) < nI (badN M nw k) * nI (allN M nw f) then some k else some f)
theorem susF_lt (M : Ms) (m : Int32) (nw : Nat) : ∀ n f, susF M m nw n = some f → f < n
  | 0, b, e => by cases e
  | n + 1, b, e => by
    unfold susF at e
    split at e
    · have := susF_lt M m nw n b e
      omega
    · split at e
      · cases e; omega
      · rename_i f hf
        have := susF_lt M m nw n f hf
        split at e
        · cases e; omega
        · cases e; omega
theorem nI_m1 {b : Nat} (h : b < 2147483648) : ¬ nI b = -1 := fun z => by
  have := congrArg Int32.toInt z
  rw [nI_toInt h] at this
  have e : (-1 : Int32).toInt = -1 := by decide
  omega
def sp_suspect : Sp := fun as w K => ∃ m0 M x nh nw, as = [.ref m0, .int x] ∧ RM m0 M w ∧ (M 24 0 = nI nh ∧ nh ≤ 9) ∧ (M 40 0 = nI nw ∧ nw ≤ 100) ∧ (∀ k, k < nw → wOK M k) ∧ ∀ w', RM m0 (m41 M) w' → (1 ≤ x ∧ x ≤ 100 → K (some (.int (oI (susF M x nw nh)))) w') ∧ (¬ (1 ≤ x ∧ x ≤ 100) → K (some (.int (-1))) w')
theorem c_msuspect (l : Launch) : Ct l 126 3 0 0 sp_suspect := by
  refine ct_jd (by decide) rfl (fun as w Po h => ?_)
  obtain ⟨m0, M, x, nh, nw, rfl, hM0, ⟨hh, hh2⟩, ⟨hv, hv2⟩, hw, h⟩ := h
  have hM := hM0.si 41 rfl 0
  obtain ⟨h1, h2⟩ := h _ hM
  refine ⟨Nat.le_of_ble_eq_true rfl, jd_for cdo_126 (evL_ok (L := [(85, 1, 0, 0, sp_in), (125, 2, 0, 0, sp_countOf)]) (by simpa using ⟨c_in l, c_countOf l⟩)) 40 80 21 (fun d L S w' nc ns => S = [] ∧ nc = 0 ∧ ns = 0 ∧ w' = sI w 10 41 m0 0 ∧ (1 ≤ x ∧ x ≤ 100) ∧ ∃ i, i + d = nh ∧ L = [(3, .int (nI i)), (2, .int (oI (susF M x nw i))), (0, .ref m0), (1, .int x)]) ⟨Nat.le_refl _, Nat.le_refl _⟩ ?_ ?_ ?_⟩
  · rintro d L S w' nc ns ⟨-, rfl, rfl, -⟩
    exact ⟨Nat.le_refl _, Nat.le_refl _⟩
  · rintro d L S w' nc ns ⟨rfl, rfl, rfl, rfl, hxl, i, hi, rfl⟩
    refine ⟨hM.k, _, (hM.ri _ rfl).trans hh, fun c => ?_, fun c => ?_⟩
    · have hin : i = nh := by have := ge_n (by omega) (by omega) c; omega
      subst hin
      exact h1 hxl
    · have hin := nge_n (by omega) c
      have go : ∀ z : Option Nat, susF M x nw (i + 1) = z → ∀ L' : Ls, L' = [(3, .int (nI (i + 1))), (2, .int (oI z)), (0, .ref m0), (1, .int x)] → ∃ j, j < d ∧ (([] : List Value) = [] ∧ 0 = 0 ∧ 0 = 0 ∧ sI w 10 41 m0 0 = sI w 10 41 m0 0 ∧ (1 ≤ x ∧ x ≤ 100) ∧ ∃ i, i + j = nh ∧ L' = [(3, .int (nI i)), (2, .int (oI (susF M x nw i))), (0, .ref m0), (1, .int x)]) := fun z hz L' hL => ⟨d - 1, by omega, rfl, rfl, rfl, rfl, hxl, i + 1, by omega, by rw [hL, hz]⟩
      refine ⟨⟨by decide, by decide, by decide⟩, rfl, hM.k, m0, _, i, nw, true, rfl, hM, ⟨hv, hv2⟩, hw, fun c2 => ?_, fun c2 => ?_⟩
      · have c2 : ¬ nI (badN M nw i) < x := le_nlt c2
        cases hb : susF M x nw i with
        | none =>
          have hs : susF M x nw (i + 1) = some i := by rw [susF, if_neg c2, hb]
          refine ⟨fun _ => ?_, fun z => absurd rfl z⟩
          exact go _ hs _ (by rw [← nI_1]; rfl)
        | some f =>
          have hfl := susF_lt M x nw i f hb
          refine ⟨fun z => absurd z (nI_m1 (by omega)), fun _ => ?_⟩
          refine ⟨⟨by decide, by decide, by decide⟩, rfl, hM.k, m0, _, i, nw, true, rfl, hM, ⟨hv, hv2⟩, hw, ?_⟩
          refine ⟨⟨by decide, by decide, by decide⟩, rfl, hM.k, m0, _, f, nw, false, rfl, hM, ⟨hv, hv2⟩, hw, ?_⟩
          refine ⟨⟨by decide, by decide, by decide⟩, rfl, hM.k, m0, _, f, nw, true, rfl, hM, ⟨hv, hv2⟩, hw, ?_⟩
          refine ⟨⟨by decide, by decide, by decide⟩, rfl, hM.k, m0, _, i, nw, false, rfl, hM, ⟨hv, hv2⟩, hw, fun c3 => ?_, fun c3 => ?_⟩
          · have c3 : ¬ nI (badN M nw f) * nI (allN M nw i) < nI (badN M nw i) * nI (allN M nw f) := le_nlt c3
            have hs : susF M x nw (i + 1) = some f := by rw [susF, if_neg c2, hb]; exact if_neg c3
            exact go _ hs _ (by rw [← nI_1]; rfl)
          · have c3 : nI (badN M nw f) * nI (allN M nw i) < nI (badN M nw i) * nI (allN M nw f) := nle_lt c3
            have hs : susF M x nw (i + 1) = some i := by rw [susF, if_neg c2, hb]; exact if_pos c3
            exact go _ hs _ (by rw [← nI_1]; rfl)
      · have c2 : nI (badN M nw i) < x := nle_lt c2
        exact go _ (by rw [susF, if_pos c2]) _ (by rw [← nI_1]; rfl)
  · refine ⟨hM0.k, ?_⟩
    refine ⟨⟨by decide, by decide, by decide⟩, rfl, Nat.le_of_ble_eq_true rfl, x, 1, 100, rfl, fun c => br1n ?_, fun c => br0n (h2 c)⟩
    exact ⟨rfl, nh, rfl, rfl, rfl, rfl, c, 0, by omega, rfl⟩
def sp_isAhead : Sp := fun as w K => ∃ a b : Int32, as = [.int a, .int b] ∧ ((¬ (a ^^^ b) = 0 ∧ ¬ (a &&& (a ^^^ b) &&& -(a ^^^ b)) = 0) → K (some (.int 1)) w) ∧ (¬ (¬ (a ^^^ b) = 0 ∧ ¬ (a &&& (a ^^^ b) &&& -(a ^^^ b)) = 0) → K (some (.int 0)) w)
theorem c_isAhead (l : Launch) : Ct l 115 1 0 0 sp_isAhead := by
  refine ct_jd (by decide) rfl (fun as w Po h => ?_)
  obtain ⟨a, b, rfl, h1, h2⟩ := h
  refine ⟨Nat.le_of_ble_eq_true rfl, jd_run cdo_115 ev0 40 ⟨Nat.le_refl _, Nat.le_refl _⟩ ?_⟩
  refine ⟨fun c1 => ⟨Or.inl rfl, h2 (fun z => z.1 c1)⟩, fun c1 => ⟨fun c2 => ⟨Or.inl rfl, h2 (fun z => z.2 c2)⟩, fun c2 => ⟨Or.inr rfl, h1 ⟨c1, c2⟩⟩⟩⟩
/-- three lots that watches can be made of -/
def okMk (M : Ms) (nl : Nat) (mn : Nat → Nat) (x y z : Int32) (a b c : Nat) : Prop := (a < nl ∧ x = nI a ∧ M 10 a = 0) ∧ (b < nl ∧ y = nI b ∧ M 10 b = 0) ∧ (c < nl ∧ z = nI c ∧ M 10 c = 0) ∧ (M 7 a = 0 ∧ M 7 b = 1 ∧ M 7 c = 2) ∧ mn a ≤ 10 ∧ mn b ≤ 10 ∧ mn c ≤ 10
def sp_areLots : Sp := fun as w K => ∃ m0 M x y z nl, ∃ mn : Nat → Nat, as = [.ref m0, .int x, .int y, .int z] ∧ RM m0 M w ∧ (M 16 0 = nI nl ∧ nl ≤ 60) ∧ (∀ j, j < nl → M 9 j = nI (mn j) ∧ mn j ≤ 300) ∧ (∀ a b c, okMk M nl mn x y z a b c → K (some (.int 1)) w) ∧ ((¬ ∃ a b c, okMk M nl mn x y z a b c) → K (some (.int 0)) w)
theorem c_areLots (l : Launch) : Ct l 112 4 0 0 sp_areLots := by
  refine ct_jd (by decide) rfl (fun as w Po h => ?_)
  obtain ⟨m0, M, x, y, z, nl, mn, rfl, hM, ⟨hn, hn2⟩, hm, h1, h2⟩ := h
  refine ⟨Nat.le_of_ble_eq_true rfl, jd_run cdo_112 (evL_ok (L := [(90, 3, 0, 0, sp_isHere)]) (by simpa using c_isHere l)) 80 ⟨Nat.le_refl _, Nat.le_refl _⟩ ?_⟩
  refine ⟨⟨by decide, by decide, by decide⟩, rfl, hM.k, m0, _, x, nl, rfl, hM, ⟨hn, hn2⟩, fun a ha hx hwa => br1 ?_, fun c => br0 ⟨Or.inl rfl, h2 (fun ⟨a, _, _, q⟩ => c ⟨a, q.1⟩)⟩⟩
  refine ⟨⟨by decide, by decide, by decide⟩, rfl, hM.k, m0, _, y, nl, rfl, hM, ⟨hn, hn2⟩, fun b hb hy hwb => br1 ?_, fun c => br0 ⟨Or.inl rfl, h2 (fun ⟨_, b, _, q⟩ => c ⟨b, q.2.1⟩)⟩⟩
  refine ⟨⟨by decide, by decide, by decide⟩, rfl, hM.k, m0, _, z, nl, rfl, hM, ⟨hn, hn2⟩, fun c hc hz hwc => br1n ?_, fun c => br0n ⟨Or.inl rfl, h2 (fun ⟨_, _, c', q⟩ => c ⟨c', q.2.2.1⟩)⟩⟩
  have only : ∀ a' b' c', okMk M nl mn x y z a' b' c' → a' = a ∧ b' = b ∧ c' = c := fun a' b' c' q => ⟨two_eq (by have := q.1.1; omega) (by omega) q.1.2.1 hx, two_eq (by have := q.2.1.1; omega) (by omega) q.2.1.2.1 hy, two_eq (by have := q.2.2.1.1; omega) (by omega) q.2.2.1.2.1 hz⟩
  have no : ¬ okMk M nl mn x y z a b c → ¬ ∃ a b c, okMk M nl mn x y z a b c := fun q ⟨a', b', c', q'⟩ => by
    obtain ⟨rfl, rfl, rfl⟩ := only a' b' c' q'
    exact q q'
  obtain ⟨hma, hma2⟩ := hm a ha
  obtain ⟨hmb, hmb2⟩ := hm b hb
  obtain ⟨hmc, hmc2⟩ := hm c hc
  refine ⟨hM.k, _, hM.rf _ rfl, hM.kd _ rfl, a, _, hM.ix _ rfl hx (show a < 60 by omega), hM.rd _ rfl a, fun c1 => ⟨Or.inl rfl, h2 (no (fun q => c1 q.2.2.2.1.1))⟩, fun c1 => ?_⟩
  refine ⟨hM.k, _, hM.rf _ rfl, hM.kd _ rfl, b, _, hM.ix _ rfl hy (show b < 60 by omega), hM.rd _ rfl b, fun c2 => ⟨Or.inl rfl, h2 (no (fun q => c2 q.2.2.2.1.2.1))⟩, fun c2 => ?_⟩
  refine ⟨hM.k, _, hM.rf _ rfl, hM.kd _ rfl, c, _, hM.ix _ rfl hz (show c < 60 by omega), hM.rd _ rfl c, fun c3 => ⟨Or.inl rfl, h2 (no (fun q => c3 q.2.2.2.1.2.2))⟩, fun c3 => ?_⟩
  refine ⟨hM.k, _, hM.rf _ rfl, hM.kd _ rfl, a, _, hM.ix _ rfl hx (show a < 60 by omega), (hM.rd _ rfl a).trans hma, fun c4 => ⟨Or.inl rfl, h2 (no (fun q => lt_nle c4 (nI_le q.2.2.2.2.1 (by decide))))⟩, fun c4 => ?_⟩
  refine ⟨hM.k, _, hM.rf _ rfl, hM.kd _ rfl, b, _, hM.ix _ rfl hy (show b < 60 by omega), (hM.rd _ rfl b).trans hmb, fun c5 => ⟨Or.inl rfl, h2 (no (fun q => lt_nle c5 (nI_le q.2.2.2.2.2.1 (by decide))))⟩, fun c5 => ?_⟩
  refine ⟨hM.k, _, hM.rf _ rfl, hM.kd _ rfl, c, _, hM.ix _ rfl hz (show c < 60 by omega), (hM.rd _ rfl c).trans hmc, fun c6 => ⟨Or.inl rfl, h2 (no (fun q => lt_nle c6 (nI_le q.2.2.2.2.2.2 (by decide))))⟩, fun c6 => ?_⟩
  exact ⟨Or.inr rfl, h1 a b c ⟨⟨ha, hx, hwa⟩, ⟨hb, hy, hwb⟩, ⟨hc, hz, hwc⟩, ⟨c1, c2, c3⟩, ge_n (a := 10) (by decide) (by omega) (nlt_le c4), ge_n (a := 10) (by decide) (by omega) (nlt_le c5), ge_n (a := 10) (by decide) (by omega) (nlt_le c6)⟩⟩
