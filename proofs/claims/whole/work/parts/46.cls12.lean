/-! THE CLASS: a place of a lot's row, fits -/
/-- the code of the k-th behind c -/
def cNth (C : Cs) : Nat → Nat → Nat
  | 0, c => c
  | _ + 1, 0 => 0
  | k + 1, q + 1 => cNth C k (cL C 5 7 q)
def sp_pieceAt : Sp := fun as w K => ∃ C l x n, as = [.ref (cA C 2 l), .int x] ∧ RX C w ∧ (l < cN C 2 ∧ cI C 2 4 l = nI n ∧ n ≤ 300) ∧ (∀ i, i < n → x = nI i → cNth C i (cL C 2 2 l) ≤ cN C 5 → K (some (va_rf (adO C 5 (cNth C i (cL C 2 2 l))))) w) ∧ ((¬ ∃ i, i < n ∧ x = nI i) → K (some .null) w)
theorem cNth_0 (C : Cs) (k : Nat) : cNth C k 0 = 0 := by cases k <;> rfl
theorem c_pieceAt (l : Launch) : Ct l 37 1 0 0 sp_pieceAt := by
  refine ct_jd (by decide) rfl (fun as w Po h => ?_)
  obtain ⟨C, lo, x, n, rfl, hX, ⟨hl, h4, hn⟩, h1, h2⟩ := h
  refine ⟨Nat.le_of_ble_eq_true rfl, ?_⟩
  have key : ∀ m, m < n → x = nI m → ∀ d i c (vc : Value), i + d = m → vc = va_rf (adO C 5 c) → c ≤ cN C 5 → cNth C d c = cNth C m (cL C 2 2 lo) → Jd l 37 1 0 0 (some (.object "WatchValley$Piece")) Po 21 [(3, .int (nI i)), (2, vc), (0, .ref (cA C 2 lo)), (1, .int x)] [] w 0 0 := by
    intro m hm ex d
    induction d with
    | zero =>
      intro i c vc hi hv hc hw
      subst hv
      have hk := h1 m hm ex
      rw [← hw] at hk
      have e : x = nI i := by rw [ex, ← hi]; rfl
      cases c with
      | zero => exact jd_s cdo_37 ev0 [] 20 z00 ⟨fun _ => ⟨none, rfl, hk (Nat.zero_le _)⟩, fun _ => ⟨none, rfl, hk (Nat.zero_le _)⟩⟩
      | succ q => exact jd_s cdo_37 ev0 [] 20 z00 ⟨fun _ => ⟨some _, rfl, hk hc⟩, fun z => absurd (by rw [e]; exact nI_le (Nat.le_refl i) (by omega)) z⟩
    | succ d ih =>
      intro i c vc hi hv hc hw
      subst hv
      have hk := h1 m hm ex
      cases c with
      | zero =>
        rw [← hw, cNth_0] at hk
        exact jd_s cdo_37 ev0 [] 20 z00 ⟨fun _ => ⟨none, rfl, hk (Nat.zero_le _)⟩, fun _ => ⟨none, rfl, hk (Nat.zero_le _)⟩⟩
      | succ q =>
        rw [cNth] at hw
        have hq : q < cN C 5 := hc
        have hlb : cL C 5 7 q ≤ cN C 5 := hX.lb 5 7 q (by decide) hq rfl
        have hgr := hX.gr 5 7 q (by decide) hq rfl
        have := ih (i + 1) (cL C 5 7 q) _ (by omega) rfl hlb hw
        rw [← nI_1] at this
        refine jd_s cdo_37 ev0 [21] 20 z00 ⟨fun z => ?_, fun _ => ?_⟩
        · rw [ex] at z
          have := ge_n (a := i) (b := m) (by omega) (by omega) z
          omega
        · revert this hgr
          generalize cL C 5 7 q = c'
          intro hgr this
          cases c' with
          | zero => exact ⟨hX.k 5 q hq, _, hgr, jd_pk [0, 1, 2, 3] this⟩
          | succ q' => exact ⟨hX.k 5 q hq, _, hgr, jd_pk [0, 1, 2, 3] this⟩
  have hlb : cL C 2 2 lo ≤ cN C 5 := hX.lb 2 2 lo (by decide) hl rfl
  have hgr := hX.gr 2 2 lo (by decide) hl rfl
  refine jd_s cdo_37 ev0 [21] 30 z00 ⟨fun c => ⟨none, rfl, h2 (fun ⟨i, hi, e⟩ => nI_pos (show i < 2147483648 by omega) (by rw [← e]; exact c))⟩, fun c => ?_⟩
  obtain ⟨m, hm, rfl⟩ := nlt0 c
  refine ⟨hX.k 2 lo hl, _, (hX.gi 2 4 lo (by decide) hl rfl).trans h4, fun c2 => ?_, fun c2 => ⟨none, rfl, h2 (fun ⟨i, hi, e⟩ => c2 ((nI_ltI hm (by omega)).mpr (by rw [(nI_eq hm (by omega)).mp e]; exact hi)))⟩⟩
  have hmn : m < n := (nI_ltI hm (by omega)).mp c2
  have := key m hmn rfl m 0 (cL C 2 2 lo) _ (by omega) rfl hlb rfl
  revert this hgr
  generalize cL C 2 2 lo = c'
  intro hgr this
  cases c' with
  | zero => exact ⟨hX.k 2 lo hl, _, hgr, this⟩
  | succ q' => exact ⟨hX.k 2 lo hl, _, hgr, this⟩
def atC (C : Cs) (c : Nat) : Int32 := match c with
  | 0 => -1
  | p + 1 => cI C 5 0 p
def sp_cat : Sp := fun as w K => ∃ C x y n, ∃ mn : Nat → Nat, as = [.ref (cA C 9 0), .int x, .int y] ∧ RX C w ∧ FX C ∧ NB C 24 2 8 60 n ∧ (∀ j, j < n → cI C 2 4 j = nI (mn j) ∧ mn j ≤ 300) ∧ (∀ j i, j < n → i < mn j → x = nI j → y = nI i → K (some (.int (atC C (cNth C i (cL C 2 2 j))))) w) ∧ ((¬ ∃ j i, j < n ∧ i < mn j ∧ x = nI j ∧ y = nI i) → K (some (.int (-1))) w)
theorem c_at (l : Launch) : Ct l 36 2 0 0 sp_cat := by
  have hev : ∀ (k : Nat) (r : Nat × Nat × Nat × Sp), evL [(14, 1, 0, 0, sp_nb 24 2 8 60), (37, 1, 0, 0, sp_pieceAt)] k = some r → Ct l k r.1 r.2.1 r.2.2.1 r.2.2.2 := evL_ok (by simpa using ⟨c_lotN l, c_pieceAt l⟩)
  refine ct_jd (by decide) rfl (fun as w Po h => ?_)
  obtain ⟨C, x, y, n, mn, rfl, hX, hF, hN, hmn, h1, h2⟩ := h
  have hn60 := hN.2.1
  refine ⟨Nat.le_of_ble_eq_true rfl, jd_run cdo_36 hev 40 z00 ?_⟩
  refine ⟨⟨by decide, by decide, by decide⟩, rfl, hX.k 9 0 hF.x, C, x, n, rfl, hX, hF, hN, fun j hj ex => ?_, fun q => h2 (fun ⟨j, _, hj, _, e, _⟩ => q ⟨j, hj, e⟩)⟩
  have hj2 : j < cN C 2 := by rw [hN.2.2.1]; exact hj
  refine ⟨⟨by decide, by decide, by decide⟩, rfl, hX.k 2 j hj2, C, j, y, mn j, rfl, hX, ⟨hj2, hmn j hj⟩, fun i hi ey hb => ?_, fun q => h2 (fun ⟨j', i, hj', hi, e, ey⟩ => q ⟨i, by rw [two_eq (a := j) (b := j') (by omega) (by omega) ex e]; exact hi, ey⟩)⟩
  have h1 := h1 j i hj hi ex ey
  revert h1 hb
  generalize cNth C i (cL C 2 2 j) = c
  intro hb h1
  cases c with
  | zero => exact h1
  | succ p => exact ⟨hX.k 5 p hb, _, hX.gi 5 0 p (by decide) hb rfl, h1⟩
def cFit (C : Cs) (j : Nat) (a b : Int32) : Cs := wI (wI C 0 0 j a) 0 1 j b
def sp_cfit : Sp := fun as w K => ∃ C x a b, as = [.ref (cA C 9 0), .int x, .int a, .int b] ∧ RX C w ∧ FX C ∧ (∀ j, j < 2 → x = nI j → a ≤ b → ∀ w', RX (cFit C j a b) w' → K (some (.int 1)) w') ∧ ((¬ ((∃ j, j < 2 ∧ x = nI j) ∧ a ≤ b)) → K (some (.int 0)) w)
theorem c_fit (l : Launch) : Ct l 41 1 0 0 sp_cfit := by
  refine ct_jd (by decide) rfl (fun as w Po h => ?_)
  obtain ⟨C, x, a, b, rfl, hX, hF, h1, h2⟩ := h
  have n0 : 0 < cN C 0 := by rw [hF.1.2.1]; decide
  have n1 : 1 < cN C 0 := by rw [hF.1.2.1]; decide
  refine ⟨Nat.le_of_ble_eq_true rfl, jd_run cdo_41 ev0 40 z00 ?_⟩
  refine ⟨fun c => ⟨Or.inl rfl, h2 (fun ⟨⟨j, hj, e⟩, _⟩ => nI_pos (show j < 2147483648 by omega) (by rw [← e]; exact c))⟩, fun c => ?_⟩
  obtain ⟨j, hj, rfl⟩ := nlt0 c
  refine ⟨fun c2 => ⟨Or.inl rfl, h2 (fun ⟨⟨i, hi, e⟩, _⟩ => lt_nle c2 (by rw [e]; exact nI_le (b := 1) (by omega) (by decide)))⟩, fun c2 => ?_⟩
  have hj2 : j ≤ 1 := ge_n (a := 1) (by decide) hj (nlt_le c2)
  refine ⟨fun c3 => ?_, fun c3 => ⟨Or.inl rfl, h2 (fun z => c3 z.2)⟩⟩
  rcases (show j = 0 ∨ j = 1 by omega) with rfl | rfl
  · refine ⟨fun z => absurd rfl z, fun _ => ⟨hX.k 9 0 hF.x, _, hX.g1 9 4 0 (by decide) hF.x rfl hF.l4, hX.k 0 0 n0, ?_⟩⟩
    have hX := hX.wi 0 0 0 n0 a
    refine ⟨hX.k 0 0 n0, Or.inr rfl, ?_⟩
    exact h1 0 (by decide) rfl c3 _ (hX.wi 0 1 0 n0 b)
  · refine ⟨fun _ => ⟨hX.k 9 0 hF.x, _, hX.g1 9 5 0 (by decide) hF.x rfl hF.l5, hX.k 0 1 n1, ?_⟩, fun z => absurd z (by decide)⟩
    have hX := hX.wi 0 0 1 n1 a
    refine ⟨hX.k 0 1 n1, Or.inr rfl, ?_⟩
    exact h1 1 (by decide) rfl c3 _ (hX.wi 0 1 1 n1 b)
/-- by how much the mate is more, or less, than the wheel -/
def mor (C : Cs) (wh mt : Nat) : Int32 := if cI C 5 1 mt = 0 then cI C 5 3 mt - cI C 5 3 wh else cI C 5 3 wh - cI C 5 3 mt
def alw (C : Cs) (f wh mt : Nat) : Prop := cI C 0 0 f ≤ mor C wh mt ∧ mor C wh mt ≤ cI C 0 1 f
def sp_allows : Sp := fun as w K => ∃ C f wh mt, as = [.ref (cA C 0 f), .ref (cA C 5 wh), .ref (cA C 5 mt)] ∧ RX C w ∧ (f < cN C 0 ∧ wh < cN C 5 ∧ mt < cN C 5) ∧ (alw C f wh mt → K (some (.int 1)) w) ∧ (¬ alw C f wh mt → K (some (.int 0)) w)
theorem c_allows (l : Launch) : Ct l 44 1 0 0 sp_allows := by
  refine ct_jd (by decide) rfl (fun as w Po h => ?_)
  obtain ⟨C, f, wh, mt, rfl, hX, ⟨hf, hw, hm⟩, h1, h2⟩ := h
  have tail : ∀ v, v = mor C wh mt → Jd l 44 1 0 0 (some .boolean) Po 28 [(0, .ref (cA C 0 f)), (1, .ref (cA C 5 wh)), (2, .ref (cA C 5 mt))] [.int v] w 0 0 := by
    rintro v rfl
    refine jd_s cdo_44 ev0 [] 30 z00 ⟨hX.k 0 f hf, _, hX.gi 0 0 f (by decide) hf rfl, fun c => ⟨Or.inl rfl, h2 (fun z => lt_nle c z.1)⟩, fun c1 => ⟨hX.k 0 f hf, _, hX.gi 0 1 f (by decide) hf rfl, fun c => ⟨Or.inl rfl, h2 (fun z => lt_nle c z.2)⟩, fun c2 => ⟨Or.inr rfl, h1 ⟨nlt_le c1, nlt_le c2⟩⟩⟩⟩
  refine ⟨Nat.le_of_ble_eq_true rfl, jd_s cdo_44 ev0 [28] 30 z00 ⟨hX.k 5 mt hm, _, hX.gi 5 1 mt (by decide) hm rfl, fun c => ?_, fun c => ?_⟩⟩
  · exact ⟨hX.k 5 wh hw, _, hX.gi 5 3 wh (by decide) hw rfl, hX.k 5 mt hm, _, hX.gi 5 3 mt (by decide) hm rfl, tail _ (by rw [mor, if_neg c])⟩
  · exact ⟨hX.k 5 mt hm, _, hX.gi 5 3 mt (by decide) hm rfl, hX.k 5 wh hw, _, hX.gi 5 3 wh (by decide) hw rfl, tail _ (by rw [mor, if_pos c])⟩
def sp_cfits : Sp := fun as w K => ∃ C x y n, as = [.ref (cA C 9 0), .int x, .int y] ∧ RX C w ∧ FX C ∧ NB C 23 5 7 300 n ∧
  (∀ p q, p < n → q < n → x = nI p → y = nI q → (cI C 5 1 p = 0 → cI C 5 1 q = 1 → (alw C 0 q p → K (some (.int 1)) w) ∧ (¬ alw C 0 q p → K (some (.int 0)) w)) ∧ (cI C 5 1 p = 1 → cI C 5 1 q = 2 → (alw C 1 p q → K (some (.int 1)) w) ∧ (¬ alw C 1 p q → K (some (.int 0)) w)) ∧ (¬ (cI C 5 1 p = 0 ∧ cI C 5 1 q = 1) → ¬ (cI C 5 1 p = 1 ∧ cI C 5 1 q = 2) → K (some (.int (-1))) w)) ∧ ((¬ ∃ p q, p < n ∧ q < n ∧ x = nI p ∧ y = nI q) → K (some (.int (-1))) w)
theorem c_fits (l : Launch) : Ct l 42 2 0 0 sp_cfits := by
  have hev : ∀ (k : Nat) (r : Nat × Nat × Nat × Sp), evL [(43, 1, 0, 0, sp_nb 23 5 7 300), (44, 1, 0, 0, sp_allows)] k = some r → Ct l k r.1 r.2.1 r.2.2.1 r.2.2.2 := evL_ok (by simpa using ⟨c_pieceN l, c_allows l⟩)
  refine ct_jd (by decide) rfl (fun as w Po h => ?_)
  obtain ⟨C, x, y, n, rfl, hX, hF, hN, h1, h2⟩ := h
  have n0 : 0 < cN C 0 := by rw [hF.1.2.1]; decide
  have n1 : 1 < cN C 0 := by rw [hF.1.2.1]; decide
  refine ⟨Nat.le_of_ble_eq_true rfl, jd_s cdo_42 hev [59] 60 z00 ?_⟩
  refine ⟨⟨by decide, by decide, by decide⟩, rfl, hX.k 9 0 hF.x, C, x, n, rfl, hX, hF, hN, fun p hp ex => ?_, fun q => ?_⟩
  · have hp5 : p < cN C 5 := by rw [hN.2.2.1]; exact hp
    refine ⟨⟨by decide, by decide, by decide⟩, rfl, hX.k 9 0 hF.x, C, y, n, rfl, hX, hF, hN, fun q hq ey => ?_, fun z => h2 (fun ⟨_, q, _, hq, _, ey⟩ => z ⟨q, hq, ey⟩)⟩
    have hq5 : q < cN C 5 := by rw [hN.2.2.1]; exact hq
    obtain ⟨a1, a2, a3⟩ := h1 p q hp hq ex ey
    have sec : ¬ (cI C 5 1 p = 0 ∧ cI C 5 1 q = 1) → Jd l 42 2 0 0 (some .int) Po 59 [(4, .ref (cA C 5 q)), (3, .ref (cA C 5 p)), (0, .ref (cA C 9 0)), (1, .int x), (2, .int y)] [] w 0 0 := by
      intro hno
      refine jd_s cdo_42 hev [] 60 z00 ⟨hX.k 5 p hp5, _, hX.gi 5 1 p (by decide) hp5 rfl, fun c => a3 hno (fun z => c z.1), fun c1 => ?_⟩
      refine ⟨hX.k 5 q hq5, _, hX.gi 5 1 q (by decide) hq5 rfl, fun c => a3 hno (fun z => c z.2), fun c2 => ?_⟩
      refine ⟨hX.k 9 0 hF.x, _, hX.g1 9 5 0 (by decide) hF.x rfl hF.l5, ?_⟩
      exact ⟨⟨by decide, by decide, by decide⟩, rfl, hX.k 0 1 n1, C, 1, p, q, rfl, hX, ⟨n1, hp5, hq5⟩, fun c => br1 ((a2 c1 c2).1 c), fun c => br0 ((a2 c1 c2).2 c)⟩
    refine ⟨hX.k 5 p hp5, _, hX.gi 5 1 p (by decide) hp5 rfl, fun c => sec (fun z => c z.1), fun c1 => ?_⟩
    refine ⟨hX.k 5 q hq5, _, hX.gi 5 1 q (by decide) hq5 rfl, fun c => sec (fun z => c z.2), fun c2 => ?_⟩
    refine ⟨hX.k 9 0 hF.x, _, hX.g1 9 4 0 (by decide) hF.x rfl hF.l4, ?_⟩
    exact ⟨⟨by decide, by decide, by decide⟩, rfl, hX.k 0 0 n0, C, 0, q, p, rfl, hX, ⟨n0, hq5, hp5⟩, fun c => br1 ((a1 c1 c2).1 c), fun c => br0 ((a1 c1 c2).2 c)⟩
  · have no : Po (some (.int (-1))) w := h2 (fun ⟨p, _, hp, _, e, _⟩ => q ⟨p, hp, e⟩)
    exact ⟨⟨by decide, by decide, by decide⟩, rfl, hX.k 9 0 hF.x, C, y, n, rfl, hX, hF, hN, fun b hb ey => no, fun q => no⟩
