/-! THE CLASS: suspect, recall, wages -/
def badC (C : Cs) (nw k : Nat) : Nat := cn (cofC C (nI k) true) nw
def allC (C : Cs) (nw k : Nat) : Nat := cn (cofC C (nI k) false) nw
def sBd (C : Cs) (nw : Nat) (o : Option Nat) : Int32 := match o with
  | none => 0
  | some f => nI (badC C nw f)
def sAl (C : Cs) (nw : Nat) (o : Option Nat) : Int32 := match o with
  | none => 1
  | some f => nI (allC C nw f)
def susC (C : Cs) (m : Int32) (nw : Nat) : Nat → Option Nat
  | 0 => none
  | k + 1 => if nI (badC C nw k) < m ∨ nI (badC C nw k) * sAl C nw (susC C m nw k) ≤ sBd C nw (susC C m nw k) * nI (allC C nw k) then susC C m nw k else some k
def sp_csuspect : Sp := fun as w K => ∃ C x nh nw, as = [.ref (cA C 9 0), .int x] ∧ RX C w ∧ FX C ∧ NB C 25 1 9 9 nh ∧ NB C 26 8 10 100 nw ∧ WK C nw ∧ (1 ≤ x ∧ x ≤ 100 → K (some (.int (oI (susC C x nw nh)))) w) ∧ (¬ (1 ≤ x ∧ x ≤ 100) → K (some (.int (-1))) w)
theorem c_suspect (l : Launch) : Ct l 75 4 0 0 sp_csuspect := by
  have hev : ∀ (k : Nat) (r : Nat × Nat × Nat × Sp), evL [(73, 3, 0, 0, sp_wOf)] k = some r → Ct l k r.1 r.2.1 r.2.2.1 r.2.2.2 := evL_ok (by simpa using c_wOf l)
  refine ct_jd (by decide) rfl (fun as w Po h => ?_)
  obtain ⟨C, x, nh, nw, rfl, hX, hF, hN, hNw, hW, h1, h2⟩ := h
  have hn := hN.2.1
  refine ⟨Nat.le_of_ble_eq_true rfl, ?_⟩
  have key : 1 ≤ x ∧ x ≤ 100 → ∀ d i, i + d = nh → Jd l 75 4 0 0 (some .int) Po 23 [(5, .int (nI i)), (4, .int (sAl C nw (susC C x nw i))), (3, .int (sBd C nw (susC C x nw i))), (2, .int (oI (susC C x nw i))), (0, .ref (cA C 9 0)), (1, .int x)] [] w 0 0 := by
    intro hx d
    induction d with
    | zero =>
      intro i hi
      have e : i = nh := by omega
      rw [e]
      exact jd_s cdo_75 hev [] 20 z00 ⟨hX.k 9 0 hF.x, _, (hX.gi 9 9 0 (by decide) hF.x rfl).trans hN.1, fun _ => h1 hx, fun c => absurd (nI_le (Nat.le_refl nh) (by omega)) c⟩
    | succ d ih =>
      intro i hi
      have ih1 := ih (i + 1) (by omega)
      rw [susC] at ih1
      refine jd_s cdo_75 hev [23] 40 z00 ⟨hX.k 9 0 hF.x, _, (hX.gi 9 9 0 (by decide) hF.x rfl).trans hN.1, fun c => ?_, fun _ => ?_⟩
      · have := ge_n (a := i) (b := nh) (by omega) (by omega) c
        omega
      refine ⟨⟨by decide, by decide, by decide⟩, rfl, hX.k 9 0 hF.x, C, nI i, nw, true, rfl, hX, hF, hNw, hW, ?_⟩
      refine ⟨⟨by decide, by decide, by decide⟩, rfl, hX.k 9 0 hF.x, C, nI i, nw, false, rfl, hX, hF, hNw, hW, fun c => ?_, fun c => ⟨fun c2 => ?_, fun c2 => ?_⟩⟩
      · have c : nI (badC C nw i) < x := c
        rw [if_pos (Or.inl c), ← nI_1] at ih1
        exact jd_pk [0, 3, 4, 5, 6, 7] ih1
      · have c2 : nI (badC C nw i) * sAl C nw (susC C x nw i) ≤ sBd C nw (susC C x nw i) * nI (allC C nw i) := c2
        rw [if_pos (Or.inr c2), ← nI_1] at ih1
        exact jd_pk [0, 3, 4, 5, 6, 7] ih1
      · have c : ¬ nI (badC C nw i) < x := c
        have c2 : ¬ nI (badC C nw i) * sAl C nw (susC C x nw i) ≤ sBd C nw (susC C x nw i) * nI (allC C nw i) := c2
        rw [if_neg (fun z => z.elim c c2), ← nI_1] at ih1
        exact jd_pk [0, 1, 2, 3, 6, 7] ih1
  refine jd_s cdo_75 hev [23] 30 z00 ⟨fun c => h2 (fun q => lt_nle c q.1), fun c1 => ⟨fun c2 => ?_, fun c => h2 (fun q => c q.2)⟩⟩
  exact key ⟨nlt_le c1, c2⟩ nh 0 (by omega)
def hrC (C : Cs) (x : Int32) (k : Nat) : Prop := cI C 5 2 (wPc C 0 k) = x ∨ cI C 5 2 (wPc C 1 k) = x ∨ cI C 5 2 (wPc C 2 k) = x
def sp_hasRaw : Sp := fun as w K => ∃ C k nw x, as = [.ref (cA C 8 k), .int x] ∧ RX C w ∧ (k < nw ∧ cN C 8 = nw ∧ WK C nw) ∧ (hrC C x k → K (some (.int 1)) w) ∧ (¬ hrC C x k → K (some (.int 0)) w)
theorem c_hasRaw (l : Launch) : Ct l 77 1 0 0 sp_hasRaw := by
  refine ct_jd (by decide) rfl (fun as w Po h => ?_)
  obtain ⟨C, k, nw, x, rfl, hX, ⟨hk, hc, hW⟩, h1, h2⟩ := h
  have hk8 : k < cN C 8 := by rw [hc]; exact hk
  have p0 : wPc C 0 k < cN C 5 := hX.l1 8 0 k (by decide) hk8 rfl (hW.e hk (by decide))
  have p1 : wPc C 1 k < cN C 5 := hX.l1 8 1 k (by decide) hk8 rfl (hW.e hk (by decide))
  have p2 : wPc C 2 k < cN C 5 := hX.l1 8 2 k (by decide) hk8 rfl (hW.e hk (by decide))
  refine ⟨Nat.le_of_ble_eq_true rfl, jd_run cdo_77 ev0 40 z00 ?_⟩
  refine ⟨hX.k 8 k hk8, _, hX.g1 8 0 k (by decide) hk8 rfl (hW.e hk (by decide)), hX.k 5 _ p0, _, hX.gi 5 2 _ (by decide) p0 rfl, fun c => ⟨Or.inr rfl, h1 (Or.inl c)⟩, fun c0 => ?_⟩
  refine ⟨hX.k 8 k hk8, _, hX.g1 8 1 k (by decide) hk8 rfl (hW.e hk (by decide)), hX.k 5 _ p1, _, hX.gi 5 2 _ (by decide) p1 rfl, fun c => ⟨Or.inr rfl, h1 (Or.inr (Or.inl c))⟩, fun c1 => ?_⟩
  exact ⟨hX.k 8 k hk8, _, hX.g1 8 2 k (by decide) hk8 rfl (hW.e hk (by decide)), hX.k 5 _ p2, _, hX.gi 5 2 _ (by decide) p2 rfl, fun c => ⟨Or.inl rfl, h2 (fun z => z.elim c0 (fun z => z.elim c1 c))⟩, fun c => ⟨Or.inr rfl, h1 (Or.inr (Or.inr c))⟩⟩
def rcC (C : Cs) (x : Int32) : Nat → Bool := fun k => decide (cI C 5 2 (wPc C 0 k) = x ∨ cI C 5 2 (wPc C 1 k) = x ∨ cI C 5 2 (wPc C 2 k) = x)
def sp_crecall : Sp := fun as w K => ∃ C x nl nw, as = [.ref (cA C 9 0), .int x] ∧ RX C w ∧ FX C ∧ NB C 24 2 8 60 nl ∧ NB C 26 8 10 100 nw ∧ WK C nw ∧ ((∃ j, j < nl ∧ x = nI j) → K (some (.int (nI (cn (rcC C x) nw)))) w) ∧ ((¬ ∃ j, j < nl ∧ x = nI j) → K (some (.int (-1))) w)
theorem c_recall (l : Launch) : Ct l 76 2 0 0 sp_crecall := by
  have hev : ∀ (k : Nat) (r : Nat × Nat × Nat × Sp), evL [(14, 1, 0, 0, sp_nb 24 2 8 60), (33, 1, 0, 0, sp_nb 26 8 10 100), (77, 1, 0, 0, sp_hasRaw)] k = some r → Ct l k r.1 r.2.1 r.2.2.1 r.2.2.2 := evL_ok (by simpa using ⟨c_lotN l, c_watchN l, c_hasRaw l⟩)
  refine ct_jd (by decide) rfl (fun as w Po h => ?_)
  obtain ⟨C, x, nl, n, rfl, hX, hF, hNl, hN, hW, h1, h2⟩ := h
  have hn := hN.2.1
  refine ⟨Nat.le_of_ble_eq_true rfl, ?_⟩
  have key : (∃ j, j < nl ∧ x = nI j) → ∀ d i, i + d = n → Jd l 76 2 0 0 (some .int) Po 14 [(3, .int (nI i)), (2, .int (nI (cn (rcC C x) i))), (0, .ref (cA C 9 0)), (1, .int x)] [] w 0 0 := by
    intro hj d
    induction d with
    | zero =>
      intro i hi
      have e : i = n := by omega
      rw [e]
      exact jd_s cdo_76 hev [] 20 z00 ⟨hX.k 9 0 hF.x, _, (hX.gi 9 10 0 (by decide) hF.x rfl).trans hN.1, fun _ => h1 hj, fun c => absurd (nI_le (Nat.le_refl n) (by omega)) c⟩
    | succ d ih =>
      intro i hi
      refine jd_s cdo_76 hev [14] 40 z00 ⟨hX.k 9 0 hF.x, _, (hX.gi 9 10 0 (by decide) hF.x rfl).trans hN.1, fun c => ?_, fun _ => ?_⟩
      · have := ge_n (a := i) (b := n) (by omega) (by omega) c
        omega
      refine ⟨⟨by decide, by decide, by decide⟩, rfl, hX.k 9 0 hF.x, C, nI i, n, rfl, hX, hF, hN, fun j hj ej => ?_, fun q => absurd ⟨i, by omega, rfl⟩ q⟩
      obtain rfl : i = j := (nI_eq (by omega) (by omega)).mp ej
      have hi1 : i < cN C 8 := by rw [hN.2.2.1]; exact hj
      have := ih (i + 1) (by omega)
      refine ⟨⟨by decide, by decide, by decide⟩, rfl, hX.k 8 i hi1, C, i, n, x, rfl, hX, ⟨hj, hN.2.2.1, hW⟩, fun c => br1 ?_, fun c => br0 ?_⟩
      · rw [cn_y (show rcC C x i = true by unfold rcC; rw [decide_eq_true_eq]; exact c), ← nI_1, ← nI_1] at this
        exact jd_pk [0, 1, 3, 4] this
      · rw [cn_n (show ¬ rcC C x i = true by unfold rcC; rw [decide_eq_true_eq]; exact c), ← nI_1] at this
        exact jd_pk [0, 2, 3, 4] this
  refine jd_s cdo_76 hev [14] 30 z00 ⟨⟨by decide, by decide, by decide⟩, rfl, hX.k 9 0 hF.x, C, x, nl, rfl, hX, hF, hNl, fun j hj ex => ?_, fun q => h2 q⟩
  exact key ⟨j, hj, ex⟩ n 0 (by omega)
/-- a row of links from the code c on -/
def chL (nx : Nat → Nat) : Nat → List Nat → Prop
  | c, [] => c = 0
  | c, p :: t => c = p + 1 ∧ chL nx (nx p) t
/-- the wage that is better: the one told later wins among equal days, so a later of the chain must be more -/
def wgB (C : Cs) (o : Option Nat) (g : Nat) : Prop := match o with
  | none => True
  | some b => cI C 7 1 b < cI C 7 1 g
def wgC (C : Cs) (d kn : Int32) : List Nat → Option Nat → Option Nat
  | [], o => o
  | g :: t, none => wgC C d kn t (if cI C 7 0 g ≤ kn ∧ cI C 7 1 g ≤ d then some g else none)
  | g :: t, some b => wgC C d kn t (if cI C 7 0 g ≤ kn ∧ cI C 7 1 g ≤ d ∧ cI C 7 1 b < cI C 7 1 g then some g else some b)
def wgA (C : Cs) (o : Option Nat) : Int32 := match o with
  | none => 0
  | some b => cI C 7 2 b
def sp_cwageFor : Sp := fun as w K => ∃ C h d kn, ∃ G : List Nat, as = [.ref (cA C 1 h), .int d, .int kn] ∧ RX C w ∧ (h < cN C 1 ∧ chL (cL C 7 3) (cL C 1 11 h) G) ∧ K (some (.int (wgA C (wgC C d kn G none)))) w
def oRf (C : Cs) (t : Nat) (o : Option Nat) : Value := match o with
  | none => .null
  | some b => .ref (cA C t b)
theorem c_cwageFor (l : Launch) : Ct l 81 1 0 0 sp_cwageFor := by
  refine ct_jd (by decide) rfl (fun as w Po h => ?_)
  obtain ⟨C, ho, dd, kn, G, rfl, hX, ⟨hh, hG⟩, h⟩ := h
  refine ⟨Nat.le_of_ble_eq_true rfl, ?_⟩
  have key : ∀ (T : List Nat) (c : Nat) (o : Option Nat) (vc vo : Value), vc = va_rf (adO C 7 c) → vo = oRf C 7 o → c ≤ cN C 7 → chL (cL C 7 3) c T → (∀ b, o = some b → b < cN C 7) → wgC C dd kn T o = wgC C dd kn G none → Jd l 81 1 0 0 (some .int) Po 8 [(4, vc), (3, vo), (0, .ref (cA C 1 ho)), (1, .int dd), (2, .int kn)] [] w 0 0 := by
    intro T
    induction T with
    | nil =>
      intro c o vc vo evc evo hc hT hob hw
      obtain rfl : c = 0 := hT
      subst evc
      rw [← hw] at h
      cases o with
      | none =>
        subst evo
        exact jd_s cdo_81 ev0 [] 30 z00 h
      | some b =>
        subst evo
        have hb := hob b rfl
        exact jd_s cdo_81 ev0 [] 30 z00 ⟨hX.k 7 b hb, _, hX.gi 7 2 b (by decide) hb rfl, h⟩
    | cons g t ih =>
      intro c o vc vo evc evo hc hT hob hw
      obtain ⟨rfl, hT⟩ := hT
      subst evc
      have hg : g < cN C 7 := hc
      have hlb : cL C 7 3 g ≤ cN C 7 := hX.lb 7 3 g (by decide) hg rfl
      have nxt : ∀ (o' : Option Nat) (vo' : Value), vo' = oRf C 7 o' → (∀ b, o' = some b → b < cN C 7) → wgC C dd kn t o' = wgC C dd kn G none → Jd l 81 1 0 0 (some .int) Po 50 [(4, .ref (cA C 7 g)), (3, vo'), (0, .ref (cA C 1 ho)), (1, .int dd), (2, .int kn)] [] w 0 0 := by
        intro o' vo' evo' ho' hw'
        have hgr := hX.gr 7 3 g (by decide) hg rfl
        have := ih (cL C 7 3 g) o' (va_rf (adO C 7 (cL C 7 3 g))) vo' rfl evo' hlb hT ho' hw'
        revert this hgr
        generalize cL C 7 3 g = c'
        intro hgr this
        subst evo'
        cases c' with
        | zero =>
          cases o' with
          | none => exact jd_s cdo_81 ev0 [8] 30 z00 ⟨hX.k 7 g hg, _, hgr, this⟩
          | some b => exact jd_s cdo_81 ev0 [8] 30 z00 ⟨hX.k 7 g hg, _, hgr, this⟩
        | succ q =>
          cases o' with
          | none => exact jd_s cdo_81 ev0 [8] 30 z00 ⟨hX.k 7 g hg, _, hgr, this⟩
          | some b => exact jd_s cdo_81 ev0 [8] 30 z00 ⟨hX.k 7 g hg, _, hgr, this⟩
      cases o with
      | none =>
        subst evo
        rw [wgC] at hw
        refine jd_s cdo_81 ev0 [50] 30 z00 ⟨hX.k 7 g hg, _, hX.gi 7 0 g (by decide) hg rfl, fun c => ?_, fun c1 => ⟨hX.k 7 g hg, _, hX.gi 7 1 g (by decide) hg rfl, fun c => ?_, fun c2 => ?_⟩⟩
        · rw [if_neg (fun z => lt_nle c z.1)] at hw
          exact nxt none .null rfl (fun b e => by cases e) hw
        · rw [if_neg (fun z => lt_nle c z.2)] at hw
          exact nxt none .null rfl (fun b e => by cases e) hw
        · rw [if_pos ⟨nlt_le c1, nlt_le c2⟩] at hw
          exact jd_pk [1, 0, 2, 3, 4] (nxt (some g) (.ref (cA C 7 g)) rfl (fun b e => by cases e; exact hg) hw)
      | some b =>
        subst evo
        have hb := hob b rfl
        rw [wgC] at hw
        refine jd_s cdo_81 ev0 [50] 30 z00 ⟨hX.k 7 g hg, _, hX.gi 7 0 g (by decide) hg rfl, fun c => ?_, fun c1 => ⟨hX.k 7 g hg, _, hX.gi 7 1 g (by decide) hg rfl, fun c => ?_, fun c2 => ⟨hX.k 7 g hg, _, hX.gi 7 1 g (by decide) hg rfl, hX.k 7 b hb, _, hX.gi 7 1 b (by decide) hb rfl, fun c => ?_, fun c3 => ?_⟩⟩⟩
        · rw [if_neg (fun z => lt_nle c z.1)] at hw
          exact nxt (some b) (.ref (cA C 7 b)) rfl (fun b' e => by cases e; exact hb) hw
        · rw [if_neg (fun z => lt_nle c z.2.1)] at hw
          exact nxt (some b) (.ref (cA C 7 b)) rfl (fun b' e => by cases e; exact hb) hw
        · rw [if_neg (fun z => lt_nle z.2.2 c)] at hw
          exact nxt (some b) (.ref (cA C 7 b)) rfl (fun b' e => by cases e; exact hb) hw
        · rw [if_pos ⟨nlt_le c1, nlt_le c2, nle_lt c3⟩] at hw
          exact jd_pk [1, 0, 2, 3, 4] (nxt (some g) (.ref (cA C 7 g)) rfl (fun b e => by cases e; exact hg) hw)
  have hlb : cL C 1 11 ho ≤ cN C 7 := hX.lb 1 11 ho (by decide) hh rfl
  have hgr := hX.gr 1 11 ho (by decide) hh rfl
  have := key G (cL C 1 11 ho) none _ _ rfl rfl hlb hG (fun b e => by cases e) rfl
  revert this hgr
  generalize cL C 1 11 ho = c'
  intro hgr this
  cases c' with
  | zero => exact jd_s cdo_81 ev0 [8] 30 z00 ⟨hX.k 1 ho hh, _, hgr, this⟩
  | succ q => exact jd_s cdo_81 ev0 [8] 30 z00 ⟨hX.k 1 ho hh, _, hgr, this⟩
def dueC (C : Cs) (h : Nat) (kn : Int32) (G : List Nat) : List Nat → Int64 → Int64
  | [], s => s
  | e :: t, s => dueC C h kn G t (if cI C 6 0 e ≤ kn then s + (cI C 6 1 e).toInt64 * (wgA C (wgC C (cI C 6 0 e) kn G none)).toInt64 else s)
def sp_dueAK : Sp := fun as w K => ∃ C h kn, ∃ (G E : List Nat), as = [.ref (cA C 1 h), .int kn] ∧ RX C w ∧ (h < cN C 1 ∧ chL (cL C 7 3) (cL C 1 11 h) G ∧ chL (cL C 6 2) (cL C 1 10 h) E) ∧ K (some (.long (dueC C h kn G E 0))) w
theorem c_dueAK (l : Launch) : Ct l 80 2 0 0 sp_dueAK := by
  have hev : ∀ (k : Nat) (r : Nat × Nat × Nat × Sp), evL [(81, 1, 0, 0, sp_cwageFor)] k = some r → Ct l k r.1 r.2.1 r.2.2.1 r.2.2.2 := evL_ok (by simpa using c_cwageFor l)
  refine ct_jd (by decide) rfl (fun as w Po h => ?_)
  obtain ⟨C, ho, kn, G, E, rfl, hX, ⟨hh, hG, hE⟩, h⟩ := h
  refine ⟨Nat.le_of_ble_eq_true rfl, ?_⟩
  have key : ∀ (T : List Nat) (c : Nat) (s : Int64) (vc : Value), vc = va_rf (adO C 6 c) → c ≤ cN C 6 → chL (cL C 6 2) c T → dueC C ho kn G T s = dueC C ho kn G E 0 → Jd l 80 2 0 0 (some .long) Po 8 [(4, vc), (2, .long s), (0, .ref (cA C 1 ho)), (1, .int kn)] [] w 0 0 := by
    intro T
    induction T with
    | nil =>
      intro c s vc evc hc hT hw
      obtain rfl : c = 0 := hT
      subst evc
      rw [← hw] at h
      exact jd_s cdo_80 hev [] 30 z00 h
    | cons e t ih =>
      intro c s vc evc hc hT hw
      obtain ⟨rfl, hT⟩ := hT
      subst evc
      have he : e < cN C 6 := hc
      have hlb : cL C 6 2 e ≤ cN C 6 := hX.lb 6 2 e (by decide) he rfl
      have nxt : ∀ s', dueC C ho kn G t s' = dueC C ho kn G E 0 → Jd l 80 2 0 0 (some .long) Po 43 [(4, .ref (cA C 6 e)), (2, .long s'), (0, .ref (cA C 1 ho)), (1, .int kn)] [] w 0 0 := by
        intro s' hw'
        have hgr := hX.gr 6 2 e (by decide) he rfl
        have := ih (cL C 6 2 e) s' (va_rf (adO C 6 (cL C 6 2 e))) rfl hlb hT hw'
        revert this hgr
        generalize cL C 6 2 e = c'
        intro hgr this
        cases c' with
        | zero => exact jd_s cdo_80 hev [8] 30 z00 ⟨hX.k 6 e he, _, hgr, this⟩
        | succ q => exact jd_s cdo_80 hev [8] 30 z00 ⟨hX.k 6 e he, _, hgr, this⟩
      rw [dueC] at hw
      refine jd_s cdo_80 hev [43] 40 z00 ⟨hX.k 6 e he, _, hX.gi 6 0 e (by decide) he rfl, fun c => ?_, fun c1 => ?_⟩
      · rw [if_neg (fun z => lt_nle c z)] at hw
        exact nxt s hw
      · rw [if_pos (nlt_le c1)] at hw
        refine ⟨hX.k 6 e he, _, hX.gi 6 1 e (by decide) he rfl, hX.k 6 e he, _, hX.gi 6 0 e (by decide) he rfl, ?_⟩
        refine ⟨⟨by decide, by decide, by decide⟩, rfl, hX.k 1 ho hh, C, ho, cI C 6 0 e, kn, G, rfl, hX, ⟨hh, hG⟩, ?_⟩
        exact jd_pk [1, 0, 2, 3] (nxt _ hw)
  have hlb : cL C 1 10 ho ≤ cN C 6 := hX.lb 1 10 ho (by decide) hh rfl
  have hgr := hX.gr 1 10 ho (by decide) hh rfl
  have := key E (cL C 1 10 ho) 0 _ rfl hlb hE rfl
  revert this hgr
  generalize cL C 1 10 ho = c'
  intro hgr this
  cases c' with
  | zero => exact jd_s cdo_80 hev [8] 30 z00 ⟨hX.k 1 ho hh, _, hgr, this⟩
  | succ q => exact jd_s cdo_80 hev [8] 30 z00 ⟨hX.k 1 ho hh, _, hgr, this⟩
