/-! THE CLASS: wheels tried -/
def sp_seat (fu : Nat) : Sp := fun as w K => ∃ C m s wh, as = [.ref (cA C 4 m), .int wh] ∧ RX (wM C m s) w ∧ FX C ∧ m < 2 ∧ ∀ w', RX (wM C m (sOM (cX C (3 * m)) (cI C 4 3 m) fu wh (0, s.2)).2) w' → K (some (.int (b2i (sOM (cX C (3 * m)) (cI C 4 3 m) fu wh (0, s.2)).1))) w'
theorem b2i_01 (b : Bool) : b2i b = 0 ∨ b2i b = 1 := by cases b <;> decide
theorem c_seat (l : Launch) (fu : Nat) (hfu : fu = 11) : Ct l 54 13 0 0 (sp_seat fu) := by
  have hev : ∀ (k : Nat) (r : Nat × Nat × Nat × Sp), evL [(55, fu + 1, 0, 0, sp_sOM fu)] k = some r → Ct l k r.1 r.2.1 r.2.2.1 r.2.2.2 := evL_ok (by simpa using c_sOM l fu)
  refine ct_jd (by decide) rfl (fun as w Po h => ?_)
  obtain ⟨C, m, s, wh, rfl, hX, hF, hm, h⟩ := h
  have hm4 : m < cN C 4 := by rw [hF.1.2.2.2.1]; exact hm
  refine ⟨Nat.le_of_ble_eq_true rfl, jd_run cdo_54 hev 30 z00 ⟨hX.k 4 m hm4, ?_⟩⟩
  have hX := hX.wi 4 4 m hm4 0
  rw [wM_wI] at hX
  refine ⟨⟨show fu + 1 < 13 by omega, Nat.le_refl _, Nat.le_refl _⟩, rfl, hX.k 4 m hm4, C, m, (0, s.2), wh, by rw [hfu]; rfl, hX, hF, ⟨hm, by omega⟩, fun w' hX' => ⟨b2i_01 _, h w' hX'⟩⟩
def uP (h : Nat → Int32) (wh : Int32) (p : Nat) : Nat → Int32 := fun j => if j < p ∧ h j = wh then -1 else h j
theorem uP_s {h : Nat → Int32} {wh : Int32} {p : Nat} (e : h p = wh) : hU (uP h wh p) p (-1) = uP h wh (p + 1) := by
  funext j
  unfold hU uP
  by_cases h1 : j = p
  · subst h1
    rw [if_pos rfl, if_pos ⟨Nat.lt_succ_self _, e⟩]
  · rw [if_neg h1]
    by_cases h2 : j < p ∧ h j = wh
    · rw [if_pos h2, if_pos ⟨by omega, h2.2⟩]
    · rw [if_neg h2, if_neg (fun q => h2 ⟨by omega, q.2⟩)]
theorem uP_n {h : Nat → Int32} {wh : Int32} {p : Nat} (e : ¬ h p = wh) : uP h wh (p + 1) = uP h wh p := by
  funext j
  unfold uP
  by_cases h1 : j = p
  · subst h1
    rw [if_neg (fun q => e q.2), if_neg (fun q => e q.2)]
  · by_cases h2 : j < p ∧ h j = wh
    · rw [if_pos h2, if_pos ⟨by omega, h2.2⟩]
    · rw [if_neg h2, if_neg (fun q => h2 ⟨by omega, q.2⟩)]
theorem uP_0 (h : Nat → Int32) (wh : Int32) : uP h wh 0 = h := by
  funext j
  unfold uP
  rw [if_neg (fun q => by omega)]
def sp_unseat : Sp := fun as w K => ∃ C m s wh, as = [.ref (cA C 4 m), .int wh] ∧ RX (wM C m s) w ∧ FX C ∧ m < 2 ∧ ∀ w', RX (wM C m (s.1, uP s.2 wh 10)) w' → K none w'
theorem c_unseat (l : Launch) : Ct l 56 1 0 0 sp_unseat := by
  refine ct_jd (by decide) rfl (fun as w Po h => ?_)
  obtain ⟨C, m, s, wh, rfl, hX, hF, hm, h⟩ := h
  have hm4 : m < cN C 4 := by rw [hF.1.2.2.2.1]; exact hm
  have h20 : 3 * m + 1 < cN C 20 := by rw [hF.1.2.2.2.2]; omega
  have l1 : cL C 4 1 m = 3 * m + 1 + 1 := hF.2.2.2 1 m (by decide) hm
  refine ⟨Nat.le_of_ble_eq_true rfl, ?_⟩
  have key : ∀ d p w', p + d = 10 → RX (wM C m (s.1, uP s.2 wh p)) w' → Jd l 56 1 0 0 none Po 2 [(2, .int (nI p)), (0, .ref (cA C 4 m)), (1, .int wh)] [] w' 0 0 := by
    intro d
    induction d with
    | zero =>
      intro p w' hp hX
      obtain rfl : p = 10 := by omega
      exact jd_s cdo_56 ev0 [] 20 z00 ⟨fun _ => h _ hX, fun c => absurd (by decide) c⟩
    | succ d ih =>
      intro p w' hp hX
      have ep : uP s.2 wh p p = s.2 p := if_neg (fun q => by omega)
      refine jd_s cdo_56 ev0 [2] 30 z00 ⟨fun c => ?_, fun _ => ?_⟩
      · have := ge_n (a := p) (b := 10) (by omega) (by omega) c
        omega
      refine ⟨hX.k 4 m hm4, _, hX.g1 4 1 m (by decide) hm4 rfl l1, hX.k 20 (3 * m + 1) h20, p, _, hX.ixa (3 * m + 1) h20 rfl (by omega), (hX.xa (3 * m + 1) p h20).trans ((wM_X1 C m _ p).trans ep), fun c => ?_, fun c => ?_⟩
      · have := ih (p + 1) w' (by omega) (by rw [uP_n c]; exact hX)
        rw [← nI_1] at this
        exact this
      · refine ⟨hX.k 4 m hm4, _, hX.g1 4 1 m (by decide) hm4 rfl l1, hX.k 20 (3 * m + 1) h20, p, hX.ixa (3 * m + 1) h20 rfl (by omega), ?_⟩
        have hX := hX.wx (3 * m + 1) p h20 (-1)
        rw [wM_wX] at hX
        have := ih (p + 1) _ (by omega) (by rw [← uP_s c]; exact hX)
        rw [← nI_1] at this
        exact this
  refine jd_s cdo_56 ev0 [2] 10 z00 ?_
  exact key 10 0 w (by omega) (by rw [uP_0]; exact hX)
abbrev Ts : Type := (Int32 × Int32) × St × St
def tU0 (i : Nat) (T : Ts) : Ts := (T.1, (T.2.1.1, uP T.2.1.2 (nI i) 10), T.2.2)
def tU1 (i : Nat) (T : Ts) : Ts := (T.1, T.2.1, (T.2.2.1, uP T.2.2.2 (nI i) 10))
def tW (fu : Nat) (fp fs : Nat → Int32) (gp gs wc : Int32) : Nat → Nat → Int32 → Int32 → Ts → Ts
  | 0, _, _, _, T => T
  | f + 1, i, tk, st, T => if tk + wc - nI i ≤ T.1.1 then T else if wc ≤ nI i ∨ 10 ≤ i then ((tk, st), T.2) else
    tW fu fp fs gp gs wc f (i + 1) tk st (if (sOM fp gp fu (nI i) (0, T.2.1.2)).1 = true then (if (sOM fs gs fu (nI i) (0, T.2.2.2)).1 = true then tU0 i (tU1 i (tW fu fp fs gp gs wc f (i + 1) (tk + 1) (st ||| bt i) (T.1, (sOM fp gp fu (nI i) (0, T.2.1.2)).2, (sOM fs gs fu (nI i) (0, T.2.2.2)).2))) else tU0 i (T.1, (sOM fp gp fu (nI i) (0, T.2.1.2)).2, (sOM fs gs fu (nI i) (0, T.2.2.2)).2)) else (T.1, (sOM fp gp fu (nI i) (0, T.2.1.2)).2, T.2.2))
def wB (C : Cs) (b : Int32 × Int32) : Cs := wI (wI C 3 3 0 b.1) 3 4 0 b.2
def wT (C : Cs) (T : Ts) : Cs := wM (wM (wB C T.1) 0 T.2.1) 1 T.2.2
theorem u3_cm {α : Type} (f : Nat → Nat → Nat → α) (a b c d : Nat) (x y : α) (h : c ≠ d) : u3 (u3 f a b c x) a b d y = u3 (u3 f a b d y) a b c x := by
  funext i j k
  unfold u3
  by_cases h1 : i = a ∧ j = b ∧ k = c
  · by_cases h2 : i = a ∧ j = b ∧ k = d
    · omega
    · rw [if_pos h1, if_neg h2, if_pos h1]
  · by_cases h2 : i = a ∧ j = b ∧ k = d
    · rw [if_pos h2, if_neg h1, if_pos h2]
    · rw [if_neg h1, if_neg h2, if_neg h1]
theorem wM_cm (C : Cs) (a b : St) : wM (wM C 0 a) 1 b = wM (wM C 1 b) 0 a := by
  have e : (fun i j => if i = 4 then b.2 j else if i = 1 then a.2 j else cX C i j) = fun i j => if i = 1 then a.2 j else if i = 4 then b.2 j else cX C i j := by
    funext i j
    by_cases h : i = 1
    · subst h; rfl
    · by_cases h2 : i = 4
      · subst h2; rfl
      · rw [if_neg h, if_neg h2, if_neg h]
  show (cN C, cA C, u3 (u3 (cI C) 4 4 0 a.1) 4 4 1 b.1, cL C, _) = (cN C, cA C, u3 (u3 (cI C) 4 4 1 b.1) 4 4 0 a.1, cL C, _)
  rw [u3_cm (cI C) 4 4 0 1 a.1 b.1 (by decide)]
  exact congrArg (fun z => (cN C, cA C, u3 (u3 (cI C) 4 4 1 b.1) 4 4 0 a.1, cL C, z)) e
theorem wT_0 (C : Cs) (T : Ts) : wT C T = wM (wM (wB C T.1) 1 T.2.2) 0 T.2.1 := wM_cm _ _ _
theorem wB_b (C : Cs) (b : Int32 × Int32) (x y : Int32) : wI (wI (wB C b) 3 3 0 x) 3 4 0 y = wB C (x, y) := by
  have e : u3 (u3 (u3 (u3 (cI C) 3 3 0 b.1) 3 4 0 b.2) 3 3 0 x) 3 4 0 y = u3 (u3 (cI C) 3 3 0 x) 3 4 0 y := by
    funext i j k
    unfold u3
    by_cases h1 : i = 3 ∧ j = 4 ∧ k = 0
    · rw [if_pos h1, if_pos h1]
    · rw [if_neg h1, if_neg h1]
      by_cases h2 : i = 3 ∧ j = 3 ∧ k = 0
      · rw [if_pos h2, if_pos h2, if_neg h1]
      · rw [if_neg h2, if_neg h2, if_neg h1, if_neg h2]
  exact congrArg (fun z => (cN C, cA C, z, cL C, cX C)) e
theorem wI_wM (C : Cs) (k m : Nat) (s : St) (v : Int32) : wI (wM C m s) 3 k 0 v = wM (wI C 3 k 0 v) m s := by
  have e : u3 (u3 (cI C) 4 4 m s.1) 3 k 0 v = u3 (u3 (cI C) 3 k 0 v) 4 4 m s.1 := by
    funext i j q
    unfold u3
    by_cases h1 : i = 3 ∧ j = k ∧ q = 0
    · rw [if_pos h1, if_neg (fun z => by omega), if_pos h1]
    · rw [if_neg h1]
      by_cases h2 : i = 4 ∧ j = 4 ∧ q = m
      · rw [if_pos h2, if_pos h2]
      · rw [if_neg h2, if_neg h2, if_neg h1]
  exact congrArg (fun z => (cN C, cA C, z, cL C, fun i j => if i = 3 * m + 1 then s.2 j else cX C i j)) e
theorem wT_b (C : Cs) (T : Ts) (x y : Int32) : wI (wI (wT C T) 3 3 0 x) 3 4 0 y = wT C ((x, y), T.2) := by
  unfold wT
  rw [wI_wM, wI_wM, wI_wM, wI_wM, wB_b]
theorem wT_33 (C : Cs) (T : Ts) : cI (wT C T) 3 3 0 = T.1.1 := rfl
theorem wT_32 (C : Cs) (T : Ts) : cI (wT C T) 3 2 0 = cI C 3 2 0 := rfl
theorem wT_fx {C : Cs} (h : FX C) (T : Ts) : FX (wT C T) := h
theorem wTx_0 (C : Cs) (T : Ts) : cX (wM (wB C T.1) 1 T.2.2) (3 * 0) = cX C 0 := rfl
theorem wTx_1 (C : Cs) (T : Ts) : cX (wM (wB C T.1) 0 T.2.1) (3 * 1) = cX C 3 := rfl
theorem wTg_0 (C : Cs) (T : Ts) : cI (wM (wB C T.1) 1 T.2.2) 4 3 0 = cI C 4 3 0 := rfl
theorem wTg_1 (C : Cs) (T : Ts) : cI (wM (wB C T.1) 0 T.2.1) 4 3 1 = cI C 4 3 1 := rfl
def sp_tW (fu f : Nat) : Sp := fun as w K => ∃ C T i tk st, as = [.ref (cA C 3 0), .int (nI i), .int tk, .int st] ∧ RX (wT C T) w ∧ FX C ∧ (i + f = 11 ∧ i ≤ 10) ∧ ∀ w', RX (wT C (tW fu (cX C 0) (cX C 3) (cI C 4 3 0) (cI C 4 3 1) (cI C 3 2 0) f i tk st T)) w' → K none w'
theorem c_tW (l : Launch) (fu : Nat) (hfu : fu = 11) : ∀ f, Ct l 53 (f + 14) 0 0 (sp_tW fu f) := by
  intro f
  induction f with
  | zero =>
    refine ct_jd (by decide) rfl (fun as w Po h => ?_)
    obtain ⟨C, T, i, tk, st, rfl, hX, hF, ⟨hi, hi2⟩, h⟩ := h
    omega
  | succ f ihf =>
    have hev : ∀ (k : Nat) (r : Nat × Nat × Nat × Sp), evL [(53, f + 14, 0, 0, sp_tW fu f), (54, 13, 0, 0, sp_seat fu), (56, 1, 0, 0, sp_unseat)] k = some r → Ct l k r.1 r.2.1 r.2.2.1 r.2.2.2 := evL_ok (by simpa using ⟨ihf, c_seat l fu hfu, c_unseat l⟩)
    refine ct_jd (by decide) rfl (fun as w Po h => ?_)
    obtain ⟨C, T, i, tk, st, rfl, hX, hF, ⟨hi, hi2⟩, h⟩ := h
    have h3 : 0 < cN C 3 := by rw [hF.1.2.2.1]; decide
    have h4 : 0 < cN C 4 := by rw [hF.1.2.2.2.1]; decide
    have h41 : 1 < cN C 4 := by rw [hF.1.2.2.2.1]; decide
    have l0 : cL C 3 0 0 = 0 + 1 := hF.2.2.1.1
    have l1 : cL C 3 1 0 = 1 + 1 := hF.2.2.1.2
    refine ⟨Nat.le_of_ble_eq_true rfl, ?_⟩
    rw [tW] at h
    have fin : ¬ 10 ≤ i → ∀ T' w2, RX (wT C T') w2 → (∀ w', RX (wT C (tW fu (cX C 0) (cX C 3) (cI C 4 3 0) (cI C 4 3 1) (cI C 3 2 0) f (i + 1) tk st T')) w' → Po none w') → Jd l 53 (f + 1 + 14) 0 0 none Po 94 [(0, .ref (cA C 3 0)), (1, .int (nI i)), (2, .int tk), (3, .int st)] [] w2 0 0 := by
      intro hi3 T' w2 hX hk
      exact jd_s cdo_53 hev [] 30 z00 ⟨⟨show f + 14 < f + 1 + 14 by omega, Nat.le_refl _, Nat.le_refl _⟩, rfl, hX.k 3 0 h3, C, T', i + 1, tk, st, by rw [nI_1]; rfl, hX, hF, ⟨by omega, by omega⟩, fun w' hX' => hk w' hX'⟩
    have un0 : ¬ 10 ≤ i → ∀ T' w2, RX (wT C T') w2 → (∀ w', RX (wT C (tW fu (cX C 0) (cX C 3) (cI C 4 3 0) (cI C 4 3 1) (cI C 3 2 0) f (i + 1) tk st (tU0 i T'))) w' → Po none w') → Jd l 53 (f + 1 + 14) 0 0 none Po 86 [(0, .ref (cA C 3 0)), (1, .int (nI i)), (2, .int tk), (3, .int st)] [] w2 0 0 := by
      intro hi3 T' w2 hX hk
      refine jd_s cdo_53 hev [94] 30 z00 ⟨hX.k 3 0 h3, _, hX.g1 3 0 0 (by decide) h3 rfl l0, ?_⟩
      have hX0 := hX
      rw [wT_0] at hX0
      refine ⟨⟨show 1 < f + 1 + 14 by omega, Nat.le_refl _, Nat.le_refl _⟩, rfl, hX.k 4 0 h4, wM (wB C T'.1) 1 T'.2.2, 0, T'.2.1, nI i, rfl, hX0, hF, by decide, fun w3 hX3 => ?_⟩
      have e : wM (wM (wB C T'.1) 1 T'.2.2) 0 (T'.2.1.1, uP T'.2.1.2 (nI i) 10) = wT C (tU0 i T') := (wT_0 C (tU0 i T')).symm
      rw [e] at hX3
      exact fin hi3 _ _ hX3 hk
    refine jd_s cdo_53 hev [86, 94] 60 z00 ⟨hX.k 3 0 h3, _, (hX.gi 3 2 0 (by decide) h3 rfl).trans (wT_32 C T), hX.k 3 0 h3, _, (hX.gi 3 3 0 (by decide) h3 rfl).trans (wT_33 C T), fun c => ?_, fun c => ?_⟩
    · rw [if_neg (lt_nle c)] at h
      have setb : (cI C 3 2 0 ≤ nI i ∨ 10 ≤ i) → gK w (cA C 3 0) = some 3 ∧ (gK (sI w 3 3 (cA C 3 0) tk) (cA C 3 0) = some 3 ∧ Po none (sI (sI w 3 3 (cA C 3 0) tk) 3 4 (cA C 3 0) st)) := by
        intro c2
        rw [if_pos c2] at h
        have hX1 := hX.wi 3 3 0 h3 tk
        have hX2 := hX1.wi 3 4 0 h3 st
        rw [wT_b] at hX2
        exact ⟨hX.k 3 0 h3, hX1.k 3 0 h3, h _ hX2⟩
      refine ⟨hX.k 3 0 h3, _, (hX.gi 3 2 0 (by decide) h3 rfl).trans (wT_32 C T), fun c2 => setb (Or.inl c2), fun c2 => ⟨fun c3 => ?_, fun c3 => setb (Or.inr ?_)⟩⟩
      · have hi3 : ¬ 10 ≤ i := by have := (nI_ltI (a := i) (b := 10) (by omega) (by omega)).mp c3; omega
        rw [if_neg (fun q => q.elim c2 hi3)] at h
        have hX0 := hX
        rw [wT_0] at hX0
        refine ⟨hX.k 3 0 h3, _, hX.g1 3 0 0 (by decide) h3 rfl l0, ?_⟩
        refine ⟨⟨show 13 < f + 1 + 14 by omega, Nat.le_refl _, Nat.le_refl _⟩, rfl, hX.k 4 0 h4, wM (wB C T.1) 1 T.2.2, 0, T.2.1, nI i, rfl, hX0, hF, by decide, fun w3 hX3 => ?_⟩
        rw [wTx_0, wTg_0] at hX3 ⊢
        revert h hX3
        cases er : sOM (cX C 0) (cI C 4 3 0) fu (nI i) (0, T.2.1.2) with
        | mk b r =>
          intro h hX3
          have hY3 : RX (wT C (T.1, r, T.2.2)) w3 := by rw [wT_0]; exact hX3
          cases b with
          | false => exact br0 (fin hi3 _ _ hY3 h)
          | true =>
            refine br1 ⟨hY3.k 3 0 h3, _, hY3.g1 3 1 0 (by decide) h3 rfl l1, ?_⟩
            refine ⟨⟨show 13 < f + 1 + 14 by omega, Nat.le_refl _, Nat.le_refl _⟩, rfl, hY3.k 4 1 h41, wM (wB C T.1) 0 r, 1, T.2.2, nI i, rfl, hY3, hF, by decide, fun w4 hX4 => ?_⟩
            rw [show cX (wM (wB C T.1) 0 r) (3 * 1) = cX C 3 from rfl, show cI (wM (wB C T.1) 0 r) 4 3 1 = cI C 4 3 1 from rfl] at hX4 ⊢
            revert h hX4
            cases es : sOM (cX C 3) (cI C 4 3 1) fu (nI i) (0, T.2.2.2) with
            | mk b2 q =>
              intro h hX4
              have hY4 : RX (wT C (T.1, r, q)) w4 := hX4
              cases b2 with
              | false => exact br0 (un0 hi3 _ _ hY4 h)
              | true =>
                refine br1 ⟨⟨show f + 14 < f + 1 + 14 by omega, Nat.le_refl _, Nat.le_refl _⟩, rfl, hY4.k 3 0 h3, C, (T.1, r, q), i + 1, tk + 1, st ||| bt i, by rw [nI_1]; rfl, hY4, hF, ⟨by omega, by omega⟩, fun w5 hX5 => ?_⟩
                have h : ∀ w', RX (wT C (tW fu (cX C 0) (cX C 3) (cI C 4 3 0) (cI C 4 3 1) (cI C 3 2 0) f (i + 1) tk st (tU0 i (tU1 i (tW fu (cX C 0) (cX C 3) (cI C 4 3 0) (cI C 4 3 1) (cI C 3 2 0) f (i + 1) (tk + 1) (st ||| bt i) (T.1, r, q)))))) w' → Po none w' := h
                generalize tW fu (cX C 0) (cX C 3) (cI C 4 3 0) (cI C 4 3 1) (cI C 3 2 0) f (i + 1) (tk + 1) (st ||| bt i) (T.1, r, q) = T2 at h hX5
                refine ⟨hX5.k 3 0 h3, _, hX5.g1 3 1 0 (by decide) h3 rfl l1, ?_⟩
                refine ⟨⟨show 1 < f + 1 + 14 by omega, Nat.le_refl _, Nat.le_refl _⟩, rfl, hX5.k 4 1 h41, wM (wB C T2.1) 0 T2.2.1, 1, T2.2.2, nI i, rfl, hX5, hF, by decide, fun w6 hX6 => ?_⟩
                have hX6 : RX (wT C (tU1 i T2)) w6 := hX6
                exact un0 hi3 _ _ hX6 h
      · have := ge_n (a := i) (b := 10) (by omega) (by omega) (nlt_le c3)
        exact this
    · rw [if_pos (nlt_le c)] at h
      exact h _ hX
def sp_choose (fu f : Nat) : Sp := fun as w K => ∃ C T, as = [.ref (cA C 3 0)] ∧ RX (wT C T) w ∧ FX C ∧ ∀ w', RX (wT C (tW fu (cX C 0) (cX C 3) (cI C 4 3 0) (cI C 4 3 1) (cI C 3 2 0) f 0 0 0 ((-1, T.1.2), T.2))) w' → K (some (.int (tW fu (cX C 0) (cX C 3) (cI C 4 3 0) (cI C 4 3 1) (cI C 3 2 0) f 0 0 0 ((-1, T.1.2), T.2)).1.1)) w'
theorem wT_b1 (C : Cs) (T : Ts) (x : Int32) : wI (wT C T) 3 3 0 x = wT C ((x, T.1.2), T.2) := by
  have e : u3 (u3 (u3 (cI C) 3 3 0 T.1.1) 3 4 0 T.1.2) 3 3 0 x = u3 (u3 (cI C) 3 3 0 x) 3 4 0 T.1.2 := by
    funext i j k
    unfold u3
    by_cases h1 : i = 3 ∧ j = 3 ∧ k = 0
    · rw [if_pos h1, if_neg (fun q => by omega), if_pos h1]
    · rw [if_neg h1, if_neg h1, if_neg h1]
  have e2 : wI (wB C T.1) 3 3 0 x = wB C (x, T.1.2) := congrArg (fun z => (cN C, cA C, z, cL C, cX C)) e
  unfold wT
  rw [wI_wM, wI_wM, e2]
theorem c_choose (l : Launch) (fu f : Nat) (hfu : fu = 11) (hf : f = 11) : Ct l 52 26 0 0 (sp_choose fu f) := by
  have hev : ∀ (k : Nat) (r : Nat × Nat × Nat × Sp), evL [(53, f + 14, 0, 0, sp_tW fu f)] k = some r → Ct l k r.1 r.2.1 r.2.2.1 r.2.2.2 := evL_ok (by simpa using c_tW l fu hfu f)
  refine ct_jd (by decide) rfl (fun as w Po h => ?_)
  obtain ⟨C, T, rfl, hX, hF, h⟩ := h
  have h3 : 0 < cN C 3 := by rw [hF.1.2.2.1]; decide
  refine ⟨Nat.le_of_ble_eq_true rfl, jd_run cdo_52 hev 30 z00 ⟨hX.k 3 0 h3, ?_⟩⟩
  have hX := hX.wi 3 3 0 h3 (-1)
  rw [wT_b1] at hX
  refine ⟨⟨show f + 14 < 26 by omega, Nat.le_refl _, Nat.le_refl _⟩, rfl, hX.k 3 0 h3, C, ((-1, T.1.2), T.2), 0, 0, 0, rfl, hX, hF, ⟨by omega, by decide⟩, fun w' hX' => ?_⟩
  exact ⟨hX'.k 3 0 h3, _, (hX'.gi 3 3 0 (by decide) h3 rfl).trans (wT_33 C _), h w' hX'⟩
