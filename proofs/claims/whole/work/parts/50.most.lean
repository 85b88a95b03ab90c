/-! THE CLASS: lots read for making; the most -/
theorem wM_ot (C : Cs) (m : Nat) (s : St) (t k i : Nat) (h : t ≠ 4) : cI (wM C m s) t k i = cI C t k i := by
  show u3 (cI C) 4 4 m s.1 t k i = _
  exact u3_t h
theorem wZ_ot (C : Cs) (m : Nat) (z : St3) (t k i : Nat) (h : t ≠ 4) : cI (wZ C m z) t k i = cI C t k i := by
  show u3 (u3 (cI C) 4 3 m z.2.1) 4 4 m z.2.2.1 t k i = _
  rw [u3_t h, u3_t h]
theorem cR0_q (C : Cs) (m n t k i : Nat) (h : t ≠ 4) : cI (wI (wM C m (cI C 4 4 m, flH (cX C (3 * m + 1)) n)) 4 3 m 0) t k i = cI C t k i := by
  rw [cI_wI, if_neg (fun q => h q.1)]
  exact wM_ot _ _ _ _ _ _ h
def cCM (fu n : Nat) (C : Cs) : Cs := cStl fu n (cStl fu n C 0 (cI C 3 4 0)) 1 (cI C 3 4 0)
theorem cStl_fx {C : Cs} (h : FX C) (fu n m : Nat) (set : Int32) : FX (cStl fu n C m set) := h
theorem cStl_34 (fu n : Nat) (C : Cs) (m : Nat) (set : Int32) : cI (cStl fu n C m set) 3 4 0 = cI C 3 4 0 := by
  exact wZ_ot C m _ 3 4 0 (by decide)
def sp_chooseM (fu n : Nat) : Sp := fun as w K => ∃ C, as = [.ref (cA C 3 0)] ∧ RX C w ∧ FX C ∧ ∀ w', RX (cCM fu n C) w' → K none w'
theorem c_chooseM (l : Launch) (fu n : Nat) (hfu : fu = 11) (hn : n = 10) : Ct l 58 17 0 0 (sp_chooseM fu n) := by
  have hev : ∀ (k : Nat) (r : Nat × Nat × Nat × Sp), evL [(59, 16, 0, 0, sp_settle fu n)] k = some r → Ct l k r.1 r.2.1 r.2.2.1 r.2.2.2 := evL_ok (by simpa using c_settle l fu n hfu hn)
  refine ct_jd (by decide) rfl (fun as w Po h => ?_)
  obtain ⟨C, rfl, hX, hF, h⟩ := h
  have h3 : 0 < cN C 3 := by rw [hF.1.2.2.1]; decide
  have h4 : 0 < cN C 4 := by rw [hF.1.2.2.2.1]; decide
  have h41 : 1 < cN C 4 := by rw [hF.1.2.2.2.1]; decide
  refine ⟨Nat.le_of_ble_eq_true rfl, jd_run cdo_58 hev 30 z00 ?_⟩
  refine ⟨hX.k 3 0 h3, _, hX.g1 3 0 0 (by decide) h3 rfl hF.2.2.1.1, hX.k 3 0 h3, _, hX.gi 3 4 0 (by decide) h3 rfl, ?_⟩
  refine ⟨⟨show 16 < 17 by decide, Nat.le_refl _, Nat.le_refl _⟩, rfl, hX.k 4 0 h4, C, 0, cI C 3 4 0, rfl, hX, hF, by decide, fun w2 hX2 => ?_⟩
  have hF2 := cStl_fx hF fu n 0 (cI C 3 4 0)
  have e34 := cStl_34 fu n C 0 (cI C 3 4 0)
  have eA : cA (cStl fu n C 0 (cI C 3 4 0)) = cA C := rfl
  have eN : cN (cStl fu n C 0 (cI C 3 4 0)) = cN C := rfl
  rw [cCM] at h
  generalize cStl fu n C 0 (cI C 3 4 0) = D at *
  rw [← eN] at h3 h4 h41
  rw [← eA]
  refine ⟨hX2.k 3 0 h3, _, hX2.g1 3 1 0 (by decide) h3 rfl hF2.2.2.1.2, hX2.k 3 0 h3, _, (hX2.gi 3 4 0 (by decide) h3 rfl).trans e34, ?_⟩
  exact ⟨⟨show 16 < 17 by decide, Nat.le_refl _, Nat.le_refl _⟩, rfl, hX2.k 4 1 h41, D, 1, cI C 3 4 0, rfl, hX2, hF2, by decide, h⟩
def sp_takes : Sp := fun as w K => ∃ C x, as = [.ref (cA C 3 0), .int x] ∧ RX C w ∧ FX C ∧ (cI C 3 4 0 >>> (x &&& 31) &&& 1 = 1 → K (some (.int 1)) w) ∧ (¬ cI C 3 4 0 >>> (x &&& 31) &&& 1 = 1 → K (some (.int 0)) w)
theorem c_takes (l : Launch) : Ct l 62 1 0 0 sp_takes := by
  refine ct_jd (by decide) rfl (fun as w Po h => ?_)
  obtain ⟨C, x, rfl, hX, hF, h1, h2⟩ := h
  have h3 : 0 < cN C 3 := by rw [hF.1.2.2.1]; decide
  exact ⟨Nat.le_of_ble_eq_true rfl, jd_run cdo_62 ev0 30 z00 ⟨hX.k 3 0 h3, _, hX.gi 3 4 0 (by decide) h3 rfl, fun c => ⟨Or.inl rfl, h2 c⟩, fun c => ⟨Or.inr rfl, h1 c⟩⟩⟩
def sp_settled : Sp := fun as w K => ∃ C m i, as = [.ref (cA C 4 m), .int (nI i)] ∧ RX C w ∧ FX C ∧ (m < 2 ∧ i < 10) ∧ K (some (.int (cX C (3 * m + 2) i))) w
theorem c_settled (l : Launch) : Ct l 64 1 0 0 sp_settled := by
  refine ct_jd (by decide) rfl (fun as w Po h => ?_)
  obtain ⟨C, m, i, rfl, hX, hF, ⟨hm, hi⟩, h⟩ := h
  have hm4 : m < cN C 4 := by rw [hF.1.2.2.2.1]; exact hm
  have h20 : 3 * m + 2 < cN C 20 := by rw [hF.1.2.2.2.2]; omega
  have l2 : cL C 4 2 m = 3 * m + 2 + 1 := hF.2.2.2 2 m (by decide) hm
  refine ⟨Nat.le_of_ble_eq_true rfl, jd_run cdo_64 ev0 30 z00 ⟨fun c => absurd c (nI_pos (by omega)), fun _ => ⟨fun c => ?_, fun _ => ?_⟩⟩⟩
  · have := ge_n (a := i) (b := 10) (by omega) (by omega) c
    omega
  · exact ⟨hX.k 4 m hm4, _, hX.g1 4 2 m (by decide) hm4 rfl l2, hX.k 20 (3 * m + 2) h20, i, _, hX.ixa (3 * m + 2) h20 rfl hi, hX.xa (3 * m + 2) i h20, h⟩
def sp_for (m : Nat) : Sp := fun as w K => ∃ C i, as = [.ref (cA C 3 0), .int (nI i)] ∧ RX C w ∧ FX C ∧ i < 10 ∧ K (some (.int (cX C (3 * m + 2) i))) w
theorem c_plateFor (l : Launch) : Ct l 63 2 0 0 (sp_for 0) := by
  refine ct_jd (by decide) rfl (fun as w Po h => ?_)
  obtain ⟨C, i, rfl, hX, hF, hi, h⟩ := h
  have h3 : 0 < cN C 3 := by rw [hF.1.2.2.1]; decide
  have h4 : 0 < cN C 4 := by rw [hF.1.2.2.2.1]; decide
  exact ⟨Nat.le_of_ble_eq_true rfl, jd_run cdo_63 (evL_ok (L := [(64, 1, 0, 0, sp_settled)]) (by simpa using c_settled l)) 30 z00 ⟨hX.k 3 0 h3, _, hX.g1 3 0 0 (by decide) h3 rfl hF.2.2.1.1, ⟨by decide, by decide, by decide⟩, rfl, hX.k 4 0 h4, C, 0, i, rfl, hX, hF, ⟨by decide, hi⟩, h⟩⟩
theorem c_stoneFor (l : Launch) : Ct l 65 2 0 0 (sp_for 1) := by
  refine ct_jd (by decide) rfl (fun as w Po h => ?_)
  obtain ⟨C, i, rfl, hX, hF, hi, h⟩ := h
  have h3 : 0 < cN C 3 := by rw [hF.1.2.2.1]; decide
  have h41 : 1 < cN C 4 := by rw [hF.1.2.2.2.1]; decide
  exact ⟨Nat.le_of_ble_eq_true rfl, jd_run cdo_65 (evL_ok (L := [(64, 1, 0, 0, sp_settled)]) (by simpa using c_settled l)) 30 z00 ⟨hX.k 3 0 h3, _, hX.g1 3 1 0 (by decide) h3 rfl hF.2.2.1.2, ⟨by decide, by decide, by decide⟩, rfl, hX.k 4 1 h41, C, 1, i, rfl, hX, hF, ⟨by decide, hi⟩, h⟩⟩
def pF (C : Cs) (f wh : Nat) : List Nat → Int32 → Int32 → Int32
  | [], b, _ => b
  | mt :: t, b, bit => pF C f wh t (if cI C 0 0 f ≤ mor C wh mt ∧ mor C wh mt ≤ cI C 0 1 f then b ||| bit else b) (bit <<< (1 &&& 31))
def sp_placesFor : Sp := fun as w K => ∃ C f wh lo, ∃ L : List Nat, as = [.ref (cA C 5 wh), .ref (cA C 2 lo), .ref (cA C 0 f)] ∧ RX C w ∧ (f < cN C 0 ∧ wh < cN C 5 ∧ lo < cN C 2 ∧ chL (cL C 5 7) (cL C 2 2 lo) L) ∧ K (some (.int (pF C f wh L 0 1))) w
theorem c_placesFor (l : Launch) : Ct l 51 2 0 0 sp_placesFor := by
  have hev : ∀ (k : Nat) (r : Nat × Nat × Nat × Sp), evL [(44, 1, 0, 0, sp_allows)] k = some r → Ct l k r.1 r.2.1 r.2.2.1 r.2.2.2 := evL_ok (by simpa using c_allows l)
  refine ct_jd (by decide) rfl (fun as w Po h => ?_)
  obtain ⟨C, f, wh, lo, L, rfl, hX, ⟨hf, hw, hl, hL⟩, h⟩ := h
  refine ⟨Nat.le_of_ble_eq_true rfl, ?_⟩
  have key : ∀ (T : List Nat) (c : Nat) (b bit : Int32) (vc : Value), vc = va_rf (adO C 5 c) → c ≤ cN C 5 → chL (cL C 5 7) c T → pF C f wh T b bit = pF C f wh L 0 1 → Jd l 51 2 0 0 (some .int) Po 11 [(5, vc), (4, .int bit), (3, .int b), (0, .ref (cA C 5 wh)), (1, .ref (cA C 2 lo)), (2, .ref (cA C 0 f))] [] w 0 0 := by
    intro T
    induction T with
    | nil =>
      intro c b bit vc evc hc hT hw
      obtain rfl : c = 0 := hT
      subst evc
      rw [← hw] at h
      exact jd_s cdo_51 hev [] 30 z00 h
    | cons mt t ih =>
      intro c b bit vc evc hc hT hq
      obtain ⟨rfl, hT⟩ := hT
      subst evc
      have hm : mt < cN C 5 := hc
      have hlb : cL C 5 7 mt ≤ cN C 5 := hX.lb 5 7 mt (by decide) hm rfl
      have nxt : ∀ b', pF C f wh t b' (bit <<< (1 &&& 31)) = pF C f wh L 0 1 → Jd l 51 2 0 0 (some .int) Po 31 [(5, .ref (cA C 5 mt)), (4, .int bit), (3, .int b'), (0, .ref (cA C 5 wh)), (1, .ref (cA C 2 lo)), (2, .ref (cA C 0 f))] [] w 0 0 := by
        intro b' hw'
        have hgr := hX.gr 5 7 mt (by decide) hm rfl
        have := ih (cL C 5 7 mt) b' (bit <<< (1 &&& 31)) (va_rf (adO C 5 (cL C 5 7 mt))) rfl hlb hT hw'
        revert this hgr
        generalize cL C 5 7 mt = c'
        intro hgr this
        cases c' with
        | zero => exact jd_s cdo_51 hev [11] 30 z00 ⟨hX.k 5 mt hm, _, hgr, jd_pk [0, 1, 2, 3, 4, 5] this⟩
        | succ q => exact jd_s cdo_51 hev [11] 30 z00 ⟨hX.k 5 mt hm, _, hgr, jd_pk [0, 1, 2, 3, 4, 5] this⟩
      rw [pF] at hq
      refine jd_s cdo_51 hev [31] 40 z00 ⟨⟨by decide, by decide, by decide⟩, rfl, hX.k 0 f hf, C, f, wh, mt, rfl, hX, ⟨hf, hw, hm⟩, fun c => br1 ?_, fun c => br0 ?_⟩
      · have c : cI C 0 0 f ≤ mor C wh mt ∧ mor C wh mt ≤ cI C 0 1 f := c
        rw [if_pos c] at hq
        exact jd_pk [1, 2, 0, 3, 4, 5] (nxt _ hq)
      · have c : ¬ (cI C 0 0 f ≤ mor C wh mt ∧ mor C wh mt ≤ cI C 0 1 f) := c
        rw [if_neg c] at hq
        exact nxt _ hq
  have hlb : cL C 2 2 lo ≤ cN C 5 := hX.lb 2 2 lo (by decide) hl rfl
  have hgr := hX.gr 2 2 lo (by decide) hl rfl
  have := key L (cL C 2 2 lo) 0 1 _ rfl hlb hL rfl
  revert this hgr
  generalize cL C 2 2 lo = c'
  intro hgr this
  cases c' with
  | zero => exact jd_s cdo_51 hev [11] 30 z00 ⟨hX.k 2 lo hl, _, hgr, this⟩
  | succ q => exact jd_s cdo_51 hev [11] 30 z00 ⟨hX.k 2 lo hl, _, hgr, this⟩
theorem pF_cong {C D : Cs} (h5 : ∀ k i, cI D 5 k i = cI C 5 k i) (h0 : ∀ k i, cI D 0 k i = cI C 0 k i) (f wh : Nat) : ∀ (L : List Nat) (b bit : Int32), pF D f wh L b bit = pF C f wh L b bit
  | [], _, _ => rfl
  | mt :: t, b, bit => by
    have e : mor D wh mt = mor C wh mt := by unfold mor; rw [h5, h5, h5]
    rw [pF, pF, pF_cong h5 h0 f wh t, e, h0, h0]
def wF (C : Cs) (m : Nat) (e : Nat → Int32) : Cs := (cN C, cA C, cI C, cL C, fun i j => if i = 3 * m then e j else cX C i j)
theorem wF_id (C : Cs) (m : Nat) : wF C m (cX C (3 * m)) = C := by
  have e : (fun i j => if i = 3 * m then cX C (3 * m) j else cX C i j) = cX C := by
    funext i j
    by_cases h : i = 3 * m
    · rw [if_pos h, h]
    · rw [if_neg h]
  show (cN C, cA C, cI C, cL C, fun i j => if i = 3 * m then cX C (3 * m) j else cX C i j) = C
  rw [e]
  rfl
theorem wF_wX (C : Cs) (m : Nat) (e : Nat → Int32) (p : Nat) (v : Int32) : wX (wF C m e) (3 * m) p v = wF C m (hU e p v) := by
  have e2 : u2 (fun i j => if i = 3 * m then e j else cX C i j) (3 * m) p v = fun i j => if i = 3 * m then hU e p v j else cX C i j := by
    funext i j
    unfold u2 hU
    by_cases h : i = 3 * m
    · by_cases h2 : j = p
      · rw [if_pos ⟨h, h2⟩, if_pos h, if_pos h2]
      · rw [if_neg (fun q => h2 q.2)]
        dsimp only
        rw [if_pos h, if_pos h, if_neg h2]
    · rw [if_neg (fun q => h q.1)]
      dsimp only
      rw [if_neg h, if_neg h]
  exact congrArg (fun y => (cN C, cA C, cI C, cL C, y)) e2
theorem wM_id (C : Cs) (m : Nat) : wM C m (cI C 4 4 m, cX C (3 * m + 1)) = C := by
  have e : (fun i j => if i = 3 * m + 1 then cX C (3 * m + 1) j else cX C i j) = cX C := by
    funext i j
    by_cases h : i = 3 * m + 1
    · rw [if_pos h, h]
    · rw [if_neg h]
  show (cN C, cA C, u3 (cI C) 4 4 m (cI C 4 4 m), cL C, fun i j => if i = 3 * m + 1 then cX C (3 * m + 1) j else cX C i j) = C
  rw [u3_id, e]
  rfl
def rF (C : Cs) (f : Nat) (M : List Nat) : List Nat → Nat → (Nat → Int32) → Nat → Int32
  | [], _, e => e
  | wh :: t, i, e => rF C f M t (i + 1) (hU e i (pF C f wh M 0 1))
def cR0 (C : Cs) (m n : Nat) : Cs := wI (wM C m (cI C 4 4 m, flH (cX C (3 * m + 1)) n)) 4 3 m 0
def cRL (n : Nat) (C : Cs) (m f : Nat) (W M : List Nat) : Cs := wF (cR0 C m n) m (rF C f M W 0 (cX C (3 * m)))
theorem cR0_fx {C : Cs} (h : FX C) (m n : Nat) : FX (cR0 C m n) := h
def sp_readM (n : Nat) : Sp := fun as w K => ∃ C m f wl ml, ∃ (W M : List Nat), as = [.ref (cA C 4 m), .ref (cA C 2 wl), .ref (cA C 2 ml), .ref (cA C 0 f)] ∧ RX C w ∧ FX C ∧ (m < 2 ∧ f < 2 ∧ wl < cN C 2 ∧ ml < cN C 2 ∧ n = 10) ∧ (chL (cL C 5 7) (cL C 2 2 wl) W ∧ W.length ≤ 10 ∧ chL (cL C 5 7) (cL C 2 2 ml) M) ∧ ∀ w', RX (cRL n C m f W M) w' → K none w'
theorem c_readM (l : Launch) (n : Nat) : Ct l 49 3 0 0 (sp_readM n) := by
  have hev : ∀ (k : Nat) (r : Nat × Nat × Nat × Sp), evL [(50, 1, 0, 0, sp_fill), (51, 2, 0, 0, sp_placesFor)] k = some r → Ct l k r.1 r.2.1 r.2.2.1 r.2.2.2 := evL_ok (by simpa using ⟨c_fill l, c_placesFor l⟩)
  refine ct_jd (by decide) rfl (fun as w Po h => ?_)
  obtain ⟨C, m, f, wl, ml, W, M, rfl, hX, hF, ⟨hm, hf, hwl, hml, hn⟩, ⟨hW, hW10, hM⟩, h⟩ := h
  have hm4 : m < cN C 4 := by rw [hF.1.2.2.2.1]; exact hm
  have hf0 : f < cN C 0 := by rw [hF.1.2.1]; exact hf
  have h20 : 3 * m + 1 < cN C 20 := by rw [hF.1.2.2.2.2]; omega
  have h20' : 3 * m < cN C 20 := by rw [hF.1.2.2.2.2]; omega
  have l1 : cL C 4 1 m = 3 * m + 1 + 1 := hF.2.2.2 1 m (by decide) hm
  have l0 : cL C 4 0 m = 3 * m + 1 := hF.2.2.2 0 m (by decide) hm
  have q5 : ∀ k i, cI (cR0 C m n) 5 k i = cI C 5 k i := fun k i => cR0_q C m n 5 k i (by decide)
  have q0 : ∀ k i, cI (cR0 C m n) 0 k i = cI C 0 k i := fun k i => cR0_q C m n 0 k i (by decide)
  have eA : cA (cR0 C m n) = cA C := rfl
  have eN : cN (cR0 C m n) = cN C := rfl
  have eL : cL (cR0 C m n) = cL C := rfl
  have eX : cX (cR0 C m n) (3 * m) = cX C (3 * m) := by funext j; exact if_neg (by omega)
  refine ⟨Nat.le_of_ble_eq_true rfl, ?_⟩
  have start : ∀ w2, RX (cR0 C m n) w2 → Jd l 49 3 0 0 none Po 13 [(0, .ref (cA C 4 m)), (1, .ref (cA C 2 wl)), (2, .ref (cA C 2 ml)), (3, .ref (cA C 0 f))] [] w2 0 0 := by
    intro w2 hX2
    rw [cRL] at h
    generalize cR0 C m n = D at *
    have key : ∀ (T : List Nat) (c i : Nat) (e : Nat → Int32) (vc : Value) (w' : Hp), vc = va_rf (adO C 5 c) → c ≤ cN C 5 → chL (cL C 5 7) c T → i + T.length ≤ 10 → RX (wF D m e) w' → (∀ w2, RX (wF D m (rF C f M T i e)) w2 → Po none w2) → Jd l 49 3 0 0 none Po 22 [(5, .int (nI i)), (4, vc), (0, .ref (cA C 4 m)), (1, .ref (cA C 2 wl)), (2, .ref (cA C 2 ml)), (3, .ref (cA C 0 f))] [] w' 0 0 := by
      intro T
      induction T with
      | nil =>
        intro c i e vc w' evc hc hT hi hX hk
        obtain rfl : c = 0 := hT
        subst evc
        exact jd_s cdo_49 hev [] 30 z00 ⟨fun _ => hk _ hX, fun _ => hk _ hX⟩
      | cons wh t ih =>
        intro c i e vc w' evc hc hT hi hX hk
        obtain ⟨rfl, hT⟩ := hT
        subst evc
        rw [List.length_cons] at hi
        have hw : wh < cN C 5 := hc
        have hX0 := hX
        have kA : cA (wF D m e) = cA C := eA
        have kN : cN (wF D m e) = cN C := eN
        have kL : cL (wF D m e) = cL C := eL
        have kp : ∀ b bit, pF (wF D m e) f wh M b bit = pF C f wh M b bit := fun b bit => pF_cong (C := C) (D := wF D m e) q5 q0 f wh M b bit
        generalize eB : wF D m e = B at hX kA kN kL kp
        have hm4' : m < cN B 4 := by rw [kN]; exact hm4
        have hw' : wh < cN B 5 := by rw [kN]; exact hw
        have h20b : 3 * m < cN B 20 := by rw [kN]; exact h20'
        refine jd_s cdo_49 hev [22] 40 z00 ⟨fun c => ?_, fun _ => ?_⟩
        · have := ge_n (a := i) (b := 10) (by omega) (by omega) c
          omega
        rw [← kA]
        refine ⟨hX.k 4 m hm4', _, hX.g1 4 0 m (by decide) hm4' rfl (by rw [kL]; exact l0), ?_⟩
        refine ⟨⟨by decide, by decide, by decide⟩, rfl, Nat.le_of_ble_eq_true rfl, B, f, wh, ml, M, by rw [kA]; rfl, hX, ⟨by rw [kN]; exact hf0, hw', by rw [kN]; exact hml, by rw [kL]; exact hM⟩, ?_⟩
        rw [kp]
        refine ⟨hX.k 20 (3 * m) h20b, i, hX.ixa (3 * m) h20b rfl (by omega), ?_⟩
        have hY := hX.wx (3 * m) i h20b (pF C f wh M 0 1)
        have e2 : wX B (3 * m) i (pF C f wh M 0 1) = wF D m (hU e i (pF C f wh M 0 1)) := by rw [← eB, wF_wX]
        have hlb : cL C 5 7 wh ≤ cN C 5 := by have := hX.lb 5 7 wh (by decide) hw' rfl; rw [kL, kN] at this; exact this
        have hgr := hY.gr 5 7 wh (by decide) hw' rfl
        have hY2 := hY
        rw [e2] at hY2
        have := ih (cL C 5 7 wh) (i + 1) _ (va_rf (adO C 5 (cL C 5 7 wh))) _ rfl hlb hT (by omega) hY2 hk
        rw [← nI_1, ← kA] at this
        have hgr2 : gR _ 5 7 (cA B 5 wh) = adO C 5 (cL C 5 7 wh) := hgr.trans (by
          show adO (wX B (3 * m) i (pF C f wh M 0 1)) 5 (cL B 5 7 wh) = _
          rw [kL]
          cases cL C 5 7 wh with
          | zero => rfl
          | succ q => show some (cA B 5 q) = _; rw [kA]; rfl)
        rw [kA] at hgr2
        have hk5 : gK (sA w' (cA B 20 (3 * m)) i (pF C f wh M 0 1)) (cA C 5 wh) = some 5 := hY.k' 5 wh (by show cA B 5 wh = _; rw [kA]) hw'
        revert this hgr2
        generalize cL C 5 7 wh = c'
        intro this hgr2
        cases c' with
        | zero => exact ⟨hk5, _, hgr2, jd_pk [0, 1, 2, 3, 4, 5] this⟩
        | succ q => exact ⟨hk5, _, hgr2, jd_pk [0, 1, 2, 3, 4, 5] this⟩
    have hwl' : wl < cN D 2 := by rw [eN]; exact hwl
    have hlb : cL C 2 2 wl ≤ cN C 5 := by have := hX2.lb 2 2 wl (by decide) hwl' rfl; rw [eL, eN] at this; exact this
    have hgr := hX2.gr 2 2 wl (by decide) hwl' rfl
    have := key W (cL C 2 2 wl) 0 (cX C (3 * m)) (va_rf (adO C 5 (cL C 2 2 wl))) w2 rfl hlb hW (by omega) (by rw [← eX, wF_id]; exact hX2) h
    have hgr2 : gR w2 2 2 (cA C 2 wl) = adO C 5 (cL C 2 2 wl) := by
      rw [← eA, hgr, eL]
      show adO D 5 (cL C 2 2 wl) = _
      cases cL C 2 2 wl with
      | zero => rfl
      | succ q => show some (cA D 5 q) = _; rw [eA]; rfl
    have hk2 : gK w2 (cA C 2 wl) = some 2 := hX2.k' 2 wl (by rw [eA]) hwl'
    revert this hgr2
    generalize cL C 2 2 wl = c'
    intro this hgr2
    cases c' with
    | zero => exact jd_s cdo_49 hev [22] 30 z00 ⟨hk2, _, hgr2, this⟩
    | succ q => exact jd_s cdo_49 hev [22] 30 z00 ⟨hk2, _, hgr2, this⟩
  have hX1 := hX
  rw [← wM_id C m] at hX1
  refine jd_s cdo_49 hev [13] 30 z00 ⟨hX.k 4 m hm4, _, hX.g1 4 1 m (by decide) hm4 rfl l1, ?_⟩
  refine ⟨⟨by decide, by decide, by decide⟩, rfl, Nat.le_of_ble_eq_true rfl, cA C 20 (3 * m + 1), -1, n, rfl, hX.k 20 (3 * m + 1) h20, (hX.xn (3 * m + 1) h20).trans hn.symm, by omega, ?_⟩
  have hX2 := RX_fl h20 hX1 n
  refine ⟨hX2.k 4 m hm4, ?_⟩
  exact start _ (hX2.wi 4 3 m hm4 0)
