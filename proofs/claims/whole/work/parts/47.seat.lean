/-! THE CLASS: seats: one more wheel, others moved -/
abbrev St : Type := Int32 × (Nat → Int32)
def bt (p : Nat) : Int32 := 1 <<< (nI p &&& 31)
def b2i (b : Bool) : Int32 := if b = true then 1 else 0
def hU (h : Nat → Int32) (p : Nat) (v : Int32) : Nat → Int32 := fun j => if j = p then v else h j
def sLp (rc : Int32 → St → Bool × St) (fw gv wh : Int32) : Nat → Nat → St → Bool × St
  | 0, _, s => (false, s)
  | d + 1, p, s => if fw &&& (gv ^^^ -1) &&& (s.1 ^^^ -1) &&& bt p = 0 then sLp rc fw gv wh d (p + 1) s else if s.2 p = -1 then (true, (s.1 ||| bt p, hU s.2 p wh)) else match rc (s.2 p) (s.1 ||| bt p, s.2) with
    | (true, s2) => (true, (s2.1, hU s2.2 p wh))
    | (false, s2) => sLp rc fw gv wh d (p + 1) s2
def sOM (ft : Nat → Int32) (gv : Int32) : Nat → Int32 → St → Bool × St
  | 0, _, s => (false, s)
  | f + 1, wh, s => if 0 ≤ wh ∧ wh < 10 then sLp (sOM ft gv f) (ft (pN wh)) gv wh 10 0 s else (false, s)
/-- what the seats of mates m are -/
def wM (C : Cs) (m : Nat) (s : St) : Cs := (cN C, cA C, u3 (cI C) 4 4 m s.1, cL C, fun i j => if i = 3 * m + 1 then s.2 j else cX C i j)
theorem u3_u3 {α : Type} (f : Nat → Nat → Nat → α) (a b c : Nat) (x y : α) : u3 (u3 f a b c x) a b c y = u3 f a b c y := by
  funext i j k
  unfold u3
  by_cases h : i = a ∧ j = b ∧ k = c
  · rw [if_pos h, if_pos h]
  · rw [if_neg h, if_neg h, if_neg h]
theorem wM_wI (C : Cs) (m : Nat) (s : St) (v : Int32) : wI (wM C m s) 4 4 m v = wM C m (v, s.2) := by
  show (cN C, cA C, u3 (u3 (cI C) 4 4 m s.1) 4 4 m v, cL C, _) = (cN C, cA C, u3 (cI C) 4 4 m v, cL C, _)
  rw [u3_u3]
  rfl
theorem wM_wX (C : Cs) (m : Nat) (s : St) (p : Nat) (v : Int32) : wX (wM C m s) (3 * m + 1) p v = wM C m (s.1, hU s.2 p v) := by
  have e : u2 (fun i j => if i = 3 * m + 1 then s.2 j else cX C i j) (3 * m + 1) p v = fun i j => if i = 3 * m + 1 then hU s.2 p v j else cX C i j := by
    funext i j
    unfold u2 hU
    by_cases h : i = 3 * m + 1
    · by_cases h2 : j = p
      · rw [if_pos ⟨h, h2⟩, if_pos h, if_pos h2]
      · rw [if_neg (fun q => h2 q.2)]
        dsimp only
        rw [if_pos h, if_pos h, if_neg h2]
    · rw [if_neg (fun q => h q.1)]
      dsimp only
      rw [if_neg h, if_neg h]
  show (cN C, cA C, u3 (cI C) 4 4 m s.1, cL C, u2 (fun i j => if i = 3 * m + 1 then s.2 j else cX C i j) (3 * m + 1) p v) = (cN C, cA C, u3 (cI C) 4 4 m s.1, cL C, _)
  rw [e]
theorem wM_fx {C : Cs} (h : FX C) (m : Nat) (s : St) : FX (wM C m s) := h
theorem wM_44 (C : Cs) (m : Nat) (s : St) : cI (wM C m s) 4 4 m = s.1 := u3_e
theorem wM_43 (C : Cs) (m : Nat) (s : St) : cI (wM C m s) 4 3 m = cI C 4 3 m := by
  show u3 (cI C) 4 4 m s.1 4 3 m = _
  exact u3_k (by decide)
theorem wM_X1 (C : Cs) (m : Nat) (s : St) (j : Nat) : cX (wM C m s) (3 * m + 1) j = s.2 j := if_pos rfl
theorem wM_X0 (C : Cs) (m : Nat) (s : St) (j : Nat) : cX (wM C m s) (3 * m) j = cX C (3 * m) j := if_neg (by omega)
def sp_sOM (f : Nat) : Sp := fun as w K => ∃ C m s wh, as = [.ref (cA C 4 m), .int wh, .int (nI (11 - f))] ∧ RX (wM C m s) w ∧ FX C ∧ (m < 2 ∧ f ≤ 11) ∧ ∀ w', RX (wM C m (sOM (cX C (3 * m)) (cI C 4 3 m) f wh s).2) w' → K (some (.int (b2i (sOM (cX C (3 * m)) (cI C 4 3 m) f wh s).1))) w'
theorem c_sOM (l : Launch) : ∀ f, Ct l 55 (f + 1) 0 0 (sp_sOM f) := by
  intro f
  induction f with
  | zero =>
    refine ct_jd (by decide) rfl (fun as w Po h => ?_)
    obtain ⟨C, m, s, wh, rfl, hX, hF, ⟨hm, -⟩, h⟩ := h
    refine ⟨Nat.le_of_ble_eq_true rfl, jd_run cdo_55 ev0 30 z00 ?_⟩
    exact ⟨fun _ => ⟨Or.inl rfl, h _ hX⟩, fun _ => ⟨fun _ => ⟨Or.inl rfl, h _ hX⟩, fun _ => ⟨fun c => absurd c (by decide), fun _ => ⟨Or.inl rfl, h _ hX⟩⟩⟩⟩
  | succ f ihf =>
    have hev : ∀ (k : Nat) (r : Nat × Nat × Nat × Sp), evL [(55, f + 1, 0, 0, sp_sOM f)] k = some r → Ct l k r.1 r.2.1 r.2.2.1 r.2.2.2 := evL_ok (by simpa using ihf)
    refine ct_jd (by decide) rfl (fun as w Po h => ?_)
    obtain ⟨C, m, s, wh, rfl, hX, hF, ⟨hm, hf⟩, h⟩ := h
    have hm4 : m < cN C 4 := by rw [hF.1.2.2.2.1]; exact hm
    have h20 : 3 * m + 1 < cN C 20 := by rw [hF.1.2.2.2.2]; omega
    have h20' : 3 * m < cN C 20 := by rw [hF.1.2.2.2.2]; omega
    have l0 : cL C 4 0 m = 3 * m + 1 := hF.2.2.2 0 m (by decide) hm
    have l1 : cL C 4 1 m = 3 * m + 1 + 1 := hF.2.2.2 1 m (by decide) hm
    have e11 : nI (11 - (f + 1)) + 1 = nI (11 - f) := by rw [nI_1]; exact congrArg nI (by omega)
    refine ⟨Nat.le_of_ble_eq_true rfl, ?_⟩
    have key : ∀ j, j < 10 → wh = nI j → ∀ d p s w', p + d = 10 → RX (wM C m s) w' → (∀ w2, RX (wM C m (sLp (sOM (cX C (3 * m)) (cI C 4 3 m) f) (cX C (3 * m) j) (cI C 4 3 m) wh d p s).2) w2 → Po (some (.int (b2i (sLp (sOM (cX C (3 * m)) (cI C 4 3 m) f) (cX C (3 * m) j) (cI C 4 3 m) wh d p s).1))) w2) → Jd l 55 (f + 1 + 1) 0 0 (some .boolean) Po 20 [(3, .int (nI p)), (0, .ref (cA C 4 m)), (1, .int wh), (2, .int (nI (11 - (f + 1))))] [] w' 0 0 := by
      intro j hj ej d
      induction d with
      | zero =>
        intro p s w' hp hX hk
        obtain rfl : p = 10 := by omega
        exact jd_s cdo_55 hev [] 20 z00 ⟨fun _ => ⟨Or.inl rfl, hk _ hX⟩, fun c => absurd (by decide) c⟩
      | succ d ih =>
        intro p s w' hp hX hk
        rw [sLp] at hk
        have hF1 := wM_fx hF m s
        have last : ∀ s2 w2, RX (wM C m s2) w2 → (∀ w3, RX (wM C m (s2.1, hU s2.2 p wh)) w3 → Po (some (.int 1)) w3) → Jd l 55 (f + 1 + 1) 0 0 (some .boolean) Po 97 [(4, .int (bt p)), (3, .int (nI p)), (0, .ref (cA C 4 m)), (1, .int wh), (2, .int (nI (11 - (f + 1))))] [] w2 0 0 := by
          intro s2 w2 hX hk
          refine jd_s cdo_55 hev [] 20 z00 ⟨hX.k 4 m hm4, _, hX.g1 4 1 m (by decide) hm4 rfl l1, hX.k 20 (3 * m + 1) h20, p, hX.ixa (3 * m + 1) h20 rfl (by omega), Or.inr rfl, ?_⟩
          have hX := hX.wx (3 * m + 1) p h20 wh
          rw [wM_wX] at hX
          exact hk _ hX
        have next : ∀ s2 w2, RX (wM C m s2) w2 → (∀ w3, RX (wM C m (sLp (sOM (cX C (3 * m)) (cI C 4 3 m) f) (cX C (3 * m) j) (cI C 4 3 m) wh d (p + 1) s2).2) w3 → Po (some (.int (b2i (sLp (sOM (cX C (3 * m)) (cI C 4 3 m) f) (cX C (3 * m) j) (cI C 4 3 m) wh d (p + 1) s2).1))) w3) → Jd l 55 (f + 1 + 1) 0 0 (some .boolean) Po 106 [(4, .int (bt p)), (3, .int (nI p)), (0, .ref (cA C 4 m)), (1, .int wh), (2, .int (nI (11 - (f + 1))))] [] w2 0 0 := by
          intro s2 w2 hX hk
          have := ih (p + 1) s2 w2 (by omega) hX hk
          rw [← nI_1] at this
          exact jd_s cdo_55 hev [20] 20 z00 (jd_pk [0, 2, 3, 4] this)
        refine jd_s cdo_55 hev [60, 106] 40 z00 ⟨fun c => ?_, fun _ => ?_⟩
        · have := ge_n (a := p) (b := 10) (by omega) (by omega) c
          omega
        refine ⟨hX.k 4 m hm4, _, hX.g1 4 0 m (by decide) hm4 rfl l0, hX.k 20 (3 * m) h20', j, _, hX.ixa (3 * m) h20' ej hj, (hX.xa (3 * m) j h20').trans (wM_X0 C m s j), ?_⟩
        refine ⟨hX.k 4 m hm4, _, (hX.gi 4 3 m (by decide) hm4 rfl).trans (wM_43 C m s), hX.k 4 m hm4, _, (hX.gi 4 4 m (by decide) hm4 rfl).trans (wM_44 C m s), fun c => ?_, fun c => ?_⟩
        · have c : ¬ cX C (3 * m) j &&& (cI C 4 3 m ^^^ -1) &&& (s.1 ^^^ -1) &&& bt p = 0 := c
          rw [if_neg c] at hk
          refine jd_s cdo_55 hev [71] 40 z00 ⟨hX.k 4 m hm4, _, (hX.gi 4 4 m (by decide) hm4 rfl).trans (wM_44 C m s), hX.k 4 m hm4, ?_⟩
          have hX := hX.wi 4 4 m hm4 (s.1 ||| bt p)
          rw [wM_wI] at hX
          have go : ∀ w3, RX (wM C m (s.1 ||| bt p, s.2)) w3 → Jd l 55 (f + 1 + 1) 0 0 (some .boolean) Po 71 [(4, .int (bt p)), (3, .int (nI p)), (0, .ref (cA C 4 m)), (1, .int wh), (2, .int (nI (11 - (f + 1))))] [] w3 0 0 := by
            intro w3 hX
            refine jd_s cdo_55 hev [97, 106] 40 z00 ⟨hX.k 4 m hm4, _, hX.g1 4 1 m (by decide) hm4 rfl l1, hX.k 20 (3 * m + 1) h20, p, _, hX.ixa (3 * m + 1) h20 rfl (by omega), (hX.xa (3 * m + 1) p h20).trans (wM_X1 C m _ p), fun c2 => ?_, fun c2 => ?_⟩
            · have c2 : s.2 p = -1 := c2
              rw [if_pos c2] at hk
              exact last _ _ hX hk
            · have c2 : ¬ s.2 p = -1 := c2
              rw [if_neg c2] at hk
              refine ⟨hX.k 4 m hm4, _, hX.g1 4 1 m (by decide) hm4 rfl l1, hX.k 20 (3 * m + 1) h20, p, _, hX.ixa (3 * m + 1) h20 rfl (by omega), (hX.xa (3 * m + 1) p h20).trans (wM_X1 C m _ p), ?_⟩
              refine ⟨⟨Nat.lt_succ_self _, Nat.le_refl _, Nat.le_refl _⟩, rfl, hX.k 4 m hm4, C, m, (s.1 ||| bt p, s.2), s.2 p, by rw [← e11]; rfl, hX, hF, ⟨hm, by omega⟩, ?_⟩
              revert hk
              cases er : sOM (cX C (3 * m)) (cI C 4 3 m) f (s.2 p) (s.1 ||| bt p, s.2) with
              | mk b s2 =>
                intro hk w4 hX4
                cases b with
                | true => exact br1 (last s2 w4 hX4 hk)
                | false => exact br0 (next s2 w4 hX4 hk)
          exact go _ hX
        · have c : cX C (3 * m) j &&& (cI C 4 3 m ^^^ -1) &&& (s.1 ^^^ -1) &&& bt p = 0 := c
          rw [if_pos c] at hk
          exact next s w' hX hk
    rw [sOM] at h
    refine jd_s cdo_55 hev [20] 30 z00 ⟨fun c => ?_, fun c => ?_⟩
    · rw [if_neg (fun q => lt_nle c q.1)] at h
      exact ⟨Or.inl rfl, h _ hX⟩
    obtain ⟨j, hj, rfl⟩ := nlt0 c
    refine ⟨fun c2 => ?_, fun c2 => ?_⟩
    · rw [if_neg (fun q => lt_nle q.2 c2)] at h
      exact ⟨Or.inl rfl, h _ hX⟩
    have hj10 : j < 10 := (nI_ltI (b := 10) hj (by omega)).mp (nle_lt c2)
    rw [if_pos ⟨nlt_le c, nle_lt c2⟩, pN_n (by omega)] at h
    refine ⟨fun _ => ?_, fun c3 => absurd (nI_le (b := 10) (by omega) (by decide)) c3⟩
    exact key j hj10 rfl 10 0 s w (by omega) hX h
