/-! THE CLASS: the most -/
def cMR (n : Nat) (C : Cs) (wl : Nat) (P W S : List Nat) : Cs := cRL n (cRL n (wI C 3 2 0 (if cI C 2 4 wl ≤ 10 then cI C 2 4 wl else 10)) 0 0 W P) 1 1 W S
theorem cRL_fx {C : Cs} (h : FX C) (n m f : Nat) (W M : List Nat) : FX (cRL n C m f W M) := h
theorem cRL_N (C : Cs) (n m f : Nat) (W M : List Nat) : cN (cRL n C m f W M) = cN C := rfl
theorem cRL_A (C : Cs) (n m f : Nat) (W M : List Nat) : cA (cRL n C m f W M) = cA C := rfl
theorem cRL_L (C : Cs) (n m f : Nat) (W M : List Nat) : cL (cRL n C m f W M) = cL C := rfl
def sp_readAll (n : Nat) : Sp := fun as w K => ∃ C pl wl sl, ∃ (P W S : List Nat), as = [.ref (cA C 3 0), .ref (cA C 2 pl), .ref (cA C 2 wl), .ref (cA C 2 sl), .ref (cA C 0 0), .ref (cA C 0 1)] ∧ RX C w ∧ FX C ∧ (pl < cN C 2 ∧ wl < cN C 2 ∧ sl < cN C 2 ∧ n = 10) ∧ (chL (cL C 5 7) (cL C 2 2 pl) P ∧ chL (cL C 5 7) (cL C 2 2 wl) W ∧ chL (cL C 5 7) (cL C 2 2 sl) S ∧ W.length ≤ 10) ∧ ∀ w', RX (cMR n C wl P W S) w' → K none w'
theorem c_readAll (l : Launch) (n : Nat) : Ct l 47 4 0 0 (sp_readAll n) := by
  have hev : ∀ (k : Nat) (r : Nat × Nat × Nat × Sp), evL [(48, 1, 0, 0, sp_min), (49, 3, 0, 0, sp_readM n)] k = some r → Ct l k r.1 r.2.1 r.2.2.1 r.2.2.2 := evL_ok (by simpa using ⟨c_min l, c_readM l n⟩)
  refine ct_jd (by decide) rfl (fun as w Po h => ?_)
  obtain ⟨C, pl, wl, sl, P, W, S, rfl, hX, hF, ⟨hp, hw, hs, hn⟩, ⟨hP, hW, hS, hW10⟩, h⟩ := h
  have h3 : 0 < cN C 3 := by rw [hF.1.2.2.1]; decide
  have h4 : 0 < cN C 4 := by rw [hF.1.2.2.2.1]; decide
  have h41 : 1 < cN C 4 := by rw [hF.1.2.2.2.1]; decide
  have m2 : ∀ D w2, RX D w2 → FX D → cN D = cN C → cA D = cA C → cL D = cL C → (∀ w', RX (cRL n D 1 1 W S) w' → Po none w') → Jd l 47 4 0 0 none Po 24 [(0, .ref (cA C 3 0)), (1, .ref (cA C 2 pl)), (2, .ref (cA C 2 wl)), (3, .ref (cA C 2 sl)), (4, .ref (cA C 0 0)), (5, .ref (cA C 0 1))] [] w2 0 0 := by
    intro D w2 hX hF eN eA eL hk
    rw [← eN] at h3 h41 hw hs
    rw [← eL] at hW hS
    rw [← eA]
    refine jd_s cdo_47 hev [] 30 z00 ⟨hX.k 3 0 h3, _, hX.g1 3 1 0 (by decide) h3 rfl hF.2.2.1.2, ?_⟩
    exact ⟨⟨show 3 < 4 by decide, Nat.le_refl _, Nat.le_refl _⟩, rfl, hX.k 4 1 h41, D, 1, 1, wl, sl, W, S, rfl, hX, hF, ⟨by decide, by decide, hw, hs, hn⟩, ⟨hW, hW10, hS⟩, hk⟩
  have m1 : ∀ D w2, RX D w2 → FX D → cN D = cN C → cA D = cA C → cL D = cL C → (∀ w', RX (cRL n (cRL n D 0 0 W P) 1 1 W S) w' → Po none w') → Jd l 47 4 0 0 none Po 13 [(0, .ref (cA C 3 0)), (1, .ref (cA C 2 pl)), (2, .ref (cA C 2 wl)), (3, .ref (cA C 2 sl)), (4, .ref (cA C 0 0)), (5, .ref (cA C 0 1))] [] w2 0 0 := by
    intro D w2 hX hF eN eA eL hk
    have h3' : 0 < cN D 3 := by rw [eN]; exact h3
    have h4' : 0 < cN D 4 := by rw [eN]; exact h4
    have hp' : pl < cN D 2 := by rw [eN]; exact hp
    have hw' : wl < cN D 2 := by rw [eN]; exact hw
    have hW' : chL (cL D 5 7) (cL D 2 2 wl) W := by rw [eL]; exact hW
    have hP' : chL (cL D 5 7) (cL D 2 2 pl) P := by rw [eL]; exact hP
    refine jd_s cdo_47 hev [24] 30 z00 ⟨hX.k' 3 0 (by rw [eA]) h3', some (cA D 4 0), (hX.gr' 3 0 0 (by rw [eA]) (by decide) h3' rfl).trans (by rw [hF.2.2.1.1]; rfl), ?_⟩
    refine ⟨⟨show 3 < 4 by decide, Nat.le_refl _, Nat.le_refl _⟩, rfl, hX.k 4 0 h4', D, 0, 0, wl, pl, W, P, by rw [eA]; rfl, hX, hF, ⟨by decide, by decide, hw', hp', hn⟩, ⟨hW', hW10, hP'⟩, fun w3 hX3 => ?_⟩
    exact m2 _ w3 hX3 (cRL_fx hF _ _ _ _ _) eN eA eL hk
  refine ⟨Nat.le_of_ble_eq_true rfl, jd_s cdo_47 hev [13] 30 z00 ⟨hX.k 2 wl hw, _, hX.gi 2 4 wl (by decide) hw rfl, ?_⟩⟩
  refine ⟨⟨show 1 < 4 by decide, Nat.le_refl _, Nat.le_refl _⟩, rfl, Nat.le_of_ble_eq_true rfl, cI C 2 4 wl, 10, rfl, ?_⟩
  refine ⟨hX.k 3 0 h3, ?_⟩
  exact m1 _ _ (hX.wi 3 2 0 h3 (if cI C 2 4 wl ≤ 10 then cI C 2 4 wl else 10)) (FX_wI hF _ _ _ _) rfl rfl rfl h
def tWD (fu f : Nat) (D : Cs) : Ts := tW fu (cX D 0) (cX D 3) (cI D 4 3 0) (cI D 4 3 1) (cI D 3 2 0) f 0 0 0 ((-1, cI D 3 4 0), ((cI D 4 4 0, cX D 1), (cI D 4 4 1, cX D 4)))
def cCh (fu f : Nat) (D : Cs) : Cs := wT D (tWD fu f D)
theorem wT_id (D : Cs) : wT D ((cI D 3 3 0, cI D 3 4 0), ((cI D 4 4 0, cX D 1), (cI D 4 4 1, cX D 4))) = D := by
  have e : wB D (cI D 3 3 0, cI D 3 4 0) = D := by
    show (cN D, cA D, u3 (u3 (cI D) 3 3 0 (cI D 3 3 0)) 3 4 0 (cI D 3 4 0), cL D, cX D) = D
    rw [u3_id, u3_id]
    rfl
  show wM (wM (wB D (cI D 3 3 0, cI D 3 4 0)) 0 (cI D 4 4 0, cX D 1)) 1 (cI D 4 4 1, cX D 4) = D
  rw [e, show wM D 0 (cI D 4 4 0, cX D 1) = D from wM_id D 0, show wM D 1 (cI D 4 4 1, cX D 4) = D from wM_id D 1]
def okL (C : Cs) (nl : Nat) (x k : Int32) (j : Nat) : Prop := j < nl ∧ x = nI j ∧ cI C 2 5 j = 0 ∧ cI C 2 1 j = k ∧ cI C 2 4 j ≤ 10
def LR (C : Cs) (nl : Nat) (R : Nat → List Nat) : Prop := ∀ j, j < nl → chL (cL C 5 7) (cL C 2 2 j) (R j) ∧ cI C 2 4 j = nI (R j).length ∧ (R j).length ≤ 300
theorem LR.s {C : Cs} {nl j : Nat} {R : Nat → List Nat} {x k : Int32} (h : LR C nl R) (o : okL C nl x k j) : (R j).length ≤ 10 := by
  obtain ⟨h1, h2, h3⟩ := h j o.1
  have := o.2.2.2.2
  rw [h2] at this
  exact ge_n (a := 10) (by decide) (by omega) this
def sp_cmost (n fu f : Nat) : Sp := fun as w K => ∃ C x y z nl, ∃ R : Nat → List Nat, as = [.ref (cA C 9 0), .int x, .int y, .int z] ∧ RX C w ∧ FX C ∧ NB C 24 2 8 60 nl ∧ LR C nl R ∧ n = 10 ∧ (∀ a b c, okL C nl x 0 a → okL C nl y 1 b → okL C nl z 2 c → ∀ w', RX (cCh fu f (cMR n C b (R a) (R b) (R c))) w' → K (some (.int (tWD fu f (cMR n C b (R a) (R b) (R c))).1.1)) w') ∧ ((¬ ∃ a b c, okL C nl x 0 a ∧ okL C nl y 1 b ∧ okL C nl z 2 c) → K (some (.int (-1))) w)
theorem cMR_fx {C : Cs} (h : FX C) (n wl : Nat) (P W S : List Nat) : FX (cMR n C wl P W S) := h
theorem c_cmost (l : Launch) (n fu f : Nat) (hfu : fu = 11) (hf : f = 11) : Ct l 45 27 0 0 (sp_cmost n fu f) := by
  have hev : ∀ (k : Nat) (r : Nat × Nat × Nat × Sp), evL [(46, 3, 0, 0, sp_lotForMaking), (47, 4, 0, 0, sp_readAll n), (52, 26, 0, 0, sp_choose fu f)] k = some r → Ct l k r.1 r.2.1 r.2.2.1 r.2.2.2 := evL_ok (by simpa using ⟨c_lotForMaking l, c_readAll l n, c_choose l fu f hfu hf⟩)
  refine ct_jd (by decide) rfl (fun as w Po h => ?_)
  obtain ⟨C, x, y, z, nl, R, rfl, hX, hF, hN, hR, hn, h1, h2⟩ := h
  have h3 : 0 < cN C 3 := by rw [hF.1.2.2.1]; decide
  have h0 : 0 < cN C 0 := by rw [hF.1.2.1]; decide
  have e2 := hN.2.2.1
  refine ⟨Nat.le_of_ble_eq_true rfl, jd_run cdo_45 hev 60 z00 ?_⟩
  refine ⟨⟨show 3 < 27 by decide, Nat.le_refl _, Nat.le_refl _⟩, rfl, hX.k 9 0 hF.x, C, x, 0, nl, rfl, hX, hF, hN, fun a ha xa a5 a1 a4 => ?_, fun q => ?_⟩
  · refine ⟨⟨show 3 < 27 by decide, Nat.le_refl _, Nat.le_refl _⟩, rfl, hX.k 9 0 hF.x, C, y, 1, nl, rfl, hX, hF, hN, fun b hb yb b5 b1 b4 => ?_, fun q => ?_⟩
    · refine ⟨⟨show 3 < 27 by decide, Nat.le_refl _, Nat.le_refl _⟩, rfl, hX.k 9 0 hF.x, C, z, 2, nl, rfl, hX, hF, hN, fun c hc zc c5 c1 c4 => ?_, fun q => ?_⟩
      · have oa : okL C nl x 0 a := ⟨ha, xa, a5, a1, a4⟩
        have ob : okL C nl y 1 b := ⟨hb, yb, b5, b1, b4⟩
        have oc : okL C nl z 2 c := ⟨hc, zc, c5, c1, c4⟩
        have h1 := h1 a b c oa ob oc
        refine ⟨hX.k 9 0 hF.x, _, hX.g1 9 6 0 (by decide) hF.x rfl hF.l6, hX.k 9 0 hF.x, _, hX.g1 9 4 0 (by decide) hF.x rfl hF.l4, hX.k 9 0 hF.x, _, hX.g1 9 5 0 (by decide) hF.x rfl hF.l5, ?_⟩
        refine ⟨⟨show 4 < 27 by decide, Nat.le_refl _, Nat.le_refl _⟩, rfl, hX.k 3 0 h3, C, a, b, c, R a, R b, R c, rfl, hX, hF, ⟨by rw [e2]; exact ha, by rw [e2]; exact hb, by rw [e2]; exact hc, hn⟩, ⟨(hR a ha).1, (hR b hb).1, (hR c hc).1, hR.s ob⟩, fun w2 hX2 => ?_⟩
        have hF2 := cMR_fx hF n b (R a) (R b) (R c)
        have eA : cA (cMR n C b (R a) (R b) (R c)) = cA C := rfl
        have eN : cN (cMR n C b (R a) (R b) (R c)) = cN C := rfl
        generalize cMR n C b (R a) (R b) (R c) = D at *
        rw [← eA]
        rw [← eN] at h3
        refine ⟨hX2.k 9 0 hF2.x, _, hX2.g1 9 6 0 (by decide) hF2.x rfl hF2.l6, ?_⟩
        have hX3 := hX2
        rw [← wT_id D] at hX3
        exact ⟨⟨show 26 < 27 by decide, Nat.le_refl _, Nat.le_refl _⟩, rfl, hX2.k 3 0 h3, D, _, rfl, hX3, hF2, h1⟩
      · exact h2 (fun ⟨_, _, c, _, _, oc⟩ => q ⟨c, oc⟩)
    · have no := h2 (fun ⟨_, b, _, _, ob, _⟩ => q ⟨b, ob⟩)
      exact ⟨⟨show 3 < 27 by decide, Nat.le_refl _, Nat.le_refl _⟩, rfl, hX.k 9 0 hF.x, C, z, 2, nl, rfl, hX, hF, hN, fun c hc zc c5 c1 c4 => no, fun q => no⟩
  · have no := h2 (fun ⟨a, _, _, oa, _, _⟩ => q ⟨a, oa⟩)
    refine ⟨⟨show 3 < 27 by decide, Nat.le_refl _, Nat.le_refl _⟩, rfl, hX.k 9 0 hF.x, C, y, 1, nl, rfl, hX, hF, hN, fun b hb yb b5 b1 b4 => ?_, fun q => ?_⟩
    · exact ⟨⟨show 3 < 27 by decide, Nat.le_refl _, Nat.le_refl _⟩, rfl, hX.k 9 0 hF.x, C, z, 2, nl, rfl, hX, hF, hN, fun c hc zc c5 c1 c4 => no, fun q => no⟩
    · exact ⟨⟨show 3 < 27 by decide, Nat.le_refl _, Nat.le_refl _⟩, rfl, hX.k 9 0 hF.x, C, z, 2, nl, rfl, hX, hF, hN, fun c hc zc c5 c1 c4 => no, fun q => no⟩
def cDT (lo : Nat) : List Nat → Nat → Cs → Cs
  | [], _, D => D
  | p :: t, b, D => if cI D 5 5 p = 0 then cDT lo t (p + 1) D else cDT lo t b (cUnl D lo b p)
theorem cUnl_57 (D : Cs) (lo b p x : Nat) (h : b ≠ x + 1) : cL (cUnl D lo b p) 5 7 x = cL D 5 7 x := by
  have e1 : cL (cUn1 D lo b p) 5 7 x = cL D 5 7 x := by
    cases b with
    | zero => exact (cL_wL D 2 2 lo _ 5 7 x).trans (if_neg (fun q => absurd q.1 (by decide)))
    | succ q => exact (cL_wL D 5 7 q _ 5 7 x).trans (if_neg (fun z => h (by rw [z.2.2])))
  unfold cUnl
  rw [cL_wI]
  split
  · rw [cL_wL, if_neg (fun q => absurd q.1 (by decide)), e1]
  · exact e1
theorem chL_cong {f g : Nat → Nat} : ∀ {c : Nat} {T : List Nat}, (∀ x, x ∈ T → f x = g x) → chL f c T → chL g c T
  | _, [], _, h => h
  | _, p :: t, hc, h => ⟨h.1, by rw [← hc p (List.mem_cons_self ..)]; exact chL_cong (fun x hx => hc x (List.mem_cons_of_mem _ hx)) h.2⟩
theorem cDT_Kp (lo : Nat) : ∀ T b D, Kp D (cDT lo T b D)
  | [], _, D => Kp.rf D
  | p :: t, b, D => by
    unfold cDT
    split
    · exact cDT_Kp lo t _ _
    · exact (cUnl_Kp _ _ _ _).tr (cDT_Kp lo t _ _)
def sp_dropTaken : Sp := fun as w K => ∃ C lo, ∃ T : List Nat, as = [.ref (cA C 2 lo)] ∧ RX C w ∧ lo < cN C 2 ∧ (chL (cL C 5 7) (cL C 2 2 lo) T ∧ T.Nodup) ∧ ∀ w', RX (cDT lo T 0 C) w' → K none w'
theorem c_dropTaken (l : Launch) : Ct l 68 2 0 0 sp_dropTaken := by
  have hev : ∀ (k : Nat) (r : Nat × Nat × Nat × Sp), evL [(16, 1, 0, 0, sp_unlink)] k = some r → Ct l k r.1 r.2.1 r.2.2.1 r.2.2.2 := evL_ok (by simpa using c_unlink l)
  refine ct_jd (by decide) rfl (fun as w Po h => ?_)
  obtain ⟨C, lo, T, rfl, hX, hl, ⟨hT, hnd⟩, h⟩ := h
  refine ⟨Nat.le_of_ble_eq_true rfl, ?_⟩
  have key : ∀ (T : List Nat) (c b : Nat) (D : Cs) (vc vb : Value) (w' : Hp), vc = va_rf (adO C 5 c) → vb = va_rf (adO C 5 b) → c ≤ cN C 5 → b ≤ cN C 5 → Kp C D → RX D w' → chL (cL D 5 7) c T → T.Nodup → (∀ x, x ∈ T → b ≠ x + 1) → (∀ w2, RX (cDT lo T b D) w2 → Po none w2) → Jd l 68 2 0 0 none Po 7 [(2, vc), (1, vb), (0, .ref (cA C 2 lo))] [] w' 0 0 := by
    intro T
    induction T with
    | nil =>
      intro c b D vc vb w' evc evb hc hb hK hX hT hnd hbt hk
      obtain rfl : c = 0 := hT
      subst evc
      exact jd_s cdo_68 hev [] 20 z00 (hk _ hX)
    | cons p t ih =>
      intro c b D vc vb w' evc evb hc hb hK hX hT hnd hbt hk
      obtain ⟨rfl, hT⟩ := hT
      subst evc
      have hp : p < cN C 5 := hc
      have hpD : p < cN D 5 := by rw [hK.1.2.1]; exact hp
      have hlD : lo < cN D 2 := by rw [hK.1.2.1]; exact hl
      have aO : ∀ E, cA E = cA C → ∀ c', adO E 5 c' = adO C 5 c' := fun E e c' => by
        cases c' with
        | zero => rfl
        | succ q => show some (cA E 5 q) = some (cA C 5 q); rw [e]
      have hndt := (List.nodup_cons.mp hnd)
      rw [cDT] at hk
      have next : ∀ (b' : Nat) (vb' : Value) (E : Cs) (w2 : Hp), vb' = va_rf (adO C 5 b') → b' ≤ cN C 5 → Kp C E → RX E w2 → cL E 5 7 p = cL D 5 7 p → chL (cL E 5 7) (cL D 5 7 p) t → (∀ x, x ∈ t → b' ≠ x + 1) → (∀ w3, RX (cDT lo t b' E) w3 → Po none w3) → Jd l 68 2 0 0 none Po 29 [(2, .ref (cA C 5 p)), (1, vb'), (0, .ref (cA C 2 lo))] [] w2 0 0 := by
        intro b' vb' E w2 evb' hb' hKE hXE eE hTE hbt' hkE
        have hpE : p < cN E 5 := by rw [hKE.1.2.1]; exact hp
        have hlb : cL D 5 7 p ≤ cN C 5 := by have := hXE.lb 5 7 p (by decide) hpE rfl; rw [eE] at this; rw [← hKE.1.2.1]; exact this
        have hgr : gR w2 5 7 (cA C 5 p) = adO C 5 (cL D 5 7 p) := by
          rw [← hKE.1.1, hXE.gr 5 7 p (by decide) hpE rfl, eE]
          exact aO E hKE.1.1 _
        have hkk : gK w2 (cA C 5 p) = some 5 := hXE.k' 5 p (by rw [hKE.1.1]) hpE
        have := ih (cL D 5 7 p) b' E (va_rf (adO C 5 (cL D 5 7 p))) vb' w2 rfl evb' hlb hb' hKE hXE hTE hndt.2 hbt' hkE
        revert this hgr
        generalize cL D 5 7 p = c'
        intro hgr this
        subst evb'
        cases c' with
        | zero =>
          cases b' with
          | zero => exact jd_s cdo_68 hev [7] 20 z00 ⟨hkk, _, hgr, this⟩
          | succ q => exact jd_s cdo_68 hev [7] 20 z00 ⟨hkk, _, hgr, this⟩
        | succ q' =>
          cases b' with
          | zero => exact jd_s cdo_68 hev [7] 20 z00 ⟨hkk, _, hgr, this⟩
          | succ q => exact jd_s cdo_68 hev [7] 20 z00 ⟨hkk, _, hgr, this⟩
      have g5 : gI w' 5 5 (cA C 5 p) = cI D 5 5 p := hX.gi' 5 5 p (by rw [hK.1.1]) (by decide) hpD rfl
      have k5 : gK w' (cA C 5 p) = some 5 := hX.k' 5 p (by rw [hK.1.1]) hpD
      have k2 : gK w' (cA C 2 lo) = some 2 := hX.k' 2 lo (by rw [hK.1.1]) hlD
      by_cases e0 : cI D 5 5 p = 0
      · rw [if_pos e0] at hk
        have nx := next (p + 1) (.ref (cA C 5 p)) D w' rfl hp hK hX rfl hT (fun x hx e => hndt.1 (by rw [show p = x by omega]; exact hx)) hk
        subst evb
        cases b with
        | zero => exact jd_s cdo_68 hev [29] 20 z00 ⟨k5, _, g5, fun c => absurd e0 c, fun _ => jd_pk [1, 0, 2] nx⟩
        | succ q => exact jd_s cdo_68 hev [29] 20 z00 ⟨k5, _, g5, fun c => absurd e0 c, fun _ => jd_pk [1, 0, 2] nx⟩
      · rw [if_neg e0] at hk
        have nx : ∀ w2, RX (cUnl D lo b p) w2 → Jd l 68 2 0 0 none Po 29 [(2, .ref (cA C 5 p)), (1, vb), (0, .ref (cA C 2 lo))] [] w2 0 0 := fun w2 hX2 => next b vb (cUnl D lo b p) w2 evb hb (hK.tr (cUnl_Kp _ _ _ _)) hX2 (cUnl_57 _ _ _ _ _ (hbt p (List.mem_cons_self ..))) (chL_cong (fun x hx => (cUnl_57 D lo b p x (hbt x (List.mem_cons_of_mem _ hx))).symm) hT) (fun x hx => hbt x (List.mem_cons_of_mem _ hx)) hk
        have hbD : b ≤ cN D 5 := by rw [hK.1.2.1]; exact hb
        have ab := aO D hK.1.1 b
        subst evb
        cases b with
        | zero => exact jd_s cdo_68 hev [29] 20 z00 ⟨k5, _, g5, fun _ => ⟨⟨by decide, by decide, by decide⟩, rfl, k2, D, lo, 0, p, by rw [hK.1.1]; rfl, hX, ⟨hlD, hbD, hpD⟩, nx⟩, fun c => absurd c e0⟩
        | succ q => exact jd_s cdo_68 hev [29] 20 z00 ⟨k5, _, g5, fun _ => ⟨⟨by decide, by decide, by decide⟩, rfl, k2, D, lo, q + 1, p, by rw [ab, hK.1.1]; rfl, hX, ⟨hlD, hbD, hpD⟩, nx⟩, fun c => absurd c e0⟩
  have hlb : cL C 2 2 lo ≤ cN C 5 := hX.lb 2 2 lo (by decide) hl rfl
  have hgr := hX.gr 2 2 lo (by decide) hl rfl
  have := key T (cL C 2 2 lo) 0 C (va_rf (adO C 5 (cL C 2 2 lo))) .null w rfl rfl hlb (Nat.zero_le _) (Kp.rf C) hX hT hnd (fun x hx e => absurd e (by omega)) h
  revert this hgr
  generalize cL C 2 2 lo = c'
  intro hgr this
  cases c' with
  | zero => exact jd_s cdo_68 hev [7] 20 z00 ⟨hX.k 2 lo hl, _, hgr, this⟩
  | succ q => exact jd_s cdo_68 hev [7] 20 z00 ⟨hX.k 2 lo hl, _, hgr, this⟩
