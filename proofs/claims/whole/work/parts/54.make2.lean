/-! THE CLASS: make, its loop -/
theorem mkE (l : Launch) : ∀ (k : Nat) (r : Nat × Nat × Nat × Sp), evL [(62, 1, 0, 0, sp_takes), (63, 2, 0, 0, sp_for 0), (65, 2, 0, 0, sp_for 1), (37, 1, 0, 0, sp_pA), (66, 2, 1, 4, sp_asm)] k = some r → Ct l k r.1 r.2.1 r.2.2.1 r.2.2.2 := evL_ok (by simpa using ⟨c_takes l, c_plateFor l, c_stoneFor l, c_pA l, c_asm l⟩)
theorem c_mkK (l : Launch) (Po : Option Value → Hp → Prop) (B : Cs) (a9 aP aW aS : Nat) (x y z made : Int32) (pl wl sl n0 n1 n2 : Nat) (hB9 : cA B 9 0 = a9) (hBP : cA B 2 pl = aP) (hBW : cA B 2 wl = aW) (hBS : cA B 2 sl = aS) (z0 : Lz B pl n0) (z1 : Lz B wl n1) (z2 : Lz B sl n2) : ∀ d i nw D w' nc ns, i + d = 10 → nc ≤ i → ns ≤ 4 * i → RX D w' → Kw B D nw → (∀ ads nc' ns' w2, ads.length = d → nc' ≤ 10 → ns' ≤ 40 → RX (mkL pl wl sl n0 n1 n2 ads i nw D).1 w2 → Kw B (mkL pl wl sl n0 n1 n2 ads i nw D).1 (mkL pl wl sl n0 n1 n2 ads i nw D).2 → Jd l 57 28 10 40 (some .int) Po 145 [(8, .int (nI 10)), (7, .int made), (6, .ref aS), (5, .ref aW), (4, .ref aP), (0, .ref a9), (1, .int x), (2, .int y), (3, .int z)] [] w2 nc' ns') → Jd l 57 28 10 40 (some .int) Po 81 [(8, .int (nI i)), (7, .int made), (6, .ref aS), (5, .ref aW), (4, .ref aP), (0, .ref a9), (1, .int x), (2, .int y), (3, .int z)] [] w' nc ns := by
  intro d
  induction d with
  | zero =>
    intro i nw D w' nc ns hi hnc hns hX hK hk
    obtain rfl : i = 10 := by omega
    exact jd_s cdo_57 (mkE l) [145] 10 ⟨by omega, by omega⟩ ⟨fun _ => hk [] nc ns w' rfl (by omega) (by omega) hX hK, fun c => absurd (by decide) c⟩
  | succ d ih =>
    intro i nw D w' nc ns hi hnc hns hX hK hk
    have hK0 := hK
    obtain ⟨hF, hA, hN, hI, hL, hXx, h10, hnw, h8⟩ := hK
    have e9 : cA D 9 0 = a9 := (hA 9 0 (by decide)).trans hB9
    have eP : cA D 2 pl = aP := (hA 2 pl (by decide)).trans hBP
    have eW : cA D 2 wl = aW := (hA 2 wl (by decide)).trans hBW
    have eS : cA D 2 sl = aS := (hA 2 sl (by decide)).trans hBS
    have y0 : Lz D pl n0 := ⟨by rw [hN 2 (by decide)]; exact z0.1, (hI 2 4 pl (by decide) (by decide) (by decide)).trans z0.2.1, z0.2.2⟩
    have y1 : Lz D wl n1 := ⟨by rw [hN 2 (by decide)]; exact z1.1, (hI 2 4 wl (by decide) (by decide) (by decide)).trans z1.2.1, z1.2.2⟩
    have y2 : Lz D sl n2 := ⟨by rw [hN 2 (by decide)]; exact z2.1, (hI 2 4 sl (by decide) (by decide) (by decide)).trans z2.2.1, z2.2.2⟩
    have h3 : 0 < cN D 3 := by rw [hF.1.2.2.1]; decide
    have g6 : gR w' 9 6 a9 = some (cA D 3 0) := (hX.gr' 9 6 0 e9 (by decide) hF.x rfl).trans (by rw [hF.l6]; rfl)
    have k9 : gK w' a9 = some 9 := hX.k' 9 0 e9 hF.x
    have kP : gK w' aP = some 2 := hX.k' 2 pl eP y0.1
    have kW : gK w' aW = some 2 := hX.k' 2 wl eW y1.1
    have kS : gK w' aS = some 2 := hX.k' 2 sl eS y2.1
    have s139 : ∀ nw' D' w2 nc' ns', nc' ≤ i + 1 → ns' ≤ 4 * (i + 1) → RX D' w2 → Kw B D' nw' → (∀ ads nc' ns' w2, ads.length = d → nc' ≤ 10 → ns' ≤ 40 → RX (mkL pl wl sl n0 n1 n2 ads (i + 1) nw' D').1 w2 → Kw B (mkL pl wl sl n0 n1 n2 ads (i + 1) nw' D').1 (mkL pl wl sl n0 n1 n2 ads (i + 1) nw' D').2 → Jd l 57 28 10 40 (some .int) Po 145 [(8, .int (nI 10)), (7, .int made), (6, .ref aS), (5, .ref aW), (4, .ref aP), (0, .ref a9), (1, .int x), (2, .int y), (3, .int z)] [] w2 nc' ns') → Jd l 57 28 10 40 (some .int) Po 139 [(8, .int (nI i)), (7, .int made), (6, .ref aS), (5, .ref aW), (4, .ref aP), (0, .ref a9), (1, .int x), (2, .int y), (3, .int z)] [] w2 nc' ns' := by
      intro nw' D' w2 nc' ns' hnc' hns' hX' hK' hk'
      have := ih (i + 1) nw' D' w2 nc' ns' (by omega) hnc' hns' hX' hK' hk'
      rw [← nI_1] at this
      exact jd_s cdo_57 (mkE l) [81] 10 ⟨by omega, by omega⟩ this
    by_cases ct : cI D 3 4 0 >>> (nI i &&& 31) &&& 1 = 1
    · have hk : ∀ a ads nc' ns' w2, ads.length = d → nc' ≤ 10 → ns' ≤ 40 → RX (mkL pl wl sl n0 n1 n2 ads (i + 1) (cAsm a nw (pAt D pl n0 (cX D 2 i)) (pAt D wl n1 (nI i)) (pAt D sl n2 (cX D 5 i)) D).2 (cAsm a nw (pAt D pl n0 (cX D 2 i)) (pAt D wl n1 (nI i)) (pAt D sl n2 (cX D 5 i)) D).1).1 w2 → Kw B (mkL pl wl sl n0 n1 n2 ads (i + 1) (cAsm a nw (pAt D pl n0 (cX D 2 i)) (pAt D wl n1 (nI i)) (pAt D sl n2 (cX D 5 i)) D).2 (cAsm a nw (pAt D pl n0 (cX D 2 i)) (pAt D wl n1 (nI i)) (pAt D sl n2 (cX D 5 i)) D).1).1 (mkL pl wl sl n0 n1 n2 ads (i + 1) (cAsm a nw (pAt D pl n0 (cX D 2 i)) (pAt D wl n1 (nI i)) (pAt D sl n2 (cX D 5 i)) D).2 (cAsm a nw (pAt D pl n0 (cX D 2 i)) (pAt D wl n1 (nI i)) (pAt D sl n2 (cX D 5 i)) D).1).2 → Jd l 57 28 10 40 (some .int) Po 145 [(8, .int (nI 10)), (7, .int made), (6, .ref aS), (5, .ref aW), (4, .ref aP), (0, .ref a9), (1, .int x), (2, .int y), (3, .int z)] [] w2 nc' ns' := by
        intro a ads nc' ns' w2 ha hnc' hns' hX' hK'
        have := hk (a :: ads) nc' ns' w2 (by rw [List.length_cons, ha]) hnc' hns'
        rw [mkL, if_pos ct] at this
        exact this hX' hK'
      have s122 : ∀ c1 c2 v1 v2, v1 = va_rf (adO D 5 c1) → v2 = va_rf (adO D 5 c2) → c1 = pAt D pl n0 (cX D 2 i) → c2 = pAt D wl n1 (nI i) → c1 ≤ cN D 5 → c2 ≤ cN D 5 → Jd l 57 28 10 40 (some .int) Po 122 [(8, .int (nI i)), (7, .int made), (6, .ref aS), (5, .ref aW), (4, .ref aP), (0, .ref a9), (1, .int x), (2, .int y), (3, .int z)] [v2, v1, .ref a9] w' nc ns := by
        intro c1 c2 v1 v2 e1 e2 q1 q2 b1 b2
        have cont : ∀ w2 nc' ns', nc' = nc + 1 → ns' = ns + 4 → ∀ a, RX (cAsm a nw c1 c2 (pAt D sl n2 (cX D 5 i)) D).1 w2 → Jd l 57 28 10 40 (some .int) Po 139 [(8, .int (nI i)), (7, .int made), (6, .ref aS), (5, .ref aW), (4, .ref aP), (0, .ref a9), (1, .int x), (2, .int y), (3, .int z)] [] w2 nc' ns' := by
          intro w2 nc' ns' hnc' hns' a hX2
          rw [q1, q2] at hX2
          exact s139 _ _ w2 nc' ns' (by omega) (by omega) hX2 (cAsm_Kw hK0) (hk a)
        subst e1 e2
        cases c1 <;> cases c2 <;>
        · refine jd_s cdo_57 (mkE l) [139] 30 ⟨by omega, by omega⟩ ⟨k9, _, g6, ?_⟩
          refine ⟨⟨show 2 < 28 by decide, show nc + 0 ≤ 10 by omega, show ns + 0 ≤ 40 by omega⟩, rfl, hX.k 3 0 h3, D, i, rfl, hX, hF, by omega, ?_⟩
          refine ⟨⟨show 1 < 28 by decide, show nc + 0 + 0 ≤ 10 by omega, show ns + 0 + 0 ≤ 40 by omega⟩, rfl, kS, D, sl, cX D 5 i, n2, by rw [eS]; rfl, hX, y2, fun b3 => ?_⟩
          refine ⟨⟨show 2 < 28 by decide, show nc + 0 + 0 + 1 ≤ 10 by omega, show ns + 0 + 0 + 4 ≤ 40 by omega⟩, rfl, k9, D, _, _, _, nw, by rw [e9]; rfl, hX, hF, ⟨h10, hnw, h8⟩, ⟨b1, b2, b3⟩, fun a w2 hX2 => ?_⟩
          exact cont w2 _ _ rfl rfl a hX2
      have s115 : ∀ c1 v1, v1 = va_rf (adO D 5 c1) → c1 = pAt D pl n0 (cX D 2 i) → c1 ≤ cN D 5 → Jd l 57 28 10 40 (some .int) Po 115 [(8, .int (nI i)), (7, .int made), (6, .ref aS), (5, .ref aW), (4, .ref aP), (0, .ref a9), (1, .int x), (2, .int y), (3, .int z)] [v1, .ref a9] w' nc ns := by
        intro c1 v1 e1 q1 b1
        subst e1
        cases c1 <;>
        · refine jd_s cdo_57 (mkE l) [122] 30 ⟨by omega, by omega⟩ ⟨⟨show 1 < 28 by decide, show nc + 0 ≤ 10 by omega, show ns + 0 ≤ 40 by omega⟩, rfl, kW, D, wl, nI i, n1, by rw [eW]; rfl, hX, y1, fun b2 => ?_⟩
          exact s122 _ _ _ _ rfl rfl q1 rfl b1 b2
      refine jd_s cdo_57 (mkE l) [115] 40 ⟨by omega, by omega⟩ ⟨fun c => ?_, fun _ => ?_⟩
      · have := ge_n (a := i) (b := 10) (by omega) (by omega) c
        omega
      refine ⟨k9, _, g6, ⟨show 1 < 28 by decide, show nc + 0 ≤ 10 by omega, show ns + 0 ≤ 40 by omega⟩, rfl, hX.k 3 0 h3, D, nI i, rfl, hX, hF, fun _ => br1 ?_, fun c => absurd ct c⟩
      refine ⟨k9, _, g6, ⟨show 2 < 28 by decide, show nc + 0 + 0 ≤ 10 by omega, show ns + 0 + 0 ≤ 40 by omega⟩, rfl, hX.k 3 0 h3, D, i, rfl, hX, hF, by omega, ?_⟩
      refine ⟨⟨show 1 < 28 by decide, show nc + 0 + 0 + 0 ≤ 10 by omega, show ns + 0 + 0 + 0 ≤ 40 by omega⟩, rfl, kP, D, pl, cX D 2 i, n0, by rw [eP]; rfl, hX, y0, fun b1 => ?_⟩
      exact s115 _ _ rfl rfl b1
    · refine jd_s cdo_57 (mkE l) [139] 40 ⟨by omega, by omega⟩ ⟨fun c => ?_, fun _ => ?_⟩
      · have := ge_n (a := i) (b := 10) (by omega) (by omega) c
        omega
      refine ⟨k9, _, g6, ⟨show 1 < 28 by decide, show nc + 0 ≤ 10 by omega, show ns + 0 ≤ 40 by omega⟩, rfl, hX.k 3 0 h3, D, nI i, rfl, hX, hF, fun c => absurd c ct, fun _ => br0 ?_⟩
      refine s139 nw D w' _ _ (show nc + 0 ≤ i + 1 by omega) (show ns + 0 ≤ 4 * (i + 1) by omega) hX hK0 (fun ads nc' ns' w2 ha hnc' hns' hX' hK' => ?_)
      have := hk (0 :: ads) nc' ns' w2 (by rw [List.length_cons, ha]) hnc' hns'
      rw [mkL, if_neg ct] at this
      exact this hX' hK'
def cMkE (pl wl sl : Nat) (P W S : List Nat) (D : Cs) : Cs := cDT sl S 0 (cDT wl W 0 (cDT pl P 0 D))
theorem c_mkE (l : Launch) (Po : Option Value → Hp → Prop) (D : Cs) (a9 aP aW aS : Nat) (x y z made : Int32) (pl wl sl : Nat) (P W S : List Nat) (w : Hp) (nc ns : Nat) (hnc : nc ≤ 10) (hns : ns ≤ 40) (hX : RX D w) (eP : cA D 2 pl = aP) (eW : cA D 2 wl = aW) (eS : cA D 2 sl = aS) (hl : pl < cN D 2 ∧ wl < cN D 2 ∧ sl < cN D 2) (hne : wl ≠ pl ∧ sl ≠ pl ∧ sl ≠ wl) (hc : chL (cL D 5 7) (cL D 2 2 pl) P ∧ chL (cL D 5 7) (cL D 2 2 wl) W ∧ chL (cL D 5 7) (cL D 2 2 sl) S) (hnd : P.Nodup ∧ W.Nodup ∧ S.Nodup) (hd : (∀ y, y ∈ P → y ∉ W) ∧ (∀ y, y ∈ P → y ∉ S) ∧ (∀ y, y ∈ W → y ∉ S)) (hk : ∀ w', RX (cMkE pl wl sl P W S D) w' → Po (some (.int made)) w') : Jd l 57 28 10 40 (some .int) Po 145 [(8, .int (nI 10)), (7, .int made), (6, .ref aS), (5, .ref aW), (4, .ref aP), (0, .ref a9), (1, .int x), (2, .int y), (3, .int z)] [] w nc ns := by
  have hev : ∀ (k : Nat) (r : Nat × Nat × Nat × Sp), evL [(68, 2, 0, 0, sp_dropTaken)] k = some r → Ct l k r.1 r.2.1 r.2.2.1 r.2.2.2 := evL_ok (by simpa using c_dropTaken l)
  have K1 := cDT_Kp pl P 0 D
  have K2 := K1.tr (cDT_Kp wl W 0 (cDT pl P 0 D))
  have W1 := chL_DT hne.1 hd.1 hc.2.1
  have S1 := chL_DT hne.2.1 hd.2.1 hc.2.2
  have S2 := chL_DT hne.2.2 hd.2.2 S1
  refine jd_s cdo_57 hev [] 40 ⟨hnc, hns⟩ ?_
  refine ⟨⟨show 2 < 28 by decide, show nc + 0 ≤ 10 by omega, show ns + 0 ≤ 40 by omega⟩, rfl, hX.k' 2 pl eP hl.1, D, pl, P, by rw [eP]; rfl, hX, hl.1, ⟨hc.1, hnd.1⟩, fun w1 hX1 => ?_⟩
  have l1 : wl < cN (cDT pl P 0 D) 2 := by rw [K1.1.2.1]; exact hl.2.1
  have a1 : cA (cDT pl P 0 D) 2 wl = aW := by rw [K1.1.1]; exact eW
  refine ⟨⟨show 2 < 28 by decide, show nc + 0 + 0 ≤ 10 by omega, show ns + 0 + 0 ≤ 40 by omega⟩, rfl, hX1.k' 2 wl a1 l1, cDT pl P 0 D, wl, W, by rw [a1]; rfl, hX1, l1, ⟨W1, hnd.2.1⟩, fun w2 hX2 => ?_⟩
  have l2 : sl < cN (cDT wl W 0 (cDT pl P 0 D)) 2 := by rw [K2.1.2.1]; exact hl.2.2
  have a2 : cA (cDT wl W 0 (cDT pl P 0 D)) 2 sl = aS := by rw [K2.1.1]; exact eS
  exact ⟨⟨show 2 < 28 by decide, show nc + 0 + 0 + 0 ≤ 10 by omega, show ns + 0 + 0 + 0 ≤ 40 by omega⟩, rfl, hX2.k' 2 sl a2 l2, cDT wl W 0 (cDT pl P 0 D), sl, S, by rw [a2]; rfl, hX2, l2, ⟨S2, hnd.2.2⟩, fun w3 hX3 => hk w3 hX3⟩
def cMB (n fu f : Nat) (C : Cs) (b : Nat) (P W S : List Nat) : Cs := cCM fu n (cCh fu f (cMR n C b P W S))
def sp_cmake (n fu f : Nat) : Sp := fun as w K => ∃ C x y z nl nw, ∃ R : Nat → List Nat, as = [.ref (cA C 9 0), .int x, .int y, .int z] ∧ RX C w ∧ FX C ∧ NB C 24 2 8 60 nl ∧ (cI C 9 10 0 = nI nw ∧ nw ≤ 100 ∧ cN C 8 = nw) ∧ LR C nl R ∧ (n = 10 ∧ (∀ j, j < nl → (R j).Nodup) ∧ ∀ i j, i < nl → j < nl → i ≠ j → ∀ y, y ∈ R i → y ∉ R j) ∧ (∀ a b c, okL C nl x 0 a → okL C nl y 1 b → okL C nl z 2 c → ∀ (ads : List Nat) w', ads.length = 10 → RX (cMkE a b c (R a) (R b) (R c) (mkL a b c (R a).length (R b).length (R c).length ads 0 nw (cMB n fu f C b (R a) (R b) (R c))).1) w' → K (some (.int (tWD fu f (cMR n C b (R a) (R b) (R c))).1.1)) w') ∧ ((¬ ∃ a b c, okL C nl x 0 a ∧ okL C nl y 1 b ∧ okL C nl z 2 c) → K (some (.int (-1))) w)
theorem c_cmake (l : Launch) (n fu f : Nat) (hfu : fu = 11) (hf : f = 11) (hn0 : n = 10) : Ct l 57 28 10 40 (sp_cmake n fu f) := by
  have hev : ∀ (k : Nat) (r : Nat × Nat × Nat × Sp), evL [(46, 3, 0, 0, sp_lotForMaking), (47, 4, 0, 0, sp_readAll n), (52, 26, 0, 0, sp_choose fu f), (58, 17, 0, 0, sp_chooseM fu n)] k = some r → Ct l k r.1 r.2.1 r.2.2.1 r.2.2.2 := evL_ok (by simpa using ⟨c_lotForMaking l, c_readAll l n, c_choose l fu f hfu hf, c_chooseM l fu n hfu hn0⟩)
  refine ct_jd (by decide) rfl (fun as w Po h => ?_)
  obtain ⟨C, x, y, z, nl, nw, R, rfl, hX, hF, hN, ⟨h10, hnw, h8⟩, hR, ⟨hn, hnd, hdj⟩, h1, h2⟩ := h
  have h3 : 0 < cN C 3 := by rw [hF.1.2.2.1]; decide
  have e2 := hN.2.2.1
  refine ⟨Nat.le_of_ble_eq_true rfl, jd_s cdo_57 hev [81] 60 ⟨by decide, by decide⟩ ?_⟩
  refine ⟨⟨show 3 < 28 by decide, by decide, by decide⟩, rfl, hX.k 9 0 hF.x, C, x, 0, nl, rfl, hX, hF, hN, fun a ha xa a5 a1 a4 => ?_, fun q => ?_⟩
  · refine ⟨⟨show 3 < 28 by decide, by decide, by decide⟩, rfl, hX.k 9 0 hF.x, C, y, 1, nl, rfl, hX, hF, hN, fun b hb yb b5 b1 b4 => ?_, fun q => ?_⟩
    · refine ⟨⟨show 3 < 28 by decide, by decide, by decide⟩, rfl, hX.k 9 0 hF.x, C, z, 2, nl, rfl, hX, hF, hN, fun c hc zc c5 c1 c4 => ?_, fun q => ?_⟩
      · have oa : okL C nl x 0 a := ⟨ha, xa, a5, a1, a4⟩
        have ob : okL C nl y 1 b := ⟨hb, yb, b5, b1, b4⟩
        have oc : okL C nl z 2 c := ⟨hc, zc, c5, c1, c4⟩
        have h1 := h1 a b c oa ob oc
        have nab : b ≠ a := fun e => by rw [e, a1] at b1; exact absurd b1 (by decide)
        have nac : c ≠ a := fun e => by rw [e, a1] at c1; exact absurd c1 (by decide)
        have nbc : c ≠ b := fun e => by rw [e, b1] at c1; exact absurd c1 (by decide)
        have ha2 : a < cN C 2 := by rw [e2]; exact ha
        have hb2 : b < cN C 2 := by rw [e2]; exact hb
        have hc2 : c < cN C 2 := by rw [e2]; exact hc
        refine ⟨hX.k 9 0 hF.x, _, hX.g1 9 6 0 (by decide) hF.x rfl hF.l6, hX.k 9 0 hF.x, _, hX.g1 9 4 0 (by decide) hF.x rfl hF.l4, hX.k 9 0 hF.x, _, hX.g1 9 5 0 (by decide) hF.x rfl hF.l5, ?_⟩
        refine ⟨⟨show 4 < 28 by decide, Nat.zero_le _, Nat.zero_le _⟩, rfl, hX.k 3 0 h3, C, a, b, c, R a, R b, R c, rfl, hX, hF, ⟨ha2, hb2, hc2, hn⟩, ⟨(hR a ha).1, (hR b hb).1, (hR c hc).1, hR.s ob⟩, fun w2 hX2 => ?_⟩
        have kM := cMR_Km n C b (R a) (R b) (R c)
        rw [cMB] at h1
        generalize cMR n C b (R a) (R b) (R c) = D at *
        have hF2 := kM.fx hF
        have h3D : 0 < cN D 3 := by rw [kM.1.2.1]; exact h3
        have e9 : cA D 9 0 = cA C 9 0 := by rw [kM.1.1]
        refine ⟨hX2.k' 9 0 e9 hF2.x, some (cA D 3 0), (hX2.gr' 9 6 0 e9 (by decide) hF2.x rfl).trans (by rw [hF2.l6]; rfl), ?_⟩
        have hX3 := hX2
        rw [← wT_id D] at hX3
        refine ⟨⟨show 26 < 28 by decide, Nat.zero_le _, Nat.zero_le _⟩, rfl, hX2.k 3 0 h3D, D, _, rfl, hX3, hF2, fun w4 hX4 => ?_⟩
        have hX4 : RX (cCh fu f D) w4 := hX4
        show wp _ _ _ _ _ _ _ _ _ _ _ _ [.int (tWD fu f D).1.1] _ _ _
        have kM2 := kM.tr (cCh_Km fu f D)
        generalize (tWD fu f D).1.1 = made at *
        generalize cCh fu f D = E at *
        have hF3 := kM2.fx hF
        have h3E : 0 < cN E 3 := by rw [kM2.1.2.1]; exact h3
        have e9E : cA E 9 0 = cA C 9 0 := by rw [kM2.1.1]
        refine ⟨hX4.k' 9 0 e9E hF3.x, some (cA E 3 0), (hX4.gr' 9 6 0 e9E (by decide) hF3.x rfl).trans (by rw [hF3.l6]; rfl), ?_⟩
        refine ⟨⟨show 17 < 28 by decide, Nat.zero_le _, Nat.zero_le _⟩, rfl, hX4.k 3 0 h3E, E, rfl, hX4, hF3, fun w5 hX5 => ?_⟩
        have kM3 := kM2.tr (cCM_Km fu n E)
        generalize cCM fu n E = B at *
        have hFB := kM3.fx hF
        have I2 : ∀ k i, cI B 2 k i = cI C 2 k i := fun k i => kM3.2 2 k i (by decide) (by decide)
        have hLz : ∀ j, j < nl → Lz B j (R j).length := fun j hj => ⟨by rw [kM3.1.2.1, e2]; exact hj, (I2 4 j).trans (hR j hj).2.1, (hR j hj).2.2⟩
        have hKw : Kw B B nw := ⟨hFB, fun _ _ _ => rfl, fun _ _ => rfl, fun _ _ _ _ _ _ => rfl, fun _ _ _ _ _ => rfl, rfl, (kM3.2 9 10 0 (by decide) (by decide)).trans h10, hnw, by rw [kM3.1.2.1]; exact h8⟩
        have e9B : cA B 9 0 = cA C 9 0 := by rw [kM3.1.1]
        have eP : cA B 2 a = cA C 2 a := by rw [kM3.1.1]
        have eW : cA B 2 b = cA C 2 b := by rw [kM3.1.1]
        have eS : cA B 2 c = cA C 2 c := by rw [kM3.1.1]
        refine c_mkK l Po B (cA C 9 0) (cA C 2 a) (cA C 2 b) (cA C 2 c) x y z made a b c _ _ _ e9B eP eW eS (hLz a ha) (hLz b hb) (hLz c hc) 10 0 nw B w5 0 0 (by decide) (by decide) (by decide) hX5 hKw (fun ads nc' ns' w6 hads hnc hns hX6 hK6 => ?_)
        have h1 := h1 ads
        generalize (mkL a b c (R a).length (R b).length (R c).length ads 0 nw B).1 = G at *
        obtain ⟨kF, kA, kN, kI, kL, _⟩ := hK6
        have lN : cN G 2 = nl := (kN 2 (by decide)).trans (by rw [kM3.1.2.1]; exact e2)
        have ch : ∀ j, j < nl → chL (cL G 5 7) (cL G 2 2 j) (R j) := fun j hj => by
          rw [kL 2 2 j (by decide) (by decide), kM3.1.2.2]
          exact chL_cong (fun x _ => by rw [kL 5 7 x (by decide) (by decide), kM3.1.2.2]) (hR j hj).1
        exact c_mkE l Po G _ _ _ _ x y z made a b c (R a) (R b) (R c) w6 nc' ns' hnc hns hX6 ((kA 2 a (by decide)).trans eP) ((kA 2 b (by decide)).trans eW) ((kA 2 c (by decide)).trans eS) ⟨by rw [lN]; exact ha, by rw [lN]; exact hb, by rw [lN]; exact hc⟩ ⟨nab, nac, nbc⟩ ⟨ch a ha, ch b hb, ch c hc⟩ ⟨hnd a ha, hnd b hb, hnd c hc⟩ ⟨hdj a b ha hb (Ne.symm nab), hdj a c ha hc (Ne.symm nac), hdj b c hb hc (Ne.symm nbc)⟩ (fun w7 hX7 => h1 w7 hads hX7)
      · exact h2 (fun ⟨_, _, c, _, _, oc⟩ => q ⟨c, oc⟩)
    · have no := h2 (fun ⟨_, b, _, _, ob, _⟩ => q ⟨b, ob⟩)
      exact ⟨⟨show 3 < 28 by decide, Nat.zero_le _, Nat.zero_le _⟩, rfl, hX.k 9 0 hF.x, C, z, 2, nl, rfl, hX, hF, hN, fun c hc zc c5 c1 c4 => no, fun q => no⟩
  · have no := h2 (fun ⟨a, _, _, oa, _, _⟩ => q ⟨a, oa⟩)
    refine ⟨⟨show 3 < 28 by decide, Nat.zero_le _, Nat.zero_le _⟩, rfl, hX.k 9 0 hF.x, C, y, 1, nl, rfl, hX, hF, hN, fun b hb yb b5 b1 b4 => ?_, fun q => ?_⟩
    · exact ⟨⟨show 3 < 28 by decide, Nat.zero_le _, Nat.zero_le _⟩, rfl, hX.k 9 0 hF.x, C, z, 2, nl, rfl, hX, hF, hN, fun c hc zc c5 c1 c4 => no, fun q => no⟩
    · exact ⟨⟨show 3 < 28 by decide, Nat.zero_le _, Nat.zero_le _⟩, rfl, hX.k 9 0 hF.x, C, z, 2, nl, rfl, hX, hF, hN, fun c hc zc c5 c1 c4 => no, fun q => no⟩
