/-! THE CLASS: make -/
theorem Ct.mono {l : Launch} {k lv mc ms : Nat} {sp sp' : Sp} (h : Ct l k lv mc ms sp) (i : ∀ as w K, sp' as w K → sp as w K) : Ct l k lv mc ms sp' := fun G A as w Po q => h G A as w Po (i as w Po q)
def pAt (C : Cs) (lo n : Nat) (x : Int32) : Nat := if 0 ≤ x ∧ x < nI n then cNth C (pN x) (cL C 2 2 lo) else 0
def sp_pA : Sp := fun as w K => ∃ C l x n, as = [.ref (cA C 2 l), .int x] ∧ RX C w ∧ (l < cN C 2 ∧ cI C 2 4 l = nI n ∧ n ≤ 300) ∧ (pAt C l n x ≤ cN C 5 → K (some (va_rf (adO C 5 (pAt C l n x)))) w)
theorem c_pA (l : Launch) : Ct l 37 1 0 0 sp_pA := by
  refine (c_pieceAt l).mono (fun as w K h => ?_)
  obtain ⟨C, lo, x, n, e, hX, hl, h⟩ := h
  have hn := hl.2.2
  refine ⟨C, lo, x, n, e, hX, hl, fun i hi ex hb => ?_, fun q => ?_⟩
  · have e2 : pAt C lo n x = cNth C i (cL C 2 2 lo) := by
      unfold pAt
      rw [if_pos ⟨by rw [ex]; exact nI_le (a := 0) (Nat.zero_le _) (by omega), by rw [ex]; exact (nI_ltI (by omega) (by omega)).mpr hi⟩, ex, pN_n (by omega)]
    rw [e2] at h
    exact h hb
  · have e2 : pAt C lo n x = 0 := by
      unfold pAt
      refine if_neg (fun z => q ?_)
      obtain ⟨i, hi, rfl⟩ := nlt0 (le_nlt z.1)
      exact ⟨i, (nI_ltI hi (by omega)).mp z.2, rfl⟩
    rw [e2] at h
    exact h (Nat.zero_le _)
/-- only what making keeps has changed -/
def Km (C D : Cs) : Prop := (cA D = cA C ∧ cN D = cN C ∧ cL D = cL C) ∧ ∀ t k i, t ≠ 3 → t ≠ 4 → cI D t k i = cI C t k i
theorem Km.tr {C D E : Cs} (h : Km C D) (g : Km D E) : Km C E := ⟨⟨g.1.1.trans h.1.1, g.1.2.1.trans h.1.2.1, g.1.2.2.trans h.1.2.2⟩, fun t k i a b => (g.2 t k i a b).trans (h.2 t k i a b)⟩
theorem Km.wi (C : Cs) (t k i : Nat) (v : Int32) (ht : t = 3 ∨ t = 4) : Km C (wI C t k i v) := ⟨⟨rfl, rfl, rfl⟩, fun t' k' i' a b => (cI_wI C t k i v t' k' i').trans (if_neg (fun q => by omega))⟩
theorem Km.wm (C : Cs) (m : Nat) (s : St) : Km C (wM C m s) := ⟨⟨rfl, rfl, rfl⟩, fun t k i _ b => wM_ot C m s t k i b⟩
theorem Km.wz (C : Cs) (m : Nat) (z : St3) : Km C (wZ C m z) := ⟨⟨rfl, rfl, rfl⟩, fun t k i _ b => wZ_ot C m z t k i b⟩
theorem Km.wf (C : Cs) (m : Nat) (e : Nat → Int32) : Km C (wF C m e) := ⟨⟨rfl, rfl, rfl⟩, fun _ _ _ _ _ => rfl⟩
theorem cMR_Km (n : Nat) (C : Cs) (wl : Nat) (P W S : List Nat) : Km C (cMR n C wl P W S) := by
  have r : ∀ D m f W M, Km D (cRL n D m f W M) := fun D m f W M => ((Km.wm D m _).tr (Km.wi _ 4 3 m 0 (by decide))).tr (Km.wf _ _ _)
  exact ((Km.wi C 3 2 0 _ (by decide)).tr (r _ _ _ _ _)).tr (r _ _ _ _ _)
theorem cCh_Km (fu f : Nat) (D : Cs) : Km D (cCh fu f D) := by
  unfold cCh wT wB
  exact (((Km.wi D 3 3 0 _ (by decide)).tr (Km.wi _ 3 4 0 _ (by decide))).tr (Km.wm _ _ _)).tr (Km.wm _ _ _)
theorem cCM_Km (fu n : Nat) (D : Cs) : Km D (cCM fu n D) := (Km.wz D 0 _).tr (Km.wz _ 1 _)
theorem Km.fx {C D : Cs} (h : Km C D) (f : FX C) : FX D := by
  obtain ⟨h1, h2, h3, h4⟩ := f
  refine ⟨by rw [h.1.2.1]; exact h1, by rw [h.1.2.2]; exact h2, by rw [h.1.2.2]; exact h3, by rw [h.1.2.2]; exact h4⟩
/-- only pieces' numbers, watches and their count have changed -/
def Kw (B D : Cs) (nw : Nat) : Prop := FX D ∧ (∀ t i, t ≠ 8 → cA D t i = cA B t i) ∧ (∀ t, t ≠ 8 → cN D t = cN B t) ∧ (∀ t k i, t ≠ 5 → t ≠ 8 → t ≠ 9 → cI D t k i = cI B t k i) ∧ (∀ t k i, t ≠ 8 → t ≠ 26 → cL D t k i = cL B t k i) ∧ cX D = cX B ∧ cI D 9 10 0 = nI nw ∧ nw ≤ 100 ∧ cN D 8 = nw
theorem cLR_I (C : Cs) (p : Nat) (s v : Int32) (t k i : Nat) (h : t ≠ 5) : cI (cLR C p s v) t k i = cI C t k i := by
  rw [cLR, cI_wI, if_neg (fun q => h q.1), cI_wI, if_neg (fun q => h q.1)]
theorem cWI_I (C : Cs) (i p q r t k j : Nat) : cI (cWI C i p q r) t k j = cI C t k j := by rw [cWI, cI_wL, cI_wL, cI_wL]
theorem cWI_L (C : Cs) (i p q r t k j : Nat) (h : t ≠ 8) : cL (cWI C i p q r) t k j = cL C t k j := by
  rw [cWI, cL_wL, if_neg (fun z => h z.1), cL_wL, if_neg (fun z => h z.1), cL_wL, if_neg (fun z => h z.1)]
theorem cAs3_I (C : Cs) (p q r nw t k i : Nat) (h : t ≠ 5) : cI (cAs3 C p q r nw) t k i = cI C t k i := by
  rw [cAs3, cLR_I _ _ _ _ _ _ _ h, cLR_I _ _ _ _ _ _ _ h, cLR_I _ _ _ _ _ _ _ h]
theorem cAs_Kw {B D : Cs} {nw a p q r : Nat} (hn : nw < 100) (h : Kw B D nw) : Kw B (cAs D a p q r nw) (nw + 1) := by
  obtain ⟨hF, hA, hN, hI, hL, hXx, h10, hnw, h8⟩ := h
  have hK := cAs3_Kp D p q r nw
  have h38 : cN (cAs3 D p q r nw) 8 = nw := by rw [hK.1.2.1]; exact h8
  refine ⟨FX_wI (FX_wL (cWI_fx (FX_wN (hK.fx hF) 8 a (by decide)) _ _ _ _) _ _ _ _ (by decide)) _ _ _ _, fun t i ht => ?_, fun t ht => ?_, fun t k i h5 h8 h9 => ?_, fun t k i h8 h26 => ?_, ?_, ?_, by omega, ?_⟩
  · exact (cA_wNt (C := cAs3 D p q r nw) (a := a) ht).trans (by rw [hK.1.1]; exact hA t i ht)
  · exact (cN_wNt (C := cAs3 D p q r nw) (a := a) ht).trans (by rw [hK.1.2.1]; exact hN t ht)
  · rw [cAs, cI_wI, if_neg (fun z => h9 z.1), cI_wL, cWI_I, cI_wNt h8, cAs3_I _ _ _ _ _ _ _ _ h5]
    exact hI t k i h5 h8 h9
  · rw [cAs, cL_wI, cL_wL, if_neg (fun z => h26 z.1), cWI_L _ _ _ _ _ _ _ _ h8, cL_wNt h8]
    exact hL t k i h8 h26
  · exact hXx
  · rw [cAs, cI_wI, if_pos ⟨rfl, rfl, rfl⟩]
  · exact (cN_wN (cAs3 D p q r nw) 8 a 8).trans (by rw [if_pos rfl, h38])
theorem cAsm_Kw {B D : Cs} {nw a cp cq cr : Nat} (h : Kw B D nw) : Kw B (cAsm a nw cp cq cr D).1 (cAsm a nw cp cq cr D).2 := by
  unfold cAsm
  split
  · split
    · rename_i hn
      exact cAs_Kw hn h
    · exact h
  · exact h
def mkL (pl wl sl n0 n1 n2 : Nat) : List Nat → Nat → Nat → Cs → Cs × Nat
  | [], _, nw, D => (D, nw)
  | a :: t, i, nw, D => if cI D 3 4 0 >>> (nI i &&& 31) &&& 1 = 1 then mkL pl wl sl n0 n1 n2 t (i + 1) (cAsm a nw (pAt D pl n0 (cX D 2 i)) (pAt D wl n1 (nI i)) (pAt D sl n2 (cX D 5 i)) D).2 (cAsm a nw (pAt D pl n0 (cX D 2 i)) (pAt D wl n1 (nI i)) (pAt D sl n2 (cX D 5 i)) D).1 else mkL pl wl sl n0 n1 n2 t (i + 1) nw D
def Lz (B : Cs) (lo n : Nat) : Prop := lo < cN B 2 ∧ cI B 2 4 lo = nI n ∧ n ≤ 300
theorem cUnl_22 (D : Cs) (lo b p j : Nat) (h : j ≠ lo) : cL (cUnl D lo b p) 2 2 j = cL D 2 2 j := by
  have e1 : cL (cUn1 D lo b p) 2 2 j = cL D 2 2 j := by
    cases b with
    | zero => exact (cL_wL D 2 2 lo _ 2 2 j).trans (if_neg (fun q => h q.2.2))
    | succ q => exact (cL_wL D 5 7 q _ 2 2 j).trans (if_neg (fun z => absurd z.1 (by decide)))
  unfold cUnl
  rw [cL_wI]
  split
  · rw [cL_wL, if_neg (fun q => absurd q.2.1 (by decide)), e1]
  · exact e1
theorem cDT_57 (lo x : Nat) : ∀ T b D, (∀ y, y ∈ T → y ≠ x) → b ≠ x + 1 → cL (cDT lo T b D) 5 7 x = cL D 5 7 x
  | [], _, _, _, _ => rfl
  | p :: t, b, D, hT, hb => by
    unfold cDT
    split
    · exact cDT_57 lo x t _ _ (fun y hy => hT y (List.mem_cons_of_mem _ hy)) (fun e => hT p (List.mem_cons_self ..) (by omega))
    · rw [cDT_57 lo x t _ _ (fun y hy => hT y (List.mem_cons_of_mem _ hy)) hb, cUnl_57 _ _ _ _ _ hb]
theorem cDT_22 (lo j : Nat) (h : j ≠ lo) : ∀ T b D, cL (cDT lo T b D) 2 2 j = cL D 2 2 j
  | [], _, _ => rfl
  | p :: t, b, D => by
    unfold cDT
    split
    · exact cDT_22 lo j h t _ _
    · rw [cDT_22 lo j h t, cUnl_22 _ _ _ _ _ h]
theorem chL_DT {lo j : Nat} (h : j ≠ lo) {T U : List Nat} {D : Cs} (hd : ∀ y, y ∈ T → y ∉ U) (hU : chL (cL D 5 7) (cL D 2 2 j) U) : chL (cL (cDT lo T 0 D) 5 7) (cL (cDT lo T 0 D) 2 2 j) U := by
  rw [cDT_22 lo j h]
  exact chL_cong (fun x hx => (cDT_57 lo x T 0 D (fun y hy e => hd y hy (by rw [e]; exact hx)) (by omega)).symm) hU
