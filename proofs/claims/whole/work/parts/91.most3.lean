/-! THE TWO: the most -/
theorem cI_wM (C : Cs) (m : Nat) (s : St) (t k i : Nat) : cI (wM C m s) t k i = if t = 4 ∧ k = 4 ∧ i = m then s.1 else cI C t k i := id rfl
theorem cX_wM (C : Cs) (m : Nat) (s : St) (i j : Nat) : cX (wM C m s) i j = if i = 3 * m + 1 then s.2 j else cX C i j := id rfl
theorem cI_wF (C : Cs) (m : Nat) (e : Nat → Int32) (t k i : Nat) : cI (wF C m e) t k i = cI C t k i := id rfl
theorem cX_wF (C : Cs) (m : Nat) (e : Nat → Int32) (i j : Nat) : cX (wF C m e) i j = if i = 3 * m then e j else cX C i j := id rfl
theorem cX_wI (C : Cs) (t k i : Nat) (v : Int32) (x y : Nat) : cX (wI C t k i v) x y = cX C x y := id rfl
section CRL
variable (n : Nat) (C : Cs) (m f : Nat) (W M : List Nat)
theorem cRL_I (t k i : Nat) (h : t ≠ 4) : cI (cRL n C m f W M) t k i = cI C t k i := by
  rw [cRL, cI_wF, cR0, cI_wI, if_neg (fun z => h z.1), cI_wM, if_neg (fun z => h z.1)]
theorem cRL_43 (i : Nat) : cI (cRL n C m f W M) 4 3 i = if i = m then 0 else cI C 4 3 i := by
  rw [cRL, cI_wF, cR0, cI_wI, cI_wM]
  by_cases e : i = m
  · rw [if_pos ⟨rfl, rfl, e⟩, if_pos e]
  · rw [if_neg (fun z => e z.2.2), if_neg e, if_neg (fun z => absurd z.2.1 (by decide))]
theorem cRL_X (i j : Nat) : cX (cRL n C m f W M) i j = if i = 3 * m then rF C f M W 0 (cX C (3 * m)) j else if i = 3 * m + 1 then flH (cX C (3 * m + 1)) n j else cX C i j := by
  rw [cRL, cX_wF]
  by_cases e : i = 3 * m
  · rw [if_pos e, if_pos e]
  · rw [if_neg e, if_neg e, cR0, cX_wI, cX_wM]
end CRL
theorem rF_lo (C : Cs) (f : Nat) (M : List Nat) : ∀ (W : List Nat) (i : Nat) (e : Nat → Int32) (j : Nat), j < i → rF C f M W i e j = e j
  | [], _, _, _, _ => rfl
  | wh :: t, i, e, j, h => by
    rw [rF, rF_lo C f M t (i + 1) _ j (by omega)]
    exact if_neg (by omega)
theorem rF_get (C : Cs) (f : Nat) (M : List Nat) : ∀ (W : List Nat) (i : Nat) (e : Nat → Int32) (k wh : Nat), W[k]? = some wh → rF C f M W i e (i + k) = pF C f wh M 0 1
  | [], _, _, _, _, h => by simp at h
  | w0 :: t, i, e, 0, wh, h => by
    have e0 : w0 = wh := by simpa using h
    rw [rF, rF_lo C f M t (i + 1) _ (i + 0) (by omega), e0]
    exact if_pos rfl
  | w0 :: t, i, e, k + 1, wh, h => by
    rw [rF, show i + (k + 1) = (i + 1) + k by omega]
    exact rF_get C f M t (i + 1) _ k wh (by simpa using h)
theorem Rel_pr {C : Cs} {M : Ms} {np nl nh nw ns ng dy tt : Nat} {R Q : Nat → List Nat} (H : Rel C M np nl nh nw ns ng dy tt R Q) {l i p : Nat} (hl : l < nl) (h : (R l)[i]? = some p) : prN M l i = p ∧ p < np ∧ M 0 p = M 7 l ∧ M 4 p = 0 := by
  have hR := H.2.2.2.2.1 l hl
  have hm := hR.2.2.2 p (List.mem_of_getElem? h)
  have h3 : np ≤ 300 := H.1.2.1.1.2.1
  refine ⟨?_, hm.1, hm.2.2.2, hm.2.2.1⟩
  unfold prN
  rw [hR.2.1.2 i p h, pN_n (by omega)]
/-- what fits: the plates of a wheel -/
theorem pF_pl {C : Cs} {M : Ms} {np nl nh nw ns ng dy tt : Nat} {R Q : Nat → List Nat} (H : Rel C M np nl nh nw ns ng dy tt R Q) {a b w wh : Nat} (ha : a < nl) (hb : b < nl) (h7 : M 7 a = 0) (hla : (R a).length ≤ 10) (hw : (R b)[w]? = some wh) : pF C 0 wh (R a) 0 1 = nI (gPl M a b (R a).length w) := by
  rw [pF_mk C 0 wh (R a) hla, gPl]
  apply congrArg nI
  refine mkM_cong (fun i hi => ?_)
  have hp : (R a)[i]? = some (R a)[i] := List.getElem?_eq_getElem hi
  obtain ⟨e1, p1, p2, _⟩ := Rel_pr H ha hp
  obtain ⟨e2, q1, _, _⟩ := Rel_pr H hb hw
  rw [hp, e1, e2]
  show alB C 0 wh (R a)[i] = _
  rw [Bool.eq_iff_iff, fitb_iff]
  exact decide_eq_true_iff.trans ((Rel_fits H p1 q1).1 (p2.trans h7))
/-- the stones of a wheel -/
theorem pF_st {C : Cs} {M : Ms} {np nl nh nw ns ng dy tt : Nat} {R Q : Nat → List Nat} (H : Rel C M np nl nh nw ns ng dy tt R Q) {b c w wh : Nat} (hc : c < nl) (hb : b < nl) (h7 : M 7 c = 2) (hlc : (R c).length ≤ 10) (hw : (R b)[w]? = some wh) : pF C 1 wh (R c) 0 1 = nI (gSt M b c (R c).length w) := by
  rw [pF_mk C 1 wh (R c) hlc, gSt]
  apply congrArg nI
  refine mkM_cong (fun i hi => ?_)
  have hp : (R c)[i]? = some (R c)[i] := List.getElem?_eq_getElem hi
  obtain ⟨e1, p1, p2, _⟩ := Rel_pr H hc hp
  obtain ⟨e2, q1, _, _⟩ := Rel_pr H hb hw
  rw [hp, e1, e2]
  show alB C 1 wh (R c)[i] = _
  rw [Bool.eq_iff_iff, fitb_iff]
  exact decide_eq_true_iff.trans ((Rel_fits H q1 p1).2 (by rw [p2, h7]; decide))
theorem isB_u {M : Ms} {a b c ma mb mc B B' : Nat} (h : isB M a b c ma mb mc B) (h' : isB M a b c ma mb mc B') : B = B' := by
  have n1 := h.2.2 B' h'.1 h'.2.1
  have n2 := h'.2.2 B h.1 h.2.1
  rcases n1 with z | ⟨z, y⟩
  · rcases n2 with z2 | ⟨z2, _⟩
    · omega
    · omega
  · rcases n2 with z2 | ⟨z2, y2⟩
    · omega
    · rcases y with y | y
      · exact y.symm
      · rcases y2 with y2 | y2
        · exact y2
        · exact (ahd_as y y2).elim
theorem mk_bits {p : Nat → Bool} {n q : Nat} (h : (mkM p n).testBit q = true) : q < n := by
  rw [mkM_bit, Bool.and_eq_true, decide_eq_true_eq] at h
  exact h.1
theorem MtA_cong {F F' : Nat → Nat} {G ws : Nat} (h : ∀ w, ws.testBit w = true → F w = F' w) : MtA F G ws ↔ MtA F' G ws := by
  constructor
  · rintro ⟨f, f1, f2⟩
    exact ⟨f, fun w hw => by have := f1 w hw; unfold av at *; rw [← h w hw]; exact this, f2⟩
  · rintro ⟨f, f1, f2⟩
    exact ⟨f, fun w hw => by have := f1 w hw; unfold av at *; rw [h w hw]; exact this, f2⟩
theorem p2_bit (m q : Nat) : (2 ^ m - 1).testBit q = decide (q < m) := Nat.testBit_two_pow_sub_one m q
/-- what is read of the lots -/
def FtP (D : Cs) (w : Nat) : Nat := pN (msk (cX D 0) w)
def FtS (D : Cs) (w : Nat) : Nat := pN (msk (cX D 3) w)
theorem Rel_Ft {C : Cs} {M : Ms} {np nl nh nw ns ng dy tt : Nat} {R Q : Nat → List Nat} (H : Rel C M np nl nh nw ns ng dy tt R Q) {a b c n : Nat} (ha : a < nl) (hb : b < nl) (hc : c < nl) (h7a : M 7 a = 0) (h7c : M 7 c = 2) (hla : (R a).length ≤ 10) (hlc : (R c).length ≤ 10) : ∀ w, w < (R b).length → FtP (cMR n C b (R a) (R b) (R c)) w = gPl M a b (R a).length w ∧ FtS (cMR n C b (R a) (R b) (R c)) w = gSt M b c (R c).length w := by
  intro w hw
  have hwh : (R b)[w]? = some (R b)[w] := List.getElem?_eq_getElem hw
  have l1 := mkM_lt (fun i => fitb M (prN M a i) (prN M b w) 0) (R a).length hla
  have l2 := mkM_lt (fun i => fitb M (prN M b w) (prN M c i) 1) (R c).length hlc
  refine ⟨msk_n (v := gPl M a b (R a).length w) ?_ l1, msk_n (v := gSt M b c (R c).length w) ?_ l2⟩
  · rw [cMR, cRL_X, if_neg (by decide), if_neg (by decide), cRL_X, if_pos (by decide)]
    have := rF_get (wI C 3 2 0 (if cI C 2 4 b ≤ 10 then cI C 2 4 b else 10)) 0 (R a) (R b) 0 (cX (wI C 3 2 0 (if cI C 2 4 b ≤ 10 then cI C 2 4 b else 10)) (3 * 0)) w _ hwh
    rw [Nat.zero_add] at this
    rw [this, pF_cong (C := C) (fun k i => by rw [cI_wI, if_neg (fun z => absurd z.1 (by decide))]) (fun k i => by rw [cI_wI, if_neg (fun z => absurd z.1 (by decide))])]
    exact pF_pl H ha hb h7a hla hwh
  · rw [cMR, cRL_X, if_pos (by decide)]
    have := rF_get (cRL n (wI C 3 2 0 (if cI C 2 4 b ≤ 10 then cI C 2 4 b else 10)) 0 0 (R b) (R a)) 1 (R c) (R b) 0 (cX (cRL n (wI C 3 2 0 (if cI C 2 4 b ≤ 10 then cI C 2 4 b else 10)) 0 0 (R b) (R a)) (3 * 1)) w _ hwh
    rw [Nat.zero_add] at this
    rw [this, pF_cong (C := C) (fun k i => by rw [cRL_I _ _ _ _ _ _ _ _ _ (by decide), cI_wI, if_neg (fun z => absurd z.1 (by decide))]) (fun k i => by rw [cRL_I _ _ _ _ _ _ _ _ _ (by decide), cI_wI, if_neg (fun z => absurd z.1 (by decide))])]
    exact pF_st H hc hb h7c hlc hwh
theorem good_A {M : Ms} {a b c ma mb mc : Nat} {Fp Fs : Nat → Nat} (hF : ∀ w, w < mb → Fp w = gPl M a b ma w ∧ Fs w = gSt M b c mc w) {t : Nat} (ht : t < 2 ^ mb) : gdA Fp Fs t ↔ good M a b c ma mc t := by
  unfold gdA good
  rw [MtA_cong (F' := gPl M a b ma) (fun w hw => (hF w (bl_lt ht hw)).1), MtA_cong (F' := gSt M b c mc) (fun w hw => (hF w (bl_lt ht hw)).2)]
  rw [Mt_A (os := 2 ^ ma - 1) (fun w p _ h => by rw [p2_bit]; exact decide_eq_true (mk_bits h)), Mt_A (os := 2 ^ mc - 1) (fun w p _ h => by rw [p2_bit]; exact decide_eq_true (mk_bits h))]
/-- the class chooses the best set too -/
theorem Rel_best {C : Cs} {M : Ms} {np nl nh nw ns ng dy tt : Nat} {R Q : Nat → List Nat} (H : Rel C M np nl nh nw ns ng dy tt R Q) {a b c n fu f : Nat} (hfu : fu = 11) (hf : f = 11) (hn : n = 10) (ha : a < nl) (hb : b < nl) (hc : c < nl) (h7a : M 7 a = 0) (h7c : M 7 c = 2) (hla : (R a).length ≤ 10) (hlb : (R b).length ≤ 10) (hlc : (R c).length ≤ 10) : ∃ B, isB M a b c (R a).length (R b).length (R c).length B ∧ (tWD fu f (cMR n C b (R a) (R b) (R c))).1 = (nI (bc B), nI B) := by
  have hFt := Rel_Ft (n := n) H ha hb hc h7a h7c hla hlc
  have c4 : cI C 2 4 b = nI (R b).length := by rw [(H.2.2.2.1 b hb).2.1.2.1]; exact (H.2.2.2.2.1 b hb).2.1.1
  have e32 : cI (cMR n C b (R a) (R b) (R c)) 3 2 0 = nI (R b).length := by
    rw [cMR, cRL_I _ _ _ _ _ _ _ _ _ (by decide), cRL_I _ _ _ _ _ _ _ _ _ (by decide), cI_wI, if_pos ⟨rfl, rfl, rfl⟩, c4]
    exact if_pos (nI_le (a := (R b).length) (b := 10) hlb (by decide))
  have e430 : cI (cMR n C b (R a) (R b) (R c)) 4 3 0 = 0 := by rw [cMR, cRL_43, if_neg (by decide), cRL_43, if_pos rfl]
  have e431 : cI (cMR n C b (R a) (R b) (R c)) 4 3 1 = 0 := by rw [cMR, cRL_43, if_pos rfl]
  have x1 : ∃ g, cX (cMR n C b (R a) (R b) (R c)) 1 = flH g n := by
    refine ⟨cX (wI C 3 2 0 (if cI C 2 4 b ≤ 10 then cI C 2 4 b else 10)) (3 * 0 + 1), ?_⟩
    funext j
    rw [cMR, cRL_X, if_neg (by decide), if_neg (by decide), cRL_X, if_neg (by decide), if_pos (by decide)]
  have x4 : ∃ g, cX (cMR n C b (R a) (R b) (R c)) 4 = flH g n := by
    refine ⟨cX (cRL n (wI C 3 2 0 (if cI C 2 4 b ≤ 10 then cI C 2 4 b else 10)) 0 0 (R b) (R a)) (3 * 1 + 1), ?_⟩
    funext j
    rw [cMR, cRL_X, if_neg (by decide), if_pos (by decide)]
  unfold tWD
  rw [tW_m, e430, e431, e32]
  generalize cMR n C b (R a) (R b) (R c) = D at *
  obtain ⟨g1, x1⟩ := x1
  obtain ⟨g4, x4⟩ := x4
  obtain ⟨B, b1, b2, b3, b4⟩ := tW_best (Fp := FtP D) (Fs := FtS D) (fp := msk (cX D 0)) (fs := msk (cX D 3)) (mb := (R b).length) (fu := fu) (f := f) (fun w _ => (msk_ok _ w).2) (fun w _ => (msk_ok _ w).2) (fun w _ => (msk_ok _ w).1) (fun w _ => (msk_ok _ w).1) hfu hf hlb (cI D 3 4 0) (cI D 4 4 0, cX D 1) (cI D 4 4 1, cX D 4) (by rw [x1, hn]; exact SeS_0 _ _ _) (by rw [x4, hn]; exact SeS_0 _ _ _)
  exact ⟨B, ⟨b1, (good_A hFt b1).mp b2, fun t ht gt => b3 t ht ((good_A hFt ht).mpr gt)⟩, b4⟩
