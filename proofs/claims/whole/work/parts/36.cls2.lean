/-! THE CLASS: rows of pieces, lots that wait, a day's work -/
/-- only homes, lots and pieces have changed -/
def Kp (C D : Cs) : Prop := (cA D = cA C ∧ cN D = cN C ∧ cX D = cX C) ∧ (∀ t k i, t ≠ 1 → t ≠ 2 → t ≠ 5 → cI D t k i = cI C t k i) ∧ ∀ t k i, t ≠ 1 → t ≠ 2 → t ≠ 5 → cL D t k i = cL C t k i
theorem Kp.rf (C : Cs) : Kp C C := ⟨⟨rfl, rfl, rfl⟩, fun _ _ _ _ _ _ => rfl, fun _ _ _ _ _ _ => rfl⟩
theorem Kp.tr {C D E : Cs} (h : Kp C D) (g : Kp D E) : Kp C E := ⟨⟨g.1.1.trans h.1.1, g.1.2.1.trans h.1.2.1, g.1.2.2.trans h.1.2.2⟩, fun t k i a b c => (g.2.1 t k i a b c).trans (h.2.1 t k i a b c), fun t k i a b c => (g.2.2 t k i a b c).trans (h.2.2 t k i a b c)⟩
theorem Kp.wi {C D : Cs} (h : Kp C D) (t k i : Nat) (v : Int32) (ht : t = 1 ∨ t = 2 ∨ t = 5) : Kp C (wI D t k i v) := ⟨h.1, fun t' k' i' a b c => (u3_t (by omega)).trans (h.2.1 t' k' i' a b c), h.2.2⟩
theorem Kp.wl {C D : Cs} (h : Kp C D) (t k i c : Nat) (ht : t = 1 ∨ t = 2 ∨ t = 5) : Kp C (wL D t k i c) := ⟨h.1, h.2.1, fun t' k' i' a b c => (u3_t (by omega)).trans (h.2.2 t' k' i' a b c)⟩
theorem Kp.fx {C D : Cs} (h : Kp C D) (f : FX C) : FX D := by
  obtain ⟨h1, h2, h3, h4⟩ := f
  have e : ∀ t k i, t = 9 ∨ t = 3 ∨ t = 4 → cL D t k i = cL C t k i := fun t k i q => h.2.2 t k i (by omega) (by omega) (by omega)
  refine ⟨by rw [h.1.2.1]; exact h1, ?_, ?_, fun k' i' a b => (e 4 k' i' (by decide)).trans (h4 k' i' a b)⟩
  · rw [e 9 _ _ (by decide), e 9 _ _ (by decide), e 9 _ _ (by decide), e 9 _ _ (by decide), e 9 _ _ (by decide), e 9 _ _ (by decide), e 9 _ _ (by decide)]; exact h2
  · rw [e 3 _ _ (by decide), e 3 _ _ (by decide)]; exact h3
theorem Kp.nb {C D : Cs} (h : Kp C D) {a t f lim n : Nat} (ha : 23 ≤ a) (g : NB C a t f lim n) : NB D a t f lim n := ⟨(h.2.1 9 f 0 (by decide) (by decide) (by decide)).trans g.1, g.2.1, by rw [h.1.2.1]; exact g.2.2.1, fun j hj => (h.2.2 a j 0 (by omega) (by omega) (by omega)).trans (g.2.2.2 j hj)⟩
def cApp (C : Cs) (l p : Nat) : Cs := wI (wL (match cL C 2 3 l with
  | 0 => wL (wL (wI C 5 6 p (cI C 2 0 l)) 5 7 p 0) 2 2 l (p + 1)
  | q + 1 => wL (wL (wI C 5 6 p (cI C 2 0 l)) 5 7 p 0) 5 7 q (p + 1)) 2 3 l (p + 1)) 2 4 l (cI C 2 4 l + 1)
theorem cApp_Kp (C : Cs) (l p : Nat) : Kp C (cApp C l p) := by
  unfold cApp
  split
  · exact (((((Kp.rf C).wi 5 _ _ _ (by decide)).wl 5 _ _ _ (by decide)).wl 2 _ _ _ (by decide)).wl 2 _ _ _ (by decide)).wi 2 _ _ _ (by decide)
  · exact (((((Kp.rf C).wi 5 _ _ _ (by decide)).wl 5 _ _ _ (by decide)).wl 5 _ _ _ (by decide)).wl 2 _ _ _ (by decide)).wi 2 _ _ _ (by decide)
def sp_append : Sp := fun as w K => ∃ C l p, as = [.ref (cA C 2 l), .ref (cA C 5 p)] ∧ RX C w ∧ (l < cN C 2 ∧ p < cN C 5) ∧ ∀ w', RX (cApp C l p) w' → K none w'
theorem c_append (l : Launch) : Ct l 11 1 0 0 sp_append := by
  refine ct_jd (by decide) rfl (fun as w Po h => ?_)
  obtain ⟨C, lo, p, rfl, hX, ⟨hl, hp⟩, h⟩ := h
  refine ⟨Nat.le_of_ble_eq_true rfl, jd_run cdo_11 ev0 40 z00 ?_⟩
  refine ⟨hX.k 2 lo hl, _, hX.gi 2 0 lo (by decide) hl rfl, hX.k 5 p hp, ?_⟩
  have hX := hX.wi 5 6 p hp (cI C 2 0 lo)
  refine ⟨hX.k 5 p hp, none, rfl, ?_⟩
  have hX := hX.wl 5 7 p 0 hp (Nat.zero_le _) (by decide)
  cases e : cL C 2 3 lo with
  | zero =>
    refine ⟨hX.k 2 lo hl, _, hX.g0 2 3 lo (by decide) hl rfl e, ?_⟩
    refine ⟨hX.k 2 lo hl, some (cA C 5 p), rfl, ?_⟩
    have hX := hX.wl 2 2 lo (p + 1) hl hp (by decide)
    refine ⟨hX.k 2 lo hl, some (cA C 5 p), rfl, ?_⟩
    have hX := hX.wl 2 3 lo (p + 1) hl hp (by decide)
    refine ⟨hX.k 2 lo hl, _, hX.gi 2 4 lo (by decide) hl rfl, hX.k 2 lo hl, ?_⟩
    have hX := hX.wi 2 4 lo hl (cI C 2 4 lo + 1)
    refine h _ ?_
    rw [cApp, e]
    exact hX
  | succ q =>
    have hq : q < cN C 5 := hX.l1 2 3 lo (by decide) hl rfl e
    refine ⟨hX.k 2 lo hl, _, hX.g1 2 3 lo (by decide) hl rfl e, ?_⟩
    refine ⟨hX.k 2 lo hl, _, hX.g1 2 3 lo (by decide) hl rfl e, hX.k 5 q hq, some (cA C 5 p), rfl, ?_⟩
    have hX := hX.wl 5 7 q (p + 1) hq hp (by decide)
    refine ⟨hX.k 2 lo hl, some (cA C 5 p), rfl, ?_⟩
    have hX := hX.wl 2 3 lo (p + 1) hl hp (by decide)
    refine ⟨hX.k 2 lo hl, _, hX.gi 2 4 lo (by decide) hl rfl, hX.k 2 lo hl, ?_⟩
    have hX := hX.wi 2 4 lo hl (cI C 2 4 lo + 1)
    refine h _ ?_
    rw [cApp, e]
    exact hX
def cUn1 (C : Cs) (l b p : Nat) : Cs := match b with
  | 0 => wL C 2 2 l (cL C 5 7 p)
  | q + 1 => wL C 5 7 q (cL C 5 7 p)
def cUnl (C : Cs) (l b p : Nat) : Cs := wI (if cL (cUn1 C l b p) 5 7 p = 0 then wL (cUn1 C l b p) 2 3 l b else cUn1 C l b p) 2 4 l (cI C 2 4 l - 1)
theorem cUnl_Kp (C : Cs) (l b p : Nat) : Kp C (cUnl C l b p) := by
  have h1 : Kp C (cUn1 C l b p) := by
    unfold cUn1
    split
    · exact (Kp.rf C).wl 2 _ _ _ (by decide)
    · exact (Kp.rf C).wl 5 _ _ _ (by decide)
  unfold cUnl
  split
  · exact (h1.wl 2 _ _ _ (by decide)).wi 2 _ _ _ (by decide)
  · exact h1.wi 2 _ _ _ (by decide)
def sp_unlink : Sp := fun as w K => ∃ C l b p, as = [.ref (cA C 2 l), va_rf (adO C 5 b), .ref (cA C 5 p)] ∧ RX C w ∧ (l < cN C 2 ∧ b ≤ cN C 5 ∧ p < cN C 5) ∧ ∀ w', RX (cUnl C l b p) w' → K none w'
theorem c_unlink (l : Launch) : Ct l 16 1 0 0 sp_unlink := by
  refine ct_jd (by decide) rfl (fun as w Po h => ?_)
  obtain ⟨C, lo, b, p, rfl, hX, ⟨hl, hb, hp⟩, h⟩ := h
  have fin : ∀ D S (v : Value), v = va_rf (adO C 5 b) → RX D S → D = cUn1 C lo b p → cA D = cA C → cN D = cN C → cI D = cI C → Jd l 16 1 0 0 none Po 23 [(0, .ref (cA C 2 lo)), (1, v), (2, .ref (cA C 5 p))] [] S 0 0 := by
    intro D S v hv hX eD eA eN eI
    have hl : lo < cN D 2 := by rw [eN]; exact hl
    have hp : p < cN D 5 := by rw [eN]; exact hp
    have hb : b ≤ cN D 5 := by rw [eN]; exact hb
    have eO : adO C 5 b = adO D 5 b := by
      cases b with
      | zero => rfl
      | succ q => show some _ = some _; rw [eA]
    rw [eO] at hv
    rw [cUnl, ← eD, ← eI] at h
    rw [← eA]
    clear eO eD eI eA eN
    cases e : cL D 5 7 p with
    | zero =>
      rw [if_pos e] at h
      have hX1 := hX.wl 2 3 lo b hl hb (by decide)
      cases b with
      | zero =>
        subst hv
        refine jd_s cdo_16 ev0 [] 40 z00 ⟨hX.k 5 p hp, _, hX.g0 5 7 p (by decide) hp rfl e, hX.k 2 lo hl, none, rfl, ?_⟩
        have hX := hX1
        refine ⟨hX.k 2 lo hl, _, hX.gi 2 4 lo (by decide) hl rfl, hX.k 2 lo hl, ?_⟩
        exact h _ (hX.wi 2 4 lo hl (cI D 2 4 lo - 1))
      | succ q =>
        subst hv
        refine jd_s cdo_16 ev0 [] 40 z00 ⟨hX.k 5 p hp, _, hX.g0 5 7 p (by decide) hp rfl e, hX.k 2 lo hl, some (cA D 5 q), rfl, ?_⟩
        have hX := hX1
        refine ⟨hX.k 2 lo hl, _, hX.gi 2 4 lo (by decide) hl rfl, hX.k 2 lo hl, ?_⟩
        exact h _ (hX.wi 2 4 lo hl (cI D 2 4 lo - 1))
    | succ j =>
      rw [if_neg (by rw [e]; exact Nat.succ_ne_zero j)] at h
      refine jd_s cdo_16 ev0 [] 40 z00 ⟨hX.k 5 p hp, _, hX.g1 5 7 p (by decide) hp rfl e, ?_⟩
      refine ⟨hX.k 2 lo hl, _, hX.gi 2 4 lo (by decide) hl rfl, hX.k 2 lo hl, ?_⟩
      exact h _ (hX.wi 2 4 lo hl (cI D 2 4 lo - 1))
  have hlb : cL C 5 7 p ≤ cN C 5 := hX.lb 5 7 p (by decide) hp rfl
  cases b with
  | zero =>
    refine ⟨Nat.le_of_ble_eq_true rfl, jd_s cdo_16 ev0 [23] 40 z00 ?_⟩
    refine ⟨hX.k 5 p hp, _, hX.gr 5 7 p (by decide) hp rfl, ?_⟩
    have hX1 := hX.wl 2 2 lo (cL C 5 7 p) hl hlb (by decide)
    cases e : cL C 5 7 p with
    | zero =>
      rw [e] at hX1
      exact ⟨hX.k 2 lo hl, none, rfl, fin _ _ _ rfl hX1 (by rw [cUn1, e]) rfl rfl rfl⟩
    | succ j =>
      rw [e] at hX1
      exact ⟨hX.k 2 lo hl, some (cA C 5 j), rfl, fin _ _ _ rfl hX1 (by rw [cUn1, e]) rfl rfl rfl⟩
  | succ q =>
    have hq : q < cN C 5 := hb
    refine ⟨Nat.le_of_ble_eq_true rfl, jd_s cdo_16 ev0 [23] 40 z00 ?_⟩
    refine ⟨hX.k 5 p hp, _, hX.gr 5 7 p (by decide) hp rfl, ?_⟩
    have hX1 := hX.wl 5 7 q (cL C 5 7 p) hq hlb (by decide)
    cases e : cL C 5 7 p with
    | zero =>
      rw [e] at hX1
      exact ⟨hX.k 5 q hq, none, rfl, fin _ _ _ rfl hX1 (by rw [cUn1, e]) rfl rfl rfl⟩
    | succ j =>
      rw [e] at hX1
      exact ⟨hX.k 5 q hq, some (cA C 5 j), rfl, fin _ _ _ rfl hX1 (by rw [cUn1, e]) rfl rfl rfl⟩
def cMv (a b : Nat) : Nat → Cs → Cs
  | 0, C => C
  | k + 1, C => match cL C 2 2 a with
    | 0 => C
    | q + 1 => cMv a b k (cApp (cUnl C a 0 q) b q)
theorem cMv_Kp (a b : Nat) : ∀ k C, Kp C (cMv a b k C)
  | 0, C => Kp.rf C
  | k + 1, C => by
    unfold cMv
    split
    · exact Kp.rf C
    · exact ((cUnl_Kp _ _ _ _).tr (cApp_Kp _ _ _)).tr (cMv_Kp a b k _)
def sp_moveFirst : Sp := fun as w K => ∃ C a n b, as = [.ref (cA C 2 a), .int (nI n), .ref (cA C 2 b)] ∧ RX C w ∧ (a < cN C 2 ∧ b < cN C 2 ∧ n ≤ 300) ∧ ∀ w', RX (cMv a b n C) w' → K none w'
theorem c_moveFirst (l : Launch) : Ct l 15 2 0 0 sp_moveFirst := by
  have hev : ∀ (k : Nat) (r : Nat × Nat × Nat × Sp), evL [(16, 1, 0, 0, sp_unlink), (11, 1, 0, 0, sp_append)] k = some r → Ct l k r.1 r.2.1 r.2.2.1 r.2.2.2 := evL_ok (by simpa using ⟨c_unlink l, c_append l⟩)
  refine ct_jd (by decide) rfl (fun as w Po h => ?_)
  obtain ⟨C, a, n, b, rfl, hX, ⟨ha, hb, hn⟩, h⟩ := h
  refine ⟨Nat.le_of_ble_eq_true rfl, ?_⟩
  have key : ∀ d i D w', i + d = n → Kp C D → RX D w' → (∀ w2, RX (cMv a b d D) w2 → Po none w2) → Jd l 15 2 0 0 none Po 2 [(3, .int (nI i)), (0, .ref (cA C 2 a)), (1, .int (nI n)), (2, .ref (cA C 2 b))] [] w' 0 0 := by
    intro d
    induction d with
    | zero =>
      intro i D w' hi hK hX hk
      obtain rfl : i = n := by omega
      refine jd_s cdo_15 hev [] 20 z00 ⟨fun _ => hk _ hX, fun c => absurd (nI_le (Nat.le_refl i) (by omega)) c⟩
    | succ d ih =>
      intro i D w' hi hK hX hk
      have ha' : a < cN D 2 := by rw [hK.1.2.1]; exact ha
      have hb' : b < cN D 2 := by rw [hK.1.2.1]; exact hb
      rw [← hK.1.1]
      refine jd_s cdo_15 hev [2] 40 z00 ⟨fun c => ?_, fun _ => ?_⟩
      · have := ge_n (by omega) (by omega) c
        omega
      rw [cMv] at hk
      cases e : cL D 2 2 a with
      | zero =>
        rw [e] at hk
        exact ⟨hX.k 2 a ha', _, hX.g0 2 2 a (by decide) ha' rfl e, hk _ hX⟩
      | succ q =>
        rw [e] at hk
        have hq : q < cN D 5 := hX.l1 2 2 a (by decide) ha' rfl e
        refine ⟨hX.k 2 a ha', _, hX.g1 2 2 a (by decide) ha' rfl e, ?_⟩
        refine ⟨hX.k 2 a ha', _, hX.g1 2 2 a (by decide) ha' rfl e, ?_⟩
        refine ⟨⟨by decide, by decide, by decide⟩, rfl, hX.k 2 a ha', D, a, 0, q, rfl, hX, ⟨ha', Nat.zero_le _, hq⟩, fun w2 hX2 => ?_⟩
        have hK2 := cUnl_Kp D a 0 q
        have hb2 : b < cN (cUnl D a 0 q) 2 := by rw [hK2.1.2.1]; exact hb'
        have hq2 : q < cN (cUnl D a 0 q) 5 := by rw [hK2.1.2.1]; exact hq
        refine ⟨⟨by decide, by decide, by decide⟩, rfl, hX2.k' 2 b (by rw [hK2.1.1]) hb2, cUnl D a 0 q, b, q, by rw [hK2.1.1]; rfl, hX2, ⟨hb2, hq2⟩, fun w3 hX3 => ?_⟩
        have := ih (i + 1) _ w3 (by omega) ((hK.tr hK2).tr (cApp_Kp _ b q)) hX3 hk
        rw [← nI_1, ← hK.1.1] at this
        exact jd_pk [0, 2, 3, 4] this
  refine jd_s cdo_15 hev [2] 10 z00 ?_
  exact key n 0 C w (by omega) (Kp.rf C) hX h
