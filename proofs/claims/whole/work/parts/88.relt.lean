/-! THE TWO: while watches are made: pieces that are taken stand in their rows still -/
def RlX1 (C : Cs) (M : Ms) (np l : Nat) (L : List Nat) (X : Nat → Bool) : Prop := (chL (cL C 5 7) (cL C 2 2 l) L ∧ cL C 2 3 l = lsC L) ∧ (M 9 l = nI L.length ∧ ∀ i p, L[i]? = some p → M 8 (300 * l + i) = nI p) ∧ L.Nodup ∧ ∀ p, p ∈ L → (p < np ∧ M 0 p = M 7 l) ∧ (X p = false → M 5 p = nI l ∧ M 4 p = 0) ∧ (X p = true → M 4 p = 2)
def RelT (C : Cs) (M : Ms) (np nl nh nw ns ng dy tt : Nat) (R Q : Nat → List Nat) (X : Nat → Bool) : Prop := RlN C M np nl nh nw ∧ RlP C M np ∧ RlH C M nh ∧ RlL C M nl nh ∧ (∀ l, l < nl → RlX1 C M np l (R l) X) ∧ RlK C M nl R ∧ RlQ C M nl nh Q ∧ RlT M nl ns tt ∧ RlS C M nh ns ∧ RlG C M nh ng ∧ RlW C M np nw ∧ RlF C M ∧ RlD C M dy ∧ G42 M
theorem RelT_of {C : Cs} {M : Ms} {np nl nh nw ns ng dy tt : Nat} {R Q : Nat → List Nat} (H : Rel C M np nl nh nw ns ng dy tt R Q) : RelT C M np nl nh nw ns ng dy tt R Q (fun _ => false) := by
  obtain ⟨hN, hP, hH, hL, hR, hK⟩ := H
  refine ⟨hN, hP, hH, hL, fun l hl => ?_, hK⟩
  obtain ⟨a, b, c, d⟩ := hR l hl
  exact ⟨a, b, c, fun p hp => ⟨⟨(d p hp).1, (d p hp).2.2.2⟩, fun _ => ⟨(d p hp).2.1, (d p hp).2.2.1⟩, fun z => absurd z Bool.false_ne_true⟩⟩
theorem RelT_to {C : Cs} {M : Ms} {np nl nh nw ns ng dy tt : Nat} {R Q : Nat → List Nat} {X : Nat → Bool} (H : RelT C M np nl nh nw ns ng dy tt R Q X) (hX : ∀ l p, l < nl → p ∈ R l → X p = false) : Rel C M np nl nh nw ns ng dy tt R Q := by
  obtain ⟨hN, hP, hH, hL, hR, hK⟩ := H
  refine ⟨hN, hP, hH, hL, fun l hl => ?_, hK⟩
  obtain ⟨a, b, c, d⟩ := hR l hl
  refine ⟨a, b, c, fun p hp => ?_⟩
  have e := (d p hp).2.1 (hX l p hl hp)
  exact ⟨(d p hp).1.1, e.1, e.2, (d p hp).1.2⟩
section MWR
variable (M : Ms) (k P Q R : Nat)
theorem mW_4 (x : Nat) : mW M k P Q R 4 x = if x = P ∨ x = Q ∨ x = R then 2 else M 4 x := by
  simp only [mW, mW1, u2]
  by_cases a : x = P <;> by_cases b : x = Q <;> by_cases c : x = R <;> simp [a, b, c]
theorem mW_5 (x : Nat) : mW M k P Q R 5 x = if x = P ∨ x = Q ∨ x = R then nI k else M 5 x := by
  simp only [mW, mW1, u2]
  by_cases a : x = P <;> by_cases b : x = Q <;> by_cases c : x = R <;> simp [a, b, c]
theorem mW_39 (x : Nat) : mW M k P Q R 39 x = if x = k then 0 else M 39 x := by
  simp only [mW, mW1, u2]
  by_cases a : x = k <;> simp [a]
theorem mW_38 (x : Nat) (h0 : x ≠ 3 * k) (h1 : x ≠ 3 * k + 1) (h2 : x ≠ 3 * k + 2) : mW M k P Q R 38 x = M 38 x := by
  simp only [mW, mW1, u2]
  simp [h0, h1, h2]
theorem mW_38n : mW M k P Q R 38 (3 * k + 0) = nI P ∧ mW M k P Q R 38 (3 * k + 1) = nI Q ∧ mW M k P Q R 38 (3 * k + 2) = nI R := by
  simp only [mW, mW1, u2]
  simp
end MWR
section ASR
variable {C : Cs} {a p q r nw : Nat}
theorem cAs_I (hc : cN C 8 = nw) (t k i : Nat) (h5 : t ≠ 5) (h8 : ¬ (t = 8 ∧ i = nw)) (h9 : ¬ (t = 9 ∧ k = 10)) : cI (cAs C a p q r nw) t k i = cI C t k i := by
  have e : cN (cAs3 C p q r nw) 8 = nw := by rw [(cAs3_Kp C p q r nw).1.2.1]; exact hc
  rw [cAs, cI_wI, if_neg (fun z => h9 ⟨z.1, z.2.1⟩), cI_wL, cWI_I, cI_wN, e, if_neg h8, cAs3_I _ _ _ _ _ _ _ _ h5]
theorem cAs_8 (hc : cN C 8 = nw) (k : Nat) : cI (cAs C a p q r nw) 8 k nw = 0 := by
  have e : cN (cAs3 C p q r nw) 8 = nw := by rw [(cAs3_Kp C p q r nw).1.2.1]; exact hc
  rw [cAs, cI_wI, if_neg (fun z => absurd z.1 (by decide)), cI_wL, cWI_I, cI_wN, e, if_pos ⟨rfl, rfl⟩]
theorem cAs_9 : cI (cAs C a p q r nw) 9 10 0 = nI (nw + 1) := by rw [cAs, cI_wI, if_pos ⟨rfl, rfl, rfl⟩]
theorem cAs_5 (k x : Nat) : cI (cAs C a p q r nw) 5 k x = if k = 5 ∧ (x = p ∨ x = q ∨ x = r) then 2 else if k = 6 ∧ (x = p ∨ x = q ∨ x = r) then nI nw else cI C 5 k x := by
  rw [cAs, cI_wI, if_neg (fun z => absurd z.1 (by decide)), cI_wL, cWI_I, cI_wNt (by decide), cAs3, cLR, cLR, cLR, cI_wI, cI_wI, cI_wI, cI_wI, cI_wI, cI_wI]
  by_cases k5 : k = 5
  · by_cases e1 : x = p <;> by_cases e2 : x = q <;> by_cases e3 : x = r <;> simp [k5, e1, e2, e3]
  · by_cases k6 : k = 6
    · by_cases e1 : x = p <;> by_cases e2 : x = q <;> by_cases e3 : x = r <;> simp [k6, e1, e2, e3]
    · simp [k5, k6]
theorem cAs_L (t k i : Nat) (h8 : t ≠ 8) (h26 : t ≠ 26) : cL (cAs C a p q r nw) t k i = cL C t k i := by
  rw [cAs, cL_wI, cL_wL, if_neg (fun z => h26 z.1), cWI_L _ _ _ _ _ _ _ _ h8, cL_wNt h8]
  rfl
theorem cAs_L8 (k i : Nat) (hc : cN C 8 = nw) (hi : i ≠ nw) : cL (cAs C a p q r nw) 8 k i = cL C 8 k i := by
  have e : cN (cAs3 C p q r nw) 8 = nw := by rw [(cAs3_Kp C p q r nw).1.2.1]; exact hc
  rw [cAs, cL_wI, cL_wL, if_neg (fun z => absurd z.1 (by decide)), cWI, cL_wL, if_neg (fun z => hi z.2.2), cL_wL, if_neg (fun z => hi z.2.2), cL_wL, if_neg (fun z => hi z.2.2), cL_wN, e, if_neg (fun z => hi z.2)]
  rfl
theorem cAs_L8n : cL (cAs C a p q r nw) 8 0 nw = p + 1 ∧ cL (cAs C a p q r nw) 8 1 nw = q + 1 ∧ cL (cAs C a p q r nw) 8 2 nw = r + 1 := by
  refine ⟨?_, ?_, ?_⟩ <;> simp [cAs, cWI, cL_wI, cL_wL]
theorem cAs_L26 (j : Nat) : cL (cAs C a p q r nw) 26 j 0 = if j = nw then nw + 1 else cL C 26 j 0 := by
  rw [cAs, cL_wI, cL_wL, cWI_L _ _ _ _ _ _ _ _ (by decide), cL_wNt (by decide)]
  by_cases e : j = nw
  · rw [if_pos ⟨rfl, e, rfl⟩, if_pos e]
  · rw [if_neg (fun z => e z.2.1), if_neg e]
    rfl
theorem cAs_N (hc : cN C 8 = nw) (t : Nat) : cN (cAs C a p q r nw) t = if t = 8 then nw + 1 else cN C t := by
  have e : cN (cAs3 C p q r nw) 8 = nw := by rw [(cAs3_Kp C p q r nw).1.2.1]; exact hc
  show cN (wN (cAs3 C p q r nw) 8 a) t = _
  rw [cN_wN, e, (cAs3_Kp C p q r nw).1.2.1]
theorem cAs_F (h : FX C) : FX (cAs C a p q r nw) := FX_wI (FX_wL (cWI_fx (FX_wN ((cAs3_Kp C p q r nw).fx h) 8 a (by decide)) _ _ _ _) _ _ _ _ (by decide)) _ _ _ _
end ASR
/-- one watch more -/
theorem RelT_as {C : Cs} {M : Ms} {np nl nh nw ns ng dy tt : Nat} {R Q : Nat → List Nat} {X : Nat → Bool} {a p q r : Nat} (hnw : nw < 100) (hp : p < np ∧ M 4 p = 0 ∧ M 0 p = 0) (hq : q < np ∧ M 4 q = 0 ∧ M 0 q = 1) (hr : r < np ∧ M 4 r = 0 ∧ M 0 r = 2) (H : RelT C M np nl nh nw ns ng dy tt R Q X) : RelT (cAs C a p q r nw) (mW M nw p q r) np nl nh (nw + 1) ns ng dy tt R Q (fun x => X x || (decide (x = p) || (decide (x = q) || decide (x = r)))) := by
  obtain ⟨⟨hX, ⟨n1, m1⟩, ⟨n2, m2⟩, ⟨n3, m3⟩, n4, m4⟩, hP, hH, hL, hR, hK, hQ, hT, hS, hG, hW, hF, hD, h42⟩ := H
  have hc := n4.2.2.1
  have I : ∀ t k i, t ≠ 5 → t ≠ 8 → t ≠ 9 → cI (cAs C a p q r nw) t k i = cI C t k i := fun t k i h5 h8 h9 => cAs_I hc t k i h5 (fun z => h8 z.1) (fun z => h9 z.1)
  have I9 : ∀ k, k ≠ 10 → cI (cAs C a p q r nw) 9 k 0 = cI C 9 k 0 := fun k hk => cAs_I hc 9 k 0 (by decide) (fun z => absurd z.1 (by decide)) (fun z => hk z.2)
  have L : ∀ t k i, t ≠ 8 → t ≠ 26 → cL (cAs C a p q r nw) t k i = cL C t k i := fun t k i h8 h26 => cAs_L t k i h8 h26
  have N : ∀ t, t ≠ 8 → cN (cAs C a p q r nw) t = cN C t := fun t ht => by rw [cAs_N hc, if_neg ht]
  have no : ∀ f i, f ≠ 38 ∧ f ≠ 4 ∧ f ≠ 5 ∧ f ≠ 39 ∧ f ≠ 40 → mW M nw p q r f i = M f i := fun f i h => mW_ot M nw p q r f i h
  have n4' : ∀ x, ¬ (x = p ∨ x = q ∨ x = r) → mW M nw p q r 4 x = M 4 x := fun x hx => by rw [mW_4, if_neg hx]
  have n5' : ∀ x, ¬ (x = p ∨ x = q ∨ x = r) → mW M nw p q r 5 x = M 5 x := fun x hx => by rw [mW_5, if_neg hx]
  have pq : ∀ x, (x = p ∨ x = q ∨ x = r) → M 4 x = 0 := fun x hx => by
    rcases hx with e | e | e <;> rw [e]
    · exact hp.2.1
    · exact hq.2.1
    · exact hr.2.1
  refine ⟨⟨cAs_F hX, ⟨n1.c (I9 7 (by decide)) (N 5 (by decide)) (fun j => L 23 j 0 (by decide) (by decide)), (no 6 0 (by decide)).trans m1⟩, ⟨n2.c (I9 8 (by decide)) (N 2 (by decide)) (fun j => L 24 j 0 (by decide) (by decide)), (no 16 0 (by decide)).trans m2⟩, ⟨n3.c (I9 9 (by decide)) (N 1 (by decide)) (fun j => L 25 j 0 (by decide) (by decide)), (no 24 0 (by decide)).trans m3⟩, ⟨cAs_9, by omega, by rw [cAs_N hc, if_pos rfl], fun j hj => ?_⟩, mW_40 M nw p q r⟩, fun x hx => ?_, hH.c (fun k x _ _ => I 1 k x (by decide) (by decide) (by decide)) (fun f x h1 h2 => no f x (by omega)) (no 26 0 (by decide)), fun l hl => (hL l hl).c (fun k => I 2 k l (by decide) (by decide) (by decide)) (fun k _ => L 2 k l (by decide) (by decide)) (fun f hf => no f l (by omega)) (Nat.le_refl _), fun l hl => ?_, hK.c (fun l _ => no 10 l (by decide)) (fun l _ => no 14 l (by decide)) (fun l _ => L 2 8 l (by decide) (by decide)), fun h hh => (hQ h hh).c (fun l _ => L 2 10 l (by decide) (by decide)) (L 1 8 h (by decide) (by decide)) (L 1 9 h (by decide) (by decide)) (I 1 7 h (by decide) (by decide) (by decide)) (fun l => by rw [no 10 l (by decide), no 11 l (by decide)]) (fun l _ => no 15 l (by decide)), ?_, hS.c (I9 11 (by decide)) (N 6 (by decide)) (fun k e _ => I 6 k e (by decide) (by decide) (by decide)) (fun e _ => L 6 2 e (by decide) (by decide)) (fun x _ => L 1 10 x (by decide) (by decide)) (no 30 0 (by decide)) (fun f e hf _ => no f e (by omega)), hG.c (I9 12 (by decide)) (N 7 (by decide)) (fun k e _ => I 7 k e (by decide) (by decide) (by decide)) (fun e _ => L 7 3 e (by decide) (by decide)) (fun x _ => L 1 11 x (by decide) (by decide)) (no 35 0 (by decide)) (fun f e hf _ => no f e (by omega)), fun k hk => ?_, fun i hi => ?_, ⟨(I9 13 (by decide)).trans hD.1, hD.2.1, (no 25 0 (by decide)).trans hD.2.2⟩, fun i hi => ?_⟩
  · rw [cAs_L26]
    by_cases e : j = nw
    · rw [if_pos e, e]
    · rw [if_neg e]
      exact n4.2.2.2 j (by omega)
  · have w := hP x hx
    have J : ∀ k, k ≠ 5 → k ≠ 6 → cI (cAs C a p q r nw) 5 k x = cI C 5 k x := fun k h5 h6 => by rw [cAs_5, if_neg (fun z => h5 z.1), if_neg (fun z => h6 z.1)]
    have e5 : cI (cAs C a p q r nw) 5 5 x = mW M nw p q r 4 x := by
      rw [cAs_5, mW_4]
      by_cases e : x = p ∨ x = q ∨ x = r
      · rw [if_pos ⟨rfl, e⟩, if_pos e]
      · rw [if_neg (fun z => e z.2), if_neg (fun z => e z.2), if_neg e]
        exact w.2.1.2.2.2.2.1
    have e6 : cI (cAs C a p q r nw) 5 6 x = mW M nw p q r 5 x := by
      rw [cAs_5, mW_5, if_neg (fun z => absurd z.1 (by decide))]
      by_cases e : x = p ∨ x = q ∨ x = r
      · rw [if_pos ⟨rfl, e⟩, if_pos e]
      · rw [if_neg (fun z => e z.2), if_neg e]
        exact w.2.1.2.2.2.2.2
    rw [J 0 (by decide) (by decide), J 1 (by decide) (by decide), J 2 (by decide) (by decide), J 3 (by decide) (by decide), J 4 (by decide) (by decide), no 0 x (by decide), no 1 x (by decide), no 2 x (by decide), no 3 x (by decide), e5, e6]
    exact ⟨w.1, ⟨w.2.1.1, w.2.1.2.1, w.2.1.2.2.1, w.2.1.2.2.2.1, rfl, rfl⟩, w.2.2⟩
  · obtain ⟨⟨g1, g2⟩, ⟨g3, g4⟩, g5, g6⟩ := hR l hl
    refine ⟨⟨?_, (L 2 3 l (by decide) (by decide)).trans g2⟩, ⟨(no 9 l (by decide)).trans g3, fun i x hx => (no 8 _ (by decide)).trans (g4 i x hx)⟩, g5, fun x hx => ?_⟩
    · rw [L 2 2 l (by decide) (by decide)]
      exact chL_cong (fun x _ => (L 5 7 x (by decide) (by decide)).symm) g1
    · obtain ⟨g7, g8, g9⟩ := g6 x hx
      refine ⟨⟨g7.1, by rw [no 0 x (by decide), no 7 l (by decide)]; exact g7.2⟩, fun z => ?_, fun z => ?_⟩
      · rw [Bool.or_eq_false_iff, Bool.or_eq_false_iff, Bool.or_eq_false_iff, decide_eq_false_iff_not, decide_eq_false_iff_not, decide_eq_false_iff_not] at z
        have e : ¬ (x = p ∨ x = q ∨ x = r) := fun y => by
          rcases y with y | y | y
          · exact z.2.1 y
          · exact z.2.2.1 y
          · exact z.2.2.2 y
        rw [n5' x e, n4' x e]
        exact g8 z.1
      · rw [mW_4]
        by_cases e : x = p ∨ x = q ∨ x = r
        · rw [if_pos e]
        · rw [if_neg e]
          refine g9 ?_
          rw [Bool.or_eq_true, Bool.or_eq_true, Bool.or_eq_true, decide_eq_true_eq, decide_eq_true_eq, decide_eq_true_eq] at z
          exact z.resolve_right e
  · obtain ⟨t1, t2, t3⟩ := hT
    refine ⟨(no 17 0 (by decide)).trans t1, ?_, fun j hj z => ?_⟩
    · rw [cn_cong (q := fun j => decide (M 10 j = 1)) (fun i _ => by rw [no 10 i (by decide)])]
      exact t2
    · rw [no 10 j (by decide)] at z
      rw [no 15 j (by decide)]
      exact t3 j hj z
  · by_cases e : k = nw
    · subst e
      obtain ⟨a0, a1, a2⟩ := mW_38n M k p q r
      obtain ⟨b0, b1, b2⟩ := cAs_L8n (C := C) (a := a) (p := p) (q := q) (r := r) (nw := k)
      refine ⟨⟨by rw [cAs_8 hc, mW_39, if_pos rfl], Or.inl (by rw [mW_39, if_pos rfl])⟩, fun i hi => ?_⟩
      rcases (show i = 0 ∨ i = 1 ∨ i = 2 by omega) with rfl | rfl | rfl
      · exact ⟨p, hp.1, b0, a0, by rw [mW_4, if_pos (Or.inl rfl)], by rw [mW_5, if_pos (Or.inl rfl)], (no 0 p (by decide)).trans hp.2.2⟩
      · exact ⟨q, hq.1, b1, a1, by rw [mW_4, if_pos (Or.inr (Or.inl rfl))], by rw [mW_5, if_pos (Or.inr (Or.inl rfl))], (no 0 q (by decide)).trans hq.2.2⟩
      · exact ⟨r, hr.1, b2, a2, by rw [mW_4, if_pos (Or.inr (Or.inr rfl))], by rw [mW_5, if_pos (Or.inr (Or.inr rfl))], (no 0 r (by decide)).trans hr.2.2⟩
    · obtain ⟨⟨w1, w2⟩, w3⟩ := hW k (by omega)
      refine ⟨by rw [cAs_I hc 8 3 k (by decide) (fun z => e z.2) (fun z => absurd z.1 (by decide)), mW_39, if_neg e]; exact ⟨w1, w2⟩, fun i hi => ?_⟩
      obtain ⟨x, hx, x1, x2, x3, x4, x5⟩ := w3 i hi
      have ne : ¬ (x = p ∨ x = q ∨ x = r) := fun z => by
        rw [pq x z] at x3
        exact absurd x3 (by decide)
      exact ⟨x, hx, by rw [cAs_L8 i k hc e]; exact x1, by rw [mW_38 M nw p q r _ (by omega) (by omega) (by omega)]; exact x2, by rw [n4' x ne]; exact x3, by rw [n5' x ne]; exact x4, by rw [no 0 x (by decide)]; exact x5⟩
  · rw [I 0 0 i (by decide) (by decide) (by decide), I 0 1 i (by decide) (by decide) (by decide), no 36 i (by decide), no 37 i (by decide)]
    exact hF i hi
  · rw [no 42 i (by decide)]
    exact h42 i hi
