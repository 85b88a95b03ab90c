/-! THE TWO: a piece is worked -/
theorem cW4_I (C : Cs) (h l p t k i : Nat) (h5 : ¬ (t = 5 ∧ (k = 3 ∨ k = 4) ∧ i = p)) (h1 : ¬ (t = 1 ∧ k = 5 ∧ i = h)) (h2 : ¬ (t = 2 ∧ k = 9 ∧ i = l)) : cI (cW4 C h l p) t k i = cI C t k i := by
  rw [cW4, cI_wI, if_neg h2, cI_wI, if_neg h1, cI_wI, if_neg (fun z => h5 ⟨z.1, Or.inr z.2.1, z.2.2⟩), cI_wI, if_neg (fun z => h5 ⟨z.1, Or.inl z.2.1, z.2.2⟩)]
theorem cW4_n (C : Cs) (h l p : Nat) : cI (cW4 C h l p) 5 3 p = cI C 5 3 p + cI C 1 2 h ∧ cI (cW4 C h l p) 5 4 p = cI C 5 4 p ||| (1 <<< (cI C 1 0 h &&& 31)) ∧ cI (cW4 C h l p) 1 5 h = cI C 1 5 h + 1 ∧ cI (cW4 C h l p) 2 9 l = cI C 2 9 l + 1 := by
  simp [cW4, cI_wI]
theorem mW4_ot {M : Ms} {h l p f i : Nat} (hf : f ≠ 1 ∧ f ≠ 3 ∧ f ≠ 22 ∧ f ≠ 13) : mWork4 M h l p f i = M f i := by
  unfold mWork4
  rw [u2_ne hf.2.2.2, u2_ne hf.2.2.1, u2_ne hf.2.1, u2_ne hf.1]
theorem mW4_n (M : Ms) (h l p : Nat) : mWork4 M h l p 1 p = M 1 p + M 19 h ∧ mWork4 M h l p 3 p = M 3 p ||| (1 <<< (nI h &&& 31)) ∧ mWork4 M h l p 22 h = M 22 h + 1 ∧ mWork4 M h l p 13 l = M 13 l + 1 := by
  simp [mWork4, u2]
theorem mW4_1 {M : Ms} {h l p i : Nat} (hi : i ≠ p) : mWork4 M h l p 1 i = M 1 i := by simp [mWork4, u2, hi]
theorem mW4_3 {M : Ms} {h l p i : Nat} (hi : i ≠ p) : mWork4 M h l p 3 i = M 3 i := by simp [mWork4, u2, hi]
theorem mW4_22 {M : Ms} {h l p i : Nat} (hi : i ≠ h) : mWork4 M h l p 22 i = M 22 i := by simp [mWork4, u2, hi]
theorem mW4_13 {M : Ms} {h l p i : Nat} (hi : i ≠ l) : mWork4 M h l p 13 i = M 13 i := by simp [mWork4, u2, hi]
theorem Rel_w4 {C : Cs} {M : Ms} {np nl nh nw ns ng dy tt : Nat} {R Q : Nat → List Nat} {h l p : Nat} (hh : h < nh) (hl : l < nl) (hp : p < np) (h10 : M 10 l = 2) (H : Rel C M np nl nh nw ns ng dy tt R Q) : Rel (cW4 C h l p) (mWork4 M h l p) np nl nh nw ns ng dy tt R Q := by
  obtain ⟨hN, hP, hH, hL, hR, hK, hQ, hT, hS, hG, hW, hF, hD, h42⟩ := H
  obtain ⟨hX, ⟨n1, m1⟩, ⟨n2, m2⟩, ⟨n3, m3⟩, n4, m4⟩ := hN
  have hKp := cW4_Kp C h l p
  obtain ⟨v3, v4, v15, v29⟩ := cW4_n C h l p
  obtain ⟨u1, u3, u22, u13⟩ := mW4_n M h l p
  have it : ∀ t k i, t ≠ 5 → t ≠ 1 → t ≠ 2 → cI (cW4 C h l p) t k i = cI C t k i := fun t k i a b c => cW4_I C h l p t k i (fun z => a z.1) (fun z => b z.1) (fun z => c z.1)
  have i5 : ∀ k i, ¬ ((k = 3 ∨ k = 4) ∧ i = p) → cI (cW4 C h l p) 5 k i = cI C 5 k i := fun k i a => cW4_I C h l p 5 k i (fun z => a z.2) (fun z => absurd z.1 (by decide)) (fun z => absurd z.1 (by decide))
  have i1 : ∀ k i, ¬ (k = 5 ∧ i = h) → cI (cW4 C h l p) 1 k i = cI C 1 k i := fun k i a => cW4_I C h l p 1 k i (fun z => absurd z.1 (by decide)) (fun z => a z.2) (fun z => absurd z.1 (by decide))
  have i2 : ∀ k i, ¬ (k = 9 ∧ i = l) → cI (cW4 C h l p) 2 k i = cI C 2 k i := fun k i a => cW4_I C h l p 2 k i (fun z => absurd z.1 (by decide)) (fun z => absurd z.1 (by decide)) (fun z => a z.2)
  have hHh := hH.1 h hh
  refine ⟨⟨hKp.fx hX, ⟨hKp.nb (by decide) n1, m1⟩, ⟨hKp.nb (by decide) n2, m2⟩, ⟨hKp.nb (by decide) n3, m3⟩, hKp.nb (by decide) n4, m4⟩, fun x hx => ?_, ⟨fun x hx => ?_, ?_, fun x hx => ?_⟩, fun j hj => ?_, hR, hK, fun x hx => (hQ x hx).c (fun _ _ => rfl) rfl rfl (i1 7 x (fun z => absurd z.1 (by decide))) (fun _ => Iff.rfl) (fun _ _ => rfl), hT, hS.c (it 9 11 0 (by decide) (by decide) (by decide)) rfl (fun k e _ => it 6 k e (by decide) (by decide) (by decide)) (fun _ _ => rfl) (fun _ _ => rfl) rfl (fun f e hf _ => mW4_ot (by omega)), hG.c (it 9 12 0 (by decide) (by decide) (by decide)) rfl (fun k e _ => it 7 k e (by decide) (by decide) (by decide)) (fun _ _ => rfl) (fun _ _ => rfl) rfl (fun f e hf _ => mW4_ot (by omega)), hW.c (fun x _ => it 8 3 x (by decide) (by decide) (by decide)) (fun _ _ _ => rfl) (fun _ _ => rfl) (fun _ _ => rfl) (fun _ _ _ => ⟨rfl, rfl, rfl⟩) (Nat.le_refl _), fun i hi => ?_, ⟨(it 9 13 0 (by decide) (by decide) (by decide)).trans hD.1, hD.2⟩, h42⟩
  · have w := hP x hx
    by_cases e : x = p
    · subst e
      rw [i5 0 x (fun z => absurd z.1 (by decide)), i5 1 x (fun z => absurd z.1 (by decide)), i5 2 x (fun z => absurd z.1 (by decide)), v3, v4, i5 5 x (fun z => absurd z.1 (by decide)), i5 6 x (fun z => absurd z.1 (by decide)), u1, u3, hHh.1, hHh.2.1.2.1, w.2.1.2.2.1, w.2.1.2.2.2.1]
      exact ⟨w.1, ⟨w.2.1.1, w.2.1.2.1, rfl, rfl, w.2.1.2.2.2.2.1, w.2.1.2.2.2.2.2⟩, w.2.2⟩
    · rw [i5 0 x (fun z => e z.2), i5 1 x (fun z => e z.2), i5 2 x (fun z => e z.2), i5 3 x (fun z => e z.2), i5 4 x (fun z => e z.2), i5 5 x (fun z => e z.2), i5 6 x (fun z => e z.2), mW4_1 e, mW4_3 e]
      exact w
  · have w := hH.1 x hx
    have J : ∀ k, k ≠ 5 → cI (cW4 C h l p) 1 k x = cI C 1 k x := fun k hk => i1 k x (fun z => hk z.1)
    have e5 : cI (cW4 C h l p) 1 5 x = mWork4 M h l p 22 x := by
      by_cases e : x = h
      · rw [e, v15, u22, hHh.2.1.2.2.2.2.1]
      · rw [i1 5 x (fun z => e z.2), mW4_22 e]
        exact w.2.1.2.2.2.2.1
    rw [J 0 (by decide), J 1 (by decide), J 2 (by decide), J 3 (by decide), J 4 (by decide), e5, J 6 (by decide)]
    exact ⟨w.1, ⟨w.2.1.1, w.2.1.2.1, w.2.1.2.2.1, w.2.1.2.2.2.1, rfl, w.2.1.2.2.2.2.2⟩, w.2.2⟩
  · rw [cBr_c (C := C) (nh := nh) (fun x _ => i1 6 x (fun z => absurd z.1 (by decide))) nh (Nat.le_refl _)]
    exact hH.2.1
  · rw [mW4_22 (by omega)]
    exact hH.2.2 x hx
  · by_cases e : j = l
    · subst e
      obtain ⟨p1, p2, p3, p4, p5, p6, p7, p8, p9⟩ := hL j hj
      have J : ∀ k, k ≠ 9 → cI (cW4 C h j p) 2 k j = cI C 2 k j := fun k hk => i2 k j (fun z => hk z.1)
      unfold RlL1
      rw [J 0 (by decide), J 1 (by decide), J 4 (by decide), J 5 (by decide), J 7 (by decide), v29, u13]
      exact ⟨p1, p2, p3, p4, p5, p6, p7, fun z => by rw [p8 h10], fun z => absurd h10 z⟩
    · exact (hL j hj).c (fun k => i2 k j (fun z => e z.2)) (fun _ _ => rfl) (fun f hf => by
        by_cases e13 : f = 13
        · rw [e13]; exact mW4_13 e
        · exact mW4_ot (by omega)) (Nat.le_refl _)
  · rw [it 0 0 i (by decide) (by decide) (by decide), it 0 1 i (by decide) (by decide) (by decide)]
    exact hF i hi
theorem Rel_kp {C : Cs} {M : Ms} {np nl nh nw ns ng dy tt : Nat} {R Q : Nat → List Nat} {l p x : Nat} (hl : l < nl) (h10 : M 10 l = 2) (hx : (R l)[x]? = some p) (H : Rel C M np nl nh nw ns ng dy tt R Q) : Rel (wL C 2 8 l (p + 1)) (u2 M 14 l (nI (x + 1))) np nl nh nw ns ng dy tt R Q := by
  obtain ⟨hN, hP, hH, hL, hR, hK, hQ, hT, hS, hG, hW, hF, hD, h42⟩ := H
  obtain ⟨hX, ⟨n1, m1⟩, ⟨n2, m2⟩, ⟨n3, m3⟩, n4, m4⟩ := hN
  have hKp := (Kp.rf C).wl 2 8 l (p + 1) (by decide)
  have eL : ∀ t k i, ¬ (t = 2 ∧ k = 8 ∧ i = l) → cL (wL C 2 8 l (p + 1)) t k i = cL C t k i := fun t k i a => by rw [cL_wL, if_neg a]
  have lt : ∀ t k i, t ≠ 2 → cL (wL C 2 8 l (p + 1)) t k i = cL C t k i := fun t k i a => eL t k i (fun z => a z.1)
  have l2 : ∀ k i, ¬ (k = 8 ∧ i = l) → cL (wL C 2 8 l (p + 1)) 2 k i = cL C 2 k i := fun k i a => eL 2 k i (fun z => a z.2)
  refine ⟨⟨hKp.fx hX, ⟨hKp.nb (by decide) n1, m1⟩, ⟨hKp.nb (by decide) n2, m2⟩, ⟨hKp.nb (by decide) n3, m3⟩, hKp.nb (by decide) n4, m4⟩, hP, hH.c (fun _ _ _ _ => rfl) (fun f x a b => u2_ne (by omega)) rfl, fun j hj => ?_, fun j hj => (hR j hj).c (fun q _ => lt 5 7 q (by decide)) (l2 2 j (fun z => absurd z.1 (by decide))) (l2 3 j (fun z => absurd z.1 (by decide))) rfl rfl (fun _ _ => rfl) (fun f q _ hf => u2_ne (by omega)) (Nat.le_refl _), fun j hj q => ?_, fun y hy => (hQ y hy).c (fun j _ => l2 10 j (fun z => absurd z.1 (by decide))) (lt 1 8 y (by decide)) (lt 1 9 y (by decide)) rfl (fun _ => Iff.rfl) (fun _ _ => rfl), hT, hS.c rfl rfl (fun _ _ _ => rfl) (fun e _ => lt 6 2 e (by decide)) (fun y _ => lt 1 10 y (by decide)) rfl (fun f e hf _ => u2_ne (by omega)), hG.c rfl rfl (fun _ _ _ => rfl) (fun e _ => lt 7 3 e (by decide)) (fun y _ => lt 1 11 y (by decide)) rfl (fun f e hf _ => u2_ne (by omega)), hW.c (fun _ _ => rfl) (fun i y _ => lt 8 i y (by decide)) (fun _ _ => rfl) (fun _ _ => rfl) (fun _ _ _ => ⟨rfl, rfl, rfl⟩) (Nat.le_refl _), hF, hD, h42⟩
  · by_cases e : j = l
    · subst e
      obtain ⟨p1, p2, p3, p4, p5, p6, p7, p8, p9⟩ := hL j hj
      unfold RlL1
      rw [l2 6 j (fun z => absurd z.1 (by decide)), l2 10 j (fun z => absurd z.1 (by decide))]
      exact ⟨p1, p2, p3, p4, p5, p6, p7, p8, fun z => absurd h10 z⟩
    · exact (hL j hj).c (fun _ => rfl) (fun k _ => l2 k j (fun z => e z.2)) (fun f hf => u2_ne (by omega)) (Nat.le_refl _)
  · by_cases e : j = l
    · subst e
      have hi : x < (R j).length := by
        rcases Nat.lt_or_ge x (R j).length with z | z
        · exact z
        · rw [List.getElem?_eq_none z] at hx; cases hx
      refine ⟨x + 1, hi, by simp [u2], ?_⟩
      rw [cL_wL, if_pos ⟨rfl, rfl, rfl⟩, ← take_s hx, lsC_snoc]
    · have q : M 10 j = 2 := q
      rw [u2_j e, l2 8 j (fun z => e z.2)]
      exact hK j hj q
