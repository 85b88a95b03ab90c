/-! THE TWO: a piece breaks -/
theorem cBr_inc {C D : Cs} {h : Nat} (e : cI D 1 6 h = cI C 1 6 h + 1) (o : ∀ x, x ≠ h → cI D 1 6 x = cI C 1 6 x) : ∀ n, h < n → cBr D n = cBr C n + 1
  | 0, hn => by omega
  | n + 1, hn => by
    rw [cBr, cBr]
    by_cases c : h = n
    · subst c
      rw [cBr_c (C := C) (nh := h) (fun x hx => o x (by omega)) h (Nat.le_refl _), e, Int32.add_assoc]
    · rw [cBr_inc e o n (by omega), o n (fun z => c z.symm), Int32.add_assoc, Int32.add_assoc, Int32.add_comm 1]
def cB0 (C : Cs) (h p : Nat) : Cs := cLR (wI C 1 6 h (cI C 1 6 h + 1)) p 1 (nI h)
def mB0 (M : Ms) (h p : Nat) : Ms := u2 (u2 (u2 (u2 M 4 p 1) 5 p (nI h)) 23 h (M 23 h + 1)) 26 0 (M 26 0 + 1)
theorem cB0_I (C : Cs) (h p t k i : Nat) (h5 : ¬ (t = 5 ∧ (k = 5 ∨ k = 6) ∧ i = p)) (h1 : ¬ (t = 1 ∧ k = 6 ∧ i = h)) : cI (cB0 C h p) t k i = cI C t k i := by
  rw [cB0, cLR, cI_wI, if_neg (fun z => h5 ⟨z.1, Or.inr z.2.1, z.2.2⟩), cI_wI, if_neg (fun z => h5 ⟨z.1, Or.inl z.2.1, z.2.2⟩), cI_wI, if_neg h1]
theorem cB0_n (C : Cs) (h p : Nat) : cI (cB0 C h p) 5 5 p = 1 ∧ cI (cB0 C h p) 5 6 p = nI h ∧ cI (cB0 C h p) 1 6 h = cI C 1 6 h + 1 := by
  simp [cB0, cLR, cI_wI]
theorem mB0_ot {M : Ms} {h p f i : Nat} (hf : f ≠ 4 ∧ f ≠ 5 ∧ f ≠ 23 ∧ f ≠ 26) : mB0 M h p f i = M f i := by
  unfold mB0
  rw [u2_ne hf.2.2.2, u2_ne hf.2.2.1, u2_ne hf.2.1, u2_ne hf.1]
theorem mB0_p {M : Ms} {h p f i : Nat} (hi : i ≠ p) (hf : f = 4 ∨ f = 5) : mB0 M h p f i = M f i := by
  unfold mB0
  rw [u2_ne (by omega), u2_ne (by omega), u2_j hi, u2_j hi]
theorem mB0_h {M : Ms} {h p i : Nat} (hi : i ≠ h) : mB0 M h p 23 i = M 23 i := by simp [mB0, u2, hi]
theorem mB0_n (M : Ms) (h p : Nat) : mB0 M h p 4 p = 1 ∧ mB0 M h p 5 p = nI h ∧ mB0 M h p 23 h = M 23 h + 1 ∧ mB0 M h p 26 0 = M 26 0 + 1 := by
  simp [mB0, u2]
theorem mTk_ot {M : Ms} {l i n f j : Nat} (h : f ≠ 8 ∧ f ≠ 9) : mTake M l i n f j = M f j := by
  unfold mTake mTakeK
  rw [if_neg (fun z => h.2 z.1), if_neg (fun z => h.1 z.1)]
theorem mTk_9 {M : Ms} {l i n j : Nat} : mTake M l i n 9 j = if j = l then nI n else M 9 j := by
  unfold mTake mTakeK
  by_cases e : j = l
  · rw [if_pos ⟨rfl, e⟩, if_pos e]
  · rw [if_neg (fun z => e z.2), if_neg (fun z => absurd z.1 (by decide)), if_neg e]
theorem mTk_8 {M : Ms} {l i n j : Nat} : mTake M l i n 8 j = if 300 * l + i ≤ j ∧ j < 300 * l + n then M 8 (j + 1) else M 8 j := by
  unfold mTake mTakeK
  rw [if_neg (fun z => absurd z.1 (by decide))]
  by_cases e : 300 * l + i ≤ j ∧ j < 300 * l + n
  · rw [if_pos ⟨rfl, e⟩, if_pos e]
  · rw [if_neg (fun z => e z.2), if_neg e]
theorem Rel_bk {C : Cs} {M : Ms} {np nl nh nw ns ng dy tt : Nat} {R Q : Nat → List Nat} {h l p : Nat} {X t : List Nat} (hh : h < nh) (hl : l < nl) (h10 : M 10 l = 2) (h14 : M 14 l = nI X.length) (h28 : cL C 2 8 l = lsC X) (hRl : R l = X ++ p :: t) (H : Rel C M np nl nh nw ns ng dy tt R Q) : Rel (cUnl (cB0 C h p) l (lsC X) p) (mTake (mB0 M h p) l X.length (X.length + t.length)) np nl nh nw ns ng dy tt (fun j => if j = l then X ++ t else R j) Q := by
  obtain ⟨hN, hP, hH, hL, hR, hK, hQ, hT, hS, hG, hW, hF, hD, h42⟩ := H
  obtain ⟨hX, ⟨n1, m1⟩, ⟨n2, m2⟩, ⟨n3, m3⟩, n4, m4⟩ := hN
  have h60 := n2.2.1
  have h300 := n1.2.1
  have hKp : Kp C (cUnl (cB0 C h p) l (lsC X) p) := (((Kp.rf C).wi 1 _ _ _ (by decide)).tr (cLR_Kp _ _ _ _)).tr (cUnl_Kp _ _ _ _)
  have I : ∀ t k i, ¬ (t = 2 ∧ k = 4 ∧ i = l) → ¬ (t = 5 ∧ (k = 5 ∨ k = 6) ∧ i = p) → ¬ (t = 1 ∧ k = 6 ∧ i = h) → cI (cUnl (cB0 C h p) l (lsC X) p) t k i = cI C t k i := fun t k i a b c => (cUnl_I _ _ _ _ _ _ _ a).trans (cB0_I C h p t k i b c)
  have it : ∀ t k i, t ≠ 2 → t ≠ 5 → t ≠ 1 → cI (cUnl (cB0 C h p) l (lsC X) p) t k i = cI C t k i := fun t k i a b c => I t k i (fun z => a z.1) (fun z => b z.1) (fun z => c z.1)
  have lt : ∀ t k i, t ≠ 2 → t ≠ 5 → cL (cUnl (cB0 C h p) l (lsC X) p) t k i = cL C t k i := fun t k i a b => cUnl_Lt (cB0 C h p) l (lsC X) p t k i a b
  have l2 : ∀ k i, k ≠ 2 → k ≠ 3 → cL (cUnl (cB0 C h p) l (lsC X) p) 2 k i = cL C 2 k i := fun k i a b => cUnl_2 (C := cB0 C h p) (Or.inr ⟨a, b⟩)
  have pm : p ∈ R l := by rw [hRl]; exact List.mem_append_right _ (List.mem_cons_self ..)
  obtain ⟨hpn, hp5, hp4, hp0⟩ := (hR l hl).2.2.2 p pm
  have nd : (X ++ p :: t).Nodup := by have := (hR l hl).2.2.1; rw [hRl] at this; exact this
  have lenl : X.length + t.length + 1 ≤ 300 := by
    have := nd_len np (R l) (hR l hl).2.2.1 (fun x hx => ((hR l hl).2.2.2 x hx).1)
    rw [hRl, List.length_append, List.length_cons] at this
    omega
  have row : RowC (cB0 C h p) l (X ++ p :: t) := by have := (hR l hl).1; rw [hRl] at this; exact this
  have rl := RowC_unl row nd
  have ndXt : (X ++ t).Nodup := by
    have := List.nodup_append.mp nd
    exact List.nodup_append.mpr ⟨this.1, (List.nodup_cons.mp this.2.1).2, fun a ha b hb => this.2.2 a ha b (List.mem_cons_of_mem _ hb)⟩
  have pXt : p ∉ X ++ t := fun z => by
    have w := List.nodup_append.mp nd
    rcases List.mem_append.mp z with y | y
    · exact w.2.2 p y p (List.mem_cons_self ..) rfl
    · exact (List.nodup_cons.mp w.2.1).1 y
  obtain ⟨b1, b2, b3⟩ := cB0_n C h p
  obtain ⟨k4, k5, k23, k26⟩ := mB0_n M h p
  have no : ∀ f j, f ≠ 8 ∧ f ≠ 9 ∧ f ≠ 4 ∧ f ≠ 5 ∧ f ≠ 23 ∧ f ≠ 26 → mTake (mB0 M h p) l X.length (X.length + t.length) f j = M f j := fun f j a => (mTk_ot ⟨a.1, a.2.1⟩).trans (mB0_ot a.2.2)
  have np' : ∀ f j, j ≠ p → f = 4 ∨ f = 5 → mTake (mB0 M h p) l X.length (X.length + t.length) f j = M f j := fun f j a b => (mTk_ot (by omega)).trans (mB0_p a b)
  have c4l : cI C 2 4 l = nI (X.length + t.length + 1) := by rw [(hL l hl).2.1.2.1, (hR l hl).2.1.1, hRl, List.length_append, List.length_cons]; rfl
  refine ⟨⟨hKp.fx hX, ⟨hKp.nb (by decide) n1, m1⟩, ⟨hKp.nb (by decide) n2, m2⟩, ⟨hKp.nb (by decide) n3, m3⟩, hKp.nb (by decide) n4, m4⟩, fun x hx => ?_, ⟨fun x hx => ?_, ?_, fun x hx => ?_⟩, fun j hj => ?_, fun j hj => ?_, fun j hj q => ?_, fun x hx => (hQ x hx).c (fun j _ => l2 10 j (by decide) (by decide)) (lt 1 8 x (by decide) (by decide)) (lt 1 9 x (by decide) (by decide)) (I 1 7 x (fun z => absurd z.1 (by decide)) (fun z => absurd z.1 (by decide)) (fun z => absurd z.2.1 (by decide))) (fun j => by rw [no 10 j (by decide), no 11 j (by decide)]) (fun j _ => no 15 j (by decide)), ?_, hS.c (it 9 11 0 (by decide) (by decide) (by decide)) (by rw [hKp.1.2.1]) (fun k e _ => it 6 k e (by decide) (by decide) (by decide)) (fun e _ => lt 6 2 e (by decide) (by decide)) (fun x _ => lt 1 10 x (by decide) (by decide)) (no 30 0 (by decide)) (fun f e hf _ => no f e (by omega)), hG.c (it 9 12 0 (by decide) (by decide) (by decide)) (by rw [hKp.1.2.1]) (fun k e _ => it 7 k e (by decide) (by decide) (by decide)) (fun e _ => lt 7 3 e (by decide) (by decide)) (fun x _ => lt 1 11 x (by decide) (by decide)) (no 35 0 (by decide)) (fun f e hf _ => no f e (by omega)), hW.c (fun x _ => it 8 3 x (by decide) (by decide) (by decide)) (fun i x _ => lt 8 i x (by decide) (by decide)) (fun x _ => no 39 x (by decide)) (fun x _ => no 38 x (by decide)) (fun x _ w4 => ?_) (Nat.le_refl _), fun i hi => ?_, ⟨(it 9 13 0 (by decide) (by decide) (by decide)).trans hD.1, hD.2.1, (no 25 0 (by decide)).trans hD.2.2⟩, fun i hi => ?_⟩
  · have w := hP x hx
    have J : ∀ k, k ≠ 5 → k ≠ 6 → cI (cUnl (cB0 C h p) l (lsC X) p) 5 k x = cI C 5 k x := fun k a b => I 5 k x (fun z => absurd z.1 (by decide)) (fun z => z.2.1.elim a b) (fun z => absurd z.1 (by decide))
    rw [J 0 (by decide) (by decide), J 1 (by decide) (by decide), J 2 (by decide) (by decide), J 3 (by decide) (by decide), J 4 (by decide) (by decide), no 0 x (by decide), no 1 x (by decide), no 2 x (by decide), no 3 x (by decide)]
    by_cases e : x = p
    · subst e
      rw [cUnl_I _ _ _ _ _ _ _ (fun z => absurd z.1 (by decide)), cUnl_I _ _ _ _ _ _ _ (fun z => absurd z.1 (by decide)), b1, b2, mTk_ot (by decide), mTk_ot (by decide), k4, k5]
      exact ⟨w.1, ⟨w.2.1.1, w.2.1.2.1, w.2.1.2.2.1, w.2.1.2.2.2.1, rfl, rfl⟩, w.2.2⟩
    · rw [I 5 5 x (fun z => absurd z.1 (by decide)) (fun z => e z.2.2) (fun z => absurd z.1 (by decide)), I 5 6 x (fun z => absurd z.1 (by decide)) (fun z => e z.2.2) (fun z => absurd z.1 (by decide)), np' 4 x e (by decide), np' 5 x e (by decide)]
      exact w
  · have w := hH.1 x hx
    have J : ∀ k, k ≠ 6 → cI (cUnl (cB0 C h p) l (lsC X) p) 1 k x = cI C 1 k x := fun k a => I 1 k x (fun z => absurd z.1 (by decide)) (fun z => absurd z.1 (by decide)) (fun z => a z.2.1)
    have e6 : cI (cUnl (cB0 C h p) l (lsC X) p) 1 6 x = mTake (mB0 M h p) l X.length (X.length + t.length) 23 x := by
      rw [mTk_ot (by decide)]
      by_cases e : x = h
      · rw [e, cUnl_I _ _ _ _ _ _ _ (fun z => absurd z.1 (by decide)), b3, k23, (hH.1 h hh).2.1.2.2.2.2.2]
      · rw [I 1 6 x (fun z => absurd z.1 (by decide)) (fun z => absurd z.1 (by decide)) (fun z => e z.2.2), mB0_h e]
        exact w.2.1.2.2.2.2.2
    rw [J 0 (by decide), J 1 (by decide), J 2 (by decide), J 3 (by decide), J 4 (by decide), J 5 (by decide), e6, no 18 x (by decide), no 19 x (by decide), no 20 x (by decide), no 21 x (by decide), no 22 x (by decide)]
    exact ⟨w.1, ⟨w.2.1.1, w.2.1.2.1, w.2.1.2.2.1, w.2.1.2.2.2.1, w.2.1.2.2.2.2.1, rfl⟩, w.2.2⟩
  · rw [mTk_ot (by decide), k26, hH.2.1]
    exact (cBr_inc (C := C) (h := h) ((cUnl_I _ _ _ _ _ _ _ (fun z => absurd z.1 (by decide))).trans b3) (fun x e => I 1 6 x (fun z => absurd z.1 (by decide)) (fun z => absurd z.1 (by decide)) (fun z => e z.2.2)) nh hh).symm
  · rw [no 22 x (by decide), mTk_ot (by decide), mB0_h (by omega)]
    exact hH.2.2 x hx
  · have J : ∀ k, k ≠ 4 → cI (cUnl (cB0 C h p) l (lsC X) p) 2 k j = cI C 2 k j := fun k a => I 2 k j (fun z => a z.2.1) (fun z => absurd z.1 (by decide)) (fun z => absurd z.1 (by decide))
    have e4 : cI (cUnl (cB0 C h p) l (lsC X) p) 2 4 j = mTake (mB0 M h p) l X.length (X.length + t.length) 9 j := by
      rw [mTk_9]
      by_cases e : j = l
      · rw [if_pos e, e, cUnl_24, cB0_I _ _ _ _ _ _ (fun z => absurd z.1 (by decide)) (fun z => absurd z.1 (by decide)), c4l, nI_s]
      · rw [if_neg e, I 2 4 j (fun z => e z.2.2) (fun z => absurd z.1 (by decide)) (fun z => absurd z.1 (by decide)), mB0_ot (by decide)]
        exact (hL j hj).2.1.2.1
    obtain ⟨q1, ⟨q2, q3, q4⟩, q5⟩ := hL j hj
    unfold RlL1
    rw [J 0 (by decide), J 1 (by decide), e4, J 5 (by decide), J 7 (by decide), J 9 (by decide), l2 6 j (by decide) (by decide), l2 8 j (by decide) (by decide), l2 10 j (by decide) (by decide), no 7 j (by decide), no 10 j (by decide), no 11 j (by decide), no 12 j (by decide), no 13 j (by decide)]
    exact ⟨q1, ⟨q2, rfl, q4⟩, q5⟩
  · dsimp only
    by_cases e : j = l
    · subst e
      rw [if_pos rfl]
      refine ⟨rl, ⟨by rw [mTk_9, if_pos rfl, List.length_append], fun i q hq => ?_⟩, ndXt, fun q hq => ?_⟩
      · have hi : i < (X ++ t).length := by
          rcases Nat.lt_or_ge i (X ++ t).length with z | z
          · exact z
          · rw [List.getElem?_eq_none z] at hq; cases hq
        rw [List.length_append] at hi
        have g := (hR j hl).2.1.2
        rw [hRl] at g
        rw [mTk_8]
        by_cases c : i < X.length
        · rw [if_neg (by omega), mB0_ot (by decide)]
          refine g i q ?_
          rw [List.getElem?_append_left c] at hq ⊢
          exact hq
        · rw [if_pos ⟨by omega, by omega⟩, mB0_ot (by decide)]
          refine g (i + 1) q ?_
          rw [List.getElem?_append_right (by omega)] at hq ⊢
          rw [show i + 1 - X.length = (i - X.length) + 1 by omega]
          exact hq
      · have q2 : q ∈ R j := by
          rw [hRl]
          rcases List.mem_append.mp hq with z | z
          · exact List.mem_append_left _ z
          · exact List.mem_append_right _ (List.mem_cons_of_mem _ z)
        have ne : q ≠ p := fun z => pXt (by rw [← z]; exact hq)
        rw [np' 5 q ne (by decide), np' 4 q ne (by decide), no 0 q (by decide), no 7 j (by decide)]
        exact (hR j hl).2.2.2 q q2
    · rw [if_neg e]
      obtain ⟨g1, ⟨g2, g3⟩, g4, g5⟩ := hR j hj
      have hpj : p ∉ R j := Rel.dj hR h60 hl hj (Ne.symm e) pm
      have g1' : RowC (cB0 C h p) j (R j) := g1
      refine ⟨RowC_unlo (t := t) g1' e (fun x hx => Rel.dj hR h60 hl hj (Ne.symm e) (by rw [hRl]; exact List.mem_append_left _ hx)), ⟨by rw [mTk_9, if_neg e, mB0_ot (by decide)]; exact g2, fun i q hq => ?_⟩, g4, fun q hq => ?_⟩
      · have hi : i < (R j).length := by
          rcases Nat.lt_or_ge i (R j).length with z | z
          · exact z
          · rw [List.getElem?_eq_none z] at hq; cases hq
        have := nd_len np (R j) g4 (fun x hx => (g5 x hx).1)
        rw [mTk_8, if_neg (by omega), mB0_ot (by decide)]
        exact g3 i q hq
      · have ne : q ≠ p := fun z => hpj (by rw [← z]; exact hq)
        rw [np' 5 q ne (by decide), np' 4 q ne (by decide), no 0 q (by decide), no 7 j (by decide)]
        exact g5 q hq
  · dsimp only
    rw [no 10 j (by decide)] at q
    rw [no 14 j (by decide), l2 8 j (by decide) (by decide)]
    by_cases e : j = l
    · rw [e, if_pos rfl]
      refine ⟨X.length, by rw [List.length_append]; omega, h14, ?_⟩
      rw [List.take_left]
      exact h28
    · rw [if_neg e]
      exact hK j hj q
  · obtain ⟨t1, t2, t3⟩ := hT
    refine ⟨(no 17 0 (by decide)).trans t1, ?_, fun j hj q => ?_⟩
    · rw [cn_cong (q := fun j => decide (M 10 j = 1)) (fun i _ => by rw [no 10 i (by decide)])]
      exact t2
    · rw [no 10 j (by decide)] at q
      rw [no 15 j (by decide)]
      exact t3 j hj q
  · have ne : x ≠ p := fun z => by rw [z, hp4] at w4; exact absurd w4 (by decide)
    exact ⟨np' 4 x ne (by decide), np' 5 x ne (by decide), no 0 x (by decide)⟩
  · rw [it 0 0 i (by decide) (by decide) (by decide), it 0 1 i (by decide) (by decide) (by decide), no 36 i (by decide), no 37 i (by decide)]
    exact hF i hi
  · rw [no 42 i (by decide)]
    exact h42 i hi
