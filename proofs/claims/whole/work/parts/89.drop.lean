/-! THE TWO: what was taken leaves its row -/
theorem cDT_I (lo t k i : Nat) (h : ¬ (t = 2 ∧ k = 4 ∧ i = lo)) : ∀ T b D, cI (cDT lo T b D) t k i = cI D t k i
  | [], _, _ => rfl
  | p :: u, b, D => by
    unfold cDT
    split
    · exact cDT_I lo t k i h u _ _
    · rw [cDT_I lo t k i h u, cUnl_I _ _ _ _ _ _ _ h]
theorem cDT_L (lo t k i : Nat) (h2 : t ≠ 2) (h5 : t ≠ 5) : ∀ T b D, cL (cDT lo T b D) t k i = cL D t k i
  | [], _, _ => rfl
  | p :: u, b, D => by
    unfold cDT
    split
    · exact cDT_L lo t k i h2 h5 u _ _
    · rw [cDT_L lo t k i h2 h5 u, cUnl_Lt _ _ _ _ _ _ _ h2 h5]
theorem cDT_2 (lo k j : Nat) (h : j ≠ lo ∨ (k ≠ 2 ∧ k ≠ 3)) : ∀ T b D, cL (cDT lo T b D) 2 k j = cL D 2 k j
  | [], _, _ => rfl
  | p :: u, b, D => by
    unfold cDT
    split
    · exact cDT_2 lo k j h u _ _
    · rw [cDT_2 lo k j h u, cUnl_2 h]
theorem cDT_row {lo : Nat} {kp : Nat → Bool} : ∀ (T A : List Nat) (b n : Nat) (D : Cs), RowC D lo (A ++ T) → (A ++ T).Nodup → b = lsC A → (∀ x, x ∈ T → kp x = decide (cI D 5 5 x = 0)) → cI D 2 4 lo = nI (n + T.length) → RowC (cDT lo T b D) lo (A ++ T.filter kp) ∧ cI (cDT lo T b D) 2 4 lo = nI (n + (T.filter kp).length)
  | [], A, b, n, D, h, _, _, _, h4 => ⟨h, h4⟩
  | p :: t, A, b, n, D, h, hn, hb, hk, h4 => by
    have hp := hk p (List.mem_cons_self ..)
    unfold cDT
    by_cases e : cI D 5 5 p = 0
    · rw [if_pos e]
      rw [decide_eq_true e] at hp
      have ea : A ++ p :: t = (A ++ [p]) ++ t := by rw [List.append_assoc]; rfl
      rw [ea] at h hn
      rw [List.length_cons, ← Nat.add_assoc, Nat.add_right_comm] at h4
      have := cDT_row (kp := kp) t (A ++ [p]) (p + 1) (n + 1) D h hn (lsC_snoc A p).symm (fun x hx => hk x (List.mem_cons_of_mem _ hx)) h4
      rw [List.filter_cons_of_pos hp, List.length_cons]
      refine ⟨?_, this.2.trans (congrArg nI (by omega))⟩
      have e2 : A ++ p :: t.filter kp = (A ++ [p]) ++ t.filter kp := by rw [List.append_assoc]; rfl
      rw [e2]
      exact this.1
    · rw [if_neg e]
      rw [decide_eq_false e] at hp
      rw [List.filter_cons_of_neg (by rw [hp]; exact Bool.false_ne_true)]
      subst hb
      have h' := RowC_unl h hn
      have hn' : (A ++ t).Nodup := by
        have := List.nodup_append.mp hn
        exact List.nodup_append.mpr ⟨this.1, (List.nodup_cons.mp this.2.1).2, fun a ha b hb => this.2.2 a ha b (List.mem_cons_of_mem _ hb)⟩
      refine cDT_row (kp := kp) t A (lsC A) n _ h' hn' rfl (fun x hx => ?_) ?_
      · rw [cUnl_I _ _ _ _ _ _ _ (fun z => absurd z.1 (by decide))]
        exact hk x (List.mem_cons_of_mem _ hx)
      · rw [cUnl_24, h4, List.length_cons, ← Nat.add_assoc, nI_s]
theorem mLvP_8 (l s j : Nat) : ∀ i c M, i ≤ c → (j < 300 * l ∨ 300 * l + c ≤ j) → mLvP l s i c M 8 j = M 8 j
  | 0, _, _, _, _ => rfl
  | i + 1, c, M, hic, hj => by
    rw [mLvP]
    split
    · rw [mLvP_8 l s j i (c - 1) _ (by omega) (by omega), mTk_8, if_neg (by omega)]
    · exact mLvP_8 l s j i c M (by omega) hj
theorem mLvP_row {l s : Nat} {X : Nat → Bool} : ∀ (i : Nat) (A B : List Nat) (M : Ms), A.length = i → (∀ j p, A[j]? = some p → s.testBit j = X p) → M 9 l = nI (i + B.length) → (∀ j p, (A ++ B)[j]? = some p → M 8 (300 * l + j) = nI p) → mLvP l s i (i + B.length) M 9 l = nI ((A.filter (fun x => !X x)).length + B.length) ∧ ∀ j p, (A.filter (fun x => !X x) ++ B)[j]? = some p → mLvP l s i (i + B.length) M 8 (300 * l + j) = nI p
  | 0, A, B, M, hA, _, h9, h8 => by
    have : A = [] := List.length_eq_zero_iff.mp hA
    subst this
    exact ⟨h9, h8⟩
  | i + 1, A, B, M, hA, hs, h9, h8 => by
    obtain ⟨A', p, rfl⟩ : ∃ A' p, A = A' ++ [p] := by
      rcases List.eq_nil_or_concat A with e | ⟨A', p, e⟩
      · rw [e] at hA; cases hA
      · exact ⟨A', p, by rw [e, List.concat_eq_append]⟩
    have hA' : A'.length = i := by rw [List.length_append, List.length_singleton] at hA; omega
    have hp : s.testBit i = X p := hs i p (by rw [List.getElem?_append_right (by omega), hA', Nat.sub_self]; rfl)
    have hs' : ∀ j q, A'[j]? = some q → s.testBit j = X q := fun j q hq => hs j q (by
      have hj : j < A'.length := by
        rcases Nat.lt_or_ge j A'.length with z | z
        · exact z
        · rw [List.getElem?_eq_none z] at hq; cases hq
      rw [List.getElem?_append_left hj]; exact hq)
    have ea : A' ++ [p] ++ B = A' ++ p :: B := by rw [List.append_assoc]; rfl
    rw [mLvP]
    by_cases c : X p = true
    · rw [if_pos (hp.trans c), List.filter_append, List.filter_cons_of_neg (by rw [c]; decide), List.filter_nil, List.append_nil]
      have e1 : i + 1 + B.length - 1 = i + B.length := by omega
      rw [e1]
      refine mLvP_row i A' B _ hA' hs' (by rw [mTk_9, if_pos rfl]) (fun j q hq => ?_)
      have hj : j < (A' ++ B).length := by
        rcases Nat.lt_or_ge j (A' ++ B).length with z | z
        · exact z
        · rw [List.getElem?_eq_none z] at hq; cases hq
      rw [List.length_append] at hj
      rw [mTk_8]
      rcases Nat.lt_or_ge j i with z | z
      · rw [if_neg (by omega)]
        refine h8 j q ?_
        rw [List.getElem?_append_left (by omega)] at hq
        rw [ea, List.getElem?_append_left (by omega)]
        exact hq
      · rw [if_pos ⟨by omega, by omega⟩]
        refine h8 (j + 1) q ?_
        rw [List.getElem?_append_right (by omega)] at hq
        rw [ea, List.getElem?_append_right (by omega), show j + 1 - A'.length = (j - A'.length) + 1 by omega, List.getElem?_cons_succ]
        exact hq
    · rw [if_neg (by rw [hp]; exact c), List.filter_append, List.filter_cons_of_pos (by simp [c]), List.filter_nil]
      have e1 : i + 1 + B.length = i + (p :: B).length := by rw [List.length_cons]; omega
      rw [e1]
      rw [e1] at h9
      have := mLvP_row i A' (p :: B) M hA' hs' h9 (fun j q hq => h8 j q (by rw [ea]; exact hq))
      refine ⟨this.1.trans (congrArg nI (by rw [List.length_append, List.length_cons, List.length_singleton]; omega)), fun j q hq => this.2 j q ?_⟩
      have e2 : A'.filter (fun x => !X x) ++ [p] ++ B = A'.filter (fun x => !X x) ++ p :: B := by rw [List.append_assoc]; rfl
      rw [← e2]
      exact hq
theorem RelT_dt {C : Cs} {M : Ms} {np nl nh nw ns ng dy tt : Nat} {R Q : Nat → List Nat} {X : Nat → Bool} {l s : Nat} (hl : l < nl) (h10 : M 10 l = 0) (hs : ∀ j p, (R l)[j]? = some p → s.testBit j = X p) (hdj : ∀ j, j < nl → j ≠ l → ∀ y, y ∈ R l → y ∉ R j) (H : RelT C M np nl nh nw ns ng dy tt R Q X) : RelT (cDT l (R l) 0 C) (mLvP l s (R l).length (R l).length M) np nl nh nw ns ng dy tt (fun j => if j = l then (R l).filter (fun x => !X x) else R j) Q X := by
  obtain ⟨⟨hX, ⟨n1, m1⟩, ⟨n2, m2⟩, ⟨n3, m3⟩, n4, m4⟩, hP, hH, hL, hR, hK, hQ, hT, hS, hG, hW, hF, hD, h42⟩ := H
  have hKp : Kp C (cDT l (R l) 0 C) := cDT_Kp l (R l) 0 C
  have I : ∀ t k i, ¬ (t = 2 ∧ k = 4 ∧ i = l) → cI (cDT l (R l) 0 C) t k i = cI C t k i := fun t k i h => cDT_I l t k i h (R l) 0 C
  have it : ∀ t k i, t ≠ 2 → cI (cDT l (R l) 0 C) t k i = cI C t k i := fun t k i h => I t k i (fun z => h z.1)
  have lt : ∀ t k i, t ≠ 2 → t ≠ 5 → cL (cDT l (R l) 0 C) t k i = cL C t k i := fun t k i a b => cDT_L l t k i a b (R l) 0 C
  have l2 : ∀ k i, k ≠ 2 → k ≠ 3 → cL (cDT l (R l) 0 C) 2 k i = cL C 2 k i := fun k i a b => cDT_2 l k i (Or.inr ⟨a, b⟩) (R l) 0 C
  have no : ∀ f j, f ≠ 8 ∧ f ≠ 9 → mLvP l s (R l).length (R l).length M f j = M f j := fun f j h => mLvP_9 l s f j ⟨h.1, fun z => absurd z h.2⟩ _ _ _
  obtain ⟨⟨g1, g2⟩, ⟨g3, g4⟩, g5, g6⟩ := hR l hl
  have len : (R l).length ≤ 300 := by
    have := nd_len np (R l) g5 (fun x hx => (g6 x hx).1.1)
    have := n1.2.1
    omega
  have row := cDT_row (kp := fun x => !X x) (R l) [] 0 0 C ⟨g1, g2⟩ g5 rfl (fun x hx => by
    obtain ⟨⟨x1, _⟩, x2, x3⟩ := g6 x hx
    rw [(hP x x1).2.1.2.2.2.2.1]
    cases c : X x with
    | true => rw [x3 c]; decide
    | false => rw [(x2 c).2]; decide) (by rw [Nat.zero_add, (hL l hl).2.1.2.1]; exact g3)
  have mrow := mLvP_row (X := X) (s := s) (l := l) (R l).length (R l) [] M rfl hs (by rw [List.length_nil, Nat.add_zero]; exact g3) (by rw [List.append_nil]; exact g4)
  rw [List.length_nil, Nat.add_zero, List.append_nil, Nat.add_zero] at mrow
  rw [List.nil_append, Nat.zero_add] at row
  refine ⟨⟨hKp.fx hX, ⟨hKp.nb (by decide) n1, (no 6 0 (by decide)).trans m1⟩, ⟨hKp.nb (by decide) n2, (no 16 0 (by decide)).trans m2⟩, ⟨hKp.nb (by decide) n3, (no 24 0 (by decide)).trans m3⟩, hKp.nb (by decide) n4, (no 40 0 (by decide)).trans m4⟩, hP.c (fun k p _ => it 5 k p (by decide)) (fun f p hf _ => no f p (by omega)), hH.c (fun k x _ _ => it 1 k x (by decide)) (fun f x h1 h2 => no f x (by omega)) (no 26 0 (by decide)), fun j hj => ?_, fun j hj => ?_, fun j hj z => ?_, fun h hh => (hQ h hh).c (fun j _ => l2 10 j (by decide) (by decide)) (lt 1 8 h (by decide) (by decide)) (lt 1 9 h (by decide) (by decide)) (it 1 7 h (by decide)) (fun j => by rw [no 10 j (by decide), no 11 j (by decide)]) (fun j _ => no 15 j (by decide)), ?_, hS.c (it 9 11 0 (by decide)) (by rw [hKp.1.2.1]) (fun k e _ => it 6 k e (by decide)) (fun e _ => lt 6 2 e (by decide) (by decide)) (fun x _ => lt 1 10 x (by decide) (by decide)) (no 30 0 (by decide)) (fun f e hf _ => no f e (by omega)), hG.c (it 9 12 0 (by decide)) (by rw [hKp.1.2.1]) (fun k e _ => it 7 k e (by decide)) (fun e _ => lt 7 3 e (by decide) (by decide)) (fun x _ => lt 1 11 x (by decide) (by decide)) (no 35 0 (by decide)) (fun f e hf _ => no f e (by omega)), hW.c (fun x _ => it 8 3 x (by decide)) (fun i x _ => lt 8 i x (by decide) (by decide)) (fun k _ => no 39 k (by decide)) (fun i _ => no 38 i (by decide)) (fun p _ _ => ⟨no 4 p (by decide), no 5 p (by decide), no 0 p (by decide)⟩) (Nat.le_refl _), fun i hi => ?_, ⟨(it 9 13 0 (by decide)).trans hD.1, hD.2.1, (no 25 0 (by decide)).trans hD.2.2⟩, fun i hi => ?_⟩
  · have J : ∀ k, k ≠ 4 → cI (cDT l (R l) 0 C) 2 k j = cI C 2 k j := fun k a => I 2 k j (fun z => a z.2.1)
    have e4 : cI (cDT l (R l) 0 C) 2 4 j = mLvP l s (R l).length (R l).length M 9 j := by
      by_cases e : j = l
      · rw [e, row.2, mrow.1]
      · rw [I 2 4 j (fun z => e z.2.2), mLvP_9 l s 9 j ⟨by decide, fun _ => e⟩]
        exact (hL j hj).2.1.2.1
    obtain ⟨q1, ⟨q2, q3, q4⟩, q5⟩ := hL j hj
    unfold RlL1
    rw [J 0 (by decide), J 1 (by decide), e4, J 5 (by decide), J 7 (by decide), J 9 (by decide), l2 6 j (by decide) (by decide), l2 8 j (by decide) (by decide), l2 10 j (by decide) (by decide), no 7 j (by decide), no 10 j (by decide), no 11 j (by decide), no 12 j (by decide), no 13 j (by decide)]
    exact ⟨q1, ⟨q2, rfl, q4⟩, q5⟩
  · dsimp only
    by_cases e : j = l
    · subst e
      rw [if_pos rfl]
      refine ⟨row.1, mrow, g5.filter _, fun x hx => ?_⟩
      have hx2 : x ∈ R j := (List.mem_filter.mp hx).1
      rw [no 0 x (by decide), no 7 j (by decide), no 5 x (by decide), no 4 x (by decide)]
      exact g6 x hx2
    · rw [if_neg e]
      obtain ⟨⟨k1, k2⟩, ⟨k3, k4⟩, k5, k6⟩ := hR j hj
      have hjl := hdj j hj e
      refine ⟨⟨chL_DT e hjl k1, (cDT_2 l 3 j (Or.inl e) (R l) 0 C).trans k2⟩, ⟨(mLvP_9 l s 9 j ⟨by decide, fun _ => e⟩ _ _ _).trans k3, fun i x hx => ?_⟩, k5, fun x hx => ?_⟩
      · have hi : i < (R j).length := by
          rcases Nat.lt_or_ge i (R j).length with z | z
          · exact z
          · rw [List.getElem?_eq_none z] at hx; cases hx
        have := nd_len np (R j) k5 (fun x hx => (k6 x hx).1.1)
        have := n1.2.1
        rw [mLvP_8 l s _ _ _ _ (Nat.le_refl _) (by omega)]
        exact k4 i x hx
      · rw [no 0 x (by decide), no 7 j (by decide), no 5 x (by decide), no 4 x (by decide)]
        exact k6 x hx
  · dsimp only
    rw [no 10 j (by decide)] at z
    by_cases e : j = l
    · rw [e, h10] at z
      exact absurd z (by decide)
    · rw [if_neg e, no 14 j (by decide), l2 8 j (by decide) (by decide)]
      exact hK j hj z
  · obtain ⟨t1, t2, t3⟩ := hT
    refine ⟨(no 17 0 (by decide)).trans t1, ?_, fun j hj z => ?_⟩
    · rw [cn_cong (q := fun j => decide (M 10 j = 1)) (fun i _ => by rw [no 10 i (by decide)])]
      exact t2
    · rw [no 10 j (by decide)] at z
      rw [no 15 j (by decide)]
      exact t3 j hj z
  · rw [it 0 0 i (by decide), it 0 1 i (by decide), no 36 i (by decide), no 37 i (by decide)]
    exact hF i hi
  · rw [no 42 i (by decide)]
    exact h42 i hi
