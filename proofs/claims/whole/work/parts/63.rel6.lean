/-! THE TWO: a piece goes from row to row -/
theorem cUnl_I (C : Cs) (a b p t k i : Nat) (h : ¬ (t = 2 ∧ k = 4 ∧ i = a)) : cI (cUnl C a b p) t k i = cI C t k i := by
  have e1 : cI (cUn1 C a b p) t k i = cI C t k i := by
    unfold cUn1
    cases b <;> rfl
  unfold cUnl
  rw [cI_wI, if_neg h]
  split
  · rw [cI_wL]; exact e1
  · exact e1
theorem cUnl_24 (C : Cs) (a b p : Nat) : cI (cUnl C a b p) 2 4 a = cI C 2 4 a - 1 := by
  unfold cUnl
  rw [cI_wI, if_pos ⟨rfl, rfl, rfl⟩]
theorem cUnl_Lt (C : Cs) (a b p t k i : Nat) (h2 : t ≠ 2) (h5 : t ≠ 5) : cL (cUnl C a b p) t k i = cL C t k i := by
  have e1 : cL (cUn1 C a b p) t k i = cL C t k i := by
    unfold cUn1
    cases b with
    | zero => rw [cL_wL, if_neg (fun z => h2 z.1)]
    | succ q => rw [cL_wL, if_neg (fun z => h5 z.1)]
  unfold cUnl
  rw [cL_wI]
  split
  · rw [cL_wL, if_neg (fun z => h2 z.1)]; exact e1
  · exact e1
theorem cApp_I (C : Cs) (l p t k i : Nat) (h5 : ¬ (t = 5 ∧ k = 6 ∧ i = p)) (h2 : ¬ (t = 2 ∧ k = 4 ∧ i = l)) : cI (cApp C l p) t k i = cI C t k i := by
  unfold cApp
  rw [cI_wI, if_neg h2, cI_wL]
  split
  · rw [cI_wL, cI_wL, cI_wI, if_neg h5]
  · rw [cI_wL, cI_wL, cI_wI, if_neg h5]
theorem cApp_24 (C : Cs) (l p : Nat) : cI (cApp C l p) 2 4 l = cI C 2 4 l + 1 := by
  unfold cApp
  rw [cI_wI, if_pos ⟨rfl, rfl, rfl⟩]
theorem cApp_56 (C : Cs) (l p : Nat) : cI (cApp C l p) 5 6 p = cI C 2 0 l := by
  unfold cApp
  rw [cI_wI, if_neg (fun z => absurd z.1 (by decide)), cI_wL]
  split
  · rw [cI_wL, cI_wL, cI_wI, if_pos ⟨rfl, rfl, rfl⟩]
  · rw [cI_wL, cI_wL, cI_wI, if_pos ⟨rfl, rfl, rfl⟩]
theorem cApp_Lt (C : Cs) (l p t k i : Nat) (h2 : t ≠ 2) (h5 : t ≠ 5) : cL (cApp C l p) t k i = cL C t k i := by
  unfold cApp
  rw [cL_wI, cL_wL, if_neg (fun z => h2 z.1)]
  split
  · rw [cL_wL, if_neg (fun z => h2 z.1), cL_wL, if_neg (fun z => h5 z.1), cL_wI]
  · rw [cL_wL, if_neg (fun z => h5 z.1), cL_wL, if_neg (fun z => h5 z.1), cL_wI]
section MV
variable {M : Ms} {a b p na nb : Nat}
def mMv (M : Ms) (a b p na nb : Nat) : Ms := mTake (mAdd M b nb p) a 0 na
theorem mMv_ot {f j : Nat} (h : f ≠ 5 ∧ f ≠ 8 ∧ f ≠ 9) : mMv M a b p na nb f j = M f j := by
  unfold mMv mTake mTakeK mAdd
  rw [if_neg (fun z => h.2.2 z.1), if_neg (fun z => h.2.1 z.1), u2_ne h.1, u2_ne h.2.2, u2_ne h.2.1]
theorem mMv_5 (x : Nat) : mMv M a b p na nb 5 x = if x = p then nI b else M 5 x := by
  unfold mMv mTake mTakeK mAdd
  rw [if_neg (fun z => absurd z.1 (by decide)), if_neg (fun z => absurd z.1 (by decide))]
  by_cases e : x = p
  · simp [u2, e]
  · simp [u2, e]
theorem mMv_9 (hab : a ≠ b) (l : Nat) : mMv M a b p na nb 9 l = if l = a then nI na else if l = b then nI (nb + 1) else M 9 l := by
  unfold mMv mTake mTakeK mAdd
  by_cases e : l = a
  · rw [if_pos ⟨rfl, e⟩, if_pos e]
  · rw [if_neg (fun z => e z.2), if_neg (fun z => absurd z.1 (by decide)), if_neg e]
    by_cases e2 : l = b
    · simp [u2, e2]
    · simp [u2, e2]
theorem mMv_8a (hab : a ≠ b) (hna : na ≤ 299) (hnb : nb < 300) {i : Nat} (hi : i < na) : mMv M a b p na nb 8 (300 * a + i) = M 8 (300 * a + (i + 1)) := by
  unfold mMv mTake mTakeK mAdd
  rw [if_neg (fun z => absurd z.1 (by decide)), if_pos ⟨rfl, by omega, by omega⟩, u2_ne (by decide), u2_ne (by decide)]
  have : 300 * a + i + 1 ≠ 300 * b + nb := by omega
  rw [u2_j this]
  rfl
theorem mMv_8o (hna : na ≤ 299) {l i : Nat} (hl : l ≠ a) (hi : i < 300) : mMv M a b p na nb 8 (300 * l + i) = if 300 * l + i = 300 * b + nb then nI p else M 8 (300 * l + i) := by
  unfold mMv mTake mTakeK mAdd
  rw [if_neg (fun z => absurd z.1 (by decide)), if_neg (fun z => by omega), u2_ne (by decide), u2_ne (by decide)]
  by_cases e : 300 * l + i = 300 * b + nb
  · simp [u2, e]
  · simp [u2, e]
end MV
theorem Rel.dj {C : Cs} {M : Ms} {np nl : Nat} {R : Nat → List Nat} (hR : RlR C M np nl R) (h60 : nl ≤ 60) {l l' x : Nat} (hl : l < nl) (hl' : l' < nl) (hne : l ≠ l') (hx : x ∈ R l) : x ∉ R l' := fun z => by
  have e1 := ((hR l hl).2.2.2 x hx).2.1
  have e2 := ((hR l' hl').2.2.2 x z).2.1
  exact hne ((nI_eq (by omega) (by omega)).mp (e1.symm.trans e2))
theorem Rel_mv1 {C : Cs} {M : Ms} {np nl nh nw ns ng dy tt : Nat} {R Q : Nat → List Nat} (H : Rel C M np nl nh nw ns ng dy tt R Q) {a b p : Nat} {La : List Nat} (ha : a < nl) (hb : b < nl) (hab : a ≠ b) (hRa : R a = p :: La) (a0 : M 10 a = 0) (b0 : M 10 b = 0) (h7 : M 7 a = M 7 b) : Rel (cApp (cUnl C a 0 p) b p) (mMv M a b p La.length (R b).length) np nl nh nw ns ng dy tt (fun l => if l = a then La else if l = b then R b ++ [p] else R l) Q := by
  obtain ⟨⟨hX, ⟨n1, m1⟩, ⟨n2, m2⟩, ⟨n3, m3⟩, n4, m4⟩, hP, hH, hL, hR, hK, hQ, hT, hS, hG, hW, hF, hD, h42⟩ := H
  have h60 := n2.2.1
  have h300 := n1.2.1
  have hpa : p ∈ R a := by rw [hRa]; exact List.mem_cons_self ..
  have nda : (p :: La).Nodup := by have := (hR a ha).2.2.1; rw [hRa] at this; exact this
  have ndb := (hR b hb).2.2.1
  have hpLa : p ∉ La := (List.nodup_cons.mp nda).1
  have hpb : p ∉ R b := Rel.dj hR h60 ha hb hab hpa
  have hpn : p < np := ((hR a ha).2.2.2 p hpa).1
  have p4 : M 4 p = 0 := ((hR a ha).2.2.2 p hpa).2.2.1
  have p0 : M 0 p = M 7 a := ((hR a ha).2.2.2 p hpa).2.2.2
  have lena : La.length + 1 ≤ 300 := by
    have := nd_len np (p :: La) nda (fun x hx => by rw [← hRa] at hx; exact ((hR a ha).2.2.2 x hx).1)
    rw [List.length_cons] at this
    omega
  have ndb2 : (R b ++ [p]).Nodup := List.nodup_append.mpr ⟨ndb, by simp, fun x hx y hy e => by simp at hy; rw [e, hy] at hx; exact hpb hx⟩
  have lenb : (R b).length + 1 ≤ 300 := by
    have := nd_len np (R b ++ [p]) ndb2 (fun x hx => by
      rcases List.mem_append.mp hx with q | q
      · exact ((hR b hb).2.2.2 x q).1
      · simp at q; rw [q]; exact hpn)
    rw [List.length_append] at this
    simp at this
    omega
  have row : ∀ l, l < nl → RowC C l (R l) := fun l hl => (hR l hl).1
  have ra : RowC C a ([] ++ p :: La) := by have := row a ha; rw [hRa] at this; exact this
  have ua : RowC (cUnl C a 0 p) a La := RowC_unl (X := []) (t := La) ra nda
  have uo : ∀ l, l < nl → l ≠ a → RowC (cUnl C a 0 p) l (R l) := fun l hl e => RowC_unlo (X := []) (t := La) (row l hl) e (fun x hx => by simp at hx)
  have ub := uo b hb (Ne.symm hab)
  have I : ∀ t k i, ¬ (t = 5 ∧ k = 6 ∧ i = p) → ¬ (t = 2 ∧ k = 4 ∧ i = b) → ¬ (t = 2 ∧ k = 4 ∧ i = a) → cI (cApp (cUnl C a 0 p) b p) t k i = cI C t k i := fun t k i h1 h2 h3 => (cApp_I _ b p t k i h1 h2).trans (cUnl_I _ a 0 p t k i h3)
  have It : ∀ t k i, t ≠ 5 → t ≠ 2 → cI (cApp (cUnl C a 0 p) b p) t k i = cI C t k i := fun t k i h5 h2 => I t k i (fun z => h5 z.1) (fun z => h2 z.1) (fun z => h2 z.1)
  have Lt : ∀ t k i, t ≠ 2 → t ≠ 5 → cL (cApp (cUnl C a 0 p) b p) t k i = cL C t k i := fun t k i h2 h5 => (cApp_Lt _ b p t k i h2 h5).trans (cUnl_Lt _ a 0 p t k i h2 h5)
  have L2 : ∀ k i, k ≠ 2 → k ≠ 3 → cL (cApp (cUnl C a 0 p) b p) 2 k i = cL C 2 k i := fun k i h2 h3 => (cApp_2 (Or.inr ⟨h2, h3⟩)).trans (cUnl_2 (Or.inr ⟨h2, h3⟩))
  have hKp := (cUnl_Kp C a 0 p).tr (cApp_Kp (cUnl C a 0 p) b p)
  have Ne2 : ∀ t, cN (cApp (cUnl C a 0 p) b p) t = cN C t := fun t => by rw [hKp.1.2.1]
  have hLa := hL a ha
  have hLb := hL b hb
  have c4a : cI C 2 4 a = nI (La.length + 1) := by rw [hLa.2.1.2.1, (hR a ha).2.1.1, hRa, List.length_cons]
  have c4b : cI C 2 4 b = nI (R b).length := by rw [hLb.2.1.2.1, (hR b hb).2.1.1]
  refine ⟨⟨hKp.fx hX, ⟨hKp.nb (by decide) n1, m1⟩, ⟨hKp.nb (by decide) n2, m2⟩, ⟨hKp.nb (by decide) n3, m3⟩, hKp.nb (by decide) n4, m4⟩, fun x hx => ?_, hH.c (fun f x _ _ => It 1 f x (by decide) (by decide)) (fun f x h1 h2 => mMv_ot (by omega)) (mMv_ot (by decide)), fun l hl => ?_, fun l hl => ?_, fun l hl q => ?_, fun x hx => (hQ x hx).c (fun l _ => L2 10 l (by decide) (by decide)) (Lt 1 8 x (by decide) (by decide)) (Lt 1 9 x (by decide) (by decide)) (It 1 7 x (by decide) (by decide)) (fun l => by rw [mMv_ot (by decide), mMv_ot (by decide)]) (fun _ _ => mMv_ot (by decide)), ?_, hS.c (It 9 11 0 (by decide) (by decide)) (Ne2 6) (fun f e _ => It 6 f e (by decide) (by decide)) (fun e _ => Lt 6 2 e (by decide) (by decide)) (fun x _ => Lt 1 10 x (by decide) (by decide)) (mMv_ot (by decide)) (fun f e hf _ => mMv_ot (by omega)), hG.c (It 9 12 0 (by decide) (by decide)) (Ne2 7) (fun f e _ => It 7 f e (by decide) (by decide)) (fun e _ => Lt 7 3 e (by decide) (by decide)) (fun x _ => Lt 1 11 x (by decide) (by decide)) (mMv_ot (by decide)) (fun f e hf _ => mMv_ot (by omega)), hW.c (fun x _ => It 8 3 x (by decide) (by decide)) (fun i x _ => Lt 8 i x (by decide) (by decide)) (fun _ _ => mMv_ot (by decide)) (fun _ _ => mMv_ot (by decide)) (fun x _ h4 => ⟨mMv_ot (by decide), by rw [mMv_5, if_neg (fun z => by rw [z, p4] at h4; exact absurd h4 (by decide))], mMv_ot (by decide)⟩) (Nat.le_refl _), fun i hi => ?_, ⟨(It 9 13 0 (by decide) (by decide)).trans hD.1, hD.2.1, (mMv_ot (by decide)).trans hD.2.2⟩, ?_⟩
  · obtain ⟨b0', ⟨b1, b2, b3, b4, b5, b6⟩, k, hk, e⟩ := hP x hx
    have J : ∀ k, k ≠ 6 → cI (cApp (cUnl C a 0 p) b p) 5 k x = cI C 5 k x := fun k hk => I 5 k x (fun z => hk z.2.1) (fun z => absurd z.1 (by decide)) (fun z => absurd z.1 (by decide))
    rw [J 0 (by decide), J 1 (by decide), J 2 (by decide), J 3 (by decide), J 4 (by decide), J 5 (by decide), mMv_ot (f := 0) (by decide), mMv_ot (f := 1) (by decide), mMv_ot (f := 2) (by decide), mMv_ot (f := 3) (by decide), mMv_ot (f := 4) (by decide), mMv_5]
    refine ⟨b0', ⟨b1, b2, b3, b4, b5, ?_⟩, k, hk, e⟩
    by_cases ex : x = p
    · rw [if_pos ex, ex, cApp_56, cUnl_I _ _ _ _ _ _ _ (fun z => absurd z.2.1 (by decide))]
      exact hLb.1
    · rw [if_neg ex, I 5 6 x (fun z => ex z.2.2) (fun z => absurd z.1 (by decide)) (fun z => absurd z.1 (by decide))]
      exact b6
  · have J : ∀ k, k ≠ 4 → cI (cApp (cUnl C a 0 p) b p) 2 k l = cI C 2 k l := fun k hk => I 2 k l (fun z => absurd z.1 (by decide)) (fun z => hk z.2.1) (fun z => hk z.2.1)
    have e4 : cI (cApp (cUnl C a 0 p) b p) 2 4 l = mMv M a b p La.length (R b).length 9 l := by
      rw [mMv_9 hab]
      by_cases e1 : l = a
      · rw [if_pos e1, e1, cApp_I _ _ _ _ _ _ (fun z => absurd z.1 (by decide)) (fun z => hab z.2.2), cUnl_24, c4a, nI_s]
      · rw [if_neg e1]
        by_cases e2 : l = b
        · rw [if_pos e2, e2, cApp_24, cUnl_I _ _ _ _ _ _ _ (fun z => hab z.2.2.symm), c4b, nI_1]
        · rw [if_neg e2, I 2 4 l (fun z => absurd z.1 (by decide)) (fun z => e2 z.2.2) (fun z => e1 z.2.2)]
          exact (hL l hl).2.1.2.1
    obtain ⟨q1, ⟨q2, q3, q4⟩, q5⟩ := hL l hl
    unfold RlL1
    rw [J 0 (by decide), J 1 (by decide), e4, J 5 (by decide), J 7 (by decide), J 9 (by decide), L2 6 l (by decide) (by decide), L2 8 l (by decide) (by decide), L2 10 l (by decide) (by decide), mMv_ot (f := 7) (by decide), mMv_ot (f := 10) (by decide), mMv_ot (f := 11) (by decide), mMv_ot (f := 12) (by decide), mMv_ot (f := 13) (by decide)]
    exact ⟨q1, ⟨q2, rfl, q4⟩, q5⟩
  · dsimp only
    by_cases e1 : l = a
    · subst e1
      rw [if_pos rfl]
      have r1 : RowC (cApp (cUnl C l 0 p) b p) l La := RowC_appo ub ua hab hpLa (fun x hx z => Rel.dj hR h60 hb ha (Ne.symm hab) hx (by rw [hRa]; exact List.mem_cons_of_mem _ z))
      refine ⟨r1, ⟨by rw [mMv_9 hab, if_pos rfl], fun i q hq => ?_⟩, (List.nodup_cons.mp nda).2, fun q hq => ?_⟩
      · have hi : i < La.length := by
          rcases Nat.lt_or_ge i La.length with z | z
          · exact z
          · rw [List.getElem?_eq_none z] at hq; cases hq
        rw [mMv_8a hab (by omega) (by omega) hi]
        exact (hR l ha).2.1.2 (i + 1) q (by rw [hRa]; exact hq)
      · have hq2 : q ∈ R l := by rw [hRa]; exact List.mem_cons_of_mem _ hq
        rw [mMv_5, if_neg (fun z => hpLa (by rw [← z]; exact hq)), mMv_ot (f := 4) (by decide), mMv_ot (f := 0) (by decide), mMv_ot (f := 7) (by decide)]
        exact (hR l ha).2.2.2 q hq2
    · rw [if_neg e1]
      by_cases e2 : l = b
      · subst e2
        rw [if_pos rfl]
        refine ⟨RowC_app ub ndb hpb, ⟨by rw [mMv_9 hab, if_neg e1, if_pos rfl, List.length_append]; rfl, fun i q hq => ?_⟩, ndb2, fun q hq => ?_⟩
        · have hi : i < (R l ++ [p]).length := by
            rcases Nat.lt_or_ge i (R l ++ [p]).length with z | z
            · exact z
            · rw [List.getElem?_eq_none z] at hq; cases hq
          rw [List.length_append] at hi
          simp at hi
          rw [mMv_8o (by omega) e1 (by omega)]
          by_cases ei : i = (R l).length
          · rw [if_pos (by omega)]
            rw [ei, List.getElem?_append_right (Nat.le_refl _)] at hq
            simp at hq
            rw [hq]
          · rw [if_neg (by omega)]
            rw [List.getElem?_append_left (by omega)] at hq
            exact (hR l hl).2.1.2 i q hq
        · rcases List.mem_append.mp hq with z | z
          · rw [mMv_5, if_neg (fun w => hpb (by rw [← w]; exact z)), mMv_ot (f := 4) (by decide), mMv_ot (f := 0) (by decide), mMv_ot (f := 7) (by decide)]
            exact (hR l hl).2.2.2 q z
          · simp at z
            rw [z, mMv_5, if_pos rfl, mMv_ot (f := 4) (by decide), mMv_ot (f := 0) (by decide), mMv_ot (f := 7) (by decide)]
            exact ⟨hpn, rfl, p4, p0.trans h7⟩
      · rw [if_neg e2]
        obtain ⟨g1, ⟨g2, g3⟩, g4, g5⟩ := hR l hl
        have hpl : p ∉ R l := Rel.dj hR h60 ha hl (Ne.symm e1) hpa
        refine ⟨RowC_appo ub (uo l hl e1) e2 hpl (fun x hx => Rel.dj hR h60 hb hl (Ne.symm e2) hx), ⟨by rw [mMv_9 hab, if_neg e1, if_neg e2]; exact g2, fun i q hq => ?_⟩, g4, fun q hq => ?_⟩
        · have hi : i < (R l).length := by
            rcases Nat.lt_or_ge i (R l).length with z | z
            · exact z
            · rw [List.getElem?_eq_none z] at hq; cases hq
          have := nd_len np (R l) g4 (fun x hx => (g5 x hx).1)
          rw [mMv_8o (by omega) e1 (by omega), if_neg (by omega)]
          exact g3 i q hq
        · rw [mMv_5, if_neg (fun w => hpl (by rw [← w]; exact hq)), mMv_ot (f := 4) (by decide), mMv_ot (f := 0) (by decide), mMv_ot (f := 7) (by decide)]
          exact g5 q hq
  · dsimp only
    rw [mMv_ot (by decide)] at q
    have e1 : l ≠ a := fun z => by rw [z, a0] at q; exact absurd q (by decide)
    have e2 : l ≠ b := fun z => by rw [z, b0] at q; exact absurd q (by decide)
    rw [if_neg e1, if_neg e2, mMv_ot (by decide), L2 8 l (by decide) (by decide)]
    exact hK l hl q
  · obtain ⟨t1, t2, t3⟩ := hT
    refine ⟨(mMv_ot (by decide)).trans t1, ?_, fun l hl q => ?_⟩
    · rw [cn_cong (q := fun l => decide (M 10 l = 1)) (fun i _ => by rw [mMv_ot (by decide)])]
      exact t2
    · rw [mMv_ot (by decide)] at q
      rw [mMv_ot (by decide)]
      exact t3 l hl q
  · rw [It 0 0 i (by decide) (by decide), It 0 1 i (by decide) (by decide), mMv_ot (by decide), mMv_ot (by decide)]
    exact hF i hi
  · intro i hi
    rw [mMv_ot (by decide)]
    exact h42 i hi
