/-! THE TWO: who is first; a lot goes home -/
theorem lt_as {x y : Int32} (h : x < y) : ¬ y < x := fun z => by
  rw [i_lt] at h z
  omega
theorem fiF_min {M : Ms} {h l : Nat} (h10 : M 10 l = 2) (h11 : M 11 l = nI h) : ∀ n, l < n → (∀ j, j < n → M 10 j = 2 → M 11 j = nI h → j ≠ l → M 15 l < M 15 j) → fiF M h n = some l
  | 0, hl, _ => by omega
  | n + 1, hl, hm => by
    unfold fiF
    by_cases e : l = n
    · subst e
      rw [if_pos ⟨h10, h11⟩]
      cases hb : fiF M h l with
      | none => rfl
      | some f =>
        obtain ⟨f1, f2, f3⟩ := fiF_lt M h l f hb
        exact if_pos (hm f (by omega) f2 f3 (by omega))
    · have ih := fiF_min h10 h11 n (by omega) (fun j hj => hm j (by omega))
      rw [ih]
      by_cases c : M 10 n = 2 ∧ M 11 n = nI h
      · rw [if_pos c]
        exact if_neg (lt_as (hm n (by omega) c.1 c.2 (by omega)))
      · rw [if_neg c]
theorem fiF_none {M : Ms} {h : Nat} : ∀ n, (∀ j, j < n → ¬ (M 10 j = 2 ∧ M 11 j = nI h)) → fiF M h n = none
  | 0, _ => rfl
  | n + 1, hm => by
    unfold fiF
    rw [if_neg (hm n (by omega))]
    exact fiF_none n (fun j hj => hm j (by omega))
theorem RlQ1.first {C : Cs} {M : Ms} {nl h l : Nat} {t : List Nat} (q : RlQ1 C M nl h (l :: t)) : fiF M h nl = some l := by
  obtain ⟨_, q2, q3, q4⟩ := q
  obtain ⟨b1, b2, b3⟩ := (q3 l).mp (List.mem_cons_self ..)
  refine fiF_min b2 b3 nl b1 (fun j hj h2 h3 hne => ?_)
  rcases List.mem_cons.mp ((q3 j).mpr ⟨hj, h2, h3⟩) with z | z
  · exact absurd z hne
  · exact (List.pairwise_cons.mp q4).1 j z
theorem RlQ1.no {C : Cs} {M : Ms} {nl h : Nat} (q : RlQ1 C M nl h []) : fiF M h nl = none := fiF_none nl (fun j hj z => by
  have := (q.2.2.1 j).mpr ⟨hj, z⟩
  simp at this)
section RLS
variable (C : Cs) (h l : Nat)
theorem cRl1_I (t k i : Nat) (hh : ¬ (t = 1 ∧ k = 7 ∧ i = h)) : cI (cRl1 C h l) t k i = cI C t k i := by
  unfold cRl1
  rw [cI_wI, if_neg hh]
  split
  · rw [cI_wL, cI_wL]
  · rw [cI_wL]
theorem cRl1_L (t k i : Nat) (hh : ¬ (t = 1 ∧ (k = 8 ∨ k = 9) ∧ i = h)) : cL (cRl1 C h l) t k i = cL C t k i := by
  unfold cRl1
  rw [cL_wI]
  split
  · rw [cL_wL, if_neg (fun z => hh ⟨z.1, Or.inr z.2.1, z.2.2⟩), cL_wL, if_neg (fun z => hh ⟨z.1, Or.inl z.2.1, z.2.2⟩)]
  · rw [cL_wL, if_neg (fun z => hh ⟨z.1, Or.inl z.2.1, z.2.2⟩)]
theorem cRl1_8 : cL (cRl1 C h l) 1 8 h = cL C 2 10 l := by
  unfold cRl1
  rw [cL_wI]
  split
  · rename_i e
    rw [cL_wL, if_neg (fun z => absurd z.2.1 (by decide)), cL_wL, if_pos ⟨rfl, rfl, rfl⟩, e]
  · rw [cL_wL, if_pos ⟨rfl, rfl, rfl⟩]
theorem cRl1_9 : cL (cRl1 C h l) 1 9 h = if cL C 2 10 l = 0 then 0 else cL C 1 9 h := by
  unfold cRl1
  rw [cL_wI]
  split
  · rw [cL_wL, if_pos ⟨rfl, rfl, rfl⟩]
  · rw [cL_wL, if_neg (fun z => absurd z.2.1 (by decide))]
theorem cRel_I (t k i : Nat) (h2 : ¬ (t = 2 ∧ (k = 5 ∨ k = 7 ∨ k = 9) ∧ i = l)) (h1 : ¬ (t = 1 ∧ k = 7 ∧ i = h)) : cI (cRel C h l) t k i = cI C t k i := by
  rw [cRel, cTH, cI_wL, cI_wI, if_neg (fun z => h2 ⟨z.1, Or.inr (Or.inr z.2.1), z.2.2⟩), cI_wL, cI_wI, if_neg (fun z => h2 ⟨z.1, Or.inr (Or.inl z.2.1), z.2.2⟩), cI_wI, if_neg (fun z => h2 ⟨z.1, Or.inl z.2.1, z.2.2⟩), cRl1_I C h l t k i h1]
theorem cRel_L (t k i : Nat) (h2 : ¬ (t = 2 ∧ (k = 8 ∨ k = 10) ∧ i = l)) (h1 : ¬ (t = 1 ∧ (k = 8 ∨ k = 9) ∧ i = h)) : cL (cRel C h l) t k i = cL C t k i := by
  rw [cRel, cTH, cL_wL, if_neg (fun z => h2 ⟨z.1, Or.inr z.2.1, z.2.2⟩), cL_wI, cL_wL, if_neg (fun z => h2 ⟨z.1, Or.inl z.2.1, z.2.2⟩), cL_wI, cL_wI, cRl1_L C h l t k i h1]
theorem cRel_n : (cI (cRel C h l) 2 5 l = 3 ∧ cI (cRel C h l) 2 7 l = cI C 1 4 h ∧ cI (cRel C h l) 2 9 l = 0) ∧ (cL (cRel C h l) 2 8 l = 0 ∧ cL (cRel C h l) 2 10 l = 0) ∧ cI (cRel C h l) 1 7 h = cI C 1 7 h - 1 := by
  refine ⟨⟨?_, ?_, ?_⟩, ⟨?_, ?_⟩, ?_⟩
  · simp [cRel, cTH, cI_wI, cI_wL]
  · simp [cRel, cTH, cI_wI, cI_wL]
  · simp [cRel, cTH, cI_wI, cI_wL]
  · simp [cRel, cTH, cL_wI, cL_wL]
  · simp [cRel, cTH, cL_wI, cL_wL]
  · have e : cI (cRel C h l) 1 7 h = cI (cRl1 C h l) 1 7 h := by simp [cRel, cTH, cI_wI, cI_wL]
    rw [e, cRl1, cI_wI, if_pos ⟨rfl, rfl, rfl⟩]
theorem cRel_18 (k : Nat) : cL (cRel C h l) 1 k h = cL (cRl1 C h l) 1 k h := by
  rw [cRel, cTH, cL_wL, if_neg (fun z => absurd z.1 (by decide)), cL_wI, cL_wL, if_neg (fun z => absurd z.1 (by decide)), cL_wI, cL_wI]
end RLS
theorem mOut_ot {M : Ms} {l h f i : Nat} (hf : f ≠ 10 ∧ f ≠ 12) : mOutH M l h f i = M f i := by
  unfold mOutH
  rw [u2_ne hf.2, u2_ne hf.1]
theorem mOut_j {M : Ms} {l h f i : Nat} (hi : i ≠ l) : mOutH M l h f i = M f i := by
  unfold mOutH
  rw [u2_j hi, u2_j hi]
theorem Rel_rel {C : Cs} {M : Ms} {np nl nh nw ns ng dy tt : Nat} {R Q : Nat → List Nat} {h l : Nat} {t : List Nat} (hh : h < nh) (hq : Q h = l :: t) (H : Rel C M np nl nh nw ns ng dy tt R Q) : Rel (cRel C h l) (mOutH M l h) np nl nh nw ns ng dy tt R (fun x => if x = h then t else Q x) := by
  obtain ⟨hN, hP, hH, hL, hR, hK, hQ, hT, hS, hG, hW, hF, hD, h42⟩ := H
  obtain ⟨hX, ⟨n1, m1⟩, ⟨n2, m2⟩, ⟨n3, m3⟩, n4, m4⟩ := hN
  have nh9 := n3.2.1
  have hKp := cRel_Kp C h l
  have qh := hQ h hh
  rw [hq] at qh
  obtain ⟨⟨g1, g2, g3⟩, g4, g5, g6⟩ := qh
  obtain ⟨hl, h10, h11⟩ := (g5 l).mp (List.mem_cons_self ..)
  have ndt := List.nodup_cons.mp g4
  have it : ∀ t k i, t ≠ 2 → t ≠ 1 → cI (cRel C h l) t k i = cI C t k i := fun t k i a b => cRel_I C h l t k i (fun z => a z.1) (fun z => b z.1)
  have i2 : ∀ k i, ¬ ((k = 5 ∨ k = 7 ∨ k = 9) ∧ i = l) → cI (cRel C h l) 2 k i = cI C 2 k i := fun k i a => cRel_I C h l 2 k i (fun z => a z.2) (fun z => absurd z.1 (by decide))
  have i1 : ∀ k i, ¬ (k = 7 ∧ i = h) → cI (cRel C h l) 1 k i = cI C 1 k i := fun k i a => cRel_I C h l 1 k i (fun z => absurd z.1 (by decide)) (fun z => a z.2)
  have lt : ∀ t k i, t ≠ 2 → t ≠ 1 → cL (cRel C h l) t k i = cL C t k i := fun t k i a b => cRel_L C h l t k i (fun z => a z.1) (fun z => b z.1)
  have l2 : ∀ k i, ¬ ((k = 8 ∨ k = 10) ∧ i = l) → cL (cRel C h l) 2 k i = cL C 2 k i := fun k i a => cRel_L C h l 2 k i (fun z => a z.2) (fun z => absurd z.1 (by decide))
  have l1 : ∀ k i, ¬ ((k = 8 ∨ k = 9) ∧ i = h) → cL (cRel C h l) 1 k i = cL C 1 k i := fun k i a => cRel_L C h l 1 k i (fun z => absurd z.1 (by decide)) (fun z => a z.2)
  obtain ⟨⟨v5, v7, v9⟩, ⟨w8, w10⟩, v17⟩ := cRel_n C h l
  have a10 : mOutH M l h 10 l = 3 := by simp [mOutH, u2]
  have a12 : mOutH M l h 12 l = M 21 h := by simp [mOutH, u2]
  have hHh := hH.1 h hh
  have ne2 : ∀ j, mOutH M l h 10 j = 2 → j ≠ l := fun j q z => by rw [z, a10] at q; exact absurd q (by decide)
  refine ⟨⟨hKp.fx hX, ⟨hKp.nb (by decide) n1, m1⟩, ⟨hKp.nb (by decide) n2, m2⟩, ⟨hKp.nb (by decide) n3, m3⟩, hKp.nb (by decide) n4, m4⟩, hP.c (fun k p _ => it 5 k p (by decide) (by decide)) (fun f p hf _ => mOut_ot (by omega)), hH.c (fun k x hk _ => i1 k x (by omega)) (fun f x a b => mOut_ot (by omega)) (mOut_ot (by decide)), fun j hj => ?_, fun j hj => (hR j hj).c (fun p _ => lt 5 7 p (by decide) (by decide)) (l2 2 j (fun z => absurd z.1 (by decide))) (l2 3 j (fun z => absurd z.1 (by decide))) (mOut_ot (by decide)) (mOut_ot (by decide)) (fun _ _ => mOut_ot (by decide)) (fun f p _ hf => mOut_ot (by omega)) (Nat.le_refl _), fun j hj q => ?_, fun x hx => ?_, ⟨(mOut_ot (by decide)).trans hT.1, ?_, fun j hj q => ?_⟩, hS.c (it 9 11 0 (by decide) (by decide)) (by rw [hKp.1.2.1]) (fun k e _ => it 6 k e (by decide) (by decide)) (fun e _ => lt 6 2 e (by decide) (by decide)) (fun x _ => l1 10 x (fun z => absurd z.1 (by decide))) (mOut_ot (by decide)) (fun f e hf _ => mOut_ot (by omega)), hG.c (it 9 12 0 (by decide) (by decide)) (by rw [hKp.1.2.1]) (fun k e _ => it 7 k e (by decide) (by decide)) (fun e _ => lt 7 3 e (by decide) (by decide)) (fun x _ => l1 11 x (fun z => absurd z.1 (by decide))) (mOut_ot (by decide)) (fun f e hf _ => mOut_ot (by omega)), hW.c (fun x _ => it 8 3 x (by decide) (by decide)) (fun i x _ => lt 8 i x (by decide) (by decide)) (fun _ _ => mOut_ot (by decide)) (fun _ _ => mOut_ot (by decide)) (fun _ _ _ => ⟨mOut_ot (by decide), mOut_ot (by decide), mOut_ot (by decide)⟩) (Nat.le_refl _), fun i hi => ?_, ⟨(it 9 13 0 (by decide) (by decide)).trans hD.1, hD.2.1, (mOut_ot (by decide)).trans hD.2.2⟩, fun i hi => ?_⟩
  · by_cases e : j = l
    · subst e
      obtain ⟨p1, ⟨p2, p2b, p2c⟩, p3, p4, p5, p6, p7, p8, p9⟩ := hL j hj
      obtain ⟨x, hx, x1, x2⟩ := p5 (by rw [h10]; decide)
      unfold RlL1
      rw [i2 0 j (fun z => absurd z.1 (by decide)), i2 1 j (fun z => absurd z.1 (by decide)), i2 4 j (fun z => absurd z.1 (by decide)), v5, v7, v9, w8, w10, l2 6 j (fun z => absurd z.1 (by decide)), a10, a12, mOut_ot (f := 7) (by decide), mOut_ot (f := 9) (by decide), mOut_ot (f := 11) (by decide)]
      exact ⟨p1, ⟨p2, p2b, rfl⟩, ⟨3, by decide, rfl⟩, fun z => absurd z (by decide), fun _ => ⟨x, hx, x1, x2⟩, fun _ => ⟨hHh.2.1.2.2.2.1, hHh.2.2.2.2.1⟩, fun z => absurd (Or.inr rfl) z, fun z => absurd z (by decide), fun _ => ⟨rfl, rfl, rfl⟩⟩
    · exact (hL j hj).c (fun k => i2 k j (fun z => e z.2)) (fun k _ => l2 k j (fun z => e z.2)) (fun f _ => mOut_j e) (Nat.le_refl _)
  · have e := ne2 j q
    rw [mOut_j e] at q
    rw [mOut_j e, l2 8 j (fun z => e z.2)]
    exact hK j hj q
  · dsimp only
    by_cases e : x = h
    · subst e
      rw [if_pos rfl]
      have ht := g1.2
      have hz := chL_0 ht
      refine ⟨⟨?_, ?_, ?_⟩, ndt.2, fun j => ?_, (List.pairwise_cons.mp g6).2⟩
      · rw [cRel_18, cRl1_8]
        exact chL_cong (fun y hy => (l2 10 y (fun z => ndt.1 (by rw [← z.2]; exact hy))).symm) ht
      · rw [cRel_18, cRl1_9, g2]
        by_cases e0 : cL C 2 10 l = 0
        · rw [if_pos e0, hz.mp e0]; rfl
        · rw [if_neg e0]
          have htn : t ≠ [] := fun z => e0 (hz.mpr z)
          cases t with
          | nil => exact absurd rfl htn
          | cons s u => rw [lsC]
      · rw [v17, g3, List.length_cons, nI_s]
      · rw [mOut_ot (f := 11) (by decide)]
        constructor
        · intro w
          have ne : j ≠ l := fun z => ndt.1 (by rw [← z]; exact w)
          rw [mOut_j ne]
          exact (g5 j).mp (List.mem_cons_of_mem _ w)
        · intro w
          have ne := ne2 j w.2.1
          rw [mOut_j ne] at w
          rcases List.mem_cons.mp ((g5 j).mpr w) with z | z
          · exact absurd z ne
          · exact z
    · rw [if_neg e]
      have lx : l ∉ Q x := fun z => by
        have := ((hQ x hx).2.2.1 l).mp z
        exact e ((nI_eq (by omega) (by omega)).mp (this.2.2.symm.trans h11))
      obtain ⟨⟨f1, f2, f3⟩, f4, f5, f6⟩ := hQ x hx
      refine ⟨⟨?_, (l1 9 x (fun z => e z.2)).trans f2, (i1 7 x (fun z => e z.2)).trans f3⟩, f4, fun j => ?_, f6⟩
      · rw [l1 8 x (fun z => e z.2)]
        exact chL_cong (fun y hy => (l2 10 y (fun z => lx (by rw [← z.2]; exact hy))).symm) f1
      · rw [mOut_ot (f := 11) (by decide)]
        constructor
        · intro w
          have ne : j ≠ l := fun z => lx (by rw [← z]; exact w)
          rw [mOut_j ne]
          exact (f5 j).mp w
        · intro w
          have ne := ne2 j w.2.1
          rw [mOut_j ne] at w
          exact (f5 j).mpr w
  · rw [cn_cong (q := fun l => decide (M 10 l = 1)) (fun i _ => ?_)]
    · exact hT.2.1
    · by_cases e : i = l
      · rw [e, a10, h10]; decide
      · rw [mOut_j e]
  · have e := ne2 j q
    rw [mOut_j e] at q
    rw [mOut_j e]
    exact hT.2.2 j hj q
  · rw [it 0 0 i (by decide) (by decide), it 0 1 i (by decide) (by decide), mOut_ot (by decide), mOut_ot (by decide)]
    exact hF i hi
  · rw [mOut_ot (by decide)]
    exact h42 i hi
