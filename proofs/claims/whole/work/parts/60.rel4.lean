/-! THE TWO: wage, send -/
section WG
variable {C : Cs} {a h ng : Nat} {f v : Int32}
theorem cWage_I (hc : cN C 7 = ng) (t k i : Nat) (h7 : t ≠ 7 ∨ i ≠ ng) (h9 : ¬ (t = 9 ∧ k = 12)) : cI (cWage C a h ng f v) t k i = cI C t k i := by
  have q : ∀ k', ¬ (t = 7 ∧ k = k' ∧ i = ng) := fun k' z => by omega
  rw [cWage, cI_wL, cGI, cI_wL, cI_wI, if_neg (q 2), cI_wI, if_neg (q 1), cI_wI, if_neg (q 0), cI_wN]
  rw [if_neg (fun z => by have : i = cN C 7 := z.2; omega), cI_wI, if_neg (fun z => h9 ⟨z.1, z.2.1⟩)]
theorem cWage_L (hc : cN C 7 = ng) (t k i : Nat) (h7 : t ≠ 7 ∨ i ≠ ng) (h1 : ¬ (t = 1 ∧ k = 11 ∧ i = h)) : cL (cWage C a h ng f v) t k i = cL C t k i := by
  rw [cWage, cL_wL, if_neg h1, cGI, cL_wL, if_neg (fun z => by omega), cL_wI, cL_wI, cL_wI, cL_wN]
  rw [if_neg (fun z => by have : i = cN C 7 := z.2; omega), cL_wI]
theorem cWage_N (t : Nat) : cN (cWage C a h ng f v) t = if t = 7 then cN C 7 + 1 else cN C t := cN_wN (wI C 9 12 0 (nI (ng + 1))) 7 a t
theorem cWage_n : (cI (cWage C a h ng f v) 7 0 ng = cI C 9 13 0 ∧ cI (cWage C a h ng f v) 7 1 ng = f ∧ cI (cWage C a h ng f v) 7 2 ng = v) ∧ cL (cWage C a h ng f v) 7 3 ng = cL C 1 11 h ∧ cL (cWage C a h ng f v) 1 11 h = ng + 1 := by
  simp [cWage, cGI, cI_wI, cI_wL, cL_wL, cL_wI]
theorem cWage_c (hc : cN C 7 = ng) : cI (cWage C a h ng f v) 9 12 0 = nI (ng + 1) := by
  simp [cWage, cGI, cI_wI, cI_wL, cI_wN]
end WG
theorem mWage_ot {M : Ms} {h ng : Nat} {f v : Int32} {g i : Nat} (hg : g ≠ 31 ∧ g ≠ 32 ∧ g ≠ 33 ∧ g ≠ 34 ∧ g ≠ 35 ∧ g ≠ 41) : mWage M h ng f v g i = M g i := by
  obtain ⟨a, b, c, d, e, k⟩ := hg
  unfold mWage
  rw [u2_ne e, u2_ne d, u2_ne c, u2_ne b, u2_ne a, m41_ot k]
theorem mWage_j {M : Ms} {h ng : Nat} {f v : Int32} {g i : Nat} (hi : i ≠ ng) (hg : g ≠ 35 ∧ g ≠ 41) : mWage M h ng f v g i = M g i := by
  unfold mWage
  rw [u2_ne hg.1, u2_j hi, u2_j hi, u2_j hi, u2_j hi, m41_ot hg.2]
theorem Rel_wage {C : Cs} {M : Ms} {np nl nh nw ns ng dy tt : Nat} {R Q : Nat → List Nat} (a : Nat) {h : Nat} {f v : Int32} (hh : h < nh) (hng : ng < 100) (H : Rel C M np nl nh nw ns ng dy tt R Q) : Rel (cWage C a h ng f v) (mWage M h ng f v) np nl nh nw ns (ng + 1) dy tt R Q := by
  obtain ⟨⟨hX, ⟨n1, m1⟩, ⟨n2, m2⟩, ⟨n3, m3⟩, n4, m4⟩, hP, hH, hL, hR, hK, hQ, hT, hS, hG, hW, hF, hD, h42⟩ := H
  obtain ⟨⟨s1, s2, s3, s4⟩, s5, s6⟩ := hG
  have nh9 := n3.2.1
  have I9 : ∀ k, k ≠ 12 → cI (cWage C a h ng f v) 9 k 0 = cI C 9 k 0 := fun k hk => cWage_I s3 9 k 0 (Or.inl (by decide)) (fun q => hk q.2)
  have It : ∀ t k i, t ≠ 7 → t ≠ 9 → cI (cWage C a h ng f v) t k i = cI C t k i := fun t k i h1 h9 => cWage_I s3 t k i (Or.inl h1) (fun q => h9 q.1)
  have I7 : ∀ k i, i ≠ ng → cI (cWage C a h ng f v) 7 k i = cI C 7 k i := fun k i hi => cWage_I s3 7 k i (Or.inr hi) (fun q => absurd q.1 (by decide))
  have Lt : ∀ t k i, t ≠ 7 → t ≠ 1 → cL (cWage C a h ng f v) t k i = cL C t k i := fun t k i h1 h2 => cWage_L s3 t k i (Or.inl h1) (fun q => h2 q.1)
  have L1 : ∀ k i, k ≠ 11 → cL (cWage C a h ng f v) 1 k i = cL C 1 k i := fun k i hi => cWage_L s3 1 k i (Or.inl (by decide)) (fun q => hi q.2.1)
  have Nt : ∀ t, t ≠ 7 → cN (cWage C a h ng f v) t = cN C t := fun t ht => (cWage_N t).trans (if_neg ht)
  obtain ⟨⟨q0, q1, q2⟩, q3, q4⟩ := cWage_n (C := C) (a := a) (h := h) (ng := ng) (f := f) (v := v)
  have hM31 : ∀ g, mWage M h ng f v 31 g = if g = ng then nI h else M 31 g := fun g => by
    by_cases e : g = ng
    · subst e; simp [mWage, u2]
    · rw [if_neg e, mWage_j e (by decide)]
  refine ⟨⟨?_, ⟨n1.c (I9 7 (by decide)) (Nt 5 (by decide)) (fun j => Lt 23 j 0 (by decide) (by decide)), m1⟩, ⟨n2.c (I9 8 (by decide)) (Nt 2 (by decide)) (fun j => Lt 24 j 0 (by decide) (by decide)), m2⟩, ⟨n3.c (I9 9 (by decide)) (Nt 1 (by decide)) (fun j => Lt 25 j 0 (by decide) (by decide)), m3⟩, n4.c (I9 10 (by decide)) (Nt 8 (by decide)) (fun j => Lt 26 j 0 (by decide) (by decide)), m4⟩, hP.c (fun k p _ => It 5 k p (by decide) (by decide)) (fun g p hf _ => mWage_ot (by omega)), hH.c (fun k x _ _ => It 1 k x (by decide) (by decide)) (fun g x h1 h2 => mWage_ot (by omega)) (mWage_ot (by decide)), fun l hl => (hL l hl).c (fun k => It 2 k l (by decide) (by decide)) (fun k _ => Lt 2 k l (by decide) (by decide)) (fun g hf => mWage_ot (by omega)) (Nat.le_refl _), fun l hl => (hR l hl).c (fun p _ => Lt 5 7 p (by decide) (by decide)) (Lt 2 2 l (by decide) (by decide)) (Lt 2 3 l (by decide) (by decide)) rfl rfl (fun i _ => rfl) (fun g p _ hf => mWage_ot (by omega)) (Nat.le_refl _), hK.c (fun _ _ => rfl) (fun _ _ => rfl) (fun l _ => Lt 2 8 l (by decide) (by decide)), fun x hx => (hQ x hx).c (fun l _ => Lt 2 10 l (by decide) (by decide)) (L1 8 x (by decide)) (L1 9 x (by decide)) (It 1 7 x (by decide) (by decide)) (fun l => Iff.rfl) (fun _ _ => rfl), hT, hS.c (I9 11 (by decide)) (Nt 6 (by decide)) (fun k e _ => It 6 k e (by decide) (by decide)) (fun e _ => Lt 6 2 e (by decide) (by decide)) (fun x _ => L1 10 x (by decide)) (mWage_ot (by decide)) (fun g e hg _ => mWage_ot (by omega)), ⟨⟨cWage_c s3, by omega, ?_, ?_⟩, fun g hg => ?_, fun x hx => ?_⟩, hW.c (fun k _ => It 8 3 k (by decide) (by decide)) (fun i k _ => Lt 8 i k (by decide) (by decide)) (fun _ _ => rfl) (fun _ _ => rfl) (fun p _ _ => ⟨rfl, rfl, rfl⟩) (Nat.le_refl _), fun i hi => ?_, ⟨(I9 13 (by decide)).trans hD.1, hD.2⟩, h42⟩
  · exact FX_wL (FX_wL (FX_wI (FX_wI (FX_wI (FX_wN (FX_wI hX _ _ _ _) 7 a (by decide)) _ _ _ _) _ _ _ _) _ _ _ _) _ _ _ _ (by decide)) _ _ _ _ (by decide)
  · rw [cWage_N, if_pos rfl, s3]
  · simp [mWage, u2]
  · by_cases e : g = ng
    · subst e
      have e34 : mWage M h g f v 34 g = M 25 0 := by simp [mWage, u2]
      have e32 : mWage M h g f v 32 g = f := by simp [mWage, u2]
      have e33 : mWage M h g f v 33 g = v := by simp [mWage, u2]
      rw [q0, q1, q2, e34, e32, e33, hM31, if_pos rfl, hD.1, hD.2.2]
      exact ⟨rfl, rfl, rfl, h, hh, rfl⟩
    · rw [I7 0 g e, I7 1 g e, I7 2 g e, mWage_j (g := 34) e (by decide), mWage_j (g := 32) e (by decide), mWage_j (g := 33) e (by decide), mWage_j (g := 31) e (by decide)]
      exact s5 g (by omega)
  · have tl : dsc (fun g => decide (mWage M h ng f v 31 g = nI x)) ng = dsc (fun g => decide (M 31 g = nI x)) ng := dsc_cong (fun i hi => by rw [hM31, if_neg (by omega)])
    have ol : chL (cL (cWage C a h ng f v) 7 3) (cL C 1 11 x) (dsc (fun g => decide (M 31 g = nI x)) ng) := chL_cong (fun y hy => (cWage_L s3 7 3 y (Or.inr (by have := (dsc_mem hy).1; omega)) (fun q => absurd q.1 (by decide))).symm) (s6 x hx)
    by_cases e : x = h
    · subst e
      rw [dsc, if_pos (by rw [hM31, if_pos rfl]; exact decide_eq_true rfl), tl, q4]
      exact ⟨rfl, by rw [q3]; exact ol⟩
    · rw [dsc, if_neg (by rw [hM31, if_pos rfl]; intro z; have := (nI_eq (by omega) (by omega)).mp (of_decide_eq_true z); omega), tl, cWage_L s3 1 11 x (Or.inl (by decide)) (fun q => e q.2.2)]
      exact ol
  · rw [It 0 0 i (by decide) (by decide), It 0 1 i (by decide) (by decide)]
    exact hF i hi
section SD
variable {C : Cs} {a j h ns : Nat}
theorem cSend_I (hc : cN C 6 = ns) (t k i : Nat) (h6 : t ≠ 6 ∨ i ≠ ns) (h9 : ¬ (t = 9 ∧ k = 11)) (h2 : t ≠ 2 ∨ i ≠ j ∨ (k ≠ 5 ∧ k ≠ 7)) : cI (cSend C a j h ns) t k i = cI C t k i := by
  rw [cSend, cI_wI, if_neg (fun z => by omega), cI_wI, if_neg (fun z => by omega), cI_wL, cI_wL, cSI, cI_wL, cI_wI, if_neg (fun z => by omega), cI_wI, if_neg (fun z => by omega), cI_wN]
  rw [if_neg (fun z => by have : i = cN C 6 := z.2; omega), cI_wI, if_neg (fun z => h9 ⟨z.1, z.2.1⟩)]
theorem cSend_L (hc : cN C 6 = ns) (t k i : Nat) (h6 : t ≠ 6 ∨ i ≠ ns) (h1 : ¬ (t = 1 ∧ k = 10 ∧ i = h)) (h2 : ¬ (t = 2 ∧ k = 6 ∧ i = j)) : cL (cSend C a j h ns) t k i = cL C t k i := by
  rw [cSend, cL_wI, cL_wI, cL_wL, if_neg h2, cL_wL, if_neg h1, cSI, cL_wL, if_neg (fun z => by omega), cL_wI, cL_wI, cL_wN]
  rw [if_neg (fun z => by have : i = cN C 6 := z.2; omega), cL_wI]
theorem cSend_N (t : Nat) : cN (cSend C a j h ns) t = if t = 6 then cN C 6 + 1 else cN C t := cN_wN (wI C 9 11 0 (nI (ns + 1))) 6 a t
theorem cSend_n : (cI (cSend C a j h ns) 6 0 ns = cI C 9 13 0 ∧ cI (cSend C a j h ns) 6 1 ns = cI C 2 4 j) ∧ cL (cSend C a j h ns) 6 2 ns = cL C 1 10 h ∧ cL (cSend C a j h ns) 1 10 h = ns + 1 ∧ cL (cSend C a j h ns) 2 6 j = h + 1 ∧ cI (cSend C a j h ns) 2 5 j = 1 ∧ cI (cSend C a j h ns) 2 7 j = cI C 1 4 h := by
  simp [cSend, cSI, cI_wI, cI_wL, cL_wL, cL_wI]
theorem cSend_c : cI (cSend C a j h ns) 9 11 0 = nI (ns + 1) := by
  simp [cSend, cSI, cI_wI, cI_wL, cI_wN]
end SD
theorem mSend_ot {M : Ms} {l h ns f i : Nat} (hf : f ≠ 10 ∧ f ≠ 11 ∧ f ≠ 12 ∧ f ≠ 27 ∧ f ≠ 28 ∧ f ≠ 29 ∧ f ≠ 30 ∧ f ≠ 41) : mSend M l h ns f i = M f i := by
  obtain ⟨a, b, c, d, e, k, m, n⟩ := hf
  unfold mSend
  rw [u2_ne m, u2_ne k, u2_ne e, u2_ne d, u2_ne c, u2_ne b, u2_ne a, m41_ot n]
theorem mSend_j {M : Ms} {l h ns f i : Nat} (hi : i ≠ l) (hf : f ≠ 27 ∧ f ≠ 28 ∧ f ≠ 29 ∧ f ≠ 30 ∧ f ≠ 41) : mSend M l h ns f i = M f i := by
  obtain ⟨d, e, k, m, n⟩ := hf
  unfold mSend
  rw [u2_ne m, u2_ne k, u2_ne e, u2_ne d, u2_j hi, u2_j hi, u2_j hi, m41_ot n]
theorem mSend_s {M : Ms} {l h ns f i : Nat} (hi : i ≠ ns) (hf : f ≠ 10 ∧ f ≠ 11 ∧ f ≠ 12 ∧ f ≠ 30 ∧ f ≠ 41) : mSend M l h ns f i = M f i := by
  obtain ⟨a, b, c, m, n⟩ := hf
  unfold mSend
  rw [u2_ne m, u2_j hi, u2_j hi, u2_j hi, u2_ne c, u2_ne b, u2_ne a, m41_ot n]
theorem Rel_send {C : Cs} {M : Ms} {np nl nh nw ns ng dy tt : Nat} {R Q : Nat → List Nat} (a : Nat) {j h : Nat} (hj : j < nl) (hh : h < nh) (j0 : M 10 j = 0) (hns : ns < 500) (H : Rel C M np nl nh nw ns ng dy tt R Q) : Rel (cSend C a j h ns) (mSend M j h ns) np nl nh nw (ns + 1) ng dy tt R Q := by
  obtain ⟨⟨hX, ⟨n1, m1⟩, ⟨n2, m2⟩, ⟨n3, m3⟩, n4, m4⟩, hP, hH, hL, hR, hK, hQ, hT, hS, hG, hW, hF, hD, h42⟩ := H
  obtain ⟨⟨s1, s2, s3, s4⟩, s5, s6⟩ := hS
  have nh9 := n3.2.1
  have I9 : ∀ k, k ≠ 11 → cI (cSend C a j h ns) 9 k 0 = cI C 9 k 0 := fun k hk => cSend_I s3 9 k 0 (Or.inl (by decide)) (fun q => hk q.2) (Or.inl (by decide))
  have It : ∀ t k i, t ≠ 6 → t ≠ 9 → t ≠ 2 → cI (cSend C a j h ns) t k i = cI C t k i := fun t k i h1 h9 h2 => cSend_I s3 t k i (Or.inl h1) (fun q => h9 q.1) (Or.inl h2)
  have I2 : ∀ k i, i ≠ j ∨ (k ≠ 5 ∧ k ≠ 7) → cI (cSend C a j h ns) 2 k i = cI C 2 k i := fun k i hi => cSend_I s3 2 k i (Or.inl (by decide)) (fun q => absurd q.1 (by decide)) (Or.inr hi)
  have I6 : ∀ k i, i ≠ ns → cI (cSend C a j h ns) 6 k i = cI C 6 k i := fun k i hi => cSend_I s3 6 k i (Or.inr hi) (fun q => absurd q.1 (by decide)) (Or.inl (by decide))
  have Lt : ∀ t k i, t ≠ 6 → t ≠ 1 → t ≠ 2 → cL (cSend C a j h ns) t k i = cL C t k i := fun t k i h1 h2 h3 => cSend_L s3 t k i (Or.inl h1) (fun q => h2 q.1) (fun q => h3 q.1)
  have L1 : ∀ k i, k ≠ 10 → cL (cSend C a j h ns) 1 k i = cL C 1 k i := fun k i hi => cSend_L s3 1 k i (Or.inl (by decide)) (fun q => hi q.2.1) (fun q => absurd q.1 (by decide))
  have L2 : ∀ k i, k ≠ 6 ∨ i ≠ j → cL (cSend C a j h ns) 2 k i = cL C 2 k i := fun k i hi => cSend_L s3 2 k i (Or.inl (by decide)) (fun q => absurd q.1 (by decide)) (fun q => by omega)
  have Nt : ∀ t, t ≠ 6 → cN (cSend C a j h ns) t = cN C t := fun t ht => (cSend_N t).trans (if_neg ht)
  obtain ⟨⟨q0, q1⟩, q3, q4, q5, q6, q7⟩ := cSend_n (C := C) (a := a) (j := j) (h := h) (ns := ns)
  have M10 : mSend M j h ns 10 j = 1 := by simp [mSend, u2]
  have M11 : mSend M j h ns 11 j = nI h := by simp [mSend, u2]
  have M12 : mSend M j h ns 12 j = M 21 h := by simp [mSend, u2]
  have Mo : ∀ f l, l ≠ j → f = 7 ∨ f = 9 ∨ f = 10 ∨ f = 11 ∨ f = 12 ∨ f = 13 ∨ f = 14 ∨ f = 15 → mSend M j h ns f l = M f l := fun f l hl hf => mSend_j hl (by omega)
  have hM27 : ∀ g, mSend M j h ns 27 g = if g = ns then nI h else M 27 g := fun g => by
    by_cases e : g = ns
    · subst e; simp [mSend, u2]
    · rw [if_neg e, mSend_s e (by decide)]
  have hHh := hH.1 h hh
  refine ⟨⟨?_, ⟨n1.c (I9 7 (by decide)) (Nt 5 (by decide)) (fun j => Lt 23 j 0 (by decide) (by decide) (by decide)), m1⟩, ⟨n2.c (I9 8 (by decide)) (Nt 2 (by decide)) (fun j => Lt 24 j 0 (by decide) (by decide) (by decide)), m2⟩, ⟨n3.c (I9 9 (by decide)) (Nt 1 (by decide)) (fun j => Lt 25 j 0 (by decide) (by decide) (by decide)), m3⟩, n4.c (I9 10 (by decide)) (Nt 8 (by decide)) (fun j => Lt 26 j 0 (by decide) (by decide) (by decide)), m4⟩, hP.c (fun k p _ => It 5 k p (by decide) (by decide) (by decide)) (fun g p hf _ => mSend_ot (by omega)), hH.c (fun k x _ _ => It 1 k x (by decide) (by decide) (by decide)) (fun g x h1 h2 => mSend_ot (by omega)) (mSend_ot (by decide)), fun l hl => ?_, fun l hl => (hR l hl).c (fun p _ => Lt 5 7 p (by decide) (by decide) (by decide)) (L2 2 l (Or.inl (by decide))) (L2 3 l (Or.inl (by decide))) rfl rfl (fun i _ => rfl) (fun g p _ hf => mSend_ot (by omega)) (Nat.le_refl _), fun l hl q => ?_, fun x hx => ?_, ⟨hT.1, ?_, fun l hl q => ?_⟩, ⟨⟨cSend_c, by omega, ?_, ?_⟩, fun g hg => ?_, fun x hx => ?_⟩, hG.c (I9 12 (by decide)) (Nt 7 (by decide)) (fun k e _ => It 7 k e (by decide) (by decide) (by decide)) (fun e _ => Lt 7 3 e (by decide) (by decide) (by decide)) (fun x _ => L1 11 x (by decide)) (mSend_ot (by decide)) (fun g e hg _ => mSend_ot (by omega)), hW.c (fun k _ => It 8 3 k (by decide) (by decide) (by decide)) (fun i k _ => Lt 8 i k (by decide) (by decide) (by decide)) (fun _ _ => rfl) (fun _ _ => rfl) (fun p _ _ => ⟨rfl, rfl, rfl⟩) (Nat.le_refl _), fun i hi => ?_, ⟨(I9 13 (by decide)).trans hD.1, hD.2⟩, h42⟩
  · exact FX_wI (FX_wI (FX_wL (FX_wL (cSI_fx (FX_wN (FX_wI hX _ _ _ _) 6 a (by decide)) _ _ _ _) _ _ _ _ (by decide)) _ _ _ _ (by decide)) _ _ _ _) _ _ _ _
  · by_cases e : l = j
    · subst e
      obtain ⟨a1, ⟨a2, a3, a4⟩, a5, a6, a7, a8, a9, b1, b2⟩ := hL l hl
      have nz := b2 (by rw [j0]; decide)
      unfold RlL1
      rw [I2 0 l (Or.inr (by decide)), I2 1 l (Or.inr (by decide)), I2 4 l (Or.inr (by decide)), q6, q5, q7, I2 9 l (Or.inr (by decide)), L2 8 l (Or.inl (by decide)), L2 10 l (Or.inl (by decide)), M10, M11, M12, mSend_ot (f := 7) (by decide), mSend_ot (f := 9) (by decide)]
      refine ⟨a1, ⟨a2, a3, rfl⟩, ⟨1, by decide, rfl⟩, fun z => absurd z (by decide), fun _ => ⟨h, hh, rfl, rfl⟩, fun _ => ⟨hHh.2.1.2.2.2.1, hHh.2.2.2.2.1⟩, fun z => absurd (Or.inl rfl) z, fun z => absurd z (by decide), fun _ => nz⟩
    · exact (hL l hl).c (fun k => I2 k l (Or.inl e)) (fun k _ => L2 k l (Or.inr e)) (fun f hf => Mo f l e (by omega)) (Nat.le_refl _)
  · have e : l ≠ j := fun z => by rw [z, M10] at q; exact absurd q (by decide)
    rw [Mo 10 l e (by decide)] at q
    rw [Mo 14 l e (by decide), L2 8 l (Or.inr e)]
    exact hK l hl q
  · refine (hQ x hx).c (fun l _ => L2 10 l (Or.inl (by decide))) (L1 8 x (by decide)) (L1 9 x (by decide)) (It 1 7 x (by decide) (by decide) (by decide)) (fun l => ?_) (fun _ _ => rfl)
    by_cases e : l = j
    · rw [e, M10, j0]
      exact ⟨fun z => absurd z.2.1 (by decide), fun z => absurd z.2.1 (by decide)⟩
    · rw [Mo 10 l e (by decide), Mo 11 l e (by decide)]
  · have := cn_flip (p := fun l => decide (mSend M j h ns 10 l = 1)) (q := fun l => decide (M 10 l = 1)) (i := j) (decide_eq_true M10) (decide_eq_false (by rw [j0]; decide)) (fun l hl => by rw [Mo 10 l hl (by decide)]) hj
    have t2 := hT.2.1
    show tt + cn (fun l => decide (mSend M j h ns 10 l = 1)) nl ≤ ns + 1
    omega
  · have e : l ≠ j := fun z => by rw [z, M10] at q; exact absurd q (by decide)
    rw [Mo 10 l e (by decide)] at q
    exact hT.2.2 l hl q
  · rw [cSend_N, if_pos rfl, s3]
  · simp [mSend, u2]
  · by_cases e : g = ns
    · subst e
      have e28 : mSend M j h g 28 g = M 25 0 := by simp [mSend, u2]
      have e29 : mSend M j h g 29 g = M 9 j := by simp [mSend, u2]
      rw [q0, q1, e28, e29, hM27, if_pos rfl, hD.1, hD.2.2]
      exact ⟨rfl, (hL j hj).2.1.2.1, h, hh, rfl⟩
    · rw [I6 0 g e, I6 1 g e, mSend_s (f := 28) e (by decide), mSend_s (f := 29) e (by decide), mSend_s (f := 27) e (by decide)]
      exact s5 g (by omega)
  · have tl : dsc (fun g => decide (mSend M j h ns 27 g = nI x)) ns = dsc (fun g => decide (M 27 g = nI x)) ns := dsc_cong (fun i hi => by rw [hM27, if_neg (by omega)])
    have ol : chL (cL (cSend C a j h ns) 6 2) (cL C 1 10 x) (dsc (fun g => decide (M 27 g = nI x)) ns) := chL_cong (fun y hy => (cSend_L s3 6 2 y (Or.inr (by have := (dsc_mem hy).1; omega)) (fun q => absurd q.1 (by decide)) (fun q => absurd q.1 (by decide))).symm) (s6 x hx)
    by_cases e : x = h
    · subst e
      rw [dsc, if_pos (by rw [hM27, if_pos rfl]; exact decide_eq_true rfl), tl, q4]
      exact ⟨rfl, by rw [q3]; exact ol⟩
    · rw [dsc, if_neg (by rw [hM27, if_pos rfl]; intro z; have := (nI_eq (by omega) (by omega)).mp (of_decide_eq_true z); omega), tl, cSend_L s3 1 10 x (Or.inl (by decide)) (fun q => e q.2.2) (fun q => absurd q.1 (by decide))]
      exact ol
  · rw [It 0 0 i (by decide) (by decide) (by decide), It 0 1 i (by decide) (by decide) (by decide)]
    exact hF i hi
