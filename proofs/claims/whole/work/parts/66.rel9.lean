/-! THE TWO: raw; lots on their ways -/
theorem mRawP_s (M : Ms) (l np : Nat) (k f st : Int32) (i : Nat) : mRawP M l np k f st (i + 1) = mRw1 (mRawP M l np k f st i) l i (np + i) k (f + nI i * st) := rfl
theorem mRawP_ot (M : Ms) (l np : Nat) (k f st : Int32) (g j : Nat) (h : 7 ≤ g ∧ g ≠ 8 ∧ g ≠ 9) : ∀ i, mRawP M l np k f st i g j = M g j
  | 0 => rfl
  | i + 1 => by rw [mRawP_s, mRw1_ot h, mRawP_ot M l np k f st g j h i]
theorem Rel_rwQ {M : Ms} {np nl nh nw ns ng dy tt : Nat} {Q : Nat → List Nat} {lo : Nat} {k f st : Int32} (hlo : lo < nl) (l0 : M 10 lo = 0) (h7 : M 7 lo = k) (hk : ∃ kk, kk < 3 ∧ k = nI kk) : ∀ (ads : List Nat) (i : Nat) (D : Cs) (R : Nat → List Nat), (R lo).length = i → np + i + ads.length ≤ 300 → Rel D (mRawP M lo np k f st i) (np + i) nl nh nw ns ng dy tt R Q → ∃ R', Rel (cRwQ lo np k f st ads i D) (mRawP M lo np k f st (i + ads.length)) (np + i + ads.length) nl nh nw ns ng dy tt R' Q
  | [], i, D, R, _, _, H => ⟨R, H⟩
  | a :: t, i, D, R, hR, hn, H => by
    rw [List.length_cons] at hn
    have h1 := Rel_rw1 a (s := f + nI i * st) hlo ((mRawP_ot M lo np k f st 10 lo (by decide) i).trans l0) ((mRawP_ot M lo np k f st 7 lo (by decide) i).trans h7) hk (by omega) H
    rw [hR, ← mRawP_s] at h1
    obtain ⟨R', h2⟩ := Rel_rwQ hlo l0 h7 hk t (i + 1) _ _ (by rw [if_pos rfl, List.length_append, hR]; rfl) (by omega) h1
    refine ⟨R', ?_⟩
    rw [cRwQ, List.length_cons, show i + (t.length + 1) = i + 1 + t.length by omega, show np + i + (t.length + 1) = np + (i + 1) + t.length by omega]
    exact h2
theorem Rel_raw {C : Cs} {M : Ms} {np nl nh nw ns ng dy tt : Nat} {R Q : Nat → List Nat} (a : Nat) (ads : List Nat) {k n f st : Int32} {n' : Nat} (hok : okRaw k n f st np nl n') (ha : ads.length = n') (H : Rel C M np nl nh nw ns ng dy tt R Q) : ∃ R', Rel (cRwQ nl np k f st ads 0 (cNL C a nl k)) (mRaw M k f st np nl n') (np + n') (nl + 1) nh nw ns ng dy tt R' Q := by
  obtain ⟨⟨k1, k2⟩, ⟨h1, h2, h3⟩, h4, h5, h6⟩ := hok
  have hk : ∃ kk, kk < 3 ∧ k = nI kk := by
    obtain ⟨kk, hkk, e⟩ := nlt0 (le_nlt k1)
    rw [e] at k2
    have := ge_n (a := 2) (b := kk) (by decide) hkk k2
    exact ⟨kk, by omega, e⟩
  have g1 := Rel_nl a k h4 (Rel_41 0 H)
  have e1 : mNewLot (m41 M) nl k 10 nl = 0 := by simp [mNewLot, u2]
  have e2 : mNewLot (m41 M) nl k 7 nl = k := by simp [mNewLot, u2]
  obtain ⟨R', g2⟩ := Rel_rwQ (np := np) (f := f) (st := st) (show nl < nl + 1 by omega) e1 e2 hk ads 0 (cNL C a nl k) _ (by rw [if_pos rfl]; rfl) (by omega) g1
  refine ⟨R', ?_⟩
  rw [Nat.zero_add, Nat.add_zero, ha] at g2
  exact g2
/-- a lot on its way goes on by a day -/
theorem Rel_dec {C : Cs} {M : Ms} {np nl nh nw ns ng dy tt : Nat} {R Q : Nat → List Nat} {l : Nat} (hl : l < nl) (h13 : M 10 l = 1 ∨ M 10 l = 3) (h0 : 0 < M 12 l) (H : Rel C M np nl nh nw ns ng dy tt R Q) : Rel (wI C 2 7 l (cI C 2 7 l - 1)) (u2 M 12 l (M 12 l - 1)) np nl nh nw ns ng dy tt R Q := by
  obtain ⟨hN, hP, hH, hL, hR, hK, hQ, hT, hS, hG, hW, hF, hD, h42⟩ := H
  have eI : ∀ t k i, ¬ (t = 2 ∧ k = 7 ∧ i = l) → cI (wI C 2 7 l (cI C 2 7 l - 1)) t k i = cI C t k i := fun t k i h => by rw [cI_wI, if_neg h]
  have eM : ∀ f i, f ≠ 12 → u2 M 12 l (M 12 l - 1) f i = M f i := fun f i hf => u2_ne hf
  refine ⟨hN, hP, hH.c (fun k h _ _ => eI 1 k h (fun z => absurd z.1 (by decide))) (fun f x h1 h2 => eM f x (by omega)) rfl, fun j hj => ?_, hR, hK, hQ, hT, hS, hG, hW, hF, hD, h42⟩
  by_cases e : j = l
  · subst e
    obtain ⟨q1, q2, q3, q4, q5, q6, q7, q8, q9⟩ := hL j hj
    have e12 : u2 M 12 j (M 12 j - 1) 12 j = M 12 j - 1 := by simp [u2]
    unfold RlL1
    rw [eI 2 0 j (fun z => absurd z.2.1 (by decide)), eI 2 1 j (fun z => absurd z.2.1 (by decide)), eI 2 4 j (fun z => absurd z.2.1 (by decide)), eI 2 5 j (fun z => absurd z.2.1 (by decide)), eI 2 9 j (fun z => absurd z.2.1 (by decide)), cI_wI, if_pos ⟨rfl, rfl, rfl⟩, cL_wI, cL_wI, cL_wI, eM 7 j (by decide), eM 9 j (by decide), eM 10 j (by decide), eM 11 j (by decide), eM 13 j (by decide), e12]
    refine ⟨q1, q2, q3, q4, q5, fun z => ?_, fun z => absurd h13 z, q8, q9⟩
    rw [(q6 z).1]
    refine ⟨rfl, ?_⟩
    rw [i_le, Int32.toInt_sub]
    rw [i_lt] at h0
    have e0 : (0 : Int32).toInt = 0 := by decide
    have e1 : (1 : Int32).toInt = 1 := by decide
    have rg := i_rng (M 12 j)
    rw [e0] at h0 ⊢
    rw [e1, Int.bmod_eq_of_le (by omega) (by omega)]
    omega
  · exact (hL j hj).c (fun k => eI 2 k j (fun z => e z.2.2)) (fun _ _ => rfl) (fun f hf => u2_j e) (Nat.le_refl _)
/-- a lot is home again -/
theorem Rel_ret {C : Cs} {M : Ms} {np nl nh nw ns ng dy tt : Nat} {R Q : Nat → List Nat} {l : Nat} (hl : l < nl) (h3 : M 10 l = 3) (h0 : ¬ 0 < M 12 l) (H : Rel C M np nl nh nw ns ng dy tt R Q) : Rel (wL (wI C 2 5 l 0) 2 6 l 0) (u2 M 10 l 0) np nl nh nw ns ng dy tt R Q := by
  obtain ⟨hN, hP, hH, hL, hR, hK, hQ, hT, hS, hG, hW, hF, hD, h42⟩ := H
  obtain ⟨hX, ⟨n1, m1⟩, ⟨n2, m2⟩, ⟨n3, m3⟩, n4, m4⟩ := hN
  have eI : ∀ t k i, ¬ (t = 2 ∧ k = 5 ∧ i = l) → cI (wL (wI C 2 5 l 0) 2 6 l 0) t k i = cI C t k i := fun t k i h => by rw [cI_wL, cI_wI, if_neg h]
  have eL : ∀ t k i, ¬ (t = 2 ∧ k = 6 ∧ i = l) → cL (wL (wI C 2 5 l 0) 2 6 l 0) t k i = cL C t k i := fun t k i h => by rw [cL_wL, if_neg h, cL_wI]
  have eM : ∀ f i, f ≠ 10 → u2 M 10 l 0 f i = M f i := fun f i hf => u2_ne hf
  have e10 : u2 M 10 l 0 10 l = 0 := by simp [u2]
  have lt : ∀ t k i, t ≠ 2 → cL (wL (wI C 2 5 l 0) 2 6 l 0) t k i = cL C t k i := fun t k i h => eL t k i (fun z => h z.1)
  have it : ∀ t k i, t ≠ 2 → cI (wL (wI C 2 5 l 0) 2 6 l 0) t k i = cI C t k i := fun t k i h => eI t k i (fun z => h z.1)
  have nw2 : ∀ j, u2 M 10 l 0 10 j = 2 → j ≠ l := fun j q z => by rw [z, e10] at q; exact absurd q (by decide)
  refine ⟨⟨FX_wL (FX_wI hX _ _ _ _) _ _ _ _ (by decide), ⟨n1.c (it 9 7 0 (by decide)) rfl (fun j => lt 23 j 0 (by decide)), m1⟩, ⟨n2.c (it 9 8 0 (by decide)) rfl (fun j => lt 24 j 0 (by decide)), m2⟩, ⟨n3.c (it 9 9 0 (by decide)) rfl (fun j => lt 25 j 0 (by decide)), m3⟩, n4.c (it 9 10 0 (by decide)) rfl (fun j => lt 26 j 0 (by decide)), m4⟩, hP.c (fun k p _ => it 5 k p (by decide)) (fun f p hf _ => eM f p (by omega)), hH.c (fun k h _ _ => it 1 k h (by decide)) (fun f x h1 h2 => eM f x (by omega)) rfl, fun j hj => ?_, fun j hj => (hR j hj).c (fun p _ => lt 5 7 p (by decide)) (eL 2 2 j (fun z => absurd z.2.1 (by decide))) (eL 2 3 j (fun z => absurd z.2.1 (by decide))) rfl rfl (fun _ _ => rfl) (fun f p _ hf => eM f p (by omega)) (Nat.le_refl _), fun j hj q => ?_, fun x hx => (hQ x hx).c (fun j _ => eL 2 10 j (fun z => absurd z.2.1 (by decide))) (lt 1 8 x (by decide)) (lt 1 9 x (by decide)) (it 1 7 x (by decide)) (fun j => ?_) (fun _ _ => rfl), ⟨hT.1, ?_, fun j hj q => ?_⟩, hS.c (it 9 11 0 (by decide)) rfl (fun k e _ => it 6 k e (by decide)) (fun e _ => lt 6 2 e (by decide)) (fun x _ => lt 1 10 x (by decide)) (eM 30 0 (by decide)) (fun f e hf _ => eM f e (by omega)), hG.c (it 9 12 0 (by decide)) rfl (fun k e _ => it 7 k e (by decide)) (fun e _ => lt 7 3 e (by decide)) (fun x _ => lt 1 11 x (by decide)) (eM 35 0 (by decide)) (fun f e hf _ => eM f e (by omega)), hW.c (fun x _ => it 8 3 x (by decide)) (fun i x _ => lt 8 i x (by decide)) (fun _ _ => rfl) (fun _ _ => rfl) (fun _ _ _ => ⟨rfl, rfl, rfl⟩) (Nat.le_refl _), hF, hD, h42⟩
  · by_cases e : j = l
    · subst e
      obtain ⟨q1, ⟨q2, q2b, q2c⟩, q3, q4, q5, q6, q7, q8, q9⟩ := hL j hj
      have z9 := q9 (by rw [h3]; decide)
      have z6 := q6 (Or.inr h3)
      have t0 : cI C 2 7 j = 0 := by
        rw [z6.1]
        have a1 := z6.2
        have a2 := nlt_le h0
        rw [i_le] at a1 a2
        exact (i_eq _ _).mpr (by omega)
      unfold RlL1
      rw [eI 2 0 j (fun z => absurd z.2.1 (by decide)), eI 2 1 j (fun z => absurd z.2.1 (by decide)), eI 2 4 j (fun z => absurd z.2.1 (by decide)), eI 2 7 j (fun z => absurd z.2.1 (by decide)), eI 2 9 j (fun z => absurd z.2.1 (by decide)), eL 2 8 j (fun z => absurd z.2.1 (by decide)), eL 2 10 j (fun z => absurd z.2.1 (by decide)), cI_wL, cI_wI, if_pos ⟨rfl, rfl, rfl⟩, cL_wL, if_pos ⟨rfl, rfl, rfl⟩, e10, eM 7 j (by decide), eM 9 j (by decide)]
      exact ⟨q1, ⟨q2, q2b, rfl⟩, ⟨0, by decide, rfl⟩, fun _ => rfl, fun z => absurd rfl z, fun z => absurd z (by decide), fun _ => t0, fun z => absurd z (by decide), fun _ => z9⟩
    · exact (hL j hj).c (fun k => eI 2 k j (fun z => e z.2.2)) (fun k _ => eL 2 k j (fun z => e z.2.2)) (fun f hf => u2_j e) (Nat.le_refl _)
  · have e := nw2 j q
    rw [u2_j e] at q
    rw [eL 2 8 j (fun z => absurd z.2.1 (by decide))]
    exact hK j hj q
  · constructor
    · intro z
      have e := nw2 j z.2.1
      rw [u2_j e] at z
      exact z
    · intro z
      have e : j ≠ l := fun w => by rw [w, h3] at z; exact absurd z.2.1 (by decide)
      rw [u2_j e]
      exact z
  · rw [cn_cong (q := fun l => decide (M 10 l = 1)) (fun i _ => ?_)]
    · exact hT.2.1
    · by_cases e : i = l
      · rw [e, e10, h3]; decide
      · rw [u2_j e]
  · have e := nw2 j q
    rw [u2_j e] at q
    exact hT.2.2 j hj q
