/-! THE TWO: a lot comes to a home -/
theorem cRec_I (C : Cs) (h l t k i : Nat) (hh : ¬ (t = 1 ∧ k = 7 ∧ i = h)) : cI (cRec C h l) t k i = cI C t k i := by
  unfold cRec
  rw [cI_wI, if_neg hh, cI_wL]
  split <;> rw [cI_wL]
theorem cRec_17 (C : Cs) (h l : Nat) : cI (cRec C h l) 1 7 h = cI C 1 7 h + 1 := by
  unfold cRec
  rw [cI_wI, if_pos ⟨rfl, rfl, rfl⟩]
theorem cRec_L (C : Cs) (h l t k i : Nat) (h1 : ¬ (t = 1 ∧ (k = 8 ∨ k = 9) ∧ i = h)) (h2 : ¬ (t = 2 ∧ k = 10)) : cL (cRec C h l) t k i = cL C t k i := by
  unfold cRec
  rw [cL_wI, cL_wL, if_neg (fun z => h1 ⟨z.1, Or.inr z.2.1, z.2.2⟩)]
  split
  · rw [cL_wL, if_neg (fun z => h1 ⟨z.1, Or.inl z.2.1, z.2.2⟩)]
  · rw [cL_wL, if_neg (fun z => h2 ⟨z.1, z.2.1⟩)]
theorem cRec_210 {C : Cs} {h l x : Nat} (hx : cL C 1 9 h ≠ x + 1) : cL (cRec C h l) 2 10 x = cL C 2 10 x := by
  unfold cRec
  rw [cL_wI, cL_wL, if_neg (fun z => absurd z.1 (by decide))]
  split
  · rw [cL_wL, if_neg (fun z => absurd z.1 (by decide))]
  · rename_i q e
    rw [cL_wL, if_neg (fun z => hx (by rw [e, z.2.2]))]
def QuC (C : Cs) (h : Nat) (L : List Nat) : Prop := chL (cL C 2 10) (cL C 1 8 h) L ∧ cL C 1 9 h = lsC L
theorem QuC_rec {C : Cs} {h l : Nat} {L : List Nat} (g : QuC C h L) (hn : L.Nodup) (hl : l ∉ L) (h0 : cL C 2 10 l = 0) : QuC (cRec C h l) h (L ++ [l]) := by
  obtain ⟨h1, h2⟩ := g
  unfold cRec
  cases e : cL C 1 9 h with
  | zero =>
    have hL : L = [] := lsC_0 (by rw [← h2, e])
    subst hL
    refine ⟨⟨?_, ?_⟩, ?_⟩
    · simp [cL_wI, cL_wL]
    · simp [cL_wI, cL_wL, h0]
      rfl
    · simp [cL_wI, cL_wL, lsC]
  | succ q =>
    have hq : lsC L = q + 1 := by rw [← h2, e]
    refine ⟨?_, ?_⟩
    · have hc := chL_app (p := l) hq hn hl h1
      have e3 : cL (wI (wL (wL C 2 10 q (l + 1)) 1 9 h (l + 1)) 1 7 h (cI C 1 7 h + 1)) 1 8 h = cL C 1 8 h := by simp [cL_wI, cL_wL]
      rw [e3]
      refine chL_cong (fun x _ => ?_) hc
      simp only [cL_wI, cL_wL, nU]
      by_cases ex : x = q
      · simp [ex]
      · by_cases ex2 : x = l
        · simp [ex2, h0]
        · simp [ex, ex2]
    · simp [cL_wI, cL_wL, lsC_snoc]
theorem QuC_reco {C : Cs} {h l x : Nat} {L T : List Nat} (g : QuC C h L) (f : QuC C x T) (hx : x ≠ h) (hd : ∀ y, y ∈ L → y ∉ T) : QuC (cRec C h l) x T := by
  refine ⟨?_, by rw [cRec_L _ _ _ _ _ _ (fun z => hx z.2.2) (fun z => absurd z.1 (by decide))]; exact f.2⟩
  rw [cRec_L _ _ _ _ _ _ (fun z => hx z.2.2) (fun z => absurd z.1 (by decide))]
  refine chL_cong (fun y hy => (cRec_210 (fun z => ?_)).symm) f.1
  rw [g.2] at z
  exact hd y (lsC_m z) hy
def mArr (M : Ms) (l : Nat) : Ms := u2 (u2 (u2 (u2 (u2 M 10 l 2) 13 l 0) 14 l 0) 15 l (M 17 0)) 17 0 (M 17 0 + 1)
theorem mArr_ot {M : Ms} {l f i : Nat} (h : f ≠ 10 ∧ f ≠ 13 ∧ f ≠ 14 ∧ f ≠ 15 ∧ f ≠ 17) : mArr M l f i = M f i := by
  unfold mArr
  rw [u2_ne h.2.2.2.2, u2_ne h.2.2.2.1, u2_ne h.2.2.1, u2_ne h.2.1, u2_ne h.1]
theorem mArr_j {M : Ms} {l f i : Nat} (hi : i ≠ l) (h : f ≠ 17) : mArr M l f i = M f i := by
  unfold mArr
  rw [u2_ne h, u2_j hi, u2_j hi, u2_j hi, u2_j hi]
theorem Rel_arr {C : Cs} {M : Ms} {np nl nh nw ns ng dy tt : Nat} {R Q : Nat → List Nat} {l h : Nat} (hl : l < nl) (h1 : M 10 l = 1) (hh : h < nh) (h11 : M 11 l = nI h) (h0 : ¬ 0 < M 12 l) (H : Rel C M np nl nh nw ns ng dy tt R Q) : Rel (cRec (wI C 2 5 l 2) h l) (mArr M l) np nl nh nw ns ng dy (tt + 1) R (fun x => if x = h then Q h ++ [l] else Q x) := by
  obtain ⟨hN, hP, hH, hL, hR, hK, hQ, hT, hS, hG, hW, hF, hD, h42⟩ := H
  obtain ⟨hX, ⟨n1, m1⟩, ⟨n2, m2⟩, ⟨n3, m3⟩, n4, m4⟩ := hN
  have nh9 := n3.2.1
  have hKp : Kp C (cRec (wI C 2 5 l 2) h l) := ((Kp.rf C).wi 2 5 l 2 (by decide)).tr (cRec_Kp _ _ _)
  have eI : ∀ t k i, ¬ (t = 2 ∧ k = 5 ∧ i = l) → ¬ (t = 1 ∧ k = 7 ∧ i = h) → cI (cRec (wI C 2 5 l 2) h l) t k i = cI C t k i := fun t k i a b => by rw [cRec_I _ _ _ _ _ _ b, cI_wI, if_neg a]
  have it : ∀ t k i, t ≠ 2 → t ≠ 1 → cI (cRec (wI C 2 5 l 2) h l) t k i = cI C t k i := fun t k i a b => eI t k i (fun z => a z.1) (fun z => b z.1)
  have i2 : ∀ k i, ¬ (k = 5 ∧ i = l) → cI (cRec (wI C 2 5 l 2) h l) 2 k i = cI C 2 k i := fun k i a => eI 2 k i (fun z => a z.2) (fun z => absurd z.1 (by decide))
  have i1 : ∀ k i, ¬ (k = 7 ∧ i = h) → cI (cRec (wI C 2 5 l 2) h l) 1 k i = cI C 1 k i := fun k i a => eI 1 k i (fun z => absurd z.1 (by decide)) (fun z => a z.2)
  have eL : ∀ t k i, ¬ (t = 1 ∧ (k = 8 ∨ k = 9) ∧ i = h) → ¬ (t = 2 ∧ k = 10) → cL (cRec (wI C 2 5 l 2) h l) t k i = cL C t k i := fun t k i a b => by rw [cRec_L _ _ _ _ _ _ a b, cL_wI]
  have lt : ∀ t k i, t ≠ 2 → t ≠ 1 → cL (cRec (wI C 2 5 l 2) h l) t k i = cL C t k i := fun t k i a b => eL t k i (fun z => b z.1) (fun z => a z.1)
  have l2 : ∀ k i, k ≠ 10 → cL (cRec (wI C 2 5 l 2) h l) 2 k i = cL C 2 k i := fun k i a => eL 2 k i (fun z => absurd z.1 (by decide)) (fun z => a z.2)
  have l1 : ∀ k i, k ≠ 8 → k ≠ 9 → cL (cRec (wI C 2 5 l 2) h l) 1 k i = cL C 1 k i := fun k i a b => eL 1 k i (fun z => z.2.1.elim a b) (fun z => absurd z.1 (by decide))
  have qu : ∀ x, x < nh → QuC (wI C 2 5 l 2) x (Q x) := fun x hx => ⟨(hQ x hx).1.1, (hQ x hx).1.2.1⟩
  have lnot : ∀ x, x < nh → l ∉ Q x := fun x hx z => by have := ((hQ x hx).2.2.1 l).mp z; rw [h1] at this; exact absurd this.2.1 (by decide)
  obtain ⟨p1, ⟨p2, p2b, p2c⟩, p3, p4, p5, p6, p7, p8, p9⟩ := hL l hl
  have z9 := p9 (by rw [h1]; decide)
  have z6 := p6 (Or.inl h1)
  have t0 : cI C 2 7 l = 0 := by
    rw [z6.1]
    have a1 := z6.2
    have a2 := nlt_le h0
    rw [i_le] at a1 a2
    exact (i_eq _ _).mpr (by omega)
  have a10 : mArr M l 10 l = 2 := by simp [mArr, u2]
  have a13 : mArr M l 13 l = 0 := by simp [mArr, u2]
  have a14 : mArr M l 14 l = 0 := by simp [mArr, u2]
  have a15 : mArr M l 15 l = M 17 0 := by simp [mArr, u2]
  have a17 : mArr M l 17 0 = M 17 0 + 1 := by simp [mArr, u2]
  have dq : ∀ x, x < nh → x ≠ h → ∀ y, y ∈ Q h → y ∉ Q x := fun x hx e y hy z => by
    have b1 := ((hQ h hh).2.2.1 y).mp hy
    have b2 := ((hQ x hx).2.2.1 y).mp z
    exact e ((nI_eq (by omega) (by omega)).mp (b2.2.2.symm.trans b1.2.2))
  have hcn := cn_flip (p := fun j => decide (M 10 j = 1)) (q := fun j => decide (mArr M l 10 j = 1)) (i := l) (decide_eq_true h1) (decide_eq_false (by rw [a10]; decide)) (fun j hj => by rw [mArr_j hj (by decide)]) hl
  have tns : tt + 1 ≤ ns := by have := hT.2.1; omega
  have ns5 := hS.1.2.1
  refine ⟨⟨hKp.fx hX, ⟨hKp.nb (by decide) n1, m1⟩, ⟨hKp.nb (by decide) n2, m2⟩, ⟨hKp.nb (by decide) n3, m3⟩, hKp.nb (by decide) n4, m4⟩, hP.c (fun k p _ => it 5 k p (by decide) (by decide)) (fun f p hf _ => mArr_ot (by omega)), hH.c (fun k x hk _ => i1 k x (by omega)) (fun f x a b => mArr_ot (by omega)) (mArr_ot (by decide)), fun j hj => ?_, fun j hj => (hR j hj).c (fun p _ => lt 5 7 p (by decide) (by decide)) (l2 2 j (by decide)) (l2 3 j (by decide)) (mArr_ot (by decide)) (mArr_ot (by decide)) (fun _ _ => mArr_ot (by decide)) (fun f p _ hf => mArr_ot (by omega)) (Nat.le_refl _), fun j hj q => ?_, fun x hx => ?_, ⟨?_, ?_, fun j hj q => ?_⟩, hS.c (it 9 11 0 (by decide) (by decide)) (by rw [hKp.1.2.1]) (fun k e _ => it 6 k e (by decide) (by decide)) (fun e _ => lt 6 2 e (by decide) (by decide)) (fun x _ => l1 10 x (by decide) (by decide)) (mArr_ot (by decide)) (fun f e hf _ => mArr_ot (by omega)), hG.c (it 9 12 0 (by decide) (by decide)) (by rw [hKp.1.2.1]) (fun k e _ => it 7 k e (by decide) (by decide)) (fun e _ => lt 7 3 e (by decide) (by decide)) (fun x _ => l1 11 x (by decide) (by decide)) (mArr_ot (by decide)) (fun f e hf _ => mArr_ot (by omega)), hW.c (fun x _ => it 8 3 x (by decide) (by decide)) (fun i x _ => lt 8 i x (by decide) (by decide)) (fun _ _ => mArr_ot (by decide)) (fun _ _ => mArr_ot (by decide)) (fun _ _ _ => ⟨mArr_ot (by decide), mArr_ot (by decide), mArr_ot (by decide)⟩) (Nat.le_refl _), fun i hi => ?_, ⟨(it 9 13 0 (by decide) (by decide)).trans hD.1, hD.2.1, (mArr_ot (by decide)).trans hD.2.2⟩, fun i hi => ?_⟩
  · by_cases e : j = l
    · subst e
      obtain ⟨x, hx, x1, x2⟩ := p5 (by rw [h1]; decide)
      have c25 : cI (cRec (wI C 2 5 j 2) h j) 2 5 j = 2 := by rw [cRec_I _ _ _ _ _ _ (fun z => absurd z.1 (by decide)), cI_wI, if_pos ⟨rfl, rfl, rfl⟩]
      unfold RlL1
      rw [i2 0 j (fun z => absurd z.1 (by decide)), i2 1 j (fun z => absurd z.1 (by decide)), i2 4 j (fun z => absurd z.1 (by decide)), c25, i2 7 j (fun z => absurd z.1 (by decide)), i2 9 j (fun z => absurd z.1 (by decide)), l2 6 j (by decide), l2 8 j (by decide), a10, a13, mArr_ot (f := 7) (by decide), mArr_ot (f := 9) (by decide), mArr_ot (f := 11) (by decide)]
      exact ⟨p1, ⟨p2, p2b, rfl⟩, ⟨2, by decide, rfl⟩, fun z => absurd z (by decide), fun _ => ⟨x, hx, x1, x2⟩, fun z => absurd z (by decide), fun _ => t0, fun _ => z9.1, fun z => absurd rfl z⟩
    · have w := hL j hj
      have m10 : mArr M l 10 j = M 10 j := mArr_j e (by decide)
      unfold RlL1
      rw [i2 0 j (fun z => e z.2), i2 1 j (fun z => e z.2), i2 4 j (fun z => e z.2), i2 5 j (fun z => e z.2), i2 7 j (fun z => e z.2), i2 9 j (fun z => e z.2), l2 6 j (by decide), l2 8 j (by decide), m10, mArr_j (f := 7) e (by decide), mArr_j (f := 9) e (by decide), mArr_j (f := 11) e (by decide), mArr_j (f := 12) e (by decide), mArr_j (f := 13) e (by decide)]
      obtain ⟨b1, b2, b3, b4, b5, b6, b7, b8, b9⟩ := w
      refine ⟨b1, b2, b3, b4, b5, b6, b7, b8, fun z => ⟨(b9 z).1, (b9 z).2.1, ?_⟩⟩
      rw [cRec_210 (fun y => ?_), cL_wI]
      · exact (b9 z).2.2
      · have y : cL C 1 9 h = j + 1 := y
        rw [(hQ h hh).1.2.1] at y
        exact z (((hQ h hh).2.2.1 j).mp (lsC_m y)).2.1
  · by_cases e : j = l
    · subst e
      refine ⟨0, Nat.zero_le _, a14, ?_⟩
      rw [l2 8 j (by decide)]
      exact z9.2.1
    · rw [mArr_j e (by decide)] at q
      rw [mArr_j e (by decide), l2 8 j (by decide)]
      exact hK j hj q
  · dsimp only
    have tl : ∀ y, y ∈ Q x → y ≠ l := fun y hy z => lnot x hx (by rw [← z]; exact hy)
    by_cases e : x = h
    · subst e
      rw [if_pos rfl]
      obtain ⟨⟨g1, g2, g3⟩, g4, g5, g6⟩ := hQ x hx
      refine ⟨⟨(QuC_rec (qu x hx) g4 (lnot x hx) z9.2.2).1, (QuC_rec (qu x hx) g4 (lnot x hx) z9.2.2).2, ?_⟩, List.nodup_append.mpr ⟨g4, by simp, fun u hu v hv w => by simp at hv; rw [w, hv] at hu; exact lnot x hx hu⟩, fun j => ?_, List.pairwise_append.mpr ⟨g6.imp_of_mem (fun {u v} hu hv w => ?_), by simp, fun u hu v hv => ?_⟩⟩
      · rw [cRec_17, List.length_append]
        show cI C 1 7 x + 1 = _
        rw [g3, nI_1]
        rfl
      · rw [mArr_ot (f := 11) (by decide)]
        constructor
        · intro w
          rcases List.mem_append.mp w with w | w
          · have ne := tl j w
            rw [mArr_j ne (by decide)]
            exact (g5 j).mp w
          · simp at w
            rw [w, a10]
            exact ⟨hl, rfl, h11⟩
        · intro w
          by_cases ne : j = l
          · rw [ne]; exact List.mem_append_right _ (by simp)
          · rw [mArr_j ne (by decide)] at w
            exact List.mem_append_left _ ((g5 j).mpr w)
      · rw [mArr_j (tl u hu) (by decide), mArr_j (tl v hv) (by decide)]
        exact w
      · simp at hv
        rw [hv, a15, mArr_j (tl u hu) (by decide), hT.1]
        obtain ⟨hu1, hu2, _⟩ := (g5 u).mp hu
        obtain ⟨t, ht, et⟩ := hT.2.2 u hu1 hu2
        rw [et]
        exact (nI_ltI (by omega) (by omega)).mpr ht
    · rw [if_neg e]
      obtain ⟨⟨g1, g2, g3⟩, g4, g5, g6⟩ := hQ x hx
      have qo := QuC_reco (l := l) (qu h hh) (qu x hx) e (dq x hx e)
      refine ⟨⟨qo.1, qo.2, (i1 7 x (fun z => e z.2)).trans g3⟩, g4, fun j => ?_, g6.imp_of_mem (fun {u v} hu hv w => ?_)⟩
      · rw [mArr_ot (f := 11) (by decide)]
        constructor
        · intro w
          rw [mArr_j (tl j w) (by decide)]
          exact (g5 j).mp w
        · intro w
          by_cases ne : j = l
          · rw [ne, h11] at w
            exact absurd ((nI_eq (by omega) (by omega)).mp w.2.2).symm e
          · rw [mArr_j ne (by decide)] at w
            exact (g5 j).mpr w
      · rw [mArr_j (tl u hu) (by decide), mArr_j (tl v hv) (by decide)]
        exact w
  · rw [a17, hT.1, nI_1]
  · have := hT.2.1
    show tt + 1 + cn (fun j => decide (mArr M l 10 j = 1)) nl ≤ ns
    omega
  · by_cases e : j = l
    · exact ⟨tt, Nat.lt_succ_self _, by rw [e, a15, hT.1]⟩
    · rw [mArr_j e (by decide)] at q
      obtain ⟨t, ht, et⟩ := hT.2.2 j hj q
      exact ⟨t, by omega, by rw [mArr_j e (by decide)]; exact et⟩
  · rw [it 0 0 i (by decide) (by decide), it 0 1 i (by decide) (by decide), mArr_ot (by decide), mArr_ot (by decide)]
    exact hF i hi
  · rw [mArr_ot (by decide)]
    exact h42 i hi
theorem Rel_go {C : Cs} {M : Ms} {np nl nh nw ns ng dy tt : Nat} {R Q : Nat → List Nat} (sn : Int32) {l : Nat} (hl : l < nl) (H : Rel C M np nl nh nw ns ng dy tt R Q) : ∃ tt' Q', Rel (cTv C sn l) (mGo M sn l) np nl nh nw ns ng dy tt' R Q' := by
  obtain ⟨p1, ⟨p2, p2b, p2c⟩, ⟨k, hk, ek⟩, p4, p5, p6, p7, p8, p9⟩ := H.2.2.2.1 l hl
  by_cases h13 : M 10 l = 1 ∨ M 10 l = 3
  · have hne : ¬ M 10 l = 0 := fun z => by rw [z] at h13; exact absurd h13 (by decide)
    have hne2 : ¬ (cI C 2 5 l = 0 ∨ cI C 2 5 l = 2) := fun z => by
      rw [p2c] at z
      rcases h13 with w | w <;> rw [w] at z <;> exact absurd z (by decide)
    obtain ⟨h, hh, e11, e6⟩ := p5 hne
    have eT : cTv C sn l = cTv2 (cI C 2 5 l) h l (cTv1 C sn l) := by
      unfold cTv
      rw [e6]
      exact if_neg hne2
    have eG : mGo M sn l = (fun M1 : Ms => if 0 < M1 12 l then M1 else if M 10 l = 3 then u2 M1 10 l 0 else u2 (u2 (u2 (u2 (u2 M1 10 l 2) 13 l 0) 14 l 0) 15 l (M 17 0)) 17 0 (M 17 0 + 1)) (if sn = 0 ∧ 0 < M 12 l then u2 M 12 l (M 12 l - 1) else M) := by
      unfold mGo
      rw [if_pos h13]
    rw [eT, eG]
    have step : ∀ (D : Cs) (N : Ms), Rel D N np nl nh nw ns ng dy tt R Q → N 10 l = M 10 l → N 11 l = M 11 l → N 17 0 = M 17 0 → ∃ tt' Q', Rel (cTv2 (cI C 2 5 l) h l D) (if 0 < N 12 l then N else if M 10 l = 3 then u2 N 10 l 0 else u2 (u2 (u2 (u2 (u2 N 10 l 2) 13 l 0) 14 l 0) 15 l (M 17 0)) 17 0 (M 17 0 + 1)) np nl nh nw ns ng dy tt' R Q' := by
      intro D N HD n10 n11 n17
      have c7 : cI D 2 7 l = N 12 l := ((HD.2.2.2.1 l hl).2.2.2.2.2.1 (by rw [n10]; exact h13)).1
      unfold cTv2
      rw [c7]
      by_cases c : 0 < N 12 l
      · rw [if_pos c, if_pos c]
        exact ⟨tt, Q, HD⟩
      · rw [if_neg c, if_neg c, p2c]
        rcases h13 with w | w
        · rw [w, if_pos rfl, if_neg (by decide), ← n17]
          exact ⟨_, _, Rel_arr hl (n10.trans w) hh (n11.trans e11) c HD⟩
        · rw [w, if_neg (by decide), if_pos rfl]
          exact ⟨_, _, Rel_ret hl (n10.trans w) c HD⟩
    dsimp only
    have c7 : cI C 2 7 l = M 12 l := (p6 h13).1
    unfold cTv1
    rw [c7]
    by_cases c : sn = 0 ∧ 0 < M 12 l
    · rw [if_pos c, if_pos c]
      have := Rel_dec hl h13 c.2 H
      rw [c7] at this
      exact step _ _ this (u2_ne (by decide)) (u2_ne (by decide)) (u2_ne (by decide))
    · rw [if_neg c, if_neg c]
      exact step _ _ H rfl rfl rfl
  · have eG : mGo M sn l = M := by
      unfold mGo
      rw [if_neg h13]
    rw [eG]
    have eT : cTv C sn l = C := by
      unfold cTv
      split
      · rfl
      · rename_i h e
        refine if_pos ?_
        rw [p2c, ek]
        rw [ek] at h13
        rcases (show k = 0 ∨ k = 1 ∨ k = 2 ∨ k = 3 by omega) with rfl | rfl | rfl | rfl
        · exact Or.inl rfl
        · exact absurd (Or.inl rfl) h13
        · exact Or.inr rfl
        · exact absurd (Or.inr rfl) h13
    rw [eT]
    exact ⟨tt, Q, H⟩
theorem Rel_goes {C : Cs} {M : Ms} {np nl nh nw ns ng dy tt : Nat} {R Q : Nat → List Nat} (sn : Int32) (H : Rel C M np nl nh nw ns ng dy tt R Q) : ∀ n, n ≤ nl → ∃ tt' Q', Rel (cTvs C sn n) (mGoes M sn n) np nl nh nw ns ng dy tt' R Q'
  | 0, _ => ⟨tt, Q, H⟩
  | n + 1, hn => by
    obtain ⟨t1, Q1, h1⟩ := Rel_goes sn H n (by omega)
    exact Rel_go sn (by omega) h1
