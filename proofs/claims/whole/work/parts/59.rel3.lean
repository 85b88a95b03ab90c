/-! THE TWO: back, home, wage -/
theorem NB.c {C D : Cs} {a t f lim n : Nat} (h : NB C a t f lim n) (hf : cI D 9 f 0 = cI C 9 f 0) (hn : cN D t = cN C t) (hl : ∀ j, cL D a j 0 = cL C a j 0) : NB D a t f lim n := ⟨hf.trans h.1, h.2.1, hn.trans h.2.2.1, fun j hj => (hl j).trans (h.2.2.2 j hj)⟩
theorem Rel_back {C : Cs} {M : Ms} {np nl nh nw ns ng dy tt : Nat} {R Q : Nat → List Nat} (k : Nat) (b : Int32) (hb : b = 0 ∨ b = 1) (h : Rel C M np nl nh nw ns ng dy tt R Q) : Rel (wI C 8 3 k b) (u2 (m41 M) 39 k b) np nl nh nw ns ng dy tt R Q := by
  obtain ⟨hN, hP, hH, hL, hR, hK, hQ, hT, hS, hG, hW, hF, hD, h42⟩ := h
  have eI : ∀ t k' i, t ≠ 8 → cI (wI C 8 3 k b) t k' i = cI C t k' i := fun t k' i ht => by rw [cI_wI, if_neg (fun q => ht q.1)]
  refine ⟨hN, hP, hH.c (fun k h _ _ => eI 1 k h (by decide)) (fun f x h1 h2 => by rw [u2_ne (by omega), m41_ot (by omega)]) rfl, hL, hR, hK, hQ, hT, hS, hG, fun j hj => ?_, hF, hD, h42⟩
  obtain ⟨⟨a1, a2⟩, a3⟩ := hW j hj
  refine ⟨?_, a3⟩
  rw [cI_wI]
  by_cases e : j = k
  · subst e
    rw [if_pos ⟨rfl, rfl, rfl⟩]
    simp only [u2]
    simp
    exact hb
  · rw [if_neg (fun q => e q.2.2)]
    have : u2 (m41 M) 39 k b 39 j = M 39 j := by simp [u2, e]; rfl
    rw [this]
    exact ⟨a1, a2⟩
theorem dsc_none {p : Nat → Bool} : ∀ {n : Nat}, (∀ i, i < n → p i = false) → dsc p n = []
  | 0, _ => rfl
  | n + 1, h => by
    unfold dsc
    rw [if_neg (by rw [h n (Nat.lt_succ_self n)]; decide)]
    exact dsc_none (fun i hi => h i (Nat.lt_succ_of_lt hi))
section HM
variable {C : Cs} {a n : Nat} {r o b y : Int32}
theorem cHI_I (D : Cs) (i : Nat) (n r o b v : Int32) (t k j : Nat) (h : t ≠ 1 ∨ j ≠ i) : cI (cHI D i n r o b v) t k j = cI D t k j := by
  have q : ∀ k', ¬ (t = 1 ∧ k = k' ∧ j = i) := fun k' z => by omega
  rw [cHI, cI_wI, if_neg (q 4), cI_wI, if_neg (q 3), cI_wI, if_neg (q 2), cI_wI, if_neg (q 1), cI_wI, if_neg (q 0)]
theorem cHome_I (hc : cN C 1 = n) (t k i : Nat) (h : t ≠ 1 ∨ i ≠ n) (h9 : ¬ (t = 9 ∧ k = 9)) : cI (cHome C a n r o b y) t k i = cI C t k i := by
  rw [cHome, cI_wI, if_neg (fun q => h9 ⟨q.1, q.2.1⟩), cI_wL, cHI_I _ _ _ _ _ _ _ _ _ _ h, cI_wN, if_neg (fun q => by omega)]
theorem cHome_L (hc : cN C 1 = n) (t k i : Nat) (h : t ≠ 1 ∨ i ≠ n) (h25 : t ≠ 25) : cL (cHome C a n r o b y) t k i = cL C t k i := by
  rw [cHome, cL_wI, cL_wL, if_neg (fun q => h25 q.1)]
  show cL (wN C 1 a) t k i = _
  rw [cL_wN, if_neg (fun q => by omega)]
theorem cHome_Ln (hc : cN C 1 = n) (k : Nat) : cL (cHome C a n r o b y) 1 k n = 0 := by
  rw [cHome, cL_wI, cL_wL, if_neg (fun q => absurd q.1 (by decide))]
  show cL (wN C 1 a) 1 k n = _
  rw [cL_wN, if_pos ⟨rfl, hc.symm⟩]
theorem cHome_N (t : Nat) : cN (cHome C a n r o b y) t = if t = 1 then cN C 1 + 1 else cN C t := (cN_wN C 1 a t)
theorem cHome_In (hc : cN C 1 = n) : (cI (cHome C a n r o b y) 1 0 n = nI n ∧ cI (cHome C a n r o b y) 1 1 n = r ∧ cI (cHome C a n r o b y) 1 2 n = o ∧ cI (cHome C a n r o b y) 1 3 n = b ∧ cI (cHome C a n r o b y) 1 4 n = y) ∧ cI (cHome C a n r o b y) 1 5 n = 0 ∧ cI (cHome C a n r o b y) 1 6 n = 0 ∧ cI (cHome C a n r o b y) 1 7 n = 0 := by
  simp [cHome, cHI, cI_wI, cI_wL, cI_wN, hc]
end HM
theorem mHome_ot {M : Ms} {n : Nat} {r o b y : Int32} {f i : Nat} (h : f ≠ 18 ∧ f ≠ 19 ∧ f ≠ 20 ∧ f ≠ 21 ∧ f ≠ 24 ∧ f ≠ 41) : mHome M n r o b y f i = M f i := by
  obtain ⟨h18, h19, h20, h21, h24, h41⟩ := h
  unfold mHome
  rw [u2_ne h24, u2_ne h21, u2_ne h20, u2_ne h19, u2_ne h18, m41_ot h41]
theorem u2_j {α : Type} {f : Nat → Nat → α} {a j a' j' : Nat} {v : α} (h : j' ≠ j) : u2 f a j v a' j' = f a' j' := by simp [u2, h]
theorem mHome_j {M : Ms} {n : Nat} {r o b y : Int32} {f i : Nat} (hi : i ≠ n) (h : f ≠ 24 ∧ f ≠ 41) : mHome M n r o b y f i = M f i := by
  unfold mHome
  rw [u2_ne h.1, u2_j hi, u2_j hi, u2_j hi, u2_j hi, m41_ot h.2]
theorem Rel_home {C : Cs} {M : Ms} {np nl nh nw ns ng dy tt : Nat} {R Q : Nat → List Nat} (a : Nat) {r o b y : Int32} (ok : okHome r o b y nh) (h : Rel C M np nl nh nw ns ng dy tt R Q) : Rel (cHome C a nh r o b y) (mHome M nh r o b y) np nl (nh + 1) nw ns ng dy tt R (fun h => if h = nh then [] else Q h) := by
  obtain ⟨⟨hX, ⟨n1, m1⟩, ⟨n2, m2⟩, ⟨n3, m3⟩, n4, m4⟩, hP, hH, hL, hR, hK, hQ, hT, hS, hG, hW, hF, hD, h42⟩ := h
  have hc := n3.2.2.1
  have nh9 : nh < 9 := ok.2.2.2.2
  have I9 : ∀ k, k ≠ 9 → cI (cHome C a nh r o b y) 9 k 0 = cI C 9 k 0 := fun k hk => cHome_I hc 9 k 0 (Or.inl (by decide)) (fun q => hk q.2)
  have It : ∀ t k i, t ≠ 1 → t ≠ 9 → cI (cHome C a nh r o b y) t k i = cI C t k i := fun t k i h1 h9 => cHome_I hc t k i (Or.inl h1) (fun q => h9 q.1)
  have I1 : ∀ k i, i ≠ nh → cI (cHome C a nh r o b y) 1 k i = cI C 1 k i := fun k i hi => cHome_I hc 1 k i (Or.inr hi) (fun q => absurd q.1 (by decide))
  have Lt : ∀ t k i, t ≠ 1 → t ≠ 25 → cL (cHome C a nh r o b y) t k i = cL C t k i := fun t k i h1 h2 => cHome_L hc t k i (Or.inl h1) h2
  have L1 : ∀ k i, i ≠ nh → cL (cHome C a nh r o b y) 1 k i = cL C 1 k i := fun k i hi => cHome_L hc 1 k i (Or.inr hi) (by decide)
  have Nt : ∀ t, t ≠ 1 → cN (cHome C a nh r o b y) t = cN C t := fun t ht => (cHome_N t).trans (if_neg ht)
  have in1 := cHome_In (a := a) (r := r) (o := o) (b := b) (y := y) hc
  have hin : ∀ h, h < nh → ¬ nI h = nI nh := fun h hh e => by have := (nI_eq (by omega) (by omega)).mp e; omega
  refine ⟨⟨?_, ⟨n1.c (I9 7 (by decide)) (Nt 5 (by decide)) (fun j => Lt 23 j 0 (by decide) (by decide)), m1⟩, ⟨n2.c (I9 8 (by decide)) (Nt 2 (by decide)) (fun j => Lt 24 j 0 (by decide) (by decide)), m2⟩, ⟨⟨?_, by omega, ?_, fun j hj => ?_⟩, ?_⟩, n4.c (I9 10 (by decide)) (Nt 8 (by decide)) (fun j => Lt 26 j 0 (by decide) (by decide)), m4⟩, hP.c (fun k p _ => It 5 k p (by decide) (by decide)) (fun f p hf _ => mHome_ot (by omega)), ⟨fun h hh => ?_, ?_, fun h hh => ?_⟩, fun l hl => (hL l hl).c (fun k => It 2 k l (by decide) (by decide)) (fun k _ => Lt 2 k l (by decide) (by decide)) (fun f hf => mHome_ot (by omega)) (by omega), fun l hl => (hR l hl).c (fun p _ => Lt 5 7 p (by decide) (by decide)) (Lt 2 2 l (by decide) (by decide)) (Lt 2 3 l (by decide) (by decide)) rfl rfl (fun i _ => rfl) (fun f p _ hf => mHome_ot (by omega)) (Nat.le_refl _), hK.c (fun _ _ => rfl) (fun _ _ => rfl) (fun l _ => Lt 2 8 l (by decide) (by decide)), fun h hh => ?_, hT, ?_, ?_, hW.c (fun k _ => It 8 3 k (by decide) (by decide)) (fun i k _ => Lt 8 i k (by decide) (by decide)) (fun _ _ => rfl) (fun _ _ => rfl) (fun p _ _ => ⟨rfl, rfl, rfl⟩) (Nat.le_refl _), fun i hi => ?_, ⟨(I9 13 (by decide)).trans hD.1, hD.2⟩, h42⟩
  · exact FX_wI (FX_wL (cHI_fx (FX_wN hX 1 a (by decide)) _ _ _ _ _ _) _ _ _ _ (by decide)) _ _ _ _
  · rw [cHome, cI_wI, if_pos ⟨rfl, rfl, rfl⟩]
  · rw [cHome_N, if_pos rfl, hc]
  · rw [cHome, cL_wI, cL_wL]
    by_cases e : j = nh
    · rw [if_pos ⟨rfl, e, rfl⟩, e]
    · rw [if_neg (fun q => e q.2.1)]
      show cL (wN C 1 a) 25 j 0 = _
      rw [cL_wNt (by decide)]
      exact n3.2.2.2 j (by omega)
  · simp [mHome, u2]
  · by_cases e : h = nh
    · subst e
      obtain ⟨⟨q0, q1, q2, q3, q4⟩, q5, q6, q7⟩ := in1
      have z := hH.2.2 h (Nat.le_refl _)
      have e18 : mHome M h r o b y 18 h = r := by simp [mHome, u2]
      have e19 : mHome M h r o b y 19 h = o := by simp [mHome, u2]
      have e20 : mHome M h r o b y 20 h = b := by simp [mHome, u2]
      have e21 : mHome M h r o b y 21 h = y := by simp [mHome, u2]
      have e22 : mHome M h r o b y 22 h = 0 := (mHome_ot (by decide)).trans z.1
      have e23 : mHome M h r o b y 23 h = 0 := (mHome_ot (by decide)).trans z.2
      rw [q0, q1, q2, q3, q4, q5, q6, e18, e19, e20, e21, e22, e23]
      exact ⟨rfl, ⟨rfl, rfl, rfl, rfl, rfl, rfl⟩, ok.1, ok.2.2.1, ok.2.2.2.1⟩
    · have := hH.1 h (by omega)
      rw [I1 0 h e, I1 1 h e, I1 2 h e, I1 3 h e, I1 4 h e, I1 5 h e, I1 6 h e, mHome_j (f := 18) e (by decide), mHome_j (f := 19) e (by decide), mHome_j (f := 20) e (by decide), mHome_j (f := 21) e (by decide), mHome_j (f := 22) e (by decide), mHome_j (f := 23) e (by decide)]
      exact this
  · rw [cBr, in1.2.2.1, cBr_c (C := C) (nh := nh) (fun h hh => I1 6 h (by omega)) nh (Nat.le_refl _), mHome_ot (by decide), hH.2.1]
    simp
  · rw [mHome_ot (by decide), mHome_ot (by decide)]
    exact hH.2.2 h (by omega)
  · dsimp only
    by_cases e : h = nh
    · subst e
      rw [if_pos rfl]
      refine ⟨⟨cHome_Ln hc 8, cHome_Ln hc 9, in1.2.2.2⟩, List.nodup_nil, fun l => ⟨fun q => by simp at q, fun q => ?_⟩, List.Pairwise.nil⟩
      obtain ⟨q1, q2, q3⟩ := q
      rw [mHome_ot (by decide)] at q2 q3
      obtain ⟨h', hh', e2, _⟩ := (hL l q1).2.2.2.2.1 (by rw [q2]; decide)
      exact absurd (e2.symm.trans q3) (hin h' hh')
    · rw [if_neg e]
      exact (hQ h (by omega)).c (fun l _ => Lt 2 10 l (by decide) (by decide)) (L1 8 h e) (L1 9 h e) (I1 7 h e) (fun l => Iff.rfl) (fun _ _ => rfl)
  · obtain ⟨⟨s1, s2, s3, s4⟩, s5, s6⟩ := hS
    refine ⟨⟨(I9 11 (by decide)).trans s1, s2, (Nt 6 (by decide)).trans s3, s4⟩, fun e he => ?_, fun h hh => ?_⟩
    · rw [It 6 0 e (by decide) (by decide), It 6 1 e (by decide) (by decide)]
      obtain ⟨u1, u2, x, hx, u3⟩ := s5 e he
      exact ⟨u1, u2, x, by omega, u3⟩
    · by_cases e : h = nh
      · subst e
        rw [cHome_Ln hc 10, dsc_none (fun i hi => ?_)]
        · rfl
        · obtain ⟨_, _, x, hx, e2⟩ := s5 i hi
          exact decide_eq_false (fun q => hin x hx (e2.symm.trans q))
      · rw [L1 10 h e]
        exact chL_cong (fun x _ => (Lt 6 2 x (by decide) (by decide)).symm) (s6 h (by omega))
  · obtain ⟨⟨s1, s2, s3, s4⟩, s5, s6⟩ := hG
    refine ⟨⟨(I9 12 (by decide)).trans s1, s2, (Nt 7 (by decide)).trans s3, s4⟩, fun e he => ?_, fun h hh => ?_⟩
    · rw [It 7 0 e (by decide) (by decide), It 7 1 e (by decide) (by decide), It 7 2 e (by decide) (by decide)]
      obtain ⟨u1, u2, u4, x, hx, u3⟩ := s5 e he
      exact ⟨u1, u2, u4, x, by omega, u3⟩
    · by_cases e : h = nh
      · subst e
        rw [cHome_Ln hc 11, dsc_none (fun i hi => ?_)]
        · rfl
        · obtain ⟨_, _, _, x, hx, e2⟩ := s5 i hi
          exact decide_eq_false (fun q => hin x hx (e2.symm.trans q))
      · rw [L1 11 h e]
        exact chL_cong (fun x _ => (Lt 7 3 x (by decide) (by decide)).symm) (s6 h (by omega))
  · rw [It 0 0 i (by decide) (by decide), It 0 1 i (by decide) (by decide)]
    exact hF i hi
