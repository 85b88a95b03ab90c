/-! THE TWO: split, join -/
theorem cMv_z {a b : Nat} {C : Cs} (h : cL C 2 2 a = 0) : ∀ k, cMv a b k C = C
  | 0 => rfl
  | k + 1 => by
    unfold cMv
    rw [h]
theorem cMv_s {a b q : Nat} : ∀ (k : Nat) (C : Cs), cL (cMv a b k C) 2 2 a = q + 1 → cMv a b (k + 1) C = cApp (cUnl (cMv a b k C) a 0 q) b q
  | 0, C, h => by
    have h : cL C 2 2 a = q + 1 := h
    unfold cMv
    rw [h]
    rfl
  | k + 1, C, h => by
    cases e : cL C 2 2 a with
    | zero =>
      rw [cMv_z e] at h
      rw [e] at h
      omega
    | succ r =>
      have e1 : ∀ j, cMv a b (j + 1) C = cMv a b j (cApp (cUnl C a 0 r) b r) := fun j => by
        show (match cL C 2 2 a with
          | 0 => C
          | q + 1 => cMv a b j (cApp (cUnl C a 0 q) b q)) = _
        rw [e]
      rw [e1] at h
      rw [e1 (k + 1), e1 k]
      exact cMv_s k _ h
theorem drop_s {L : List Nat} {i : Nat} (h : i < L.length) : L.drop i = L[i] :: L.drop (i + 1) := List.drop_eq_getElem_cons h
/-- the row of which the first i went over -/
theorem Rel_st {C : Cs} {M : Ms} {np nl nh nw ns ng dy tt : Nat} {R R0 Q : Nat → List Nat} {a b i : Nat} (N : Ms) (hab : a ≠ b) (hi : i < (R0 a).length) (ha : a < nl) (hb : b < nl) (a0 : M 10 a = 0) (b0 : M 10 b = 0) (h7 : M 7 a = M 7 b) (hRa : R a = (R0 a).drop i) (hN : ∀ p, (R0 a)[i]? = some p → N = mMv M a b p ((R0 a).length - (i + 1)) (R b).length) (H : Rel C M np nl nh nw ns ng dy tt R Q) : ∃ p, (R0 a)[i]? = some p ∧ cL C 2 2 a = p + 1 ∧ Rel (cApp (cUnl C a 0 p) b p) N np nl nh nw ns ng dy tt (fun l => if l = a then (R0 a).drop (i + 1) else if l = b then R b ++ [p] else R l) Q := by
  have e := drop_s hi
  have hp : (R0 a)[i]? = some (R0 a)[i] := List.getElem?_eq_getElem hi
  refine ⟨(R0 a)[i], hp, ?_, ?_⟩
  · have := (H.2.2.2.2.1 a ha).1.1
    rw [hRa, e] at this
    exact this.1
  · have := Rel_mv1 H ha hb hab (hRa.trans e) a0 b0 h7
    rw [hN _ hp]
    rw [List.length_drop] at this
    exact this
theorem take_s {L : List Nat} {i p : Nat} (h : L[i]? = some p) : L.take i ++ [p] = L.take (i + 1) := by
  rw [List.take_add_one, h]
  rfl
theorem Rel_spl {C : Cs} {M : Ms} {np nl nh nw ns ng dy tt : Nat} {R Q : Nat → List Nat} {a b : Nat} (hab : a ≠ b) (ha : a < nl) (hb : b < nl) (a0 : M 10 a = 0) (b0 : M 10 b = 0) (h7 : M 7 a = M 7 b) (hRb : R b = []) (H : Rel C M np nl nh nw ns ng dy tt R Q) : ∀ i, i ≤ (R a).length → Rel (cMv a b i C) (mSplP M a b (R a).length i) np nl nh nw ns ng dy tt (fun l => if l = a then (R a).drop i else if l = b then (R a).take i else R l) Q
  | 0, _ => by
    have e : (fun l => if l = a then (R a).drop 0 else if l = b then (R a).take 0 else R l) = R := by
      funext l
      by_cases h1 : l = a
      · rw [if_pos h1, h1]; rfl
      · rw [if_neg h1]
        by_cases h2 : l = b
        · rw [if_pos h2, h2, hRb]; rfl
        · rw [if_neg h2]
    rw [e]
    exact H
  | i + 1, hi => by
    have ih := Rel_spl hab ha hb a0 b0 h7 hRb H i (by omega)
    have hot : ∀ f j, f ≠ 8 ∧ f ≠ 9 ∧ f ≠ 5 → mSplP M a b (R a).length i f j = M f j := fun f j hf => mSplP_ot M a b _ f j hf i
    have hlen : ((fun l => if l = a then (R a).drop i else if l = b then (R a).take i else R l) b).length = i := by
      dsimp only
      rw [if_neg (Ne.symm hab), if_pos rfl, List.length_take]
      omega
    obtain ⟨p, hp, hc, hr⟩ := Rel_st (R0 := R) (i := i) (mSplP M a b (R a).length (i + 1)) hab (by omega) ha hb ((hot 10 a (by decide)).trans a0) ((hot 10 b (by decide)).trans b0) ((hot 7 a (by decide)).trans (h7.trans (hot 7 b (by decide)).symm)) (if_pos rfl) (fun p hp => by
      rw [hlen, mSplP]
      have h8 : mSplP M a b (R a).length i 8 (300 * a + 0) = nI p := by
        refine (ih.2.2.2.2.1 a ha).2.1.2 0 p ?_
        dsimp only
        rw [if_pos rfl, List.getElem?_drop]
        exact hp
      have hpn : p < 300 := by
        have := ((H.2.2.2.2.1 a ha).2.2.2 p (List.mem_of_getElem? hp)).1
        have := H.1.2.1.1.2.1
        omega
      rw [show 300 * a = 300 * a + 0 from rfl, h8, pN_n (by omega)]
      rfl) ih
    rw [cMv_s i C hc]
    have e : (fun l => if l = a then (R a).drop (i + 1) else if l = b then (R a).take (i + 1) else R l) = fun l => if l = a then (R a).drop (i + 1) else if l = b then (fun l => if l = a then (R a).drop i else if l = b then (R a).take i else R l) b ++ [p] else (fun l => if l = a then (R a).drop i else if l = b then (R a).take i else R l) l := by
      funext l
      dsimp only
      by_cases h1 : l = a
      · rw [if_pos h1, if_pos h1]
      · rw [if_neg h1, if_neg h1]
        by_cases h2 : l = b
        · rw [if_pos h2, if_pos h2, if_neg (Ne.symm hab), if_pos rfl, take_s hp]
        · rw [if_neg h2, if_neg h2, if_neg h1, if_neg h2]
    rw [e]
    exact hr
theorem Rel_split {C : Cs} {M : Ms} {np nl nh nw ns ng dy tt : Nat} {R Q : Nat → List Nat} (ad : Nat) {j m : Nat} (hj : j < nl) (hm : m ≤ (R j).length) (j0 : M 10 j = 0) (hnl : nl < 60) (H : Rel C M np nl nh nw ns ng dy tt R Q) : Rel (cSpl C ad j nl m) (mSplit M j nl (R j).length m) np (nl + 1) nh nw ns ng dy tt (fun l => if l = j then (R j).drop m else if l = nl then (R j).take m else R l) Q := by
  have hk : cI C 2 1 j = M 7 j := (H.2.2.2.1 j hj).2.1.1
  have h1 := Rel_nl ad (M 7 j) hnl (Rel_41 0 H)
  have hne : j ≠ nl := by omega
  have e1 : mNewLot (m41 M) nl (M 7 j) 10 j = 0 := (mNL_j hne (by decide)).trans j0
  have e2 : mNewLot (m41 M) nl (M 7 j) 10 nl = 0 := by simp [mNewLot, u2]
  have e3 : mNewLot (m41 M) nl (M 7 j) 7 j = mNewLot (m41 M) nl (M 7 j) 7 nl := by
    have : mNewLot (m41 M) nl (M 7 j) 7 nl = M 7 j := by simp [mNewLot, u2]
    rw [this]
    exact mNL_j hne (by decide)
  have rj : (if j = nl then ([] : List Nat) else R j) = R j := if_neg hne
  have h2 := Rel_spl hne (show j < nl + 1 by omega) (show nl < nl + 1 by omega) e1 e2 e3 (if_pos rfl) h1 m (by rw [rj]; exact hm)
  rw [rj] at h2
  have e : (fun l => if l = j then (R j).drop m else if l = nl then (R j).take m else R l) = fun l => if l = j then (R j).drop m else if l = nl then (R j).take m else (fun l => if l = nl then [] else R l) l := by
    funext l
    dsimp only
    by_cases a1 : l = j
    · rw [if_pos a1, if_pos a1]
    · rw [if_neg a1, if_neg a1]
      by_cases a2 : l = nl
      · rw [if_pos a2, if_pos a2]
      · rw [if_neg a2, if_neg a2, if_neg a2]
  rw [e, cSpl, hk]
  exact h2
/-- rows beyond their ends don't matter -/
theorem Rel_c8 {C : Cs} {M N : Ms} {np nl nh nw ns ng dy tt : Nat} {R Q : Nat → List Nat} (H : Rel C M np nl nh nw ns ng dy tt R Q) (h : ∀ f j, f ≠ 8 → N f j = M f j) (h8 : ∀ l i, l < nl → i < (R l).length → N 8 (300 * l + i) = M 8 (300 * l + i)) : Rel C N np nl nh nw ns ng dy tt R Q := by
  obtain ⟨⟨hX, ⟨n1, m1⟩, ⟨n2, m2⟩, ⟨n3, m3⟩, n4, m4⟩, hP, hH, hL, hR, hK, hQ, hT, hS, hG, hW, hF, hD, h42⟩ := H
  refine ⟨⟨hX, ⟨n1, (h 6 0 (by decide)).trans m1⟩, ⟨n2, (h 16 0 (by decide)).trans m2⟩, ⟨n3, (h 24 0 (by decide)).trans m3⟩, n4, (h 40 0 (by decide)).trans m4⟩, hP.c (fun _ _ _ => rfl) (fun f p hf _ => h f p (by omega)), hH.c (fun _ _ _ _ => rfl) (fun f x h1 h2 => h f x (by omega)) (h 26 0 (by decide)), fun l hl => (hL l hl).c (fun _ => rfl) (fun _ _ => rfl) (fun f hf => h f l (by omega)) (Nat.le_refl _), fun l hl => (hR l hl).c (fun _ _ => rfl) rfl rfl (h 9 l (by decide)) (h 7 l (by decide)) (fun i hi => h8 l i hl hi) (fun f p _ hf => h f p (by omega)) (Nat.le_refl _), hK.c (fun l _ => h 10 l (by decide)) (fun l _ => h 14 l (by decide)) (fun _ _ => rfl), fun x hx => (hQ x hx).c (fun _ _ => rfl) rfl rfl rfl (fun l => by rw [h 10 l (by decide), h 11 l (by decide)]) (fun l _ => h 15 l (by decide)), ?_, hS.c rfl rfl (fun _ _ _ => rfl) (fun _ _ => rfl) (fun _ _ => rfl) (h 30 0 (by decide)) (fun f e hf _ => h f e (by omega)), hG.c rfl rfl (fun _ _ _ => rfl) (fun _ _ => rfl) (fun _ _ => rfl) (h 35 0 (by decide)) (fun f e hf _ => h f e (by omega)), hW.c (fun _ _ => rfl) (fun _ _ _ => rfl) (fun k _ => h 39 k (by decide)) (fun i _ => h 38 i (by decide)) (fun p _ _ => ⟨h 4 p (by decide), h 5 p (by decide), h 0 p (by decide)⟩) (Nat.le_refl _), fun i hi => ?_, ⟨hD.1, hD.2.1, (h 25 0 (by decide)).trans hD.2.2⟩, fun i hi => ?_⟩
  · obtain ⟨t1, t2, t3⟩ := hT
    refine ⟨(h 17 0 (by decide)).trans t1, ?_, fun l hl q => ?_⟩
    · rw [cn_cong (q := fun l => decide (M 10 l = 1)) (fun i _ => by rw [h 10 i (by decide)])]
      exact t2
    · rw [h 10 l (by decide)] at q
      rw [h 15 l (by decide)]
      exact t3 l hl q
  · rw [h 36 i (by decide), h 37 i (by decide)]
    exact hF i hi
  · rw [h 42 i (by decide)]
    exact h42 i hi
def mJn (M : Ms) (a b ma mb : Nat) : Nat → Ms
  | 0 => M
  | i + 1 => mMv (mJn M a b ma mb i) b a (pN (M 8 (300 * b + i))) (mb - (i + 1)) (ma + i)
theorem mJn_ot (M : Ms) (a b ma mb f j : Nat) (hf : f ≠ 5 ∧ f ≠ 8 ∧ f ≠ 9) : ∀ i, mJn M a b ma mb i f j = M f j
  | 0 => rfl
  | i + 1 => by rw [mJn, mMv_ot hf, mJn_ot M a b ma mb f j hf i]
/-- the class's way and the reference's, row by row -/
theorem mJn_eq {M : Ms} {a b ma mb : Nat} (hab : a ≠ b) (h9b : M 9 b = nI mb) (hm : ma + mb ≤ 300) : ∀ i, i ≤ mb → (∀ f j, f ≠ 8 → f ≠ 9 → mJn M a b ma mb i f j = mJoinP M a b ma i f j) ∧ (∀ j, j ≠ b → mJn M a b ma mb i 9 j = mJoinP M a b ma i 9 j) ∧ mJn M a b ma mb i 9 b = nI (mb - i) ∧ ∀ l k, l ≠ b → k < 300 → mJn M a b ma mb i 8 (300 * l + k) = mJoinP M a b ma i 8 (300 * l + k)
  | 0, _ => ⟨fun _ _ _ _ => rfl, fun _ _ => rfl, h9b, fun _ _ _ _ => rfl⟩
  | i + 1, hi => by
    obtain ⟨a1, a2, a3, a4⟩ := mJn_eq hab h9b hm i (by omega)
    rw [mJn, mJoinP]
    refine ⟨fun f j h8 h9 => ?_, fun j hj => ?_, ?_, fun l k hl hk => ?_⟩
    · by_cases h5 : f = 5
      · subst h5
        rw [mMv_5]
        unfold mAdd
        by_cases e : j = pN (M 8 (300 * b + i))
        · rw [if_pos e, e]; simp [u2]
        · rw [if_neg e, u2_j e, u2_ne (by decide), u2_ne (by decide)]
          exact a1 5 j (by decide) (by decide)
      · rw [mMv_ot ⟨h5, h8, h9⟩]
        unfold mAdd
        rw [u2_ne h5, u2_ne h9, u2_ne h8]
        exact a1 f j h8 h9
    · rw [mMv_9 (Ne.symm hab), if_neg hj]
      unfold mAdd
      rw [u2_ne (by decide)]
      by_cases e : j = a
      · rw [if_pos e, e]; simp [u2]
      · rw [if_neg e, u2_j e, u2_ne (by decide)]
        exact a2 j hj
    · rw [mMv_9 (Ne.symm hab), if_pos rfl]
    · rw [mMv_8o (by omega) hl hk]
      unfold mAdd
      rw [u2_ne (by decide), u2_ne (by decide)]
      by_cases e : 300 * l + k = 300 * a + (ma + i)
      · rw [if_pos e, e]; simp [u2]
      · rw [if_neg e, u2_j e]
        exact a4 l k hl hk
theorem Rel_jn {C : Cs} {M : Ms} {np nl nh nw ns ng dy tt : Nat} {R Q : Nat → List Nat} {a b : Nat} (hab : a ≠ b) (ha : a < nl) (hb : b < nl) (a0 : M 10 a = 0) (b0 : M 10 b = 0) (h7 : M 7 a = M 7 b) (H : Rel C M np nl nh nw ns ng dy tt R Q) : ∀ i, i ≤ (R b).length → Rel (cMv b a i C) (mJn M a b (R a).length (R b).length i) np nl nh nw ns ng dy tt (fun l => if l = b then (R b).drop i else if l = a then R a ++ (R b).take i else R l) Q
  | 0, _ => by
    have e : (fun l => if l = b then (R b).drop 0 else if l = a then R a ++ (R b).take 0 else R l) = R := by
      funext l
      by_cases h1 : l = b
      · rw [if_pos h1, h1]; rfl
      · rw [if_neg h1]
        by_cases h2 : l = a
        · rw [if_pos h2, h2]; simp
        · rw [if_neg h2]
    rw [e]
    exact H
  | i + 1, hi => by
    have ih := Rel_jn hab ha hb a0 b0 h7 H i (by omega)
    have hot : ∀ f j, f ≠ 5 ∧ f ≠ 8 ∧ f ≠ 9 → mJn M a b (R a).length (R b).length i f j = M f j := fun f j hf => mJn_ot M a b _ _ f j hf i
    have hlen : ((fun l => if l = b then (R b).drop i else if l = a then R a ++ (R b).take i else R l) a).length = (R a).length + i := by
      dsimp only
      rw [if_neg hab, if_pos rfl, List.length_append, List.length_take]
      omega
    obtain ⟨p, hp, hc, hr⟩ := Rel_st (R0 := R) (i := i) (mJn M a b (R a).length (R b).length (i + 1)) (Ne.symm hab) (by omega) hb ha ((hot 10 b (by decide)).trans b0) ((hot 10 a (by decide)).trans a0) ((hot 7 b (by decide)).trans (h7.symm.trans (hot 7 a (by decide)).symm)) (if_pos rfl) (fun p hp => by
      rw [hlen, mJn]
      have h8 : M 8 (300 * b + i) = nI p := (H.2.2.2.2.1 b hb).2.1.2 i p hp
      have hpn : p < 300 := by
        have := ((H.2.2.2.2.1 b hb).2.2.2 p (List.mem_of_getElem? hp)).1
        have := H.1.2.1.1.2.1
        omega
      rw [h8, pN_n (by omega)]) ih
    rw [cMv_s i C hc]
    have e : (fun l => if l = b then (R b).drop (i + 1) else if l = a then R a ++ (R b).take (i + 1) else R l) = fun l => if l = b then (R b).drop (i + 1) else if l = a then (fun l => if l = b then (R b).drop i else if l = a then R a ++ (R b).take i else R l) a ++ [p] else (fun l => if l = b then (R b).drop i else if l = a then R a ++ (R b).take i else R l) l := by
      funext l
      dsimp only
      by_cases h1 : l = b
      · rw [if_pos h1, if_pos h1]
      · rw [if_neg h1, if_neg h1]
        by_cases h2 : l = a
        · rw [if_pos h2, if_pos h2, if_neg hab, if_pos rfl, List.append_assoc, take_s hp]
        · rw [if_neg h2, if_neg h2, if_neg h1, if_neg h2]
    rw [e]
    exact hr
/-- two rows together are not too long -/
theorem Rel.l2 {C : Cs} {M : Ms} {np nl nh nw ns ng dy tt : Nat} {R Q : Nat → List Nat} (H : Rel C M np nl nh nw ns ng dy tt R Q) {a b : Nat} (ha : a < nl) (hb : b < nl) (hab : a ≠ b) : (R a).length + (R b).length ≤ 300 := by
  have hR := H.2.2.2.2.1
  have h60 := H.1.2.2.1.1.2.1
  have := H.1.2.1.1.2.1
  have := nd_len np (R a ++ R b) (List.nodup_append.mpr ⟨(hR a ha).2.2.1, (hR b hb).2.2.1, fun x hx y hy e => Rel.dj hR h60 ha hb hab hx (by rw [e]; exact hy)⟩) (fun x hx => by
    rcases List.mem_append.mp hx with q | q
    · exact ((hR a ha).2.2.2 x q).1
    · exact ((hR b hb).2.2.2 x q).1)
  rw [List.length_append] at this
  omega
theorem Rel_join {C : Cs} {M : Ms} {np nl nh nw ns ng dy tt : Nat} {R Q : Nat → List Nat} {a b : Nat} (hab : a ≠ b) (ha : a < nl) (hb : b < nl) (a0 : M 10 a = 0) (b0 : M 10 b = 0) (h7 : M 7 a = M 7 b) (H : Rel C M np nl nh nw ns ng dy tt R Q) : Rel (cMv b a (R b).length C) (mJoin M a b (R a).length (R b).length) np nl nh nw ns ng dy tt (fun l => if l = b then [] else if l = a then R a ++ R b else R l) Q := by
  have hl2 := H.l2 ha hb hab
  have H41 : Rel C (m41 M) np nl nh nw ns ng dy tt R Q := Rel_41 0 H
  have h1 := Rel_jn (M := m41 M) hab ha hb a0 b0 h7 H41 (R b).length (Nat.le_refl _)
  have e : (fun l => if l = b then [] else if l = a then R a ++ R b else R l) = fun l => if l = b then (R b).drop (R b).length else if l = a then R a ++ (R b).take (R b).length else R l := by
    funext l
    rw [List.drop_length, List.take_length]
  rw [e]
  have h9b : m41 M 9 b = nI (R b).length := (H.2.2.2.2.1 b hb).2.1.1
  obtain ⟨q1, q2, q3, q4⟩ := mJn_eq (M := m41 M) (ma := (R a).length) (mb := (R b).length) hab h9b hl2 (R b).length (Nat.le_refl _)
  refine Rel_c8 h1 (fun f j hf => ?_) (fun l i hl hi => ?_)
  · unfold mJoin
    by_cases h9 : f = 9
    · subst h9
      by_cases hj : j = b
      · rw [hj, q3, Nat.sub_self]; simp [u2]; rfl
      · rw [u2_j hj, q2 j hj]
    · rw [u2_ne h9, q1 f j hf h9]
  · unfold mJoin
    rw [u2_ne (by decide)]
    by_cases h1 : l = b
    · rw [if_pos h1, List.drop_length] at hi
      simp at hi
    · rw [if_neg h1] at hi
      have hi3 : i < 300 := by
        by_cases h2 : l = a
        · rw [if_pos h2, List.take_length, List.length_append] at hi
          omega
        · rw [if_neg h2] at hi
          have := H.l2 hl hb h1
          omega
      exact (q4 l i h1 hi3).symm
