/-! THE TWO: a new lot -/
theorem nd_len : ∀ (n : Nat) (L : List Nat), L.Nodup → (∀ x, x ∈ L → x < n) → L.length ≤ n
  | 0, L, _, h => by
    cases L with
    | nil => exact Nat.le_refl _
    | cons p t => exact absurd (h p (List.mem_cons_self ..)) (by omega)
  | n + 1, L, hn, h => by
    by_cases hm : n ∈ L
    · have e := List.length_erase_of_mem hm
      have h2 := nd_len n (L.erase n) (hn.erase n) (fun x hx => by
        have := (hn.mem_erase_iff).mp hx
        have := h x this.2
        omega)
      omega
    · have := nd_len n L hn (fun x hx => by
        have := h x hx
        have : x ≠ n := fun z => hm (by rw [← z]; exact hx)
        omega)
      omega
theorem nI_s (n : Nat) : nI (n + 1) - 1 = nI n := by
  rw [← nI_1]
  rw [Int32.add_sub_cancel]
section NL
variable {C : Cs} {a n : Nat} {k : Int32}
theorem cNL_I (hc : cN C 2 = n) (t f i : Nat) (h : t ≠ 2 ∨ i ≠ n) (h9 : ¬ (t = 9 ∧ f = 8)) : cI (cNL C a n k) t f i = cI C t f i := by
  have q : ∀ f', ¬ (t = 2 ∧ f = f' ∧ i = n) := fun f' z => by omega
  rw [cNL, cI_wI, if_neg (fun z => h9 ⟨z.1, z.2.1⟩), cI_wL, cLI, cI_wI, if_neg (q 1), cI_wI, if_neg (q 0), cI_wI, if_neg (q 5), cI_wN, if_neg (fun z => by omega)]
theorem cNL_L (hc : cN C 2 = n) (t f i : Nat) (h : t ≠ 2 ∨ i ≠ n) (h24 : t ≠ 24) : cL (cNL C a n k) t f i = cL C t f i := by
  rw [cNL, cL_wI, cL_wL, if_neg (fun z => h24 z.1), cLI, cL_wI, cL_wI, cL_wI, cL_wN, if_neg (fun z => by omega)]
theorem cNL_Ln (hc : cN C 2 = n) (f : Nat) : cL (cNL C a n k) 2 f n = 0 := by
  rw [cNL, cL_wI, cL_wL, if_neg (fun z => absurd z.1 (by decide)), cLI, cL_wI, cL_wI, cL_wI, cL_wN, if_pos ⟨rfl, hc.symm⟩]
theorem cNL_In (hc : cN C 2 = n) : (cI (cNL C a n k) 2 0 n = nI n ∧ cI (cNL C a n k) 2 1 n = k ∧ cI (cNL C a n k) 2 4 n = 0 ∧ cI (cNL C a n k) 2 5 n = 0) ∧ cI (cNL C a n k) 2 7 n = 0 ∧ cI (cNL C a n k) 2 9 n = 0 := by
  simp [cNL, cLI, cI_wI, cI_wL, cI_wN, hc]
end NL
theorem mNL_ot {M : Ms} {n : Nat} {k : Int32} {f i : Nat} (h : f ≠ 7 ∧ f ≠ 9 ∧ f ≠ 10 ∧ f ≠ 16) : mNewLot M n k f i = M f i := by
  obtain ⟨a, b, c, d⟩ := h
  unfold mNewLot
  rw [u2_ne d, u2_ne c, u2_ne b, u2_ne a]
theorem mNL_j {M : Ms} {n : Nat} {k : Int32} {f i : Nat} (hi : i ≠ n) (h : f ≠ 16) : mNewLot M n k f i = M f i := by
  unfold mNewLot
  rw [u2_ne h, u2_j hi, u2_j hi, u2_j hi]
theorem Rel_nl {C : Cs} {M : Ms} {np nl nh nw ns ng dy tt : Nat} {R Q : Nat → List Nat} (a : Nat) (k : Int32) (hnl : nl < 60) (H : Rel C M np nl nh nw ns ng dy tt R Q) : Rel (cNL C a nl k) (mNewLot M nl k) np (nl + 1) nh nw ns ng dy tt (fun l => if l = nl then [] else R l) Q := by
  obtain ⟨⟨hX, ⟨n1, m1⟩, ⟨n2, m2⟩, ⟨n3, m3⟩, n4, m4⟩, hP, hH, hL, hR, hK, hQ, hT, hS, hG, hW, hF, hD, h42⟩ := H
  have hc := n2.2.2.1
  have I9 : ∀ f, f ≠ 8 → cI (cNL C a nl k) 9 f 0 = cI C 9 f 0 := fun f hf => cNL_I hc 9 f 0 (Or.inl (by decide)) (fun q => hf q.2)
  have It : ∀ t f i, t ≠ 2 → t ≠ 9 → cI (cNL C a nl k) t f i = cI C t f i := fun t f i h1 h9 => cNL_I hc t f i (Or.inl h1) (fun q => h9 q.1)
  have I2 : ∀ f i, i ≠ nl → cI (cNL C a nl k) 2 f i = cI C 2 f i := fun f i hi => cNL_I hc 2 f i (Or.inr hi) (fun q => absurd q.1 (by decide))
  have Lt : ∀ t f i, t ≠ 2 → t ≠ 24 → cL (cNL C a nl k) t f i = cL C t f i := fun t f i h1 h2 => cNL_L hc t f i (Or.inl h1) h2
  have L2 : ∀ f i, i ≠ nl → cL (cNL C a nl k) 2 f i = cL C 2 f i := fun f i hi => cNL_L hc 2 f i (Or.inr hi) (by decide)
  have Nt : ∀ t, t ≠ 2 → cN (cNL C a nl k) t = cN C t := fun t ht => cNL_N C a nl k t ht
  have in1 := cNL_In (a := a) (k := k) hc
  have M10 : mNewLot M nl k 10 nl = 0 := by simp [mNewLot, u2]
  have M9 : mNewLot M nl k 9 nl = 0 := by simp [mNewLot, u2]
  have M7 : mNewLot M nl k 7 nl = k := by simp [mNewLot, u2]
  refine ⟨⟨cNL_F C a nl k hX, ⟨n1.c (I9 7 (by decide)) (Nt 5 (by decide)) (fun j => Lt 23 j 0 (by decide) (by decide)), m1⟩, ⟨⟨?_, by omega, ?_, fun j hj => ?_⟩, ?_⟩, ⟨n3.c (I9 9 (by decide)) (Nt 1 (by decide)) (fun j => Lt 25 j 0 (by decide) (by decide)), m3⟩, n4.c (I9 10 (by decide)) (Nt 8 (by decide)) (fun j => Lt 26 j 0 (by decide) (by decide)), m4⟩, hP.c (fun f p _ => It 5 f p (by decide) (by decide)) (fun f p hf _ => mNL_ot (by omega)), hH.c (fun f x _ _ => It 1 f x (by decide) (by decide)) (fun f x h1 h2 => mNL_ot (by omega)) (mNL_ot (by decide)), fun l hl => ?_, fun l hl => ?_, fun l hl q => ?_, fun x hx => ?_, ⟨hT.1, ?_, fun l hl q => ?_⟩, hS.c (I9 11 (by decide)) (Nt 6 (by decide)) (fun f e _ => It 6 f e (by decide) (by decide)) (fun e _ => Lt 6 2 e (by decide) (by decide)) (fun x _ => Lt 1 10 x (by decide) (by decide)) (mNL_ot (by decide)) (fun f e hf _ => mNL_ot (by omega)), hG.c (I9 12 (by decide)) (Nt 7 (by decide)) (fun f e _ => It 7 f e (by decide) (by decide)) (fun e _ => Lt 7 3 e (by decide) (by decide)) (fun x _ => Lt 1 11 x (by decide) (by decide)) (mNL_ot (by decide)) (fun f e hf _ => mNL_ot (by omega)), hW.c (fun x _ => It 8 3 x (by decide) (by decide)) (fun i x _ => Lt 8 i x (by decide) (by decide)) (fun _ _ => rfl) (fun _ _ => rfl) (fun p _ _ => ⟨rfl, rfl, rfl⟩) (Nat.le_refl _), fun i hi => ?_, ⟨(I9 13 (by decide)).trans hD.1, hD.2⟩, h42⟩
  · rw [cNL, cI_wI, if_pos ⟨rfl, rfl, rfl⟩]
  · rw [cNL_N2, hc]
  · rw [cNL, cL_wI, cL_wL]
    by_cases e : j = nl
    · rw [if_pos ⟨rfl, e, rfl⟩, e]
    · rw [if_neg (fun q => e q.2.1), cLI, cL_wI, cL_wI, cL_wI, cL_wNt (by decide)]
      exact n2.2.2.2 j (by omega)
  · simp [mNewLot, u2]
  · by_cases e : l = nl
    · subst e
      obtain ⟨⟨q0, q1, q4, q5⟩, q7, q9⟩ := in1
      unfold RlL1
      rw [q0, q1, q4, q5, q7, q9, cNL_Ln hc 6, cNL_Ln hc 8, cNL_Ln hc 10, M10, M9, M7]
      exact ⟨rfl, ⟨rfl, rfl, rfl⟩, ⟨0, by decide, rfl⟩, fun _ => rfl, fun z => absurd rfl z, fun z => absurd z (by decide), fun _ => rfl, fun z => absurd z (by decide), fun _ => ⟨rfl, rfl, rfl⟩⟩
    · exact (hL l (by omega)).c (fun f => I2 f l e) (fun f _ => L2 f l e) (fun f hf => mNL_j e (by omega)) (Nat.le_refl _)
  · dsimp only
    by_cases e : l = nl
    · rw [if_pos e, e]
      refine ⟨⟨cNL_Ln hc 2, cNL_Ln hc 3⟩, ⟨M9, fun i p hp => ?_⟩, List.nodup_nil, fun p hp => ?_⟩
      · simp at hp
      · simp at hp
    · rw [if_neg e]
      exact (hR l (by omega)).c (fun p _ => Lt 5 7 p (by decide) (by decide)) (L2 2 l e) (L2 3 l e) (mNL_j e (by decide)) (mNL_j e (by decide)) (fun i _ => rfl) (fun f p _ hf => mNL_ot (by omega)) (Nat.le_refl _)
  · dsimp only
    have e : l ≠ nl := fun z => by rw [z, M10] at q; exact absurd q (by decide)
    rw [mNL_j e (by decide)] at q
    rw [if_neg e, L2 8 l e]
    exact hK l (by omega) q
  · obtain ⟨⟨q1, q2, q3⟩, q4, q5, q6⟩ := hQ x hx
    have mem : ∀ l, l ∈ Q x → l < nl := fun l hl => ((q5 l).mp hl).1
    refine ⟨⟨?_, (Lt 1 9 x (by decide) (by decide)).trans q2, (It 1 7 x (by decide) (by decide)).trans q3⟩, q4, fun l => ?_, q6⟩
    · rw [Lt 1 8 x (by decide) (by decide)]
      exact chL_cong (fun l hl => (L2 10 l (by have := mem l hl; omega)).symm) q1
    · refine (q5 l).trans ⟨fun z => ?_, fun z => ?_⟩
      · have e : l ≠ nl := by have := z.1; omega
        rw [mNL_j e (by decide), mNL_ot (by decide)]
        exact ⟨by omega, z.2⟩
      · have e : l ≠ nl := fun w => by rw [w, M10] at z; exact absurd z.2.1 (by decide)
        rw [mNL_j e (by decide), mNL_ot (by decide)] at z
        exact ⟨by omega, z.2⟩
  · have e : cn (fun l => decide (mNewLot M nl k 10 l = 1)) (nl + 1) = cn (fun l => decide (M 10 l = 1)) nl := by
      rw [cn_n (by rw [M10]; decide)]
      exact cn_cong (fun l hl => by rw [mNL_j (by omega) (by decide)])
    rw [e]
    exact hT.2.1
  · have e : l ≠ nl := fun z => by rw [z, M10] at q; exact absurd q (by decide)
    rw [mNL_j e (by decide)] at q
    exact hT.2.2 l (by omega) q
  · rw [It 0 0 i (by decide) (by decide), It 0 1 i (by decide) (by decide)]
    exact hF i hi
