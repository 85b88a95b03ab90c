/-! THE TWO: raw -/
def cRwE (a : Nat) (k s : Int32) (lo p : Nat) (D : Cs) : Cs := wI (wL (cPI (wN D 5 a) p (nI p) k s (nI lo)) 23 p 0 (p + 1)) 9 7 0 (nI (p + 1))
section RW
variable {D : Cs} {a lo p : Nat} {k s : Int32}
theorem cRwE_I (hc : cN D 5 = p) (t f i : Nat) (h5 : t ≠ 5 ∨ i ≠ p) (h9 : ¬ (t = 9 ∧ f = 7)) : cI (cRwE a k s lo p D) t f i = cI D t f i := by
  have q : ∀ f', ¬ (t = 5 ∧ f = f' ∧ i = p) := fun f' z => by omega
  rw [cRwE, cI_wI, if_neg (fun z => h9 ⟨z.1, z.2.1⟩), cI_wL, cPI, cI_wI, if_neg (q 2), cI_wI, if_neg (q 3), cI_wI, if_neg (q 1), cI_wI, if_neg (q 0), cI_wI, if_neg (q 5), cI_wN, if_neg (fun z => by omega)]
theorem cRwE_L (hc : cN D 5 = p) (t f i : Nat) (h5 : t ≠ 5 ∨ i ≠ p) (h23 : ¬ (t = 23 ∧ f = p)) : cL (cRwE a k s lo p D) t f i = cL D t f i := by
  rw [cRwE, cL_wI, cL_wL, if_neg (fun z => h23 ⟨z.1, z.2.1⟩), cPI, cL_wI, cL_wI, cL_wI, cL_wI, cL_wI, cL_wN, if_neg (fun z => by omega)]
theorem cRwE_n (hc : cN D 5 = p) : (cI (cRwE a k s lo p D) 5 0 p = nI p ∧ cI (cRwE a k s lo p D) 5 1 p = k ∧ cI (cRwE a k s lo p D) 5 2 p = nI lo ∧ cI (cRwE a k s lo p D) 5 3 p = s ∧ cI (cRwE a k s lo p D) 5 4 p = 0 ∧ cI (cRwE a k s lo p D) 5 5 p = 0) ∧ cI (cRwE a k s lo p D) 9 7 0 = nI (p + 1) ∧ cL (cRwE a k s lo p D) 23 p 0 = p + 1 := by
  simp [cRwE, cPI, cI_wI, cI_wL, cI_wN, cL_wL, cL_wI, hc]
theorem cRwE_N (t : Nat) : cN (cRwE a k s lo p D) t = if t = 5 then cN D 5 + 1 else cN D t := cN_wN D 5 a t
end RW
def mRw1 (M : Ms) (l n p : Nat) (k s : Int32) : Ms := u2 (mAdd (u2 (u2 (u2 (u2 (u2 M 0 p k) 1 p s) 2 p (nI l)) 3 p 0) 4 p 0) l n p) 6 0 (nI (p + 1))
theorem mRw1_ot {M : Ms} {l n p : Nat} {k s : Int32} {f i : Nat} (h : 7 ≤ f ∧ f ≠ 8 ∧ f ≠ 9) : mRw1 M l n p k s f i = M f i := by
  unfold mRw1 mAdd
  rw [u2_ne (by omega), u2_ne (by omega), u2_ne (by omega), u2_ne (by omega), u2_ne (by omega), u2_ne (by omega), u2_ne (by omega), u2_ne (by omega), u2_ne (by omega)]
theorem mRw1_p {M : Ms} {l n p : Nat} {k s : Int32} {f i : Nat} (hi : i ≠ p) (h : f ≤ 5) : mRw1 M l n p k s f i = M f i := by
  unfold mRw1 mAdd
  rw [u2_ne (by omega), u2_j hi, u2_ne (by omega), u2_ne (by omega), u2_j hi, u2_j hi, u2_j hi, u2_j hi, u2_j hi]
theorem mRw1_n {M : Ms} {l n p : Nat} {k s : Int32} : (mRw1 M l n p k s 0 p = k ∧ mRw1 M l n p k s 1 p = s ∧ mRw1 M l n p k s 2 p = nI l ∧ mRw1 M l n p k s 3 p = 0 ∧ mRw1 M l n p k s 4 p = 0 ∧ mRw1 M l n p k s 5 p = nI l) ∧ mRw1 M l n p k s 6 0 = nI (p + 1) := by
  simp [mRw1, mAdd, u2]
theorem mRw1_9 {M : Ms} {l n p : Nat} {k s : Int32} (j : Nat) : mRw1 M l n p k s 9 j = if j = l then nI (n + 1) else M 9 j := by
  unfold mRw1 mAdd
  by_cases e : j = l
  · simp [u2, e]
  · simp [u2, e]
theorem mRw1_8 {M : Ms} {l n p : Nat} {k s : Int32} (j : Nat) : mRw1 M l n p k s 8 j = if j = 300 * l + n then nI p else M 8 j := by
  unfold mRw1 mAdd
  by_cases e : j = 300 * l + n
  · simp [u2, e]
  · simp [u2, e]
theorem Rel_rw1 {C : Cs} {M : Ms} {np nl nh nw ns ng dy tt : Nat} {R Q : Nat → List Nat} (ad : Nat) {lo : Nat} {k s : Int32} (hlo : lo < nl) (l0 : M 10 lo = 0) (h7 : M 7 lo = k) (hk : ∃ kk, kk < 3 ∧ k = nI kk) (hnp : np < 300) (H : Rel C M np nl nh nw ns ng dy tt R Q) : Rel (cRw1 ad k s lo np C) (mRw1 M lo (R lo).length np k s) (np + 1) nl nh nw ns ng dy tt (fun l => if l = lo then R lo ++ [np] else R l) Q := by
  obtain ⟨⟨hX, ⟨n1, m1⟩, ⟨n2, m2⟩, ⟨n3, m3⟩, n4, m4⟩, hP, hH, hL, hR, hK, hQ, hT, hS, hG, hW, hF, hD, h42⟩ := H
  have h60 := n2.2.1
  have hc := n1.2.2.1
  have fresh : ∀ l, l < nl → np ∉ R l := fun l hl z => by have := ((hR l hl).2.2.2 np z).1; omega
  have hE : cRw1 ad k s lo np C = cApp (cRwE ad k s lo np C) lo np := rfl
  rw [hE]
  have en := cRwE_n (a := ad) (lo := lo) (k := k) (s := s) hc
  have IE := fun t f i h5 h9 => cRwE_I (a := ad) (lo := lo) (k := k) (s := s) hc t f i h5 h9
  have LE := fun t f i h5 h23 => cRwE_L (a := ad) (lo := lo) (k := k) (s := s) hc t f i h5 h23
  have NE := fun t => cRwE_N (D := C) (a := ad) (lo := lo) (p := np) (k := k) (s := s) t
  have hXE : FX (cRwE ad k s lo np C) := FX_wI (FX_wL (cPI_fx (FX_wN hX 5 ad (by decide)) _ _ _ _ _) _ _ _ _ (by decide)) _ _ _ _
  generalize cRwE ad k s lo np C = E at *
  have rowE : ∀ l, l < nl → RowC E l (R l) := fun l hl => by
    obtain ⟨r1, r2⟩ := (hR l hl).1
    refine ⟨?_, (LE 2 3 l (Or.inl (by decide)) (fun z => absurd z.1 (by decide))).trans r2⟩
    rw [LE 2 2 l (Or.inl (by decide)) (fun z => absurd z.1 (by decide))]
    exact chL_cong (fun x hx => (LE 5 7 x (Or.inr (fun z => fresh l hl (by rw [← z]; exact hx))) (fun z => absurd z.1 (by decide))).symm) r1
  have hKp := cApp_Kp E lo np
  have It : ∀ t f i, t ≠ 5 → t ≠ 2 → ¬ (t = 9 ∧ f = 7) → cI (cApp E lo np) t f i = cI C t f i := fun t f i h5 h2 h9 => (cApp_I E lo np t f i (fun z => h5 z.1) (fun z => h2 z.1)).trans (IE t f i (Or.inl h5) h9)
  have I9 : ∀ f, f ≠ 7 → cI (cApp E lo np) 9 f 0 = cI C 9 f 0 := fun f hf => It 9 f 0 (by decide) (by decide) (fun z => hf z.2)
  have Iu : ∀ t f i, t ≠ 5 → t ≠ 2 → t ≠ 9 → cI (cApp E lo np) t f i = cI C t f i := fun t f i h5 h2 h9 => It t f i h5 h2 (fun z => h9 z.1)
  have I2 : ∀ f i, ¬ (f = 4 ∧ i = lo) → cI (cApp E lo np) 2 f i = cI C 2 f i := fun f i h => (cApp_I E lo np 2 f i (fun z => absurd z.1 (by decide)) (fun z => h z.2)).trans (IE 2 f i (Or.inl (by decide)) (fun z => absurd z.1 (by decide)))
  have I5 : ∀ f i, i ≠ np → cI (cApp E lo np) 5 f i = cI C 5 f i := fun f i h => (cApp_I E lo np 5 f i (fun z => h z.2.2) (fun z => absurd z.1 (by decide))).trans (IE 5 f i (Or.inr h) (fun z => absurd z.1 (by decide)))
  have I5n : ∀ f, f ≠ 6 → cI (cApp E lo np) 5 f np = cI E 5 f np := fun f h => cApp_I E lo np 5 f np (fun z => h z.2.1) (fun z => absurd z.1 (by decide))
  have Lt : ∀ t f i, t ≠ 2 → t ≠ 5 → ¬ (t = 23 ∧ f = np) → cL (cApp E lo np) t f i = cL C t f i := fun t f i h2 h5 h23 => (cApp_Lt E lo np t f i h2 h5).trans (LE t f i (Or.inl h5) h23)
  have Lu : ∀ t f i, t ≠ 2 → t ≠ 5 → t ≠ 23 → cL (cApp E lo np) t f i = cL C t f i := fun t f i h2 h5 h23 => Lt t f i h2 h5 (fun z => h23 z.1)
  have L2 : ∀ f i, f ≠ 2 → f ≠ 3 → cL (cApp E lo np) 2 f i = cL C 2 f i := fun f i h2 h3 => (cApp_2 (Or.inr ⟨h2, h3⟩)).trans (LE 2 f i (Or.inl (by decide)) (fun z => absurd z.1 (by decide)))
  have Nt : ∀ t, t ≠ 5 → cN (cApp E lo np) t = cN C t := fun t ht => by rw [hKp.1.2.1, NE, if_neg ht]
  obtain ⟨⟨e0, e1, e2, e3, e4, e5⟩, e7, e23⟩ := en
  obtain ⟨⟨k0, k1, k2, k3, k4, k5⟩, k6⟩ := mRw1_n (M := M) (l := lo) (n := (R lo).length) (p := np) (k := k) (s := s)
  have hLo := hL lo hlo
  have c4 : cI C 2 4 lo = nI (R lo).length := by rw [hLo.2.1.2.1, (hR lo hlo).2.1.1]
  have ndl := (hR lo hlo).2.2.1
  have nd2 : (R lo ++ [np]).Nodup := List.nodup_append.mpr ⟨ndl, by simp, fun x hx y hy e => by simp at hy; rw [e, hy] at hx; exact fresh lo hlo hx⟩
  have lens : ∀ l, l < nl → (R l).length ≤ np := fun l hl => nd_len np (R l) (hR l hl).2.2.1 (fun x hx => ((hR l hl).2.2.2 x hx).1)
  refine ⟨⟨hKp.fx hXE, ⟨⟨?_, by omega, ?_, fun j hj => ?_⟩, k6⟩, ⟨n2.c (I9 8 (by decide)) (Nt 2 (by decide)) (fun j => Lu 24 j 0 (by decide) (by decide) (by decide)), (mRw1_ot (by decide)).trans m2⟩, ⟨n3.c (I9 9 (by decide)) (Nt 1 (by decide)) (fun j => Lu 25 j 0 (by decide) (by decide) (by decide)), (mRw1_ot (by decide)).trans m3⟩, n4.c (I9 10 (by decide)) (Nt 8 (by decide)) (fun j => Lu 26 j 0 (by decide) (by decide) (by decide)), (mRw1_ot (by decide)).trans m4⟩, fun x hx => ?_, hH.c (fun f x _ _ => Iu 1 f x (by decide) (by decide) (by decide)) (fun f x h1 h2 => mRw1_ot (by omega)) (mRw1_ot (by decide)), fun l hl => ?_, fun l hl => ?_, fun l hl q => ?_, fun x hx => (hQ x hx).c (fun l _ => L2 10 l (by decide) (by decide)) (Lu 1 8 x (by decide) (by decide) (by decide)) (Lu 1 9 x (by decide) (by decide) (by decide)) (Iu 1 7 x (by decide) (by decide) (by decide)) (fun l => by rw [mRw1_ot (by decide), mRw1_ot (by decide)]) (fun _ _ => mRw1_ot (by decide)), ?_, hS.c (I9 11 (by decide)) (Nt 6 (by decide)) (fun f e _ => Iu 6 f e (by decide) (by decide) (by decide)) (fun e _ => Lu 6 2 e (by decide) (by decide) (by decide)) (fun x _ => Lu 1 10 x (by decide) (by decide) (by decide)) (mRw1_ot (by decide)) (fun f e hf _ => mRw1_ot (by omega)), hG.c (I9 12 (by decide)) (Nt 7 (by decide)) (fun f e _ => Iu 7 f e (by decide) (by decide) (by decide)) (fun e _ => Lu 7 3 e (by decide) (by decide) (by decide)) (fun x _ => Lu 1 11 x (by decide) (by decide) (by decide)) (mRw1_ot (by decide)) (fun f e hf _ => mRw1_ot (by omega)), hW.c (fun x _ => Iu 8 3 x (by decide) (by decide) (by decide)) (fun i x _ => Lu 8 i x (by decide) (by decide) (by decide)) (fun _ _ => mRw1_ot (by decide)) (fun _ _ => mRw1_ot (by decide)) (fun x hx _ => ⟨mRw1_p (by omega) (by decide), mRw1_p (by omega) (by decide), mRw1_p (by omega) (by decide)⟩) (by omega), fun i hi => ?_, ⟨(I9 13 (by decide)).trans hD.1, hD.2.1, (mRw1_ot (by decide)).trans hD.2.2⟩, fun i hi => ?_⟩
  · rw [cApp_I E lo np 9 7 0 (fun z => absurd z.1 (by decide)) (fun z => absurd z.1 (by decide))]
    exact e7
  · rw [hKp.1.2.1, NE, if_pos rfl, hc]
  · rw [cApp_Lt E lo np 23 j 0 (by decide) (by decide)]
    by_cases e : j = np
    · rw [e]; exact e23
    · rw [LE 23 j 0 (Or.inl (by decide)) (fun z => e z.2)]
      exact n1.2.2.2 j (by omega)
  · by_cases e : x = np
    · subst e
      rw [I5n 0 (by decide), I5n 1 (by decide), I5n 2 (by decide), I5n 3 (by decide), I5n 4 (by decide), I5n 5 (by decide), e0, e1, e2, e3, e4, e5, cApp_56, IE 2 0 lo (Or.inl (by decide)) (fun z => absurd z.1 (by decide)), k0, k1, k2, k3, k4, k5, hLo.1]
      exact ⟨rfl, ⟨rfl, rfl, rfl, rfl, rfl, rfl⟩, hk⟩
    · have := hP x (by omega)
      rw [I5 0 x e, I5 1 x e, I5 2 x e, I5 3 x e, I5 4 x e, I5 5 x e, I5 6 x e, mRw1_p (f := 0) e (by decide), mRw1_p (f := 1) e (by decide), mRw1_p (f := 2) e (by decide), mRw1_p (f := 3) e (by decide), mRw1_p (f := 4) e (by decide), mRw1_p (f := 5) e (by decide)]
      exact this
  · have f4 : cI (cApp E lo np) 2 4 l = mRw1 M lo (R lo).length np k s 9 l := by
      rw [mRw1_9]
      by_cases e : l = lo
      · rw [if_pos e, e, cApp_24, IE 2 4 lo (Or.inl (by decide)) (fun z => absurd z.1 (by decide)), c4, nI_1]
      · rw [if_neg e, I2 4 l (fun z => e z.2)]
        exact (hL l hl).2.1.2.1
    have J : ∀ f, f ≠ 4 → cI (cApp E lo np) 2 f l = cI C 2 f l := fun f hf => I2 f l (fun z => hf z.1)
    obtain ⟨q1, ⟨q2, q3, q4⟩, q5⟩ := hL l hl
    unfold RlL1
    rw [J 0 (by decide), J 1 (by decide), f4, J 5 (by decide), J 7 (by decide), J 9 (by decide), L2 6 l (by decide) (by decide), L2 8 l (by decide) (by decide), L2 10 l (by decide) (by decide), mRw1_ot (f := 7) (by decide), mRw1_ot (f := 10) (by decide), mRw1_ot (f := 11) (by decide), mRw1_ot (f := 12) (by decide), mRw1_ot (f := 13) (by decide)]
    exact ⟨q1, ⟨q2, rfl, q4⟩, q5⟩
  · dsimp only
    by_cases e : l = lo
    · subst e
      rw [if_pos rfl]
      refine ⟨RowC_app (rowE l hlo) ndl (fresh l hlo), ⟨by rw [mRw1_9, if_pos rfl, List.length_append]; rfl, fun i q hq => ?_⟩, nd2, fun q hq => ?_⟩
      · have hi : i < (R l ++ [np]).length := by
          rcases Nat.lt_or_ge i (R l ++ [np]).length with z | z
          · exact z
          · rw [List.getElem?_eq_none z] at hq; cases hq
        rw [List.length_append] at hi
        simp at hi
        rw [mRw1_8]
        by_cases ei : i = (R l).length
        · rw [if_pos (by omega)]
          rw [ei, List.getElem?_append_right (Nat.le_refl _)] at hq
          simp at hq
          rw [hq]
        · rw [if_neg (by omega)]
          rw [List.getElem?_append_left (by omega)] at hq
          exact (hR l hl).2.1.2 i q hq
      · rcases List.mem_append.mp hq with z | z
        · have hz := (hR l hl).2.2.2 q z
          have ne : q ≠ np := by omega
          rw [mRw1_p (f := 5) ne (by decide), mRw1_p (f := 4) ne (by decide), mRw1_p (f := 0) ne (by decide), mRw1_ot (f := 7) (by decide)]
          exact ⟨by omega, hz.2⟩
        · simp at z
          rw [z, k5, k4, k0, mRw1_ot (f := 7) (by decide)]
          exact ⟨Nat.lt_succ_self _, rfl, rfl, h7.symm⟩
    · rw [if_neg e]
      obtain ⟨g1, ⟨g2, g3⟩, g4, g5⟩ := hR l hl
      have ll := lens l hl
      have llo := lens lo hlo
      refine ⟨RowC_appo (rowE lo hlo) (rowE l hl) e (fresh l hl) (fun x hx => Rel.dj hR h60 hlo hl (Ne.symm e) hx), ⟨by rw [mRw1_9, if_neg e]; exact g2, fun i q hq => ?_⟩, g4, fun q hq => ?_⟩
      · have hi : i < (R l).length := by
          rcases Nat.lt_or_ge i (R l).length with z | z
          · exact z
          · rw [List.getElem?_eq_none z] at hq; cases hq
        rw [mRw1_8, if_neg (by omega)]
        exact g3 i q hq
      · have hz := g5 q hq
        have ne : q ≠ np := by omega
        rw [mRw1_p (f := 5) ne (by decide), mRw1_p (f := 4) ne (by decide), mRw1_p (f := 0) ne (by decide), mRw1_ot (f := 7) (by decide)]
        exact ⟨by omega, hz.2⟩
  · dsimp only
    rw [mRw1_ot (by decide)] at q
    have e : l ≠ lo := fun z => by rw [z, l0] at q; exact absurd q (by decide)
    rw [if_neg e, mRw1_ot (by decide), L2 8 l (by decide) (by decide)]
    exact hK l hl q
  · obtain ⟨t1, t2, t3⟩ := hT
    refine ⟨(mRw1_ot (by decide)).trans t1, ?_, fun l hl q => ?_⟩
    · rw [cn_cong (q := fun l => decide (M 10 l = 1)) (fun i _ => by rw [mRw1_ot (by decide)])]
      exact t2
    · rw [mRw1_ot (by decide)] at q
      rw [mRw1_ot (by decide)]
      exact t3 l hl q
  · rw [Iu 0 0 i (by decide) (by decide) (by decide), Iu 0 1 i (by decide) (by decide) (by decide), mRw1_ot (by decide), mRw1_ot (by decide)]
    exact hF i hi
  · rw [mRw1_ot (by decide)]
    exact h42 i hi
