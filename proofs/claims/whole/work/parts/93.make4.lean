/-! THE TWO: the making -/
theorem gE {L : List Nat} {i p : Nat} (h : L[i]? = some p) : i < L.length := by
  rcases Nat.lt_or_ge i L.length with z | z
  · exact z
  · rw [List.getElem?_eq_none z] at h; cases h
theorem gI_u {L : List Nat} (hn : L.Nodup) {i j p : Nat} (h : L[i]? = some p) (k : L[j]? = some p) : i = j := by
  exact (List.getElem?_inj (gE h) hn).mp (h.trans k.symm)
theorem pAt_x {C : Cs} {lo n p x : Nat} {L : List Nat} (hc : chL (cL C 5 7) (cL C 2 2 lo) L) (hL : L.length = n) (hn : n ≤ 300) (h : L[p]? = some x) : pAt C lo n (nI p) = x + 1 := by
  have hp := gE h
  unfold pAt
  rw [if_pos ⟨nI_le (a := 0) (Nat.zero_le _) (by omega), (nI_ltI (by omega) (by omega)).mpr (by omega)⟩, pN_n (by omega)]
  exact chL_nth hc h
theorem RelT_g {C : Cs} {M : Ms} {np nl nh nw ns ng dy tt : Nat} {R Q : Nat → List Nat} {X : Nat → Bool} (H : RelT C M np nl nh nw ns ng dy tt R Q X) {l p x : Nat} (hl : l < nl) (h : (R l)[p]? = some x) : (prN M l p = x ∧ x < np ∧ M 0 x = M 7 l ∧ (R l).length ≤ 300) ∧ (X x = false → M 4 x = 0) ∧ chL (cL C 5 7) (cL C 2 2 l) (R l) := by
  obtain ⟨g1, g2, g3, g4⟩ := H.2.2.2.2.1 l hl
  obtain ⟨⟨a1, a2⟩, a3, _⟩ := g4 x (List.mem_of_getElem? h)
  have h3 : np ≤ 300 := H.1.2.1.1.2.1
  have := nd_len np (R l) g3 (fun y hy => (g4 y hy).1.1)
  refine ⟨⟨?_, a1, a2, by omega⟩, fun z => (a3 z).2, g1.1⟩
  unfold prN
  rw [g2.2 p x h, pN_n (by omega)]
/-- which pieces are taken: by places -/
def TkP (R : Nat → List Nat) (l : Nat) (X : Nat → Bool) (f : Nat → Bool) : Prop := ∀ j x, (R l)[j]? = some x → X x = f j
theorem TkP.s {R : Nat → List Nat} {l p x : Nat} {X Y : Nat → Bool} {f g : Nat → Bool} (hn : (R l).Nodup) (h : TkP R l X f) (hx : (R l)[p]? = some x) (hY : ∀ y, y ∈ R l → Y y = (X y || decide (y = x))) (hg : ∀ j, j < (R l).length → g j = (f j || decide (j = p))) : TkP R l Y g := fun j y hy => by
  rw [hY y (List.mem_of_getElem? hy), h j y hy, hg j (gE hy)]
  congr 1
  by_cases e : j = p
  · rw [e] at hy
    have : y = x := Option.some.inj (hy.symm.trans hx)
    rw [decide_eq_true this, decide_eq_true e]
  · have : ¬ y = x := fun z => e (gI_u hn (by rw [z] at hy; exact hy) hx)
    rw [decide_eq_false this, decide_eq_false e]
theorem mkL_ok {np nl nh ns ng dy tt : Nat} {R Q : Nat → List Nat} {a b c B : Nat} {g0 g1 : Nat → Nat} (ha : a < nl) (hb : b < nl) (hc : c < nl) (hB : B < 2 ^ (R b).length) (hB10 : B < 1024) (hab : ∀ y, y ∈ R a → y ∉ R b) (hac : ∀ y, y ∈ R a → y ∉ R c) (hbc : ∀ y, y ∈ R b → y ∉ R c) (hot : ∀ l, l < nl → l ≠ a → l ≠ b → l ≠ c → ∀ y, y ∈ R l → y ∉ R a ∧ y ∉ R b ∧ y ∉ R c) : ∀ (d i be o0 o1 nw : Nat) (X : Nat → Bool) (D : Cs) (M : Ms) (T : List (Nat × Nat × Nat)) (ads : List Nat) (pl st : Nat), i + d = 10 → ads.length = d → be < 1024 → (∀ k, be.testBit k = true ↔ i ≤ k ∧ B.testBit k = true) → MkS g0 g1 T be o0 o1 pl st → nw + T.length ≤ 100 → RelT D M np nl nh nw ns ng dy tt R Q X → (M 7 a = 0 ∧ M 7 b = 1 ∧ M 7 c = 2) → ((∀ k, o0.testBit k = true → k < (R a).length) ∧ ∀ k, o1.testBit k = true → k < (R c).length) → TkP R a X (fun j => !o0.testBit j) → TkP R b X (fun j => B.testBit j && decide (j < i)) → TkP R c X (fun j => !o1.testBit j) → (∀ l, l < nl → l ≠ a → l ≠ b → l ≠ c → ∀ y, y ∈ R l → X y = false) → (cI D 3 4 0 = nI B ∧ ∀ q, q ∈ T → cX D 2 q.1 = nI q.2.1 ∧ cX D 5 q.1 = nI q.2.2) → ∃ X', RelT (mkL a b c (R a).length (R b).length (R c).length ads i nw D).1 (mMk a b c T nw M) np nl nh (nw + T.length) ns ng dy tt R Q X' ∧ TkP R a X' (fun j => !pl.testBit j) ∧ TkP R b X' (fun j => B.testBit j) ∧ TkP R c X' (fun j => !st.testBit j) ∧ ∀ l, l < nl → l ≠ a → l ≠ b → l ≠ c → ∀ y, y ∈ R l → X' y = false := by
  intro d
  induction d with
  | zero =>
    intro i be o0 o1 nw X D M T ads pl st hi had hbe hbk hmk hnw H h7 ho ta tb tc tO hs
    have e0 : be = 0 := by
      apply Nat.eq_of_testBit_eq
      intro k
      rw [z_bit]
      cases q : be.testBit k with
      | false => rfl
      | true =>
        obtain ⟨x, y⟩ := (hbk k).mp q
        have := b_lt hB10 y
        omega
    obtain rfl : ads = [] := List.length_eq_zero_iff.mp had
    cases T with
    | cons q t => exact absurd e0 hmk.1
    | nil =>
      obtain ⟨_, rfl, rfl⟩ := hmk
      refine ⟨X, H, ta, fun j x hx => ?_, tc, tO⟩
      rw [tb j x hx]
      dsimp only
      cases q : B.testBit j with
      | false => rfl
      | true =>
        have := b_lt hB10 q
        rw [decide_eq_true (by omega)]
        rfl
  | succ d ih =>
    intro i be o0 o1 nw X D M T ads pl st hi had hbe hbk hmk hnw H h7 ho ta tb tc tO hs
    have hi10 : i < 10 := by omega
    obtain ⟨ad, ads, rfl⟩ : ∃ ad t, ads = ad :: t := by
      cases ads with
      | nil => cases had
      | cons x t => exact ⟨x, t, rfl⟩
    have had' : ads.length = d := by rw [List.length_cons] at had; omega
    rw [mkL, hs.1]
    by_cases cB : B.testBit i = true
    · rw [if_pos ((bit1 hB10 hi10).mpr cB)]
      have bi : be.testBit i = true := (hbk i).mpr ⟨Nat.le_refl _, cB⟩
      cases T with
      | nil =>
        rw [hmk.1, z_bit] at bi
        cases bi
      | cons q t =>
        obtain ⟨w, p, s⟩ := q
        obtain ⟨b0, q1, f0, f1, q5⟩ := hmk
        dsimp only at q1 f0 f1 q5
        have tzi : tz be = i := by
          have t1 := (hbk (tz be)).mp (tz_ok be hbe (by omega)).2
          rcases Nat.lt_or_ge i (tz be) with w | w
          · have := tz_lo be hbe i w
            rw [this] at bi
            cases bi
          · omega
        have ew : w = i := q1.trans tzi
        subst ew
        obtain ⟨s2, s5⟩ := hs.2 (w, p, s) (List.mem_cons_self ..)
        dsimp only at s2 s5
        have op : o0.testBit p = true := f0.2.1.2.1
        have os : o1.testBit s = true := f1.2.1.2.1
        obtain ⟨x, hx⟩ : ∃ x, (R a)[p]? = some x := ⟨_, List.getElem?_eq_getElem (ho.1 p op)⟩
        obtain ⟨z, hz⟩ : ∃ z, (R c)[s]? = some z := ⟨_, List.getElem?_eq_getElem (ho.2 s os)⟩
        obtain ⟨y, hy⟩ : ∃ y, (R b)[w]? = some y := ⟨_, List.getElem?_eq_getElem (bl_lt hB cB)⟩
        obtain ⟨⟨x1, x2, x3, x4⟩, x5, x6⟩ := RelT_g H ha hx
        obtain ⟨⟨y1, y2, y3, y4⟩, y5, y6⟩ := RelT_g H hb hy
        obtain ⟨⟨z1, z2, z3, z4⟩, z5, z6⟩ := RelT_g H hc hz
        have Xx : X x = false := by rw [ta p x hx]; dsimp only; rw [op]; rfl
        have Xy : X y = false := by rw [tb w y hy]; dsimp only; rw [decide_eq_false (Nat.lt_irrefl w), Bool.and_false]
        have Xz : X z = false := by rw [tc s z hz]; dsimp only; rw [os]; rfl
        rw [s2, s5, pAt_x x6 rfl x4 hx, pAt_x y6 rfl y4 hy, pAt_x z6 rfl z4 hz]
        rw [List.length_cons] at hnw
        have hn100 : nw < 100 := by omega
        have eA : cAsm ad nw (x + 1) (y + 1) (z + 1) D = (cAs D ad x y z nw, nw + 1) := by
          show (if nw < 100 then (cAs D ad x y z nw, nw + 1) else (D, nw)) = _
          rw [if_pos hn100]
        have eM : mMk a b c ((w, p, s) :: t) nw M = mMk a b c t (nw + 1) (mW M nw x y z) := by
          show mMk a b c t (nw + 1) (mW M nw (prN M a p) (prN M b w) (prN M c s)) = _
          rw [x1, y1, z1]
        rw [eA, eM]
        have H2 := RelT_as (a := ad) hn100 ⟨x2, x5 Xx, x3.trans h7.1⟩ ⟨y2, y5 Xy, y3.trans h7.2.1⟩ ⟨z2, z5 Xz, z3.trans h7.2.2⟩ H
        have mx := List.mem_of_getElem? hx
        have my := List.mem_of_getElem? hy
        have mz := List.mem_of_getElem? hz
        have hc8 : cN D 8 = nw := H.1.2.2.2.2.1.2.2.1
        have no7 : ∀ l, mW M nw x y z 7 l = M 7 l := fun l => mW_ot M nw x y z 7 l (by decide)
        have nda := (H.2.2.2.2.1 a ha).2.2.1
        have ndb := (H.2.2.2.2.1 b hb).2.2.1
        have ndc := (H.2.2.2.2.1 c hc).2.2.1
        have res := ih (w + 1) (be ^^^ 2 ^ w) (o0 ^^^ 2 ^ p) (o1 ^^^ 2 ^ s) (nw + 1) _ (cAs D ad x y z nw) (mW M nw x y z) t ads pl st (by omega) had' (x_lt hbe (p_lt hi10)) (fun k => ?_) q5 (by omega) H2 ⟨(no7 a).trans h7.1, (no7 b).trans h7.2.1, (no7 c).trans h7.2.2⟩ ⟨fun k hk => ho.1 k (x_sub op hk).1, fun k hk => ho.2 k (x_sub os hk).1⟩ (TkP.s nda ta hx (fun v hv => ?_) (fun j hj => ?_)) (TkP.s ndb tb hy (fun v hv => ?_) (fun j hj => ?_)) (TkP.s ndc tc hz (fun v hv => ?_) (fun j hj => ?_)) (fun l hl n1 n2 n3 v hv => ?_) ⟨(cAs_I hc8 3 4 0 (by decide) (fun q => absurd q.1 (by decide)) (fun q => absurd q.1 (by decide))).trans hs.1, fun q hq => hs.2 q (List.mem_cons_of_mem _ hq)⟩
        · obtain ⟨X', r1, r2⟩ := res
          rw [show nw + 1 + t.length = nw + (t.length + 1) by omega] at r1
          exact ⟨X', r1, r2⟩
        · by_cases e : w = k
          · rw [← e, xb_eq bi]
            exact ⟨fun q => absurd q Bool.false_ne_true, fun q => by omega⟩
          · rw [xb_ne e, hbk k]
            exact ⟨fun q => ⟨by omega, q.2⟩, fun q => ⟨by omega, q.2⟩⟩
        · have n1 : ¬ v = y := fun q => hab v hv (by rw [q]; exact my)
          have n2 : ¬ v = z := fun q => hac v hv (by rw [q]; exact mz)
          rw [decide_eq_false n1, decide_eq_false n2, Bool.or_false, Bool.or_false]
        · by_cases e : j = p
          · rw [e, xb_eq op, op, decide_eq_true rfl]
            rfl
          · rw [xb_ne (Ne.symm e), decide_eq_false e, Bool.or_false]
        · have n1 : ¬ v = x := fun q => hab x mx (by rw [← q]; exact hv)
          have n2 : ¬ v = z := fun q => hbc v hv (by rw [q]; exact mz)
          rw [decide_eq_false n1, decide_eq_false n2, Bool.or_false, Bool.false_or]
        · by_cases e : j = w
          · rw [e, cB, decide_eq_true (Nat.lt_succ_self w), decide_eq_true rfl]
            exact (Bool.or_true _).symm
          · rw [decide_eq_false e, Bool.or_false]
            congr 1
            exact decide_eq_decide.mpr ⟨fun q => by omega, fun q => by omega⟩
        · have n1 : ¬ v = x := fun q => hac x mx (by rw [← q]; exact hv)
          have n2 : ¬ v = y := fun q => hbc y my (by rw [← q]; exact hv)
          rw [decide_eq_false n1, decide_eq_false n2, Bool.false_or, Bool.false_or]
        · by_cases e : j = s
          · rw [e, xb_eq os, os, decide_eq_true rfl]
            rfl
          · rw [xb_ne (Ne.symm e), decide_eq_false e, Bool.or_false]
        · obtain ⟨k1, k2, k3⟩ := hot l hl n1 n2 n3 v hv
          have m1 : ¬ v = x := fun q => k1 (by rw [q]; exact mx)
          have m2 : ¬ v = y := fun q => k2 (by rw [q]; exact my)
          have m3 : ¬ v = z := fun q => k3 (by rw [q]; exact mz)
          rw [tO l hl n1 n2 n3 v hv, decide_eq_false m1, decide_eq_false m2, decide_eq_false m3]
          rfl
    · rw [if_neg (fun q => cB ((bit1 hB10 hi10).mp q))]
      refine ih (i + 1) be o0 o1 nw X D M T ads pl st (by omega) had' hbe (fun k => ?_) hmk hnw H h7 ho ta (fun j x hx => ?_) tc tO hs
      · rw [hbk k]
        refine ⟨fun q => ⟨?_, q.2⟩, fun q => ⟨by omega, q.2⟩⟩
        by_cases e : i = k
        · rw [← e] at q
          exact absurd q.2 cB
        · omega
      · rw [tb j x hx]
        dsimp only
        by_cases e : j = i
        · have : B.testBit i = false := by simpa using cB
          rw [e, this]
          rfl
        · congr 1
          exact decide_eq_decide.mpr ⟨fun q => by omega, fun q => by omega⟩
theorem RelT_dt2 {C : Cs} {M : Ms} {np nl nh nw ns ng dy tt : Nat} {R Q : Nat → List Nat} {X : Nat → Bool} {l s : Nat} {L : List Nat} (hL : R l = L) (hl : l < nl) (h10 : M 10 l = 0) (hs : ∀ j p, L[j]? = some p → s.testBit j = X p) (hdj : ∀ j, j < nl → j ≠ l → ∀ y, y ∈ L → y ∉ R j) (H : RelT C M np nl nh nw ns ng dy tt R Q X) : RelT (cDT l L 0 C) (mLvP l s L.length L.length M) np nl nh nw ns ng dy tt (fun j => if j = l then L.filter (fun x => !X x) else R j) Q X := by
  subst hL
  exact RelT_dt hl h10 hs hdj H
/-- what making keeps for itself -/
theorem Rel_sc {C D : Cs} {M N : Ms} {np nl nh nw ns ng dy tt : Nat} {R Q : Nat → List Nat} (hK : Km C D) (hM : ∀ f i, f ≠ 42 → N f i = M f i) (h42 : G42 N) (H : Rel C M np nl nh nw ns ng dy tt R Q) : Rel D N np nl nh nw ns ng dy tt R Q := by
  obtain ⟨⟨hX, ⟨n1, m1⟩, ⟨n2, m2⟩, ⟨n3, m3⟩, n4, m4⟩, hP, hH, hL, hR, hKK, hQ, hT, hS, hG, hW, hF, hD, _⟩ := H
  have I : ∀ t k i, t ≠ 3 → t ≠ 4 → cI D t k i = cI C t k i := hK.2
  have L : ∀ t k i, cL D t k i = cL C t k i := fun t k i => by rw [hK.1.2.2]
  have N' : ∀ t, cN D t = cN C t := fun t => by rw [hK.1.2.1]
  refine ⟨⟨hK.fx hX, ⟨n1.c (I 9 7 0 (by decide) (by decide)) (N' 5) (fun j => L 23 j 0), (hM 6 0 (by decide)).trans m1⟩, ⟨n2.c (I 9 8 0 (by decide) (by decide)) (N' 2) (fun j => L 24 j 0), (hM 16 0 (by decide)).trans m2⟩, ⟨n3.c (I 9 9 0 (by decide) (by decide)) (N' 1) (fun j => L 25 j 0), (hM 24 0 (by decide)).trans m3⟩, n4.c (I 9 10 0 (by decide) (by decide)) (N' 8) (fun j => L 26 j 0), (hM 40 0 (by decide)).trans m4⟩, hP.c (fun k p _ => I 5 k p (by decide) (by decide)) (fun f p hf _ => hM f p (by omega)), hH.c (fun k x _ _ => I 1 k x (by decide) (by decide)) (fun f x h1 h2 => hM f x (by omega)) (hM 26 0 (by decide)), fun l hl => (hL l hl).c (fun k => I 2 k l (by decide) (by decide)) (fun k _ => L 2 k l) (fun f hf => hM f l (by omega)) (Nat.le_refl _), fun l hl => (hR l hl).c (fun p _ => L 5 7 p) (L 2 2 l) (L 2 3 l) (hM 9 l (by decide)) (hM 7 l (by decide)) (fun i _ => hM 8 _ (by decide)) (fun f p _ hf => hM f p (by omega)) (Nat.le_refl _), hKK.c (fun l _ => hM 10 l (by decide)) (fun l _ => hM 14 l (by decide)) (fun l _ => L 2 8 l), fun h hh => (hQ h hh).c (fun l _ => L 2 10 l) (L 1 8 h) (L 1 9 h) (I 1 7 h (by decide) (by decide)) (fun l => by rw [hM 10 l (by decide), hM 11 l (by decide)]) (fun l _ => hM 15 l (by decide)), ?_, hS.c (I 9 11 0 (by decide) (by decide)) (N' 6) (fun k e _ => I 6 k e (by decide) (by decide)) (fun e _ => L 6 2 e) (fun x _ => L 1 10 x) (hM 30 0 (by decide)) (fun f e hf _ => hM f e (by omega)), hG.c (I 9 12 0 (by decide) (by decide)) (N' 7) (fun k e _ => I 7 k e (by decide) (by decide)) (fun e _ => L 7 3 e) (fun x _ => L 1 11 x) (hM 35 0 (by decide)) (fun f e hf _ => hM f e (by omega)), hW.c (fun x _ => I 8 3 x (by decide) (by decide)) (fun i x _ => L 8 i x) (fun k _ => hM 39 k (by decide)) (fun i _ => hM 38 i (by decide)) (fun p _ _ => ⟨hM 4 p (by decide), hM 5 p (by decide), hM 0 p (by decide)⟩) (Nat.le_refl _), fun i hi => ?_, ⟨(I 9 13 0 (by decide) (by decide)).trans hD.1, hD.2.1, (hM 25 0 (by decide)).trans hD.2.2⟩, h42⟩
  · obtain ⟨t1, t2, t3⟩ := hT
    refine ⟨(hM 17 0 (by decide)).trans t1, ?_, fun j hj z => ?_⟩
    · rw [cn_cong (q := fun j => decide (M 10 j = 1)) (fun i _ => by rw [hM 10 i (by decide)])]
      exact t2
    · rw [hM 10 j (by decide)] at z
      rw [hM 15 j (by decide)]
      exact t3 j hj z
  · rw [I 0 0 i (by decide) (by decide), I 0 1 i (by decide) (by decide), hM 36 i (by decide), hM 37 i (by decide)]
    exact hF i hi
