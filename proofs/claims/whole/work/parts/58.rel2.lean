/-! THE TWO: what a change leaves; fit, back -/
section RlC
variable {C D : Cs} {M N : Ms} {np nl nh nw ns ng dy tt : Nat} {R Q : Nat → List Nat}
theorem RlP.c (h : RlP C M np) (hI : ∀ k p, p < np → cI D 5 k p = cI C 5 k p) (hM : ∀ f p, f ≤ 5 → p < np → N f p = M f p) : RlP D N np := by
  intro p hp
  obtain ⟨a, ⟨b1, b2, b3, b4, b5, b6⟩, k, hk, e⟩ := h p hp
  rw [hI 0 p hp, hI 1 p hp, hI 2 p hp, hI 3 p hp, hI 4 p hp, hI 5 p hp, hI 6 p hp, hM 0 p (by decide) hp, hM 1 p (by decide) hp, hM 2 p (by decide) hp, hM 3 p (by decide) hp, hM 4 p (by decide) hp, hM 5 p (by decide) hp]
  exact ⟨a, ⟨b1, b2, b3, b4, b5, b6⟩, k, hk, e⟩
theorem cBr_c (hI : ∀ h, h < nh → cI D 1 6 h = cI C 1 6 h) : ∀ n, n ≤ nh → cBr D n = cBr C n
  | 0, _ => rfl
  | n + 1, hn => by rw [cBr, cBr, cBr_c hI n (by omega), hI n (by omega)]
theorem RlH.c (h : RlH C M nh) (hI : ∀ k h, k ≤ 6 → h < nh → cI D 1 k h = cI C 1 k h) (hM : ∀ f h, 18 ≤ f → f ≤ 23 → N f h = M f h) (h26 : N 26 0 = M 26 0) : RlH D N nh := by
  obtain ⟨h1, h2, h3⟩ := h
  refine ⟨fun x hx => ?_, ?_, fun x hx => ?_⟩
  · have := h1 x hx
    rw [hI 0 x (by decide) hx, hI 1 x (by decide) hx, hI 2 x (by decide) hx, hI 3 x (by decide) hx, hI 4 x (by decide) hx, hI 5 x (by decide) hx, hI 6 x (by decide) hx, hM 18 x (by decide) (by decide), hM 19 x (by decide) (by decide), hM 20 x (by decide) (by decide), hM 21 x (by decide) (by decide), hM 22 x (by decide) (by decide), hM 23 x (by decide) (by decide)]
    exact this
  · rw [h26, h2, cBr_c (fun h hh => hI 6 h (by decide) hh) nh (Nat.le_refl _)]
  · rw [hM 22 x (by decide) (by decide), hM 23 x (by decide) (by decide)]
    exact h3 x hx
theorem RlL1.c {l nh' : Nat} (h : RlL1 C M nh l) (hI : ∀ k, cI D 2 k l = cI C 2 k l) (hL : ∀ k, k = 6 ∨ k = 8 ∨ k = 10 → cL D 2 k l = cL C 2 k l) (hM : ∀ f, f = 7 ∨ f = 9 ∨ f = 10 ∨ f = 11 ∨ f = 12 ∨ f = 13 → N f l = M f l) (hn : nh ≤ nh') : RlL1 D N nh' l := by
  unfold RlL1
  rw [hI, hI, hI, hI, hI, hI, hL 6 (by decide), hL 8 (by decide), hL 10 (by decide), hM 7 (by decide), hM 9 (by decide), hM 10 (by decide), hM 11 (by decide), hM 12 (by decide), hM 13 (by decide)]
  obtain ⟨a, b, c, d, e, f⟩ := h
  exact ⟨a, b, c, d, fun q => by
    obtain ⟨x, hx, y⟩ := e q
    exact ⟨x, by omega, y⟩, f⟩
theorem RlR1.c {l np' : Nat} {L : List Nat} (h : RlR1 C M np l L) (h57 : ∀ p, p ∈ L → cL D 5 7 p = cL C 5 7 p) (h22 : cL D 2 2 l = cL C 2 2 l) (h23 : cL D 2 3 l = cL C 2 3 l) (h9 : N 9 l = M 9 l) (h7 : N 7 l = M 7 l) (h8 : ∀ i, i < L.length → N 8 (300 * l + i) = M 8 (300 * l + i)) (hM : ∀ f p, p ∈ L → f = 0 ∨ f = 4 ∨ f = 5 → N f p = M f p) (hn : np ≤ np') : RlR1 D N np' l L := by
  obtain ⟨⟨a, b⟩, ⟨c, d⟩, e, f⟩ := h
  refine ⟨⟨?_, by rw [h23]; exact b⟩, ⟨by rw [h9]; exact c, fun i p hp => ?_⟩, e, fun p hp => ?_⟩
  · rw [h22]
    exact chL_cong (fun x hx => (h57 x hx).symm) a
  · have hi : i < L.length := by
      rcases Nat.lt_or_ge i L.length with q | q
      · exact q
      · rw [List.getElem?_eq_none q] at hp
        cases hp
    rw [h8 i hi]
    exact d i p hp
  · obtain ⟨x, y, z, u⟩ := f p hp
    rw [hM 5 p hp (by decide), hM 4 p hp (by decide), hM 0 p hp (by decide), h7]
    exact ⟨by omega, y, z, u⟩
theorem RlK.c (h : RlK C M nl R) (h10 : ∀ l, l < nl → N 10 l = M 10 l) (h14 : ∀ l, l < nl → N 14 l = M 14 l) (hL : ∀ l, l < nl → cL D 2 8 l = cL C 2 8 l) : RlK D N nl R := by
  intro l hl
  rw [h10 l hl, h14 l hl, hL l hl]
  exact h l hl
theorem RlQ1.c {h : Nat} {L : List Nat} (q : RlQ1 C M nl h L) (hL : ∀ l, l < nl → cL D 2 10 l = cL C 2 10 l) (h8 : cL D 1 8 h = cL C 1 8 h) (h9 : cL D 1 9 h = cL C 1 9 h) (h7 : cI D 1 7 h = cI C 1 7 h) (hm : ∀ l, (l < nl ∧ N 10 l = 2 ∧ N 11 l = nI h) ↔ (l < nl ∧ M 10 l = 2 ∧ M 11 l = nI h)) (h15 : ∀ l, l < nl → N 15 l = M 15 l) : RlQ1 D N nl h L := by
  obtain ⟨⟨a, b, c⟩, d, e, f⟩ := q
  have mem : ∀ l, l ∈ L → l < nl := fun l hl => ((e l).mp hl).1
  refine ⟨⟨?_, by rw [h9]; exact b, by rw [h7]; exact c⟩, d, fun l => (e l).trans (hm l).symm, ?_⟩
  · rw [h8]
    exact chL_cong (fun x hx => (hL x (mem x hx)).symm) a
  · refine f.imp_of_mem (fun {x y} hx hy z => ?_)
    rw [h15 x (mem x hx), h15 y (mem y hy)]
    exact z
theorem RlS.c (h : RlS C M nh ns) (h11 : cI D 9 11 0 = cI C 9 11 0) (h6 : cN D 6 = cN C 6) (hI : ∀ k e, e < ns → cI D 6 k e = cI C 6 k e) (hL : ∀ e, e < ns → cL D 6 2 e = cL C 6 2 e) (h10 : ∀ h, h < nh → cL D 1 10 h = cL C 1 10 h) (h30 : N 30 0 = M 30 0) (hM : ∀ f e, f = 27 ∨ f = 28 ∨ f = 29 → e < ns → N f e = M f e) : RlS D N nh ns := by
  obtain ⟨⟨a, b, c, d⟩, e, f⟩ := h
  refine ⟨⟨h11.trans a, b, h6.trans c, h30.trans d⟩, fun x hx => ?_, fun x hx => ?_⟩
  · rw [hI 0 x hx, hI 1 x hx, hM 28 x (by decide) hx, hM 29 x (by decide) hx, hM 27 x (by decide) hx]
    exact e x hx
  · rw [h10 x hx, dsc_cong (q := fun e => decide (M 27 e = nI x)) (fun i hi => by rw [hM 27 i (by decide) hi])]
    exact chL_cong (fun y hy => (hL y (dsc_mem hy).1).symm) (f x hx)
theorem RlG.c (h : RlG C M nh ng) (h11 : cI D 9 12 0 = cI C 9 12 0) (h6 : cN D 7 = cN C 7) (hI : ∀ k e, e < ng → cI D 7 k e = cI C 7 k e) (hL : ∀ e, e < ng → cL D 7 3 e = cL C 7 3 e) (h10 : ∀ h, h < nh → cL D 1 11 h = cL C 1 11 h) (h30 : N 35 0 = M 35 0) (hM : ∀ f e, f = 31 ∨ f = 32 ∨ f = 33 ∨ f = 34 → e < ng → N f e = M f e) : RlG D N nh ng := by
  obtain ⟨⟨a, b, c, d⟩, e, f⟩ := h
  refine ⟨⟨h11.trans a, b, h6.trans c, h30.trans d⟩, fun x hx => ?_, fun x hx => ?_⟩
  · rw [hI 0 x hx, hI 1 x hx, hI 2 x hx, hM 34 x (by decide) hx, hM 32 x (by decide) hx, hM 33 x (by decide) hx, hM 31 x (by decide) hx]
    exact e x hx
  · rw [h10 x hx, dsc_cong (q := fun e => decide (M 31 e = nI x)) (fun i hi => by rw [hM 31 i (by decide) hi])]
    exact chL_cong (fun y hy => (hL y (dsc_mem hy).1).symm) (f x hx)
theorem RlW.c {np' : Nat} (h : RlW C M np nw) (h3 : ∀ k, k < nw → cI D 8 3 k = cI C 8 3 k) (hL : ∀ i k, k < nw → cL D 8 i k = cL C 8 i k) (h39 : ∀ k, k < nw → N 39 k = M 39 k) (h38 : ∀ i, i < 3 * nw → N 38 i = M 38 i) (hM : ∀ p, p < np → M 4 p = 2 → N 4 p = M 4 p ∧ N 5 p = M 5 p ∧ N 0 p = M 0 p) (hn : np ≤ np') : RlW D N np' nw := by
  intro k hk
  obtain ⟨a, b⟩ := h k hk
  refine ⟨by rw [h3 k hk, h39 k hk]; exact a, fun i hi => ?_⟩
  obtain ⟨p, hp, q1, q2, q3, q4, q5⟩ := b i hi
  obtain ⟨m4, m5, m0⟩ := hM p hp q3
  exact ⟨p, by omega, by rw [hL i k hk]; exact q1, by rw [h38 (3 * k + i) (by omega)]; exact q2, m4.trans q3, m5.trans q4, m0.trans q5⟩
end RlC
theorem m41_ot {M : Ms} {f i : Nat} (h : f ≠ 41) : m41 M f i = M f i := u2_ne h
theorem Rel_fit {C : Cs} {M : Ms} {np nl nh nw ns ng dy tt : Nat} {R Q : Nat → List Nat} (j : Nat) (a b : Int32) (h : Rel C M np nl nh nw ns ng dy tt R Q) : Rel (cFit C j a b) (mFit M j a b) np nl nh nw ns ng dy tt R Q := by
  obtain ⟨hN, hP, hH, hL, hR, hK, hQ, hT, hS, hG, hW, hF, hD, h42⟩ := h
  have eI : ∀ t k i, t ≠ 0 → cI (cFit C j a b) t k i = cI C t k i := fun t k i ht => by
    rw [cFit, cI_wI, if_neg (fun q => ht q.1), cI_wI, if_neg (fun q => ht q.1)]
  have eH : cBr (cFit C j a b) nh = cBr C nh := cBr_c (fun h _ => eI 1 6 h (by decide)) nh (Nat.le_refl _)
  refine ⟨hN, hP, hH.c (fun k h _ _ => eI 1 k h (by decide)) (fun f x h1 h2 => by
    show u2 (u2 (m41 M) 36 j a) 37 j b f x = _
    rw [u2_ne (by omega), u2_ne (by omega), m41_ot (by omega)]) rfl, hL, hR, hK, hQ, hT, hS, hG, hW, fun i hi => ?_, hD, h42⟩
  obtain ⟨f1, f2⟩ := hF i hi
  refine ⟨?_, ?_⟩
  · rw [cFit, cI_wI, if_neg (fun q => absurd q.2.1 (by decide)), cI_wI]
    show _ = u2 (u2 (m41 M) 36 j a) 37 j b 36 i
    by_cases e : i = j
    · subst e
      simp [u2]
    · rw [if_neg (fun q => e q.2.2), f1]
      simp [u2, e]
      rfl
  · rw [cFit, cI_wI]
    show _ = u2 (u2 (m41 M) 36 j a) 37 j b 37 i
    by_cases e : i = j
    · subst e
      simp [u2]
    · rw [if_neg (fun q => e q.2.2), cI_wI, if_neg (fun q => absurd q.2.1 (by decide)), f2]
      simp [u2, e]
      rfl
