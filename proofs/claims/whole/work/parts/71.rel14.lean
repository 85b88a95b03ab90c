/-! THE TWO: a home's day -/
theorem le0 {x : Int32} (h : 0 ≤ x) : x ≤ 0 ↔ x = 0 := by
  rw [i_le] at h
  rw [i_le, i_eq]
  omega
theorem Rel_wrk {C : Cs} {M : Ms} {np nl nh nw ns ng dy tt : Nat} {R Q : Nat → List Nat} {h l p x : Nat} (hh : h < nh) (hl : l < nl) (h10 : M 10 l = 2) (h14 : M 14 l = nI x) (h28 : cL C 2 8 l = lsC ((R l).take x)) (hx : (R l)[x]? = some p) (H : Rel C M np nl nh nw ns ng dy tt R Q) : ∃ R', Rel (cWP C h l p) (mWork M h l) np nl nh nw ns ng dy tt R' Q := by
  have hi : x < (R l).length := by
    rcases Nat.lt_or_ge x (R l).length with z | z
    · exact z
    · rw [List.getElem?_eq_none z] at hx; cases hx
  have hRl := H.2.2.2.2.1 l hl
  have hp := (hRl.2.2.2 p (List.mem_of_getElem? hx)).1
  have h300 := H.1.2.1.1.2.1
  have hlen := nd_len np (R l) hRl.2.2.1 (fun y hy => (hRl.2.2.2 y hy).1)
  have h8 := hRl.2.1.2 x p hx
  obtain ⟨n, hn⟩ : ∃ n, (R l).length = n + 1 := ⟨(R l).length - 1, by omega⟩
  have h9 : M 9 l = nI (n + 1) := by rw [hRl.2.1.1, hn]
  have hHh := H.2.2.1.1 h hh
  rw [mWork_eq h14 h9 h8 (by omega) (by omega) (by omega)]
  have w4 := Rel_w4 hh hl hp h10 H
  unfold mWorkX cWP
  rw [hHh.2.1.2.2.1, hHh.2.1.2.2.2.2.1]
  have iff1 := le0 hHh.2.2.2.1.1
  by_cases c : M 20 h = 0 ∨ ¬ remI (M 22 h + 1) (M 20 h) = 0
  · rw [if_pos c, if_pos (c.elim (fun z => Or.inl (iff1.mpr z)) Or.inr)]
    exact ⟨R, Rel_kp hl h10 hx w4⟩
  · rw [if_neg c, if_neg (fun z => c (z.elim (fun y => Or.inl (iff1.mp y)) Or.inr))]
    have hp2 : (R l)[x] = p := by
      have := List.getElem?_eq_getElem hi
      rw [hx] at this
      exact (Option.some.inj this).symm
    have hsp : R l = (R l).take x ++ p :: (R l).drop (x + 1) := by
      rw [← hp2, ← drop_s hi, List.take_append_drop]
    have lx : ((R l).take x).length = x := by rw [List.length_take]; omega
    have lt : ((R l).drop (x + 1)).length = n - x := by rw [List.length_drop]; omega
    have h14' : mWork4 M h l p 14 l = nI ((R l).take x).length := by rw [lx]; exact h14
    have b := Rel_bk (C := cW4 C h l p) (M := mWork4 M h l p) (X := (R l).take x) (t := (R l).drop (x + 1)) hh hl h10 h14' h28 hsp w4
    rw [lx, lt, show x + (n - x) = n by omega] at b
    have e1 : cBk C h l p = cUnl (cB0 (cW4 C h l p) h p) l (lsC ((R l).take x)) p := by
      unfold cBk cB0
      rw [h28, hHh.1, cW4_I C h l p 1 6 h (fun z => absurd z.1 (by decide)) (fun z => absurd z.2.1 (by decide)) (fun z => absurd z.1 (by decide))]
    rw [e1]
    exact ⟨_, b⟩
theorem chL_ls {nx : Nat → Nat} {q : Nat} {Y : List Nat} : ∀ {X : List Nat} {c : Nat}, lsC X = q + 1 → chL nx c (X ++ Y) → chL nx (nx q) Y
  | [], _, h, _ => by simp [lsC] at h
  | [r], c, h, hc => by
    have e : r = q := by simp [lsC] at h; exact h
    subst e
    exact hc.2
  | r :: s :: X, c, h, hc => by
    rw [lsC] at h
    exact chL_ls (X := s :: X) h hc.2
theorem cNW_ch {C : Cs} {l x : Nat} {L : List Nat} (h : chL (cL C 5 7) (cL C 2 2 l) L) (h28 : cL C 2 8 l = lsC (L.take x)) : chL (cL C 5 7) (cNW C l) (L.drop x) := by
  have e : L = L.take x ++ L.drop x := (List.take_append_drop x L).symm
  unfold cNW
  rw [h28]
  cases c : lsC (L.take x) with
  | zero =>
    have := lsC_0 c
    rw [e, this] at h
    exact h
  | succ q =>
    rw [e] at h
    exact chL_ls c h
theorem Rel_hd {np nl nh nw ns ng dy tt h rate : Nat} (hh : h < nh) (hr : rate ≤ 20) : ∀ (f F lf n : Nat) (C : Cs) (M : Ms) (R Q : Nat → List Nat), Rel C M np nl nh nw ns ng dy tt R Q → M 18 h = nI rate → n + lf = rate → (Q h).length + lf ≤ f → (Q h).length + lf < F → ∃ R' Q', Rel (cWD h f n C).1 (dH h nl F M lf).1 np nl nh nw ns ng dy tt R' Q' ∧ (cWD h f n C).2 = n + (dH h nl F M lf).2
  | f, 0, lf, n, C, M, R, Q, H, _, _, _, hF => by omega
  | 0, F + 1, lf, n, C, M, R, Q, H, h18, hn, hf, hF => by
    have q0 : Q h = [] := List.length_eq_zero_iff.mp (by omega)
    have qh := H.2.2.2.2.2.2.1 h hh
    rw [q0] at qh
    rw [dH, qh.no]
    exact ⟨R, Q, H, rfl⟩
  | f + 1, F + 1, lf, n, C, M, R, Q, H, h18, hn, hf, hF => by
    have qh := H.2.2.2.2.2.2.1 h hh
    cases q0 : Q h with
    | nil =>
      rw [q0] at qh
      have c8 : cL C 1 8 h = 0 := qh.1.1
      rw [dH, qh.no, cWD, c8]
      exact ⟨R, Q, H, rfl⟩
    | cons l t =>
      rw [q0] at qh hf hF
      rw [List.length_cons] at hf hF
      have c8 : cL C 1 8 h = l + 1 := qh.1.1.1
      obtain ⟨hl, h10, h11⟩ := (qh.2.2.1 l).mp (List.mem_cons_self ..)
      obtain ⟨x, hx, h14, h28⟩ := H.2.2.2.2.2.1 l hl h10
      have hRl := H.2.2.2.2.1 l hl
      have h300 := H.1.2.1.1.2.1
      have hlen := nd_len np (R l) hRl.2.2.1 (fun y hy => (hRl.2.2.2 y hy).1)
      have cn := cNW_ch hRl.1.1 h28
      rw [dH, qh.first, cWD, c8]
      dsimp only
      rw [hRl.2.1.1, h14]
      rcases Nat.lt_or_ge x (R l).length with c | c
      · have hd := drop_s c
        rw [hd] at cn
        have cnw : cNW C l = (R l)[x] + 1 := cn.1
        rw [cnw, if_neg (fun z => by have := (nI_leI (by omega) (by omega)).mp z; omega)]
        dsimp only
        rw [(H.2.2.1.1 h hh).2.1.1, h18]
        by_cases c2 : 0 < lf
        · rw [if_pos c2, if_pos ((nI_ltI (by omega) (by omega)).mpr (by omega))]
          obtain ⟨R1, h1⟩ := Rel_wrk (p := (R l)[x]) hh hl h10 h14 h28 (List.getElem?_eq_getElem c) H
          have m18 : mWork M h l 18 h = nI rate := (mWorkX_ot _ _ _ _ _ _ 18 h (by decide)).trans h18
          obtain ⟨R2, Q2, h2, e2⟩ := Rel_hd hh hr f F (lf - 1) (n + 1) _ _ R1 Q h1 m18 (by omega) (by rw [q0, List.length_cons]; omega) (by rw [q0, List.length_cons]; omega)
          refine ⟨R2, Q2, h2, ?_⟩
          dsimp only
          rw [e2]
          omega
        · rw [if_neg c2, if_neg (fun z => by have := (nI_ltI (by omega) (by omega)).mp z; omega)]
          exact ⟨R, Q, H, rfl⟩
      · have hd : (R l).drop x = [] := List.drop_eq_nil_of_le c
        rw [hd] at cn
        have cnw : cNW C l = 0 := cn
        rw [cnw, if_pos (nI_le c (by omega))]
        dsimp only
        have h1 := Rel_rel hh q0 H
        have m18 : mOutH M l h 18 h = nI rate := (mOut_ot (by decide)).trans h18
        exact Rel_hd hh hr f F lf n _ _ R _ h1 m18 hn (by rw [if_pos rfl]; omega) (by rw [if_pos rfl]; omega)
  termination_by f F => f + F
theorem Rel.qlen {C : Cs} {M : Ms} {np nl nh nw ns ng dy tt : Nat} {R Q : Nat → List Nat} (H : Rel C M np nl nh nw ns ng dy tt R Q) {h : Nat} (hh : h < nh) : (Q h).length ≤ 60 := by
  have qh := H.2.2.2.2.2.2.1 h hh
  have := nd_len nl (Q h) qh.2.1 (fun l hl => ((qh.2.2.1 l).mp hl).1)
  have := H.1.2.2.1.1.2.1
  omega
theorem Rel.rate {C : Cs} {M : Ms} {np nl nh nw ns ng dy tt : Nat} {R Q : Nat → List Nat} (H : Rel C M np nl nh nw ns ng dy tt R Q) {h : Nat} (hh : h < nh) : ∃ r, r ≤ 20 ∧ M 18 h = nI r := by
  obtain ⟨_, _, ⟨r1, r2⟩, _⟩ := H.2.2.1.1 h hh
  obtain ⟨r, hr, e⟩ := nlt0 (one_pos r1)
  rw [e] at r2
  exact ⟨r, ge_n (a := 20) (b := r) (by decide) hr r2, e⟩
theorem Rel_dD {C : Cs} {M : Ms} {np nl nh nw ns ng dy tt fc fu : Nat} {R Q : Nat → List Nat} (hfc : fc = 80) (hfu : 80 < fu) (H : Rel C M np nl nh nw ns ng dy tt R Q) : ∀ n, n ≤ nh → ∃ R' Q', Rel (cWDs fc C n).1 (dD fu nl M n).1 np nl nh nw ns ng dy tt R' Q' ∧ (cWDs fc C n).2 = (dD fu nl M n).2
  | 0, _ => ⟨R, Q, H, rfl⟩
  | n + 1, hn => by
    obtain ⟨R1, Q1, h1, e1⟩ := Rel_dD hfc hfu H n (by omega)
    have m18 : (dD fu nl M n).1 18 n = M 18 n := dD_ot fu nl M 18 n (by decide) (by decide) n
    obtain ⟨r, hr, er⟩ := H.rate (show n < nh by omega)
    have ql := h1.qlen (show n < nh by omega)
    obtain ⟨R2, Q2, h2, e2⟩ := Rel_hd (show n < nh by omega) hr fc fu r 0 _ _ R1 Q1 h1 (m18.trans er) (by omega) (by omega) (by omega)
    rw [cWDs, dD, er, pN_n (by omega)]
    refine ⟨R2, Q2, h2, ?_⟩
    dsimp only
    rw [e1, e2]
    omega
theorem Rel_dy {C : Cs} {M : Ms} {np nl nh nw ns ng dy tt : Nat} {R Q : Nat → List Nat} (hdy : dy < 400) (H : Rel C M np nl nh nw ns ng dy tt R Q) : Rel (wI C 9 13 0 (nI (dy + 1))) (u2 M 25 0 (nI (dy + 1))) np nl nh nw ns ng (dy + 1) tt R Q := by
  obtain ⟨hN, hP, hH, hL, hR, hK, hQ, hT, hS, hG, hW, hF, hD, h42⟩ := H
  have eI : ∀ t k i, t ≠ 9 → cI (wI C 9 13 0 (nI (dy + 1))) t k i = cI C t k i := fun t k i a => by rw [cI_wI, if_neg (fun z => a z.1)]
  refine ⟨hN, hP, hH.c (fun k x _ _ => eI 1 k x (by decide)) (fun f x a b => u2_ne (by omega)) rfl, hL, hR, hK, hQ, hT, hS, hG, hW, hF, ⟨?_, by omega, ?_⟩, h42⟩
  · rw [cI_wI, if_pos ⟨rfl, rfl, rfl⟩]
  · simp [u2]
theorem Rel_day {C : Cs} {M : Ms} {np nl nh nw ns ng dy tt fc fu : Nat} {R Q : Nat → List Nat} (sn : Int32) (hfc : fc = 80) (hfu : 80 < fu) (hdy : dy < 400) (H : Rel C M np nl nh nw ns ng dy tt R Q) : ∃ tt' R' Q', Rel (cDay fc C sn nl nh) (mDay fu M sn nl nh) np nl nh nw ns ng (dy + 1) tt' R' Q' ∧ (cWDs fc (cTvs C sn nl) nh).2 = (dD fu nl (mGoes (m41 M) sn nl) nh).2 := by
  obtain ⟨t1, Q1, h1⟩ := Rel_goes sn (Rel_41 0 H) nl (Nat.le_refl _)
  obtain ⟨R2, Q2, h2, e2⟩ := Rel_dD hfc hfu h1 nh (Nat.le_refl _)
  refine ⟨t1, R2, Q2, ?_, e2⟩
  have h3 := Rel_dy hdy h2
  unfold cDay mDay
  have a := H.2.2.2.2.2.2.2.2.2.2.2.2.1
  rw [a.1, a.2.2, nI_1]
  exact h3
