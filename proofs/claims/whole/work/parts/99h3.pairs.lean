/-! THE LAW: each member of the class beside the reference's -/
theorem cRwQ_A (lo np : Nat) (k f st : Int32) : ∀ (ads : List Nat) (i : Nat) (D : Cs), cA (cRwQ lo np k f st ads i D) 9 0 = cA D 9 0
  | [], i, D => rfl
  | a :: t, i, D => (cRwQ_A lo np k f st t (i + 1) _).trans ((congrFun (congrFun (cApp_Kp _ lo (np + i)).1.1 9) 0).trans (cA_wNt (C := D) (t := 5) (a := a) (s := 9) (i := 0) (by decide)))
theorem cAsm_A (a nw cp cq cr : Nat) (C : Cs) : cA (cAsm a nw cp cq cr C).1 9 0 = cA C 9 0 := by
  unfold cAsm
  split
  · split
    · exact cA_wNt (t := 8) (a := a) (s := 9) (i := 0) (by decide)
    · rfl
  · rfl
theorem mkL_A (pl wl sl n0 n1 n2 : Nat) : ∀ (ads : List Nat) (i nw : Nat) (D : Cs), cA (mkL pl wl sl n0 n1 n2 ads i nw D).1 9 0 = cA D 9 0
  | [], i, nw, D => rfl
  | a :: t, i, nw, D => by
    rw [mkL]
    split
    · exact (mkL_A pl wl sl n0 n1 n2 t (i + 1) _ _).trans (cAsm_A _ _ _ _ _ _)
    · exact mkL_A pl wl sl n0 n1 n2 t (i + 1) _ _
theorem Rel_dj {C : Cs} {M : Ms} {np nl nh nw ns ng dy tt : Nat} {R Q : Nat → List Nat} (H : Rel C M np nl nh nw ns ng dy tt R Q) {i j : Nat} (hi : i < nl) (hj : j < nl) (e : i ≠ j) : ∀ y, y ∈ R i → y ∉ R j := fun y h1 h2 => by
  have a := ((H.2.2.2.2.1 i hi).2.2.2 y h1).2.1
  have b := ((H.2.2.2.2.1 j hj).2.2.2 y h2).2.1
  have := H.1.2.2.1.1.2.1
  exact e ((nI_eq (by omega) (by omega)).mp (a.symm.trans b))
theorem Rel_two {C : Cs} {M : Ms} {np nl nh nw ns ng dy tt : Nat} {R Q : Nat → List Nat} (H : Rel C M np nl nh nw ns ng dy tt R Q) {i j : Nat} (hi : i < nl) (hj : j < nl) (e : i ≠ j) : (R i).length + (R j).length ≤ 300 := by
  have a := H.2.2.2.2.1 i hi
  have b := H.2.2.2.2.1 j hj
  have h3 := H.1.2.1.1.2.1
  have := nd_len np (R i ++ R j) (List.nodup_append.mpr ⟨a.2.2.1, b.2.2.1, fun x hx y hy q => Rel_dj H hi hj e x hx (by rw [q]; exact hy)⟩) (fun x hx => (List.mem_append.mp hx).elim (fun z => (a.2.2.2 x z).1) (fun z => (b.2.2.2 x z).1))
  rw [List.length_append] at this
  omega
theorem Rel_rw {C : Cs} {M : Ms} {np nl nh nw ns ng dy tt : Nat} {R Q : Nat → List Nat} (H : Rel C M np nl nh nw ns ng dy tt R Q) : ∀ j, j < nl → M 9 j = nI (R j).length ∧ (R j).length ≤ 300 ∧ ∀ i, i < (R j).length → ∃ p, p < 300 ∧ M 8 (300 * j + i) = nI p := fun j hj => by
  have a := H.2.2.2.2.1 j hj
  have h3 := H.1.2.1.1.2.1
  refine ⟨(Rel_mn H j hj).1, (Rel_mn H j hj).2, fun i hi => ⟨(R j)[i], ?_, a.2.1.2 i _ (List.getElem?_eq_getElem hi)⟩⟩
  have := (a.2.2.2 _ (List.getElem_mem hi)).1
  omega
theorem Rel_DW {C : Cs} {M : Ms} {np nl nh nw ns ng dy tt : Nat} {R Q : Nat → List Nat} (H : Rel C M np nl nh nw ns ng dy tt R Q) : DW M nl := fun l hl h2 => by
  obtain ⟨x, hx, e, _⟩ := H.2.2.2.2.2.1 l hl h2
  obtain ⟨a, b, c⟩ := Rel_rw H l hl
  exact ⟨x, (R l).length, e, a, hx, b, c⟩
theorem pa_raw {x0 m0 : Nat} {k n f st : Int32} : Pair x0 m0 sp_craw sp_raw [.int k, .int n, .int f, .int st] := by
  rintro w C M hL ⟨np, nl, nh, nw, ns, ng, dy, tt, R, Q, H⟩ Kc hK
  obtain ⟨hF, ⟨nP, mP⟩, ⟨nL, mL⟩, ⟨nH, mH⟩, nW, mW⟩ := id H.1
  refine ⟨C, k, n, f, st, np, nl, by rw [hL.a], hL.c, hF, nP, nL, fun n' ok a ads w' had hX => hK _ _ (pr_ok hL hX ((cRwQ_A _ _ _ _ _ _ _ _).trans ((cA_wNt (C := C) (t := 2) (a := a) (s := 9) (i := 0) (by decide)).trans hL.a)) fun W hW Km hm => ⟨m0, M, k, n, f, st, np, nl, rfl, hW.m, ⟨mP, nP.2.1⟩, ⟨mL, nL.2.1⟩, fun n2 ok2 w2 hM => ?_, fun no => absurd ⟨n', ok⟩ no⟩), fun no => hK _ _ (pr_ok hL hL.c hL.a fun W hW Km hm => ⟨m0, M, k, n, f, st, np, nl, rfl, hW.m, ⟨mP, nP.2.1⟩, ⟨mL, nL.2.1⟩, fun n2 ok2 => absurd ⟨n2, ok2⟩ no, fun _ w2 hM => hm w2 _ hM (Rel_41 0 H).e⟩)⟩
  obtain ⟨R', h'⟩ := Rel_raw a ads ok had H
  have e : n2 = n' := two_eq (by have := ok2.2.1.2.2; omega) (by have := ok.2.1.2.2; omega) ok2.2.1.1 ok.2.1.1
  rw [e] at hM
  exact hm w2 _ hM h'.e
theorem pa_split {x0 m0 : Nat} {x y : Int32} : Pair x0 m0 sp_csplit sp_split [.int x, .int y] := by
  rintro w C M hL ⟨np, nl, nh, nw, ns, ng, dy, tt, R, Q, H⟩ Kc hK
  obtain ⟨hF, ⟨nP, mP⟩, ⟨nL, mL⟩, ⟨nH, mH⟩, nW, mW⟩ := id H.1
  have l60 := nL.2.1
  have c5 : ∀ j, j < nl → cI C 2 5 j = M 10 j := fun j hj => (H.2.2.2.1 j hj).2.1.2.2
  refine ⟨C, x, y, nl, fun j => (R j).length, by rw [hL.a], hL.c, hF, nL, fun j hj => (Rel_LR H j hj).2, fun j m hj hm0 ex ey c0 hn a w' hX => hK _ _ (pr_ok hL hX ((congrFun (congrFun (cMv_Kp j nl m (cNL C a nl (cI C 2 1 j))).1.1 9) 0).trans ((cA_wNt (C := C) (t := 2) (a := a) (s := 9) (i := 0) (by decide)).trans hL.a)) fun W hW Km hm => ⟨m0, M, x, y, nl, fun j => (R j).length, rfl, hW.m, ⟨mL, l60⟩, Rel_rw H, fun j2 m2 hj2 ex2 z2 hm2 ey2 hn2 w2 hM => ?_, fun no => absurd ⟨j, m, hj, ex, (c5 j hj).symm.trans c0, hm0, ey, hn⟩ no⟩), fun no => hK _ _ (pr_ok hL hL.c hL.a fun W hW Km hm => ⟨m0, M, x, y, nl, fun j => (R j).length, rfl, hW.m, ⟨mL, l60⟩, Rel_rw H, fun j2 m2 hj2 ex2 z2 hm2 ey2 hn2 => absurd ⟨j2, m2, hj2, hm2, ex2, ey2, (c5 j2 hj2).trans z2, hn2⟩ no, fun _ w2 hM => hm w2 _ hM (Rel_41 0 H).e⟩)⟩
  obtain rfl : j2 = j := two_eq (by omega) (by omega) ex2 ex
  have b3 := (Rel_mn H j2 hj).2
  have hm2 : m2 ≤ (R j2).length := hm2
  have hm0 : m ≤ (R j2).length := hm0
  obtain rfl : m2 = m := two_eq (by omega) (by omega) ey2 ey
  exact hm w2 _ hM (Rel_split a hj hm0 z2 hn H).e
theorem pa_join {x0 m0 : Nat} {x y : Int32} : Pair x0 m0 sp_cjoin sp_join [.int x, .int y] := by
  rintro w C M hL ⟨np, nl, nh, nw, ns, ng, dy, tt, R, Q, H⟩ Kc hK
  obtain ⟨hF, ⟨nP, mP⟩, ⟨nL, mL⟩, ⟨nH, mH⟩, nW, mW⟩ := id H.1
  have l60 := nL.2.1
  have c5 : ∀ j, j < nl → cI C 2 5 j = M 10 j := fun j hj => (H.2.2.2.1 j hj).2.1.2.2
  have c1 : ∀ j, j < nl → cI C 2 1 j = M 7 j := fun j hj => (H.2.2.2.1 j hj).2.1.1
  refine ⟨C, x, y, nl, fun j => (R j).length, by rw [hL.a], hL.c, hF, nL, fun j hj => (Rel_LR H j hj).2, fun a b ha hb ex ey a0 b0 hab h7 w' hX => hK _ _ (pr_ok hL hX ((congrFun (congrFun (cMv_Kp b a (R b).length C).1.1 9) 0).trans hL.a) fun W hW Km hm => ⟨m0, M, x, y, nl, fun j => (R j).length, rfl, hW.m, ⟨mL, l60⟩, Rel_rw H, fun i j hi hj e => Rel_two H hi hj e, fun a2 b2 ok w2 hM => ?_, fun no => absurd ⟨a, b, ⟨ha, ex, (c5 a ha).symm.trans a0⟩, ⟨hb, ey, (c5 b hb).symm.trans b0⟩, hab, (c1 a ha).symm.trans (h7.trans (c1 b hb))⟩ no⟩), fun no => hK _ _ (pr_ok hL hL.c hL.a fun W hW Km hm => ⟨m0, M, x, y, nl, fun j => (R j).length, rfl, hW.m, ⟨mL, l60⟩, Rel_rw H, fun i j hi hj e => Rel_two H hi hj e, fun a2 b2 ok => absurd ⟨a2, b2, ok.1.1, ok.2.1.1, ok.1.2.1, ok.2.1.2.1, (c5 a2 ok.1.1).trans ok.1.2.2, (c5 b2 ok.2.1.1).trans ok.2.1.2.2, ok.2.2.1, (c1 a2 ok.1.1).trans (ok.2.2.2.trans (c1 b2 ok.2.1.1).symm)⟩ no, fun _ w2 hM => hm w2 _ hM (Rel_41 0 H).e⟩)⟩
  obtain ⟨⟨ha2, ex2, za⟩, ⟨hb2, ey2, zb⟩, hab2, h72⟩ := ok
  obtain rfl : a2 = a := two_eq (by omega) (by omega) ex2 ex
  obtain rfl : b2 = b := two_eq (by omega) (by omega) ey2 ey
  have H' := Rel_join hab ha hb za zb h72 H
  have ev : cI (cMv b2 a2 (R b2).length C) 2 4 a2 = nI ((R a2).length + (R b2).length) := by
    have e1 := (H'.2.2.2.1 a2 ha).2.1.2.1.trans (H'.2.2.2.2.1 a2 ha).2.1.1
    dsimp only at e1
    rw [if_neg hab, if_pos rfl, List.length_append] at e1
    exact e1
  have this : Km (some (.int (cI (cMv b2 a2 (R b2).length C) 2 4 a2))) w2 := hm w2 _ hM H'.e
  rw [ev] at this
  exact this
theorem pa_send {x0 m0 : Nat} {x y : Int32} : Pair x0 m0 sp_csend sp_send [.int x, .int y] := by
  rintro w C M hL ⟨np, nl, nh, nw, ns, ng, dy, tt, R, Q, H⟩ Kc hK
  obtain ⟨hF, ⟨nP, mP⟩, ⟨nL, mL⟩, ⟨nH, mH⟩, nW, mW⟩ := id H.1
  have l60 := nL.2.1
  have h9 := nH.2.1
  obtain ⟨s1, s2, s3, s4⟩ := H.2.2.2.2.2.2.2.2.1.1
  have c5 : ∀ j, j < nl → cI C 2 5 j = M 10 j := fun j hj => (H.2.2.2.1 j hj).2.1.2.2
  refine ⟨C, x, y, nl, nh, ns, by rw [hL.a], hL.c, hF, nL, nH, ⟨s1, s2, s3⟩, fun j h hj hh ex ey c0 hn a w' hX => hK _ _ (pr_ok hL hX ((cA_wNt (C := wI C 9 11 0 (nI (ns + 1))) (t := 6) (a := a) (s := 9) (i := 0) (by decide)).trans hL.a) fun W hW Km hm => ⟨m0, M, x, y, nl, nh, ns, rfl, hW.m, ⟨mL, l60⟩, ⟨mH, h9⟩, ⟨s4, s2⟩, fun j2 h2 hj2 hh2 ex2 ey2 z2 hn2 w2 hM => ?_, fun no => absurd ⟨j, h, hj, hh, ex, ey, (c5 j hj).symm.trans c0, hn⟩ no⟩), fun no => hK _ _ (pr_ok hL hL.c hL.a fun W hW Km hm => ⟨m0, M, x, y, nl, nh, ns, rfl, hW.m, ⟨mL, l60⟩, ⟨mH, h9⟩, ⟨s4, s2⟩, fun j2 h2 hj2 hh2 ex2 ey2 z2 hn2 => absurd ⟨j2, h2, hj2, hh2, ex2, ey2, (c5 j2 hj2).trans z2, hn2⟩ no, fun _ w2 hM => hm w2 _ hM (Rel_41 0 H).e⟩)⟩
  obtain rfl : j2 = j := two_eq (by omega) (by omega) ex2 ex
  obtain rfl : h2 = h := two_eq (by omega) (by omega) ey2 ey
  exact hm w2 _ hM (Rel_send a hj hh z2 hn H).e
theorem lt400 {n : Nat} (h : n ≤ 400) : (nI n < 400 → n < 400) ∧ (400 ≤ nI n → n = 400) := by
  have e : (400 : Int32).toInt = 400 := by decide
  refine ⟨fun z => ?_, fun z => ?_⟩
  · rw [i_lt, nI_toInt (by omega), e] at z
    omega
  · rw [i_le, nI_toInt (by omega), e] at z
    omega
theorem pa_day {x0 m0 fu : Nat} (hfu : 80 < fu) {sn : Int32} : Pair x0 m0 sp_cday (sp_day fu) [.int sn] := by
  rintro w C M hL ⟨np, nl, nh, nw, ns, ng, dy, tt, R, Q, H⟩ Kc hK
  obtain ⟨hF, ⟨nP, mP⟩, ⟨nL, mL⟩, ⟨nH, mH⟩, nW, mW⟩ := id H.1
  obtain ⟨d1, d2, d3⟩ := H.2.2.2.2.2.2.2.2.2.2.2.2.1
  obtain ⟨tt', Q', hg⟩ := Rel_goes sn (Rel_41 0 H) nl (Nat.le_refl _)
  have hD := Rel_DW hg
  obtain ⟨fc, hfc⟩ : ∃ fc : Nat, fc = 80 := ⟨80, rfl⟩
  have md : ∀ {D : Cs} {v : Int32} (W : Hp), Lw x0 m0 W D M → ∀ Km : Option Value → Hp → Prop, (dy < 400 → ∀ w2, RM m0 (mDay fu M sn nl nh) w2 → Km (some (.int (nI (dD fu nl (mGoes (m41 M) sn nl) nh).2))) w2) → (dy = 400 → ∀ w2, RM m0 (m41 M) w2 → Km (some (.int (-1))) w2) → sp_day fu [.ref m0, .int sn] (rst (PM m0) W) Km := fun W hW Km h1 h2 => ⟨m0, M, sn, nl, nh, dy, rfl, hW.m, ⟨mL, nL.2.1⟩, ⟨mH, nH.2.1⟩, ⟨d3, d2⟩, fun h hh => H.rate hh, hD, h1, h2⟩
  refine ⟨C, sn, nl, nh, fc, hfc, by rw [hL.a], hL.c, hF, nL, nH, fun c => ?_, fun c w' hX => ?_⟩
  · rw [d1] at c
    have e := (lt400 d2).2 c
    exact hK _ _ (pr_ok hL hL.c hL.a fun W hW Km hm => md (v := 0) W hW Km (fun z => by omega) (fun _ w2 hM => hm w2 _ hM (Rel_41 0 H).e))
  · rw [d1] at c
    have e := (lt400 d2).1 c
    obtain ⟨t2, R2, Q2, h2, e2⟩ := Rel_day sn hfc hfu e H
    refine hK _ _ (pr_ok hL hX ((congrFun (congrFun ((cTvs_Kp C sn nl).tr (cWDs_Kp fc (cTvs C sn nl) nh)).1.1 9) 0).trans hL.a) fun W hW Km hm => md (v := 0) W hW Km (fun _ w2 hM => ?_) (fun z => by omega))
    rw [← e2]
    exact hm w2 _ hM h2.e
