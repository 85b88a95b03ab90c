/-! THE LAW: the questions -/
theorem pa_count {x0 m0 : Nat} {x : Int32} : Pair x0 m0 sp_ccount sp_count [.int x] := by
  rintro w C M hL ⟨np, nl, nh, nw, ns, ng, dy, tt, R, Q, H⟩ Kc hK
  obtain ⟨hF, ⟨nP, mP⟩, ⟨nL, mL⟩, ⟨nH, mH⟩, nW, mW⟩ := id H.1
  refine ⟨C, x, nl, nh, nw, by rw [hL.a], hL.c, hF, nL, nH, nW, fun c hc ex => hK _ _ (pr_ok hL hL.c hL.a fun W hW Km hm => ⟨m0, M, x, nl, nw, rfl, hW.m, ⟨mL, nL.2.1⟩, ⟨mW, nW.2.1⟩, fun w2 hM => ⟨fun c2 hc2 ex2 => ?_, fun no => absurd ⟨c, hc, ex⟩ no⟩⟩), fun no => hK _ _ (pr_ok hL hL.c hL.a fun W hW Km hm => ⟨m0, M, x, nl, nw, rfl, hW.m, ⟨mL, nL.2.1⟩, ⟨mW, nW.2.1⟩, fun w2 hM => ⟨fun c2 hc2 ex2 => absurd ⟨c2, hc2, ex2⟩ no, fun _ => hm w2 _ hM (Rel_41 0 H).e⟩⟩)⟩
  obtain rfl : c2 = c := two_eq (by omega) (by omega) ex2 ex
  rw [← Rel_count H hc]
  exact hm w2 _ hM (Rel_41 0 H).e
theorem pa_lot {x0 m0 : Nat} {x y : Int32} : Pair x0 m0 sp_clot sp_lot [.int x, .int y] := by
  rintro w C M hL ⟨np, nl, nh, nw, ns, ng, dy, tt, R, Q, H⟩ Kc hK
  obtain ⟨hF, ⟨nP, mP⟩, ⟨nL, mL⟩, ⟨nH, mH⟩, nW, mW⟩ := id H.1
  have l60 := nL.2.1
  have h4 : ∀ j, j < nl → ∃ k, k < 4 ∧ M 10 j = nI k := fun j hj => (H.2.2.2.1 j hj).2.2.1
  refine ⟨C, x, y, nl, by rw [hL.a], hL.c, hF, nL, fun j c hj hc ex ey => hK _ _ (pr_ok hL hL.c hL.a fun W hW Km hm => ⟨m0, M, x, y, nl, rfl, hW.m, ⟨mL, l60⟩, h4, fun w2 hM => ⟨fun j2 c2 hj2 hc2 ex2 ey2 => ?_, fun no => absurd ⟨j, c, hj, hc, ex, ey⟩ no⟩⟩), fun no => hK _ _ (pr_ok hL hL.c hL.a fun W hW Km hm => ⟨m0, M, x, y, nl, rfl, hW.m, ⟨mL, l60⟩, h4, fun w2 hM => ⟨fun j2 c2 hj2 hc2 ex2 ey2 => absurd ⟨j2, c2, hj2, hc2, ex2, ey2⟩ no, fun _ => hm w2 _ hM (Rel_41 0 H).e⟩⟩)⟩
  obtain rfl : j2 = j := two_eq (by omega) (by omega) ex2 ex
  obtain rfl : c2 = c := two_eq (by omega) (by omega) ey2 ey
  rw [← Rel_lot H hj hc]
  exact hm w2 _ hM (Rel_41 0 H).e
theorem pa_at {x0 m0 : Nat} {x y : Int32} : Pair x0 m0 sp_cat sp_at [.int x, .int y] := by
  rintro w C M hL ⟨np, nl, nh, nw, ns, ng, dy, tt, R, Q, H⟩ Kc hK
  obtain ⟨hF, ⟨nP, mP⟩, ⟨nL, mL⟩, ⟨nH, mH⟩, nW, mW⟩ := id H.1
  have l60 := nL.2.1
  refine ⟨C, x, y, nl, fun j => (R j).length, by rw [hL.a], hL.c, hF, nL, fun j hj => (Rel_LR H j hj).2, fun j c hj hc ex ey => hK _ _ (pr_ok hL hL.c hL.a fun W hW Km hm => ⟨m0, M, x, y, nl, fun j => (R j).length, rfl, hW.m, ⟨mL, l60⟩, Rel_mn H, fun w2 hM => ⟨fun j2 c2 hj2 hc2 ex2 ey2 => ?_, fun no => absurd ⟨j, c, hj, hc, ex, ey⟩ no⟩⟩), fun no => hK _ _ (pr_ok hL hL.c hL.a fun W hW Km hm => ⟨m0, M, x, y, nl, fun j => (R j).length, rfl, hW.m, ⟨mL, l60⟩, Rel_mn H, fun w2 hM => ⟨fun j2 c2 hj2 hc2 ex2 ey2 => absurd ⟨j2, c2, hj2, hc2, ex2, ey2⟩ no, fun _ => hm w2 _ hM (Rel_41 0 H).e⟩⟩)⟩
  obtain rfl : j2 = j := two_eq (by omega) (by omega) ex2 ex
  have hc : c < (R j2).length := hc
  have hc2 : c2 < (R j2).length := hc2
  have := (Rel_mn H j2 hj).2
  obtain rfl : c2 = c := two_eq (by omega) (by omega) ey2 ey
  rw [← Rel_at H hj hc]
  exact hm w2 _ hM (Rel_41 0 H).e
theorem pa_of {x0 m0 : Nat} {x y : Int32} : Pair x0 m0 sp_cof sp_of [.int x, .int y] := by
  rintro w C M hL ⟨np, nl, nh, nw, ns, ng, dy, tt, R, Q, H⟩ Kc hK
  obtain ⟨hF, ⟨nP, mP⟩, ⟨nL, mL⟩, ⟨nH, mH⟩, nW, mW⟩ := id H.1
  have h9 := nH.2.1
  refine ⟨C, x, y, nh, by rw [hL.a], hL.c, hF, nH, fun j c hj hc ex ey => hK _ _ (pr_ok hL hL.c hL.a fun W hW Km hm => ⟨m0, M, x, y, nh, nl, rfl, hW.m, ⟨mH, h9⟩, ⟨mL, nL.2.1⟩, fun w2 hM => ⟨fun j2 c2 hj2 hc2 ex2 ey2 => ?_, fun no => absurd ⟨j, c, hj, hc, ex, ey⟩ no⟩⟩), fun no => hK _ _ (pr_ok hL hL.c hL.a fun W hW Km hm => ⟨m0, M, x, y, nh, nl, rfl, hW.m, ⟨mH, h9⟩, ⟨mL, nL.2.1⟩, fun w2 hM => ⟨fun j2 c2 hj2 hc2 ex2 ey2 => absurd ⟨j2, c2, hj2, hc2, ex2, ey2⟩ no, fun _ => hm w2 _ hM (Rel_41 0 H).e⟩⟩)⟩
  obtain rfl : j2 = j := two_eq (by omega) (by omega) ex2 ex
  obtain rfl : c2 = c := two_eq (by omega) (by omega) ey2 ey
  rw [← Rel_of H hj hc]
  exact hm w2 _ hM (Rel_41 0 H).e
theorem pa_wage {x0 m0 : Nat} {y f v : Int32} : Pair x0 m0 sp_cwage sp_wage [.int y, .int f, .int v] := by
  rintro w C M hL ⟨np, nl, nh, nw, ns, ng, dy, tt, R, Q, H⟩ Kc hK
  obtain ⟨hF, ⟨nP, mP⟩, ⟨nL, mL⟩, ⟨nH, mH⟩, nW, mW⟩ := id H.1
  have h9 := nH.2.1
  obtain ⟨s1, s2, s3, s4⟩ := H.2.2.2.2.2.2.2.2.2.1.1
  refine ⟨C, y, f, v, nh, ng, by rw [hL.a], hL.c, hF, nH, ⟨s1, s2, s3⟩, fun ok h hh ey a w' hX => hK _ _ (pr_ok hL hX ((cA_wNt (C := wI C 9 12 0 (nI (ng + 1))) (t := 7) (a := a) (s := 9) (i := 0) (by decide)).trans hL.a) fun W hW Km hm => ⟨m0, M, y, f, v, nh, ng, rfl, hW.m, ⟨mH, h9⟩, ⟨s4, s2⟩, fun h2 hh2 ey2 ok2 w2 hM => ?_, fun no => absurd ok no⟩), fun no => hK _ _ (pr_ok hL hL.c hL.a fun W hW Km hm => ⟨m0, M, y, f, v, nh, ng, rfl, hW.m, ⟨mH, h9⟩, ⟨s4, s2⟩, fun h2 hh2 ey2 ok2 => absurd ok2 no, fun _ w2 hM => hm w2 _ hM (Rel_41 0 H).e⟩)⟩
  obtain rfl : h2 = h := two_eq (by omega) (by omega) ey2 ey
  exact hm w2 _ hM (Rel_wage a hh ok.2.2.2 H).e
theorem pa_fit {x0 m0 : Nat} {x a b : Int32} : Pair x0 m0 sp_cfit sp_fit [.int x, .int a, .int b] := by
  rintro w C M hL ⟨np, nl, nh, nw, ns, ng, dy, tt, R, Q, H⟩ Kc hK
  refine ⟨C, x, a, b, by rw [hL.a], hL.c, H.1.1, fun j hj ex hab w' hX => hK _ _ (pr_ok hL hX hL.a fun W hW Km hm => ⟨m0, M, x, a, b, rfl, hW.m, fun j2 hj2 ex2 _ w2 hM => ?_, fun no => absurd ⟨⟨j, hj, ex⟩, hab⟩ no⟩), fun no => hK _ _ (pr_ok hL hL.c hL.a fun W hW Km hm => ⟨m0, M, x, a, b, rfl, hW.m, fun j2 hj2 ex2 hab => absurd ⟨⟨j2, hj2, ex2⟩, hab⟩ no, fun _ w2 hM => hm w2 _ hM (Rel_41 0 H).e⟩)⟩
  obtain rfl : j2 = j := two_eq (by omega) (by omega) ex2 ex
  exact hm w2 _ hM (Rel_fit j2 a b H).e
theorem pa_watch {x0 m0 : Nat} {x y : Int32} : Pair x0 m0 sp_cwatch sp_watch [.int x, .int y] := by
  rintro w C M hL ⟨np, nl, nh, nw, ns, ng, dy, tt, R, Q, H⟩ Kc hK
  obtain ⟨hF, ⟨nP, mP⟩, ⟨nL, mL⟩, ⟨nH, mH⟩, nW, mW⟩ := id H.1
  have w100 := nW.2.1
  refine ⟨C, x, y, nw, by rw [hL.a], hL.c, hF, nW, Rel_WK H, fun j c hj hc ex ey => hK _ _ (pr_ok hL hL.c hL.a fun W hW Km hm => ⟨m0, M, x, y, nw, rfl, hW.m, ⟨mW, w100⟩, Rel_wOK H, fun w2 hM => ⟨fun j2 c2 hj2 hc2 ex2 ey2 => ?_, fun no => absurd ⟨j, c, hj, hc, ex, ey⟩ no⟩⟩), fun no => hK _ _ (pr_ok hL hL.c hL.a fun W hW Km hm => ⟨m0, M, x, y, nw, rfl, hW.m, ⟨mW, w100⟩, Rel_wOK H, fun w2 hM => ⟨fun j2 c2 hj2 hc2 ex2 ey2 => absurd ⟨j2, c2, hj2, hc2, ex2, ey2⟩ no, fun _ => hm w2 _ hM (Rel_41 0 H).e⟩⟩)⟩
  obtain rfl : j2 = j := two_eq (by omega) (by omega) ex2 ex
  obtain rfl : c2 = c := two_eq (by omega) (by omega) ey2 ey
  rw [← Rel_watch H hj hc]
  exact hm w2 _ hM (Rel_41 0 H).e
theorem pa_back {x0 m0 : Nat} {x b : Int32} (hb : b = 0 ∨ b = 1) : Pair x0 m0 sp_cback sp_back [.int x, .int b] := by
  rintro w C M hL ⟨np, nl, nh, nw, ns, ng, dy, tt, R, Q, H⟩ Kc hK
  obtain ⟨hF, ⟨nP, mP⟩, ⟨nL, mL⟩, ⟨nH, mH⟩, nW, mW⟩ := id H.1
  have w100 := nW.2.1
  refine ⟨C, x, b, nw, by rw [hL.a], hL.c, hF, nW, hb, fun j hj ex w' hX => hK _ _ (pr_ok hL hX hL.a fun W hW Km hm => ⟨m0, M, x, b, nw, rfl, hW.m, hb, ⟨mW, w100⟩, fun j2 hj2 ex2 w2 hM => ?_, fun no => absurd ⟨j, hj, ex⟩ no⟩), fun no => hK _ _ (pr_ok hL hL.c hL.a fun W hW Km hm => ⟨m0, M, x, b, nw, rfl, hW.m, hb, ⟨mW, w100⟩, fun j2 hj2 ex2 => absurd ⟨j2, hj2, ex2⟩ no, fun _ w2 hM => hm w2 _ hM (Rel_41 0 H).e⟩)⟩
  obtain rfl : j2 = j := two_eq (by omega) (by omega) ex2 ex
  exact hm w2 _ hM (Rel_back j2 b hb H).e
theorem pa_counts {x0 m0 : Nat} {x y : Int32} : Pair x0 m0 sp_ccounts sp_counts [.int x, .int y] := by
  rintro w C M hL ⟨np, nl, nh, nw, ns, ng, dy, tt, R, Q, H⟩ Kc hK
  obtain ⟨hF, ⟨nP, mP⟩, ⟨nL, mL⟩, ⟨nH, mH⟩, nW, mW⟩ := id H.1
  have h9 := nH.2.1
  have md : ∀ (W : Hp), Lw x0 m0 W C M → ∀ Km : Option Value → Hp → Prop, (∀ w2, RM m0 (m41 M) w2 → (∀ h, h < nh → x = nI h → (y = 0 → Km (some (.int (nI (cn (cofP M h false) nw)))) w2) ∧ (y = 1 → Km (some (.int (nI (cn (cofP M h true) nw)))) w2)) ∧ ((¬ ((∃ h, h < nh ∧ x = nI h) ∧ (y = 0 ∨ y = 1))) → Km (some (.int (-1))) w2)) → sp_counts [.ref m0, .int x, .int y] (rst (PM m0) W) Km := fun W hW Km h1 => ⟨m0, M, x, y, nh, nw, rfl, hW.m, ⟨mH, h9⟩, ⟨mW, nW.2.1⟩, Rel_wOK H, h1⟩
  refine ⟨C, x, y, nh, nw, by rw [hL.a], hL.c, hF, nH, nW, Rel_WK H, fun h hh ex => ⟨fun ey => hK _ _ (pr_ok hL hL.c hL.a fun W hW Km hm => md W hW Km fun w2 hM => ⟨fun h2 hh2 ex2 => ⟨fun _ => ?_, fun e1 => absurd (ey.symm.trans e1) (by decide)⟩, fun no => absurd ⟨⟨h, hh, ex⟩, Or.inl ey⟩ no⟩), fun ey => hK _ _ (pr_ok hL hL.c hL.a fun W hW Km hm => md W hW Km fun w2 hM => ⟨fun h2 hh2 ex2 => ⟨fun e1 => absurd (e1.symm.trans ey) (by decide), fun _ => ?_⟩, fun no => absurd ⟨⟨h, hh, ex⟩, Or.inr ey⟩ no⟩)⟩, fun no => hK _ _ (pr_ok hL hL.c hL.a fun W hW Km hm => md W hW Km fun w2 hM => ⟨fun h2 hh2 ex2 => ⟨fun e1 => absurd ⟨⟨h2, hh2, ex2⟩, Or.inl e1⟩ no, fun e1 => absurd ⟨⟨h2, hh2, ex2⟩, Or.inr e1⟩ no⟩, fun _ => hm w2 _ hM (Rel_41 0 H).e⟩)⟩
  · rw [← Rel_cof H h2 false, ← ex2]
    exact hm w2 _ hM (Rel_41 0 H).e
  · rw [← Rel_cof H h2 true, ← ex2]
    exact hm w2 _ hM (Rel_41 0 H).e
theorem pa_suspect {x0 m0 : Nat} {x : Int32} : Pair x0 m0 sp_csuspect sp_suspect [.int x] := by
  rintro w C M hL ⟨np, nl, nh, nw, ns, ng, dy, tt, R, Q, H⟩ Kc hK
  obtain ⟨hF, ⟨nP, mP⟩, ⟨nL, mL⟩, ⟨nH, mH⟩, nW, mW⟩ := id H.1
  refine ⟨C, x, nh, nw, by rw [hL.a], hL.c, hF, nH, nW, Rel_WK H, fun ok => hK _ _ (pr_ok hL hL.c hL.a fun W hW Km hm => ⟨m0, M, x, nh, nw, rfl, hW.m, ⟨mH, nH.2.1⟩, ⟨mW, nW.2.1⟩, Rel_wOK H, fun w2 hM => ⟨fun _ => ?_, fun no => absurd ok no⟩⟩), fun no => hK _ _ (pr_ok hL hL.c hL.a fun W hW Km hm => ⟨m0, M, x, nh, nw, rfl, hW.m, ⟨mH, nH.2.1⟩, ⟨mW, nW.2.1⟩, Rel_wOK H, fun w2 hM => ⟨fun ok => absurd ok no, fun _ => hm w2 _ hM (Rel_41 0 H).e⟩⟩)⟩
  rw [← Rel_sus H ok.1]
  exact hm w2 _ hM (Rel_41 0 H).e
theorem pa_recall {x0 m0 : Nat} {x : Int32} : Pair x0 m0 sp_crecall sp_recall [.int x] := by
  rintro w C M hL ⟨np, nl, nh, nw, ns, ng, dy, tt, R, Q, H⟩ Kc hK
  obtain ⟨hF, ⟨nP, mP⟩, ⟨nL, mL⟩, ⟨nH, mH⟩, nW, mW⟩ := id H.1
  refine ⟨C, x, nl, nw, by rw [hL.a], hL.c, hF, nL, nW, Rel_WK H, fun ok => hK _ _ (pr_ok hL hL.c hL.a fun W hW Km hm => ⟨m0, M, x, nl, nw, rfl, hW.m, ⟨mL, nL.2.1⟩, ⟨mW, nW.2.1⟩, Rel_wOK H, fun w2 hM => ⟨fun _ => ?_, fun no => absurd ok no⟩⟩), fun no => hK _ _ (pr_ok hL hL.c hL.a fun W hW Km hm => ⟨m0, M, x, nl, nw, rfl, hW.m, ⟨mL, nL.2.1⟩, ⟨mW, nW.2.1⟩, Rel_wOK H, fun w2 hM => ⟨fun ok => absurd ok no, fun _ => hm w2 _ hM (Rel_41 0 H).e⟩⟩)⟩
  rw [← Rel_rc H x]
  exact hm w2 _ hM (Rel_41 0 H).e
