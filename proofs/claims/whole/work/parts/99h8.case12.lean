/-! THE LAW: the helpers' calls; due -/
section CASES4
variable {l : Launch} {b Ln : Nat} {xs : Nat → Int32} {x0 m0 i nc ns : Nat} {w : Hp} {C : Cs} {M : Ms}
theorem ta_12 {fl : Int32} {np nl nh nw nS ng dy tt nc1 ns1 : Nat} {R Q : Nat → List Nat} (hi : i + 5 ≤ Ln) (hl : Ln ≤ 2560) (hb : nc + 40 ≤ 601024 ∧ ns + 400 ≤ 7293034) (hb1 : nc1 ≤ nc + 40 ∧ ns1 ≤ ns + 400) (hL : Lw x0 m0 w C M) (H : Rel C M np nl nh nw nS ng dy tt R Q) (hN : Nx l b Ln xs x0 m0 i nc ns) (hc : (fl = 0 ∧ ∃ h, h < nh ∧ xs (i + 1) = nI h ∧ (0 ≤ xs (i + 2) ∧ xs (i + 2) ≤ M 25 0) ∧ gJ w (m0 + 34) 0 = dueS M h (xs (i + 2)) ng nS) ∨ (fl = 1 ∧ ¬ ((∃ h, h < nh ∧ xs (i + 1) = nI h) ∧ 0 ≤ xs (i + 2) ∧ xs (i + 2) ≤ M 25 0))) : JL l b Ln xs 684 [(4, .int (nI i)), (3, .ref (m0 + 34)), (2, .ref m0), (1, .ref x0), (0, .ref b)] [.int fl] w nc1 ns1 := by
  obtain ⟨hF, ⟨nP, mP⟩, ⟨nL, mL⟩, ⟨nH, mH⟩, nW, mW⟩ := id H.1
  have h9 := nH.2.1
  obtain ⟨-, s2, -, s4⟩ := H.2.2.2.2.2.2.2.2.1.1
  obtain ⟨-, g2, -, g4⟩ := H.2.2.2.2.2.2.2.2.2.1.1
  have hz := hL.2.2.2
  refine jl_s cl_12_ok (evL_ok (L := [(106, 2, 0, 0, sp_due), (83, 1, 0, 0, sp_thrown)]) (by simpa using ⟨c_mdue l, c_thrown l⟩)) [681, 1095] (fun x h => by simp at h; subst h; rfl) 80 rfl ⟨by omega, by omega⟩ ?_
  refine ⟨rfl, i + 1, ixa hi hl (by decide), rfl, i + 2, ixa hi hl (by decide), ⟨show 2 < 30 by decide, show nc1 + 0 ≤ 601024 by omega, show ns1 + 0 ≤ 7293034 by omega⟩, rfl, hL.2.1.k, PM m0, PM_t ⟨Nat.le_refl _, by omega⟩, ?_⟩
  dsimp only
  show sp_due [.ref m0, .int (xs (i + 1)), .int (xs (i + 2))] (rst (PM m0) w) _
  refine ⟨m0, M, xs (i + 1), xs (i + 2), nh, nS, ng, rfl, hL.m, ⟨mH, h9⟩, ⟨s4, s2⟩, ⟨g4, g2⟩, fun h hh ex hk w2 hM dom gz => ?_, fun no w2 hM dom gz => ?_⟩
  · obtain ⟨rfl, h2, hh2, ex2, hk2, hJ⟩ : fl = 0 ∧ ∃ h, h < nh ∧ xs (i + 1) = nI h ∧ (0 ≤ xs (i + 2) ∧ xs (i + 2) ≤ M 25 0) ∧ gJ w (m0 + 34) 0 = dueS M h (xs (i + 2)) ng nS := hc.elim id (fun z => absurd ⟨⟨h, hh, ex⟩, hk⟩ z.2)
    obtain rfl : h2 = h := two_eq (by omega) (by omega) ex2 ex
    have hL3 := hL.m' hM gz
    have hz3 := hL3.2.2.2
    refine ⟨⟨show 1 < 30 by decide, show nc1 + 0 + 0 ≤ 601024 by omega, show ns1 + 0 + 0 ≤ 7293034 by omega⟩, rfl, hL3.2.1.k, PM m0, PM_t ⟨Nat.le_refl _, by omega⟩, ?_⟩
    dsimp only
    refine ⟨m0, m41 M, rfl, hL3.m, fun dom3 gz3 => ?_⟩
    have hL4 := hL3.m' hL3.m gz3
    have eJ : gJ (mrg (PM m0) (mrg (PM m0) w w2) (rst (PM m0) (mrg (PM m0) w w2))) (m0 + 34) 0 = dueS M h2 (xs (i + 2)) ng nS := ((mrg_n (PM_f (Or.inr (Nat.le_refl _))) (by omega)).2.2.2.2.2.2 0).trans (((mrg_n (PM_f (Or.inr (Nat.le_refl _))) (by omega)).2.2.2.2.2.2 0).trans hJ)
    have nx : JL l b Ln xs 1095 [(4, .int (nI i)), (3, .ref (m0 + 34)), (2, .ref m0), (1, .ref x0), (0, .ref b)] [] (mrg (PM m0) (mrg (PM m0) w w2) (rst (PM m0) (mrg (PM m0) w w2))) (nc1 + 0 + 0) (ns1 + 0 + 0) := hN _ _ _ _ _ hL4 (Rel_41 0 H).e (by omega) (by omega)
    rw [m41_0]
    exact ⟨fun _ => ⟨fun z => absurd rfl z, fun _ => ⟨hL4.2.2.1.1, 0, _, ⟨rfl, by rw [hL4.2.2.1.2]; decide, by decide⟩, eJ, fun _ => jl_pk [2, 3, 4, 5, 6] nx, fun z => absurd (cmp_0 _) z⟩⟩, fun z => absurd rfl z⟩
  · obtain ⟨rfl, -⟩ : fl = 1 ∧ ¬ ((∃ h, h < nh ∧ xs (i + 1) = nI h) ∧ 0 ≤ xs (i + 2) ∧ xs (i + 2) ≤ M 25 0) := hc.elim (fun ⟨_, h, a1, a2, a3, _⟩ => absurd ⟨⟨h, a1, a2⟩, a3⟩ no) id
    have hL3 := hL.m' hM gz
    have hz3 := hL3.2.2.2
    refine ⟨⟨show 1 < 30 by decide, show nc1 + 0 + 0 ≤ 601024 by omega, show ns1 + 0 + 0 ≤ 7293034 by omega⟩, rfl, hL3.2.1.k, PM m0, PM_t ⟨Nat.le_refl _, by omega⟩, ?_⟩
    dsimp only
    refine ⟨m0, u2 (m41 M) 41 0 1, rfl, hL3.m, fun dom3 gz3 => ?_⟩
    have hL4 := hL3.m' hL3.m gz3
    have nx : JL l b Ln xs 1095 [(4, .int (nI i)), (3, .ref (m0 + 34)), (2, .ref m0), (1, .ref x0), (0, .ref b)] [] (mrg (PM m0) (mrg (PM m0) w w2) (rst (PM m0) (mrg (PM m0) w w2))) (nc1 + 0 + 0) (ns1 + 0 + 0) := hN _ _ _ _ _ hL4 (Rel_41 1 (Rel_41 0 H)).e (by omega) (by omega)
    rw [m41_1]
    exact ⟨fun _ => ⟨fun _ => jl_pk [2, 3, 4, 5, 6] nx, fun z => absurd z (by decide)⟩, fun z => absurd rfl z⟩
theorem Lw.out (hL : Lw x0 m0 w C M) : gK (rst (PH m0) w) (m0 + 34) = some 22 ∧ gN (rst (PH m0) w) (m0 + 34) = 1 := by
  have g : agr w (rst (PH m0) w) (m0 + 34) := agr_rst (PH_t (by omega))
  exact ⟨g.1.trans hL.2.2.1.1, g.2.2.2.1.trans hL.2.2.1.2⟩
theorem Lw.k9h (hL : Lw x0 m0 w C M) (hR : RelE C M) : gK (rst (PH m0) w) x0 = some 9 := by
  obtain ⟨np, nl, nh, nw, ns, ng, dy, tt, R, Q, H⟩ := hR
  have h0 : 0 < cN C 9 := by rw [H.1.1.1.1]; exact Nat.zero_lt_one
  have := hL.h.k 9 0 h0
  rw [hL.a] at this
  exact this
theorem jJ (hL : Lw x0 m0 w C M) {v : Int64} : gJ (mrg (PH m0) w (sJ (rst (PH m0) w) (m0 + 34) 0 v)) (m0 + 34) 0 = v := by
  rw [(mrg_y (Or.inl (PH_t (by omega)))).2.2.2.2.2.2 0]
  show u2 _ _ _ _ _ _ = _
  simp [u2]
theorem d_527 : decode code 527 = .ok (.invokestatic 63, 3) := by decide +kernel
theorem d_681 : decode code 681 = .ok (.invokestatic 82, 3) := by decide +kernel
theorem la_9 (hi : i + 5 ≤ Ln) (hl : Ln ≤ 2560) (hb : nc + 40 ≤ 601024 ∧ ns + 400 ≤ 7293034) (hL : Lw x0 m0 w C M) (hR : RelE C M) (hN : Nx l b Ln xs x0 m0 i nc ns) : JL l b Ln xs 513 [(4, .int (nI i)), (3, .ref (m0 + 34)), (2, .ref m0), (1, .ref x0), (0, .ref b)] [] w nc ns := by
  refine jl_s cl_9_ok ev0 [527] (fun x h => h) 80 rfl ⟨by omega, by omega⟩ ?_
  refine ⟨rfl, i + 1, ixa hi hl (by decide), rfl, i + 2, ixa hi hl (by decide), ?_⟩
  have hk9 := hL.k9h hR
  obtain ⟨np, nl, nh, nw, nS, ng, dy, tt, R, Q, H⟩ := hR
  intro p e s m args below meth c G A R' hX H0 locs ls hh hS hls
  obtain ⟨Cc, hAA, hA, hRr, hRc, hRs, hlt, hE, hxs, hbl⟩ := id hX
  refine r_callPF (As := [.ref x0, .int (xs (i + 1)), .int (xs (i + 2)), .ref (m0 + 34)]) (rest := []) (Po := fun r w => ∃ v, r = some (.int v) ∧ JL l b Ln xs 530 [(4, .int (nI i)), (3, .ref (m0 + 34)), (2, .ref m0), (1, .ref x0), (0, .ref b)] [.int v] w (nc + 1) (ns + 6)) Cc hE hAA hA hh hS hls.1 (PH m0) (c_lp l hlt) (lpd_ok _ (by simp)) (lpd_ok (.methodLink "WatchValleyLaw" 63 lpN) (by simp)) (lpd_ok (.static lpN) (by simp)) (lpd_ok (.initialized "WatchValleyLaw") (by simp)) (by decide) (n := 4) (by decide) (lv := 30) (by decide) hRr (by rw [hRc]; omega) (by rw [hRs]; omega) rfl rfl ?_ d_527 (fun r w' H1 locs1 hp hh1 hS1 => ?_)
  · refine ⟨x0, xs (i + 1), xs (i + 2), m0 + 34, rfl, hk9, C, xs (i + 1), xs (i + 2), np, by rw [hL.a], hL.h, H.1.1, H.1.2.1.1, fun j c hj hc ex ey => ⟨_, rfl, hL.out, fun dom gz => ⟨0, rfl, ta_9 hi hl hb ⟨by omega, by omega⟩ (hL.h' hL.h hL.out gz) H hN (Or.inl ⟨rfl, j, c, hj, hc, ex, ey, jJ hL⟩)⟩⟩, fun no dom gz => ⟨1, rfl, ta_9 hi hl hb ⟨by omega, by omega⟩ (hL.h' (hL.h.cg (Nat.le_succ _) (fun _ _ _ => ⟨rfl, fun _ _ => rfl, fun _ _ => rfl, rfl, fun _ => rfl, fun _ => rfl⟩)) hL.out gz) H hN (Or.inr ⟨rfl, no⟩)⟩⟩
  · obtain ⟨v, rfl, hJ⟩ := hp
    exact hJ p e s m args below meth c G A R' hX H1 locs1 ls hh1 hS1 hls
theorem la_12 (hi : i + 5 ≤ Ln) (hl : Ln ≤ 2560) (hb : nc + 40 ≤ 601024 ∧ ns + 400 ≤ 7293034) (hL : Lw x0 m0 w C M) (hR : RelE C M) (hN : Nx l b Ln xs x0 m0 i nc ns) : JL l b Ln xs 667 [(4, .int (nI i)), (3, .ref (m0 + 34)), (2, .ref m0), (1, .ref x0), (0, .ref b)] [] w nc ns := by
  refine jl_s cl_12_ok ev0 [681] (fun x h => h) 80 rfl ⟨by omega, by omega⟩ ?_
  refine ⟨rfl, i + 1, ixa hi hl (by decide), rfl, i + 2, ixa hi hl (by decide), ?_⟩
  have hk9 := hL.k9h hR
  obtain ⟨np, nl, nh, nw, nS, ng, dy, tt, R, Q, H⟩ := hR
  have e25 : cI C 9 13 0 = M 25 0 := H.2.2.2.2.2.2.2.2.2.2.2.2.1.1.trans H.2.2.2.2.2.2.2.2.2.2.2.2.1.2.2.symm
  intro p e s m args below meth c G A R' hX H0 locs ls hh hS hls
  obtain ⟨Cc, hAA, hA, hRr, hRc, hRs, hlt, hE, hxs, hbl⟩ := id hX
  refine r_callPF (As := [.ref x0, .int (xs (i + 1)), .int (xs (i + 2)), .ref (m0 + 34)]) (rest := []) (Po := fun r w => ∃ v, r = some (.int v) ∧ JL l b Ln xs 684 [(4, .int (nI i)), (3, .ref (m0 + 34)), (2, .ref m0), (1, .ref x0), (0, .ref b)] [.int v] w (nc + 1) (ns + 6)) Cc hE hAA hA hh hS hls.1 (PH m0) (c_ld l hlt) (lpd_ok _ (by simp)) (lpd_ok (.methodLink "WatchValleyLaw" 82 ldN) (by simp)) (lpd_ok (.static ldN) (by simp)) (lpd_ok (.initialized "WatchValleyLaw") (by simp)) (by decide) (n := 4) (by decide) (lv := 30) (by decide) hRr (by rw [hRc]; omega) (by rw [hRs]; omega) rfl rfl ?_ d_681 (fun r w' H1 locs1 hp hh1 hS1 => ?_)
  · refine ⟨x0, xs (i + 1), xs (i + 2), m0 + 34, rfl, hk9, C, xs (i + 1), xs (i + 2), nh, fun h => dsc (fun g => decide (M 31 g = nI h)) ng, fun h => dsc (fun e => decide (M 27 e = nI h)) nS, by rw [hL.a], hL.h, H.1.1, H.1.2.2.2.1.1, fun h hh => ⟨H.2.2.2.2.2.2.2.2.2.1.2.2 h hh, H.2.2.2.2.2.2.2.2.1.2.2 h hh⟩, fun h hh ex hk => ⟨_, rfl, hL.out, fun dom gz => ⟨0, rfl, ta_12 hi hl hb ⟨by omega, by omega⟩ (hL.h' hL.h hL.out gz) H hN (Or.inl ⟨rfl, h, hh, ex, ⟨hk.1, by rw [← e25]; exact hk.2⟩, (jJ hL).trans (Rel_due H h (xs (i + 2)))⟩)⟩⟩, fun no dom gz => ⟨1, rfl, ta_12 hi hl hb ⟨by omega, by omega⟩ (hL.h' (hL.h.cg (Nat.le_succ _) (fun _ _ _ => ⟨rfl, fun _ _ => rfl, fun _ _ => rfl, rfl, fun _ => rfl, fun _ => rfl⟩)) hL.out gz) H hN (Or.inr ⟨rfl, by rw [← e25]; exact no⟩)⟩⟩
  · obtain ⟨v, rfl, hJ⟩ := hp
    exact hJ p e s m args below meth c G A R' hX H1 locs1 ls hh1 hS1 hls
end CASES4
