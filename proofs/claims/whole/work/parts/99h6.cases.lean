/-! THE LAW: its plain cases -/
section CASES2
variable {l : Launch} {b Ln : Nat} {xs : Nat → Int32} {x0 m0 i nc ns : Nat} {w : Hp} {C : Cs} {M : Ms}
theorem la_1 (hi : i + 5 ≤ Ln) (hl : Ln ≤ 2560) (hb : nc + 40 ≤ 601024 ∧ ns + 400 ≤ 7293034) (hL : Lw x0 m0 w C M) (hR : RelE C M) (hN : Nx l b Ln xs x0 m0 i nc ns) : JL l b Ln xs 201 [(4, .int (nI i)), (3, .ref (m0 + 34)), (2, .ref m0), (1, .ref x0), (0, .ref b)] [] w nc ns := by
  refine jl_s cl_1_ok (evL_ok (L := [(6, 3, 31, 251, sp_craw), (86, 2, 0, 0, sp_raw)]) (by simpa using ⟨c_raw l, c_mraw l⟩)) [1095] (fun _ h => by simp at h) 80 rfl ⟨by omega, by omega⟩ ?_
  refine ⟨rfl, i + 1, ixa hi hl (by decide), rfl, i + 2, ixa hi hl (by decide), rfl, i + 3, ixa hi hl (by decide), rfl, i + 4, ixa hi hl (by decide), ⟨show 3 < 30 by decide, show nc + 31 ≤ 601024 by omega, show ns + 251 ≤ 7293034 by omega⟩, rfl, (hL.k9 hR).1, PC m0, (hL.k9 hR).2, ?_⟩
  dsimp only
  show sp_craw [.ref x0, .int (xs (i + 1)), .int (xs (i + 2)), .int (xs (i + 3)), .int (xs (i + 4))] (rst (PC m0) w) _
  refine pa_raw w C M hL hR _ ?_
  intro v w' h dom gz
  obtain ⟨k, h2⟩ := h dom gz
  refine ⟨rfl, i + 1, ixa hi hl (by decide), rfl, i + 2, ixa hi hl (by decide), rfl, i + 3, ixa hi hl (by decide), rfl, i + 4, ixa hi hl (by decide), ⟨show 2 < 30 by decide, show nc + 31 + 0 ≤ 601024 by omega, show ns + 251 + 0 ≤ 7293034 by omega⟩, rfl, k, PM m0, PM_t ⟨Nat.le_refl _, by omega⟩, ?_⟩
  dsimp only
  show sp_raw [.ref m0, .int (xs (i + 1)), .int (xs (i + 2)), .int (xs (i + 3)), .int (xs (i + 4))] (rst (PM m0) (mrg (PC m0) w w')) _
  refine h2 _ ?_
  intro w2 h3 d g
  obtain ⟨C', M', hL', hR'⟩ := h3 d g
  exact ⟨fun _ => hN _ _ _ _ _ hL' hR' (show nc + 31 + 0 ≤ nc + 40 by omega) (show ns + 251 + 0 ≤ ns + 400 by omega), fun h => absurd rfl h⟩
theorem la_2 (hi : i + 5 ≤ Ln) (hl : Ln ≤ 2560) (hb : nc + 40 ≤ 601024 ∧ ns + 400 ≤ 7293034) (hL : Lw x0 m0 w C M) (hR : RelE C M) (hN : Nx l b Ln xs x0 m0 i nc ns) : JL l b Ln xs 262 [(4, .int (nI i)), (3, .ref (m0 + 34)), (2, .ref m0), (1, .ref x0), (0, .ref b)] [] w nc ns := by
  refine jl_s cl_2_ok (evL_ok (L := [(12, 3, 1, 11, sp_csplit), (89, 4, 0, 0, sp_split)]) (by simpa using ⟨c_split l, c_msplit l⟩)) [1095] (fun _ h => by simp at h) 80 rfl ⟨by omega, by omega⟩ ?_
  refine ⟨rfl, i + 1, ixa hi hl (by decide), rfl, i + 2, ixa hi hl (by decide), ⟨show 3 < 30 by decide, show nc + 1 ≤ 601024 by omega, show ns + 11 ≤ 7293034 by omega⟩, rfl, (hL.k9 hR).1, PC m0, (hL.k9 hR).2, ?_⟩
  dsimp only
  show sp_csplit [.ref x0, .int (xs (i + 1)), .int (xs (i + 2))] (rst (PC m0) w) _
  refine pa_split w C M hL hR _ ?_
  intro v w' h dom gz
  obtain ⟨k, h2⟩ := h dom gz
  refine ⟨rfl, i + 1, ixa hi hl (by decide), rfl, i + 2, ixa hi hl (by decide), ⟨show 4 < 30 by decide, show nc + 1 + 0 ≤ 601024 by omega, show ns + 11 + 0 ≤ 7293034 by omega⟩, rfl, k, PM m0, PM_t ⟨Nat.le_refl _, by omega⟩, ?_⟩
  dsimp only
  show sp_split [.ref m0, .int (xs (i + 1)), .int (xs (i + 2))] (rst (PM m0) (mrg (PC m0) w w')) _
  refine h2 _ ?_
  intro w2 h3 d g
  obtain ⟨C', M', hL', hR'⟩ := h3 d g
  exact ⟨fun _ => hN _ _ _ _ _ hL' hR' (show nc + 1 + 0 ≤ nc + 40 by omega) (show ns + 11 + 0 ≤ ns + 400 by omega), fun h => absurd rfl h⟩
theorem la_3 (hi : i + 5 ≤ Ln) (hl : Ln ≤ 2560) (hb : nc + 40 ≤ 601024 ∧ ns + 400 ≤ 7293034) (hL : Lw x0 m0 w C M) (hR : RelE C M) (hN : Nx l b Ln xs x0 m0 i nc ns) : JL l b Ln xs 299 [(4, .int (nI i)), (3, .ref (m0 + 34)), (2, .ref m0), (1, .ref x0), (0, .ref b)] [] w nc ns := by
  refine jl_s cl_3_ok (evL_ok (L := [(17, 3, 0, 0, sp_cjoin), (93, 4, 0, 0, sp_join)]) (by simpa using ⟨c_join l, c_mjoin l⟩)) [1095] (fun _ h => by simp at h) 80 rfl ⟨by omega, by omega⟩ ?_
  refine ⟨rfl, i + 1, ixa hi hl (by decide), rfl, i + 2, ixa hi hl (by decide), ⟨show 3 < 30 by decide, show nc + 0 ≤ 601024 by omega, show ns + 0 ≤ 7293034 by omega⟩, rfl, (hL.k9 hR).1, PC m0, (hL.k9 hR).2, ?_⟩
  dsimp only
  show sp_cjoin [.ref x0, .int (xs (i + 1)), .int (xs (i + 2))] (rst (PC m0) w) _
  refine pa_join w C M hL hR _ ?_
  intro v w' h dom gz
  obtain ⟨k, h2⟩ := h dom gz
  refine ⟨rfl, i + 1, ixa hi hl (by decide), rfl, i + 2, ixa hi hl (by decide), ⟨show 4 < 30 by decide, show nc + 0 + 0 ≤ 601024 by omega, show ns + 0 + 0 ≤ 7293034 by omega⟩, rfl, k, PM m0, PM_t ⟨Nat.le_refl _, by omega⟩, ?_⟩
  dsimp only
  show sp_join [.ref m0, .int (xs (i + 1)), .int (xs (i + 2))] (rst (PM m0) (mrg (PC m0) w w')) _
  refine h2 _ ?_
  intro w2 h3 d g
  obtain ⟨C', M', hL', hR'⟩ := h3 d g
  exact ⟨fun _ => hN _ _ _ _ _ hL' hR' (show nc + 0 + 0 ≤ nc + 40 by omega) (show ns + 0 + 0 ≤ ns + 400 by omega), fun h => absurd rfl h⟩
theorem la_4 (hi : i + 5 ≤ Ln) (hl : Ln ≤ 2560) (hb : nc + 40 ≤ 601024 ∧ ns + 400 ≤ 7293034) (hL : Lw x0 m0 w C M) (hR : RelE C M) (hN : Nx l b Ln xs x0 m0 i nc ns) : JL l b Ln xs 336 [(4, .int (nI i)), (3, .ref (m0 + 34)), (2, .ref m0), (1, .ref x0), (0, .ref b)] [] w nc ns := by
  refine jl_s cl_4_ok (evL_ok (L := [(18, 3, 1, 3, sp_csend), (94, 4, 0, 0, sp_send)]) (by simpa using ⟨c_csend l, c_msend l⟩)) [1095] (fun _ h => by simp at h) 80 rfl ⟨by omega, by omega⟩ ?_
  refine ⟨rfl, i + 1, ixa hi hl (by decide), rfl, i + 2, ixa hi hl (by decide), ⟨show 3 < 30 by decide, show nc + 1 ≤ 601024 by omega, show ns + 3 ≤ 7293034 by omega⟩, rfl, (hL.k9 hR).1, PC m0, (hL.k9 hR).2, ?_⟩
  dsimp only
  show sp_csend [.ref x0, .int (xs (i + 1)), .int (xs (i + 2))] (rst (PC m0) w) _
  refine pa_send w C M hL hR _ ?_
  intro v w' h dom gz
  obtain ⟨k, h2⟩ := h dom gz
  refine ⟨rfl, i + 1, ixa hi hl (by decide), rfl, i + 2, ixa hi hl (by decide), ⟨show 4 < 30 by decide, show nc + 1 + 0 ≤ 601024 by omega, show ns + 3 + 0 ≤ 7293034 by omega⟩, rfl, k, PM m0, PM_t ⟨Nat.le_refl _, by omega⟩, ?_⟩
  dsimp only
  show sp_send [.ref m0, .int (xs (i + 1)), .int (xs (i + 2))] (rst (PM m0) (mrg (PC m0) w w')) _
  refine h2 _ ?_
  intro w2 h3 d g
  obtain ⟨C', M', hL', hR'⟩ := h3 d g
  exact ⟨fun _ => hN _ _ _ _ _ hL' hR' (show nc + 1 + 0 ≤ nc + 40 by omega) (show ns + 3 + 0 ≤ ns + 400 by omega), fun h => absurd rfl h⟩
theorem la_6 (hi : i + 5 ≤ Ln) (hl : Ln ≤ 2560) (hb : nc + 40 ≤ 601024 ∧ ns + 400 ≤ 7293034) (hL : Lw x0 m0 w C M) (hR : RelE C M) (hN : Nx l b Ln xs x0 m0 i nc ns) : JL l b Ln xs 414 [(4, .int (nI i)), (3, .ref (m0 + 34)), (2, .ref m0), (1, .ref x0), (0, .ref b)] [] w nc ns := by
  refine jl_s cl_6_ok (evL_ok (L := [(30, 3, 0, 0, sp_ccount), (99, 2, 0, 0, sp_count)]) (by simpa using ⟨c_count l, c_mcount l⟩)) [1095] (fun _ h => by simp at h) 80 rfl ⟨by omega, by omega⟩ ?_
  refine ⟨rfl, i + 1, ixa hi hl (by decide), ⟨show 3 < 30 by decide, show nc + 0 ≤ 601024 by omega, show ns + 0 ≤ 7293034 by omega⟩, rfl, (hL.k9 hR).1, PC m0, (hL.k9 hR).2, ?_⟩
  dsimp only
  show sp_ccount [.ref x0, .int (xs (i + 1))] (rst (PC m0) w) _
  refine pa_count w C M hL hR _ ?_
  intro v w' h dom gz
  obtain ⟨k, h2⟩ := h dom gz
  refine ⟨rfl, i + 1, ixa hi hl (by decide), ⟨show 2 < 30 by decide, show nc + 0 + 0 ≤ 601024 by omega, show ns + 0 + 0 ≤ 7293034 by omega⟩, rfl, k, PM m0, PM_t ⟨Nat.le_refl _, by omega⟩, ?_⟩
  dsimp only
  show sp_count [.ref m0, .int (xs (i + 1))] (rst (PM m0) (mrg (PC m0) w w')) _
  refine h2 _ ?_
  intro w2 h3 d g
  obtain ⟨C', M', hL', hR'⟩ := h3 d g
  exact ⟨fun _ => hN _ _ _ _ _ hL' hR' (show nc + 0 + 0 ≤ nc + 40 by omega) (show ns + 0 + 0 ≤ ns + 400 by omega), fun h => absurd rfl h⟩
theorem la_7 (hi : i + 5 ≤ Ln) (hl : Ln ≤ 2560) (hb : nc + 40 ≤ 601024 ∧ ns + 400 ≤ 7293034) (hL : Lw x0 m0 w C M) (hR : RelE C M) (hN : Nx l b Ln xs x0 m0 i nc ns) : JL l b Ln xs 439 [(4, .int (nI i)), (3, .ref (m0 + 34)), (2, .ref m0), (1, .ref x0), (0, .ref b)] [] w nc ns := by
  refine jl_s cl_7_ok (evL_ok (L := [(35, 2, 0, 0, sp_clot), (101, 3, 0, 0, sp_lot)]) (by simpa using ⟨c_lot l, c_mlot l⟩)) [1095] (fun _ h => by simp at h) 80 rfl ⟨by omega, by omega⟩ ?_
  refine ⟨rfl, i + 1, ixa hi hl (by decide), rfl, i + 2, ixa hi hl (by decide), ⟨show 2 < 30 by decide, show nc + 0 ≤ 601024 by omega, show ns + 0 ≤ 7293034 by omega⟩, rfl, (hL.k9 hR).1, PC m0, (hL.k9 hR).2, ?_⟩
  dsimp only
  show sp_clot [.ref x0, .int (xs (i + 1)), .int (xs (i + 2))] (rst (PC m0) w) _
  refine pa_lot w C M hL hR _ ?_
  intro v w' h dom gz
  obtain ⟨k, h2⟩ := h dom gz
  refine ⟨rfl, i + 1, ixa hi hl (by decide), rfl, i + 2, ixa hi hl (by decide), ⟨show 3 < 30 by decide, show nc + 0 + 0 ≤ 601024 by omega, show ns + 0 + 0 ≤ 7293034 by omega⟩, rfl, k, PM m0, PM_t ⟨Nat.le_refl _, by omega⟩, ?_⟩
  dsimp only
  show sp_lot [.ref m0, .int (xs (i + 1)), .int (xs (i + 2))] (rst (PM m0) (mrg (PC m0) w w')) _
  refine h2 _ ?_
  intro w2 h3 d g
  obtain ⟨C', M', hL', hR'⟩ := h3 d g
  exact ⟨fun _ => hN _ _ _ _ _ hL' hR' (show nc + 0 + 0 ≤ nc + 40 by omega) (show ns + 0 + 0 ≤ ns + 400 by omega), fun h => absurd rfl h⟩
theorem la_8 (hi : i + 5 ≤ Ln) (hl : Ln ≤ 2560) (hb : nc + 40 ≤ 601024 ∧ ns + 400 ≤ 7293034) (hL : Lw x0 m0 w C M) (hR : RelE C M) (hN : Nx l b Ln xs x0 m0 i nc ns) : JL l b Ln xs 476 [(4, .int (nI i)), (3, .ref (m0 + 34)), (2, .ref m0), (1, .ref x0), (0, .ref b)] [] w nc ns := by
  refine jl_s cl_8_ok (evL_ok (L := [(36, 2, 0, 0, sp_cat), (102, 3, 0, 0, sp_at)]) (by simpa using ⟨c_at l, c_mat l⟩)) [1095] (fun _ h => by simp at h) 80 rfl ⟨by omega, by omega⟩ ?_
  refine ⟨rfl, i + 1, ixa hi hl (by decide), rfl, i + 2, ixa hi hl (by decide), ⟨show 2 < 30 by decide, show nc + 0 ≤ 601024 by omega, show ns + 0 ≤ 7293034 by omega⟩, rfl, (hL.k9 hR).1, PC m0, (hL.k9 hR).2, ?_⟩
  dsimp only
  show sp_cat [.ref x0, .int (xs (i + 1)), .int (xs (i + 2))] (rst (PC m0) w) _
  refine pa_at w C M hL hR _ ?_
  intro v w' h dom gz
  obtain ⟨k, h2⟩ := h dom gz
  refine ⟨rfl, i + 1, ixa hi hl (by decide), rfl, i + 2, ixa hi hl (by decide), ⟨show 3 < 30 by decide, show nc + 0 + 0 ≤ 601024 by omega, show ns + 0 + 0 ≤ 7293034 by omega⟩, rfl, k, PM m0, PM_t ⟨Nat.le_refl _, by omega⟩, ?_⟩
  dsimp only
  show sp_at [.ref m0, .int (xs (i + 1)), .int (xs (i + 2))] (rst (PM m0) (mrg (PC m0) w w')) _
  refine h2 _ ?_
  intro w2 h3 d g
  obtain ⟨C', M', hL', hR'⟩ := h3 d g
  exact ⟨fun _ => hN _ _ _ _ _ hL' hR' (show nc + 0 + 0 ≤ nc + 40 by omega) (show ns + 0 + 0 ≤ ns + 400 by omega), fun h => absurd rfl h⟩
theorem la_10 (hi : i + 5 ≤ Ln) (hl : Ln ≤ 2560) (hb : nc + 40 ≤ 601024 ∧ ns + 400 ≤ 7293034) (hL : Lw x0 m0 w C M) (hR : RelE C M) (hN : Nx l b Ln xs x0 m0 i nc ns) : JL l b Ln xs 581 [(4, .int (nI i)), (3, .ref (m0 + 34)), (2, .ref m0), (1, .ref x0), (0, .ref b)] [] w nc ns := by
  refine jl_s cl_10_ok (evL_ok (L := [(38, 2, 0, 0, sp_cof), (104, 2, 0, 0, sp_of)]) (by simpa using ⟨c_of l, c_mof l⟩)) [1095] (fun _ h => by simp at h) 80 rfl ⟨by omega, by omega⟩ ?_
  refine ⟨rfl, i + 1, ixa hi hl (by decide), rfl, i + 2, ixa hi hl (by decide), ⟨show 2 < 30 by decide, show nc + 0 ≤ 601024 by omega, show ns + 0 ≤ 7293034 by omega⟩, rfl, (hL.k9 hR).1, PC m0, (hL.k9 hR).2, ?_⟩
  dsimp only
  show sp_cof [.ref x0, .int (xs (i + 1)), .int (xs (i + 2))] (rst (PC m0) w) _
  refine pa_of w C M hL hR _ ?_
  intro v w' h dom gz
  obtain ⟨k, h2⟩ := h dom gz
  refine ⟨rfl, i + 1, ixa hi hl (by decide), rfl, i + 2, ixa hi hl (by decide), ⟨show 2 < 30 by decide, show nc + 0 + 0 ≤ 601024 by omega, show ns + 0 + 0 ≤ 7293034 by omega⟩, rfl, k, PM m0, PM_t ⟨Nat.le_refl _, by omega⟩, ?_⟩
  dsimp only
  show sp_of [.ref m0, .int (xs (i + 1)), .int (xs (i + 2))] (rst (PM m0) (mrg (PC m0) w w')) _
  refine h2 _ ?_
  intro w2 h3 d g
  obtain ⟨C', M', hL', hR'⟩ := h3 d g
  exact ⟨fun _ => hN _ _ _ _ _ hL' hR' (show nc + 0 + 0 ≤ nc + 40 by omega) (show ns + 0 + 0 ≤ ns + 400 by omega), fun h => absurd rfl h⟩
theorem la_11 (hi : i + 5 ≤ Ln) (hl : Ln ≤ 2560) (hb : nc + 40 ≤ 601024 ∧ ns + 400 ≤ 7293034) (hL : Lw x0 m0 w C M) (hR : RelE C M) (hN : Nx l b Ln xs x0 m0 i nc ns) : JL l b Ln xs 618 [(4, .int (nI i)), (3, .ref (m0 + 34)), (2, .ref m0), (1, .ref x0), (0, .ref b)] [] w nc ns := by
  refine jl_s cl_11_ok (evL_ok (L := [(39, 3, 1, 4, sp_cwage), (105, 2, 0, 0, sp_wage)]) (by simpa using ⟨c_cwage l, c_mwage l⟩)) [1095] (fun _ h => by simp at h) 80 rfl ⟨by omega, by omega⟩ ?_
  refine ⟨rfl, i + 1, ixa hi hl (by decide), rfl, i + 2, ixa hi hl (by decide), rfl, i + 3, ixa hi hl (by decide), ⟨show 3 < 30 by decide, show nc + 1 ≤ 601024 by omega, show ns + 4 ≤ 7293034 by omega⟩, rfl, (hL.k9 hR).1, PC m0, (hL.k9 hR).2, ?_⟩
  dsimp only
  show sp_cwage [.ref x0, .int (xs (i + 1)), .int (xs (i + 2)), .int (xs (i + 3))] (rst (PC m0) w) _
  refine pa_wage w C M hL hR _ ?_
  intro v w' h dom gz
  obtain ⟨k, h2⟩ := h dom gz
  refine ⟨rfl, i + 1, ixa hi hl (by decide), rfl, i + 2, ixa hi hl (by decide), rfl, i + 3, ixa hi hl (by decide), ⟨show 2 < 30 by decide, show nc + 1 + 0 ≤ 601024 by omega, show ns + 4 + 0 ≤ 7293034 by omega⟩, rfl, k, PM m0, PM_t ⟨Nat.le_refl _, by omega⟩, ?_⟩
  dsimp only
  show sp_wage [.ref m0, .int (xs (i + 1)), .int (xs (i + 2)), .int (xs (i + 3))] (rst (PM m0) (mrg (PC m0) w w')) _
  refine h2 _ ?_
  intro w2 h3 d g
  obtain ⟨C', M', hL', hR'⟩ := h3 d g
  exact ⟨fun _ => hN _ _ _ _ _ hL' hR' (show nc + 1 + 0 ≤ nc + 40 by omega) (show ns + 4 + 0 ≤ ns + 400 by omega), fun h => absurd rfl h⟩
theorem la_13 (hi : i + 5 ≤ Ln) (hl : Ln ≤ 2560) (hb : nc + 40 ≤ 601024 ∧ ns + 400 ≤ 7293034) (hL : Lw x0 m0 w C M) (hR : RelE C M) (hN : Nx l b Ln xs x0 m0 i nc ns) : JL l b Ln xs 734 [(4, .int (nI i)), (3, .ref (m0 + 34)), (2, .ref m0), (1, .ref x0), (0, .ref b)] [] w nc ns := by
  refine jl_s cl_13_ok (evL_ok (L := [(41, 1, 0, 0, sp_cfit), (108, 2, 0, 0, sp_fit)]) (by simpa using ⟨c_fit l, c_mfit l⟩)) [1095] (fun _ h => by simp at h) 80 rfl ⟨by omega, by omega⟩ ?_
  refine ⟨rfl, i + 1, ixa hi hl (by decide), rfl, i + 2, ixa hi hl (by decide), rfl, i + 3, ixa hi hl (by decide), ⟨show 1 < 30 by decide, show nc + 0 ≤ 601024 by omega, show ns + 0 ≤ 7293034 by omega⟩, rfl, (hL.k9 hR).1, PC m0, (hL.k9 hR).2, ?_⟩
  dsimp only
  show sp_cfit [.ref x0, .int (xs (i + 1)), .int (xs (i + 2)), .int (xs (i + 3))] (rst (PC m0) w) _
  refine pa_fit w C M hL hR _ ?_
  intro v w' h dom gz
  obtain ⟨k, h2⟩ := h dom gz
  refine ⟨rfl, i + 1, ixa hi hl (by decide), rfl, i + 2, ixa hi hl (by decide), rfl, i + 3, ixa hi hl (by decide), ⟨show 2 < 30 by decide, show nc + 0 + 0 ≤ 601024 by omega, show ns + 0 + 0 ≤ 7293034 by omega⟩, rfl, k, PM m0, PM_t ⟨Nat.le_refl _, by omega⟩, ?_⟩
  dsimp only
  show sp_fit [.ref m0, .int (xs (i + 1)), .int (xs (i + 2)), .int (xs (i + 3))] (rst (PM m0) (mrg (PC m0) w w')) _
  refine h2 _ ?_
  intro w2 h3 d g
  obtain ⟨C', M', hL', hR'⟩ := h3 d g
  exact ⟨fun _ => hN _ _ _ _ _ hL' hR' (show nc + 0 + 0 ≤ nc + 40 by omega) (show ns + 0 + 0 ≤ ns + 400 by omega), fun h => absurd rfl h⟩
theorem la_14 (hi : i + 5 ≤ Ln) (hl : Ln ≤ 2560) (hb : nc + 40 ≤ 601024 ∧ ns + 400 ≤ 7293034) (hL : Lw x0 m0 w C M) (hR : RelE C M) (hN : Nx l b Ln xs x0 m0 i nc ns) : JL l b Ln xs 783 [(4, .int (nI i)), (3, .ref (m0 + 34)), (2, .ref m0), (1, .ref x0), (0, .ref b)] [] w nc ns := by
  refine jl_s cl_14_ok (evL_ok (L := [(42, 2, 0, 0, sp_cfits), (109, 2, 0, 0, sp_fits)]) (by simpa using ⟨c_fits l, c_mfits l⟩)) [1095] (fun _ h => by simp at h) 80 rfl ⟨by omega, by omega⟩ ?_
  refine ⟨rfl, i + 1, ixa hi hl (by decide), rfl, i + 2, ixa hi hl (by decide), ⟨show 2 < 30 by decide, show nc + 0 ≤ 601024 by omega, show ns + 0 ≤ 7293034 by omega⟩, rfl, (hL.k9 hR).1, PC m0, (hL.k9 hR).2, ?_⟩
  dsimp only
  show sp_cfits [.ref x0, .int (xs (i + 1)), .int (xs (i + 2))] (rst (PC m0) w) _
  refine pa_fits w C M hL hR _ ?_
  intro v w' h dom gz
  obtain ⟨k, h2⟩ := h dom gz
  refine ⟨rfl, i + 1, ixa hi hl (by decide), rfl, i + 2, ixa hi hl (by decide), ⟨show 2 < 30 by decide, show nc + 0 + 0 ≤ 601024 by omega, show ns + 0 + 0 ≤ 7293034 by omega⟩, rfl, k, PM m0, PM_t ⟨Nat.le_refl _, by omega⟩, ?_⟩
  dsimp only
  show sp_fits [.ref m0, .int (xs (i + 1)), .int (xs (i + 2))] (rst (PM m0) (mrg (PC m0) w w')) _
  refine h2 _ ?_
  intro w2 h3 d g
  obtain ⟨C', M', hL', hR'⟩ := h3 d g
  exact ⟨fun _ => hN _ _ _ _ _ hL' hR' (show nc + 0 + 0 ≤ nc + 40 by omega) (show ns + 0 + 0 ≤ ns + 400 by omega), fun h => absurd rfl h⟩
theorem la_15 {n fu f : Nat} (hn : n = 10) (hfu : fu = 11) (hf : f = 11) (hi : i + 5 ≤ Ln) (hl : Ln ≤ 2560) (hb : nc + 40 ≤ 601024 ∧ ns + 400 ≤ 7293034) (hL : Lw x0 m0 w C M) (hR : RelE C M) (hN : Nx l b Ln xs x0 m0 i nc ns) : JL l b Ln xs 820 [(4, .int (nI i)), (3, .ref (m0 + 34)), (2, .ref m0), (1, .ref x0), (0, .ref b)] [] w nc ns := by
  refine jl_s cl_15_ok (evL_ok (L := [(45, 27, 0, 0, sp_cmost n fu f), (111, 14, 0, 0, sp_most)]) (by simpa using ⟨c_cmost l n fu f hfu hf, c_most l⟩)) [1095] (fun _ h => by simp at h) 80 rfl ⟨by omega, by omega⟩ ?_
  refine ⟨rfl, i + 1, ixa hi hl (by decide), rfl, i + 2, ixa hi hl (by decide), rfl, i + 3, ixa hi hl (by decide), ⟨show 27 < 30 by decide, show nc + 0 ≤ 601024 by omega, show ns + 0 ≤ 7293034 by omega⟩, rfl, (hL.k9 hR).1, PC m0, (hL.k9 hR).2, ?_⟩
  dsimp only
  show sp_cmost n fu f [.ref x0, .int (xs (i + 1)), .int (xs (i + 2)), .int (xs (i + 3))] (rst (PC m0) w) _
  refine pa_most hn hfu hf w C M hL hR _ ?_
  intro v w' h dom gz
  obtain ⟨k, h2⟩ := h dom gz
  refine ⟨rfl, i + 1, ixa hi hl (by decide), rfl, i + 2, ixa hi hl (by decide), rfl, i + 3, ixa hi hl (by decide), ⟨show 14 < 30 by decide, show nc + 0 + 0 ≤ 601024 by omega, show ns + 0 + 0 ≤ 7293034 by omega⟩, rfl, k, PM m0, PM_t ⟨Nat.le_refl _, by omega⟩, ?_⟩
  dsimp only
  show sp_most [.ref m0, .int (xs (i + 1)), .int (xs (i + 2)), .int (xs (i + 3))] (rst (PM m0) (mrg (PC m0) w w')) _
  refine h2 _ ?_
  intro w2 h3 d g
  obtain ⟨C', M', hL', hR'⟩ := h3 d g
  exact ⟨fun _ => hN _ _ _ _ _ hL' hR' (show nc + 0 + 0 ≤ nc + 40 by omega) (show ns + 0 + 0 ≤ ns + 400 by omega), fun h => absurd rfl h⟩
theorem la_16 {n fu f : Nat} (hn : n = 10) (hfu : fu = 11) (hf : f = 11) (hi : i + 5 ≤ Ln) (hl : Ln ≤ 2560) (hb : nc + 40 ≤ 601024 ∧ ns + 400 ≤ 7293034) (hL : Lw x0 m0 w C M) (hR : RelE C M) (hN : Nx l b Ln xs x0 m0 i nc ns) : JL l b Ln xs 869 [(4, .int (nI i)), (3, .ref (m0 + 34)), (2, .ref m0), (1, .ref x0), (0, .ref b)] [] w nc ns := by
  refine jl_s cl_16_ok (evL_ok (L := [(57, 28, 10, 40, sp_cmake n fu f), (118, 14, 0, 0, sp_make)]) (by simpa using ⟨c_cmake l n fu f hfu hf hn, c_make l⟩)) [1095] (fun _ h => by simp at h) 80 rfl ⟨by omega, by omega⟩ ?_
  refine ⟨rfl, i + 1, ixa hi hl (by decide), rfl, i + 2, ixa hi hl (by decide), rfl, i + 3, ixa hi hl (by decide), ⟨show 28 < 30 by decide, show nc + 10 ≤ 601024 by omega, show ns + 40 ≤ 7293034 by omega⟩, rfl, (hL.k9 hR).1, PC m0, (hL.k9 hR).2, ?_⟩
  dsimp only
  show sp_cmake n fu f [.ref x0, .int (xs (i + 1)), .int (xs (i + 2)), .int (xs (i + 3))] (rst (PC m0) w) _
  refine pa_make hn hfu hf w C M hL hR _ ?_
  intro v w' h dom gz
  obtain ⟨k, h2⟩ := h dom gz
  refine ⟨rfl, i + 1, ixa hi hl (by decide), rfl, i + 2, ixa hi hl (by decide), rfl, i + 3, ixa hi hl (by decide), ⟨show 14 < 30 by decide, show nc + 10 + 0 ≤ 601024 by omega, show ns + 40 + 0 ≤ 7293034 by omega⟩, rfl, k, PM m0, PM_t ⟨Nat.le_refl _, by omega⟩, ?_⟩
  dsimp only
  show sp_make [.ref m0, .int (xs (i + 1)), .int (xs (i + 2)), .int (xs (i + 3))] (rst (PM m0) (mrg (PC m0) w w')) _
  refine h2 _ ?_
  intro w2 h3 d g
  obtain ⟨C', M', hL', hR'⟩ := h3 d g
  exact ⟨fun _ => hN _ _ _ _ _ hL' hR' (show nc + 10 + 0 ≤ nc + 40 by omega) (show ns + 40 + 0 ≤ ns + 400 by omega), fun h => absurd rfl h⟩
theorem la_17 (hi : i + 5 ≤ Ln) (hl : Ln ≤ 2560) (hb : nc + 40 ≤ 601024 ∧ ns + 400 ≤ 7293034) (hL : Lw x0 m0 w C M) (hR : RelE C M) (hN : Nx l b Ln xs x0 m0 i nc ns) : JL l b Ln xs 918 [(4, .int (nI i)), (3, .ref (m0 + 34)), (2, .ref m0), (1, .ref x0), (0, .ref b)] [] w nc ns := by
  refine jl_s cl_17_ok (evL_ok (L := [(69, 2, 0, 0, sp_cwatch), (121, 2, 0, 0, sp_watch)]) (by simpa using ⟨c_watch l, c_mwatch l⟩)) [1095] (fun _ h => by simp at h) 80 rfl ⟨by omega, by omega⟩ ?_
  refine ⟨rfl, i + 1, ixa hi hl (by decide), rfl, i + 2, ixa hi hl (by decide), ⟨show 2 < 30 by decide, show nc + 0 ≤ 601024 by omega, show ns + 0 ≤ 7293034 by omega⟩, rfl, (hL.k9 hR).1, PC m0, (hL.k9 hR).2, ?_⟩
  dsimp only
  show sp_cwatch [.ref x0, .int (xs (i + 1)), .int (xs (i + 2))] (rst (PC m0) w) _
  refine pa_watch w C M hL hR _ ?_
  intro v w' h dom gz
  obtain ⟨k, h2⟩ := h dom gz
  refine ⟨rfl, i + 1, ixa hi hl (by decide), rfl, i + 2, ixa hi hl (by decide), ⟨show 2 < 30 by decide, show nc + 0 + 0 ≤ 601024 by omega, show ns + 0 + 0 ≤ 7293034 by omega⟩, rfl, k, PM m0, PM_t ⟨Nat.le_refl _, by omega⟩, ?_⟩
  dsimp only
  show sp_watch [.ref m0, .int (xs (i + 1)), .int (xs (i + 2))] (rst (PM m0) (mrg (PC m0) w w')) _
  refine h2 _ ?_
  intro w2 h3 d g
  obtain ⟨C', M', hL', hR'⟩ := h3 d g
  exact ⟨fun _ => hN _ _ _ _ _ hL' hR' (show nc + 0 + 0 ≤ nc + 40 by omega) (show ns + 0 + 0 ≤ ns + 400 by omega), fun h => absurd rfl h⟩
theorem la_19 (hi : i + 5 ≤ Ln) (hl : Ln ≤ 2560) (hb : nc + 40 ≤ 601024 ∧ ns + 400 ≤ 7293034) (hL : Lw x0 m0 w C M) (hR : RelE C M) (hN : Nx l b Ln xs x0 m0 i nc ns) : JL l b Ln xs 1008 [(4, .int (nI i)), (3, .ref (m0 + 34)), (2, .ref m0), (1, .ref x0), (0, .ref b)] [] w nc ns := by
  refine jl_s cl_19_ok (evL_ok (L := [(72, 4, 0, 0, sp_ccounts), (124, 3, 0, 0, sp_counts)]) (by simpa using ⟨c_counts l, c_mcounts l⟩)) [1095] (fun _ h => by simp at h) 80 rfl ⟨by omega, by omega⟩ ?_
  refine ⟨rfl, i + 1, ixa hi hl (by decide), rfl, i + 2, ixa hi hl (by decide), ⟨show 4 < 30 by decide, show nc + 0 ≤ 601024 by omega, show ns + 0 ≤ 7293034 by omega⟩, rfl, (hL.k9 hR).1, PC m0, (hL.k9 hR).2, ?_⟩
  dsimp only
  show sp_ccounts [.ref x0, .int (xs (i + 1)), .int (xs (i + 2))] (rst (PC m0) w) _
  refine pa_counts w C M hL hR _ ?_
  intro v w' h dom gz
  obtain ⟨k, h2⟩ := h dom gz
  refine ⟨rfl, i + 1, ixa hi hl (by decide), rfl, i + 2, ixa hi hl (by decide), ⟨show 3 < 30 by decide, show nc + 0 + 0 ≤ 601024 by omega, show ns + 0 + 0 ≤ 7293034 by omega⟩, rfl, k, PM m0, PM_t ⟨Nat.le_refl _, by omega⟩, ?_⟩
  dsimp only
  show sp_counts [.ref m0, .int (xs (i + 1)), .int (xs (i + 2))] (rst (PM m0) (mrg (PC m0) w w')) _
  refine h2 _ ?_
  intro w2 h3 d g
  obtain ⟨C', M', hL', hR'⟩ := h3 d g
  exact ⟨fun _ => hN _ _ _ _ _ hL' hR' (show nc + 0 + 0 ≤ nc + 40 by omega) (show ns + 0 + 0 ≤ ns + 400 by omega), fun h => absurd rfl h⟩
theorem la_20 (hi : i + 5 ≤ Ln) (hl : Ln ≤ 2560) (hb : nc + 40 ≤ 601024 ∧ ns + 400 ≤ 7293034) (hL : Lw x0 m0 w C M) (hR : RelE C M) (hN : Nx l b Ln xs x0 m0 i nc ns) : JL l b Ln xs 1045 [(4, .int (nI i)), (3, .ref (m0 + 34)), (2, .ref m0), (1, .ref x0), (0, .ref b)] [] w nc ns := by
  refine jl_s cl_20_ok (evL_ok (L := [(75, 4, 0, 0, sp_csuspect), (126, 3, 0, 0, sp_suspect)]) (by simpa using ⟨c_suspect l, c_msuspect l⟩)) [1095] (fun _ h => by simp at h) 80 rfl ⟨by omega, by omega⟩ ?_
  refine ⟨rfl, i + 1, ixa hi hl (by decide), ⟨show 4 < 30 by decide, show nc + 0 ≤ 601024 by omega, show ns + 0 ≤ 7293034 by omega⟩, rfl, (hL.k9 hR).1, PC m0, (hL.k9 hR).2, ?_⟩
  dsimp only
  show sp_csuspect [.ref x0, .int (xs (i + 1))] (rst (PC m0) w) _
  refine pa_suspect w C M hL hR _ ?_
  intro v w' h dom gz
  obtain ⟨k, h2⟩ := h dom gz
  refine ⟨rfl, i + 1, ixa hi hl (by decide), ⟨show 3 < 30 by decide, show nc + 0 + 0 ≤ 601024 by omega, show ns + 0 + 0 ≤ 7293034 by omega⟩, rfl, k, PM m0, PM_t ⟨Nat.le_refl _, by omega⟩, ?_⟩
  dsimp only
  show sp_suspect [.ref m0, .int (xs (i + 1))] (rst (PM m0) (mrg (PC m0) w w')) _
  refine h2 _ ?_
  intro w2 h3 d g
  obtain ⟨C', M', hL', hR'⟩ := h3 d g
  exact ⟨fun _ => hN _ _ _ _ _ hL' hR' (show nc + 0 + 0 ≤ nc + 40 by omega) (show ns + 0 + 0 ≤ ns + 400 by omega), fun h => absurd rfl h⟩
theorem la_21 (hi : i + 5 ≤ Ln) (hl : Ln ≤ 2560) (hb : nc + 40 ≤ 601024 ∧ ns + 400 ≤ 7293034) (hL : Lw x0 m0 w C M) (hR : RelE C M) (hN : Nx l b Ln xs x0 m0 i nc ns) : JL l b Ln xs 1070 [(4, .int (nI i)), (3, .ref (m0 + 34)), (2, .ref m0), (1, .ref x0), (0, .ref b)] [] w nc ns := by
  refine jl_s cl_21_ok (evL_ok (L := [(76, 2, 0, 0, sp_crecall), (127, 3, 0, 0, sp_recall)]) (by simpa using ⟨c_recall l, c_mrecall l⟩)) [1095] (fun _ h => by simp at h) 80 rfl ⟨by omega, by omega⟩ ?_
  refine ⟨rfl, i + 1, ixa hi hl (by decide), ⟨show 2 < 30 by decide, show nc + 0 ≤ 601024 by omega, show ns + 0 ≤ 7293034 by omega⟩, rfl, (hL.k9 hR).1, PC m0, (hL.k9 hR).2, ?_⟩
  dsimp only
  show sp_crecall [.ref x0, .int (xs (i + 1))] (rst (PC m0) w) _
  refine pa_recall w C M hL hR _ ?_
  intro v w' h dom gz
  obtain ⟨k, h2⟩ := h dom gz
  refine ⟨rfl, i + 1, ixa hi hl (by decide), ⟨show 3 < 30 by decide, show nc + 0 + 0 ≤ 601024 by omega, show ns + 0 + 0 ≤ 7293034 by omega⟩, rfl, k, PM m0, PM_t ⟨Nat.le_refl _, by omega⟩, ?_⟩
  dsimp only
  show sp_recall [.ref m0, .int (xs (i + 1))] (rst (PM m0) (mrg (PC m0) w w')) _
  refine h2 _ ?_
  intro w2 h3 d g
  obtain ⟨C', M', hL', hR'⟩ := h3 d g
  exact ⟨fun _ => hN _ _ _ _ _ hL' hR' (show nc + 0 + 0 ≤ nc + 40 by omega) (show ns + 0 + 0 ≤ ns + 400 by omega), fun h => absurd rfl h⟩
theorem la_5 {fu : Nat} (hfu : 80 < fu) (hi : i + 5 ≤ Ln) (hl : Ln ≤ 2560) (hb : nc + 40 ≤ 601024 ∧ ns + 400 ≤ 7293034) (hL : Lw x0 m0 w C M) (hR : RelE C M) (hN : Nx l b Ln xs x0 m0 i nc ns) : JL l b Ln xs 373 [(4, .int (nI i)), (3, .ref (m0 + 34)), (2, .ref m0), (1, .ref x0), (0, .ref b)] [] w nc ns := by
  refine jl_s cl_5_ok (evL_ok (L := [(21, 4, 0, 0, sp_cday), (95, 3, 0, 0, sp_day fu)]) (by simpa using ⟨c_day l, c_mday l fu hfu⟩)) [1095] (fun _ h => by simp at h) 80 rfl ⟨by omega, by omega⟩ ?_
  by_cases z : xs (i + 1) = 0
  · refine ⟨rfl, i + 1, ixa hi hl (by decide), fun _ => ⟨⟨show 4 < 30 by decide, show nc + 0 ≤ 601024 by omega, show ns + 0 ≤ 7293034 by omega⟩, rfl, (hL.k9 hR).1, PC m0, (hL.k9 hR).2, ?_⟩, fun q => absurd z q⟩
    dsimp only
    show sp_cday [.ref x0, .int 0] (rst (PC m0) w) _
    refine pa_day hfu w C M hL hR _ ?_
    intro v w' h dom gz
    obtain ⟨k, h2⟩ := h dom gz
    refine ⟨rfl, i + 1, ixa hi hl (by decide), fun _ => ⟨⟨show 3 < 30 by decide, show nc + 0 + 0 ≤ 601024 by omega, show ns + 0 + 0 ≤ 7293034 by omega⟩, rfl, k, PM m0, PM_t ⟨Nat.le_refl _, by omega⟩, ?_⟩, fun q => absurd z q⟩
    dsimp only
    show sp_day fu [.ref m0, .int 0] (rst (PM m0) (mrg (PC m0) w w')) _
    refine h2 _ ?_
    intro w2 h3 d g
    obtain ⟨C', M', hL', hR'⟩ := h3 d g
    exact ⟨fun _ => hN _ _ _ _ _ hL' hR' (show nc + 0 + 0 ≤ nc + 40 by omega) (show ns + 0 + 0 ≤ ns + 400 by omega), fun h => absurd rfl h⟩
  · refine ⟨rfl, i + 1, ixa hi hl (by decide), fun q => absurd q z, fun _ => ⟨⟨show 4 < 30 by decide, show nc + 0 ≤ 601024 by omega, show ns + 0 ≤ 7293034 by omega⟩, rfl, (hL.k9 hR).1, PC m0, (hL.k9 hR).2, ?_⟩⟩
    dsimp only
    show sp_cday [.ref x0, .int 1] (rst (PC m0) w) _
    refine pa_day hfu w C M hL hR _ ?_
    intro v w' h dom gz
    obtain ⟨k, h2⟩ := h dom gz
    refine ⟨rfl, i + 1, ixa hi hl (by decide), fun q => absurd q z, fun _ => ⟨⟨show 3 < 30 by decide, show nc + 0 + 0 ≤ 601024 by omega, show ns + 0 + 0 ≤ 7293034 by omega⟩, rfl, k, PM m0, PM_t ⟨Nat.le_refl _, by omega⟩, ?_⟩⟩
    dsimp only
    show sp_day fu [.ref m0, .int 1] (rst (PM m0) (mrg (PC m0) w w')) _
    refine h2 _ ?_
    intro w2 h3 d g
    obtain ⟨C', M', hL', hR'⟩ := h3 d g
    exact ⟨fun _ => hN _ _ _ _ _ hL' hR' (show nc + 0 + 0 ≤ nc + 40 by omega) (show ns + 0 + 0 ≤ ns + 400 by omega), fun h => absurd rfl h⟩
theorem la_18 (hi : i + 5 ≤ Ln) (hl : Ln ≤ 2560) (hb : nc + 40 ≤ 601024 ∧ ns + 400 ≤ 7293034) (hL : Lw x0 m0 w C M) (hR : RelE C M) (hN : Nx l b Ln xs x0 m0 i nc ns) : JL l b Ln xs 955 [(4, .int (nI i)), (3, .ref (m0 + 34)), (2, .ref m0), (1, .ref x0), (0, .ref b)] [] w nc ns := by
  refine jl_s cl_18_ok (evL_ok (L := [(71, 2, 0, 0, sp_cback), (123, 2, 0, 0, sp_back)]) (by simpa using ⟨c_back l, c_mback l⟩)) [1095] (fun _ h => by simp at h) 80 rfl ⟨by omega, by omega⟩ ?_
  by_cases z : xs (i + 2) = 0
  · refine ⟨rfl, i + 1, ixa hi hl (by decide), rfl, i + 2, ixa hi hl (by decide), fun _ => ⟨⟨show 2 < 30 by decide, show nc + 0 ≤ 601024 by omega, show ns + 0 ≤ 7293034 by omega⟩, rfl, (hL.k9 hR).1, PC m0, (hL.k9 hR).2, ?_⟩, fun q => absurd z q⟩
    dsimp only
    show sp_cback [.ref x0, .int (xs (i + 1)), .int 0] (rst (PC m0) w) _
    refine pa_back (Or.inl rfl) w C M hL hR _ ?_
    intro v w' h dom gz
    obtain ⟨k, h2⟩ := h dom gz
    refine ⟨rfl, i + 1, ixa hi hl (by decide), rfl, i + 2, ixa hi hl (by decide), fun _ => ⟨⟨show 2 < 30 by decide, show nc + 0 + 0 ≤ 601024 by omega, show ns + 0 + 0 ≤ 7293034 by omega⟩, rfl, k, PM m0, PM_t ⟨Nat.le_refl _, by omega⟩, ?_⟩, fun q => absurd z q⟩
    dsimp only
    show sp_back [.ref m0, .int (xs (i + 1)), .int 0] (rst (PM m0) (mrg (PC m0) w w')) _
    refine h2 _ ?_
    intro w2 h3 d g
    obtain ⟨C', M', hL', hR'⟩ := h3 d g
    exact ⟨fun _ => hN _ _ _ _ _ hL' hR' (show nc + 0 + 0 ≤ nc + 40 by omega) (show ns + 0 + 0 ≤ ns + 400 by omega), fun h => absurd rfl h⟩
  · refine ⟨rfl, i + 1, ixa hi hl (by decide), rfl, i + 2, ixa hi hl (by decide), fun q => absurd q z, fun _ => ⟨⟨show 2 < 30 by decide, show nc + 0 ≤ 601024 by omega, show ns + 0 ≤ 7293034 by omega⟩, rfl, (hL.k9 hR).1, PC m0, (hL.k9 hR).2, ?_⟩⟩
    dsimp only
    show sp_cback [.ref x0, .int (xs (i + 1)), .int 1] (rst (PC m0) w) _
    refine pa_back (Or.inr rfl) w C M hL hR _ ?_
    intro v w' h dom gz
    obtain ⟨k, h2⟩ := h dom gz
    refine ⟨rfl, i + 1, ixa hi hl (by decide), rfl, i + 2, ixa hi hl (by decide), fun q => absurd q z, fun _ => ⟨⟨show 2 < 30 by decide, show nc + 0 + 0 ≤ 601024 by omega, show ns + 0 + 0 ≤ 7293034 by omega⟩, rfl, k, PM m0, PM_t ⟨Nat.le_refl _, by omega⟩, ?_⟩⟩
    dsimp only
    show sp_back [.ref m0, .int (xs (i + 1)), .int 1] (rst (PM m0) (mrg (PC m0) w w')) _
    refine h2 _ ?_
    intro w2 h3 d g
    obtain ⟨C', M', hL', hR'⟩ := h3 d g
    exact ⟨fun _ => hN _ _ _ _ _ hL' hR' (show nc + 0 + 0 ≤ nc + 40 by omega) (show ns + 0 + 0 ≤ ns + 400 by omega), fun h => absurd rfl h⟩
end CASES2
