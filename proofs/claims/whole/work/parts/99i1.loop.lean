/-! THE LAW: its loop -/
theorem sub5 {n : Nat} (h : n ≤ 2560) : (nI n - 5 : Int32).toInt = (n : Int) - 5 := by
  rcases Nat.lt_or_ge n 5 with z | z
  · match n, z with
    | 0, _ => decide
    | 1, _ => decide
    | 2, _ => decide
    | 3, _ => decide
    | 4, _ => decide
  · obtain ⟨k, rfl⟩ : ∃ k, n = k + 5 := ⟨n - 5, by omega⟩
    have e : nI (k + 5) - 5 = nI k := by
      rw [← nI_add k 5]
      exact Int32.add_sub_cancel _ _
    rw [e, nI_toInt (by omega)]
    omega
theorem law_end {l : Launch} {b Ln : Nat} {xs : Nat → Int32} {L : Ls} {w : Hp} {nc ns : Nat} (hb : nc ≤ 601024 ∧ ns ≤ 7293034) : JL l b Ln xs 1101 L [] w nc ns := by
  refine jl_s cl_e_ok ev0 [] (fun _ h => by simp at h) 10 rfl hb ?_
  exact ⟨Or.inr rfl, rfl⟩
set_option maxRecDepth 100000 in
theorem law_loop {l : Launch} {b Ln : Nat} {xs : Nat → Int32} {x0 m0 n fu f fd : Nat} (hn : n = 10) (hfu : fu = 11) (hf : f = 11) (hfd : 80 < fd) (hl : Ln ≤ 2560) : ∀ (d i : Nat) (w : Hp) (C : Cs) (M : Ms) (nc ns : Nat), Ln ≤ i + d → i ≤ Ln → nc ≤ 100 + 8 * i ∧ ns ≤ 30000 + 80 * i → Lw x0 m0 w C M → RelE C M → JL l b Ln xs 23 [(4, .int (nI i)), (3, .ref (m0 + 34)), (2, .ref m0), (1, .ref x0), (0, .ref b)] [] w nc ns := by
  intro d
  induction d using Nat.strongRecOn with
  | ind d ih =>
  intro i w C M nc ns hd hiL hb hL hR
  refine jl_s cl_h_ok ev0 [1095, 1101, 140, 201, 262, 299, 336, 373, 414, 439, 476, 513, 581, 618, 667, 734, 783, 820, 869, 918, 955, 1008, 1045, 1070] (fun _ h => by simp at h) 40 rfl ⟨by omega, by omega⟩ ?_
  refine ⟨rfl, fun z => law_end ⟨by omega, by omega⟩, fun z => ?_⟩
  have hi : i + 5 ≤ Ln := by
    have z : ¬ (nI i > nI Ln - 5) := z
    rw [gt_iff_lt, i_lt, sub5 hl, nI_toInt (by omega)] at z
    omega
  have hb4 : nc + 40 ≤ 601024 ∧ ns + 400 ≤ 7293034 := ⟨by omega, by omega⟩
  have hN : Nx l b Ln xs x0 m0 i nc ns := fun w' C' M' nc' ns' hL' hR' h1 h2 => by
    have q1 : nc' ≤ 100 + 8 * (i + 5) := by omega
    have q2 : ns' ≤ 30000 + 80 * (i + 5) := by
      have := hb.2
      omega
    refine jl_s cl_e_ok ev0 [23] (fun _ h => by simp at h) 10 rfl ⟨by omega, by omega⟩ ?_
    show JL l b Ln xs 23 [(4, .int (nI i + 5)), (3, .ref (m0 + 34)), (2, .ref m0), (1, .ref x0), (0, .ref b)] [] w' nc' ns'
    rw [show nI i + 5 = nI (i + 5) from nI_add i 5]
    exact ih (d - 5) (by omega) (i + 5) w' C' M' nc' ns' (by omega) hi ⟨q1, q2⟩ hL' hR'
  refine ⟨rfl, i, ⟨rfl, by omega, by omega⟩, fun z => hN w C M nc ns hL hR (by omega) (by omega), fun z => la_0 hi hl hb4 hL hR hN, fun z => la_1 hi hl hb4 hL hR hN, fun z => la_2 hi hl hb4 hL hR hN, fun z => la_3 hi hl hb4 hL hR hN, fun z => la_4 hi hl hb4 hL hR hN, fun z => la_5 hfd hi hl hb4 hL hR hN, fun z => la_6 hi hl hb4 hL hR hN, fun z => la_7 hi hl hb4 hL hR hN, fun z => la_8 hi hl hb4 hL hR hN, fun z => la_9 hi hl hb4 hL hR hN, fun z => la_10 hi hl hb4 hL hR hN, fun z => la_11 hi hl hb4 hL hR hN, fun z => la_12 hi hl hb4 hL hR hN, fun z => la_13 hi hl hb4 hL hR hN, fun z => la_14 hi hl hb4 hL hR hN, fun z => la_15 hn hfu hf hi hl hb4 hL hR hN, fun z => la_16 hn hfu hf hi hl hb4 hL hR hN, fun z => la_17 hi hl hb4 hL hR hN, fun z => la_18 hi hl hb4 hL hR hN, fun z => la_19 hi hl hb4 hL hR hN, fun z => la_20 hi hl hb4 hL hR hN, fun z => la_21 hi hl hb4 hL hR hN, trivial⟩
