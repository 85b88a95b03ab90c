/-! THE CLASS: piece and due, which throw -/
def cd_78 : List CI := [(0, .aload_n 0, 1, 0, 0, 0, []), (1, .iload_n 1, 1, 0, 0, 0, []), (2, .invokevirtual 158, 3, 43, 0, 0, []), (5, .astore_n 3, 1, 0, 0, 0, []), (6, .aload_n 3, 1, 0, 0, 0, []), (7, .ifnonnull 13, 3, 20, 0, 0, []), (10, .new 161, 3, 99, 0, 0, []), (13, .dup, 1, 0, 0, 0, []), (14, .ldc 163, 2, 0, 0, 0, []), (16, .invokespecial 165, 3, 999, 0, 0, []), (19, .athrow, 1, 0, 0, 0, []), (20, .iload_n 2, 1, 0, 0, 0, []), (21, .tableswitch 69 0 5 #[39, 44, 49, 54, 59, 64], 39, 90, 0, 0, [60, 65, 70, 75, 80, 85]), (60, .aload_n 3, 1, 0, 0, 0, []), (61, .getfield 168, 3, 5, 1, 0, []), (64, .ireturn, 1, 0, 0, 0, []), (65, .aload_n 3, 1, 0, 0, 0, []), (66, .getfield 169, 3, 5, 3, 0, []), (69, .ireturn, 1, 0, 0, 0, []), (70, .aload_n 3, 1, 0, 0, 0, []), (71, .getfield 170, 3, 5, 2, 0, []), (74, .ireturn, 1, 0, 0, 0, []), (75, .aload_n 3, 1, 0, 0, 0, []), (76, .getfield 173, 3, 5, 4, 0, []), (79, .ireturn, 1, 0, 0, 0, []), (80, .aload_n 3, 1, 0, 0, 0, []), (81, .getfield 175, 3, 5, 5, 0, []), (84, .ireturn, 1, 0, 0, 0, []), (85, .aload_n 3, 1, 0, 0, 0, []), (86, .getfield 178, 3, 5, 6, 0, []), (89, .ireturn, 1, 0, 0, 0, []), (90, .new 161, 3, 99, 0, 0, []), (93, .dup, 1, 0, 0, 0, []), (94, .ldc 181, 2, 0, 0, 0, []), (96, .invokespecial 165, 3, 999, 0, 0, []), (99, .athrow, 1, 0, 0, 0, [])]
set_option maxRecDepth 100000 in
theorem cdt_78 : (∀ q ∈ cd_78, ([10, 13, 14, 16, 19, 90, 93, 94, 96, 99] : List Nat).contains q.1 = false → ciOK (mt 78).2.1 (mtC.getD 78 0) (mt 78).2.2.1 (mtI 78) q) ∧ chn cd_78 = true := (⟨by unfold ciOK; decide +kernel, by decide +kernel⟩ : (∀ q ∈ cd_78, ([10, 13, 14, 16, 19, 90, 93, 94, 96, 99] : List Nat).contains q.1 = false → ciOK prog_1_method_11_code 9 4 false q) ∧ chn cd_78 = true)
theorem dt_78_10 : decode (mt 78).2.1 10 = .ok (.new 161, 3) := (by decide +kernel : decode prog_1_method_11_code 10 = .ok (.new 161, 3))
theorem dt_78_13 : decode (mt 78).2.1 13 = .ok (.dup, 1) := (by decide +kernel : decode prog_1_method_11_code 13 = .ok (.dup, 1))
theorem dt_78_14 : decode (mt 78).2.1 14 = .ok (.ldc 163, 2) := (by decide +kernel : decode prog_1_method_11_code 14 = .ok (.ldc 163, 2))
theorem dt_78_16 : decode (mt 78).2.1 16 = .ok (.invokespecial 165, 3) := (by decide +kernel : decode prog_1_method_11_code 16 = .ok (.invokespecial 165, 3))
theorem dt_78_19 : decode (mt 78).2.1 19 = .ok (.athrow, 1) := (by decide +kernel : decode prog_1_method_11_code 19 = .ok (.athrow, 1))
theorem dt_78_90 : decode (mt 78).2.1 90 = .ok (.new 161, 3) := (by decide +kernel : decode prog_1_method_11_code 90 = .ok (.new 161, 3))
theorem dt_78_93 : decode (mt 78).2.1 93 = .ok (.dup, 1) := (by decide +kernel : decode prog_1_method_11_code 93 = .ok (.dup, 1))
theorem dt_78_94 : decode (mt 78).2.1 94 = .ok (.ldc 181, 2) := (by decide +kernel : decode prog_1_method_11_code 94 = .ok (.ldc 181, 2))
theorem dt_78_96 : decode (mt 78).2.1 96 = .ok (.invokespecial 165, 3) := (by decide +kernel : decode prog_1_method_11_code 96 = .ok (.invokespecial 165, 3))
theorem dt_78_99 : decode (mt 78).2.1 99 = .ok (.athrow, 1) := (by decide +kernel : decode prog_1_method_11_code 99 = .ok (.athrow, 1))
def cd_79 : List CI := [(0, .aload_n 0, 1, 0, 0, 0, []), (1, .iload_n 1, 1, 0, 0, 0, []), (2, .invokevirtual 92, 3, 19, 0, 0, []), (5, .astore_n 3, 1, 0, 0, 0, []), (6, .aload_n 3, 1, 0, 0, 0, []), (7, .ifnonnull 13, 3, 20, 0, 0, []), (10, .new 161, 3, 99, 0, 0, []), (13, .dup, 1, 0, 0, 0, []), (14, .ldc 211, 2, 0, 0, 0, []), (16, .invokespecial 165, 3, 999, 0, 0, []), (19, .athrow, 1, 0, 0, 0, []), (20, .iload_n 2, 1, 0, 0, 0, []), (21, .ifCond .lt 11, 3, 32, 0, 0, []), (24, .iload_n 2, 1, 0, 0, 0, []), (25, .aload_n 0, 1, 0, 0, 0, []), (26, .getfield 101, 3, 9, 13, 0, []), (29, .if_icmp .le 13, 3, 42, 0, 0, []), (32, .new 161, 3, 99, 0, 0, []), (35, .dup, 1, 0, 0, 0, []), (36, .ldc 213, 2, 0, 0, 0, []), (38, .invokespecial 165, 3, 999, 0, 0, []), (41, .athrow, 1, 0, 0, 0, []), (42, .aload_n 3, 1, 0, 0, 0, []), (43, .iload_n 2, 1, 0, 0, 0, []), (44, .invokevirtual 215, 3, 80, 0, 0, []), (47, .lreturn, 1, 0, 0, 0, [])]
set_option maxRecDepth 100000 in
theorem cdt_79 : (∀ q ∈ cd_79, ([10, 13, 14, 16, 19, 32, 35, 36, 38, 41] : List Nat).contains q.1 = false → ciOK (mt 79).2.1 (mtC.getD 79 0) (mt 79).2.2.1 (mtI 79) q) ∧ chn cd_79 = true := (⟨by unfold ciOK; decide +kernel, by decide +kernel⟩ : (∀ q ∈ cd_79, ([10, 13, 14, 16, 19, 32, 35, 36, 38, 41] : List Nat).contains q.1 = false → ciOK prog_1_method_14_code 9 4 false q) ∧ chn cd_79 = true)
theorem dt_79_10 : decode (mt 79).2.1 10 = .ok (.new 161, 3) := (by decide +kernel : decode prog_1_method_14_code 10 = .ok (.new 161, 3))
theorem dt_79_13 : decode (mt 79).2.1 13 = .ok (.dup, 1) := (by decide +kernel : decode prog_1_method_14_code 13 = .ok (.dup, 1))
theorem dt_79_14 : decode (mt 79).2.1 14 = .ok (.ldc 211, 2) := (by decide +kernel : decode prog_1_method_14_code 14 = .ok (.ldc 211, 2))
theorem dt_79_16 : decode (mt 79).2.1 16 = .ok (.invokespecial 165, 3) := (by decide +kernel : decode prog_1_method_14_code 16 = .ok (.invokespecial 165, 3))
theorem dt_79_19 : decode (mt 79).2.1 19 = .ok (.athrow, 1) := (by decide +kernel : decode prog_1_method_14_code 19 = .ok (.athrow, 1))
theorem dt_79_32 : decode (mt 79).2.1 32 = .ok (.new 161, 3) := (by decide +kernel : decode prog_1_method_14_code 32 = .ok (.new 161, 3))
theorem dt_79_35 : decode (mt 79).2.1 35 = .ok (.dup, 1) := (by decide +kernel : decode prog_1_method_14_code 35 = .ok (.dup, 1))
theorem dt_79_36 : decode (mt 79).2.1 36 = .ok (.ldc 213, 2) := (by decide +kernel : decode prog_1_method_14_code 36 = .ok (.ldc 213, 2))
theorem dt_79_38 : decode (mt 79).2.1 38 = .ok (.invokespecial 165, 3) := (by decide +kernel : decode prog_1_method_14_code 38 = .ok (.invokespecial 165, 3))
theorem dt_79_41 : decode (mt 79).2.1 41 = .ok (.athrow, 1) := (by decide +kernel : decode prog_1_method_14_code 41 = .ok (.athrow, 1))
def pieceC (C : Cs) (j c : Nat) : Int32 := match c with
  | 0 => cI C 5 1 j
  | 1 => cI C 5 3 j
  | 2 => cI C 5 2 j
  | 3 => cI C 5 4 j
  | 4 => cI C 5 5 j
  | _ => cI C 5 6 j
def sp_cpiece : SpT := fun as w K Kt => ∃ C x y n, as = [.ref (cA C 9 0), .int x, .int y] ∧ RX C w ∧ FX C ∧ NB C 23 5 7 300 n ∧ (∀ j c, j < n → c < 6 → x = nI j → y = nI c → K (some (.int (pieceC C j c))) w) ∧ ((¬ ∃ j c, j < n ∧ c < 6 ∧ x = nI j ∧ y = nI c) → Kt w)
theorem c_cpiece (l : Launch) (hl : l.stackTraces = false) : CtT l 78 8 1 6 sp_cpiece := by
  have hev : ∀ (k : Nat) (r : Nat × Nat × Nat × Sp), evL [(43, 1, 0, 0, sp_nb 23 5 7 300)] k = some r → Ct l k r.1 r.2.1 r.2.2.1 r.2.2.2 := evL_ok (by simpa using c_pieceN l)
  refine ctT_jd (rt := some .int) hl (by decide) rfl (fun as w Po Pt h => ?_)
  obtain ⟨C, x, y, n, rfl, hX, hF, hN, h1, h2⟩ := h
  have t10 : (¬ ∃ j c, j < n ∧ c < 6 ∧ x = nI j ∧ y = nI c) → ∀ L, JdT l 78 8 1 6 (some .int) Po Pt 10 L [] w 0 0 := fun q L => jdT_thr rfl (by decide) (j := 163) (tx := "no such piece") (by simp [strL]) dt_78_10 dt_78_13 dt_78_14 dt_78_16 dt_78_19 ⟨by decide, by decide⟩ (h2 q)
  have t90 : (¬ ∃ j c, j < n ∧ c < 6 ∧ x = nI j ∧ y = nI c) → ∀ L, JdT l 78 8 1 6 (some .int) Po Pt 90 L [] w 0 0 := fun q L => jdT_thr rfl (by decide) (j := 181) (tx := "no such question about a piece") (by simp [strL]) dt_78_90 dt_78_93 dt_78_94 dt_78_96 dt_78_99 ⟨by decide, by decide⟩ (h2 q)
  refine ⟨Nat.le_of_ble_eq_true rfl, jdT_s cdt_78 hev [10, 13, 14, 16, 19, 90, 93, 94, 96, 99] (fun _ h => h) 40 rfl ⟨by decide, by decide⟩ ?_⟩
  refine ⟨⟨by decide, by decide, by decide⟩, rfl, hX.k 9 0 hF.x, C, x, n, rfl, hX, hF, hN, fun j hj ex => ?_, fun q => t10 (fun ⟨j, _, hj, _, e, _⟩ => q ⟨j, hj, e⟩) _⟩
  have hj2 : j < cN C 5 := by rw [hN.2.2.1]; exact hj
  have hj3 := hN.2.1
  have h1 := fun c hc => h1 j c hj hc ex
  refine ⟨fun z => t90 (fun ⟨_, c', _, hc, _, hy⟩ => tw_out (n := 6) (by decide) z rfl rfl ⟨c', hc, hy⟩) _, fun z => ?_, fun z => ?_, fun z => ?_, fun z => ?_, fun z => ?_, fun z => ?_, trivial⟩
  · exact ⟨hX.k 5 j hj2, _, hX.gi 5 1 j (by decide) hj2 rfl, h1 0 (by decide) (ti_n (by decide) (by omega))⟩
  · exact ⟨hX.k 5 j hj2, _, hX.gi 5 3 j (by decide) hj2 rfl, h1 1 (by decide) (ti_n (by decide) (by omega))⟩
  · exact ⟨hX.k 5 j hj2, _, hX.gi 5 2 j (by decide) hj2 rfl, h1 2 (by decide) (ti_n (by decide) (by omega))⟩
  · exact ⟨hX.k 5 j hj2, _, hX.gi 5 4 j (by decide) hj2 rfl, h1 3 (by decide) (ti_n (by decide) (by omega))⟩
  · exact ⟨hX.k 5 j hj2, _, hX.gi 5 5 j (by decide) hj2 rfl, h1 4 (by decide) (ti_n (by decide) (by omega))⟩
  · exact ⟨hX.k 5 j hj2, _, hX.gi 5 6 j (by decide) hj2 rfl, h1 5 (by decide) (ti_n (by decide) (by omega))⟩
def sp_cdue : SpT := fun as w K Kt => ∃ C x kn n, ∃ G E : Nat → List Nat, as = [.ref (cA C 9 0), .int x, .int kn] ∧ RX C w ∧ FX C ∧ NB C 25 1 9 9 n ∧ (∀ h, h < n → chL (cL C 7 3) (cL C 1 11 h) (G h) ∧ chL (cL C 6 2) (cL C 1 10 h) (E h)) ∧ (∀ h, h < n → x = nI h → 0 ≤ kn ∧ kn ≤ cI C 9 13 0 → K (some (.long (dueC C h kn (G h) (E h) 0))) w) ∧ ((¬ ((∃ h, h < n ∧ x = nI h) ∧ 0 ≤ kn ∧ kn ≤ cI C 9 13 0)) → Kt w)
theorem c_cdue (l : Launch) (hl : l.stackTraces = false) : CtT l 79 8 1 6 sp_cdue := by
  have hev : ∀ (k : Nat) (r : Nat × Nat × Nat × Sp), evL [(19, 1, 0, 0, sp_nb 25 1 9 9), (80, 2, 0, 0, sp_dueAK)] k = some r → Ct l k r.1 r.2.1 r.2.2.1 r.2.2.2 := evL_ok (by simpa using ⟨c_homeN l, c_dueAK l⟩)
  refine ctT_jd (rt := some .long) hl (by decide) rfl (fun as w Po Pt h => ?_)
  obtain ⟨C, x, kn, n, G, E, rfl, hX, hF, hN, hGE, h1, h2⟩ := h
  have t10 : (¬ ((∃ h, h < n ∧ x = nI h) ∧ 0 ≤ kn ∧ kn ≤ cI C 9 13 0)) → ∀ L, JdT l 79 8 1 6 (some .long) Po Pt 10 L [] w 0 0 := fun q L => jdT_thr rfl (by decide) (j := 211) (tx := "no such home") (by simp [strL]) dt_79_10 dt_79_13 dt_79_14 dt_79_16 dt_79_19 ⟨by decide, by decide⟩ (h2 q)
  have t32 : (¬ ((∃ h, h < n ∧ x = nI h) ∧ 0 ≤ kn ∧ kn ≤ cI C 9 13 0)) → ∀ L, JdT l 79 8 1 6 (some .long) Po Pt 32 L [] w 0 0 := fun q L => jdT_thr rfl (by decide) (j := 213) (tx := "no such day yet") (by simp [strL]) dt_79_32 dt_79_35 dt_79_36 dt_79_38 dt_79_41 ⟨by decide, by decide⟩ (h2 q)
  refine ⟨Nat.le_of_ble_eq_true rfl, jdT_s cdt_79 hev [10, 13, 14, 16, 19, 32, 35, 36, 38, 41] (fun _ h => h) 40 rfl ⟨by decide, by decide⟩ ?_⟩
  refine ⟨⟨by decide, by decide, by decide⟩, rfl, hX.k 9 0 hF.x, C, x, n, rfl, hX, hF, hN, fun j hj ex => ?_, fun q => t10 (fun z => q z.1) _⟩
  have hj2 : j < cN C 1 := by rw [hN.2.2.1]; exact hj
  refine ⟨fun z => t32 (fun q => lt_nle z q.2.1) _, fun z => ?_⟩
  refine ⟨hX.k 9 0 hF.x, _, hX.gi 9 13 0 (by decide) hF.x rfl, fun z2 => ?_, fun z2 => t32 (fun q => z2 q.2.2) _⟩
  exact ⟨⟨by decide, by decide, by decide⟩, rfl, hX.k 1 j hj2, C, j, kn, G j, E j, rfl, hX, ⟨hj2, hGE j hj⟩, h1 j hj ex ⟨nlt_le z, z2⟩⟩
