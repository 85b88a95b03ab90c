/-! THE BEGIN: what the tables and the start give -/
theorem nw_all : ∀ t, t < 11 → ∃ q, q ∈ NWT ∧ q.2.2 = t := by decide +kernel
theorem kk_start {s : State} {args : Array Value} (hts : ∀ w ∈ lw_tbl, w.before args s = true) : ∃ G : GG, kk G s := by
  have htb : ∀ w ∈ tb, w.before args s = true := fun w h => hts w (tb_sub w h)
  have hkn : ∀ t, ∃ (cC : ClassId) (iS : Nat → Nat), t < 11 → u_Kn s (ownS t) (clT t) (clN t) cC iS := fun t => by
    by_cases ht : t < 11
    · obtain ⟨q, hq, rfl⟩ := nw_all t ht
      obtain ⟨cC, iS, h⟩ := u_known (C := ownS q.2.2) (T := clT q.2.2) (N := clN q.2.2) (n := clN q.2.2) htb (cl_in q.2.2 ht) (htb _ (NWT_ok q hq (.instantiable (ownS q.2.2) (clN q.2.2)) (by simp [nwW])))
      exact ⟨cC, iS, fun _ => h⟩
    · exact ⟨0, fun _ => 0, fun h => absurd h ht⟩
  obtain ⟨c0, k0, m0, f0, g0, e0⟩ := Cond.arrayClass_spec (htb (.arrayClass .int) (ACok _ (by simp)))
  obtain ⟨c1, k1, m1, f1, g1, e1⟩ := Cond.arrayClass_spec (htb (.arrayClass .boolean) (ACok _ (by simp)))
  obtain ⟨c2, k2, m2, f2, g2, e2⟩ := Cond.arrayClass_spec (htb (.arrayClass .long) (ACok _ (by simp)))
  obtain ⟨p3, c3, k3, a3, b3, d3, e3, f3⟩ := Cond.arrayOver_spec (hts (.arrayOver (.object "WatchValley$Piece")) (AOok _ (by simp)))
  obtain ⟨p4, c4, k4, a4, b4, d4, e4, f4⟩ := Cond.arrayOver_spec (hts (.arrayOver (.object "WatchValley$Lot")) (AOok _ (by simp)))
  obtain ⟨p5, c5, k5, a5, b5, d5, e5, f5⟩ := Cond.arrayOver_spec (hts (.arrayOver (.object "WatchValley$Home")) (AOok _ (by simp)))
  obtain ⟨p6, c6, k6, a6, b6, d6, e6, f6⟩ := Cond.arrayOver_spec (hts (.arrayOver (.object "WatchValley$Watch")) (AOok _ (by simp)))
  refine ⟨((fun t => Classical.choose (hkn t), fun t => Classical.choose (Classical.choose_spec (hkn t))), fun j => [c0, c1, c2, c3, c4, c5, c6].getD j 0), ⟨fun c q hq => ?_, fun k q hk => ?_⟩, ⟨va_AO.of (hts _ (AOok _ (by simp))), va_AO.of (hts _ (AOok _ (by simp))), va_AO.of (hts _ (AOok _ (by simp))), va_AO.of (hts _ (AOok _ (by simp)))⟩, fun q hq => va_Nw.of rfl (hts _ (INnest _ (List.mem_map.mpr ⟨q, hq, rfl⟩)))⟩
  · have hc : c < 11 := (List.getElem?_eq_some_iff.mp hq).1
    have e := (cl_at c hc).symm.trans hq
    cases e
    exact Classical.choose_spec (Classical.choose_spec (hkn c)) hc
  · match k, hk with
    | 0, hk => cases hk; exact ⟨fun n z => ⟨fun k h => (by cases h), k0, g0, m0, e0⟩, f0⟩
    | 1, hk => cases hk; exact ⟨fun n z => ⟨fun k h => (by cases h), k1, g1, m1, e1⟩, f1⟩
    | 2, hk => cases hk; exact ⟨fun n z => ⟨fun k h => (by cases h), k2, g2, m2, e2⟩, f2⟩
    | 3, hk => cases hk; exact ⟨fun n z => ⟨fun k h => (by cases h), k3, d3, p3, e3⟩, k3, p3, d3, e3, a3, f3⟩
    | 4, hk => cases hk; exact ⟨fun n z => ⟨fun k h => (by cases h), k4, d4, p4, e4⟩, k4, p4, d4, e4, a4, f4⟩
    | 5, hk => cases hk; exact ⟨fun n z => ⟨fun k h => (by cases h), k5, d5, p5, e5⟩, k5, p5, d5, e5, a5, f5⟩
    | 6, hk => cases hk; exact ⟨fun n z => ⟨fun k h => (by cases h), k6, d6, p6, e6⟩, k6, p6, d6, e6, a6, f6⟩
    | k + 7, hk => simp at hk
theorem nsX_in : ∀ w ∈ nsX, w ∈ lw_tbl := fun w hw => nsT_in w (by
  rw [← nsT_x] at hw
  exact (List.mem_filter.mp hw).1)
set_option maxRecDepth 100000 in
theorem hini : Cond.initialized thN ∈ lw_tbl := lw_of [Cond.initialized thN] [48] rfl _ List.mem_cons_self
set_option maxRecDepth 100000 in
theorem hstrL : ∀ w ∈ strL.map (fun q => Cond.stringRef "WatchValley" q.1 q.2), w ∈ lw_tbl := lw_of _ [710, 737, 745, 746] rfl
set_option maxRecDepth 100000 in
theorem EE_start {s : State} {b : Nat} (hts : ∀ w ∈ lw_tbl, w.before #[Value.ref b] s = true) (hgv : (Jvm.Cond.and given_1 narrow_1).before #[Value.ref b] s = true) : EE (fun q => s.heap.size ≤ q) s := by
  have hA : ∀ a : Nat, a < s.heap.size → ¬ (fun q => s.heap.size ≤ q) a := fun a h1 h2 => by
    have h2 : s.heap.size ≤ a := h2
    omega
  have hs := flat_of_before _ hgv
  refine ⟨⟨⟨va_Zqof (hts _ (nsX_in (.laysStatic thN "UNASSIGNED_STACK" steN) (by simp [nsX]))) (hts _ hini) (hs (.isRef (.static thN "UNASSIGNED_STACK" steN)) (by decide +kernel)) hA, va_Zqof (hts _ (nsX_in (.laysStatic thN "SUPPRESSED_SENTINEL" lstN) (by simp [nsX]))) (hts _ hini) (hs (.isRef (.static thN "SUPPRESSED_SENTINEL" lstN)) (by decide +kernel)) hA⟩, ⟨LSt.of (hts _ (nsX_in (.laysStatic thN "UNASSIGNED_STACK" steN) (by simp [nsX]))) hA, LSt.of (hts _ (nsX_in (.laysStatic thN "SUPPRESSED_SENTINEL" lstN) (by simp [nsX]))) hA⟩, fun _ => hts _ (nsX_in (.declares (Bundle.initS "java/lang/RuntimeException")) (by simp [nsX])), fun _ => hts _ (nsX_in (.declares (Bundle.initS "java/lang/Exception")) (by simp [nsX])), fun _ => hts _ (nsX_in (.declares (Bundle.initS thN)) (by simp [nsX]))⟩, fun q hq => ?_⟩
  have hex : (Cond.exactly (.string "WatchValley" q.1) "java/lang/String").before #[Value.ref b] s = true := by
    simp only [strL, List.mem_cons, List.not_mem_nil, or_false] at hq
    rcases hq with rfl | rfl | rfl | rfl
    · exact hs (.exactly (.string "WatchValley" 163) "java/lang/String") (by decide +kernel)
    · exact hs (.exactly (.string "WatchValley" 181) "java/lang/String") (by decide +kernel)
    · exact hs (.exactly (.string "WatchValley" 211) "java/lang/String") (by decide +kernel)
    · exact hs (.exactly (.string "WatchValley" 213) "java/lang/String") (by decide +kernel)
  obtain ⟨a, -, -, -, h1, -⟩ := Cond.exactly_spec (args := #[Value.ref b]) (first := s) (o := none) (s := s) (idx := []) (t := .string "WatchValley" q.1) (cls := "java/lang/String") hex
  exact ⟨a, vk_R.of (hts _ (hstrL _ (List.mem_map.mpr ⟨q, hq, rfl⟩))) h1⟩
