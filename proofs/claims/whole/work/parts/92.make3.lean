/-! THE TWO: as many watches as can be -/
theorem x_sub {be i w : Nat} (hi : be.testBit i = true) (h : (be ^^^ 2 ^ i).testBit w = true) : be.testBit w = true ∧ w ≠ i := by
  by_cases e : i = w
  · rw [← e, xb_eq hi] at h
    cases h
  · rw [xb_ne e] at h
    exact ⟨h, Ne.symm e⟩
theorem okP_cong {F F' : Nat → Nat} {G W i p : Nat} (h1 : F i = F' i) (h2 : ∀ w, W.testBit w = true → F w = F' w) : okP F G W i p ↔ okP F' G W i p := by
  unfold okP
  rw [MtA_cong h2]
  unfold av
  rw [h1]
theorem SqS_cong {F F' : Nat → Nat} : ∀ (T : List (Nat × Nat)) (be G G' : Nat), be < 1024 → (∀ w, be.testBit w = true → F w = F' w) → SqS F T be G G' → SqS F' T be G G'
  | [], _, _, _, _, _, s => s
  | q :: t, be, G, G', hbe, h, s => by
    obtain ⟨b0, q1, ⟨q2, q3, q4⟩, q5⟩ := s
    obtain ⟨z1, z2⟩ := tz_ok be hbe (by omega)
    rw [← q1] at z1 z2
    have hs : ∀ w, (be ^^^ 2 ^ q.1).testBit w = true → F w = F' w := fun w hw => h w (x_sub z2 hw).1
    exact ⟨b0, q1, ⟨q2, (okP_cong (h _ z2) hs).mp q3, fun r hr z => q4 r hr ((okP_cong (h _ z2) hs).mpr z)⟩, SqS_cong t _ _ _ (x_lt hbe (p_lt z1)) hs q5⟩
theorem MkS_cong {g0 g0' g1 g1' : Nat → Nat} : ∀ (T : List (Nat × Nat × Nat)) (be pl st pl' st' : Nat), be < 1024 → (∀ w, be.testBit w = true → g0 w = g0' w ∧ g1 w = g1' w) → MkS g0 g1 T be pl st pl' st' → MkS g0' g1' T be pl st pl' st'
  | [], _, _, _, _, _, _, _, s => s
  | q :: t, be, pl, st, pl', st', hbe, h, s => by
    obtain ⟨b0, q1, ⟨f1, f2, f3⟩, ⟨k1, k2, k3⟩, q5⟩ := s
    obtain ⟨z1, z2⟩ := tz_ok be hbe (by omega)
    rw [← q1] at z1 z2
    have hs : ∀ w, (be ^^^ 2 ^ q.1).testBit w = true → g0 w = g0' w ∧ g1 w = g1' w := fun w hw => h w (x_sub z2 hw).1
    have c0 : ∀ i, ffP g0 q.1 (be ^^^ 2 ^ q.1) pl i ↔ ffP g0' q.1 (be ^^^ 2 ^ q.1) pl i := fun i => ffP_cong (h _ z2).1 (fun v hv => (hs v hv).1)
    have c1 : ∀ i, ffP g1 q.1 (be ^^^ 2 ^ q.1) st i ↔ ffP g1' q.1 (be ^^^ 2 ^ q.1) st i := fun i => ffP_cong (h _ z2).2 (fun v hv => (hs v hv).2)
    exact ⟨b0, q1, ⟨f1, (c0 _).mp f2, fun j hj z => f3 j hj ((c0 j).mpr z)⟩, ⟨k1, (c1 _).mp k2, fun j hj z => k3 j hj ((c1 j).mpr z)⟩, MkS_cong t _ _ _ _ _ (x_lt hbe (p_lt z1)) hs q5⟩
theorem fF_u {g : Nat → Nat} {w be os i j : Nat} (h : fF g w be os i) (k : fF g w be os j) : i = j := by
  rcases Nat.lt_trichotomy i j with z | z | z
  · exact absurd h.2.1 (k.2.2 i z)
  · exact z
  · exact absurd k.2.1 (h.2.2 j z)
theorem MkS_u {g0 g1 : Nat → Nat} : ∀ (T T2 : List (Nat × Nat × Nat)) (be pl st pl' st' p2 s2 : Nat), MkS g0 g1 T be pl st pl' st' → MkS g0 g1 T2 be pl st p2 s2 → T = T2 ∧ pl' = p2 ∧ st' = s2
  | [], [], _, _, _, _, _, _, _, s, k => ⟨rfl, s.2.1.trans k.2.1.symm, s.2.2.trans k.2.2.symm⟩
  | [], _ :: _, _, _, _, _, _, _, _, s, k => absurd s.1 k.1
  | _ :: _, [], _, _, _, _, _, _, _, s, k => absurd k.1 s.1
  | (w, x, y) :: t, (w', x', y') :: t', be, pl, st, pl', st', p2, s2, s, k => by
    obtain ⟨_, q1, f0, f1, q5⟩ := s
    obtain ⟨_, r1, h0, h1, r5⟩ := k
    dsimp only at q1 f0 f1 q5 r1 h0 h1 r5
    have e : w = w' := q1.trans r1.symm
    subst e
    have e1 := fF_u f0 h0
    have e2 := fF_u f1 h1
    subst e1 e2
    obtain ⟨a, b, c⟩ := MkS_u t t' _ _ _ _ _ _ _ q5 r5
    exact ⟨by rw [a], b, c⟩
theorem MkS_len {g0 g1 : Nat → Nat} : ∀ (T : List (Nat × Nat × Nat)) (be pl st pl' st' : Nat), be < 1024 → MkS g0 g1 T be pl st pl' st' → T.length = bc be
  | [], be, _, _, _, _, _, s => by
    rw [s.1]
    decide
  | q :: t, be, pl, st, pl', st', hbe, s => by
    obtain ⟨b0, q1, _, _, q5⟩ := s
    obtain ⟨z1, z2⟩ := tz_ok be hbe (by omega)
    rw [← q1] at z1 z2
    have := MkS_len t _ _ _ _ _ (x_lt hbe (p_lt z1)) q5
    have := bc_x z1 z2
    rw [List.length_cons]
    omega
theorem zip_mem : ∀ (T0 T1 : List (Nat × Nat)), T0.map (fun q => q.1) = T1.map (fun q => q.1) → ∀ q, q ∈ List.zipWith (fun a b => (a.1, a.2, b.2)) T0 T1 → ∃ x, x ∈ T0 ∧ ∃ y, y ∈ T1 ∧ x.1 = y.1 ∧ q = (x.1, x.2, y.2)
  | [], _, _, q, hq => by simp at hq
  | _ :: _, [], _, q, hq => by simp at hq
  | a :: t0, b :: t1, h, q, hq => by
    rw [List.map_cons, List.map_cons] at h
    obtain ⟨h1, h2⟩ := List.cons.inj h
    rw [List.zipWith_cons_cons] at hq
    rcases List.mem_cons.mp hq with e | e
    · exact ⟨a, List.mem_cons_self .., b, List.mem_cons_self .., h1, e⟩
    · obtain ⟨x, hx, y, hy, r⟩ := zip_mem t0 t1 h2 q e
      exact ⟨x, List.mem_cons_of_mem _ hx, y, List.mem_cons_of_mem _ hy, r⟩
theorem cX_wZ (C : Cs) (m : Nat) (z : St3) (i j : Nat) : cX (wZ C m z) i j = if i = 3 * m + 1 then z.2.2.2 j else if i = 3 * m + 2 then z.1 j else cX C i j := id rfl
theorem cI_wZ (C : Cs) (m : Nat) (z : St3) (t k i : Nat) : cI (wZ C m z) t k i = if t = 4 ∧ k = 4 ∧ i = m then z.2.2.1 else if t = 4 ∧ k = 3 ∧ i = m then z.2.1 else cI C t k i := id rfl
theorem cX_wT (D : Cs) (T : Ts) (i j : Nat) (h1 : i ≠ 1) (h4 : i ≠ 4) : cX (wT D T) i j = cX D i j := by
  rw [wT, cX_wM, if_neg (by omega), cX_wM, if_neg (by omega), wB, cX_wI, cX_wI]
theorem cI_wT (D : Cs) (T : Ts) : cI (wT D T) 3 4 0 = T.1.2 ∧ ∀ i, cI (wT D T) 4 3 i = cI D 4 3 i := by
  refine ⟨?_, fun i => ?_⟩
  · rw [wT, cI_wM, if_neg (fun z => absurd z.1 (by decide)), cI_wM, if_neg (fun z => absurd z.1 (by decide)), wB, cI_wI, if_pos ⟨rfl, rfl, rfl⟩]
  · rw [wT, cI_wM, if_neg (fun z => absurd z.2.1 (by decide)), cI_wM, if_neg (fun z => absurd z.2.1 (by decide)), wB, cI_wI, if_neg (fun z => absurd z.1 (by decide)), cI_wI, if_neg (fun z => absurd z.1 (by decide))]
/-- what is settled -/
theorem cMB_ok {M : Ms} {a b c ma mb mc n fu f B : Nat} {D : Cs} (hfu : fu = 11) (hn : n = 10) (hmb : mb ≤ 10) (hFt : ∀ w, w < mb → FtP D w = gPl M a b ma w ∧ FtS D w = gSt M b c mc w) (h43 : ∀ i, i < 2 → cI D 4 3 i = 0) (hB : isB M a b c ma mb mc B) (ht : (tWD fu f D).1.2 = nI B) : ∃ T pl st, MkS (gPl M a b ma) (gSt M b c mc) T B (2 ^ ma - 1) (2 ^ mc - 1) pl st ∧ cI (cCM fu n (cCh fu f D)) 3 4 0 = nI B ∧ ∀ q, q ∈ T → cX (cCM fu n (cCh fu f D)) 2 q.1 = nI q.2.1 ∧ cX (cCM fu n (cCh fu f D)) 5 q.1 = nI q.2.2 := by
  have hB10 : B < 1024 := Nat.lt_of_lt_of_le hB.1 (p10 hmb)
  have e34 : cI (cCh fu f D) 3 4 0 = nI B := by rw [cCh, (cI_wT D _).1, ht]
  have e43 : ∀ i, i < 2 → cI (cCh fu f D) 4 3 i = 0 := fun i hi => by rw [cCh, (cI_wT D _).2, h43 i hi]
  have x0 : cX (cCh fu f D) 0 = cX D 0 := by funext j; rw [cCh, cX_wT _ _ _ _ (by decide) (by decide)]
  have x3 : cX (cCh fu f D) 3 = cX D 3 := by funext j; rw [cCh, cX_wT _ _ _ _ (by decide) (by decide)]
  rw [cCM, e34]
  generalize cCh fu f D = E at *
  have gd := (good_A hFt hB.1).mpr hB.2.1
  have bb : ∀ k, B.testBit k = true ↔ 0 ≤ k ∧ B.testBit k = true := fun k => ⟨fun z => ⟨Nat.zero_le _, z⟩, fun z => z.2⟩
  have hft0 : ∀ w, w < 10 → msk (cX E 0) w = nI (FtP D w) := fun w _ => by rw [x0]; exact (msk_ok _ w).1
  have hft3 : ∀ w, w < 10 → msk (cX E 3) w = nI (FtS D w) := fun w _ => by rw [x3]; exact (msk_ok _ w).1
  obtain ⟨T0, G0, s0, _, _, k0⟩ := stl_ok (F := FtP D) (ft := msk (cX E 0)) (n := n) (fun w _ => (msk_ok _ w).2) hft0 hfu hn hB10 10 0 (cur E 0) 0 B rfl (e43 0 (by decide)) hB10 bb gd.1
  have E1 : cStl fu n E 0 (nI B) = wZ E 0 (stl fu n (msk (cX E 0)) (nI B) 10 0 (cur E 0)) := by
    rw [cStl, stl_m fu n _ _ hn, hn]
  have y3 : cX (cStl fu n E 0 (nI B)) 3 = cX E 3 := by funext j; rw [cStl, cX_wZ, if_neg (by decide), if_neg (by decide)]
  have y2 : cX (cStl fu n E 0 (nI B)) 2 = (stl fu n (msk (cX E 0)) (nI B) 10 0 (cur E 0)).1 := by funext j; rw [E1, cX_wZ, if_neg (by decide), if_pos (by decide)]
  have y43 : cI (cStl fu n E 0 (nI B)) 4 3 1 = 0 := by rw [cStl, cI_wZ, if_neg (fun z => absurd z.2.1 (by decide)), if_neg (fun z => absurd z.2.2 (by decide)), e43 1 (by decide)]
  have y34 : cI (cStl fu n E 0 (nI B)) 3 4 0 = nI B := by rw [cStl, cI_wZ, if_neg (fun z => absurd z.1 (by decide)), if_neg (fun z => absurd z.1 (by decide)), e34]
  rw [← y2] at k0
  generalize cStl fu n E 0 (nI B) = E2 at *
  obtain ⟨T1, G1, s1, _, _, k1⟩ := stl_ok (F := FtS D) (ft := msk (cX E 3)) (n := n) (fun w _ => (msk_ok _ w).2) hft3 hfu hn hB10 10 0 (cur E2 1) 0 B rfl y43 hB10 bb gd.2
  have E3 : cStl fu n E2 1 (nI B) = wZ E2 1 (stl fu n (msk (cX E 3)) (nI B) 10 0 (cur E2 1)) := by
    rw [cStl, stl_m fu n _ _ hn, hn, show 3 * 1 = 3 from rfl, y3]
  have z2 : ∀ j, cX (cStl fu n E2 1 (nI B)) 2 j = cX E2 2 j := fun j => by rw [cStl, cX_wZ, if_neg (by decide), if_neg (by decide)]
  have z5 : ∀ j, cX (cStl fu n E2 1 (nI B)) 5 j = (stl fu n (msk (cX E 3)) (nI B) 10 0 (cur E2 1)).1 j := fun j => by rw [E3, cX_wZ, if_neg (by decide), if_pos (by decide)]
  have z34 : cI (cStl fu n E2 1 (nI B)) 3 4 0 = nI B := by rw [cStl, cI_wZ, if_neg (fun z => absurd z.1 (by decide)), if_neg (fun z => absurd z.1 (by decide)), y34]
  have hg : ∀ w, B.testBit w = true → FtP D w = (if w < mb then gPl M a b ma w else 0) ∧ FtS D w = (if w < mb then gSt M b c mc w else 0) := fun w hw => by
    have hm := bl_lt hB.1 hw
    rw [if_pos hm, if_pos hm]
    exact hFt w hm
  have s0' := SqS_cong T0 B 0 G0 hB10 (fun w hw => (hg w hw).1) s0
  have s1' := SqS_cong T1 B 0 G1 hB10 (fun w hw => (hg w hw).2) s1
  obtain ⟨o0, o1, mk, _, _, mp⟩ := Mk_of (Fp := fun w => if w < mb then gPl M a b ma w else 0) (Fs := fun w => if w < mb then gSt M b c mc w else 0) (ma := ma) (mc := mc) (fun w q _ h => by
    by_cases e : w < mb
    · rw [if_pos e] at h; exact mk_bits h
    · rw [if_neg e, z_bit] at h; cases h) (fun w q _ h => by
    by_cases e : w < mb
    · rw [if_pos e] at h; exact mk_bits h
    · rw [if_neg e, z_bit] at h; cases h) T0 T1 B 0 0 G0 G1 (2 ^ ma - 1) (2 ^ mc - 1) hB10 (fun q => by rw [p2_bit, z_bit, decide_eq_true_eq]; exact ⟨fun z => ⟨z, rfl⟩, fun z => z.1⟩) (fun q => by rw [p2_bit, z_bit, decide_eq_true_eq]; exact ⟨fun z => ⟨z, rfl⟩, fun z => z.1⟩) s0' s1'
  refine ⟨_, o0, o1, MkS_cong _ B _ _ _ _ hB10 (fun w hw => ?_) mk, z34, fun q hq => ?_⟩
  · have hm := bl_lt hB.1 hw
    exact ⟨if_pos hm, if_pos hm⟩
  · obtain ⟨x, hx, y, hy, exy, rfl⟩ := zip_mem T0 T1 mp q hq
    refine ⟨?_, ?_⟩
    · rw [z2]
      exact k0 x hx
    · rw [z5, exy]
      exact k1 y hy
