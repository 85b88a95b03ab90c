/-! THE TWO: most and make -/
theorem Rel_LR {C : Cs} {M : Ms} {np nl nh nw ns ng dy tt : Nat} {R Q : Nat → List Nat} (H : Rel C M np nl nh nw ns ng dy tt R Q) : LR C nl R := fun j hj => by
  obtain ⟨g1, g2, g3, g4⟩ := H.2.2.2.2.1 j hj
  have h3 : np ≤ 300 := H.1.2.1.1.2.1
  have := nd_len np (R j) g3 (fun y hy => (g4 y hy).1)
  exact ⟨g1.1, (H.2.2.2.1 j hj).2.1.2.1.trans g2.1, by omega⟩
theorem Rel_mn {C : Cs} {M : Ms} {np nl nh nw ns ng dy tt : Nat} {R Q : Nat → List Nat} (H : Rel C M np nl nh nw ns ng dy tt R Q) : ∀ j, j < nl → M 9 j = nI (R j).length ∧ (R j).length ≤ 300 := fun j hj => ⟨(H.2.2.2.2.1 j hj).2.1.1, (Rel_LR H j hj).2.2⟩
theorem Rel_okL {C : Cs} {M : Ms} {np nl nh nw ns ng dy tt : Nat} {R Q : Nat → List Nat} (H : Rel C M np nl nh nw ns ng dy tt R Q) {x k : Int32} {j : Nat} : okL C nl x k j ↔ (j < nl ∧ x = nI j ∧ M 10 j = 0) ∧ M 7 j = k ∧ (R j).length ≤ 10 := by
  unfold okL
  constructor
  · rintro ⟨h1, h2, h3, h4, h5⟩
    obtain ⟨_, ⟨e1, e2, e3⟩, _⟩ := H.2.2.2.1 j h1
    have m := Rel_mn H j h1
    rw [e2, m.1] at h5
    exact ⟨⟨h1, h2, e3.symm.trans h3⟩, e1.symm.trans h4, ge_n (a := 10) (by decide) (by omega) h5⟩
  · rintro ⟨⟨h1, h2, h3⟩, h4, h5⟩
    obtain ⟨_, ⟨e1, e2, e3⟩, _⟩ := H.2.2.2.1 j h1
    have m := Rel_mn H j h1
    exact ⟨h1, h2, e3.trans h3, e1.trans h4, by rw [e2, m.1]; exact nI_le (a := (R j).length) (b := 10) h5 (by decide)⟩
theorem Rel_okMk {C : Cs} {M : Ms} {np nl nh nw ns ng dy tt : Nat} {R Q : Nat → List Nat} (H : Rel C M np nl nh nw ns ng dy tt R Q) {x y z : Int32} {a b c : Nat} : okMk M nl (fun j => (R j).length) x y z a b c ↔ okL C nl x 0 a ∧ okL C nl y 1 b ∧ okL C nl z 2 c := by
  rw [Rel_okL H, Rel_okL H, Rel_okL H]
  unfold okMk
  constructor
  · rintro ⟨h1, h2, h3, ⟨h4, h5, h6⟩, h7, h8, h9⟩
    exact ⟨⟨h1, h4, h7⟩, ⟨h2, h5, h8⟩, h3, h6, h9⟩
  · rintro ⟨⟨h1, h4, h7⟩, ⟨h2, h5, h8⟩, h3, h6, h9⟩
    exact ⟨h1, h2, h3, ⟨h4, h5, h6⟩, h7, h8, h9⟩
theorem Rel_okR {C : Cs} {M : Ms} {np nl nh nw ns ng dy tt : Nat} {R Q : Nat → List Nat} (H : Rel C M np nl nh nw ns ng dy tt R Q) {l k : Nat} (hl : l < nl) (h7 : M 7 l = nI k) (hle : (R l).length ≤ 10) : okR M l (R l).length k := by
  have h3 : np ≤ 300 := H.1.2.1.1.2.1
  have h60 : nl ≤ 60 := H.1.2.2.1.1.2.1
  refine ⟨(Rel_mn H l hl).1, hle, by omega, fun i hi => ?_⟩
  have hp : (R l)[i]? = some (R l)[i] := List.getElem?_eq_getElem hi
  obtain ⟨e1, e2, e3, _⟩ := Rel_pr H hl hp
  rw [e1]
  exact ⟨(H.2.2.2.2.1 l hl).2.1.2 i _ hp, by omega, e3.trans h7⟩
theorem Mt_le {g : Nat → Nat} {B m : Nat} (h : Mt g B (2 ^ m - 1)) : bc B ≤ m := by
  obtain ⟨f, f1, f2⟩ := h
  have : cn (fun i => B.testBit i) 10 ≤ cn (fun _ => true) m := cn_inj (f := f) (fun i _ hi => ⟨by
    have := (f1 i hi).2
    rw [p2_bit, decide_eq_true_eq] at this
    exact this, rfl⟩) (fun i j _ _ hi hj e => f2 i j hi hj e)
  exact Nat.le_trans this (cn_le _ _)
theorem B_le {B m : Nat} (h : B < 2 ^ m) : bc B ≤ m := by
  have : cn (fun i => B.testBit i) 10 ≤ cn (fun _ => true) m := cn_inj (f := fun i => i) (fun i _ hi => ⟨bl_lt h hi, rfl⟩) (fun i j _ _ _ _ e => e)
  exact Nat.le_trans this (cn_le _ _)
/-- pieces enough: no more than a hundred watches -/
theorem Rel_100 {C : Cs} {M : Ms} {np nl nh nw ns ng dy tt : Nat} {R Q : Nat → List Nat} (H : Rel C M np nl nh nw ns ng dy tt R Q) {a b c B : Nat} (ha : a < nl) (hb : b < nl) (hc : c < nl) (hab : a ≠ b) (hac : a ≠ c) (hbc : b ≠ c) (hB : isB M a b c (R a).length (R b).length (R c).length B) : nw + bc B ≤ 100 := by
  have h3 : np ≤ 300 := H.1.2.1.1.2.1
  have h60 : nl ≤ 60 := H.1.2.2.1.1.2.1
  have hR := H.2.2.2.2.1
  have hnw : nw ≤ 100 := H.1.2.2.2.2.1.2.1
  have w : ∀ j, j < 3 * nw → ∃ p, p < np ∧ pN (M 38 j) = p ∧ M 4 p = 2 ∧ M 5 p = nI (j / 3) ∧ M 0 p = nI (j % 3) := fun j hj => by
    have e : 3 * (j / 3) + j % 3 = j := Nat.div_add_mod j 3
    obtain ⟨p, h1, _, h2, h4, h5, h6⟩ := (H.2.2.2.2.2.2.2.2.2.2.1 (j / 3) (by omega)).2 (j % 3) (Nat.mod_lt _ (by decide))
    rw [e] at h2
    exact ⟨p, h1, by rw [h2, pN_n (by omega)], h4, h5, h6⟩
  have nd : ((List.range (3 * nw)).map (fun j => pN (M 38 j)) ++ (R a ++ (R b ++ R c))).Nodup := by
    refine List.nodup_append.mpr ⟨?_, List.nodup_append.mpr ⟨(hR a ha).2.2.1, List.nodup_append.mpr ⟨(hR b hb).2.2.1, (hR c hc).2.2.1, fun x hx y hy e => Rel.dj hR h60 hb hc hbc hx (by rw [e]; exact hy)⟩, fun x hx y hy e => ?_⟩, fun x hx y hy e => ?_⟩
    · refine List.pairwise_map.mpr (List.Pairwise.imp_of_mem (fun {i j} hi hj hij e => ?_) (List.pairwise_lt_range (n := 3 * nw)))
      rw [List.mem_range] at hi hj
      obtain ⟨p, _, p2, _, p4, p5⟩ := w i hi
      obtain ⟨q, _, q2, _, q4, q5⟩ := w j hj
      have epq : p = q := p2.symm.trans (e.trans q2)
      rw [epq] at p4 p5
      have e1 : i / 3 = j / 3 := (nI_eq (by omega) (by omega)).mp (p4.symm.trans q4)
      have e2 : i % 3 = j % 3 := (nI_eq (by omega) (by omega)).mp (p5.symm.trans q5)
      have := Nat.div_add_mod i 3
      have := Nat.div_add_mod j 3
      omega
    · rcases List.mem_append.mp hy with z | z
      · exact Rel.dj hR h60 ha hb hab hx (by rw [e]; exact z)
      · exact Rel.dj hR h60 ha hc hac hx (by rw [e]; exact z)
    · obtain ⟨j, hj, rfl⟩ := List.mem_map.mp hx
      rw [List.mem_range] at hj
      obtain ⟨p, _, p2, p4, _⟩ := w j hj
      rw [← e, p2] at hy
      have z0 : M 4 p = 0 := by
        rcases List.mem_append.mp hy with z | z
        · exact ((hR a ha).2.2.2 p z).2.2.1
        · rcases List.mem_append.mp z with z | z
          · exact ((hR b hb).2.2.2 p z).2.2.1
          · exact ((hR c hc).2.2.2 p z).2.2.1
      rw [z0] at p4
      exact absurd p4 (by decide)
  have len := nd_len np _ nd (fun x hx => by
    rcases List.mem_append.mp hx with z | z
    · obtain ⟨j, hj, rfl⟩ := List.mem_map.mp z
      rw [List.mem_range] at hj
      obtain ⟨p, p1, p2, _⟩ := w j hj
      rw [p2]
      exact p1
    · rcases List.mem_append.mp z with z | z
      · exact ((hR a ha).2.2.2 x z).1
      · rcases List.mem_append.mp z with z | z
        · exact ((hR b hb).2.2.2 x z).1
        · exact ((hR c hc).2.2.2 x z).1)
  rw [List.length_append, List.length_append, List.length_append, List.length_map, List.length_range] at len
  have l1 := Mt_le hB.2.1.1
  have l2 := Mt_le hB.2.1.2
  have l3 := B_le hB.1
  omega
/-- as the reference makes, so the class makes -/
theorem Rel_make {C : Cs} {M : Ms} {np nl nh nw ns ng dy tt : Nat} {R Q : Nat → List Nat} (H : Rel C M np nl nh nw ns ng dy tt R Q) {a b c n fu f B pl st : Nat} {T : List (Nat × Nat × Nat)} {ads : List Nat} (hfu : fu = 11) (hf : f = 11) (hn : n = 10) (ha : a < nl ∧ M 10 a = 0 ∧ M 7 a = 0 ∧ (R a).length ≤ 10) (hb : b < nl ∧ M 10 b = 0 ∧ M 7 b = 1 ∧ (R b).length ≤ 10) (hc : c < nl ∧ M 10 c = 0 ∧ M 7 c = 2 ∧ (R c).length ≤ 10) (hB : isB M a b c (R a).length (R b).length (R c).length B) (hT : MkS (gPl M a b (R a).length) (gSt M b c (R c).length) T B (2 ^ (R a).length - 1) (2 ^ (R c).length - 1) pl st) (had : ads.length = 10) : (tWD fu f (cMR n C b (R a) (R b) (R c))).1.1 = nI T.length ∧ ∃ R', Rel (cMkE a b c (R a) (R b) (R c) (mkL a b c (R a).length (R b).length (R c).length ads 0 nw (cMB n fu f C b (R a) (R b) (R c))).1) (mMake M a b c (R a).length (R b).length (R c).length B pl st T nw) np nl nh (nw + T.length) ns ng dy tt R' Q := by
  obtain ⟨ha, a10, a7, al⟩ := ha
  obtain ⟨hb, b10, b7, bl⟩ := hb
  obtain ⟨hc, c10, c7, cl⟩ := hc
  have hab : a ≠ b := fun e => by rw [e, b7] at a7; exact absurd a7 (by decide)
  have hac : a ≠ c := fun e => by rw [e, c7] at a7; exact absurd a7 (by decide)
  have hbc : b ≠ c := fun e => by rw [e, c7] at b7; exact absurd b7 (by decide)
  have h60 : nl ≤ 60 := H.1.2.2.1.1.2.1
  have hR := H.2.2.2.2.1
  have hB10 : B < 1024 := Nat.lt_of_lt_of_le hB.1 (p10 bl)
  obtain ⟨B', hB', e⟩ := Rel_best (n := n) (fu := fu) (f := f) H hfu hf hn ha hb hc a7 c7 al bl cl
  have eB := isB_u hB' hB
  subst eB
  have hlen := MkS_len T _ _ _ _ _ hB10 hT
  refine ⟨by rw [e, hlen], ?_⟩
  have hFt := Rel_Ft (n := n) H ha hb hc a7 c7 al cl
  have e430 : cI (cMR n C b (R a) (R b) (R c)) 4 3 0 = 0 := by rw [cMR, cRL_43, if_neg (by decide), cRL_43, if_pos rfl]
  have e431 : cI (cMR n C b (R a) (R b) (R c)) 4 3 1 = 0 := by rw [cMR, cRL_43, if_pos rfl]
  obtain ⟨T', pl', st', mk, k34, kX⟩ := cMB_ok (f := f) hfu hn bl hFt (fun i hi => by
    rcases (show i = 0 ∨ i = 1 by omega) with rfl | rfl
    · exact e430
    · exact e431) hB (by rw [e])
  obtain ⟨rfl, rfl, rfl⟩ := MkS_u _ _ _ _ _ _ _ _ _ hT mk
  have hKm : Km C (cMB n fu f C b (R a) (R b) (R c)) := ((cMR_Km n C b (R a) (R b) (R c)).tr (cCh_Km fu f _)).tr (cCM_Km fu n _)
  have H1 : Rel (cMB n fu f C b (R a) (R b) (R c)) (mGw M a b c (R a).length (R c).length (R b).length) np nl nh nw ns ng dy tt R Q := Rel_sc hKm (fun f i hf => mGw_ot M a b c _ _ f i hf _) (G42_mGw H.2.2.2.2.2.2.2.2.2.2.2.2.2 al cl _) H
  have h100 := Rel_100 H ha hb hc hab hac hbc hB
  have k34' : cI (cMB n fu f C b (R a) (R b) (R c)) 3 4 0 = nI B' := k34
  have kX' : ∀ q, q ∈ T → cX (cMB n fu f C b (R a) (R b) (R c)) 2 q.1 = nI q.2.1 ∧ cX (cMB n fu f C b (R a) (R b) (R c)) 5 q.1 = nI q.2.2 := kX
  generalize cMB n fu f C b (R a) (R b) (R c) = D at *
  have g7 : ∀ l, mGw M a b c (R a).length (R c).length (R b).length 7 l = M 7 l := fun l => mGw_ot M a b c _ _ 7 l (by decide) _
  have g10 : ∀ l, mGw M a b c (R a).length (R c).length (R b).length 10 l = M 10 l := fun l => mGw_ot M a b c _ _ 10 l (by decide) _
  unfold mMake
  generalize mGw M a b c (R a).length (R c).length (R b).length = N at *
  obtain ⟨X, r1, r2, r3, r4, r5⟩ := mkL_ok (B := B') ha hb hc hB.1 hB10 (fun y hy => Rel.dj hR h60 ha hb hab hy) (fun y hy => Rel.dj hR h60 ha hc hac hy) (fun y hy => Rel.dj hR h60 hb hc hbc hy) (fun l hl n1 n2 n3 y hy => ⟨Rel.dj hR h60 hl ha n1 hy, Rel.dj hR h60 hl hb n2 hy, Rel.dj hR h60 hl hc n3 hy⟩) 10 0 B' (2 ^ (R a).length - 1) (2 ^ (R c).length - 1) nw (fun _ => false) D N T ads pl st rfl had hB10 (fun k => ⟨fun z => ⟨Nat.zero_le _, z⟩, fun z => z.2⟩) hT (by rw [hlen]; exact h100) (RelT_of H1) ⟨(g7 a).trans a7, (g7 b).trans b7, (g7 c).trans c7⟩ ⟨fun k hk => by rw [p2_bit, decide_eq_true_eq] at hk; exact hk, fun k hk => by rw [p2_bit, decide_eq_true_eq] at hk; exact hk⟩ (fun j x hx => by dsimp only; rw [p2_bit, decide_eq_true (gE hx)]; rfl) (fun j x hx => by dsimp only; rw [decide_eq_false (Nat.not_lt_zero j), Bool.and_false]) (fun j x hx => by dsimp only; rw [p2_bit, decide_eq_true (gE hx)]; rfl) (fun _ _ _ _ _ _ _ => rfl) ⟨k34', kX'⟩
  have m10 : ∀ l, mMk a b c T nw N 10 l = M 10 l := fun l => (mMk_ot a b c 10 l (by decide) T nw N).trans (g10 l)
  generalize (mkL a b c (R a).length (R b).length (R c).length ads 0 nw D).1 = E at *
  generalize mMk a b c T nw N = P at *
  have x10 : ∀ l s i m (P : Ms) j, mLvP l s i m P 10 j = P 10 j := fun l s i m P j => mLvP_9 l s 10 j ⟨by decide, fun z => absurd z (by decide)⟩ i m P
  have d1 := RelT_dt2 (l := a) (s := (2 ^ (R a).length - 1) ^^^ pl) (L := R a) rfl ha ((m10 a).trans a10) (fun j p hp => by rw [Nat.testBit_xor, p2_bit, decide_eq_true (gE hp), r2 j p hp]; exact Bool.true_xor _) (fun j hj e y hy => Rel.dj hR h60 ha hj (Ne.symm e) hy) r1
  have d2 := RelT_dt2 (l := b) (s := B') (L := R b) (if_neg (Ne.symm hab)) hb ((x10 _ _ _ _ _ b).trans ((m10 b).trans b10)) (fun j p hp => (r3 j p hp).symm) (fun j hj e y hy => by
    by_cases q : j = a
    · rw [if_pos q]
      exact fun z => Rel.dj hR h60 hb ha (Ne.symm hab) hy (List.mem_filter.mp z).1
    · rw [if_neg q]
      exact Rel.dj hR h60 hb hj (Ne.symm e) hy) d1
  have d3 := RelT_dt2 (l := c) (s := (2 ^ (R c).length - 1) ^^^ st) (L := R c) (by
    rw [if_neg (Ne.symm hbc), if_neg (Ne.symm hac)]) hc ((x10 _ _ _ _ _ c).trans ((x10 _ _ _ _ _ c).trans ((m10 c).trans c10))) (fun j p hp => by rw [Nat.testBit_xor, p2_bit, decide_eq_true (gE hp), r4 j p hp]; exact Bool.true_xor _) (fun j hj e y hy => by
    by_cases q : j = b
    · rw [if_pos q]
      exact fun z => Rel.dj hR h60 hc hb (Ne.symm hbc) hy (List.mem_filter.mp z).1
    · rw [if_neg q]
      by_cases q2 : j = a
      · rw [if_pos q2]
        exact fun z => Rel.dj hR h60 hc ha (Ne.symm hac) hy (List.mem_filter.mp z).1
      · rw [if_neg q2]
        exact Rel.dj hR h60 hc hj (Ne.symm e) hy) d2
  refine ⟨_, RelT_to d3 (fun l p hl hp => ?_)⟩
  have fl : ∀ L : List Nat, p ∈ L.filter (fun x => !X x) → X p = false := fun L h => by
    have := (List.mem_filter.mp h).2
    simpa using this
  by_cases q : l = c
  · rw [if_pos q] at hp
    exact fl _ hp
  · rw [if_neg q] at hp
    by_cases q2 : l = b
    · rw [if_pos q2] at hp
      exact fl _ hp
    · rw [if_neg q2] at hp
      by_cases q3 : l = a
      · rw [if_pos q3] at hp
        exact fl _ hp
      · rw [if_neg q3] at hp
        exact r5 l hl q3 q2 q p hp
