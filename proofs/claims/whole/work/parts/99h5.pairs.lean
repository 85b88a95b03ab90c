/-! THE LAW: fits, most, make -/
theorem pa_fits {x0 m0 : Nat} {x y : Int32} : Pair x0 m0 sp_cfits sp_fits [.int x, .int y] := by
  rintro w C M hL ⟨np, nl, nh, nw, ns, ng, dy, tt, R, Q, H⟩ Kc hK
  obtain ⟨hF, ⟨nP, mP⟩, ⟨nL, mL⟩, ⟨nH, mH⟩, nW, mW⟩ := id H.1
  have p300 := nP.2.1
  have hk : ∀ j, j < np → M 0 j = nI (pN (M 0 j)) ∧ pN (M 0 j) < 3 := fun j hj => by
    obtain ⟨k, hk, e⟩ := (H.2.1 j hj).2.2
    rw [e, pN_n (by omega)]
    exact ⟨rfl, hk⟩
  have c1 : ∀ j, j < np → cI C 5 1 j = M 0 j := fun j hj => (H.2.1 j hj).2.1.1
  have mk : ∀ v : Int32, (∀ p q, p < np → q < np → x = nI p → y = nI q → pN (M 0 p) < 2 → pN (M 0 q) = pN (M 0 p) + 1 → (fitB M p q (pN (M 0 p)) → v = 1) ∧ (¬ fitB M p q (pN (M 0 p)) → v = 0)) → ((¬ ∃ p q, p < np ∧ q < np ∧ x = nI p ∧ y = nI q ∧ pN (M 0 p) < 2 ∧ pN (M 0 q) = pN (M 0 p) + 1) → v = -1) → Kc (some (.int v)) (rst (PC m0) w) := fun v h1 h2 => hK _ _ (pr_ok hL hL.c hL.a fun W hW Km hm => ⟨m0, M, x, y, np, fun j => pN (M 0 j), rfl, hW.m, ⟨mP, p300⟩, hk, fun w2 hM => ⟨fun p q hp hq ex ey a b => ⟨fun f => by
    have := hm w2 _ hM (Rel_41 0 H).e
    rw [(h1 p q hp hq ex ey a b).1 f] at this
    exact this, fun f => by
    have := hm w2 _ hM (Rel_41 0 H).e
    rw [(h1 p q hp hq ex ey a b).2 f] at this
    exact this⟩, fun no => by
    have := hm w2 _ hM (Rel_41 0 H).e
    rw [h2 no] at this
    exact this⟩⟩)
  refine ⟨C, x, y, np, by rw [hL.a], hL.c, hF, nP, fun p q hp hq ex ey => ?_, fun no => mk _ (fun p q hp hq ex ey _ _ => absurd ⟨p, q, hp, hq, ex, ey⟩ no) (fun _ => rfl)⟩
  have un : ∀ {p' q' : Nat}, p' < np → q' < np → x = nI p' → y = nI q' → p' = p ∧ q' = q := fun h1 h2 h3 h4 => ⟨two_eq (by omega) (by omega) h3 ex, two_eq (by omega) (by omega) h4 ey⟩
  have hf := Rel_fits H hp hq
  obtain ⟨kp, k3⟩ := hk p hp
  obtain ⟨kq, q3⟩ := hk q hq
  have ep : ∀ k : Nat, k < 3 → (cI C 5 1 p = nI k ↔ pN (M 0 p) = k) := fun k h => by
    rw [c1 p hp]
    exact ⟨fun z => by rw [z, pN_n (by omega)], fun z => by rw [kp, z]⟩
  have eq : ∀ k : Nat, k < 3 → (cI C 5 1 q = nI k ↔ pN (M 0 q) = k) := fun k h => by
    rw [c1 q hq]
    exact ⟨fun z => by rw [z, pN_n (by omega)], fun z => by rw [kq, z]⟩
  refine ⟨fun a b => ?_, fun a b => ?_, fun a b => mk _ (fun p' q' h1 h2 h3 h4 h5 h6 => ?_) (fun _ => rfl)⟩
  · have a := (ep 0 (by decide)).mp a
    have b := (eq 1 (by decide)).mp b
    have e0 : M 0 p = 0 := by rw [kp, a]; decide
    have hf := hf.1 e0
    refine ⟨fun z => mk 1 (fun p' q' h1 h2 h3 h4 h5 h6 => ?_) (fun no => absurd ⟨p, q, hp, hq, ex, ey, by omega, by omega⟩ no), fun z => mk 0 (fun p' q' h1 h2 h3 h4 h5 h6 => ?_) (fun no => absurd ⟨p, q, hp, hq, ex, ey, by omega, by omega⟩ no)⟩
    · obtain ⟨rfl, rfl⟩ := un h1 h2 h3 h4
      rw [a]
      exact ⟨fun _ => rfl, fun z2 => absurd (hf.mp z) z2⟩
    · obtain ⟨rfl, rfl⟩ := un h1 h2 h3 h4
      rw [a]
      exact ⟨fun z2 => absurd (hf.mpr z2) z, fun _ => rfl⟩
  · have a := (ep 1 (by decide)).mp a
    have b := (eq 2 (by decide)).mp b
    have e0 : ¬ M 0 q = 0 := by rw [kq, b]; decide
    have hf := hf.2 e0
    refine ⟨fun z => mk 1 (fun p' q' h1 h2 h3 h4 h5 h6 => ?_) (fun no => absurd ⟨p, q, hp, hq, ex, ey, by omega, by omega⟩ no), fun z => mk 0 (fun p' q' h1 h2 h3 h4 h5 h6 => ?_) (fun no => absurd ⟨p, q, hp, hq, ex, ey, by omega, by omega⟩ no)⟩
    · obtain ⟨rfl, rfl⟩ := un h1 h2 h3 h4
      rw [a]
      exact ⟨fun _ => rfl, fun z2 => absurd (hf.mp z) z2⟩
    · obtain ⟨rfl, rfl⟩ := un h1 h2 h3 h4
      rw [a]
      exact ⟨fun z2 => absurd (hf.mpr z2) z, fun _ => rfl⟩
  · obtain ⟨rfl, rfl⟩ := un h1 h2 h3 h4
    exfalso
    rcases Nat.lt_or_ge (pN (M 0 p')) 1 with u | u
    · exact a ⟨(ep 0 (by decide)).mpr (by omega), (eq 1 (by decide)).mpr (by omega)⟩
    · exact b ⟨(ep 1 (by decide)).mpr (by omega), (eq 2 (by decide)).mpr (by omega)⟩
theorem okMk_un {M : Ms} {nl : Nat} {mn : Nat → Nat} {x y z : Int32} {a b c a2 b2 c2 : Nat} (h60 : nl ≤ 60) (h : okMk M nl mn x y z a b c) (h2 : okMk M nl mn x y z a2 b2 c2) : a2 = a ∧ b2 = b ∧ c2 = c := by
  have u1 := h.1.1
  have u2 := h.2.1.1
  have u3 := h.2.2.1.1
  have v1 := h2.1.1
  have v2 := h2.2.1.1
  have v3 := h2.2.2.1.1
  exact ⟨two_eq (by omega) (by omega) h2.1.2.1 h.1.2.1, two_eq (by omega) (by omega) h2.2.1.2.1 h.2.1.2.1, two_eq (by omega) (by omega) h2.2.2.1.2.1 h.2.2.1.2.1⟩
theorem pa_most {x0 m0 n fu f : Nat} (hn : n = 10) (hfu : fu = 11) (hf : f = 11) {x y z : Int32} : Pair x0 m0 (sp_cmost n fu f) sp_most [.int x, .int y, .int z] := by
  rintro w C M hL ⟨np, nl, nh, nw, ns, ng, dy, tt, R, Q, H⟩ Kc hK
  obtain ⟨hF, ⟨nP, mP⟩, ⟨nL, mL⟩, ⟨nH, mH⟩, nW, mW⟩ := id H.1
  have h60 := nL.2.1
  have H' := Rel_41 0 H
  have hr : ∀ a b c, okMk (u2 M 41 0 0) nl (fun j => (R j).length) x y z a b c → okR (u2 M 41 0 0) a (R a).length 0 ∧ okR (u2 M 41 0 0) b (R b).length 1 ∧ okR (u2 M 41 0 0) c (R c).length 2 := fun a b c ok => ⟨Rel_okR H' ok.1.1 (ok.2.2.2.1.1.trans (by decide)) ok.2.2.2.2.1, Rel_okR H' ok.2.1.1 (ok.2.2.2.1.2.1.trans (by decide)) ok.2.2.2.2.2.1, Rel_okR H' ok.2.2.1.1 (ok.2.2.2.1.2.2.trans (by decide)) ok.2.2.2.2.2.2⟩
  have g42 : G42 (u2 M 41 0 0) := H'.2.2.2.2.2.2.2.2.2.2.2.2.2
  refine ⟨C, x, y, z, nl, R, by rw [hL.a], hL.c, hF, nL, Rel_LR H, hn, fun a b c oa ob oc w' hX => ?_, fun no => hK _ _ (pr_ok hL hL.c hL.a fun W hW Km hm => ⟨m0, M, u2 M 41 0 0, x, y, z, nl, fun j => (R j).length, rfl, hW.m, rfl, ⟨mL, h60⟩, Rel_mn H', ⟨g42, hr⟩, fun a b c B w2 ok => absurd ⟨a, b, c, (Rel_okMk H').mp ok⟩ no, fun _ w2 hM => hm w2 _ hM H'.e⟩)⟩
  have ok : okMk (u2 M 41 0 0) nl (fun j => (R j).length) x y z a b c := (Rel_okMk H').mpr ⟨oa, ob, oc⟩
  obtain ⟨B0, hB0, hv⟩ := Rel_best H' (n := n) hfu hf hn oa.1 ob.1 oc.1 ok.2.2.2.1.1 ok.2.2.2.1.2.2 ok.2.2.2.2.1 ok.2.2.2.2.2.1 ok.2.2.2.2.2.2
  have hKm := (cMR_Km n C b (R a) (R b) (R c)).tr (cCh_Km fu f (cMR n C b (R a) (R b) (R c)))
  refine hK _ _ (pr_ok hL hX ((congrFun (congrFun hKm.1.1 9) 0).trans hL.a) fun W hW Km hm => ⟨m0, M, u2 M 41 0 0, x, y, z, nl, fun j => (R j).length, rfl, hW.m, rfl, ⟨mL, h60⟩, Rel_mn H', ⟨g42, hr⟩, fun a2 b2 c2 B w2 ok2 hB hM => ?_, fun no => absurd ⟨a, b, c, ok⟩ no⟩)
  obtain ⟨rfl, rfl, rfl⟩ := okMk_un h60 ok ok2
  have e := isB_u hB0 hB
  have e2 : (tWD fu f (cMR n C b2 (R a2) (R b2) (R c2))).1.1 = nI (bc B) := by rw [hv, e]
  rw [← e2]
  exact hm w2 _ hM (Rel_sc hKm (fun f i hf => mGw_ot _ _ _ _ _ _ f i hf _) (G42_mGw g42 ok.2.2.2.2.1 ok.2.2.2.2.2.2 _) H').e
theorem pa_make {x0 m0 n fu f : Nat} (hn : n = 10) (hfu : fu = 11) (hf : f = 11) {x y z : Int32} : Pair x0 m0 (sp_cmake n fu f) sp_make [.int x, .int y, .int z] := by
  rintro w C M hL ⟨np, nl, nh, nw, ns, ng, dy, tt, R, Q, H⟩ Kc hK
  obtain ⟨hF, ⟨nP, mP⟩, ⟨nL, mL⟩, ⟨nH, mH⟩, nW, mW⟩ := id H.1
  have h60 := nL.2.1
  have H' := Rel_41 0 H
  have hr : ∀ a b c, okMk (u2 M 41 0 0) nl (fun j => (R j).length) x y z a b c → okR (u2 M 41 0 0) a (R a).length 0 ∧ okR (u2 M 41 0 0) b (R b).length 1 ∧ okR (u2 M 41 0 0) c (R c).length 2 ∧ ∀ B, isB (u2 M 41 0 0) a b c (R a).length (R b).length (R c).length B → nw + bc B ≤ 100 := fun a b c ok => ⟨Rel_okR H' ok.1.1 (ok.2.2.2.1.1.trans (by decide)) ok.2.2.2.2.1, Rel_okR H' ok.2.1.1 (ok.2.2.2.1.2.1.trans (by decide)) ok.2.2.2.2.2.1, Rel_okR H' ok.2.2.1.1 (ok.2.2.2.1.2.2.trans (by decide)) ok.2.2.2.2.2.2, fun B hB => Rel_100 H' ok.1.1 ok.2.1.1 ok.2.2.1.1 (fun e => by
    have := ok.2.2.2.1.1
    rw [e, ok.2.2.2.1.2.1] at this
    exact absurd this (by decide)) (fun e => by
    have := ok.2.2.2.1.1
    rw [e, ok.2.2.2.1.2.2] at this
    exact absurd this (by decide)) (fun e => by
    have := ok.2.2.2.1.2.1
    rw [e, ok.2.2.2.1.2.2] at this
    exact absurd this (by decide)) hB⟩
  have g42 : G42 (u2 M 41 0 0) := H'.2.2.2.2.2.2.2.2.2.2.2.2.2
  refine ⟨C, x, y, z, nl, nw, R, by rw [hL.a], hL.c, hF, nL, ⟨nW.1, nW.2.1, nW.2.2.1⟩, Rel_LR H, ⟨hn, fun j hj => (H.2.2.2.2.1 j hj).2.2.1, fun i j hi hj e => Rel_dj H hi hj e⟩, fun a b c oa ob oc ads w' had hX => ?_, fun no => hK _ _ (pr_ok hL hL.c hL.a fun W hW Km hm => ⟨m0, M, u2 M 41 0 0, x, y, z, nl, nw, fun j => (R j).length, rfl, hW.m, rfl, ⟨mL, h60, mW⟩, Rel_mn H', ⟨g42, hr⟩, fun a b c B T pl st w2 ok => absurd ⟨a, b, c, (Rel_okMk H').mp ok⟩ no, fun _ w2 hM => hm w2 _ hM H'.e⟩)⟩
  have ok : okMk (u2 M 41 0 0) nl (fun j => (R j).length) x y z a b c := (Rel_okMk H').mpr ⟨oa, ob, oc⟩
  have hKm := ((cMR_Km n C b (R a) (R b) (R c)).tr (cCh_Km fu f (cMR n C b (R a) (R b) (R c)))).tr (cCM_Km fu n _)
  have eA : cA (cMkE a b c (R a) (R b) (R c) (mkL a b c (R a).length (R b).length (R c).length ads 0 nw (cMB n fu f C b (R a) (R b) (R c))).1) 9 0 = x0 := (congrFun (congrFun (((cDT_Kp a (R a) 0 _).tr (cDT_Kp b (R b) 0 _)).tr (cDT_Kp c (R c) 0 _)).1.1 9) 0).trans ((mkL_A _ _ _ _ _ _ _ _ _ _).trans ((congrFun (congrFun hKm.1.1 9) 0).trans hL.a))
  refine hK _ _ (pr_ok hL hX eA fun W hW Km hm => ⟨m0, M, u2 M 41 0 0, x, y, z, nl, nw, fun j => (R j).length, rfl, hW.m, rfl, ⟨mL, h60, mW⟩, Rel_mn H', ⟨g42, hr⟩, fun a2 b2 c2 B T pl st w2 ok2 hB hT hM => ?_, fun no => absurd ⟨a, b, c, ok⟩ no⟩)
  obtain ⟨rfl, rfl, rfl⟩ := okMk_un h60 ok ok2
  obtain ⟨e2, R', h'⟩ := Rel_make H' (n := n) hfu hf hn ⟨ok.1.1, ok.1.2.2, ok.2.2.2.1.1, ok.2.2.2.2.1⟩ ⟨ok.2.1.1, ok.2.1.2.2, ok.2.2.2.1.2.1, ok.2.2.2.2.2.1⟩ ⟨ok.2.2.1.1, ok.2.2.1.2.2, ok.2.2.2.1.2.2, ok.2.2.2.2.2.2⟩ hB hT had
  rw [← e2]
  exact hm w2 _ hM h'.e
