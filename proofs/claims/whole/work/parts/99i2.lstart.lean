/-! THE LAW: its start -/
theorem agr.tr {S T U : Hp} {a : Nat} (h : agr S T a) (g : agr T U a) : agr S U a := ⟨g.1.trans h.1, fun t k => (g.2.1 t k).trans (h.2.1 t k), fun t k => (g.2.2.1 t k).trans (h.2.2.1 t k), g.2.2.2.1.trans h.2.2.2.1, fun j => (g.2.2.2.2.1 j).trans (h.2.2.2.2.1 j), fun j => (g.2.2.2.2.2 j).trans (h.2.2.2.2.2 j)⟩
theorem agr_new {S : Hp} {t a : Nat} (h : a ≠ gZ S) : agr S (sNew S t) a := ⟨if_neg h, fun _ _ => if_neg h, fun _ _ => if_neg h, rfl, fun _ => rfl, fun _ => rfl⟩
theorem agr_arr {S : Hp} {t n a : Nat} (h : a ≠ gZ S) : agr S (sArr S t n) a := ⟨if_neg h, fun _ _ => rfl, fun _ _ => rfl, if_neg h, fun _ => if_neg h, fun _ => if_neg h⟩
theorem XI_new (S : Hp) : XI (gZ S) 0 [] (sNew S 9) := by
  refine ⟨rfl, fun c hc => ?_⟩
  obtain rfl : c = 0 := by omega
  exact ⟨⟨if_pos rfl, fun q => absurd q (by decide)⟩, fun _ k => if_pos rfl, fun _ k => if_pos rfl, fun q => absurd q (by decide)⟩
theorem XI.cg {x0 n : Nat} {L : List (Nat × Nat × Nat)} {S T : Hp} (h : XI x0 n L S) (hz : gZ T = gZ S) (ha : ∀ a, agr S T a) : XI x0 n L T := by
  refine ⟨hz.trans h.1, fun c hc => ?_⟩
  obtain ⟨⟨h1, h2⟩, h3, h4, h5⟩ := h.2 c hc
  have g := ha (x0 + c)
  exact ⟨⟨g.1.trans h1, fun q => g.2.2.2.1.trans (h2 q)⟩, fun q k => (g.2.1 _ k).trans (h3 q k), fun q k => (g.2.2.1 _ k).trans (h4 q k), fun q j => ⟨(g.2.2.2.2.1 j).trans (h5 q j).1, (g.2.2.2.2.2 j).trans (h5 q j).2⟩⟩
def P2 (m0 a : Nat) : Bool := decide (m0 ≤ a)
theorem P2_t {m0 a : Nat} (h : m0 ≤ a) : P2 m0 a = true := decide_eq_true h
theorem P2_f {m0 a : Nat} (h : a < m0) : P2 m0 a = false := decide_eq_false (by omega)
theorem RI_new (S : Hp) : RI (gZ S) 0 (rst (P2 (gZ S)) (sNew S 10)) := by
  refine ⟨(rst_k (P2_t (Nat.le_refl _))).trans (if_pos rfl), rfl, fun f hf h0 => ?_, fun f _ => if_pos rfl⟩
  have := (mOf_pos f (mAr_el hf).1 (mAr_el hf).2).1
  omega
theorem Lw_0 {z : Nat} {W1 w2 : Hp} (hX : XI z 15 LX W1) (hM : RM (gZ W1) (fun _ _ => 0) w2) (hz : gZ w2 = gZ W1 + 34) : Lw z (gZ W1) (sArr (mrg (P2 (gZ W1)) (sNew W1 10) w2) 22 1) (C0 z) (fun _ _ => 0) := by
  have z1 : gZ W1 = z + 16 := hX.1
  have zz : gZ (mrg (P2 (gZ W1)) (sNew W1 10) w2) = gZ W1 + 34 := hz
  have z3 : gZ (sNew W1 10) = gZ W1 + 1 := rfl
  have ca : ∀ t i, i < cN (C0 z) t → cA (C0 z) t i < gZ W1 := fun t i hi => by
    have hi : i < cN0 t := hi
    have := (x0_k t (cN0_t hi) i (by have := cN0_6 t (cN0_t hi); omega) hi).2
    show z + aT0 t i < _
    omega
  refine ⟨⟨(RX_0 hX).cg ?_ (fun t i hi => ?_), rfl, fun t i hi => Or.inl (ca t i hi)⟩, hM.cg (fun a h1 h2 => ?_), ⟨?_, ?_⟩, ?_⟩
  · show gZ W1 ≤ gZ (mrg (P2 (gZ W1)) (sNew W1 10) w2) + 1
    omega
  · have := ca t i hi
    exact ((agr_new (by omega)).tr (agr_n (P2_f this) (by omega))).tr (agr_arr (by omega))
  · exact (agr_y (Or.inl (P2_t h1))).tr (agr_arr (by omega))
  · show (if gZ W1 + 34 = gZ (mrg (P2 (gZ W1)) (sNew W1 10) w2) then some 22 else _) = _
    rw [if_pos zz.symm]
  · show (if gZ W1 + 34 = gZ (mrg (P2 (gZ W1)) (sNew W1 10) w2) then 1 else _) = _
    rw [if_pos zz.symm]
  · show gZ W1 + 35 ≤ gZ (mrg (P2 (gZ W1)) (sNew W1 10) w2) + 1
    omega
theorem law_start {l : Launch} {b Ln : Nat} {xs : Nat → Int32} (hl : Ln ≤ 2560) (w : Hp) : JL l b Ln xs 0 [(0, .ref b)] [] w 0 0 := by
  refine jl_s cl_s_ok (evL_ok (L := [(0, 3, 15, 548, sp_xinit), (82, 1, 33, 22658, sp_minit)]) (by simpa using ⟨c_xinit l, c_minit l⟩)) [23] (fun _ h => by simp at h) 40 rfl ⟨by decide, by decide⟩ ?_
  refine ⟨⟨by decide, by decide⟩, rfl, ⟨by decide, by decide, by decide⟩, rfl, fun _ => true, ?_⟩
  dsimp only
  refine ⟨gZ w, rfl, (XI_new w).cg rfl (fun a => agr_rst rfl), ?_⟩
  intro w1 hX dom gz
  have hX1 : XI (gZ w) 15 LX (mrg (fun _ => true) (sNew w 9) w1) := hX.cg rfl (fun a => agr_y (Or.inl rfl))
  generalize mrg (fun _ => true) (sNew w 9) w1 = W1 at hX1
  refine ⟨⟨by decide, by decide⟩, rfl, ⟨by decide, by decide, by decide⟩, rfl, P2 (gZ W1), ?_⟩
  dsimp only
  refine ⟨gZ W1, rfl, RI_new W1, ?_⟩
  intro w2 hM hz dom2 gz2
  have hL := Lw_0 hX1 hM hz
  have e34 : gZ (mrg (P2 (gZ W1)) (sNew W1 10) w2) = gZ W1 + 34 := hz
  refine ⟨1, ⟨by decide, by decide⟩, ⟨by decide, by decide⟩, ?_⟩
  have key : ∀ nc ns, nc ≤ 100 ∧ ns ≤ 30000 → JL l b Ln xs 23 [(4, .int (nI 0)), (3, .ref (gZ (mrg (P2 (gZ W1)) (sNew W1 10) w2))), (2, .ref (gZ W1)), (1, .ref (gZ w)), (0, .ref b)] [] (sArr (mrg (P2 (gZ W1)) (sNew W1 10) w2) 22 1) nc ns := fun nc ns h => by
    rw [e34]
    exact law_loop (n := 10) (fu := 11) (f := 11) (fd := 81) rfl rfl rfl (by decide) hl Ln 0 _ _ _ nc ns (by omega) (by omega) h hL (Rel_0 (gZ w)).e
  exact key _ _ ⟨by decide, by decide⟩
