/-! THE LAW: piece and due -/
def PH (m0 a : Nat) : Bool := !PM m0 a
section CASES3
variable {l : Launch} {b Ln : Nat} {xs : Nat → Int32} {x0 m0 i nc ns : Nat} {w : Hp} {C : Cs} {M : Ms}
theorem PH_t {m0 a : Nat} (h : a < m0 ∨ m0 + 34 ≤ a) : PH m0 a = true := by unfold PH; rw [PM_f h]; rfl
theorem PH_f {m0 a : Nat} (h : m0 ≤ a ∧ a < m0 + 34) : PH m0 a = false := by unfold PH; rw [PM_t h]; rfl
theorem Lw.ph (h : Lw x0 m0 w C M) {t i : Nat} (hi : i < cN C t) : PH m0 (cA C t i) = true := PH_t (by have := h.1.2.2 t i hi; omega)
theorem Lw.h (h : Lw x0 m0 w C M) : RX C (rst (PH m0) w) := h.x.cg (Nat.le_refl _) (fun t i hi => agr_rst (h.ph hi))
theorem Lw.h' (h : Lw x0 m0 w C M) {w' : Hp} (hX : RX C w') (hk : gK w' (m0 + 34) = some 22 ∧ gN w' (m0 + 34) = 1) (gz : gZ w ≤ gZ w') : Lw x0 m0 (mrg (PH m0) w w') C M := by
  have hz := h.2.2.2
  refine ⟨⟨hX.cg (Nat.le_refl _) (fun t i hi => agr_y (Or.inl (h.ph hi))), h.a, h.1.2.2⟩, h.2.1.cg (fun a h1 h2 => agr_n (PH_f ⟨h1, h2⟩) (by omega)), ?_, Nat.le_trans hz gz⟩
  have g : agr w' (mrg (PH m0) w w') (m0 + 34) := agr_y (Or.inl (PH_t (by omega)))
  exact ⟨g.1.trans hk.1, g.2.2.2.1.trans hk.2⟩
theorem cmp_0 (x : Int64) : lg_cmp x x = 0 := by unfold lg_cmp; simp
theorem m41_0 (M : Ms) : m41 M 41 0 = 0 := by unfold m41; simp [u2]
theorem m41_1 (M : Ms) : u2 (m41 M) 41 0 1 41 0 = 1 := by simp [u2]
/-- behind the helper -/
theorem ta_9 {fl : Int32} {np nl nh nw nS ng dy tt nc1 ns1 : Nat} {R Q : Nat → List Nat} (hi : i + 5 ≤ Ln) (hl : Ln ≤ 2560) (hb : nc + 40 ≤ 601024 ∧ ns + 400 ≤ 7293034) (hb1 : nc1 ≤ nc + 40 ∧ ns1 ≤ ns + 400) (hL : Lw x0 m0 w C M) (H : Rel C M np nl nh nw nS ng dy tt R Q) (hN : Nx l b Ln xs x0 m0 i nc ns) (hc : (fl = 0 ∧ ∃ j c, j < np ∧ c < 6 ∧ xs (i + 1) = nI j ∧ xs (i + 2) = nI c ∧ gJ w (m0 + 34) 0 = (pieceC C j c).toInt64) ∨ (fl = 1 ∧ ¬ ∃ j c, j < np ∧ c < 6 ∧ xs (i + 1) = nI j ∧ xs (i + 2) = nI c)) : JL l b Ln xs 530 [(4, .int (nI i)), (3, .ref (m0 + 34)), (2, .ref m0), (1, .ref x0), (0, .ref b)] [.int fl] w nc1 ns1 := by
  obtain ⟨hF, ⟨nP, mP⟩, ⟨nL, mL⟩, ⟨nH, mH⟩, nW, mW⟩ := id H.1
  have p300 := nP.2.1
  have hz := hL.2.2.2
  refine jl_s cl_9_ok (evL_ok (L := [(103, 3, 0, 0, sp_piece), (83, 1, 0, 0, sp_thrown)]) (by simpa using ⟨c_mpiece l, c_thrown l⟩)) [527, 1095] (fun x h => by simp at h; subst h; rfl) 80 rfl ⟨by omega, by omega⟩ ?_
  refine ⟨rfl, i + 1, ixa hi hl (by decide), rfl, i + 2, ixa hi hl (by decide), ⟨show 3 < 30 by decide, show nc1 + 0 ≤ 601024 by omega, show ns1 + 0 ≤ 7293034 by omega⟩, rfl, hL.2.1.k, PM m0, PM_t ⟨Nat.le_refl _, by omega⟩, ?_⟩
  dsimp only
  show sp_piece [.ref m0, .int (xs (i + 1)), .int (xs (i + 2))] (rst (PM m0) w) _
  refine ⟨m0, M, xs (i + 1), xs (i + 2), np, rfl, hL.m, ⟨mP, p300⟩, fun j c hj hc6 ex ey w2 hM dom gz => ?_, fun no w2 hM dom gz => ?_⟩
  · obtain ⟨rfl, j2, c2, hj2, hc2, ex2, ey2, hJ⟩ : fl = 0 ∧ ∃ j c, j < np ∧ c < 6 ∧ xs (i + 1) = nI j ∧ xs (i + 2) = nI c ∧ gJ w (m0 + 34) 0 = (pieceC C j c).toInt64 := hc.elim id (fun z => absurd ⟨j, c, hj, hc6, ex, ey⟩ z.2)
    obtain rfl : j2 = j := two_eq (by omega) (by omega) ex2 ex
    obtain rfl : c2 = c := two_eq (by omega) (by omega) ey2 ey
    have hL3 := hL.m' hM gz
    have hz3 := hL3.2.2.2
    refine ⟨⟨show 1 < 30 by decide, show nc1 + 0 + 0 ≤ 601024 by omega, show ns1 + 0 + 0 ≤ 7293034 by omega⟩, rfl, hL3.2.1.k, PM m0, PM_t ⟨Nat.le_refl _, by omega⟩, ?_⟩
    dsimp only
    refine ⟨m0, m41 M, rfl, hL3.m, fun dom3 gz3 => ?_⟩
    have hL4 := hL3.m' hL3.m gz3
    have eJ : gJ (mrg (PM m0) (mrg (PM m0) w w2) (rst (PM m0) (mrg (PM m0) w w2))) (m0 + 34) 0 = (pieceC C j2 c2).toInt64 := ((mrg_n (PM_f (Or.inr (Nat.le_refl _))) (by omega)).2.2.2.2.2.2 0).trans (((mrg_n (PM_f (Or.inr (Nat.le_refl _))) (by omega)).2.2.2.2.2.2 0).trans hJ)
    have ep : pieceC C j2 c2 = M c2 j2 := by
      obtain ⟨_, ⟨e1, e2, e3, e4, e5, e6⟩, _⟩ := H.2.1 j2 hj2
      match c2, hc2 with
      | 0, _ => exact e1
      | 1, _ => exact e3
      | 2, _ => exact e2
      | 3, _ => exact e4
      | 4, _ => exact e5
      | 5, _ => exact e6
    have nx : JL l b Ln xs 1095 [(4, .int (nI i)), (3, .ref (m0 + 34)), (2, .ref m0), (1, .ref x0), (0, .ref b)] [] (mrg (PM m0) (mrg (PM m0) w w2) (rst (PM m0) (mrg (PM m0) w w2))) (nc1 + 0 + 0) (ns1 + 0 + 0) := hN _ _ _ _ _ hL4 (Rel_41 0 H).e (by omega) (by omega)
    rw [m41_0]
    refine ⟨fun _ => ⟨fun z => absurd rfl z, fun _ => ⟨hL4.2.2.1.1, 0, _, ⟨rfl, by rw [hL4.2.2.1.2]; decide, by decide⟩, eJ, ?_⟩⟩, fun z => absurd rfl z⟩
    rw [ep]
    refine ⟨fun _ => jl_pk [2, 3, 4, 5, 6] nx, fun z => absurd (cmp_0 _) z⟩
  · obtain ⟨rfl, -⟩ : fl = 1 ∧ ¬ ∃ j c, j < np ∧ c < 6 ∧ xs (i + 1) = nI j ∧ xs (i + 2) = nI c := hc.elim (fun ⟨_, j, c, a1, a2, a3, a4, _⟩ => absurd ⟨j, c, a1, a2, a3, a4⟩ no) id
    have hL3 := hL.m' hM gz
    have hz3 := hL3.2.2.2
    refine ⟨⟨show 1 < 30 by decide, show nc1 + 0 + 0 ≤ 601024 by omega, show ns1 + 0 + 0 ≤ 7293034 by omega⟩, rfl, hL3.2.1.k, PM m0, PM_t ⟨Nat.le_refl _, by omega⟩, ?_⟩
    dsimp only
    refine ⟨m0, u2 (m41 M) 41 0 1, rfl, hL3.m, fun dom3 gz3 => ?_⟩
    have hL4 := hL3.m' hL3.m gz3
    have nx : JL l b Ln xs 1095 [(4, .int (nI i)), (3, .ref (m0 + 34)), (2, .ref m0), (1, .ref x0), (0, .ref b)] [] (mrg (PM m0) (mrg (PM m0) w w2) (rst (PM m0) (mrg (PM m0) w w2))) (nc1 + 0 + 0) (ns1 + 0 + 0) := hN _ _ _ _ _ hL4 (Rel_41 1 (Rel_41 0 H)).e (by omega) (by omega)
    rw [m41_1]
    exact ⟨fun _ => ⟨fun _ => jl_pk [2, 3, 4, 5, 6] nx, fun z => absurd z (by decide)⟩, fun z => absurd rfl z⟩
end CASES3
