/-! THE LAW: its cases -/
def Nx (l : Launch) (b Ln : Nat) (xs : Nat → Int32) (x0 m0 i nc ns : Nat) : Prop := ∀ w C M nc' ns', Lw x0 m0 w C M → RelE C M → nc' ≤ nc + 40 → ns' ≤ ns + 400 → JL l b Ln xs 1095 [(4, .int (nI i)), (3, .ref (m0 + 34)), (2, .ref m0), (1, .ref x0), (0, .ref b)] [] w nc' ns'
theorem ixa {i k Ln : Nat} (hi : i + 5 ≤ Ln) (hl : Ln ≤ 2560) (hk : k < 5) : ixO (nI i + nI k) Ln (i + k) := ⟨nI_add i k, by omega, by omega⟩
section CASES
variable {l : Launch} {b Ln : Nat} {xs : Nat → Int32} {x0 m0 i nc ns : Nat} {w : Hp} {C : Cs} {M : Ms}
theorem Lw.k9 (h : Lw x0 m0 w C M) (hR : RelE C M) : gK w x0 = some 9 ∧ PC m0 x0 = true := by
  obtain ⟨np, nl, nh, nw, ns, ng, dy, tt, R, Q, H⟩ := hR
  have h0 : 0 < cN C 9 := by rw [H.1.1.1.1]; exact Nat.zero_lt_one
  rw [← h.a]
  exact ⟨h.x.k 9 0 h0, PC_t (h.1.2.2 9 0 h0)⟩
theorem la_0 (hi : i + 5 ≤ Ln) (hl : Ln ≤ 2560) (hb : nc + 40 ≤ 601024 ∧ ns + 400 ≤ 7293034) (hL : Lw x0 m0 w C M) (hR : RelE C M) (hN : Nx l b Ln xs x0 m0 i nc ns) : JL l b Ln xs 140 [(4, .int (nI i)), (3, .ref (m0 + 34)), (2, .ref m0), (1, .ref x0), (0, .ref b)] [] w nc ns := by
  refine jl_s cl_0_ok (evL_ok (L := [(4, 2, 1, 12, sp_chome), (84, 2, 0, 0, sp_home)]) (by simpa using ⟨c_home l, c_mhome l⟩)) [1095] (fun _ h => by simp at h) 80 rfl ⟨by omega, by omega⟩ ?_
  refine ⟨rfl, i + 1, ixa hi hl (by decide), rfl, i + 2, ixa hi hl (by decide), rfl, i + 3, ixa hi hl (by decide), rfl, i + 4, ixa hi hl (by decide), ⟨by decide, show nc + 1 ≤ 601024 by omega, show ns + 12 ≤ 7293034 by omega⟩, rfl, (hL.k9 hR).1, PC m0, (hL.k9 hR).2, ?_⟩
  dsimp only
  show sp_chome [.ref x0, .int (xs (i + 1)), .int (xs (i + 2)), .int (xs (i + 3)), .int (xs (i + 4))] (rst (PC m0) w) _
  refine pa_home w C M hL hR _ ?_
  intro v w' h dom gz
  obtain ⟨k, h2⟩ := h dom gz
  refine ⟨rfl, i + 1, ixa hi hl (by decide), rfl, i + 2, ixa hi hl (by decide), rfl, i + 3, ixa hi hl (by decide), rfl, i + 4, ixa hi hl (by decide), ⟨by decide, show nc + 1 + 0 ≤ 601024 by omega, show ns + 12 + 0 ≤ 7293034 by omega⟩, rfl, k, PM m0, PM_t ⟨Nat.le_refl _, by omega⟩, ?_⟩
  dsimp only
  show sp_home [.ref m0, .int (xs (i + 1)), .int (xs (i + 2)), .int (xs (i + 3)), .int (xs (i + 4))] (rst (PM m0) (mrg (PC m0) w w')) _
  refine h2 _ ?_
  intro w2 h3 d g
  obtain ⟨C', M', hL', hR'⟩ := h3 d g
  exact ⟨fun _ => hN _ _ _ _ _ hL' hR' (show nc + 1 + 0 ≤ nc + 40 by omega) (show ns + 12 + 0 ≤ ns + 400 by omega), fun h => absurd rfl h⟩
end CASES
