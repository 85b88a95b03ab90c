/-! THE TWO: what is asked of a lot -/
theorem Rel_lot {C : Cs} {M : Ms} {np nl nh nw ns ng dy tt : Nat} {R Q : Nat → List Nat} (H : Rel C M np nl nh nw ns ng dy tt R Q) {l c : Nat} (hl : l < nl) (hc : c < 6) : lotC C l c = lotA M l c := by
  obtain ⟨p1, ⟨p2, p2b, p2c⟩, ⟨k, hk, ek⟩, p4, p5, p6, p7, p8, p9⟩ := H.2.2.2.1 l hl
  rcases (show c = 0 ∨ c = 1 ∨ c = 2 ∨ c = 3 ∨ c = 4 ∨ c = 5 by omega) with rfl | rfl | rfl | rfl | rfl | rfl
  · exact p2
  · exact p2b
  · exact p2c
  · show (if cL C 2 6 l = 0 then -1 else cI C 1 0 (cL C 2 6 l - 1)) = if M 10 l ≤ 0 then -1 else M 11 l
    by_cases e : M 10 l = 0
    · rw [if_pos (p4 e), if_pos (by rw [e]; decide)]
    · obtain ⟨h, hh, e1, e2⟩ := p5 e
      have ne : ¬ M 10 l ≤ 0 := fun z => by
        rw [ek] at z e
        have := (nI_leI (a := k) (b := 0) (by omega) (by decide)).mp z
        have k0 : k = 0 := by omega
        rw [k0] at e
        exact e rfl
      rw [if_neg ne, e2, if_neg (Nat.succ_ne_zero h), e1]
      exact (H.2.2.1.1 h hh).1
  · show cI C 2 7 l = if M 10 l = 1 ∨ M 10 l = 3 then M 12 l else 0
    by_cases e : M 10 l = 1 ∨ M 10 l = 3
    · rw [if_pos e]; exact (p6 e).1
    · rw [if_neg e]; exact p7 e
  · show cI C 2 9 l = if M 10 l = 2 then M 13 l else 0
    by_cases e : M 10 l = 2
    · rw [if_pos e]; exact p8 e
    · rw [if_neg e]; exact (p9 e).1
