/-! THE TWO: what is asked of homes, of the whole -/
theorem cn_len {p : Nat → Bool} : ∀ (n : Nat) (L : List Nat), L.Nodup → (∀ x, x ∈ L ↔ x < n ∧ p x = true) → L.length = cn p n
  | 0, L, _, h => by
    cases L with
    | nil => rfl
    | cons a t => exact absurd ((h a).mp (List.mem_cons_self ..)).1 (by omega)
  | n + 1, L, hn, h => by
    by_cases c : p n = true
    · have hm : n ∈ L := (h n).mpr ⟨Nat.lt_succ_self n, c⟩
      have e := List.length_erase_of_mem hm
      have ih := cn_len n (L.erase n) (hn.erase n) (fun x => by
        rw [hn.mem_erase_iff, h x]
        exact ⟨fun z => ⟨by omega, z.2.2⟩, fun z => ⟨by omega, by omega, z.2⟩⟩)
      have pos : 0 < L.length := List.length_pos_of_mem hm
      rw [cn_y c]
      omega
    · rw [cn_n c]
      exact cn_len n L hn (fun x => by
        rw [h x]
        refine ⟨fun z => ⟨?_, z.2⟩, fun z => ⟨by omega, z.2⟩⟩
        have : x ≠ n := fun w => by rw [w] at z; exact c z.2
        omega)
theorem Rel_of {C : Cs} {M : Ms} {np nl nh nw ns ng dy tt : Nat} {R Q : Nat → List Nat} (H : Rel C M np nl nh nw ns ng dy tt R Q) {h c : Nat} (hh : h < nh) (hc : c < 7) : cI C 1 (c + 1) h = ofA M h nl c := by
  obtain ⟨_, ⟨a1, a2, a3, a4, a5, a6⟩, _⟩ := H.2.2.1.1 h hh
  have q := H.2.2.2.2.2.2.1 h hh
  rcases (show c = 0 ∨ c = 1 ∨ c = 2 ∨ c = 3 ∨ c = 4 ∨ c = 5 ∨ c = 6 by omega) with rfl | rfl | rfl | rfl | rfl | rfl | rfl
  · exact a1
  · exact a2
  · exact a3
  · exact a4
  · exact a5
  · exact a6
  · show cI C 1 7 h = nI (cn (wtP M h) nl)
    rw [q.1.2.2, cn_len (p := wtP M h) nl (Q h) q.2.1 (fun x => by rw [q.2.2.1 x, wtP, decide_eq_true_eq])]
theorem Rel_count {C : Cs} {M : Ms} {np nl nh nw ns ng dy tt : Nat} {R Q : Nat → List Nat} (H : Rel C M np nl nh nw ns ng dy tt R Q) {c : Nat} (hc : c < 8) : countC C nl nh nw c = countA M nl nw c := by
  obtain ⟨⟨hX, ⟨n1, m1⟩, ⟨n2, m2⟩, ⟨n3, m3⟩, n4, m4⟩, hP, hH, hL, hR, hK, hQ, hT, hS, hG, hW, hF, hD, h42⟩ := H
  rcases (show c = 0 ∨ c = 1 ∨ c = 2 ∨ c = 3 ∨ c = 4 ∨ c = 5 ∨ c = 6 ∨ c = 7 by omega) with rfl | rfl | rfl | rfl | rfl | rfl | rfl | rfl
  · exact hD.1.trans hD.2.2.symm
  · exact n3.1.trans m3.symm
  · exact n2.1.trans m2.symm
  · exact n1.1.trans m1.symm
  · exact hH.2.1.symm
  · exact n4.1.trans m4.symm
  · show nI (cn (bkC C) nw) = nI (cn (bkP M) nw)
    rw [cn_cong (p := bkC C) (q := bkP M) (fun i hi => by rw [bkC, bkP, (hW i hi).1.1])]
  · show nI (cn (otC C) nl) = nI (cn (outP M) nl)
    rw [cn_cong (p := otC C) (q := outP M) (fun i hi => ?_)]
    obtain ⟨_, ⟨_, _, e⟩, ⟨k, hk, ek⟩, _⟩ := hL i hi
    rw [otC, outP, e, ek]
    rcases (show k = 0 ∨ k = 1 ∨ k = 2 ∨ k = 3 by omega) with rfl | rfl | rfl | rfl <;> decide
