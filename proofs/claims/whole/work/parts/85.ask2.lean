/-! THE TWO: what is asked of homes, of the whole -/
theorem cn_len {p : Nat → Bool} : ∀ (n : Nat) (L : List Nat), L.Nodup → (∀ x, x ∈ L ↔ x < n ∧ p x = true) → L.length = cn p n
  | 0, L, _, h => by
    cases L with
    | nil => rfl
    | cons a t => exact absurd ((h a).mp (List.mem_cons_self ..)).1 (by omega)
  | n + 1, L, hn, h => by
    by_cases c : p n = true
    · have hm : n ∈ L := (h n).mpr ⟨Nat.lt_succ_self n, c⟩
      have e := List.length_erase_of_mem hm
      have ih := cn_len n (L.erase n) (hn.erase n) (fun x => by
        rw [hn.mem_erase_iff, h x]
        exact ⟨fun z => ⟨by omega, z.2.2⟩, fun z => ⟨by omega, by omega, z.2⟩⟩)
      have pos : 0 < L.length := List.length_pos_of_mem hm
      rw [cn_y c]
      omega
    · rw [cn_n c]
      exact cn_len n L hn (fun x => by
        rw [h x]
        refine ⟨fun z => ⟨?_, z.2⟩, fun z => ⟨by omega, z.2⟩⟩
        have : x ≠ n := fun w => by rw [w] at z; exact c z.2
        omega)
theorem Rel_of {C : Cs} {M : Ms} {np nl nh nw ns ng dy tt : Nat} {R Q : Nat → List Nat} (H : Rel C M np nl nh nw ns ng dy tt R Q) {h c : Nat} (hh : h < nh) (hc : c < 7) : cI C 1 (c + 1) h = ofA M h nl c := by
  obtain ⟨_, ⟨a1, a2, a3, a4, a5, a6⟩, _⟩ := H.2.2.1.1 h hh
  have q := H.2.2.2.2.2.2.1 h hh
  rcases (show c = 0 ∨ c = 1 ∨ c = 2 ∨ c = 3 ∨ c = 4 ∨ c = 5 ∨ c = 6 by omega) with rfl | rfl | rfl | rfl | rfl | rfl | rfl
  · exact a1
  · exact a2
  · exact a3
  · exact a4
  · exact a5
  · exact a6
  · show cI C 1 7 h = nI (cn (wtP M h) nl)
    rw [q.1.2.2, cn_len (p := wtP M h) nl (Q h) q.2.1 (fun x => by rw [q.2.2.1 x, wtP, decide_eq_true_eq])]
