/-! THE TWO: what stands at a place -/
theorem chL_nth {C : Cs} : ∀ {L : List Nat} {c i p : Nat}, chL (cL C 5 7) c L → L[i]? = some p → cNth C i c = p + 1
  | [], _, _, _, _, h => by simp at h
  | q :: t, c, 0, p, hc, h => by
    have e : q = p := by simpa using h
    rw [← e]
    exact hc.1
  | q :: t, c, i + 1, p, hc, h => by
    obtain ⟨h1, h2⟩ := hc
    rw [h1, cNth]
    exact chL_nth h2 (by simpa using h)
theorem Rel_at {C : Cs} {M : Ms} {np nl nh nw ns ng dy tt : Nat} {R Q : Nat → List Nat} (H : Rel C M np nl nh nw ns ng dy tt R Q) {l i : Nat} (hl : l < nl) (hi : i < (R l).length) : atC C (cNth C i (cL C 2 2 l)) = M 8 (300 * l + i) := by
  have hR := H.2.2.2.2.1 l hl
  have hp : (R l)[i]? = some (R l)[i] := List.getElem?_eq_getElem hi
  have hm := hR.2.2.2 (R l)[i] (List.mem_of_getElem? hp)
  rw [chL_nth hR.1.1 hp, hR.2.1.2 i _ hp]
  exact (H.2.1 (R l)[i] hm.1).1
theorem Rel_fits {C : Cs} {M : Ms} {np nl nh nw ns ng dy tt : Nat} {R Q : Nat → List Nat} (H : Rel C M np nl nh nw ns ng dy tt R Q) {p q : Nat} (hp : p < np) (hq : q < np) : (M 0 p = 0 → (alw C 0 q p ↔ fitB M p q 0)) ∧ (¬ M 0 q = 0 → (alw C 1 p q ↔ fitB M p q 1)) := by
  have a := H.2.1 p hp
  have b := H.2.1 q hq
  have f0 := H.2.2.2.2.2.2.2.2.2.2.2.1 0 (by decide)
  have f1 := H.2.2.2.2.2.2.2.2.2.2.2.1 1 (by decide)
  refine ⟨fun z => ?_, fun z => ?_⟩
  · unfold alw fitB mor
    rw [a.2.1.1, if_pos z, a.2.1.2.2.1, b.2.1.2.2.1, f0.1, f0.2]
  · unfold alw fitB mor
    rw [b.2.1.1, if_neg z, a.2.1.2.2.1, b.2.1.2.2.1, f1.1, f1.2]
