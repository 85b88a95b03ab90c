/-! SEATS: the places that fit, as bits -/
def alB (C : Cs) (f wh mt : Nat) : Bool := decide (cI C 0 0 f ≤ mor C wh mt ∧ mor C wh mt ≤ cI C 0 1 f)
theorem shl1 : ∀ i, i < 10 → nI (2 ^ i) <<< (1 &&& 31 : Int32) = nI (2 ^ (i + 1)) := by decide +kernel
theorem pF_ok (C : Cs) (f wh : Nat) : ∀ (L : List Nat) (i acc : Nat), i + L.length ≤ 10 → ∃ X, pF C f wh L (nI acc) (nI (2 ^ i)) = nI X ∧ ∀ k, X.testBit k = (acc.testBit k || (decide (i ≤ k) && (L[k - i]?).elim false (alB C f wh)))
  | [], i, acc, _ => ⟨acc, rfl, fun k => by simp⟩
  | mt :: t, i, acc, h => by
    rw [List.length_cons] at h
    rw [pF, shl1 i (by omega)]
    have key : ∀ a : Nat, (∀ k, a.testBit k = (acc.testBit k || (decide (i = k) && alB C f wh mt))) → ∃ X, pF C f wh t (nI a) (nI (2 ^ (i + 1))) = nI X ∧ ∀ k, X.testBit k = (acc.testBit k || (decide (i ≤ k) && ((mt :: t)[k - i]?).elim false (alB C f wh))) := by
      intro a ha
      obtain ⟨X, e, hX⟩ := pF_ok C f wh t (i + 1) a (by omega)
      refine ⟨X, e, fun k => ?_⟩
      rw [hX k, ha k]
      rcases Nat.lt_trichotomy i k with c | c | c
      · rw [show k - i = (k - (i + 1)) + 1 by omega, List.getElem?_cons_succ]
        simp [show i ≠ k by omega, show i + 1 ≤ k by omega, show i ≤ k by omega]
      · rw [← c, Nat.sub_self, decide_eq_false (show ¬ i + 1 ≤ i by omega)]
        simp
      · simp [show i ≠ k by omega, show ¬ i + 1 ≤ k by omega, show ¬ i ≤ k by omega]
    by_cases c : cI C 0 0 f ≤ mor C wh mt ∧ mor C wh mt ≤ cI C 0 1 f
    · rw [if_pos c, nI_or]
      refine key _ (fun k => ?_)
      rw [or_bit, show alB C f wh mt = true from decide_eq_true c]
      simp
    · rw [if_neg c]
      refine key _ (fun k => ?_)
      rw [show alB C f wh mt = false from decide_eq_false c]
      simp
theorem pF_mk (C : Cs) (f wh : Nat) (L : List Nat) (h : L.length ≤ 10) : pF C f wh L 0 1 = nI (mkM (fun i => (L[i]?).elim false (alB C f wh)) L.length) := by
  obtain ⟨X, e, hX⟩ := pF_ok C f wh L 0 0 (by omega)
  have e2 : pF C f wh L 0 1 = nI X := e
  rw [e2]
  apply congrArg nI
  apply Nat.eq_of_testBit_eq
  intro k
  rw [hX k, mkM_bit, z_bit]
  rcases Nat.lt_or_ge k L.length with c | c
  · simp [c]
  · simp [c, List.getElem?_eq_none c, show ¬ k < L.length by omega]
