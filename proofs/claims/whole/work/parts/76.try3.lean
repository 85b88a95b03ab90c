/-! SEATS: the best set -/
def Ext (mb ws i t : Nat) : Prop := t < 2 ^ mb ∧ ∀ k, k < i → t.testBit k = ws.testBit k
def gdA (Fp Fs : Nat → Nat) (t : Nat) : Prop := MtA Fp 0 t ∧ MtA Fs 0 t
def Bst (b : Option Nat) (r : Int32 × Int32) : Prop := match b with
  | none => r.1 = -1
  | some B => B < 1024 ∧ r = (nI (bc B), nI B)
/-- how many a best has; none has fewer than any -/
def bL (b : Option Nat) (n : Nat) : Prop := match b with
  | none => True
  | some B => bc B < n
def Bp (Fp Fs : Nat → Nat) (mb ws i : Nat) (b b' : Option Nat) : Prop := (b' = b ∧ ∀ t, Ext mb ws i t → gdA Fp Fs t → ∃ B, b = some B ∧ bc t ≤ bc B) ∨ ∃ B, b' = some B ∧ Ext mb ws i B ∧ gdA Fp Fs B ∧ bL b (bc B) ∧ ∀ t, Ext mb ws i t → gdA Fp Fs t → nob t B
theorem Ext_s {mb ws i t : Nat} (hws : ∀ k, i ≤ k → ws.testBit k = false) (h : Ext mb ws i t) : Ext mb (ws ||| 2 ^ i) (i + 1) t ∨ Ext mb ws (i + 1) t := by
  cases c : t.testBit i with
  | true =>
    refine Or.inl ⟨h.1, fun k hk => ?_⟩
    rw [or_bit]
    by_cases e : k = i
    · rw [e, c]; simp
    · rw [h.2 k (by omega)]
      simp [Ne.symm e]
  | false =>
    refine Or.inr ⟨h.1, fun k hk => ?_⟩
    by_cases e : k = i
    · rw [e, c, hws i (Nat.le_refl _)]
    · exact h.2 k (by omega)
theorem Ext_1 {mb ws i t : Nat} (h : Ext mb (ws ||| 2 ^ i) (i + 1) t) : Ext mb ws i t := ⟨h.1, fun k hk => by rw [h.2 k (by omega), or_bit]; simp [show i ≠ k by omega]⟩
theorem Ext_0 {mb ws i t : Nat} (h : Ext mb ws (i + 1) t) : Ext mb ws i t := ⟨h.1, fun k hk => h.2 k (by omega)⟩
theorem Ext_ahd {mb ws i t u : Nat} (hws : ∀ k, i ≤ k → ws.testBit k = false) (h : Ext mb (ws ||| 2 ^ i) (i + 1) t) (g : Ext mb ws (i + 1) u) : ahd t u := by
  refine ⟨i, ?_, ?_, fun k hk => ?_⟩
  · rw [h.2 i (Nat.lt_succ_self i), or_t]
  · rw [g.2 i (Nat.lt_succ_self i), hws i (Nat.le_refl _)]
  · rw [h.2 k (by omega), g.2 k (by omega), or_bit]
    simp [show i ≠ k by omega]
/-- with, then without -/
theorem Bp_2 {Fp Fs : Nat → Nat} {mb ws i : Nat} {b b1 b2 : Option Nat} (hws : ∀ k, i ≤ k → ws.testBit k = false) (h1 : Bp Fp Fs mb (ws ||| 2 ^ i) (i + 1) b b1) (h2 : Bp Fp Fs mb ws (i + 1) b1 b2) : Bp Fp Fs mb ws i b b2 := by
  rcases h1 with ⟨e1, a1⟩ | ⟨B1, e1, x1, g1, l1, n1⟩
  · rw [e1] at h2
    rcases h2 with ⟨e2, a2⟩ | ⟨B2, e2, x2, g2, l2, n2⟩
    · exact Or.inl ⟨e2, fun t ht gt => (Ext_s hws ht).elim (fun z => a1 t z gt) (fun z => a2 t z gt)⟩
    · refine Or.inr ⟨B2, e2, Ext_0 x2, g2, l2, fun t ht gt => (Ext_s hws ht).elim (fun z => ?_) (fun z => n2 t z gt)⟩
      obtain ⟨B, eB, lt⟩ := a1 t z gt
      rw [eB] at l2
      have l2 : bc B < bc B2 := l2
      exact Or.inl (by omega)
  · rw [e1] at h2
    rcases h2 with ⟨e2, a2⟩ | ⟨B2, e2, x2, g2, l2, n2⟩
    · refine Or.inr ⟨B1, e2, Ext_1 x1, g1, l1, fun t ht gt => (Ext_s hws ht).elim (fun z => n1 t z gt) (fun z => ?_)⟩
      obtain ⟨B, eB, lt⟩ := a2 t z gt
      cases eB
      rcases Nat.lt_or_ge (bc t) (bc B1) with c | c
      · exact Or.inl c
      · exact Or.inr ⟨by omega, Or.inr (Ext_ahd hws x1 z)⟩
    · have l2 : bc B1 < bc B2 := l2
      refine Or.inr ⟨B2, e2, Ext_0 x2, g2, ?_, fun t ht gt => (Ext_s hws ht).elim (fun z => ?_) (fun z => n2 t z gt)⟩
      · cases b with
        | none => trivial
        | some B =>
          have l1 : bc B < bc B1 := l1
          show bc B < bc B2
          omega
      · have := n1 t z gt
        refine Or.inl ?_
        rcases this with c | c
        · omega
        · omega
theorem bc_or2 {ws i : Nat} (hi : i < 10) (hws : ∀ k, i ≤ k → ws.testBit k = false) : bc (ws ||| 2 ^ i) = bc ws + 1 := bc_or hi (hws i (Nat.le_refl _))
/-- who agrees with ws below i has not many more -/
theorem Ext_bc {mb ws i t : Nat} (hmb : mb ≤ 10) (hi : i ≤ mb) (hws : ∀ k, i ≤ k → ws.testBit k = false) (h : Ext mb ws i t) : bc t ≤ bc ws + (mb - i) := by
  have key : ∀ n, cn t.testBit n ≤ cn ws.testBit n + ((if n ≤ mb then n else mb) - i) := by
    intro n
    induction n with
    | zero => exact Nat.zero_le _
    | succ n ih =>
      by_cases c : t.testBit n = true
      · rw [cn_y c]
        have hn : n < mb := by
          rcases Nat.lt_or_ge n mb with z | z
          · exact z
          · rw [Nat.testBit_lt_two_pow (Nat.lt_of_lt_of_le h.1 (Nat.pow_le_pow_right (by decide) z))] at c
            cases c
        rw [if_pos (by omega)] at ih
        rw [if_pos (by omega)]
        rcases Nat.lt_or_ge n i with z | z
        · have : ws.testBit n = true := by rw [← h.2 n z]; exact c
          rw [cn_y this]
          omega
        · have : ¬ ws.testBit n = true := by rw [hws n z]; decide
          rw [cn_n this]
          omega
      · rw [cn_n c]
        have m : cn ws.testBit n ≤ cn ws.testBit (n + 1) := by
          by_cases d : ws.testBit n = true
          · rw [cn_y d]; omega
          · rw [cn_n d]; omega
        have e : (if n ≤ mb then n else mb) ≤ if n + 1 ≤ mb then n + 1 else mb := by
          split <;> split <;> omega
        omega
  have := key 10
  by_cases c : 10 ≤ mb
  · rw [if_pos c] at this
    have : mb = 10 := by omega
    show cn t.testBit 10 ≤ cn ws.testBit 10 + (mb - i)
    omega
  · rw [if_neg c] at this
    exact this
