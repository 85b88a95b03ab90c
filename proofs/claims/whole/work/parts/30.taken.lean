/-! the reference: taken: what goes with what -/
def fitb (M : Ms) (p q k : Nat) : Bool := decide (M 36 k ≤ M 1 p - M 1 q) && decide (M 1 p - M 1 q ≤ M 37 k)
theorem fitb_iff {M : Ms} {p q k : Nat} : fitb M p q k = true ↔ fitB M p q k := by simp [fitb, fitB]
/-- the places below n that are so -/
def mkM (p : Nat → Bool) : Nat → Nat
  | 0 => 0
  | n + 1 => mkM p n ||| (if p n = true then 2 ^ n else 0)
theorem mkM_bit (p : Nat → Bool) (i : Nat) : ∀ n, (mkM p n).testBit i = (decide (i < n) && p i)
  | 0 => by simp [mkM]
  | n + 1 => by
    rw [mkM, Nat.testBit_or, mkM_bit p i n]
    by_cases h : p n = true
    · rw [if_pos h, Nat.testBit_two_pow]
      by_cases hi : n = i
      · subst hi; simp [h]
      · have e : decide (i < n + 1) = decide (i < n) := by
          apply decide_eq_decide.mpr
          omega
        simp [hi, e]
    · rw [if_neg h]
      by_cases hi : n = i
      · subst hi; simp [h]
      · have e : decide (i < n + 1) = decide (i < n) := by
          apply decide_eq_decide.mpr
          omega
        simp [e]
theorem mkM_lt (p : Nat → Bool) : ∀ n, n ≤ 10 → mkM p n < 1024
  | 0, _ => (by decide : 0 < 1024)
  | n + 1, h => by
    rw [mkM]
    refine Nat.or_lt_two_pow (n := 10) (mkM_lt p n (by omega)) ?_
    split
    · exact p_lt (by omega)
    · decide
theorem mkM_cong {p q : Nat → Bool} : ∀ {n : Nat}, (∀ i, i < n → p i = q i) → mkM p n = mkM q n
  | 0, _ => rfl
  | n + 1, h => by rw [mkM, mkM, mkM_cong (fun i hi => h i (by omega)), h n (by omega)]
/-- the piece at place i of lot l -/
def prN (M : Ms) (l i : Nat) : Nat := pN (M 8 (300 * l + i))
def gPl (M : Ms) (a b ma w : Nat) : Nat := mkM (fun i => fitb M (prN M a i) (prN M b w) 0) ma
def gSt (M : Ms) (b c mc w : Nat) : Nat := mkM (fun i => fitb M (prN M b w) (prN M c i) 1) mc
def mGw (M : Ms) (a b c ma mc : Nat) : Nat → Ms
  | 0 => M
  | w + 1 => u2 (u2 (mGw M a b c ma mc w) 42 w (nI (gPl M a b ma w))) 42 (10 + w) (nI (gSt M b c mc w))
theorem mGw_ot (M : Ms) (a b c ma mc f i : Nat) (hf : f ≠ 42) : ∀ w, mGw M a b c ma mc w f i = M f i
  | 0 => rfl
  | w + 1 => by rw [mGw, u2_ne hf, u2_ne hf, mGw_ot M a b c ma mc f i hf w]
theorem mGw_0 (M : Ms) (a b c ma mc v : Nat) : ∀ w, w ≤ 10 → v < w → mGw M a b c ma mc w 42 v = nI (gPl M a b ma v)
  | 0, _, h => absurd h (Nat.not_lt_zero _)
  | w + 1, hw, h => by
    rw [mGw]
    by_cases hv : v = w
    · subst hv
      simp [u2]
    · have h1 := mGw_0 M a b c ma mc v w (by omega) (by omega)
      have : v ≠ 10 + w := by omega
      simp [u2, hv, this, h1]
theorem mGw_1 (M : Ms) (a b c ma mc v : Nat) : ∀ w, w ≤ 10 → v < w → mGw M a b c ma mc w 42 (10 + v) = nI (gSt M b c mc v)
  | 0, _, h => absurd h (Nat.not_lt_zero _)
  | w + 1, hw, h => by
    rw [mGw]
    by_cases hv : v = w
    · subst hv
      simp [u2]
    · have h1 := mGw_1 M a b c ma mc v w (by omega) (by omega)
      have h2 : 10 + v ≠ w := by omega
      simp [u2, hv, h2, h1]
/-! which set stands first -/
theorem xor0 {a b : Nat} (h : a ^^^ b = 0) : a = b := by
  apply Nat.eq_of_testBit_eq
  intro i
  have h1 : (a ^^^ b).testBit i = false := by rw [h]; simp
  rw [Nat.testBit_xor] at h1
  simpa using h1
def ahd (a b : Nat) : Prop := ∃ d, a.testBit d = true ∧ b.testBit d = false ∧ ∀ j, j < d → a.testBit j = b.testBit j
theorem ahd_tr {a b c : Nat} (h1 : ahd a b) (h2 : ahd b c) : ahd a c := by
  obtain ⟨d, x1, x2, x3⟩ := h1
  obtain ⟨e, y1, y2, y3⟩ := h2
  rcases Nat.lt_trichotomy d e with h | h | h
  · exact ⟨d, x1, by rw [← y3 d h]; exact x2, fun j hj => (x3 j hj).trans (y3 j (by omega))⟩
  · subst h
    rw [x2] at y1
    cases y1
  · exact ⟨e, by rw [x3 e h]; exact y1, y2, fun j hj => (x3 j (by omega)).trans (y3 j hj)⟩
set_option maxRecDepth 100000 in
theorem tz_lo : ∀ x, x < 1024 → ∀ j, j < tz x → x.testBit j = false := by decide +kernel
theorem ahd_or {a b : Nat} (ha : a < 1024) (hb : b < 1024) (hne : a ≠ b) : (a.testBit (tz (a ^^^ b)) = true ∧ ahd a b) ∨ (a.testBit (tz (a ^^^ b)) = false ∧ ahd b a) := by
  have hx : a ^^^ b < 1024 := x_lt ha hb
  have hp : 0 < a ^^^ b := by
    rcases Nat.eq_zero_or_pos (a ^^^ b) with z | z
    · exact absurd (xor0 z) hne
    · exact z
  obtain ⟨-, hbit⟩ := tz_ok _ hx hp
  have hlo := tz_lo _ hx
  rw [Nat.testBit_xor] at hbit
  have hag : ∀ j, j < tz (a ^^^ b) → a.testBit j = b.testBit j := fun j hj => by
    have := hlo j hj
    rw [Nat.testBit_xor] at this
    simpa using this
  cases hA : a.testBit (tz (a ^^^ b)) with
  | true =>
    rw [hA] at hbit
    exact Or.inl ⟨rfl, _, hA, by simpa using hbit, hag⟩
  | false =>
    rw [hA] at hbit
    exact Or.inr ⟨rfl, _, by simpa using hbit, hA, fun j hj => (hag j hj).symm⟩
theorem ahd_ne {a b : Nat} (h : ahd a b) : a ≠ b := fun z => by
  obtain ⟨d, x1, x2, -⟩ := h
  rw [z, x2] at x1
  cases x1
theorem ahd_as {a b : Nat} (h : ahd a b) (h2 : ahd b a) : False := ahd_ne (ahd_tr h h2) rfl
/-- t is no better than B -/
def nob (t B : Nat) : Prop := bc t < bc B ∨ (bc t = bc B ∧ (t = B ∨ ahd B t))
theorem ahI {a b : Nat} (ha : a < 1024) (hb : b < 1024) : (¬ (nI a ^^^ nI b) = 0 ∧ ¬ (nI a &&& (nI a ^^^ nI b) &&& -(nI a ^^^ nI b)) = 0) ↔ ahd a b := by
  have hx : a ^^^ b < 1024 := x_lt ha hb
  rw [nI_xor]
  by_cases hne : a = b
  · subst hne
    constructor
    · intro h
      exact absurd (show nI (a ^^^ a) = 0 by rw [Nat.xor_self]; rfl) h.1
    · intro h
      exact absurd rfl (ahd_ne h)
  · have hp : 0 < a ^^^ b := by
      rcases Nat.eq_zero_or_pos (a ^^^ b) with z | z
      · exact absurd (xor0 z) hne
      · exact z
    have e : nI a &&& nI (a ^^^ b) &&& -(nI (a ^^^ b)) = nI (a &&& 2 ^ tz (a ^^^ b)) := by
      rw [Int32.and_assoc, lowb _ hx hp, nI_and]
    rw [e]
    have hlt : a &&& 2 ^ tz (a ^^^ b) < 2147483648 := by
      have := Nat.and_le_left (n := a) (m := 2 ^ tz (a ^^^ b))
      omega
    have e2 : nI (a &&& 2 ^ tz (a ^^^ b)) = 0 ↔ a.testBit (tz (a ^^^ b)) = false := by
      rw [← and_p]
      exact nI_eq hlt (by decide)
    rw [e2]
    rcases ahd_or ha hb hne with ⟨q1, q2⟩ | ⟨q1, q2⟩
    · exact ⟨fun _ => q2, fun _ => ⟨nI_ne0 hp (by omega), by rw [q1]; simp⟩⟩
    · exact ⟨fun z => absurd q1 z.2, fun z => (ahd_as z q2).elim⟩
