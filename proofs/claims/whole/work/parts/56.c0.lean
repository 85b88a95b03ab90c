/-! THE CLASS: a new one, by numbers -/
def cN0 (t : Nat) : Nat := [2, 0, 0, 1, 2, 0, 0, 0, 0, 1, 0, 0, 0, 0, 0, 0, 0, 0, 0, 0, 6, 0, 0, 1, 1, 1, 1].getD t 0
def aT0 (t i : Nat) : Nat := (([[5, 6], [], [], [7], [8, 12], [], [], [], [], [0], [], [], [], [], [], [], [], [], [], [], [9, 10, 11, 13, 14, 15], [], [], [1], [2], [3], [4]] : List (List Nat)).getD t []).getD i 99
def cL0 (t k i : Nat) : Nat := if t = 9 ∧ i = 0 then ([1, 1, 1, 1, 1, 2, 1] : List Nat).getD k 0 else if t = 3 ∧ i = 0 then ([1, 2] : List Nat).getD k 0 else if t = 4 ∧ k < 3 ∧ i < 2 then 3 * i + k + 1 else 0
def C0 (x0 : Nat) : Cs := (cN0, fun t i => x0 + aT0 t i, fun _ _ _ => 0, cL0, fun _ _ => 0)
theorem cN0_t {t i : Nat} (h : i < cN0 t) : t < 27 := by
  rcases Nat.lt_or_ge t 27 with q | q
  · exact q
  · obtain ⟨u, rfl⟩ : ∃ u, t = u + 27 := ⟨t - 27, by omega⟩
    have : cN0 (u + 27) = 0 := rfl
    omega
theorem cN0_6 : ∀ t, t < 27 → cN0 t ≤ 6 := by decide +kernel
theorem x0_k : ∀ t, t < 27 → ∀ i, i < 6 → i < cN0 t → kT (aT0 t i) = t ∧ aT0 t i ≤ 15 := by decide +kernel
theorem all_lt {n : Nat} {p : Nat → Bool} (h : (List.range n).all p = true) (i : Nat) (hi : i < n) : p i = true := List.all_eq_true.mp h i (List.mem_range.mpr hi)
theorem x0_jB : (List.range 27).all (fun t => (List.range 6).all (fun i => (List.range 6).all (fun j => !(decide (i < cN0 t) && decide (j < cN0 t) && decide (aT0 t i = aT0 t j)) || decide (i = j)))) = true := by decide +kernel
theorem x0_j (t : Nat) (ht : t < 27) (i : Nat) (hi : i < 6) (j : Nat) (hj : j < 6) (h1 : i < cN0 t) (h2 : j < cN0 t) (h3 : aT0 t i = aT0 t j) : i = j := by
  have := all_lt (all_lt (all_lt x0_jB t ht) i hi) j hj
  simpa [h1, h2, h3] using this
def cLo (t : Nat) : Nat → Option Nat
  | 0 => none
  | j + 1 => some (aT0 t j)
theorem x0_lB : (List.range 10).all (fun t => (List.range 15).all (fun k => (List.range 6).all (fun i => !(decide (i < cN0 t) && isRf t k) || (decide (lkS LX (aT0 t i) k = cLo (tgt t k) (cL0 t k i)) && decide (cL0 t k i ≤ cN0 (tgt t k)))))) = true := by decide +kernel
theorem x0_l (t : Nat) (ht : t < 10) (k : Nat) (hk : k < 15) (i : Nat) (hi : i < 6) (h1 : i < cN0 t) (h2 : isRf t k = true) : lkS LX (aT0 t i) k = cLo (tgt t k) (cL0 t k i) ∧ cL0 t k i ≤ cN0 (tgt t k) := by
  have := all_lt (all_lt (all_lt x0_lB t ht) k hk) i hi
  simpa [h1, h2] using this
theorem rf_15 : ∀ t, t < 10 → ∀ k, isRf t k = true → k < 15 := by
  intro t ht k hk
  rcases Nat.lt_or_ge k 15 with q | q
  · exact q
  · obtain ⟨u, rfl⟩ : ∃ u, k = u + 15 := ⟨k - 15, by omega⟩
    rcases (show t = 0 ∨ t = 1 ∨ t = 2 ∨ t = 3 ∨ t = 4 ∨ t = 5 ∨ t = 6 ∨ t = 7 ∨ t = 8 ∨ t = 9 by omega) with rfl | rfl | rfl | rfl | rfl | rfl | rfl | rfl | rfl | rfl
    · exact absurd ((show isRf 0 (u + 15) = false from rfl).symm.trans hk) (by decide)
    · exact absurd ((show isRf 1 (u + 15) = false from rfl).symm.trans hk) (by decide)
    · exact absurd ((show isRf 2 (u + 15) = false from rfl).symm.trans hk) (by decide)
    · exact absurd ((show isRf 3 (u + 15) = false from rfl).symm.trans hk) (by decide)
    · exact absurd ((show isRf 4 (u + 15) = false from rfl).symm.trans hk) (by decide)
    · exact absurd ((show isRf 5 (u + 15) = false from rfl).symm.trans hk) (by decide)
    · exact absurd ((show isRf 6 (u + 15) = false from rfl).symm.trans hk) (by decide)
    · exact absurd ((show isRf 7 (u + 15) = false from rfl).symm.trans hk) (by decide)
    · exact absurd ((show isRf 8 (u + 15) = false from rfl).symm.trans hk) (by decide)
    · exact absurd ((show isRf 9 (u + 15) = false from rfl).symm.trans hk) (by decide)
theorem x0_n : ∀ i, i < 6 → lT (aT0 20 i) = 10 := by decide +kernel
theorem x0_q : ∀ t, t < 27 → 23 ≤ t → cN0 t = 1 ∧ lT (aT0 t 0) = rwL t := by decide +kernel
theorem RX_0 {x0 : Nat} {S : Hp} (h : XI x0 15 LX S) : RX (C0 x0) S := by
  obtain ⟨hz, h⟩ := h
  have f : ∀ t i, i < cN0 t → kT (aT0 t i) = t ∧ aT0 t i ≤ 15 := fun t i hi => x0_k t (cN0_t hi) i (by have := cN0_6 t (cN0_t hi); omega) hi
  refine ⟨⟨fun t i hi => ?_, fun t i j hi hj e => ?_⟩, ⟨fun t k i ht hi hr => ?_, fun t k i ht hi hr => ?_⟩, ⟨fun i j hi => ?_, fun i hi => ?_⟩, fun t h1 h2 => ⟨(x0_q t h2 h1).1, ?_, fun j => ⟨?_, ?_⟩⟩⟩
  · obtain ⟨a, b⟩ := f t i hi
    have := h (aT0 t i) b
    refine ⟨?_, show x0 + aT0 t i < gZ S by omega⟩
    show gK S (x0 + aT0 t i) = some t
    rw [this.1.1, a]
  · have e : x0 + aT0 t i = x0 + aT0 t j := e
    have b := cN0_6 t (cN0_t (show i < cN0 t from hi))
    have hi : i < cN0 t := hi
    have hj : j < cN0 t := hj
    exact x0_j t (cN0_t hi) i (by omega) j (by omega) hi hj (by omega)
  · obtain ⟨a, b⟩ := f t i hi
    have := (h (aT0 t i) b).2.1 (by rw [a]; omega) k
    rw [a] at this
    exact this
  · obtain ⟨a, b⟩ := f t i hi
    have := (h (aT0 t i) b).2.2.1 (by rw [a]; omega) k
    rw [a] at this
    have b6 := cN0_6 t (cN0_t (show i < cN0 t from hi))
    have hi : i < cN0 t := hi
    obtain ⟨q1, q2⟩ := x0_l t ht k (rf_15 t ht k hr) i (by omega) hi hr
    refine ⟨?_, q2⟩
    show gR S t k (x0 + aT0 t i) = adO (C0 x0) (tgt t k) (cL0 t k i)
    rw [this, q1]
    cases cL0 t k i with
    | zero => rfl
    | succ j => rfl
  · obtain ⟨a, b⟩ := f 20 i hi
    exact ((h (aT0 20 i) b).2.2.2 (by rw [a]; omega) j).1
  · obtain ⟨a, b⟩ := f 20 i hi
    have hi : i < 6 := hi
    have := (h (aT0 20 i) b).1.2 (by rw [a]; omega)
    exact this.trans (x0_n i hi)
  · have c := x0_q t h2 h1
    obtain ⟨a, b⟩ := f t 0 (by rw [c.1]; decide)
    exact ((h (aT0 t 0) b).1.2 (by rw [a]; omega)).trans c.2
  · have c := x0_q t h2 h1
    obtain ⟨a, b⟩ := f t 0 (by rw [c.1]; decide)
    have e : cL0 t j 0 = 0 := by
      unfold cL0
      rw [if_neg (fun q => by omega), if_neg (fun q => by omega), if_neg (fun q => by omega)]
    show gQ S (x0 + aT0 t 0) j = adO (C0 x0) (rwT t) (cL0 t j 0)
    rw [e]
    exact ((h (aT0 t 0) b).2.2.2 (by rw [a]; omega) j).2
  · have e : cL0 t j 0 = 0 := by
      unfold cL0
      rw [if_neg (fun q => by omega), if_neg (fun q => by omega), if_neg (fun q => by omega)]
    show cL0 t j 0 ≤ _
    rw [e]
    exact Nat.zero_le _
theorem FX_0 (x0 : Nat) : FX (C0 x0) := by
  refine ⟨⟨rfl, rfl, rfl, rfl, rfl⟩, ⟨rfl, rfl, rfl, rfl, rfl, rfl, rfl⟩, ⟨rfl, rfl⟩, fun k i hk hi => ?_⟩
  show cL0 4 k i = _
  unfold cL0
  rw [if_neg (fun q => by omega), if_neg (fun q => by omega), if_pos ⟨rfl, hk, hi⟩]
