/-! THE CLASS: its store by numbers: how many of a kind, where each lies, fields of numbers, links (0 none, j + 1 the j-th of the kind), rows.
0 Fit low high. 1 Home number rate off breaks way worked broke waiting firstWaiting lastWaiting lastSending lastWage. 2 Lot number kind first last size stand home toGo lastWorked worked nextWaiting. 3 Making plates stones wheelCount bestCount bestSet. 4 Mates fitting holder settled given seen. 5 Piece number kind raw size homes state place next. 6 Sending day pieces before. 7 Wage toldOn from amount before. 8 Watch plate wheel stone isBack. 9 WatchValley pieces lots homes watches plateFit stoneFit making pieceCount lotCount homeCount watchCount sendingCount wageCount today. 20 the rows of the two Mates. 23 to 26 the rows of pieces, lots, homes, watches -/
abbrev Cs : Type := (Nat → Nat) × (Nat → Nat → Nat) × (Nat → Nat → Nat → Int32) × (Nat → Nat → Nat → Nat) × (Nat → Nat → Int32)
def cN (C : Cs) : Nat → Nat := C.1
def cA (C : Cs) : Nat → Nat → Nat := C.2.1
def cI (C : Cs) : Nat → Nat → Nat → Int32 := C.2.2.1
def cL (C : Cs) : Nat → Nat → Nat → Nat := C.2.2.2.1
def cX (C : Cs) : Nat → Nat → Int32 := C.2.2.2.2
def tgT : List (List Nat) := [[], [0, 0, 0, 0, 0, 0, 0, 0, 2, 2, 6, 7], [0, 0, 5, 5, 0, 0, 1, 0, 5, 0, 2], [4, 4], [20, 20, 20], [0, 0, 0, 0, 0, 0, 0, 5], [0, 0, 6], [0, 0, 0, 7], [5, 5, 5], [23, 24, 25, 26, 0, 0, 3]]
/-- the kind that a link leads to -/
def tgt (t k : Nat) : Nat := (tgT.getD t []).getD k 0
def rwT (t : Nat) : Nat := [5, 2, 1, 8].getD (t - 23) 0
def rwL (t : Nat) : Nat := [300, 60, 9, 100].getD (t - 23) 0
def adO (C : Cs) (t : Nat) : Nat → Option Nat
  | 0 => none
  | j + 1 => some (cA C t j)
def wI (C : Cs) (t k i : Nat) (v : Int32) : Cs := (cN C, cA C, u3 (cI C) t k i v, cL C, cX C)
def wL (C : Cs) (t k i c : Nat) : Cs := (cN C, cA C, cI C, u3 (cL C) t k i c, cX C)
def wX (C : Cs) (i j : Nat) (v : Int32) : Cs := (cN C, cA C, cI C, cL C, u2 (cX C) i j v)
/-- one more of kind t, at a -/
def wN (C : Cs) (t a : Nat) : Cs := (fun s => if s = t then cN C t + 1 else cN C s, fun s i => if s = t ∧ i = cN C t then a else cA C s i, fun s k i => if s = t ∧ i = cN C t then 0 else cI C s k i, fun s k i => if s = t ∧ i = cN C t then 0 else cL C s k i, cX C)
def cSt (C : Cs) : Prop := cN C 9 = 1 ∧ cN C 0 = 2 ∧ cN C 3 = 1 ∧ cN C 4 = 2 ∧ cN C 20 = 6 ∧ cN C 23 = 1 ∧ cN C 24 = 1 ∧ cN C 25 = 1 ∧ cN C 26 = 1
def RX (C : Cs) (S : Hp) : Prop :=
  ((∀ t i, i < cN C t → gK S (cA C t i) = some t ∧ cA C t i < gZ S) ∧ (∀ t i j, i < cN C t → j < cN C t → cA C t i = cA C t j → i = j)) ∧
  ((∀ t k i, t < 10 → i < cN C t → isRf t k = false → gI S t k (cA C t i) = cI C t k i) ∧ (∀ t k i, t < 10 → i < cN C t → isRf t k = true → gR S t k (cA C t i) = adO C (tgt t k) (cL C t k i) ∧ cL C t k i ≤ cN C (tgt t k))) ∧
  ((∀ i j, i < cN C 20 → gA S (cA C 20 i) j = cX C i j) ∧ (∀ i, i < cN C 20 → gN S (cA C 20 i) = 10)) ∧
  (∀ t, 23 ≤ t → t < 27 → cN C t = 1 ∧ gN S (cA C t 0) = rwL t ∧ ∀ j, gQ S (cA C t 0) j = adO C (rwT t) (cL C t j 0) ∧ cL C t j 0 ≤ cN C (rwT t))
section RXS
variable {C : Cs} {S : Hp}
theorem RX.k (h : RX C S) (t i : Nat) (hi : i < cN C t) : gK S (cA C t i) = some t := (h.1.1 t i hi).1
theorem RX.z (h : RX C S) (t i : Nat) (hi : i < cN C t) : cA C t i < gZ S := (h.1.1 t i hi).2
theorem RX.inj (h : RX C S) {t i j : Nat} (hi : i < cN C t) (hj : j < cN C t) (e : cA C t i = cA C t j) : i = j := h.1.2 t i j hi hj e
theorem RX.gi (h : RX C S) (t k i : Nat) (ht : t < 10) (hi : i < cN C t) (hr : isRf t k = false) : gI S t k (cA C t i) = cI C t k i := h.2.1.1 t k i ht hi hr
theorem RX.gr (h : RX C S) (t k i : Nat) (ht : t < 10) (hi : i < cN C t) (hr : isRf t k = true) : gR S t k (cA C t i) = adO C (tgt t k) (cL C t k i) := (h.2.1.2 t k i ht hi hr).1
theorem RX.lb (h : RX C S) (t k i : Nat) (ht : t < 10) (hi : i < cN C t) (hr : isRf t k = true) : cL C t k i ≤ cN C (tgt t k) := (h.2.1.2 t k i ht hi hr).2
theorem RX.g0 (h : RX C S) (t k i : Nat) (ht : t < 10) (hi : i < cN C t) (hr : isRf t k = true) (e : cL C t k i = 0) : gR S t k (cA C t i) = none := by rw [h.gr t k i ht hi hr, e]; rfl
theorem RX.g1 (h : RX C S) (t k i : Nat) (ht : t < 10) (hi : i < cN C t) (hr : isRf t k = true) {j : Nat} (e : cL C t k i = j + 1) : gR S t k (cA C t i) = some (cA C (tgt t k) j) := by rw [h.gr t k i ht hi hr, e]; rfl
theorem RX.l1 (h : RX C S) (t k i : Nat) (ht : t < 10) (hi : i < cN C t) (hr : isRf t k = true) {j : Nat} (e : cL C t k i = j + 1) : j < cN C (tgt t k) := by
  have := h.lb t k i ht hi hr
  rw [e] at this
  exact this
theorem RX.xa (h : RX C S) (i j : Nat) (hi : i < cN C 20) : gA S (cA C 20 i) j = cX C i j := h.2.2.1.1 i j hi
theorem RX.xn (h : RX C S) (i : Nat) (hi : i < cN C 20) : gN S (cA C 20 i) = 10 := h.2.2.1.2 i hi
theorem RX.qn (h : RX C S) (t : Nat) (h1 : 23 ≤ t) (h2 : t < 27) : gN S (cA C t 0) = rwL t := (h.2.2.2 t h1 h2).2.1
theorem RX.qc (h : RX C S) (t : Nat) (h1 : 23 ≤ t) (h2 : t < 27) : cN C t = 1 := (h.2.2.2 t h1 h2).1
theorem RX.qq (h : RX C S) (t : Nat) (h1 : 23 ≤ t) (h2 : t < 27) (j : Nat) : gQ S (cA C t 0) j = adO C (rwT t) (cL C t j 0) := ((h.2.2.2 t h1 h2).2.2 j).1
theorem RX.ql (h : RX C S) (t : Nat) (h1 : 23 ≤ t) (h2 : t < 27) (j : Nat) : cL C t j 0 ≤ cN C (rwT t) := ((h.2.2.2 t h1 h2).2.2 j).2
/-- the place j of a row of links -/
theorem RX.ix (h : RX C S) (t : Nat) (h1 : 23 ≤ t) (h2 : t < 27) {x : Int32} {j : Nat} (hx : x = nI j) (hj : j < rwL t) : ixO x (gN S (cA C t 0)) j := by
  refine ⟨hx, by rw [h.qn t h1 h2]; exact hj, ?_⟩
  have : rwL t ≤ 300 := by
    have : ∀ t, 23 ≤ t → t < 27 → rwL t ≤ 300 := by
      intro t a b
      rcases (show t = 23 ∨ t = 24 ∨ t = 25 ∨ t = 26 by omega) with rfl | rfl | rfl | rfl <;> decide
    exact this t h1 h2
  omega
theorem RX.ixa (h : RX C S) (i : Nat) (hi : i < cN C 20) {x : Int32} {j : Nat} (hx : x = nI j) (hj : j < 10) : ixO x (gN S (cA C 20 i)) j := ⟨hx, by rw [h.xn i hi]; exact hj, by omega⟩
theorem RX.wi (h : RX C S) (t k i : Nat) (hi : i < cN C t) (v : Int32) : RX (wI C t k i v) (sI S t k (cA C t i) v) := by
  refine ⟨h.1, ⟨fun t' k' i' ht hi' hr => ?_, h.2.1.2⟩, h.2.2.1, h.2.2.2⟩
  show u3 (gI S) t k (cA C t i) v t' k' (cA C t' i') = u3 (cI C) t k i v t' k' i'
  by_cases e : t' = t ∧ k' = k ∧ i' = i
  · obtain ⟨rfl, rfl, rfl⟩ := e
    simp [u3]
  · have e2 : ¬ (t' = t ∧ k' = k ∧ cA C t' i' = cA C t i) := by
      rintro ⟨rfl, rfl, q⟩
      exact e ⟨rfl, rfl, h.inj hi' hi q⟩
    rw [u3, u3, if_neg e, if_neg e2]
    exact h.gi t' k' i' ht hi' hr
theorem RX.wl (h : RX C S) (t k i c : Nat) (hi : i < cN C t) (hc : c ≤ cN C (tgt t k)) (ht10 : t < 10) : RX (wL C t k i c) (sR S t k (cA C t i) (adO C (tgt t k) c)) := by
  refine ⟨h.1, ⟨h.2.1.1, fun t' k' i' ht hi' hr => ?_⟩, h.2.2.1, fun s h1 h2 => ⟨h.qc s h1 h2, h.qn s h1 h2, fun j => ?_⟩⟩
  · show u3 (gR S) t k (cA C t i) (adO C (tgt t k) c) t' k' (cA C t' i') = adO C (tgt t' k') (u3 (cL C) t k i c t' k' i') ∧ u3 (cL C) t k i c t' k' i' ≤ cN C (tgt t' k')
    by_cases e : t' = t ∧ k' = k ∧ i' = i
    · obtain ⟨rfl, rfl, rfl⟩ := e
      simp [u3, hc]
    · have e2 : ¬ (t' = t ∧ k' = k ∧ cA C t' i' = cA C t i) := by
        rintro ⟨rfl, rfl, q⟩
        exact e ⟨rfl, rfl, h.inj hi' hi q⟩
      rw [u3, u3, if_neg e, if_neg e2]
      exact h.2.1.2 t' k' i' ht hi' hr
  · show gQ S (cA C s 0) j = adO C (rwT s) (u3 (cL C) t k i c s j 0) ∧ u3 (cL C) t k i c s j 0 ≤ cN C (rwT s)
    have e : ¬ (s = t ∧ j = k ∧ 0 = i) := fun q => by omega
    rw [u3, if_neg e]
    exact ⟨h.qq s h1 h2 j, h.ql s h1 h2 j⟩
theorem RX.wx (h : RX C S) (i j : Nat) (hi : i < cN C 20) (v : Int32) : RX (wX C i j v) (sA S (cA C 20 i) j v) := by
  refine ⟨h.1, h.2.1, ⟨fun i' j' hi' => ?_, h.2.2.1.2⟩, h.2.2.2⟩
  show u2 (gA S) (cA C 20 i) j v (cA C 20 i') j' = u2 (cX C) i j v i' j'
  by_cases e : i' = i ∧ j' = j
  · obtain ⟨rfl, rfl⟩ := e
    simp [u2]
  · have e2 : ¬ (cA C 20 i' = cA C 20 i ∧ j' = j) := by
      rintro ⟨q, rfl⟩
      exact e ⟨h.inj hi' hi q, rfl⟩
    rw [u2, u2, if_neg e, if_neg e2]
    exact h.xa i' j' hi'
/-- a place of a row of links is written -/
theorem RX.wq (h : RX C S) (t j c : Nat) (h1 : 23 ≤ t) (h2 : t < 27) (hc : c < cN C (rwT t)) : RX (wL C t j 0 (c + 1)) (sQ S (cA C t 0) j (some (cA C (rwT t) c))) := by
  refine ⟨h.1, ⟨h.2.1.1, fun t' k' i' ht hi' hr => ?_⟩, h.2.2.1, fun s q1 q2 => ⟨h.qc s q1 q2, h.qn s q1 q2, fun j' => ?_⟩⟩
  · show gR S t' k' (cA C t' i') = adO C (tgt t' k') (u3 (cL C) t j 0 (c + 1) t' k' i') ∧ u3 (cL C) t j 0 (c + 1) t' k' i' ≤ cN C (tgt t' k')
    have e : ¬ (t' = t ∧ k' = j ∧ i' = 0) := fun q => by omega
    rw [u3, if_neg e]
    exact h.2.1.2 t' k' i' ht hi' hr
  · show u2 (gQ S) (cA C t 0) j (some (cA C (rwT t) c)) (cA C s 0) j' = adO C (rwT s) (u3 (cL C) t j 0 (c + 1) s j' 0) ∧ u3 (cL C) t j 0 (c + 1) s j' 0 ≤ cN C (rwT s)
    by_cases e : s = t ∧ j' = j
    · obtain ⟨rfl, rfl⟩ := e
      simp [u2, u3, adO]
      exact hc
    · have e2 : ¬ (cA C s 0 = cA C t 0 ∧ j' = j) := by
        rintro ⟨q, rfl⟩
        have k1 := h.k s 0 (by rw [h.qc s q1 q2]; decide)
        have k2 := h.k t 0 (by rw [h.qc t h1 h2]; decide)
        rw [q, k2] at k1
        exact e ⟨(Option.some.inj k1).symm, rfl⟩
      have e3 : ¬ (s = t ∧ j' = j ∧ 0 = 0) := fun q => e ⟨q.1, q.2.1⟩
      rw [u2, u3, if_neg e3, if_neg e2]
      exact ⟨h.qq s q1 q2 j', h.ql s q1 q2 j'⟩
theorem adO_n {C : Cs} {t a s c : Nat} (hc : c ≤ cN C s) : adO (wN C t a) s c = adO C s c := by
  cases c with
  | zero => rfl
  | succ j =>
    show some (if s = t ∧ j = cN C t then a else cA C s j) = some (cA C s j)
    rw [if_neg (fun q => by obtain ⟨rfl, rfl⟩ := q; omega)]
theorem wN_le {C : Cs} {t a s : Nat} : cN C s ≤ cN (wN C t a) s := by
  show _ ≤ if s = t then cN C t + 1 else cN C s
  split
  · rename_i q; subst q; omega
  · exact Nat.le_refl _
/-- a new object -/
theorem RX.new (h : RX C S) (t : Nat) (ht : t < 10) : RX (wN C t (gZ S)) (sNew S t) := by
  have old : ∀ s i, i < cN (wN C t (gZ S)) s → (i < cN C s ∧ cA (wN C t (gZ S)) s i = cA C s i ∧ ¬ (s = t ∧ i = cN C t)) ∨ (s = t ∧ i = cN C t ∧ cA (wN C t (gZ S)) s i = gZ S) := by
    intro s i hi
    by_cases e : s = t ∧ i = cN C t
    · exact Or.inr ⟨e.1, e.2, if_pos e⟩
    · refine Or.inl ⟨?_, if_neg e, e⟩
      have hi : i < if s = t then cN C t + 1 else cN C s := hi
      by_cases q : s = t
      · subst q
        rw [if_pos rfl] at hi
        have : ¬ i = cN C s := fun z => e ⟨rfl, z⟩
        omega
      · rw [if_neg q] at hi
        exact hi
  have a23 : ∀ s, 23 ≤ s → s < 27 → cA (wN C t (gZ S)) s 0 = cA C s 0 ∧ cA C s 0 ≠ gZ S := by
    intro s h1 h2
    have hz := h.z s 0 (by rw [h.qc s h1 h2]; decide)
    exact ⟨if_neg (fun q => by omega), by omega⟩
  have a20 : ∀ i, i < cN (wN C t (gZ S)) 20 → i < cN C 20 ∧ cA (wN C t (gZ S)) 20 i = cA C 20 i ∧ cA C 20 i ≠ gZ S := by
    intro i hi
    have hi : i < if 20 = t then cN C t + 1 else cN C 20 := hi
    rw [if_neg (by omega)] at hi
    have hz := h.z 20 i hi
    exact ⟨hi, if_neg (fun q => by omega), by omega⟩
  refine ⟨⟨fun s i hi => ?_, fun s i j hi hj e => ?_⟩, ⟨fun s k i hs hi hr => ?_, fun s k i hs hi hr => ?_⟩, ⟨fun i j hi => ?_, fun i hi => ?_⟩, fun s h1 h2 => ⟨?_, ?_, fun j => ?_⟩⟩
  · rcases old s i hi with ⟨q1, q2, -⟩ | ⟨q1, q2, q3⟩
    · rw [q2]
      have hz := h.z s i q1
      refine ⟨?_, show cA C s i < gZ S + 1 by omega⟩
      show (if cA C s i = gZ S then some t else gK S (cA C s i)) = _
      rw [if_neg (by omega)]
      exact h.k s i q1
    · rw [q3, q1]
      refine ⟨?_, show gZ S < gZ S + 1 by omega⟩
      show (if gZ S = gZ S then some t else _) = _
      rw [if_pos rfl]
  · rcases old s i hi with ⟨q1, q2, -⟩ | ⟨q1, q2, q3⟩
    · rcases old s j hj with ⟨p1, p2, -⟩ | ⟨p1, p2, p3⟩
      · rw [q2, p2] at e
        exact h.inj q1 p1 e
      · rw [q2, p3] at e
        have := h.z s i q1
        omega
    · rcases old s j hj with ⟨p1, p2, -⟩ | ⟨p1, p2, p3⟩
      · rw [q3, p2] at e
        have := h.z s j p1
        omega
      · omega
  · show (if cA (wN C t (gZ S)) s i = gZ S then 0 else gI S s k (cA (wN C t (gZ S)) s i)) = if s = t ∧ i = cN C t then 0 else cI C s k i
    rcases old s i hi with ⟨q1, q2, q3⟩ | ⟨q1, q2, q3⟩
    · rw [q2, if_neg q3, if_neg (by have := h.z s i q1; omega)]
      exact h.gi s k i hs q1 hr
    · rw [q3, if_pos rfl, if_pos ⟨q1, q2⟩]
  · show (if cA (wN C t (gZ S)) s i = gZ S then none else gR S s k (cA (wN C t (gZ S)) s i)) = adO (wN C t (gZ S)) (tgt s k) (if s = t ∧ i = cN C t then 0 else cL C s k i) ∧ (if s = t ∧ i = cN C t then 0 else cL C s k i) ≤ cN (wN C t (gZ S)) (tgt s k)
    rcases old s i hi with ⟨q1, q2, q3⟩ | ⟨q1, q2, q3⟩
    · rw [q2, if_neg q3, if_neg (by have := h.z s i q1; omega)]
      have hb := h.lb s k i hs q1 hr
      rw [adO_n hb]
      exact ⟨h.gr s k i hs q1 hr, Nat.le_trans hb wN_le⟩
    · rw [q3, if_pos rfl, if_pos ⟨q1, q2⟩]
      exact ⟨rfl, Nat.zero_le _⟩
  · obtain ⟨q1, q2, q3⟩ := a20 i hi
    rw [q2]
    exact h.xa i j q1
  · obtain ⟨q1, q2, q3⟩ := a20 i hi
    rw [q2]
    exact h.xn i q1
  · show (if s = t then cN C t + 1 else cN C s) = 1
    rw [if_neg (by omega)]
    exact h.qc s h1 h2
  · rw [(a23 s h1 h2).1]
    exact h.qn s h1 h2
  · rw [(a23 s h1 h2).1]
    show gQ S (cA C s 0) j = adO (wN C t (gZ S)) (rwT s) (if s = t ∧ 0 = cN C t then 0 else cL C s j 0) ∧ (if s = t ∧ 0 = cN C t then 0 else cL C s j 0) ≤ cN (wN C t (gZ S)) (rwT s)
    rw [if_neg (fun q => by omega)]
    have hb := h.ql s h1 h2 j
    rw [adO_n hb]
    exact ⟨h.qq s h1 h2 j, Nat.le_trans hb wN_le⟩
end RXS
