/-! THE CLASS: a new one -/
def kT (c : Nat) : Nat := [9, 23, 24, 25, 26, 0, 0, 3, 4, 20, 20, 20, 4, 20, 20, 20].getD c 99
def lT (c : Nat) : Nat := [0, 300, 60, 9, 100, 0, 0, 0, 0, 10, 10, 10, 0, 10, 10, 10].getD c 0
def lkS : List (Nat × Nat × Nat) → Nat → Nat → Option Nat
  | [], _, _ => none
  | q :: t, c, k => if c = q.1 ∧ k = q.2.1 then some q.2.2 else lkS t c k
/-- the cells that stand so far, and the links set -/
def XI (x0 n : Nat) (L : List (Nat × Nat × Nat)) (S : Hp) : Prop := gZ S = x0 + 1 + n ∧ ∀ c, c ≤ n → (gK S (x0 + c) = some (kT c) ∧ (20 ≤ kT c → gN S (x0 + c) = lT c)) ∧ (kT c < 20 → ∀ k, gI S (kT c) k (x0 + c) = 0) ∧ (kT c < 20 → ∀ k, gR S (kT c) k (x0 + c) = (lkS L c k).map (fun d => x0 + d)) ∧ (20 ≤ kT c → ∀ j, gA S (x0 + c) j = 0 ∧ gQ S (x0 + c) j = none)
theorem XI.k {x0 n : Nat} {L : List (Nat × Nat × Nat)} {S : Hp} (h : XI x0 n L S) (c : Nat) (hc : c ≤ n) : gK S (x0 + c) = some (kT c) := (h.2 c hc).1.1
theorem XI.new {x0 n : Nat} {L : List (Nat × Nat × Nat)} {S : Hp} (h : XI x0 n L S) (t : Nat) (ht : kT (n + 1) = t) (ht2 : t < 20) (hL : ∀ k, lkS L (n + 1) k = none) : XI x0 (n + 1) L (sNew S t) := by
  obtain ⟨hz, h⟩ := h
  refine ⟨show gZ S + 1 = _ by omega, fun c hc => ?_⟩
  by_cases e : c = n + 1
  · subst e
    have ez : x0 + (n + 1) = gZ S := by omega
    refine ⟨⟨?_, fun q => by omega⟩, fun q k => ?_, fun q k => ?_, fun q => by omega⟩
    · show (if x0 + (n + 1) = gZ S then some t else _) = _
      rw [if_pos ez, ht]
    · show (if x0 + (n + 1) = gZ S then 0 else _) = _
      rw [if_pos ez]
    · rw [hL k]
      show (if x0 + (n + 1) = gZ S then none else _) = _
      rw [if_pos ez]
      rfl
  · have ez : x0 + c ≠ gZ S := by omega
    obtain ⟨⟨a1, a2⟩, a3, a4, a5⟩ := h c (by omega)
    refine ⟨⟨?_, a2⟩, fun q k => ?_, fun q k => ?_, a5⟩
    · show (if x0 + c = gZ S then some t else gK S (x0 + c)) = _
      rw [if_neg ez]; exact a1
    · show (if x0 + c = gZ S then 0 else gI S (kT c) k (x0 + c)) = _
      rw [if_neg ez]; exact a3 q k
    · show (if x0 + c = gZ S then none else gR S (kT c) k (x0 + c)) = _
      rw [if_neg ez]; exact a4 q k
theorem XI.put {x0 n : Nat} {L : List (Nat × Nat × Nat)} {S : Hp} (h : XI x0 n L S) (c k d : Nat) {t a v : Nat} (hc : c ≤ n) (ht : kT c = t) (ha : a = x0 + c) (hv : v = x0 + d) : XI x0 n ((c, k, d) :: L) (sR S t k a (some v)) := by
  obtain ⟨hz, h⟩ := h
  subst ht ha hv
  refine ⟨hz, fun c' hc' => ?_⟩
  obtain ⟨a1, a3, a4, a5⟩ := h c' hc'
  refine ⟨a1, a3, fun q0 k' => ?_, a5⟩
  show u3 (gR S) (kT c) k (x0 + c) (some (x0 + d)) (kT c') k' (x0 + c') = ((if c' = c ∧ k' = k then some d else lkS L c' k')).map (fun d => x0 + d)
  unfold u3
  by_cases e : c' = c ∧ k' = k
  · rw [if_pos ⟨by rw [e.1], e.2, by rw [e.1]⟩, if_pos e]
    rfl
  · rw [if_neg (fun q => e ⟨by omega, q.2.1⟩), if_neg e]
    exact a4 q0 k'
theorem XI.arr {x0 n : Nat} {L : List (Nat × Nat × Nat)} {S : Hp} (h : XI x0 n L S) (t z : Nat) (ht : kT (n + 1) = t) (hz2 : lT (n + 1) = z) (ht2 : 20 ≤ t) : XI x0 (n + 1) L (sArr S t z) := by
  obtain ⟨hz, h⟩ := h
  refine ⟨show gZ S + 1 = _ by omega, fun c hc => ?_⟩
  by_cases e : c = n + 1
  · subst e
    have ez : x0 + (n + 1) = gZ S := by omega
    refine ⟨⟨?_, fun q => ?_⟩, fun q k => by omega, fun q k => by omega, fun q j => ⟨?_, ?_⟩⟩
    · show (if x0 + (n + 1) = gZ S then some t else _) = _
      rw [if_pos ez, ht]
    · show (if x0 + (n + 1) = gZ S then z else _) = _
      rw [if_pos ez, hz2]
    · show (if x0 + (n + 1) = gZ S then 0 else _) = _
      rw [if_pos ez]
    · show (if x0 + (n + 1) = gZ S then none else _) = _
      rw [if_pos ez]
  · have ez : x0 + c ≠ gZ S := by omega
    obtain ⟨⟨a1, a2⟩, a3, a4, a5⟩ := h c (by omega)
    refine ⟨⟨?_, fun q => ?_⟩, a3, a4, fun q j => ⟨?_, ?_⟩⟩
    · show (if x0 + c = gZ S then some t else gK S (x0 + c)) = _
      rw [if_neg ez]; exact a1
    · show (if x0 + c = gZ S then z else gN S (x0 + c)) = _
      rw [if_neg ez]; exact a2 q
    · show (if x0 + c = gZ S then 0 else gA S (x0 + c) j) = _
      rw [if_neg ez]; exact (a5 q j).1
    · show (if x0 + c = gZ S then none else gQ S (x0 + c) j) = _
      rw [if_neg ez]; exact (a5 q j).2
def sp_FitInit : Sp := fun as w K => ∃ a, as = [.ref a] ∧ K none w
theorem c_FitInit (l : Launch) : Ct l 1 1 0 0 sp_FitInit := by
  refine ct_jd (by decide) rfl (fun as w Po h => ?_)
  obtain ⟨a, rfl, h⟩ := h
  exact ⟨Nat.le_of_ble_eq_true rfl, jd_run cdo_1 ev0 10 z00 ⟨rfl, by decide, h⟩⟩
def sp_MatesInit : Sp := fun as w K => ∃ x0 n L c a, as = [.ref a] ∧ XI x0 n L w ∧ (c ≤ n ∧ kT c = 4 ∧ a = x0 + c) ∧ (kT (n + 1) = 20 ∧ kT (n + 1 + 1) = 20 ∧ kT (n + 1 + 1 + 1) = 20) ∧ (lT (n + 1) = 10 ∧ lT (n + 1 + 1) = 10 ∧ lT (n + 1 + 1 + 1) = 10) ∧ ∀ w', XI x0 (n + 1 + 1 + 1) ((c, 2, n + 1 + 1 + 1) :: (c, 1, n + 1 + 1) :: (c, 0, n + 1) :: L) w' → K none w'
theorem c_MatesInit (l : Launch) : Ct l 3 1 3 30 sp_MatesInit := by
  refine ct_jd (by decide) rfl (fun as w Po h => ?_)
  obtain ⟨x0, n, L, c, a, rfl, hX, ⟨hc, hk, rfl⟩, ⟨k1, k2, k3⟩, ⟨l1, l2, l3⟩, h⟩ := h
  refine ⟨Nat.le_of_ble_eq_true rfl, jd_run cdo_3 ev0 40 ⟨by decide, by decide⟩ ?_⟩
  refine ⟨rfl, by decide, 10, ⟨rfl, by decide⟩, ⟨by decide, by decide⟩, ?_⟩
  have ez := hX.1
  have hX := hX.arr 20 10 k1 l1 (by decide)
  refine ⟨(hX.k c (by omega)).trans (by rw [hk]), some (gZ w), rfl, ?_⟩
  have hX := hX.put c 0 (n + 1) (by omega) hk rfl (show gZ w = x0 + (n + 1) by omega)
  refine ⟨10, ⟨rfl, by decide⟩, ⟨by decide, by decide⟩, ?_⟩
  have ez := hX.1
  have hX := hX.arr 20 10 k2 l2 (by decide)
  refine ⟨(hX.k c (by omega)).trans (by rw [hk]), some _, rfl, ?_⟩
  have hX := hX.put c 1 (n + 1 + 1) (by omega) hk rfl (ez.trans (by omega))
  refine ⟨10, ⟨rfl, by decide⟩, ⟨by decide, by decide⟩, ?_⟩
  have ez := hX.1
  have hX := hX.arr 20 10 k3 l3 (by decide)
  refine ⟨(hX.k c (by omega)).trans (by rw [hk]), some _, rfl, ?_⟩
  exact h _ (hX.put c 2 (n + 1 + 1 + 1) (by omega) hk rfl (ez.trans (by omega)))
/-- the links of Making and its two Mates -/
def LM : List (Nat × Nat × Nat) → List (Nat × Nat × Nat) := fun L => (7, 1, 12) :: (12, 2, 15) :: (12, 1, 14) :: (12, 0, 13) :: (7, 0, 8) :: (8, 2, 11) :: (8, 1, 10) :: (8, 0, 9) :: L
def sp_MakingInit : Sp := fun as w K => ∃ x0 L a, as = [.ref a] ∧ XI x0 7 L w ∧ a = x0 + 7 ∧ (∀ c k, 7 < c → lkS L c k = none) ∧ ∀ w', XI x0 15 (LM L) w' → K none w'
theorem c_MakingInit (l : Launch) : Ct l 2 2 8 70 sp_MakingInit := by
  have hev : ∀ (k : Nat) (r : Nat × Nat × Nat × Sp), evL [(3, 1, 3, 30, sp_MatesInit)] k = some r → Ct l k r.1 r.2.1 r.2.2.1 r.2.2.2 := evL_ok (by simpa using c_MatesInit l)
  refine ct_jd (by decide) rfl (fun as w Po h => ?_)
  obtain ⟨x0, L, a, rfl, hX, rfl, hL, h⟩ := h
  have second : ∀ w2, XI x0 11 ((7, 0, 8) :: (8, 2, 11) :: (8, 1, 10) :: (8, 0, 9) :: L) w2 → Jd l 2 2 8 70 none Po 15 [(0, .ref (x0 + 7))] [] w2 4 35 := by
    intro w2 hX
    refine jd_s cdo_2 hev [] 30 ⟨by decide, by decide⟩ ⟨⟨by decide, by decide⟩, ?_⟩
    have ez := hX.1
    have hX := hX.new 4 (by decide) (by decide) (fun k => by
      show (if 12 = 7 ∧ k = 0 then some 8 else if 12 = 8 ∧ k = 2 then some 11 else if 12 = 8 ∧ k = 1 then some 10 else if 12 = 8 ∧ k = 0 then some 9 else lkS L 12 k) = none
      rw [if_neg (fun q => by omega), if_neg (fun q => by omega), if_neg (fun q => by omega), if_neg (fun q => by omega)]
      exact hL 12 k (by decide))
    refine ⟨⟨by decide, by decide, by decide⟩, rfl, x0, 12, _, 12, gZ w2, rfl, hX, ⟨by decide, by decide, by omega⟩, ⟨by decide, by decide, by decide⟩, ⟨by decide, by decide, by decide⟩, fun w3 hX3 => ?_⟩
    refine ⟨(hX3.k 7 (by decide)).trans rfl, some (gZ w2), rfl, ?_⟩
    exact h _ (hX3.put 7 1 12 (by decide) rfl rfl (show gZ w2 = x0 + 12 by omega))
  refine ⟨Nat.le_of_ble_eq_true rfl, jd_s cdo_2 hev [15] 30 ⟨by decide, by decide⟩ ⟨rfl, by decide, ⟨by decide, by decide⟩, ?_⟩⟩
  have ez := hX.1
  have hX := hX.new 4 (by decide) (by decide) (fun k => hL 8 k (by decide))
  refine ⟨⟨by decide, by decide, by decide⟩, rfl, x0, 8, L, 8, gZ w, rfl, hX, ⟨by decide, by decide, by omega⟩, ⟨by decide, by decide, by decide⟩, ⟨by decide, by decide, by decide⟩, fun w3 hX3 => ?_⟩
  refine ⟨(hX3.k 7 (by decide)).trans rfl, some (gZ w), rfl, ?_⟩
  exact second _ (hX3.put 7 0 8 (by decide) rfl rfl (show gZ w = x0 + 8 by omega))
def LX : List (Nat × Nat × Nat) := (0, 6, 7) :: LM [(0, 5, 6), (0, 4, 5), (0, 3, 4), (0, 2, 3), (0, 1, 2), (0, 0, 1)]
def sp_xinit : Sp := fun as w K => ∃ x0, as = [.ref x0] ∧ XI x0 0 [] w ∧ ∀ w', XI x0 15 LX w' → K none w'
theorem c_xinit (l : Launch) : Ct l 0 3 15 548 sp_xinit := by
  have hev : ∀ (k : Nat) (r : Nat × Nat × Nat × Sp), evL [(1, 1, 0, 0, sp_FitInit), (2, 2, 8, 70, sp_MakingInit)] k = some r → Ct l k r.1 r.2.1 r.2.2.1 r.2.2.2 := evL_ok (by simpa using ⟨c_FitInit l, c_MakingInit l⟩)
  refine ct_jd (by decide) rfl (fun as w Po h => ?_)
  obtain ⟨x0, rfl, hX, h⟩ := h
  have last : ∀ w2, XI x0 6 [(0, 5, 6), (0, 4, 5), (0, 3, 4), (0, 2, 3), (0, 1, 2), (0, 0, 1)] w2 → Jd l 0 3 15 548 none Po 63 [(0, .ref x0)] [] w2 6 473 := by
    intro w2 hX
    refine jd_s cdo_0 hev [] 30 ⟨by decide, by decide⟩ ⟨⟨by decide, by decide⟩, ?_⟩
    have ez := hX.1
    have hX := hX.new 3 (by decide) (by decide) (fun k => by
      show (if 7 = 0 ∧ k = 5 then some 6 else if 7 = 0 ∧ k = 4 then some 5 else if 7 = 0 ∧ k = 3 then some 4 else if 7 = 0 ∧ k = 2 then some 3 else if 7 = 0 ∧ k = 1 then some 2 else if 7 = 0 ∧ k = 0 then some 1 else none) = none
      rw [if_neg (fun q => by omega), if_neg (fun q => by omega), if_neg (fun q => by omega), if_neg (fun q => by omega), if_neg (fun q => by omega), if_neg (fun q => by omega)])
    refine ⟨⟨by decide, by decide, by decide⟩, rfl, x0, _, gZ w2, rfl, hX, by omega, fun c k hc => ?_, fun w3 hX3 => ?_⟩
    · show (if c = 0 ∧ k = 5 then some 6 else if c = 0 ∧ k = 4 then some 5 else if c = 0 ∧ k = 3 then some 4 else if c = 0 ∧ k = 2 then some 3 else if c = 0 ∧ k = 1 then some 2 else if c = 0 ∧ k = 0 then some 1 else none) = none
      rw [if_neg (fun q => by omega), if_neg (fun q => by omega), if_neg (fun q => by omega), if_neg (fun q => by omega), if_neg (fun q => by omega), if_neg (fun q => by omega)]
    · refine ⟨(hX3.k 0 (by decide)).trans rfl, some (gZ w2), rfl, ?_⟩
      exact h _ (hX3.put 0 6 7 (by decide) rfl rfl (show gZ w2 = x0 + 7 by omega))
  have fits : ∀ w2, XI x0 4 [(0, 3, 4), (0, 2, 3), (0, 1, 2), (0, 0, 1)] w2 → Jd l 0 3 15 548 none Po 41 [(0, .ref x0)] [] w2 4 469 := by
    intro w2 hX
    refine jd_s cdo_0 hev [63] 30 ⟨by decide, by decide⟩ ⟨⟨by decide, by decide⟩, ?_⟩
    have ez := hX.1
    have hX := hX.new 0 (by decide) (by decide) (fun k => by
      show (if 5 = 0 ∧ k = 3 then some 4 else if 5 = 0 ∧ k = 2 then some 3 else if 5 = 0 ∧ k = 1 then some 2 else if 5 = 0 ∧ k = 0 then some 1 else none) = none
      rw [if_neg (fun q => by omega), if_neg (fun q => by omega), if_neg (fun q => by omega), if_neg (fun q => by omega)])
    refine ⟨⟨by decide, by decide, by decide⟩, rfl, gZ w2, rfl, (hX.k 0 (by decide)).trans rfl, some (gZ w2), rfl, ?_⟩
    have hX := hX.put 0 4 5 (by decide) rfl rfl (show gZ w2 = x0 + 5 by omega)
    refine ⟨⟨by decide, by decide⟩, ?_⟩
    have ez2 := hX.1
    have hX := hX.new 0 (by decide) (by decide) (fun k => by
      show (if 6 = 0 ∧ k = 4 then some 5 else if 6 = 0 ∧ k = 3 then some 4 else if 6 = 0 ∧ k = 2 then some 3 else if 6 = 0 ∧ k = 1 then some 2 else if 6 = 0 ∧ k = 0 then some 1 else none) = none
      rw [if_neg (fun q => by omega), if_neg (fun q => by omega), if_neg (fun q => by omega), if_neg (fun q => by omega), if_neg (fun q => by omega)])
    refine ⟨⟨by decide, by decide, by decide⟩, rfl, _, rfl, (hX.k 0 (by decide)).trans rfl, some _, rfl, ?_⟩
    exact last _ (hX.put 0 5 6 (by decide) rfl rfl (ez2.trans (by omega)))
  refine ⟨Nat.le_of_ble_eq_true rfl, jd_s cdo_0 hev [41] 40 ⟨by decide, by decide⟩ ⟨rfl, by decide, 300, ⟨rfl, by decide⟩, ⟨by decide, by decide⟩, ?_⟩⟩
  have ez := hX.1
  have hX := hX.arr 23 300 (by decide) (by decide) (by decide)
  refine ⟨(hX.k 0 (by decide)).trans rfl, some _, rfl, ?_⟩
  have hX := hX.put 0 0 1 (by decide) rfl rfl (ez.trans (by omega))
  refine ⟨60, ⟨rfl, by decide⟩, ⟨by decide, by decide⟩, ?_⟩
  have ez := hX.1
  have hX := hX.arr 24 60 (by decide) (by decide) (by decide)
  refine ⟨(hX.k 0 (by decide)).trans rfl, some _, rfl, ?_⟩
  have hX := hX.put 0 1 2 (by decide) rfl rfl (ez.trans (by omega))
  refine ⟨9, ⟨rfl, by decide⟩, ⟨by decide, by decide⟩, ?_⟩
  have ez := hX.1
  have hX := hX.arr 25 9 (by decide) (by decide) (by decide)
  refine ⟨(hX.k 0 (by decide)).trans rfl, some _, rfl, ?_⟩
  have hX := hX.put 0 2 3 (by decide) rfl rfl (ez.trans (by omega))
  refine ⟨100, ⟨rfl, by decide⟩, ⟨by decide, by decide⟩, ?_⟩
  have ez := hX.1
  have hX := hX.arr 26 100 (by decide) (by decide) (by decide)
  refine ⟨(hX.k 0 (by decide)).trans rfl, some _, rfl, ?_⟩
  exact fits _ (hX.put 0 3 4 (by decide) rfl rfl (ez.trans (by omega)))
