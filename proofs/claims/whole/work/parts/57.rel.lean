/-! THE TWO: what the class keeps and what the reference keeps are the same -/
/-- the code of the last of a row -/
def lsC : List Nat → Nat
  | [] => 0
  | [p] => p + 1
  | _ :: q :: t => lsC (q :: t)
def RlN (C : Cs) (M : Ms) (np nl nh nw : Nat) : Prop := FX C ∧ (NB C 23 5 7 300 np ∧ M 6 0 = nI np) ∧ (NB C 24 2 8 60 nl ∧ M 16 0 = nI nl) ∧ (NB C 25 1 9 9 nh ∧ M 24 0 = nI nh) ∧ NB C 26 8 10 100 nw ∧ M 40 0 = nI nw
def RlP (C : Cs) (M : Ms) (np : Nat) : Prop := ∀ p, p < np → cI C 5 0 p = nI p ∧ (cI C 5 1 p = M 0 p ∧ cI C 5 2 p = M 2 p ∧ cI C 5 3 p = M 1 p ∧ cI C 5 4 p = M 3 p ∧ cI C 5 5 p = M 4 p ∧ cI C 5 6 p = M 5 p) ∧ ∃ k, k < 3 ∧ M 0 p = nI k
def RlH (C : Cs) (M : Ms) (nh : Nat) : Prop := (∀ h, h < nh → cI C 1 0 h = nI h ∧ (cI C 1 1 h = M 18 h ∧ cI C 1 2 h = M 19 h ∧ cI C 1 3 h = M 20 h ∧ cI C 1 4 h = M 21 h ∧ cI C 1 5 h = M 22 h ∧ cI C 1 6 h = M 23 h) ∧ (1 ≤ M 18 h ∧ M 18 h ≤ 20) ∧ (0 ≤ M 20 h ∧ M 20 h ≤ 30) ∧ (0 ≤ M 21 h ∧ M 21 h ≤ 9)) ∧ M 26 0 = cBr C nh ∧ ∀ h, nh ≤ h → M 22 h = 0 ∧ M 23 h = 0
/-- a lot stands where it should -/
def RlL1 (C : Cs) (M : Ms) (nh l : Nat) : Prop := cI C 2 0 l = nI l ∧ (cI C 2 1 l = M 7 l ∧ cI C 2 4 l = M 9 l ∧ cI C 2 5 l = M 10 l) ∧ (∃ k, k < 4 ∧ M 10 l = nI k) ∧ (M 10 l = 0 → cL C 2 6 l = 0) ∧ (¬ M 10 l = 0 → ∃ h, h < nh ∧ M 11 l = nI h ∧ cL C 2 6 l = h + 1) ∧ ((M 10 l = 1 ∨ M 10 l = 3) → cI C 2 7 l = M 12 l ∧ 0 ≤ M 12 l) ∧ (¬ (M 10 l = 1 ∨ M 10 l = 3) → cI C 2 7 l = 0) ∧ (M 10 l = 2 → cI C 2 9 l = M 13 l) ∧ (¬ M 10 l = 2 → cI C 2 9 l = 0 ∧ cL C 2 8 l = 0 ∧ cL C 2 10 l = 0)
def RlL (C : Cs) (M : Ms) (nl nh : Nat) : Prop := ∀ l, l < nl → RlL1 C M nh l
/-- the row of a lot -/
def RlR1 (C : Cs) (M : Ms) (np l : Nat) (L : List Nat) : Prop := (chL (cL C 5 7) (cL C 2 2 l) L ∧ cL C 2 3 l = lsC L) ∧ (M 9 l = nI L.length ∧ ∀ i p, L[i]? = some p → M 8 (300 * l + i) = nI p) ∧ L.Nodup ∧ ∀ p, p ∈ L → p < np ∧ M 5 p = nI l ∧ M 4 p = 0 ∧ M 0 p = M 7 l
def RlR (C : Cs) (M : Ms) (np nl : Nat) (R : Nat → List Nat) : Prop := ∀ l, l < nl → RlR1 C M np l (R l)
/-- how far a lot that waits is worked -/
def RlK (C : Cs) (M : Ms) (nl : Nat) (R : Nat → List Nat) : Prop := ∀ l, l < nl → M 10 l = 2 → ∃ x, x ≤ (R l).length ∧ M 14 l = nI x ∧ cL C 2 8 l = lsC ((R l).take x)
/-- the lots that wait at a home -/
def RlQ1 (C : Cs) (M : Ms) (nl h : Nat) (L : List Nat) : Prop := (chL (cL C 2 10) (cL C 1 8 h) L ∧ cL C 1 9 h = lsC L ∧ cI C 1 7 h = nI L.length) ∧ L.Nodup ∧ (∀ l, l ∈ L ↔ l < nl ∧ M 10 l = 2 ∧ M 11 l = nI h) ∧ L.Pairwise (fun a b => M 15 a < M 15 b)
def RlQ (C : Cs) (M : Ms) (nl nh : Nat) (Q : Nat → List Nat) : Prop := ∀ h, h < nh → RlQ1 C M nl h (Q h)
/-- the turns at which lots came: fewer than were sent -/
def RlT (M : Ms) (nl ns tt : Nat) : Prop := M 17 0 = nI tt ∧ tt + cn (fun l => decide (M 10 l = 1)) nl ≤ ns ∧ ∀ l, l < nl → M 10 l = 2 → ∃ t, t < tt ∧ M 15 l = nI t
/-- those of the first n for which p holds, the last first -/
def dsc (p : Nat → Bool) : Nat → List Nat
  | 0 => []
  | n + 1 => if p n = true then n :: dsc p n else dsc p n
def RlS (C : Cs) (M : Ms) (nh ns : Nat) : Prop := (cI C 9 11 0 = nI ns ∧ ns ≤ 500 ∧ cN C 6 = ns ∧ M 30 0 = nI ns) ∧ (∀ e, e < ns → cI C 6 0 e = M 28 e ∧ cI C 6 1 e = M 29 e ∧ ∃ h, h < nh ∧ M 27 e = nI h) ∧ ∀ h, h < nh → chL (cL C 6 2) (cL C 1 10 h) (dsc (fun e => decide (M 27 e = nI h)) ns)
def RlG (C : Cs) (M : Ms) (nh ng : Nat) : Prop := (cI C 9 12 0 = nI ng ∧ ng ≤ 100 ∧ cN C 7 = ng ∧ M 35 0 = nI ng) ∧ (∀ g, g < ng → cI C 7 0 g = M 34 g ∧ cI C 7 1 g = M 32 g ∧ cI C 7 2 g = M 33 g ∧ ∃ h, h < nh ∧ M 31 g = nI h) ∧ ∀ h, h < nh → chL (cL C 7 3) (cL C 1 11 h) (dsc (fun g => decide (M 31 g = nI h)) ng)
def RlW (C : Cs) (M : Ms) (np nw : Nat) : Prop := ∀ k, k < nw → (cI C 8 3 k = M 39 k ∧ (M 39 k = 0 ∨ M 39 k = 1)) ∧ ∀ i, i < 3 → ∃ p, p < np ∧ cL C 8 i k = p + 1 ∧ M 38 (3 * k + i) = nI p ∧ M 4 p = 2 ∧ M 5 p = nI k ∧ M 0 p = nI i
def RlF (C : Cs) (M : Ms) : Prop := ∀ i, i < 2 → cI C 0 0 i = M 36 i ∧ cI C 0 1 i = M 37 i
def RlD (C : Cs) (M : Ms) (dy : Nat) : Prop := cI C 9 13 0 = nI dy ∧ dy ≤ 400 ∧ M 25 0 = nI dy
def Rel (C : Cs) (M : Ms) (np nl nh nw ns ng dy tt : Nat) (R Q : Nat → List Nat) : Prop := RlN C M np nl nh nw ∧ RlP C M np ∧ RlH C M nh ∧ RlL C M nl nh ∧ RlR C M np nl R ∧ RlK C M nl R ∧ RlQ C M nl nh Q ∧ RlT M nl ns tt ∧ RlS C M nh ns ∧ RlG C M nh ng ∧ RlW C M np nw ∧ RlF C M ∧ RlD C M dy ∧ G42 M
theorem dsc_cong {p q : Nat → Bool} : ∀ {n : Nat}, (∀ i, i < n → p i = q i) → dsc p n = dsc q n
  | 0, _ => rfl
  | n + 1, h => by rw [dsc, dsc, h n (Nat.lt_succ_self n), dsc_cong (fun i hi => h i (Nat.lt_succ_of_lt hi))]
theorem dsc_mem {p : Nat → Bool} : ∀ {n x : Nat}, x ∈ dsc p n → x < n ∧ p x = true
  | 0, _, h => by simp [dsc] at h
  | n + 1, x, h => by
    unfold dsc at h
    split at h
    · rename_i hp
      rcases List.mem_cons.mp h with rfl | h
      · exact ⟨Nat.lt_succ_self _, hp⟩
      · have := dsc_mem h
        exact ⟨by omega, this.2⟩
    · have := dsc_mem h
      exact ⟨by omega, this.2⟩
theorem Rel_41 {C : Cs} {M : Ms} {np nl nh nw ns ng dy tt : Nat} {R Q : Nat → List Nat} (v : Int32) (h : Rel C M np nl nh nw ns ng dy tt R Q) : Rel C (u2 M 41 0 v) np nl nh nw ns ng dy tt R Q := h
/-- a new one: nothing is told -/
theorem Rel_0 (x0 : Nat) : Rel (C0 x0) (fun _ _ => 0) 0 0 0 0 0 0 0 0 (fun _ => []) (fun _ => []) := by
  refine ⟨⟨FX_0 x0, ⟨⟨rfl, by decide, rfl, fun j hj => by omega⟩, rfl⟩, ⟨⟨rfl, by decide, rfl, fun j hj => by omega⟩, rfl⟩, ⟨⟨rfl, by decide, rfl, fun j hj => by omega⟩, rfl⟩, ⟨rfl, by decide, rfl, fun j hj => by omega⟩, rfl⟩, fun p hp => by omega, ⟨fun h hh => by omega, rfl, fun h hh => ⟨rfl, rfl⟩⟩, fun l hl => by omega, fun l hl => by omega, fun l hl => by omega, fun h hh => by omega, ⟨rfl, by decide, fun l hl => by omega⟩, ⟨⟨rfl, by decide, rfl, rfl⟩, fun e he => by omega, fun h hh => by omega⟩, ⟨⟨rfl, by decide, rfl, rfl⟩, fun e he => by omega, fun h hh => by omega⟩, fun k hk => by omega, fun i hi => ⟨rfl, rfl⟩, ⟨rfl, by decide, rfl⟩, fun i hi => ⟨show (0 : Int32) = nI (pN 0) by decide, show pN 0 < 1024 by decide⟩⟩
