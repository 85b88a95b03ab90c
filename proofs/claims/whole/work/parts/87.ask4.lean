/-! THE TWO: what is asked of watches, wages -/
theorem Rel_pc {C : Cs} {M : Ms} {np nl nh nw ns ng dy tt : Nat} {R Q : Nat → List Nat} (H : Rel C M np nl nh nw ns ng dy tt R Q) {k i : Nat} (hk : k < nw) (hi : i < 3) : ∃ p, p < np ∧ p < 300 ∧ wPc C i k = p ∧ M 38 (3 * k + i) = nI p ∧ pN (M 38 (3 * k + i)) = p ∧ cL C 8 i k = p + 1 := by
  obtain ⟨p, hp, e1, e2, _⟩ := (H.2.2.2.2.2.2.2.2.2.2.1 k hk).2 i hi
  have h3 : np ≤ 300 := H.1.2.1.1.2.1
  refine ⟨p, hp, by omega, ?_, e2, ?_, e1⟩
  · unfold wPc
    rw [e1]
    rfl
  · rw [e2, pN_n (by omega)]
theorem Rel_WK {C : Cs} {M : Ms} {np nl nh nw ns ng dy tt : Nat} {R Q : Nat → List Nat} (H : Rel C M np nl nh nw ns ng dy tt R Q) : WK C nw := fun k i hk hi => by
  obtain ⟨p, _, _, _, _, _, e⟩ := Rel_pc H hk hi
  rw [e]
  exact Nat.succ_ne_zero p
theorem Rel_wOK {C : Cs} {M : Ms} {np nl nh nw ns ng dy tt : Nat} {R Q : Nat → List Nat} (H : Rel C M np nl nh nw ns ng dy tt R Q) : ∀ k, k < nw → wOK M k := fun k hk i hi => by
  obtain ⟨p, _, h3, _, e, _, _⟩ := Rel_pc H hk hi
  exact ⟨p, h3, e⟩
theorem Rel_ho {C : Cs} {M : Ms} {np nl nh nw ns ng dy tt : Nat} {R Q : Nat → List Nat} (H : Rel C M np nl nh nw ns ng dy tt R Q) {k : Nat} (hk : k < nw) : hoC C k = hoW M k := by
  obtain ⟨p0, a0, _, b0, _, d0, _⟩ := Rel_pc H hk (i := 0) (by decide)
  obtain ⟨p1, a1, _, b1, _, d1, _⟩ := Rel_pc H hk (i := 1) (by decide)
  obtain ⟨p2, a2, _, b2, _, d2, _⟩ := Rel_pc H hk (i := 2) (by decide)
  unfold hoC hoW
  rw [b0, b1, b2, show 3 * k = 3 * k + 0 from rfl, d0, d1, d2, (H.2.1 p0 a0).2.1.2.2.2.1, (H.2.1 p1 a1).2.1.2.2.2.1, (H.2.1 p2 a2).2.1.2.2.2.1]
theorem Rel_watch {C : Cs} {M : Ms} {np nl nh nw ns ng dy tt : Nat} {R Q : Nat → List Nat} (H : Rel C M np nl nh nw ns ng dy tt R Q) {k c : Nat} (hk : k < nw) (hc : c < 5) : watchC C k c = watchA M k c := by
  have pc : ∀ i, i < 3 → cI C 5 0 (wPc C i k) = M 38 (3 * k + i) := fun i hi => by
    obtain ⟨p, a, _, b, d, _, _⟩ := Rel_pc H hk hi
    rw [b, d]
    exact (H.2.1 p a).1
  rcases (show c = 0 ∨ c = 1 ∨ c = 2 ∨ c = 3 ∨ c = 4 by omega) with rfl | rfl | rfl | rfl | rfl
  · exact pc 0 (by decide)
  · exact pc 1 (by decide)
  · exact pc 2 (by decide)
  · show (if cI C 8 3 k = 0 then (0 : Int32) else 1) = if M 39 k = 0 then 0 else 1
    rw [(H.2.2.2.2.2.2.2.2.2.2.1 k hk).1.1]
  · exact Rel_ho H hk
theorem Rel_cof {C : Cs} {M : Ms} {np nl nh nw ns ng dy tt : Nat} {R Q : Nat → List Nat} (H : Rel C M np nl nh nw ns ng dy tt R Q) (h : Nat) (bad : Bool) : cn (cofC C (nI h) bad) nw = cn (cofP M h bad) nw := cn_cong (fun k hk => by
  unfold cofC cofP
  rw [Rel_ho H hk, (H.2.2.2.2.2.2.2.2.2.2.1 k hk).1.1])
theorem Rel_rc {C : Cs} {M : Ms} {np nl nh nw ns ng dy tt : Nat} {R Q : Nat → List Nat} (H : Rel C M np nl nh nw ns ng dy tt R Q) (x : Int32) : cn (rcC C x) nw = cn (rcP M x) nw := cn_cong (fun k hk => by
  obtain ⟨p0, a0, _, b0, _, d0, _⟩ := Rel_pc H hk (i := 0) (by decide)
  obtain ⟨p1, a1, _, b1, _, d1, _⟩ := Rel_pc H hk (i := 1) (by decide)
  obtain ⟨p2, a2, _, b2, _, d2, _⟩ := Rel_pc H hk (i := 2) (by decide)
  unfold rcC rcP
  rw [b0, b1, b2, show 3 * k = 3 * k + 0 from rfl, d0, d1, d2, (H.2.1 p0 a0).2.1.2.1, (H.2.1 p1 a1).2.1.2.1, (H.2.1 p2 a2).2.1.2.1])
theorem Rel_sus {C : Cs} {M : Ms} {np nl nh nw ns ng dy tt : Nat} {R Q : Nat → List Nat} (H : Rel C M np nl nh nw ns ng dy tt R Q) {m : Int32} (hm : 1 ≤ m) : ∀ n, susC C m nw n = susF M m nw n
  | 0 => rfl
  | k + 1 => by
    have eb : ∀ h, badC C nw h = badN M nw h := fun h => Rel_cof H h true
    have ea : ∀ h, allC C nw h = allN M nw h := fun h => Rel_cof H h false
    rw [susC, susF, Rel_sus H hm k, eb, ea]
    by_cases c : nI (badN M nw k) < m
    · rw [if_pos (Or.inl c), if_pos c]
    · rw [if_neg c]
      cases susF M m nw k with
      | none =>
        refine if_neg (fun z => z.elim c (fun z => ?_))
        have z : nI (badN M nw k) * 1 ≤ 0 * nI (allN M nw k) := z
        rw [Int32.mul_one, Int32.zero_mul] at z
        rw [i_le] at z hm
        rw [i_lt] at c
        have e0 : (0 : Int32).toInt = 0 := rfl
        have e1 : (1 : Int32).toInt = 1 := rfl
        omega
      | some f =>
        show (if nI (badN M nw k) < m ∨ nI (badN M nw k) * nI (allC C nw f) ≤ nI (badC C nw f) * nI (allN M nw k) then some f else some k) = if nI (badN M nw f) * nI (allN M nw k) < nI (badN M nw k) * nI (allN M nw f) then some k else some f
        rw [eb, ea]
        by_cases d : nI (badN M nw f) * nI (allN M nw k) < nI (badN M nw k) * nI (allN M nw f)
        · rw [if_pos d]
          exact if_neg (fun z => z.elim c (fun z => Int32.not_le.mpr d z))
        · rw [if_neg d]
          exact if_pos (Or.inr (Int32.not_lt.mp d))
/-- the better of two wages -/
def wgM (M : Ms) (b : Nat) (o : Option Nat) : Option Nat := match o with
  | none => some b
  | some b' => if M 32 b < M 32 b' then some b' else some b
theorem wg_eq {C : Cs} {M : Ms} {ng : Nat} (h7 : ∀ g, g < ng → cI C 7 0 g = M 34 g ∧ cI C 7 1 g = M 32 g) (h : Nat) (d kn : Int32) : ∀ n, n ≤ ng → wgC C d kn (dsc (fun g => decide (M 31 g = nI h)) n) none = wgBest M h d kn n ∧ ∀ b, b < ng → wgC C d kn (dsc (fun g => decide (M 31 g = nI h)) n) (some b) = wgM M b (wgBest M h d kn n)
  | 0, _ => ⟨rfl, fun _ _ => rfl⟩
  | n + 1, hn => by
    obtain ⟨i1, i2⟩ := wg_eq h7 h d kn n (by omega)
    obtain ⟨e0, e1⟩ := h7 n (by omega)
    rw [wgBest, dsc]
    by_cases c : M 31 n = nI h
    · rw [if_pos (decide_eq_true c)]
      refine ⟨?_, fun b hb => ?_⟩
      · rw [wgC, e0, e1]
        by_cases k : M 34 n ≤ kn ∧ M 32 n ≤ d
        · rw [if_pos k, if_pos ⟨c, k⟩, i2 n (by omega)]
          cases wgBest M h d kn n with
          | none => rfl
          | some b' =>
            show (if M 32 n < M 32 b' then some b' else some n) = if M 32 b' ≤ M 32 n then some n else some b'
            by_cases q : M 32 n < M 32 b'
            · rw [if_pos q, if_neg (Int32.not_le.mpr q)]
            · rw [if_neg q, if_pos (Int32.not_lt.mp q)]
        · rw [if_neg k, if_neg (fun z => k z.2), i1]
      · rw [wgC, e0, e1, (h7 b hb).2]
        by_cases k : M 34 n ≤ kn ∧ M 32 n ≤ d
        · rw [if_pos (show M 31 n = nI h ∧ M 34 n ≤ kn ∧ M 32 n ≤ d from ⟨c, k⟩)]
          by_cases q : M 32 b < M 32 n
          · rw [if_pos ⟨k.1, k.2, q⟩, i2 n (by omega)]
            cases wgBest M h d kn n with
            | none => exact (if_pos q).symm
            | some b' =>
              show (if M 32 n < M 32 b' then some b' else some n) = wgM M b (if M 32 b' ≤ M 32 n then some n else some b')
              by_cases r : M 32 n < M 32 b'
              · rw [if_pos r, if_neg (Int32.not_le.mpr r)]
                refine (if_pos ?_).symm
                rw [i_lt] at q r ⊢
                omega
              · rw [if_neg r, if_pos (Int32.not_lt.mp r)]
                exact (if_pos q).symm
          · rw [if_neg (fun z => q z.2.2), i2 b hb]
            cases wgBest M h d kn n with
            | none => exact (if_neg q).symm
            | some b' =>
              show (if M 32 b < M 32 b' then some b' else some b) = wgM M b (if M 32 b' ≤ M 32 n then some n else some b')
              by_cases r : M 32 n < M 32 b'
              · rw [if_neg (Int32.not_le.mpr r)]
                rfl
              · rw [if_pos (Int32.not_lt.mp r)]
                have : ¬ M 32 b < M 32 b' := fun z => by
                  rw [i_lt] at q r z
                  omega
                rw [if_neg this]
                exact (if_neg q).symm
        · rw [if_neg (fun z => k ⟨z.1, z.2.1⟩), if_neg (fun z => k z.2)]
          exact i2 b hb
    · rw [if_neg (fun z => c (of_decide_eq_true z)), if_neg (fun z => c z.1)]
      exact ⟨i1, i2⟩
theorem due_eq {C : Cs} {M : Ms} {ng ns : Nat} (h7 : ∀ g, g < ng → cI C 7 0 g = M 34 g ∧ cI C 7 1 g = M 32 g ∧ cI C 7 2 g = M 33 g) (h6 : ∀ e, e < ns → cI C 6 0 e = M 28 e ∧ cI C 6 1 e = M 29 e) (h : Nat) (kn : Int32) : ∀ n, n ≤ ns → ∀ s, dueC C h kn (dsc (fun g => decide (M 31 g = nI h)) ng) (dsc (fun e => decide (M 27 e = nI h)) n) s = s + dueS M h kn ng n
  | 0, _, s => by
    show s = s + 0
    rw [Int64.add_zero]
  | n + 1, hn, s => by
    have wf : ∀ d, wgA C (wgC C d kn (dsc (fun g => decide (M 31 g = nI h)) ng) none) = wgFor M h d kn ng := fun d => by
      rw [(wg_eq (fun g hg => ⟨(h7 g hg).1, (h7 g hg).2.1⟩) h d kn ng (Nat.le_refl _)).1]
      unfold wgFor
      cases q : wgBest M h d kn ng with
      | none => rfl
      | some b => exact (h7 b (wgBest_lt M h d kn ng b q)).2.2
    obtain ⟨e0, e1⟩ := h6 n (by omega)
    rw [dsc, dueS]
    by_cases c : M 27 n = nI h
    · rw [if_pos (decide_eq_true c), dueC, due_eq h7 h6 h kn n (by omega), e0, e1, wf]
      by_cases k : M 28 n ≤ kn
      · rw [if_pos k, if_pos ⟨c, k⟩, Int64.add_assoc, Int64.add_comm (dueS M h kn ng n)]
      · rw [if_neg k, if_neg (fun z => k z.2)]
    · rw [if_neg (fun z => c (of_decide_eq_true z)), if_neg (fun z => c z.1)]
      exact due_eq h7 h6 h kn n (by omega) s
theorem Rel_due {C : Cs} {M : Ms} {np nl nh nw ns ng dy tt : Nat} {R Q : Nat → List Nat} (H : Rel C M np nl nh nw ns ng dy tt R Q) (h : Nat) (kn : Int32) : dueC C h kn (dsc (fun g => decide (M 31 g = nI h)) ng) (dsc (fun e => decide (M 27 e = nI h)) ns) 0 = dueS M h kn ng ns := by
  rw [due_eq (ng := ng) (ns := ns) (fun g hg => ⟨(H.2.2.2.2.2.2.2.2.2.1.2.1 g hg).1, (H.2.2.2.2.2.2.2.2.2.1.2.1 g hg).2.1, (H.2.2.2.2.2.2.2.2.2.1.2.1 g hg).2.2.1⟩) (fun e he => ⟨(H.2.2.2.2.2.2.2.2.1.2.1 e he).1, (H.2.2.2.2.2.2.2.2.1.2.1 e he).2.1⟩) h kn ns (Nat.le_refl _) 0, Int64.zero_add]
