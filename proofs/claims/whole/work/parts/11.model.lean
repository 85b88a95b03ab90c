/-! THE REFERENCE: its store as rows of numbers M f i: row f (the field's number), place i; a plain number stands at place 0.
0 kind 1 size 2 raw 3 homesOf 4 state 5 in 6 pieces. 7 lotKind 8 row 9 many 10 where 11 to 12 toGo 13 worked 14 next 15 turn 16 lots. 17 turns. 18 rate 19 off 20 breaks 21 way 22 done 23 broke 24 homes. 25 day. 26 broken. 27 sendHome 28 sendDay 29 sendMany 30 sends. 31 wageHome 32 wageFrom 33 wageOf 34 wageTold 35 wages. 36 low 37 high 38 watch 39 isBack 40 watches. 41 thrown. 42 goesWith -/
abbrev Ms : Type := Nat → Nat → Int32
def mOf (f : Nat) : Nat := [1, 2, 3, 4, 5, 6, 0, 7, 8, 9, 10, 11, 12, 13, 14, 15, 0, 0, 16, 17, 18, 19, 20, 21, 0, 0, 0, 22, 23, 24, 0, 25, 26, 27, 28, 0, 29, 30, 31, 32, 0, 0, 33].getD f 0
def mLn (f : Nat) : Nat := [300, 300, 300, 300, 300, 300, 0, 60, 18000, 60, 60, 60, 60, 60, 60, 60, 0, 0, 9, 9, 9, 9, 9, 9, 0, 0, 0, 500, 500, 500, 0, 100, 100, 100, 100, 0, 2, 2, 300, 100, 0, 0, 20].getD f 0
def mKd (f : Nat) : Nat := bif Nat.beq f 39 then 21 else 20
def mAr (f : Nat) : Bool := decide (f < 43) && isRf 10 f
def mIn (f : Nat) : Bool := decide (f < 43) && !isRf 10 f
def RM (m0 : Nat) (M : Ms) (S : Hp) : Prop := gK S m0 = some 10 ∧ (∀ f, mAr f = true → gR S 10 f m0 = some (m0 + mOf f) ∧ gK S (m0 + mOf f) = some (mKd f) ∧ gN S (m0 + mOf f) = mLn f ∧ ∀ i, gA S (m0 + mOf f) i = M f i) ∧ ∀ f, mIn f = true → gI S 10 f m0 = M f 0
theorem mOf_pos : ∀ f, f < 43 → isRf 10 f = true → 0 < mOf f ∧ mLn f ≤ 18000 := by decide +kernel
theorem mOf_inj : ∀ f, f < 43 → ∀ g, g < 43 → isRf 10 f = true → isRf 10 g = true → mOf f = mOf g → f = g := by decide +kernel
theorem mAr_el {f : Nat} (h : mAr f = true) : f < 43 ∧ isRf 10 f = true := ⟨of_decide_eq_true (Bool.and_eq_true_iff.mp h).1, (Bool.and_eq_true_iff.mp h).2⟩
section RMS
variable {m0 : Nat} {M : Ms} {S : Hp}
theorem RM.k (h : RM m0 M S) : gK S m0 = some 10 := h.1
theorem RM.rf (h : RM m0 M S) (f : Nat) (hf : mAr f = true) : gR S 10 f m0 = some (m0 + mOf f) := (h.2.1 f hf).1
theorem RM.kd (h : RM m0 M S) (f : Nat) (hf : mAr f = true) : gK S (m0 + mOf f) = some (mKd f) := (h.2.1 f hf).2.1
theorem RM.ln (h : RM m0 M S) (f : Nat) (hf : mAr f = true) : gN S (m0 + mOf f) = mLn f := (h.2.1 f hf).2.2.1
theorem RM.rd (h : RM m0 M S) (f : Nat) (hf : mAr f = true) (i : Nat) : gA S (m0 + mOf f) i = M f i := (h.2.1 f hf).2.2.2 i
theorem RM.ri (h : RM m0 M S) (f : Nat) (hf : mIn f = true) : gI S 10 f m0 = M f 0 := h.2.2 f hf
theorem RM.ix (h : RM m0 M S) (f : Nat) (hf : mAr f = true) {i : Int32} {j : Nat} (hi : i = nI j) (hj : j < mLn f) : ixO i (gN S (m0 + mOf f)) j := by
  refine ⟨hi, by rw [h.ln f hf]; exact hj, ?_⟩
  have := (mOf_pos f (mAr_el hf).1 (mAr_el hf).2).2
  omega
/-- a place of a row is written -/
theorem RM.sa (h : RM m0 M S) (f : Nat) (hf : mAr f = true) (j : Nat) (v : Int32) : RM m0 (u2 M f j v) (sA S (m0 + mOf f) j v) := by
  refine ⟨h.1, fun g hg => ⟨h.rf g hg, h.kd g hg, h.ln g hg, fun i => ?_⟩, fun g hg => ?_⟩
  · show u2 (gA S) (m0 + mOf f) j v (m0 + mOf g) i = u2 M f j v g i
    by_cases hfg : g = f
    · subst hfg
      simp only [u2]
      by_cases hi : i = j
      · simp [hi]
      · simp [hi]; exact h.rd g hg i
    · have hne : m0 + mOf g ≠ m0 + mOf f := fun z => hfg (mOf_inj g (mAr_el hg).1 f (mAr_el hf).1 (mAr_el hg).2 (mAr_el hf).2 (by omega))
      rw [u2_ne hne, u2_ne hfg]
      exact h.rd g hg i
  · have hfg : g ≠ f := by
      intro z
      subst z
      have h1 := (mAr_el hf).2
      have h2 := (Bool.and_eq_true_iff.mp hg).2
      rw [h1] at h2
      cases h2
    rw [u2_ne hfg]
    exact h.ri g hg
/-- a plain number is written -/
theorem RM.si (h : RM m0 M S) (f : Nat) (hf : mIn f = true) (v : Int32) : RM m0 (u2 M f 0 v) (sI S 10 f m0 v) := by
  refine ⟨h.1, fun g hg => ⟨h.rf g hg, h.kd g hg, h.ln g hg, fun i => ?_⟩, fun g hg => ?_⟩
  · have hfg : g ≠ f := by
      intro z
      subst z
      have h1 := (mAr_el hg).2
      have h2 := (Bool.and_eq_true_iff.mp hf).2
      rw [h1] at h2
      cases h2
    rw [u2_ne hfg]
    exact h.rd g hg i
  · show u3 (gI S) 10 f m0 v 10 g m0 = u2 M f 0 v g 0
    by_cases hfg : g = f
    · subst hfg
      simp [u3, u2]
    · simp only [u3, u2, hfg, false_and, and_false, if_false]
      exact h.ri g hg
end RMS
/-! numbers -/
theorem nlt_le {a b : Int32} (h : ¬ a < b) : b ≤ a := by rw [Int32.not_lt] at h; exact h
theorem nle_lt {a b : Int32} (h : ¬ a ≤ b) : b < a := by rw [Int32.not_le] at h; exact h
theorem lt_nle {a b : Int32} (h : a < b) : ¬ b ≤ a := Int32.not_le.mpr h
theorem le_nlt {a b : Int32} (h : a ≤ b) : ¬ b < a := Int32.not_lt.mpr h
theorem i_lt (a b : Int32) : a < b ↔ a.toInt < b.toInt := Int32.lt_iff_toInt_lt
theorem i_le (a b : Int32) : a ≤ b ↔ a.toInt ≤ b.toInt := Int32.le_iff_toInt_le
theorem i_eq (a b : Int32) : a = b ↔ a.toInt = b.toInt := Int32.toInt_inj.symm
theorem pr_n {n : Nat} (hn : n < 2 ^ 31) (x : Int32) : (0 ≤ x ∧ x ≤ nI n - 1) ↔ ∃ j, j < n ∧ x = nI j := by
  constructor
  · intro ⟨h0, h1⟩
    obtain ⟨j, hj, rfl⟩ := nI_of (le_nlt h0)
    refine ⟨j, ?_, rfl⟩
    cases n with
    | zero =>
      exfalso
      rw [i_le, nI_toInt hj] at h1
      have : (nI 0 - 1 : Int32).toInt = -1 := by decide
      omega
    | succ n =>
      rw [nI_pred, nI_leI hj (by omega)] at h1
      omega
  · rintro ⟨j, hj, rfl⟩
    refine ⟨nI_pos' (by omega), ?_⟩
    cases n with
    | zero => omega
    | succ n => rw [nI_pred]; exact nI_le (by omega) (by omega)
/-! small members -/
def sp_in : Sp := fun as w K => ∃ v a b : Int32, as = [.int v, .int a, .int b] ∧ (a ≤ v ∧ v ≤ b → K (some (.int 1)) w) ∧ (¬ (a ≤ v ∧ v ≤ b) → K (some (.int 0)) w)
theorem ev0 {l : Launch} : ∀ (k : Nat) (r : Nat × Nat × Nat × Sp), (fun _ => none : Ev) k = some r → Ct l k r.1 r.2.1 r.2.2.1 r.2.2.2 := fun k r h => by cases h
/-- the callees that a method has: their contracts -/
def evL (L : List (Nat × Nat × Nat × Nat × Sp)) : Ev := fun k => (L.find? (fun q => Nat.beq q.1 k)).map (fun q => q.2)
theorem evL_ok {l : Launch} {L : List (Nat × Nat × Nat × Nat × Sp)} (h : ∀ q ∈ L, Ct l q.1 q.2.1 q.2.2.1 q.2.2.2.1 q.2.2.2.2) : ∀ (k : Nat) (r : Nat × Nat × Nat × Sp), evL L k = some r → Ct l k r.1 r.2.1 r.2.2.1 r.2.2.2 := by
  intro k r hr
  unfold evL at hr
  obtain ⟨q, hq, rfl⟩ := Option.map_eq_some_iff.mp hr
  have h1 := List.find?_some hq
  have h2 := h q (List.mem_of_find?_eq_some hq)
  have e1 : q.1 = k := Nat.eq_of_beq_eq_true h1
  rw [← e1]
  exact h2
theorem c_in (l : Launch) : Ct l 85 1 0 0 sp_in := by
  refine ct_jd (by decide) rfl (fun as w Po h => ?_)
  obtain ⟨v, a, b, rfl, h1, h2⟩ := h
  refine ⟨Nat.le_of_ble_eq_true rfl, jd_run cdo_85 ev0 20 ⟨Nat.le_refl _, Nat.le_refl _⟩ ?_⟩
  refine ⟨fun c1 => ?_, fun c1 => ⟨fun c2 => ?_, fun c2 => ?_⟩⟩
  · exact ⟨Or.inl rfl, h2 (fun z => absurd z.1 (lt_nle c1))⟩
  · exact ⟨Or.inl rfl, h2 (fun z => absurd z.2 (lt_nle c2))⟩
  · exact ⟨Or.inr rfl, h1 ⟨nlt_le c1, nlt_le c2⟩⟩
def sp_thrown : Sp := fun as w K => ∃ m0 M, as = [.ref m0] ∧ RM m0 M w ∧ K (some (.int (M 41 0))) w
theorem c_thrown (l : Launch) : Ct l 83 1 0 0 sp_thrown := by
  refine ct_jd (by decide) rfl (fun as w Po h => ?_)
  obtain ⟨m0, M, rfl, hM, h⟩ := h
  refine ⟨Nat.le_of_ble_eq_true rfl, jd_run cdo_83 ev0 20 ⟨Nat.le_refl _, Nat.le_refl _⟩ ?_⟩
  exact ⟨hM.k, _, hM.ri _ rfl, h⟩
def sp_isLot : Sp := fun as w K => ∃ m0 M x n, as = [.ref m0, .int x] ∧ RM m0 M w ∧ (M 16 0 = nI n ∧ n < 1000) ∧ (∀ j, j < n → x = nI j → K (some (.int 1)) w) ∧ ((¬ ∃ j, j < n ∧ x = nI j) → K (some (.int 0)) w)
theorem c_isLot (l : Launch) : Ct l 91 2 0 0 sp_isLot := by
  refine ct_jd (by decide) rfl (fun as w Po h => ?_)
  obtain ⟨m0, M, x, n, rfl, hM, ⟨hn, hn2⟩, h1, h2⟩ := h
  refine ⟨Nat.le_of_ble_eq_true rfl, jd_run cdo_91 (evL_ok (L := [(85, 1, 0, 0, sp_in)]) (by simpa using c_in l)) 20 ⟨Nat.le_refl _, Nat.le_refl _⟩ ?_⟩
  refine ⟨hM.k, _, (hM.ri _ rfl).trans hn, ?_⟩
  refine ⟨⟨by decide, by decide, by decide⟩, rfl, Nat.le_of_ble_eq_true rfl, x, 0, _, rfl, fun c => ?_, fun c => ?_⟩
  · obtain ⟨j, hj, rfl⟩ := (pr_n (by omega) x).mp c
    exact ⟨Or.inr rfl, h1 j hj rfl⟩
  · exact ⟨Or.inl rfl, h2 (fun z => c ((pr_n (by omega) x).mpr z))⟩
def sp_isHere : Sp := fun as w K => ∃ m0 M x n, as = [.ref m0, .int x] ∧ RM m0 M w ∧ (M 16 0 = nI n ∧ n ≤ 60) ∧ (∀ j, j < n → x = nI j → M 10 j = 0 → K (some (.int 1)) w) ∧ ((¬ ∃ j, j < n ∧ x = nI j ∧ M 10 j = 0) → K (some (.int 0)) w)
theorem c_isHere (l : Launch) : Ct l 90 3 0 0 sp_isHere := by
  refine ct_jd (by decide) rfl (fun as w Po h => ?_)
  obtain ⟨m0, M, x, n, rfl, hM, ⟨hn, hn2⟩, h1, h2⟩ := h
  refine ⟨Nat.le_of_ble_eq_true rfl, jd_run cdo_90 (evL_ok (L := [(91, 2, 0, 0, sp_isLot)]) (by simpa using c_isLot l)) 20 ⟨Nat.le_refl _, Nat.le_refl _⟩ ?_⟩
  refine ⟨⟨by decide, by decide, by decide⟩, rfl, hM.k, m0, M, x, n, rfl, hM, ⟨hn, by omega⟩, fun j hj hx => ?_, fun c => ?_⟩
  · refine ⟨fun z => absurd z (by decide), fun _ => ?_⟩
    refine ⟨hM.k, _, hM.rf _ rfl, ?_⟩
    refine ⟨hM.kd _ rfl, j, _, hM.ix _ rfl hx (show j < 60 by omega), hM.rd _ rfl j, ?_⟩
    refine ⟨fun z => ?_, fun z => ?_⟩
    · exact ⟨Or.inl rfl, h2 (fun ⟨i, hi, hxi, q⟩ => z (by rw [(nI_eq (by omega) (by omega)).mp (hx.symm.trans hxi)]; exact q))⟩
    · exact ⟨Or.inr rfl, h1 j hj hx z⟩
  · refine ⟨fun _ => ⟨Or.inl rfl, h2 (fun ⟨i, hi, hxi, q⟩ => c ⟨i, hi, hxi⟩)⟩, fun z => absurd rfl z⟩
