/-! the reference: a new one; what the library gives -/
/-- the rows that stand so far -/
def RI (m0 n : Nat) (S : Hp) : Prop := gK S m0 = some 10 ∧ gZ S = m0 + 1 + n ∧ (∀ f, mAr f = true → mOf f ≤ n → gR S 10 f m0 = some (m0 + mOf f) ∧ gK S (m0 + mOf f) = some (mKd f) ∧ gN S (m0 + mOf f) = mLn f ∧ ∀ i, gA S (m0 + mOf f) i = 0) ∧ ∀ f, mIn f = true → gI S 10 f m0 = 0
theorem RI.k {m0 n : Nat} {S : Hp} (h : RI m0 n S) (t z : Nat) : gK (sArr S t z) m0 = some 10 := by
  have : m0 ≠ gZ S := by have := h.2.1; omega
  simp [gK, sArr, this]
  exact h.1
theorem RI.st {m0 n : Nat} {S : Hp} (h : RI m0 n S) (f : Nat) (hf : mAr f = true) (hn : mOf f = n + 1) : RI m0 (n + 1) (sR (sArr S (mKd f) (mLn f)) 10 f m0 (some (gZ S))) := by
  obtain ⟨h1, h2, h3, h4⟩ := h
  have hz : gZ S = m0 + mOf f := by omega
  refine ⟨?_, ?_, fun g hg hgn => ?_, fun g hg => ?_⟩
  · have : m0 ≠ gZ S := by omega
    show (if m0 = gZ S then some (mKd f) else gK S m0) = some 10
    rw [if_neg this]
    exact h1
  · show gZ S + 1 = _
    omega
  · by_cases hfg : g = f
    · subst hfg
      refine ⟨?_, ?_, ?_, fun i => ?_⟩
      · show u3 (gR S) 10 g m0 (some (gZ S)) 10 g m0 = _
        simp [u3, hz]
      · show (if m0 + mOf g = gZ S then some (mKd g) else _) = _
        rw [if_pos hz.symm]
      · show (if m0 + mOf g = gZ S then mLn g else _) = _
        rw [if_pos hz.symm]
      · show (if m0 + mOf g = gZ S then 0 else _) = _
        rw [if_pos hz.symm]
    · have hne : mOf g ≠ mOf f := fun q => hfg (mOf_inj g (mAr_el hg).1 f (mAr_el hf).1 (mAr_el hg).2 (mAr_el hf).2 q)
      have hne2 : m0 + mOf g ≠ gZ S := by omega
      obtain ⟨a1, a2, a3, a4⟩ := h3 g hg (by omega)
      refine ⟨?_, ?_, ?_, fun i => ?_⟩
      · show u3 (gR S) 10 f m0 (some (gZ S)) 10 g m0 = _
        rw [u3, if_neg (fun q => hfg q.2.1)]
        exact a1
      · show (if m0 + mOf g = gZ S then some (mKd f) else _) = _
        rw [if_neg hne2]; exact a2
      · show (if m0 + mOf g = gZ S then mLn f else _) = _
        rw [if_neg hne2]; exact a3
      · show (if m0 + mOf g = gZ S then 0 else _) = _
        rw [if_neg hne2]; exact a4 i
  · exact h4 g hg
theorem mOf_le : ∀ f, f < 43 → mOf f ≤ 33 := by decide +kernel
theorem RI.all {m0 : Nat} {S : Hp} (h : RI m0 33 S) : RM m0 (fun _ _ => 0) S := ⟨h.1, fun f hf => h.2.2.1 f hf (mOf_le f (mAr_el hf).1), h.2.2.2⟩
def sp_minit : Sp := fun as w K => ∃ m0, as = [.ref m0] ∧ RI m0 0 w ∧ ∀ w', RM m0 (fun _ _ => 0) w' → gZ w' = m0 + 34 → K none w'
theorem c_minit (l : Launch) : Ct l 82 1 33 22658 sp_minit := by
  refine ct_jd (by decide) rfl (fun as w Po h => ?_)
  obtain ⟨m0, rfl, h, hk⟩ := h
  refine ⟨Nat.le_of_ble_eq_true rfl, ?_⟩
  have s30 : ∀ w, RI m0 30 w → Jd l 82 1 33 22658 none Po 252 [(0, .ref m0)] [] w 30 22238 := by
    intro w h
    refine jd_s cdo_82 ev0 [] 60 ⟨by decide, by decide⟩ ?_
    refine ⟨300, ⟨rfl, by decide⟩, ⟨by decide, by decide⟩, h.k _ _, some (gZ _), rfl, ?_⟩
    replace h := h.st 38 rfl rfl
    refine ⟨100, ⟨rfl, by decide⟩, ⟨by decide, by decide⟩, h.k _ _, some (gZ _), rfl, ?_⟩
    replace h := h.st 39 rfl rfl
    refine ⟨20, ⟨rfl, by decide⟩, ⟨by decide, by decide⟩, h.k _ _, some (gZ _), rfl, ?_⟩
    replace h := h.st 42 rfl rfl
    exact hk _ h.all h.2.1
  have s27 : ∀ w, RI m0 27 w → Jd l 82 1 33 22658 none Po 230 [(0, .ref m0)] [] w 27 22134 := by
    intro w h
    refine jd_s cdo_82 ev0 [252] 60 ⟨by decide, by decide⟩ ?_
    refine ⟨100, ⟨rfl, by decide⟩, ⟨by decide, by decide⟩, h.k _ _, some (gZ _), rfl, ?_⟩
    replace h := h.st 34 rfl rfl
    refine ⟨2, ⟨rfl, by decide⟩, ⟨by decide, by decide⟩, h.k _ _, some (gZ _), rfl, ?_⟩
    replace h := h.st 36 rfl rfl
    refine ⟨2, ⟨rfl, by decide⟩, ⟨by decide, by decide⟩, h.k _ _, some (gZ _), rfl, ?_⟩
    replace h := h.st 37 rfl rfl
    exact s30 _ h
  have s24 : ∀ w, RI m0 24 w → Jd l 82 1 33 22658 none Po 206 [(0, .ref m0)] [] w 24 21834 := by
    intro w h
    refine jd_s cdo_82 ev0 [230] 60 ⟨by decide, by decide⟩ ?_
    refine ⟨100, ⟨rfl, by decide⟩, ⟨by decide, by decide⟩, h.k _ _, some (gZ _), rfl, ?_⟩
    replace h := h.st 31 rfl rfl
    refine ⟨100, ⟨rfl, by decide⟩, ⟨by decide, by decide⟩, h.k _ _, some (gZ _), rfl, ?_⟩
    replace h := h.st 32 rfl rfl
    refine ⟨100, ⟨rfl, by decide⟩, ⟨by decide, by decide⟩, h.k _ _, some (gZ _), rfl, ?_⟩
    replace h := h.st 33 rfl rfl
    exact s27 _ h
  have s21 : ∀ w, RI m0 21 w → Jd l 82 1 33 22658 none Po 179 [(0, .ref m0)] [] w 21 20334 := by
    intro w h
    refine jd_s cdo_82 ev0 [206] 60 ⟨by decide, by decide⟩ ?_
    refine ⟨500, ⟨rfl, by decide⟩, ⟨by decide, by decide⟩, h.k _ _, some (gZ _), rfl, ?_⟩
    replace h := h.st 27 rfl rfl
    refine ⟨500, ⟨rfl, by decide⟩, ⟨by decide, by decide⟩, h.k _ _, some (gZ _), rfl, ?_⟩
    replace h := h.st 28 rfl rfl
    refine ⟨500, ⟨rfl, by decide⟩, ⟨by decide, by decide⟩, h.k _ _, some (gZ _), rfl, ?_⟩
    replace h := h.st 29 rfl rfl
    exact s24 _ h
  have s18 : ∀ w, RI m0 18 w → Jd l 82 1 33 22658 none Po 155 [(0, .ref m0)] [] w 18 20307 := by
    intro w h
    refine jd_s cdo_82 ev0 [179] 60 ⟨by decide, by decide⟩ ?_
    refine ⟨9, ⟨rfl, by decide⟩, ⟨by decide, by decide⟩, h.k _ _, some (gZ _), rfl, ?_⟩
    replace h := h.st 21 rfl rfl
    refine ⟨9, ⟨rfl, by decide⟩, ⟨by decide, by decide⟩, h.k _ _, some (gZ _), rfl, ?_⟩
    replace h := h.st 22 rfl rfl
    refine ⟨9, ⟨rfl, by decide⟩, ⟨by decide, by decide⟩, h.k _ _, some (gZ _), rfl, ?_⟩
    replace h := h.st 23 rfl rfl
    exact s21 _ h
  have s15 : ∀ w, RI m0 15 w → Jd l 82 1 33 22658 none Po 131 [(0, .ref m0)] [] w 15 20280 := by
    intro w h
    refine jd_s cdo_82 ev0 [155] 60 ⟨by decide, by decide⟩ ?_
    refine ⟨9, ⟨rfl, by decide⟩, ⟨by decide, by decide⟩, h.k _ _, some (gZ _), rfl, ?_⟩
    replace h := h.st 18 rfl rfl
    refine ⟨9, ⟨rfl, by decide⟩, ⟨by decide, by decide⟩, h.k _ _, some (gZ _), rfl, ?_⟩
    replace h := h.st 19 rfl rfl
    refine ⟨9, ⟨rfl, by decide⟩, ⟨by decide, by decide⟩, h.k _ _, some (gZ _), rfl, ?_⟩
    replace h := h.st 20 rfl rfl
    exact s18 _ h
  have s12 : ∀ w, RI m0 12 w → Jd l 82 1 33 22658 none Po 107 [(0, .ref m0)] [] w 12 20100 := by
    intro w h
    refine jd_s cdo_82 ev0 [131] 60 ⟨by decide, by decide⟩ ?_
    refine ⟨60, ⟨rfl, by decide⟩, ⟨by decide, by decide⟩, h.k _ _, some (gZ _), rfl, ?_⟩
    replace h := h.st 13 rfl rfl
    refine ⟨60, ⟨rfl, by decide⟩, ⟨by decide, by decide⟩, h.k _ _, some (gZ _), rfl, ?_⟩
    replace h := h.st 14 rfl rfl
    refine ⟨60, ⟨rfl, by decide⟩, ⟨by decide, by decide⟩, h.k _ _, some (gZ _), rfl, ?_⟩
    replace h := h.st 15 rfl rfl
    exact s15 _ h
  have s9 : ∀ w, RI m0 9 w → Jd l 82 1 33 22658 none Po 83 [(0, .ref m0)] [] w 9 19920 := by
    intro w h
    refine jd_s cdo_82 ev0 [107] 60 ⟨by decide, by decide⟩ ?_
    refine ⟨60, ⟨rfl, by decide⟩, ⟨by decide, by decide⟩, h.k _ _, some (gZ _), rfl, ?_⟩
    replace h := h.st 10 rfl rfl
    refine ⟨60, ⟨rfl, by decide⟩, ⟨by decide, by decide⟩, h.k _ _, some (gZ _), rfl, ?_⟩
    replace h := h.st 11 rfl rfl
    refine ⟨60, ⟨rfl, by decide⟩, ⟨by decide, by decide⟩, h.k _ _, some (gZ _), rfl, ?_⟩
    replace h := h.st 12 rfl rfl
    exact s12 _ h
  have s6 : ∀ w, RI m0 6 w → Jd l 82 1 33 22658 none Po 58 [(0, .ref m0)] [] w 6 1800 := by
    intro w h
    refine jd_s cdo_82 ev0 [83] 60 ⟨by decide, by decide⟩ ?_
    refine ⟨60, ⟨rfl, by decide⟩, ⟨by decide, by decide⟩, h.k _ _, some (gZ _), rfl, ?_⟩
    replace h := h.st 7 rfl rfl
    refine ⟨18000, ⟨rfl, by decide⟩, ⟨by decide, by decide⟩, h.k _ _, some (gZ _), rfl, ?_⟩
    replace h := h.st 8 rfl rfl
    refine ⟨60, ⟨rfl, by decide⟩, ⟨by decide, by decide⟩, h.k _ _, some (gZ _), rfl, ?_⟩
    replace h := h.st 9 rfl rfl
    exact s9 _ h
  have s3 : ∀ w, RI m0 3 w → Jd l 82 1 33 22658 none Po 31 [(0, .ref m0)] [] w 3 900 := by
    intro w h
    refine jd_s cdo_82 ev0 [58] 60 ⟨by decide, by decide⟩ ?_
    refine ⟨300, ⟨rfl, by decide⟩, ⟨by decide, by decide⟩, h.k _ _, some (gZ _), rfl, ?_⟩
    replace h := h.st 3 rfl rfl
    refine ⟨300, ⟨rfl, by decide⟩, ⟨by decide, by decide⟩, h.k _ _, some (gZ _), rfl, ?_⟩
    replace h := h.st 4 rfl rfl
    refine ⟨300, ⟨rfl, by decide⟩, ⟨by decide, by decide⟩, h.k _ _, some (gZ _), rfl, ?_⟩
    replace h := h.st 5 rfl rfl
    exact s6 _ h
  refine jd_s cdo_82 ev0 [31] 60 ⟨by decide, by decide⟩ ?_
  refine ⟨rfl, by decide, ?_⟩
  refine ⟨300, ⟨rfl, by decide⟩, ⟨by decide, by decide⟩, h.k _ _, some (gZ _), rfl, ?_⟩
  replace h := h.st 0 rfl rfl
  refine ⟨300, ⟨rfl, by decide⟩, ⟨by decide, by decide⟩, h.k _ _, some (gZ _), rfl, ?_⟩
  replace h := h.st 1 rfl rfl
  refine ⟨300, ⟨rfl, by decide⟩, ⟨by decide, by decide⟩, h.k _ _, some (gZ _), rfl, ?_⟩
  replace h := h.st 2 rfl rfl
  exact s3 _ h
def sp_min : Sp := fun as w K => ∃ a b : Int32, as = [.int a, .int b] ∧ K (some (.int (if a ≤ b then a else b))) w
theorem c_min (l : Launch) : Ct l 48 1 0 0 sp_min := by
  refine ct_jd (by decide) rfl (fun as w Po h => ?_)
  obtain ⟨a, b, rfl, h⟩ := h
  refine ⟨Nat.le_of_ble_eq_true rfl, jd_run cdo_48 ev0 20 z00 ⟨fun c => ?_, fun c => ?_⟩⟩
  · rw [if_neg (lt_nle c)] at h
    exact h
  · rw [if_pos (nlt_le c)] at h
    exact h
def flA (w : Hp) (a : Nat) (v : Int32) : Nat → Hp
  | 0 => w
  | k + 1 => sA (flA w a v k) a k v
theorem flA_k (w : Hp) (a : Nat) (v : Int32) : ∀ k, gK (flA w a v k) = gK w ∧ gN (flA w a v k) = gN w
  | 0 => ⟨rfl, rfl⟩
  | k + 1 => flA_k w a v k
def sp_fill : Sp := fun as w K => ∃ a v n, as = [.ref a, .int v] ∧ gK w a = some 20 ∧ gN w a = n ∧ n < 1000 ∧ K none (flA w a v n)
theorem c_fill (l : Launch) : Ct l 50 1 0 0 sp_fill := by
  refine ct_jd (by decide) rfl (fun as w Po h => ?_)
  obtain ⟨a, v, n, rfl, hk, hn, hn2, h⟩ := h
  refine ⟨Nat.le_of_ble_eq_true rfl, ?_⟩
  have key : ∀ d i, i + d = n → Jd l 50 1 0 0 none Po 5 [(3, .int (nI n)), (2, .int (nI i)), (0, .ref a), (1, .int v)] [] (flA w a v i) 0 0 := by
    intro d
    induction d with
    | zero =>
      intro i hi
      obtain rfl : i = n := by omega
      refine jd_s cdo_50 ev0 [] 20 z00 ⟨fun _ => h, fun c => absurd (nI_le (Nat.le_refl i) (by omega)) c⟩
    | succ d ih =>
      intro i hi
      refine jd_s cdo_50 ev0 [5] 20 z00 ⟨fun c => ?_, fun _ => ?_⟩
      · have := ge_n (by omega) (by omega) c
        omega
      · refine ⟨by rw [(flA_k w a v i).1]; exact hk, i, ⟨rfl, by rw [(flA_k w a v i).2, hn]; omega, by omega⟩, ?_⟩
        have := ih (i + 1) (by omega)
        rw [← nI_1] at this
        exact jd_pk [1, 0, 2, 3] this
  refine jd_s cdo_50 ev0 [5] 20 z00 ⟨hk, ?_⟩
  rw [hn]
  exact key n 0 (by omega)
