/-! small numbers as sets of places -/
def us (x y : Int32) : Int32 := (x.toUInt32 >>> (y.toUInt32 &&& Int32.toUInt32 31)).toInt32
def bcF (x : Int32) : Int32 :=
  (fun i1 : Int32 => (fun i2 : Int32 => (fun i3 : Int32 => (fun i4 : Int32 => (fun i5 : Int32 => i5 &&& 63) (i4 + us i4 16)) (i3 + us i3 8)) ((i2 + us i2 4) &&& 252645135)) ((i1 &&& 858993459) + (us i1 2 &&& 858993459))) (x - (us x 1 &&& 1431655765))
/-- how many places -/
def bc (s : Nat) : Nat := cn (fun i => s.testBit i) 10
set_option maxRecDepth 100000 in
theorem bcF_ok : ∀ s, s < 1024 → bcF (nI s) = nI (bc s) := by decide +kernel
def sp_bitCount : Sp := fun as w K => ∃ s, as = [.int (nI s)] ∧ s < 1024 ∧ K (some (.int (nI (bc s)))) w
set_option maxRecDepth 100000 in
theorem c_bitCount (l : Launch) : Ct l 114 1 0 0 sp_bitCount := by
  refine ct_jd (by decide) rfl (fun as w Po h => ?_)
  obtain ⟨s, rfl, hs, h⟩ := h
  rw [← bcF_ok s hs] at h
  refine ⟨Nat.le_of_ble_eq_true rfl, ?_⟩
  generalize nI s = x at h
  refine jd_run cdo_114 ev0 60 z00 ?_
  exact h
/-- the first place -/
def tz (s : Nat) : Nat := ((List.range 10).find? (fun i => s.testBit i)).getD 0
set_option maxRecDepth 100000 in
theorem tz_ok : ∀ s, s < 1024 → 0 < s → tz s < 10 ∧ s.testBit (tz s) = true := by decide +kernel
def ntE (n i : Int32) : Int32 := n + us i 1
def ntD (n i : Int32) : Int32 := if 4 < i then ntE (n + 2) (us i 2) else ntE n i
def ntC (n i : Int32) : Int32 := if 16 < i then ntD (n + 4) (us i 4) else ntD n i
def ntB (n i : Int32) : Int32 := if 256 < i then ntC (n + 8) (us i 8) else ntC n i
def ntA (n i : Int32) : Int32 := if 65536 < i then ntB (n + 16) (us i 16) else ntB n i
def ntF (x : Int32) : Int32 := if 0 < ((x ^^^ (-1)) &&& (x - 1)) then ntA 1 ((x ^^^ (-1)) &&& (x - 1)) else ((x ^^^ (-1)) &&& (x - 1)) &&& 32
set_option maxRecDepth 100000 in
theorem ntF_ok : ∀ s, s < 1024 → 0 < s → ntF (nI s) = nI (tz s) := by decide +kernel
def sp_ntz : Sp := fun as w K => ∃ s, as = [.int (nI s)] ∧ s < 1024 ∧ 0 < s ∧ K (some (.int (nI (tz s)))) w
theorem c_ntz (l : Launch) : Ct l 117 1 0 0 sp_ntz := by
  refine ct_jd (by decide) rfl (fun as w Po h => ?_)
  obtain ⟨s, rfl, hs, hs0, h⟩ := h
  rw [← ntF_ok s hs hs0] at h
  refine ⟨Nat.le_of_ble_eq_true rfl, ?_⟩
  generalize nI s = x at h
  have a74 : ∀ n i, Po (some (.int (ntE n i))) w → Jd l 117 1 0 0 (some .int) Po 74 [(1, .int n), (0, .int i)] [] w 0 0 := fun n i h => jd_s cdo_117 ev0 [] 20 z00 h
  have a62 : ∀ n i, Po (some (.int (ntD n i))) w → Jd l 117 1 0 0 (some .int) Po 62 [(1, .int n), (0, .int i)] [] w 0 0 := by
    intro n i h
    refine jd_s cdo_117 ev0 [74] 20 z00 ⟨fun c => a74 _ _ ?_, fun c => jd_pk [1, 0] (a74 _ _ ?_)⟩
    · rw [ntD, if_neg (le_nlt c)] at h; exact h
    · rw [ntD, if_pos (nle_lt c)] at h; exact h
  have a49 : ∀ n i, Po (some (.int (ntC n i))) w → Jd l 117 1 0 0 (some .int) Po 49 [(1, .int n), (0, .int i)] [] w 0 0 := by
    intro n i h
    refine jd_s cdo_117 ev0 [62] 20 z00 ⟨fun c => a62 _ _ ?_, fun c => jd_pk [1, 0] (a62 _ _ ?_)⟩
    · rw [ntC, if_neg (le_nlt c)] at h; exact h
    · rw [ntC, if_pos (nle_lt c)] at h; exact h
  have a34 : ∀ n i, Po (some (.int (ntB n i))) w → Jd l 117 1 0 0 (some .int) Po 34 [(1, .int n), (0, .int i)] [] w 0 0 := by
    intro n i h
    refine jd_s cdo_117 ev0 [49] 20 z00 ⟨fun c => a49 _ _ ?_, fun c => jd_pk [1, 0] (a49 _ _ ?_)⟩
    · rw [ntB, if_neg (le_nlt c)] at h; exact h
    · rw [ntB, if_pos (nle_lt c)] at h; exact h
  refine jd_s cdo_117 ev0 [34] 30 z00 ⟨fun c => ?_, fun c => ?_⟩
  · rw [ntF, if_pos c] at h
    refine ⟨fun c2 => a34 _ _ ?_, fun c2 => jd_pk [1, 0] (a34 _ _ ?_)⟩
    · rw [ntA, if_neg (le_nlt c2)] at h; exact h
    · rw [ntA, if_pos (nle_lt c2)] at h; exact h
  · rw [ntF, if_neg c] at h
    exact h
