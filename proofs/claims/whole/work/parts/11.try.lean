def sp_in : Sp := fun as w K => ∃ v a b : Int32, as = [.int v, .int a, .int b] ∧ (a ≤ v ∧ v ≤ b → K (some (.int 1)) w) ∧ (¬ (a ≤ v ∧ v ≤ b) → K (some (.int 0)) w)
theorem nlt_le {a b : Int32} (h : ¬ a < b) : b ≤ a := by rw [Int32.not_lt] at h; exact h
theorem ev0 {l : Launch} : ∀ (k : Nat) (r : Nat × Nat × Nat × Sp), (fun _ => none : Ev) k = some r → Ct l k r.1 r.2.1 r.2.2.1 r.2.2.2 := fun k r h => by cases h
theorem c_in (l : Launch) : Ct l 85 1 0 0 sp_in := by
  refine ct_jd (by decide) rfl (fun as w Po h => ?_)
  obtain ⟨v, a, b, rfl, h1, h2⟩ := h
  refine ⟨Nat.le_of_ble_eq_true rfl, jd_run cdo_85 ev0 20 ⟨Nat.le_refl _, Nat.le_refl _⟩ ?_⟩
  refine ⟨fun c1 => ?_, fun c1 => ⟨fun c2 => ?_, fun c2 => ?_⟩⟩
  · exact ⟨Or.inl rfl, h2 (fun z => absurd z.1 (Int32.not_le.mpr c1))⟩
  · exact ⟨Or.inl rfl, h2 (fun z => absurd z.2 (Int32.not_le.mpr c2))⟩
  · exact ⟨Or.inr rfl, h1 ⟨nlt_le c1, nlt_le c2⟩⟩
