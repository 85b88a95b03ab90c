/-! matchings: wheels to places -/
/-- the wheels of ws can have places of os, one each, that g allows -/
def Mt (g : Nat → Nat) (ws os : Nat) : Prop := ∃ f : Nat → Nat, (∀ w, ws.testBit w = true → (g w).testBit (f w) = true ∧ os.testBit (f w) = true) ∧ ∀ w v, ws.testBit w = true → ws.testBit v = true → f w = f v → w = v
theorem Mt_0 (g : Nat → Nat) (os : Nat) : Mt g 0 os := ⟨fun _ => 0, fun w h => by simp at h, fun w v h => by simp at h⟩
theorem xb (a w i : Nat) : (a ^^^ 2 ^ w).testBit i = (a.testBit i ^^ decide (w = i)) := by rw [Nat.testBit_xor, Nat.testBit_two_pow]
theorem xb_ne {a w i : Nat} (h : w ≠ i) : (a ^^^ 2 ^ w).testBit i = a.testBit i := by rw [xb]; simp [h]
theorem xb_eq {a w : Nat} (h : a.testBit w = true) : (a ^^^ 2 ^ w).testBit w = false := by rw [xb]; simp [h]
theorem Mt_step {g : Nat → Nat} {ws os w : Nat} (hw : ws.testBit w = true) : Mt g ws os ↔ ∃ o, (g w).testBit o = true ∧ os.testBit o = true ∧ Mt g (ws ^^^ 2 ^ w) (os ^^^ 2 ^ o) := by
  constructor
  · rintro ⟨f, h1, h2⟩
    refine ⟨f w, (h1 w hw).1, (h1 w hw).2, f, fun v hv => ?_, fun v u hv hu e => ?_⟩
    · have hne : w ≠ v := by
        intro z
        subst z
        rw [xb_eq hw] at hv
        cases hv
      rw [xb_ne hne] at hv
      have hf : f w ≠ f v := fun z => hne (h2 w v hw hv z)
      rw [xb_ne hf]
      exact h1 v hv
    · have hv' : ws.testBit v = true := by
        by_cases z : w = v
        · subst z; exact hw
        · rw [xb_ne z] at hv; exact hv
      have hu' : ws.testBit u = true := by
        by_cases z : w = u
        · subst z; exact hw
        · rw [xb_ne z] at hu; exact hu
      exact h2 v u hv' hu' e
  · rintro ⟨o, hg, ho, f, h1, h2⟩
    have key : ∀ v, ws.testBit v = true → v ≠ w → (ws ^^^ 2 ^ w).testBit v = true := fun v hv hne => by rw [xb_ne (Ne.symm hne)]; exact hv
    have off : ∀ v, ws.testBit v = true → v ≠ w → f v ≠ o := fun v hv hne z => by
      have := (h1 v (key v hv hne)).2
      rw [z, xb_eq ho] at this
      cases this
    refine ⟨fun v => if v = w then o else f v, fun v hv => ?_, fun v u hv hu e => ?_⟩
    · by_cases z : v = w
      · subst z; simp [hg, ho]
      · have h3 := h1 v (key v hv z)
        have h4 := off v hv z
        rw [xb_ne (Ne.symm h4)] at h3
        simp [z, h3]
    · by_cases z : v = w
      · by_cases z2 : u = w
        · rw [z, z2]
        · simp [z, z2] at e
          exact absurd e.symm (off u hu z2)
      · by_cases z2 : u = w
        · simp [z, z2] at e
          exact absurd e (off v hv z)
        · simp [z, z2] at e
          exact h2 v u (key v hv z) (key u hu z2) e
theorem nI_xor (a b : Nat) : nI a ^^^ nI b = nI (a ^^^ b) := by
  apply Int32.toBitVec_inj.mp
  apply BitVec.eq_of_toNat_eq
  simp [nI, Nat.xor_mod_two_pow]
theorem nI_and (a b : Nat) : nI a &&& nI b = nI (a &&& b) := by
  apply Int32.toBitVec_inj.mp
  apply BitVec.eq_of_toNat_eq
  simp [nI, Nat.and_mod_two_pow]
theorem nI_or (a b : Nat) : nI a ||| nI b = nI (a ||| b) := by
  apply Int32.toBitVec_inj.mp
  apply BitVec.eq_of_toNat_eq
  simp [nI, Nat.or_mod_two_pow]
theorem sh1 : ∀ w, w < 31 → (1 : Int32) <<< (nI w &&& 31) = nI (2 ^ w) := by decide +kernel
set_option maxRecDepth 100000 in
theorem lowb : ∀ r, r < 1024 → 0 < r → nI r &&& -(nI r) = nI (2 ^ tz r) := by decide +kernel
set_option maxRecDepth 100000 in
theorem bc_0 : ∀ s, s < 1024 → bc s = 0 → s = 0 := by decide +kernel
set_option maxRecDepth 100000 in
theorem low_lt : ∀ r, r < 1024 → 0 < r → r ^^^ 2 ^ tz r < r := by decide +kernel
theorem x_lt {a b : Nat} (ha : a < 1024) (hb : b < 1024) : a ^^^ b < 1024 := Nat.xor_lt_two_pow (n := 10) ha hb
theorem p_lt {w : Nat} (h : w < 10) : 2 ^ w < 1024 := Nat.pow_lt_pow_right (by decide) h
theorem b_lt {s i : Nat} (hs : s < 1024) (h : s.testBit i = true) : i < 10 := by
  rcases Nat.lt_or_ge i 10 with q | q
  · exact q
  · have h2 : 2 ^ 10 ≤ 2 ^ i := Nat.pow_le_pow_right (show 0 < 2 by decide) q
    have : s < 2 ^ i := Nat.lt_of_lt_of_le hs h2
    rw [Nat.testBit_lt_two_pow this] at h
    cases h
theorem bc_x {s w : Nat} (hw : w < 10) (h : s.testBit w = true) : bc (s ^^^ 2 ^ w) + 1 = bc s := cn_flip (i := w) h (xb_eq h) (fun j hj => xb_ne (Ne.symm hj)) hw
