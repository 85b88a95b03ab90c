/-! SEATS: the wheels behind -/
theorem bit1 {B b : Nat} (hB : B < 1024) (hb : b < 10) : (nI B >>> (nI b &&& 31) &&& 1 = 1) ↔ B.testBit b = true := by
  rw [bitI hB hb]
  cases B.testBit b with
  | true => exact ⟨fun _ => rfl, fun _ => rfl⟩
  | false => exact ⟨fun z => absurd z (by decide), fun z => absurd z (by decide)⟩
theorem cSb_ok {F : Nat → Nat} {G B fu : Nat} {ft : Nat → Int32} (hF : ∀ w, w < 10 → F w < 1024) (hft : ∀ w, w < 10 → ft w = nI (F w)) (hfu : fu = 11) (hB : B < 1024) : ∀ d b ws (s : St) W, b + d = 10 → SeS F G ws s.2 → (∀ k, b ≤ k → ws.testBit k = false) → (∀ k, W.testBit k = true ↔ ws.testBit k = true ∨ (b ≤ k ∧ B.testBit k = true)) → ((cSb fu ft (nI G) (nI B) d b s).1 = true ↔ MtA F G W)
  | 0, b, ws, s, W, hb, hs, hz, hW => by
    refine ⟨fun _ => hs.mt.sub (fun w hw => ?_), fun _ => rfl⟩
    rcases (hW w).mp hw with z | ⟨z, y⟩
    · exact z
    · have := b_lt hB y
      omega
  | d + 1, b, ws, s, W, hb, hs, hz, hW => by
    have hb10 : b < 10 := by omega
    rw [cSb]
    by_cases c : B.testBit b = true
    · rw [if_pos ((bit1 hB hb10).mpr c)]
      have k := seat_ok (G := G) hF hft hfu hb10 (hz b (Nat.le_refl _)) hs
      revert k
      cases sOM ft (nI G) fu (nI b) (0, s.2) with
      | mk r s2 =>
        intro k
        have sub : ∀ w, (ws ||| 2 ^ b).testBit w = true → W.testBit w = true := fun w hw => by
          rw [or_bit, Bool.or_eq_true, decide_eq_true_eq] at hw
          rcases hw with z | z
          · exact (hW w).mpr (Or.inl z)
          · rw [← z]
            exact (hW b).mpr (Or.inr ⟨Nat.le_refl _, c⟩)
        cases r with
        | false =>
          have n1 := (k.2 rfl).2
          exact ⟨fun z => absurd z Bool.false_ne_true, fun m => absurd (m.sub sub) n1⟩
        | true =>
          obtain ⟨s1, _⟩ := k.1 rfl
          refine cSb_ok hF hft hfu hB d (b + 1) (ws ||| 2 ^ b) s2 W (by omega) s1 (fun q hq => or_f (hz q (by omega)) (by omega)) (fun q => ?_)
          rw [hW q, or_bit, Bool.or_eq_true, decide_eq_true_eq]
          constructor
          · rintro (z | ⟨z, y⟩)
            · exact Or.inl (Or.inl z)
            · by_cases e : b = q
              · exact Or.inl (Or.inr e)
              · exact Or.inr ⟨by omega, y⟩
          · rintro ((z | z) | ⟨z, y⟩)
            · exact Or.inl z
            · rw [← z]
              exact Or.inr ⟨Nat.le_refl _, c⟩
            · exact Or.inr ⟨by omega, y⟩
    · rw [if_neg (fun z => c ((bit1 hB hb10).mp z))]
      refine cSb_ok hF hft hfu hB d (b + 1) ws s W (by omega) hs (fun q hq => hz q (by omega)) (fun q => ?_)
      rw [hW q]
      constructor
      · rintro (z | ⟨z, y⟩)
        · exact Or.inl z
        · by_cases e : b = q
          · rw [← e] at y
            exact absurd y c
          · exact Or.inr ⟨by omega, y⟩
      · rintro (z | ⟨z, y⟩)
        · exact Or.inl z
        · exact Or.inr ⟨by omega, y⟩
