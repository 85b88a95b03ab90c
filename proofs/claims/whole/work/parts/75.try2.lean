/-! SEATS: a wheel leaves; matchings of fewer -/
theorem unseat_ok {F : Nat → Nat} {G ws j : Nat} {h : Nat → Int32} (hj : j < 10) (hw : ws.testBit j = true) (s : SeS F G ws h) : SeS F G (ws ^^^ 2 ^ j) (uP h (nI j) 10) := by
  obtain ⟨o, hws, a⟩ := s
  have u : ∀ p, p < 10 → (h p = nI j ∧ uP h (nI j) 10 p = -1) ∨ (h p ≠ nI j ∧ uP h (nI j) 10 p = h p) := fun p hp => by
    unfold uP
    by_cases c : h p = nI j
    · exact Or.inl ⟨c, if_pos ⟨hp, c⟩⟩
    · exact Or.inr ⟨c, if_neg (fun z => c z.2)⟩
  refine ⟨⟨fun p hp ps => ?_, fun p q hp hq ps qs e ne => ?_⟩, x_lt hws (p_lt hj), fun v hv => ?_⟩
  · rcases u p hp with ⟨_, e⟩ | ⟨_, e⟩
    · exact Or.inl e
    · rw [e]
      exact o.1 p hp ps
  · rcases u p hp with ⟨_, e1⟩ | ⟨_, e1⟩
    · exact absurd e1 ne
    · rcases u q hq with ⟨_, e2⟩ | ⟨_, e2⟩
      · rw [e2] at e
        exact absurd e ne
      · rw [e1, e2] at e
        rw [e1] at ne
        exact o.2 p q hp hq ps qs e ne
  · by_cases c : v = j
    · rw [c, xb_eq hw]
      constructor
      · rintro ⟨p, hp, _, e⟩
        rcases u p hp with ⟨_, e1⟩ | ⟨n1, e1⟩
        · rw [e1] at e
          exact absurd e.symm (nI_ne1 hj)
        · rw [e1] at e
          exact absurd e n1
      · intro z
        cases z
    · rw [xb_ne (Ne.symm c), ← a v hv]
      constructor
      · rintro ⟨p, hp, ps, e⟩
        rcases u p hp with ⟨_, e1⟩ | ⟨_, e1⟩
        · rw [e1] at e
          exact absurd e.symm (nI_ne1 hv)
        · rw [e1] at e
          exact ⟨p, hp, ps, e⟩
      · rintro ⟨p, hp, ps, e⟩
        rcases u p hp with ⟨n1, _⟩ | ⟨_, e1⟩
        · rw [e] at n1
          exact absurd ((nI_eq (by omega) (by omega)).mp n1) c
        · exact ⟨p, hp, ps, by rw [e1]; exact e⟩
/-- who is seated is matched -/
theorem SeS.mt {F : Nat → Nat} {G ws : Nat} {h : Nat → Int32} (s : SeS F G ws h) : MtA F G ws := by
  obtain ⟨o, hws, a⟩ := s
  have ex : ∀ w, ws.testBit w = true → ∃ p, p < 10 ∧ h p = nI w := fun w hw => by
    obtain ⟨p, hp, _, e⟩ := (a w (b_lt hws hw)).mpr hw
    exact ⟨p, hp, e⟩
  have ch : ∃ f : Nat → Nat, ∀ w, ws.testBit w = true → f w < 10 ∧ h (f w) = nI w := by
    refine ⟨fun w => ((List.range 10).find? (fun p => decide (h p = nI w))).getD 0, fun w hw => ?_⟩
    obtain ⟨p, hp, e⟩ := ex w hw
    cases c : (List.range 10).find? (fun p => decide (h p = nI w)) with
    | none =>
      have := List.find?_eq_none.mp c p (List.mem_range.mpr hp)
      exact absurd (decide_eq_true e) this
    | some q =>
      have h1 := List.mem_of_find?_eq_some c
      have h2 := List.find?_some c
      have e3 : (fun w => ((List.range 10).find? (fun p => decide (h p = nI w))).getD 0) w = q := by
        show ((List.range 10).find? (fun p => decide (h p = nI w))).getD 0 = q
        rw [c]
        rfl
      rw [e3]
      exact ⟨List.mem_range.mp h1, of_decide_eq_true h2⟩
  obtain ⟨f, hf⟩ := ch
  refine ⟨f, fun w hw => ?_, fun w v hw hv e => ?_⟩
  · obtain ⟨f1, f2⟩ := hf w hw
    rcases o.1 (f w) f1 (z_bit _) with z | ⟨v, hv, ev, a2⟩
    · rw [f2] at z
      exact absurd z (nI_ne1 (b_lt hws hw))
    · have : w = v := (nI_eq (by have := b_lt hws hw; omega) (by omega)).mp (f2.symm.trans ev)
      rw [this] at a2 ⊢
      rw [this] at f1
      exact a2
  · have e1 := (hf w hw).2
    have e2 := (hf v hv).2
    rw [e, e2] at e1
    exact ((nI_eq (by have := b_lt hws hv; omega) (by have := b_lt hws hw; omega)).mp e1).symm
theorem MtA.sub {F : Nat → Nat} {G ws us : Nat} (m : MtA F G ws) (h : ∀ w, us.testBit w = true → ws.testBit w = true) : MtA F G us := by
  obtain ⟨f, f1, f2⟩ := m
  exact ⟨f, fun w hw => f1 w (h w hw), fun w v hw hv => f2 w v (h w hw) (h v hv)⟩
/-- seated, exactly when there is a matching -/
theorem seat_iff {F : Nat → Nat} {G ws j fu : Nat} {ft : Nat → Int32} {h : Nat → Int32} (hF : ∀ w, w < 10 → F w < 1024) (hft : ∀ w, w < 10 → ft w = nI (F w)) (hfu : fu = 11) (hj : j < 10) (hn : ws.testBit j = false) (s : SeS F G ws h) : (sOM ft (nI G) fu (nI j) (0, h)).1 = true ↔ MtA F G (ws ||| 2 ^ j) := by
  have k := seat_ok hF hft hfu hj hn s
  constructor
  · intro z
    exact (k.1 z).1.mt
  · intro m
    cases c : (sOM ft (nI G) fu (nI j) (0, h)).1 with
    | true => rfl
    | false => exact absurd m (k.2 c).2
theorem Mt_A {g : Nat → Nat} {ws os : Nat} (h : ∀ w p, ws.testBit w = true → ((g w).testBit p = true → os.testBit p = true)) : Mt g ws os ↔ MtA g 0 ws := by
  constructor
  · rintro ⟨f, f1, f2⟩
    exact ⟨f, fun w hw => ⟨(f1 w hw).1, z_bit _⟩, f2⟩
  · rintro ⟨f, f1, f2⟩
    exact ⟨f, fun w hw => ⟨(f1 w hw).1, h w _ hw (f1 w hw).1⟩, f2⟩
