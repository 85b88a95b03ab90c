/-! SEATS: the first place -/
theorem testV {F G p : Nat} (hF : F < 1024) (hp : p < 10) : (nI F &&& (nI G ^^^ -1) &&& bt p = 0) ↔ ¬ (F.testBit p = true ∧ G.testBit p = false) := by
  rw [anot, nI_and, nI_xor, bt_n hp, nI_and]
  have hlt := an_lt (b := G) hF
  rw [nI_z (Nat.lt_of_le_of_lt Nat.and_le_left hlt), and_p, an_bit]
  cases F.testBit p <;> cases G.testBit p <;> simp
theorem giveB {G p : Nat} (hp : p < 10) (h : G.testBit p = false) : nI (G ||| 2 ^ p) &&& (bt p ^^^ -1) = nI G := by
  rw [anot, bt_n hp, nI_and, nI_xor]
  apply congrArg nI
  apply Nat.eq_of_testBit_eq
  intro k
  rw [an_bit, or_bit, Nat.testBit_two_pow]
  by_cases e : p = k
  · rw [← e, h]; simp
  · simp [e]
/-- wheel i may have p, and the wheels behind can be seated still -/
def okP (F : Nat → Nat) (G W i p : Nat) : Prop := av F G i p ∧ MtA F (G ||| 2 ^ p) W
theorem fPl_ok {F : Nat → Nat} {B W fu i k : Nat} {ft : Nat → Int32} (hF : ∀ w, w < 10 → F w < 1024) (hft : ∀ w, w < 10 → ft w = nI (F w)) (hfu : fu = 11) (hB : B < 1024) (hik : i + 1 + k = 10) (hW : ∀ q, W.testBit q = true ↔ i + 1 ≤ q ∧ B.testBit q = true) {G : Nat} : ∀ d p (s : St), p + d = 10 → (∀ q, q < p → ¬ okP F G W i q) → (∀ q, q < 10 → okP F G W i q → (∀ r, r < q → ¬ okP F G W i r) → (fPl fu ft (nI B) i k d p (nI G, s)).1 = nI q ∧ (fPl fu ft (nI B) i k d p (nI G, s)).2.1 = nI (G ||| 2 ^ q)) ∧ ((∀ q, q < 10 → ¬ okP F G W i q) → (fPl fu ft (nI B) i k d p (nI G, s)).1 = -1 ∧ (fPl fu ft (nI B) i k d p (nI G, s)).2.1 = nI G)
  | 0, p, s, hp, hn => by
    refine ⟨fun q hq ok _ => absurd ok (hn q (by omega)), fun _ => ⟨rfl, rfl⟩⟩
  | d + 1, p, s, hp, hn => by
    have hp10 : p < 10 := by omega
    rw [fPl]
    dsimp only
    rw [hft i (by omega)]
    by_cases c : (F i).testBit p = true ∧ G.testBit p = false
    · rw [if_neg (fun z => (testV (hF i (by omega)) hp10).mp z c)]
      have e1 : nI G ||| bt p = nI (G ||| 2 ^ p) := by rw [bt_n hp10, nI_or]
      rw [e1]
      have ks := cSb_ok (G := G ||| 2 ^ p) hF hft hfu hB k (i + 1) 0 (s.1, flH s.2 10) W (by omega) (SeS_0 F _ s.2) (fun q _ => z_bit q) (fun q => by rw [hW q, z_bit]; exact ⟨fun z => Or.inr z, fun z => z.elim (fun y => absurd y Bool.false_ne_true) id⟩)
      revert ks
      cases cSb fu ft (nI (G ||| 2 ^ p)) (nI B) k (i + 1) (s.1, flH s.2 10) with
      | mk r s2 =>
        intro ks
        cases r with
        | true =>
          have ok : okP F G W i p := ⟨c, ks.mp rfl⟩
          refine ⟨fun q hq okq fq => ?_, fun z => absurd ok (z p hp10)⟩
          have : q = p := by
            rcases Nat.lt_trichotomy q p with z | z | z
            · exact absurd okq (hn q z)
            · exact z
            · exact absurd ok (fq p z)
          rw [this]
          exact ⟨rfl, rfl⟩
        | false =>
          have nok : ¬ okP F G W i p := fun z => absurd (ks.mpr z.2) Bool.false_ne_true
          dsimp only
          rw [giveB hp10 c.2]
          exact fPl_ok hF hft hfu hB hik hW d (p + 1) s2 (by omega) (fun q hq => by
            by_cases e : q = p
            · rw [e]; exact nok
            · exact hn q (by omega))
    · rw [if_pos ((testV (hF i (by omega)) hp10).mpr c)]
      exact fPl_ok hF hft hfu hB hik hW d (p + 1) s (by omega) (fun q hq => by
        by_cases e : q = p
        · rw [e]; exact fun z => c z.1
        · exact hn q (by omega))
