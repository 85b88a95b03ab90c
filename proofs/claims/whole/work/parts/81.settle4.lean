/-! SEATS: all that are chosen get their places -/
theorem least {P : Nat → Prop} : ∀ n, (∃ p, p < n ∧ P p) → ∃ p, p < n ∧ P p ∧ ∀ r, r < p → ¬ P r
  | 0, ⟨p, hp, _⟩ => by omega
  | n + 1, h => by
    by_cases c : ∃ p, p < n ∧ P p
    · obtain ⟨p, hp, h1, h2⟩ := least n c
      exact ⟨p, by omega, h1, h2⟩
    · obtain ⟨p, hp, h1⟩ := h
      have e : p = n := by
        rcases Nat.lt_or_ge p n with z | z
        · exact absurd ⟨p, z, h1⟩ c
        · omega
      exact ⟨p, hp, h1, fun r hr z => c ⟨r, by omega, z⟩⟩
/-- the wheels of be in their order, each with the first place that does -/
def SqS (F : Nat → Nat) : List (Nat × Nat) → Nat → Nat → Nat → Prop
  | [], be, G, G' => be = 0 ∧ G' = G
  | q :: t, be, G, G' => be ≠ 0 ∧ q.1 = tz be ∧ (q.2 < 10 ∧ okP F G (be ^^^ 2 ^ q.1) q.1 q.2 ∧ ∀ r, r < q.2 → ¬ okP F G (be ^^^ 2 ^ q.1) q.1 r) ∧ SqS F t (be ^^^ 2 ^ q.1) (G ||| 2 ^ q.2) G'
theorem MtA_st {F : Nat → Nat} {G be i : Nat} (hF : F i < 1024) (hi : be.testBit i = true) (m : MtA F G be) : ∃ p, p < 10 ∧ okP F G (be ^^^ 2 ^ i) i p := by
  obtain ⟨f, f1, f2⟩ := m
  refine ⟨f i, av_lt hF (f1 i hi), f1 i hi, f, fun w hw => ?_, fun w v hw hv => ?_⟩
  · have ne : i ≠ w := fun z => by rw [← z, xb_eq hi] at hw; cases hw
    rw [xb_ne ne] at hw
    refine ⟨(f1 w hw).1, or_f (f1 w hw).2 (fun z => ne (f2 w i hw hi z).symm)⟩
  · have ne : i ≠ w := fun z => by rw [← z, xb_eq hi] at hw; cases hw
    have ne2 : i ≠ v := fun z => by rw [← z, xb_eq hi] at hv; cases hv
    rw [xb_ne ne] at hw
    rw [xb_ne ne2] at hv
    exact f2 w v hw hv
theorem stl_ok {F : Nat → Nat} {B fu n : Nat} {ft : Nat → Int32} (hF : ∀ w, w < 10 → F w < 1024) (hft : ∀ w, w < 10 → ft w = nI (F w)) (hfu : fu = 11) (hn : n = 10) (hB : B < 1024) : ∀ d i (z : St3) G be, i + d = 10 → z.2.1 = nI G → be < 1024 → (∀ k, be.testBit k = true ↔ i ≤ k ∧ B.testBit k = true) → MtA F G be → ∃ T G', SqS F T be G G' ∧ (stl fu n ft (nI B) d i z).2.1 = nI G' ∧ (∀ k, k < i → (stl fu n ft (nI B) d i z).1 k = z.1 k) ∧ ∀ q, q ∈ T → (stl fu n ft (nI B) d i z).1 q.1 = nI q.2
  | 0, i, z, G, be, hi, hz, hbe, hk, m => by
    have e : be = 0 := by
      apply Nat.eq_of_testBit_eq
      intro k
      rw [z_bit]
      cases c : be.testBit k with
      | false => rfl
      | true =>
        obtain ⟨a, b⟩ := (hk k).mp c
        have := b_lt hB b
        omega
    exact ⟨[], G, ⟨e, rfl⟩, hz, fun _ _ => rfl, fun q hq => by simp at hq⟩
  | d + 1, i, z, G, be, hi, hz, hbe, hk, m => by
    have hi10 : i < 10 := by omega
    rw [stl]
    by_cases c : B.testBit i = true
    · rw [if_pos ((bit1 hB hi10).mpr c)]
      have bi : be.testBit i = true := (hk i).mpr ⟨Nat.le_refl _, c⟩
      have b0 : be ≠ 0 := fun w => by rw [w, z_bit] at bi; cases bi
      have tzi : tz be = i := by
        have t1 := (hk (tz be)).mp (tz_ok be hbe (by omega)).2
        rcases Nat.lt_or_ge i (tz be) with w | w
        · have := tz_lo be hbe i w
          rw [this] at bi
          cases bi
        · omega
      have hW : ∀ q, (be ^^^ 2 ^ i).testBit q = true ↔ i + 1 ≤ q ∧ B.testBit q = true := fun q => by
        by_cases e : i = q
        · rw [← e, xb_eq bi]
          exact ⟨fun w => absurd w Bool.false_ne_true, fun w => by omega⟩
        · rw [xb_ne e, hk q]
          exact ⟨fun w => ⟨by omega, w.2⟩, fun w => ⟨by omega, w.2⟩⟩
      obtain ⟨p, hp, ok, fst⟩ := least 10 (MtA_st (hF i hi10) bi m)
      have ez : z.2 = (nI G, z.2.2) := by rw [← hz]
      have k1 := (fPl_ok (G := G) (k := d) hF hft hfu hB (by omega) hW n 0 z.2.2 (by omega) (fun q hq => by omega)).1 p hp ok fst
      rw [← ez] at k1
      obtain ⟨T, G', h1, h2, h3, h4⟩ := stl_ok hF hft hfu hn hB d (i + 1) (hU z.1 i (fPl fu ft (nI B) i d n 0 z.2).1, (fPl fu ft (nI B) i d n 0 z.2).2) (G ||| 2 ^ p) (be ^^^ 2 ^ i) (by omega) k1.2 (x_lt hbe (p_lt hi10)) hW ok.2
      refine ⟨(i, p) :: T, G', ⟨b0, tzi.symm, ⟨hp, ok, fst⟩, h1⟩, h2, fun k hk2 => ?_, fun q hq => ?_⟩
      · rw [h3 k (by omega)]
        exact if_neg (by omega)
      · rcases List.mem_cons.mp hq with w | w
        · rw [w]
          dsimp only
          rw [h3 i (Nat.lt_succ_self i)]
          exact (if_pos rfl).trans k1.1
        · exact h4 q w
    · rw [if_neg (fun w => c ((bit1 hB hi10).mp w))]
      obtain ⟨T, G', h1, h2, h3, h4⟩ := stl_ok hF hft hfu hn hB d (i + 1) z G be (by omega) hz hbe (fun q => by
        rw [hk q]
        exact ⟨fun w => ⟨by
          by_cases e : i = q
          · rw [← e] at w
            exact absurd w.2 c
          · omega, w.2⟩, fun w => ⟨by omega, w.2⟩⟩) m
      exact ⟨T, G', h1, h2, fun k hk2 => h3 k (by omega), h4⟩
