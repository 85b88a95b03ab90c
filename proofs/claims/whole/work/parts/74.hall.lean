/-! SEATS: who can't be seated can't be matched -/
theorem cn_inj {p : Nat → Bool} {f : Nat → Nat} : ∀ {n m : Nat} {q : Nat → Bool}, (∀ i, i < n → p i = true → f i < m ∧ q (f i) = true) → (∀ i j, i < n → j < n → p i = true → p j = true → f i = f j → i = j) → cn p n ≤ cn q m
  | 0, m, q, _, _ => Nat.zero_le _
  | n + 1, m, q, h, hi => by
    by_cases c : p n = true
    · rw [cn_y c]
      obtain ⟨f1, f2⟩ := h n (Nat.lt_succ_self n) c
      have fl := cn_flip (p := q) (q := fun i => q i && !decide (i = f n)) (i := f n) f2 (by simp) (fun j hj => by simp [hj]) f1
      have ih := cn_inj (p := p) (f := f) (n := n) (m := m) (q := fun i => q i && !decide (i = f n)) (fun i hn hp => by
        obtain ⟨a, b⟩ := h i (by omega) hp
        refine ⟨a, ?_⟩
        have ne : f i ≠ f n := fun z => by have := hi i n (by omega) (Nat.lt_succ_self n) hp c z; omega
        simp [b, ne]) (fun i j a b => hi i j (by omega) (by omega))
      omega
    · rw [cn_n c]
      exact cn_inj (fun i hn => h i (by omega)) (fun i j a b => hi i j (by omega) (by omega))
/-- the wheels of ws can have a place each -/
def MtA (F : Nat → Nat) (G ws : Nat) : Prop := ∃ f : Nat → Nat, (∀ w, ws.testBit w = true → av F G w (f w)) ∧ ∀ w v, ws.testBit w = true → ws.testBit v = true → f w = f v → w = v
/-- h seats the wheels of ws and no others -/
def SeS (F : Nat → Nat) (G ws : Nat) (h : Nat → Int32) : Prop := OkS F G 0 h ∧ ws < 1024 ∧ ∀ v, v < 10 → (AtS 0 h (nI v) ↔ ws.testBit v = true)
theorem z_bit (p : Nat) : (0 : Nat).testBit p = false := Nat.zero_testBit p
theorem av_lt {F : Nat → Nat} {G w p : Nat} (hF : F w < 1024) (h : av F G w p) : p < 10 := b_lt hF h.1
theorem hall {F : Nat → Nat} {G ws j T : Nat} {h : Nat → Int32} (hF : ∀ w, w < 10 → F w < 1024) (hj : j < 10) (s : SeS F G ws h) (hn : ws.testBit j = false) (t : PfS F G 0 h j T) : ¬ MtA F G (ws ||| 2 ^ j) := by
  rintro ⟨f, f1, f2⟩
  obtain ⟨o, hws, at1⟩ := s
  obtain ⟨t1, t2, t3, t4⟩ := t
  have hol : ∀ p, p < 10 → T.testBit p = true → ∃ v, v < 10 ∧ h p = nI v ∧ ws.testBit v = true ∧ ∀ q, q < 10 → av F G v q → T.testBit q = true := fun p hp pt => by
    obtain ⟨v, hv, ev, a⟩ := t4 p hp pt (z_bit p)
    exact ⟨v, hv, ev, (at1 v hv).mp ⟨p, hp, z_bit p, ev⟩, a⟩
  have hV : ∀ v, ((List.range 10).any (fun p => T.testBit p && decide (h p = nI v))) = true ↔ ∃ p, p < 10 ∧ T.testBit p = true ∧ h p = nI v := fun v => by
    rw [List.any_eq_true]
    constructor
    · rintro ⟨p, hp, e⟩
      rw [List.mem_range] at hp
      rw [Bool.and_eq_true, decide_eq_true_eq] at e
      exact ⟨p, hp, e⟩
    · rintro ⟨p, hp, e⟩
      exact ⟨p, List.mem_range.mpr hp, by rw [Bool.and_eq_true, decide_eq_true_eq]; exact e⟩
  have inW : ∀ v, v < 10 → (∃ p, p < 10 ∧ T.testBit p = true ∧ h p = nI v) → ws.testBit v = true ∧ ∀ q, q < 10 → av F G v q → T.testBit q = true := fun v hv ⟨p, hp, pt, e⟩ => by
    obtain ⟨u, hu, eu, wu, au⟩ := hol p hp pt
    have : v = u := (nI_eq (by omega) (by omega)).mp (e.symm.trans eu)
    rw [this]
    exact ⟨wu, au⟩
  have jnot : ¬ ∃ p, p < 10 ∧ T.testBit p = true ∧ h p = nI j := fun z => by
    have := (inW j hj z).1
    rw [hn] at this
    cases this
  have c1 : cn (fun p => T.testBit p) 10 ≤ cn (fun v => (List.range 10).any (fun p => T.testBit p && decide (h p = nI v))) 10 := by
    refine cn_inj (f := fun p => pN (h p)) (fun p hp pt => ?_) (fun p q hp hq pt qt e => ?_)
    · obtain ⟨v, hv, ev, _⟩ := hol p hp pt
      rw [ev, pN_n (by omega)]
      exact ⟨hv, (hV v).mpr ⟨p, hp, pt, ev⟩⟩
    · obtain ⟨v, hv, ev, _⟩ := hol p hp pt
      obtain ⟨u, hu, eu, _⟩ := hol q hq qt
      rw [ev, eu, pN_n (by omega), pN_n (by omega)] at e
      exact o.2 p q hp hq (z_bit p) (z_bit q) (by rw [ev, eu, e]) (by rw [ev]; exact nI_ne1 hv)
  have c2 := cn_flip (p := fun v => (List.range 10).any (fun p => T.testBit p && decide (h p = nI v)) || decide (v = j)) (q := fun v => (List.range 10).any (fun p => T.testBit p && decide (h p = nI v))) (i := j) (by simp) (by
    cases c : (List.range 10).any (fun p => T.testBit p && decide (h p = nI j)) with
    | false => rfl
    | true => exact absurd ((hV j).mp c) jnot) (fun v hv => by simp [hv]) hj
  have wsj : ∀ v, v < 10 → ((List.range 10).any (fun p => T.testBit p && decide (h p = nI v)) || decide (v = j)) = true → (ws ||| 2 ^ j).testBit v = true ∧ ∀ q, q < 10 → av F G v q → T.testBit q = true := fun v hv z => by
    rw [Bool.or_eq_true, decide_eq_true_eq] at z
    rcases z with z | z
    · obtain ⟨a, b⟩ := inW v hv ((hV v).mp z)
      exact ⟨or_sub ws j v a, b⟩
    · rw [z]
      exact ⟨or_t ws j, t3⟩
  have c3 : cn (fun v => (List.range 10).any (fun p => T.testBit p && decide (h p = nI v)) || decide (v = j)) 10 ≤ cn (fun p => T.testBit p) 10 := by
    refine cn_inj (f := f) (fun v hv z => ?_) (fun v u hv hu z y e => ?_)
    · obtain ⟨a, b⟩ := wsj v hv z
      have fa := f1 v a
      have := av_lt (hF v hv) fa
      exact ⟨this, b (f v) this fa⟩
    · exact f2 v u (wsj v hv z).1 (wsj u hu y).1 e
  omega
/-- one wheel more -/
theorem seat_ok {F : Nat → Nat} {G ws j fu : Nat} {ft : Nat → Int32} {h : Nat → Int32} (hF : ∀ w, w < 10 → F w < 1024) (hft : ∀ w, w < 10 → ft w = nI (F w)) (hfu : fu = 11) (hj : j < 10) (hn : ws.testBit j = false) (s : SeS F G ws h) : ((sOM ft (nI G) fu (nI j) (0, h)).1 = true → SeS F G (ws ||| 2 ^ j) (sOM ft (nI G) fu (nI j) (0, h)).2.2 ∧ ∀ p, 10 ≤ p → (sOM ft (nI G) fu (nI j) (0, h)).2.2 p = h p) ∧ ((sOM ft (nI G) fu (nI j) (0, h)).1 = false → (sOM ft (nI G) fu (nI j) (0, h)).2.2 = h ∧ ¬ MtA F G (ws ||| 2 ^ j)) := by
  have nat : ¬ AtS 0 h (nI j) := fun z => by
    have := (s.2.2 j hj).mp z
    rw [hn] at this
    cases this
  have r := sOM_ok (G := G) (h := h) hF hft fu 0 j (by decide) (by omega) hj s.1 nat
  have r : Res F G 0 h j (sOM ft (nI G) fu (nI j) (0, h)) := r
  refine ⟨fun z => ?_, fun z => ?_⟩
  · obtain ⟨⟨k1, k2, k3⟩, _⟩ := r.1 z
    refine ⟨⟨k2, or_lt s.2.1 hj, fun v hv => ?_⟩, fun p hp => k1 p (Or.inr hp)⟩
    rw [k3 (nI v) (nI_ne1 hv), s.2.2 v hv, or_bit, Bool.or_eq_true, decide_eq_true_eq]
    constructor
    · rintro (w | w)
      · exact Or.inr ((nI_eq (by omega) (by omega)).mp w).symm
      · exact Or.inl w
    · rintro (w | w)
      · exact Or.inr w
      · exact Or.inl (by rw [w])
  · obtain ⟨e, T, _, pf⟩ := r.2 z
    exact ⟨e, hall hF hj s hn pf⟩
