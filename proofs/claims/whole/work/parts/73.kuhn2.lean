/-! SEATS: the search is right -/
theorem nI_ne1 {b : Nat} (h : b < 10) : nI b ≠ -1 := nI_m1 (by omega)
theorem tb_f {S T p : Nat} (hs : ∀ p, S.testBit p = true → T.testBit p = true) (hp : T.testBit p = false) : S.testBit p = false := by
  cases c : S.testBit p with
  | false => rfl
  | true => rw [hs p c] at hp; cases hp
theorem or_sub (S p : Nat) : ∀ q, S.testBit q = true → (S ||| 2 ^ p).testBit q = true := fun q hq => by rw [or_bit, hq]; rfl
theorem or_f {S p q : Nat} (h : S.testBit q = false) (hne : q ≠ p) : (S ||| 2 ^ p).testBit q = false := by rw [or_bit, h]; simp [Ne.symm hne]
theorem or_t (S p : Nat) : (S ||| 2 ^ p).testBit p = true := by rw [or_bit]; simp
/-- a free place -/
theorem seat_free {F : Nat → Nat} {G S j p : Nat} {h : Nat → Int32} (hj : j < 10) (hp : p < 10) (ha : av F G j p) (hs : S.testBit p = false) (o : OkS F G S h) (hn : ¬ AtS S h (nI j)) (h1 : h p = -1) : PtS F G S h (nI j) (hU h p (nI j)) := by
  have hu : ∀ q, q ≠ p → hU h p (nI j) q = h q := fun q hq => if_neg hq
  have hup : hU h p (nI j) p = nI j := if_pos rfl
  refine ⟨fun q hq => hu q (fun z => ?_), ⟨fun q hq qs => ?_, fun q r hq hr qs rs e ne => ?_⟩, fun v hv => ⟨fun ⟨q, hq, qs, e⟩ => ?_, fun z => ?_⟩⟩
  · subst z
    rcases hq with w | w
    · rw [hs] at w; cases w
    · omega
  · by_cases c : q = p
    · subst c
      exact Or.inr ⟨j, hj, hup, ha⟩
    · rw [hu q c]
      exact o.1 q hq qs
  · by_cases c : q = p
    · by_cases d : r = p
      · rw [c, d]
      · rw [c, hup, hu r d] at e
        exact absurd ⟨r, hr, rs, e.symm⟩ hn
    · by_cases d : r = p
      · rw [d, hup, hu q c] at e
        exact absurd ⟨q, hq, qs, e⟩ hn
      · rw [hu q c, hu r d] at e
        rw [hu q c] at ne
        exact o.2 q r hq hr qs rs e ne
  · by_cases c : q = p
    · rw [c, hup] at e
      exact Or.inl e.symm
    · rw [hu q c] at e
      exact Or.inr ⟨q, hq, qs, e⟩
  · rcases z with z | ⟨r, hr, rs, e⟩
    · exact ⟨p, hp, hs, by rw [hup, z]⟩
    · have c : r ≠ p := fun w => hv (by rw [← e, w, h1])
      exact ⟨r, hr, rs, by rw [hu r c]; exact e⟩
/-- the holder has moved -/
theorem seat_move {F : Nat → Nat} {G S j p v : Nat} {h h2 : Nat → Int32} (hj : j < 10) (hv : v < 10) (hp : p < 10) (ha : av F G j p) (hs : S.testBit p = false) (hn : ¬ AtS S h (nI j)) (h1 : h p = nI v) (k : PtS F G (S ||| 2 ^ p) h (nI v) h2) : PtS F G S h (nI j) (hU h2 p (nI j)) := by
  obtain ⟨k1, k2, k3⟩ := k
  have hu : ∀ q, q ≠ p → hU h2 p (nI j) q = h2 q := fun q hq => if_neg hq
  have hup : hU h2 p (nI j) p = nI j := if_pos rfl
  have noj : ∀ r, r < 10 → r ≠ p → S.testBit r = false → h2 r ≠ nI j := fun r hr d rs e => by
    rcases (k3 (nI j) (nI_ne1 hj)).mp ⟨r, hr, or_f rs d, e⟩ with z | ⟨q, hq, qs, eq⟩
    · exact hn ⟨p, hp, hs, by rw [h1, z]⟩
    · exact hn ⟨q, hq, tb_f (or_sub S p) qs, eq⟩
  refine ⟨fun q hq => ?_, ⟨fun q hq qs => ?_, fun q r hq hr qs rs e ne => ?_⟩, fun w hw => ⟨fun ⟨q, hq, qs, e⟩ => ?_, fun z => ?_⟩⟩
  · have c : q ≠ p := fun z => by
      subst z
      rcases hq with w | w
      · rw [hs] at w; cases w
      · omega
    rw [hu q c]
    exact k1 q (hq.elim (fun z => Or.inl (or_sub S p q z)) Or.inr)
  · by_cases c : q = p
    · subst c
      exact Or.inr ⟨j, hj, hup, ha⟩
    · rw [hu q c]
      exact k2.1 q hq (or_f qs c)
  · by_cases c : q = p
    · by_cases d : r = p
      · rw [c, d]
      · rw [c, hup, hu r d] at e
        exact absurd e.symm (noj r hr d rs)
    · by_cases d : r = p
      · rw [d, hup, hu q c] at e
        exact absurd e (noj q hq c qs)
      · rw [hu q c, hu r d] at e
        rw [hu q c] at ne
        exact k2.2 q r hq hr (or_f qs c) (or_f rs d) e ne
  · by_cases c : q = p
    · rw [c, hup] at e
      exact Or.inl e.symm
    · rw [hu q c] at e
      rcases (k3 w hw).mp ⟨q, hq, or_f qs c, e⟩ with z | ⟨r, hr, rs, er⟩
      · exact Or.inr ⟨p, hp, hs, by rw [h1, z]⟩
      · exact Or.inr ⟨r, hr, tb_f (or_sub S p) rs, er⟩
  · have lift : AtS (S ||| 2 ^ p) h2 w → AtS S (hU h2 p (nI j)) w := fun ⟨q, hq, qs, e⟩ => by
      have c : q ≠ p := fun y => by rw [y, or_t] at qs; cases qs
      exact ⟨q, hq, tb_f (or_sub S p) qs, by rw [hu q c]; exact e⟩
    rcases z with z | ⟨r, hr, rs, e⟩
    · exact ⟨p, hp, hs, by rw [hup, z]⟩
    · by_cases c : r = p
      · refine lift ((k3 w hw).mpr (Or.inl ?_))
        rw [← e, c, h1]
      · exact lift ((k3 w hw).mpr (Or.inr ⟨r, hr, or_f rs c, e⟩))
theorem sLp_ok {F : Nat → Nat} {G f j : Nat} {h : Nat → Int32} {rc : Int32 → St → Bool × St} (hF : ∀ w, w < 10 → F w < 1024) (hj : j < 10) (hrc : ∀ S v, S < 1024 → 11 ≤ bc S + f → v < 10 → OkS F G S h → ¬ AtS S h (nI v) → Res F G S h v (rc (nI v) (nI S, h))) : ∀ d p S0 S, p + d = 10 → (∀ q, S0.testBit q = true → S.testBit q = true) → S < 1024 → 11 ≤ bc S + (f + 1) → OkS F G S0 h → ¬ AtS S0 h (nI j) → ClS F G S0 S h → (∀ q, q < p → av F G j q → S.testBit q = true) → Res F G S0 h j (sLp rc (nI (F j)) (nI G) (nI j) d p (nI S, h))
  | 0, p, S0, S, hp, hs, hS, hb, o, hn, hc, ha => by
    refine ⟨fun z => absurd z Bool.false_ne_true, fun _ => ⟨rfl, S, rfl, hS, hs, fun q hq a => ha q (by omega) a, hc⟩⟩
  | d + 1, p, S0, S, hp, hs, hS, hb, o, hn, hc, ha => by
    have hp10 : p < 10 := by omega
    rw [sLp]
    dsimp only
    by_cases c : (F j).testBit p = true ∧ G.testBit p = false ∧ S.testBit p = false
    · rw [if_neg (fun z => (testU (hF j hj) hp10).mp z c)]
      obtain ⟨c1, c2, c3⟩ := c
      have c0 := tb_f hs c3
      have oS := o.sub hs
      have hnS : ¬ AtS S h (nI j) := fun ⟨q, hq, qs, e⟩ => hn ⟨q, hq, tb_f hs qs, e⟩
      rw [bt_n hp10, nI_or]
      by_cases e1 : h p = -1
      · rw [if_pos e1]
        exact ⟨fun _ => ⟨PtS.up hs o (nI_ne1 hj) hn (seat_free hj hp10 ⟨c1, c2⟩ c3 oS hnS e1), _, or_lt hS hp10, rfl⟩, fun z => by cases z⟩
      · rw [if_neg e1]
        rcases o.1 p hp10 c0 with z | ⟨v, hv, ev, _⟩
        · exact absurd z e1
        have o1 := oS.sub (or_sub S p)
        have nv : ¬ AtS (S ||| 2 ^ p) h (nI v) := fun ⟨r, hr, rs, er⟩ => by
          have := o.2 p r hp10 hr c0 (tb_f hs (tb_f (or_sub S p) rs)) (by rw [ev, er]) e1
          rw [← this, or_t] at rs
          cases rs
        have r := hrc (S ||| 2 ^ p) v (or_lt hS hp10) (by rw [bc_or hp10 c3]; omega) hv o1 nv
        rw [ev]
        revert r
        cases rc (nI v) (nI (S ||| 2 ^ p), h) with
        | mk b s2 =>
          intro r
          cases b with
          | true =>
            obtain ⟨r1, T, hT, eT⟩ := r.1 rfl
            exact ⟨fun _ => ⟨PtS.up hs o (nI_ne1 hj) hn (seat_move hj hv hp10 ⟨c1, c2⟩ c3 hnS ev r1), T, hT, eT⟩, fun z => by cases z⟩
          | false =>
            obtain ⟨r1, T, eT, t1, t2, t3, t4⟩ := r.2 rfl
            have r1 : s2.2 = h := r1
            have eT : s2.1 = nI T := eT
            have es : s2 = (nI T, h) := by rw [← r1, ← eT]
            have sT : ∀ q, S.testBit q = true → T.testBit q = true := fun q hq => t2 q (or_sub S p q hq)
            show Res F G S0 h j (sLp rc (nI (F j)) (nI G) (nI j) d (p + 1) s2)
            rw [es]
            refine sLp_ok hF hj hrc d (p + 1) S0 T (by omega) (fun q hq => sT q (hs q hq)) t1 (by have := bc_mono sT; omega) o hn (fun q hq qt q0 => ?_) (fun q hq a => ?_)
            · cases cS : S.testBit q with
              | true =>
                obtain ⟨u, hu, eu, au⟩ := hc q hq cS q0
                exact ⟨u, hu, eu, fun y hy ay => sT y (au y hy ay)⟩
              | false =>
                by_cases eq : q = p
                · rw [eq]
                  exact ⟨v, hv, ev, t3⟩
                · exact t4 q hq qt (or_f cS eq)
            · by_cases eq : q = p
              · rw [eq]
                exact t2 p (or_t S p)
              · exact sT q (ha q (by omega) a)
    · rw [if_pos ((testU (hF j hj) hp10).mpr c)]
      refine sLp_ok hF hj hrc d (p + 1) S0 S (by omega) hs hS hb o hn hc (fun q hq a => ?_)
      by_cases e : q = p
      · rw [e] at a ⊢
        cases cS : S.testBit p with
        | true => rfl
        | false => exact absurd ⟨a.1, a.2, cS⟩ c
      · exact ha q (by omega) a
theorem sOM_ok {F : Nat → Nat} {G : Nat} {ft : Nat → Int32} {h : Nat → Int32} (hF : ∀ w, w < 10 → F w < 1024) (hft : ∀ w, w < 10 → ft w = nI (F w)) : ∀ f S j, S < 1024 → 11 ≤ bc S + f → j < 10 → OkS F G S h → ¬ AtS S h (nI j) → Res F G S h j (sOM ft (nI G) f (nI j) (nI S, h))
  | 0, S, j, hS, hb, hj, o, hn => by
    have := bc_le S
    omega
  | f + 1, S, j, hS, hb, hj, o, hn => by
    rw [sOM, if_pos ⟨nI_le (a := 0) (Nat.zero_le _) (by omega), (nI_ltI (b := 10) (by omega) (by omega)).mpr hj⟩, pN_n (by omega), hft j hj]
    exact sLp_ok hF hj (fun T v hT hb2 hv o2 n2 => sOM_ok hF hft f T v hT hb2 hv o2 n2) 10 0 S S (by decide) (fun _ z => z) hS hb o hn (fun q _ q1 q2 => by rw [q1] at q2; cases q2) (fun q hq => by omega)
