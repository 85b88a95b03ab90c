/-! THE LAW: the class and the reference side by side -/
def PC (m0 a : Nat) : Bool := !(decide (m0 ≤ a) && decide (a < m0 + 35))
def PM (m0 a : Nat) : Bool := decide (m0 ≤ a) && decide (a < m0 + 34)
theorem PC_t {m0 a : Nat} (h : a < m0 ∨ m0 + 35 ≤ a) : PC m0 a = true := by
  unfold PC
  rcases h with h | h
  · rw [decide_eq_false (show ¬ m0 ≤ a by omega)]; rfl
  · rw [decide_eq_false (show ¬ a < m0 + 35 by omega), Bool.and_false]; rfl
theorem PC_f {m0 a : Nat} (h : m0 ≤ a ∧ a < m0 + 35) : PC m0 a = false := by
  unfold PC
  rw [decide_eq_true h.1, decide_eq_true h.2]; rfl
theorem PC_e {m0 a : Nat} (h : PC m0 a = true) : a < m0 ∨ m0 + 35 ≤ a := by
  rcases Nat.lt_or_ge a m0 with z | z
  · exact Or.inl z
  · rcases Nat.lt_or_ge a (m0 + 35) with y | y
    · rw [PC_f ⟨z, y⟩] at h; cases h
    · exact Or.inr y
theorem PM_t {m0 a : Nat} (h : m0 ≤ a ∧ a < m0 + 34) : PM m0 a = true := by
  unfold PM
  rw [decide_eq_true h.1, decide_eq_true h.2]; rfl
theorem PM_f {m0 a : Nat} (h : a < m0 ∨ m0 + 34 ≤ a) : PM m0 a = false := by
  unfold PM
  rcases h with h | h
  · rw [decide_eq_false (show ¬ m0 ≤ a by omega)]; rfl
  · rw [decide_eq_false (show ¬ a < m0 + 34 by omega), Bool.and_false]
theorem mOf_33 : ∀ f, f < 43 → mOf f ≤ 33 := by decide +kernel
theorem mOf_33' {f : Nat} (hf : mAr f = true) : mOf f ≤ 33 := mOf_33 f (mAr_el hf).1
/-- two stores agree at a cell -/
def agr (S T : Hp) (a : Nat) : Prop := gK T a = gK S a ∧ (∀ t k, gI T t k a = gI S t k a) ∧ (∀ t k, gR T t k a = gR S t k a) ∧ gN T a = gN S a ∧ (∀ j, gA T a j = gA S a j) ∧ ∀ j, gQ T a j = gQ S a j
theorem RX.cg {C : Cs} {S T : Hp} (h : RX C S) (hz : gZ S ≤ gZ T) (ha : ∀ t i, i < cN C t → agr S T (cA C t i)) : RX C T := by
  obtain ⟨⟨h1, h2⟩, ⟨h3, h4⟩, ⟨h5, h6⟩, h7⟩ := h
  refine ⟨⟨fun t i hi => ⟨(ha t i hi).1.trans (h1 t i hi).1, Nat.lt_of_lt_of_le (h1 t i hi).2 hz⟩, h2⟩, ⟨fun t k i ht hi hr => ((ha t i hi).2.1 t k).trans (h3 t k i ht hi hr), fun t k i ht hi hr => ⟨((ha t i hi).2.2.1 t k).trans (h4 t k i ht hi hr).1, (h4 t k i ht hi hr).2⟩⟩, ⟨fun i j hi => ((ha 20 i hi).2.2.2.2.1 j).trans (h5 i j hi), fun i hi => (ha 20 i hi).2.2.2.1.trans (h6 i hi)⟩, fun t u1 u2 => ?_⟩
  obtain ⟨c1, c2, c3⟩ := h7 t u1 u2
  have g := ha t 0 (by rw [c1]; exact Nat.zero_lt_one)
  exact ⟨c1, g.2.2.2.1.trans c2, fun j => ⟨(g.2.2.2.2.2 j).trans (c3 j).1, (c3 j).2⟩⟩
theorem RM.cg {m0 : Nat} {M : Ms} {S T : Hp} (h : RM m0 M S) (ha : ∀ a, m0 ≤ a → a < m0 + 34 → agr S T a) : RM m0 M T := by
  obtain ⟨h1, h2, h3⟩ := h
  have g0 := ha m0 (Nat.le_refl _) (by omega)
  refine ⟨g0.1.trans h1, fun f hf => ?_, fun f hf => (g0.2.1 10 f).trans (h3 f hf)⟩
  obtain ⟨c1, c2, c3, c4⟩ := h2 f hf
  have := mOf_33' hf
  have g := ha (m0 + mOf f) (by omega) (by omega)
  exact ⟨(g0.2.2.1 10 f).trans c1, g.1.trans c2, g.2.2.2.1.trans c3, fun i => (g.2.2.2.2.1 i).trans (c4 i)⟩
theorem agr_rst {P : Nat → Bool} {S : Hp} {a : Nat} (h : P a = true) : agr S (rst P S) a := ⟨rst_k h, fun _ _ => rfl, fun _ _ => rfl, rfl, fun _ => rfl, fun _ => rfl⟩
theorem agr_y {P : Nat → Bool} {S w : Hp} {a : Nat} (h : P a = true ∨ gZ S ≤ a) : agr w (mrg P S w) a := by
  obtain ⟨a1, a2, a3, a4, a5, a6, -⟩ := mrg_y (w := w) h
  exact ⟨a1, a2, a3, a4, a5, a6⟩
theorem agr_n {P : Nat → Bool} {S w : Hp} {a : Nat} (h : P a = false) (h2 : a < gZ S) : agr S (mrg P S w) a := by
  obtain ⟨a1, a2, a3, a4, a5, a6, -⟩ := mrg_n (w := w) h h2
  exact ⟨a1, a2, a3, a4, a5, a6⟩
/-- the law's state -/
def Lw (x0 m0 : Nat) (w : Hp) (C : Cs) (M : Ms) : Prop := (RX C w ∧ cA C 9 0 = x0 ∧ ∀ t i, i < cN C t → cA C t i < m0 ∨ m0 + 35 ≤ cA C t i) ∧ RM m0 M w ∧ (gK w (m0 + 34) = some 22 ∧ gN w (m0 + 34) = 1) ∧ m0 + 35 ≤ gZ w
section LWS
variable {x0 m0 : Nat} {w w' : Hp} {C D : Cs} {M N : Ms}
theorem Lw.x (h : Lw x0 m0 w C M) : RX C w := h.1.1
theorem Lw.a (h : Lw x0 m0 w C M) : cA C 9 0 = x0 := h.1.2.1
theorem Lw.c (h : Lw x0 m0 w C M) : RX C (rst (PC m0) w) := h.x.cg (Nat.le_refl _) (fun t i hi => agr_rst (PC_t (h.1.2.2 t i hi)))
theorem Lw.m (h : Lw x0 m0 w C M) : RM m0 M (rst (PM m0) w) := h.2.1.cg (fun a h1 h2 => agr_rst (PM_t ⟨h1, h2⟩))
theorem Lw.c' (h : Lw x0 m0 w C M) (hX : RX D w') (ha : cA D 9 0 = x0) (dom : ∀ a, gK w' a ≠ none → PC m0 a = true ∨ gZ w ≤ a) (gz : gZ w ≤ gZ w') : Lw x0 m0 (mrg (PC m0) w w') D M := by
  have hz := h.2.2.2
  have dm : ∀ t i, i < cN D t → PC m0 (cA D t i) = true ∨ gZ w ≤ cA D t i := fun t i hi => dom _ (by rw [hX.k t i hi]; exact Option.some_ne_none _)
  refine ⟨⟨hX.cg (Nat.le_refl _) (fun t i hi => agr_y (dm t i hi)), ha, fun t i hi => ?_⟩, h.2.1.cg (fun a h1 h2 => agr_n (PC_f ⟨h1, by omega⟩) (by omega)), ?_, Nat.le_trans hz gz⟩
  · rcases dm t i hi with z | z
    · exact PC_e z
    · exact Or.inr (by omega)
  · have g : agr w (mrg (PC m0) w w') (m0 + 34) := agr_n (PC_f ⟨by omega, by omega⟩) (by omega)
    exact ⟨g.1.trans h.2.2.1.1, g.2.2.2.1.trans h.2.2.1.2⟩
theorem Lw.m' (h : Lw x0 m0 w C M) (hM : RM m0 N w') (gz : gZ w ≤ gZ w') : Lw x0 m0 (mrg (PM m0) w w') C N := by
  have hz := h.2.2.2
  refine ⟨⟨h.x.cg gz (fun t i hi => agr_n (PM_f ?_) (h.x.z t i hi)), h.1.2.1, h.1.2.2⟩, hM.cg (fun a h1 h2 => agr_y (Or.inl (PM_t ⟨h1, h2⟩))), ?_, Nat.le_trans hz gz⟩
  · rcases h.1.2.2 t i hi with z | z
    · exact Or.inl z
    · exact Or.inr (by omega)
  · have g : agr w (mrg (PM m0) w w') (m0 + 34) := agr_n (PM_f (Or.inr (by omega))) (by omega)
    exact ⟨g.1.trans h.2.2.1.1, g.2.2.2.1.trans h.2.2.1.2⟩
end LWS
def RelE (C : Cs) (M : Ms) : Prop := ∃ np nl nh nw ns ng dy tt, ∃ R Q : Nat → List Nat, Rel C M np nl nh nw ns ng dy tt R Q
theorem Rel.e {C : Cs} {M : Ms} {np nl nh nw ns ng dy tt : Nat} {R Q : Nat → List Nat} (h : Rel C M np nl nh nw ns ng dy tt R Q) : RelE C M := ⟨np, nl, nh, nw, ns, ng, dy, tt, R, Q, h⟩
/-- what a call of the reference over the law's store gives -/
def PrM (x0 m0 : Nat) (spM : Sp) (as : List Value) (W : Hp) (v : Int32) : Prop := gK W m0 = some 10 ∧ ∀ Km : Option Value → Hp → Prop, (∀ w2, ((∀ a, gK w2 a ≠ none → PM m0 a = true ∨ gZ W ≤ a) → gZ W ≤ gZ w2 → ∃ C M, Lw x0 m0 (mrg (PM m0) W w2) C M ∧ RelE C M) → Km (some (.int v)) w2) → spM (.ref m0 :: as) (rst (PM m0) W) Km
/-- both give one answer, and stay the same -/
def Pair (x0 m0 : Nat) (spC spM : Sp) (as : List Value) : Prop := ∀ w C M, Lw x0 m0 w C M → RelE C M → ∀ Kc : Option Value → Hp → Prop, (∀ v w', ((∀ a, gK w' a ≠ none → PC m0 a = true ∨ gZ w ≤ a) → gZ w ≤ gZ w' → PrM x0 m0 spM as (mrg (PC m0) w w') v) → Kc (some (.int v)) w') → spC (.ref x0 :: as) (rst (PC m0) w) Kc
theorem pr_ok {x0 m0 : Nat} {w w' : Hp} {C D : Cs} {M : Ms} {spM : Sp} {as : List Value} {v : Int32} (h : Lw x0 m0 w C M) (hX : RX D w') (ha : cA D 9 0 = x0) (hs : ∀ W, Lw x0 m0 W D M → ∀ Km : Option Value → Hp → Prop, (∀ w2 N, RM m0 N w2 → RelE D N → Km (some (.int v)) w2) → spM (.ref m0 :: as) (rst (PM m0) W) Km) : (∀ a, gK w' a ≠ none → PC m0 a = true ∨ gZ w ≤ a) → gZ w ≤ gZ w' → PrM x0 m0 spM as (mrg (PC m0) w w') v := fun dom gz => by
  have hL := h.c' hX ha dom gz
  exact ⟨hL.2.1.k, fun Km hk => hs _ hL Km (fun w2 N hN hR => hk w2 (fun d g => ⟨D, N, hL.m' hN g, hR⟩))⟩
theorem pa_home {x0 m0 : Nat} {r o b y : Int32} : Pair x0 m0 sp_chome sp_home [.int r, .int o, .int b, .int y] := by
  rintro w C M hL ⟨np, nl, nh, nw, ns, ng, dy, tt, R, Q, H⟩ Kc hK
  have hN := id H.1
  refine ⟨C, r, o, b, y, nh, by rw [hL.a], hL.c, hN.1, hN.2.2.2.1.1, fun ok a w' hX => hK _ _ (pr_ok hL hX hL.a fun W hW Km hm => ⟨m0, M, r, o, b, y, nh, rfl, hW.m, ⟨hN.2.2.2.1.2, hN.2.2.2.1.1.2.1⟩, fun _ w2 hM => hm w2 _ hM (Rel_home a ok H).e, fun n => absurd ok n⟩), fun no => hK _ _ (pr_ok hL hL.c hL.a fun W hW Km hm => ⟨m0, M, r, o, b, y, nh, rfl, hW.m, ⟨hN.2.2.2.1.2, hN.2.2.2.1.1.2.1⟩, fun ok => absurd ok no, fun _ w2 hM => hm w2 _ hM (Rel_41 0 H).e⟩)⟩
