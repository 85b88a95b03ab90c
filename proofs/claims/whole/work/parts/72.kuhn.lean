/-! SEATS: what the search finds -/
theorem bv_an (x y : BitVec 32) : x &&& (y ^^^ BitVec.allOnes 32) = x ^^^ (x &&& y) := by
  apply BitVec.eq_of_getLsbD_eq
  intro i hi
  rw [BitVec.getLsbD_and, BitVec.getLsbD_xor, BitVec.getLsbD_xor, BitVec.getLsbD_and, BitVec.getLsbD_allOnes, decide_eq_true hi]
  cases x.getLsbD i <;> cases y.getLsbD i <;> rfl
theorem anot (a x : Int32) : a &&& (x ^^^ -1) = a ^^^ (a &&& x) := by
  apply Int32.toBitVec_inj.mp
  have e : (-1 : Int32).toBitVec = BitVec.allOnes 32 := by decide
  rw [Int32.toBitVec_and, Int32.toBitVec_xor, Int32.toBitVec_xor, Int32.toBitVec_and, e]
  exact bv_an _ _
theorem bt_n {p : Nat} (hp : p < 10) : bt p = nI (2 ^ p) := sh1 p (by omega)
theorem an_lt {a b : Nat} (ha : a < 1024) : a ^^^ (a &&& b) < 1024 := x_lt ha (Nat.lt_of_le_of_lt Nat.and_le_left ha)
theorem an_bit (a b p : Nat) : (a ^^^ (a &&& b)).testBit p = (a.testBit p && !b.testBit p) := by
  rw [Nat.testBit_xor, Nat.testBit_and]
  cases a.testBit p <;> cases b.testBit p <;> rfl
theorem nI_z {a : Nat} (ha : a < 1024) : nI a = 0 ↔ a = 0 := by
  constructor
  · intro h
    exact (nI_eq (b := 0) (by omega) (by decide)).mp h
  · intro h
    rw [h]
    rfl
theorem testU {F G S p : Nat} (hF : F < 1024) (hp : p < 10) : (nI F &&& (nI G ^^^ -1) &&& (nI S ^^^ -1) &&& bt p = 0) ↔ ¬ (F.testBit p = true ∧ G.testBit p = false ∧ S.testBit p = false) := by
  rw [anot, anot, nI_and, nI_xor, nI_and, nI_xor, bt_n hp, nI_and]
  have hlt := an_lt (b := S) (an_lt (b := G) hF)
  rw [nI_z (Nat.lt_of_le_of_lt Nat.and_le_left hlt), and_p, an_bit, an_bit]
  cases F.testBit p <;> cases G.testBit p <;> cases S.testBit p <;> simp
theorem or_bit (S p q : Nat) : (S ||| 2 ^ p).testBit q = (S.testBit q || decide (p = q)) := by rw [Nat.testBit_or, Nat.testBit_two_pow]
theorem or_lt {S p : Nat} (hS : S < 1024) (hp : p < 10) : S ||| 2 ^ p < 1024 := Nat.or_lt_two_pow (n := 10) hS (p_lt hp)
theorem cn_mono {p q : Nat → Bool} : ∀ {n : Nat}, (∀ i, i < n → p i = true → q i = true) → cn p n ≤ cn q n
  | 0, _ => Nat.le_refl _
  | n + 1, h => by
    have ih := cn_mono (p := p) (q := q) (n := n) (fun i hi => h i (by omega))
    by_cases c : p n = true
    · rw [cn_y c, cn_y (h n (Nat.lt_succ_self n) c)]
      omega
    · rw [cn_n c]
      by_cases c2 : q n = true
      · rw [cn_y c2]; omega
      · rw [cn_n c2]; exact ih
theorem bc_mono {S T : Nat} (h : ∀ p, S.testBit p = true → T.testBit p = true) : bc S ≤ bc T := cn_mono (fun i _ => h i)
theorem bc_or {S p : Nat} (hp : p < 10) (h : S.testBit p = false) : bc (S ||| 2 ^ p) = bc S + 1 := (cn_flip (p := fun i => (S ||| 2 ^ p).testBit i) (q := fun i => S.testBit i) (i := p) (by rw [or_bit]; simp) h (fun j hj => by rw [or_bit]; simp [Ne.symm hj]) hp).symm
/-- place p can be had by wheel w -/
def av (F : Nat → Nat) (G w p : Nat) : Prop := (F w).testBit p = true ∧ G.testBit p = false
/-- outside S: who holds a place may have it, and has no other -/
def OkS (F : Nat → Nat) (G S : Nat) (h : Nat → Int32) : Prop := (∀ p, p < 10 → S.testBit p = false → h p = -1 ∨ ∃ v, v < 10 ∧ h p = nI v ∧ av F G v p) ∧ ∀ p q, p < 10 → q < 10 → S.testBit p = false → S.testBit q = false → h p = h q → h p ≠ -1 → p = q
def AtS (S : Nat) (h : Nat → Int32) (v : Int32) : Prop := ∃ p, p < 10 ∧ S.testBit p = false ∧ h p = v
/-- one more is seated -/
def PtS (F : Nat → Nat) (G S : Nat) (h : Nat → Int32) (wh : Int32) (h' : Nat → Int32) : Prop := (∀ p, S.testBit p = true ∨ 10 ≤ p → h' p = h p) ∧ OkS F G S h' ∧ ∀ v, v ≠ -1 → (AtS S h' v ↔ v = wh ∨ AtS S h v)
/-- those of T that are new are held by wheels that can have places of T alone -/
def ClS (F : Nat → Nat) (G S T : Nat) (h : Nat → Int32) : Prop := ∀ p, p < 10 → T.testBit p = true → S.testBit p = false → ∃ v, v < 10 ∧ h p = nI v ∧ ∀ q, q < 10 → av F G v q → T.testBit q = true
def PfS (F : Nat → Nat) (G S : Nat) (h : Nat → Int32) (j T : Nat) : Prop := T < 1024 ∧ (∀ p, S.testBit p = true → T.testBit p = true) ∧ (∀ p, p < 10 → av F G j p → T.testBit p = true) ∧ ClS F G S T h
def Res (F : Nat → Nat) (G S : Nat) (h : Nat → Int32) (j : Nat) (r : Bool × St) : Prop := (r.1 = true → PtS F G S h (nI j) r.2.2 ∧ ∃ T, T < 1024 ∧ r.2.1 = nI T) ∧ (r.1 = false → r.2.2 = h ∧ ∃ T, r.2.1 = nI T ∧ PfS F G S h j T)
theorem OkS.sub {F : Nat → Nat} {G S T : Nat} {h : Nat → Int32} (o : OkS F G S h) (hs : ∀ p, S.testBit p = true → T.testBit p = true) : OkS F G T h := by
  have f : ∀ p, T.testBit p = false → S.testBit p = false := fun p hp => by
    cases c : S.testBit p with
    | false => rfl
    | true => rw [hs p c] at hp; cases hp
  exact ⟨fun p hp ht => o.1 p hp (f p ht), fun p q hp hq h1 h2 => o.2 p q hp hq (f p h1) (f q h2)⟩
/-- what was found beyond S was found beyond S0 -/
theorem PtS.up {F : Nat → Nat} {G S0 S : Nat} {h h' : Nat → Int32} {wh : Int32} (hs : ∀ p, S0.testBit p = true → S.testBit p = true) (o : OkS F G S0 h) (hw : wh ≠ -1) (hn : ¬ AtS S0 h wh) (k : PtS F G S h wh h') : PtS F G S0 h wh h' := by
  obtain ⟨k1, k2, k3⟩ := k
  have f : ∀ p, S.testBit p = false → S0.testBit p = false := fun p hp => by
    cases c : S0.testBit p with
    | false => rfl
    | true => rw [hs p c] at hp; cases hp
  have mix : ∀ p q, p < 10 → q < 10 → S0.testBit p = false → S.testBit p = true → S.testBit q = false → h' p = h' q → h' p ≠ -1 → False := by
    intro p q hp hq p0 pt qt e ne
    have ep := k1 p (Or.inl pt)
    rcases (k3 (h' q) (by rw [← e]; exact ne)).mp ⟨q, hq, qt, rfl⟩ with z | ⟨r, hr, rt, er⟩
    · exact hn ⟨p, hp, p0, by rw [← ep, e, z]⟩
    · have : p = r := o.2 p r hp hr p0 (f r rt) (by rw [er, ← e, ep]) (by rw [← ep]; exact ne)
      rw [this, rt] at pt
      cases pt
  refine ⟨fun p hp => k1 p (hp.elim (fun z => Or.inl (hs p z)) Or.inr), ⟨fun p hp p0 => ?_, fun p q hp hq p0 q0 e ne => ?_⟩, fun v hv => ⟨fun ⟨p, hp, p0, e⟩ => ?_, fun z => ?_⟩⟩
  · cases c : S.testBit p with
    | false => exact k2.1 p hp c
    | true =>
      rw [k1 p (Or.inl c)]
      exact o.1 p hp p0
  · cases c : S.testBit p with
    | false =>
      cases d : S.testBit q with
      | false => exact k2.2 p q hp hq c d e ne
      | true => exact absurd (mix q p hq hp q0 d c e.symm (by rw [← e]; exact ne)) id
    | true =>
      cases d : S.testBit q with
      | false => exact absurd (mix p q hp hq p0 c d e ne) id
      | true =>
        have e1 := k1 p (Or.inl c)
        have e2 := k1 q (Or.inl d)
        exact o.2 p q hp hq p0 q0 (by rw [← e1, ← e2, e]) (by rw [← e1]; exact ne)
  · cases c : S.testBit p with
    | false =>
      rcases (k3 v hv).mp ⟨p, hp, c, e⟩ with z | ⟨r, hr, rt, er⟩
      · exact Or.inl z
      · exact Or.inr ⟨r, hr, f r rt, er⟩
    | true => exact Or.inr ⟨p, hp, p0, by rw [← k1 p (Or.inl c)]; exact e⟩
  · rcases z with z | ⟨r, hr, r0, er⟩
    · obtain ⟨p, hp, pt, e⟩ := (k3 v hv).mpr (Or.inl z)
      exact ⟨p, hp, f p pt, e⟩
    · cases c : S.testBit r with
      | true => exact ⟨r, hr, r0, by rw [k1 r (Or.inl c)]; exact er⟩
      | false =>
        obtain ⟨p, hp, pt, e⟩ := (k3 v hv).mpr (Or.inr ⟨r, hr, c, er⟩)
        exact ⟨p, hp, f p pt, e⟩
