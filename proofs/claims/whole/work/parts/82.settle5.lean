/-! SEATS: as the reference chooses -/
/-- the places left -/
def osG (ma G os : Nat) : Prop := ∀ q, os.testBit q = true ↔ q < ma ∧ G.testBit q = false
theorem osG_s {ma G os p : Nat} (h : osG ma G os) (hp : os.testBit p = true) : osG ma (G ||| 2 ^ p) (os ^^^ 2 ^ p) := fun q => by
  by_cases e : p = q
  · rw [← e, xb_eq hp, or_t]
    exact ⟨fun z => absurd z Bool.false_ne_true, fun z => absurd z.2 (by decide)⟩
  · rw [xb_ne e, h q, or_bit]
    simp [e]
theorem av_os {F : Nat → Nat} {ma G os w p : Nat} (hm : ∀ q, (F w).testBit q = true → q < ma) (h : osG ma G os) : av F G w p ↔ (F w).testBit p = true ∧ os.testBit p = true := by
  unfold av
  rw [h p]
  exact ⟨fun z => ⟨z.1, hm p z.1, z.2⟩, fun z => ⟨z.1, z.2.2⟩⟩
theorem MtA_os {F : Nat → Nat} {ma G os W : Nat} (hW : W < 1024) (hm : ∀ w q, w < 10 → (F w).testBit q = true → q < ma) (h : osG ma G os) : MtA F G W ↔ Mt F W os := by
  have e : ∀ w p, W.testBit w = true → (av F G w p ↔ (F w).testBit p = true ∧ os.testBit p = true) := fun w p hw => av_os (fun q => hm w q (b_lt hW hw)) h
  constructor
  · rintro ⟨f, f1, f2⟩
    exact ⟨f, fun w hw => (e w _ hw).mp (f1 w hw), f2⟩
  · rintro ⟨f, f1, f2⟩
    exact ⟨f, fun w hw => (e w _ hw).mpr (f1 w hw), f2⟩
theorem okP_ff {F : Nat → Nat} {ma G os W w p : Nat} (hw : w < 10) (hW : W < 1024) (hm : ∀ w q, w < 10 → (F w).testBit q = true → q < ma) (h : osG ma G os) : okP F G W w p ↔ ffP F w W os p := by
  unfold okP ffP
  rw [av_os (fun q => hm w q hw) h]
  constructor
  · rintro ⟨⟨a, b⟩, c⟩
    exact ⟨a, b, (MtA_os hW hm (osG_s h b)).mp c⟩
  · rintro ⟨a, b, c⟩
    exact ⟨⟨a, b⟩, (MtA_os hW hm (osG_s h b)).mpr c⟩
theorem Mk_of {Fp Fs : Nat → Nat} {ma mc : Nat} (hp : ∀ w q, w < 10 → (Fp w).testBit q = true → q < ma) (hs : ∀ w q, w < 10 → (Fs w).testBit q = true → q < mc) : ∀ (T0 T1 : List (Nat × Nat)) (be G0 G1 G0' G1' o0 o1 : Nat), be < 1024 → osG ma G0 o0 → osG mc G1 o1 → SqS Fp T0 be G0 G0' → SqS Fs T1 be G1 G1' → ∃ o0' o1', MkS Fp Fs (List.zipWith (fun a b => (a.1, a.2, b.2)) T0 T1) be o0 o1 o0' o1' ∧ osG ma G0' o0' ∧ osG mc G1' o1' ∧ T0.map (fun q => q.1) = T1.map (fun q => q.1)
  | [], T1, be, G0, G1, G0', G1', o0, o1, hbe, h0, h1, s0, s1 => by
    obtain ⟨e0, e1⟩ := s0
    cases T1 with
    | nil => exact ⟨o0, o1, ⟨e0, rfl, rfl⟩, by rw [e1]; exact h0, by rw [s1.2]; exact h1, rfl⟩
    | cons q t => exact absurd e0 s1.1
  | a :: t0, T1, be, G0, G1, G0', G1', o0, o1, hbe, h0, h1, s0, s1 => by
    cases T1 with
    | nil => exact absurd s1.1 s0.1
    | cons b t1 =>
      obtain ⟨b0, a1, ⟨a2, a3, a4⟩, a5⟩ := s0
      obtain ⟨_, c1, ⟨c2, c3, c4⟩, c5⟩ := s1
      have e : b.1 = a.1 := c1.trans a1.symm
      rw [e] at c3 c4 c5
      have tz1 := tz_ok be hbe (by omega)
      have hw : a.1 < 10 := by rw [a1]; exact tz1.1
      have hW : be ^^^ 2 ^ a.1 < 1024 := x_lt hbe (p_lt hw)
      have i0 : ∀ r, okP Fp G0 (be ^^^ 2 ^ a.1) a.1 r ↔ ffP Fp a.1 (be ^^^ 2 ^ a.1) o0 r := fun r => okP_ff hw hW hp h0
      have i1 : ∀ r, okP Fs G1 (be ^^^ 2 ^ a.1) a.1 r ↔ ffP Fs a.1 (be ^^^ 2 ^ a.1) o1 r := fun r => okP_ff hw hW hs h1
      have f0 := (i0 a.2).mp a3
      have f1 := (i1 b.2).mp c3
      obtain ⟨p0, p1, k1, k2, k3, k4⟩ := Mk_of hp hs t0 t1 (be ^^^ 2 ^ a.1) (G0 ||| 2 ^ a.2) (G1 ||| 2 ^ b.2) G0' G1' (o0 ^^^ 2 ^ a.2) (o1 ^^^ 2 ^ b.2) hW (osG_s h0 f0.2.1) (osG_s h1 f1.2.1) a5 c5
      refine ⟨p0, p1, ⟨b0, a1, ⟨a2, f0, fun r hr z => a4 r hr ((i0 r).mpr z)⟩, ⟨c2, f1, fun r hr z => c4 r hr ((i1 r).mpr z)⟩, k1⟩, k2, k3, ?_⟩
      rw [List.map_cons, List.map_cons, e, k4]
