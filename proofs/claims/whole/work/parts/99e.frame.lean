/-! THE FRAME: a call over a part of the store -/
/-- the cells of P alone -/
def rst (P : Nat → Bool) (S : Hp) : Hp := (fun a => bif P a then gK S a else none, gI S, gR S, gN S, gA S, gQ S, gJ S, gZ S)
/-- what a call left of P, and what it made, over the rest -/
def mrg (P : Nat → Bool) (S w : Hp) : Hp := (fun a => bif P a || decide (gZ S ≤ a) then gK w a else gK S a, fun t k a => bif P a || decide (gZ S ≤ a) then gI w t k a else gI S t k a, fun t k a => bif P a || decide (gZ S ≤ a) then gR w t k a else gR S t k a, fun a => bif P a || decide (gZ S ≤ a) then gN w a else gN S a, fun a j => bif P a || decide (gZ S ≤ a) then gA w a j else gA S a j, fun a j => bif P a || decide (gZ S ≤ a) then gQ w a j else gQ S a j, fun a j => bif P a || decide (gZ S ≤ a) then gJ w a j else gJ S a j, gZ w)
section MRG
variable {P : Nat → Bool} {S w : Hp} {a : Nat}
theorem rst_k (h : P a = true) : gK (rst P S) a = gK S a := by show (bif P a then gK S a else none) = _; rw [h, cond_true]
theorem rst_n (h : P a = false) : gK (rst P S) a = none := by show (bif P a then gK S a else none) = _; rw [h, cond_false]
theorem mrg_y (h : P a = true ∨ gZ S ≤ a) : gK (mrg P S w) a = gK w a ∧ (∀ t k, gI (mrg P S w) t k a = gI w t k a) ∧ (∀ t k, gR (mrg P S w) t k a = gR w t k a) ∧ gN (mrg P S w) a = gN w a ∧ (∀ j, gA (mrg P S w) a j = gA w a j) ∧ (∀ j, gQ (mrg P S w) a j = gQ w a j) ∧ ∀ j, gJ (mrg P S w) a j = gJ w a j := by
  have e : (P a || decide (gZ S ≤ a)) = true := by
    rcases h with h | h
    · rw [h]; rfl
    · rw [decide_eq_true h, Bool.or_true]
  refine ⟨?_, fun t k => ?_, fun t k => ?_, ?_, fun j => ?_, fun j => ?_, fun j => ?_⟩
  · show (bif P a || decide (gZ S ≤ a) then gK w a else gK S a) = _; rw [e, cond_true]
  · show (bif P a || decide (gZ S ≤ a) then gI w t k a else gI S t k a) = _; rw [e, cond_true]
  · show (bif P a || decide (gZ S ≤ a) then gR w t k a else gR S t k a) = _; rw [e, cond_true]
  · show (bif P a || decide (gZ S ≤ a) then gN w a else gN S a) = _; rw [e, cond_true]
  · show (bif P a || decide (gZ S ≤ a) then gA w a j else gA S a j) = _; rw [e, cond_true]
  · show (bif P a || decide (gZ S ≤ a) then gQ w a j else gQ S a j) = _; rw [e, cond_true]
  · show (bif P a || decide (gZ S ≤ a) then gJ w a j else gJ S a j) = _; rw [e, cond_true]
theorem mrg_n (h : P a = false) (h2 : a < gZ S) : gK (mrg P S w) a = gK S a ∧ (∀ t k, gI (mrg P S w) t k a = gI S t k a) ∧ (∀ t k, gR (mrg P S w) t k a = gR S t k a) ∧ gN (mrg P S w) a = gN S a ∧ (∀ j, gA (mrg P S w) a j = gA S a j) ∧ (∀ j, gQ (mrg P S w) a j = gQ S a j) ∧ ∀ j, gJ (mrg P S w) a j = gJ S a j := by
  have e : (P a || decide (gZ S ≤ a)) = false := by rw [h, decide_eq_false (by omega)]; rfl
  refine ⟨?_, fun t k => ?_, fun t k => ?_, ?_, fun j => ?_, fun j => ?_, fun j => ?_⟩
  · show (bif P a || decide (gZ S ≤ a) then gK w a else gK S a) = _; rw [e, cond_false]
  · show (bif P a || decide (gZ S ≤ a) then gI w t k a else gI S t k a) = _; rw [e, cond_false]
  · show (bif P a || decide (gZ S ≤ a) then gR w t k a else gR S t k a) = _; rw [e, cond_false]
  · show (bif P a || decide (gZ S ≤ a) then gN w a else gN S a) = _; rw [e, cond_false]
  · show (bif P a || decide (gZ S ≤ a) then gA w a j else gA S a j) = _; rw [e, cond_false]
  · show (bif P a || decide (gZ S ≤ a) then gQ w a j else gQ S a j) = _; rw [e, cond_false]
  · show (bif P a || decide (gZ S ≤ a) then gJ w a j else gJ S a j) = _; rw [e, cond_false]
theorem mrg_z : gZ (mrg P S w) = gZ w := rfl
end MRG
theorem pl_g {L : List Nat} {f : Nat → va_E} {k : Nat} {q : Nat × va_E} (h : (va_pl L f)[k]? = some q) : L[k]? = some q.1 ∧ q.2 = f q.1 := by
  unfold va_pl at h
  rw [List.getElem?_map] at h
  cases e : L[k]? with
  | none => rw [e] at h; cases h
  | some a =>
    rw [e] at h
    have := Option.some.inj h
    rw [← this]
    exact ⟨rfl, rfl⟩
theorem pl_nd {A : Nat → Prop} {L : List Nat} {f : Nat → va_E} (h : va_D A (va_pl L f)) : L.Nodup := by
  refine List.pairwise_iff_getElem.mpr (fun i j hi hj hij e => ?_)
  have g : ∀ k (hk : k < L.length), (va_pl L f)[k]? = some (L[k], f L[k]) := fun k hk => by
    unfold va_pl
    rw [List.getElem?_map, List.getElem?_eq_getElem hk]
    rfl
  have := h.1 i j _ _ (g i hi) (g j hj) e
  omega
theorem nd_pl {A : Nat → Prop} {L : List Nat} {f : Nat → va_E} (h : L.Nodup) (hA : ∀ a, a ∈ L → A a) : va_D A (va_pl L f) := by
  refine ⟨fun i j p q hp hq e => ?_, fun k q hq => hA _ (List.mem_of_getElem? (pl_g hq).1)⟩
  have h1 := (pl_g hp).1
  have h2 := (pl_g hq).1
  rw [← e] at h2
  exact gI_u h h1 h2
/-- what a call over P may change -/
def AP (P : Nat → Bool) (A : Nat → Prop) (z : Nat) : Nat → Prop := fun q => (P q = true ∧ A q) ∨ z ≤ q
theorem hd_rst {G : GG} {A : Nat → Prop} {S : Hp} {H : Heap} (P : Nat → Bool) (h : hd G A S H) : hd G (AP P A (gZ S)) (rst P S) H := by
  obtain ⟨h0, LP, hL, hP, hD⟩ := h
  refine ⟨h0, LP.filter P, fun a => ?_, fun k x hx => ?_, nd_pl ((pl_nd hD).filter _) (fun a ha => ?_)⟩
  · rw [List.mem_filter, ← hL a]
    cases e : P a with
    | true => rw [rst_k e]; exact ⟨fun z => ⟨z, rfl⟩, fun z => z.1⟩
    | false => rw [rst_n e]; exact ⟨fun z => absurd rfl z, fun z => absurd z.2 Bool.false_ne_true⟩
  · obtain ⟨x1, x2⟩ := pl_g hx
    have hm := List.mem_filter.mp (List.mem_of_getElem? x1)
    obtain ⟨q, hq⟩ := va_pl_get (X := []) (f := enc G S) hm.1
    have e : enc G (rst P S) x.1 = enc G S x.1 := enc_eq (rst_k hm.2) (fun _ _ => rfl) (fun _ _ => rfl) rfl (fun _ => rfl) (fun _ => rfl) (fun _ => rfl)
    have ex : x = (x.1, enc G S x.1) := by rw [← e, ← x2]
    rw [ex]
    exact hP q _ hq
  · have hm := List.mem_filter.mp ha
    obtain ⟨q, hq⟩ := va_pl_get (X := []) (f := enc G S) hm.1
    exact Or.inl ⟨hm.2, hD.2 q _ hq⟩
theorem hd_mrg {G : GG} {A : Nat → Prop} {S w : Hp} {H H1 : Heap} {P : Nat → Bool} (h : hd G A S H) (hA : ∀ q, gZ S ≤ q → A q) (h1 : hd G (AP P A (gZ S)) w H1) (ho : ∀ q : Nat, q < H.size → ¬ AP P A (gZ S) q → H1[q]? = H[q]?) : hd G A (mrg P S w) H1 ∧ (∀ a, gK w a ≠ none → P a = true ∨ gZ S ≤ a) := by
  obtain ⟨h0, LP, hL, hP, hD⟩ := h
  obtain ⟨k0, LQ, kL, kP, kD⟩ := h1
  have dom : ∀ a, a ∈ LQ → AP P A (gZ S) a := fun a ha => by
    obtain ⟨q, hq⟩ := va_pl_get (X := []) (f := enc G w) ha
    exact kD.2 q _ hq
  have dom2 : ∀ a, a ∈ LQ → P a = true ∨ gZ S ≤ a := fun a ha => (dom a ha).elim (fun z => Or.inl z.1) Or.inr
  have lt : ∀ a, a ∈ LP → a < gZ S := fun a ha => by
    obtain ⟨q, hq⟩ := va_pl_get (X := []) (f := enc G S) ha
    have := (hP q _ hq).lt
    rw [h0] at this
    exact this
  have inA : ∀ a, a ∈ LP → A a := fun a ha => by
    obtain ⟨q, hq⟩ := va_pl_get (X := []) (f := enc G S) ha
    exact hD.2 q _ hq
  refine ⟨⟨k0, LP.filter (fun a => !P a) ++ LQ, fun a => ?_, fun k x hx => ?_, nd_pl (List.nodup_append.mpr ⟨(pl_nd hD).filter _, pl_nd kD, fun a ha b hb e => ?_⟩) (fun a ha => ?_)⟩, fun a ha => dom2 a ((kL a).mp ha)⟩
  · rw [List.mem_append, List.mem_filter, ← kL a, ← hL a]
    by_cases e : P a = true ∨ gZ S ≤ a
    · rw [(mrg_y e).1]
      refine ⟨fun z => Or.inr z, fun z => z.elim (fun y => ?_) id⟩
      rcases e with e | e
      · rw [e] at y
        exact absurd y.2 Bool.false_ne_true
      · have := lt a ((hL a).mp y.1)
        omega
    · have e1 : P a = false := by
        cases q : P a with
        | false => rfl
        | true => exact absurd (Or.inl q) e
      have e2 : a < gZ S := by
        rcases Nat.lt_or_ge a (gZ S) with z | z
        · exact z
        · exact absurd (Or.inr z) e
      rw [(mrg_n e1 e2).1]
      refine ⟨fun z => Or.inl ⟨z, by rw [e1]; rfl⟩, fun z => z.elim (fun y => y.1) (fun y => absurd (dom2 a ((kL a).mp y)) e)⟩
  · obtain ⟨x1, x2⟩ := pl_g hx
    rcases List.mem_append.mp (List.mem_of_getElem? x1) with hm | hm
    · have hm := List.mem_filter.mp hm
      have e1 : P x.1 = false := by simpa using hm.2
      have e2 := lt _ hm.1
      obtain ⟨m1, m2, m3, m4, m5, m6, m7⟩ := mrg_n (w := w) e1 e2
      have e : enc G (mrg P S w) x.1 = enc G S x.1 := enc_eq m1 m2 m3 m4 m5 m6 m7
      have ex : x = (x.1, enc G S x.1) := by rw [← e, ← x2]
      obtain ⟨q, hq⟩ := va_pl_get (X := []) (f := enc G S) hm.1
      rw [ex]
      refine (hP q _ hq).kept (ho _ (by rw [h0]; exact e2) (fun z => ?_))
      rcases z with z | z
      · rw [e1] at z
        exact absurd z.1 Bool.false_ne_true
      · omega
    · obtain ⟨m1, m2, m3, m4, m5, m6, m7⟩ := mrg_y (w := w) (dom2 _ hm)
      have e : enc G (mrg P S w) x.1 = enc G w x.1 := enc_eq m1 m2 m3 m4 m5 m6 m7
      have ex : x = (x.1, enc G w x.1) := by rw [← e, ← x2]
      obtain ⟨q, hq⟩ := va_pl_get (X := []) (f := enc G w) hm
      rw [ex]
      exact kP q _ hq
  · have ha := List.mem_filter.mp ha
    rw [← e] at hb
    have e1 : P a = false := by simpa using ha.2
    rcases dom2 a hb with z | z
    · rw [e1] at z; cases z
    · have := lt a ha.1
      omega
  · rcases List.mem_append.mp ha with z | z
    · exact inA a (List.mem_filter.mp z).1
    · rcases dom a z with y | y
      · exact y.2
      · exact hA a y
section FRC
variable {p : Program} {l : Launch} {e : Env} {R : Room} {s : State} {m : MethodId} {args : Array Value} {below : List Frame} {meth : Method} {c : Code} {H : Heap} {locs : List Loc} {cells slots : Nat} {Q : State → Prop}
variable {cc : ByteArray} {pc nL ow : Nat} {G : GG} {rt : Option FieldType} {A : Nat → Prop} {ls : Array Slot} {rest : List Value} {S : Hp}
/-- behind a call over P -/
theorem fr_k (hAA : ∀ q, A q → s.heap.size ≤ q) (hA : ∀ q, s.heap.size ≤ q → A q) (hh : hd G A S H) (hS : va_S A s.heap H locs) {P : Nat → Bool} {w : Hp} {H1 : Heap} {locs1 : List Loc} (h1 : hd G (AP P A (gZ S)) w H1) (hS1 : va_S (AP P A (gZ S)) H H1 locs1) : (∀ a, gK w a ≠ none → P a = true ∨ gZ S ≤ a) ∧ gZ S ≤ gZ w ∧ hd G A (mrg P S w) H1 ∧ va_S A s.heap H1 locs1 := by
  have hAz : ∀ q, gZ S ≤ q → A q := fun q hq => hA q (Nat.le_trans hS.1 (by rw [hh.1]; exact hq))
  obtain ⟨a1, a2⟩ := hd_mrg hh hAz h1 hS1.2.1
  refine ⟨a2, by rw [← hh.1, ← h1.1]; exact hS1.1, a1, Nat.le_trans hS.1 hS1.1, fun q q1 q2 => ?_, fun q hq => ?_⟩
  · rw [hS1.2.1 q (Nat.lt_of_lt_of_le q1 hS.1) (fun z => q2 (z.elim (fun y => y.2) (hAz q)))]
    exact hS.2.1 q q1 q2
  · exact (hS1.2.2 q hq).elim (fun y => y.2) (hAz _)
theorem r_callVF (C : Cx p s m args meth c cc nL ow G rt) (hAA : ∀ q, A q → s.heap.size ≤ q) (hA : ∀ q, s.heap.size ≤ q → A q) (hh : hd G A S H) (hS : va_S A s.heap H locs) (hls : ls.size = nL) {idx k lv lv' mc' ms' b : Nat} {sp : Sp} {As : List Value} {Po : Option Value → Hp → Prop} (P : Nat → Bool) (hq : (ow, idx, k) ∈ IVT) (hC : Ct l k lv' mc' ms' sp) (hlv : lv' < lv) (hR : lv ≤ R.frames ∧ 40 * lv ≤ R.locals) (hc : cells + mc' ≤ R.cells) (hsl : slots + ms' ≤ R.slots) (hAs : As.length = mtN.getD k 0) (hcat : catB rest = true) (hci : mtC.getD k 0 < 11) (hb : gK S b = some (mtC.getD k 0)) (hPb : P b = true) (hsp : sp (.ref b :: As) (rst P S) (fun r w => (∀ a, gK w a ≠ none → P a = true ∨ gZ S ≤ a) → gZ S ≤ gZ w → Po r (mrg P S w))) (hdg : decode cc pc = .ok (.invokevirtual idx, 3))
    (kk : ∀ (r : Option Value) (w : Hp) (H1 : Heap) (locs1 : List Loc), Po r w → hd G A w H1 → va_S A s.heap H1 locs1 → W p l e R s m args below meth c H1 locs1 (cells + mc') (slots + ms') Q (F0 m (pc + 3) ls (r.toList ++ rest))) : W p l e R s m args below meth c H locs cells slots Q (F0 m pc ls (As.reverse ++ .ref b :: rest)) := by
  have hF := W.forget (L := locs) (locs := []) (g := F0 m pc ls (As.reverse ++ .ref b :: rest)) (s := s) (p := p) (l := l) (e := e) (R := R) (m := m) (args := args) (below := below) (meth := meth) (c := c) (H := H) (cells := cells) (slots := slots) (Q := Q) (fun q hq => hAA _ (hS.2.2 q hq))
  rw [List.nil_append] at hF
  refine hF ?_
  refine r_callV C (hd_rst P hh) va_S.rf (fun q hq => Or.inr hq) hls hq hC hlv hR hc hsl hAs hcat hci (by rw [rst_k hPb]; exact hb) hsp hdg (fun r w H1 locs1 hpo hh1 hS1 => ?_)
  obtain ⟨b1, b2, b3, b4⟩ := fr_k hAA hA hh hS hh1 hS1
  exact kk r _ H1 locs1 (hpo b1 b2) b3 b4
theorem r_callIF (C : Cx p s m args meth c cc nL ow G rt) (hAA : ∀ q, A q → s.heap.size ≤ q) (hA : ∀ q, s.heap.size ≤ q → A q) (hh : hd G A S H) (hS : va_S A s.heap H locs) (hls : ls.size = nL) {idx k lv lv' mc' ms' b : Nat} {sp : Sp} {As : List Value} {Po : Option Value → Hp → Prop} (P : Nat → Bool) (hq : (ow, idx, k) ∈ IIT) (hC : Ct l k lv' mc' ms' sp) (hlv : lv' < lv) (hR : lv ≤ R.frames ∧ 40 * lv ≤ R.locals) (hc : cells + mc' ≤ R.cells) (hsl : slots + ms' ≤ R.slots) (hAs : As.length = mtN.getD k 0) (hcat : catB rest = true) (hsp : sp (.ref b :: As) (rst P S) (fun r w => (∀ a, gK w a ≠ none → P a = true ∨ gZ S ≤ a) → gZ S ≤ gZ w → Po r (mrg P S w))) (hdg : decode cc pc = .ok (.invokespecial idx, 3))
    (kk : ∀ (r : Option Value) (w : Hp) (H1 : Heap) (locs1 : List Loc), Po r w → hd G A w H1 → va_S A s.heap H1 locs1 → W p l e R s m args below meth c H1 locs1 (cells + mc') (slots + ms') Q (F0 m (pc + 3) ls (r.toList ++ rest))) : W p l e R s m args below meth c H locs cells slots Q (F0 m pc ls (As.reverse ++ .ref b :: rest)) := by
  have hF := W.forget (L := locs) (locs := []) (g := F0 m pc ls (As.reverse ++ .ref b :: rest)) (s := s) (p := p) (l := l) (e := e) (R := R) (m := m) (args := args) (below := below) (meth := meth) (c := c) (H := H) (cells := cells) (slots := slots) (Q := Q) (fun q hq => hAA _ (hS.2.2 q hq))
  rw [List.nil_append] at hF
  refine hF ?_
  refine r_callI C (hd_rst P hh) va_S.rf (fun q hq => Or.inr hq) hls hq hC hlv hR hc hsl hAs hcat hsp hdg (fun r w H1 locs1 hpo hh1 hS1 => ?_)
  obtain ⟨b1, b2, b3, b4⟩ := fr_k hAA hA hh hS hh1 hS1
  exact kk r _ H1 locs1 (hpo b1 b2) b3 b4
end FRC
