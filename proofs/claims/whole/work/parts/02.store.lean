/-! THE STORE: what the heap holds, by kinds of addresses; fields by (kind, field, address); rows by (address, place); the heap's size -/
abbrev Hp : Type := (Nat → Option Nat) × (Nat → Nat → Nat → Int32) × (Nat → Nat → Nat → Option Nat) × (Nat → Nat) × (Nat → Nat → Int32) × (Nat → Nat → Option Nat) × (Nat → Nat → Int64) × Nat
def gK (S : Hp) : Nat → Option Nat := S.1
def gI (S : Hp) : Nat → Nat → Nat → Int32 := S.2.1
def gR (S : Hp) : Nat → Nat → Nat → Option Nat := S.2.2.1
def gN (S : Hp) : Nat → Nat := S.2.2.2.1
def gA (S : Hp) : Nat → Nat → Int32 := S.2.2.2.2.1
def gQ (S : Hp) : Nat → Nat → Option Nat := S.2.2.2.2.2.1
def gJ (S : Hp) : Nat → Nat → Int64 := S.2.2.2.2.2.2.1
def gZ (S : Hp) : Nat := S.2.2.2.2.2.2.2
def u3 {α : Type} (f : Nat → Nat → Nat → α) (c k a : Nat) (v : α) : Nat → Nat → Nat → α := fun c' k' a' => if c' = c ∧ k' = k ∧ a' = a then v else f c' k' a'
def u2 {α : Type} (f : Nat → Nat → α) (a j : Nat) (v : α) : Nat → Nat → α := fun a' j' => if a' = a ∧ j' = j then v else f a' j'
def sI (S : Hp) (c k a : Nat) (v : Int32) : Hp := (gK S, u3 (gI S) c k a v, gR S, gN S, gA S, gQ S, gJ S, gZ S)
def sR (S : Hp) (c k a : Nat) (v : Option Nat) : Hp := (gK S, gI S, u3 (gR S) c k a v, gN S, gA S, gQ S, gJ S, gZ S)
def sA (S : Hp) (a j : Nat) (v : Int32) : Hp := (gK S, gI S, gR S, gN S, u2 (gA S) a j v, gQ S, gJ S, gZ S)
def sQ (S : Hp) (a j : Nat) (v : Option Nat) : Hp := (gK S, gI S, gR S, gN S, gA S, u2 (gQ S) a j v, gJ S, gZ S)
def sJ (S : Hp) (a j : Nat) (v : Int64) : Hp := (gK S, gI S, gR S, gN S, gA S, gQ S, u2 (gJ S) a j v, gZ S)
def sNew (S : Hp) (t : Nat) : Hp := (fun a => if a = gZ S then some t else gK S a, fun c k a => if a = gZ S then 0 else gI S c k a, fun c k a => if a = gZ S then none else gR S c k a, gN S, gA S, gQ S, gJ S, gZ S + 1)
def sArr (S : Hp) (t n : Nat) : Hp := (fun a => if a = gZ S then some t else gK S a, gI S, gR S, fun a => if a = gZ S then n else gN S a, fun a j => if a = gZ S then 0 else gA S a j, fun a j => if a = gZ S then none else gQ S a j, fun a j => if a = gZ S then 0 else gJ S a j, gZ S + 1)
abbrev GG : Type := va_G × (Nat → ClassId)
def fv (S : Hp) (t k a : Nat) : Value := bif isRf t k then va_rf (gR S t k a) else .int (gI S t k a)
def encO (S : Hp) (t a : Nat) : List Value := (List.range (clN t)).map (fun k => fv S t k a)
def enc (G : GG) (S : Hp) (a : Nat) : va_E :=
  (gK S a).elim (.inr (0, [])) (fun t => if t < 20 then .inr (t, encO S t a) else if t < 22 then .inl (G.2 (t - 20), (gN S a, .inl (gA S a))) else if t = 22 then .inl (G.2 2, (gN S a, .inr (.inl (gJ S a)))) else .inl (G.2 (t - 20), (gN S a, .inr (.inr (.inr (.inr (gQ S a)))))))
def hd (G : GG) (A : Nat → Prop) (S : Hp) (H : Heap) : Prop := H.size = gZ S ∧ ∃ LP : List Nat, (∀ a, gK S a ≠ none ↔ a ∈ LP) ∧ va_P G.1 classes (va_pl LP (enc G S)) H ∧ va_D A (va_pl LP (enc G S))
abbrev tysG (G : GG) : List (ClassId × FieldType) := [(G.2 0, .int), (G.2 1, .boolean), (G.2 2, .long), (G.2 3, .object "WatchValley$Piece"), (G.2 4, .object "WatchValley$Lot"), (G.2 5, .object "WatchValley$Home"), (G.2 6, .object "WatchValley$Watch")]
abbrev nsW (q : Nat × Nat × Nat) : Cond := .methodLinkNest (ownS q.1) q.2.1 (mt q.2.2).1 "WatchValley"
/-- what the tables say of the run's classes -/
def kk (G : GG) (U : State) : Prop := va_K G.1 classes (tysG G) U ∧ (va_AO "WatchValley$Piece" U ∧ va_AO "WatchValley$Lot" U ∧ va_AO "WatchValley$Home" U ∧ va_AO "WatchValley$Watch" U) ∧ ∀ q ∈ INT, va_Nw (nsW q) U
theorem kk_same {G : GG} {u U : State} (h : u.vm = U.vm) (k : kk G u) : kk G U := by
  obtain ⟨k1, ⟨a1, a2, a3, a4⟩, k3⟩ := k
  have ha : u.vm.Alike U.vm := by rw [h]; exact Vm.Alike.refl _
  exact ⟨k1.moved ha, ⟨a1.moved ha, a2.moved ha, a3.moved ha, a4.moved ha⟩, fun q hq => va_Nw.same rfl h (k3 q hq)⟩
theorem kk_warm {G : GG} {s U : State} (h : s.WarmedH U.vm) (k : kk G s) : kk G U := by
  obtain ⟨k1, ⟨a1, a2, a3, a4⟩, k3⟩ := k
  have ha : s.vm.Alike U.vm := h.alike
  exact ⟨k1.moved ha, ⟨a1.moved ha, a2.moved ha, a3.moved ha, a4.moved ha⟩, fun q hq => va_Nw.warmM h (k3 q hq)⟩
theorem enc_o {G : GG} {S : Hp} {a t : Nat} (h : gK S a = some t) (ht : t < 20) : enc G S a = .inr (t, encO S t a) := by simp [enc, h, ht]
theorem enc_i {G : GG} {S : Hp} {a t : Nat} (h : gK S a = some t) (h1 : 20 ≤ t) (h2 : t < 22) : enc G S a = .inl (G.2 (t - 20), (gN S a, .inl (gA S a))) := by
  have h3 : ¬ t < 20 := by omega
  simp [enc, h, h3, h2]
theorem enc_j {G : GG} {S : Hp} {a : Nat} (h : gK S a = some 22) : enc G S a = .inl (G.2 2, (gN S a, .inr (.inl (gJ S a)))) := by simp [enc, h]
theorem enc_q {G : GG} {S : Hp} {a t : Nat} (h : gK S a = some t) (h1 : 23 ≤ t) : enc G S a = .inl (G.2 (t - 20), (gN S a, .inr (.inr (.inr (.inr (gQ S a)))))) := by
  have h3 : ¬ t < 20 := by omega
  have h4 : ¬ t < 22 := by omega
  have h5 : ¬ t = 22 := by omega
  simp [enc, h, h3, h4, h5]
theorem encO_get {S : Hp} {t a k : Nat} (h : k < clN t) : (encO S t a)[k]? = some (fv S t k a) := by simp [encO, h]
theorem encO_len {S : Hp} {t a : Nat} : (encO S t a).length = clN t := by simp [encO]
theorem encO_set {S S' : Hp} {t a k : Nat} {v : Value} (h : k < clN t) (h1 : fv S' t k a = v) (h2 : ∀ j, j ≠ k → fv S' t j a = fv S t j a) : (encO S t a).set k v = encO S' t a := by
  apply List.ext_getElem?
  intro j
  by_cases hj : j = k
  · subst hj
    rw [List.getElem?_set_self (by rw [encO_len]; exact h), encO_get h, h1]
  · rw [List.getElem?_set_ne (Ne.symm hj)]
    by_cases hl : j < clN t
    · rw [encO_get hl, encO_get hl, h2 j hj]
    · rw [List.getElem?_eq_none (by rw [encO_len]; omega), List.getElem?_eq_none (by rw [encO_len]; omega)]
/-- outside the address nothing has changed, at it the new row stands -/
theorem enc_up {G : GG} {S S' : Hp} {a : Nat} {e : va_E} (h1 : enc G S' a = e) (h2 : ∀ b, b ≠ a → enc G S' b = enc G S b) : ∀ b, va_up (enc G S) a e b = enc G S' b := by
  intro b
  by_cases hb : b = a
  · subst hb
    rw [va_up_self, h1]
  · rw [va_up_ne _ _ hb, h2 b hb]
theorem enc_eq {G : GG} {S S' : Hp} {b : Nat} (h0 : gK S' b = gK S b) (h1 : ∀ t k, gI S' t k b = gI S t k b) (h2 : ∀ t k, gR S' t k b = gR S t k b) (h3 : gN S' b = gN S b) (h4 : ∀ j, gA S' b j = gA S b j) (h5 : ∀ j, gQ S' b j = gQ S b j) (h6 : ∀ j, gJ S' b j = gJ S b j) : enc G S' b = enc G S b := by
  have e4 : gA S' b = gA S b := funext h4
  have e5 : gQ S' b = gQ S b := funext h5
  have e6 : gJ S' b = gJ S b := funext h6
  have e1 : ∀ t, encO S' t b = encO S t b := fun t => by simp [encO, fv, h1, h2]
  simp only [enc, h0, h3, e1, e4, e5, e6]
theorem u3_ne {α : Type} {f : Nat → Nat → Nat → α} {c k a c' k' a' : Nat} {v : α} (h : a' ≠ a) : u3 f c k a v c' k' a' = f c' k' a' := by simp [u3, h]
theorem u2_ne {α : Type} {f : Nat → Nat → α} {a j a' j' : Nat} {v : α} (h : a' ≠ a) : u2 f a j v a' j' = f a' j' := by simp [u2, h]
theorem fv_i {S : Hp} {t k a : Nat} (h : isRf t k = false) : fv S t k a = .int (gI S t k a) := by simp [fv, h]
theorem fv_r {S : Hp} {t k a : Nat} (h : isRf t k = true) : fv S t k a = va_rf (gR S t k a) := by simp [fv, h]
theorem up_sI {G : GG} {S : Hp} {t k a : Nat} {v : Int32} (hK : gK S a = some t) (ht : t < 20) (hk : k < clN t) (hr : isRf t k = false) : ∀ b, va_up (enc G S) a (.inr (t, (encO S t a).set k (.int v))) b = enc G (sI S t k a v) b := by
  refine enc_up ?_ ?_
  · rw [enc_o (S := sI S t k a v) hK ht, encO_set (S' := sI S t k a v) hk]
    · rw [fv_i hr]; simp [gI, sI, u3]
    · intro j hj
      by_cases hq : isRf t j = true
      · rw [fv_r hq, fv_r hq]; rfl
      · have hq : isRf t j = false := by simpa using hq
        rw [fv_i hq, fv_i hq]; simp [gI, sI, u3, hj]
  · intro b hb
    exact enc_eq rfl (fun t' k' => u3_ne hb) (fun _ _ => rfl) rfl (fun _ => rfl) (fun _ => rfl) (fun _ => rfl)
theorem up_sR {G : GG} {S : Hp} {t k a : Nat} {v : Option Nat} (hK : gK S a = some t) (ht : t < 20) (hk : k < clN t) (hr : isRf t k = true) : ∀ b, va_up (enc G S) a (.inr (t, (encO S t a).set k (va_rf v))) b = enc G (sR S t k a v) b := by
  refine enc_up ?_ ?_
  · rw [enc_o (S := sR S t k a v) hK ht, encO_set (S' := sR S t k a v) hk]
    · rw [fv_r hr]; simp [gR, sR, u3]
    · intro j hj
      by_cases hq : isRf t j = true
      · rw [fv_r hq, fv_r hq]; simp [gR, sR, u3, hj]
      · have hq : isRf t j = false := by simpa using hq
        rw [fv_i hq, fv_i hq]; rfl
  · intro b hb
    exact enc_eq rfl (fun _ _ => rfl) (fun t' k' => u3_ne hb) rfl (fun _ => rfl) (fun _ => rfl) (fun _ => rfl)
theorem upd_u2 {α : Type} (f : Nat → Nat → α) (a j : Nat) (v : α) : u2 f a j v a = fun q => if q = j then v else f a q := by
  funext q
  simp [u2]
theorem up_sA {G : GG} {S : Hp} {t a j : Nat} {v : Int32} (hK : gK S a = some t) (h1 : 20 ≤ t) (h2 : t < 22) : ∀ b, va_up (enc G S) a (.inl (G.2 (t - 20), (gN S a, .inl (upd (gA S a) j v)))) b = enc G (sA S a j v) b := by
  refine enc_up ?_ ?_
  · rw [enc_i (S := sA S a j v) hK h1 h2]
    have e : gA (sA S a j v) a = upd (gA S a) j v := upd_u2 _ _ _ _
    rw [e]; rfl
  · intro b hb
    exact enc_eq rfl (fun _ _ => rfl) (fun _ _ => rfl) rfl (fun _ => u2_ne hb) (fun _ => rfl) (fun _ => rfl)
theorem up_sQ {G : GG} {S : Hp} {t a j : Nat} {v : Option Nat} (hK : gK S a = some t) (h1 : 23 ≤ t) : ∀ b, va_up (enc G S) a (.inl (G.2 (t - 20), (gN S a, .inr (.inr (.inr (.inr (va_up (gQ S a) j v))))))) b = enc G (sQ S a j v) b := by
  refine enc_up ?_ ?_
  · rw [enc_q (S := sQ S a j v) hK h1]
    have e : gQ (sQ S a j v) a = va_up (gQ S a) j v := upd_u2 _ _ _ _
    rw [e]; rfl
  · intro b hb
    exact enc_eq rfl (fun _ _ => rfl) (fun _ _ => rfl) rfl (fun _ => rfl) (fun _ => u2_ne hb) (fun _ => rfl)
theorem up_sJ {G : GG} {S : Hp} {a j : Nat} {v : Int64} (hK : gK S a = some 22) : ∀ b, va_up (enc G S) a (.inl (G.2 2, (gN S a, .inr (.inl (vp_updL (gJ S a) j v))))) b = enc G (sJ S a j v) b := by
  refine enc_up ?_ ?_
  · rw [enc_j (S := sJ S a j v) hK]
    have e : gJ (sJ S a j v) a = vp_updL (gJ S a) j v := upd_u2 _ _ _ _
    rw [e]; rfl
  · intro b hb
    exact enc_eq rfl (fun _ _ => rfl) (fun _ _ => rfl) rfl (fun _ => rfl) (fun _ => rfl) (fun _ => u2_ne hb)
theorem hd_in {G : GG} {A : Nat → Prop} {S : Hp} {H : Heap} (h : hd G A S H) {a t : Nat} (hk : gK S a = some t) : ∃ (LP : List Nat) (q : Nat), a ∈ LP ∧ (va_pl LP (enc G S))[q]? = some (a, enc G S a) ∧ (∀ b, gK S b ≠ none ↔ b ∈ LP) ∧ va_P G.1 classes (va_pl LP (enc G S)) H ∧ va_D A (va_pl LP (enc G S)) := by
  obtain ⟨hz, LP, hL, hP, hD⟩ := h
  have ha : a ∈ LP := (hL a).mp (by rw [hk]; exact fun h => by cases h)
  obtain ⟨q, hq⟩ := va_pl_get (X := []) (f := enc G S) ha
  exact ⟨LP, q, ha, hq, hL, hP, hD⟩
theorem hd_lt {G : GG} {A : Nat → Prop} {S : Hp} {H : Heap} (h : hd G A S H) {a t : Nat} (hk : gK S a = some t) : a < gZ S := by
  obtain ⟨LP, q, ha, hq, hL, hP, hD⟩ := hd_in h hk
  have := (hP q _ hq).lt
  rw [h.1] at this
  exact this
/-- behind a store into the cell at a -/
theorem hd_put {G : GG} {A : Nat → Prop} {S S' : Hp} {H H1 : Heap} {LP : List Nat} {a q : Nat} {e : va_E} (ha : a ∈ LP) (hq : (va_pl LP (enc G S))[q]? = some (a, enc G S a)) (hL : ∀ b, gK S b ≠ none ↔ b ∈ LP) (hD : va_D A (va_pl LP (enc G S))) (hup : ∀ b, va_up (enc G S) a e b = enc G S' b) (hK : gK S' = gK S) (hz : H1.size = gZ S') (hP1 : va_P G.1 classes ((va_pl LP (enc G S)).set q (a, e)) H1) (hD1 : va_D A ((va_pl LP (enc G S)).set q (a, e))) : hd G A S' H1 := by
  have es : (va_pl LP (enc G S)).set q (a, e) = va_pl LP (enc G S') := by
    have := va_pl_set (X := []) (e := e) hD ha hq
    rw [List.nil_append, List.nil_append] at this
    rw [this]
    exact va_pl_congr hup
  rw [es] at hP1 hD1
  exact ⟨hz, LP, by rw [hK]; exact hL, hP1, hD1⟩
theorem enc_new {G : GG} {S : Hp} {t : Nat} (ht : t < 20) : enc G (sNew S t) (gZ S) = .inr (t, encO (sNew S t) t (gZ S)) := enc_o (by simp [gK, sNew]) ht
theorem hd_push {G : GG} {A : Nat → Prop} {S S' : Hp} {H H1 : Heap} {e : va_E} (h : hd G A S H) (he : enc G S' (gZ S) = e) (hn : gK S' (gZ S) ≠ none) (ho : ∀ b, b ≠ gZ S → enc G S' b = enc G S b ∧ gK S' b = gK S b) (hz : gZ S' = gZ S + 1) (hz1 : H1.size = H.size + 1) (hat : va_at G.1 classes (gZ S, e) H1) (o1 : ∀ q, q < H.size → H1[q]? = H[q]?) (hA : A (gZ S)) : hd G A S' H1 := by
  obtain ⟨h0, LP, hL, hP, hD⟩ := h
  have hf : gZ S ∉ LP := va_pl_fresh (X := []) (f := enc G S) hP (by rw [h0]; exact Nat.le_refl _)
  have e1 : va_pl LP (enc G S) ++ [(gZ S, e)] = va_pl (LP ++ [gZ S]) (enc G S') := by
    rw [va_pl_push hf]
    exact va_pl_congr (enc_up he (fun b hb => (ho b hb).1))
  refine ⟨by rw [hz1, h0, hz], LP ++ [gZ S], fun b => ?_, ?_, ?_⟩
  · by_cases hb : b = gZ S
    · subst hb
      exact ⟨fun _ => List.mem_append_right _ (List.mem_singleton.mpr rfl), fun _ => hn⟩
    · rw [(ho b hb).2, hL b]
      simp [hb]
  · rw [← e1]
    refine (hP.kept (fun k x hx => o1 x.1 ((hP k x hx).lt))).app (fun k x hx => ?_)
    have hk : k < 1 := (List.getElem?_eq_some_iff.mp hx).1
    rw [show k = 0 by omega] at hx
    cases hx
    exact hat
  · rw [← e1]
    rw [← h0]
    exact hD.push hP rfl (by rw [h0]; exact hA)
