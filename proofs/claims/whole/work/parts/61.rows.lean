/-! THE TWO: rows as chains -/
def nU (nx : Nat → Nat) (q v : Nat) : Nat → Nat := fun x => if x = q then v else nx x
theorem lsC_0 : ∀ {L : List Nat}, lsC L = 0 → L = []
  | [], _ => rfl
  | [p], h => by simp [lsC] at h
  | p :: q :: t, h => by
    rw [lsC] at h
    have := lsC_0 h
    cases this
theorem lsC_m : ∀ {L : List Nat} {q : Nat}, lsC L = q + 1 → q ∈ L
  | [], _, h => by simp [lsC] at h
  | [p], q, h => by
    have : p = q := by simp [lsC] at h; exact h
    rw [this]
    exact List.mem_cons_self ..
  | p :: r :: t, q, h => by
    rw [lsC] at h
    exact List.mem_cons_of_mem _ (lsC_m h)
theorem lsC_app (X : List Nat) : ∀ {t : List Nat}, t ≠ [] → lsC (X ++ t) = lsC t := by
  induction X with
  | nil => intro t _; rfl
  | cons p X ih =>
    intro t ht
    have e := ih ht
    cases hX : X ++ t with
    | nil =>
      have := List.append_eq_nil_iff.mp hX
      exact absurd this.2 ht
    | cons s u =>
      show lsC (p :: (X ++ t)) = _
      rw [hX, lsC, ← hX, e]
theorem lsC_snoc (X : List Nat) (p : Nat) : lsC (X ++ [p]) = p + 1 := lsC_app X (by simp)
theorem chL_app {nx : Nat → Nat} {p q : Nat} : ∀ {L : List Nat} {c : Nat}, lsC L = q + 1 → L.Nodup → p ∉ L → chL nx c L → chL (nU (nU nx p 0) q (p + 1)) c (L ++ [p])
  | [], _, h, _, _, _ => by simp [lsC] at h
  | [r], c, h, _, hp, hc => by
    have e : r = q := by simp [lsC] at h; exact h
    subst e
    have hne : p ≠ r := fun z => hp (by rw [z]; exact List.mem_cons_self ..)
    refine ⟨hc.1, ?_, ?_⟩
    · show nU (nU nx p 0) r (p + 1) r = p + 1
      unfold nU
      rw [if_pos rfl]
    · show nU (nU nx p 0) r (p + 1) p = 0
      unfold nU
      rw [if_neg hne, if_pos rfl]
  | r :: s :: t, c, h, hn, hp, hc => by
    rw [lsC] at h
    have hn2 := List.nodup_cons.mp hn
    have ih := chL_app (p := p) (q := q) h hn2.2 (fun z => hp (List.mem_cons_of_mem _ z)) hc.2
    refine ⟨hc.1, ?_⟩
    have e : nU (nU nx p 0) q (p + 1) r = nx r := by
      unfold nU
      rw [if_neg (fun z => hn2.1 (by rw [z]; exact lsC_m h)), if_neg (fun z => hp (by rw [← z]; exact List.mem_cons_self ..))]
    rw [e]
    exact ih
theorem chL_cut {nx : Nat → Nat} {p q : Nat} {t : List Nat} : ∀ {X : List Nat} {c : Nat}, lsC X = q + 1 → (X ++ p :: t).Nodup → chL nx c (X ++ p :: t) → chL (nU nx q (nx p)) c (X ++ t)
  | [], _, h, _, _ => by simp [lsC] at h
  | [r], c, h, hn, hc => by
    have e : r = q := by simp [lsC] at h; exact h
    subst e
    obtain ⟨h1, h2, h3⟩ := hc
    have hn2 := List.nodup_cons.mp hn
    refine ⟨h1, ?_⟩
    have e : nU nx r (nx p) r = nx p := if_pos rfl
    rw [e]
    exact chL_cong (fun x hx => (if_neg (fun z => hn2.1 (by rw [← z]; exact List.mem_cons_of_mem _ hx))).symm) h3
  | r :: s :: X, c, h, hn, hc => by
    rw [lsC] at h
    have hn2 := List.nodup_cons.mp hn
    have ih := chL_cut (p := p) (q := q) (t := t) h hn2.2 hc.2
    refine ⟨hc.1, ?_⟩
    have e : nU nx q (nx p) r = nx r := if_neg (fun z => hn2.1 (by rw [z]; exact List.mem_append_left _ (lsC_m h)))
    show chL (nU nx q (nx p)) (nU nx q (nx p) r) _
    rw [e]
    exact ih
theorem chL_nx {nx : Nat → Nat} {p : Nat} {t : List Nat} : ∀ {X : List Nat} {c : Nat}, chL nx c (X ++ p :: t) → chL nx (nx p) t
  | [], _, h => h.2
  | _ :: X, _, h => chL_nx (X := X) h.2
theorem chL_0 {nx : Nat → Nat} {c : Nat} : ∀ {L : List Nat}, chL nx c L → (c = 0 ↔ L = [])
  | [], h => ⟨fun _ => rfl, fun _ => h⟩
  | p :: t, h => ⟨fun z => by rw [h.1] at z; omega, fun z => by cases z⟩
def RowC (C : Cs) (l : Nat) (L : List Nat) : Prop := chL (cL C 5 7) (cL C 2 2 l) L ∧ cL C 2 3 l = lsC L
theorem RowC_app {C : Cs} {l p : Nat} {L : List Nat} (h : RowC C l L) (hn : L.Nodup) (hp : p ∉ L) : RowC (cApp C l p) l (L ++ [p]) := by
  obtain ⟨h1, h2⟩ := h
  unfold cApp
  cases e : cL C 2 3 l with
  | zero =>
    have hL : L = [] := lsC_0 (by rw [← h2, e])
    subst hL
    refine ⟨⟨?_, ?_⟩, ?_⟩
    · simp [cL_wI, cL_wL]
    · simp [cL_wI, cL_wL]
      rfl
    · simp [cL_wI, cL_wL, lsC]
  | succ q =>
    have hq : lsC L = q + 1 := by rw [← h2, e]
    refine ⟨?_, ?_⟩
    · have hc := chL_app (p := p) hq hn hp h1
      have e2 : cL (wI (wL (wL (wL (wL (wI C 5 6 p (cI C 2 0 l)) 5 7 p 0) 5 7 q (p + 1)) 2 3 l (p + 1)) 2 4 l 0) 2 4 l 0) 2 2 l = cL C 2 2 l := by simp [cL_wI, cL_wL]
      have e3 : cL (wI (wL (wL (wL (wI C 5 6 p (cI C 2 0 l)) 5 7 p 0) 5 7 q (p + 1)) 2 3 l (p + 1)) 2 4 l (cI C 2 4 l + 1)) 2 2 l = cL C 2 2 l := by simp [cL_wI, cL_wL]
      rw [e3]
      refine chL_cong (fun x _ => ?_) hc
      simp only [cL_wI, cL_wL, nU]
      simp
    · simp [cL_wI, cL_wL, lsC_snoc]
theorem cApp_57 {C : Cs} {l p x : Nat} (hx : x ≠ p) (hq : cL C 2 3 l ≠ x + 1) : cL (cApp C l p) 5 7 x = cL C 5 7 x := by
  unfold cApp
  cases e : cL C 2 3 l with
  | zero => simp [cL_wI, cL_wL, hx]
  | succ q =>
    have : x ≠ q := fun z => hq (by rw [e, z])
    simp [cL_wI, cL_wL, hx, this]
theorem cApp_2 {C : Cs} {l p k j : Nat} (h : j ≠ l ∨ (k ≠ 2 ∧ k ≠ 3)) : cL (cApp C l p) 2 k j = cL C 2 k j := by
  unfold cApp
  have h2 : ¬ (k = 2 ∧ j = l) := fun z => by omega
  have h3 : ¬ (k = 3 ∧ j = l) := fun z => by omega
  cases cL C 2 3 l with
  | zero => simp [cL_wI, cL_wL, h2, h3]
  | succ q => simp [cL_wI, cL_wL, h3]
theorem RowC_appo {C : Cs} {l p j : Nat} {L T : List Nat} (h : RowC C l L) (g : RowC C j T) (hj : j ≠ l) (hp : p ∉ T) (hd : ∀ x, x ∈ L → x ∉ T) : RowC (cApp C l p) j T := by
  refine ⟨?_, by rw [cApp_2 (Or.inl hj)]; exact g.2⟩
  rw [cApp_2 (Or.inl hj)]
  refine chL_cong (fun x hx => (cApp_57 (fun z => hp (by rw [← z]; exact hx)) (fun z => ?_)).symm) g.1
  rw [h.2] at z
  exact hd x (lsC_m z) hx
theorem cUnl_2 {C : Cs} {a b p k j : Nat} (h : j ≠ a ∨ (k ≠ 2 ∧ k ≠ 3)) : cL (cUnl C a b p) 2 k j = cL C 2 k j := by
  have h2 : ¬ (k = 2 ∧ j = a) := fun z => by omega
  have h3 : ¬ (k = 3 ∧ j = a) := fun z => by omega
  have e1 : cL (cUn1 C a b p) 2 k j = cL C 2 k j := by
    unfold cUn1
    cases b with
    | zero => simp [cL_wL, h2]
    | succ q => simp [cL_wL]
  unfold cUnl
  rw [cL_wI]
  split
  · rw [cL_wL, if_neg (fun z => h3 ⟨z.2.1, z.2.2⟩), e1]
  · exact e1
theorem RowC_unl {C : Cs} {a p : Nat} {X t : List Nat} (h : RowC C a (X ++ p :: t)) (hn : (X ++ p :: t).Nodup) : RowC (cUnl C a (lsC X) p) a (X ++ t) := by
  obtain ⟨h1, h2⟩ := h
  have ht := chL_nx h1
  have hpX : p ∉ X := fun z => by
    have := (List.nodup_append.mp hn).2.2 p z p (List.mem_cons_self ..)
    exact this rfl
  have e57 : cL (cUn1 C a (lsC X) p) 5 7 p = cL C 5 7 p := by
    unfold cUn1
    cases e : lsC X with
    | zero => simp [cL_wL]
    | succ q =>
      have : p ≠ q := fun z => hpX (by rw [z]; exact lsC_m e)
      simp [cL_wL, this]
  have e23 : cL (cUn1 C a (lsC X) p) 2 3 a = cL C 2 3 a := by
    unfold cUn1
    cases lsC X with
    | zero => simp [cL_wL]
    | succ q => simp [cL_wL]
  have ech : chL (cL (cUn1 C a (lsC X) p) 5 7) (cL (cUn1 C a (lsC X) p) 2 2 a) (X ++ t) := by
    unfold cUn1
    cases e : lsC X with
    | zero =>
      have hX := lsC_0 e
      subst hX
      have e2 : cL (wL C 2 2 a (cL C 5 7 p)) 2 2 a = cL C 5 7 p := by simp [cL_wL]
      show chL (cL (wL C 2 2 a (cL C 5 7 p)) 5 7) (cL (wL C 2 2 a (cL C 5 7 p)) 2 2 a) _
      rw [e2]
      exact chL_cong (fun x _ => by simp [cL_wL]) ht
    | succ q =>
      have e2 : cL (wL C 5 7 q (cL C 5 7 p)) 2 2 a = cL C 2 2 a := by simp [cL_wL]
      show chL (cL (wL C 5 7 q (cL C 5 7 p)) 5 7) (cL (wL C 5 7 q (cL C 5 7 p)) 2 2 a) _
      rw [e2]
      refine chL_cong (fun x _ => ?_) (chL_cut (q := q) e hn h1)
      simp [cL_wL, nU]
  unfold cUnl
  refine ⟨?_, ?_⟩
  · rw [cL_wI]
    split
    · rw [cL_wL, if_neg (fun z => absurd z.2.1 (by decide))]
      exact chL_cong (fun x _ => by rw [cL_wI, cL_wL, if_neg (fun z => absurd z.1 (by decide))]) ech
    · exact chL_cong (fun x _ => by rw [cL_wI]) ech
  · rw [cL_wI]
    have hz := chL_0 ht
    rw [e57]
    by_cases e0 : cL C 5 7 p = 0
    · rw [if_pos e0, cL_wL, if_pos ⟨rfl, rfl, rfl⟩, hz.mp e0, List.append_nil]
    · rw [if_neg e0, e23, h2]
      have htn : t ≠ [] := fun z => e0 (hz.mpr z)
      rw [lsC_app X htn, lsC_app X (by simp)]
      cases t with
      | nil => exact absurd rfl htn
      | cons s u => rw [lsC]
theorem RowC_unlo {C : Cs} {a p j : Nat} {X t T : List Nat} (g : RowC C j T) (hj : j ≠ a) (hd : ∀ x, x ∈ X → x ∉ T) : RowC (cUnl C a (lsC X) p) j T := by
  refine ⟨?_, by rw [cUnl_2 (Or.inl hj)]; exact g.2⟩
  rw [cUnl_2 (Or.inl hj)]
  exact chL_cong (fun x hx => (cUnl_57 C a (lsC X) p x (fun z => hd x (lsC_m z) hx)).symm) g.1
