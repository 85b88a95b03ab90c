/-! THE CLASS: what stands fixed, what is found by its number -/
section RXP
variable {C : Cs} {S : Hp}
theorem RX.k' (h : RX C S) (t i : Nat) {a : Nat} (ha : cA C t i = a) (hi : i < cN C t) : gK S a = some t := by rw [← ha]; exact h.k t i hi
theorem RX.gi' (h : RX C S) (t k i : Nat) {a : Nat} (ha : cA C t i = a) (ht : t < 10) (hi : i < cN C t) (hr : isRf t k = false) : gI S t k a = cI C t k i := by rw [← ha]; exact h.gi t k i ht hi hr
theorem RX.gr' (h : RX C S) (t k i : Nat) {a : Nat} (ha : cA C t i = a) (ht : t < 10) (hi : i < cN C t) (hr : isRf t k = true) : gR S t k a = adO C (tgt t k) (cL C t k i) := by rw [← ha]; exact h.gr t k i ht hi hr
theorem RX.wi' (h : RX C S) (t k i : Nat) {a : Nat} (ha : cA C t i = a) (hi : i < cN C t) (v : Int32) : RX (wI C t k i v) (sI S t k a v) := by rw [← ha]; exact h.wi t k i hi v
theorem RX.wl' (h : RX C S) (t k i c : Nat) {a : Nat} {o : Option Nat} (ha : cA C t i = a) (ho : adO C (tgt t k) c = o) (hi : i < cN C t) (hc : c ≤ cN C (tgt t k)) (ht10 : t < 10) : RX (wL C t k i c) (sR S t k a o) := by rw [← ha, ← ho]; exact h.wl t k i c hi hc ht10
theorem RX.wq' (h : RX C S) (t j c : Nat) {a b : Nat} (ha : cA C t 0 = a) (hb : cA C (rwT t) c = b) (h1 : 23 ≤ t) (h2 : t < 27) (hc : c < cN C (rwT t)) : RX (wL C t j 0 (c + 1)) (sQ S a j (some b)) := by rw [← ha, ← hb]; exact h.wq t j c h1 h2 hc
end RXP
def FX (C : Cs) : Prop := (cN C 9 = 1 ∧ cN C 0 = 2 ∧ cN C 3 = 1 ∧ cN C 4 = 2 ∧ cN C 20 = 6) ∧ (cL C 9 0 0 = 1 ∧ cL C 9 1 0 = 1 ∧ cL C 9 2 0 = 1 ∧ cL C 9 3 0 = 1 ∧ cL C 9 4 0 = 1 ∧ cL C 9 5 0 = 2 ∧ cL C 9 6 0 = 1) ∧ (cL C 3 0 0 = 1 ∧ cL C 3 1 0 = 2) ∧ ∀ k i, k < 3 → i < 2 → cL C 4 k i = 3 * i + k + 1
section FXS
variable {C : Cs}
theorem FX.x (h : FX C) : 0 < cN C 9 := by rw [h.1.1]; decide
theorem FX.l0 (h : FX C) : cL C 9 0 0 = 0 + 1 := h.2.1.1
theorem FX.l1 (h : FX C) : cL C 9 1 0 = 0 + 1 := h.2.1.2.1
theorem FX.l2 (h : FX C) : cL C 9 2 0 = 0 + 1 := h.2.1.2.2.1
theorem FX.l3 (h : FX C) : cL C 9 3 0 = 0 + 1 := h.2.1.2.2.2.1
theorem FX.l4 (h : FX C) : cL C 9 4 0 = 0 + 1 := h.2.1.2.2.2.2.1
theorem FX.l5 (h : FX C) : cL C 9 5 0 = 1 + 1 := h.2.1.2.2.2.2.2.1
theorem FX.l6 (h : FX C) : cL C 9 6 0 = 0 + 1 := h.2.1.2.2.2.2.2.2
end FXS
/-- those of kind t are found in the row a by their numbers; field f of the whole says how many -/
def NB (C : Cs) (a t f lim n : Nat) : Prop := cI C 9 f 0 = nI n ∧ n ≤ lim ∧ cN C t = n ∧ ∀ j, j < n → cL C a j 0 = j + 1
theorem u3_t {α : Type} {f : Nat → Nat → Nat → α} {c k a c' k' a' : Nat} {v : α} (h : c' ≠ c) : u3 f c k a v c' k' a' = f c' k' a' := by simp [u3, h]
theorem u3_k {α : Type} {f : Nat → Nat → Nat → α} {c k a c' k' a' : Nat} {v : α} (h : k' ≠ k) : u3 f c k a v c' k' a' = f c' k' a' := by simp [u3, h]
theorem FX_wL {C : Cs} (h : FX C) (t k i c : Nat) (ht : t ≠ 9 ∧ t ≠ 3 ∧ t ≠ 4) : FX (wL C t k i c) := by
  obtain ⟨h1, h2, h3, h4⟩ := h
  have e9 : ∀ k' i', cL (wL C t k i c) 9 k' i' = cL C 9 k' i' := fun k' i' => u3_t (Ne.symm ht.1)
  have e3 : ∀ k' i', cL (wL C t k i c) 3 k' i' = cL C 3 k' i' := fun k' i' => u3_t (Ne.symm ht.2.1)
  have e4 : ∀ k' i', cL (wL C t k i c) 4 k' i' = cL C 4 k' i' := fun k' i' => u3_t (Ne.symm ht.2.2)
  refine ⟨h1, ?_, ?_, fun k' i' a b => (e4 k' i').trans (h4 k' i' a b)⟩
  · rw [e9, e9, e9, e9, e9, e9, e9]; exact h2
  · rw [e3, e3]; exact h3
theorem NB_wL {C : Cs} {a t f lim n : Nat} (h : NB C a t f lim n) (t' k i c : Nat) (ht : a ≠ t') : NB (wL C t' k i c) a t f lim n := ⟨h.1, h.2.1, h.2.2.1, fun j hj => (u3_t ht).trans (h.2.2.2 j hj)⟩
theorem NB_wI {C : Cs} {a t f lim n : Nat} (h : NB C a t f lim n) (t' k i : Nat) (v : Int32) (ht : t' ≠ 9 ∨ k ≠ f) : NB (wI C t' k i v) a t f lim n := by
  refine ⟨?_, h.2⟩
  rcases ht with q | q
  · exact (u3_t (Ne.symm q)).trans h.1
  · exact (u3_k (Ne.symm q)).trans h.1
def sp_nb (a t f lim : Nat) : Sp := fun as w K => ∃ C x n, as = [.ref (cA C 9 0), .int x] ∧ RX C w ∧ FX C ∧ NB C a t f lim n ∧ (∀ j, j < n → x = nI j → K (some (.ref (cA C t j))) w) ∧ ((¬ ∃ j, j < n ∧ x = nI j) → K (some .null) w)
theorem nlt0 {x : Int32} (h : ¬ x < 0) : ∃ j, j < 2147483648 ∧ x = nI j := by
  obtain ⟨j, hj, e⟩ := nI_of h
  exact ⟨j, hj, e⟩
theorem c_lotN (l : Launch) : Ct l 14 1 0 0 (sp_nb 24 2 8 60) := by
  refine ct_jd (by decide) rfl (fun as w Po h => ?_)
  obtain ⟨C, x, n, rfl, hX, hF, ⟨hn, hn2, hc, hr⟩, h1, h2⟩ := h
  refine ⟨Nat.le_of_ble_eq_true rfl, jd_run cdo_14 ev0 30 z00 ?_⟩
  have h2 : (¬ ∃ j, j < n ∧ x = nI j) → ∃ o, Value.null = va_rf o ∧ Po (some .null) w := fun q => ⟨none, rfl, h2 q⟩
  refine ⟨fun c => h2 (fun ⟨j, hj, e⟩ => nI_pos (show j < 2147483648 by omega) (by rw [← e]; exact c)), fun c => ?_⟩
  obtain ⟨j, hj, rfl⟩ := nlt0 c
  refine ⟨hX.k 9 0 hF.x, _, (hX.gi 9 8 0 (by decide) hF.x rfl).trans hn, fun c2 => h2 (fun ⟨i, hi, e⟩ => ?_), fun c2 => ?_⟩
  · have := ge_n hj (by omega) c2
    have := (nI_eq hj (by omega)).mp e
    omega
  have hjn : j < n := (nI_ltI hj (by omega)).mp (nle_lt c2)
  refine ⟨fun c3 => ?_, fun _ => ?_⟩
  · have := ge_n (b := 60) hj (by omega) c3
    omega
  refine ⟨hX.k 9 0 hF.x, _, hX.g1 9 1 0 (by decide) hF.x rfl hF.l1, 24, ⟨hX.k 24 0 (by rw [hX.qc 24 (by decide) (by decide)]; decide), by decide, by decide⟩, j, hX.ix 24 (by decide) (by decide) rfl (show j < 60 by omega), some (cA C 2 j), (hX.qq 24 (by decide) (by decide) j).trans (by rw [hr j hjn]; rfl), ?_⟩
  exact ⟨some _, rfl, h1 j hjn rfl⟩
theorem c_homeN (l : Launch) : Ct l 19 1 0 0 (sp_nb 25 1 9 9) := by
  refine ct_jd (by decide) rfl (fun as w Po h => ?_)
  obtain ⟨C, x, n, rfl, hX, hF, ⟨hn, hn2, hc, hr⟩, h1, h2⟩ := h
  refine ⟨Nat.le_of_ble_eq_true rfl, jd_run cdo_19 ev0 30 z00 ?_⟩
  have h2 : (¬ ∃ j, j < n ∧ x = nI j) → ∃ o, Value.null = va_rf o ∧ Po (some .null) w := fun q => ⟨none, rfl, h2 q⟩
  refine ⟨fun c => h2 (fun ⟨j, hj, e⟩ => nI_pos (show j < 2147483648 by omega) (by rw [← e]; exact c)), fun c => ?_⟩
  obtain ⟨j, hj, rfl⟩ := nlt0 c
  refine ⟨hX.k 9 0 hF.x, _, (hX.gi 9 9 0 (by decide) hF.x rfl).trans hn, fun c2 => h2 (fun ⟨i, hi, e⟩ => ?_), fun c2 => ?_⟩
  · have := ge_n hj (by omega) c2
    have := (nI_eq hj (by omega)).mp e
    omega
  have hjn : j < n := (nI_ltI hj (by omega)).mp (nle_lt c2)
  refine ⟨fun c3 => ?_, fun _ => ?_⟩
  · have := ge_n (b := 9) hj (by omega) c3
    omega
  refine ⟨hX.k 9 0 hF.x, _, hX.g1 9 2 0 (by decide) hF.x rfl hF.l2, 25, ⟨hX.k 25 0 (by rw [hX.qc 25 (by decide) (by decide)]; decide), by decide, by decide⟩, j, hX.ix 25 (by decide) (by decide) rfl (show j < 9 by omega), some (cA C 1 j), (hX.qq 25 (by decide) (by decide) j).trans (by rw [hr j hjn]; rfl), ?_⟩
  exact ⟨some _, rfl, h1 j hjn rfl⟩
theorem c_watchN (l : Launch) : Ct l 33 1 0 0 (sp_nb 26 8 10 100) := by
  refine ct_jd (by decide) rfl (fun as w Po h => ?_)
  obtain ⟨C, x, n, rfl, hX, hF, ⟨hn, hn2, hc, hr⟩, h1, h2⟩ := h
  refine ⟨Nat.le_of_ble_eq_true rfl, jd_run cdo_33 ev0 30 z00 ?_⟩
  have h2 : (¬ ∃ j, j < n ∧ x = nI j) → ∃ o, Value.null = va_rf o ∧ Po (some .null) w := fun q => ⟨none, rfl, h2 q⟩
  refine ⟨fun c => h2 (fun ⟨j, hj, e⟩ => nI_pos (show j < 2147483648 by omega) (by rw [← e]; exact c)), fun c => ?_⟩
  obtain ⟨j, hj, rfl⟩ := nlt0 c
  refine ⟨hX.k 9 0 hF.x, _, (hX.gi 9 10 0 (by decide) hF.x rfl).trans hn, fun c2 => h2 (fun ⟨i, hi, e⟩ => ?_), fun c2 => ?_⟩
  · have := ge_n hj (by omega) c2
    have := (nI_eq hj (by omega)).mp e
    omega
  have hjn : j < n := (nI_ltI hj (by omega)).mp (nle_lt c2)
  refine ⟨fun c3 => ?_, fun _ => ?_⟩
  · have := ge_n (b := 100) hj (by omega) c3
    omega
  refine ⟨hX.k 9 0 hF.x, _, hX.g1 9 3 0 (by decide) hF.x rfl hF.l3, 26, ⟨hX.k 26 0 (by rw [hX.qc 26 (by decide) (by decide)]; decide), by decide, by decide⟩, j, hX.ix 26 (by decide) (by decide) rfl (show j < 100 by omega), some (cA C 8 j), (hX.qq 26 (by decide) (by decide) j).trans (by rw [hr j hjn]; rfl), ?_⟩
  exact ⟨some _, rfl, h1 j hjn rfl⟩
theorem c_pieceN (l : Launch) : Ct l 43 1 0 0 (sp_nb 23 5 7 300) := by
  refine ct_jd (by decide) rfl (fun as w Po h => ?_)
  obtain ⟨C, x, n, rfl, hX, hF, ⟨hn, hn2, hc, hr⟩, h1, h2⟩ := h
  refine ⟨Nat.le_of_ble_eq_true rfl, jd_run cdo_43 ev0 30 z00 ?_⟩
  have h2 : (¬ ∃ j, j < n ∧ x = nI j) → ∃ o, Value.null = va_rf o ∧ Po (some .null) w := fun q => ⟨none, rfl, h2 q⟩
  refine ⟨fun c => h2 (fun ⟨j, hj, e⟩ => nI_pos (show j < 2147483648 by omega) (by rw [← e]; exact c)), fun c => ?_⟩
  obtain ⟨j, hj, rfl⟩ := nlt0 c
  refine ⟨hX.k 9 0 hF.x, _, (hX.gi 9 7 0 (by decide) hF.x rfl).trans hn, fun c2 => h2 (fun ⟨i, hi, e⟩ => ?_), fun c2 => ?_⟩
  · have := ge_n hj (by omega) c2
    have := (nI_eq hj (by omega)).mp e
    omega
  have hjn : j < n := (nI_ltI hj (by omega)).mp (nle_lt c2)
  refine ⟨fun c3 => ?_, fun _ => ?_⟩
  · have := ge_n (b := 300) hj (by omega) c3
    omega
  refine ⟨hX.k 9 0 hF.x, _, hX.g1 9 0 0 (by decide) hF.x rfl hF.l0, 23, ⟨hX.k 23 0 (by rw [hX.qc 23 (by decide) (by decide)]; decide), by decide, by decide⟩, j, hX.ix 23 (by decide) (by decide) rfl (show j < 300 by omega), some (cA C 5 j), (hX.qq 23 (by decide) (by decide) j).trans (by rw [hr j hjn]; rfl), ?_⟩
  exact ⟨some _, rfl, h1 j hjn rfl⟩
def sp_lotAtHouse : Sp := fun as w K => ∃ C x n, as = [.ref (cA C 9 0), .int x] ∧ RX C w ∧ FX C ∧ NB C 24 2 8 60 n ∧ (∀ j, j < n → x = nI j → cI C 2 5 j = 0 → K (some (.ref (cA C 2 j))) w) ∧ ((¬ ∃ j, j < n ∧ x = nI j ∧ cI C 2 5 j = 0) → K (some .null) w)
theorem c_lotAtHouse (l : Launch) : Ct l 13 2 0 0 sp_lotAtHouse := by
  refine ct_jd (by decide) rfl (fun as w Po h => ?_)
  obtain ⟨C, x, n, rfl, hX, hF, hN, h1, h2⟩ := h
  refine ⟨Nat.le_of_ble_eq_true rfl, jd_run cdo_13 (evL_ok (L := [(14, 1, 0, 0, sp_nb 24 2 8 60)]) (by simpa using c_lotN l)) 30 z00 ?_⟩
  refine ⟨⟨by decide, by decide, by decide⟩, rfl, hX.k 9 0 hF.x, C, x, n, rfl, hX, hF, hN, fun j hj e => ?_, fun q => ⟨none, rfl, h2 (fun ⟨j, hj, e, _⟩ => q ⟨j, hj, e⟩)⟩⟩
  have hj2 : j < cN C 2 := by rw [hN.2.2.1]; exact hj
  refine ⟨hX.k 2 j hj2, _, hX.gi 2 5 j (by decide) hj2 rfl, fun c => ⟨none, rfl, h2 (fun ⟨i, hi, e2, q⟩ => c ?_)⟩, fun c => ⟨some _, rfl, h1 j hj e c⟩⟩
  have := hN.2.1
  rw [two_eq (by omega) (by omega) e e2]
  exact q
def sp_lotForMaking : Sp := fun as w K => ∃ C x k n, as = [.ref (cA C 9 0), .int x, .int k] ∧ RX C w ∧ FX C ∧ NB C 24 2 8 60 n ∧ (∀ j, j < n → x = nI j → cI C 2 5 j = 0 → cI C 2 1 j = k → cI C 2 4 j ≤ 10 → K (some (.ref (cA C 2 j))) w) ∧ ((¬ ∃ j, j < n ∧ x = nI j ∧ cI C 2 5 j = 0 ∧ cI C 2 1 j = k ∧ cI C 2 4 j ≤ 10) → K (some .null) w)
theorem c_lotForMaking (l : Launch) : Ct l 46 3 0 0 sp_lotForMaking := by
  refine ct_jd (by decide) rfl (fun as w Po h => ?_)
  obtain ⟨C, x, k, n, rfl, hX, hF, hN, h1, h2⟩ := h
  refine ⟨Nat.le_of_ble_eq_true rfl, jd_run cdo_46 (evL_ok (L := [(13, 2, 0, 0, sp_lotAtHouse)]) (by simpa using c_lotAtHouse l)) 30 z00 ?_⟩
  refine ⟨⟨by decide, by decide, by decide⟩, rfl, hX.k 9 0 hF.x, C, x, n, rfl, hX, hF, hN, fun j hj e hs => ?_, fun q => ⟨none, rfl, h2 (fun ⟨j, hj, e, q2, _⟩ => q ⟨j, hj, e, q2⟩)⟩⟩
  have hj2 : j < cN C 2 := by rw [hN.2.2.1]; exact hj
  have hn60 := hN.2.1
  have no : ¬ (cI C 2 1 j = k ∧ cI C 2 4 j ≤ 10) → ∃ o, Value.null = va_rf o ∧ Po (some .null) w := fun q => ⟨none, rfl, h2 (fun ⟨i, hi, e2, _, q2⟩ => q (by rw [two_eq (by omega) (by omega) e e2]; exact q2))⟩
  refine ⟨hX.k 2 j hj2, _, hX.gi 2 1 j (by decide) hj2 rfl, fun c => no (fun q => c q.1), fun c => ?_⟩
  refine ⟨hX.k 2 j hj2, _, hX.gi 2 4 j (by decide) hj2 rfl, fun c2 => no (fun q => lt_nle c2 q.2), fun c2 => ⟨some _, rfl, h1 j hj e hs c (nlt_le c2)⟩⟩
