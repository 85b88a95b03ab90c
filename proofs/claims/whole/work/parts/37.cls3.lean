/-! THE CLASS: lots that come, wait and go, a piece's work -/
theorem u3_e {α : Type} {f : Nat → Nat → Nat → α} {c k a : Nat} {v : α} : u3 f c k a v c k a = v := by simp [u3]
theorem cI_wI (C : Cs) (t k i : Nat) (v : Int32) (t' k' i' : Nat) : cI (wI C t k i v) t' k' i' = if t' = t ∧ k' = k ∧ i' = i then v else cI C t' k' i' := id rfl
theorem cI_wL (C : Cs) (t k i c t' k' i' : Nat) : cI (wL C t k i c) t' k' i' = cI C t' k' i' := id rfl
theorem cL_wL (C : Cs) (t k i c t' k' i' : Nat) : cL (wL C t k i c) t' k' i' = if t' = t ∧ k' = k ∧ i' = i then c else cL C t' k' i' := id rfl
theorem cL_wI (C : Cs) (t k i : Nat) (v : Int32) (t' k' i' : Nat) : cL (wI C t k i v) t' k' i' = cL C t' k' i' := id rfl
def cRec (C : Cs) (h l : Nat) : Cs := wI (wL (match cL C 1 9 h with
  | 0 => wL C 1 8 h (l + 1)
  | q + 1 => wL C 2 10 q (l + 1)) 1 9 h (l + 1)) 1 7 h (cI C 1 7 h + 1)
theorem cRec_Kp (C : Cs) (h l : Nat) : Kp C (cRec C h l) := by
  unfold cRec
  split
  · exact (((Kp.rf C).wl 1 _ _ _ (by decide)).wl 1 _ _ _ (by decide)).wi 1 _ _ _ (by decide)
  · exact (((Kp.rf C).wl 2 _ _ _ (by decide)).wl 1 _ _ _ (by decide)).wi 1 _ _ _ (by decide)
def sp_receive : Sp := fun as w K => ∃ C h l, as = [.ref (cA C 1 h), .ref (cA C 2 l)] ∧ RX C w ∧ (h < cN C 1 ∧ l < cN C 2) ∧ ∀ w', RX (cRec C h l) w' → K none w'
theorem c_receive (l : Launch) : Ct l 23 1 0 0 sp_receive := by
  refine ct_jd (by decide) rfl (fun as w Po h => ?_)
  obtain ⟨C, ho, lo, rfl, hX, ⟨hh, hl⟩, h⟩ := h
  refine ⟨Nat.le_of_ble_eq_true rfl, jd_run cdo_23 ev0 40 z00 ?_⟩
  cases e : cL C 1 9 ho with
  | zero =>
    refine ⟨hX.k 1 ho hh, _, hX.g0 1 9 ho (by decide) hh rfl e, ?_⟩
    refine ⟨hX.k 1 ho hh, some (cA C 2 lo), rfl, ?_⟩
    have hX := hX.wl 1 8 ho (lo + 1) hh hl (by decide)
    refine ⟨hX.k 1 ho hh, some (cA C 2 lo), rfl, ?_⟩
    have hX := hX.wl 1 9 ho (lo + 1) hh hl (by decide)
    refine ⟨hX.k 1 ho hh, _, hX.gi 1 7 ho (by decide) hh rfl, hX.k 1 ho hh, ?_⟩
    have hX := hX.wi 1 7 ho hh (cI C 1 7 ho + 1)
    refine h _ ?_
    rw [cRec, e]
    exact hX
  | succ q =>
    have hq : q < cN C 2 := hX.l1 1 9 ho (by decide) hh rfl e
    refine ⟨hX.k 1 ho hh, _, hX.g1 1 9 ho (by decide) hh rfl e, ?_⟩
    refine ⟨hX.k 1 ho hh, _, hX.g1 1 9 ho (by decide) hh rfl e, hX.k 2 q hq, some (cA C 2 lo), rfl, ?_⟩
    have hX := hX.wl 2 10 q (lo + 1) hq hl (by decide)
    refine ⟨hX.k 1 ho hh, some (cA C 2 lo), rfl, ?_⟩
    have hX := hX.wl 1 9 ho (lo + 1) hh hl (by decide)
    refine ⟨hX.k 1 ho hh, _, hX.gi 1 7 ho (by decide) hh rfl, hX.k 1 ho hh, ?_⟩
    have hX := hX.wi 1 7 ho hh (cI C 1 7 ho + 1)
    refine h _ ?_
    rw [cRec, e]
    exact hX
def cTH (C : Cs) (l : Nat) (v : Int32) : Cs := wL (wI (wL (wI (wI C 2 5 l 3) 2 7 l v) 2 8 l 0) 2 9 l 0) 2 10 l 0
theorem cTH_Kp (C : Cs) (l : Nat) (v : Int32) : Kp C (cTH C l v) := (((((Kp.rf C).wi 2 _ _ _ (by decide)).wi 2 _ _ _ (by decide)).wl 2 _ _ _ (by decide)).wi 2 _ _ _ (by decide)).wl 2 _ _ _ (by decide)
def sp_turnHome : Sp := fun as w K => ∃ C l v, as = [.ref (cA C 2 l), .int v] ∧ RX C w ∧ l < cN C 2 ∧ ∀ w', RX (cTH C l v) w' → K none w'
theorem c_turnHome (l : Launch) : Ct l 27 1 0 0 sp_turnHome := by
  refine ct_jd (by decide) rfl (fun as w Po h => ?_)
  obtain ⟨C, lo, v, rfl, hX, hl, h⟩ := h
  refine ⟨Nat.le_of_ble_eq_true rfl, jd_run cdo_27 ev0 40 z00 ?_⟩
  refine ⟨hX.k 2 lo hl, ?_⟩
  have hX := hX.wi 2 5 lo hl 3
  refine ⟨hX.k 2 lo hl, ?_⟩
  have hX := hX.wi 2 7 lo hl v
  refine ⟨hX.k 2 lo hl, none, rfl, ?_⟩
  have hX := hX.wl 2 8 lo 0 hl (Nat.zero_le _) (by decide)
  refine ⟨hX.k 2 lo hl, ?_⟩
  have hX := hX.wi 2 9 lo hl 0
  refine ⟨hX.k 2 lo hl, none, rfl, ?_⟩
  exact h _ (hX.wl 2 10 lo 0 hl (Nat.zero_le _) (by decide))
def cRl1 (C : Cs) (h l : Nat) : Cs := wI (if cL C 2 10 l = 0 then wL (wL C 1 8 h 0) 1 9 h 0 else wL C 1 8 h (cL C 2 10 l)) 1 7 h (cI C 1 7 h - 1)
def cRel (C : Cs) (h l : Nat) : Cs := cTH (cRl1 C h l) l (cI C 1 4 h)
theorem cRl1_Kp (C : Cs) (h l : Nat) : Kp C (cRl1 C h l) := by
  unfold cRl1
  split
  · exact (((Kp.rf C).wl 1 _ _ _ (by decide)).wl 1 _ _ _ (by decide)).wi 1 _ _ _ (by decide)
  · exact ((Kp.rf C).wl 1 _ _ _ (by decide)).wi 1 _ _ _ (by decide)
theorem cRel_Kp (C : Cs) (h l : Nat) : Kp C (cRel C h l) := (cRl1_Kp C h l).tr (cTH_Kp _ _ _)
def sp_release : Sp := fun as w K => ∃ C h l, as = [.ref (cA C 1 h), .ref (cA C 2 l)] ∧ RX C w ∧ (h < cN C 1 ∧ l < cN C 2) ∧ ∀ w', RX (cRel C h l) w' → K none w'
theorem c_release (l : Launch) : Ct l 26 2 0 0 sp_release := by
  refine ct_jd (by decide) rfl (fun as w Po h => ?_)
  obtain ⟨C, ho, lo, rfl, hX, ⟨hh, hl⟩, h⟩ := h
  refine ⟨Nat.le_of_ble_eq_true rfl, jd_run cdo_26 (evL_ok (L := [(27, 1, 0, 0, sp_turnHome)]) (by simpa using c_turnHome l)) 40 z00 ?_⟩
  have hlb : cL C 2 10 lo ≤ cN C 2 := hX.lb 2 10 lo (by decide) hl rfl
  refine ⟨hX.k 2 lo hl, _, hX.gr 2 10 lo (by decide) hl rfl, hX.k 1 ho hh, _, rfl, ?_⟩
  have hX := hX.wl 1 8 ho (cL C 2 10 lo) hh hlb (by decide)
  rw [cRel, cRl1] at h
  cases e : cL C 2 10 lo with
  | zero =>
    rw [e] at hX h
    rw [if_pos rfl] at h
    refine ⟨hX.k 1 ho hh, _, hX.g0 1 8 ho (by decide) hh rfl u3_e, hX.k 1 ho hh, none, rfl, ?_⟩
    have hX := hX.wl 1 9 ho 0 hh (Nat.zero_le _) (by decide)
    refine ⟨hX.k 1 ho hh, _, hX.gi 1 7 ho (by decide) hh rfl, hX.k 1 ho hh, ?_⟩
    have hX := hX.wi 1 7 ho hh (cI C 1 7 ho - 1)
    refine ⟨hX.k 1 ho hh, _, hX.gi 1 4 ho (by decide) hh rfl, ?_⟩
    exact ⟨⟨by decide, by decide, by decide⟩, rfl, hX.k 2 lo hl, _, lo, _, by rfl, hX, hl, h⟩
  | succ q =>
    rw [e] at hX h
    rw [if_neg (Nat.succ_ne_zero q)] at h
    refine ⟨hX.k 1 ho hh, _, hX.g1 1 8 ho (by decide) hh rfl u3_e, ?_⟩
    refine ⟨hX.k 1 ho hh, _, hX.gi 1 7 ho (by decide) hh rfl, hX.k 1 ho hh, ?_⟩
    have hX := hX.wi 1 7 ho hh (cI C 1 7 ho - 1)
    refine ⟨hX.k 1 ho hh, _, hX.gi 1 4 ho (by decide) hh rfl, ?_⟩
    exact ⟨⟨by decide, by decide, by decide⟩, rfl, hX.k 2 lo hl, _, lo, _, by rfl, hX, hl, h⟩
def cLR (C : Cs) (p : Nat) (s v : Int32) : Cs := wI (wI C 5 5 p s) 5 6 p v
theorem cLR_Kp (C : Cs) (p : Nat) (s v : Int32) : Kp C (cLR C p s v) := ((Kp.rf C).wi 5 _ _ _ (by decide)).wi 5 _ _ _ (by decide)
def sp_leaveRow : Sp := fun as w K => ∃ C p s v, as = [.ref (cA C 5 p), .int s, .int v] ∧ RX C w ∧ p < cN C 5 ∧ ∀ w', RX (cLR C p s v) w' → K none w'
theorem c_leaveRow (l : Launch) : Ct l 29 1 0 0 sp_leaveRow := by
  refine ct_jd (by decide) rfl (fun as w Po h => ?_)
  obtain ⟨C, p, s, v, rfl, hX, hp, h⟩ := h
  refine ⟨Nat.le_of_ble_eq_true rfl, jd_run cdo_29 ev0 40 z00 ?_⟩
  refine ⟨hX.k 5 p hp, ?_⟩
  have hX := hX.wi 5 5 p hp s
  exact ⟨hX.k 5 p hp, h _ (hX.wi 5 6 p hp v)⟩
/-- the code of the piece that is worked next -/
def cNW (C : Cs) (l : Nat) : Nat := match cL C 2 8 l with
  | 0 => cL C 2 2 l
  | q + 1 => cL C 5 7 q
def sp_nextToWork : Sp := fun as w K => ∃ C l, as = [.ref (cA C 2 l)] ∧ RX C w ∧ l < cN C 2 ∧ (cNW C l ≤ cN C 5 → K (some (va_rf (adO C 5 (cNW C l)))) w)
theorem c_nextToWork (l : Launch) : Ct l 25 1 0 0 sp_nextToWork := by
  refine ct_jd (by decide) rfl (fun as w Po h => ?_)
  obtain ⟨C, lo, rfl, hX, hl, h⟩ := h
  refine ⟨Nat.le_of_ble_eq_true rfl, jd_run cdo_25 ev0 40 z00 ?_⟩
  rw [cNW] at h
  cases e : cL C 2 8 lo with
  | zero =>
    rw [e] at h
    refine ⟨hX.k 2 lo hl, _, hX.g0 2 8 lo (by decide) hl rfl e, ?_⟩
    exact ⟨hX.k 2 lo hl, _, hX.gr 2 2 lo (by decide) hl rfl, _, rfl, h (hX.lb 2 2 lo (by decide) hl rfl)⟩
  | succ q =>
    have hq : q < cN C 5 := hX.l1 2 8 lo (by decide) hl rfl e
    rw [e] at h
    refine ⟨hX.k 2 lo hl, _, hX.g1 2 8 lo (by decide) hl rfl e, ?_⟩
    refine ⟨hX.k 2 lo hl, _, hX.g1 2 8 lo (by decide) hl rfl e, ?_⟩
    exact ⟨hX.k 5 q hq, _, hX.gr 5 7 q (by decide) hq rfl, _, rfl, h (hX.lb 5 7 q (by decide) hq rfl)⟩
def cW4 (C : Cs) (h l p : Nat) : Cs := wI (wI (wI (wI C 5 3 p (cI C 5 3 p + cI C 1 2 h)) 5 4 p (cI C 5 4 p ||| (1 <<< (cI C 1 0 h &&& 31)))) 1 5 h (cI C 1 5 h + 1)) 2 9 l (cI C 2 9 l + 1)
def cBk (C : Cs) (h l p : Nat) : Cs := cUnl (cLR (wI (cW4 C h l p) 1 6 h (cI C 1 6 h + 1)) p 1 (cI C 1 0 h)) l (cL C 2 8 l) p
def cWP (C : Cs) (h l p : Nat) : Cs := if cI C 1 3 h ≤ 0 ∨ ¬ remI (cI C 1 5 h + 1) (cI C 1 3 h) = 0 then wL (cW4 C h l p) 2 8 l (p + 1) else cBk C h l p
theorem cW4_Kp (C : Cs) (h l p : Nat) : Kp C (cW4 C h l p) := ((((Kp.rf C).wi 5 _ _ _ (by decide)).wi 5 _ _ _ (by decide)).wi 1 _ _ _ (by decide)).wi 2 _ _ _ (by decide)
theorem cWP_Kp (C : Cs) (h l p : Nat) : Kp C (cWP C h l p) := by
  unfold cWP
  split
  · exact (cW4_Kp C h l p).wl 2 _ _ _ (by decide)
  · exact (((cW4_Kp C h l p).wi 1 _ _ _ (by decide)).tr (cLR_Kp _ _ _ _)).tr (cUnl_Kp _ _ _ _)
def sp_workPiece : Sp := fun as w K => ∃ C h l p, as = [.ref (cA C 1 h), .ref (cA C 2 l), .ref (cA C 5 p)] ∧ RX C w ∧ (h < cN C 1 ∧ l < cN C 2 ∧ p < cN C 5) ∧ ∀ w', RX (cWP C h l p) w' → K none w'
theorem c_workPiece (l : Launch) : Ct l 28 2 0 0 sp_workPiece := by
  refine ct_jd (by decide) rfl (fun as w Po h => ?_)
  obtain ⟨C, ho, lo, p, rfl, hX, ⟨hh, hl, hp⟩, h⟩ := h
  have hev : ∀ (k : Nat) (r : Nat × Nat × Nat × Sp), evL [(16, 1, 0, 0, sp_unlink), (29, 1, 0, 0, sp_leaveRow)] k = some r → Ct l k r.1 r.2.1 r.2.2.1 r.2.2.2 := evL_ok (by simpa using ⟨c_unlink l, c_leaveRow l⟩)
  have keep : ∀ w2, RX (cW4 C ho lo p) w2 → (cI C 1 3 ho ≤ 0 ∨ ¬ remI (cI C 1 5 ho + 1) (cI C 1 3 ho) = 0) → Jd l 28 2 0 0 none Po 98 [(0, .ref (cA C 1 ho)), (1, .ref (cA C 2 lo)), (2, .ref (cA C 5 p))] [] w2 0 0 := by
    intro w2 hX hc
    refine jd_s cdo_28 hev [] 20 z00 ⟨hX.k 2 lo hl, some (cA C 5 p), rfl, ?_⟩
    have hX := hX.wl 2 8 lo (p + 1) hl hp (by decide)
    refine h _ ?_
    rw [cWP, if_pos hc]
    exact hX
  have brk : ∀ w2, RX (cW4 C ho lo p) w2 → ¬ (cI C 1 3 ho ≤ 0 ∨ ¬ remI (cI C 1 5 ho + 1) (cI C 1 3 ho) = 0) → Jd l 28 2 0 0 none Po 67 [(0, .ref (cA C 1 ho)), (1, .ref (cA C 2 lo)), (2, .ref (cA C 5 p))] [] w2 0 0 := by
    intro w2 hX hc
    rw [cWP, if_neg hc] at h
    refine jd_s cdo_28 hev [] 40 z00 ?_
    refine ⟨hX.k 1 ho hh, _, hX.gi 1 6 ho (by decide) hh rfl, hX.k 1 ho hh, ?_⟩
    have hX := hX.wi 1 6 ho hh (cI C 1 6 ho + 1)
    refine ⟨hX.k 1 ho hh, _, hX.gi 1 0 ho (by decide) hh rfl, ?_⟩
    refine ⟨⟨by decide, by decide, by decide⟩, rfl, hX.k 5 p hp, _, p, 1, cI C 1 0 ho, by rfl, hX, hp, fun w3 hX => ?_⟩
    refine ⟨hX.k 2 lo hl, _, hX.gr 2 8 lo (by decide) hl rfl, ?_⟩
    refine ⟨⟨by decide, by decide, by decide⟩, rfl, hX.k 2 lo hl, _, lo, cL C 2 8 lo, p, by rfl, hX, ⟨hl, hX.lb 2 8 lo (by decide) hl rfl, hp⟩, h⟩
  refine ⟨Nat.le_of_ble_eq_true rfl, jd_s cdo_28 hev [67, 98] 60 z00 ?_⟩
  refine ⟨hX.k 5 p hp, _, hX.gi 5 3 p (by decide) hp rfl, hX.k 1 ho hh, _, hX.gi 1 2 ho (by decide) hh rfl, hX.k 5 p hp, ?_⟩
  have hX := hX.wi 5 3 p hp (cI C 5 3 p + cI C 1 2 ho)
  refine ⟨hX.k 5 p hp, _, hX.gi 5 4 p (by decide) hp rfl, hX.k 1 ho hh, _, hX.gi 1 0 ho (by decide) hh rfl, hX.k 5 p hp, ?_⟩
  have hX := hX.wi 5 4 p hp (cI C 5 4 p ||| (1 <<< (cI C 1 0 ho &&& 31)))
  refine ⟨hX.k 1 ho hh, _, hX.gi 1 5 ho (by decide) hh rfl, hX.k 1 ho hh, ?_⟩
  have hX := hX.wi 1 5 ho hh (cI C 1 5 ho + 1)
  refine ⟨hX.k 2 lo hl, _, hX.gi 2 9 lo (by decide) hl rfl, hX.k 2 lo hl, ?_⟩
  have hX := hX.wi 2 9 lo hl (cI C 2 9 lo + 1)
  have hX : RX (cW4 C ho lo p) _ := hX
  have e5 : cI (cW4 C ho lo p) 1 5 ho = cI C 1 5 ho + 1 := by simp [cW4, cI_wI]
  refine ⟨hX.k 1 ho hh, _, hX.gi 1 3 ho (by decide) hh rfl, fun c => keep _ hX (Or.inl c), fun c => ?_⟩
  refine ⟨hX.k 1 ho hh, _, (hX.gi 1 5 ho (by decide) hh rfl).trans e5, hX.k 1 ho hh, _, hX.gi 1 3 ho (by decide) hh rfl, fun z => c (by rw [show cI (cW4 C ho lo p) 1 3 ho = 0 from z]; decide), fun c2 => keep _ hX (Or.inr c2), fun c2 => brk _ hX (fun q => q.elim c (fun q => q c2))⟩
def cTv1 (C : Cs) (sn : Int32) (l : Nat) : Cs := if sn = 0 ∧ 0 < cI C 2 7 l then wI C 2 7 l (cI C 2 7 l - 1) else C
def cTv2 (s : Int32) (h l : Nat) (D : Cs) : Cs := if 0 < cI D 2 7 l then D else if s = 1 then cRec (wI D 2 5 l 2) h l else wL (wI D 2 5 l 0) 2 6 l 0
def cTv (C : Cs) (sn : Int32) (l : Nat) : Cs := match cL C 2 6 l with
  | 0 => C
  | h + 1 => if cI C 2 5 l = 0 ∨ cI C 2 5 l = 2 then C else cTv2 (cI C 2 5 l) h l (cTv1 C sn l)
theorem cTv1_Kp (C : Cs) (sn : Int32) (l : Nat) : Kp C (cTv1 C sn l) := by
  unfold cTv1
  split
  · exact (Kp.rf C).wi 2 _ _ _ (by decide)
  · exact Kp.rf C
theorem cTv2_Kp (s : Int32) (h l : Nat) (D : Cs) : Kp D (cTv2 s h l D) := by
  unfold cTv2
  split
  · exact Kp.rf D
  · split
    · exact ((Kp.rf D).wi 2 _ _ _ (by decide)).tr (cRec_Kp _ _ _)
    · exact ((Kp.rf D).wi 2 _ _ _ (by decide)).wl 2 _ _ _ (by decide)
theorem cTv_Kp (C : Cs) (sn : Int32) (l : Nat) : Kp C (cTv C sn l) := by
  unfold cTv
  split
  · exact Kp.rf C
  · split
    · exact Kp.rf C
    · exact (cTv1_Kp C sn l).tr (cTv2_Kp _ _ _ _)
def sp_travel : Sp := fun as w K => ∃ C l sn, as = [.ref (cA C 2 l), .int sn] ∧ RX C w ∧ l < cN C 2 ∧ ∀ w', RX (cTv C sn l) w' → K none w'
theorem c_travel (l : Launch) : Ct l 22 2 0 0 sp_travel := by
  refine ct_jd (by decide) rfl (fun as w Po h => ?_)
  obtain ⟨C, lo, sn, rfl, hX, hl, h⟩ := h
  have hev : ∀ (k : Nat) (r : Nat × Nat × Nat × Sp), evL [(23, 1, 0, 0, sp_receive)] k = some r → Ct l k r.1 r.2.1 r.2.2.1 r.2.2.2 := evL_ok (by simpa using c_receive l)
  refine ⟨Nat.le_of_ble_eq_true rfl, ?_⟩
  rw [cTv] at h
  cases e : cL C 2 6 lo with
  | zero =>
    rw [e] at h
    exact jd_run cdo_22 hev 20 z00 ⟨hX.k 2 lo hl, _, hX.g0 2 6 lo (by decide) hl rfl e, h _ hX⟩
  | succ ho =>
    rw [e] at h
    have hh : ho < cN C 1 := hX.l1 2 6 lo (by decide) hl rfl e
    dsimp only at h
    have tail : ∀ D w2, RX D w2 → cN D = cN C → cA D = cA C → cL D 2 6 lo = ho + 1 → cI D 2 5 lo = cI C 2 5 lo → (∀ w', RX (cTv2 (cI C 2 5 lo) ho lo D) w' → Po none w') → Jd l 22 2 0 0 none Po 44 [(0, .ref (cA C 2 lo)), (1, .int sn)] [] w2 0 0 := by
      intro D w2 hX eN eA eh e5 hk
      rw [cTv2] at hk
      have hl : lo < cN D 2 := by rw [eN]; exact hl
      have hh : ho < cN D 1 := by rw [eN]; exact hh
      rw [← eA]
      refine jd_s cdo_22 hev [] 60 z00 ⟨hX.k 2 lo hl, _, hX.gi 2 7 lo (by decide) hl rfl, fun c => ?_, fun c => ?_⟩
      · rw [if_neg (fun q => lt_nle q c)] at hk
        refine ⟨hX.k 2 lo hl, _, (hX.gi 2 5 lo (by decide) hl rfl).trans e5, fun c2 => ?_, fun c2 => ?_⟩
        · rw [if_neg c2] at hk
          refine ⟨hX.k 2 lo hl, ?_⟩
          have hX := hX.wi 2 5 lo hl 0
          refine ⟨hX.k 2 lo hl, none, rfl, ?_⟩
          exact hk _ (hX.wl 2 6 lo 0 hl (Nat.zero_le _) (by decide))
        · rw [if_pos c2] at hk
          refine ⟨hX.k 2 lo hl, ?_⟩
          have hX := hX.wi 2 5 lo hl 2
          refine ⟨hX.k 2 lo hl, _, hX.g1 2 6 lo (by decide) hl rfl eh, ?_⟩
          exact ⟨⟨by decide, by decide, by decide⟩, rfl, hX.k 1 ho hh, _, ho, lo, by rfl, hX, ⟨hh, hl⟩, hk⟩
      · rw [if_pos (nle_lt c)] at hk
        exact hk _ hX
    refine jd_s cdo_22 hev [44] 60 z00 ⟨hX.k 2 lo hl, _, hX.g1 2 6 lo (by decide) hl rfl e, ?_⟩
    refine ⟨hX.k 2 lo hl, _, hX.gi 2 5 lo (by decide) hl rfl, fun c => ?_, fun c => ?_⟩
    · rw [if_pos (Or.inl c)] at h
      exact h _ hX
    refine ⟨hX.k 2 lo hl, _, hX.gi 2 5 lo (by decide) hl rfl, fun c2 => ?_, fun c2 => ?_⟩
    · rw [if_neg (fun q => q.elim c c2), cTv1] at h
      refine ⟨fun c3 => ?_, fun c3 => ?_⟩
      · rw [if_neg (fun q => c3 q.1)] at h
        exact tail C w hX rfl rfl e rfl h
      · refine ⟨hX.k 2 lo hl, _, hX.gi 2 7 lo (by decide) hl rfl, fun c4 => ?_, fun c4 => ?_⟩
        · rw [if_neg (fun q => lt_nle q.2 c4)] at h
          exact tail C w hX rfl rfl e rfl h
        · rw [if_pos ⟨c3, nle_lt c4⟩] at h
          refine ⟨hX.k 2 lo hl, _, hX.gi 2 7 lo (by decide) hl rfl, hX.k 2 lo hl, ?_⟩
          exact tail _ _ (hX.wi 2 7 lo hl (cI C 2 7 lo - 1)) rfl rfl e rfl h
    · rw [if_pos (Or.inr c2)] at h
      exact h _ hX
