/-! THE CLASS: a home's day, a day -/
def cWD (h : Nat) : Nat → Nat → Cs → Cs × Nat
  | 0, n, C => (C, n)
  | f + 1, n, C => match cL C 1 8 h with
    | 0 => (C, n)
    | l + 1 => match cNW C l with
      | 0 => cWD h f n (cRel C h l)
      | p + 1 => if nI n < cI C 1 1 h then cWD h f (n + 1) (cWP C h l p) else (C, n)
theorem cWD_Kp (h : Nat) : ∀ f n C, Kp C (cWD h f n C).1
  | 0, n, C => Kp.rf C
  | f + 1, n, C => by
    unfold cWD
    split
    · exact Kp.rf C
    · split
      · exact (cRel_Kp _ _ _).tr (cWD_Kp h f _ _)
      · split
        · exact (cWP_Kp _ _ _ _).tr (cWD_Kp h f _ _)
        · exact Kp.rf C
def sp_workDay : Sp := fun as w K => ∃ C h fu, as = [.ref (cA C 1 h)] ∧ RX C w ∧ (h < cN C 1 ∧ fu = 80) ∧ ∀ w', RX (cWD h fu 0 C).1 w' → K (some (.int (nI (cWD h fu 0 C).2))) w'
theorem c_workDay (l : Launch) : Ct l 24 3 0 0 sp_workDay := by
  have hev : ∀ (k : Nat) (r : Nat × Nat × Nat × Sp), evL [(25, 1, 0, 0, sp_nextToWork), (26, 2, 0, 0, sp_release), (28, 2, 0, 0, sp_workPiece)] k = some r → Ct l k r.1 r.2.1 r.2.2.1 r.2.2.2 := evL_ok (by simpa using ⟨c_nextToWork l, c_release l, c_workPiece l⟩)
  refine ct_jd (by decide) rfl (fun as w Po h => ?_)
  obtain ⟨C, ho, fu, rfl, hX, ⟨hh, hfu⟩, h⟩ := h
  refine ⟨Nat.le_of_ble_eq_true rfl, ?_⟩
  have key : ∀ d i n D w', i + d = 80 → Kp C D → RX D w' → (∀ w2, RX (cWD ho d n D).1 w2 → Po (some (.int (nI (cWD ho d n D).2))) w2) → Jd l 24 3 0 0 (some .int) Po 4 [(2, .int (nI i)), (1, .int (nI n)), (0, .ref (cA C 1 ho))] [] w' 0 0 := by
    intro d
    induction d with
    | zero =>
      intro i n D w' hi hK hX hk
      obtain rfl : i = 80 := by omega
      exact jd_s cdo_24 hev [] 20 z00 ⟨fun _ => hk _ hX, fun c => absurd (by decide) c⟩
    | succ d ih =>
      intro i n D w' hi hK hX hk
      have hh' : ho < cN D 1 := by rw [hK.1.2.1]; exact hh
      rw [← hK.1.1]
      refine jd_s cdo_24 hev [4] 60 z00 ⟨fun c => ?_, fun _ => ?_⟩
      · have := ge_n (a := i) (b := 80) (by omega) (by omega) c
        omega
      rw [cWD] at hk
      cases e : cL D 1 8 ho with
      | zero =>
        rw [e] at hk
        exact ⟨hX.k 1 ho hh', _, hX.g0 1 8 ho (by decide) hh' rfl e, hk _ hX⟩
      | succ lo =>
        rw [e] at hk
        have hlo : lo < cN D 2 := hX.l1 1 8 ho (by decide) hh' rfl e
        refine ⟨hX.k 1 ho hh', _, hX.g1 1 8 ho (by decide) hh' rfl e, ?_⟩
        refine ⟨⟨by decide, by decide, by decide⟩, rfl, hX.k 2 lo hlo, D, lo, rfl, hX, hlo, fun hb => ?_⟩
        dsimp only at hk
        cases e2 : cNW D lo with
        | zero =>
          rw [e2] at hk
          refine ⟨⟨by decide, by decide, by decide⟩, rfl, hX.k 1 ho hh', D, ho, lo, rfl, hX, ⟨hh', hlo⟩, fun w2 hX2 => ?_⟩
          have := ih (i + 1) n _ w2 (by omega) (hK.tr (cRel_Kp _ _ _)) hX2 hk
          rw [← nI_1, ← hK.1.1] at this
          exact jd_pk [0, 3, 4] this
        | succ p =>
          rw [e2] at hk hb
          dsimp only at hk
          refine ⟨hX.k 1 ho hh', _, hX.gi 1 1 ho (by decide) hh' rfl, fun c => ?_, fun c => ?_⟩
          · rw [if_neg (fun q => lt_nle q c)] at hk
            exact hk _ hX
          · rw [if_pos (nle_lt c)] at hk
            refine ⟨⟨by decide, by decide, by decide⟩, rfl, hX.k 1 ho hh', D, ho, lo, p, rfl, hX, ⟨hh', hlo, hb⟩, fun w2 hX2 => ?_⟩
            have := ih (i + 1) (n + 1) _ w2 (by omega) (hK.tr (cWP_Kp _ _ _ _)) hX2 hk
            rw [← nI_1, ← nI_1, ← hK.1.1] at this
            exact jd_pk [0, 1, 4] this
  refine jd_s cdo_24 hev [4] 10 z00 ?_
  exact key fu 0 0 C w (by omega) (Kp.rf C) hX h
def cTvs (C : Cs) (sn : Int32) : Nat → Cs
  | 0 => C
  | n + 1 => cTv (cTvs C sn n) sn n
theorem cTvs_Kp (C : Cs) (sn : Int32) : ∀ n, Kp C (cTvs C sn n)
  | 0 => Kp.rf C
  | n + 1 => (cTvs_Kp C sn n).tr (cTv_Kp _ _ _)
def cWDs (fu : Nat) (C : Cs) : Nat → Cs × Nat
  | 0 => (C, 0)
  | n + 1 => ((cWD n fu 0 (cWDs fu C n).1).1, (cWDs fu C n).2 + (cWD n fu 0 (cWDs fu C n).1).2)
theorem cWDs_Kp (fu : Nat) (C : Cs) : ∀ n, Kp C (cWDs fu C n).1
  | 0 => Kp.rf C
  | n + 1 => (cWDs_Kp fu C n).tr (cWD_Kp _ _ _ _)
def cDay (fu : Nat) (C : Cs) (sn : Int32) (nl nh : Nat) : Cs := wI (cWDs fu (cTvs C sn nl) nh).1 9 13 0 (cI C 9 13 0 + 1)
def sp_cday : Sp := fun as w K => ∃ C sn nl nh fu, fu = 80 ∧ as = [.ref (cA C 9 0), .int sn] ∧ RX C w ∧ FX C ∧ NB C 24 2 8 60 nl ∧ NB C 25 1 9 9 nh ∧ (400 ≤ cI C 9 13 0 → K (some (.int (-1))) w) ∧ (cI C 9 13 0 < 400 → ∀ w', RX (cDay fu C sn nl nh) w' → K (some (.int (nI (cWDs fu (cTvs C sn nl) nh).2))) w')
theorem c_day (l : Launch) : Ct l 21 4 0 0 sp_cday := by
  have hev : ∀ (k : Nat) (r : Nat × Nat × Nat × Sp), evL [(14, 1, 0, 0, sp_nb 24 2 8 60), (19, 1, 0, 0, sp_nb 25 1 9 9), (22, 2, 0, 0, sp_travel), (24, 3, 0, 0, sp_workDay)] k = some r → Ct l k r.1 r.2.1 r.2.2.1 r.2.2.2 := evL_ok (by simpa using ⟨c_lotN l, c_homeN l, c_travel l, c_workDay l⟩)
  refine ct_jd (by decide) rfl (fun as w Po h => ?_)
  obtain ⟨C, sn, nl, nh, fu, hfu, rfl, hX, hF, hNl, hNh, h1, h2⟩ := h
  refine ⟨Nat.le_of_ble_eq_true rfl, ?_⟩
  have key2 : (cI C 9 13 0 < 400) → ∀ d i w', i + d = nh → RX (cWDs fu (cTvs C sn nl) i).1 w' → Jd l 21 4 0 0 (some .int) Po 47 [(3, .int (nI i)), (2, .int (nI (cWDs fu (cTvs C sn nl) i).2)), (0, .ref (cA C 9 0)), (1, .int sn)] [] w' 0 0 := by
    intro hd d
    induction d with
    | zero =>
      intro i w' hi hX
      obtain rfl : i = nh := by omega
      have hK : Kp C (cWDs fu (cTvs C sn nl) i).1 := (cTvs_Kp C sn nl).tr (cWDs_Kp fu _ i)
      have hN := hK.nb (by decide) hNh
      have hF := hK.fx hF
      rw [← hK.1.1]
      refine jd_s cdo_21 hev [] 40 z00 ⟨hX.k 9 0 hF.x, _, (hX.gi 9 9 0 (by decide) hF.x rfl).trans hN.1, fun _ => ?_, fun c => absurd (nI_le (Nat.le_refl i) (by have := hNh.2.1; omega)) c⟩
      refine ⟨hX.k 9 0 hF.x, _, (hX.gi 9 13 0 (by decide) hF.x rfl).trans (hK.2.1 9 13 0 (by decide) (by decide) (by decide)), hX.k 9 0 hF.x, ?_⟩
      exact h2 hd _ (hX.wi 9 13 0 hF.x (cI C 9 13 0 + 1))
    | succ d ih =>
      intro i w' hi hX
      have hn9 := hNh.2.1
      have hK : Kp C (cWDs fu (cTvs C sn nl) i).1 := (cTvs_Kp C sn nl).tr (cWDs_Kp fu _ i)
      have hN := hK.nb (by decide) hNh
      have hF := hK.fx hF
      rw [← hK.1.1]
      refine jd_s cdo_21 hev [47] 40 z00 ⟨hX.k 9 0 hF.x, _, (hX.gi 9 9 0 (by decide) hF.x rfl).trans hN.1, fun c => ?_, fun _ => ?_⟩
      · have := ge_n (a := i) (b := nh) (by omega) (by omega) c
        omega
      refine ⟨⟨by decide, by decide, by decide⟩, rfl, hX.k 9 0 hF.x, _, nI i, nh, by rfl, hX, hF, hN, fun j hj ej => ?_, fun q => absurd ⟨i, by omega, rfl⟩ q⟩
      obtain rfl : i = j := (nI_eq (by omega) (by omega)).mp ej
      have hi1 : i < cN (cWDs fu (cTvs C sn nl) i).1 1 := by rw [hN.2.2.1]; exact hj
      refine ⟨⟨by decide, by decide, by decide⟩, rfl, hX.k 1 i hi1, _, i, fu, by rfl, hX, ⟨hi1, hfu⟩, fun w2 hX2 => ?_⟩
      have := ih (i + 1) w2 (by omega) hX2
      rw [← nI_1, cWDs, ← nI_add, ← hK.1.1] at this
      exact jd_pk [0, 1, 3, 4] this
  have key1 : (cI C 9 13 0 < 400) → ∀ d i w', i + d = nl → RX (cTvs C sn i) w' → Jd l 21 4 0 0 (some .int) Po 14 [(2, .int (nI i)), (0, .ref (cA C 9 0)), (1, .int sn)] [] w' 0 0 := by
    intro hd d
    induction d with
    | zero =>
      intro i w' hi hX
      obtain rfl : i = nl := by omega
      have hK : Kp C (cTvs C sn i) := cTvs_Kp C sn i
      have hN := hK.nb (by decide) hNl
      have hF := hK.fx hF
      refine jd_s cdo_21 hev [47] 40 z00 ⟨hX.k' 9 0 (by rw [hK.1.1]) hF.x, _, (hX.gi' 9 8 0 (by rw [hK.1.1]) (by decide) hF.x rfl).trans hN.1, fun _ => ?_, fun c => absurd (nI_le (Nat.le_refl i) (by have := hNl.2.1; omega)) c⟩
      exact jd_pk [0, 1, 2, 3] (key2 hd nh 0 w' (by omega) hX)
    | succ d ih =>
      intro i w' hi hX
      have hn60 := hNl.2.1
      have hK : Kp C (cTvs C sn i) := cTvs_Kp C sn i
      have hN := hK.nb (by decide) hNl
      have hF := hK.fx hF
      rw [← hK.1.1]
      refine jd_s cdo_21 hev [14] 40 z00 ⟨hX.k 9 0 hF.x, _, (hX.gi 9 8 0 (by decide) hF.x rfl).trans hN.1, fun c => ?_, fun _ => ?_⟩
      · have := ge_n (a := i) (b := nl) (by omega) (by omega) c
        omega
      refine ⟨⟨by decide, by decide, by decide⟩, rfl, hX.k 9 0 hF.x, _, nI i, nl, by rfl, hX, hF, hN, fun j hj ej => ?_, fun q => absurd ⟨i, by omega, rfl⟩ q⟩
      obtain rfl : i = j := (nI_eq (by omega) (by omega)).mp ej
      have hi1 : i < cN (cTvs C sn i) 2 := by rw [hN.2.2.1]; exact hj
      refine ⟨⟨by decide, by decide, by decide⟩, rfl, hX.k 2 i hi1, _, i, sn, by rfl, hX, hi1, fun w2 hX2 => ?_⟩
      have := ih (i + 1) w2 (by omega) hX2
      rw [← nI_1, ← hK.1.1] at this
      exact jd_pk [0, 2, 3] this
  refine jd_s cdo_21 hev [14] 20 z00 ⟨hX.k 9 0 hF.x, _, hX.gi 9 13 0 (by decide) hF.x rfl, fun c => ?_, fun c => h1 (nlt_le c)⟩
  exact key1 c nl 0 w (by omega) hX
