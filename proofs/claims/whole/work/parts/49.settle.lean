/-! THE CLASS: mates settled -/
def flH (h : Nat → Int32) (n : Nat) : Nat → Int32 := fun j => if j < n then -1 else h j
theorem flH_s (h : Nat → Int32) (n : Nat) : hU (flH h n) n (-1) = flH h (n + 1) := by
  funext j
  unfold hU flH
  by_cases h1 : j = n
  · rw [if_pos h1, if_pos (by omega)]
  · rw [if_neg h1]
    by_cases h2 : j < n
    · rw [if_pos h2, if_pos (by omega)]
    · rw [if_neg h2, if_neg (by omega)]
theorem flH_0 (h : Nat → Int32) : flH h 0 = h := by
  funext j
  exact if_neg (by omega)
theorem RX_fl {C : Cs} {m : Nat} {s : St} {w : Hp} (h20 : 3 * m + 1 < cN C 20) (hX : RX (wM C m s) w) : ∀ n, RX (wM C m (s.1, flH s.2 n)) (flA w (cA C 20 (3 * m + 1)) (-1) n)
  | 0 => by rw [flH_0]; exact hX
  | n + 1 => by
    have := (RX_fl h20 hX n).wx (3 * m + 1) n h20 (-1)
    rw [wM_wX, flH_s] at this
    exact this
def cSb (fu : Nat) (ft : Nat → Int32) (gv set : Int32) : Nat → Nat → St → Bool × St
  | 0, _, s => (true, s)
  | d + 1, b, s => if set >>> (nI b &&& 31) &&& 1 = 1 then (match sOM ft gv fu (nI b) (0, s.2) with
    | (true, s2) => cSb fu ft gv set d (b + 1) s2
    | (false, s2) => (false, s2)) else cSb fu ft gv set d (b + 1) s
def sp_csb (fu : Nat) : Sp := fun as w K => ∃ C m s i set d, as = [.ref (cA C 4 m), .int (nI i), .int set] ∧ RX (wM C m s) w ∧ FX C ∧ (m < 2 ∧ i + 1 + d = 10) ∧ ∀ w', RX (wM C m (cSb fu (cX C (3 * m)) (cI C 4 3 m) set d (i + 1) (s.1, flH s.2 10)).2) w' → K (some (.int (b2i (cSb fu (cX C (3 * m)) (cI C 4 3 m) set d (i + 1) (s.1, flH s.2 10)).1))) w'
theorem c_csb (l : Launch) (fu : Nat) (hfu : fu = 11) : Ct l 61 14 0 0 (sp_csb fu) := by
  have hev : ∀ (k : Nat) (r : Nat × Nat × Nat × Sp), evL [(50, 1, 0, 0, sp_fill), (54, 13, 0, 0, sp_seat fu)] k = some r → Ct l k r.1 r.2.1 r.2.2.1 r.2.2.2 := evL_ok (by simpa using ⟨c_fill l, c_seat l fu hfu⟩)
  refine ct_jd (by decide) rfl (fun as w Po h => ?_)
  obtain ⟨C, m, s, i, set, d, rfl, hX, hF, ⟨hm, hi⟩, h⟩ := h
  have hm4 : m < cN C 4 := by rw [hF.1.2.2.2.1]; exact hm
  have h20 : 3 * m + 1 < cN C 20 := by rw [hF.1.2.2.2.2]; omega
  have l1 : cL C 4 1 m = 3 * m + 1 + 1 := hF.2.2.2 1 m (by decide) hm
  refine ⟨Nat.le_of_ble_eq_true rfl, ?_⟩
  have key : ∀ d b s w', b + d = 10 → RX (wM C m s) w' → (∀ w2, RX (wM C m (cSb fu (cX C (3 * m)) (cI C 4 3 m) set d b s).2) w2 → Po (some (.int (b2i (cSb fu (cX C (3 * m)) (cI C 4 3 m) set d b s).1))) w2) → Jd l 61 14 0 0 (some .boolean) Po 12 [(3, .int (nI b)), (0, .ref (cA C 4 m)), (1, .int (nI i)), (2, .int set)] [] w' 0 0 := by
    intro d
    induction d with
    | zero =>
      intro b s w' hb hX hk
      obtain rfl : b = 10 := by omega
      exact jd_s cdo_61 hev [] 20 z00 ⟨fun _ => ⟨Or.inr rfl, hk _ hX⟩, fun c => absurd (by decide) c⟩
    | succ d ih =>
      intro b s w' hb hX hk
      rw [cSb] at hk
      have next : ∀ s2 w2, RX (wM C m s2) w2 → (∀ w3, RX (wM C m (cSb fu (cX C (3 * m)) (cI C 4 3 m) set d (b + 1) s2).2) w3 → Po (some (.int (b2i (cSb fu (cX C (3 * m)) (cI C 4 3 m) set d (b + 1) s2).1))) w3) → Jd l 61 14 0 0 (some .boolean) Po 37 [(3, .int (nI b)), (0, .ref (cA C 4 m)), (1, .int (nI i)), (2, .int set)] [] w2 0 0 := by
        intro s2 w2 hX hk
        have := ih (b + 1) s2 w2 (by omega) hX hk
        rw [← nI_1] at this
        exact jd_s cdo_61 hev [12] 20 z00 this
      refine jd_s cdo_61 hev [37] 30 z00 ⟨fun c => ?_, fun _ => ⟨fun c => ?_, fun c => ?_⟩⟩
      · have := ge_n (a := b) (b := 10) (by omega) (by omega) c
        omega
      · rw [if_neg c] at hk
        exact next s w' hX hk
      · rw [if_pos c] at hk
        refine ⟨⟨show 13 < 14 by decide, Nat.le_refl _, Nat.le_refl _⟩, rfl, hX.k 4 m hm4, C, m, s, nI b, rfl, hX, hF, hm, ?_⟩
        revert hk
        cases er : sOM (cX C (3 * m)) (cI C 4 3 m) fu (nI b) (0, s.2) with
        | mk r s2 =>
          intro hk w4 hX4
          cases r with
          | true => exact br1n (next s2 w4 hX4 hk)
          | false => exact br0n ⟨Or.inl rfl, hk _ hX4⟩
  refine jd_s cdo_61 hev [12] 30 z00 ⟨hX.k 4 m hm4, _, hX.g1 4 1 m (by decide) hm4 rfl l1, ?_⟩
  refine ⟨⟨by decide, by decide, by decide⟩, rfl, Nat.le_of_ble_eq_true rfl, cA C 20 (3 * m + 1), -1, 10, rfl, hX.k 20 (3 * m + 1) h20, hX.xn (3 * m + 1) h20, by decide, ?_⟩
  have := key d (i + 1) (s.1, flH s.2 10) _ hi (RX_fl h20 hX 10) h
  rw [← nI_1] at this
  exact this
abbrev St3 : Type := (Nat → Int32) × Int32 × St
def wZb (C : Cs) (m : Nat) (e : Nat → Int32) (g : Int32) : Cs := (cN C, cA C, u3 (cI C) 4 3 m g, cL C, fun i j => if i = 3 * m + 2 then e j else cX C i j)
def wZ (C : Cs) (m : Nat) (z : St3) : Cs := wM (wZb C m z.1 z.2.1) m z.2.2
def cur (C : Cs) (m : Nat) : St3 := (cX C (3 * m + 2), cI C 4 3 m, (cI C 4 4 m, cX C (3 * m + 1)))
theorem u3_id {α : Type} (f : Nat → Nat → Nat → α) (a b c : Nat) : u3 f a b c (f a b c) = f := by
  funext i j k
  unfold u3
  by_cases h : i = a ∧ j = b ∧ k = c
  · obtain ⟨rfl, rfl, rfl⟩ := h
    rw [if_pos ⟨rfl, rfl, rfl⟩]
  · rw [if_neg h]
theorem wZ_id (C : Cs) (m : Nat) : wZ C m (cur C m) = C := by
  have e : (fun i j => if i = 3 * m + 1 then cX C (3 * m + 1) j else if i = 3 * m + 2 then cX C (3 * m + 2) j else cX C i j) = cX C := by
    funext i j
    by_cases h : i = 3 * m + 1
    · rw [if_pos h, h]
    · rw [if_neg h]
      by_cases h2 : i = 3 * m + 2
      · rw [if_pos h2, h2]
      · rw [if_neg h2]
  show (cN C, cA C, u3 (u3 (cI C) 4 3 m (cI C 4 3 m)) 4 4 m (cI C 4 4 m), cL C, fun i j => if i = 3 * m + 1 then cX C (3 * m + 1) j else if i = 3 * m + 2 then cX C (3 * m + 2) j else cX C i j) = C
  rw [u3_id, u3_id, e]
  rfl
theorem wZ_g (C : Cs) (m : Nat) (z : St3) (v : Int32) : wI (wZ C m z) 4 3 m v = wZ C m (z.1, v, z.2.2) := by
  have e : u3 (u3 (u3 (cI C) 4 3 m z.2.1) 4 4 m z.2.2.1) 4 3 m v = u3 (u3 (cI C) 4 3 m v) 4 4 m z.2.2.1 := by
    funext i j k
    unfold u3
    by_cases h1 : i = 4 ∧ j = 3 ∧ k = m
    · rw [if_pos h1, if_neg (fun q => by omega), if_pos h1]
    · rw [if_neg h1, if_neg h1, if_neg h1]
  exact congrArg (fun y => (cN C, cA C, y, cL C, fun i j => if i = 3 * m + 1 then z.2.2.2 j else if i = 3 * m + 2 then z.1 j else cX C i j)) e
theorem wZ_e (C : Cs) (m : Nat) (z : St3) (p : Nat) (v : Int32) : wX (wZ C m z) (3 * m + 2) p v = wZ C m (hU z.1 p v, z.2) := by
  have e : u2 (fun i j => if i = 3 * m + 1 then z.2.2.2 j else if i = 3 * m + 2 then z.1 j else cX C i j) (3 * m + 2) p v = fun i j => if i = 3 * m + 1 then z.2.2.2 j else if i = 3 * m + 2 then hU z.1 p v j else cX C i j := by
    funext i j
    unfold u2 hU
    by_cases h : i = 3 * m + 2
    · by_cases h2 : j = p
      · rw [if_pos ⟨h, h2⟩, if_neg (by omega), if_pos h, if_pos h2]
      · rw [if_neg (fun q => h2 q.2)]
        dsimp only
        have n1 : ¬ i = 3 * m + 1 := by omega
        rw [if_neg n1, if_neg n1, if_pos h, if_pos h, if_neg h2]
    · rw [if_neg (fun q => h q.1)]
      dsimp only
      rw [if_neg h, if_neg h]
  exact congrArg (fun y => (cN C, cA C, u3 (u3 (cI C) 4 3 m z.2.1) 4 4 m z.2.2.1, cL C, y)) e
theorem wZb_fx {C : Cs} (h : FX C) (m : Nat) (e : Nat → Int32) (g : Int32) : FX (wZb C m e g) := h
theorem wZb_X (C : Cs) (m : Nat) (e : Nat → Int32) (g : Int32) : cX (wZb C m e g) (3 * m) = cX C (3 * m) := by
  funext j
  exact if_neg (by omega)
theorem wZb_g (C : Cs) (m : Nat) (e : Nat → Int32) (g : Int32) : cI (wZb C m e g) 4 3 m = g := u3_e
theorem wZ_X (C : Cs) (m : Nat) (z : St3) (j : Nat) : cX (wZ C m z) (3 * m) j = cX C (3 * m) j := (if_neg (by omega)).trans (if_neg (by omega))
theorem wZ_X2 (C : Cs) (m : Nat) (z : St3) (j : Nat) : cX (wZ C m z) (3 * m + 2) j = z.1 j := (if_neg (by omega)).trans (if_pos rfl)
theorem wZ_43 (C : Cs) (m : Nat) (z : St3) : cI (wZ C m z) 4 3 m = z.2.1 := (wM_43 _ _ _).trans (wZb_g _ _ _ _)
def fPl (fu : Nat) (ft : Nat → Int32) (set : Int32) (i k : Nat) : Nat → Nat → Int32 × St → Int32 × Int32 × St
  | 0, _, q => (-1, q)
  | d + 1, p, q => if ft i &&& (q.1 ^^^ -1) &&& bt p = 0 then fPl fu ft set i k d (p + 1) q else match cSb fu ft (q.1 ||| bt p) set k (i + 1) (q.2.1, flH q.2.2 10) with
    | (true, s2) => (nI p, q.1 ||| bt p, s2)
    | (false, s2) => fPl fu ft set i k d (p + 1) ((q.1 ||| bt p) &&& (bt p ^^^ -1), s2)
def sp_fPl (fu : Nat) : Sp := fun as w K => ∃ C m z i set k n, as = [.ref (cA C 4 m), .int (nI i), .int set] ∧ RX (wZ C m z) w ∧ FX C ∧ (m < 2 ∧ i + 1 + k = 10 ∧ n = 10) ∧ ∀ w', RX (wZ C m (z.1, (fPl fu (cX C (3 * m)) set i k n 0 z.2).2)) w' → K (some (.int (fPl fu (cX C (3 * m)) set i k n 0 z.2).1)) w'
theorem c_fPl (l : Launch) (fu : Nat) (hfu : fu = 11) : Ct l 60 15 0 0 (sp_fPl fu) := by
  have hev : ∀ (k : Nat) (r : Nat × Nat × Nat × Sp), evL [(61, 14, 0, 0, sp_csb fu)] k = some r → Ct l k r.1 r.2.1 r.2.2.1 r.2.2.2 := evL_ok (by simpa using c_csb l fu hfu)
  refine ct_jd (by decide) rfl (fun as w Po h => ?_)
  obtain ⟨C, m, z, i, set, k, n, rfl, hX, hF, ⟨hm, hi, hn⟩, h⟩ := h
  have hm4 : m < cN C 4 := by rw [hF.1.2.2.2.1]; exact hm
  have h20 : 3 * m < cN C 20 := by rw [hF.1.2.2.2.2]; omega
  have l0 : cL C 4 0 m = 3 * m + 1 := hF.2.2.2 0 m (by decide) hm
  refine ⟨Nat.le_of_ble_eq_true rfl, ?_⟩
  have key : ∀ d p q w', p + d = 10 → RX (wZ C m (z.1, q)) w' → (∀ w2, RX (wZ C m (z.1, (fPl fu (cX C (3 * m)) set i k d p q).2)) w2 → Po (some (.int (fPl fu (cX C (3 * m)) set i k d p q).1)) w2) → Jd l 60 15 0 0 (some .int) Po 14 [(3, .int (nI p)), (0, .ref (cA C 4 m)), (1, .int (nI i)), (2, .int set)] [] w' 0 0 := by
    intro d
    induction d with
    | zero =>
      intro p q w' hp hX hk
      obtain rfl : p = 10 := by omega
      exact jd_s cdo_60 hev [] 20 z00 ⟨fun _ => hk _ hX, fun c => absurd (by decide) c⟩
    | succ d ih =>
      intro p q w' hp hX hk
      rw [fPl] at hk
      have next : ∀ q2 w2, RX (wZ C m (z.1, q2)) w2 → (∀ w3, RX (wZ C m (z.1, (fPl fu (cX C (3 * m)) set i k d (p + 1) q2).2)) w3 → Po (some (.int (fPl fu (cX C (3 * m)) set i k d (p + 1) q2).1)) w3) → Jd l 60 15 0 0 (some .int) Po 82 [(4, .int (bt p)), (3, .int (nI p)), (0, .ref (cA C 4 m)), (1, .int (nI i)), (2, .int set)] [] w2 0 0 := by
        intro q2 w2 hX hk
        have := ih (p + 1) q2 w2 (by omega) hX hk
        rw [← nI_1] at this
        exact jd_s cdo_60 hev [14] 20 z00 (jd_pk [0, 2, 3, 4] this)
      refine jd_s cdo_60 hev [47, 82] 40 z00 ⟨fun c => ?_, fun _ => ?_⟩
      · have := ge_n (a := p) (b := 10) (by omega) (by omega) c
        omega
      refine ⟨hX.k 4 m hm4, _, hX.g1 4 0 m (by decide) hm4 rfl l0, hX.k 20 (3 * m) h20, i, _, hX.ixa (3 * m) h20 rfl (by omega), (hX.xa (3 * m) i h20).trans (wZ_X C m _ i), ?_⟩
      refine ⟨hX.k 4 m hm4, _, (hX.gi 4 3 m (by decide) hm4 rfl).trans (wZ_43 C m _), fun c => ?_, fun c => ?_⟩
      · have c : ¬ cX C (3 * m) i &&& (q.1 ^^^ -1) &&& bt p = 0 := c
        rw [if_neg c] at hk
        have go : ∀ w3, RX (wZ C m (z.1, q.1 ||| bt p, q.2)) w3 → Jd l 60 15 0 0 (some .int) Po 58 [(4, .int (bt p)), (3, .int (nI p)), (0, .ref (cA C 4 m)), (1, .int (nI i)), (2, .int set)] [] w3 0 0 := by
          intro w3 hX
          refine jd_s cdo_60 hev [69, 82] 40 z00 ⟨⟨show 14 < 15 by decide, Nat.le_refl _, Nat.le_refl _⟩, rfl, hX.k 4 m hm4, wZb C m z.1 (q.1 ||| bt p), m, q.2, i, set, k, rfl, hX, wZb_fx hF _ _ _, ⟨hm, hi⟩, ?_⟩
          rw [wZb_X, wZb_g]
          revert hk
          cases er : cSb fu (cX C (3 * m)) (q.1 ||| bt p) set k (i + 1) (q.2.1, flH q.2.2 10) with
          | mk r s2 =>
            intro hk w4 hX4
            have hY : RX (wZ C m (z.1, q.1 ||| bt p, s2)) w4 := hX4
            cases r with
            | true => exact br1 (hk _ hY)
            | false =>
              refine br0 (jd_s cdo_60 hev [82] 40 z00 ⟨hY.k 4 m hm4, _, (hY.gi 4 3 m (by decide) hm4 rfl).trans (wZ_43 C m _), hY.k 4 m hm4, ?_⟩)
              have hY2 := hY.wi 4 3 m hm4 ((q.1 ||| bt p) &&& (bt p ^^^ -1))
              rw [wZ_g] at hY2
              exact next _ _ hY2 hk
        refine jd_s cdo_60 hev [58] 40 z00 ⟨hX.k 4 m hm4, _, (hX.gi 4 3 m (by decide) hm4 rfl).trans (wZ_43 C m _), hX.k 4 m hm4, ?_⟩
        have hX := hX.wi 4 3 m hm4 (q.1 ||| bt p)
        rw [wZ_g] at hX
        exact go _ hX
      · have c : cX C (3 * m) i &&& (q.1 ^^^ -1) &&& bt p = 0 := c
        rw [if_pos c] at hk
        exact next q w' hX hk
  refine jd_s cdo_60 hev [14] 20 z00 ⟨fun c => absurd c (nI_pos (by omega)), fun _ => ⟨fun _ => ?_, fun c => absurd ((nI_ltI (a := i) (b := 10) (by omega) (by omega)).mpr (by omega)) c⟩⟩
  exact key n 0 z.2 w (by omega) hX h
def stl (fu n : Nat) (ft : Nat → Int32) (set : Int32) : Nat → Nat → St3 → St3
  | 0, _, z => z
  | d + 1, i, z => if set >>> (nI i &&& 31) &&& 1 = 1 then stl fu n ft set d (i + 1) (hU z.1 i (fPl fu ft set i d n 0 z.2).1, (fPl fu ft set i d n 0 z.2).2) else stl fu n ft set d (i + 1) z
def cStl (fu n : Nat) (C : Cs) (m : Nat) (set : Int32) : Cs := wZ C m (stl fu n (cX C (3 * m)) set n 0 (cur C m))
def sp_settle (fu n : Nat) : Sp := fun as w K => ∃ C m set, as = [.ref (cA C 4 m), .int set] ∧ RX C w ∧ FX C ∧ m < 2 ∧ ∀ w', RX (cStl fu n C m set) w' → K none w'
theorem c_settle (l : Launch) (fu n : Nat) (hfu : fu = 11) (hn : n = 10) : Ct l 59 16 0 0 (sp_settle fu n) := by
  have hev : ∀ (k : Nat) (r : Nat × Nat × Nat × Sp), evL [(60, 15, 0, 0, sp_fPl fu)] k = some r → Ct l k r.1 r.2.1 r.2.2.1 r.2.2.2 := evL_ok (by simpa using c_fPl l fu hfu)
  refine ct_jd (by decide) rfl (fun as w Po h => ?_)
  obtain ⟨C, m, set, rfl, hX, hF, hm, h⟩ := h
  have hm4 : m < cN C 4 := by rw [hF.1.2.2.2.1]; exact hm
  have h20 : 3 * m + 2 < cN C 20 := by rw [hF.1.2.2.2.2]; omega
  have l2 : cL C 4 2 m = 3 * m + 2 + 1 := hF.2.2.2 2 m (by decide) hm
  refine ⟨Nat.le_of_ble_eq_true rfl, ?_⟩
  have key : ∀ d i z w', i + d = 10 → RX (wZ C m z) w' → (∀ w2, RX (wZ C m (stl fu n (cX C (3 * m)) set d i z)) w2 → Po none w2) → Jd l 59 16 0 0 none Po 2 [(2, .int (nI i)), (0, .ref (cA C 4 m)), (1, .int set)] [] w' 0 0 := by
    intro d
    induction d with
    | zero =>
      intro i z w' hi hX hk
      obtain rfl : i = 10 := by omega
      exact jd_s cdo_59 hev [] 20 z00 ⟨fun _ => hk _ hX, fun c => absurd (by decide) c⟩
    | succ d ih =>
      intro i z w' hi hX hk
      rw [stl] at hk
      refine jd_s cdo_59 hev [2] 30 z00 ⟨fun c => ?_, fun _ => ⟨fun c => ?_, fun c => ?_⟩⟩
      · have := ge_n (a := i) (b := 10) (by omega) (by omega) c
        omega
      · rw [if_neg c] at hk
        have := ih (i + 1) z w' (by omega) hX hk
        rw [← nI_1] at this
        exact this
      · rw [if_pos c] at hk
        refine ⟨hX.k 4 m hm4, _, hX.g1 4 2 m (by decide) hm4 rfl l2, ?_⟩
        refine ⟨⟨show 15 < 16 by decide, Nat.le_refl _, Nat.le_refl _⟩, rfl, hX.k 4 m hm4, C, m, z, i, set, d, n, rfl, hX, hF, ⟨hm, by omega, hn⟩, fun w4 hX4 => ?_⟩
        refine ⟨hX4.k 20 (3 * m + 2) h20, i, hX4.ixa (3 * m + 2) h20 rfl (by omega), ?_⟩
        have hX4 := hX4.wx (3 * m + 2) i h20 (fPl fu (cX C (3 * m)) set i d n 0 z.2).1
        rw [wZ_e] at hX4
        have := ih (i + 1) _ _ (by omega) hX4 hk
        rw [← nI_1] at this
        exact this
  refine jd_s cdo_59 hev [2] 10 z00 ?_
  exact key n 0 (cur C m) w (by omega) (by rw [wZ_id]; exact hX) h
