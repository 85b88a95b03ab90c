/-! the reference: day -/
section PK
variable {l : Launch} {k lv mc ms : Nat} {rt : Option FieldType} {Po : Option Value → Hp → Prop} {pc : Nat} {L : Ls} {S : List Value} {w : Hp} {nc ns : Nat}
/-- fewer locals, in another order -/
theorem jd_pk (ks : List Nat) (h : Jd l k lv mc ms rt Po pc (lv_pick L ks) S w nc ns) : Jd l k lv mc ms rt Po pc L S w nc ns :=
  fun p e s m args below meth c G A R C hA hR hRc hRs hini H locs ls hh hS hl => h p e s m args below meth c G A R C hA hR hRc hRs hini H locs ls hh hS (lv_sub hl ks rfl)
end PK
theorem cn_flip {p q : Nat → Bool} {i : Nat} (hp : p i = true) (hq : q i = false) (ho : ∀ j, j ≠ i → q j = p j) : ∀ {n : Nat}, i < n → cn q n + 1 = cn p n
  | 0, h => absurd h (Nat.not_lt_zero _)
  | n + 1, h => by
    rw [cn, cn]
    by_cases hi : i = n
    · subst hi
      rw [hp, hq, cn_cong (p := q) (q := p) (fun j hj => ho j (by omega))]
      simp
    · have := cn_flip hp hq ho (n := n) (by omega)
      rw [ho n (fun z => hi z.symm)]
      omega
/-- a home's day: how far, and how many were worked -/
def dH (h nl : Nat) : Nat → Ms → Nat → Ms × Nat
  | 0, M, _ => (M, 0)
  | f + 1, M, lf => match fiF M h nl with
    | none => (M, 0)
    | some l => if M 9 l ≤ M 14 l then dH h nl f (u2 (u2 M 10 l 3) 12 l (M 21 h)) lf else if 0 < lf then ((dH h nl f (mWork M h l) (lf - 1)).1, (dH h nl f (mWork M h l) (lf - 1)).2 + 1) else (M, 0)
/-- all homes, with fuel fu -/
def dD (fu nl : Nat) (M : Ms) : Nat → Ms × Nat
  | 0 => (M, 0)
  | h + 1 => ((dH h nl fu (dD fu nl M h).1 (pN (M 18 h))).1, (dD fu nl M h).2 + (dH h nl fu (dD fu nl M h).1 (pN (M 18 h))).2)
def DW (M : Ms) (nl : Nat) : Prop := ∀ l, l < nl → M 10 l = 2 → ∃ x n, LW M l x n
theorem mWorkX_DW {M : Ms} {h l x p n nl : Nat} (hl : l < nl) (h2 : M 10 l = 2) (hxn : x ≤ n) (hL : LW M l x (n + 1)) (hD : DW M nl) : DW (mWorkX M h l x p n) nl := by
  intro k hk h10
  rw [mWorkX_ot _ _ _ _ _ _ 10 k (by decide)] at h10
  by_cases hkl : k = l
  · subst hkl
    exact mWorkX_LWs hxn hL
  · obtain ⟨x', n', h'⟩ := hD k hk h10
    exact ⟨x', n', mWorkX_LWo hkl (by have := hL.2.2.2.1; omega) h'⟩
def mOutH (M : Ms) (l h : Nat) : Ms := u2 (u2 M 10 l 3) 12 l (M 21 h)
theorem mOutH_DW {M : Ms} {l h nl : Nat} (hD : DW M nl) : DW (mOutH M l h) nl := by
  intro k hk h10
  by_cases hkl : k = l
  · subst hkl
    have : mOutH M k h 10 k = 3 := by simp [mOutH, u2]
    rw [this] at h10
    exact absurd h10 (by decide)
  · have e : mOutH M l h 10 k = M 10 k := by simp [mOutH, u2, hkl]
    rw [e] at h10
    obtain ⟨x, n, a, b, c, d, f⟩ := hD k hk h10
    exact ⟨x, n, a, b, c, d, f⟩
/-- what a home's day leaves as it is -/
theorem dH_ot (h nl : Nat) (f i : Nat) (hf : f ≠ 1 ∧ f ≠ 3 ∧ f ≠ 22 ∧ f ≠ 13 ∧ f ≠ 14 ∧ f ≠ 4 ∧ f ≠ 5 ∧ f ≠ 23 ∧ f ≠ 26 ∧ f ≠ 8 ∧ f ≠ 9) (hf2 : f ≠ 10 ∧ f ≠ 12) : ∀ (n : Nat) (M : Ms) (lf : Nat), (dH h nl n M lf).1 f i = M f i
  | 0, M, lf => rfl
  | n + 1, M, lf => by
    rw [dH]
    cases fiF M h nl with
    | none => rfl
    | some l =>
      dsimp only
      split
      · rw [dH_ot h nl f i hf hf2 n, u2_ne hf2.2, u2_ne hf2.1]
      · split
        · rw [dH_ot h nl f i hf hf2 n]
          exact mWorkX_ot _ _ _ _ _ _ _ _ hf
        · rfl
theorem dH_DW (h nl : Nat) : ∀ (n : Nat) (M : Ms) (lf : Nat), DW M nl → DW (dH h nl n M lf).1 nl
  | 0, M, lf, hD => hD
  | n + 1, M, lf, hD => by
    rw [dH]
    cases hb : fiF M h nl with
    | none => exact hD
    | some l =>
      dsimp only
      obtain ⟨hl, h10, -⟩ := fiF_lt M h nl l hb
      split
      · exact dH_DW h nl n _ _ (mOutH_DW hD)
      · rename_i hc
        split
        · obtain ⟨x, n', h14, h9, hx, hn, h8⟩ := hD l hl h10
          rw [h14, h9] at hc
          have hxn : x < n' := nge_n (by omega) hc
          obtain ⟨m', rfl⟩ : ∃ m', n' = m' + 1 := ⟨n' - 1, by omega⟩
          obtain ⟨p, hp, e8⟩ := h8 x hxn
          refine dH_DW h nl n _ _ ?_
          rw [mWork_eq h14 h9 e8 (by omega) (by omega) (by omega)]
          exact mWorkX_DW hl h10 (by omega) ⟨h14, h9, hx, hn, h8⟩ hD
        · exact hD
theorem dD_ot (fu nl : Nat) (M : Ms) (f i : Nat) (hf : f ≠ 1 ∧ f ≠ 3 ∧ f ≠ 22 ∧ f ≠ 13 ∧ f ≠ 14 ∧ f ≠ 4 ∧ f ≠ 5 ∧ f ≠ 23 ∧ f ≠ 26 ∧ f ≠ 8 ∧ f ≠ 9) (hf2 : f ≠ 10 ∧ f ≠ 12) : ∀ h, (dD fu nl M h).1 f i = M f i
  | 0 => rfl
  | h + 1 => by rw [dD, dH_ot _ _ f i hf hf2, dD_ot fu nl M f i hf hf2 h]
theorem dD_DW (fu nl : Nat) (M : Ms) (hD : DW M nl) : ∀ h, DW (dD fu nl M h).1 nl
  | 0 => hD
  | h + 1 => by
    rw [dD]
    exact dH_DW _ _ _ _ _ (dD_DW fu nl M hD h)
def oB (o : Option Nat) : Int32 := match o with
  | none => 0
  | some _ => 1
theorem c_dayIn (l : Launch) (Po : Option Value → Hp → Prop) (m0 h nl : Nat) (sn : Int32) (hh : h < 9) (hnl : nl ≤ 60) : ∀ (f : Nat) (N : Ms) (w : Hp) (lf all : Nat), cn (wtP N h) nl + lf < f → lf ≤ 20 → all + lf < 100000 → RM m0 N w → N 16 0 = nI nl → DW N nl →
    (∀ w' v4 v5 v6, RM m0 (dH h nl f N lf).1 w' → Jd l 95 3 0 0 (some .int) Po 155 [(6, .int v6), (5, .int v5), (4, .int v4), (3, .int (nI h)), (2, .int (nI (all + (dH h nl f N lf).2))), (0, .ref m0), (1, .int sn)] [] w' 0 0) →
    Jd l 95 3 0 0 (some .int) Po 62 [(6, .int (oB (fiF N h nl))), (5, .int (oI (fiF N h nl))), (4, .int (nI lf)), (3, .int (nI h)), (2, .int (nI all)), (0, .ref m0), (1, .int sn)] [] w 0 0 := by
  have hev : ∀ (k : Nat) (r : Nat × Nat × Nat × Sp), evL [(96, 1, 0, 0, sp_goes), (97, 1, 0, 0, sp_first), (98, 2, 0, 0, sp_work)] k = some r → Ct l k r.1 r.2.1 r.2.2.1 r.2.2.2 := evL_ok (by simpa using ⟨c_goes l, c_first l, c_work l⟩)
  intro f
  induction f with
  | zero => intro N w lf all hm; omega
  | succ f ih =>
    intro N w lf all hm hlf hal hM h16 hD hout
    rw [dH] at hout
    cases hb : fiF N h nl with
    | none =>
      rw [hb] at hout
      refine jd_s cdo_95 hev [155] 20 z00 ?_
      exact ⟨fun _ => hout w _ _ _ hM, fun z => absurd rfl z⟩
    | some i =>
      rw [hb] at hout
      dsimp only at hout
      obtain ⟨hi, h10, h11⟩ := fiF_lt N h nl i hb
      obtain ⟨x, n, h14, h9, hx, hn, h8⟩ := hD i hi h10
      refine jd_s cdo_95 hev [155, 62] 90 z00 ?_
      refine ⟨fun z => absurd z (show ¬ (1 : Int32) = 0 by decide), fun _ => ?_⟩
      refine ⟨hM.k, _, hM.rf _ rfl, hM.kd _ rfl, i, _, hM.ix _ rfl rfl (show i < 60 by omega), hM.rd _ rfl i, hM.k, _, hM.rf _ rfl, hM.kd _ rfl, i, _, hM.ix _ rfl rfl (show i < 60 by omega), hM.rd _ rfl i, fun c => ?_, fun c => ?_⟩
      · rw [if_neg (lt_nle c)] at hout
        rw [h14, h9] at c
        have hxn : x < n := (nI_ltI (by omega) (by omega)).mp c
        obtain ⟨n', rfl⟩ : ∃ n', n = n' + 1 := ⟨n - 1, by omega⟩
        obtain ⟨p, hp, e8⟩ := h8 x hxn
        refine ⟨fun c2 => ?_, fun c2 => ?_⟩
        · have hl0 : ¬ 0 < lf := fun z => nI_nle z (by omega) c2
          rw [if_neg hl0] at hout
          refine jd_s cdo_95 hev [155] 20 z00 ?_
          exact ⟨fun _ => hout w _ _ _ hM, fun z => absurd rfl z⟩
        · have hl0 : 0 < lf := by
            rcases Nat.eq_zero_or_pos lf with z | z
            · exact absurd (show nI lf ≤ 0 by rw [z]; exact Int32.le_refl _) c2
            · exact z
          rw [if_pos hl0] at hout
          have hwk := mWork_eq (h := h) h14 h9 e8 (by omega) (by omega) (by omega)
          refine ⟨⟨by decide, by decide, by decide⟩, rfl, hM.k, m0, N, h, i, x, p, n', rfl, hM, ⟨hh, by omega, h14, by omega, by omega, h9, hp, e8⟩, fun w' hM' => ?_⟩
          have efi : fiF (mWorkX N h i x p n') h nl = some i := (mWorkX_fi N h i x p n' h nl).trans hb
          have ecn : cn (wtP (mWorkX N h i x p n') h) nl = cn (wtP N h) nl := cn_cong (fun j hj => by simp only [wtP, mWorkX_ot _ _ _ _ _ _ 10 j (by decide), mWorkX_ot _ _ _ _ _ _ 11 j (by decide)])
          have hih := ih (mWorkX N h i x p n') w' (lf - 1) (all + 1) (by rw [ecn]; omega) (by omega) (by omega) hM' ((mWorkX_ot _ _ _ _ _ _ 16 0 (by decide)).trans h16) (mWorkX_DW hi h10 (by omega) ⟨h14, h9, hx, hn, h8⟩ hD) (by
            intro w'' v4 v5 v6 hw''
            rw [← hwk] at hw'' ⊢
            have := hout w'' v4 v5 v6 hw''
            rw [show all + 1 + (dH h nl f (mWork N h i) (lf - 1)).2 = all + ((dH h nl f (mWork N h i) (lf - 1)).2 + 1) by omega]
            exact this)
          rw [efi] at hih
          refine jd_pk [2, 3, 1, 4, 0, 5, 6] ?_
          obtain ⟨lf', rfl⟩ : ∃ lf', lf = lf' + 1 := ⟨lf - 1, by omega⟩
          have e4 : nI (lf' + 1) + (-1) = nI lf' := pk_m1 lf'
          have e2 : nI all + 1 = nI (all + 1) := nI_1 all
          show Jd l 95 3 0 0 (some .int) Po 62 [(6, .int 1), (5, .int (nI i)), (4, .int (nI (lf' + 1) + (-1))), (3, .int (nI h)), (2, .int (nI all + 1)), (0, .ref m0), (1, .int sn)] [] w' 0 0
          rw [e4, e2]
          exact hih
      · have c : N 9 i ≤ N 14 i := nlt_le c
        rw [if_pos c] at hout
        refine ⟨hM.k, _, hM.rf _ rfl, hM.kd _ rfl, i, hM.ix _ rfl rfl (show i < 60 by omega), ?_⟩
        have hM := hM.sa 10 rfl i 3
        refine ⟨hM.k, _, hM.rf _ rfl, hM.k, _, hM.rf _ rfl, hM.kd _ rfl, h, _, hM.ix _ rfl rfl (show h < 9 by omega), (hM.rd _ rfl h).trans (show _ = N 21 h from rfl), hM.kd _ rfl, i, hM.ix _ rfl rfl (show i < 60 by omega), ?_⟩
        have hM := hM.sa 12 rfl i (N 21 h)
        have hM : RM m0 (mOutH N i h) _ := hM
        have ecn : cn (wtP (mOutH N i h) h) nl + 1 = cn (wtP N h) nl := cn_flip (i := i) (by simp [wtP, h10, h11]) (by simp [wtP, mOutH, u2]) (fun j hj => by simp [wtP, mOutH, u2, hj]) hi
        have hih := fun w2 hM2 => ih (mOutH N i h) w2 lf all (by omega) hlf hal hM2 h16 (mOutH_DW hD) hout
        refine ⟨⟨by decide, by decide, by decide⟩, rfl, hM.k, m0, _, h, nl, rfl, hM, ⟨h16, hnl⟩, ?_⟩
        have hih2 := hih _ hM
        cases hb2 : fiF (mOutH N i h) h nl with
        | none =>
          rw [hb2] at hih2
          refine ⟨fun _ => hih2, fun z => absurd rfl z⟩
        | some j =>
          rw [hb2] at hih2
          have hjl := (fiF_lt _ h nl j hb2).1
          refine ⟨fun z => absurd z (nI_m1 (by omega)), fun _ => hih2⟩
