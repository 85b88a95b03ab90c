/-! the reference: a day -/
section JS
variable {l : Launch} {k lv mc ms : Nat} {rt : Option FieldType} {ev : Ev} {Po : Option Value → Hp → Prop} {full : List CI}
/-- from place to place: at a stop the place there must be safe -/
theorem jd_s (hcd : cdM k full) (hev : ∀ k r, ev k = some r → Ct l k r.1 r.2.1 r.2.2.1 r.2.2.2) (stops : List Nat) (n : Nat) {pc : Nat} {L : Ls} {S : List Value} {w : Hp} {nc ns : Nat} (hb : nc ≤ mc ∧ ns ≤ ms) (h : wp lv mc ms ev rt Po full stops (fun pc L S w nc ns => Jd l k lv mc ms rt Po pc L S w nc ns) n (seek full pc) L S w nc ns) : Jd l k lv mc ms rt Po pc L S w nc ns :=
  jd_wp hcd hev (fun _ _ _ _ _ _ _ h => h) n hb h
end JS
theorem z00 : (0 : Nat) ≤ 0 ∧ (0 : Nat) ≤ 0 := ⟨Nat.le_refl _, Nat.le_refl _⟩
def mGo (M : Ms) (sn : Int32) (l : Nat) : Ms :=
  if M 10 l = 1 ∨ M 10 l = 3 then
    (fun M1 : Ms => if 0 < M1 12 l then M1 else if M 10 l = 3 then u2 M1 10 l 0 else u2 (u2 (u2 (u2 (u2 M1 10 l 2) 13 l 0) 14 l 0) 15 l (M 17 0)) 17 0 (M 17 0 + 1)) (if sn = 0 ∧ 0 < M 12 l then u2 M 12 l (M 12 l - 1) else M)
  else M
def mGoes (M : Ms) (sn : Int32) : Nat → Ms
  | 0 => M
  | n + 1 => mGo (mGoes M sn n) sn n
theorem mGo_ot (M : Ms) (sn : Int32) (l f i : Nat) (hf : f ≠ 10 ∧ f ≠ 12 ∧ f ≠ 13 ∧ f ≠ 14 ∧ f ≠ 15 ∧ f ≠ 17) : mGo M sn l f i = M f i := by
  obtain ⟨h10, h12, h13, h14, h15, h17⟩ := hf
  have e1 : (if sn = 0 ∧ 0 < M 12 l then u2 M 12 l (M 12 l - 1) else M) f i = M f i := by
    by_cases h : sn = 0 ∧ 0 < M 12 l
    · rw [if_pos h]; exact u2_ne h12
    · rw [if_neg h]
  unfold mGo
  by_cases h1 : M 10 l = 1 ∨ M 10 l = 3
  · rw [if_pos h1]
    dsimp only
    generalize (if sn = 0 ∧ 0 < M 12 l then u2 M 12 l (M 12 l - 1) else M) = M1 at e1 ⊢
    by_cases h2 : 0 < M1 12 l
    · rw [if_pos h2]; exact e1
    · rw [if_neg h2]
      by_cases h3 : M 10 l = 3
      · rw [if_pos h3, u2_ne h10]; exact e1
      · rw [if_neg h3, u2_ne h17, u2_ne h15, u2_ne h14, u2_ne h13, u2_ne h10]; exact e1
  · rw [if_neg h1]
theorem mGoes_ot (M : Ms) (sn : Int32) (f i : Nat) (hf : f ≠ 10 ∧ f ≠ 12 ∧ f ≠ 13 ∧ f ≠ 14 ∧ f ≠ 15 ∧ f ≠ 17) : ∀ n, mGoes M sn n f i = M f i
  | 0 => rfl
  | n + 1 => by rw [mGoes, mGo_ot _ _ _ _ _ hf, mGoes_ot M sn f i hf n]
def sp_goes : Sp := fun as w K => ∃ m0 M sn n, as = [.ref m0, .int sn] ∧ RM m0 M w ∧ (M 16 0 = nI n ∧ n ≤ 60) ∧ ∀ w', RM m0 (mGoes M sn n) w' → K none w'
theorem c_goes (l : Launch) : Ct l 96 1 0 0 sp_goes := by
  refine ct_jd (by decide) rfl (fun as w Po h => ?_)
  obtain ⟨m0, M, sn, n, rfl, hM, ⟨hn, hn2⟩, h⟩ := h
  refine ⟨Nat.le_of_ble_eq_true rfl, ?_⟩
  have key : ∀ d i w', i + d = n → RM m0 (mGoes M sn i) w' → Jd l 96 1 0 0 none Po 2 [(2, .int (nI i)), (0, .ref m0), (1, .int sn)] [] w' 0 0 := by
    intro d
    induction d with
    | zero =>
      intro i w' hi hM
      have hn' : mGoes M sn i 16 0 = nI n := (mGoes_ot M sn 16 0 (by decide) i).trans hn
      obtain rfl : i = n := by omega
      refine jd_s cdo_96 ev0 [] 20 z00 ?_
      exact ⟨hM.k, _, (hM.ri _ rfl).trans hn', fun c => h _ hM, fun c => absurd (nI_le (Nat.le_refl i) (by omega)) c⟩
    | succ d ih =>
      intro i w' hi hM
      have hn' : mGoes M sn i 16 0 = nI n := (mGoes_ot M sn 16 0 (by decide) i).trans hn
      have hi60 : i < 60 := by omega
      have fin : ∀ (w2 : Hp) (M2 : Ms), RM m0 M2 w2 → mGo (mGoes M sn i) sn i = M2 → Jd l 96 1 0 0 none Po 129 [(2, .int (nI i)), (0, .ref m0), (1, .int sn)] [] w2 0 0 := by
        intro w2 M2 h2 e2
        refine jd_s cdo_96 ev0 [2] 20 z00 ?_
        have := ih (i + 1) w2 (by omega) (by rw [mGoes, e2]; exact h2)
        rw [← nI_1] at this
        exact this
      generalize mGoes M sn i = N at hM fin hn'
      have behind : ∀ (w2 : Hp) (M1 : Ms), RM m0 M1 w2 → (N 10 i = 1 ∨ N 10 i = 3) → M1 = (if sn = 0 ∧ 0 < N 12 i then u2 N 12 i (N 12 i - 1) else N) → Jd l 96 1 0 0 none Po 56 [(2, .int (nI i)), (0, .ref m0), (1, .int sn)] [] w2 0 0 := by
        intro w2 M1 hM hw e1
        have e10 : M1 10 i = N 10 i := by rw [e1]; split <;> rfl
        have e17 : M1 17 0 = N 17 0 := by rw [e1]; split <;> rfl
        have hgo : mGo N sn i = (if 0 < M1 12 i then M1 else if N 10 i = 3 then u2 M1 10 i 0 else u2 (u2 (u2 (u2 (u2 M1 10 i 2) 13 i 0) 14 i 0) 15 i (N 17 0)) 17 0 (N 17 0 + 1)) := by
          unfold mGo
          rw [if_pos hw]
          dsimp only
          rw [← e1]
        refine jd_s cdo_96 ev0 [129] 60 z00 ?_
        refine ⟨hM.k, _, hM.rf _ rfl, hM.kd _ rfl, i, _, hM.ix _ rfl rfl hi60, hM.rd _ rfl i, fun c2 => ?_, fun c2 => ?_⟩
        · have c2 : ¬ 0 < M1 12 i := le_nlt c2
          rw [if_neg c2] at hgo
          refine ⟨hM.k, _, hM.rf _ rfl, hM.kd _ rfl, i, _, hM.ix _ rfl rfl hi60, (hM.rd _ rfl i).trans e10, fun c3 => ?_, fun c3 => ?_⟩
          · rw [if_neg c3] at hgo
            refine ⟨hM.k, _, hM.rf _ rfl, hM.kd _ rfl, i, hM.ix _ rfl rfl hi60, ?_⟩
            have hM := hM.sa 10 rfl i 2
            refine ⟨hM.k, _, hM.rf _ rfl, hM.kd _ rfl, i, hM.ix _ rfl rfl hi60, ?_⟩
            have hM := hM.sa 13 rfl i 0
            refine ⟨hM.k, _, hM.rf _ rfl, hM.kd _ rfl, i, hM.ix _ rfl rfl hi60, ?_⟩
            have hM := hM.sa 14 rfl i 0
            refine ⟨hM.k, _, hM.rf _ rfl, hM.k, _, (hM.ri _ rfl).trans e17, hM.kd _ rfl, i, hM.ix _ rfl rfl hi60, ?_⟩
            have hM := hM.sa 15 rfl i (N 17 0)
            refine ⟨hM.k, _, (hM.ri _ rfl).trans e17, hM.k, ?_⟩
            have hM := hM.si 17 rfl (N 17 0 + 1)
            exact fin _ _ hM hgo
          · rw [if_pos c3] at hgo
            refine ⟨hM.k, _, hM.rf _ rfl, hM.kd _ rfl, i, hM.ix _ rfl rfl hi60, ?_⟩
            have hM := hM.sa 10 rfl i 0
            exact fin _ _ hM hgo
        · have c2 : 0 < M1 12 i := nle_lt c2
          rw [if_pos c2] at hgo
          exact fin _ _ hM hgo
      have atGo : (N 10 i = 1 ∨ N 10 i = 3) → Jd l 96 1 0 0 none Po 33 [(2, .int (nI i)), (0, .ref m0), (1, .int sn)] [] w' 0 0 := by
        intro hw
        refine jd_s cdo_96 ev0 [56] 40 z00 ?_
        refine ⟨fun c => behind _ _ hM hw (by rw [if_neg (fun z => c z.1)]), fun c => ?_⟩
        refine ⟨hM.k, _, hM.rf _ rfl, hM.kd _ rfl, i, _, hM.ix _ rfl rfl hi60, hM.rd _ rfl i, fun c2 => behind _ _ hM hw (by rw [if_neg (fun z => le_nlt c2 z.2)]), fun c2 => ?_⟩
        refine ⟨hM.k, _, hM.rf _ rfl, hM.kd _ rfl, i, _, hM.ix _ rfl rfl hi60, hM.rd _ rfl i, hM.kd _ rfl, i, hM.ix _ rfl rfl hi60, ?_⟩
        exact behind _ _ (hM.sa 12 rfl i (N 12 i - 1)) hw (by rw [if_pos ⟨c, nle_lt c2⟩])
      refine jd_s cdo_96 ev0 [33, 129] 40 z00 ?_
      refine ⟨hM.k, _, (hM.ri _ rfl).trans hn', fun c => ?_, fun c => ?_⟩
      · have := ge_n (by omega) (by omega) c
        omega
      · refine ⟨hM.k, _, hM.rf _ rfl, hM.kd _ rfl, i, _, hM.ix _ rfl rfl hi60, hM.rd _ rfl i, fun c2 => atGo (Or.inl c2), fun c2 => ?_⟩
        refine ⟨hM.k, _, hM.rf _ rfl, hM.kd _ rfl, i, _, hM.ix _ rfl rfl hi60, hM.rd _ rfl i, fun c3 => atGo (Or.inr c3), fun c3 => ?_⟩
        exact fin _ _ hM (by unfold mGo; rw [if_neg (fun z => z.elim c2 c3)])
  refine jd_s cdo_96 ev0 [2] 20 z00 ?_
  exact key n 0 w (by omega) hM
/-- of the lots that wait at home h the one that came first -/
def fiF (M : Ms) (h : Nat) : Nat → Option Nat
  | 0 => none
  | k + 1 => if M 10 k = 2 ∧ M 11 k = nI h then (match fiF M h k with
    | none => some k
    | some f => if M 15 k < M 15 f then some k else some f) else fiF M h k
theorem fiF_lt (M : Ms) (h : Nat) : ∀ n f, fiF M h n = some f → f < n ∧ M 10 f = 2 ∧ M 11 f = nI h
  | 0, b, e => by cases e
  | n + 1, b, e => by
    unfold fiF at e
    split at e
    · rename_i hc
      split at e
      · cases e; exact ⟨by omega, hc⟩
      · rename_i f hf
        have := fiF_lt M h n f hf
        split at e
        · cases e; exact ⟨by omega, hc⟩
        · cases e; exact ⟨by omega, this.2⟩
    · have := fiF_lt M h n b e
      exact ⟨by omega, this.2⟩
def sp_first : Sp := fun as w K => ∃ m0 M h n, as = [.ref m0, .int (nI h)] ∧ RM m0 M w ∧ (M 16 0 = nI n ∧ n ≤ 60) ∧ K (some (.int (oI (fiF M h n)))) w
theorem c_first (l : Launch) : Ct l 97 1 0 0 sp_first := by
  refine ct_jd (by decide) rfl (fun as w Po h => ?_)
  obtain ⟨m0, M, hm, n, rfl, hM, ⟨hn, hn2⟩, h⟩ := h
  refine ⟨Nat.le_of_ble_eq_true rfl, ?_⟩
  have key : ∀ d i, i + d = n → Jd l 97 1 0 0 (some .int) Po 4 [(3, .int (nI i)), (2, .int (oI (fiF M hm i))), (0, .ref m0), (1, .int (nI hm))] [] w 0 0 := by
    intro d
    induction d with
    | zero =>
      intro i hi
      obtain rfl : i = n := by omega
      refine jd_s cdo_97 ev0 [] 20 z00 ?_
      exact ⟨hM.k, _, (hM.ri _ rfl).trans hn, fun c => h, fun c => absurd (nI_le (Nat.le_refl i) (by omega)) c⟩
    | succ d ih =>
      intro i hi
      have hi60 : i < 60 := by omega
      have fin : ∀ z L', fiF M hm (i + 1) = z → L' = [(3, .int (nI i + 1)), (2, .int (oI z)), (0, .ref m0), (1, .int (nI hm))] → Jd l 97 1 0 0 (some .int) Po 4 L' [] w 0 0 := by
        intro z L' hz hL
        have := ih (i + 1) (by omega)
        rw [hz, ← nI_1] at this
        rw [hL]
        exact this
      refine jd_s cdo_97 ev0 [4] 60 z00 ?_
      refine ⟨hM.k, _, (hM.ri _ rfl).trans hn, fun c => ?_, fun c => ?_⟩
      · have := ge_n (by omega) (by omega) c
        omega
      · refine ⟨hM.k, _, hM.rf _ rfl, hM.kd _ rfl, i, _, hM.ix _ rfl rfl hi60, hM.rd _ rfl i, fun c2 => fin _ _ (by rw [fiF, if_neg (fun z => c2 z.1)]) rfl, fun c2 => ?_⟩
        refine ⟨hM.k, _, hM.rf _ rfl, hM.kd _ rfl, i, _, hM.ix _ rfl rfl hi60, hM.rd _ rfl i, fun c3 => fin _ _ (by rw [fiF, if_neg (fun z => c3 z.2)]) rfl, fun c3 => ?_⟩
        cases hb : fiF M hm i with
        | none =>
          refine ⟨fun _ => fin (some i) _ (by rw [fiF, if_pos ⟨c2, c3⟩, hb]) rfl, fun z => absurd rfl z⟩
        | some f =>
          have hfl := (fiF_lt M hm i f hb).1
          refine ⟨fun z => absurd z (nI_m1 (by omega)), fun _ => ?_⟩
          refine ⟨hM.k, _, hM.rf _ rfl, hM.kd _ rfl, i, _, hM.ix _ rfl rfl hi60, hM.rd _ rfl i, ?_⟩
          refine ⟨hM.k, _, hM.rf _ rfl, hM.kd _ rfl, f, _, hM.ix _ rfl rfl (show f < 60 by omega), hM.rd _ rfl f, fun c4 => fin (some f) _ (by rw [fiF, if_pos ⟨c2, c3⟩, hb]; exact if_neg (le_nlt c4)) rfl, fun c4 => fin (some i) _ (by rw [fiF, if_pos ⟨c2, c3⟩, hb]; exact if_pos (nle_lt c4)) rfl⟩
  refine jd_s cdo_97 ev0 [4] 20 z00 ?_
  exact key n 0 (by omega)
