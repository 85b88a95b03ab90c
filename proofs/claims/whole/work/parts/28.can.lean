/-! the reference: can -/
theorem n10 (l : Nat) : (10 : Int32) * nI l = nI (10 * l) := by rw [show (10 : Int32) = nI 10 from rfl, pk_mul]
/-- the rows of what goes with what: for plates (0) or stones (1) -/
def gwOK (M : Ms) (x : Nat) (g : Nat → Nat) : Prop := ∀ w, w < 10 → M 42 (10 * x + w) = nI (g w) ∧ g w < 1024
def sp_can (d : Nat) : Sp := fun as w K => ∃ m0 M x ws os, ∃ g : Nat → Nat, as = [.ref m0, .int (nI x), .int (nI ws), .int (nI os)] ∧ RM m0 M w ∧ (x < 2 ∧ ws < 1024 ∧ os < 1024 ∧ bc ws ≤ d) ∧ gwOK M x g ∧ (Mt g ws os → K (some (.int 1)) w) ∧ (¬ Mt g ws os → K (some (.int 0)) w)
theorem c_can (l : Launch) : ∀ d, Ct l 116 (2 + d) 0 0 (sp_can d) := by
  intro d
  induction d with
  | zero =>
    refine ct_jd (by decide) rfl (fun as w Po hq => ?_)
    obtain ⟨m0, M, x, ws, os, g, rfl, hM, ⟨hx, hws, hos, hb⟩, hg, h1, h2⟩ := hq
    refine ⟨Nat.le_of_ble_eq_true rfl, jd_run cdo_116 ev0 10 z00 ?_⟩
    have h0 : ws = 0 := bc_0 ws hws (by omega)
    subst h0
    exact ⟨fun z => absurd rfl z, fun _ => ⟨Or.inr rfl, h1 (Mt_0 g os)⟩⟩
  | succ d ihd =>
    have hev : ∀ (k : Nat) (r : Nat × Nat × Nat × Sp), evL [(117, 1, 0, 0, sp_ntz), (116, 2 + d, 0, 0, sp_can d)] k = some r → Ct l k r.1 r.2.1 r.2.2.1 r.2.2.2 := evL_ok (by simpa using ⟨c_ntz l, ihd⟩)
    refine ct_jd (by decide) rfl (fun as w Po hq => ?_)
    obtain ⟨m0, M, x, ws, os, g, rfl, hM, ⟨hx, hws, hos, hb⟩, hg, h1, h2⟩ := hq
    refine ⟨Nat.le_of_ble_eq_true rfl, ?_⟩
    rcases Nat.eq_zero_or_pos ws with h0 | hpos
    · subst h0
      refine jd_s cdo_116 hev [] 10 z00 ?_
      exact ⟨fun z => absurd rfl z, fun _ => ⟨Or.inr rfl, h1 (Mt_0 g os)⟩⟩
    · obtain ⟨ht, htb⟩ := tz_ok ws hws hpos
      have hne : ¬ nI ws = 0 := nI_ne0 hpos (by omega)
      obtain ⟨hg1, hg2⟩ := hg (tz ws) ht
      have key : ∀ (n r : Nat), r ≤ n → r < 1024 → (∀ j, r.testBit j = true → (g (tz ws)).testBit j = true ∧ os.testBit j = true) → (∀ j, (g (tz ws)).testBit j = true → os.testBit j = true → r.testBit j = true ∨ ¬ Mt g (ws ^^^ 2 ^ tz ws) (os ^^^ 2 ^ j)) → Jd l 116 (2 + (d + 1)) 0 0 (some .boolean) Po 28 [(5, .int (nI r)), (4, .int (nI (tz ws))), (0, .ref m0), (1, .int (nI x)), (2, .int (nI ws)), (3, .int (nI os))] [] w 0 0 := by
        intro n
        induction n with
        | zero =>
          intro r hr _ _ hall
          obtain rfl : r = 0 := by omega
          refine jd_s cdo_116 hev [] 10 z00 ?_
          refine ⟨fun _ => ⟨Or.inl rfl, h2 (fun z => ?_)⟩, fun z => absurd rfl z⟩
          obtain ⟨o, ho1, ho2, ho3⟩ := (Mt_step htb).mp z
          rcases hall o ho1 ho2 with q | q
          · simp at q
          · exact q ho3
        | succ n ih =>
          intro r hr hr2 hsub hall
          rcases Nat.eq_zero_or_pos r with h0 | hrp
          · subst h0
            refine jd_s cdo_116 hev [] 10 z00 ?_
            refine ⟨fun _ => ⟨Or.inl rfl, h2 (fun z => ?_)⟩, fun z => absurd rfl z⟩
            obtain ⟨o, ho1, ho2, ho3⟩ := (Mt_step htb).mp z
            rcases hall o ho1 ho2 with q | q
            · simp at q
            · exact q ho3
          · obtain ⟨hj, hjb⟩ := tz_ok r hr2 hrp
            have hlow := lowb r hr2 hrp
            have hlt := low_lt r hr2 hrp
            obtain ⟨hjg, hjo⟩ := hsub _ hjb
            have next := ih (r ^^^ 2 ^ tz r) (by omega) (x_lt hr2 (p_lt hj)) (fun j hjt => by
              by_cases z : tz r = j
              · subst z
                rw [xb_eq hjb] at hjt
                cases hjt
              · rw [xb_ne z] at hjt
                exact hsub j hjt)
            refine jd_s cdo_116 hev [28] 60 z00 ?_
            refine ⟨fun z => absurd z (nI_ne0 hrp (by omega)), fun _ => ?_⟩
            have harg : ([.ref m0, .int (nI x), .int (nI ws ^^^ ((1 : Int32) <<< (nI (tz ws) &&& 31))), .int (nI os ^^^ (nI r &&& -(nI r)))] : List Value) = [.ref m0, .int (nI x), .int (nI (ws ^^^ 2 ^ tz ws)), .int (nI (os ^^^ 2 ^ tz r))] := by rw [sh1 _ (by omega), hlow, nI_xor, nI_xor]
            refine ⟨⟨show 2 + d < 2 + (d + 1) by omega, show 0 + 0 ≤ 0 by decide, show 0 + 0 ≤ 0 by decide⟩, rfl, hM.k, m0, M, x, ws ^^^ 2 ^ tz ws, os ^^^ 2 ^ tz r, g, harg, hM, ⟨hx, x_lt hws (p_lt ht), x_lt hos (p_lt hj), by have := bc_x ht htb; omega⟩, hg, fun mt => br1 ⟨Or.inr rfl, h1 ((Mt_step htb).mpr ⟨tz r, hjg, hjo, mt⟩)⟩, fun nmt => br0 ?_⟩
            have next' := next (fun j a b => by
              by_cases z : tz r = j
              · subst z
                exact Or.inr nmt
              · rw [xb_ne z]
                exact hall j a b)
            rw [← nI_xor, ← hlow] at next'
            exact jd_pk [0, 2, 3, 4, 5, 6] next'
      refine jd_s cdo_116 hev [28] 40 z00 ?_
      refine ⟨fun _ => ?_, fun z => absurd z hne⟩
      refine ⟨⟨show 1 < 2 + (d + 1) by omega, show 0 + 0 ≤ 0 by decide, show 0 + 0 ≤ 0 by decide⟩, rfl, Nat.le_of_ble_eq_true rfl, ws, rfl, hws, hpos, ?_⟩
      refine ⟨hM.k, _, hM.rf _ rfl, hM.kd _ rfl, 10 * x + tz ws, _, hM.ix _ rfl (by rw [n10, nI_add]) (show 10 * x + tz ws < 20 by omega), (hM.rd _ rfl _).trans hg1, ?_⟩
      have hand := key 1024 (g (tz ws) &&& os) (by have := Nat.and_le_left (n := g (tz ws)) (m := os); omega) (by have := Nat.and_le_left (n := g (tz ws)) (m := os); omega) (fun j hj => by rw [Nat.testBit_and, Bool.and_eq_true] at hj; exact hj) (fun j a b => Or.inl (by rw [Nat.testBit_and, a, b]; rfl))
      rw [← nI_and] at hand
      exact hand
