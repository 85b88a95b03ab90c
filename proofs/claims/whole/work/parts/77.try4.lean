/-! SEATS: the wheels chosen are the best -/
theorem nI_sub {a b : Nat} (h : b ≤ a) : nI a - nI b = nI (a - b) := by
  have e : nI a = nI (a - b) + nI b := by rw [nI_add]; exact congrArg nI (by omega)
  rw [e, Int32.add_sub_cancel]
theorem or_x {ws i : Nat} (h : ws.testBit i = false) : (ws ||| 2 ^ i) ^^^ 2 ^ i = ws := by
  apply Nat.eq_of_testBit_eq
  intro k
  rw [xb, or_bit]
  by_cases e : i = k
  · rw [← e, h]; simp
  · simp [e]
theorem Ext_no {F : Nat → Nat} {mb ws i t : Nat} (hws : ∀ k, i ≤ k → ws.testBit k = false) (hn : ¬ MtA F 0 (ws ||| 2 ^ i)) (h : Ext mb (ws ||| 2 ^ i) (i + 1) t) : ¬ MtA F 0 t := fun m => hn (m.sub (fun w hw => by
  rcases Nat.lt_or_ge w (i + 1) with z | z
  · rw [h.2 w z]; exact hw
  · rw [or_bit, hws w (by omega)] at hw
    simp [show i ≠ w by omega] at hw))
theorem tW_ok {Fp Fs : Nat → Nat} {fp fs : Nat → Int32} {mb fu : Nat} (hFp : ∀ w, w < 10 → Fp w < 1024) (hFs : ∀ w, w < 10 → Fs w < 1024) (hfp : ∀ w, w < 10 → fp w = nI (Fp w)) (hfs : ∀ w, w < 10 → fs w = nI (Fs w)) (hfu : fu = 11) (hmb : mb ≤ 10) : ∀ f i ws (T : Ts) b, i + f = 11 → i ≤ mb → ws < 1024 → (∀ k, i ≤ k → ws.testBit k = false) → SeS Fp 0 ws T.2.1.2 → SeS Fs 0 ws T.2.2.2 → Bst b T.1 → ∃ b', (Bst b' (tW fu fp fs (nI 0) (nI 0) (nI mb) f i (nI (bc ws)) (nI ws) T).1 ∧ SeS Fp 0 ws (tW fu fp fs (nI 0) (nI 0) (nI mb) f i (nI (bc ws)) (nI ws) T).2.1.2 ∧ SeS Fs 0 ws (tW fu fp fs (nI 0) (nI 0) (nI mb) f i (nI (bc ws)) (nI ws) T).2.2.2) ∧ Bp Fp Fs mb ws i b b'
  | 0, i, ws, T, b, hi, him, _, _, _, _, _ => by omega
  | f + 1, i, ws, T, b, hi, him, hws, hz, sp, ss, hb => by
    have bw := bc_le ws
    rw [tW, nI_add, nI_sub (by omega)]
    by_cases c : nI (bc ws + mb - i) ≤ T.1.1
    · rw [if_pos c]
      refine ⟨b, ⟨hb, sp, ss⟩, Or.inl ⟨rfl, fun t ht _ => ?_⟩⟩
      cases b with
      | none =>
        have hb : T.1.1 = -1 := hb
        rw [hb, i_le, nI_toInt (by omega)] at c
        have e : (-1 : Int32).toInt = -1 := by decide
        omega
      | some B =>
        have hb : B < 1024 ∧ T.1 = (nI (bc B), nI B) := hb
        rw [hb.2] at c
        have bB := bc_le B
        have c2 := (nI_leI (by omega) (by omega)).mp c
        have := Ext_bc hmb him hz ht
        exact ⟨B, rfl, by omega⟩
    · rw [if_neg c]
      have hbl : bL b (bc ws + mb - i) := by
        cases b with
        | none => trivial
        | some B =>
          have hb : B < 1024 ∧ T.1 = (nI (bc B), nI B) := hb
          rw [hb.2] at c
          have bB := bc_le B
          show bc B < bc ws + mb - i
          rcases Nat.lt_or_ge (bc B) (bc ws + mb - i) with z | z
          · exact z
          · exact absurd ((nI_leI (by omega) (by omega)).mpr z) c
      by_cases d : nI mb ≤ nI i ∨ 10 ≤ i
      · rw [if_pos d]
        have eim : i = mb := by
          rcases d with z | z
          · have := (nI_leI (by omega) (by omega)).mp z
            omega
          · omega
        have hlt : ws < 2 ^ mb := Nat.lt_pow_two_of_testBit ws (fun k hk => hz k (by omega))
        refine ⟨some ws, ⟨⟨hws, rfl⟩, sp, ss⟩, Or.inr ⟨ws, rfl, ⟨hlt, fun _ _ => rfl⟩, ⟨sp.mt, ss.mt⟩, by rw [eim] at hbl; rw [show bc ws + mb - mb = bc ws by omega] at hbl; exact hbl, fun t ht _ => Or.inr ⟨?_, Or.inl ?_⟩⟩⟩
        all_goals
          have e : t = ws := by
            apply Nat.eq_of_testBit_eq
            intro k
            rcases Nat.lt_or_ge k i with z | z
            · exact ht.2 k z
            · rw [hz k z]
              exact Nat.testBit_lt_two_pow (Nat.lt_of_lt_of_le ht.1 (Nat.pow_le_pow_right (by decide) (by omega)))
          rw [e]
      · rw [if_neg d]
        have hi10 : i < 10 := by omega
        have him2 : i + 1 ≤ mb := by
          rcases Nat.lt_or_ge i mb with z | z
          · exact z
          · exact absurd (Or.inl (nI_le z (by omega))) d
        have hni := hz i (Nat.le_refl _)
        have kp := seat_ok (G := 0) hFp hfp hfu hi10 hni sp
        have ks := seat_ok (G := 0) hFs hfs hfu hi10 hni ss
        have hz1 : ∀ k, i + 1 ≤ k → ws.testBit k = false := fun k hk => hz k (by omega)
        have hz2 : ∀ k, i + 1 ≤ k → (ws ||| 2 ^ i).testBit k = false := fun k hk => or_f (hz k (by omega)) (by omega)
        have go : ∀ (T2 : Ts) (b1 : Option Nat), SeS Fp 0 ws T2.2.1.2 → SeS Fs 0 ws T2.2.2.2 → Bst b1 T2.1 → Bp Fp Fs mb (ws ||| 2 ^ i) (i + 1) b b1 → ∃ b', (Bst b' (tW fu fp fs (nI 0) (nI 0) (nI mb) f (i + 1) (nI (bc ws)) (nI ws) T2).1 ∧ SeS Fp 0 ws (tW fu fp fs (nI 0) (nI 0) (nI mb) f (i + 1) (nI (bc ws)) (nI ws) T2).2.1.2 ∧ SeS Fs 0 ws (tW fu fp fs (nI 0) (nI 0) (nI mb) f (i + 1) (nI (bc ws)) (nI ws) T2).2.2.2) ∧ Bp Fp Fs mb ws i b b' := by
          intro T2 b1 sp2 ss2 hb2 h1
          obtain ⟨b2, h2, h3⟩ := tW_ok hFp hFs hfp hfs hfu hmb f (i + 1) ws T2 b1 (by omega) him2 hws hz1 sp2 ss2 hb2
          exact ⟨b2, h2, Bp_2 hz h1 h3⟩
        cases rp : (sOM fp (nI 0) fu (nI i) (0, T.2.1.2)).1 with
        | false =>
          rw [if_neg (by decide)]
          obtain ⟨e1, n1⟩ := kp.2 rp
          refine go _ b ?_ ss hb (Or.inl ⟨rfl, fun t ht gt => absurd gt.1 (Ext_no hz n1 ht)⟩)
          show SeS Fp 0 ws (sOM fp (nI 0) fu (nI i) (0, T.2.1.2)).2.2
          rw [e1]
          exact sp
        | true =>
          rw [if_pos rfl]
          obtain ⟨sp1, _⟩ := kp.1 rp
          have up : ∀ g, SeS Fp 0 (ws ||| 2 ^ i) g → SeS Fp 0 ws (uP g (nI i) 10) := fun g hg => by
            have := unseat_ok hi10 (or_t ws i) hg
            rw [or_x hni] at this
            exact this
          have us : ∀ g, SeS Fs 0 (ws ||| 2 ^ i) g → SeS Fs 0 ws (uP g (nI i) 10) := fun g hg => by
            have := unseat_ok hi10 (or_t ws i) hg
            rw [or_x hni] at this
            exact this
          cases rs : (sOM fs (nI 0) fu (nI i) (0, T.2.2.2)).1 with
          | false =>
            rw [if_neg (by decide)]
            obtain ⟨e1, n1⟩ := ks.2 rs
            refine go _ b (up _ sp1) ?_ hb (Or.inl ⟨rfl, fun t ht gt => absurd gt.2 (Ext_no hz n1 ht)⟩)
            show SeS Fs 0 ws (sOM fs (nI 0) fu (nI i) (0, T.2.2.2)).2.2
            rw [e1]
            exact ss
          | true =>
            rw [if_pos rfl]
            obtain ⟨ss1, _⟩ := ks.1 rs
            have e1 : nI (bc ws) + 1 = nI (bc (ws ||| 2 ^ i)) := by rw [nI_1, bc_or hi10 hni]
            have e2 : nI ws ||| bt i = nI (ws ||| 2 ^ i) := by rw [bt_n hi10, nI_or]
            rw [e1, e2]
            obtain ⟨b1, ⟨h1, h2, h3⟩, h4⟩ := tW_ok hFp hFs hfp hfs hfu hmb f (i + 1) (ws ||| 2 ^ i) (T.1, (sOM fp (nI 0) fu (nI i) (0, T.2.1.2)).2, (sOM fs (nI 0) fu (nI i) (0, T.2.2.2)).2) b (by omega) him2 (or_lt hws hi10) hz2 sp1 ss1 hb
            exact go _ b1 (up _ h2) (us _ h3) h1 h4
