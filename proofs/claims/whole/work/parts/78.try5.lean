/-! SEATS: from nothing -/
theorem SeS_0 (F : Nat → Nat) (G : Nat) (h : Nat → Int32) : SeS F G 0 (flH h 10) := by
  have e : ∀ p, p < 10 → flH h 10 p = -1 := fun p hp => if_pos hp
  refine ⟨⟨fun p hp _ => Or.inl (e p hp), fun p q hp hq _ _ _ ne => absurd (e p hp) ne⟩, by decide, fun v hv => ⟨fun ⟨p, hp, _, z⟩ => ?_, fun z => ?_⟩⟩
  · rw [e p hp] at z
    exact absurd z.symm (nI_ne1 hv)
  · rw [z_bit] at z
    cases z
theorem MtA_0 (F : Nat → Nat) (G : Nat) : MtA F G 0 := ⟨fun _ => 0, fun w h => absurd ((z_bit w).symm.trans h) Bool.false_ne_true, fun w v h => absurd ((z_bit w).symm.trans h) Bool.false_ne_true⟩
/-- the best set, and how many it has -/
theorem tW_best {Fp Fs : Nat → Nat} {fp fs : Nat → Int32} {mb fu f : Nat} (hFp : ∀ w, w < 10 → Fp w < 1024) (hFs : ∀ w, w < 10 → Fs w < 1024) (hfp : ∀ w, w < 10 → fp w = nI (Fp w)) (hfs : ∀ w, w < 10 → fs w = nI (Fs w)) (hfu : fu = 11) (hf : f = 11) (hmb : mb ≤ 10) (x : Int32) (sp ss : St) (hsp : SeS Fp 0 0 sp.2) (hss : SeS Fs 0 0 ss.2) : ∃ B, B < 2 ^ mb ∧ gdA Fp Fs B ∧ (∀ t, t < 2 ^ mb → gdA Fp Fs t → nob t B) ∧ (tW fu fp fs 0 0 (nI mb) f 0 0 0 ((-1, x), (sp, ss))).1 = (nI (bc B), nI B) := by
  have k := tW_ok hFp hFs hfp hfs hfu hmb f 0 0 ((-1, x), (sp, ss)) none (by omega) (Nat.zero_le _) (by decide) (fun k _ => z_bit k) hsp hss rfl
  have e : nI (bc 0) = 0 := by decide
  rw [e] at k
  obtain ⟨b', ⟨h1, _, _⟩, h4⟩ := k
  have h1 : Bst b' (tW fu fp fs 0 0 (nI mb) f 0 0 0 ((-1, x), (sp, ss))).1 := h1
  rcases h4 with ⟨_, a⟩ | ⟨B, e1, x1, g1, _, n1⟩
  · obtain ⟨B, eB, _⟩ := a 0 ⟨Nat.two_pow_pos mb, fun _ hk => by omega⟩ ⟨MtA_0 Fp 0, MtA_0 Fs 0⟩
    cases eB
  · rw [e1] at h1
    exact ⟨B, x1.1, g1, fun t ht gt => n1 t ⟨ht, fun _ hk => by omega⟩ gt, h1.2⟩
