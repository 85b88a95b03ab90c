/-! SEATS: only ten bits count -/
def msk (ft : Nat → Int32) : Nat → Int32 := fun w => ft w &&& 1023
theorem bt_m : ∀ p, p < 10 → (1023 : Int32) &&& bt p = bt p := by decide +kernel
theorem tst_m {x g s : Int32} {p : Nat} (hp : p < 10) : x &&& g &&& s &&& bt p = (x &&& 1023) &&& g &&& s &&& bt p := by
  have e := bt_m p hp
  generalize bt p = b at *
  rw [← e]
  ac_rfl
theorem tst_m2 {x g : Int32} {p : Nat} (hp : p < 10) : x &&& g &&& bt p = (x &&& 1023) &&& g &&& bt p := by
  have e := bt_m p hp
  generalize bt p = b at *
  rw [← e]
  ac_rfl
theorem sLp_m (rc : Int32 → St → Bool × St) (fw gv wh : Int32) : ∀ d p s, p + d = 10 → sLp rc fw gv wh d p s = sLp rc (fw &&& 1023) gv wh d p s
  | 0, _, _, _ => rfl
  | d + 1, p, s, h => by
    rw [sLp, sLp, tst_m (x := fw) (by omega), sLp_m rc fw gv wh d (p + 1) s (by omega)]
    cases rc (s.2 p) (s.1 ||| bt p, s.2) with
    | mk r s2 =>
      cases r with
      | true => rfl
      | false =>
        dsimp only
        rw [sLp_m rc fw gv wh d (p + 1) s2 (by omega)]
theorem sOM_m (ft : Nat → Int32) (gv : Int32) : ∀ f, sOM ft gv f = sOM (msk ft) gv f
  | 0 => rfl
  | f + 1 => by
    funext wh s
    rw [sOM, sOM, sOM_m ft gv f, sLp_m _ _ _ _ 10 0 s rfl]
    rfl
theorem cSb_m (fu : Nat) (ft : Nat → Int32) (gv set : Int32) : ∀ d b s, cSb fu ft gv set d b s = cSb fu (msk ft) gv set d b s
  | 0, _, _ => rfl
  | d + 1, b, s => by
    rw [cSb, cSb, sOM_m ft gv fu, cSb_m fu ft gv set d (b + 1) s]
    cases sOM (msk ft) gv fu (nI b) (0, s.2) with
    | mk r s2 =>
      cases r with
      | true =>
        dsimp only
        rw [cSb_m fu ft gv set d (b + 1) s2]
      | false => rfl
theorem fPl_m (fu : Nat) (ft : Nat → Int32) (set : Int32) (i k : Nat) : ∀ d p q, p + d = 10 → fPl fu ft set i k d p q = fPl fu (msk ft) set i k d p q
  | 0, _, _, _ => rfl
  | d + 1, p, q, h => by
    rw [fPl, fPl, tst_m2 (x := ft i) (by omega), fPl_m fu ft set i k d (p + 1) q (by omega), cSb_m fu ft (q.1 ||| bt p) set k (i + 1) (q.2.1, flH q.2.2 10)]
    cases cSb fu (msk ft) (q.1 ||| bt p) set k (i + 1) (q.2.1, flH q.2.2 10) with
    | mk r s2 =>
      cases r with
      | true => rfl
      | false =>
        dsimp only
        rw [fPl_m fu ft set i k d (p + 1) _ (by omega)]
        rfl
theorem stl_m (fu n : Nat) (ft : Nat → Int32) (set : Int32) (hn : n = 10) : ∀ d i z, stl fu n ft set d i z = stl fu n (msk ft) set d i z
  | 0, _, _ => rfl
  | d + 1, i, z => by
    rw [stl, stl, fPl_m fu ft set i d n 0 z.2 (by omega), stl_m fu n ft set hn d (i + 1) z, stl_m fu n ft set hn d (i + 1) _]
theorem tW_m (fu : Nat) (fp fs : Nat → Int32) (gp gs wc : Int32) : ∀ f i tk st T, tW fu fp fs gp gs wc f i tk st T = tW fu (msk fp) (msk fs) gp gs wc f i tk st T
  | 0, _, _, _, _ => rfl
  | f + 1, i, tk, st, T => by
    rw [tW, tW, sOM_m fp gp fu, sOM_m fs gs fu, tW_m fu fp fs gp gs wc f (i + 1) (tk + 1) _ _, tW_m fu fp fs gp gs wc f (i + 1) tk st _]
theorem nI_all (x : Int32) : ∃ n, x = nI n := ⟨x.toBitVec.toNat, by
  apply Int32.toBitVec_inj.mp
  apply BitVec.eq_of_toNat_eq
  simp [nI]⟩
theorem msk_ok (ft : Nat → Int32) (w : Nat) : msk ft w = nI (pN (msk ft w)) ∧ pN (msk ft w) < 1024 := by
  obtain ⟨n, hn⟩ := nI_all (ft w)
  have e : msk ft w = nI (n &&& 1023) := by
    unfold msk
    rw [hn, show (1023 : Int32) = nI 1023 from rfl, nI_and]
  have lt : n &&& 1023 < 1024 := by
    have := Nat.and_le_right (n := n) (m := 1023)
    omega
  rw [e, pN_n (by omega)]
  exact ⟨rfl, lt⟩
theorem msk_n {ft : Nat → Int32} {w v : Nat} (h : ft w = nI v) (hv : v < 1024) : pN (msk ft w) = v := by
  have e : msk ft w = nI v := by
    unfold msk
    rw [h, show (1023 : Int32) = nI 1023 from rfl, nI_and, show 1023 = 2 ^ 10 - 1 from rfl, Nat.and_two_pow_sub_one_eq_mod, Nat.mod_eq_of_lt hv]
  rw [e, pN_n (by omega)]
