/-! THE CALCULUS once more, for methods that may throw: what is wanted at the end is any that a return gives -/
theorem W_mono {p : Program} {l : Launch} {e : Env} {R : Room} {s : State} {m : MethodId} {args : Array Value} {below : List Frame} {meth : Method} {c : Code} {H : Heap} {locs : List Loc} {cells slots : Nat} {Q Q' : State → Prop} {g : JFrame} (h : ∀ t, Q t → Q' t) (k : W p l e R s m args below meth c H locs cells slots Q g) : W p l e R s m args below meth c H locs cells slots Q' g := fun T hT X => by
  obtain ⟨t, a, b⟩ := k T hT X
  exact ⟨t, a, h t b⟩
section STEPQ
variable {p : Program} {l : Launch} {e : Env} {s : State} {m : MethodId} {args : Array Value} {below : List Frame} {meth : Method} {c : Code}
variable {cc : ByteArray} {nL ow : Nat} {G : GG} {rt : Option FieldType} {A : Nat → Prop} {lv mc ms : Nat} {ev : Ev} {Po : Option Value → Hp → Prop} {R : Room} {Q : State → Prop}
set_option maxHeartbeats 8000000 in
set_option maxRecDepth 100000 in
theorem step_okQ (hQ : ∀ t, MQ below (Pst G A Po) args s mc ms A t → Q t) (C : Cx p s m args meth c cc nL ow G rt) (hA : ∀ q, s.heap.size ≤ q → A q) (hR : lv ≤ R.frames ∧ 40 * lv ≤ R.locals) (hRc : R.cells = mc) (hRs : R.slots = ms) {ini : Bool} (hini : ini = true → meth.name = "<init>") (hev : ∀ k r, ev k = some r → Ct l k r.1 r.2.1 r.2.2.1 r.2.2.2) (q : CI) (hq : ciOK cc ow nL ini q) {nx : Kt} {jp : Nat → Kt}
    (hnx : ∀ L S w nc ns, nc ≤ mc ∧ ns ≤ ms → nx L S w nc ns → Sf p l e R s m args below meth c Q G A nL (q.1 + q.2.2.1) L S w nc ns)
    (hjp : ∀ t L S w nc ns, nc ≤ mc ∧ ns ≤ ms → jp t L S w nc ns → Sf p l e R s m args below meth c Q G A nL t L S w nc ns)
    {L : Ls} {S : List Value} {w : Hp} {nc ns : Nat} (hnc : nc ≤ mc ∧ ns ≤ ms) (h : step lv mc ms ev rt Po q nx jp L S w nc ns) : Sf p l e R s m args below meth c Q G A nL q.1 L S w nc ns := by
  obtain ⟨hx, hb, hml, hown, hts, hK, hr, hlk⟩ := id C
  obtain ⟨pc, i, len, r1, r2, v, ts⟩ := q
  obtain ⟨hdg, hlen, hok⟩ := hq
  dsimp only at hdg hlen hnx
  intro H locs ls hh hS hl
  have hAz : ∀ q, gZ w ≤ q → A q := fun q hq => hA q (Nat.le_trans hS.1 (by rw [hh.1]; exact hq))
  show W p l e R s m args below meth c H locs nc ns _ (F0 m pc ls S)
  cases i with
  | aconst_null => obtain rfl : 1 = len := Nat.eq_of_beq_eq_true hlen; exact lv_null hx hb hdg (hnx _ _ _ _ _ hnc h H locs ls hh hS hl)
  | iconst n => obtain rfl : 1 = len := Nat.eq_of_beq_eq_true hlen; exact lv_iconst hx hb hdg (of_decide_eq_true hok) (hnx _ _ _ _ _ hnc h H locs ls hh hS hl)
  | bipush n => obtain rfl : 2 = len := Nat.eq_of_beq_eq_true hlen; exact lv_bipush hx hb hdg (of_decide_eq_true hok) (hnx _ _ _ _ _ hnc h H locs ls hh hS hl)
  | sipush n => obtain rfl : 3 = len := Nat.eq_of_beq_eq_true hlen; exact lv_sipush hx hb hdg (of_decide_eq_true hok) (hnx _ _ _ _ _ hnc h H locs ls hh hS hl)
  | ldc i => obtain rfl : 2 = len := Nat.eq_of_beq_eq_true hlen; exact lv_ldc hx hb hown (hts _ (CKok _ (List.mem_map.mpr ⟨_, con_mem hok, rfl⟩))) hdg (hnx _ _ _ _ _ hnc h H locs ls hh hS hl)
  | ldc_w i => obtain rfl : 3 = len := Nat.eq_of_beq_eq_true hlen; exact lv_ldcw hx hb hown (hts _ (CKok _ (List.mem_map.mpr ⟨_, con_mem hok, rfl⟩))) hdg (hnx _ _ _ _ _ hnc h H locs ls hh hS hl)
  | ldc2_w i => obtain rfl : 3 = len := Nat.eq_of_beq_eq_true hlen; exact lv_ldc2 hx hb hown (hts _ (CJok _ (List.mem_map.mpr ⟨_, con_mem hok, rfl⟩))) hdg (hnx _ _ _ _ _ hnc h H locs ls hh hS hl)
  | lconst n => obtain rfl : 1 = len := Nat.eq_of_beq_eq_true hlen; exact lv_lconst hx hb hdg rfl (hnx _ _ _ _ _ hnc h H locs ls hh hS hl)
  | iload_n k => obtain rfl : 1 = len := Nat.eq_of_beq_eq_true hlen; obtain ⟨x, h1, h⟩ := k1_el h; exact lv_iload_n hx hb hdg rfl (lk_at hl h1) (hnx _ _ _ _ _ hnc h H locs ls hh hS hl)
  | iload k => obtain rfl : 2 = len := Nat.eq_of_beq_eq_true hlen; obtain ⟨x, h1, h⟩ := k1_el h; exact lv_iload hx hb hdg (lk_at hl h1) (hnx _ _ _ _ _ hnc h H locs ls hh hS hl)
  | lload_n k => obtain rfl : 1 = len := Nat.eq_of_beq_eq_true hlen; obtain ⟨x, h1, h⟩ := kJ_el h; exact lv_lload_n hx hb hdg rfl (lk_at hl h1) (hnx _ _ _ _ _ hnc h H locs ls hh hS hl)
  | lload k => obtain rfl : 2 = len := Nat.eq_of_beq_eq_true hlen; obtain ⟨x, h1, h⟩ := kJ_el h; exact lv_lload hx hb hdg (lk_at hl h1) (hnx _ _ _ _ _ hnc h H locs ls hh hS hl)
  | aload_n k =>
    obtain rfl : 1 = len := Nat.eq_of_beq_eq_true hlen
    unfold step at h; dsimp only at h
    rcases kR_el h with ⟨x, h1, h⟩ | ⟨h1, h⟩
    · exact lv_aload_n hx hb hdg rfl (lk_at hl h1) (hnx _ _ _ _ _ hnc h H locs ls hh hS hl)
    · exact lv_aload_nN hx hb hdg rfl (lk_at hl h1) (hnx _ _ _ _ _ hnc h H locs ls hh hS hl)
  | aload k =>
    obtain rfl : 2 = len := Nat.eq_of_beq_eq_true hlen
    unfold step at h; dsimp only at h
    rcases kR_el h with ⟨x, h1, h⟩ | ⟨h1, h⟩
    · exact lv_aload hx hb hdg (lk_at hl h1) (hnx _ _ _ _ _ hnc h H locs ls hh hS hl)
    · exact lv_aloadN hx hb hdg (lk_at hl h1) (hnx _ _ _ _ _ hnc h H locs ls hh hS hl)
  | istore_n k => obtain rfl : 1 = len := Nat.eq_of_beq_eq_true hlen; obtain ⟨x, S', rfl, h⟩ := p1_el h; exact lv_istore_n hx hb hdg rfl hl (of_decide_eq_true hok) rfl (fun ls hl => hnx _ _ _ _ _ hnc h H locs ls hh hS hl)
  | istore k => obtain rfl : 2 = len := Nat.eq_of_beq_eq_true hlen; obtain ⟨x, S', rfl, h⟩ := p1_el h; exact lv_istore hx hb hdg hl (of_decide_eq_true hok) rfl (fun ls hl => hnx _ _ _ _ _ hnc h H locs ls hh hS hl)
  | lstore_n k => obtain rfl : 1 = len := Nat.eq_of_beq_eq_true hlen; obtain ⟨x, S', rfl, h⟩ := pJ_el h; exact lv_lstore_n hx hb hdg rfl hl (of_decide_eq_true hok) rfl (fun ls hl => hnx _ _ _ _ _ hnc h H locs ls hh hS hl)
  | lstore k => obtain rfl : 2 = len := Nat.eq_of_beq_eq_true hlen; obtain ⟨x, S', rfl, h⟩ := pJ_el h; exact lv_lstore hx hb hdg hl (of_decide_eq_true hok) rfl (fun ls hl => hnx _ _ _ _ _ hnc h H locs ls hh hS hl)
  | astore_n k =>
    obtain rfl : 1 = len := Nat.eq_of_beq_eq_true hlen
    unfold step at h; dsimp only at h
    rcases pR_el h with ⟨x, S', rfl, h⟩ | ⟨S', rfl, h⟩
    · exact lv_astore_n hx hb hdg rfl hl (of_decide_eq_true hok) rfl (fun ls hl => hnx _ _ _ _ _ hnc h H locs ls hh hS hl)
    · exact lv_astore_nN hx hb hdg rfl hl (of_decide_eq_true hok) rfl (fun ls hl => hnx _ _ _ _ _ hnc h H locs ls hh hS hl)
  | astore k =>
    obtain rfl : 2 = len := Nat.eq_of_beq_eq_true hlen
    unfold step at h; dsimp only at h
    rcases pR_el h with ⟨x, S', rfl, h⟩ | ⟨S', rfl, h⟩
    · exact lv_astore hx hb hdg hl (of_decide_eq_true hok) rfl (fun ls hl => hnx _ _ _ _ _ hnc h H locs ls hh hS hl)
    · exact lv_astoreN hx hb hdg hl (of_decide_eq_true hok) rfl (fun ls hl => hnx _ _ _ _ _ hnc h H locs ls hh hS hl)
  | iinc k n =>
    obtain rfl : 3 = len := Nat.eq_of_beq_eq_true hlen
    obtain ⟨x, h1, h⟩ := k1_el h
    obtain ⟨j, hj⟩ := lk_ix h1
    have hok2 := Bool.and_eq_true_iff.mp hok
    exact lv_iinc hx hb hdg hl hj (by rw [of_decide_eq_true hok2.2]) (of_decide_eq_true hok2.1) rfl (fun ls hl => hnx _ _ _ _ _ hnc h H locs ls hh hS hl)
  | iadd => obtain rfl : 1 = len := Nat.eq_of_beq_eq_true hlen; obtain ⟨x, y, S', rfl, h⟩ := p2_el h; exact lv_iadd hx hb hdg (hnx _ _ _ _ _ hnc h H locs ls hh hS hl)
  | isub => obtain rfl : 1 = len := Nat.eq_of_beq_eq_true hlen; obtain ⟨x, y, S', rfl, h⟩ := p2_el h; exact lv_isub hx hb hdg (hnx _ _ _ _ _ hnc h H locs ls hh hS hl)
  | imul => obtain rfl : 1 = len := Nat.eq_of_beq_eq_true hlen; obtain ⟨x, y, S', rfl, h⟩ := p2_el h; exact lv_imul hx hb hdg (hnx _ _ _ _ _ hnc h H locs ls hh hS hl)
  | iand => obtain rfl : 1 = len := Nat.eq_of_beq_eq_true hlen; obtain ⟨x, y, S', rfl, h⟩ := p2_el h; exact lv_iand hx hb hdg (hnx _ _ _ _ _ hnc h H locs ls hh hS hl)
  | ior => obtain rfl : 1 = len := Nat.eq_of_beq_eq_true hlen; obtain ⟨x, y, S', rfl, h⟩ := p2_el h; exact lv_ior hx hb hdg (hnx _ _ _ _ _ hnc h H locs ls hh hS hl)
  | ixor => obtain rfl : 1 = len := Nat.eq_of_beq_eq_true hlen; obtain ⟨x, y, S', rfl, h⟩ := p2_el h; exact lv_ixor hx hb hdg (hnx _ _ _ _ _ hnc h H locs ls hh hS hl)
  | ishl => obtain rfl : 1 = len := Nat.eq_of_beq_eq_true hlen; obtain ⟨x, y, S', rfl, h⟩ := p2_el h; exact lv_ishl hx hb hdg (hnx _ _ _ _ _ hnc h H locs ls hh hS hl)
  | ishr => obtain rfl : 1 = len := Nat.eq_of_beq_eq_true hlen; obtain ⟨x, y, S', rfl, h⟩ := p2_el h; exact lv_ishr hx hb hdg (hnx _ _ _ _ _ hnc h H locs ls hh hS hl)
  | iushr => obtain rfl : 1 = len := Nat.eq_of_beq_eq_true hlen; obtain ⟨x, y, S', rfl, h⟩ := p2_el h; exact lv_iushr hx hb hdg rfl (hnx _ _ _ _ _ hnc h H locs ls hh hS hl)
  | irem => obtain rfl : 1 = len := Nat.eq_of_beq_eq_true hlen; obtain ⟨x, y, S', rfl, hy, h⟩ := p2_el h; exact lv_irem hx hb hdg hy (hnx _ _ _ _ _ hnc h H locs ls hh hS hl)
  | ineg => obtain rfl : 1 = len := Nat.eq_of_beq_eq_true hlen; obtain ⟨x, S', rfl, h⟩ := p1_el h; exact lv_ineg hx hb hdg (hnx _ _ _ _ _ hnc h H locs ls hh hS hl)
  | ladd => obtain rfl : 1 = len := Nat.eq_of_beq_eq_true hlen; obtain ⟨x, y, S', rfl, h⟩ := pJ2_el h; exact lv_ladd hx hb hdg (hnx _ _ _ _ _ hnc h H locs ls hh hS hl)
  | lsub => obtain rfl : 1 = len := Nat.eq_of_beq_eq_true hlen; obtain ⟨x, y, S', rfl, h⟩ := pJ2_el h; exact lv_lsub hx hb hdg (hnx _ _ _ _ _ hnc h H locs ls hh hS hl)
  | lmul => obtain rfl : 1 = len := Nat.eq_of_beq_eq_true hlen; obtain ⟨x, y, S', rfl, h⟩ := pJ2_el h; exact lv_lmul hx hb hdg (hnx _ _ _ _ _ hnc h H locs ls hh hS hl)
  | lcmp => obtain rfl : 1 = len := Nat.eq_of_beq_eq_true hlen; obtain ⟨x, y, S', rfl, h⟩ := pJ2_el h; exact W.lcmp hx hb hdg (hnx _ _ _ _ _ hnc h H locs ls hh hS hl)
  | i2l => obtain rfl : 1 = len := Nat.eq_of_beq_eq_true hlen; obtain ⟨x, S', rfl, h⟩ := p1_el h; exact lv_i2l hx hb hdg rfl (hnx _ _ _ _ _ hnc h H locs ls hh hS hl)
  | dup =>
    obtain rfl : 1 = len := Nat.eq_of_beq_eq_true hlen
    match S, h with
    | .int x :: S', h => exact lv_dup hx hb hdg rfl (hnx _ _ _ _ _ hnc h H locs ls hh hS hl)
    | .ref x :: S', h => exact lv_dup hx hb hdg rfl (hnx _ _ _ _ _ hnc h H locs ls hh hS hl)
    | .null :: S', h => exact lv_dup hx hb hdg rfl (hnx _ _ _ _ _ hnc h H locs ls hh hS hl)
  | dup2 => obtain rfl : 1 = len := Nat.eq_of_beq_eq_true hlen; obtain ⟨x, y, S', rfl, h⟩ := pIx_el h; exact lv_dup2_11 hx hb hdg rfl rfl (hnx _ _ _ _ _ hnc h H locs ls hh hS hl)
  | ifCond cd off =>
    obtain rfl : 3 = len := Nat.eq_of_beq_eq_true hlen
    obtain ⟨x, S', rfl, h⟩ := p1_el h
    have ht := of_decide_eq_true hok
    cases cd with
    | eq => exact lv_if_eq hx hb hdg ht (fun z => hjp _ _ _ _ _ _ hnc (h.1 z) H locs ls hh hS hl) (fun z => hnx _ _ _ _ _ hnc (h.2 z) H locs ls hh hS hl)
    | ne => exact lv_if_ne hx hb hdg ht (fun z => hjp _ _ _ _ _ _ hnc (h.1 z) H locs ls hh hS hl) (fun z => hnx _ _ _ _ _ hnc (h.2 z) H locs ls hh hS hl)
    | lt => exact lv_if_lt hx hb hdg ht (fun z => hjp _ _ _ _ _ _ hnc (h.1 z) H locs ls hh hS hl) (fun z => hnx _ _ _ _ _ hnc (h.2 z) H locs ls hh hS hl)
    | ge => exact lv_if_ge hx hb hdg ht (fun z => hjp _ _ _ _ _ _ hnc (h.1 z) H locs ls hh hS hl) (fun z => hnx _ _ _ _ _ hnc (h.2 z) H locs ls hh hS hl)
    | gt => exact lv_if_gt hx hb hdg ht (fun z => hjp _ _ _ _ _ _ hnc (h.1 z) H locs ls hh hS hl) (fun z => hnx _ _ _ _ _ hnc (h.2 z) H locs ls hh hS hl)
    | le => exact lv_if_le hx hb hdg ht (fun z => hjp _ _ _ _ _ _ hnc (h.1 z) H locs ls hh hS hl) (fun z => hnx _ _ _ _ _ hnc (h.2 z) H locs ls hh hS hl)
  | if_icmp cd off =>
    obtain rfl : 3 = len := Nat.eq_of_beq_eq_true hlen
    obtain ⟨x, y, S', rfl, h⟩ := p2_el h
    have ht := of_decide_eq_true hok
    cases cd with
    | eq => exact lv_icmp_eq hx hb hdg ht (fun z => hjp _ _ _ _ _ _ hnc (h.1 z) H locs ls hh hS hl) (fun z => hnx _ _ _ _ _ hnc (h.2 z) H locs ls hh hS hl)
    | ne => exact lv_icmp_ne hx hb hdg ht (fun z => hjp _ _ _ _ _ _ hnc (h.1 z) H locs ls hh hS hl) (fun z => hnx _ _ _ _ _ hnc (h.2 z) H locs ls hh hS hl)
    | lt => exact lv_icmp_lt hx hb hdg ht (fun z => hjp _ _ _ _ _ _ hnc (h.1 z) H locs ls hh hS hl) (fun z => hnx _ _ _ _ _ hnc (h.2 z) H locs ls hh hS hl)
    | ge => exact lv_icmp_ge hx hb hdg ht (fun z => hjp _ _ _ _ _ _ hnc (h.1 z) H locs ls hh hS hl) (fun z => hnx _ _ _ _ _ hnc (h.2 z) H locs ls hh hS hl)
    | gt => exact lv_icmp_gt hx hb hdg ht (fun z => hjp _ _ _ _ _ _ hnc (h.1 z) H locs ls hh hS hl) (fun z => hnx _ _ _ _ _ hnc (h.2 z) H locs ls hh hS hl)
    | le => exact lv_icmp_le hx hb hdg ht (fun z => hjp _ _ _ _ _ _ hnc (h.1 z) H locs ls hh hS hl) (fun z => hnx _ _ _ _ _ hnc (h.2 z) H locs ls hh hS hl)
  | ifnull off =>
    obtain rfl : 3 = len := Nat.eq_of_beq_eq_true hlen
    match S, h with
    | .ref x :: S', h => exact lv_ifnull hx hb hdg (hnx _ _ _ _ _ hnc h H locs ls hh hS hl)
    | .null :: S', h => exact lv_ifnullN hx hb hdg (of_decide_eq_true hok) (hjp _ _ _ _ _ _ hnc h H locs ls hh hS hl)
  | ifnonnull off =>
    obtain rfl : 3 = len := Nat.eq_of_beq_eq_true hlen
    match S, h with
    | .ref x :: S', h => exact lv_ifnonnull hx hb hdg (of_decide_eq_true hok) (hjp _ _ _ _ _ _ hnc h H locs ls hh hS hl)
    | .null :: S', h => exact lv_ifnonnullN hx hb hdg (hnx _ _ _ _ _ hnc h H locs ls hh hS hl)
  | goto off => obtain rfl : 3 = len := Nat.eq_of_beq_eq_true hlen; exact lv_goto hx hb hdg (of_decide_eq_true hok) (hjp _ _ _ _ _ _ hnc h H locs ls hh hS hl)
  | tableswitch d lo hi offs =>
    obtain ⟨x, S', rfl, h1, h2⟩ := p1_el h
    obtain ⟨hk1, hk3⟩ := Bool.and_eq_true_iff.mp hok
    obtain ⟨hk1, hk2⟩ := Bool.and_eq_true_iff.mp hk1
    have hk1 := of_decide_eq_true hk1
    have hk2 := of_decide_eq_true hk2
    have hk3 := of_decide_eq_true hk3
    by_cases hin : x.toInt < lo ∨ hi < x.toInt
    · exact lv_tableOut hx hb hdg hin hk1 (hjp _ _ _ _ _ _ hnc (h1 hin) H locs ls hh hS hl)
    · have hi1 : ¬ x.toInt < lo := fun z => hin (Or.inl z)
      have hi2 : ¬ hi < x.toInt := fun z => hin (Or.inr z)
      have hj : (x.toInt - lo).toNat < offs.size := by omega
      have hlen2 : ts.length = offs.size := by
        have := congrArg List.length hk2
        simpa using this.symm
      have hj2 : (x.toInt - lo).toNat < ts.length := by rw [hlen2]; exact hj
      have ht : ts[(x.toInt - lo).toNat]? = some (ts[(x.toInt - lo).toNat]'hj2) := List.getElem?_eq_getElem _
      have ho : offs[(x.toInt - lo).toNat]? = some (offs[(x.toInt - lo).toNat]'hj) := Array.getElem?_eq_getElem _
      have htg : (pc : Int) + offs[(x.toInt - lo).toNat]'hj = ((ts[(x.toInt - lo).toNat]'hj2 : Nat) : Int) := by
        have e := congrArg (fun l => l[(x.toInt - lo).toNat]?) hk2
        simp only [List.getElem?_map, Array.getElem?_toList, ho, ht, Option.map_some] at e
        exact Option.some.inj e
      have hxe : x.toInt = lo + ((x.toInt - lo).toNat : Int) := by omega
      have h2' : tsw x lo (fun t => jp t L S' w nc ns) ts := h2
      have h3 := tsw_at (f := fun t => jp t L S' w nc ns) _ h2' ht hxe
      exact lv_tableIn hx hb hdg hi1 hi2 ho htg (hjp _ _ _ _ _ _ hnc h3 H locs ls hh hS hl)
  | lookupswitch d ps =>
    obtain ⟨x, S', rfl, h⟩ := p1_el h
    obtain ⟨hk1, hk3⟩ := Bool.and_eq_true_iff.mp hok
    obtain ⟨hk1, hk2⟩ := Bool.and_eq_true_iff.mp hk1
    have hk1 := of_decide_eq_true hk1
    have hk2 := of_decide_eq_true hk2
    obtain ⟨tgt, h1, h2⟩ := lsw_at (d0 := d) hk1 (fun t => W p l e R s m args below meth c H locs nc ns Q (F0 m t ls S')) (fun t z => hjp _ _ _ _ _ _ hnc z H locs ls hh hS hl) rfl (fun z => hjp _ _ _ _ _ _ hnc z H locs ls hh hS hl) hk2 h
    exact lv_lookup hx hb hdg hk3 rfl h1 h2
  | getfield i =>
    obtain rfl : 3 = len := Nat.eq_of_beq_eq_true hlen
    obtain ⟨a, S', rfl, hk, h⟩ := pA_el h
    refine r_get C hh (con_mem hok) hk hdg ?_
    by_cases hf : isRf r1 r2 = true
    · rw [hf, cond_true] at h
      obtain ⟨o, rfl, h⟩ := h
      rw [fv_r hf]
      exact hnx _ _ _ _ _ hnc h H locs ls hh hS hl
    · have hf : isRf r1 r2 = false := by simpa using hf
      rw [hf, cond_false] at h
      obtain ⟨x, rfl, h⟩ := h
      rw [fv_i hf]
      exact hnx _ _ _ _ _ hnc h H locs ls hh hS hl
  | putfield i =>
    obtain rfl : 3 = len := Nat.eq_of_beq_eq_true hlen
    obtain ⟨x, a, S', rfl, hk, h⟩ := pVA_el h
    obtain ⟨hq1, hq2⟩ := Bool.and_eq_true_iff.mp hok
    have hq1 : (ow, i, r1, r2) ∈ FLT := con_mem hq1
    obtain ⟨ht, hkN⟩ : r1 < 11 ∧ r2 < clN r1 := FLT_lt _ hq1
    have hfin : isFin r1 r2 = false ∨ (meth.name = "<init>" ∧ ow = r1) := by
      dsimp only at hq2
      rcases Bool.or_eq_true_iff.mp hq2 with z | z
      · exact Or.inl (by simpa using z)
      · obtain ⟨z1, z2⟩ := Bool.and_eq_true_iff.mp z
        exact Or.inr ⟨hini z1, of_decide_eq_true z2⟩
    by_cases hf : isRf r1 r2 = true
    · rw [hf, cond_true] at h
      obtain ⟨o, rfl, g⟩ := h
      refine r_put C hh hS hq1 hk hfin ?_ ?_ (up_sR hk (by omega) hkN hf) rfl rfl hdg (fun H1 locs1 hh1 hS1 => hnx _ _ _ _ _ hnc g H1 locs1 ls hh1 hS1 hl)
      · rcases cl_rf r1 ht r2 hkN hf with ⟨C, z⟩ | ⟨C, z⟩ <;> rw [z] <;> cases o <;> rfl
      · rcases cl_rf r1 ht r2 hkN hf with ⟨C, z⟩ | ⟨C, z⟩ <;> rw [z] <;> cases o <;> rfl
    · have hf : isRf r1 r2 = false := by simpa using hf
      rw [hf, cond_false] at h
      obtain ⟨y, rfl, h⟩ := vI_el h
      split at h
      · rename_i hty
        obtain ⟨hy, h⟩ := h
        refine r_put C hh hS hq1 hk hfin ?_ ?_ (up_sI hk (by omega) hkN hf) rfl rfl hdg (fun H1 locs1 hh1 hS1 => hnx _ _ _ _ _ hnc h H1 locs1 ls hh1 hS1 hl)
        · rw [hty]; rcases hy with rfl | rfl <;> rfl
        · rw [hty]; rcases hy with rfl | rfl <;> rfl
      · rename_i hty
        refine r_put C hh hS hq1 hk hfin ?_ ?_ (up_sI hk (by omega) hkN hf) rfl rfl hdg (fun H1 locs1 hh1 hS1 => hnx _ _ _ _ _ hnc h H1 locs1 ls hh1 hS1 hl)
        · rw [hty]; rfl
        · rw [hty]; rfl
      · exact h.elim
  | iaload => obtain rfl : 1 = len := Nat.eq_of_beq_eq_true hlen; obtain ⟨i, a, S', rfl, hk, j, x, ⟨rfl, hj1, hj2⟩, rfl, g⟩ := pIx_el h; exact r_iald C hh hk hj1 hj2 hdg (hnx _ _ _ _ _ hnc g H locs ls hh hS hl)
  | baload => obtain rfl : 1 = len := Nat.eq_of_beq_eq_true hlen; obtain ⟨i, a, S', rfl, hk, j, x, ⟨rfl, hj1, hj2⟩, rfl, g⟩ := pIx_el h; exact r_zald C hh hk hj1 hj2 hdg (hnx _ _ _ _ _ hnc g H locs ls hh hS hl)
  | laload => obtain rfl : 1 = len := Nat.eq_of_beq_eq_true hlen; obtain ⟨i, a, S', rfl, hk, j, x, ⟨rfl, hj1, hj2⟩, rfl, g⟩ := pIx_el h; exact r_lald C hh hk hj1 hj2 hdg (hnx _ _ _ _ _ hnc g H locs ls hh hS hl)
  | aaload => obtain rfl : 1 = len := Nat.eq_of_beq_eq_true hlen; obtain ⟨i, a, S', rfl, t, ⟨hk, ht1, ht2⟩, j, ⟨rfl, hj1, hj2⟩, o, rfl, g⟩ := pIx_el h; exact r_aald C hh hk ht1 ht2 hj1 hj2 hdg (hnx _ _ _ _ _ hnc g H locs ls hh hS hl)
  | iastore => obtain rfl : 1 = len := Nat.eq_of_beq_eq_true hlen; obtain ⟨v0, i, a, S', rfl, g⟩ := pIs_el h; obtain ⟨x, rfl, hk, j, ⟨rfl, hj1, hj2⟩, g2⟩ := vI_el g; exact r_iast C hh hS hk hj1 hj2 hdg (fun H1 locs1 hh1 hS1 => hnx _ _ _ _ _ hnc g2 H1 locs1 ls hh1 hS1 hl)
  | bastore => obtain rfl : 1 = len := Nat.eq_of_beq_eq_true hlen; obtain ⟨v0, i, a, S', rfl, g⟩ := pIs_el h; obtain ⟨x, rfl, hk, hz, j, ⟨rfl, hj1, hj2⟩, g2⟩ := vI_el g; exact r_zast C hh hS hk hj1 hj2 hz hdg (fun H1 locs1 hh1 hS1 => hnx _ _ _ _ _ hnc g2 H1 locs1 ls hh1 hS1 hl)
  | lastore => obtain rfl : 1 = len := Nat.eq_of_beq_eq_true hlen; obtain ⟨v0, i, a, S', rfl, g⟩ := pIs_el h; obtain ⟨x, rfl, hk, j, ⟨rfl, hj1, hj2⟩, g2⟩ := vJ_el g; exact r_last C hh hS hk hj1 hj2 hdg (fun H1 locs1 hh1 hS1 => hnx _ _ _ _ _ hnc g2 H1 locs1 ls hh1 hS1 hl)
  | aastore => obtain rfl : 1 = len := Nat.eq_of_beq_eq_true hlen; obtain ⟨v0, i, a, S', rfl, g⟩ := pIs_el h; obtain ⟨x, rfl, t, ⟨hk, ht1, ht2, hv⟩, j, ⟨rfl, hj1, hj2⟩, g2⟩ := vA_el g; exact r_aast C hh hS hk ht1 ht2 hv hj1 hj2 hdg (fun H1 locs1 hh1 hS1 => hnx _ _ _ _ _ hnc g2 H1 locs1 ls hh1 hS1 hl)
  | arraylength => obtain rfl : 1 = len := Nat.eq_of_beq_eq_true hlen; obtain ⟨a, S', rfl, hk, h⟩ := pA_el h; exact r_alen C hh hk hdg (hnx _ _ _ _ _ hnc h H locs ls hh hS hl)
  | new i => obtain rfl : 3 = len := Nat.eq_of_beq_eq_true hlen; obtain ⟨⟨h1, h2⟩, h⟩ := h; exact r_new C hh hS hAz (con_mem hok) (by rw [hRc]; exact h1) (by rw [hRs]; exact h2) hdg (fun H1 hh1 hS1 => hnx _ _ _ _ _ ⟨h1, h2⟩ h H1 locs ls hh1 hS1 hl)
  | newarray t => obtain rfl : 2 = len := Nat.eq_of_beq_eq_true hlen; obtain ⟨i, S', rfl, n, ⟨rfl, hn⟩, ⟨h1, h2⟩, h⟩ := p1_el h; exact r_newa C hh hS hAz (of_decide_eq_true hok) hn (by rw [hRc]; exact h1) (by rw [hRs]; exact h2) hdg (fun H1 hh1 hS1 => hnx _ _ _ _ _ ⟨h1, h2⟩ h H1 locs ls hh1 hS1 hl)
  | anewarray i =>
    obtain rfl : 3 = len := Nat.eq_of_beq_eq_true hlen
    obtain ⟨x, S', rfl, n, ⟨rfl, hn⟩, ⟨h1, h2⟩, h⟩ := p1_el h
    obtain ⟨hq1, hq2⟩ := Bool.and_eq_true_iff.mp hok
    obtain ⟨hq2, hq3⟩ := of_decide_eq_true hq2
    exact r_newq C hh hS hAz (con_mem hq1) hq2 hq3 hn (by rw [hRc]; exact h1) (by rw [hRs]; exact h2) hdg (fun H1 hh1 hS1 => hnx _ _ _ _ _ ⟨h1, h2⟩ h H1 locs ls hh1 hS1 hl)
  | invokevirtual i =>
    obtain rfl : 3 = len := Nat.eq_of_beq_eq_true hlen
    unfold step at h; dsimp only at h
    obtain ⟨r, hr1, ⟨h1, h2, h3⟩, h⟩ := cll_el h
    obtain ⟨b, rest, hd1, hcat, hbk, hsp⟩ := pA_el h
    have hq : (ow, i, r1) ∈ IVT := con_mem hok
    rw [tak_drop hd1]
    exact r_callV C hh hS hAz hl.1 hq (hev _ _ hr1) h1 hR (by rw [hRc]; exact h2) (by rw [hRs]; exact h3) (tak_len2 hd1) hcat (ivt_c _ hq) hbk hsp hdg (fun r w' H1 locs1 hp hh1 hS1 => hnx _ _ _ _ _ ⟨h2, h3⟩ hp H1 locs1 ls hh1 hS1 hl)
  | invokestatic i =>
    obtain rfl : 3 = len := Nat.eq_of_beq_eq_true hlen
    unfold step at h; dsimp only at h
    obtain ⟨r, hr1, ⟨h1, h2, h3⟩, hcat, hle, hsp⟩ := cll_el h
    rw [tak_drop (S := S) (n := mtN.getD r1 0) rfl]
    exact r_callS C hh hS hAz hl.1 (con_mem hok) (hev _ _ hr1) h1 hR (by rw [hRc]; exact h2) (by rw [hRs]; exact h3) (tak_len hle) hcat hsp hdg (fun r w' H1 locs1 hp hh1 hS1 => hnx _ _ _ _ _ ⟨h2, h3⟩ hp H1 locs1 ls hh1 hS1 hl)
  | invokespecial i =>
    obtain rfl : 3 = len := Nat.eq_of_beq_eq_true hlen
    by_cases h2 : r2 = 2
    · subst h2
      obtain ⟨a, rest, rfl, hcat, h0, h⟩ := pA_el (show pA S _ from h)
      have hcat := Nat.le_of_ble_eq_true hcat
      exact W.objInit hx hb hown (hts _ (IOok _ (List.mem_map.mpr ⟨_, con_mem (show IOT.contains (ow, i) = true from hok), rfl⟩))) (hts _ (IOin _ (List.mem_of_getElem? (i := 0) rfl))) (hts _ (IOin _ (List.mem_of_getElem? (i := 1) rfl))) rfl (by rw [hml]; exact hl.1) rfl hdg (by omega) (by show 2 * 0 + _ + 12 ≤ _; omega) (hnx _ _ _ _ _ hnc h H locs ls hh hS hl)
    · have h' : step lv mc ms ev rt Po (pc, .invokespecial i, 3, r1, r2, v, ts) nx jp L S w nc ns := h
      unfold step at h'
      dsimp only at h'
      rw [if_neg h2] at h'
      obtain ⟨r, hr1, ⟨g1, g2, g3⟩, h⟩ := cll_el h'
      obtain ⟨b, rest, hd1, hcat, hsp⟩ := pA_el h
      have hok' : (if r2 = 1 then INT.contains (ow, i, r1) else IIT.contains (ow, i, r1)) = true := by
        have z : (if r2 = 2 then IOT.contains (ow, i) else if r2 = 1 then INT.contains (ow, i, r1) else IIT.contains (ow, i, r1)) = true := hok
        rw [if_neg h2] at z
        exact z
      rw [tak_drop hd1]
      by_cases h3 : r2 = 1
      · rw [if_pos h3] at hok'
        exact r_callN C hh hS hAz hl.1 (con_mem hok') (hev _ _ hr1) g1 hR (by rw [hRc]; exact g2) (by rw [hRs]; exact g3) (tak_len2 hd1) hcat hsp hdg (fun r w' H1 locs1 hp hh1 hS1 => hnx _ _ _ _ _ ⟨g2, g3⟩ hp H1 locs1 ls hh1 hS1 hl)
      · rw [if_neg h3] at hok'
        exact r_callI C hh hS hAz hl.1 (con_mem hok') (hev _ _ hr1) g1 hR (by rw [hRc]; exact g2) (by rw [hRs]; exact g3) (tak_len2 hd1) hcat hsp hdg (fun r w' H1 locs1 hp hh1 hS1 => hnx _ _ _ _ _ ⟨g2, g3⟩ hp H1 locs1 ls hh1 hS1 hl)
  | ireturn =>
    obtain rfl : 1 = len := Nat.eq_of_beq_eq_true hlen
    match S, h with
    | [.int x], h =>
      refine W_mono hQ (W.widen hnc.1 hnc.2 ?_)
      match rt, hr, h with
      | some .boolean, hr, h => exact W.zret hx hb hr (by rcases h.1 with rfl | rfl <;> rfl) (fun t ht hW => ⟨⟨_, w, rfl, h.2, by rw [ht]; exact hh⟩, hS.F ht⟩) hS.2.2 hdg
      | some .int, hr, h => exact W.iret hx hb hr (fun t ht hW => ⟨⟨_, w, rfl, h, by rw [ht]; exact hh⟩, hS.F ht⟩) hS.2.2 hdg
  | lreturn =>
    obtain rfl : 1 = len := Nat.eq_of_beq_eq_true hlen
    match S, h with
    | [.long x], h =>
      refine W_mono hQ (W.widen hnc.1 hnc.2 ?_)
      match rt, hr, h with
      | some .long, hr, h => exact W.lret hx hb hr (fun t ht hW => ⟨⟨_, w, rfl, h, by rw [ht]; exact hh⟩, hS.F ht⟩) hS.2.2 hdg
  | areturn =>
    obtain rfl : 1 = len := Nat.eq_of_beq_eq_true hlen
    match S, h with
    | [x], h =>
      refine W_mono hQ (W.widen hnc.1 hnc.2 ?_)
      match rt, hr, h with
      | some (.object n), hr, ⟨o, hv, h⟩ => exact W.aret hx hb hr (Or.inl ⟨n, rfl⟩) (by rw [hv]; cases o with | none => exact Or.inl rfl | some z => exact Or.inr ⟨z, rfl⟩) (fun t ht hW => ⟨⟨_, w, rfl, h, by rw [ht]; exact hh⟩, hS.F ht⟩) hS.2.2 hdg
  | return_ =>
    obtain rfl : 1 = len := Nat.eq_of_beq_eq_true hlen
    match S, h with
    | [], h =>
      refine W_mono hQ (W.widen hnc.1 hnc.2 ?_)
      match rt, hr, h with
      | none, hr, h => exact W.vret hx hb hr (fun t ht hW => ⟨⟨_, w, rfl, h, by rw [ht]; exact hh⟩, hS.F ht⟩) hS.2.2 hdg
  | _ => exact False.elim h
end STEPQ
section RUNQ
variable {p : Program} {l : Launch} {e : Env} {s : State} {m : MethodId} {args : Array Value} {below : List Frame} {meth : Method} {c : Code}
variable {cc : ByteArray} {nL ow : Nat} {G : GG} {rt : Option FieldType} {A : Nat → Prop} {lv mc ms : Nat} {ev : Ev} {Po : Option Value → Hp → Prop} {R : Room} {Q : State → Prop}
theorem wp_okQ (hQ : ∀ t, MQ below (Pst G A Po) args s mc ms A t → Q t) (C : Cx p s m args meth c cc nL ow G rt) (hA : ∀ q, s.heap.size ≤ q → A q) (hR : lv ≤ R.frames ∧ 40 * lv ≤ R.locals) (hRc : R.cells = mc) (hRs : R.slots = ms) {ini : Bool} (hini : ini = true → meth.name = "<init>") (hev : ∀ k r, ev k = some r → Ct l k r.1 r.2.1 r.2.2.1 r.2.2.2) {full : List CI} {bad : List Nat} (hfull : (∀ q ∈ full, bad.contains q.1 = false → ciOK cc ow nL ini q) ∧ chn full = true) {stops : List Nat} (hbs : ∀ b, bad.contains b = true → stops.contains b = true) {K : Nat → Kt}
    (hK : ∀ pc L S w nc ns, nc ≤ mc ∧ ns ≤ ms → K pc L S w nc ns → Sf p l e R s m args below meth c Q G A nL pc L S w nc ns) :
    ∀ (n : Nat) (q : CI) (t : List CI) (L : Ls) (S : List Value) (w : Hp) (nc ns : Nat), (q :: t) <:+ full → bad.contains q.1 = false → nc ≤ mc ∧ ns ≤ ms → wp lv mc ms ev rt Po full stops K n (q :: t) L S w nc ns → Sf p l e R s m args below meth c Q G A nL q.1 L S w nc ns := by
  intro n
  induction n with
  | zero => intro q t L S w nc ns _ _ _ h; exact False.elim h
  | succ n ih =>
    intro q t L S w nc ns hsuf hbad hn h
    have hq : ciOK cc ow nL ini q := hfull.1 q (hsuf.subset List.mem_cons_self) hbad
    have hgate : ∀ (cd : List CI) (pc : Nat), cd <:+ full → (∀ q' t', cd = q' :: t' → q'.1 = pc) → ∀ L S w nc ns, nc ≤ mc ∧ ns ≤ ms → gate stops K (wp lv mc ms ev rt Po full stops K n) cd L S w nc ns → Sf p l e R s m args below meth c Q G A nL pc L S w nc ns := by
      intro cd pc hcd hpc L S w nc ns hn hg
      cases cd with
      | nil => exact False.elim hg
      | cons q' t' =>
        have e1 := hpc q' t' rfl
        unfold gate at hg
        dsimp only at hg
        cases hs : stops.contains q'.1 with
        | true =>
          rw [hs, cond_true] at hg
          rw [e1] at hg
          exact hK _ _ _ _ _ _ hn hg
        | false =>
          rw [hs, cond_false] at hg
          rw [← e1]
          refine ih q' t' L S w nc ns hcd ?_ hn hg
          cases hb : bad.contains q'.1 with
          | false => rfl
          | true => rw [hbs _ hb] at hs; cases hs
    have hseq : ∀ q' t', t = q' :: t' → q'.1 = q.1 + q.2.2.1 := by
      intro q' t' et
      have hc := chn_suf hsuf hfull.2
      rw [et] at hc
      exact (Nat.eq_of_beq_eq_true (Bool.and_eq_true_iff.mp hc).1).symm
    have htl : t <:+ full := List.IsSuffix.trans (List.suffix_cons q t) hsuf
    exact step_okQ hQ C hA hR hRc hRs hini hev q hq (fun L S w nc ns hn h => hgate t _ htl hseq L S w nc ns hn h) (fun pc L S w nc ns hn h => hgate _ pc seek_suf (fun q' t' h => seek_pc h) L S w nc ns hn h) hn h
end RUNQ
