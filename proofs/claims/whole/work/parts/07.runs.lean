/-! A RUN of instructions, and a method's contract -/
/-- a method's code list: every row is an instruction of its bytes, rows follow each other -/
def cdOK (cc : ByteArray) (ow nL : Nat) (ini : Bool) (full : List CI) : Prop := (∀ q ∈ full, ciOK cc ow nL ini q) ∧ chn full = true
theorem seek_suf : ∀ {full : List CI} {pc : Nat}, seek full pc <:+ full
  | [], _ => List.suffix_refl _
  | q :: t, pc => by
    unfold seek
    cases Nat.beq q.1 pc with
    | true => exact List.suffix_refl _
    | false => exact List.IsSuffix.trans seek_suf (List.suffix_cons q t)
theorem seek_pc : ∀ {full : List CI} {pc : Nat} {q : CI} {t : List CI}, seek full pc = q :: t → q.1 = pc
  | [], _, _, _, h => by cases h
  | q :: t, pc, q', t', h => by
    unfold seek at h
    cases hq : Nat.beq q.1 pc with
    | true =>
      rw [hq, cond_true] at h
      have e1 : q = q' := (List.cons.inj h).1
      rw [← e1]
      exact Nat.eq_of_beq_eq_true hq
    | false =>
      rw [hq, cond_false] at h
      exact seek_pc h
theorem chn_suf : ∀ {full cd : List CI}, cd <:+ full → chn full = true → chn cd = true
  | [], cd, h, _ => by rw [List.suffix_nil.mp h]; rfl
  | q :: t, cd, h, hc => by
    rcases List.suffix_cons_iff.mp h with rfl | h2
    · exact hc
    · refine chn_suf h2 ?_
      cases t with
      | nil => rfl
      | cons r t => exact (Bool.and_eq_true_iff.mp hc).2
section RUNS
variable {p : Program} {l : Launch} {e : Env} {s : State} {m : MethodId} {args : Array Value} {below : List Frame} {meth : Method} {c : Code}
variable {cc : ByteArray} {nL ow : Nat} {G : GG} {rt : Option FieldType} {A : Nat → Prop} {lv mc ms : Nat} {ev : Ev} {Po : Option Value → Hp → Prop} {R : Room}
theorem wp_ok (C : Cx p s m args meth c cc nL ow G rt) (hA : ∀ q, s.heap.size ≤ q → A q) (hR : lv ≤ R.frames ∧ 40 * lv ≤ R.locals) (hRc : R.cells = mc) (hRs : R.slots = ms) {ini : Bool} (hini : ini = true → meth.name = "<init>") (hev : ∀ k r, ev k = some r → Ct l k r.1 r.2.1 r.2.2.1 r.2.2.2) {full : List CI} (hfull : cdOK cc ow nL ini full) {stops : List Nat} {K : Nat → Kt}
    (hK : ∀ pc L S w nc ns, nc ≤ mc ∧ ns ≤ ms → K pc L S w nc ns → Sf p l e R s m args below meth c (MQ below (Pst G A Po) args s mc ms A) G A nL pc L S w nc ns) :
    ∀ (n : Nat) (q : CI) (t : List CI) (L : Ls) (S : List Value) (w : Hp) (nc ns : Nat), (q :: t) <:+ full → nc ≤ mc ∧ ns ≤ ms → wp lv mc ms ev rt Po full stops K n (q :: t) L S w nc ns → Sf p l e R s m args below meth c (MQ below (Pst G A Po) args s mc ms A) G A nL q.1 L S w nc ns := by
  intro n
  induction n with
  | zero => intro q t L S w nc ns _ _ h; exact False.elim h
  | succ n ih =>
    intro q t L S w nc ns hsuf hn h
    have hq : ciOK cc ow nL ini q := hfull.1 q (hsuf.subset List.mem_cons_self)
    have hgate : ∀ (cd : List CI) (pc : Nat), cd <:+ full → (∀ q' t', cd = q' :: t' → q'.1 = pc) → ∀ L S w nc ns, nc ≤ mc ∧ ns ≤ ms → gate stops K (wp lv mc ms ev rt Po full stops K n) cd L S w nc ns → Sf p l e R s m args below meth c (MQ below (Pst G A Po) args s mc ms A) G A nL pc L S w nc ns := by
      intro cd pc hcd hpc L S w nc ns hn hg
      cases cd with
      | nil => exact False.elim hg
      | cons q' t' =>
        have e1 := hpc q' t' rfl
        unfold gate at hg
        dsimp only at hg
        cases hs : stops.contains q'.1 with
        | true =>
          rw [hs, cond_true] at hg
          rw [e1] at hg
          exact hK _ _ _ _ _ _ hn hg
        | false =>
          rw [hs, cond_false] at hg
          rw [← e1]
          exact ih q' t' L S w nc ns hcd hn hg
    have hseq : ∀ q' t', t = q' :: t' → q'.1 = q.1 + q.2.2.1 := by
      intro q' t' et
      have hc := chn_suf hsuf hfull.2
      rw [et] at hc
      exact (Nat.eq_of_beq_eq_true (Bool.and_eq_true_iff.mp hc).1).symm
    have htl : t <:+ full := List.IsSuffix.trans (List.suffix_cons q t) hsuf
    exact step_ok C hA hR hRc hRs hini hev q hq (fun L S w nc ns hn h => hgate t _ htl hseq L S w nc ns hn h) (fun pc L S w nc ns hn h => hgate _ pc seek_suf (fun q' t' h => seek_pc h) L S w nc ns hn h) hn h
end RUNS
