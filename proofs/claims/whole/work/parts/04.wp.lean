/-! THE CALCULUS: what must hold at an instruction, so that what must hold behind it does; calls by contract -/
abbrev CI : Type := Nat × Instr × Nat × Nat × Nat × Int32 × List Nat
abbrev Ls : Type := List (Nat × Value)
abbrev Kt : Type := Ls → List Value → Hp → Nat → Nat → Prop
abbrev Sp : Type := List Value → Hp → (Option Value → Hp → Prop) → Prop
abbrev Ev : Type := Nat → Option (Nat × Nat × Nat × Sp)
def lk : Ls → Nat → Option Value
  | [], _ => none
  | q :: t, k => bif Nat.beq q.1 k then some q.2 else lk t k
def st1 (L : Ls) (i : Nat) (v : Value) : Ls := (i, v) :: L.filter (fun q => !(q.1 == i) && !(q.1 + 1 == i && q.2.category == 2))
def st2 (L : Ls) (i : Nat) (v : Value) : Ls := (i, v) :: L.filter (fun q => !(q.1 == i) && (!(q.1 == i + 1) && !(q.1 + 1 == i && q.2.category == 2)))
def k1 (L : Ls) (k : Nat) (f : Int32 → Prop) : Prop := match lk L k with
  | some (.int x) => f x
  | _ => False
def kJ (L : Ls) (k : Nat) (f : Int64 → Prop) : Prop := match lk L k with
  | some (.long x) => f x
  | _ => False
def kR (L : Ls) (k : Nat) (f : Value → Prop) : Prop := match lk L k with
  | some (.ref x) => f (.ref x)
  | some .null => f .null
  | _ => False
def p1 (S : List Value) (f : Int32 → List Value → Prop) : Prop := match S with
  | .int x :: S' => f x S'
  | _ => False
def p2 (S : List Value) (f : Int32 → Int32 → List Value → Prop) : Prop := match S with
  | .int y :: .int x :: S' => f x y S'
  | _ => False
def pJ (S : List Value) (f : Int64 → List Value → Prop) : Prop := match S with
  | .long x :: S' => f x S'
  | _ => False
def pJ2 (S : List Value) (f : Int64 → Int64 → List Value → Prop) : Prop := match S with
  | .long y :: .long x :: S' => f x y S'
  | _ => False
def pR (S : List Value) (f : Value → List Value → Prop) : Prop := match S with
  | .ref x :: S' => f (.ref x) S'
  | .null :: S' => f .null S'
  | _ => False
def pA (S : List Value) (f : Nat → List Value → Prop) : Prop := match S with
  | .ref x :: S' => f x S'
  | _ => False
def pIx (S : List Value) (f : Int32 → Nat → List Value → Prop) : Prop := match S with
  | .int i :: .ref a :: S' => f i a S'
  | _ => False
def pVA (S : List Value) (f : Value → Nat → List Value → Prop) : Prop := match S with
  | v :: .ref a :: S' => f v a S'
  | _ => False
def pIs (S : List Value) (f : Value → Int32 → Nat → List Value → Prop) : Prop := match S with
  | v :: .int i :: .ref a :: S' => f v i a S'
  | _ => False
def vI (v : Value) (f : Int32 → Prop) : Prop := match v with
  | .int x => f x
  | _ => False
def vJ (v : Value) (f : Int64 → Prop) : Prop := match v with
  | .long x => f x
  | _ => False
def vA (v : Value) (f : Nat → Prop) : Prop := match v with
  | .ref x => f x
  | _ => False
/-- the place j of a row of n is meant by i -/
def ixO (i : Int32) (n j : Nat) : Prop := i = nI j ∧ j < n ∧ j < 2147483648
def catB (S : List Value) : Bool := Nat.ble ((S.map (fun v => v.category)).sum) 8
def cll (lv mc ms : Nat) (ev : Ev) (k nc ns : Nat) (f : Sp → Nat → Nat → Prop) : Prop := match ev k with
  | none => False
  | some r => (r.1 < lv ∧ nc + r.2.1 ≤ mc ∧ ns + r.2.2.1 ≤ ms) ∧ f r.2.2.2 (nc + r.2.1) (ns + r.2.2.1)
def cc6 (c : ClassFile.Cond) (x y : Int32) (t f : Prop) : Prop := match c with
  | .eq => (x = y → t) ∧ (¬ x = y → f)
  | .ne => (¬ x = y → t) ∧ (x = y → f)
  | .lt => (x < y → t) ∧ (¬ x < y → f)
  | .ge => (y ≤ x → t) ∧ (¬ y ≤ x → f)
  | .gt => (y < x → t) ∧ (¬ y < x → f)
  | .le => (x ≤ y → t) ∧ (¬ x ≤ y → f)
/-- a table: behind the places before j -/
def tsw (x : Int32) (lo : Int) (f : Nat → Prop) : List Nat → Prop
  | [] => True
  | t :: ts => (x.toInt = lo → f t) ∧ tsw x (lo + 1) f ts
/-- a table by keys -/
def lsw (x : Int32) (f : Nat → Prop) (d : Prop) : List (Int × Int) → List Nat → Prop
  | q :: ps, t :: ts => (x.toInt = q.1 → f t) ∧ (¬ x.toInt = q.1 → lsw x f d ps ts)
  | _, _ => d
def step (lv mc ms : Nat) (ev : Ev) (rt : Option FieldType) (Po : Option Value → Hp → Prop) (q : CI) (nx : Kt) (jp : Nat → Kt) : Kt := match q with | (_, ins, _, r1, r2, cv, ts) => fun L S w nc ns => match ins with
  | .aconst_null => nx L (.null :: S) w nc ns
  | .iconst _ => nx L (.int cv :: S) w nc ns
  | .bipush _ => nx L (.int cv :: S) w nc ns
  | .sipush _ => nx L (.int cv :: S) w nc ns
  | .ldc _ => nx L (.int cv :: S) w nc ns
  | .ldc_w _ => nx L (.int cv :: S) w nc ns
  | .ldc2_w _ => nx L (.long cv.toInt64 :: S) w nc ns
  | .lconst n => nx L (.long (Int64.ofNat n.val) :: S) w nc ns
  | .iload_n k => k1 L k.val fun x => nx L (.int x :: S) w nc ns
  | .iload k => k1 L k fun x => nx L (.int x :: S) w nc ns
  | .lload_n k => kJ L k.val fun x => nx L (.long x :: S) w nc ns
  | .lload k => kJ L k fun x => nx L (.long x :: S) w nc ns
  | .aload_n k => kR L k.val fun x => nx L (x :: S) w nc ns
  | .aload k => kR L k fun x => nx L (x :: S) w nc ns
  | .istore_n k => p1 S fun x S' => nx (st1 L k.val (.int x)) S' w nc ns
  | .istore k => p1 S fun x S' => nx (st1 L k (.int x)) S' w nc ns
  | .lstore_n k => pJ S fun x S' => nx (st2 L k.val (.long x)) S' w nc ns
  | .lstore k => pJ S fun x S' => nx (st2 L k (.long x)) S' w nc ns
  | .astore_n k => pR S fun x S' => nx (st1 L k.val x) S' w nc ns
  | .astore k => pR S fun x S' => nx (st1 L k x) S' w nc ns
  | .iinc k _ => k1 L k fun x => nx (st1 L k (.int (x + cv))) S w nc ns
  | .iadd => p2 S fun x y S' => nx L (.int (x + y) :: S') w nc ns
  | .isub => p2 S fun x y S' => nx L (.int (x - y) :: S') w nc ns
  | .imul => p2 S fun x y S' => nx L (.int (x * y) :: S') w nc ns
  | .iand => p2 S fun x y S' => nx L (.int (x &&& y) :: S') w nc ns
  | .ior => p2 S fun x y S' => nx L (.int (x ||| y) :: S') w nc ns
  | .ixor => p2 S fun x y S' => nx L (.int (x ^^^ y) :: S') w nc ns
  | .ishl => p2 S fun x y S' => nx L (.int (x <<< (y &&& 31)) :: S') w nc ns
  | .ishr => p2 S fun x y S' => nx L (.int (x >>> (y &&& 31)) :: S') w nc ns
  | .iushr => p2 S fun x y S' => nx L (.int ((x.toUInt32 >>> (y.toUInt32 &&& Int32.toUInt32 31)).toInt32) :: S') w nc ns
  | .irem => p2 S fun x y S' => ¬ y = 0 ∧ nx L (.int (x - x / y * y) :: S') w nc ns
  | .ineg => p1 S fun x S' => nx L (.int (-x) :: S') w nc ns
  | .ladd => pJ2 S fun x y S' => nx L (.long (x + y) :: S') w nc ns
  | .lsub => pJ2 S fun x y S' => nx L (.long (x - y) :: S') w nc ns
  | .lmul => pJ2 S fun x y S' => nx L (.long (x * y) :: S') w nc ns
  | .lcmp => pJ2 S fun x y S' => nx L (.int (lg_cmp x y) :: S') w nc ns
  | .i2l => p1 S fun x S' => nx L (.long x.toInt64 :: S') w nc ns
  | .dup => (match S with
    | .int x :: S' => nx L (.int x :: .int x :: S') w nc ns
    | .ref x :: S' => nx L (.ref x :: .ref x :: S') w nc ns
    | .null :: S' => nx L (.null :: .null :: S') w nc ns
    | _ => False)
  | .dup2 => pIx S fun i a S' => nx L (.int i :: .ref a :: .int i :: .ref a :: S') w nc ns
  | .ifCond c _ => p1 S fun x S' => cc6 c x 0 (jp r1 L S' w nc ns) (nx L S' w nc ns)
  | .if_icmp c _ => p2 S fun x y S' => cc6 c x y (jp r1 L S' w nc ns) (nx L S' w nc ns)
  | .ifnull _ => (match S with
    | .ref _ :: S' => nx L S' w nc ns
    | .null :: S' => jp r1 L S' w nc ns
    | _ => False)
  | .ifnonnull _ => (match S with
    | .ref _ :: S' => jp r1 L S' w nc ns
    | .null :: S' => nx L S' w nc ns
    | _ => False)
  | .goto _ => jp r1 L S w nc ns
  | .tableswitch _ lo hi _ => p1 S fun x S' => (x.toInt < lo ∨ hi < x.toInt → jp r1 L S' w nc ns) ∧ tsw x lo (fun t => jp t L S' w nc ns) ts
  | .lookupswitch _ ps => p1 S fun x S' => lsw x (fun t => jp t L S' w nc ns) (jp r1 L S' w nc ns) ps.toList ts
  | .getfield _ => pA S fun a S' => gK w a = some r1 ∧ (bif isRf r1 r2 then ∃ o, gR w r1 r2 a = o ∧ nx L (va_rf o :: S') w nc ns else ∃ x, gI w r1 r2 a = x ∧ nx L (.int x :: S') w nc ns)
  | .putfield _ => pVA S fun v a S' => gK w a = some r1 ∧ (bif isRf r1 r2 then ∃ o, v = va_rf o ∧ nx L S' (sR w r1 r2 a o) nc ns else vI v fun x => (match clTy r1 r2 with
    | .boolean => (x = 0 ∨ x = 1) ∧ nx L S' (sI w r1 r2 a x) nc ns
    | .int => nx L S' (sI w r1 r2 a x) nc ns
    | _ => False))
  | .iaload => pIx S fun i a S' => gK w a = some 20 ∧ ∃ j x, ixO i (gN w a) j ∧ gA w a j = x ∧ nx L (.int x :: S') w nc ns
  | .baload => pIx S fun i a S' => gK w a = some 21 ∧ ∃ j x, ixO i (gN w a) j ∧ gA w a j = x ∧ nx L (.int x :: S') w nc ns
  | .laload => pIx S fun i a S' => gK w a = some 22 ∧ ∃ j x, ixO i (gN w a) j ∧ gJ w a j = x ∧ nx L (.long x :: S') w nc ns
  | .aaload => pIx S fun i a S' => ∃ t, (gK w a = some t ∧ 23 ≤ t ∧ t < 27) ∧ ∃ j, ixO i (gN w a) j ∧ ∃ o, gQ w a j = o ∧ nx L (va_rf o :: S') w nc ns
  | .iastore => pIs S fun v i a S' => vI v fun x => gK w a = some 20 ∧ ∃ j, ixO i (gN w a) j ∧ nx L S' (sA w a j x) nc ns
  | .bastore => pIs S fun v i a S' => vI v fun x => gK w a = some 21 ∧ (x = 0 ∨ x = 1) ∧ ∃ j, ixO i (gN w a) j ∧ nx L S' (sA w a j x) nc ns
  | .lastore => pIs S fun v i a S' => vJ v fun x => gK w a = some 22 ∧ ∃ j, ixO i (gN w a) j ∧ nx L S' (sJ w a j x) nc ns
  | .aastore => pIs S fun v i a S' => vA v fun x => ∃ t, (gK w a = some t ∧ 23 ≤ t ∧ t < 27 ∧ gK w x = some (rwC.getD (t - 23) 0)) ∧ ∃ j, ixO i (gN w a) j ∧ nx L S' (sQ w a j (some x)) nc ns
  | .arraylength => pA S fun a S' => gK w a = some 20 ∧ nx L (.int (nI (gN w a)) :: S') w nc ns
  | .new _ => (nc + 1 ≤ mc ∧ ns + clN r1 ≤ ms) ∧ nx L (.ref (gZ w) :: S) (sNew w r1) (nc + 1) (ns + clN r1)
  | .newarray _ => p1 S fun i S' => ∃ n, (i = nI n ∧ n < 65536) ∧ (nc + 1 ≤ mc ∧ ns + n ≤ ms) ∧ nx L (.ref (gZ w) :: S') (sArr w (20 + r1) n) (nc + 1) (ns + n)
  | .anewarray _ => p1 S fun i S' => ∃ n, (i = nI n ∧ n < 65536) ∧ (nc + 1 ≤ mc ∧ ns + n ≤ ms) ∧ nx L (.ref (gZ w) :: S') (sArr w r1 n) (nc + 1) (ns + n)
  | .invokevirtual _ => cll lv mc ms ev r1 nc ns fun sp c' s' => pA (S.drop (mtN.getD r1 0)) fun b rest => catB rest = true ∧ gK w b = some (mtC.getD r1 0) ∧ sp (.ref b :: (S.take (mtN.getD r1 0)).reverse) w (fun r w' => nx L (r.toList ++ rest) w' c' s')
  | .invokestatic _ => cll lv mc ms ev r1 nc ns fun sp c' s' => catB (S.drop (mtN.getD r1 0)) = true ∧ mtN.getD r1 0 ≤ S.length ∧ sp (S.take (mtN.getD r1 0)).reverse w (fun r w' => nx L (r.toList ++ S.drop (mtN.getD r1 0)) w' c' s')
  | .invokespecial _ => if r2 = 2 then pA S fun _ rest => catB rest = true ∧ 0 < lv ∧ nx L rest w nc ns else cll lv mc ms ev r1 nc ns fun sp c' s' => pA (S.drop (mtN.getD r1 0)) fun b rest => catB rest = true ∧ sp (.ref b :: (S.take (mtN.getD r1 0)).reverse) w (fun r w' => nx L (r.toList ++ rest) w' c' s')
  | .ireturn => (match S with
    | [.int x] => (match rt with
      | some .boolean => (x = 0 ∨ x = 1) ∧ Po (some (.int x)) w
      | some .int => Po (some (.int x)) w
      | _ => False)
    | _ => False)
  | .lreturn => (match S with
    | [.long x] => (match rt with
      | some .long => Po (some (.long x)) w
      | _ => False)
    | _ => False)
  | .areturn => (match S with
    | [v] => (match rt with
      | some (.object _) => ∃ o, v = va_rf o ∧ Po (some v) w
      | _ => False)
    | _ => False)
  | .return_ => (match S with
    | [] => (match rt with
      | none => Po none w
      | _ => False)
    | _ => False)
  | _ => False
/-- how long an instruction is -/
def il : Instr → Nat
  | .bipush _ | .ldc _ | .iload _ | .lload _ | .aload _ | .istore _ | .lstore _ | .astore _ | .newarray _ => 2
  | .sipush _ | .ldc_w _ | .ldc2_w _ | .iinc _ _ | .ifCond _ _ | .if_icmp _ _ | .ifnull _ | .ifnonnull _ | .goto _ | .getfield _ | .putfield _ | .new _ | .anewarray _ | .invokevirtual _ | .invokestatic _ | .invokespecial _ => 3
  | _ => 1
def lkOK (ow nL : Nat) (ini : Bool) (q : CI) : Bool := match q.2.1 with
  | .iconst n => decide (Int32.ofInt n = q.2.2.2.2.2.1)
  | .bipush n => decide ((Int8.ofInt n).toInt32 = q.2.2.2.2.2.1)
  | .sipush n => decide ((Int16.ofInt n).toInt32 = q.2.2.2.2.2.1)
  | .ldc i => CKT.contains (ow, i, q.2.2.2.2.2.1)
  | .ldc_w i => CKT.contains (ow, i, q.2.2.2.2.2.1)
  | .ldc2_w i => CJT.contains (ow, i, q.2.2.2.2.2.1.toInt64)
  | .istore_n k => decide (k.val < nL)
  | .istore k => decide (k < nL)
  | .lstore_n k => decide (k.val + 1 < nL)
  | .lstore k => decide (k + 1 < nL)
  | .astore_n k => decide (k.val < nL)
  | .astore k => decide (k < nL)
  | .iinc k n => decide (k < nL) && decide (Int32.ofInt n = q.2.2.2.2.2.1)
  | .ifCond _ off => decide ((q.1 : Int) + off = (q.2.2.2.1 : Int))
  | .if_icmp _ off => decide ((q.1 : Int) + off = (q.2.2.2.1 : Int))
  | .ifnull off => decide ((q.1 : Int) + off = (q.2.2.2.1 : Int))
  | .ifnonnull off => decide ((q.1 : Int) + off = (q.2.2.2.1 : Int))
  | .goto off => decide ((q.1 : Int) + off = (q.2.2.2.1 : Int))
  | .tableswitch d lo hi offs => decide ((q.1 : Int) + d = (q.2.2.2.1 : Int)) && decide (offs.toList.map (fun o => (q.1 : Int) + o) = q.2.2.2.2.2.2.map Int.ofNat) && decide (lo + offs.size = hi + 1)
  | .lookupswitch d ps => decide ((q.1 : Int) + d = (q.2.2.2.1 : Int)) && decide (ps.toList.map (fun o => (q.1 : Int) + o.2) = q.2.2.2.2.2.2.map Int.ofNat) && (ps.toList.zip (ps.toList.drop 1)).all (fun (a, next) => a.1 < next.1)
  | .getfield i => FLT.contains (ow, i, q.2.2.2.1, q.2.2.2.2.1)
  | .putfield i => FLT.contains (ow, i, q.2.2.2.1, q.2.2.2.2.1) && (!(isFin q.2.2.2.1 q.2.2.2.2.1) || (ini && decide (ow = q.2.2.2.1)))
  | .new i => NWT.contains (ow, i, q.2.2.2.1)
  | .newarray t => decide ((t = .int ∧ q.2.2.2.1 = 0) ∨ (t = .boolean ∧ q.2.2.2.1 = 1) ∨ (t = .long ∧ q.2.2.2.1 = 2))
  | .anewarray i => NWT.contains (ow, i, rwC.getD (q.2.2.2.1 - 23) 0) && decide (23 ≤ q.2.2.2.1 ∧ q.2.2.2.1 < 27)
  | .invokevirtual i => IVT.contains (ow, i, q.2.2.2.1)
  | .invokestatic i => IST.contains (ow, i, q.2.2.2.1)
  | .invokespecial i => if q.2.2.2.2.1 = 2 then IOT.contains (ow, i) else if q.2.2.2.2.1 = 1 then INT.contains (ow, i, q.2.2.2.1) else IIT.contains (ow, i, q.2.2.2.1)
  | _ => true
def isSw : Instr → Bool
  | .tableswitch _ _ _ _ => true
  | .lookupswitch _ _ => true
  | _ => false
/-- a row of a method's code list -/
def ciOK (cc : ByteArray) (ow nL : Nat) (ini : Bool) (q : CI) : Prop := decode cc q.1 = .ok (q.2.1, q.2.2.1) ∧ (isSw q.2.1 || Nat.beq (il q.2.1) q.2.2.1) = true ∧ lkOK ow nL ini q = true
def chn : List CI → Bool
  | [] => true
  | [_] => true
  | q :: r :: t => Nat.beq (q.1 + q.2.2.1) r.1 && chn (r :: t)
def seek : List CI → Nat → List CI
  | [], _ => []
  | q :: t, pc => bif Nat.beq q.1 pc then q :: t else seek t pc
/-- at the head of the rows cd: a stop, or on -/
def gate (stops : List Nat) (K : Nat → Kt) (go : List CI → Kt) (cd : List CI) : Kt := fun L S w nc ns => match cd with
  | [] => False
  | q :: t => bif stops.contains q.1 then K q.1 L S w nc ns else go (q :: t) L S w nc ns
def wp (lv mc ms : Nat) (ev : Ev) (rt : Option FieldType) (Po : Option Value → Hp → Prop) (full : List CI) (stops : List Nat) (K : Nat → Kt) : Nat → List CI → Kt
  | 0, _ => fun _ _ _ _ _ => False
  | n + 1, cd => fun L S w nc ns => match cd with
    | [] => False
    | q :: t => step lv mc ms ev rt Po q (gate stops K (wp lv mc ms ev rt Po full stops K n) t) (fun pc => gate stops K (wp lv mc ms ev rt Po full stops K n) (seek full pc)) L S w nc ns
