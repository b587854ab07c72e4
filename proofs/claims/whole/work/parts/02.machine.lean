/-! ===== the abstract machine: cells by their places, their shapes apart from their numbers ===== -/
/-- a cell's shape: 0: an object (class, fields: an int stands for a number of the memory); 1, 2, 3: an array of int, long, boolean (length); 4, 5: of Row, of Figure (length, cells) -/
abbrev am_Sh : Type := Nat × Nat × List Value
/-- shapes; numbers by place and index -/
abbrev am_Sg : Type := List am_Sh × (Nat → Nat → Int32) × (Nat → Nat → Int64)
/-- an instruction: itself, its length, two numbers of what it links, the place of its word in the tables, a constant -/
abbrev am_En : Type := Instr × Nat × Nat × Nat × Nat × Int
abbrev am_Lc : Type := List (Option Value)
abbrev am_Cf : Type := Nat × am_Lc × List Value × am_Sg
/-- arrays that nobody writes -/
abbrev am_Ro : Type := Nat → Nat × (Nat → Int32)
/-- a method: name, bytes, locals, return type, code -/
abbrev am_Mr : Type := MethodName × ByteArray × Nat × Option FieldType × List (Option am_En)
def am_rB : Nat := 1000000
def am_in (i : Int32) (n : Nat) : Bool := !(decide (i < 0) || decide (n ≤ i.toNatClampNeg))
def am_sl1 (sh : am_Sh) : Nat := if sh.1 = 0 then sh.2.2.length else sh.2.1
def am_slots (S : List am_Sh) : Nat := (S.map am_sl1).sum
def am_get (σ : am_Sg) (ci k p : Nat) : Option Value :=
  match σ.1[p]? with
  | some (0, n, fs) => if n = ci then (match fs[k]? with
    | some (.int _) => some (.int (σ.2.1 p k))
    | some (.ref q) => some (.ref q)
    | _ => none) else none
  | _ => none
def am_fit (ty : FieldType) (x : Int32) : Bool := match ty with
  | .int => true
  | .boolean => x == 0 || x == 1
  | _ => false
def am_isR (ty : FieldType) : Bool := match ty with
  | .object _ => true
  | .array _ => true
  | _ => false
/-- a number into a field -/
def am_putI (σ : am_Sg) (p k : Nat) (x : Int32) : am_Sg := (σ.1, va_up σ.2.1 p (upd (σ.2.1 p) k x), σ.2.2)
def am_put (σ : am_Sg) (ty : FieldType) (ci k p : Nat) (v : Value) : Option am_Sg :=
  match σ.1[p]? with
  | some (0, n, fs) => if n = ci then (match fs[k]?, v with
    | some (.int _), .int x => if am_fit ty x then some (am_putI σ p k x) else none
    | some .null, .ref q => if am_isR ty then some (σ.1.set p (0, n, fs.set k (.ref q)), σ.2) else none
    | _, _ => none) else none
  | _ => none
def am_ild (ro : am_Ro) (σ : am_Sg) (p : Nat) (i : Int32) : Option Int32 :=
  if am_rB ≤ p then (if am_in i (ro (p - am_rB)).1 && decide (p - am_rB < 2) then some ((ro (p - am_rB)).2 i.toNatClampNeg) else none)
  else match σ.1[p]? with
  | some (1, n, _) => if am_in i n then some (σ.2.1 p i.toNatClampNeg) else none
  | _ => none
def am_zld (σ : am_Sg) (p : Nat) (i : Int32) : Option Int32 := match σ.1[p]? with
  | some (3, n, _) => if am_in i n then some (σ.2.1 p i.toNatClampNeg) else none
  | _ => none
def am_lld (σ : am_Sg) (p : Nat) (i : Int32) : Option Int64 := match σ.1[p]? with
  | some (2, n, _) => if am_in i n then some (σ.2.2 p i.toNatClampNeg) else none
  | _ => none
def am_ald (σ : am_Sg) (p : Nat) (i : Int32) : Option Nat := match σ.1[p]? with
  | some (4, n, fs) => if am_in i n then (match fs[i.toNatClampNeg]? with
    | some (.ref q) => some q
    | _ => none) else none
  | some (5, n, fs) => if am_in i n then (match fs[i.toNatClampNeg]? with
    | some (.ref q) => some q
    | _ => none) else none
  | _ => none
def am_ist (σ : am_Sg) (p : Nat) (i x : Int32) : Option am_Sg := match σ.1[p]? with
  | some (1, n, _) => if am_in i n then some (am_putI σ p i.toNatClampNeg x) else none
  | _ => none
def am_zst (σ : am_Sg) (p : Nat) (i x : Int32) : Option am_Sg := match σ.1[p]? with
  | some (3, n, _) => if am_in i n && (x == 0 || x == 1) then some (am_putI σ p i.toNatClampNeg x) else none
  | _ => none
def am_lst (σ : am_Sg) (p : Nat) (i : Int32) (x : Int64) : Option am_Sg := match σ.1[p]? with
  | some (2, n, _) => if am_in i n then some (σ.1, σ.2.1, va_up σ.2.2 p (vp_updL (σ.2.2 p) i.toNatClampNeg x)) else none
  | _ => none
/-- class number of the components of arrays 4, 5 -/
def am_cc (t : Nat) : Nat := if t = 4 then 7 else 3
def am_ast (σ : am_Sg) (p : Nat) (i : Int32) (q : Nat) : Option am_Sg := match σ.1[p]?, σ.1[q]? with
  | some (t, n, fs), some (0, c, _) => if (t = 4 ∨ t = 5) ∧ c = am_cc t ∧ am_in i n = true ∧ q < am_rB ∧ fs.length = n then some (σ.1.set p (t, n, fs.set i.toNatClampNeg (.ref q)), σ.2) else none
  | _, _ => none
def am_len (ro : am_Ro) (σ : am_Sg) (p : Nat) : Option Nat :=
  if am_rB ≤ p then (if p - am_rB < 2 then some (ro (p - am_rB)).1 else none)
  else match σ.1[p]? with
  | some (t, n, _) => if 1 ≤ t ∧ t ≤ 5 then some n else none
  | _ => none
def am_cpy (σ : am_Sg) (p0 : Nat) (sp : Int32) (p1 : Nat) (dp n : Int32) : Option am_Sg := match σ.1[p0]?, σ.1[p1]? with
  | some (1, n0, _), some (1, n1, _) => if ¬ sp < 0 ∧ ¬ dp < 0 ∧ ¬ n < 0 ∧ sp.toNatClampNeg + n.toNatClampNeg ≤ n0 ∧ dp.toNatClampNeg + n.toNatClampNeg ≤ n1 then
      some (σ.1, va_up σ.2.1 p1 (va_cpy (σ.2.1 p0) (σ.2.1 p1) sp.toNatClampNeg dp.toNatClampNeg n.toNatClampNeg), σ.2.2) else none
  | _, _ => none
/-- what a new object's fields are -/
def am_dv (ty : FieldType) : Value := match ty with
  | .int => .int 0
  | .boolean => .int 0
  | _ => .null
def am_dflt (q : vw_C) : List Value := (List.range q.2.2).map fun k => am_dv (kty q.2.1 k)
def am_new (σ : am_Sg) (ci : Nat) : Option am_Sg := match kcs[ci]? with
  | some q => if 1000 ≤ σ.1.length then none else some (σ.1 ++ [(0, ci, am_dflt q)], va_up σ.2.1 σ.1.length (fun _ => 0), σ.2.2)
  | none => none
def am_newa (σ : am_Sg) (a : ArrayType) (n : Int32) : Option am_Sg := if n < 0 ∨ 100000 < n.toNatClampNeg ∨ 1000 ≤ σ.1.length then none else match a with
  | .int => some (σ.1 ++ [(1, n.toNatClampNeg, [])], va_up σ.2.1 σ.1.length (fun _ => 0), σ.2.2)
  | .long => some (σ.1 ++ [(2, n.toNatClampNeg, [])], σ.2.1, va_up σ.2.2 σ.1.length (fun _ => 0))
  | .boolean => some (σ.1 ++ [(3, n.toNatClampNeg, [])], va_up σ.2.1 σ.1.length (fun _ => 0), σ.2.2)
  | _ => none
def am_newq (σ : am_Sg) (t : Nat) (n : Int32) : Option am_Sg := if n < 0 ∨ 100000 < n.toNatClampNeg ∨ 1000 ≤ σ.1.length ∨ ¬ (t = 4 ∨ t = 5) then none else
  some (σ.1 ++ [(t, n.toNatClampNeg, List.replicate n.toNatClampNeg .null)], σ.2)
/-! locals -/
def am_clr (ls : am_Lc) (i : Nat) : am_Lc := match i with
  | 0 => ls
  | j + 1 => (match ls[j]? with
    | some (some (.long _)) => ls.set j none
    | some (some (.double _)) => ls.set j none
    | _ => ls)
def am_st1 (ls : am_Lc) (i : Nat) (v : Value) : am_Lc := (am_clr ls i).set i (some v)
def am_st2 (ls : am_Lc) (i : Nat) (v : Value) : am_Lc := ((am_clr ls i).set i (some v)).set (i + 1) none
def am_entry (vs : List Value) (n : Nat) : am_Lc := (vs.flatMap fun v => if v.category = 2 then [some v, none] else [some v]) ++ List.replicate (n - (vs.flatMap fun v => if v.category = 2 then [some v, (none : Option Value)] else [some v]).length) none
/-! one instruction -/
def am_push (e : am_En) (c : am_Cf) (n : Nat) (v : Value) : Option am_Cf := if e.2.1 = n then some (c.1 + n, c.2.1, v :: c.2.2.1, c.2.2.2) else none
def am_ildv (e : am_En) (c : am_Cf) (n i : Nat) : Option am_Cf := match c.2.1[i]? with
  | some (some (.int x)) => am_push e c n (.int x)
  | _ => none
def am_lldv (e : am_En) (c : am_Cf) (n i : Nat) : Option am_Cf := match c.2.1[i]? with
  | some (some (.long x)) => am_push e c n (.long x)
  | _ => none
def am_aldv (e : am_En) (c : am_Cf) (n i : Nat) : Option am_Cf := match c.2.1[i]? with
  | some (some (.ref x)) => am_push e c n (.ref x)
  | _ => none
def am_istv (e : am_En) (c : am_Cf) (n i : Nat) : Option am_Cf := match c.2.2.1 with
  | .int x :: r => if e.2.1 = n ∧ i < c.2.1.length then some (c.1 + n, am_st1 c.2.1 i (.int x), r, c.2.2.2) else none
  | _ => none
def am_astv (e : am_En) (c : am_Cf) (n i : Nat) : Option am_Cf := match c.2.2.1 with
  | .ref x :: r => if e.2.1 = n ∧ i < c.2.1.length then some (c.1 + n, am_st1 c.2.1 i (.ref x), r, c.2.2.2) else none
  | _ => none
def am_lstv (e : am_En) (c : am_Cf) (n i : Nat) : Option am_Cf := match c.2.2.1 with
  | .long x :: r => if e.2.1 = n ∧ i + 1 < c.2.1.length then some (c.1 + n, am_st2 c.2.1 i (.long x), r, c.2.2.2) else none
  | _ => none
def am_b2 (e : am_En) (c : am_Cf) (f : Int32 → Int32 → Int32) : Option am_Cf := match c.2.2.1 with
  | .int y :: .int x :: r => if e.2.1 = 1 then some (c.1 + 1, c.2.1, .int (f x y) :: r, c.2.2.2) else none
  | _ => none
def am_d2 (e : am_En) (c : am_Cf) (f : Int32 → Int32 → Int32) : Option am_Cf := match c.2.2.1 with
  | .int y :: .int x :: r => if e.2.1 = 1 ∧ ¬ y = 0 then some (c.1 + 1, c.2.1, .int (f x y) :: r, c.2.2.2) else none
  | _ => none
def am_lb2 (e : am_En) (c : am_Cf) (f : Int64 → Int64 → Int64) : Option am_Cf := match c.2.2.1 with
  | .long y :: .long x :: r => if e.2.1 = 1 then some (c.1 + 1, c.2.1, .long (f x y) :: r, c.2.2.2) else none
  | _ => none
def am_ld2 (e : am_En) (c : am_Cf) (f : Int64 → Int64 → Int64) : Option am_Cf := match c.2.2.1 with
  | .long y :: .long x :: r => if e.2.1 = 1 ∧ ¬ y = 0 then some (c.1 + 1, c.2.1, .long (f x y) :: r, c.2.2.2) else none
  | _ => none
def am_u1 (e : am_En) (c : am_Cf) (f : Int32 → Int32) : Option am_Cf := match c.2.2.1 with
  | .int x :: r => if e.2.1 = 1 then some (c.1 + 1, c.2.1, .int (f x) :: r, c.2.2.2) else none
  | _ => none
def am_step (ro : am_Ro) (e : am_En) (c : am_Cf) : Option am_Cf :=
  match e.1 with
  | .iconst n => am_push e c 1 (.int (Int32.ofInt n))
  | .bipush n => am_push e c 2 (.int (Int8.ofInt n).toInt32)
  | .sipush n => am_push e c 3 (.int (Int16.ofInt n).toInt32)
  | .lconst n => am_push e c 1 (.long (Int64.ofNat n.val))
  | .ldc _ => am_push e c 2 (.int (Int32.ofInt e.2.2.2.2.2))
  | .ldc_w _ => am_push e c 3 (.int (Int32.ofInt e.2.2.2.2.2))
  | .ldc2_w _ => am_push e c 3 (.long (Int64.ofInt e.2.2.2.2.2))
  | .iload i => am_ildv e c 2 i
  | .iload_n i => am_ildv e c 1 i.val
  | .lload i => am_lldv e c 2 i
  | .lload_n i => am_lldv e c 1 i.val
  | .aload i => am_aldv e c 2 i
  | .aload_n i => am_aldv e c 1 i.val
  | .istore i => am_istv e c 2 i
  | .istore_n i => am_istv e c 1 i.val
  | .astore i => am_astv e c 2 i
  | .astore_n i => am_astv e c 1 i.val
  | .lstore i => am_lstv e c 2 i
  | .lstore_n i => am_lstv e c 1 i.val
  | .iinc i n => (match c.2.1[i]? with
    | some (some (.int x)) => if e.2.1 = 3 then some (c.1 + 3, am_st1 c.2.1 i (.int (x + Int32.ofInt n)), c.2.2.1, c.2.2.2) else none
    | _ => none)
  | .iadd => am_b2 e c (fun x y => x + y)
  | .isub => am_b2 e c (fun x y => x - y)
  | .imul => am_b2 e c (fun x y => x * y)
  | .iand => am_b2 e c (fun x y => x &&& y)
  | .ior => am_b2 e c (fun x y => x ||| y)
  | .ixor => am_b2 e c (fun x y => x ^^^ y)
  | .ishl => am_b2 e c (fun x y => x <<< (y &&& 31))
  | .ishr => am_b2 e c (fun x y => x >>> (y &&& 31))
  | .iushr => am_b2 e c (fun x y => (x.toUInt32 >>> (y.toUInt32 &&& Int32.toUInt32 31)).toInt32)
  | .idiv => am_d2 e c (fun x y => x / y)
  | .irem => am_d2 e c (fun x y => x - x / y * y)
  | .ineg => am_u1 e c (fun x => -x)
  | .i2b => am_u1 e c (fun x => x.toInt8.toInt32)
  | .i2s => am_u1 e c (fun x => x.toInt16.toInt32)
  | .ladd => am_lb2 e c (fun x y => x + y)
  | .lsub => am_lb2 e c (fun x y => x - y)
  | .lmul => am_lb2 e c (fun x y => x * y)
  | .land => am_lb2 e c (fun x y => x &&& y)
  | .lxor => am_lb2 e c (fun x y => x ^^^ y)
  | .ldiv => am_ld2 e c (fun x y => x / y)
  | .lrem => am_ld2 e c (fun x y => x - x / y * y)
  | .lneg => (match c.2.2.1 with
    | .long x :: r => if e.2.1 = 1 then some (c.1 + 1, c.2.1, .long (-x) :: r, c.2.2.2) else none
    | _ => none)
  | .i2l => (match c.2.2.1 with
    | .int x :: r => if e.2.1 = 1 then some (c.1 + 1, c.2.1, .long x.toInt64 :: r, c.2.2.2) else none
    | _ => none)
  | .l2i => (match c.2.2.1 with
    | .long x :: r => if e.2.1 = 1 then some (c.1 + 1, c.2.1, .int x.toInt32 :: r, c.2.2.2) else none
    | _ => none)
  | .lcmp => (match c.2.2.1 with
    | .long y :: .long x :: r => if e.2.1 = 1 then some (c.1 + 1, c.2.1, .int (lg_cmp x y) :: r, c.2.2.2) else none
    | _ => none)
  | .dup => (match c.2.2.1 with
    | .int x :: r => if e.2.1 = 1 then some (c.1 + 1, c.2.1, .int x :: .int x :: r, c.2.2.2) else none
    | .ref x :: r => if e.2.1 = 1 then some (c.1 + 1, c.2.1, .ref x :: .ref x :: r, c.2.2.2) else none
    | _ => none)
  | .dup2 => (match c.2.2.1 with
    | .int y :: .ref x :: r => if e.2.1 = 1 then some (c.1 + 1, c.2.1, .int y :: .ref x :: .int y :: .ref x :: r, c.2.2.2) else none
    | .long x :: r => if e.2.1 = 1 then some (c.1 + 1, c.2.1, .long x :: .long x :: r, c.2.2.2) else none
    | _ => none)
  | .goto o => if e.2.1 = 3 ∧ 0 ≤ (c.1 : Int) + o then some (((c.1 : Int) + o).toNat, c.2.1, c.2.2.1, c.2.2.2) else none
  | .getfield _ => (match c.2.2.1 with
    | .ref p :: r => if e.2.1 = 3 then (am_get c.2.2.2 e.2.2.1 e.2.2.2.1 p).map (fun v => (c.1 + 3, c.2.1, v :: r, c.2.2.2)) else none
    | _ => none)
  | .putfield _ => (match c.2.2.1, kcs[e.2.2.1]? with
    | v :: .ref p :: r, some q => if e.2.1 = 3 ∧ e.2.2.2.1 < q.2.2 then (am_put c.2.2.2 (kty q.2.1 e.2.2.2.1) e.2.2.1 e.2.2.2.1 p v).map (fun σ => (c.1 + 3, c.2.1, r, σ)) else none
    | _, _ => none)
  | .getstatic _ => am_push e c 3 (.ref am_rB)
  | .iaload => (match c.2.2.1 with
    | .int i :: .ref p :: r => if e.2.1 = 1 then (am_ild ro c.2.2.2 p i).map (fun x => (c.1 + 1, c.2.1, .int x :: r, c.2.2.2)) else none
    | _ => none)
  | .baload => (match c.2.2.1 with
    | .int i :: .ref p :: r => if e.2.1 = 1 then (am_zld c.2.2.2 p i).map (fun x => (c.1 + 1, c.2.1, .int x :: r, c.2.2.2)) else none
    | _ => none)
  | .laload => (match c.2.2.1 with
    | .int i :: .ref p :: r => if e.2.1 = 1 then (am_lld c.2.2.2 p i).map (fun x => (c.1 + 1, c.2.1, .long x :: r, c.2.2.2)) else none
    | _ => none)
  | .aaload => (match c.2.2.1 with
    | .int i :: .ref p :: r => if e.2.1 = 1 then (am_ald c.2.2.2 p i).map (fun x => (c.1 + 1, c.2.1, .ref x :: r, c.2.2.2)) else none
    | _ => none)
  | .iastore => (match c.2.2.1 with
    | .int x :: .int i :: .ref p :: r => if e.2.1 = 1 then (am_ist c.2.2.2 p i x).map (fun σ => (c.1 + 1, c.2.1, r, σ)) else none
    | _ => none)
  | .bastore => (match c.2.2.1 with
    | .int x :: .int i :: .ref p :: r => if e.2.1 = 1 then (am_zst c.2.2.2 p i x).map (fun σ => (c.1 + 1, c.2.1, r, σ)) else none
    | _ => none)
  | .lastore => (match c.2.2.1 with
    | .long x :: .int i :: .ref p :: r => if e.2.1 = 1 then (am_lst c.2.2.2 p i x).map (fun σ => (c.1 + 1, c.2.1, r, σ)) else none
    | _ => none)
  | .aastore => (match c.2.2.1 with
    | .ref q :: .int i :: .ref p :: r => if e.2.1 = 1 then (am_ast c.2.2.2 p i q).map (fun σ => (c.1 + 1, c.2.1, r, σ)) else none
    | _ => none)
  | .arraylength => (match c.2.2.1 with
    | .ref p :: r => if e.2.1 = 1 then (am_len ro c.2.2.2 p).map (fun n => (c.1 + 1, c.2.1, .int (Int32.ofNat n) :: r, c.2.2.2)) else none
    | _ => none)
  | .new _ => if e.2.1 = 3 then (am_new c.2.2.2 e.2.2.1).map (fun σ => (c.1 + 3, c.2.1, .ref c.2.2.2.1.length :: c.2.2.1, σ)) else none
  | .newarray a => (match c.2.2.1 with
    | .int n :: r => if e.2.1 = 2 then (am_newa c.2.2.2 a n).map (fun σ => (c.1 + 2, c.2.1, .ref c.2.2.2.1.length :: r, σ)) else none
    | _ => none)
  | .anewarray _ => (match c.2.2.1 with
    | .int n :: r => if e.2.1 = 3 then (am_newq c.2.2.2 e.2.2.1 n).map (fun σ => (c.1 + 3, c.2.1, .ref c.2.2.2.1.length :: r, σ)) else none
    | _ => none)
  | .invokespecial _ => (match c.2.2.1 with
    | .ref _ :: r => if e.2.1 = 3 ∧ e.2.2.2.1 = 9 ∧ (r.map fun v => v.category).sum ≤ 8 then some (c.1 + 3, c.2.1, r, c.2.2.2) else none
    | _ => none)
  | .invokestatic _ => (match c.2.2.1 with
    | .int n :: .int dp :: .ref p1 :: .int sp :: .ref p0 :: r => if e.2.1 = 3 ∧ e.2.2.2.1 = 8 ∧ (r.map fun v => v.category).sum ≤ 8 then (am_cpy c.2.2.2 p0 sp p1 dp n).map (fun σ => (c.1 + 3, c.2.1, r, σ)) else none
    | _ => none)
  | _ => none
/-! branches -/
def am_cmp (k : Jvm.ClassFile.Cond) (x y : Int32) : Bool := match k with
  | .eq => decide (x = y)
  | .ne => !decide (x = y)
  | .lt => decide (x < y)
  | .ge => decide (y ≤ x)
  | .gt => decide (y < x)
  | .le => decide (x ≤ y)
/-- a branch: its condition, where it goes, where it goes on, the stack behind it -/
def am_br (e : am_En) (pc : Nat) (st : List Value) : Option (Bool × Nat × Nat × List Value) := match e.1, st with
  | .if_icmp k o, .int y :: .int x :: r => if e.2.1 = 3 ∧ 0 ≤ (pc : Int) + o then some (am_cmp k x y, ((pc : Int) + o).toNat, pc + 3, r) else none
  | .ifCond k o, .int x :: r => if e.2.1 = 3 ∧ 0 ≤ (pc : Int) + o then some (am_cmp k x 0, ((pc : Int) + o).toNat, pc + 3, r) else none
  | _, _ => none
/-- where a switch goes -/
def am_sw (e : am_En) (pc : Nat) (x : Int32) : Option Nat := match e.1 with
  | .tableswitch d lo hi offs => if x.toInt < lo ∨ hi < x.toInt then (if 0 ≤ (pc : Int) + d then some ((pc : Int) + d).toNat else none)
      else (match offs[(x.toInt - lo).toNat]? with
        | some o => if 0 ≤ (pc : Int) + o then some ((pc : Int) + o).toNat else none
        | none => none)
  | .lookupswitch d ps => if (ps.toList.zip (ps.toList.drop 1)).all (fun (a, next) => a.1 < next.1) = true ∧ 0 ≤ (pc : Int) + Op.lookupswitch.offset ps.toList d x.toInt then some ((pc : Int) + Op.lookupswitch.offset ps.toList d x.toInt).toNat else none
  | _ => none
/-- many instructions, none of them a branch or a call -/
def am_run (ro : am_Ro) (cd : List (Option am_En)) : Nat → am_Cf → Option am_Cf
  | 0, c => some c
  | n + 1, c => match cd[c.1]? with
    | some (some e) => (match am_step ro e c with
      | some c' => am_run ro cd n c'
      | none => none)
    | _ => none
