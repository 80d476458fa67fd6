/-! ax: a small machine over decoded instructions. A cell is a number; what it is stands in a table (sh), what it holds in two functions. -/
abbrev ax_M : Type := (Nat → Nat → Int32) × (Nat → Nat → Int64)
abbrev ax_R : Type := Option (Option Value × ax_M)
/-- place, instruction, what it points at -/
abbrev ax_I : Type := Nat × Instr × List (List Nat)
/-- (0, class, fields: kind and target), (1 int, 2 byte, 3 boolean, 4 long; length), (5, 6: length, targets), (8: a text) -/
abbrev ax_C : Type := Nat × Nat × List (Nat × Nat)
abbrev ax_L : Type := List (Nat × Value)
abbrev ax_J : Type := Nat → List Value → List Value → ax_M → ax_R
/-- a method: name, bytes, locals, answer, rank, entry label -/
abbrev ax_D : Type := MethodName × ByteArray × Nat × Option FieldType × Nat × Nat
/-- a block: method, place, locals that it is given, code -/
abbrev ax_B : Type := Nat × Nat × List Nat × List ax_I
def ax_up {α : Type} (f : Nat → Nat → α) (o k : Nat) (v : α) : Nat → Nat → α := fun a b => if a = o ∧ b = k then v else f a b
def ax_lk : ax_L → Nat → Option Value
  | [], _ => none
  | (j, v) :: t, i => if j = i then some v else ax_lk t i
def ax_pick (lv : ax_L) : List Nat → Option (List Value)
  | [] => some []
  | i :: is => match ax_lk lv i with
    | some v => match ax_pick lv is with
      | some vs => some (v :: vs)
      | none => none
    | none => none
def ax_s1 (lv : ax_L) (i : Nat) (v : Value) : ax_L := (i, v) :: lv.filter (fun q => !(q.1 == i) && !(q.1 + 1 == i && q.2.category == 2))
def ax_s2 (lv : ax_L) (i : Nat) (v : Value) : ax_L := (i, v) :: lv.filter (fun q => !(q.1 == i) && (!(q.1 == i + 1) && !(q.1 + 1 == i && q.2.category == 2)))
def ax_gf (sh : Nat → ax_C) (μ : ax_M) (o ci k : Nat) : Option Value :=
  if (sh o).1 = 0 ∧ (sh o).2.1 = ci then match (sh o).2.2[k]? with
    | some (0, _) => some (.int (μ.1 o k))
    | some (1, _) => some (.long (μ.2 o k))
    | some (2, t) => some (.ref t)
    | some (3, _) => some (.int (μ.1 o k))
    | _ => none
  else none
def ax_pf (sh : Nat → ax_C) (μ : ax_M) (o ci k : Nat) (v : Value) : Option ax_M :=
  if (sh o).1 = 0 ∧ (sh o).2.1 = ci then match (sh o).2.2[k]?, v with
    | some (0, _), .int x => some (ax_up μ.1 o k x, μ.2)
    | some (1, _), .long x => some (μ.1, ax_up μ.2 o k x)
    | some (3, _), .int x => if x = 0 ∨ x = 1 then some (ax_up μ.1 o k x, μ.2) else none
    | _, _ => none
  else none
def ax_ld (sh : Nat → ax_C) (μ : ax_M) (a : Nat) (i : Int32) : Option Int32 :=
  if (sh a).1 = 1 ∧ ¬ (i < 0 ∨ (sh a).2.1 ≤ i.toNatClampNeg) then some (μ.1 a i.toNatClampNeg) else none
def ax_ld8 (sh : Nat → ax_C) (μ : ax_M) (a : Nat) (i : Int32) : Option Int32 :=
  if ((sh a).1 = 2 ∨ (sh a).1 = 3) ∧ ¬ (i < 0 ∨ (sh a).2.1 ≤ i.toNatClampNeg) then some (μ.1 a i.toNatClampNeg) else none
def ax_ldl (sh : Nat → ax_C) (μ : ax_M) (a : Nat) (i : Int32) : Option Int64 :=
  if (sh a).1 = 4 ∧ ¬ (i < 0 ∨ (sh a).2.1 ≤ i.toNatClampNeg) then some (μ.2 a i.toNatClampNeg) else none
def ax_lda (sh : Nat → ax_C) (a : Nat) (i : Int32) : Option Nat :=
  if ((sh a).1 = 5 ∨ (sh a).1 = 6) ∧ ¬ (i < 0 ∨ (sh a).2.1 ≤ i.toNatClampNeg) then ((sh a).2.2[i.toNatClampNeg]?).map (fun q => q.2) else none
def ax_st (sh : Nat → ax_C) (μ : ax_M) (a : Nat) (i x : Int32) : Option ax_M :=
  if (sh a).1 = 1 ∧ ¬ (i < 0 ∨ (sh a).2.1 ≤ i.toNatClampNeg) then some (ax_up μ.1 a i.toNatClampNeg x, μ.2) else none
def ax_st8 (sh : Nat → ax_C) (μ : ax_M) (a : Nat) (i x : Int32) : Option ax_M :=
  if (sh a).1 = 2 ∧ ¬ (i < 0 ∨ (sh a).2.1 ≤ i.toNatClampNeg) then some (ax_up μ.1 a i.toNatClampNeg (vp_nar .byte x), μ.2)
  else if (sh a).1 = 3 ∧ ¬ (i < 0 ∨ (sh a).2.1 ≤ i.toNatClampNeg) then some (ax_up μ.1 a i.toNatClampNeg (vp_nar .boolean x), μ.2) else none
def ax_stl (sh : Nat → ax_C) (μ : ax_M) (a : Nat) (i : Int32) (x : Int64) : Option ax_M :=
  if (sh a).1 = 4 ∧ ¬ (i < 0 ∨ (sh a).2.1 ≤ i.toNatClampNeg) then some (μ.1, ax_up μ.2 a i.toNatClampNeg x) else none
/-- System.arraycopy between two int arrays -/
def ax_cp (sh : Nat → ax_C) (μ : ax_M) (a : Nat) (sp : Int32) (b : Nat) (dp n : Int32) : Option ax_M :=
  if (sh a).1 = 1 ∧ (sh b).1 = 1 ∧ ¬ sp < 0 ∧ ¬ dp < 0 ∧ ¬ n < 0 ∧ sp.toNatClampNeg + n.toNatClampNeg ≤ (sh a).2.1 ∧ dp.toNatClampNeg + n.toNatClampNeg ≤ (sh b).2.1 then
    some (fun q => if q = b then va_cpy (μ.1 a) (μ.1 b) sp.toNatClampNeg dp.toNatClampNeg n.toNatClampNeg else μ.1 q, μ.2) else none
def ax_pop : Nat → List Value → List Value → Option (List Value × List Value)
  | 0, acc, st => some (acc, st)
  | n + 1, acc, v :: st => ax_pop n (v :: acc) st
  | _ + 1, _, [] => none
def ax_go (J : ax_J) (lv : ax_L) (st : List Value) (μ : ax_M) (x : List Nat) : ax_R := match x with
  | [] => none
  | l :: ks => match ax_pick lv ks with
    | some vs => J l vs st μ
    | none => none
def ax_sw (J : ax_J) (lv : ax_L) (st : List Value) (μ : ax_M) (a : Int32) (d : List Nat) : List (List Nat) → ax_R
  | [] => ax_go J lv st μ d
  | [] :: _ => none
  | (k :: y) :: ys => if a = Int32.ofNat k then ax_go J lv st μ y else ax_sw J lv st μ a d ys
def ax_b0 (r : ax_R) (f : ax_M → ax_R) : ax_R := match r with
  | some (none, μ) => f μ
  | _ => none
def ax_b1 (r : ax_R) (f : Int32 → ax_M → ax_R) : ax_R := match r with
  | some (some (.int v), μ) => f v μ
  | _ => none
def ax_b2 (r : ax_R) (f : Int64 → ax_M → ax_R) : ax_R := match r with
  | some (some (.long v), μ) => f v μ
  | _ => none
def ax_b3 (r : ax_R) (f : Nat → ax_M → ax_R) (g : ax_M → ax_R) : ax_R := match r with
  | some (some (.ref a), μ) => f a μ
  | some (some .null, μ) => g μ
  | _ => none
def ax_bo {α : Type} (r : Option α) (f : α → ax_R) : ax_R := match r with
  | some v => f v
  | none => none
/-- the receiver is an object of that class -/
def ax_rc (sh : Nat → ax_C) (ci : Nat) (as : List Value) (r : ax_R) : ax_R := match as with
  | .ref a :: _ => if ((sh a).1 = 0 ∧ (sh a).2.1 = ci) ∨ ((sh a).1 = 8 ∧ ci = 99) then r else none
  | _ => none
def ax_fit (st : List Value) (r : ax_R) : ax_R := if (st.map fun v => v.category).sum ≤ 8 then r else none
def ax_call (J : ax_J) (EN : Nat → Nat) (k : List Value → ax_M → ax_R) (z n rk : Nat) (g : List Value → ax_R → ax_R) (st : List Value) (μ : ax_M) : ax_R := match ax_pop n [] st with
  | some (as, st') => g as (ax_fit st' (match rk with
    | 0 => ax_b0 (J (EN z) as [] μ) (fun μ' => k st' μ')
    | 1 => ax_b1 (J (EN z) as [] μ) (fun v μ' => k (.int v :: st') μ')
    | 2 => ax_b2 (J (EN z) as [] μ) (fun v μ' => k (.long v :: st') μ')
    | 3 => ax_b3 (J (EN z) as [] μ) (fun v μ' => k (.ref v :: st') μ') (fun μ' => k (.null :: st') μ')
    | _ => none))
  | none => none
def ax_step (sh : Nat → ax_C) (J : ax_J) (EN : Nat → Nat) (k : ax_L → List Value → ax_M → ax_R) (i : Instr) (x : List (List Nat)) (lv : ax_L) (st : List Value) (μ : ax_M) : ax_R :=
  match i with
  | .nop => match x with
    | [y] => ax_go J lv st μ y
    | [[], [103]] => match ax_lk lv 0 with
      | some (.ref a) => if (sh a).1 = 8 then some (some (.int (Int32.ofNat (sh a).2.1)), μ) else none
      | _ => none
    | [[], [104]] => match ax_lk lv 0, ax_lk lv 1 with
      | some (.ref a), some (.int i) => if (sh a).1 = 8 ∧ ¬ (i < 0 ∨ (sh a).2.1 ≤ i.toNatClampNeg) then some (some (.int (Int32.ofNat ((sh a).2.2.getD i.toNatClampNeg (0, 0)).1)), μ) else none
      | _, _ => none
    | _ => none
  | .iconst n => k lv (.int (Int32.ofInt n) :: st) μ
  | .bipush n => k lv (.int (Int8.ofInt n).toInt32 :: st) μ
  | .sipush n => k lv (.int (Int16.ofInt n).toInt32 :: st) μ
  | .lconst n => k lv (.long (Int64.ofNat (n : Nat)) :: st) μ
  | .ldc2_w _ => match x with
    | [a] :: _ => k lv (.long (Int64.ofNat a) :: st) μ
    | _ => none
  | .ldc_w _ => match x with
    | [a] :: _ => k lv (.int (Int32.ofNat a) :: st) μ
    | [] :: [sid] :: _ => k lv (.ref sid :: st) μ
    | _ => none
  | .aconst_null => k lv (.null :: st) μ
  | .iload n => match ax_lk lv n with
    | some (.int v) => k lv (.int v :: st) μ
    | _ => none
  | .iload_n n => match ax_lk lv n with
    | some (.int v) => k lv (.int v :: st) μ
    | _ => none
  | .lload n => match ax_lk lv n with
    | some (.long v) => k lv (.long v :: st) μ
    | _ => none
  | .lload_n n => match ax_lk lv n with
    | some (.long v) => k lv (.long v :: st) μ
    | _ => none
  | .aload n => match ax_lk lv n with
    | some (.ref v) => k lv (.ref v :: st) μ
    | some .null => k lv (.null :: st) μ
    | _ => none
  | .aload_n n => match ax_lk lv n with
    | some (.ref v) => k lv (.ref v :: st) μ
    | some .null => k lv (.null :: st) μ
    | _ => none
  | .istore n => match st with
    | .int v :: st => k (ax_s1 lv n (.int v)) st μ
    | _ => none
  | .istore_n n => match st with
    | .int v :: st => k (ax_s1 lv n (.int v)) st μ
    | _ => none
  | .lstore n => match st with
    | .long v :: st => k (ax_s2 lv n (.long v)) st μ
    | _ => none
  | .lstore_n n => match st with
    | .long v :: st => k (ax_s2 lv n (.long v)) st μ
    | _ => none
  | .astore n => match st with
    | .ref v :: st => k (ax_s1 lv n (.ref v)) st μ
    | .null :: st => k (ax_s1 lv n .null) st μ
    | _ => none
  | .astore_n n => match st with
    | .ref v :: st => k (ax_s1 lv n (.ref v)) st μ
    | .null :: st => k (ax_s1 lv n .null) st μ
    | _ => none
  | .iinc n c => match ax_lk lv n with
    | some (.int v) => k (ax_s1 lv n (.int (v + Int32.ofInt c))) st μ
    | _ => none
  | .dup => match st with
    | v :: st => if v.category = 1 then k lv (v :: v :: st) μ else none
    | _ => none
  | .dup2 => match st with
    | v :: w :: st => if v.category = 1 ∧ w.category = 1 then k lv (v :: w :: v :: w :: st) μ else none
    | _ => none
  | .pop => match st with
    | v :: st => if v.category = 1 then k lv st μ else none
    | _ => none
  | .iadd => match st with
    | .int b :: .int a :: st => k lv (.int (a + b) :: st) μ
    | _ => none
  | .isub => match st with
    | .int b :: .int a :: st => k lv (.int (a - b) :: st) μ
    | _ => none
  | .imul => match st with
    | .int b :: .int a :: st => k lv (.int (a * b) :: st) μ
    | _ => none
  | .idiv => match st with
    | .int b :: .int a :: st => if b = 0 then none else k lv (.int (a / b) :: st) μ
    | _ => none
  | .irem => match st with
    | .int b :: .int a :: st => if b = 0 then none else k lv (.int (a - a / b * b) :: st) μ
    | _ => none
  | .ineg => match st with
    | .int a :: st => k lv (.int (0 - a) :: st) μ
    | _ => none
  | .iand => match st with
    | .int b :: .int a :: st => k lv (.int (a &&& b) :: st) μ
    | _ => none
  | .ior => match st with
    | .int b :: .int a :: st => k lv (.int (a ||| b) :: st) μ
    | _ => none
  | .ixor => match st with
    | .int b :: .int a :: st => k lv (.int (a ^^^ b) :: st) μ
    | _ => none
  | .ishl => match st with
    | .int b :: .int a :: st => k lv (.int (a <<< (b &&& 31)) :: st) μ
    | _ => none
  | .ishr => match st with
    | .int b :: .int a :: st => k lv (.int (a >>> (b &&& 31)) :: st) μ
    | _ => none
  | .iushr => match st with
    | .int b :: .int a :: st => k lv (.int ((a.toUInt32 >>> (b.toUInt32 &&& Int32.toUInt32 31)).toInt32) :: st) μ
    | _ => none
  | .ladd => match st with
    | .long b :: .long a :: st => k lv (.long (a + b) :: st) μ
    | _ => none
  | .lsub => match st with
    | .long b :: .long a :: st => k lv (.long (a - b) :: st) μ
    | _ => none
  | .lmul => match st with
    | .long b :: .long a :: st => k lv (.long (a * b) :: st) μ
    | _ => none
  | .ldiv => match st with
    | .long b :: .long a :: st => if b = 0 then none else k lv (.long (a / b) :: st) μ
    | _ => none
  | .lrem => match st with
    | .long b :: .long a :: st => if b = 0 then none else k lv (.long (a - a / b * b) :: st) μ
    | _ => none
  | .lcmp => match st with
    | .long b :: .long a :: st => k lv (.int (lg_cmp a b) :: st) μ
    | _ => none
  | .i2l => match st with
    | .int a :: st => k lv (.long a.toInt64 :: st) μ
    | _ => none
  | .l2i => match st with
    | .long a :: st => k lv (.int a.toInt32 :: st) μ
    | _ => none
  | .i2b => match st with
    | .int a :: st => k lv (.int a.toInt8.toInt32 :: st) μ
    | _ => none
  | .ifCond c _ => match x, st with
    | [y], .int a :: st => match c with
      | .eq => if a = 0 then ax_go J lv st μ y else k lv st μ
      | .ne => if a = 0 then k lv st μ else ax_go J lv st μ y
      | .lt => if a < 0 then ax_go J lv st μ y else k lv st μ
      | .ge => if 0 ≤ a then ax_go J lv st μ y else k lv st μ
      | .gt => if 0 < a then ax_go J lv st μ y else k lv st μ
      | .le => if a ≤ 0 then ax_go J lv st μ y else k lv st μ
    | _, _ => none
  | .if_icmp c _ => match x, st with
    | [y], .int b :: .int a :: st => match c with
      | .eq => if a = b then ax_go J lv st μ y else k lv st μ
      | .ne => if a = b then k lv st μ else ax_go J lv st μ y
      | .lt => if a < b then ax_go J lv st μ y else k lv st μ
      | .ge => if b ≤ a then ax_go J lv st μ y else k lv st μ
      | .gt => if b < a then ax_go J lv st μ y else k lv st μ
      | .le => if a ≤ b then ax_go J lv st μ y else k lv st μ
    | _, _ => none
  | .ifnull _ => match x, st with
    | [_], .ref _ :: st => k lv st μ
    | [y], .null :: st => ax_go J lv st μ y
    | _, _ => none
  | .ifnonnull _ => match x, st with
    | [y], .ref _ :: st => ax_go J lv st μ y
    | [_], .null :: st => k lv st μ
    | _, _ => none
  | .goto _ => match x with
    | [y] => ax_go J lv st μ y
    | _ => none
  | .tableswitch _ _ _ _ => match x, st with
    | d :: ys, .int a :: st => ax_sw J lv st μ a d ys
    | _, _ => none
  | .lookupswitch _ _ => match x, st with
    | d :: ys, .int a :: st => ax_sw J lv st μ a d ys
    | _, _ => none
  | .getfield _ => match x, st with
    | [ci, f] :: _, .ref o :: st => ax_bo (ax_gf sh μ o ci f) (fun v => k lv (v :: st) μ)
    | _, _ => none
  | .putfield _ => match x, st with
    | [ci, f] :: _, v :: .ref o :: st => ax_bo (ax_pf sh μ o ci f v) (fun μ' => k lv st μ')
    | _, _ => none
  | .iaload => match st with
    | .int i :: .ref a :: st => ax_bo (ax_ld sh μ a i) (fun v => k lv (.int v :: st) μ)
    | _ => none
  | .baload => match st with
    | .int i :: .ref a :: st => ax_bo (ax_ld8 sh μ a i) (fun v => k lv (.int v :: st) μ)
    | _ => none
  | .laload => match st with
    | .int i :: .ref a :: st => ax_bo (ax_ldl sh μ a i) (fun v => k lv (.long v :: st) μ)
    | _ => none
  | .aaload => match st with
    | .int i :: .ref a :: st => ax_bo (ax_lda sh a i) (fun v => k lv (.ref v :: st) μ)
    | _ => none
  | .iastore => match st with
    | .int v :: .int i :: .ref a :: st => ax_bo (ax_st sh μ a i v) (fun μ' => k lv st μ')
    | _ => none
  | .bastore => match st with
    | .int v :: .int i :: .ref a :: st => ax_bo (ax_st8 sh μ a i v) (fun μ' => k lv st μ')
    | _ => none
  | .lastore => match st with
    | .long v :: .int i :: .ref a :: st => ax_bo (ax_stl sh μ a i v) (fun μ' => k lv st μ')
    | _ => none
  | .arraylength => match st with
    | .ref a :: st => if 1 ≤ (sh a).1 ∧ (sh a).1 ≤ 6 then k lv (.int (Int32.ofNat (sh a).2.1) :: st) μ else none
    | _ => none
  | .invokevirtual _ => match x with
    | [z, n, rk, ci] :: _ => ax_call J EN (k lv) z n rk (ax_rc sh ci) st μ
    | _ => none
  | .invokestatic _ => match x, st with
    | [100] :: _, .int b :: .int a :: st => ax_fit st (k lv (.int (if b < a then b else a) :: st) μ)
    | [101] :: _, .int b :: .int a :: st => ax_fit st (k lv (.int (if a < b then b else a) :: st) μ)
    | [102] :: _, .int n :: .int dp :: .ref b :: .int sp :: .ref a :: st => ax_fit st (ax_bo (ax_cp sh μ a sp b dp n) (fun μ' => k lv st μ'))
    | [z, n, rk] :: _, st => ax_call J EN (k lv) z n rk (fun _ r => r) st μ
    | _, _ => none
  | .ireturn => match x, st with
    | [[0]], [.int v] => some (some (.int v), μ)
    | [[1]], [.int v] => if v = 0 ∨ v = 1 then some (some (.int v), μ) else none
    | _, _ => none
  | .lreturn => match st with
    | [.long v] => some (some (.long v), μ)
    | _ => none
  | .areturn => match st with
    | [.ref v] => some (some (.ref v), μ)
    | [.null] => some (some .null, μ)
    | _ => none
  | .return_ => match st with
    | [] => some (none, μ)
    | _ => none
  | _ => none
def ax_ex (sh : Nat → ax_C) (J : ax_J) (EN : Nat → Nat) : List ax_I → ax_L → List Value → ax_M → ax_R
  | [], _, _, _ => none
  | q :: is, lv, st, μ => ax_step sh J EN (ax_ex sh J EN is) q.2.1 q.2.2 lv st μ
/-- the locals with which a label begins: an entry takes all arguments, a jump's target those that it lists -/
def ax_l0 (ks : List Nat) (vs : List Value) : Option ax_L := match ks with
  | [999, mL] => if (vs.map fun v => v.category).sum ≤ mL then some (lv_args 0 vs) else none
  | _ => some (ks.zip vs)
def ax_ev (sh : Nat → ax_C) (BL : Nat → ax_B) (EN : Nat → Nat) : Nat → ax_J
  | 0, _, _, _, _ => none
  | n + 1, l, vs, st, μ => match ax_l0 (BL l).2.2.1 vs with
    | some lv => ax_ex sh (ax_ev sh BL EN n) EN (BL l).2.2.2 lv st μ
    | none => none
