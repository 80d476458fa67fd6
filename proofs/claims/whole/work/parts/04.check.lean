/-! ax: what is checked of a block, and that the machine's meaning is the real one's -/
def ax_ln : Instr → Nat
  | .nop => 0
  | .iload _ => 2 | .lload _ => 2 | .aload _ => 2 | .istore _ => 2 | .lstore _ => 2 | .astore _ => 2 | .bipush _ => 2
  | .iinc _ _ => 3 | .sipush _ => 3 | .ldc_w _ => 3 | .ldc2_w _ => 3 | .ifCond _ _ => 3 | .if_icmp _ _ => 3 | .ifnull _ => 3 | .ifnonnull _ => 3 | .goto _ => 3
  | .getfield _ => 3 | .putfield _ => 3 | .invokevirtual _ => 3 | .invokestatic _ => 3
  | _ => 1
def ax_wok (wd : Nat → Nat → Option Jvm.Cond) (x : List Nat) (f : Jvm.Cond → Bool) : Bool := match x with
  | [k, j] => match wd k j with
    | some w => w.onTables && w.keeps && f w
    | none => false
  | _ => false
def ax_tg (BL : Nat → ax_B) (y pc : Nat) (off : Int) (x : List Nat) : Bool := match x with
  | l :: ks => decide ((BL l).1 = y) && decide ((pc : Int) + off = ((BL l).2.1 : Int)) && decide ((BL l).2.2.1 = ks) && decide (ks.head? ≠ some 999)
  | [] => false
def ax_tt (BL : Nat → ax_B) (y pc : Nat) : Int → List Int → List (List Nat) → Bool
  | lo, o :: os, (k :: x) :: ys => decide ((k : Int) = lo) && decide (k < 2147483648) && ax_tg BL y pc o x && ax_tt BL y pc (lo + 1) os ys
  | _, [], [] => true
  | _, _, _ => false
def ax_tl (BL : Nat → ax_B) (y pc : Nat) : List (Int × Int) → List (List Nat) → Bool
  | (a, o) :: ps, (k :: x) :: ys => decide ((k : Int) = a) && decide (k < 2147483648) && ax_tg BL y pc o x && ax_tl BL y pc ps ys
  | [], [] => true
  | _, _ => false
def ax_rk (ret : Option FieldType) (rk : Nat) : Bool := match ret, rk with
  | none, 0 => true
  | some .int, 1 => true
  | some .boolean, 1 => true
  | some .char, 1 => true
  | some .long, 2 => true
  | some (.object _), 3 => true
  | _, _ => false
def ax_fl (cl : List vw_C) (own : String) (i ci f : Nat) (b : Bool) (w : Jvm.Cond) : Bool := match w with
  | .fieldLink o j C n d => decide (o = own) && decide (j = i) && (match cl[ci]? with
    | some r => decide (f < r.2.2) && decide (C = (r.2.1 f).1) && decide (n = (r.2.1 f).2.1) && decide (d = (r.2.1 f).2.2.1) && (b || !(r.2.1 f).2.2.2)
    | none => false)
  | _ => false
def ax_li (wd : Nat → Nat → Option Jvm.Cond) (w : List Nat) (own : String) (i : Nat) (z : MethodName) : Bool := match w with
  | [k, n] => match wd k n with
    | some (.methodLink o j x) => ((Jvm.Cond.methodLink o j x).onTables && (Jvm.Cond.methodLink o j x).keeps) && decide (o = own) && decide (j = i) && decide (x = z)
    | some (.methodLinkNest o j x _) => decide (o = own) && decide (j = i) && decide (x = z)
    | _ => false
  | _ => false
def ax_np (z : MethodName) (n : Nat) : Bool := decide ((parseMethodDescriptor z.desc).map (fun d => d.parameters.length) = some n)
def ax_oks (wd : Nat → Nat → Option Jvm.Cond) (NM : Nat) (MT : Nat → ax_D) (y i : Nat) (x : List Nat) (ws : List (List Nat)) : Bool := match x, ws with
  | [z, n, rk], [w1, w2] => decide (z < NM) && decide ((MT z).2.2.2.2.1 < (MT y).2.2.2.2.1) && ax_rk (MT z).2.2.2.1 rk && ax_np (MT z).1 n
      && ax_li wd w1 (MT y).1.cls i (MT z).1 && ax_wok wd w2 (fun w => decide (w = .static (MT z).1))
  | [t], [w1, w2, w3] => if t = 100 then ax_wok wd w1 (fun w => decide (w = .methodLink (MT y).1.cls i Lib.Math.min.name)) && ax_wok wd w2 (fun w => decide (w = .static Lib.Math.min.name)) && ax_wok wd w3 (fun w => decide (w = .code Lib.Math.min.name Lib.Math.min.code 2 (some .int)))
      else if t = 101 then ax_wok wd w1 (fun w => decide (w = .methodLink (MT y).1.cls i Lib.Math.max.name)) && ax_wok wd w2 (fun w => decide (w = .static Lib.Math.max.name)) && ax_wok wd w3 (fun w => decide (w = .code Lib.Math.max.name Lib.Math.max.code 2 (some .int)))
      else if t = 102 then ax_wok wd w1 (fun w => decide (w = .methodLink (MT y).1.cls i arraycopyName)) && ax_wok wd w2 (fun w => decide (w = .static arraycopyName)) && ax_wok wd w3 (fun w => decide (w = .native arraycopyName))
      else false
  | _, _ => false
def ax_okb (cl : List vw_C) (wd : Nat → Nat → Option Jvm.Cond) (NM : Nat) (MT : Nat → ax_D) (BL : Nat → ax_B) (SL : List (Nat × String)) (y : Nat) (q : ax_I) : Bool :=
  match q.2.1, q.2.2 with
  | .nop, [x] => ax_tg BL y q.1 0 x
  | .nop, _ => false
  | .istore n, _ => decide (n < (MT y).2.2.1)
  | .istore_n n, _ => decide ((n : Nat) < (MT y).2.2.1)
  | .astore n, _ => decide (n < (MT y).2.2.1)
  | .astore_n n, _ => decide ((n : Nat) < (MT y).2.2.1)
  | .iinc n _, _ => decide (n < (MT y).2.2.1)
  | .lstore n, _ => decide (n + 1 < (MT y).2.2.1)
  | .lstore_n n, _ => decide ((n : Nat) + 1 < (MT y).2.2.1)
  | .ldc2_w i, [[a], w] => ax_wok wd w (fun w => decide (w = .constantLong (MT y).1.cls i (Int64.ofNat a)))
  | .ldc_w i, [[a], w] => ax_wok wd w (fun w => decide (w = .constant (MT y).1.cls i (Int32.ofNat a)))
  | .ldc_w i, [[], [sid]] => decide (1000 ≤ sid) && decide ((SL[sid - 1000]?).map (fun q => q.1) = some i) && decide ((MT y).1.cls = "AskingFragments")
  | .ldc2_w _, _ => false
  | .ldc_w _, _ => false
  | .ifCond _ off, [x] => ax_tg BL y q.1 off x
  | .if_icmp _ off, [x] => ax_tg BL y q.1 off x
  | .ifnull off, [x] => ax_tg BL y q.1 off x
  | .ifnonnull off, [x] => ax_tg BL y q.1 off x
  | .goto off, [x] => ax_tg BL y q.1 off x
  | .tableswitch d lo hi offs, x :: ys => ax_tg BL y q.1 d x && ax_tt BL y q.1 lo offs.toList ys && decide (lo + (ys.length : Int) = hi + 1)
  | .lookupswitch d ps, x :: ys => ax_tg BL y q.1 d x && ax_tl BL y q.1 ps.toList ys && (ps.toList.zip (ps.toList.drop 1)).all (fun (a, next) => a.1 < next.1)
  | .getfield i, [[ci, f], w] => ax_wok wd w (ax_fl cl (MT y).1.cls i ci f true)
  | .getfield _, _ => false
  | .putfield i, [[ci, f], w] => ax_wok wd w (ax_fl cl (MT y).1.cls i ci f false)
  | .putfield _, _ => false
  | .invokevirtual i, [[z, n, rk, ci], w1, w2, w3] => decide (z < NM) && decide ((MT z).2.2.2.2.1 < (MT y).2.2.2.2.1) && ax_rk (MT z).2.2.2.1 rk && ax_np (MT z).1 (n - 1) && decide (0 < n) && (decide ((cl[ci]?).map (fun r => r.1) = some (MT z).1.cls) || (decide (ci = 99) && decide ((MT z).1.cls = "java/lang/String")))
      && ax_li wd w1 (MT y).1.cls i (MT z).1 && ax_wok wd w2 (fun w => decide (w = .instanceMethod (MT z).1)) && ax_wok wd w3 (fun w => decide (w = .selects (MT z).1.cls (MT z).1 (MT z).1))
  | .invokevirtual _, _ => false
  | .invokestatic i, x :: ws => ax_oks wd NM MT y i x ws
  | .invokestatic _, _ => false
  | .ireturn, [[0]] => decide ((MT y).2.2.2.1 = some .int)
  | .ireturn, [[1]] => decide ((MT y).2.2.2.1 = some .boolean)
  | .lreturn, _ => decide ((MT y).2.2.2.1 = some .long)
  | .areturn, _ => match (MT y).2.2.2.1 with
    | some (.object _) => true
    | _ => false
  | .return_, _ => decide ((MT y).2.2.2.1 = none)
  | _, _ => true
def ax_sws : Instr → Bool
  | .tableswitch _ _ _ _ => true
  | .lookupswitch _ _ => true
  | _ => false
def ax_dk (cc : ByteArray) (q : ax_I) : Bool := match decode cc q.1 with
  | .ok (i, n) => decide (i = q.2.1) && (ax_sws i || decide (n = ax_ln i))
  | .error _ => false
def ax_vb (cl : List vw_C) (wd : Nat → Nat → Option Jvm.Cond) (NM : Nat) (MT : Nat → ax_D) (BL : Nat → ax_B) (SL : List (Nat × String)) (y : Nat) : Nat → List ax_I → Bool
  | _, [] => true
  | pc, q :: t => decide (q.1 = pc) && (decide (q.2.1 = .nop) || ax_dk (MT y).2.1 q) && ax_okb cl wd NM MT BL SL y q && ax_vb cl wd NM MT BL SL y (pc + ax_ln q.2.1) t
theorem ax_wok_in {wd : Nat → Nat → Option Jvm.Cond} {x : List Nat} {f : Jvm.Cond → Bool} (h : ax_wok wd x f = true) : ∃ k j w, wd k j = some w ∧ (w.onTables && w.keeps) = true ∧ f w = true := by
  unfold ax_wok at h
  split at h
  · next k j =>
    split at h
    · next w hw =>
      rw [Bool.and_eq_true] at h
      exact ⟨k, j, w, hw, h.1, h.2⟩
    · cases h
  · cases h
theorem ax_tg_spec {BL : Nat → ax_B} {y pc : Nat} {off : Int} {x : List Nat} (h : ax_tg BL y pc off x = true) : ∃ lb ks, x = lb :: ks ∧ (BL lb).1 = y ∧ (pc : Int) + off = ((BL lb).2.1 : Int) ∧ (BL lb).2.2.1 = ks ∧ ks.head? ≠ some 999 := by
  unfold ax_tg at h
  split at h
  · simp only [Bool.and_eq_true, decide_eq_true_eq] at h
    exact ⟨_, _, rfl, h.1.1.1, h.1.1.2, h.1.2, h.2⟩
  · cases h
section AXS
variable {p : Program} {l : Launch} {e : Env} {s : State} {m : MethodId} {args : Array Value} {below : List Frame} {meth : Method} {c : Code}
variable {Dg : va_G} {cl : List vw_C} {A : Nat → Prop} {cA : Nat → ClassId} {ad : Nat → Nat} {sh : Nat → ax_C} {N : Nat} {X : State → Prop} {Ts : List Jvm.Cond} {wd : Nat → Nat → Option Jvm.Cond} {NM : Nat} {MT : Nat → ax_D} {BL : Nat → ax_B} {EN : Nat → Nat} {J : ax_J} {y : Nat}
/-- the real machine at that place, with those locals, that stack and those cells, comes to that end -/
def ax_Z (p : Program) (l : Launch) (e : Env) (R : Room) (s : State) (m : MethodId) (args : Array Value) (below : List Frame) (meth : Method) (c : Code) (Dg : va_G) (cl : List vw_C) (A : Nat → Prop) (cA : Nat → ClassId) (ad : Nat → Nat) (sh : Nat → ax_C) (N nL : Nat) (z : Option Value × ax_M) (pc : Nat) (lv : ax_L) (st : List Value) (μ : ax_M) : Prop :=
  ∀ (H : Heap) (locs : List Loc) (ls : Array Slot), ax_W Dg cl A cA ad sh N μ H → va_S A s.heap H locs → lv_has ls nL (ax_ml ad lv) → W p l e R s m args below meth c H locs 0 0 (MQ below (ax_Q Dg cl A cA ad sh N z.1 z.2) args s 0 0 A) (F0 m pc ls (st.map (ax_rv ad)))
/-- what is so of the program at hand -/
def ax_OK (cl : List vw_C) (sh : Nat → ax_C) (N : Nat) (Ts : List Jvm.Cond) (wd : Nat → Nat → Option Jvm.Cond) (NM : Nat) (MT : Nat → ax_D) : Prop :=
  (∀ k j w, wd k j = some w → (w.onTables && w.keeps) = true → w ∈ Ts) ∧ (∀ w ∈ Ts, (w.onTables && w.keeps) = true) ∧
  (∀ o, (sh o).1 ≤ 6 → o < N) ∧
  (∀ (ci : Nat) (r : vw_C), cl[ci]? = some r → (∀ w ∈ u_ws r.1 r.2.1 r.2.2, w ∈ Ts) ∧ (∃ ty : Nat → FieldType, ∀ k, k < r.2.2 → parseFieldDescriptor (r.2.1 k).2.2.1 = some (ty k)) ∧ ∀ a, a < r.2.2 → ∀ b, b < r.2.2 → a ≠ b → (r.2.1 a).2.1 ≠ (r.2.1 b).2.1) ∧
  (∀ o, (sh o).1 = 0 → ∀ r : vw_C, cl[(sh o).2.1]? = some r → (sh o).2.2.length = r.2.2 ∧ ∀ (k : Nat) (q : Nat × Nat), (sh o).2.2[k]? = some q → (q.1 = 0 → (r.2.1 k).2.2.1 = "I") ∧ (q.1 = 1 → (r.2.1 k).2.2.1 = "J") ∧ (q.1 = 3 → (r.2.1 k).2.2.1 = "Z")) ∧
  (∀ z, z < NM → Jvm.Cond.code (MT z).1 (MT z).2.1 (MT z).2.2.1 (MT z).2.2.2.1 ∈ Ts ∧ Jvm.Cond.initialized (MT z).1.cls ∈ Ts ∧ (MT z).2.2.1 ≤ 40 ∧ plainName (MT z).1.cls = true ∧ (MT z).1.cls ≠ "java/lang/invoke/MethodHandle" ∧ (MT z).1.cls ≠ "java/lang/invoke/VarHandle") ∧
  Jvm.Cond.initialized "java/lang/Math" ∈ Ts ∧ Jvm.Cond.initialized "java/lang/System" ∈ Ts ∧ nativeFrameWords "java/lang/System" "arraycopy" 5 + 19 ≤ 60 ∧ (∀ k : Nat, 99 ≤ k → cl[k]? = none) ∧ (∀ o, (sh o).1 = 0 → (sh o).2.1 < 99)
end AXS
