/-! cn: the constructors -/
def cn_nl : List Jvm.Cond := [(Jvm.Cond.methodLinkNest "AskingFragments" (24 : Nat) ({ cls := "AskingFragments$Net", name := "<init>", desc := "()V" } : Jvm.MethodName) "AskingFragments"), (Jvm.Cond.methodLinkNest "AskingFragments" (34 : Nat) ({ cls := "AskingFragments$Rule", name := "<init>", desc := "()V" } : Jvm.MethodName) "AskingFragments"), (Jvm.Cond.methodLinkNest "AskingFragments$Image" (9 : Nat) ({ cls := "AskingFragments$Net", name := "<init>", desc := "()V" } : Jvm.MethodName) "AskingFragments"), (Jvm.Cond.methodLinkNest "AskingFragments$Image" (18 : Nat) ({ cls := "AskingFragments$Rule", name := "<init>", desc := "()V" } : Jvm.MethodName) "AskingFragments"), (Jvm.Cond.methodLinkNest "AskingFragments" (74 : Nat) ({ cls := "AskingFragments$Spelling", name := "<init>", desc := "()V" } : Jvm.MethodName) "AskingFragments")]
def cn_X (U : State) : Prop := (∀ w ∈ cn_nl, va_Nw w U) ∧ va_AO "AskingFragments$Run" U ∧ va_AO "AskingFragments$Image" U
theorem cn_nl_ok : ∀ w ∈ cn_nl, ∃ a i x h, w = .methodLinkNest a i x h := by
  intro w hw
  simp only [cn_nl, List.mem_cons, List.not_mem_nil, or_false] at hw
  rcases hw with rfl | rfl | rfl | rfl | rfl <;> exact ⟨_, _, _, _, rfl⟩
theorem cn_Xf (U : State) (g : JFrame) (mk : MethodId) (a : Array Value) (h : cn_X U) : cn_X (U.calling g mk a) := by
  refine ⟨fun w hw => ?_, va_AO.moved (u := U) (U := U.calling g mk a) (Vm.Alike.refl U.vm) h.2.1, va_AO.moved (u := U) (U := U.calling g mk a) (Vm.Alike.refl U.vm) h.2.2⟩
  obtain ⟨a9, i, x, hh, rfl⟩ := cn_nl_ok w hw
  exact va_Nw.same rfl (u := U) rfl (h.1 _ hw)
theorem cn_Xc {s U : State} (h : cn_X s) (hW : s.WarmedH U.vm) : cn_X U := by
  refine ⟨fun w hw => ?_, va_AO.moved hW.alike h.2.1, va_AO.moved hW.alike h.2.2⟩
  obtain ⟨a9, i, x, hh, rfl⟩ := cn_nl_ok w hw
  exact va_Nw.warmM hW (h.1 _ hw)
def cn_P (Dg : va_G) (A : Nat → Prop) (cA : Nat → ClassId) (ad : Nat → Nat) (sh : Nat → ax_C) (N : Nat) (μ : ax_M) (as : List Value) : Array Value → State → Prop := fun v U => v = as.toArray ∧ cx_W Dg ax_cl A cA ad sh N μ U.heap ∧ va_K Dg ax_cl (ax_ty cA) U ∧ (∀ q, U.heap.size ≤ q → A q) ∧ cn_X U
theorem cn_blind {A : Nat → Prop} {Dg : va_G} {cA : Nat → ClassId} {ad : Nat → Nat} {sh : Nat → ax_C} {N : Nat} {as : List Value} {μ : ax_M} : FrameBlind (cn_P Dg A cA ad sh N μ as) :=
  fun a U g mk h => ⟨h.1, h.2.1, va_K.moved (u := U) (U := U.calling g mk a) (Vm.Alike.refl U.vm) h.2.2.1, h.2.2.2.1, cn_Xf _ _ _ _ h.2.2.2.2⟩
def cn_Q (Dg : va_G) (A : Nat → Prop) (cA : Nat → ClassId) (ad : Nat → Nat) (N : Nat) (sh' : Nat → ax_C) (N' : Nat) (μ' : ax_M) : Array Value → State → Outcome → State → Prop := va_Qv (fun ad' : Nat → Nat => ∀ o, o < N → ad' o = ad o) (fun ad' U => cx_W Dg ax_cl A cA ad' sh' N' μ' U.heap) A
theorem cn_ext {ad : Nat → Nat} {N q o : Nat} (h : o < N) : cx_ext ad N q o = ad o := if_neg (Nat.ne_of_lt h)
theorem cn_ext_at {ad : Nat → Nat} {N q : Nat} : cx_ext ad N q N = q := if_pos rfl
theorem cn_set_at {sh : Nat → ax_C} {o : Nat} {c : ax_C} : cx_set sh o c o = c := if_pos rfl
theorem cn_set_ne {sh : Nat → ax_C} {o b : Nat} {c : ax_C} (h : b ≠ o) : cx_set sh o c b = sh b := if_neg h
theorem cn_objC {s : State} {args : Array Value} (hts : ∀ w ∈ ax_Ts, w.before args s = true) : (Jvm.Cond.instanceMethod Lib.objectInit).before args s = true ∧ (Jvm.Cond.code Lib.objectInit ⟨#[0xb1]⟩ 1 none).before args s = true :=
  ⟨hts _ (ax_in (ax_wl_at (k := 1) (j := 26) rfl) rfl), hts _ (ax_in (ax_wl_at (k := 1) (j := 27) rfl) rfl)⟩
section CNR
variable {p : Program} {l : Launch} {e : Env} {R : Room} {s : State} {m : MethodId} {args : Array Value} {below : List Frame} {meth : Method} {c : Code} {H : Heap} {locs : List Loc} {cells slots : Nat} {Q : State → Prop}
variable {cc : ByteArray} {pc : Nat} {ls : Array Slot} {rest : List Value} {Dg : va_G} {cl : List vw_C} {A : Nat → Prop} {cA : Nat → ClassId} {ad : Nat → Nat} {sh : Nat → ax_C} {N : Nat} {μ : ax_M} {Ts : List Jvm.Cond}
theorem cn_putq (hexec : p.tables.exec = Jvm.exec) (hb : c.code = cc) {own C : String} {T : u_T} {n index ci o k t : Nat} {fs : List (Nat × Nat)} {a b : Nat} (ea : ad o = a) (eb : ad t = b) (hts : ∀ w ∈ Ts, w.before args s = true) (hin : ∀ w ∈ u_ws C T n, w ∈ Ts) (ty0 : Nat → FieldType) (hty : ∀ k, k < n → parseFieldDescriptor (T k).2.2.1 = some (ty0 k)) (hnm : ∀ a, a < n → ∀ b, b < n → a ≠ b → (T a).2.1 ≠ (T b).2.1) (hown : s.vm.findClass own = some m.cls) (hK : va_K Dg cl (ax_ty cA) s) (hc : cl[ci]? = some (C, T, n)) (hW : cx_W Dg cl A cA ad sh N μ H) (hS : va_S A s.heap H locs)
    (ho : o < N) (hso : sh o = (0, ci, fs)) (hk : k < n) (hlen : fs.length = n) (ht : t < N) (hlink : (Jvm.Cond.fieldLink own index (T k).1 (T k).2.1 (T k).2.2.1).before args s = true) (hfin : (T k).2.2.2 = true) (hin2 : meth.name = "<init>") (hdecl : (T k).1 = own) {ty : FieldType} (hd : parseFieldDescriptor (T k).2.2.1 = some ty) (hn : narrow ty (.ref b) = .ref b) (hfit : fits ty (.ref b) = true) (hdg : decode cc pc = .ok (.putfield index, 3))
    (kk : ∀ (H1 : Heap) (locs1 : List Loc) (sh1 : Nat → ax_C), sh1 = cx_set sh o (0, ci, fs.set k (2, t)) → cx_W Dg cl A cA ad sh1 N μ H1 → va_S A s.heap H1 locs1 → W p l e R s m args below meth c H1 locs1 cells slots Q (F0 m (pc + 3) ls rest)) : W p l e R s m args below meth c H locs cells slots Q (F0 m pc ls (.ref b :: .ref a :: rest)) := by
  subst ea; subst eb
  exact cx_putq hexec hb hts hin ty0 hty hnm hown hK hc hW hS ho hso hk hlen ht hlink hfin hin2 hdecl hd hn hfit hdg (fun H1 locs1 hW1 hS1 => kk H1 locs1 _ rfl hW1 hS1)
theorem cn_puti (hexec : p.tables.exec = Jvm.exec) (hb : c.code = cc) {own C : String} {T : u_T} {n index ci o k : Nat} {fs : List (Nat × Nat)} {v : Int32} {a : Nat} (ea : ad o = a) (hts : ∀ w ∈ Ts, w.before args s = true) (hin : ∀ w ∈ u_ws C T n, w ∈ Ts) (ty0 : Nat → FieldType) (hty : ∀ k, k < n → parseFieldDescriptor (T k).2.2.1 = some (ty0 k)) (hnm : ∀ a, a < n → ∀ b, b < n → a ≠ b → (T a).2.1 ≠ (T b).2.1) (hown : s.vm.findClass own = some m.cls) (hK : va_K Dg cl (ax_ty cA) s) (hc : cl[ci]? = some (C, T, n)) (hW : cx_W Dg cl A cA ad sh N μ H) (hS : va_S A s.heap H locs)
    (ho : o < N) (hso : sh o = (0, ci, fs)) (hk : k < n) (hlen : fs.length = n) (hkd : fs[k]? = some (0, 0)) (hlink : (Jvm.Cond.fieldLink own index (T k).1 (T k).2.1 (T k).2.2.1).before args s = true) (hfin : (T k).2.2.2 = false) (hd : parseFieldDescriptor (T k).2.2.1 = some .int) (hdg : decode cc pc = .ok (.putfield index, 3))
    (kk : ∀ (H1 : Heap) (locs1 : List Loc) (μ1 : ax_M), μ1 = (ax_up μ.1 o k v, μ.2) → cx_W Dg cl A cA ad sh N μ1 H1 → va_S A s.heap H1 locs1 → W p l e R s m args below meth c H1 locs1 cells slots Q (F0 m (pc + 3) ls rest)) : W p l e R s m args below meth c H locs cells slots Q (F0 m pc ls (.int v :: .ref a :: rest)) := by
  subst ea
  exact cx_puti hexec hb hts hin ty0 hty hnm hown hK hc hW hS ho hso hk hlen hkd hlink hfin hd hdg (fun H1 locs1 hW1 hS1 => kk H1 locs1 _ rfl hW1 hS1)
theorem cn_astq (hexec : p.tables.exec = Jvm.exec) (hb : c.code = cc) (hK : va_K Dg cl (ax_ty cA) s) (hW : cx_W Dg cl A cA ad sh N μ H) (hS : va_S A s.heap H locs) {o t ty len ci : Nat} {fs : List (Nat × Nat)} {C : String} {T : u_T} {n : Nat} {ts : List (Nat × Nat)} {a b : Nat} (ea : ad o = a) (eb : ad t = b) (hty : ty = 5 ∨ ty = 6) (hty2 : (ax_ty cA)[ty - 1]? = some (cA ty, .object C)) (ho : o < N) (hso : sh o = (ty, len, ts)) (ht : t < N) (hst : sh t = (0, ci, fs)) (hc : cl[ci]? = some (C, T, n)) {i : Int32} (hi : i.toNatClampNeg = ts.length) (h0 : ¬ i < 0) (hlt : ts.length < len) (hdg : decode cc pc = .ok (.aastore, 1))
    (kk : ∀ (H1 : Heap) (locs1 : List Loc) (sh1 : Nat → ax_C), sh1 = cx_set sh o (ty, len, ts ++ [(2, t)]) → cx_W Dg cl A cA ad sh1 N μ H1 → va_S A s.heap H1 locs1 → W p l e R s m args below meth c H1 locs1 cells slots Q (F0 m (pc + 1) ls rest)) : W p l e R s m args below meth c H locs cells slots Q (F0 m pc ls (.ref b :: .int i :: .ref a :: rest)) := by
  subst ea; subst eb
  exact cx_astq hexec hb hK hW hS hty hty2 ho hso ht hst hc hi h0 hlt hdg (fun H1 locs1 hW1 hS1 => kk H1 locs1 _ rfl hW1 hS1)
theorem cn_getq (hexec : p.tables.exec = Jvm.exec) (hb : c.code = cc) {own C : String} {T : u_T} {n index ci o k t : Nat} {fs : List (Nat × Nat)} {a b : Nat} (ea : ad o = a) (eb : ad t = b) (hts : ∀ w ∈ Ts, w.before args s = true) (hin : ∀ w ∈ u_ws C T n, w ∈ Ts) (hown : s.vm.findClass own = some m.cls) (hK : va_K Dg cl (ax_ty cA) s) (hc : cl[ci]? = some (C, T, n)) (hW : cx_W Dg cl A cA ad sh N μ H) (ho : o < N) (hso : sh o = (0, ci, fs)) (hk : k < n) (hkd : fs[k]? = some (2, t)) (hlink : (Jvm.Cond.fieldLink own index (T k).1 (T k).2.1 (T k).2.2.1).before args s = true) (hdg : decode cc pc = .ok (.getfield index, 3))
    (kk : W p l e R s m args below meth c H locs cells slots Q (F0 m (pc + 3) ls (.ref b :: rest))) : W p l e R s m args below meth c H locs cells slots Q (F0 m pc ls (.ref a :: rest)) := by
  subst ea; subst eb
  exact cx_getq hexec hb hts hin hown hK hc hW ho hso hk hkd hlink hdg kk
theorem cn_alen (hexec : p.tables.exec = Jvm.exec) (hb : c.code = cc) (hK : va_K Dg cl (ax_ty cA) s) (hW : cx_W Dg cl A cA ad sh N μ H) {o ty len : Nat} {ts : List (Nat × Nat)} {a : Nat} (ea : ad o = a) (hty : ty = 5 ∨ ty = 6) (ho : o < N) (hso : sh o = (ty, len, ts)) {v : Int32} (hv : Int32.ofNat len = v) (hdg : decode cc pc = .ok (.arraylength, 1))
    (kk : W p l e R s m args below meth c H locs cells slots Q (F0 m (pc + 1) ls (.int v :: rest))) : W p l e R s m args below meth c H locs cells slots Q (F0 m pc ls (.ref a :: rest)) := by
  subst ea
  exact cx_alen hexec hb hK hW hty ho hso hv hdg kk
theorem cn_newa (hexec : p.tables.exec = Jvm.exec) (hb : c.code = cc) {atype : ArrayType} (harr : (Jvm.Cond.arrayClass (newarray.typeOf atype)).before args s = true) (t : Nat) (ht : t = 1 ∨ t = 2 ∨ t = 3 ∨ t = 4) (hty : (ax_ty cA)[t - 1]? = some (cA t, newarray.typeOf atype)) (hd : defaultValue (newarray.typeOf atype) = if t = 4 then .long 0 else .int 0)
    (hK : va_K Dg cl (ax_ty cA) s) (hW : cx_W Dg cl A cA ad sh N μ H) (hS : va_S A s.heap H locs) (hA : ∀ q, s.heap.size ≤ q → A q) (hμ : μ.1 N = (fun _ => 0) ∧ μ.2 N = (fun _ => 0)) {n : Int32} {len : Nat} (hn : ¬ n < 0) (hN : n.toNatClampNeg = len) (hbytes : len * componentBytes (newarray.typeOf atype) ≤ 536870912) (hcells : cells + 1 ≤ R.cells) (hslots : slots + len ≤ R.slots) (hdg : decode cc pc = .ok (.newarray atype, 2))
    (kk : ∀ (q : Nat) (H1 : Heap) (ad1 : Nat → Nat) (sh1 : Nat → ax_C) (N1 : Nat), ad1 = cx_ext ad N q → sh1 = cx_set sh N (t, len, []) → N1 = N + 1 → cx_W Dg cl A cA ad1 sh1 N1 μ H1 → va_S A s.heap H1 locs → W p l e R s m args below meth c H1 locs (cells + 1) (slots + len) Q (F0 m (pc + 2) ls (.ref q :: rest))) : W p l e R s m args below meth c H locs cells slots Q (F0 m pc ls (.int n :: rest)) := cx_newa hexec hb harr t ht hty hd hK hW hS hA hμ hn hN hbytes hcells hslots hdg (fun q H1 hW1 hS1 => kk q H1 _ _ _ rfl rfl rfl hW1 hS1)
theorem cn_new (hexec : p.tables.exec = Jvm.exec) (hb : c.code = cc) {own : String} {index ci n : Nat} {C : String} {T : u_T} (hts : ∀ w ∈ Ts, w.before args s = true) (hin : ∀ w ∈ u_ws C T n, w ∈ Ts) (ty : Nat → FieldType) (hty : ∀ k, k < n → parseFieldDescriptor (T k).2.2.1 = some (ty k)) (hown : s.vm.findClass own = some m.cls) (hlk : (Jvm.Cond.classLink own index C).before args s = true) (hinst : (Jvm.Cond.instantiable C n).before args s = true) (hini : (Jvm.Cond.initialized C).before args s = true)
    (hK : va_K Dg cl (ax_ty cA) s) (hc : cl[ci]? = some (C, T, n)) (hW : cx_W Dg cl A cA ad sh N μ H) (hS : va_S A s.heap H locs) (hA : ∀ q, s.heap.size ≤ q → A q) (hμ : ∀ k, μ.1 N k = 0 ∧ μ.2 N k = 0) {fs : List (Nat × Nat)} (hf0 : ∀ q ∈ fs, q.2 = 0 ∧ q.1 ≠ 2) (hfs : ∀ j, j < n → defaultValue (ty j) = vp_V (fs.map cx_dv) j) (hcells : cells + 1 ≤ R.cells) (hslots : slots + n ≤ R.slots) (hdg : decode cc pc = .ok (.new index, 3))
    (kk : ∀ (q : Nat) (H1 : Heap) (ad1 : Nat → Nat) (sh1 : Nat → ax_C) (N1 : Nat), ad1 = cx_ext ad N q → sh1 = cx_set sh N (0, ci, fs) → N1 = N + 1 → cx_W Dg cl A cA ad1 sh1 N1 μ H1 → va_S A s.heap H1 locs → W p l e R s m args below meth c H1 locs (cells + 1) (slots + n) Q (F0 m (pc + 3) ls (.ref q :: rest))) : W p l e R s m args below meth c H locs cells slots Q (F0 m pc ls rest) := cx_new hexec hb hts hin ty hty hown hlk hinst hini hK hc hW hS hA hμ hf0 hfs hcells hslots hdg (fun q H1 hW1 hS1 => kk q H1 _ _ _ rfl rfl rfl hW1 hS1)
theorem cn_newq (hexec : p.tables.exec = Jvm.exec) (hb : c.code = cc) {own C : String} {index : Nat} (hown : s.vm.findClass own = some m.cls) (hlk : (Jvm.Cond.classLink own index C).before args s = true) (hover : va_AO C s) (t : Nat) (ht : t = 5 ∨ t = 6) (hty : (ax_ty cA)[t - 1]? = some (cA t, .object C))
    (hK : va_K Dg cl (ax_ty cA) s) (hW : cx_W Dg cl A cA ad sh N μ H) (hS : va_S A s.heap H locs) (hA : ∀ q, s.heap.size ≤ q → A q) {n : Int32} {len : Nat} (hn : ¬ n < 0) (hN : n.toNatClampNeg = len) (hbytes : len * 4 ≤ 536870912) (hcells : cells + 1 ≤ R.cells) (hslots : slots + len ≤ R.slots) (hdg : decode cc pc = .ok (.anewarray index, 3))
    (kk : ∀ (q : Nat) (H1 : Heap) (ad1 : Nat → Nat) (sh1 : Nat → ax_C) (N1 : Nat), ad1 = cx_ext ad N q → sh1 = cx_set sh N (t, len, []) → N1 = N + 1 → cx_W Dg cl A cA ad1 sh1 N1 μ H1 → va_S A s.heap H1 locs → W p l e R s m args below meth c H1 locs (cells + 1) (slots + len) Q (F0 m (pc + 3) ls (.ref q :: rest))) : W p l e R s m args below meth c H locs cells slots Q (F0 m pc ls (.int n :: rest)) := cx_newq hexec hb hown hlk hover t ht hty hK hW hS hA hn hN hbytes hcells hslots hdg (fun q H1 hW1 hS1 => kk q H1 _ _ _ rfl rfl rfl hW1 hS1)
end CNR
theorem cn_hm {μ μ1 : ax_M} {N o k : Nat} {v : Int32} (e : μ1 = (ax_up μ.1 o k v, μ.2)) (ho : o < N) (h : ∀ a, N ≤ a → μ.1 a = (fun _ => 0) ∧ μ.2 a = (fun _ => 0)) : ∀ a, N ≤ a → μ1.1 a = (fun _ => 0) ∧ μ1.2 a = (fun _ => 0) := by
  intro a ha
  subst e
  exact ⟨(ax_up_ne (by omega)).trans (h a ha).1, (h a ha).2⟩
def cn_Ts : List Jvm.Cond := .arrayClass .byte :: .arrayClass .int :: .arrayClass .long :: .arrayClass .boolean :: ax_Ts
theorem cn_Ts_in {w : Jvm.Cond} (h : w ∈ ax_Ts) : w ∈ cn_Ts := List.mem_cons_of_mem _ (List.mem_cons_of_mem _ (List.mem_cons_of_mem _ (List.mem_cons_of_mem _ h)))
theorem cn_Ts_ok {w : Jvm.Cond} (h : w ∈ cn_Ts) : (w.onTables && w.keeps) = true ∨ ∃ ty, w = .arrayClass ty := by
  rcases List.mem_cons.mp h with rfl | h
  · exact Or.inr ⟨_, rfl⟩
  rcases List.mem_cons.mp h with rfl | h
  · exact Or.inr ⟨_, rfl⟩
  rcases List.mem_cons.mp h with rfl | h
  · exact Or.inr ⟨_, rfl⟩
  rcases List.mem_cons.mp h with rfl | h
  · exact Or.inr ⟨_, rfl⟩
  exact Or.inl (List.mem_filter.mp h).2
theorem cn_good {d : ax_D} (h : Jvm.Cond.code d.1 d.2.1 d.2.2.1 d.2.2.2.1 ∈ ax_Ts) : GoodIn cn_Ts (ax_ws cn_Ts d) := fun w hw => by
  rcases List.mem_cons.mp hw with rfl | hw
  · exact ⟨cn_Ts_in h, cn_Ts_ok (cn_Ts_in h)⟩
  · exact ⟨hw, cn_Ts_ok hw⟩
section CNC
variable {p : Program} {l : Launch} {e : Env} {R : Room} {s : State} {m : MethodId} {args : Array Value} {below : List Frame} {meth : Method} {c : Code} {H : Heap} {locs : List Loc} {cells slots : Nat} {Q : State → Prop}
variable {cc : ByteArray} {pc nL : Nat} {ls : Array Slot} {rest : List Value} {Dg : va_G} {A : Nat → Prop} {cA : Nat → ClassId} {ad : Nat → Nat} {sh : Nat → ax_C} {N : Nat} {μ : ax_M}
/-- a constructor's call -/
theorem cn_call (hexec : p.tables.exec = Jvm.exec) (hb : c.code = cc) (hml : c.maxLocals = nL) {own host : String} {index : Nat} (hown : s.vm.findClass own = some m.cls) (htn : ∀ w ∈ cn_Ts, w.before args s = true) {d : ax_D} {rm : Room} {b mc ms : Nat} {As : List Value} {sh' : Nat → ax_C} {N' : Nat}
    (hM : Met l d.1 (ax_ws cn_Ts d) rm (cn_P Dg A cA ad sh N μ (.ref b :: As)) (cn_Q Dg A cA ad N sh' N' μ) mc ms A) (hret : d.2.2.2.1 = none) (hrc : rm.cells = mc ∧ rm.slots = ms) (hcode : Jvm.Cond.code d.1 d.2.1 d.2.2.1 d.2.2.2.1 ∈ ax_Ts) (hini : Jvm.Cond.initialized d.1.cls ∈ ax_Ts) (hlk : (Jvm.Cond.methodLink own index d.1).before args s = true ∨ va_Nw (.methodLinkNest own index d.1 host) s)
    (hname : d.1.name = "<init>") (hinst : Jvm.Cond.instanceMethod d.1 ∈ ax_Ts) (hd : d.1.cls ≠ "java/lang/invoke/MethodHandle" ∧ d.1.cls ≠ "java/lang/invoke/VarHandle" ∧ (parseMethodDescriptor d.1.desc).map (fun d => d.parameters.length) = some As.length) (hR : rm.frames + 1 ≤ R.frames ∧ 8 + (d.2.2.1 + 11) + rm.locals ≤ R.locals)
    (hK : va_K Dg ax_cl (ax_ty cA) s) (hW : cx_W Dg ax_cl A cA ad sh N μ H) (hS : va_S A s.heap H locs) (hA : ∀ q, s.heap.size ≤ q → A q) (hX : cn_X s) {st0 : List Value} (hst : st0 = As.reverse ++ .ref b :: rest) (hls : ls.size = nL) (hfit : (rest.map fun v => v.category).sum ≤ 8) (hdg : decode cc pc = .ok (.invokespecial index, 3)) (hf : cells + mc ≤ R.cells ∧ slots + ms ≤ R.slots)
    (kk : ∀ (H1 : Heap) (locs1 : List Loc) (ad1 : Nat → Nat) (sh1 : Nat → ax_C) (N1 : Nat), (∀ o, o < N → ad1 o = ad o) → sh1 = sh' → N1 = N' → cx_W Dg ax_cl A cA ad1 sh1 N1 μ H1 → va_S A s.heap H1 locs1 → W p l e R s m args below meth c H1 locs1 (cells + mc) (slots + ms) Q (F0 m (pc + 3) ls rest)) : W p l e R s m args below meth c H locs cells slots Q (F0 m pc ls st0) := by
  have hp : PreS s H (cn_P Dg A cA ad sh N μ (.ref b :: As)) (.ref b :: As) := ⟨cn_blind, fun U hU hWm => ⟨rfl, by rw [hU]; exact hW, va_K.moved hWm.alike hK, fun q hq => hA q (Nat.le_trans hS.1 (by rw [← hU]; exact hq)), cn_Xc hX hWm⟩⟩
  have hrun : va_Run p l e R s m args below meth c H locs cells slots mc ms (F0 m pc ls st0) rest (cn_Q Dg A cA ad N sh' N' μ (Value.ref b :: As).toArray) A := by
    have hfit' : 2 * (F0 m pc ls st0).monitorRoom + (rest.map fun v => v.category).sum ≤ 8 := by simpa [JFrame.monitorRoom] using hfit
    rcases hlk with hlk | hlk
    · have cw : CallB R s args own index d.1 d.2.1 d.2.2.1 none (ax_ws cn_Ts d) rm mc ms As.length := callB_of As.length htn (cn_good hcode) (by rw [← hret]; rfl) hrc.1 hrc.2 (htn _ (cn_Ts_in hini)) hlk hd hR
      exact va_runI ⟨hexec, hb, hml, hown, htn⟩ hM ⟨cw, hname, htn _ (cn_Ts_in hinst)⟩ hp rfl rfl hls hst hfit' hdg hf
    · have cw : va_CN R s args own index d.1 host d.2.1 d.2.2.1 none (ax_ws cn_Ts d) rm mc ms As.length := va_cnB As.length htn (cn_good hcode) (by rw [← hret]; rfl) hrc.1 hrc.2 hlk (htn _ (cn_Ts_in hini)) hd hR
      exact va_runIN ⟨hexec, hb, hml, hown, htn⟩ hM ⟨cw, hname, htn _ (cn_Ts_in hinst)⟩ hp rfl rfl hls hst hfit' hdg hf
  refine va_callv hrun hS (fun _ _ q => q) (fun _ q => q) (fun ad1 t H1 locs1 e1 _ hp hb2 _ _ hS1 => ?_)
  exact kk H1 locs1 ad1 sh' N' hp rfl rfl (by rw [← e1]; exact hb2) hS1
end CNC
theorem cn_h0 {μ : ax_M} {N : Nat} (h : μ.1 N = (fun _ => 0) ∧ μ.2 N = (fun _ => 0)) : ∀ k, μ.1 N k = 0 ∧ μ.2 N k = 0 := fun k => by rw [h.1, h.2]; exact ⟨rfl, rfl⟩
def cn_tF : Nat → FieldType := fun k => (parseFieldDescriptor (aT_F k).2.2.1).getD .int
theorem cn_yF : ∀ k, k < 17 → parseFieldDescriptor (aT_F k).2.2.1 = some (cn_tF k) := by decide +kernel
theorem cn_fF : ∀ j, j < 17 → defaultValue (cn_tF j) = vp_V ([(4, 0), (0, 0), (4, 0), (4, 0), (4, 0), (4, 0), (4, 0), (4, 0), (4, 0), (4, 0), (0, 0), (0, 0), (4, 0), (4, 0), (4, 0), (0, 0), (0, 0)].map cx_dv) j := by decide +kernel
def cn_tForest : Nat → FieldType := fun k => (parseFieldDescriptor (aT_Forest k).2.2.1).getD .int
theorem cn_yForest : ∀ k, k < 6 → parseFieldDescriptor (aT_Forest k).2.2.1 = some (cn_tForest k) := by decide +kernel
theorem cn_fForest : ∀ j, j < 6 → defaultValue (cn_tForest j) = vp_V ([(4, 0), (4, 0), (4, 0), (0, 0), (0, 0), (0, 0)].map cx_dv) j := by decide +kernel
def cn_tImage : Nat → FieldType := fun k => (parseFieldDescriptor (aT_Image k).2.2.1).getD .int
theorem cn_yImage : ∀ k, k < 4 → parseFieldDescriptor (aT_Image k).2.2.1 = some (cn_tImage k) := by decide +kernel
theorem cn_fImage : ∀ j, j < 4 → defaultValue (cn_tImage j) = vp_V ([(4, 0), (4, 0), (4, 0), (3, 0)].map cx_dv) j := by decide +kernel
def cn_tNet : Nat → FieldType := fun k => (parseFieldDescriptor (aT_Net k).2.2.1).getD .int
theorem cn_yNet : ∀ k, k < 6 → parseFieldDescriptor (aT_Net k).2.2.1 = some (cn_tNet k) := by decide +kernel
theorem cn_fNet : ∀ j, j < 6 → defaultValue (cn_tNet j) = vp_V ([(0, 0), (0, 0), (4, 0), (4, 0), (4, 0), (4, 0)].map cx_dv) j := by decide +kernel
def cn_tReader : Nat → FieldType := fun k => (parseFieldDescriptor (aT_Reader k).2.2.1).getD .int
theorem cn_yReader : ∀ k, k < 10 → parseFieldDescriptor (aT_Reader k).2.2.1 = some (cn_tReader k) := by decide +kernel
theorem cn_fReader : ∀ j, j < 10 → defaultValue (cn_tReader j) = vp_V ([(4, 0), (0, 0), (0, 0), (0, 0), (0, 0), (0, 0), (0, 0), (0, 0), (0, 0), (0, 0)].map cx_dv) j := by decide +kernel
def cn_tRule : Nat → FieldType := fun k => (parseFieldDescriptor (aT_Rule k).2.2.1).getD .int
theorem cn_yRule : ∀ k, k < 9 → parseFieldDescriptor (aT_Rule k).2.2.1 = some (cn_tRule k) := by decide +kernel
theorem cn_fRule : ∀ j, j < 9 → defaultValue (cn_tRule j) = vp_V ([(0, 0), (4, 0), (4, 0), (4, 0), (4, 0), (4, 0), (4, 0), (4, 0), (0, 0)].map cx_dv) j := by decide +kernel
def cn_tRun : Nat → FieldType := fun k => (parseFieldDescriptor (aT_Run k).2.2.1).getD .int
theorem cn_yRun : ∀ k, k < 18 → parseFieldDescriptor (aT_Run k).2.2.1 = some (cn_tRun k) := by decide +kernel
theorem cn_fRun : ∀ j, j < 18 → defaultValue (cn_tRun j) = vp_V ([(4, 0), (4, 0), (4, 0), (4, 0), (4, 0), (4, 0), (4, 0), (4, 0), (4, 0), (4, 0), (4, 0), (0, 0), (0, 0), (0, 0), (0, 0), (0, 0), (0, 0), (0, 0)].map cx_dv) j := by decide +kernel
def cn_tSpell : Nat → FieldType := fun k => (parseFieldDescriptor (aT_Spell k).2.2.1).getD .int
theorem cn_ySpell : ∀ k, k < 2 → parseFieldDescriptor (aT_Spell k).2.2.1 = some (cn_tSpell k) := by decide +kernel
theorem cn_fSpell : ∀ j, j < 2 → defaultValue (cn_tSpell j) = vp_V ([(4, 0), (0, 0)].map cx_dv) j := by decide +kernel
def cn_tM : Nat → FieldType := fun k => (parseFieldDescriptor (aT_M k).2.2.1).getD .int
theorem cn_yM : ∀ k, k < 35 → parseFieldDescriptor (aT_M k).2.2.1 = some (cn_tM k) := by decide +kernel
theorem cn_fM : ∀ j, j < 35 → defaultValue (cn_tM j) = vp_V ([(0, 0), (4, 0), (0, 0), (0, 0), (0, 0), (0, 0), (0, 0), (0, 0), (0, 0), (0, 0), (0, 0), (0, 0), (1, 0), (0, 0), (4, 0), (4, 0), (4, 0), (4, 0), (4, 0), (4, 0), (4, 0), (4, 0), (4, 0), (4, 0), (0, 0), (4, 0), (4, 0), (4, 0), (4, 0), (4, 0), (0, 0), (0, 0), (0, 0), (4, 0), (0, 0)].map cx_dv) j := by decide +kernel
theorem cd_Spell_0 : decode prog_8_method_1_code 0 = .ok (.aload_n 0, 1) := by decide +kernel
theorem cd_Spell_1 : decode prog_8_method_1_code 1 = .ok (.invokespecial 3, 3) := by decide +kernel
theorem cd_Spell_4 : decode prog_8_method_1_code 4 = .ok (.aload_n 0, 1) := by decide +kernel
theorem cd_Spell_5 : decode prog_8_method_1_code 5 = .ok (.bipush (64), 2) := by decide +kernel
theorem cd_Spell_7 : decode prog_8_method_1_code 7 = .ok (.newarray .byte, 2) := by decide +kernel
theorem cd_Spell_9 : decode prog_8_method_1_code 9 = .ok (.putfield 9, 3) := by decide +kernel
theorem cd_Spell_12 : decode prog_8_method_1_code 12 = .ok (.return_, 1) := by decide +kernel
abbrev cn_d_Spell : ax_D := (⟨"AskingFragments$Spelling", "<init>", "()V"⟩, prog_8_method_1_code, 1, none, 1, 0)
theorem cn_p_Spell : (parseMethodDescriptor cn_d_Spell.1.desc).map (fun d => d.parameters.length) = some 0 := by decide +kernel
/-- the cells behind it -/
def cn_s_Spell (sh : Nat → ax_C) (N : Nat) (o : Nat) : Nat → ax_C := cx_set (cx_set (sh) N (2, 64, [])) o (0, 7, [(2, N), (0, 0)])
theorem cn_s_Spell_ne {sh : Nat → ax_C} {N o x : Nat} (h1 : x < N) (h2 : x ≠ o) : cn_s_Spell sh N o x = sh x := by
  unfold cn_s_Spell
  rw [cn_set_ne (by omega), cn_set_ne (by omega)]
theorem cn_s_Spell_at {sh : Nat → ax_C} {N o : Nat} : cn_s_Spell sh N o o = (0, 7, [(2, N), (0, 0)]) := cn_set_at
theorem cn_Spell (l : Launch) (Dg : va_G) (A : Nat → Prop) (cA : Nat → ClassId) (ad : Nat → Nat) (sh : Nat → ax_C) (N : Nat) (μ : ax_M) {o : Nat} {a : Nat} (e_a : ad o = a) (h_o : o < N) (hso : sh o = (0, 7, [(4, 0), (0, 0)])) (hμ : ∀ o, N ≤ o → μ.1 o = (fun _ => 0) ∧ μ.2 o = (fun _ => 0)) :
    Met l cn_d_Spell.1 (ax_ws cn_Ts cn_d_Spell) { frames := 1, cells := 1, slots := 64, locals := 60 } (cn_P Dg A cA ad sh N μ [.ref a]) (cn_Q Dg A cA ad N (cn_s_Spell sh N o) (N + 1) μ) 1 64 A := by
  refine Met.ofW (cc := prog_8_method_1_code) (maxL := 1) (ret := none) (by decide) rfl ?_
  intro p e s m args below meth c s₁ B hml hv
  obtain ⟨rfl, hW, hK, hA, hX⟩ := hv
  have hx := B.exec
  have hb := B.bytes
  have hr := B.returns
  have hlocks := B.notSynchronized
  have hin : meth.name = "<init>" := (name_of_methodNamed B.named B.method).1
  have hts0 := atoms_spec (ws := ax_ws cn_Ts cn_d_Spell) B.pre
  have htn : ∀ w ∈ cn_Ts, w.before ([.ref a] : List Value).toArray s = true := fun w hw => hts0 w (List.mem_cons_of_mem _ hw)
  have hts : ∀ w ∈ ax_Ts, w.before ([.ref a] : List Value).toArray s = true := fun w hw => htn w (cn_Ts_in hw)
  have hown : s.vm.findClass "AskingFragments$Spelling" = some m.cls := findClass_of_methodNamed B.named
  have hS : va_S A s.heap s.heap [] := va_S.rf
  have hoc := cn_objC hts
  have hl := lv_entry ([.ref a]) (n := 1) (Nat.le_of_ble_eq_true rfl)
  rw [lg_entry_eq]
  generalize (lg_sl ([.ref a]) ++ List.replicate (1 - (lg_sl ([.ref a])).length) Slot.unset).toArray = ls at hl ⊢
  have hl : lv_has ls 1 [(0, .ref a)] := hl
  refine lv_aload_n hx hb cd_Spell_0 rfl (lv_at hl 0 rfl) ?_
  refine W.objInit hx hb hown (hts (.methodLink "AskingFragments$Spelling" 3 Lib.objectInit) (ax_in (ax_wl_at (k := 2) (j := 45) rfl) rfl)) hoc.1 hoc.2 rfl (by rw [hml]; exact hl.1) rfl cd_Spell_1 (Nat.le_of_ble_eq_true rfl) (Nat.le_of_ble_eq_true rfl) ?_
  refine W.eq (g2 := F0 m 4 ls []) rfl ?_
  refine lv_aload_n hx hb cd_Spell_4 rfl (lv_at hl 0 rfl) ?_
  refine lv_bipush hx hb cd_Spell_5 (v := (64)) rfl ?_
  refine cn_newa (len := 64) hx hb (htn _ (List.mem_of_getElem? (i := 0) rfl)) 2 (by decide) rfl rfl hK hW hS hA (hμ _ (by omega)) (by decide) rfl (by decide) (Nat.le_of_ble_eq_true rfl) (Nat.le_of_ble_eq_true rfl) cd_Spell_7 (fun q1 H1 ad1 sh1 N1 had1 hsh1 hN1 hW1 hS1 => ?_)
  obtain rfl : N1 = (N + 1) := by omega
  clear hN1
  have e_a_1 : ad1 o = a := by rw [had1, cn_ext (by omega)]; exact e_a
  have e_q1_1 : ad1 N = q1 := by rw [had1]; exact cn_ext_at
  have hb1 : ∀ x, x < N → ad1 x = ad x := fun x hx => by rw [had1, cn_ext (by omega)]
  have hs_o_1 : sh1 o = (0, 7, [(4, 0), (0, 0)]) := by rw [hsh1, cn_set_ne (by omega)]; exact hso
  have hs_N_1 : sh1 N = (2, 64, []) := by rw [hsh1]; exact cn_set_at
  refine cn_putq (ea := e_a_1) (eb := e_q1_1) (Ts := ax_Ts) (n := 2) (T := aT_Spell) (C := "AskingFragments$Spelling") (k := 0) hx hb hts aU_Spell (ty0 := cn_tSpell) cn_ySpell aN_Spell hown hK rfl hW1 hS1 (show o < (N + 1) by omega) hs_o_1 (by decide) rfl (show N < (N + 1) by omega) (hts _ (ax_in (ax_wl_at (k := 2) (j := 46) rfl) rfl)) rfl hin rfl rfl rfl rfl cd_Spell_9 (fun H2 locs2 sh2 hsh2 hW2 hS2 => ?_)
  have hs_o_2 : sh2 o = (0, 7, [(2, N), (0, 0)]) := by rw [hsh2]; exact cn_set_at
  have hWz : cx_W Dg ax_cl A cA ad1 (cn_s_Spell sh N o) (N + 1) μ H2 := by
    subst hsh2 hsh1
    exact hW2
  exact W.vret hx hb hr (fun t ht hWm => ⟨⟨ad1, rfl, hb1, by subst ht; exact hWz⟩, hS2.F ht⟩) hS2.2.2 cd_Spell_12
theorem cd_Reader_0 : decode prog_5_method_1_code 0 = .ok (.aload_n 0, 1) := by decide +kernel
theorem cd_Reader_1 : decode prog_5_method_1_code 1 = .ok (.invokespecial 3, 3) := by decide +kernel
theorem cd_Reader_4 : decode prog_5_method_1_code 4 = .ok (.aload_n 0, 1) := by decide +kernel
theorem cd_Reader_5 : decode prog_5_method_1_code 5 = .ok (.aload_n 1, 1) := by decide +kernel
theorem cd_Reader_6 : decode prog_5_method_1_code 6 = .ok (.putfield 9, 3) := by decide +kernel
theorem cd_Reader_9 : decode prog_5_method_1_code 9 = .ok (.return_, 1) := by decide +kernel
abbrev cn_d_Reader : ax_D := (⟨"AskingFragments$Reader", "<init>", "([B)V"⟩, prog_5_method_1_code, 2, none, 1, 0)
theorem cn_p_Reader : (parseMethodDescriptor cn_d_Reader.1.desc).map (fun d => d.parameters.length) = some 1 := by decide +kernel
/-- the cells behind it -/
def cn_s_Reader (sh : Nat → ax_C) (N : Nat) (o g0 : Nat) : Nat → ax_C := cx_set (sh) o (0, 4, [(2, g0), (0, 0), (0, 0), (0, 0), (0, 0), (0, 0), (0, 0), (0, 0), (0, 0), (0, 0)])
theorem cn_s_Reader_ne {sh : Nat → ax_C} {N o g0 x : Nat} (h1 : x < N) (h2 : x ≠ o) : cn_s_Reader sh N o g0 x = sh x := by
  unfold cn_s_Reader
  rw [cn_set_ne (by omega)]
theorem cn_s_Reader_at {sh : Nat → ax_C} {N o g0 : Nat} : cn_s_Reader sh N o g0 o = (0, 4, [(2, g0), (0, 0), (0, 0), (0, 0), (0, 0), (0, 0), (0, 0), (0, 0), (0, 0), (0, 0)]) := cn_set_at
theorem cn_Reader (l : Launch) (Dg : va_G) (A : Nat → Prop) (cA : Nat → ClassId) (ad : Nat → Nat) (sh : Nat → ax_C) (N : Nat) (μ : ax_M) {o g0 : Nat} {a b0 : Nat} (e_a : ad o = a) (h_o : o < N) (e_b0 : ad g0 = b0) (h_g0 : g0 < N) (hso : sh o = (0, 4, [(4, 0), (0, 0), (0, 0), (0, 0), (0, 0), (0, 0), (0, 0), (0, 0), (0, 0), (0, 0)])) (hμ : ∀ o, N ≤ o → μ.1 o = (fun _ => 0) ∧ μ.2 o = (fun _ => 0)) :
    Met l cn_d_Reader.1 (ax_ws cn_Ts cn_d_Reader) { frames := 1, cells := 0, slots := 0, locals := 60 } (cn_P Dg A cA ad sh N μ [.ref a, .ref b0]) (cn_Q Dg A cA ad N (cn_s_Reader sh N o g0) N μ) 0 0 A := by
  refine Met.ofW (cc := prog_5_method_1_code) (maxL := 2) (ret := none) (by decide) rfl ?_
  intro p e s m args below meth c s₁ B hml hv
  obtain ⟨rfl, hW, hK, hA, hX⟩ := hv
  have hx := B.exec
  have hb := B.bytes
  have hr := B.returns
  have hlocks := B.notSynchronized
  have hin : meth.name = "<init>" := (name_of_methodNamed B.named B.method).1
  have hts0 := atoms_spec (ws := ax_ws cn_Ts cn_d_Reader) B.pre
  have htn : ∀ w ∈ cn_Ts, w.before ([.ref a, .ref b0] : List Value).toArray s = true := fun w hw => hts0 w (List.mem_cons_of_mem _ hw)
  have hts : ∀ w ∈ ax_Ts, w.before ([.ref a, .ref b0] : List Value).toArray s = true := fun w hw => htn w (cn_Ts_in hw)
  have hown : s.vm.findClass "AskingFragments$Reader" = some m.cls := findClass_of_methodNamed B.named
  have hS : va_S A s.heap s.heap [] := va_S.rf
  have hoc := cn_objC hts
  have hl := lv_entry ([.ref a, .ref b0]) (n := 2) (Nat.le_of_ble_eq_true rfl)
  rw [lg_entry_eq]
  generalize (lg_sl ([.ref a, .ref b0]) ++ List.replicate (2 - (lg_sl ([.ref a, .ref b0])).length) Slot.unset).toArray = ls at hl ⊢
  have hl : lv_has ls 2 [(0, .ref a), (1, .ref b0)] := hl
  refine lv_aload_n hx hb cd_Reader_0 rfl (lv_at hl 0 rfl) ?_
  refine W.objInit hx hb hown (hts (.methodLink "AskingFragments$Reader" 3 Lib.objectInit) (ax_in (ax_wl_at (k := 1) (j := 33) rfl) rfl)) hoc.1 hoc.2 rfl (by rw [hml]; exact hl.1) rfl cd_Reader_1 (Nat.le_of_ble_eq_true rfl) (Nat.le_of_ble_eq_true rfl) ?_
  refine W.eq (g2 := F0 m 4 ls []) rfl ?_
  refine lv_aload_n hx hb cd_Reader_4 rfl (lv_at hl 0 rfl) ?_
  refine lv_aload_n hx hb cd_Reader_5 rfl (lv_at hl 1 rfl) ?_
  refine cn_putq (ea := e_a) (eb := e_b0) (Ts := ax_Ts) (n := 10) (T := aT_Reader) (C := "AskingFragments$Reader") (k := 0) hx hb hts aU_Reader (ty0 := cn_tReader) cn_yReader aN_Reader hown hK rfl hW hS (show o < N by omega) hso (by decide) rfl (show g0 < N by omega) (hts _ (ax_in (ax_wl_at (k := 1) (j := 34) rfl) rfl)) rfl hin rfl rfl rfl rfl cd_Reader_6 (fun H1 locs1 sh1 hsh1 hW1 hS1 => ?_)
  have hs_o_1 : sh1 o = (0, 4, [(2, g0), (0, 0), (0, 0), (0, 0), (0, 0), (0, 0), (0, 0), (0, 0), (0, 0), (0, 0)]) := by rw [hsh1]; exact cn_set_at
  have hWz : cx_W Dg ax_cl A cA ad (cn_s_Reader sh N o g0) N μ H1 := by
    subst hsh1
    exact hW1
  exact W.vret hx hb hr (fun t ht hWm => ⟨⟨ad, rfl, fun _ _ => rfl, by subst ht; exact hWz⟩, hS1.F ht⟩) hS1.2.2 cd_Reader_9
theorem cd_Net_0 : decode prog_4_method_1_code 0 = .ok (.aload_n 0, 1) := by decide +kernel
theorem cd_Net_1 : decode prog_4_method_1_code 1 = .ok (.invokespecial 3, 3) := by decide +kernel
theorem cd_Net_4 : decode prog_4_method_1_code 4 = .ok (.aload_n 0, 1) := by decide +kernel
theorem cd_Net_5 : decode prog_4_method_1_code 5 = .ok (.bipush (84), 2) := by decide +kernel
theorem cd_Net_7 : decode prog_4_method_1_code 7 = .ok (.newarray .byte, 2) := by decide +kernel
theorem cd_Net_9 : decode prog_4_method_1_code 9 = .ok (.putfield 9, 3) := by decide +kernel
theorem cd_Net_12 : decode prog_4_method_1_code 12 = .ok (.aload_n 0, 1) := by decide +kernel
theorem cd_Net_13 : decode prog_4_method_1_code 13 = .ok (.bipush (12), 2) := by decide +kernel
theorem cd_Net_15 : decode prog_4_method_1_code 15 = .ok (.newarray .int, 2) := by decide +kernel
theorem cd_Net_17 : decode prog_4_method_1_code 17 = .ok (.putfield 15, 3) := by decide +kernel
theorem cd_Net_20 : decode prog_4_method_1_code 20 = .ok (.aload_n 0, 1) := by decide +kernel
theorem cd_Net_21 : decode prog_4_method_1_code 21 = .ok (.bipush (60), 2) := by decide +kernel
theorem cd_Net_23 : decode prog_4_method_1_code 23 = .ok (.newarray .int, 2) := by decide +kernel
theorem cd_Net_25 : decode prog_4_method_1_code 25 = .ok (.putfield 19, 3) := by decide +kernel
theorem cd_Net_28 : decode prog_4_method_1_code 28 = .ok (.aload_n 0, 1) := by decide +kernel
theorem cd_Net_29 : decode prog_4_method_1_code 29 = .ok (.bipush (30), 2) := by decide +kernel
theorem cd_Net_31 : decode prog_4_method_1_code 31 = .ok (.newarray .int, 2) := by decide +kernel
theorem cd_Net_33 : decode prog_4_method_1_code 33 = .ok (.putfield 22, 3) := by decide +kernel
theorem cd_Net_36 : decode prog_4_method_1_code 36 = .ok (.return_, 1) := by decide +kernel
abbrev cn_d_Net : ax_D := (⟨"AskingFragments$Net", "<init>", "()V"⟩, prog_4_method_1_code, 1, none, 1, 0)
theorem cn_p_Net : (parseMethodDescriptor cn_d_Net.1.desc).map (fun d => d.parameters.length) = some 0 := by decide +kernel
/-- the cells behind it -/
def cn_s_Net (sh : Nat → ax_C) (N : Nat) (o : Nat) : Nat → ax_C := cx_set (cx_set (cx_set (cx_set (cx_set (cx_set (cx_set (cx_set (sh) N (2, 84, [])) o (0, 3, [(0, 0), (0, 0), (2, N), (4, 0), (4, 0), (4, 0)])) (N + 1) (1, 12, [])) o (0, 3, [(0, 0), (0, 0), (2, N), (2, (N + 1)), (4, 0), (4, 0)])) (N + 2) (1, 60, [])) o (0, 3, [(0, 0), (0, 0), (2, N), (2, (N + 1)), (2, (N + 2)), (4, 0)])) (N + 3) (1, 30, [])) o (0, 3, [(0, 0), (0, 0), (2, N), (2, (N + 1)), (2, (N + 2)), (2, (N + 3))])
theorem cn_s_Net_ne {sh : Nat → ax_C} {N o x : Nat} (h1 : x < N) (h2 : x ≠ o) : cn_s_Net sh N o x = sh x := by
  unfold cn_s_Net
  rw [cn_set_ne (by omega), cn_set_ne (by omega), cn_set_ne (by omega), cn_set_ne (by omega), cn_set_ne (by omega), cn_set_ne (by omega), cn_set_ne (by omega), cn_set_ne (by omega)]
theorem cn_s_Net_at {sh : Nat → ax_C} {N o : Nat} : cn_s_Net sh N o o = (0, 3, [(0, 0), (0, 0), (2, N), (2, (N + 1)), (2, (N + 2)), (2, (N + 3))]) := cn_set_at
theorem cn_Net (l : Launch) (Dg : va_G) (A : Nat → Prop) (cA : Nat → ClassId) (ad : Nat → Nat) (sh : Nat → ax_C) (N : Nat) (μ : ax_M) {o : Nat} {a : Nat} (e_a : ad o = a) (h_o : o < N) (hso : sh o = (0, 3, [(0, 0), (0, 0), (4, 0), (4, 0), (4, 0), (4, 0)])) (hμ : ∀ o, N ≤ o → μ.1 o = (fun _ => 0) ∧ μ.2 o = (fun _ => 0)) :
    Met l cn_d_Net.1 (ax_ws cn_Ts cn_d_Net) { frames := 1, cells := 4, slots := 186, locals := 60 } (cn_P Dg A cA ad sh N μ [.ref a]) (cn_Q Dg A cA ad N (cn_s_Net sh N o) (N + 4) μ) 4 186 A := by
  refine Met.ofW (cc := prog_4_method_1_code) (maxL := 1) (ret := none) (by decide) rfl ?_
  intro p e s m args below meth c s₁ B hml hv
  obtain ⟨rfl, hW, hK, hA, hX⟩ := hv
  have hx := B.exec
  have hb := B.bytes
  have hr := B.returns
  have hlocks := B.notSynchronized
  have hin : meth.name = "<init>" := (name_of_methodNamed B.named B.method).1
  have hts0 := atoms_spec (ws := ax_ws cn_Ts cn_d_Net) B.pre
  have htn : ∀ w ∈ cn_Ts, w.before ([.ref a] : List Value).toArray s = true := fun w hw => hts0 w (List.mem_cons_of_mem _ hw)
  have hts : ∀ w ∈ ax_Ts, w.before ([.ref a] : List Value).toArray s = true := fun w hw => htn w (cn_Ts_in hw)
  have hown : s.vm.findClass "AskingFragments$Net" = some m.cls := findClass_of_methodNamed B.named
  have hS : va_S A s.heap s.heap [] := va_S.rf
  have hoc := cn_objC hts
  have hl := lv_entry ([.ref a]) (n := 1) (Nat.le_of_ble_eq_true rfl)
  rw [lg_entry_eq]
  generalize (lg_sl ([.ref a]) ++ List.replicate (1 - (lg_sl ([.ref a])).length) Slot.unset).toArray = ls at hl ⊢
  have hl : lv_has ls 1 [(0, .ref a)] := hl
  refine lv_aload_n hx hb cd_Net_0 rfl (lv_at hl 0 rfl) ?_
  refine W.objInit hx hb hown (hts (.methodLink "AskingFragments$Net" 3 Lib.objectInit) (ax_in (ax_wl_at (k := 1) (j := 74) rfl) rfl)) hoc.1 hoc.2 rfl (by rw [hml]; exact hl.1) rfl cd_Net_1 (Nat.le_of_ble_eq_true rfl) (Nat.le_of_ble_eq_true rfl) ?_
  refine W.eq (g2 := F0 m 4 ls []) rfl ?_
  refine lv_aload_n hx hb cd_Net_4 rfl (lv_at hl 0 rfl) ?_
  refine lv_bipush hx hb cd_Net_5 (v := (84)) rfl ?_
  refine cn_newa (len := 84) hx hb (htn _ (List.mem_of_getElem? (i := 0) rfl)) 2 (by decide) rfl rfl hK hW hS hA (hμ _ (by omega)) (by decide) rfl (by decide) (Nat.le_of_ble_eq_true rfl) (Nat.le_of_ble_eq_true rfl) cd_Net_7 (fun q1 H1 ad1 sh1 N1 had1 hsh1 hN1 hW1 hS1 => ?_)
  obtain rfl : N1 = (N + 1) := by omega
  clear hN1
  have e_a_1 : ad1 o = a := by rw [had1, cn_ext (by omega)]; exact e_a
  have e_q1_1 : ad1 N = q1 := by rw [had1]; exact cn_ext_at
  have hb1 : ∀ x, x < N → ad1 x = ad x := fun x hx => by rw [had1, cn_ext (by omega)]
  have hs_o_1 : sh1 o = (0, 3, [(0, 0), (0, 0), (4, 0), (4, 0), (4, 0), (4, 0)]) := by rw [hsh1, cn_set_ne (by omega)]; exact hso
  have hs_N_1 : sh1 N = (2, 84, []) := by rw [hsh1]; exact cn_set_at
  refine cn_putq (ea := e_a_1) (eb := e_q1_1) (Ts := ax_Ts) (n := 6) (T := aT_Net) (C := "AskingFragments$Net") (k := 2) hx hb hts aU_Net (ty0 := cn_tNet) cn_yNet aN_Net hown hK rfl hW1 hS1 (show o < (N + 1) by omega) hs_o_1 (by decide) rfl (show N < (N + 1) by omega) (hts _ (ax_in (ax_wl_at (k := 1) (j := 85) rfl) rfl)) rfl hin rfl rfl rfl rfl cd_Net_9 (fun H2 locs2 sh2 hsh2 hW2 hS2 => ?_)
  have hs_o_2 : sh2 o = (0, 3, [(0, 0), (0, 0), (2, N), (4, 0), (4, 0), (4, 0)]) := by rw [hsh2]; exact cn_set_at
  refine lv_aload_n hx hb cd_Net_12 rfl (lv_at hl 0 rfl) ?_
  refine lv_bipush hx hb cd_Net_13 (v := (12)) rfl ?_
  refine cn_newa (len := 12) hx hb (htn _ (List.mem_of_getElem? (i := 1) rfl)) 1 (by decide) rfl rfl hK hW2 hS2 hA (hμ _ (by omega)) (by decide) rfl (by decide) (Nat.le_of_ble_eq_true rfl) (Nat.le_of_ble_eq_true rfl) cd_Net_15 (fun q3 H3 ad3 sh3 N3 had3 hsh3 hN3 hW3 hS3 => ?_)
  obtain rfl : N3 = (N + 2) := by omega
  clear hN3
  have e_a_3 : ad3 o = a := by rw [had3, cn_ext (by omega)]; exact e_a_1
  have e_q3_3 : ad3 (N + 1) = q3 := by rw [had3]; exact cn_ext_at
  have hb3 : ∀ x, x < N → ad3 x = ad x := fun x hx => by rw [had3, cn_ext (by omega)]; exact hb1 x hx
  have hs_o_3 : sh3 o = (0, 3, [(0, 0), (0, 0), (2, N), (4, 0), (4, 0), (4, 0)]) := by rw [hsh3, cn_set_ne (by omega)]; exact hs_o_2
  have hs_N1_3 : sh3 (N + 1) = (1, 12, []) := by rw [hsh3]; exact cn_set_at
  refine cn_putq (ea := e_a_3) (eb := e_q3_3) (Ts := ax_Ts) (n := 6) (T := aT_Net) (C := "AskingFragments$Net") (k := 3) hx hb hts aU_Net (ty0 := cn_tNet) cn_yNet aN_Net hown hK rfl hW3 hS3 (show o < (N + 2) by omega) hs_o_3 (by decide) rfl (show (N + 1) < (N + 2) by omega) (hts _ (ax_in (ax_wl_at (k := 1) (j := 86) rfl) rfl)) rfl hin rfl rfl rfl rfl cd_Net_17 (fun H4 locs4 sh4 hsh4 hW4 hS4 => ?_)
  have hs_o_4 : sh4 o = (0, 3, [(0, 0), (0, 0), (2, N), (2, (N + 1)), (4, 0), (4, 0)]) := by rw [hsh4]; exact cn_set_at
  refine lv_aload_n hx hb cd_Net_20 rfl (lv_at hl 0 rfl) ?_
  refine lv_bipush hx hb cd_Net_21 (v := (60)) rfl ?_
  refine cn_newa (len := 60) hx hb (htn _ (List.mem_of_getElem? (i := 1) rfl)) 1 (by decide) rfl rfl hK hW4 hS4 hA (hμ _ (by omega)) (by decide) rfl (by decide) (Nat.le_of_ble_eq_true rfl) (Nat.le_of_ble_eq_true rfl) cd_Net_23 (fun q5 H5 ad5 sh5 N5 had5 hsh5 hN5 hW5 hS5 => ?_)
  obtain rfl : N5 = (N + 3) := by omega
  clear hN5
  have e_a_5 : ad5 o = a := by rw [had5, cn_ext (by omega)]; exact e_a_3
  have e_q5_5 : ad5 (N + 2) = q5 := by rw [had5]; exact cn_ext_at
  have hb5 : ∀ x, x < N → ad5 x = ad x := fun x hx => by rw [had5, cn_ext (by omega)]; exact hb3 x hx
  have hs_o_5 : sh5 o = (0, 3, [(0, 0), (0, 0), (2, N), (2, (N + 1)), (4, 0), (4, 0)]) := by rw [hsh5, cn_set_ne (by omega)]; exact hs_o_4
  have hs_N2_5 : sh5 (N + 2) = (1, 60, []) := by rw [hsh5]; exact cn_set_at
  refine cn_putq (ea := e_a_5) (eb := e_q5_5) (Ts := ax_Ts) (n := 6) (T := aT_Net) (C := "AskingFragments$Net") (k := 4) hx hb hts aU_Net (ty0 := cn_tNet) cn_yNet aN_Net hown hK rfl hW5 hS5 (show o < (N + 3) by omega) hs_o_5 (by decide) rfl (show (N + 2) < (N + 3) by omega) (hts _ (ax_in (ax_wl_at (k := 1) (j := 89) rfl) rfl)) rfl hin rfl rfl rfl rfl cd_Net_25 (fun H6 locs6 sh6 hsh6 hW6 hS6 => ?_)
  have hs_o_6 : sh6 o = (0, 3, [(0, 0), (0, 0), (2, N), (2, (N + 1)), (2, (N + 2)), (4, 0)]) := by rw [hsh6]; exact cn_set_at
  refine lv_aload_n hx hb cd_Net_28 rfl (lv_at hl 0 rfl) ?_
  refine lv_bipush hx hb cd_Net_29 (v := (30)) rfl ?_
  refine cn_newa (len := 30) hx hb (htn _ (List.mem_of_getElem? (i := 1) rfl)) 1 (by decide) rfl rfl hK hW6 hS6 hA (hμ _ (by omega)) (by decide) rfl (by decide) (Nat.le_of_ble_eq_true rfl) (Nat.le_of_ble_eq_true rfl) cd_Net_31 (fun q7 H7 ad7 sh7 N7 had7 hsh7 hN7 hW7 hS7 => ?_)
  obtain rfl : N7 = (N + 4) := by omega
  clear hN7
  have e_a_7 : ad7 o = a := by rw [had7, cn_ext (by omega)]; exact e_a_5
  have e_q7_7 : ad7 (N + 3) = q7 := by rw [had7]; exact cn_ext_at
  have hb7 : ∀ x, x < N → ad7 x = ad x := fun x hx => by rw [had7, cn_ext (by omega)]; exact hb5 x hx
  have hs_o_7 : sh7 o = (0, 3, [(0, 0), (0, 0), (2, N), (2, (N + 1)), (2, (N + 2)), (4, 0)]) := by rw [hsh7, cn_set_ne (by omega)]; exact hs_o_6
  have hs_N3_7 : sh7 (N + 3) = (1, 30, []) := by rw [hsh7]; exact cn_set_at
  refine cn_putq (ea := e_a_7) (eb := e_q7_7) (Ts := ax_Ts) (n := 6) (T := aT_Net) (C := "AskingFragments$Net") (k := 5) hx hb hts aU_Net (ty0 := cn_tNet) cn_yNet aN_Net hown hK rfl hW7 hS7 (show o < (N + 4) by omega) hs_o_7 (by decide) rfl (show (N + 3) < (N + 4) by omega) (hts _ (ax_in (ax_wl_at (k := 1) (j := 92) rfl) rfl)) rfl hin rfl rfl rfl rfl cd_Net_33 (fun H8 locs8 sh8 hsh8 hW8 hS8 => ?_)
  have hs_o_8 : sh8 o = (0, 3, [(0, 0), (0, 0), (2, N), (2, (N + 1)), (2, (N + 2)), (2, (N + 3))]) := by rw [hsh8]; exact cn_set_at
  have hWz : cx_W Dg ax_cl A cA ad7 (cn_s_Net sh N o) (N + 4) μ H8 := by
    subst hsh8 hsh7 hsh6 hsh5 hsh4 hsh3 hsh2 hsh1
    exact hW8
  exact W.vret hx hb hr (fun t ht hWm => ⟨⟨ad7, rfl, hb7, by subst ht; exact hWz⟩, hS8.F ht⟩) hS8.2.2 cd_Net_36
theorem cd_Rule_0 : decode prog_6_method_1_code 0 = .ok (.aload_n 0, 1) := by decide +kernel
theorem cd_Rule_1 : decode prog_6_method_1_code 1 = .ok (.invokespecial 3, 3) := by decide +kernel
theorem cd_Rule_4 : decode prog_6_method_1_code 4 = .ok (.aload_n 0, 1) := by decide +kernel
theorem cd_Rule_5 : decode prog_6_method_1_code 5 = .ok (.bipush (10), 2) := by decide +kernel
theorem cd_Rule_7 : decode prog_6_method_1_code 7 = .ok (.newarray .int, 2) := by decide +kernel
theorem cd_Rule_9 : decode prog_6_method_1_code 9 = .ok (.putfield 9, 3) := by decide +kernel
theorem cd_Rule_12 : decode prog_6_method_1_code 12 = .ok (.aload_n 0, 1) := by decide +kernel
theorem cd_Rule_13 : decode prog_6_method_1_code 13 = .ok (.bipush (10), 2) := by decide +kernel
theorem cd_Rule_15 : decode prog_6_method_1_code 15 = .ok (.newarray .int, 2) := by decide +kernel
theorem cd_Rule_17 : decode prog_6_method_1_code 17 = .ok (.putfield 15, 3) := by decide +kernel
theorem cd_Rule_20 : decode prog_6_method_1_code 20 = .ok (.aload_n 0, 1) := by decide +kernel
theorem cd_Rule_21 : decode prog_6_method_1_code 21 = .ok (.bipush (10), 2) := by decide +kernel
theorem cd_Rule_23 : decode prog_6_method_1_code 23 = .ok (.newarray .int, 2) := by decide +kernel
theorem cd_Rule_25 : decode prog_6_method_1_code 25 = .ok (.putfield 18, 3) := by decide +kernel
theorem cd_Rule_28 : decode prog_6_method_1_code 28 = .ok (.aload_n 0, 1) := by decide +kernel
theorem cd_Rule_29 : decode prog_6_method_1_code 29 = .ok (.bipush (40), 2) := by decide +kernel
theorem cd_Rule_31 : decode prog_6_method_1_code 31 = .ok (.newarray .int, 2) := by decide +kernel
theorem cd_Rule_33 : decode prog_6_method_1_code 33 = .ok (.putfield 21, 3) := by decide +kernel
theorem cd_Rule_36 : decode prog_6_method_1_code 36 = .ok (.aload_n 0, 1) := by decide +kernel
theorem cd_Rule_37 : decode prog_6_method_1_code 37 = .ok (.bipush (40), 2) := by decide +kernel
theorem cd_Rule_39 : decode prog_6_method_1_code 39 = .ok (.newarray .int, 2) := by decide +kernel
theorem cd_Rule_41 : decode prog_6_method_1_code 41 = .ok (.putfield 24, 3) := by decide +kernel
theorem cd_Rule_44 : decode prog_6_method_1_code 44 = .ok (.aload_n 0, 1) := by decide +kernel
theorem cd_Rule_45 : decode prog_6_method_1_code 45 = .ok (.bipush (60), 2) := by decide +kernel
theorem cd_Rule_47 : decode prog_6_method_1_code 47 = .ok (.newarray .int, 2) := by decide +kernel
theorem cd_Rule_49 : decode prog_6_method_1_code 49 = .ok (.putfield 27, 3) := by decide +kernel
theorem cd_Rule_52 : decode prog_6_method_1_code 52 = .ok (.aload_n 0, 1) := by decide +kernel
theorem cd_Rule_53 : decode prog_6_method_1_code 53 = .ok (.bipush (60), 2) := by decide +kernel
theorem cd_Rule_55 : decode prog_6_method_1_code 55 = .ok (.newarray .int, 2) := by decide +kernel
theorem cd_Rule_57 : decode prog_6_method_1_code 57 = .ok (.putfield 30, 3) := by decide +kernel
theorem cd_Rule_60 : decode prog_6_method_1_code 60 = .ok (.return_, 1) := by decide +kernel
abbrev cn_d_Rule : ax_D := (⟨"AskingFragments$Rule", "<init>", "()V"⟩, prog_6_method_1_code, 1, none, 1, 0)
theorem cn_p_Rule : (parseMethodDescriptor cn_d_Rule.1.desc).map (fun d => d.parameters.length) = some 0 := by decide +kernel
/-- the cells behind it -/
def cn_s_Rule (sh : Nat → ax_C) (N : Nat) (o : Nat) : Nat → ax_C := cx_set (cx_set (cx_set (cx_set (cx_set (cx_set (cx_set (cx_set (cx_set (cx_set (cx_set (cx_set (cx_set (cx_set (sh) N (1, 10, [])) o (0, 5, [(0, 0), (2, N), (4, 0), (4, 0), (4, 0), (4, 0), (4, 0), (4, 0), (0, 0)])) (N + 1) (1, 10, [])) o (0, 5, [(0, 0), (2, N), (2, (N + 1)), (4, 0), (4, 0), (4, 0), (4, 0), (4, 0), (0, 0)])) (N + 2) (1, 10, [])) o (0, 5, [(0, 0), (2, N), (2, (N + 1)), (2, (N + 2)), (4, 0), (4, 0), (4, 0), (4, 0), (0, 0)])) (N + 3) (1, 40, [])) o (0, 5, [(0, 0), (2, N), (2, (N + 1)), (2, (N + 2)), (2, (N + 3)), (4, 0), (4, 0), (4, 0), (0, 0)])) (N + 4) (1, 40, [])) o (0, 5, [(0, 0), (2, N), (2, (N + 1)), (2, (N + 2)), (2, (N + 3)), (2, (N + 4)), (4, 0), (4, 0), (0, 0)])) (N + 5) (1, 60, [])) o (0, 5, [(0, 0), (2, N), (2, (N + 1)), (2, (N + 2)), (2, (N + 3)), (2, (N + 4)), (2, (N + 5)), (4, 0), (0, 0)])) (N + 6) (1, 60, [])) o (0, 5, [(0, 0), (2, N), (2, (N + 1)), (2, (N + 2)), (2, (N + 3)), (2, (N + 4)), (2, (N + 5)), (2, (N + 6)), (0, 0)])
theorem cn_s_Rule_ne {sh : Nat → ax_C} {N o x : Nat} (h1 : x < N) (h2 : x ≠ o) : cn_s_Rule sh N o x = sh x := by
  unfold cn_s_Rule
  rw [cn_set_ne (by omega), cn_set_ne (by omega), cn_set_ne (by omega), cn_set_ne (by omega), cn_set_ne (by omega), cn_set_ne (by omega), cn_set_ne (by omega), cn_set_ne (by omega), cn_set_ne (by omega), cn_set_ne (by omega), cn_set_ne (by omega), cn_set_ne (by omega), cn_set_ne (by omega), cn_set_ne (by omega)]
theorem cn_s_Rule_at {sh : Nat → ax_C} {N o : Nat} : cn_s_Rule sh N o o = (0, 5, [(0, 0), (2, N), (2, (N + 1)), (2, (N + 2)), (2, (N + 3)), (2, (N + 4)), (2, (N + 5)), (2, (N + 6)), (0, 0)]) := cn_set_at
theorem cn_Rule (l : Launch) (Dg : va_G) (A : Nat → Prop) (cA : Nat → ClassId) (ad : Nat → Nat) (sh : Nat → ax_C) (N : Nat) (μ : ax_M) {o : Nat} {a : Nat} (e_a : ad o = a) (h_o : o < N) (hso : sh o = (0, 5, [(0, 0), (4, 0), (4, 0), (4, 0), (4, 0), (4, 0), (4, 0), (4, 0), (0, 0)])) (hμ : ∀ o, N ≤ o → μ.1 o = (fun _ => 0) ∧ μ.2 o = (fun _ => 0)) :
    Met l cn_d_Rule.1 (ax_ws cn_Ts cn_d_Rule) { frames := 1, cells := 7, slots := 230, locals := 60 } (cn_P Dg A cA ad sh N μ [.ref a]) (cn_Q Dg A cA ad N (cn_s_Rule sh N o) (N + 7) μ) 7 230 A := by
  refine Met.ofW (cc := prog_6_method_1_code) (maxL := 1) (ret := none) (by decide) rfl ?_
  intro p e s m args below meth c s₁ B hml hv
  obtain ⟨rfl, hW, hK, hA, hX⟩ := hv
  have hx := B.exec
  have hb := B.bytes
  have hr := B.returns
  have hlocks := B.notSynchronized
  have hin : meth.name = "<init>" := (name_of_methodNamed B.named B.method).1
  have hts0 := atoms_spec (ws := ax_ws cn_Ts cn_d_Rule) B.pre
  have htn : ∀ w ∈ cn_Ts, w.before ([.ref a] : List Value).toArray s = true := fun w hw => hts0 w (List.mem_cons_of_mem _ hw)
  have hts : ∀ w ∈ ax_Ts, w.before ([.ref a] : List Value).toArray s = true := fun w hw => htn w (cn_Ts_in hw)
  have hown : s.vm.findClass "AskingFragments$Rule" = some m.cls := findClass_of_methodNamed B.named
  have hS : va_S A s.heap s.heap [] := va_S.rf
  have hoc := cn_objC hts
  have hl := lv_entry ([.ref a]) (n := 1) (Nat.le_of_ble_eq_true rfl)
  rw [lg_entry_eq]
  generalize (lg_sl ([.ref a]) ++ List.replicate (1 - (lg_sl ([.ref a])).length) Slot.unset).toArray = ls at hl ⊢
  have hl : lv_has ls 1 [(0, .ref a)] := hl
  refine lv_aload_n hx hb cd_Rule_0 rfl (lv_at hl 0 rfl) ?_
  refine W.objInit hx hb hown (hts (.methodLink "AskingFragments$Rule" 3 Lib.objectInit) (ax_in (ax_wl_at (k := 1) (j := 113) rfl) rfl)) hoc.1 hoc.2 rfl (by rw [hml]; exact hl.1) rfl cd_Rule_1 (Nat.le_of_ble_eq_true rfl) (Nat.le_of_ble_eq_true rfl) ?_
  refine W.eq (g2 := F0 m 4 ls []) rfl ?_
  refine lv_aload_n hx hb cd_Rule_4 rfl (lv_at hl 0 rfl) ?_
  refine lv_bipush hx hb cd_Rule_5 (v := (10)) rfl ?_
  refine cn_newa (len := 10) hx hb (htn _ (List.mem_of_getElem? (i := 1) rfl)) 1 (by decide) rfl rfl hK hW hS hA (hμ _ (by omega)) (by decide) rfl (by decide) (Nat.le_of_ble_eq_true rfl) (Nat.le_of_ble_eq_true rfl) cd_Rule_7 (fun q1 H1 ad1 sh1 N1 had1 hsh1 hN1 hW1 hS1 => ?_)
  obtain rfl : N1 = (N + 1) := by omega
  clear hN1
  have e_a_1 : ad1 o = a := by rw [had1, cn_ext (by omega)]; exact e_a
  have e_q1_1 : ad1 N = q1 := by rw [had1]; exact cn_ext_at
  have hb1 : ∀ x, x < N → ad1 x = ad x := fun x hx => by rw [had1, cn_ext (by omega)]
  have hs_o_1 : sh1 o = (0, 5, [(0, 0), (4, 0), (4, 0), (4, 0), (4, 0), (4, 0), (4, 0), (4, 0), (0, 0)]) := by rw [hsh1, cn_set_ne (by omega)]; exact hso
  have hs_N_1 : sh1 N = (1, 10, []) := by rw [hsh1]; exact cn_set_at
  refine cn_putq (ea := e_a_1) (eb := e_q1_1) (Ts := ax_Ts) (n := 9) (T := aT_Rule) (C := "AskingFragments$Rule") (k := 1) hx hb hts aU_Rule (ty0 := cn_tRule) cn_yRule aN_Rule hown hK rfl hW1 hS1 (show o < (N + 1) by omega) hs_o_1 (by decide) rfl (show N < (N + 1) by omega) (hts _ (ax_in (ax_wl_at (k := 1) (j := 117) rfl) rfl)) rfl hin rfl rfl rfl rfl cd_Rule_9 (fun H2 locs2 sh2 hsh2 hW2 hS2 => ?_)
  have hs_o_2 : sh2 o = (0, 5, [(0, 0), (2, N), (4, 0), (4, 0), (4, 0), (4, 0), (4, 0), (4, 0), (0, 0)]) := by rw [hsh2]; exact cn_set_at
  refine lv_aload_n hx hb cd_Rule_12 rfl (lv_at hl 0 rfl) ?_
  refine lv_bipush hx hb cd_Rule_13 (v := (10)) rfl ?_
  refine cn_newa (len := 10) hx hb (htn _ (List.mem_of_getElem? (i := 1) rfl)) 1 (by decide) rfl rfl hK hW2 hS2 hA (hμ _ (by omega)) (by decide) rfl (by decide) (Nat.le_of_ble_eq_true rfl) (Nat.le_of_ble_eq_true rfl) cd_Rule_15 (fun q3 H3 ad3 sh3 N3 had3 hsh3 hN3 hW3 hS3 => ?_)
  obtain rfl : N3 = (N + 2) := by omega
  clear hN3
  have e_a_3 : ad3 o = a := by rw [had3, cn_ext (by omega)]; exact e_a_1
  have e_q3_3 : ad3 (N + 1) = q3 := by rw [had3]; exact cn_ext_at
  have hb3 : ∀ x, x < N → ad3 x = ad x := fun x hx => by rw [had3, cn_ext (by omega)]; exact hb1 x hx
  have hs_o_3 : sh3 o = (0, 5, [(0, 0), (2, N), (4, 0), (4, 0), (4, 0), (4, 0), (4, 0), (4, 0), (0, 0)]) := by rw [hsh3, cn_set_ne (by omega)]; exact hs_o_2
  have hs_N1_3 : sh3 (N + 1) = (1, 10, []) := by rw [hsh3]; exact cn_set_at
  refine cn_putq (ea := e_a_3) (eb := e_q3_3) (Ts := ax_Ts) (n := 9) (T := aT_Rule) (C := "AskingFragments$Rule") (k := 2) hx hb hts aU_Rule (ty0 := cn_tRule) cn_yRule aN_Rule hown hK rfl hW3 hS3 (show o < (N + 2) by omega) hs_o_3 (by decide) rfl (show (N + 1) < (N + 2) by omega) (hts _ (ax_in (ax_wl_at (k := 1) (j := 118) rfl) rfl)) rfl hin rfl rfl rfl rfl cd_Rule_17 (fun H4 locs4 sh4 hsh4 hW4 hS4 => ?_)
  have hs_o_4 : sh4 o = (0, 5, [(0, 0), (2, N), (2, (N + 1)), (4, 0), (4, 0), (4, 0), (4, 0), (4, 0), (0, 0)]) := by rw [hsh4]; exact cn_set_at
  refine lv_aload_n hx hb cd_Rule_20 rfl (lv_at hl 0 rfl) ?_
  refine lv_bipush hx hb cd_Rule_21 (v := (10)) rfl ?_
  refine cn_newa (len := 10) hx hb (htn _ (List.mem_of_getElem? (i := 1) rfl)) 1 (by decide) rfl rfl hK hW4 hS4 hA (hμ _ (by omega)) (by decide) rfl (by decide) (Nat.le_of_ble_eq_true rfl) (Nat.le_of_ble_eq_true rfl) cd_Rule_23 (fun q5 H5 ad5 sh5 N5 had5 hsh5 hN5 hW5 hS5 => ?_)
  obtain rfl : N5 = (N + 3) := by omega
  clear hN5
  have e_a_5 : ad5 o = a := by rw [had5, cn_ext (by omega)]; exact e_a_3
  have e_q5_5 : ad5 (N + 2) = q5 := by rw [had5]; exact cn_ext_at
  have hb5 : ∀ x, x < N → ad5 x = ad x := fun x hx => by rw [had5, cn_ext (by omega)]; exact hb3 x hx
  have hs_o_5 : sh5 o = (0, 5, [(0, 0), (2, N), (2, (N + 1)), (4, 0), (4, 0), (4, 0), (4, 0), (4, 0), (0, 0)]) := by rw [hsh5, cn_set_ne (by omega)]; exact hs_o_4
  have hs_N2_5 : sh5 (N + 2) = (1, 10, []) := by rw [hsh5]; exact cn_set_at
  refine cn_putq (ea := e_a_5) (eb := e_q5_5) (Ts := ax_Ts) (n := 9) (T := aT_Rule) (C := "AskingFragments$Rule") (k := 3) hx hb hts aU_Rule (ty0 := cn_tRule) cn_yRule aN_Rule hown hK rfl hW5 hS5 (show o < (N + 3) by omega) hs_o_5 (by decide) rfl (show (N + 2) < (N + 3) by omega) (hts _ (ax_in (ax_wl_at (k := 1) (j := 119) rfl) rfl)) rfl hin rfl rfl rfl rfl cd_Rule_25 (fun H6 locs6 sh6 hsh6 hW6 hS6 => ?_)
  have hs_o_6 : sh6 o = (0, 5, [(0, 0), (2, N), (2, (N + 1)), (2, (N + 2)), (4, 0), (4, 0), (4, 0), (4, 0), (0, 0)]) := by rw [hsh6]; exact cn_set_at
  refine lv_aload_n hx hb cd_Rule_28 rfl (lv_at hl 0 rfl) ?_
  refine lv_bipush hx hb cd_Rule_29 (v := (40)) rfl ?_
  refine cn_newa (len := 40) hx hb (htn _ (List.mem_of_getElem? (i := 1) rfl)) 1 (by decide) rfl rfl hK hW6 hS6 hA (hμ _ (by omega)) (by decide) rfl (by decide) (Nat.le_of_ble_eq_true rfl) (Nat.le_of_ble_eq_true rfl) cd_Rule_31 (fun q7 H7 ad7 sh7 N7 had7 hsh7 hN7 hW7 hS7 => ?_)
  obtain rfl : N7 = (N + 4) := by omega
  clear hN7
  have e_a_7 : ad7 o = a := by rw [had7, cn_ext (by omega)]; exact e_a_5
  have e_q7_7 : ad7 (N + 3) = q7 := by rw [had7]; exact cn_ext_at
  have hb7 : ∀ x, x < N → ad7 x = ad x := fun x hx => by rw [had7, cn_ext (by omega)]; exact hb5 x hx
  have hs_o_7 : sh7 o = (0, 5, [(0, 0), (2, N), (2, (N + 1)), (2, (N + 2)), (4, 0), (4, 0), (4, 0), (4, 0), (0, 0)]) := by rw [hsh7, cn_set_ne (by omega)]; exact hs_o_6
  have hs_N3_7 : sh7 (N + 3) = (1, 40, []) := by rw [hsh7]; exact cn_set_at
  refine cn_putq (ea := e_a_7) (eb := e_q7_7) (Ts := ax_Ts) (n := 9) (T := aT_Rule) (C := "AskingFragments$Rule") (k := 4) hx hb hts aU_Rule (ty0 := cn_tRule) cn_yRule aN_Rule hown hK rfl hW7 hS7 (show o < (N + 4) by omega) hs_o_7 (by decide) rfl (show (N + 3) < (N + 4) by omega) (hts _ (ax_in (ax_wl_at (k := 1) (j := 120) rfl) rfl)) rfl hin rfl rfl rfl rfl cd_Rule_33 (fun H8 locs8 sh8 hsh8 hW8 hS8 => ?_)
  have hs_o_8 : sh8 o = (0, 5, [(0, 0), (2, N), (2, (N + 1)), (2, (N + 2)), (2, (N + 3)), (4, 0), (4, 0), (4, 0), (0, 0)]) := by rw [hsh8]; exact cn_set_at
  refine lv_aload_n hx hb cd_Rule_36 rfl (lv_at hl 0 rfl) ?_
  refine lv_bipush hx hb cd_Rule_37 (v := (40)) rfl ?_
  refine cn_newa (len := 40) hx hb (htn _ (List.mem_of_getElem? (i := 1) rfl)) 1 (by decide) rfl rfl hK hW8 hS8 hA (hμ _ (by omega)) (by decide) rfl (by decide) (Nat.le_of_ble_eq_true rfl) (Nat.le_of_ble_eq_true rfl) cd_Rule_39 (fun q9 H9 ad9 sh9 N9 had9 hsh9 hN9 hW9 hS9 => ?_)
  obtain rfl : N9 = (N + 5) := by omega
  clear hN9
  have e_a_9 : ad9 o = a := by rw [had9, cn_ext (by omega)]; exact e_a_7
  have e_q9_9 : ad9 (N + 4) = q9 := by rw [had9]; exact cn_ext_at
  have hb9 : ∀ x, x < N → ad9 x = ad x := fun x hx => by rw [had9, cn_ext (by omega)]; exact hb7 x hx
  have hs_o_9 : sh9 o = (0, 5, [(0, 0), (2, N), (2, (N + 1)), (2, (N + 2)), (2, (N + 3)), (4, 0), (4, 0), (4, 0), (0, 0)]) := by rw [hsh9, cn_set_ne (by omega)]; exact hs_o_8
  have hs_N4_9 : sh9 (N + 4) = (1, 40, []) := by rw [hsh9]; exact cn_set_at
  refine cn_putq (ea := e_a_9) (eb := e_q9_9) (Ts := ax_Ts) (n := 9) (T := aT_Rule) (C := "AskingFragments$Rule") (k := 5) hx hb hts aU_Rule (ty0 := cn_tRule) cn_yRule aN_Rule hown hK rfl hW9 hS9 (show o < (N + 5) by omega) hs_o_9 (by decide) rfl (show (N + 4) < (N + 5) by omega) (hts _ (ax_in (ax_wl_at (k := 1) (j := 121) rfl) rfl)) rfl hin rfl rfl rfl rfl cd_Rule_41 (fun H10 locs10 sh10 hsh10 hW10 hS10 => ?_)
  have hs_o_10 : sh10 o = (0, 5, [(0, 0), (2, N), (2, (N + 1)), (2, (N + 2)), (2, (N + 3)), (2, (N + 4)), (4, 0), (4, 0), (0, 0)]) := by rw [hsh10]; exact cn_set_at
  refine lv_aload_n hx hb cd_Rule_44 rfl (lv_at hl 0 rfl) ?_
  refine lv_bipush hx hb cd_Rule_45 (v := (60)) rfl ?_
  refine cn_newa (len := 60) hx hb (htn _ (List.mem_of_getElem? (i := 1) rfl)) 1 (by decide) rfl rfl hK hW10 hS10 hA (hμ _ (by omega)) (by decide) rfl (by decide) (Nat.le_of_ble_eq_true rfl) (Nat.le_of_ble_eq_true rfl) cd_Rule_47 (fun q11 H11 ad11 sh11 N11 had11 hsh11 hN11 hW11 hS11 => ?_)
  obtain rfl : N11 = (N + 6) := by omega
  clear hN11
  have e_a_11 : ad11 o = a := by rw [had11, cn_ext (by omega)]; exact e_a_9
  have e_q11_11 : ad11 (N + 5) = q11 := by rw [had11]; exact cn_ext_at
  have hb11 : ∀ x, x < N → ad11 x = ad x := fun x hx => by rw [had11, cn_ext (by omega)]; exact hb9 x hx
  have hs_o_11 : sh11 o = (0, 5, [(0, 0), (2, N), (2, (N + 1)), (2, (N + 2)), (2, (N + 3)), (2, (N + 4)), (4, 0), (4, 0), (0, 0)]) := by rw [hsh11, cn_set_ne (by omega)]; exact hs_o_10
  have hs_N5_11 : sh11 (N + 5) = (1, 60, []) := by rw [hsh11]; exact cn_set_at
  refine cn_putq (ea := e_a_11) (eb := e_q11_11) (Ts := ax_Ts) (n := 9) (T := aT_Rule) (C := "AskingFragments$Rule") (k := 6) hx hb hts aU_Rule (ty0 := cn_tRule) cn_yRule aN_Rule hown hK rfl hW11 hS11 (show o < (N + 6) by omega) hs_o_11 (by decide) rfl (show (N + 5) < (N + 6) by omega) (hts _ (ax_in (ax_wl_at (k := 1) (j := 122) rfl) rfl)) rfl hin rfl rfl rfl rfl cd_Rule_49 (fun H12 locs12 sh12 hsh12 hW12 hS12 => ?_)
  have hs_o_12 : sh12 o = (0, 5, [(0, 0), (2, N), (2, (N + 1)), (2, (N + 2)), (2, (N + 3)), (2, (N + 4)), (2, (N + 5)), (4, 0), (0, 0)]) := by rw [hsh12]; exact cn_set_at
  refine lv_aload_n hx hb cd_Rule_52 rfl (lv_at hl 0 rfl) ?_
  refine lv_bipush hx hb cd_Rule_53 (v := (60)) rfl ?_
  refine cn_newa (len := 60) hx hb (htn _ (List.mem_of_getElem? (i := 1) rfl)) 1 (by decide) rfl rfl hK hW12 hS12 hA (hμ _ (by omega)) (by decide) rfl (by decide) (Nat.le_of_ble_eq_true rfl) (Nat.le_of_ble_eq_true rfl) cd_Rule_55 (fun q13 H13 ad13 sh13 N13 had13 hsh13 hN13 hW13 hS13 => ?_)
  obtain rfl : N13 = (N + 7) := by omega
  clear hN13
  have e_a_13 : ad13 o = a := by rw [had13, cn_ext (by omega)]; exact e_a_11
  have e_q13_13 : ad13 (N + 6) = q13 := by rw [had13]; exact cn_ext_at
  have hb13 : ∀ x, x < N → ad13 x = ad x := fun x hx => by rw [had13, cn_ext (by omega)]; exact hb11 x hx
  have hs_o_13 : sh13 o = (0, 5, [(0, 0), (2, N), (2, (N + 1)), (2, (N + 2)), (2, (N + 3)), (2, (N + 4)), (2, (N + 5)), (4, 0), (0, 0)]) := by rw [hsh13, cn_set_ne (by omega)]; exact hs_o_12
  have hs_N6_13 : sh13 (N + 6) = (1, 60, []) := by rw [hsh13]; exact cn_set_at
  refine cn_putq (ea := e_a_13) (eb := e_q13_13) (Ts := ax_Ts) (n := 9) (T := aT_Rule) (C := "AskingFragments$Rule") (k := 7) hx hb hts aU_Rule (ty0 := cn_tRule) cn_yRule aN_Rule hown hK rfl hW13 hS13 (show o < (N + 7) by omega) hs_o_13 (by decide) rfl (show (N + 6) < (N + 7) by omega) (hts _ (ax_in (ax_wl_at (k := 1) (j := 123) rfl) rfl)) rfl hin rfl rfl rfl rfl cd_Rule_57 (fun H14 locs14 sh14 hsh14 hW14 hS14 => ?_)
  have hs_o_14 : sh14 o = (0, 5, [(0, 0), (2, N), (2, (N + 1)), (2, (N + 2)), (2, (N + 3)), (2, (N + 4)), (2, (N + 5)), (2, (N + 6)), (0, 0)]) := by rw [hsh14]; exact cn_set_at
  have hWz : cx_W Dg ax_cl A cA ad13 (cn_s_Rule sh N o) (N + 7) μ H14 := by
    subst hsh14 hsh13 hsh12 hsh11 hsh10 hsh9 hsh8 hsh7 hsh6 hsh5 hsh4 hsh3 hsh2 hsh1
    exact hW14
  exact W.vret hx hb hr (fun t ht hWm => ⟨⟨ad13, rfl, hb13, by subst ht; exact hWz⟩, hS14.F ht⟩) hS14.2.2 cd_Rule_60
theorem cd_Run_0 : decode prog_7_method_1_code 0 = .ok (.aload_n 0, 1) := by decide +kernel
theorem cd_Run_1 : decode prog_7_method_1_code 1 = .ok (.invokespecial 3, 3) := by decide +kernel
theorem cd_Run_4 : decode prog_7_method_1_code 4 = .ok (.aload_n 0, 1) := by decide +kernel
theorem cd_Run_5 : decode prog_7_method_1_code 5 = .ok (.bipush (30), 2) := by decide +kernel
theorem cd_Run_7 : decode prog_7_method_1_code 7 = .ok (.newarray .int, 2) := by decide +kernel
theorem cd_Run_9 : decode prog_7_method_1_code 9 = .ok (.putfield 9, 3) := by decide +kernel
theorem cd_Run_12 : decode prog_7_method_1_code 12 = .ok (.aload_n 0, 1) := by decide +kernel
theorem cd_Run_13 : decode prog_7_method_1_code 13 = .ok (.sipush (132), 3) := by decide +kernel
theorem cd_Run_16 : decode prog_7_method_1_code 16 = .ok (.newarray .int, 2) := by decide +kernel
theorem cd_Run_18 : decode prog_7_method_1_code 18 = .ok (.putfield 15, 3) := by decide +kernel
theorem cd_Run_21 : decode prog_7_method_1_code 21 = .ok (.aload_n 0, 1) := by decide +kernel
theorem cd_Run_22 : decode prog_7_method_1_code 22 = .ok (.bipush (60), 2) := by decide +kernel
theorem cd_Run_24 : decode prog_7_method_1_code 24 = .ok (.newarray .int, 2) := by decide +kernel
theorem cd_Run_26 : decode prog_7_method_1_code 26 = .ok (.putfield 18, 3) := by decide +kernel
theorem cd_Run_29 : decode prog_7_method_1_code 29 = .ok (.aload_n 0, 1) := by decide +kernel
theorem cd_Run_30 : decode prog_7_method_1_code 30 = .ok (.sipush (2048), 3) := by decide +kernel
theorem cd_Run_33 : decode prog_7_method_1_code 33 = .ok (.newarray .int, 2) := by decide +kernel
theorem cd_Run_35 : decode prog_7_method_1_code 35 = .ok (.putfield 21, 3) := by decide +kernel
theorem cd_Run_38 : decode prog_7_method_1_code 38 = .ok (.aload_n 0, 1) := by decide +kernel
theorem cd_Run_39 : decode prog_7_method_1_code 39 = .ok (.bipush (60), 2) := by decide +kernel
theorem cd_Run_41 : decode prog_7_method_1_code 41 = .ok (.newarray .int, 2) := by decide +kernel
theorem cd_Run_43 : decode prog_7_method_1_code 43 = .ok (.putfield 24, 3) := by decide +kernel
theorem cd_Run_46 : decode prog_7_method_1_code 46 = .ok (.aload_n 0, 1) := by decide +kernel
theorem cd_Run_47 : decode prog_7_method_1_code 47 = .ok (.bipush (60), 2) := by decide +kernel
theorem cd_Run_49 : decode prog_7_method_1_code 49 = .ok (.newarray .int, 2) := by decide +kernel
theorem cd_Run_51 : decode prog_7_method_1_code 51 = .ok (.putfield 27, 3) := by decide +kernel
theorem cd_Run_54 : decode prog_7_method_1_code 54 = .ok (.aload_n 0, 1) := by decide +kernel
theorem cd_Run_55 : decode prog_7_method_1_code 55 = .ok (.bipush (60), 2) := by decide +kernel
theorem cd_Run_57 : decode prog_7_method_1_code 57 = .ok (.newarray .int, 2) := by decide +kernel
theorem cd_Run_59 : decode prog_7_method_1_code 59 = .ok (.putfield 30, 3) := by decide +kernel
theorem cd_Run_62 : decode prog_7_method_1_code 62 = .ok (.aload_n 0, 1) := by decide +kernel
theorem cd_Run_63 : decode prog_7_method_1_code 63 = .ok (.bipush (60), 2) := by decide +kernel
theorem cd_Run_65 : decode prog_7_method_1_code 65 = .ok (.newarray .int, 2) := by decide +kernel
theorem cd_Run_67 : decode prog_7_method_1_code 67 = .ok (.putfield 33, 3) := by decide +kernel
theorem cd_Run_70 : decode prog_7_method_1_code 70 = .ok (.aload_n 0, 1) := by decide +kernel
theorem cd_Run_71 : decode prog_7_method_1_code 71 = .ok (.sipush (256), 3) := by decide +kernel
theorem cd_Run_74 : decode prog_7_method_1_code 74 = .ok (.newarray .int, 2) := by decide +kernel
theorem cd_Run_76 : decode prog_7_method_1_code 76 = .ok (.putfield 36, 3) := by decide +kernel
theorem cd_Run_79 : decode prog_7_method_1_code 79 = .ok (.aload_n 0, 1) := by decide +kernel
theorem cd_Run_80 : decode prog_7_method_1_code 80 = .ok (.bipush (7), 2) := by decide +kernel
theorem cd_Run_82 : decode prog_7_method_1_code 82 = .ok (.newarray .int, 2) := by decide +kernel
theorem cd_Run_84 : decode prog_7_method_1_code 84 = .ok (.putfield 39, 3) := by decide +kernel
theorem cd_Run_87 : decode prog_7_method_1_code 87 = .ok (.aload_n 0, 1) := by decide +kernel
theorem cd_Run_88 : decode prog_7_method_1_code 88 = .ok (.aload_n 1, 1) := by decide +kernel
theorem cd_Run_89 : decode prog_7_method_1_code 89 = .ok (.putfield 42, 3) := by decide +kernel
theorem cd_Run_92 : decode prog_7_method_1_code 92 = .ok (.return_, 1) := by decide +kernel
abbrev cn_d_Run : ax_D := (⟨"AskingFragments$Run", "<init>", "(LAskingFragments$Net;)V"⟩, prog_7_method_1_code, 2, none, 1, 0)
theorem cn_p_Run : (parseMethodDescriptor cn_d_Run.1.desc).map (fun d => d.parameters.length) = some 1 := by decide +kernel
/-- the cells behind it -/
def cn_s_Run (sh : Nat → ax_C) (N : Nat) (o g0 : Nat) : Nat → ax_C := cx_set (cx_set (cx_set (cx_set (cx_set (cx_set (cx_set (cx_set (cx_set (cx_set (cx_set (cx_set (cx_set (cx_set (cx_set (cx_set (cx_set (cx_set (cx_set (cx_set (cx_set (sh) N (1, 30, [])) o (0, 6, [(4, 0), (2, N), (4, 0), (4, 0), (4, 0), (4, 0), (4, 0), (4, 0), (4, 0), (4, 0), (4, 0), (0, 0), (0, 0), (0, 0), (0, 0), (0, 0), (0, 0), (0, 0)])) (N + 1) (1, 132, [])) o (0, 6, [(4, 0), (2, N), (2, (N + 1)), (4, 0), (4, 0), (4, 0), (4, 0), (4, 0), (4, 0), (4, 0), (4, 0), (0, 0), (0, 0), (0, 0), (0, 0), (0, 0), (0, 0), (0, 0)])) (N + 2) (1, 60, [])) o (0, 6, [(4, 0), (2, N), (2, (N + 1)), (2, (N + 2)), (4, 0), (4, 0), (4, 0), (4, 0), (4, 0), (4, 0), (4, 0), (0, 0), (0, 0), (0, 0), (0, 0), (0, 0), (0, 0), (0, 0)])) (N + 3) (1, 2048, [])) o (0, 6, [(4, 0), (2, N), (2, (N + 1)), (2, (N + 2)), (2, (N + 3)), (4, 0), (4, 0), (4, 0), (4, 0), (4, 0), (4, 0), (0, 0), (0, 0), (0, 0), (0, 0), (0, 0), (0, 0), (0, 0)])) (N + 4) (1, 60, [])) o (0, 6, [(4, 0), (2, N), (2, (N + 1)), (2, (N + 2)), (2, (N + 3)), (2, (N + 4)), (4, 0), (4, 0), (4, 0), (4, 0), (4, 0), (0, 0), (0, 0), (0, 0), (0, 0), (0, 0), (0, 0), (0, 0)])) (N + 5) (1, 60, [])) o (0, 6, [(4, 0), (2, N), (2, (N + 1)), (2, (N + 2)), (2, (N + 3)), (2, (N + 4)), (2, (N + 5)), (4, 0), (4, 0), (4, 0), (4, 0), (0, 0), (0, 0), (0, 0), (0, 0), (0, 0), (0, 0), (0, 0)])) (N + 6) (1, 60, [])) o (0, 6, [(4, 0), (2, N), (2, (N + 1)), (2, (N + 2)), (2, (N + 3)), (2, (N + 4)), (2, (N + 5)), (2, (N + 6)), (4, 0), (4, 0), (4, 0), (0, 0), (0, 0), (0, 0), (0, 0), (0, 0), (0, 0), (0, 0)])) (N + 7) (1, 60, [])) o (0, 6, [(4, 0), (2, N), (2, (N + 1)), (2, (N + 2)), (2, (N + 3)), (2, (N + 4)), (2, (N + 5)), (2, (N + 6)), (2, (N + 7)), (4, 0), (4, 0), (0, 0), (0, 0), (0, 0), (0, 0), (0, 0), (0, 0), (0, 0)])) (N + 8) (1, 256, [])) o (0, 6, [(4, 0), (2, N), (2, (N + 1)), (2, (N + 2)), (2, (N + 3)), (2, (N + 4)), (2, (N + 5)), (2, (N + 6)), (2, (N + 7)), (2, (N + 8)), (4, 0), (0, 0), (0, 0), (0, 0), (0, 0), (0, 0), (0, 0), (0, 0)])) (N + 9) (1, 7, [])) o (0, 6, [(4, 0), (2, N), (2, (N + 1)), (2, (N + 2)), (2, (N + 3)), (2, (N + 4)), (2, (N + 5)), (2, (N + 6)), (2, (N + 7)), (2, (N + 8)), (2, (N + 9)), (0, 0), (0, 0), (0, 0), (0, 0), (0, 0), (0, 0), (0, 0)])) o (0, 6, [(2, g0), (2, N), (2, (N + 1)), (2, (N + 2)), (2, (N + 3)), (2, (N + 4)), (2, (N + 5)), (2, (N + 6)), (2, (N + 7)), (2, (N + 8)), (2, (N + 9)), (0, 0), (0, 0), (0, 0), (0, 0), (0, 0), (0, 0), (0, 0)])
theorem cn_s_Run_ne {sh : Nat → ax_C} {N o g0 x : Nat} (h1 : x < N) (h2 : x ≠ o) : cn_s_Run sh N o g0 x = sh x := by
  unfold cn_s_Run
  rw [cn_set_ne (by omega), cn_set_ne (by omega), cn_set_ne (by omega), cn_set_ne (by omega), cn_set_ne (by omega), cn_set_ne (by omega), cn_set_ne (by omega), cn_set_ne (by omega), cn_set_ne (by omega), cn_set_ne (by omega), cn_set_ne (by omega), cn_set_ne (by omega), cn_set_ne (by omega), cn_set_ne (by omega), cn_set_ne (by omega), cn_set_ne (by omega), cn_set_ne (by omega), cn_set_ne (by omega), cn_set_ne (by omega), cn_set_ne (by omega), cn_set_ne (by omega)]
theorem cn_s_Run_at {sh : Nat → ax_C} {N o g0 : Nat} : cn_s_Run sh N o g0 o = (0, 6, [(2, g0), (2, N), (2, (N + 1)), (2, (N + 2)), (2, (N + 3)), (2, (N + 4)), (2, (N + 5)), (2, (N + 6)), (2, (N + 7)), (2, (N + 8)), (2, (N + 9)), (0, 0), (0, 0), (0, 0), (0, 0), (0, 0), (0, 0), (0, 0)]) := cn_set_at
theorem cn_Run (l : Launch) (Dg : va_G) (A : Nat → Prop) (cA : Nat → ClassId) (ad : Nat → Nat) (sh : Nat → ax_C) (N : Nat) (μ : ax_M) {o g0 : Nat} {a b0 : Nat} (e_a : ad o = a) (h_o : o < N) (e_b0 : ad g0 = b0) (h_g0 : g0 < N) (hso : sh o = (0, 6, [(4, 0), (4, 0), (4, 0), (4, 0), (4, 0), (4, 0), (4, 0), (4, 0), (4, 0), (4, 0), (4, 0), (0, 0), (0, 0), (0, 0), (0, 0), (0, 0), (0, 0), (0, 0)])) (hμ : ∀ o, N ≤ o → μ.1 o = (fun _ => 0) ∧ μ.2 o = (fun _ => 0)) :
    Met l cn_d_Run.1 (ax_ws cn_Ts cn_d_Run) { frames := 1, cells := 10, slots := 2773, locals := 60 } (cn_P Dg A cA ad sh N μ [.ref a, .ref b0]) (cn_Q Dg A cA ad N (cn_s_Run sh N o g0) (N + 10) μ) 10 2773 A := by
  refine Met.ofW (cc := prog_7_method_1_code) (maxL := 2) (ret := none) (by decide) rfl ?_
  intro p e s m args below meth c s₁ B hml hv
  obtain ⟨rfl, hW, hK, hA, hX⟩ := hv
  have hx := B.exec
  have hb := B.bytes
  have hr := B.returns
  have hlocks := B.notSynchronized
  have hin : meth.name = "<init>" := (name_of_methodNamed B.named B.method).1
  have hts0 := atoms_spec (ws := ax_ws cn_Ts cn_d_Run) B.pre
  have htn : ∀ w ∈ cn_Ts, w.before ([.ref a, .ref b0] : List Value).toArray s = true := fun w hw => hts0 w (List.mem_cons_of_mem _ hw)
  have hts : ∀ w ∈ ax_Ts, w.before ([.ref a, .ref b0] : List Value).toArray s = true := fun w hw => htn w (cn_Ts_in hw)
  have hown : s.vm.findClass "AskingFragments$Run" = some m.cls := findClass_of_methodNamed B.named
  have hS : va_S A s.heap s.heap [] := va_S.rf
  have hoc := cn_objC hts
  have hl := lv_entry ([.ref a, .ref b0]) (n := 2) (Nat.le_of_ble_eq_true rfl)
  rw [lg_entry_eq]
  generalize (lg_sl ([.ref a, .ref b0]) ++ List.replicate (2 - (lg_sl ([.ref a, .ref b0])).length) Slot.unset).toArray = ls at hl ⊢
  have hl : lv_has ls 2 [(0, .ref a), (1, .ref b0)] := hl
  refine lv_aload_n hx hb cd_Run_0 rfl (lv_at hl 0 rfl) ?_
  refine W.objInit hx hb hown (hts (.methodLink "AskingFragments$Run" 3 Lib.objectInit) (ax_in (ax_wl_at (k := 1) (j := 149) rfl) rfl)) hoc.1 hoc.2 rfl (by rw [hml]; exact hl.1) rfl cd_Run_1 (Nat.le_of_ble_eq_true rfl) (Nat.le_of_ble_eq_true rfl) ?_
  refine W.eq (g2 := F0 m 4 ls []) rfl ?_
  refine lv_aload_n hx hb cd_Run_4 rfl (lv_at hl 0 rfl) ?_
  refine lv_bipush hx hb cd_Run_5 (v := (30)) rfl ?_
  refine cn_newa (len := 30) hx hb (htn _ (List.mem_of_getElem? (i := 1) rfl)) 1 (by decide) rfl rfl hK hW hS hA (hμ _ (by omega)) (by decide) rfl (by decide) (Nat.le_of_ble_eq_true rfl) (Nat.le_of_ble_eq_true rfl) cd_Run_7 (fun q1 H1 ad1 sh1 N1 had1 hsh1 hN1 hW1 hS1 => ?_)
  obtain rfl : N1 = (N + 1) := by omega
  clear hN1
  have e_a_1 : ad1 o = a := by rw [had1, cn_ext (by omega)]; exact e_a
  have e_b0_1 : ad1 g0 = b0 := by rw [had1, cn_ext (by omega)]; exact e_b0
  have e_q1_1 : ad1 N = q1 := by rw [had1]; exact cn_ext_at
  have hb1 : ∀ x, x < N → ad1 x = ad x := fun x hx => by rw [had1, cn_ext (by omega)]
  have hs_o_1 : sh1 o = (0, 6, [(4, 0), (4, 0), (4, 0), (4, 0), (4, 0), (4, 0), (4, 0), (4, 0), (4, 0), (4, 0), (4, 0), (0, 0), (0, 0), (0, 0), (0, 0), (0, 0), (0, 0), (0, 0)]) := by rw [hsh1, cn_set_ne (by omega)]; exact hso
  have hs_N_1 : sh1 N = (1, 30, []) := by rw [hsh1]; exact cn_set_at
  refine cn_putq (ea := e_a_1) (eb := e_q1_1) (Ts := ax_Ts) (n := 18) (T := aT_Run) (C := "AskingFragments$Run") (k := 1) hx hb hts aU_Run (ty0 := cn_tRun) cn_yRun aN_Run hown hK rfl hW1 hS1 (show o < (N + 1) by omega) hs_o_1 (by decide) rfl (show N < (N + 1) by omega) (hts _ (ax_in (ax_wl_at (k := 1) (j := 152) rfl) rfl)) rfl hin rfl rfl rfl rfl cd_Run_9 (fun H2 locs2 sh2 hsh2 hW2 hS2 => ?_)
  have hs_o_2 : sh2 o = (0, 6, [(4, 0), (2, N), (4, 0), (4, 0), (4, 0), (4, 0), (4, 0), (4, 0), (4, 0), (4, 0), (4, 0), (0, 0), (0, 0), (0, 0), (0, 0), (0, 0), (0, 0), (0, 0)]) := by rw [hsh2]; exact cn_set_at
  refine lv_aload_n hx hb cd_Run_12 rfl (lv_at hl 0 rfl) ?_
  refine lv_sipush hx hb cd_Run_13 (v := (132)) rfl ?_
  refine cn_newa (len := 132) hx hb (htn _ (List.mem_of_getElem? (i := 1) rfl)) 1 (by decide) rfl rfl hK hW2 hS2 hA (hμ _ (by omega)) (by decide) rfl (by decide) (Nat.le_of_ble_eq_true rfl) (Nat.le_of_ble_eq_true rfl) cd_Run_16 (fun q3 H3 ad3 sh3 N3 had3 hsh3 hN3 hW3 hS3 => ?_)
  obtain rfl : N3 = (N + 2) := by omega
  clear hN3
  have e_a_3 : ad3 o = a := by rw [had3, cn_ext (by omega)]; exact e_a_1
  have e_b0_3 : ad3 g0 = b0 := by rw [had3, cn_ext (by omega)]; exact e_b0_1
  have e_q3_3 : ad3 (N + 1) = q3 := by rw [had3]; exact cn_ext_at
  have hb3 : ∀ x, x < N → ad3 x = ad x := fun x hx => by rw [had3, cn_ext (by omega)]; exact hb1 x hx
  have hs_o_3 : sh3 o = (0, 6, [(4, 0), (2, N), (4, 0), (4, 0), (4, 0), (4, 0), (4, 0), (4, 0), (4, 0), (4, 0), (4, 0), (0, 0), (0, 0), (0, 0), (0, 0), (0, 0), (0, 0), (0, 0)]) := by rw [hsh3, cn_set_ne (by omega)]; exact hs_o_2
  have hs_N1_3 : sh3 (N + 1) = (1, 132, []) := by rw [hsh3]; exact cn_set_at
  refine cn_putq (ea := e_a_3) (eb := e_q3_3) (Ts := ax_Ts) (n := 18) (T := aT_Run) (C := "AskingFragments$Run") (k := 2) hx hb hts aU_Run (ty0 := cn_tRun) cn_yRun aN_Run hown hK rfl hW3 hS3 (show o < (N + 2) by omega) hs_o_3 (by decide) rfl (show (N + 1) < (N + 2) by omega) (hts _ (ax_in (ax_wl_at (k := 1) (j := 155) rfl) rfl)) rfl hin rfl rfl rfl rfl cd_Run_18 (fun H4 locs4 sh4 hsh4 hW4 hS4 => ?_)
  have hs_o_4 : sh4 o = (0, 6, [(4, 0), (2, N), (2, (N + 1)), (4, 0), (4, 0), (4, 0), (4, 0), (4, 0), (4, 0), (4, 0), (4, 0), (0, 0), (0, 0), (0, 0), (0, 0), (0, 0), (0, 0), (0, 0)]) := by rw [hsh4]; exact cn_set_at
  refine lv_aload_n hx hb cd_Run_21 rfl (lv_at hl 0 rfl) ?_
  refine lv_bipush hx hb cd_Run_22 (v := (60)) rfl ?_
  refine cn_newa (len := 60) hx hb (htn _ (List.mem_of_getElem? (i := 1) rfl)) 1 (by decide) rfl rfl hK hW4 hS4 hA (hμ _ (by omega)) (by decide) rfl (by decide) (Nat.le_of_ble_eq_true rfl) (Nat.le_of_ble_eq_true rfl) cd_Run_24 (fun q5 H5 ad5 sh5 N5 had5 hsh5 hN5 hW5 hS5 => ?_)
  obtain rfl : N5 = (N + 3) := by omega
  clear hN5
  have e_a_5 : ad5 o = a := by rw [had5, cn_ext (by omega)]; exact e_a_3
  have e_b0_5 : ad5 g0 = b0 := by rw [had5, cn_ext (by omega)]; exact e_b0_3
  have e_q5_5 : ad5 (N + 2) = q5 := by rw [had5]; exact cn_ext_at
  have hb5 : ∀ x, x < N → ad5 x = ad x := fun x hx => by rw [had5, cn_ext (by omega)]; exact hb3 x hx
  have hs_o_5 : sh5 o = (0, 6, [(4, 0), (2, N), (2, (N + 1)), (4, 0), (4, 0), (4, 0), (4, 0), (4, 0), (4, 0), (4, 0), (4, 0), (0, 0), (0, 0), (0, 0), (0, 0), (0, 0), (0, 0), (0, 0)]) := by rw [hsh5, cn_set_ne (by omega)]; exact hs_o_4
  have hs_N2_5 : sh5 (N + 2) = (1, 60, []) := by rw [hsh5]; exact cn_set_at
  refine cn_putq (ea := e_a_5) (eb := e_q5_5) (Ts := ax_Ts) (n := 18) (T := aT_Run) (C := "AskingFragments$Run") (k := 3) hx hb hts aU_Run (ty0 := cn_tRun) cn_yRun aN_Run hown hK rfl hW5 hS5 (show o < (N + 3) by omega) hs_o_5 (by decide) rfl (show (N + 2) < (N + 3) by omega) (hts _ (ax_in (ax_wl_at (k := 1) (j := 156) rfl) rfl)) rfl hin rfl rfl rfl rfl cd_Run_26 (fun H6 locs6 sh6 hsh6 hW6 hS6 => ?_)
  have hs_o_6 : sh6 o = (0, 6, [(4, 0), (2, N), (2, (N + 1)), (2, (N + 2)), (4, 0), (4, 0), (4, 0), (4, 0), (4, 0), (4, 0), (4, 0), (0, 0), (0, 0), (0, 0), (0, 0), (0, 0), (0, 0), (0, 0)]) := by rw [hsh6]; exact cn_set_at
  refine lv_aload_n hx hb cd_Run_29 rfl (lv_at hl 0 rfl) ?_
  refine lv_sipush hx hb cd_Run_30 (v := (2048)) rfl ?_
  refine cn_newa (len := 2048) hx hb (htn _ (List.mem_of_getElem? (i := 1) rfl)) 1 (by decide) rfl rfl hK hW6 hS6 hA (hμ _ (by omega)) (by decide) rfl (by decide) (Nat.le_of_ble_eq_true rfl) (Nat.le_of_ble_eq_true rfl) cd_Run_33 (fun q7 H7 ad7 sh7 N7 had7 hsh7 hN7 hW7 hS7 => ?_)
  obtain rfl : N7 = (N + 4) := by omega
  clear hN7
  have e_a_7 : ad7 o = a := by rw [had7, cn_ext (by omega)]; exact e_a_5
  have e_b0_7 : ad7 g0 = b0 := by rw [had7, cn_ext (by omega)]; exact e_b0_5
  have e_q7_7 : ad7 (N + 3) = q7 := by rw [had7]; exact cn_ext_at
  have hb7 : ∀ x, x < N → ad7 x = ad x := fun x hx => by rw [had7, cn_ext (by omega)]; exact hb5 x hx
  have hs_o_7 : sh7 o = (0, 6, [(4, 0), (2, N), (2, (N + 1)), (2, (N + 2)), (4, 0), (4, 0), (4, 0), (4, 0), (4, 0), (4, 0), (4, 0), (0, 0), (0, 0), (0, 0), (0, 0), (0, 0), (0, 0), (0, 0)]) := by rw [hsh7, cn_set_ne (by omega)]; exact hs_o_6
  have hs_N3_7 : sh7 (N + 3) = (1, 2048, []) := by rw [hsh7]; exact cn_set_at
  refine cn_putq (ea := e_a_7) (eb := e_q7_7) (Ts := ax_Ts) (n := 18) (T := aT_Run) (C := "AskingFragments$Run") (k := 4) hx hb hts aU_Run (ty0 := cn_tRun) cn_yRun aN_Run hown hK rfl hW7 hS7 (show o < (N + 4) by omega) hs_o_7 (by decide) rfl (show (N + 3) < (N + 4) by omega) (hts _ (ax_in (ax_wl_at (k := 1) (j := 159) rfl) rfl)) rfl hin rfl rfl rfl rfl cd_Run_35 (fun H8 locs8 sh8 hsh8 hW8 hS8 => ?_)
  have hs_o_8 : sh8 o = (0, 6, [(4, 0), (2, N), (2, (N + 1)), (2, (N + 2)), (2, (N + 3)), (4, 0), (4, 0), (4, 0), (4, 0), (4, 0), (4, 0), (0, 0), (0, 0), (0, 0), (0, 0), (0, 0), (0, 0), (0, 0)]) := by rw [hsh8]; exact cn_set_at
  refine lv_aload_n hx hb cd_Run_38 rfl (lv_at hl 0 rfl) ?_
  refine lv_bipush hx hb cd_Run_39 (v := (60)) rfl ?_
  refine cn_newa (len := 60) hx hb (htn _ (List.mem_of_getElem? (i := 1) rfl)) 1 (by decide) rfl rfl hK hW8 hS8 hA (hμ _ (by omega)) (by decide) rfl (by decide) (Nat.le_of_ble_eq_true rfl) (Nat.le_of_ble_eq_true rfl) cd_Run_41 (fun q9 H9 ad9 sh9 N9 had9 hsh9 hN9 hW9 hS9 => ?_)
  obtain rfl : N9 = (N + 5) := by omega
  clear hN9
  have e_a_9 : ad9 o = a := by rw [had9, cn_ext (by omega)]; exact e_a_7
  have e_b0_9 : ad9 g0 = b0 := by rw [had9, cn_ext (by omega)]; exact e_b0_7
  have e_q9_9 : ad9 (N + 4) = q9 := by rw [had9]; exact cn_ext_at
  have hb9 : ∀ x, x < N → ad9 x = ad x := fun x hx => by rw [had9, cn_ext (by omega)]; exact hb7 x hx
  have hs_o_9 : sh9 o = (0, 6, [(4, 0), (2, N), (2, (N + 1)), (2, (N + 2)), (2, (N + 3)), (4, 0), (4, 0), (4, 0), (4, 0), (4, 0), (4, 0), (0, 0), (0, 0), (0, 0), (0, 0), (0, 0), (0, 0), (0, 0)]) := by rw [hsh9, cn_set_ne (by omega)]; exact hs_o_8
  have hs_N4_9 : sh9 (N + 4) = (1, 60, []) := by rw [hsh9]; exact cn_set_at
  refine cn_putq (ea := e_a_9) (eb := e_q9_9) (Ts := ax_Ts) (n := 18) (T := aT_Run) (C := "AskingFragments$Run") (k := 5) hx hb hts aU_Run (ty0 := cn_tRun) cn_yRun aN_Run hown hK rfl hW9 hS9 (show o < (N + 5) by omega) hs_o_9 (by decide) rfl (show (N + 4) < (N + 5) by omega) (hts _ (ax_in (ax_wl_at (k := 1) (j := 161) rfl) rfl)) rfl hin rfl rfl rfl rfl cd_Run_43 (fun H10 locs10 sh10 hsh10 hW10 hS10 => ?_)
  have hs_o_10 : sh10 o = (0, 6, [(4, 0), (2, N), (2, (N + 1)), (2, (N + 2)), (2, (N + 3)), (2, (N + 4)), (4, 0), (4, 0), (4, 0), (4, 0), (4, 0), (0, 0), (0, 0), (0, 0), (0, 0), (0, 0), (0, 0), (0, 0)]) := by rw [hsh10]; exact cn_set_at
  refine lv_aload_n hx hb cd_Run_46 rfl (lv_at hl 0 rfl) ?_
  refine lv_bipush hx hb cd_Run_47 (v := (60)) rfl ?_
  refine cn_newa (len := 60) hx hb (htn _ (List.mem_of_getElem? (i := 1) rfl)) 1 (by decide) rfl rfl hK hW10 hS10 hA (hμ _ (by omega)) (by decide) rfl (by decide) (Nat.le_of_ble_eq_true rfl) (Nat.le_of_ble_eq_true rfl) cd_Run_49 (fun q11 H11 ad11 sh11 N11 had11 hsh11 hN11 hW11 hS11 => ?_)
  obtain rfl : N11 = (N + 6) := by omega
  clear hN11
  have e_a_11 : ad11 o = a := by rw [had11, cn_ext (by omega)]; exact e_a_9
  have e_b0_11 : ad11 g0 = b0 := by rw [had11, cn_ext (by omega)]; exact e_b0_9
  have e_q11_11 : ad11 (N + 5) = q11 := by rw [had11]; exact cn_ext_at
  have hb11 : ∀ x, x < N → ad11 x = ad x := fun x hx => by rw [had11, cn_ext (by omega)]; exact hb9 x hx
  have hs_o_11 : sh11 o = (0, 6, [(4, 0), (2, N), (2, (N + 1)), (2, (N + 2)), (2, (N + 3)), (2, (N + 4)), (4, 0), (4, 0), (4, 0), (4, 0), (4, 0), (0, 0), (0, 0), (0, 0), (0, 0), (0, 0), (0, 0), (0, 0)]) := by rw [hsh11, cn_set_ne (by omega)]; exact hs_o_10
  have hs_N5_11 : sh11 (N + 5) = (1, 60, []) := by rw [hsh11]; exact cn_set_at
  refine cn_putq (ea := e_a_11) (eb := e_q11_11) (Ts := ax_Ts) (n := 18) (T := aT_Run) (C := "AskingFragments$Run") (k := 6) hx hb hts aU_Run (ty0 := cn_tRun) cn_yRun aN_Run hown hK rfl hW11 hS11 (show o < (N + 6) by omega) hs_o_11 (by decide) rfl (show (N + 5) < (N + 6) by omega) (hts _ (ax_in (ax_wl_at (k := 1) (j := 163) rfl) rfl)) rfl hin rfl rfl rfl rfl cd_Run_51 (fun H12 locs12 sh12 hsh12 hW12 hS12 => ?_)
  have hs_o_12 : sh12 o = (0, 6, [(4, 0), (2, N), (2, (N + 1)), (2, (N + 2)), (2, (N + 3)), (2, (N + 4)), (2, (N + 5)), (4, 0), (4, 0), (4, 0), (4, 0), (0, 0), (0, 0), (0, 0), (0, 0), (0, 0), (0, 0), (0, 0)]) := by rw [hsh12]; exact cn_set_at
  refine lv_aload_n hx hb cd_Run_54 rfl (lv_at hl 0 rfl) ?_
  refine lv_bipush hx hb cd_Run_55 (v := (60)) rfl ?_
  refine cn_newa (len := 60) hx hb (htn _ (List.mem_of_getElem? (i := 1) rfl)) 1 (by decide) rfl rfl hK hW12 hS12 hA (hμ _ (by omega)) (by decide) rfl (by decide) (Nat.le_of_ble_eq_true rfl) (Nat.le_of_ble_eq_true rfl) cd_Run_57 (fun q13 H13 ad13 sh13 N13 had13 hsh13 hN13 hW13 hS13 => ?_)
  obtain rfl : N13 = (N + 7) := by omega
  clear hN13
  have e_a_13 : ad13 o = a := by rw [had13, cn_ext (by omega)]; exact e_a_11
  have e_b0_13 : ad13 g0 = b0 := by rw [had13, cn_ext (by omega)]; exact e_b0_11
  have e_q13_13 : ad13 (N + 6) = q13 := by rw [had13]; exact cn_ext_at
  have hb13 : ∀ x, x < N → ad13 x = ad x := fun x hx => by rw [had13, cn_ext (by omega)]; exact hb11 x hx
  have hs_o_13 : sh13 o = (0, 6, [(4, 0), (2, N), (2, (N + 1)), (2, (N + 2)), (2, (N + 3)), (2, (N + 4)), (2, (N + 5)), (4, 0), (4, 0), (4, 0), (4, 0), (0, 0), (0, 0), (0, 0), (0, 0), (0, 0), (0, 0), (0, 0)]) := by rw [hsh13, cn_set_ne (by omega)]; exact hs_o_12
  have hs_N6_13 : sh13 (N + 6) = (1, 60, []) := by rw [hsh13]; exact cn_set_at
  refine cn_putq (ea := e_a_13) (eb := e_q13_13) (Ts := ax_Ts) (n := 18) (T := aT_Run) (C := "AskingFragments$Run") (k := 7) hx hb hts aU_Run (ty0 := cn_tRun) cn_yRun aN_Run hown hK rfl hW13 hS13 (show o < (N + 7) by omega) hs_o_13 (by decide) rfl (show (N + 6) < (N + 7) by omega) (hts _ (ax_in (ax_wl_at (k := 1) (j := 164) rfl) rfl)) rfl hin rfl rfl rfl rfl cd_Run_59 (fun H14 locs14 sh14 hsh14 hW14 hS14 => ?_)
  have hs_o_14 : sh14 o = (0, 6, [(4, 0), (2, N), (2, (N + 1)), (2, (N + 2)), (2, (N + 3)), (2, (N + 4)), (2, (N + 5)), (2, (N + 6)), (4, 0), (4, 0), (4, 0), (0, 0), (0, 0), (0, 0), (0, 0), (0, 0), (0, 0), (0, 0)]) := by rw [hsh14]; exact cn_set_at
  refine lv_aload_n hx hb cd_Run_62 rfl (lv_at hl 0 rfl) ?_
  refine lv_bipush hx hb cd_Run_63 (v := (60)) rfl ?_
  refine cn_newa (len := 60) hx hb (htn _ (List.mem_of_getElem? (i := 1) rfl)) 1 (by decide) rfl rfl hK hW14 hS14 hA (hμ _ (by omega)) (by decide) rfl (by decide) (Nat.le_of_ble_eq_true rfl) (Nat.le_of_ble_eq_true rfl) cd_Run_65 (fun q15 H15 ad15 sh15 N15 had15 hsh15 hN15 hW15 hS15 => ?_)
  obtain rfl : N15 = (N + 8) := by omega
  clear hN15
  have e_a_15 : ad15 o = a := by rw [had15, cn_ext (by omega)]; exact e_a_13
  have e_b0_15 : ad15 g0 = b0 := by rw [had15, cn_ext (by omega)]; exact e_b0_13
  have e_q15_15 : ad15 (N + 7) = q15 := by rw [had15]; exact cn_ext_at
  have hb15 : ∀ x, x < N → ad15 x = ad x := fun x hx => by rw [had15, cn_ext (by omega)]; exact hb13 x hx
  have hs_o_15 : sh15 o = (0, 6, [(4, 0), (2, N), (2, (N + 1)), (2, (N + 2)), (2, (N + 3)), (2, (N + 4)), (2, (N + 5)), (2, (N + 6)), (4, 0), (4, 0), (4, 0), (0, 0), (0, 0), (0, 0), (0, 0), (0, 0), (0, 0), (0, 0)]) := by rw [hsh15, cn_set_ne (by omega)]; exact hs_o_14
  have hs_N7_15 : sh15 (N + 7) = (1, 60, []) := by rw [hsh15]; exact cn_set_at
  refine cn_putq (ea := e_a_15) (eb := e_q15_15) (Ts := ax_Ts) (n := 18) (T := aT_Run) (C := "AskingFragments$Run") (k := 8) hx hb hts aU_Run (ty0 := cn_tRun) cn_yRun aN_Run hown hK rfl hW15 hS15 (show o < (N + 8) by omega) hs_o_15 (by decide) rfl (show (N + 7) < (N + 8) by omega) (hts _ (ax_in (ax_wl_at (k := 1) (j := 167) rfl) rfl)) rfl hin rfl rfl rfl rfl cd_Run_67 (fun H16 locs16 sh16 hsh16 hW16 hS16 => ?_)
  have hs_o_16 : sh16 o = (0, 6, [(4, 0), (2, N), (2, (N + 1)), (2, (N + 2)), (2, (N + 3)), (2, (N + 4)), (2, (N + 5)), (2, (N + 6)), (2, (N + 7)), (4, 0), (4, 0), (0, 0), (0, 0), (0, 0), (0, 0), (0, 0), (0, 0), (0, 0)]) := by rw [hsh16]; exact cn_set_at
  refine lv_aload_n hx hb cd_Run_70 rfl (lv_at hl 0 rfl) ?_
  refine lv_sipush hx hb cd_Run_71 (v := (256)) rfl ?_
  refine cn_newa (len := 256) hx hb (htn _ (List.mem_of_getElem? (i := 1) rfl)) 1 (by decide) rfl rfl hK hW16 hS16 hA (hμ _ (by omega)) (by decide) rfl (by decide) (Nat.le_of_ble_eq_true rfl) (Nat.le_of_ble_eq_true rfl) cd_Run_74 (fun q17 H17 ad17 sh17 N17 had17 hsh17 hN17 hW17 hS17 => ?_)
  obtain rfl : N17 = (N + 9) := by omega
  clear hN17
  have e_a_17 : ad17 o = a := by rw [had17, cn_ext (by omega)]; exact e_a_15
  have e_b0_17 : ad17 g0 = b0 := by rw [had17, cn_ext (by omega)]; exact e_b0_15
  have e_q17_17 : ad17 (N + 8) = q17 := by rw [had17]; exact cn_ext_at
  have hb17 : ∀ x, x < N → ad17 x = ad x := fun x hx => by rw [had17, cn_ext (by omega)]; exact hb15 x hx
  have hs_o_17 : sh17 o = (0, 6, [(4, 0), (2, N), (2, (N + 1)), (2, (N + 2)), (2, (N + 3)), (2, (N + 4)), (2, (N + 5)), (2, (N + 6)), (2, (N + 7)), (4, 0), (4, 0), (0, 0), (0, 0), (0, 0), (0, 0), (0, 0), (0, 0), (0, 0)]) := by rw [hsh17, cn_set_ne (by omega)]; exact hs_o_16
  have hs_N8_17 : sh17 (N + 8) = (1, 256, []) := by rw [hsh17]; exact cn_set_at
  refine cn_putq (ea := e_a_17) (eb := e_q17_17) (Ts := ax_Ts) (n := 18) (T := aT_Run) (C := "AskingFragments$Run") (k := 9) hx hb hts aU_Run (ty0 := cn_tRun) cn_yRun aN_Run hown hK rfl hW17 hS17 (show o < (N + 9) by omega) hs_o_17 (by decide) rfl (show (N + 8) < (N + 9) by omega) (hts _ (ax_in (ax_wl_at (k := 1) (j := 168) rfl) rfl)) rfl hin rfl rfl rfl rfl cd_Run_76 (fun H18 locs18 sh18 hsh18 hW18 hS18 => ?_)
  have hs_o_18 : sh18 o = (0, 6, [(4, 0), (2, N), (2, (N + 1)), (2, (N + 2)), (2, (N + 3)), (2, (N + 4)), (2, (N + 5)), (2, (N + 6)), (2, (N + 7)), (2, (N + 8)), (4, 0), (0, 0), (0, 0), (0, 0), (0, 0), (0, 0), (0, 0), (0, 0)]) := by rw [hsh18]; exact cn_set_at
  refine lv_aload_n hx hb cd_Run_79 rfl (lv_at hl 0 rfl) ?_
  refine lv_bipush hx hb cd_Run_80 (v := (7)) rfl ?_
  refine cn_newa (len := 7) hx hb (htn _ (List.mem_of_getElem? (i := 1) rfl)) 1 (by decide) rfl rfl hK hW18 hS18 hA (hμ _ (by omega)) (by decide) rfl (by decide) (Nat.le_of_ble_eq_true rfl) (Nat.le_of_ble_eq_true rfl) cd_Run_82 (fun q19 H19 ad19 sh19 N19 had19 hsh19 hN19 hW19 hS19 => ?_)
  obtain rfl : N19 = (N + 10) := by omega
  clear hN19
  have e_a_19 : ad19 o = a := by rw [had19, cn_ext (by omega)]; exact e_a_17
  have e_b0_19 : ad19 g0 = b0 := by rw [had19, cn_ext (by omega)]; exact e_b0_17
  have e_q19_19 : ad19 (N + 9) = q19 := by rw [had19]; exact cn_ext_at
  have hb19 : ∀ x, x < N → ad19 x = ad x := fun x hx => by rw [had19, cn_ext (by omega)]; exact hb17 x hx
  have hs_o_19 : sh19 o = (0, 6, [(4, 0), (2, N), (2, (N + 1)), (2, (N + 2)), (2, (N + 3)), (2, (N + 4)), (2, (N + 5)), (2, (N + 6)), (2, (N + 7)), (2, (N + 8)), (4, 0), (0, 0), (0, 0), (0, 0), (0, 0), (0, 0), (0, 0), (0, 0)]) := by rw [hsh19, cn_set_ne (by omega)]; exact hs_o_18
  have hs_N9_19 : sh19 (N + 9) = (1, 7, []) := by rw [hsh19]; exact cn_set_at
  refine cn_putq (ea := e_a_19) (eb := e_q19_19) (Ts := ax_Ts) (n := 18) (T := aT_Run) (C := "AskingFragments$Run") (k := 10) hx hb hts aU_Run (ty0 := cn_tRun) cn_yRun aN_Run hown hK rfl hW19 hS19 (show o < (N + 10) by omega) hs_o_19 (by decide) rfl (show (N + 9) < (N + 10) by omega) (hts _ (ax_in (ax_wl_at (k := 1) (j := 169) rfl) rfl)) rfl hin rfl rfl rfl rfl cd_Run_84 (fun H20 locs20 sh20 hsh20 hW20 hS20 => ?_)
  have hs_o_20 : sh20 o = (0, 6, [(4, 0), (2, N), (2, (N + 1)), (2, (N + 2)), (2, (N + 3)), (2, (N + 4)), (2, (N + 5)), (2, (N + 6)), (2, (N + 7)), (2, (N + 8)), (2, (N + 9)), (0, 0), (0, 0), (0, 0), (0, 0), (0, 0), (0, 0), (0, 0)]) := by rw [hsh20]; exact cn_set_at
  refine lv_aload_n hx hb cd_Run_87 rfl (lv_at hl 0 rfl) ?_
  refine lv_aload_n hx hb cd_Run_88 rfl (lv_at hl 1 rfl) ?_
  refine cn_putq (ea := e_a_19) (eb := e_b0_19) (Ts := ax_Ts) (n := 18) (T := aT_Run) (C := "AskingFragments$Run") (k := 0) hx hb hts aU_Run (ty0 := cn_tRun) cn_yRun aN_Run hown hK rfl hW20 hS20 (show o < (N + 10) by omega) hs_o_20 (by decide) rfl (show g0 < (N + 10) by omega) (hts _ (ax_in (ax_wl_at (k := 1) (j := 150) rfl) rfl)) rfl hin rfl rfl rfl rfl cd_Run_89 (fun H21 locs21 sh21 hsh21 hW21 hS21 => ?_)
  have hs_o_21 : sh21 o = (0, 6, [(2, g0), (2, N), (2, (N + 1)), (2, (N + 2)), (2, (N + 3)), (2, (N + 4)), (2, (N + 5)), (2, (N + 6)), (2, (N + 7)), (2, (N + 8)), (2, (N + 9)), (0, 0), (0, 0), (0, 0), (0, 0), (0, 0), (0, 0), (0, 0)]) := by rw [hsh21]; exact cn_set_at
  have hWz : cx_W Dg ax_cl A cA ad19 (cn_s_Run sh N o g0) (N + 10) μ H21 := by
    subst hsh21 hsh20 hsh19 hsh18 hsh17 hsh16 hsh15 hsh14 hsh13 hsh12 hsh11 hsh10 hsh9 hsh8 hsh7 hsh6 hsh5 hsh4 hsh3 hsh2 hsh1
    exact hW21
  exact W.vret hx hb hr (fun t ht hWm => ⟨⟨ad19, rfl, hb19, by subst ht; exact hWz⟩, hS21.F ht⟩) hS21.2.2 cd_Run_92
theorem cd_Forest_0 : decode prog_2_method_1_code 0 = .ok (.aload_n 0, 1) := by decide +kernel
theorem cd_Forest_1 : decode prog_2_method_1_code 1 = .ok (.invokespecial 3, 3) := by decide +kernel
theorem cd_Forest_4 : decode prog_2_method_1_code 4 = .ok (.aload_n 0, 1) := by decide +kernel
theorem cd_Forest_5 : decode prog_2_method_1_code 5 = .ok (.bipush (30), 2) := by decide +kernel
theorem cd_Forest_7 : decode prog_2_method_1_code 7 = .ok (.newarray .int, 2) := by decide +kernel
theorem cd_Forest_9 : decode prog_2_method_1_code 9 = .ok (.putfield 9, 3) := by decide +kernel
theorem cd_Forest_12 : decode prog_2_method_1_code 12 = .ok (.aload_n 0, 1) := by decide +kernel
theorem cd_Forest_13 : decode prog_2_method_1_code 13 = .ok (.bipush (12), 2) := by decide +kernel
theorem cd_Forest_15 : decode prog_2_method_1_code 15 = .ok (.newarray .int, 2) := by decide +kernel
theorem cd_Forest_17 : decode prog_2_method_1_code 17 = .ok (.putfield 15, 3) := by decide +kernel
theorem cd_Forest_20 : decode prog_2_method_1_code 20 = .ok (.aload_n 0, 1) := by decide +kernel
theorem cd_Forest_21 : decode prog_2_method_1_code 21 = .ok (.aload_n 1, 1) := by decide +kernel
theorem cd_Forest_22 : decode prog_2_method_1_code 22 = .ok (.putfield 18, 3) := by decide +kernel
theorem cd_Forest_25 : decode prog_2_method_1_code 25 = .ok (.return_, 1) := by decide +kernel
abbrev cn_d_Forest : ax_D := (⟨"AskingFragments$Forest", "<init>", "(LAskingFragments$Net;)V"⟩, prog_2_method_1_code, 2, none, 1, 0)
theorem cn_p_Forest : (parseMethodDescriptor cn_d_Forest.1.desc).map (fun d => d.parameters.length) = some 1 := by decide +kernel
/-- the cells behind it -/
def cn_s_Forest (sh : Nat → ax_C) (N : Nat) (o g0 : Nat) : Nat → ax_C := cx_set (cx_set (cx_set (cx_set (cx_set (sh) N (1, 30, [])) o (0, 1, [(4, 0), (2, N), (4, 0), (0, 0), (0, 0), (0, 0)])) (N + 1) (1, 12, [])) o (0, 1, [(4, 0), (2, N), (2, (N + 1)), (0, 0), (0, 0), (0, 0)])) o (0, 1, [(2, g0), (2, N), (2, (N + 1)), (0, 0), (0, 0), (0, 0)])
theorem cn_s_Forest_ne {sh : Nat → ax_C} {N o g0 x : Nat} (h1 : x < N) (h2 : x ≠ o) : cn_s_Forest sh N o g0 x = sh x := by
  unfold cn_s_Forest
  rw [cn_set_ne (by omega), cn_set_ne (by omega), cn_set_ne (by omega), cn_set_ne (by omega), cn_set_ne (by omega)]
theorem cn_s_Forest_at {sh : Nat → ax_C} {N o g0 : Nat} : cn_s_Forest sh N o g0 o = (0, 1, [(2, g0), (2, N), (2, (N + 1)), (0, 0), (0, 0), (0, 0)]) := cn_set_at
theorem cn_Forest (l : Launch) (Dg : va_G) (A : Nat → Prop) (cA : Nat → ClassId) (ad : Nat → Nat) (sh : Nat → ax_C) (N : Nat) (μ : ax_M) {o g0 : Nat} {a b0 : Nat} (e_a : ad o = a) (h_o : o < N) (e_b0 : ad g0 = b0) (h_g0 : g0 < N) (hso : sh o = (0, 1, [(4, 0), (4, 0), (4, 0), (0, 0), (0, 0), (0, 0)])) (hμ : ∀ o, N ≤ o → μ.1 o = (fun _ => 0) ∧ μ.2 o = (fun _ => 0)) :
    Met l cn_d_Forest.1 (ax_ws cn_Ts cn_d_Forest) { frames := 1, cells := 2, slots := 42, locals := 60 } (cn_P Dg A cA ad sh N μ [.ref a, .ref b0]) (cn_Q Dg A cA ad N (cn_s_Forest sh N o g0) (N + 2) μ) 2 42 A := by
  refine Met.ofW (cc := prog_2_method_1_code) (maxL := 2) (ret := none) (by decide) rfl ?_
  intro p e s m args below meth c s₁ B hml hv
  obtain ⟨rfl, hW, hK, hA, hX⟩ := hv
  have hx := B.exec
  have hb := B.bytes
  have hr := B.returns
  have hlocks := B.notSynchronized
  have hin : meth.name = "<init>" := (name_of_methodNamed B.named B.method).1
  have hts0 := atoms_spec (ws := ax_ws cn_Ts cn_d_Forest) B.pre
  have htn : ∀ w ∈ cn_Ts, w.before ([.ref a, .ref b0] : List Value).toArray s = true := fun w hw => hts0 w (List.mem_cons_of_mem _ hw)
  have hts : ∀ w ∈ ax_Ts, w.before ([.ref a, .ref b0] : List Value).toArray s = true := fun w hw => htn w (cn_Ts_in hw)
  have hown : s.vm.findClass "AskingFragments$Forest" = some m.cls := findClass_of_methodNamed B.named
  have hS : va_S A s.heap s.heap [] := va_S.rf
  have hoc := cn_objC hts
  have hl := lv_entry ([.ref a, .ref b0]) (n := 2) (Nat.le_of_ble_eq_true rfl)
  rw [lg_entry_eq]
  generalize (lg_sl ([.ref a, .ref b0]) ++ List.replicate (2 - (lg_sl ([.ref a, .ref b0])).length) Slot.unset).toArray = ls at hl ⊢
  have hl : lv_has ls 2 [(0, .ref a), (1, .ref b0)] := hl
  refine lv_aload_n hx hb cd_Forest_0 rfl (lv_at hl 0 rfl) ?_
  refine W.objInit hx hb hown (hts (.methodLink "AskingFragments$Forest" 3 Lib.objectInit) (ax_in (ax_wl_at (k := 2) (j := 17) rfl) rfl)) hoc.1 hoc.2 rfl (by rw [hml]; exact hl.1) rfl cd_Forest_1 (Nat.le_of_ble_eq_true rfl) (Nat.le_of_ble_eq_true rfl) ?_
  refine W.eq (g2 := F0 m 4 ls []) rfl ?_
  refine lv_aload_n hx hb cd_Forest_4 rfl (lv_at hl 0 rfl) ?_
  refine lv_bipush hx hb cd_Forest_5 (v := (30)) rfl ?_
  refine cn_newa (len := 30) hx hb (htn _ (List.mem_of_getElem? (i := 1) rfl)) 1 (by decide) rfl rfl hK hW hS hA (hμ _ (by omega)) (by decide) rfl (by decide) (Nat.le_of_ble_eq_true rfl) (Nat.le_of_ble_eq_true rfl) cd_Forest_7 (fun q1 H1 ad1 sh1 N1 had1 hsh1 hN1 hW1 hS1 => ?_)
  obtain rfl : N1 = (N + 1) := by omega
  clear hN1
  have e_a_1 : ad1 o = a := by rw [had1, cn_ext (by omega)]; exact e_a
  have e_b0_1 : ad1 g0 = b0 := by rw [had1, cn_ext (by omega)]; exact e_b0
  have e_q1_1 : ad1 N = q1 := by rw [had1]; exact cn_ext_at
  have hb1 : ∀ x, x < N → ad1 x = ad x := fun x hx => by rw [had1, cn_ext (by omega)]
  have hs_o_1 : sh1 o = (0, 1, [(4, 0), (4, 0), (4, 0), (0, 0), (0, 0), (0, 0)]) := by rw [hsh1, cn_set_ne (by omega)]; exact hso
  have hs_N_1 : sh1 N = (1, 30, []) := by rw [hsh1]; exact cn_set_at
  refine cn_putq (ea := e_a_1) (eb := e_q1_1) (Ts := ax_Ts) (n := 6) (T := aT_Forest) (C := "AskingFragments$Forest") (k := 1) hx hb hts aU_Forest (ty0 := cn_tForest) cn_yForest aN_Forest hown hK rfl hW1 hS1 (show o < (N + 1) by omega) hs_o_1 (by decide) rfl (show N < (N + 1) by omega) (hts _ (ax_in (ax_wl_at (k := 2) (j := 19) rfl) rfl)) rfl hin rfl rfl rfl rfl cd_Forest_9 (fun H2 locs2 sh2 hsh2 hW2 hS2 => ?_)
  have hs_o_2 : sh2 o = (0, 1, [(4, 0), (2, N), (4, 0), (0, 0), (0, 0), (0, 0)]) := by rw [hsh2]; exact cn_set_at
  refine lv_aload_n hx hb cd_Forest_12 rfl (lv_at hl 0 rfl) ?_
  refine lv_bipush hx hb cd_Forest_13 (v := (12)) rfl ?_
  refine cn_newa (len := 12) hx hb (htn _ (List.mem_of_getElem? (i := 1) rfl)) 1 (by decide) rfl rfl hK hW2 hS2 hA (hμ _ (by omega)) (by decide) rfl (by decide) (Nat.le_of_ble_eq_true rfl) (Nat.le_of_ble_eq_true rfl) cd_Forest_15 (fun q3 H3 ad3 sh3 N3 had3 hsh3 hN3 hW3 hS3 => ?_)
  obtain rfl : N3 = (N + 2) := by omega
  clear hN3
  have e_a_3 : ad3 o = a := by rw [had3, cn_ext (by omega)]; exact e_a_1
  have e_b0_3 : ad3 g0 = b0 := by rw [had3, cn_ext (by omega)]; exact e_b0_1
  have e_q3_3 : ad3 (N + 1) = q3 := by rw [had3]; exact cn_ext_at
  have hb3 : ∀ x, x < N → ad3 x = ad x := fun x hx => by rw [had3, cn_ext (by omega)]; exact hb1 x hx
  have hs_o_3 : sh3 o = (0, 1, [(4, 0), (2, N), (4, 0), (0, 0), (0, 0), (0, 0)]) := by rw [hsh3, cn_set_ne (by omega)]; exact hs_o_2
  have hs_N1_3 : sh3 (N + 1) = (1, 12, []) := by rw [hsh3]; exact cn_set_at
  refine cn_putq (ea := e_a_3) (eb := e_q3_3) (Ts := ax_Ts) (n := 6) (T := aT_Forest) (C := "AskingFragments$Forest") (k := 2) hx hb hts aU_Forest (ty0 := cn_tForest) cn_yForest aN_Forest hown hK rfl hW3 hS3 (show o < (N + 2) by omega) hs_o_3 (by decide) rfl (show (N + 1) < (N + 2) by omega) (hts _ (ax_in (ax_wl_at (k := 2) (j := 20) rfl) rfl)) rfl hin rfl rfl rfl rfl cd_Forest_17 (fun H4 locs4 sh4 hsh4 hW4 hS4 => ?_)
  have hs_o_4 : sh4 o = (0, 1, [(4, 0), (2, N), (2, (N + 1)), (0, 0), (0, 0), (0, 0)]) := by rw [hsh4]; exact cn_set_at
  refine lv_aload_n hx hb cd_Forest_20 rfl (lv_at hl 0 rfl) ?_
  refine lv_aload_n hx hb cd_Forest_21 rfl (lv_at hl 1 rfl) ?_
  refine cn_putq (ea := e_a_3) (eb := e_b0_3) (Ts := ax_Ts) (n := 6) (T := aT_Forest) (C := "AskingFragments$Forest") (k := 0) hx hb hts aU_Forest (ty0 := cn_tForest) cn_yForest aN_Forest hown hK rfl hW4 hS4 (show o < (N + 2) by omega) hs_o_4 (by decide) rfl (show g0 < (N + 2) by omega) (hts _ (ax_in (ax_wl_at (k := 2) (j := 18) rfl) rfl)) rfl hin rfl rfl rfl rfl cd_Forest_22 (fun H5 locs5 sh5 hsh5 hW5 hS5 => ?_)
  have hs_o_5 : sh5 o = (0, 1, [(2, g0), (2, N), (2, (N + 1)), (0, 0), (0, 0), (0, 0)]) := by rw [hsh5]; exact cn_set_at
  have hWz : cx_W Dg ax_cl A cA ad3 (cn_s_Forest sh N o g0) (N + 2) μ H5 := by
    subst hsh5 hsh4 hsh3 hsh2 hsh1
    exact hW5
  exact W.vret hx hb hr (fun t ht hWm => ⟨⟨ad3, rfl, hb3, by subst ht; exact hWz⟩, hS5.F ht⟩) hS5.2.2 cd_Forest_25
theorem cd_M_0 : decode prog_10_method_22_code 0 = .ok (.aload_n 0, 1) := by decide +kernel
theorem cd_M_1 : decode prog_10_method_22_code 1 = .ok (.invokespecial 94, 3) := by decide +kernel
theorem cd_M_4 : decode prog_10_method_22_code 4 = .ok (.aload_n 0, 1) := by decide +kernel
theorem cd_M_5 : decode prog_10_method_22_code 5 = .ok (.sipush (940), 3) := by decide +kernel
theorem cd_M_8 : decode prog_10_method_22_code 8 = .ok (.newarray .int, 2) := by decide +kernel
theorem cd_M_10 : decode prog_10_method_22_code 10 = .ok (.putfield 7, 3) := by decide +kernel
theorem cd_M_13 : decode prog_10_method_22_code 13 = .ok (.aload_n 0, 1) := by decide +kernel
theorem cd_M_14 : decode prog_10_method_22_code 14 = .ok (.iconst (-1), 1) := by decide +kernel
theorem cd_M_15 : decode prog_10_method_22_code 15 = .ok (.putfield 91, 3) := by decide +kernel
theorem cd_M_18 : decode prog_10_method_22_code 18 = .ok (.aload_n 0, 1) := by decide +kernel
theorem cd_M_19 : decode prog_10_method_22_code 19 = .ok (.sipush (2466), 3) := by decide +kernel
theorem cd_M_22 : decode prog_10_method_22_code 22 = .ok (.newarray .int, 2) := by decide +kernel
theorem cd_M_24 : decode prog_10_method_22_code 24 = .ok (.putfield 99, 3) := by decide +kernel
theorem cd_M_27 : decode prog_10_method_22_code 27 = .ok (.aload_n 0, 1) := by decide +kernel
theorem cd_M_28 : decode prog_10_method_22_code 28 = .ok (.sipush (173), 3) := by decide +kernel
theorem cd_M_31 : decode prog_10_method_22_code 31 = .ok (.newarray .int, 2) := by decide +kernel
theorem cd_M_33 : decode prog_10_method_22_code 33 = .ok (.putfield 102, 3) := by decide +kernel
theorem cd_M_36 : decode prog_10_method_22_code 36 = .ok (.aload_n 0, 1) := by decide +kernel
theorem cd_M_37 : decode prog_10_method_22_code 37 = .ok (.sipush (4932), 3) := by decide +kernel
theorem cd_M_40 : decode prog_10_method_22_code 40 = .ok (.newarray .int, 2) := by decide +kernel
theorem cd_M_42 : decode prog_10_method_22_code 42 = .ok (.putfield 105, 3) := by decide +kernel
theorem cd_M_45 : decode prog_10_method_22_code 45 = .ok (.aload_n 0, 1) := by decide +kernel
theorem cd_M_46 : decode prog_10_method_22_code 46 = .ok (.sipush (18344), 3) := by decide +kernel
theorem cd_M_49 : decode prog_10_method_22_code 49 = .ok (.newarray .int, 2) := by decide +kernel
theorem cd_M_51 : decode prog_10_method_22_code 51 = .ok (.putfield 108, 3) := by decide +kernel
theorem cd_M_54 : decode prog_10_method_22_code 54 = .ok (.aload_n 0, 1) := by decide +kernel
theorem cd_M_55 : decode prog_10_method_22_code 55 = .ok (.sipush (2293), 3) := by decide +kernel
theorem cd_M_58 : decode prog_10_method_22_code 58 = .ok (.newarray .int, 2) := by decide +kernel
theorem cd_M_60 : decode prog_10_method_22_code 60 = .ok (.putfield 111, 3) := by decide +kernel
theorem cd_M_63 : decode prog_10_method_22_code 63 = .ok (.aload_n 0, 1) := by decide +kernel
theorem cd_M_64 : decode prog_10_method_22_code 64 = .ok (.sipush (2293), 3) := by decide +kernel
theorem cd_M_67 : decode prog_10_method_22_code 67 = .ok (.newarray .int, 2) := by decide +kernel
theorem cd_M_69 : decode prog_10_method_22_code 69 = .ok (.putfield 114, 3) := by decide +kernel
theorem cd_M_72 : decode prog_10_method_22_code 72 = .ok (.aload_n 0, 1) := by decide +kernel
theorem cd_M_73 : decode prog_10_method_22_code 73 = .ok (.bipush (12), 2) := by decide +kernel
theorem cd_M_75 : decode prog_10_method_22_code 75 = .ok (.newarray .long, 2) := by decide +kernel
theorem cd_M_77 : decode prog_10_method_22_code 77 = .ok (.putfield 117, 3) := by decide +kernel
theorem cd_M_80 : decode prog_10_method_22_code 80 = .ok (.aload_n 0, 1) := by decide +kernel
theorem cd_M_81 : decode prog_10_method_22_code 81 = .ok (.bipush (12), 2) := by decide +kernel
theorem cd_M_83 : decode prog_10_method_22_code 83 = .ok (.newarray .long, 2) := by decide +kernel
theorem cd_M_85 : decode prog_10_method_22_code 85 = .ok (.putfield 121, 3) := by decide +kernel
theorem cd_M_88 : decode prog_10_method_22_code 88 = .ok (.aload_n 0, 1) := by decide +kernel
theorem cd_M_89 : decode prog_10_method_22_code 89 = .ok (.bipush (24), 2) := by decide +kernel
theorem cd_M_91 : decode prog_10_method_22_code 91 = .ok (.newarray .long, 2) := by decide +kernel
theorem cd_M_93 : decode prog_10_method_22_code 93 = .ok (.putfield 124, 3) := by decide +kernel
theorem cd_M_96 : decode prog_10_method_22_code 96 = .ok (.aload_n 0, 1) := by decide +kernel
theorem cd_M_97 : decode prog_10_method_22_code 97 = .ok (.iconst (2), 1) := by decide +kernel
theorem cd_M_98 : decode prog_10_method_22_code 98 = .ok (.newarray .boolean, 2) := by decide +kernel
theorem cd_M_100 : decode prog_10_method_22_code 100 = .ok (.putfield 127, 3) := by decide +kernel
theorem cd_M_103 : decode prog_10_method_22_code 103 = .ok (.aload_n 0, 1) := by decide +kernel
theorem cd_M_104 : decode prog_10_method_22_code 104 = .ok (.bipush (30), 2) := by decide +kernel
theorem cd_M_106 : decode prog_10_method_22_code 106 = .ok (.newarray .int, 2) := by decide +kernel
theorem cd_M_108 : decode prog_10_method_22_code 108 = .ok (.putfield 131, 3) := by decide +kernel
theorem cd_M_111 : decode prog_10_method_22_code 111 = .ok (.aload_n 0, 1) := by decide +kernel
theorem cd_M_112 : decode prog_10_method_22_code 112 = .ok (.bipush (60), 2) := by decide +kernel
theorem cd_M_114 : decode prog_10_method_22_code 114 = .ok (.newarray .int, 2) := by decide +kernel
theorem cd_M_116 : decode prog_10_method_22_code 116 = .ok (.putfield 134, 3) := by decide +kernel
theorem cd_M_119 : decode prog_10_method_22_code 119 = .ok (.aload_n 0, 1) := by decide +kernel
theorem cd_M_120 : decode prog_10_method_22_code 120 = .ok (.bipush (60), 2) := by decide +kernel
theorem cd_M_122 : decode prog_10_method_22_code 122 = .ok (.newarray .boolean, 2) := by decide +kernel
theorem cd_M_124 : decode prog_10_method_22_code 124 = .ok (.putfield 137, 3) := by decide +kernel
theorem cd_M_127 : decode prog_10_method_22_code 127 = .ok (.aload_n 0, 1) := by decide +kernel
theorem cd_M_128 : decode prog_10_method_22_code 128 = .ok (.bipush (60), 2) := by decide +kernel
theorem cd_M_130 : decode prog_10_method_22_code 130 = .ok (.newarray .boolean, 2) := by decide +kernel
theorem cd_M_132 : decode prog_10_method_22_code 132 = .ok (.putfield 140, 3) := by decide +kernel
theorem cd_M_135 : decode prog_10_method_22_code 135 = .ok (.aload_n 0, 1) := by decide +kernel
theorem cd_M_136 : decode prog_10_method_22_code 136 = .ok (.bipush (60), 2) := by decide +kernel
theorem cd_M_138 : decode prog_10_method_22_code 138 = .ok (.newarray .int, 2) := by decide +kernel
theorem cd_M_140 : decode prog_10_method_22_code 140 = .ok (.putfield 143, 3) := by decide +kernel
theorem cd_M_143 : decode prog_10_method_22_code 143 = .ok (.aload_n 0, 1) := by decide +kernel
theorem cd_M_144 : decode prog_10_method_22_code 144 = .ok (.iconst (-1), 1) := by decide +kernel
theorem cd_M_145 : decode prog_10_method_22_code 145 = .ok (.putfield 146, 3) := by decide +kernel
theorem cd_M_148 : decode prog_10_method_22_code 148 = .ok (.aload_n 0, 1) := by decide +kernel
theorem cd_M_149 : decode prog_10_method_22_code 149 = .ok (.iconst (-1), 1) := by decide +kernel
theorem cd_M_150 : decode prog_10_method_22_code 150 = .ok (.putfield 149, 3) := by decide +kernel
theorem cd_M_153 : decode prog_10_method_22_code 153 = .ok (.aload_n 0, 1) := by decide +kernel
theorem cd_M_154 : decode prog_10_method_22_code 154 = .ok (.bipush (48), 2) := by decide +kernel
theorem cd_M_156 : decode prog_10_method_22_code 156 = .ok (.newarray .int, 2) := by decide +kernel
theorem cd_M_158 : decode prog_10_method_22_code 158 = .ok (.putfield 152, 3) := by decide +kernel
theorem cd_M_161 : decode prog_10_method_22_code 161 = .ok (.return_, 1) := by decide +kernel
abbrev cn_d_M : ax_D := (⟨"AskingFragmentsModel", "<init>", "()V"⟩, prog_10_method_22_code, 1, none, 1, 0)
theorem cn_p_M : (parseMethodDescriptor cn_d_M.1.desc).map (fun d => d.parameters.length) = some 0 := by decide +kernel
/-- the cells behind it -/
def cn_s_M (sh : Nat → ax_C) (N : Nat) (o : Nat) : Nat → ax_C := cx_set (cx_set (cx_set (cx_set (cx_set (cx_set (cx_set (cx_set (cx_set (cx_set (cx_set (cx_set (cx_set (cx_set (cx_set (cx_set (cx_set (cx_set (cx_set (cx_set (cx_set (cx_set (cx_set (cx_set (cx_set (cx_set (cx_set (cx_set (cx_set (cx_set (cx_set (cx_set (cx_set (cx_set (sh) N (1, 940, [])) o (0, 8, [(0, 0), (2, N), (0, 0), (0, 0), (0, 0), (0, 0), (0, 0), (0, 0), (0, 0), (0, 0), (0, 0), (0, 0), (1, 0), (0, 0), (4, 0), (4, 0), (4, 0), (4, 0), (4, 0), (4, 0), (4, 0), (4, 0), (4, 0), (4, 0), (0, 0), (4, 0), (4, 0), (4, 0), (4, 0), (4, 0), (0, 0), (0, 0), (0, 0), (4, 0), (0, 0)])) (N + 1) (1, 2466, [])) o (0, 8, [(0, 0), (2, N), (0, 0), (0, 0), (0, 0), (0, 0), (0, 0), (0, 0), (0, 0), (0, 0), (0, 0), (0, 0), (1, 0), (0, 0), (2, (N + 1)), (4, 0), (4, 0), (4, 0), (4, 0), (4, 0), (4, 0), (4, 0), (4, 0), (4, 0), (0, 0), (4, 0), (4, 0), (4, 0), (4, 0), (4, 0), (0, 0), (0, 0), (0, 0), (4, 0), (0, 0)])) (N + 2) (1, 173, [])) o (0, 8, [(0, 0), (2, N), (0, 0), (0, 0), (0, 0), (0, 0), (0, 0), (0, 0), (0, 0), (0, 0), (0, 0), (0, 0), (1, 0), (0, 0), (2, (N + 1)), (2, (N + 2)), (4, 0), (4, 0), (4, 0), (4, 0), (4, 0), (4, 0), (4, 0), (4, 0), (0, 0), (4, 0), (4, 0), (4, 0), (4, 0), (4, 0), (0, 0), (0, 0), (0, 0), (4, 0), (0, 0)])) (N + 3) (1, 4932, [])) o (0, 8, [(0, 0), (2, N), (0, 0), (0, 0), (0, 0), (0, 0), (0, 0), (0, 0), (0, 0), (0, 0), (0, 0), (0, 0), (1, 0), (0, 0), (2, (N + 1)), (2, (N + 2)), (2, (N + 3)), (4, 0), (4, 0), (4, 0), (4, 0), (4, 0), (4, 0), (4, 0), (0, 0), (4, 0), (4, 0), (4, 0), (4, 0), (4, 0), (0, 0), (0, 0), (0, 0), (4, 0), (0, 0)])) (N + 4) (1, 18344, [])) o (0, 8, [(0, 0), (2, N), (0, 0), (0, 0), (0, 0), (0, 0), (0, 0), (0, 0), (0, 0), (0, 0), (0, 0), (0, 0), (1, 0), (0, 0), (2, (N + 1)), (2, (N + 2)), (2, (N + 3)), (2, (N + 4)), (4, 0), (4, 0), (4, 0), (4, 0), (4, 0), (4, 0), (0, 0), (4, 0), (4, 0), (4, 0), (4, 0), (4, 0), (0, 0), (0, 0), (0, 0), (4, 0), (0, 0)])) (N + 5) (1, 2293, [])) o (0, 8, [(0, 0), (2, N), (0, 0), (0, 0), (0, 0), (0, 0), (0, 0), (0, 0), (0, 0), (0, 0), (0, 0), (0, 0), (1, 0), (0, 0), (2, (N + 1)), (2, (N + 2)), (2, (N + 3)), (2, (N + 4)), (2, (N + 5)), (4, 0), (4, 0), (4, 0), (4, 0), (4, 0), (0, 0), (4, 0), (4, 0), (4, 0), (4, 0), (4, 0), (0, 0), (0, 0), (0, 0), (4, 0), (0, 0)])) (N + 6) (1, 2293, [])) o (0, 8, [(0, 0), (2, N), (0, 0), (0, 0), (0, 0), (0, 0), (0, 0), (0, 0), (0, 0), (0, 0), (0, 0), (0, 0), (1, 0), (0, 0), (2, (N + 1)), (2, (N + 2)), (2, (N + 3)), (2, (N + 4)), (2, (N + 5)), (2, (N + 6)), (4, 0), (4, 0), (4, 0), (4, 0), (0, 0), (4, 0), (4, 0), (4, 0), (4, 0), (4, 0), (0, 0), (0, 0), (0, 0), (4, 0), (0, 0)])) (N + 7) (4, 12, [])) o (0, 8, [(0, 0), (2, N), (0, 0), (0, 0), (0, 0), (0, 0), (0, 0), (0, 0), (0, 0), (0, 0), (0, 0), (0, 0), (1, 0), (0, 0), (2, (N + 1)), (2, (N + 2)), (2, (N + 3)), (2, (N + 4)), (2, (N + 5)), (2, (N + 6)), (2, (N + 7)), (4, 0), (4, 0), (4, 0), (0, 0), (4, 0), (4, 0), (4, 0), (4, 0), (4, 0), (0, 0), (0, 0), (0, 0), (4, 0), (0, 0)])) (N + 8) (4, 12, [])) o (0, 8, [(0, 0), (2, N), (0, 0), (0, 0), (0, 0), (0, 0), (0, 0), (0, 0), (0, 0), (0, 0), (0, 0), (0, 0), (1, 0), (0, 0), (2, (N + 1)), (2, (N + 2)), (2, (N + 3)), (2, (N + 4)), (2, (N + 5)), (2, (N + 6)), (2, (N + 7)), (2, (N + 8)), (4, 0), (4, 0), (0, 0), (4, 0), (4, 0), (4, 0), (4, 0), (4, 0), (0, 0), (0, 0), (0, 0), (4, 0), (0, 0)])) (N + 9) (4, 24, [])) o (0, 8, [(0, 0), (2, N), (0, 0), (0, 0), (0, 0), (0, 0), (0, 0), (0, 0), (0, 0), (0, 0), (0, 0), (0, 0), (1, 0), (0, 0), (2, (N + 1)), (2, (N + 2)), (2, (N + 3)), (2, (N + 4)), (2, (N + 5)), (2, (N + 6)), (2, (N + 7)), (2, (N + 8)), (2, (N + 9)), (4, 0), (0, 0), (4, 0), (4, 0), (4, 0), (4, 0), (4, 0), (0, 0), (0, 0), (0, 0), (4, 0), (0, 0)])) (N + 10) (3, 2, [])) o (0, 8, [(0, 0), (2, N), (0, 0), (0, 0), (0, 0), (0, 0), (0, 0), (0, 0), (0, 0), (0, 0), (0, 0), (0, 0), (1, 0), (0, 0), (2, (N + 1)), (2, (N + 2)), (2, (N + 3)), (2, (N + 4)), (2, (N + 5)), (2, (N + 6)), (2, (N + 7)), (2, (N + 8)), (2, (N + 9)), (2, (N + 10)), (0, 0), (4, 0), (4, 0), (4, 0), (4, 0), (4, 0), (0, 0), (0, 0), (0, 0), (4, 0), (0, 0)])) (N + 11) (1, 30, [])) o (0, 8, [(0, 0), (2, N), (0, 0), (0, 0), (0, 0), (0, 0), (0, 0), (0, 0), (0, 0), (0, 0), (0, 0), (0, 0), (1, 0), (0, 0), (2, (N + 1)), (2, (N + 2)), (2, (N + 3)), (2, (N + 4)), (2, (N + 5)), (2, (N + 6)), (2, (N + 7)), (2, (N + 8)), (2, (N + 9)), (2, (N + 10)), (0, 0), (2, (N + 11)), (4, 0), (4, 0), (4, 0), (4, 0), (0, 0), (0, 0), (0, 0), (4, 0), (0, 0)])) (N + 12) (1, 60, [])) o (0, 8, [(0, 0), (2, N), (0, 0), (0, 0), (0, 0), (0, 0), (0, 0), (0, 0), (0, 0), (0, 0), (0, 0), (0, 0), (1, 0), (0, 0), (2, (N + 1)), (2, (N + 2)), (2, (N + 3)), (2, (N + 4)), (2, (N + 5)), (2, (N + 6)), (2, (N + 7)), (2, (N + 8)), (2, (N + 9)), (2, (N + 10)), (0, 0), (2, (N + 11)), (2, (N + 12)), (4, 0), (4, 0), (4, 0), (0, 0), (0, 0), (0, 0), (4, 0), (0, 0)])) (N + 13) (3, 60, [])) o (0, 8, [(0, 0), (2, N), (0, 0), (0, 0), (0, 0), (0, 0), (0, 0), (0, 0), (0, 0), (0, 0), (0, 0), (0, 0), (1, 0), (0, 0), (2, (N + 1)), (2, (N + 2)), (2, (N + 3)), (2, (N + 4)), (2, (N + 5)), (2, (N + 6)), (2, (N + 7)), (2, (N + 8)), (2, (N + 9)), (2, (N + 10)), (0, 0), (2, (N + 11)), (2, (N + 12)), (2, (N + 13)), (4, 0), (4, 0), (0, 0), (0, 0), (0, 0), (4, 0), (0, 0)])) (N + 14) (3, 60, [])) o (0, 8, [(0, 0), (2, N), (0, 0), (0, 0), (0, 0), (0, 0), (0, 0), (0, 0), (0, 0), (0, 0), (0, 0), (0, 0), (1, 0), (0, 0), (2, (N + 1)), (2, (N + 2)), (2, (N + 3)), (2, (N + 4)), (2, (N + 5)), (2, (N + 6)), (2, (N + 7)), (2, (N + 8)), (2, (N + 9)), (2, (N + 10)), (0, 0), (2, (N + 11)), (2, (N + 12)), (2, (N + 13)), (2, (N + 14)), (4, 0), (0, 0), (0, 0), (0, 0), (4, 0), (0, 0)])) (N + 15) (1, 60, [])) o (0, 8, [(0, 0), (2, N), (0, 0), (0, 0), (0, 0), (0, 0), (0, 0), (0, 0), (0, 0), (0, 0), (0, 0), (0, 0), (1, 0), (0, 0), (2, (N + 1)), (2, (N + 2)), (2, (N + 3)), (2, (N + 4)), (2, (N + 5)), (2, (N + 6)), (2, (N + 7)), (2, (N + 8)), (2, (N + 9)), (2, (N + 10)), (0, 0), (2, (N + 11)), (2, (N + 12)), (2, (N + 13)), (2, (N + 14)), (2, (N + 15)), (0, 0), (0, 0), (0, 0), (4, 0), (0, 0)])) (N + 16) (1, 48, [])) o (0, 8, [(0, 0), (2, N), (0, 0), (0, 0), (0, 0), (0, 0), (0, 0), (0, 0), (0, 0), (0, 0), (0, 0), (0, 0), (1, 0), (0, 0), (2, (N + 1)), (2, (N + 2)), (2, (N + 3)), (2, (N + 4)), (2, (N + 5)), (2, (N + 6)), (2, (N + 7)), (2, (N + 8)), (2, (N + 9)), (2, (N + 10)), (0, 0), (2, (N + 11)), (2, (N + 12)), (2, (N + 13)), (2, (N + 14)), (2, (N + 15)), (0, 0), (0, 0), (0, 0), (2, (N + 16)), (0, 0)])
theorem cn_s_M_ne {sh : Nat → ax_C} {N o x : Nat} (h1 : x < N) (h2 : x ≠ o) : cn_s_M sh N o x = sh x := by
  unfold cn_s_M
  rw [cn_set_ne (by omega), cn_set_ne (by omega), cn_set_ne (by omega), cn_set_ne (by omega), cn_set_ne (by omega), cn_set_ne (by omega), cn_set_ne (by omega), cn_set_ne (by omega), cn_set_ne (by omega), cn_set_ne (by omega), cn_set_ne (by omega), cn_set_ne (by omega), cn_set_ne (by omega), cn_set_ne (by omega), cn_set_ne (by omega), cn_set_ne (by omega), cn_set_ne (by omega), cn_set_ne (by omega), cn_set_ne (by omega), cn_set_ne (by omega), cn_set_ne (by omega), cn_set_ne (by omega), cn_set_ne (by omega), cn_set_ne (by omega), cn_set_ne (by omega), cn_set_ne (by omega), cn_set_ne (by omega), cn_set_ne (by omega), cn_set_ne (by omega), cn_set_ne (by omega), cn_set_ne (by omega), cn_set_ne (by omega), cn_set_ne (by omega), cn_set_ne (by omega)]
theorem cn_s_M_at {sh : Nat → ax_C} {N o : Nat} : cn_s_M sh N o o = (0, 8, [(0, 0), (2, N), (0, 0), (0, 0), (0, 0), (0, 0), (0, 0), (0, 0), (0, 0), (0, 0), (0, 0), (0, 0), (1, 0), (0, 0), (2, (N + 1)), (2, (N + 2)), (2, (N + 3)), (2, (N + 4)), (2, (N + 5)), (2, (N + 6)), (2, (N + 7)), (2, (N + 8)), (2, (N + 9)), (2, (N + 10)), (0, 0), (2, (N + 11)), (2, (N + 12)), (2, (N + 13)), (2, (N + 14)), (2, (N + 15)), (0, 0), (0, 0), (0, 0), (2, (N + 16)), (0, 0)]) := cn_set_at
theorem cn_M (l : Launch) (Dg : va_G) (A : Nat → Prop) (cA : Nat → ClassId) (ad : Nat → Nat) (sh : Nat → ax_C) (N : Nat) (μ : ax_M) {o : Nat} {a : Nat} (e_a : ad o = a) (h_o : o < N) (hso : sh o = (0, 8, [(0, 0), (4, 0), (0, 0), (0, 0), (0, 0), (0, 0), (0, 0), (0, 0), (0, 0), (0, 0), (0, 0), (0, 0), (1, 0), (0, 0), (4, 0), (4, 0), (4, 0), (4, 0), (4, 0), (4, 0), (4, 0), (4, 0), (4, 0), (4, 0), (0, 0), (4, 0), (4, 0), (4, 0), (4, 0), (4, 0), (0, 0), (0, 0), (0, 0), (4, 0), (0, 0)])) (hμ : ∀ o, N ≤ o → μ.1 o = (fun _ => 0) ∧ μ.2 o = (fun _ => 0)) :
    Met l cn_d_M.1 (ax_ws cn_Ts cn_d_M) { frames := 1, cells := 17, slots := 31809, locals := 60 } (cn_P Dg A cA ad sh N μ [.ref a]) (cn_Q Dg A cA ad N (cn_s_M sh N o) (N + 17) (ax_up ((ax_up ((ax_up (μ).1 o 10 (-1), (μ).2)).1 o 30 (-1), ((ax_up (μ).1 o 10 (-1), (μ).2)).2)).1 o 31 (-1), ((ax_up ((ax_up (μ).1 o 10 (-1), (μ).2)).1 o 30 (-1), ((ax_up (μ).1 o 10 (-1), (μ).2)).2)).2)) 17 31809 A := by
  refine Met.ofW (cc := prog_10_method_22_code) (maxL := 1) (ret := none) (by decide) rfl ?_
  intro p e s m args below meth c s₁ B hml hv
  obtain ⟨rfl, hW, hK, hA, hX⟩ := hv
  have hx := B.exec
  have hb := B.bytes
  have hr := B.returns
  have hlocks := B.notSynchronized
  have hin : meth.name = "<init>" := (name_of_methodNamed B.named B.method).1
  have hts0 := atoms_spec (ws := ax_ws cn_Ts cn_d_M) B.pre
  have htn : ∀ w ∈ cn_Ts, w.before ([.ref a] : List Value).toArray s = true := fun w hw => hts0 w (List.mem_cons_of_mem _ hw)
  have hts : ∀ w ∈ ax_Ts, w.before ([.ref a] : List Value).toArray s = true := fun w hw => htn w (cn_Ts_in hw)
  have hown : s.vm.findClass "AskingFragmentsModel" = some m.cls := findClass_of_methodNamed B.named
  have hS : va_S A s.heap s.heap [] := va_S.rf
  have hoc := cn_objC hts
  have hl := lv_entry ([.ref a]) (n := 1) (Nat.le_of_ble_eq_true rfl)
  rw [lg_entry_eq]
  generalize (lg_sl ([.ref a]) ++ List.replicate (1 - (lg_sl ([.ref a])).length) Slot.unset).toArray = ls at hl ⊢
  have hl : lv_has ls 1 [(0, .ref a)] := hl
  refine lv_aload_n hx hb cd_M_0 rfl (lv_at hl 0 rfl) ?_
  refine W.objInit hx hb hown (hts (.methodLink "AskingFragmentsModel" 94 Lib.objectInit) (ax_in (ax_wl_at (k := 5) (j := 216) rfl) rfl)) hoc.1 hoc.2 rfl (by rw [hml]; exact hl.1) rfl cd_M_1 (Nat.le_of_ble_eq_true rfl) (Nat.le_of_ble_eq_true rfl) ?_
  refine W.eq (g2 := F0 m 4 ls []) rfl ?_
  refine lv_aload_n hx hb cd_M_4 rfl (lv_at hl 0 rfl) ?_
  refine lv_sipush hx hb cd_M_5 (v := (940)) rfl ?_
  refine cn_newa (len := 940) hx hb (htn _ (List.mem_of_getElem? (i := 1) rfl)) 1 (by decide) rfl rfl hK hW hS hA (hμ _ (by omega)) (by decide) rfl (by decide) (Nat.le_of_ble_eq_true rfl) (Nat.le_of_ble_eq_true rfl) cd_M_8 (fun q1 H1 ad1 sh1 N1 had1 hsh1 hN1 hW1 hS1 => ?_)
  obtain rfl : N1 = (N + 1) := by omega
  clear hN1
  have e_a_1 : ad1 o = a := by rw [had1, cn_ext (by omega)]; exact e_a
  have e_q1_1 : ad1 N = q1 := by rw [had1]; exact cn_ext_at
  have hb1 : ∀ x, x < N → ad1 x = ad x := fun x hx => by rw [had1, cn_ext (by omega)]
  have hs_o_1 : sh1 o = (0, 8, [(0, 0), (4, 0), (0, 0), (0, 0), (0, 0), (0, 0), (0, 0), (0, 0), (0, 0), (0, 0), (0, 0), (0, 0), (1, 0), (0, 0), (4, 0), (4, 0), (4, 0), (4, 0), (4, 0), (4, 0), (4, 0), (4, 0), (4, 0), (4, 0), (0, 0), (4, 0), (4, 0), (4, 0), (4, 0), (4, 0), (0, 0), (0, 0), (0, 0), (4, 0), (0, 0)]) := by rw [hsh1, cn_set_ne (by omega)]; exact hso
  have hs_N_1 : sh1 N = (1, 940, []) := by rw [hsh1]; exact cn_set_at
  refine cn_putq (ea := e_a_1) (eb := e_q1_1) (Ts := ax_Ts) (n := 35) (T := aT_M) (C := "AskingFragmentsModel") (k := 1) hx hb hts aU_M (ty0 := cn_tM) cn_yM aN_M hown hK rfl hW1 hS1 (show o < (N + 1) by omega) hs_o_1 (by decide) rfl (show N < (N + 1) by omega) (hts _ (ax_in (ax_wl_at (k := 5) (j := 218) rfl) rfl)) rfl hin rfl rfl rfl rfl cd_M_10 (fun H2 locs2 sh2 hsh2 hW2 hS2 => ?_)
  have hs_o_2 : sh2 o = (0, 8, [(0, 0), (2, N), (0, 0), (0, 0), (0, 0), (0, 0), (0, 0), (0, 0), (0, 0), (0, 0), (0, 0), (0, 0), (1, 0), (0, 0), (4, 0), (4, 0), (4, 0), (4, 0), (4, 0), (4, 0), (4, 0), (4, 0), (4, 0), (4, 0), (0, 0), (4, 0), (4, 0), (4, 0), (4, 0), (4, 0), (0, 0), (0, 0), (0, 0), (4, 0), (0, 0)]) := by rw [hsh2]; exact cn_set_at
  refine lv_aload_n hx hb cd_M_13 rfl (lv_at hl 0 rfl) ?_
  refine lv_iconst hx hb cd_M_14 (v := (-1)) rfl ?_
  refine cn_puti (v := (-1)) (ea := e_a_1) (Ts := ax_Ts) (n := 35) (T := aT_M) (C := "AskingFragmentsModel") (k := 10) hx hb hts aU_M (ty0 := cn_tM) cn_yM aN_M hown hK rfl hW2 hS2 (show o < (N + 1) by omega) hs_o_2 (by decide) rfl rfl (hts _ (ax_in (ax_wl_at (k := 5) (j := 227) rfl) rfl)) rfl rfl cd_M_15 (fun H3 locs3 μ3 hμ3 hW3 hS3 => ?_)
  have hm3 := cn_hm hμ3 (show o < (N + 1) by omega) (fun a ha => hμ a (by omega))
  refine lv_aload_n hx hb cd_M_18 rfl (lv_at hl 0 rfl) ?_
  refine lv_sipush hx hb cd_M_19 (v := (2466)) rfl ?_
  refine cn_newa (len := 2466) hx hb (htn _ (List.mem_of_getElem? (i := 1) rfl)) 1 (by decide) rfl rfl hK hW3 hS3 hA (hm3 _ (by omega)) (by decide) rfl (by decide) (Nat.le_of_ble_eq_true rfl) (Nat.le_of_ble_eq_true rfl) cd_M_22 (fun q4 H4 ad4 sh4 N4 had4 hsh4 hN4 hW4 hS4 => ?_)
  obtain rfl : N4 = (N + 2) := by omega
  clear hN4
  have e_a_4 : ad4 o = a := by rw [had4, cn_ext (by omega)]; exact e_a_1
  have e_q4_4 : ad4 (N + 1) = q4 := by rw [had4]; exact cn_ext_at
  have hb4 : ∀ x, x < N → ad4 x = ad x := fun x hx => by rw [had4, cn_ext (by omega)]; exact hb1 x hx
  have hs_o_4 : sh4 o = (0, 8, [(0, 0), (2, N), (0, 0), (0, 0), (0, 0), (0, 0), (0, 0), (0, 0), (0, 0), (0, 0), (0, 0), (0, 0), (1, 0), (0, 0), (4, 0), (4, 0), (4, 0), (4, 0), (4, 0), (4, 0), (4, 0), (4, 0), (4, 0), (4, 0), (0, 0), (4, 0), (4, 0), (4, 0), (4, 0), (4, 0), (0, 0), (0, 0), (0, 0), (4, 0), (0, 0)]) := by rw [hsh4, cn_set_ne (by omega)]; exact hs_o_2
  have hs_N1_4 : sh4 (N + 1) = (1, 2466, []) := by rw [hsh4]; exact cn_set_at
  refine cn_putq (ea := e_a_4) (eb := e_q4_4) (Ts := ax_Ts) (n := 35) (T := aT_M) (C := "AskingFragmentsModel") (k := 14) hx hb hts aU_M (ty0 := cn_tM) cn_yM aN_M hown hK rfl hW4 hS4 (show o < (N + 2) by omega) hs_o_4 (by decide) rfl (show (N + 1) < (N + 2) by omega) (hts _ (ax_in (ax_wl_at (k := 5) (j := 231) rfl) rfl)) rfl hin rfl rfl rfl rfl cd_M_24 (fun H5 locs5 sh5 hsh5 hW5 hS5 => ?_)
  have hs_o_5 : sh5 o = (0, 8, [(0, 0), (2, N), (0, 0), (0, 0), (0, 0), (0, 0), (0, 0), (0, 0), (0, 0), (0, 0), (0, 0), (0, 0), (1, 0), (0, 0), (2, (N + 1)), (4, 0), (4, 0), (4, 0), (4, 0), (4, 0), (4, 0), (4, 0), (4, 0), (4, 0), (0, 0), (4, 0), (4, 0), (4, 0), (4, 0), (4, 0), (0, 0), (0, 0), (0, 0), (4, 0), (0, 0)]) := by rw [hsh5]; exact cn_set_at
  refine lv_aload_n hx hb cd_M_27 rfl (lv_at hl 0 rfl) ?_
  refine lv_sipush hx hb cd_M_28 (v := (173)) rfl ?_
  refine cn_newa (len := 173) hx hb (htn _ (List.mem_of_getElem? (i := 1) rfl)) 1 (by decide) rfl rfl hK hW5 hS5 hA (hm3 _ (by omega)) (by decide) rfl (by decide) (Nat.le_of_ble_eq_true rfl) (Nat.le_of_ble_eq_true rfl) cd_M_31 (fun q6 H6 ad6 sh6 N6 had6 hsh6 hN6 hW6 hS6 => ?_)
  obtain rfl : N6 = (N + 3) := by omega
  clear hN6
  have e_a_6 : ad6 o = a := by rw [had6, cn_ext (by omega)]; exact e_a_4
  have e_q6_6 : ad6 (N + 2) = q6 := by rw [had6]; exact cn_ext_at
  have hb6 : ∀ x, x < N → ad6 x = ad x := fun x hx => by rw [had6, cn_ext (by omega)]; exact hb4 x hx
  have hs_o_6 : sh6 o = (0, 8, [(0, 0), (2, N), (0, 0), (0, 0), (0, 0), (0, 0), (0, 0), (0, 0), (0, 0), (0, 0), (0, 0), (0, 0), (1, 0), (0, 0), (2, (N + 1)), (4, 0), (4, 0), (4, 0), (4, 0), (4, 0), (4, 0), (4, 0), (4, 0), (4, 0), (0, 0), (4, 0), (4, 0), (4, 0), (4, 0), (4, 0), (0, 0), (0, 0), (0, 0), (4, 0), (0, 0)]) := by rw [hsh6, cn_set_ne (by omega)]; exact hs_o_5
  have hs_N2_6 : sh6 (N + 2) = (1, 173, []) := by rw [hsh6]; exact cn_set_at
  refine cn_putq (ea := e_a_6) (eb := e_q6_6) (Ts := ax_Ts) (n := 35) (T := aT_M) (C := "AskingFragmentsModel") (k := 15) hx hb hts aU_M (ty0 := cn_tM) cn_yM aN_M hown hK rfl hW6 hS6 (show o < (N + 3) by omega) hs_o_6 (by decide) rfl (show (N + 2) < (N + 3) by omega) (hts _ (ax_in (ax_wl_at (k := 5) (j := 232) rfl) rfl)) rfl hin rfl rfl rfl rfl cd_M_33 (fun H7 locs7 sh7 hsh7 hW7 hS7 => ?_)
  have hs_o_7 : sh7 o = (0, 8, [(0, 0), (2, N), (0, 0), (0, 0), (0, 0), (0, 0), (0, 0), (0, 0), (0, 0), (0, 0), (0, 0), (0, 0), (1, 0), (0, 0), (2, (N + 1)), (2, (N + 2)), (4, 0), (4, 0), (4, 0), (4, 0), (4, 0), (4, 0), (4, 0), (4, 0), (0, 0), (4, 0), (4, 0), (4, 0), (4, 0), (4, 0), (0, 0), (0, 0), (0, 0), (4, 0), (0, 0)]) := by rw [hsh7]; exact cn_set_at
  refine lv_aload_n hx hb cd_M_36 rfl (lv_at hl 0 rfl) ?_
  refine lv_sipush hx hb cd_M_37 (v := (4932)) rfl ?_
  refine cn_newa (len := 4932) hx hb (htn _ (List.mem_of_getElem? (i := 1) rfl)) 1 (by decide) rfl rfl hK hW7 hS7 hA (hm3 _ (by omega)) (by decide) rfl (by decide) (Nat.le_of_ble_eq_true rfl) (Nat.le_of_ble_eq_true rfl) cd_M_40 (fun q8 H8 ad8 sh8 N8 had8 hsh8 hN8 hW8 hS8 => ?_)
  obtain rfl : N8 = (N + 4) := by omega
  clear hN8
  have e_a_8 : ad8 o = a := by rw [had8, cn_ext (by omega)]; exact e_a_6
  have e_q8_8 : ad8 (N + 3) = q8 := by rw [had8]; exact cn_ext_at
  have hb8 : ∀ x, x < N → ad8 x = ad x := fun x hx => by rw [had8, cn_ext (by omega)]; exact hb6 x hx
  have hs_o_8 : sh8 o = (0, 8, [(0, 0), (2, N), (0, 0), (0, 0), (0, 0), (0, 0), (0, 0), (0, 0), (0, 0), (0, 0), (0, 0), (0, 0), (1, 0), (0, 0), (2, (N + 1)), (2, (N + 2)), (4, 0), (4, 0), (4, 0), (4, 0), (4, 0), (4, 0), (4, 0), (4, 0), (0, 0), (4, 0), (4, 0), (4, 0), (4, 0), (4, 0), (0, 0), (0, 0), (0, 0), (4, 0), (0, 0)]) := by rw [hsh8, cn_set_ne (by omega)]; exact hs_o_7
  have hs_N3_8 : sh8 (N + 3) = (1, 4932, []) := by rw [hsh8]; exact cn_set_at
  refine cn_putq (ea := e_a_8) (eb := e_q8_8) (Ts := ax_Ts) (n := 35) (T := aT_M) (C := "AskingFragmentsModel") (k := 16) hx hb hts aU_M (ty0 := cn_tM) cn_yM aN_M hown hK rfl hW8 hS8 (show o < (N + 4) by omega) hs_o_8 (by decide) rfl (show (N + 3) < (N + 4) by omega) (hts _ (ax_in (ax_wl_at (k := 5) (j := 233) rfl) rfl)) rfl hin rfl rfl rfl rfl cd_M_42 (fun H9 locs9 sh9 hsh9 hW9 hS9 => ?_)
  have hs_o_9 : sh9 o = (0, 8, [(0, 0), (2, N), (0, 0), (0, 0), (0, 0), (0, 0), (0, 0), (0, 0), (0, 0), (0, 0), (0, 0), (0, 0), (1, 0), (0, 0), (2, (N + 1)), (2, (N + 2)), (2, (N + 3)), (4, 0), (4, 0), (4, 0), (4, 0), (4, 0), (4, 0), (4, 0), (0, 0), (4, 0), (4, 0), (4, 0), (4, 0), (4, 0), (0, 0), (0, 0), (0, 0), (4, 0), (0, 0)]) := by rw [hsh9]; exact cn_set_at
  refine lv_aload_n hx hb cd_M_45 rfl (lv_at hl 0 rfl) ?_
  refine lv_sipush hx hb cd_M_46 (v := (18344)) rfl ?_
  refine cn_newa (len := 18344) hx hb (htn _ (List.mem_of_getElem? (i := 1) rfl)) 1 (by decide) rfl rfl hK hW9 hS9 hA (hm3 _ (by omega)) (by decide) rfl (by decide) (Nat.le_of_ble_eq_true rfl) (Nat.le_of_ble_eq_true rfl) cd_M_49 (fun q10 H10 ad10 sh10 N10 had10 hsh10 hN10 hW10 hS10 => ?_)
  obtain rfl : N10 = (N + 5) := by omega
  clear hN10
  have e_a_10 : ad10 o = a := by rw [had10, cn_ext (by omega)]; exact e_a_8
  have e_q10_10 : ad10 (N + 4) = q10 := by rw [had10]; exact cn_ext_at
  have hb10 : ∀ x, x < N → ad10 x = ad x := fun x hx => by rw [had10, cn_ext (by omega)]; exact hb8 x hx
  have hs_o_10 : sh10 o = (0, 8, [(0, 0), (2, N), (0, 0), (0, 0), (0, 0), (0, 0), (0, 0), (0, 0), (0, 0), (0, 0), (0, 0), (0, 0), (1, 0), (0, 0), (2, (N + 1)), (2, (N + 2)), (2, (N + 3)), (4, 0), (4, 0), (4, 0), (4, 0), (4, 0), (4, 0), (4, 0), (0, 0), (4, 0), (4, 0), (4, 0), (4, 0), (4, 0), (0, 0), (0, 0), (0, 0), (4, 0), (0, 0)]) := by rw [hsh10, cn_set_ne (by omega)]; exact hs_o_9
  have hs_N4_10 : sh10 (N + 4) = (1, 18344, []) := by rw [hsh10]; exact cn_set_at
  refine cn_putq (ea := e_a_10) (eb := e_q10_10) (Ts := ax_Ts) (n := 35) (T := aT_M) (C := "AskingFragmentsModel") (k := 17) hx hb hts aU_M (ty0 := cn_tM) cn_yM aN_M hown hK rfl hW10 hS10 (show o < (N + 5) by omega) hs_o_10 (by decide) rfl (show (N + 4) < (N + 5) by omega) (hts _ (ax_in (ax_wl_at (k := 5) (j := 234) rfl) rfl)) rfl hin rfl rfl rfl rfl cd_M_51 (fun H11 locs11 sh11 hsh11 hW11 hS11 => ?_)
  have hs_o_11 : sh11 o = (0, 8, [(0, 0), (2, N), (0, 0), (0, 0), (0, 0), (0, 0), (0, 0), (0, 0), (0, 0), (0, 0), (0, 0), (0, 0), (1, 0), (0, 0), (2, (N + 1)), (2, (N + 2)), (2, (N + 3)), (2, (N + 4)), (4, 0), (4, 0), (4, 0), (4, 0), (4, 0), (4, 0), (0, 0), (4, 0), (4, 0), (4, 0), (4, 0), (4, 0), (0, 0), (0, 0), (0, 0), (4, 0), (0, 0)]) := by rw [hsh11]; exact cn_set_at
  refine lv_aload_n hx hb cd_M_54 rfl (lv_at hl 0 rfl) ?_
  refine lv_sipush hx hb cd_M_55 (v := (2293)) rfl ?_
  refine cn_newa (len := 2293) hx hb (htn _ (List.mem_of_getElem? (i := 1) rfl)) 1 (by decide) rfl rfl hK hW11 hS11 hA (hm3 _ (by omega)) (by decide) rfl (by decide) (Nat.le_of_ble_eq_true rfl) (Nat.le_of_ble_eq_true rfl) cd_M_58 (fun q12 H12 ad12 sh12 N12 had12 hsh12 hN12 hW12 hS12 => ?_)
  obtain rfl : N12 = (N + 6) := by omega
  clear hN12
  have e_a_12 : ad12 o = a := by rw [had12, cn_ext (by omega)]; exact e_a_10
  have e_q12_12 : ad12 (N + 5) = q12 := by rw [had12]; exact cn_ext_at
  have hb12 : ∀ x, x < N → ad12 x = ad x := fun x hx => by rw [had12, cn_ext (by omega)]; exact hb10 x hx
  have hs_o_12 : sh12 o = (0, 8, [(0, 0), (2, N), (0, 0), (0, 0), (0, 0), (0, 0), (0, 0), (0, 0), (0, 0), (0, 0), (0, 0), (0, 0), (1, 0), (0, 0), (2, (N + 1)), (2, (N + 2)), (2, (N + 3)), (2, (N + 4)), (4, 0), (4, 0), (4, 0), (4, 0), (4, 0), (4, 0), (0, 0), (4, 0), (4, 0), (4, 0), (4, 0), (4, 0), (0, 0), (0, 0), (0, 0), (4, 0), (0, 0)]) := by rw [hsh12, cn_set_ne (by omega)]; exact hs_o_11
  have hs_N5_12 : sh12 (N + 5) = (1, 2293, []) := by rw [hsh12]; exact cn_set_at
  refine cn_putq (ea := e_a_12) (eb := e_q12_12) (Ts := ax_Ts) (n := 35) (T := aT_M) (C := "AskingFragmentsModel") (k := 18) hx hb hts aU_M (ty0 := cn_tM) cn_yM aN_M hown hK rfl hW12 hS12 (show o < (N + 6) by omega) hs_o_12 (by decide) rfl (show (N + 5) < (N + 6) by omega) (hts _ (ax_in (ax_wl_at (k := 5) (j := 235) rfl) rfl)) rfl hin rfl rfl rfl rfl cd_M_60 (fun H13 locs13 sh13 hsh13 hW13 hS13 => ?_)
  have hs_o_13 : sh13 o = (0, 8, [(0, 0), (2, N), (0, 0), (0, 0), (0, 0), (0, 0), (0, 0), (0, 0), (0, 0), (0, 0), (0, 0), (0, 0), (1, 0), (0, 0), (2, (N + 1)), (2, (N + 2)), (2, (N + 3)), (2, (N + 4)), (2, (N + 5)), (4, 0), (4, 0), (4, 0), (4, 0), (4, 0), (0, 0), (4, 0), (4, 0), (4, 0), (4, 0), (4, 0), (0, 0), (0, 0), (0, 0), (4, 0), (0, 0)]) := by rw [hsh13]; exact cn_set_at
  refine lv_aload_n hx hb cd_M_63 rfl (lv_at hl 0 rfl) ?_
  refine lv_sipush hx hb cd_M_64 (v := (2293)) rfl ?_
  refine cn_newa (len := 2293) hx hb (htn _ (List.mem_of_getElem? (i := 1) rfl)) 1 (by decide) rfl rfl hK hW13 hS13 hA (hm3 _ (by omega)) (by decide) rfl (by decide) (Nat.le_of_ble_eq_true rfl) (Nat.le_of_ble_eq_true rfl) cd_M_67 (fun q14 H14 ad14 sh14 N14 had14 hsh14 hN14 hW14 hS14 => ?_)
  obtain rfl : N14 = (N + 7) := by omega
  clear hN14
  have e_a_14 : ad14 o = a := by rw [had14, cn_ext (by omega)]; exact e_a_12
  have e_q14_14 : ad14 (N + 6) = q14 := by rw [had14]; exact cn_ext_at
  have hb14 : ∀ x, x < N → ad14 x = ad x := fun x hx => by rw [had14, cn_ext (by omega)]; exact hb12 x hx
  have hs_o_14 : sh14 o = (0, 8, [(0, 0), (2, N), (0, 0), (0, 0), (0, 0), (0, 0), (0, 0), (0, 0), (0, 0), (0, 0), (0, 0), (0, 0), (1, 0), (0, 0), (2, (N + 1)), (2, (N + 2)), (2, (N + 3)), (2, (N + 4)), (2, (N + 5)), (4, 0), (4, 0), (4, 0), (4, 0), (4, 0), (0, 0), (4, 0), (4, 0), (4, 0), (4, 0), (4, 0), (0, 0), (0, 0), (0, 0), (4, 0), (0, 0)]) := by rw [hsh14, cn_set_ne (by omega)]; exact hs_o_13
  have hs_N6_14 : sh14 (N + 6) = (1, 2293, []) := by rw [hsh14]; exact cn_set_at
  refine cn_putq (ea := e_a_14) (eb := e_q14_14) (Ts := ax_Ts) (n := 35) (T := aT_M) (C := "AskingFragmentsModel") (k := 19) hx hb hts aU_M (ty0 := cn_tM) cn_yM aN_M hown hK rfl hW14 hS14 (show o < (N + 7) by omega) hs_o_14 (by decide) rfl (show (N + 6) < (N + 7) by omega) (hts _ (ax_in (ax_wl_at (k := 5) (j := 236) rfl) rfl)) rfl hin rfl rfl rfl rfl cd_M_69 (fun H15 locs15 sh15 hsh15 hW15 hS15 => ?_)
  have hs_o_15 : sh15 o = (0, 8, [(0, 0), (2, N), (0, 0), (0, 0), (0, 0), (0, 0), (0, 0), (0, 0), (0, 0), (0, 0), (0, 0), (0, 0), (1, 0), (0, 0), (2, (N + 1)), (2, (N + 2)), (2, (N + 3)), (2, (N + 4)), (2, (N + 5)), (2, (N + 6)), (4, 0), (4, 0), (4, 0), (4, 0), (0, 0), (4, 0), (4, 0), (4, 0), (4, 0), (4, 0), (0, 0), (0, 0), (0, 0), (4, 0), (0, 0)]) := by rw [hsh15]; exact cn_set_at
  refine lv_aload_n hx hb cd_M_72 rfl (lv_at hl 0 rfl) ?_
  refine lv_bipush hx hb cd_M_73 (v := (12)) rfl ?_
  refine cn_newa (len := 12) hx hb (htn _ (List.mem_of_getElem? (i := 2) rfl)) 4 (by decide) rfl rfl hK hW15 hS15 hA (hm3 _ (by omega)) (by decide) rfl (by decide) (Nat.le_of_ble_eq_true rfl) (Nat.le_of_ble_eq_true rfl) cd_M_75 (fun q16 H16 ad16 sh16 N16 had16 hsh16 hN16 hW16 hS16 => ?_)
  obtain rfl : N16 = (N + 8) := by omega
  clear hN16
  have e_a_16 : ad16 o = a := by rw [had16, cn_ext (by omega)]; exact e_a_14
  have e_q16_16 : ad16 (N + 7) = q16 := by rw [had16]; exact cn_ext_at
  have hb16 : ∀ x, x < N → ad16 x = ad x := fun x hx => by rw [had16, cn_ext (by omega)]; exact hb14 x hx
  have hs_o_16 : sh16 o = (0, 8, [(0, 0), (2, N), (0, 0), (0, 0), (0, 0), (0, 0), (0, 0), (0, 0), (0, 0), (0, 0), (0, 0), (0, 0), (1, 0), (0, 0), (2, (N + 1)), (2, (N + 2)), (2, (N + 3)), (2, (N + 4)), (2, (N + 5)), (2, (N + 6)), (4, 0), (4, 0), (4, 0), (4, 0), (0, 0), (4, 0), (4, 0), (4, 0), (4, 0), (4, 0), (0, 0), (0, 0), (0, 0), (4, 0), (0, 0)]) := by rw [hsh16, cn_set_ne (by omega)]; exact hs_o_15
  have hs_N7_16 : sh16 (N + 7) = (4, 12, []) := by rw [hsh16]; exact cn_set_at
  refine cn_putq (ea := e_a_16) (eb := e_q16_16) (Ts := ax_Ts) (n := 35) (T := aT_M) (C := "AskingFragmentsModel") (k := 20) hx hb hts aU_M (ty0 := cn_tM) cn_yM aN_M hown hK rfl hW16 hS16 (show o < (N + 8) by omega) hs_o_16 (by decide) rfl (show (N + 7) < (N + 8) by omega) (hts _ (ax_in (ax_wl_at (k := 5) (j := 237) rfl) rfl)) rfl hin rfl rfl rfl rfl cd_M_77 (fun H17 locs17 sh17 hsh17 hW17 hS17 => ?_)
  have hs_o_17 : sh17 o = (0, 8, [(0, 0), (2, N), (0, 0), (0, 0), (0, 0), (0, 0), (0, 0), (0, 0), (0, 0), (0, 0), (0, 0), (0, 0), (1, 0), (0, 0), (2, (N + 1)), (2, (N + 2)), (2, (N + 3)), (2, (N + 4)), (2, (N + 5)), (2, (N + 6)), (2, (N + 7)), (4, 0), (4, 0), (4, 0), (0, 0), (4, 0), (4, 0), (4, 0), (4, 0), (4, 0), (0, 0), (0, 0), (0, 0), (4, 0), (0, 0)]) := by rw [hsh17]; exact cn_set_at
  refine lv_aload_n hx hb cd_M_80 rfl (lv_at hl 0 rfl) ?_
  refine lv_bipush hx hb cd_M_81 (v := (12)) rfl ?_
  refine cn_newa (len := 12) hx hb (htn _ (List.mem_of_getElem? (i := 2) rfl)) 4 (by decide) rfl rfl hK hW17 hS17 hA (hm3 _ (by omega)) (by decide) rfl (by decide) (Nat.le_of_ble_eq_true rfl) (Nat.le_of_ble_eq_true rfl) cd_M_83 (fun q18 H18 ad18 sh18 N18 had18 hsh18 hN18 hW18 hS18 => ?_)
  obtain rfl : N18 = (N + 9) := by omega
  clear hN18
  have e_a_18 : ad18 o = a := by rw [had18, cn_ext (by omega)]; exact e_a_16
  have e_q18_18 : ad18 (N + 8) = q18 := by rw [had18]; exact cn_ext_at
  have hb18 : ∀ x, x < N → ad18 x = ad x := fun x hx => by rw [had18, cn_ext (by omega)]; exact hb16 x hx
  have hs_o_18 : sh18 o = (0, 8, [(0, 0), (2, N), (0, 0), (0, 0), (0, 0), (0, 0), (0, 0), (0, 0), (0, 0), (0, 0), (0, 0), (0, 0), (1, 0), (0, 0), (2, (N + 1)), (2, (N + 2)), (2, (N + 3)), (2, (N + 4)), (2, (N + 5)), (2, (N + 6)), (2, (N + 7)), (4, 0), (4, 0), (4, 0), (0, 0), (4, 0), (4, 0), (4, 0), (4, 0), (4, 0), (0, 0), (0, 0), (0, 0), (4, 0), (0, 0)]) := by rw [hsh18, cn_set_ne (by omega)]; exact hs_o_17
  have hs_N8_18 : sh18 (N + 8) = (4, 12, []) := by rw [hsh18]; exact cn_set_at
  refine cn_putq (ea := e_a_18) (eb := e_q18_18) (Ts := ax_Ts) (n := 35) (T := aT_M) (C := "AskingFragmentsModel") (k := 21) hx hb hts aU_M (ty0 := cn_tM) cn_yM aN_M hown hK rfl hW18 hS18 (show o < (N + 9) by omega) hs_o_18 (by decide) rfl (show (N + 8) < (N + 9) by omega) (hts _ (ax_in (ax_wl_at (k := 5) (j := 238) rfl) rfl)) rfl hin rfl rfl rfl rfl cd_M_85 (fun H19 locs19 sh19 hsh19 hW19 hS19 => ?_)
  have hs_o_19 : sh19 o = (0, 8, [(0, 0), (2, N), (0, 0), (0, 0), (0, 0), (0, 0), (0, 0), (0, 0), (0, 0), (0, 0), (0, 0), (0, 0), (1, 0), (0, 0), (2, (N + 1)), (2, (N + 2)), (2, (N + 3)), (2, (N + 4)), (2, (N + 5)), (2, (N + 6)), (2, (N + 7)), (2, (N + 8)), (4, 0), (4, 0), (0, 0), (4, 0), (4, 0), (4, 0), (4, 0), (4, 0), (0, 0), (0, 0), (0, 0), (4, 0), (0, 0)]) := by rw [hsh19]; exact cn_set_at
  refine lv_aload_n hx hb cd_M_88 rfl (lv_at hl 0 rfl) ?_
  refine lv_bipush hx hb cd_M_89 (v := (24)) rfl ?_
  refine cn_newa (len := 24) hx hb (htn _ (List.mem_of_getElem? (i := 2) rfl)) 4 (by decide) rfl rfl hK hW19 hS19 hA (hm3 _ (by omega)) (by decide) rfl (by decide) (Nat.le_of_ble_eq_true rfl) (Nat.le_of_ble_eq_true rfl) cd_M_91 (fun q20 H20 ad20 sh20 N20 had20 hsh20 hN20 hW20 hS20 => ?_)
  obtain rfl : N20 = (N + 10) := by omega
  clear hN20
  have e_a_20 : ad20 o = a := by rw [had20, cn_ext (by omega)]; exact e_a_18
  have e_q20_20 : ad20 (N + 9) = q20 := by rw [had20]; exact cn_ext_at
  have hb20 : ∀ x, x < N → ad20 x = ad x := fun x hx => by rw [had20, cn_ext (by omega)]; exact hb18 x hx
  have hs_o_20 : sh20 o = (0, 8, [(0, 0), (2, N), (0, 0), (0, 0), (0, 0), (0, 0), (0, 0), (0, 0), (0, 0), (0, 0), (0, 0), (0, 0), (1, 0), (0, 0), (2, (N + 1)), (2, (N + 2)), (2, (N + 3)), (2, (N + 4)), (2, (N + 5)), (2, (N + 6)), (2, (N + 7)), (2, (N + 8)), (4, 0), (4, 0), (0, 0), (4, 0), (4, 0), (4, 0), (4, 0), (4, 0), (0, 0), (0, 0), (0, 0), (4, 0), (0, 0)]) := by rw [hsh20, cn_set_ne (by omega)]; exact hs_o_19
  have hs_N9_20 : sh20 (N + 9) = (4, 24, []) := by rw [hsh20]; exact cn_set_at
  refine cn_putq (ea := e_a_20) (eb := e_q20_20) (Ts := ax_Ts) (n := 35) (T := aT_M) (C := "AskingFragmentsModel") (k := 22) hx hb hts aU_M (ty0 := cn_tM) cn_yM aN_M hown hK rfl hW20 hS20 (show o < (N + 10) by omega) hs_o_20 (by decide) rfl (show (N + 9) < (N + 10) by omega) (hts _ (ax_in (ax_wl_at (k := 5) (j := 239) rfl) rfl)) rfl hin rfl rfl rfl rfl cd_M_93 (fun H21 locs21 sh21 hsh21 hW21 hS21 => ?_)
  have hs_o_21 : sh21 o = (0, 8, [(0, 0), (2, N), (0, 0), (0, 0), (0, 0), (0, 0), (0, 0), (0, 0), (0, 0), (0, 0), (0, 0), (0, 0), (1, 0), (0, 0), (2, (N + 1)), (2, (N + 2)), (2, (N + 3)), (2, (N + 4)), (2, (N + 5)), (2, (N + 6)), (2, (N + 7)), (2, (N + 8)), (2, (N + 9)), (4, 0), (0, 0), (4, 0), (4, 0), (4, 0), (4, 0), (4, 0), (0, 0), (0, 0), (0, 0), (4, 0), (0, 0)]) := by rw [hsh21]; exact cn_set_at
  refine lv_aload_n hx hb cd_M_96 rfl (lv_at hl 0 rfl) ?_
  refine lv_iconst hx hb cd_M_97 (v := (2)) rfl ?_
  refine cn_newa (len := 2) hx hb (htn _ (List.mem_of_getElem? (i := 3) rfl)) 3 (by decide) rfl rfl hK hW21 hS21 hA (hm3 _ (by omega)) (by decide) rfl (by decide) (Nat.le_of_ble_eq_true rfl) (Nat.le_of_ble_eq_true rfl) cd_M_98 (fun q22 H22 ad22 sh22 N22 had22 hsh22 hN22 hW22 hS22 => ?_)
  obtain rfl : N22 = (N + 11) := by omega
  clear hN22
  have e_a_22 : ad22 o = a := by rw [had22, cn_ext (by omega)]; exact e_a_20
  have e_q22_22 : ad22 (N + 10) = q22 := by rw [had22]; exact cn_ext_at
  have hb22 : ∀ x, x < N → ad22 x = ad x := fun x hx => by rw [had22, cn_ext (by omega)]; exact hb20 x hx
  have hs_o_22 : sh22 o = (0, 8, [(0, 0), (2, N), (0, 0), (0, 0), (0, 0), (0, 0), (0, 0), (0, 0), (0, 0), (0, 0), (0, 0), (0, 0), (1, 0), (0, 0), (2, (N + 1)), (2, (N + 2)), (2, (N + 3)), (2, (N + 4)), (2, (N + 5)), (2, (N + 6)), (2, (N + 7)), (2, (N + 8)), (2, (N + 9)), (4, 0), (0, 0), (4, 0), (4, 0), (4, 0), (4, 0), (4, 0), (0, 0), (0, 0), (0, 0), (4, 0), (0, 0)]) := by rw [hsh22, cn_set_ne (by omega)]; exact hs_o_21
  have hs_N10_22 : sh22 (N + 10) = (3, 2, []) := by rw [hsh22]; exact cn_set_at
  refine cn_putq (ea := e_a_22) (eb := e_q22_22) (Ts := ax_Ts) (n := 35) (T := aT_M) (C := "AskingFragmentsModel") (k := 23) hx hb hts aU_M (ty0 := cn_tM) cn_yM aN_M hown hK rfl hW22 hS22 (show o < (N + 11) by omega) hs_o_22 (by decide) rfl (show (N + 10) < (N + 11) by omega) (hts _ (ax_in (ax_wl_at (k := 6) (j := 0) rfl) rfl)) rfl hin rfl rfl rfl rfl cd_M_100 (fun H23 locs23 sh23 hsh23 hW23 hS23 => ?_)
  have hs_o_23 : sh23 o = (0, 8, [(0, 0), (2, N), (0, 0), (0, 0), (0, 0), (0, 0), (0, 0), (0, 0), (0, 0), (0, 0), (0, 0), (0, 0), (1, 0), (0, 0), (2, (N + 1)), (2, (N + 2)), (2, (N + 3)), (2, (N + 4)), (2, (N + 5)), (2, (N + 6)), (2, (N + 7)), (2, (N + 8)), (2, (N + 9)), (2, (N + 10)), (0, 0), (4, 0), (4, 0), (4, 0), (4, 0), (4, 0), (0, 0), (0, 0), (0, 0), (4, 0), (0, 0)]) := by rw [hsh23]; exact cn_set_at
  refine lv_aload_n hx hb cd_M_103 rfl (lv_at hl 0 rfl) ?_
  refine lv_bipush hx hb cd_M_104 (v := (30)) rfl ?_
  refine cn_newa (len := 30) hx hb (htn _ (List.mem_of_getElem? (i := 1) rfl)) 1 (by decide) rfl rfl hK hW23 hS23 hA (hm3 _ (by omega)) (by decide) rfl (by decide) (Nat.le_of_ble_eq_true rfl) (Nat.le_of_ble_eq_true rfl) cd_M_106 (fun q24 H24 ad24 sh24 N24 had24 hsh24 hN24 hW24 hS24 => ?_)
  obtain rfl : N24 = (N + 12) := by omega
  clear hN24
  have e_a_24 : ad24 o = a := by rw [had24, cn_ext (by omega)]; exact e_a_22
  have e_q24_24 : ad24 (N + 11) = q24 := by rw [had24]; exact cn_ext_at
  have hb24 : ∀ x, x < N → ad24 x = ad x := fun x hx => by rw [had24, cn_ext (by omega)]; exact hb22 x hx
  have hs_o_24 : sh24 o = (0, 8, [(0, 0), (2, N), (0, 0), (0, 0), (0, 0), (0, 0), (0, 0), (0, 0), (0, 0), (0, 0), (0, 0), (0, 0), (1, 0), (0, 0), (2, (N + 1)), (2, (N + 2)), (2, (N + 3)), (2, (N + 4)), (2, (N + 5)), (2, (N + 6)), (2, (N + 7)), (2, (N + 8)), (2, (N + 9)), (2, (N + 10)), (0, 0), (4, 0), (4, 0), (4, 0), (4, 0), (4, 0), (0, 0), (0, 0), (0, 0), (4, 0), (0, 0)]) := by rw [hsh24, cn_set_ne (by omega)]; exact hs_o_23
  have hs_N11_24 : sh24 (N + 11) = (1, 30, []) := by rw [hsh24]; exact cn_set_at
  refine cn_putq (ea := e_a_24) (eb := e_q24_24) (Ts := ax_Ts) (n := 35) (T := aT_M) (C := "AskingFragmentsModel") (k := 25) hx hb hts aU_M (ty0 := cn_tM) cn_yM aN_M hown hK rfl hW24 hS24 (show o < (N + 12) by omega) hs_o_24 (by decide) rfl (show (N + 11) < (N + 12) by omega) (hts _ (ax_in (ax_wl_at (k := 6) (j := 2) rfl) rfl)) rfl hin rfl rfl rfl rfl cd_M_108 (fun H25 locs25 sh25 hsh25 hW25 hS25 => ?_)
  have hs_o_25 : sh25 o = (0, 8, [(0, 0), (2, N), (0, 0), (0, 0), (0, 0), (0, 0), (0, 0), (0, 0), (0, 0), (0, 0), (0, 0), (0, 0), (1, 0), (0, 0), (2, (N + 1)), (2, (N + 2)), (2, (N + 3)), (2, (N + 4)), (2, (N + 5)), (2, (N + 6)), (2, (N + 7)), (2, (N + 8)), (2, (N + 9)), (2, (N + 10)), (0, 0), (2, (N + 11)), (4, 0), (4, 0), (4, 0), (4, 0), (0, 0), (0, 0), (0, 0), (4, 0), (0, 0)]) := by rw [hsh25]; exact cn_set_at
  refine lv_aload_n hx hb cd_M_111 rfl (lv_at hl 0 rfl) ?_
  refine lv_bipush hx hb cd_M_112 (v := (60)) rfl ?_
  refine cn_newa (len := 60) hx hb (htn _ (List.mem_of_getElem? (i := 1) rfl)) 1 (by decide) rfl rfl hK hW25 hS25 hA (hm3 _ (by omega)) (by decide) rfl (by decide) (Nat.le_of_ble_eq_true rfl) (Nat.le_of_ble_eq_true rfl) cd_M_114 (fun q26 H26 ad26 sh26 N26 had26 hsh26 hN26 hW26 hS26 => ?_)
  obtain rfl : N26 = (N + 13) := by omega
  clear hN26
  have e_a_26 : ad26 o = a := by rw [had26, cn_ext (by omega)]; exact e_a_24
  have e_q26_26 : ad26 (N + 12) = q26 := by rw [had26]; exact cn_ext_at
  have hb26 : ∀ x, x < N → ad26 x = ad x := fun x hx => by rw [had26, cn_ext (by omega)]; exact hb24 x hx
  have hs_o_26 : sh26 o = (0, 8, [(0, 0), (2, N), (0, 0), (0, 0), (0, 0), (0, 0), (0, 0), (0, 0), (0, 0), (0, 0), (0, 0), (0, 0), (1, 0), (0, 0), (2, (N + 1)), (2, (N + 2)), (2, (N + 3)), (2, (N + 4)), (2, (N + 5)), (2, (N + 6)), (2, (N + 7)), (2, (N + 8)), (2, (N + 9)), (2, (N + 10)), (0, 0), (2, (N + 11)), (4, 0), (4, 0), (4, 0), (4, 0), (0, 0), (0, 0), (0, 0), (4, 0), (0, 0)]) := by rw [hsh26, cn_set_ne (by omega)]; exact hs_o_25
  have hs_N12_26 : sh26 (N + 12) = (1, 60, []) := by rw [hsh26]; exact cn_set_at
  refine cn_putq (ea := e_a_26) (eb := e_q26_26) (Ts := ax_Ts) (n := 35) (T := aT_M) (C := "AskingFragmentsModel") (k := 26) hx hb hts aU_M (ty0 := cn_tM) cn_yM aN_M hown hK rfl hW26 hS26 (show o < (N + 13) by omega) hs_o_26 (by decide) rfl (show (N + 12) < (N + 13) by omega) (hts _ (ax_in (ax_wl_at (k := 6) (j := 3) rfl) rfl)) rfl hin rfl rfl rfl rfl cd_M_116 (fun H27 locs27 sh27 hsh27 hW27 hS27 => ?_)
  have hs_o_27 : sh27 o = (0, 8, [(0, 0), (2, N), (0, 0), (0, 0), (0, 0), (0, 0), (0, 0), (0, 0), (0, 0), (0, 0), (0, 0), (0, 0), (1, 0), (0, 0), (2, (N + 1)), (2, (N + 2)), (2, (N + 3)), (2, (N + 4)), (2, (N + 5)), (2, (N + 6)), (2, (N + 7)), (2, (N + 8)), (2, (N + 9)), (2, (N + 10)), (0, 0), (2, (N + 11)), (2, (N + 12)), (4, 0), (4, 0), (4, 0), (0, 0), (0, 0), (0, 0), (4, 0), (0, 0)]) := by rw [hsh27]; exact cn_set_at
  refine lv_aload_n hx hb cd_M_119 rfl (lv_at hl 0 rfl) ?_
  refine lv_bipush hx hb cd_M_120 (v := (60)) rfl ?_
  refine cn_newa (len := 60) hx hb (htn _ (List.mem_of_getElem? (i := 3) rfl)) 3 (by decide) rfl rfl hK hW27 hS27 hA (hm3 _ (by omega)) (by decide) rfl (by decide) (Nat.le_of_ble_eq_true rfl) (Nat.le_of_ble_eq_true rfl) cd_M_122 (fun q28 H28 ad28 sh28 N28 had28 hsh28 hN28 hW28 hS28 => ?_)
  obtain rfl : N28 = (N + 14) := by omega
  clear hN28
  have e_a_28 : ad28 o = a := by rw [had28, cn_ext (by omega)]; exact e_a_26
  have e_q28_28 : ad28 (N + 13) = q28 := by rw [had28]; exact cn_ext_at
  have hb28 : ∀ x, x < N → ad28 x = ad x := fun x hx => by rw [had28, cn_ext (by omega)]; exact hb26 x hx
  have hs_o_28 : sh28 o = (0, 8, [(0, 0), (2, N), (0, 0), (0, 0), (0, 0), (0, 0), (0, 0), (0, 0), (0, 0), (0, 0), (0, 0), (0, 0), (1, 0), (0, 0), (2, (N + 1)), (2, (N + 2)), (2, (N + 3)), (2, (N + 4)), (2, (N + 5)), (2, (N + 6)), (2, (N + 7)), (2, (N + 8)), (2, (N + 9)), (2, (N + 10)), (0, 0), (2, (N + 11)), (2, (N + 12)), (4, 0), (4, 0), (4, 0), (0, 0), (0, 0), (0, 0), (4, 0), (0, 0)]) := by rw [hsh28, cn_set_ne (by omega)]; exact hs_o_27
  have hs_N13_28 : sh28 (N + 13) = (3, 60, []) := by rw [hsh28]; exact cn_set_at
  refine cn_putq (ea := e_a_28) (eb := e_q28_28) (Ts := ax_Ts) (n := 35) (T := aT_M) (C := "AskingFragmentsModel") (k := 27) hx hb hts aU_M (ty0 := cn_tM) cn_yM aN_M hown hK rfl hW28 hS28 (show o < (N + 14) by omega) hs_o_28 (by decide) rfl (show (N + 13) < (N + 14) by omega) (hts _ (ax_in (ax_wl_at (k := 6) (j := 4) rfl) rfl)) rfl hin rfl rfl rfl rfl cd_M_124 (fun H29 locs29 sh29 hsh29 hW29 hS29 => ?_)
  have hs_o_29 : sh29 o = (0, 8, [(0, 0), (2, N), (0, 0), (0, 0), (0, 0), (0, 0), (0, 0), (0, 0), (0, 0), (0, 0), (0, 0), (0, 0), (1, 0), (0, 0), (2, (N + 1)), (2, (N + 2)), (2, (N + 3)), (2, (N + 4)), (2, (N + 5)), (2, (N + 6)), (2, (N + 7)), (2, (N + 8)), (2, (N + 9)), (2, (N + 10)), (0, 0), (2, (N + 11)), (2, (N + 12)), (2, (N + 13)), (4, 0), (4, 0), (0, 0), (0, 0), (0, 0), (4, 0), (0, 0)]) := by rw [hsh29]; exact cn_set_at
  refine lv_aload_n hx hb cd_M_127 rfl (lv_at hl 0 rfl) ?_
  refine lv_bipush hx hb cd_M_128 (v := (60)) rfl ?_
  refine cn_newa (len := 60) hx hb (htn _ (List.mem_of_getElem? (i := 3) rfl)) 3 (by decide) rfl rfl hK hW29 hS29 hA (hm3 _ (by omega)) (by decide) rfl (by decide) (Nat.le_of_ble_eq_true rfl) (Nat.le_of_ble_eq_true rfl) cd_M_130 (fun q30 H30 ad30 sh30 N30 had30 hsh30 hN30 hW30 hS30 => ?_)
  obtain rfl : N30 = (N + 15) := by omega
  clear hN30
  have e_a_30 : ad30 o = a := by rw [had30, cn_ext (by omega)]; exact e_a_28
  have e_q30_30 : ad30 (N + 14) = q30 := by rw [had30]; exact cn_ext_at
  have hb30 : ∀ x, x < N → ad30 x = ad x := fun x hx => by rw [had30, cn_ext (by omega)]; exact hb28 x hx
  have hs_o_30 : sh30 o = (0, 8, [(0, 0), (2, N), (0, 0), (0, 0), (0, 0), (0, 0), (0, 0), (0, 0), (0, 0), (0, 0), (0, 0), (0, 0), (1, 0), (0, 0), (2, (N + 1)), (2, (N + 2)), (2, (N + 3)), (2, (N + 4)), (2, (N + 5)), (2, (N + 6)), (2, (N + 7)), (2, (N + 8)), (2, (N + 9)), (2, (N + 10)), (0, 0), (2, (N + 11)), (2, (N + 12)), (2, (N + 13)), (4, 0), (4, 0), (0, 0), (0, 0), (0, 0), (4, 0), (0, 0)]) := by rw [hsh30, cn_set_ne (by omega)]; exact hs_o_29
  have hs_N14_30 : sh30 (N + 14) = (3, 60, []) := by rw [hsh30]; exact cn_set_at
  refine cn_putq (ea := e_a_30) (eb := e_q30_30) (Ts := ax_Ts) (n := 35) (T := aT_M) (C := "AskingFragmentsModel") (k := 28) hx hb hts aU_M (ty0 := cn_tM) cn_yM aN_M hown hK rfl hW30 hS30 (show o < (N + 15) by omega) hs_o_30 (by decide) rfl (show (N + 14) < (N + 15) by omega) (hts _ (ax_in (ax_wl_at (k := 6) (j := 5) rfl) rfl)) rfl hin rfl rfl rfl rfl cd_M_132 (fun H31 locs31 sh31 hsh31 hW31 hS31 => ?_)
  have hs_o_31 : sh31 o = (0, 8, [(0, 0), (2, N), (0, 0), (0, 0), (0, 0), (0, 0), (0, 0), (0, 0), (0, 0), (0, 0), (0, 0), (0, 0), (1, 0), (0, 0), (2, (N + 1)), (2, (N + 2)), (2, (N + 3)), (2, (N + 4)), (2, (N + 5)), (2, (N + 6)), (2, (N + 7)), (2, (N + 8)), (2, (N + 9)), (2, (N + 10)), (0, 0), (2, (N + 11)), (2, (N + 12)), (2, (N + 13)), (2, (N + 14)), (4, 0), (0, 0), (0, 0), (0, 0), (4, 0), (0, 0)]) := by rw [hsh31]; exact cn_set_at
  refine lv_aload_n hx hb cd_M_135 rfl (lv_at hl 0 rfl) ?_
  refine lv_bipush hx hb cd_M_136 (v := (60)) rfl ?_
  refine cn_newa (len := 60) hx hb (htn _ (List.mem_of_getElem? (i := 1) rfl)) 1 (by decide) rfl rfl hK hW31 hS31 hA (hm3 _ (by omega)) (by decide) rfl (by decide) (Nat.le_of_ble_eq_true rfl) (Nat.le_of_ble_eq_true rfl) cd_M_138 (fun q32 H32 ad32 sh32 N32 had32 hsh32 hN32 hW32 hS32 => ?_)
  obtain rfl : N32 = (N + 16) := by omega
  clear hN32
  have e_a_32 : ad32 o = a := by rw [had32, cn_ext (by omega)]; exact e_a_30
  have e_q32_32 : ad32 (N + 15) = q32 := by rw [had32]; exact cn_ext_at
  have hb32 : ∀ x, x < N → ad32 x = ad x := fun x hx => by rw [had32, cn_ext (by omega)]; exact hb30 x hx
  have hs_o_32 : sh32 o = (0, 8, [(0, 0), (2, N), (0, 0), (0, 0), (0, 0), (0, 0), (0, 0), (0, 0), (0, 0), (0, 0), (0, 0), (0, 0), (1, 0), (0, 0), (2, (N + 1)), (2, (N + 2)), (2, (N + 3)), (2, (N + 4)), (2, (N + 5)), (2, (N + 6)), (2, (N + 7)), (2, (N + 8)), (2, (N + 9)), (2, (N + 10)), (0, 0), (2, (N + 11)), (2, (N + 12)), (2, (N + 13)), (2, (N + 14)), (4, 0), (0, 0), (0, 0), (0, 0), (4, 0), (0, 0)]) := by rw [hsh32, cn_set_ne (by omega)]; exact hs_o_31
  have hs_N15_32 : sh32 (N + 15) = (1, 60, []) := by rw [hsh32]; exact cn_set_at
  refine cn_putq (ea := e_a_32) (eb := e_q32_32) (Ts := ax_Ts) (n := 35) (T := aT_M) (C := "AskingFragmentsModel") (k := 29) hx hb hts aU_M (ty0 := cn_tM) cn_yM aN_M hown hK rfl hW32 hS32 (show o < (N + 16) by omega) hs_o_32 (by decide) rfl (show (N + 15) < (N + 16) by omega) (hts _ (ax_in (ax_wl_at (k := 6) (j := 6) rfl) rfl)) rfl hin rfl rfl rfl rfl cd_M_140 (fun H33 locs33 sh33 hsh33 hW33 hS33 => ?_)
  have hs_o_33 : sh33 o = (0, 8, [(0, 0), (2, N), (0, 0), (0, 0), (0, 0), (0, 0), (0, 0), (0, 0), (0, 0), (0, 0), (0, 0), (0, 0), (1, 0), (0, 0), (2, (N + 1)), (2, (N + 2)), (2, (N + 3)), (2, (N + 4)), (2, (N + 5)), (2, (N + 6)), (2, (N + 7)), (2, (N + 8)), (2, (N + 9)), (2, (N + 10)), (0, 0), (2, (N + 11)), (2, (N + 12)), (2, (N + 13)), (2, (N + 14)), (2, (N + 15)), (0, 0), (0, 0), (0, 0), (4, 0), (0, 0)]) := by rw [hsh33]; exact cn_set_at
  refine lv_aload_n hx hb cd_M_143 rfl (lv_at hl 0 rfl) ?_
  refine lv_iconst hx hb cd_M_144 (v := (-1)) rfl ?_
  refine cn_puti (v := (-1)) (ea := e_a_32) (Ts := ax_Ts) (n := 35) (T := aT_M) (C := "AskingFragmentsModel") (k := 30) hx hb hts aU_M (ty0 := cn_tM) cn_yM aN_M hown hK rfl hW33 hS33 (show o < (N + 16) by omega) hs_o_33 (by decide) rfl rfl (hts _ (ax_in (ax_wl_at (k := 6) (j := 7) rfl) rfl)) rfl rfl cd_M_145 (fun H34 locs34 μ34 hμ34 hW34 hS34 => ?_)
  have hm34 := cn_hm hμ34 (show o < (N + 16) by omega) (fun a ha => hm3 a (by omega))
  refine lv_aload_n hx hb cd_M_148 rfl (lv_at hl 0 rfl) ?_
  refine lv_iconst hx hb cd_M_149 (v := (-1)) rfl ?_
  refine cn_puti (v := (-1)) (ea := e_a_32) (Ts := ax_Ts) (n := 35) (T := aT_M) (C := "AskingFragmentsModel") (k := 31) hx hb hts aU_M (ty0 := cn_tM) cn_yM aN_M hown hK rfl hW34 hS34 (show o < (N + 16) by omega) hs_o_33 (by decide) rfl rfl (hts _ (ax_in (ax_wl_at (k := 6) (j := 8) rfl) rfl)) rfl rfl cd_M_150 (fun H35 locs35 μ35 hμ35 hW35 hS35 => ?_)
  have hm35 := cn_hm hμ35 (show o < (N + 16) by omega) (fun a ha => hm34 a (by omega))
  refine lv_aload_n hx hb cd_M_153 rfl (lv_at hl 0 rfl) ?_
  refine lv_bipush hx hb cd_M_154 (v := (48)) rfl ?_
  refine cn_newa (len := 48) hx hb (htn _ (List.mem_of_getElem? (i := 1) rfl)) 1 (by decide) rfl rfl hK hW35 hS35 hA (hm35 _ (by omega)) (by decide) rfl (by decide) (Nat.le_of_ble_eq_true rfl) (Nat.le_of_ble_eq_true rfl) cd_M_156 (fun q36 H36 ad36 sh36 N36 had36 hsh36 hN36 hW36 hS36 => ?_)
  obtain rfl : N36 = (N + 17) := by omega
  clear hN36
  have e_a_36 : ad36 o = a := by rw [had36, cn_ext (by omega)]; exact e_a_32
  have e_q36_36 : ad36 (N + 16) = q36 := by rw [had36]; exact cn_ext_at
  have hb36 : ∀ x, x < N → ad36 x = ad x := fun x hx => by rw [had36, cn_ext (by omega)]; exact hb32 x hx
  have hs_o_36 : sh36 o = (0, 8, [(0, 0), (2, N), (0, 0), (0, 0), (0, 0), (0, 0), (0, 0), (0, 0), (0, 0), (0, 0), (0, 0), (0, 0), (1, 0), (0, 0), (2, (N + 1)), (2, (N + 2)), (2, (N + 3)), (2, (N + 4)), (2, (N + 5)), (2, (N + 6)), (2, (N + 7)), (2, (N + 8)), (2, (N + 9)), (2, (N + 10)), (0, 0), (2, (N + 11)), (2, (N + 12)), (2, (N + 13)), (2, (N + 14)), (2, (N + 15)), (0, 0), (0, 0), (0, 0), (4, 0), (0, 0)]) := by rw [hsh36, cn_set_ne (by omega)]; exact hs_o_33
  have hs_N16_36 : sh36 (N + 16) = (1, 48, []) := by rw [hsh36]; exact cn_set_at
  refine cn_putq (ea := e_a_36) (eb := e_q36_36) (Ts := ax_Ts) (n := 35) (T := aT_M) (C := "AskingFragmentsModel") (k := 33) hx hb hts aU_M (ty0 := cn_tM) cn_yM aN_M hown hK rfl hW36 hS36 (show o < (N + 17) by omega) hs_o_36 (by decide) rfl (show (N + 16) < (N + 17) by omega) (hts _ (ax_in (ax_wl_at (k := 6) (j := 10) rfl) rfl)) rfl hin rfl rfl rfl rfl cd_M_158 (fun H37 locs37 sh37 hsh37 hW37 hS37 => ?_)
  have hs_o_37 : sh37 o = (0, 8, [(0, 0), (2, N), (0, 0), (0, 0), (0, 0), (0, 0), (0, 0), (0, 0), (0, 0), (0, 0), (0, 0), (0, 0), (1, 0), (0, 0), (2, (N + 1)), (2, (N + 2)), (2, (N + 3)), (2, (N + 4)), (2, (N + 5)), (2, (N + 6)), (2, (N + 7)), (2, (N + 8)), (2, (N + 9)), (2, (N + 10)), (0, 0), (2, (N + 11)), (2, (N + 12)), (2, (N + 13)), (2, (N + 14)), (2, (N + 15)), (0, 0), (0, 0), (0, 0), (2, (N + 16)), (0, 0)]) := by rw [hsh37]; exact cn_set_at
  have hWz : cx_W Dg ax_cl A cA ad36 (cn_s_M sh N o) (N + 17) (ax_up ((ax_up ((ax_up (μ).1 o 10 (-1), (μ).2)).1 o 30 (-1), ((ax_up (μ).1 o 10 (-1), (μ).2)).2)).1 o 31 (-1), ((ax_up ((ax_up (μ).1 o 10 (-1), (μ).2)).1 o 30 (-1), ((ax_up (μ).1 o 10 (-1), (μ).2)).2)).2) H37 := by
    subst hμ35 hμ34 hμ3 hsh37 hsh36 hsh33 hsh32 hsh31 hsh30 hsh29 hsh28 hsh27 hsh26 hsh25 hsh24 hsh23 hsh22 hsh21 hsh20 hsh19 hsh18 hsh17 hsh16 hsh15 hsh14 hsh13 hsh12 hsh11 hsh10 hsh9 hsh8 hsh7 hsh6 hsh5 hsh4 hsh2 hsh1
    exact hW37
  exact W.vret hx hb hr (fun t ht hWm => ⟨⟨ad36, rfl, hb36, by subst ht; exact hWz⟩, hS37.F ht⟩) hS37.2.2 cd_M_161
theorem cd_Image_0 : decode prog_3_method_1_code 0 = .ok (.aload_n 0, 1) := by decide +kernel
theorem cd_Image_1 : decode prog_3_method_1_code 1 = .ok (.invokespecial 1, 3) := by decide +kernel
theorem cd_Image_4 : decode prog_3_method_1_code 4 = .ok (.aload_n 0, 1) := by decide +kernel
theorem cd_Image_5 : decode prog_3_method_1_code 5 = .ok (.new 7, 3) := by decide +kernel
theorem cd_Image_8 : decode prog_3_method_1_code 8 = .ok (.dup, 1) := by decide +kernel
theorem cd_Image_9 : decode prog_3_method_1_code 9 = .ok (.invokespecial 9, 3) := by decide +kernel
theorem cd_Image_12 : decode prog_3_method_1_code 12 = .ok (.putfield 10, 3) := by decide +kernel
theorem cd_Image_15 : decode prog_3_method_1_code 15 = .ok (.aload_n 0, 1) := by decide +kernel
theorem cd_Image_16 : decode prog_3_method_1_code 16 = .ok (.new 16, 3) := by decide +kernel
theorem cd_Image_19 : decode prog_3_method_1_code 19 = .ok (.dup, 1) := by decide +kernel
theorem cd_Image_20 : decode prog_3_method_1_code 20 = .ok (.invokespecial 18, 3) := by decide +kernel
theorem cd_Image_23 : decode prog_3_method_1_code 23 = .ok (.putfield 19, 3) := by decide +kernel
theorem cd_Image_26 : decode prog_3_method_1_code 26 = .ok (.aload_n 0, 1) := by decide +kernel
theorem cd_Image_27 : decode prog_3_method_1_code 27 = .ok (.new 23, 3) := by decide +kernel
theorem cd_Image_30 : decode prog_3_method_1_code 30 = .ok (.dup, 1) := by decide +kernel
theorem cd_Image_31 : decode prog_3_method_1_code 31 = .ok (.aload_n 0, 1) := by decide +kernel
theorem cd_Image_32 : decode prog_3_method_1_code 32 = .ok (.getfield 10, 3) := by decide +kernel
theorem cd_Image_35 : decode prog_3_method_1_code 35 = .ok (.invokespecial 25, 3) := by decide +kernel
theorem cd_Image_38 : decode prog_3_method_1_code 38 = .ok (.putfield 28, 3) := by decide +kernel
theorem cd_Image_41 : decode prog_3_method_1_code 41 = .ok (.return_, 1) := by decide +kernel
abbrev cn_d_Image : ax_D := (⟨"AskingFragments$Image", "<init>", "()V"⟩, prog_3_method_1_code, 1, none, 1, 0)
theorem cn_p_Image : (parseMethodDescriptor cn_d_Image.1.desc).map (fun d => d.parameters.length) = some 0 := by decide +kernel
/-- the cells behind it -/
def cn_s_Image (sh : Nat → ax_C) (N : Nat) (o : Nat) : Nat → ax_C := cx_set (cn_s_Run (cx_set (cx_set (cn_s_Rule (cx_set (cx_set (cn_s_Net (cx_set (sh) N (0, 3, [(0, 0), (0, 0), (4, 0), (4, 0), (4, 0), (4, 0)])) (N + 1) N) o (0, 2, [(2, N), (4, 0), (4, 0), (3, 0)])) (N + 5) (0, 5, [(0, 0), (4, 0), (4, 0), (4, 0), (4, 0), (4, 0), (4, 0), (4, 0), (0, 0)])) (N + 6) (N + 5)) o (0, 2, [(2, N), (2, (N + 5)), (4, 0), (3, 0)])) (N + 13) (0, 6, [(4, 0), (4, 0), (4, 0), (4, 0), (4, 0), (4, 0), (4, 0), (4, 0), (4, 0), (4, 0), (4, 0), (0, 0), (0, 0), (0, 0), (0, 0), (0, 0), (0, 0), (0, 0)])) (N + 14) (N + 13) N) o (0, 2, [(2, N), (2, (N + 5)), (2, (N + 13)), (3, 0)])
theorem cn_s_Image_ne {sh : Nat → ax_C} {N o x : Nat} (h1 : x < N) (h2 : x ≠ o) : cn_s_Image sh N o x = sh x := by
  unfold cn_s_Image
  rw [cn_set_ne (by omega), cn_s_Run_ne (by omega) (by omega), cn_set_ne (by omega), cn_set_ne (by omega), cn_s_Rule_ne (by omega) (by omega), cn_set_ne (by omega), cn_set_ne (by omega), cn_s_Net_ne (by omega) (by omega), cn_set_ne (by omega)]
theorem cn_s_Image_at {sh : Nat → ax_C} {N o : Nat} : cn_s_Image sh N o o = (0, 2, [(2, N), (2, (N + 5)), (2, (N + 13)), (3, 0)]) := cn_set_at
theorem cn_Image (l : Launch) (Dg : va_G) (A : Nat → Prop) (cA : Nat → ClassId) (ad : Nat → Nat) (sh : Nat → ax_C) (N : Nat) (μ : ax_M) {o : Nat} {a : Nat} (e_a : ad o = a) (h_o : o < N) (hso : sh o = (0, 2, [(4, 0), (4, 0), (4, 0), (3, 0)])) (hμ : ∀ o, N ≤ o → μ.1 o = (fun _ => 0) ∧ μ.2 o = (fun _ => 0)) :
    Met l cn_d_Image.1 (ax_ws cn_Ts cn_d_Image) { frames := 2, cells := 24, slots := 3222, locals := 120 } (cn_P Dg A cA ad sh N μ [.ref a]) (cn_Q Dg A cA ad N (cn_s_Image sh N o) (N + 24) μ) 24 3222 A := by
  refine Met.ofW (cc := prog_3_method_1_code) (maxL := 1) (ret := none) (by decide) rfl ?_
  intro p e s m args below meth c s₁ B hml hv
  obtain ⟨rfl, hW, hK, hA, hX⟩ := hv
  have hx := B.exec
  have hb := B.bytes
  have hr := B.returns
  have hlocks := B.notSynchronized
  have hin : meth.name = "<init>" := (name_of_methodNamed B.named B.method).1
  have hts0 := atoms_spec (ws := ax_ws cn_Ts cn_d_Image) B.pre
  have htn : ∀ w ∈ cn_Ts, w.before ([.ref a] : List Value).toArray s = true := fun w hw => hts0 w (List.mem_cons_of_mem _ hw)
  have hts : ∀ w ∈ ax_Ts, w.before ([.ref a] : List Value).toArray s = true := fun w hw => htn w (cn_Ts_in hw)
  have hown : s.vm.findClass "AskingFragments$Image" = some m.cls := findClass_of_methodNamed B.named
  have hS : va_S A s.heap s.heap [] := va_S.rf
  have hoc := cn_objC hts
  have hl := lv_entry ([.ref a]) (n := 1) (Nat.le_of_ble_eq_true rfl)
  rw [lg_entry_eq]
  generalize (lg_sl ([.ref a]) ++ List.replicate (1 - (lg_sl ([.ref a])).length) Slot.unset).toArray = ls at hl ⊢
  have hl : lv_has ls 1 [(0, .ref a)] := hl
  refine lv_aload_n hx hb cd_Image_0 rfl (lv_at hl 0 rfl) ?_
  refine W.objInit hx hb hown (hts (.methodLink "AskingFragments$Image" 1 Lib.objectInit) (ax_in (ax_wl_at (k := 1) (j := 229) rfl) rfl)) hoc.1 hoc.2 rfl (by rw [hml]; exact hl.1) rfl cd_Image_1 (Nat.le_of_ble_eq_true rfl) (Nat.le_of_ble_eq_true rfl) ?_
  refine W.eq (g2 := F0 m 4 ls []) rfl ?_
  refine lv_aload_n hx hb cd_Image_4 rfl (lv_at hl 0 rfl) ?_
  refine cn_new (Ts := ax_Ts) (ci := 3) (fs := [(0, 0), (0, 0), (4, 0), (4, 0), (4, 0), (4, 0)]) hx hb hts aU_Net cn_tNet cn_yNet hown (hts _ (ax_in (ax_wl_at (k := 1) (j := 230) rfl) rfl)) (hts _ (ax_in (ax_wl_at (k := 1) (j := 70) rfl) rfl)) (hts _ aI_Net.1) hK rfl hW hS hA (cn_h0 (hμ _ (by omega))) (by decide) cn_fNet (Nat.le_of_ble_eq_true rfl) (Nat.le_of_ble_eq_true rfl) cd_Image_5 (fun q1 H1 ad1 sh1 N1 had1 hsh1 hN1 hW1 hS1 => ?_)
  obtain rfl : N1 = (N + 1) := by omega
  clear hN1
  have e_a_1 : ad1 o = a := by rw [had1, cn_ext (by omega)]; exact e_a
  have e_q1_1 : ad1 N = q1 := by rw [had1]; exact cn_ext_at
  have hb1 : ∀ x, x < N → ad1 x = ad x := fun x hx => by rw [had1, cn_ext (by omega)]
  have hs_o_1 : sh1 o = (0, 2, [(4, 0), (4, 0), (4, 0), (3, 0)]) := by rw [hsh1, cn_set_ne (by omega)]; exact hso
  have hs_N_1 : sh1 N = (0, 3, [(0, 0), (0, 0), (4, 0), (4, 0), (4, 0), (4, 0)]) := by rw [hsh1]; exact cn_set_at
  refine lv_dup hx hb cd_Image_8 rfl ?_
  refine cn_call (host := "AskingFragments") (d := cn_d_Net) (b := q1) (As := []) hx hb hml hown htn (cn_Net l Dg A cA ad1 sh1 (N + 1) μ e_q1_1 (by omega) hs_N_1 (fun a ha => hμ a (by omega))) rfl ⟨rfl, rfl⟩ (ax_in (ax_wl_at (k := 1) (j := 73) rfl) rfl) aI_Net.1 (Or.inr (hX.1 _ (List.mem_of_getElem? (i := 2) rfl))) rfl (ax_in (ax_wl_at (k := 1) (j := 72) rfl) rfl) ⟨aI_Net.2.2.1, aI_Net.2.2.2, cn_p_Net⟩ ⟨(Nat.le_of_ble_eq_true rfl), (Nat.le_of_ble_eq_true rfl)⟩ hK hW1 hS1 hA hX rfl hl.1 (Nat.le_of_ble_eq_true rfl) cd_Image_9 ⟨(Nat.le_of_ble_eq_true rfl), (Nat.le_of_ble_eq_true rfl)⟩ (fun H2 locs2 ad2 sh2 N2 hal2 hsh2 hN2 hW2 hS2 => ?_)
  obtain rfl : N2 = (N + 5) := by omega
  clear hN2
  have e_a_2 : ad2 o = a := (hal2 _ (by omega)).trans e_a_1
  have e_q1_2 : ad2 N = q1 := (hal2 _ (by omega)).trans e_q1_1
  have hb2 : ∀ x, x < N → ad2 x = ad x := fun x hx => (hal2 x (by omega)).trans (hb1 x hx)
  have hs_o_2 : sh2 o = (0, 2, [(4, 0), (4, 0), (4, 0), (3, 0)]) := by rw [hsh2, cn_s_Net_ne (by omega) (by omega)]; exact hs_o_1
  have hs_N_2 : sh2 N = (0, 3, [(0, 0), (0, 0), (2, (N + 1)), (2, (N + 1) + 1), (2, (N + 1) + 2), (2, (N + 1) + 3)]) := by rw [hsh2]; exact cn_s_Net_at
  refine cn_putq (ea := e_a_2) (eb := e_q1_2) (Ts := ax_Ts) (n := 4) (T := aT_Image) (C := "AskingFragments$Image") (k := 0) hx hb hts aU_Image (ty0 := cn_tImage) cn_yImage aN_Image hown hK rfl hW2 hS2 (show o < (N + 5) by omega) hs_o_2 (by decide) rfl (show N < (N + 5) by omega) (hts _ (ax_in (ax_wl_at (k := 1) (j := 236) rfl) rfl)) rfl hin rfl rfl rfl rfl cd_Image_12 (fun H3 locs3 sh3 hsh3 hW3 hS3 => ?_)
  have hs_o_3 : sh3 o = (0, 2, [(2, N), (4, 0), (4, 0), (3, 0)]) := by rw [hsh3]; exact cn_set_at
  refine lv_aload_n hx hb cd_Image_15 rfl (lv_at hl 0 rfl) ?_
  refine cn_new (Ts := ax_Ts) (ci := 5) (fs := [(0, 0), (4, 0), (4, 0), (4, 0), (4, 0), (4, 0), (4, 0), (4, 0), (0, 0)]) hx hb hts aU_Rule cn_tRule cn_yRule hown (hts _ (ax_in (ax_wl_at (k := 1) (j := 232) rfl) rfl)) (hts _ (ax_in (ax_wl_at (k := 1) (j := 109) rfl) rfl)) (hts _ aI_Rule.1) hK rfl hW3 hS3 hA (cn_h0 (hμ _ (by omega))) (by decide) cn_fRule (Nat.le_of_ble_eq_true rfl) (Nat.le_of_ble_eq_true rfl) cd_Image_16 (fun q4 H4 ad4 sh4 N4 had4 hsh4 hN4 hW4 hS4 => ?_)
  obtain rfl : N4 = (N + 6) := by omega
  clear hN4
  have e_a_4 : ad4 o = a := by rw [had4, cn_ext (by omega)]; exact e_a_2
  have e_q1_4 : ad4 N = q1 := by rw [had4, cn_ext (by omega)]; exact e_q1_2
  have e_q4_4 : ad4 (N + 5) = q4 := by rw [had4]; exact cn_ext_at
  have hb4 : ∀ x, x < N → ad4 x = ad x := fun x hx => by rw [had4, cn_ext (by omega)]; exact hb2 x hx
  have hs_o_4 : sh4 o = (0, 2, [(2, N), (4, 0), (4, 0), (3, 0)]) := by rw [hsh4, cn_set_ne (by omega)]; exact hs_o_3
  have hs_N5_4 : sh4 (N + 5) = (0, 5, [(0, 0), (4, 0), (4, 0), (4, 0), (4, 0), (4, 0), (4, 0), (4, 0), (0, 0)]) := by rw [hsh4]; exact cn_set_at
  refine lv_dup hx hb cd_Image_19 rfl ?_
  refine cn_call (host := "AskingFragments") (d := cn_d_Rule) (b := q4) (As := []) hx hb hml hown htn (cn_Rule l Dg A cA ad4 sh4 (N + 6) μ e_q4_4 (by omega) hs_N5_4 (fun a ha => hμ a (by omega))) rfl ⟨rfl, rfl⟩ (ax_in (ax_wl_at (k := 1) (j := 112) rfl) rfl) aI_Rule.1 (Or.inr (hX.1 _ (List.mem_of_getElem? (i := 3) rfl))) rfl (ax_in (ax_wl_at (k := 1) (j := 111) rfl) rfl) ⟨aI_Rule.2.2.1, aI_Rule.2.2.2, cn_p_Rule⟩ ⟨(Nat.le_of_ble_eq_true rfl), (Nat.le_of_ble_eq_true rfl)⟩ hK hW4 hS4 hA hX rfl hl.1 (Nat.le_of_ble_eq_true rfl) cd_Image_20 ⟨(Nat.le_of_ble_eq_true rfl), (Nat.le_of_ble_eq_true rfl)⟩ (fun H5 locs5 ad5 sh5 N5 hal5 hsh5 hN5 hW5 hS5 => ?_)
  obtain rfl : N5 = (N + 13) := by omega
  clear hN5
  have e_a_5 : ad5 o = a := (hal5 _ (by omega)).trans e_a_4
  have e_q1_5 : ad5 N = q1 := (hal5 _ (by omega)).trans e_q1_4
  have e_q4_5 : ad5 (N + 5) = q4 := (hal5 _ (by omega)).trans e_q4_4
  have hb5 : ∀ x, x < N → ad5 x = ad x := fun x hx => (hal5 x (by omega)).trans (hb4 x hx)
  have hs_o_5 : sh5 o = (0, 2, [(2, N), (4, 0), (4, 0), (3, 0)]) := by rw [hsh5, cn_s_Rule_ne (by omega) (by omega)]; exact hs_o_4
  have hs_N5_5 : sh5 (N + 5) = (0, 5, [(0, 0), (2, (N + 6)), (2, (N + 6) + 1), (2, (N + 6) + 2), (2, (N + 6) + 3), (2, (N + 6) + 4), (2, (N + 6) + 5), (2, (N + 6) + 6), (0, 0)]) := by rw [hsh5]; exact cn_s_Rule_at
  refine cn_putq (ea := e_a_5) (eb := e_q4_5) (Ts := ax_Ts) (n := 4) (T := aT_Image) (C := "AskingFragments$Image") (k := 1) hx hb hts aU_Image (ty0 := cn_tImage) cn_yImage aN_Image hown hK rfl hW5 hS5 (show o < (N + 13) by omega) hs_o_5 (by decide) rfl (show (N + 5) < (N + 13) by omega) (hts _ (ax_in (ax_wl_at (k := 1) (j := 238) rfl) rfl)) rfl hin rfl rfl rfl rfl cd_Image_23 (fun H6 locs6 sh6 hsh6 hW6 hS6 => ?_)
  have hs_o_6 : sh6 o = (0, 2, [(2, N), (2, (N + 5)), (4, 0), (3, 0)]) := by rw [hsh6]; exact cn_set_at
  refine lv_aload_n hx hb cd_Image_26 rfl (lv_at hl 0 rfl) ?_
  refine cn_new (Ts := ax_Ts) (ci := 6) (fs := [(4, 0), (4, 0), (4, 0), (4, 0), (4, 0), (4, 0), (4, 0), (4, 0), (4, 0), (4, 0), (4, 0), (0, 0), (0, 0), (0, 0), (0, 0), (0, 0), (0, 0), (0, 0)]) hx hb hts aU_Run cn_tRun cn_yRun hown (hts _ (ax_in (ax_wl_at (k := 1) (j := 234) rfl) rfl)) (hts _ (ax_in (ax_wl_at (k := 1) (j := 145) rfl) rfl)) (hts _ aI_Run.1) hK rfl hW6 hS6 hA (cn_h0 (hμ _ (by omega))) (by decide) cn_fRun (Nat.le_of_ble_eq_true rfl) (Nat.le_of_ble_eq_true rfl) cd_Image_27 (fun q7 H7 ad7 sh7 N7 had7 hsh7 hN7 hW7 hS7 => ?_)
  obtain rfl : N7 = (N + 14) := by omega
  clear hN7
  have e_a_7 : ad7 o = a := by rw [had7, cn_ext (by omega)]; exact e_a_5
  have e_q1_7 : ad7 N = q1 := by rw [had7, cn_ext (by omega)]; exact e_q1_5
  have e_q7_7 : ad7 (N + 13) = q7 := by rw [had7]; exact cn_ext_at
  have hb7 : ∀ x, x < N → ad7 x = ad x := fun x hx => by rw [had7, cn_ext (by omega)]; exact hb5 x hx
  have hs_o_7 : sh7 o = (0, 2, [(2, N), (2, (N + 5)), (4, 0), (3, 0)]) := by rw [hsh7, cn_set_ne (by omega)]; exact hs_o_6
  have hs_N13_7 : sh7 (N + 13) = (0, 6, [(4, 0), (4, 0), (4, 0), (4, 0), (4, 0), (4, 0), (4, 0), (4, 0), (4, 0), (4, 0), (4, 0), (0, 0), (0, 0), (0, 0), (0, 0), (0, 0), (0, 0), (0, 0)]) := by rw [hsh7]; exact cn_set_at
  refine lv_dup hx hb cd_Image_30 rfl ?_
  refine lv_aload_n hx hb cd_Image_31 rfl (lv_at hl 0 rfl) ?_
  refine cn_getq (t := N) (ea := e_a_7) (eb := e_q1_7) (Ts := ax_Ts) (n := 4) (T := aT_Image) (C := "AskingFragments$Image") (k := 0) hx hb hts aU_Image hown hK rfl hW7 (show o < (N + 14) by omega) hs_o_7 (by decide) rfl (hts _ (ax_in (ax_wl_at (k := 1) (j := 236) rfl) rfl)) cd_Image_32 ?_
  refine cn_call (host := "AskingFragments") (d := cn_d_Run) (b := q7) (As := [.ref q1]) hx hb hml hown htn (cn_Run l Dg A cA ad7 sh7 (N + 14) μ e_q7_7 (by omega) e_q1_7 (by omega) hs_N13_7 (fun a ha => hμ a (by omega))) rfl ⟨rfl, rfl⟩ (ax_in (ax_wl_at (k := 1) (j := 148) rfl) rfl) aI_Run.1 (Or.inl (hts _ (ax_in (ax_wl_at (k := 1) (j := 235) rfl) rfl))) rfl (ax_in (ax_wl_at (k := 1) (j := 147) rfl) rfl) ⟨aI_Run.2.2.1, aI_Run.2.2.2, cn_p_Run⟩ ⟨(Nat.le_of_ble_eq_true rfl), (Nat.le_of_ble_eq_true rfl)⟩ hK hW7 hS7 hA hX rfl hl.1 (Nat.le_of_ble_eq_true rfl) cd_Image_35 ⟨(Nat.le_of_ble_eq_true rfl), (Nat.le_of_ble_eq_true rfl)⟩ (fun H8 locs8 ad8 sh8 N8 hal8 hsh8 hN8 hW8 hS8 => ?_)
  obtain rfl : N8 = (N + 24) := by omega
  clear hN8
  have e_a_8 : ad8 o = a := (hal8 _ (by omega)).trans e_a_7
  have e_q1_8 : ad8 N = q1 := (hal8 _ (by omega)).trans e_q1_7
  have e_q7_8 : ad8 (N + 13) = q7 := (hal8 _ (by omega)).trans e_q7_7
  have hb8 : ∀ x, x < N → ad8 x = ad x := fun x hx => (hal8 x (by omega)).trans (hb7 x hx)
  have hs_o_8 : sh8 o = (0, 2, [(2, N), (2, (N + 5)), (4, 0), (3, 0)]) := by rw [hsh8, cn_s_Run_ne (by omega) (by omega)]; exact hs_o_7
  have hs_N13_8 : sh8 (N + 13) = (0, 6, [(2, N), (2, (N + 14)), (2, (N + 14) + 1), (2, (N + 14) + 2), (2, (N + 14) + 3), (2, (N + 14) + 4), (2, (N + 14) + 5), (2, (N + 14) + 6), (2, (N + 14) + 7), (2, (N + 14) + 8), (2, (N + 14) + 9), (0, 0), (0, 0), (0, 0), (0, 0), (0, 0), (0, 0), (0, 0)]) := by rw [hsh8]; exact cn_s_Run_at
  refine cn_putq (ea := e_a_8) (eb := e_q7_8) (Ts := ax_Ts) (n := 4) (T := aT_Image) (C := "AskingFragments$Image") (k := 2) hx hb hts aU_Image (ty0 := cn_tImage) cn_yImage aN_Image hown hK rfl hW8 hS8 (show o < (N + 24) by omega) hs_o_8 (by decide) rfl (show (N + 13) < (N + 24) by omega) (hts _ (ax_in (ax_wl_at (k := 2) (j := 0) rfl) rfl)) rfl hin rfl rfl rfl rfl cd_Image_38 (fun H9 locs9 sh9 hsh9 hW9 hS9 => ?_)
  have hs_o_9 : sh9 o = (0, 2, [(2, N), (2, (N + 5)), (2, (N + 13)), (3, 0)]) := by rw [hsh9]; exact cn_set_at
  have hWz : cx_W Dg ax_cl A cA ad8 (cn_s_Image sh N o) (N + 24) μ H9 := by
    subst hsh9 hsh8 hsh7 hsh6 hsh5 hsh4 hsh3 hsh2 hsh1
    exact hW9
  exact W.vret hx hb hr (fun t ht hWm => ⟨⟨ad8, rfl, hb8, by subst ht; exact hWz⟩, hS9.F ht⟩) hS9.2.2 cd_Image_41
