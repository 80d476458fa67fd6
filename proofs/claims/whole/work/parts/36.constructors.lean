/-! cn: the constructors -/
def cn_nl : List Jvm.Cond := [(Jvm.Cond.methodLinkNest "AskingFragments" (24 : Nat) ({ cls := "AskingFragments$Net", name := "<init>", desc := "()V" } : Jvm.MethodName) "AskingFragments"), (Jvm.Cond.methodLinkNest "AskingFragments" (34 : Nat) ({ cls := "AskingFragments$Rule", name := "<init>", desc := "()V" } : Jvm.MethodName) "AskingFragments"), (Jvm.Cond.methodLinkNest "AskingFragments$Image" (9 : Nat) ({ cls := "AskingFragments$Net", name := "<init>", desc := "()V" } : Jvm.MethodName) "AskingFragments"), (Jvm.Cond.methodLinkNest "AskingFragments$Image" (18 : Nat) ({ cls := "AskingFragments$Rule", name := "<init>", desc := "()V" } : Jvm.MethodName) "AskingFragments"), (Jvm.Cond.methodLinkNest "AskingFragments" (74 : Nat) ({ cls := "AskingFragments$Spelling", name := "<init>", desc := "()V" } : Jvm.MethodName) "AskingFragments")]
def cn_X (U : State) : Prop := (∀ w ∈ cn_nl, va_Nw w U) ∧ va_AO "AskingFragments$Run" U ∧ va_AO "AskingFragments$Image" U
theorem cn_nl_ok : ∀ w ∈ cn_nl, ∃ a i x h, w = .methodLinkNest a i x h := by
  intro w hw
  simp only [cn_nl, List.mem_cons, List.not_mem_nil, or_false] at hw
  rcases hw with rfl | rfl | rfl | rfl | rfl <;> exact ⟨_, _, _, _, rfl⟩
theorem cn_Xf (U : State) (g : JFrame) (mk : MethodId) (a : Array Value) (h : cn_X U) : cn_X (U.calling g mk a) := by
  refine ⟨fun w hw => ?_, va_AO.moved (u := U) (U := U.calling g mk a) (Vm.Alike.refl U.vm) h.2.1, va_AO.moved (u := U) (U := U.calling g mk a) (Vm.Alike.refl U.vm) h.2.2⟩
  obtain ⟨a9, i, x, hh, rfl⟩ := cn_nl_ok w hw
  exact va_Nw.same rfl (u := U) rfl (h.1 _ hw)
theorem cn_Xc {s U : State} (h : cn_X s) (hW : s.WarmedH U.vm) : cn_X U := by
  refine ⟨fun w hw => ?_, va_AO.moved hW.alike h.2.1, va_AO.moved hW.alike h.2.2⟩
  obtain ⟨a9, i, x, hh, rfl⟩ := cn_nl_ok w hw
  exact va_Nw.warmM hW (h.1 _ hw)
def cn_P (Dg : va_G) (A : Nat → Prop) (cA : Nat → ClassId) (ad : Nat → Nat) (sh : Nat → ax_C) (N : Nat) (μ : ax_M) (as : List Value) : Array Value → State → Prop := fun v U => v = as.toArray ∧ cx_W Dg ax_cl A cA ad sh N μ U.heap ∧ va_K Dg ax_cl (ax_ty cA) U ∧ (∀ q, U.heap.size ≤ q → A q) ∧ cn_X U
theorem cn_blind {A : Nat → Prop} {Dg : va_G} {cA : Nat → ClassId} {ad : Nat → Nat} {sh : Nat → ax_C} {N : Nat} {as : List Value} {μ : ax_M} : FrameBlind (cn_P Dg A cA ad sh N μ as) :=
  fun a U g mk h => ⟨h.1, h.2.1, va_K.moved (u := U) (U := U.calling g mk a) (Vm.Alike.refl U.vm) h.2.2.1, h.2.2.2.1, cn_Xf _ _ _ _ h.2.2.2.2⟩
def cn_Q (Dg : va_G) (A : Nat → Prop) (cA : Nat → ClassId) (ad : Nat → Nat) (N : Nat) (sh' : Nat → ax_C) (N' : Nat) (μ' : ax_M) : Array Value → State → Outcome → State → Prop := va_Qv (fun ad' : Nat → Nat => ∀ o, o < N → ad' o = ad o) (fun ad' U => cx_W Dg ax_cl A cA ad' sh' N' μ' U.heap) A
theorem cn_ext {ad : Nat → Nat} {N q o : Nat} (h : o < N) : cx_ext ad N q o = ad o := if_neg (Nat.ne_of_lt h)
theorem cn_ext_at {ad : Nat → Nat} {N q : Nat} : cx_ext ad N q N = q := if_pos rfl
theorem cn_set_at {sh : Nat → ax_C} {o : Nat} {c : ax_C} : cx_set sh o c o = c := if_pos rfl
theorem cn_set_ne {sh : Nat → ax_C} {o b : Nat} {c : ax_C} (h : b ≠ o) : cx_set sh o c b = sh b := if_neg h
theorem cn_objC {s : State} {args : Array Value} (hts : ∀ w ∈ ax_Ts, w.before args s = true) : (Jvm.Cond.instanceMethod Lib.objectInit).before args s = true ∧ (Jvm.Cond.code Lib.objectInit ⟨#[0xb1]⟩ 1 none).before args s = true :=
  ⟨hts _ (ax_in (ax_wl_at (k := 1) (j := 26) rfl) rfl), hts _ (ax_in (ax_wl_at (k := 1) (j := 27) rfl) rfl)⟩
section CNR
variable {p : Program} {l : Launch} {e : Env} {R : Room} {s : State} {m : MethodId} {args : Array Value} {below : List Frame} {meth : Method} {c : Code} {H : Heap} {locs : List Loc} {cells slots : Nat} {Q : State → Prop}
variable {cc : ByteArray} {pc : Nat} {ls : Array Slot} {rest : List Value} {Dg : va_G} {cl : List vw_C} {A : Nat → Prop} {cA : Nat → ClassId} {ad : Nat → Nat} {sh : Nat → ax_C} {N : Nat} {μ : ax_M} {Ts : List Jvm.Cond}
theorem cn_putq (hexec : p.tables.exec = Jvm.exec) (hb : c.code = cc) {own C : String} {T : u_T} {n index ci o k t : Nat} {fs : List (Nat × Nat)} {a b : Nat} (ea : ad o = a) (eb : ad t = b) (hts : ∀ w ∈ Ts, w.before args s = true) (hin : ∀ w ∈ u_ws C T n, w ∈ Ts) (ty0 : Nat → FieldType) (hty : ∀ k, k < n → parseFieldDescriptor (T k).2.2.1 = some (ty0 k)) (hnm : ∀ a, a < n → ∀ b, b < n → a ≠ b → (T a).2.1 ≠ (T b).2.1) (hown : s.vm.findClass own = some m.cls) (hK : va_K Dg cl (ax_ty cA) s) (hc : cl[ci]? = some (C, T, n)) (hW : cx_W Dg cl A cA ad sh N μ H) (hS : va_S A s.heap H locs)
    (ho : o < N) (hso : sh o = (0, ci, fs)) (hk : k < n) (hlen : fs.length = n) (ht : t < N) (hlink : (Jvm.Cond.fieldLink own index (T k).1 (T k).2.1 (T k).2.2.1).before args s = true) (hfin : (T k).2.2.2 = true) (hin2 : meth.name = "<init>") (hdecl : (T k).1 = own) {ty : FieldType} (hd : parseFieldDescriptor (T k).2.2.1 = some ty) (hn : narrow ty (.ref b) = .ref b) (hfit : fits ty (.ref b) = true) (hdg : decode cc pc = .ok (.putfield index, 3))
    (kk : ∀ (H1 : Heap) (locs1 : List Loc) (sh1 : Nat → ax_C), sh1 = cx_set sh o (0, ci, fs.set k (2, t)) → cx_W Dg cl A cA ad sh1 N μ H1 → va_S A s.heap H1 locs1 → W p l e R s m args below meth c H1 locs1 cells slots Q (F0 m (pc + 3) ls rest)) : W p l e R s m args below meth c H locs cells slots Q (F0 m pc ls (.ref b :: .ref a :: rest)) := by
  subst ea; subst eb
  exact cx_putq hexec hb hts hin ty0 hty hnm hown hK hc hW hS ho hso hk hlen ht hlink hfin hin2 hdecl hd hn hfit hdg (fun H1 locs1 hW1 hS1 => kk H1 locs1 _ rfl hW1 hS1)
theorem cn_puti (hexec : p.tables.exec = Jvm.exec) (hb : c.code = cc) {own C : String} {T : u_T} {n index ci o k : Nat} {fs : List (Nat × Nat)} {v : Int32} {a : Nat} (ea : ad o = a) (hts : ∀ w ∈ Ts, w.before args s = true) (hin : ∀ w ∈ u_ws C T n, w ∈ Ts) (ty0 : Nat → FieldType) (hty : ∀ k, k < n → parseFieldDescriptor (T k).2.2.1 = some (ty0 k)) (hnm : ∀ a, a < n → ∀ b, b < n → a ≠ b → (T a).2.1 ≠ (T b).2.1) (hown : s.vm.findClass own = some m.cls) (hK : va_K Dg cl (ax_ty cA) s) (hc : cl[ci]? = some (C, T, n)) (hW : cx_W Dg cl A cA ad sh N μ H) (hS : va_S A s.heap H locs)
    (ho : o < N) (hso : sh o = (0, ci, fs)) (hk : k < n) (hlen : fs.length = n) (hkd : fs[k]? = some (0, 0)) (hlink : (Jvm.Cond.fieldLink own index (T k).1 (T k).2.1 (T k).2.2.1).before args s = true) (hfin : (T k).2.2.2 = false) (hd : parseFieldDescriptor (T k).2.2.1 = some .int) (hdg : decode cc pc = .ok (.putfield index, 3))
    (kk : ∀ (H1 : Heap) (locs1 : List Loc), cx_W Dg cl A cA ad sh N (ax_up μ.1 o k v, μ.2) H1 → va_S A s.heap H1 locs1 → W p l e R s m args below meth c H1 locs1 cells slots Q (F0 m (pc + 3) ls rest)) : W p l e R s m args below meth c H locs cells slots Q (F0 m pc ls (.int v :: .ref a :: rest)) := by
  subst ea
  exact cx_puti hexec hb hts hin ty0 hty hnm hown hK hc hW hS ho hso hk hlen hkd hlink hfin hd hdg kk
theorem cn_astq (hexec : p.tables.exec = Jvm.exec) (hb : c.code = cc) (hK : va_K Dg cl (ax_ty cA) s) (hW : cx_W Dg cl A cA ad sh N μ H) (hS : va_S A s.heap H locs) {o t ty len ci : Nat} {fs : List (Nat × Nat)} {C : String} {T : u_T} {n : Nat} {ts : List (Nat × Nat)} {a b : Nat} (ea : ad o = a) (eb : ad t = b) (hty : ty = 5 ∨ ty = 6) (hty2 : (ax_ty cA)[ty - 1]? = some (cA ty, .object C)) (ho : o < N) (hso : sh o = (ty, len, ts)) (ht : t < N) (hst : sh t = (0, ci, fs)) (hc : cl[ci]? = some (C, T, n)) {i : Int32} (hi : i.toNatClampNeg = ts.length) (h0 : ¬ i < 0) (hlt : ts.length < len) (hdg : decode cc pc = .ok (.aastore, 1))
    (kk : ∀ (H1 : Heap) (locs1 : List Loc), cx_W Dg cl A cA ad (cx_set sh o (ty, len, ts ++ [(2, t)])) N μ H1 → va_S A s.heap H1 locs1 → W p l e R s m args below meth c H1 locs1 cells slots Q (F0 m (pc + 1) ls rest)) : W p l e R s m args below meth c H locs cells slots Q (F0 m pc ls (.ref b :: .int i :: .ref a :: rest)) := by
  subst ea; subst eb
  exact cx_astq hexec hb hK hW hS hty hty2 ho hso ht hst hc hi h0 hlt hdg kk
theorem cn_getq (hexec : p.tables.exec = Jvm.exec) (hb : c.code = cc) {own C : String} {T : u_T} {n index ci o k t : Nat} {fs : List (Nat × Nat)} {a b : Nat} (ea : ad o = a) (eb : ad t = b) (hts : ∀ w ∈ Ts, w.before args s = true) (hin : ∀ w ∈ u_ws C T n, w ∈ Ts) (hown : s.vm.findClass own = some m.cls) (hK : va_K Dg cl (ax_ty cA) s) (hc : cl[ci]? = some (C, T, n)) (hW : cx_W Dg cl A cA ad sh N μ H) (ho : o < N) (hso : sh o = (0, ci, fs)) (hk : k < n) (hkd : fs[k]? = some (2, t)) (hlink : (Jvm.Cond.fieldLink own index (T k).1 (T k).2.1 (T k).2.2.1).before args s = true) (hdg : decode cc pc = .ok (.getfield index, 3))
    (kk : W p l e R s m args below meth c H locs cells slots Q (F0 m (pc + 3) ls (.ref b :: rest))) : W p l e R s m args below meth c H locs cells slots Q (F0 m pc ls (.ref a :: rest)) := by
  subst ea; subst eb
  exact cx_getq hexec hb hts hin hown hK hc hW ho hso hk hkd hlink hdg kk
theorem cn_alen (hexec : p.tables.exec = Jvm.exec) (hb : c.code = cc) (hK : va_K Dg cl (ax_ty cA) s) (hW : cx_W Dg cl A cA ad sh N μ H) {o ty len : Nat} {ts : List (Nat × Nat)} {a : Nat} (ea : ad o = a) (hty : ty = 5 ∨ ty = 6) (ho : o < N) (hso : sh o = (ty, len, ts)) {v : Int32} (hv : Int32.ofNat len = v) (hdg : decode cc pc = .ok (.arraylength, 1))
    (kk : W p l e R s m args below meth c H locs cells slots Q (F0 m (pc + 1) ls (.int v :: rest))) : W p l e R s m args below meth c H locs cells slots Q (F0 m pc ls (.ref a :: rest)) := by
  subst ea
  exact cx_alen hexec hb hK hW hty ho hso hv hdg kk
theorem cn_newa (hexec : p.tables.exec = Jvm.exec) (hb : c.code = cc) {atype : ArrayType} (harr : (Jvm.Cond.arrayClass (newarray.typeOf atype)).before args s = true) (t : Nat) (ht : t = 1 ∨ t = 2 ∨ t = 3 ∨ t = 4) (hty : (ax_ty cA)[t - 1]? = some (cA t, newarray.typeOf atype)) (hd : defaultValue (newarray.typeOf atype) = if t = 4 then .long 0 else .int 0)
    (hK : va_K Dg cl (ax_ty cA) s) (hW : cx_W Dg cl A cA ad sh N μ H) (hS : va_S A s.heap H locs) (hA : ∀ q, s.heap.size ≤ q → A q) (hμ : μ.1 N = (fun _ => 0) ∧ μ.2 N = (fun _ => 0)) {n : Int32} {len : Nat} (hn : ¬ n < 0) (hN : n.toNatClampNeg = len) (hbytes : len * componentBytes (newarray.typeOf atype) ≤ 536870912) (hcells : cells + 1 ≤ R.cells) (hslots : slots + len ≤ R.slots) (hdg : decode cc pc = .ok (.newarray atype, 2))
    (kk : ∀ (q : Nat) (H1 : Heap) (ad1 : Nat → Nat) (sh1 : Nat → ax_C) (N1 : Nat), ad1 = cx_ext ad N q → sh1 = cx_set sh N (t, len, []) → N1 = N + 1 → cx_W Dg cl A cA ad1 sh1 N1 μ H1 → va_S A s.heap H1 locs → W p l e R s m args below meth c H1 locs (cells + 1) (slots + len) Q (F0 m (pc + 2) ls (.ref q :: rest))) : W p l e R s m args below meth c H locs cells slots Q (F0 m pc ls (.int n :: rest)) := cx_newa hexec hb harr t ht hty hd hK hW hS hA hμ hn hN hbytes hcells hslots hdg (fun q H1 hW1 hS1 => kk q H1 _ _ _ rfl rfl rfl hW1 hS1)
end CNR
def cn_Ts : List Jvm.Cond := .arrayClass .byte :: .arrayClass .int :: .arrayClass .long :: .arrayClass .boolean :: ax_Ts
theorem cn_Ts_in {w : Jvm.Cond} (h : w ∈ ax_Ts) : w ∈ cn_Ts := List.mem_cons_of_mem _ (List.mem_cons_of_mem _ (List.mem_cons_of_mem _ (List.mem_cons_of_mem _ h)))
theorem cn_Ts_ok {w : Jvm.Cond} (h : w ∈ cn_Ts) : (w.onTables && w.keeps) = true ∨ ∃ ty, w = .arrayClass ty := by
  rcases List.mem_cons.mp h with rfl | h
  · exact Or.inr ⟨_, rfl⟩
  rcases List.mem_cons.mp h with rfl | h
  · exact Or.inr ⟨_, rfl⟩
  rcases List.mem_cons.mp h with rfl | h
  · exact Or.inr ⟨_, rfl⟩
  rcases List.mem_cons.mp h with rfl | h
  · exact Or.inr ⟨_, rfl⟩
  exact Or.inl (List.mem_filter.mp h).2
theorem cn_good {d : ax_D} (h : Jvm.Cond.code d.1 d.2.1 d.2.2.1 d.2.2.2.1 ∈ ax_Ts) : GoodIn cn_Ts (ax_ws cn_Ts d) := fun w hw => by
  rcases List.mem_cons.mp hw with rfl | hw
  · exact ⟨cn_Ts_in h, cn_Ts_ok (cn_Ts_in h)⟩
  · exact ⟨hw, cn_Ts_ok hw⟩
theorem cd_Spell_0 : decode prog_8_method_1_code 0 = .ok (.aload_n 0, 1) := by decide +kernel
theorem cd_Spell_1 : decode prog_8_method_1_code 1 = .ok (.invokespecial 3, 3) := by decide +kernel
theorem cd_Spell_4 : decode prog_8_method_1_code 4 = .ok (.aload_n 0, 1) := by decide +kernel
theorem cd_Spell_5 : decode prog_8_method_1_code 5 = .ok (.bipush 64, 2) := by decide +kernel
theorem cd_Spell_7 : decode prog_8_method_1_code 7 = .ok (.newarray .byte, 2) := by decide +kernel
theorem cd_Spell_9 : decode prog_8_method_1_code 9 = .ok (.putfield 9, 3) := by decide +kernel
theorem cd_Spell_12 : decode prog_8_method_1_code 12 = .ok (.return_, 1) := by decide +kernel
abbrev cn_d_Spell : ax_D := (⟨"AskingFragments$Spelling", "<init>", "()V"⟩, prog_8_method_1_code, 1, none, 1, 0)
def cn_tSpell : Nat → FieldType := fun k => (parseFieldDescriptor (aT_Spell k).2.2.1).getD .int
theorem cn_ySpell : ∀ k, k < 2 → parseFieldDescriptor (aT_Spell k).2.2.1 = some (cn_tSpell k) := by decide +kernel
/-- the cells behind it -/
def cn_s_Spell (sh : Nat → ax_C) (N : Nat) (o : Nat) : Nat → ax_C := cx_set (cx_set (sh) N (2, 64, [])) o (0, 7, [(2, N), (0, 0)])
theorem cn_Spell (l : Launch) (Dg : va_G) (A : Nat → Prop) (cA : Nat → ClassId) (ad : Nat → Nat) (sh : Nat → ax_C) (N : Nat) (μ : ax_M) {o : Nat} {a : Nat} (e_a : ad o = a) (h_o : o < N) (hso : sh o = (0, 7, [(4, 0), (0, 0)])) (hμ : ∀ o, N ≤ o → μ.1 o = (fun _ => 0) ∧ μ.2 o = (fun _ => 0)) :
    Met l cn_d_Spell.1 (ax_ws cn_Ts cn_d_Spell) { frames := 1, cells := 1, slots := 64, locals := 60 } (cn_P Dg A cA ad sh N μ [.ref a]) (cn_Q Dg A cA ad N (cn_s_Spell sh N o) (N + 1) μ) 1 64 A := by
  refine Met.ofW (cc := prog_8_method_1_code) (maxL := 1) (ret := none) (by decide) rfl ?_
  intro p e s m args below meth c s₁ B hml hv
  obtain ⟨rfl, hW, hK, hA, hX⟩ := hv
  have hx := B.exec
  have hb := B.bytes
  have hr := B.returns
  have hlocks := B.notSynchronized
  have hin : meth.name = "<init>" := (name_of_methodNamed B.named B.method).1
  have hts0 := atoms_spec (ws := ax_ws cn_Ts cn_d_Spell) B.pre
  have htn : ∀ w ∈ cn_Ts, w.before ([.ref a] : List Value).toArray s = true := fun w hw => hts0 w (List.mem_cons_of_mem _ hw)
  have hts : ∀ w ∈ ax_Ts, w.before ([.ref a] : List Value).toArray s = true := fun w hw => htn w (cn_Ts_in hw)
  have hown : s.vm.findClass "AskingFragments$Spelling" = some m.cls := findClass_of_methodNamed B.named
  have hS : va_S A s.heap s.heap [] := va_S.rf
  have hoc := cn_objC hts
  have hl := lv_entry ([.ref a]) (n := 1) (Nat.le_of_ble_eq_true rfl)
  rw [lg_entry_eq]
  generalize (lg_sl ([.ref a]) ++ List.replicate (1 - (lg_sl ([.ref a])).length) Slot.unset).toArray = ls at hl ⊢
  have hl : lv_has ls 1 [(0, .ref a)] := hl
  refine lv_aload_n hx hb cd_Spell_0 rfl (lv_at hl 0 rfl) ?_
  refine W.objInit hx hb hown (hts (.methodLink "AskingFragments$Spelling" 3 Lib.objectInit) (ax_in (ax_wl_at (k := 2) (j := 45) rfl) rfl)) hoc.1 hoc.2 rfl (by rw [hml]; exact hl.1) rfl cd_Spell_1 (Nat.le_of_ble_eq_true rfl) (Nat.le_of_ble_eq_true rfl) ?_
  refine W.eq (g2 := F0 m 4 ls []) rfl ?_
  refine lv_aload_n hx hb cd_Spell_4 rfl (lv_at hl 0 rfl) ?_
  refine lv_bipush hx hb cd_Spell_5 (v := 64) rfl ?_
  refine cn_newa (len := 64) hx hb (htn _ (List.mem_of_getElem? (i := 0) rfl)) 2 (by decide) rfl rfl hK hW hS hA (hμ _ (by omega)) (by decide) rfl (by decide) (Nat.le_of_ble_eq_true rfl) (Nat.le_of_ble_eq_true rfl) cd_Spell_7 (fun q1 H1 ad1 sh1 N1 had1 hsh1 hN1 hW1 hS1 => ?_)
  have hs1 : sh1 o = (0, 7, [(4, 0), (0, 0)]) := by rw [hsh1, cn_set_ne (by omega)]; exact hso
  have e_a_1 : ad1 o = a := by rw [had1, cn_ext (by omega)]; exact e_a
  have e_q1_1 : ad1 N = q1 := by rw [had1]; exact cn_ext_at
  have hb1 : ∀ x, x < N → ad1 x = ad x := fun x hx => by rw [had1, cn_ext (by omega)]
  refine cn_putq (ea := e_a_1) (eb := e_q1_1) (Ts := ax_Ts) (n := 2) (T := aT_Spell) (C := "AskingFragments$Spelling") (k := 0) hx hb hts aU_Spell (ty0 := cn_tSpell) cn_ySpell aN_Spell hown hK rfl hW1 hS1 (show o < N1 by omega) hs1 (by decide) rfl (show N < N1 by omega) (hts _ (ax_in (ax_wl_at (k := 2) (j := 46) rfl) rfl)) rfl hin rfl rfl rfl rfl cd_Spell_9 (fun H2 locs2 sh2 hsh2 hW2 hS2 => ?_)
  have hs2 : sh2 o = (0, 7, [(2, N), (0, 0)]) := by rw [hsh2]; exact cn_set_at
  have hWz : cx_W Dg ax_cl A cA ad1 (cn_s_Spell sh N o) (N + 1) μ H2 := by
    subst hsh2 hsh1 hN1
    exact hW2
  exact W.vret hx hb hr (fun t ht hWm => ⟨⟨ad1, rfl, hb1, by subst ht; exact hWz⟩, hS2.F ht⟩) hS2.2.2 cd_Spell_12
theorem cd_Reader_0 : decode prog_5_method_1_code 0 = .ok (.aload_n 0, 1) := by decide +kernel
theorem cd_Reader_1 : decode prog_5_method_1_code 1 = .ok (.invokespecial 3, 3) := by decide +kernel
theorem cd_Reader_4 : decode prog_5_method_1_code 4 = .ok (.aload_n 0, 1) := by decide +kernel
theorem cd_Reader_5 : decode prog_5_method_1_code 5 = .ok (.aload_n 1, 1) := by decide +kernel
theorem cd_Reader_6 : decode prog_5_method_1_code 6 = .ok (.putfield 9, 3) := by decide +kernel
theorem cd_Reader_9 : decode prog_5_method_1_code 9 = .ok (.return_, 1) := by decide +kernel
abbrev cn_d_Reader : ax_D := (⟨"AskingFragments$Reader", "<init>", "([B)V"⟩, prog_5_method_1_code, 2, none, 1, 0)
def cn_tReader : Nat → FieldType := fun k => (parseFieldDescriptor (aT_Reader k).2.2.1).getD .int
theorem cn_yReader : ∀ k, k < 10 → parseFieldDescriptor (aT_Reader k).2.2.1 = some (cn_tReader k) := by decide +kernel
/-- the cells behind it -/
def cn_s_Reader (sh : Nat → ax_C) (N : Nat) (o g0 : Nat) : Nat → ax_C := cx_set (sh) o (0, 4, [(2, g0), (0, 0), (0, 0), (0, 0), (0, 0), (0, 0), (0, 0), (0, 0), (0, 0), (0, 0)])
theorem cn_Reader (l : Launch) (Dg : va_G) (A : Nat → Prop) (cA : Nat → ClassId) (ad : Nat → Nat) (sh : Nat → ax_C) (N : Nat) (μ : ax_M) {o g0 : Nat} {a b0 : Nat} (e_a : ad o = a) (h_o : o < N) (e_b0 : ad g0 = b0) (h_g0 : g0 < N) (hso : sh o = (0, 4, [(4, 0), (0, 0), (0, 0), (0, 0), (0, 0), (0, 0), (0, 0), (0, 0), (0, 0), (0, 0)])) (hμ : ∀ o, N ≤ o → μ.1 o = (fun _ => 0) ∧ μ.2 o = (fun _ => 0)) :
    Met l cn_d_Reader.1 (ax_ws cn_Ts cn_d_Reader) { frames := 1, cells := 0, slots := 0, locals := 60 } (cn_P Dg A cA ad sh N μ [.ref a, .ref b0]) (cn_Q Dg A cA ad N (cn_s_Reader sh N o g0) N μ) 0 0 A := by
  refine Met.ofW (cc := prog_5_method_1_code) (maxL := 2) (ret := none) (by decide) rfl ?_
  intro p e s m args below meth c s₁ B hml hv
  obtain ⟨rfl, hW, hK, hA, hX⟩ := hv
  have hx := B.exec
  have hb := B.bytes
  have hr := B.returns
  have hlocks := B.notSynchronized
  have hin : meth.name = "<init>" := (name_of_methodNamed B.named B.method).1
  have hts0 := atoms_spec (ws := ax_ws cn_Ts cn_d_Reader) B.pre
  have htn : ∀ w ∈ cn_Ts, w.before ([.ref a, .ref b0] : List Value).toArray s = true := fun w hw => hts0 w (List.mem_cons_of_mem _ hw)
  have hts : ∀ w ∈ ax_Ts, w.before ([.ref a, .ref b0] : List Value).toArray s = true := fun w hw => htn w (cn_Ts_in hw)
  have hown : s.vm.findClass "AskingFragments$Reader" = some m.cls := findClass_of_methodNamed B.named
  have hS : va_S A s.heap s.heap [] := va_S.rf
  have hoc := cn_objC hts
  have hl := lv_entry ([.ref a, .ref b0]) (n := 2) (Nat.le_of_ble_eq_true rfl)
  rw [lg_entry_eq]
  generalize (lg_sl ([.ref a, .ref b0]) ++ List.replicate (2 - (lg_sl ([.ref a, .ref b0])).length) Slot.unset).toArray = ls at hl ⊢
  have hl : lv_has ls 2 [(0, .ref a), (1, .ref b0)] := hl
  refine lv_aload_n hx hb cd_Reader_0 rfl (lv_at hl 0 rfl) ?_
  refine W.objInit hx hb hown (hts (.methodLink "AskingFragments$Reader" 3 Lib.objectInit) (ax_in (ax_wl_at (k := 1) (j := 33) rfl) rfl)) hoc.1 hoc.2 rfl (by rw [hml]; exact hl.1) rfl cd_Reader_1 (Nat.le_of_ble_eq_true rfl) (Nat.le_of_ble_eq_true rfl) ?_
  refine W.eq (g2 := F0 m 4 ls []) rfl ?_
  refine lv_aload_n hx hb cd_Reader_4 rfl (lv_at hl 0 rfl) ?_
  refine lv_aload_n hx hb cd_Reader_5 rfl (lv_at hl 1 rfl) ?_
  refine cn_putq (ea := e_a) (eb := e_b0) (Ts := ax_Ts) (n := 10) (T := aT_Reader) (C := "AskingFragments$Reader") (k := 0) hx hb hts aU_Reader (ty0 := cn_tReader) cn_yReader aN_Reader hown hK rfl hW hS (show o < N by omega) hso (by decide) rfl (show g0 < N by omega) (hts _ (ax_in (ax_wl_at (k := 1) (j := 34) rfl) rfl)) rfl hin rfl rfl rfl rfl cd_Reader_6 (fun H1 locs1 sh1 hsh1 hW1 hS1 => ?_)
  have hs1 : sh1 o = (0, 4, [(2, g0), (0, 0), (0, 0), (0, 0), (0, 0), (0, 0), (0, 0), (0, 0), (0, 0), (0, 0)]) := by rw [hsh1]; exact cn_set_at
  have hWz : cx_W Dg ax_cl A cA ad (cn_s_Reader sh N o g0) N μ H1 := by
    subst hsh1
    exact hW1
  exact W.vret hx hb hr (fun t ht hWm => ⟨⟨ad, rfl, fun _ _ => rfl, by subst ht; exact hWz⟩, hS1.F ht⟩) hS1.2.2 cd_Reader_9
theorem cd_Net_0 : decode prog_4_method_1_code 0 = .ok (.aload_n 0, 1) := by decide +kernel
theorem cd_Net_1 : decode prog_4_method_1_code 1 = .ok (.invokespecial 3, 3) := by decide +kernel
theorem cd_Net_4 : decode prog_4_method_1_code 4 = .ok (.aload_n 0, 1) := by decide +kernel
theorem cd_Net_5 : decode prog_4_method_1_code 5 = .ok (.bipush 84, 2) := by decide +kernel
theorem cd_Net_7 : decode prog_4_method_1_code 7 = .ok (.newarray .byte, 2) := by decide +kernel
theorem cd_Net_9 : decode prog_4_method_1_code 9 = .ok (.putfield 9, 3) := by decide +kernel
theorem cd_Net_12 : decode prog_4_method_1_code 12 = .ok (.aload_n 0, 1) := by decide +kernel
theorem cd_Net_13 : decode prog_4_method_1_code 13 = .ok (.bipush 12, 2) := by decide +kernel
theorem cd_Net_15 : decode prog_4_method_1_code 15 = .ok (.newarray .int, 2) := by decide +kernel
theorem cd_Net_17 : decode prog_4_method_1_code 17 = .ok (.putfield 15, 3) := by decide +kernel
theorem cd_Net_20 : decode prog_4_method_1_code 20 = .ok (.aload_n 0, 1) := by decide +kernel
theorem cd_Net_21 : decode prog_4_method_1_code 21 = .ok (.bipush 60, 2) := by decide +kernel
theorem cd_Net_23 : decode prog_4_method_1_code 23 = .ok (.newarray .int, 2) := by decide +kernel
theorem cd_Net_25 : decode prog_4_method_1_code 25 = .ok (.putfield 19, 3) := by decide +kernel
theorem cd_Net_28 : decode prog_4_method_1_code 28 = .ok (.aload_n 0, 1) := by decide +kernel
theorem cd_Net_29 : decode prog_4_method_1_code 29 = .ok (.bipush 30, 2) := by decide +kernel
theorem cd_Net_31 : decode prog_4_method_1_code 31 = .ok (.newarray .int, 2) := by decide +kernel
theorem cd_Net_33 : decode prog_4_method_1_code 33 = .ok (.putfield 22, 3) := by decide +kernel
theorem cd_Net_36 : decode prog_4_method_1_code 36 = .ok (.return_, 1) := by decide +kernel
abbrev cn_d_Net : ax_D := (⟨"AskingFragments$Net", "<init>", "()V"⟩, prog_4_method_1_code, 1, none, 1, 0)
def cn_tNet : Nat → FieldType := fun k => (parseFieldDescriptor (aT_Net k).2.2.1).getD .int
theorem cn_yNet : ∀ k, k < 6 → parseFieldDescriptor (aT_Net k).2.2.1 = some (cn_tNet k) := by decide +kernel
/-- the cells behind it -/
def cn_s_Net (sh : Nat → ax_C) (N : Nat) (o : Nat) : Nat → ax_C := cx_set (cx_set (cx_set (cx_set (cx_set (cx_set (cx_set (cx_set (sh) N (2, 84, [])) o (0, 3, [(0, 0), (0, 0), (2, N), (4, 0), (4, 0), (4, 0)])) (N + 1) (1, 12, [])) o (0, 3, [(0, 0), (0, 0), (2, N), (2, (N + 1)), (4, 0), (4, 0)])) ((N + 1) + 1) (1, 60, [])) o (0, 3, [(0, 0), (0, 0), (2, N), (2, (N + 1)), (2, ((N + 1) + 1)), (4, 0)])) (((N + 1) + 1) + 1) (1, 30, [])) o (0, 3, [(0, 0), (0, 0), (2, N), (2, (N + 1)), (2, ((N + 1) + 1)), (2, (((N + 1) + 1) + 1))])
theorem cn_Net (l : Launch) (Dg : va_G) (A : Nat → Prop) (cA : Nat → ClassId) (ad : Nat → Nat) (sh : Nat → ax_C) (N : Nat) (μ : ax_M) {o : Nat} {a : Nat} (e_a : ad o = a) (h_o : o < N) (hso : sh o = (0, 3, [(0, 0), (0, 0), (4, 0), (4, 0), (4, 0), (4, 0)])) (hμ : ∀ o, N ≤ o → μ.1 o = (fun _ => 0) ∧ μ.2 o = (fun _ => 0)) :
    Met l cn_d_Net.1 (ax_ws cn_Ts cn_d_Net) { frames := 1, cells := 4, slots := 186, locals := 60 } (cn_P Dg A cA ad sh N μ [.ref a]) (cn_Q Dg A cA ad N (cn_s_Net sh N o) ((((N + 1) + 1) + 1) + 1) μ) 4 186 A := by
  refine Met.ofW (cc := prog_4_method_1_code) (maxL := 1) (ret := none) (by decide) rfl ?_
  intro p e s m args below meth c s₁ B hml hv
  obtain ⟨rfl, hW, hK, hA, hX⟩ := hv
  have hx := B.exec
  have hb := B.bytes
  have hr := B.returns
  have hlocks := B.notSynchronized
  have hin : meth.name = "<init>" := (name_of_methodNamed B.named B.method).1
  have hts0 := atoms_spec (ws := ax_ws cn_Ts cn_d_Net) B.pre
  have htn : ∀ w ∈ cn_Ts, w.before ([.ref a] : List Value).toArray s = true := fun w hw => hts0 w (List.mem_cons_of_mem _ hw)
  have hts : ∀ w ∈ ax_Ts, w.before ([.ref a] : List Value).toArray s = true := fun w hw => htn w (cn_Ts_in hw)
  have hown : s.vm.findClass "AskingFragments$Net" = some m.cls := findClass_of_methodNamed B.named
  have hS : va_S A s.heap s.heap [] := va_S.rf
  have hoc := cn_objC hts
  have hl := lv_entry ([.ref a]) (n := 1) (Nat.le_of_ble_eq_true rfl)
  rw [lg_entry_eq]
  generalize (lg_sl ([.ref a]) ++ List.replicate (1 - (lg_sl ([.ref a])).length) Slot.unset).toArray = ls at hl ⊢
  have hl : lv_has ls 1 [(0, .ref a)] := hl
  refine lv_aload_n hx hb cd_Net_0 rfl (lv_at hl 0 rfl) ?_
  refine W.objInit hx hb hown (hts (.methodLink "AskingFragments$Net" 3 Lib.objectInit) (ax_in (ax_wl_at (k := 1) (j := 74) rfl) rfl)) hoc.1 hoc.2 rfl (by rw [hml]; exact hl.1) rfl cd_Net_1 (Nat.le_of_ble_eq_true rfl) (Nat.le_of_ble_eq_true rfl) ?_
  refine W.eq (g2 := F0 m 4 ls []) rfl ?_
  refine lv_aload_n hx hb cd_Net_4 rfl (lv_at hl 0 rfl) ?_
  refine lv_bipush hx hb cd_Net_5 (v := 84) rfl ?_
  refine cn_newa (len := 84) hx hb (htn _ (List.mem_of_getElem? (i := 0) rfl)) 2 (by decide) rfl rfl hK hW hS hA (hμ _ (by omega)) (by decide) rfl (by decide) (Nat.le_of_ble_eq_true rfl) (Nat.le_of_ble_eq_true rfl) cd_Net_7 (fun q1 H1 ad1 sh1 N1 had1 hsh1 hN1 hW1 hS1 => ?_)
  have hs1 : sh1 o = (0, 3, [(0, 0), (0, 0), (4, 0), (4, 0), (4, 0), (4, 0)]) := by rw [hsh1, cn_set_ne (by omega)]; exact hso
  have e_a_1 : ad1 o = a := by rw [had1, cn_ext (by omega)]; exact e_a
  have e_q1_1 : ad1 N = q1 := by rw [had1]; exact cn_ext_at
  have hb1 : ∀ x, x < N → ad1 x = ad x := fun x hx => by rw [had1, cn_ext (by omega)]
  refine cn_putq (ea := e_a_1) (eb := e_q1_1) (Ts := ax_Ts) (n := 6) (T := aT_Net) (C := "AskingFragments$Net") (k := 2) hx hb hts aU_Net (ty0 := cn_tNet) cn_yNet aN_Net hown hK rfl hW1 hS1 (show o < N1 by omega) hs1 (by decide) rfl (show N < N1 by omega) (hts _ (ax_in (ax_wl_at (k := 1) (j := 85) rfl) rfl)) rfl hin rfl rfl rfl rfl cd_Net_9 (fun H2 locs2 sh2 hsh2 hW2 hS2 => ?_)
  have hs2 : sh2 o = (0, 3, [(0, 0), (0, 0), (2, N), (4, 0), (4, 0), (4, 0)]) := by rw [hsh2]; exact cn_set_at
  refine lv_aload_n hx hb cd_Net_12 rfl (lv_at hl 0 rfl) ?_
  refine lv_bipush hx hb cd_Net_13 (v := 12) rfl ?_
  refine cn_newa (len := 12) hx hb (htn _ (List.mem_of_getElem? (i := 1) rfl)) 1 (by decide) rfl rfl hK hW2 hS2 hA (hμ _ (by omega)) (by decide) rfl (by decide) (Nat.le_of_ble_eq_true rfl) (Nat.le_of_ble_eq_true rfl) cd_Net_15 (fun q3 H3 ad3 sh3 N3 had3 hsh3 hN3 hW3 hS3 => ?_)
  have hs3 : sh3 o = (0, 3, [(0, 0), (0, 0), (2, N), (4, 0), (4, 0), (4, 0)]) := by rw [hsh3, cn_set_ne (by omega)]; exact hs2
  have e_a_3 : ad3 o = a := by rw [had3, cn_ext (by omega)]; exact e_a_1
  have e_q3_3 : ad3 N1 = q3 := by rw [had3]; exact cn_ext_at
  have hb3 : ∀ x, x < N → ad3 x = ad x := fun x hx => by rw [had3, cn_ext (by omega)]; exact hb1 x hx
  refine cn_putq (ea := e_a_3) (eb := e_q3_3) (Ts := ax_Ts) (n := 6) (T := aT_Net) (C := "AskingFragments$Net") (k := 3) hx hb hts aU_Net (ty0 := cn_tNet) cn_yNet aN_Net hown hK rfl hW3 hS3 (show o < N3 by omega) hs3 (by decide) rfl (show N1 < N3 by omega) (hts _ (ax_in (ax_wl_at (k := 1) (j := 86) rfl) rfl)) rfl hin rfl rfl rfl rfl cd_Net_17 (fun H4 locs4 sh4 hsh4 hW4 hS4 => ?_)
  have hs4 : sh4 o = (0, 3, [(0, 0), (0, 0), (2, N), (2, N1), (4, 0), (4, 0)]) := by rw [hsh4]; exact cn_set_at
  refine lv_aload_n hx hb cd_Net_20 rfl (lv_at hl 0 rfl) ?_
  refine lv_bipush hx hb cd_Net_21 (v := 60) rfl ?_
  refine cn_newa (len := 60) hx hb (htn _ (List.mem_of_getElem? (i := 1) rfl)) 1 (by decide) rfl rfl hK hW4 hS4 hA (hμ _ (by omega)) (by decide) rfl (by decide) (Nat.le_of_ble_eq_true rfl) (Nat.le_of_ble_eq_true rfl) cd_Net_23 (fun q5 H5 ad5 sh5 N5 had5 hsh5 hN5 hW5 hS5 => ?_)
  have hs5 : sh5 o = (0, 3, [(0, 0), (0, 0), (2, N), (2, N1), (4, 0), (4, 0)]) := by rw [hsh5, cn_set_ne (by omega)]; exact hs4
  have e_a_5 : ad5 o = a := by rw [had5, cn_ext (by omega)]; exact e_a_3
  have e_q5_5 : ad5 N3 = q5 := by rw [had5]; exact cn_ext_at
  have hb5 : ∀ x, x < N → ad5 x = ad x := fun x hx => by rw [had5, cn_ext (by omega)]; exact hb3 x hx
  refine cn_putq (ea := e_a_5) (eb := e_q5_5) (Ts := ax_Ts) (n := 6) (T := aT_Net) (C := "AskingFragments$Net") (k := 4) hx hb hts aU_Net (ty0 := cn_tNet) cn_yNet aN_Net hown hK rfl hW5 hS5 (show o < N5 by omega) hs5 (by decide) rfl (show N3 < N5 by omega) (hts _ (ax_in (ax_wl_at (k := 1) (j := 89) rfl) rfl)) rfl hin rfl rfl rfl rfl cd_Net_25 (fun H6 locs6 sh6 hsh6 hW6 hS6 => ?_)
  have hs6 : sh6 o = (0, 3, [(0, 0), (0, 0), (2, N), (2, N1), (2, N3), (4, 0)]) := by rw [hsh6]; exact cn_set_at
  refine lv_aload_n hx hb cd_Net_28 rfl (lv_at hl 0 rfl) ?_
  refine lv_bipush hx hb cd_Net_29 (v := 30) rfl ?_
  refine cn_newa (len := 30) hx hb (htn _ (List.mem_of_getElem? (i := 1) rfl)) 1 (by decide) rfl rfl hK hW6 hS6 hA (hμ _ (by omega)) (by decide) rfl (by decide) (Nat.le_of_ble_eq_true rfl) (Nat.le_of_ble_eq_true rfl) cd_Net_31 (fun q7 H7 ad7 sh7 N7 had7 hsh7 hN7 hW7 hS7 => ?_)
  have hs7 : sh7 o = (0, 3, [(0, 0), (0, 0), (2, N), (2, N1), (2, N3), (4, 0)]) := by rw [hsh7, cn_set_ne (by omega)]; exact hs6
  have e_a_7 : ad7 o = a := by rw [had7, cn_ext (by omega)]; exact e_a_5
  have e_q7_7 : ad7 N5 = q7 := by rw [had7]; exact cn_ext_at
  have hb7 : ∀ x, x < N → ad7 x = ad x := fun x hx => by rw [had7, cn_ext (by omega)]; exact hb5 x hx
  refine cn_putq (ea := e_a_7) (eb := e_q7_7) (Ts := ax_Ts) (n := 6) (T := aT_Net) (C := "AskingFragments$Net") (k := 5) hx hb hts aU_Net (ty0 := cn_tNet) cn_yNet aN_Net hown hK rfl hW7 hS7 (show o < N7 by omega) hs7 (by decide) rfl (show N5 < N7 by omega) (hts _ (ax_in (ax_wl_at (k := 1) (j := 92) rfl) rfl)) rfl hin rfl rfl rfl rfl cd_Net_33 (fun H8 locs8 sh8 hsh8 hW8 hS8 => ?_)
  have hs8 : sh8 o = (0, 3, [(0, 0), (0, 0), (2, N), (2, N1), (2, N3), (2, N5)]) := by rw [hsh8]; exact cn_set_at
  have hWz : cx_W Dg ax_cl A cA ad7 (cn_s_Net sh N o) ((((N + 1) + 1) + 1) + 1) μ H8 := by
    subst hsh8 hsh7 hsh6 hsh5 hsh4 hsh3 hsh2 hsh1 hN7 hN5 hN3 hN1
    exact hW8
  exact W.vret hx hb hr (fun t ht hWm => ⟨⟨ad7, rfl, hb7, by subst ht; exact hWz⟩, hS8.F ht⟩) hS8.2.2 cd_Net_36
theorem cd_Rule_0 : decode prog_6_method_1_code 0 = .ok (.aload_n 0, 1) := by decide +kernel
theorem cd_Rule_1 : decode prog_6_method_1_code 1 = .ok (.invokespecial 3, 3) := by decide +kernel
theorem cd_Rule_4 : decode prog_6_method_1_code 4 = .ok (.aload_n 0, 1) := by decide +kernel
theorem cd_Rule_5 : decode prog_6_method_1_code 5 = .ok (.bipush 10, 2) := by decide +kernel
theorem cd_Rule_7 : decode prog_6_method_1_code 7 = .ok (.newarray .int, 2) := by decide +kernel
theorem cd_Rule_9 : decode prog_6_method_1_code 9 = .ok (.putfield 9, 3) := by decide +kernel
theorem cd_Rule_12 : decode prog_6_method_1_code 12 = .ok (.aload_n 0, 1) := by decide +kernel
theorem cd_Rule_13 : decode prog_6_method_1_code 13 = .ok (.bipush 10, 2) := by decide +kernel
theorem cd_Rule_15 : decode prog_6_method_1_code 15 = .ok (.newarray .int, 2) := by decide +kernel
theorem cd_Rule_17 : decode prog_6_method_1_code 17 = .ok (.putfield 15, 3) := by decide +kernel
theorem cd_Rule_20 : decode prog_6_method_1_code 20 = .ok (.aload_n 0, 1) := by decide +kernel
theorem cd_Rule_21 : decode prog_6_method_1_code 21 = .ok (.bipush 10, 2) := by decide +kernel
theorem cd_Rule_23 : decode prog_6_method_1_code 23 = .ok (.newarray .int, 2) := by decide +kernel
theorem cd_Rule_25 : decode prog_6_method_1_code 25 = .ok (.putfield 18, 3) := by decide +kernel
theorem cd_Rule_28 : decode prog_6_method_1_code 28 = .ok (.aload_n 0, 1) := by decide +kernel
theorem cd_Rule_29 : decode prog_6_method_1_code 29 = .ok (.bipush 40, 2) := by decide +kernel
theorem cd_Rule_31 : decode prog_6_method_1_code 31 = .ok (.newarray .int, 2) := by decide +kernel
theorem cd_Rule_33 : decode prog_6_method_1_code 33 = .ok (.putfield 21, 3) := by decide +kernel
theorem cd_Rule_36 : decode prog_6_method_1_code 36 = .ok (.aload_n 0, 1) := by decide +kernel
theorem cd_Rule_37 : decode prog_6_method_1_code 37 = .ok (.bipush 40, 2) := by decide +kernel
theorem cd_Rule_39 : decode prog_6_method_1_code 39 = .ok (.newarray .int, 2) := by decide +kernel
theorem cd_Rule_41 : decode prog_6_method_1_code 41 = .ok (.putfield 24, 3) := by decide +kernel
theorem cd_Rule_44 : decode prog_6_method_1_code 44 = .ok (.aload_n 0, 1) := by decide +kernel
theorem cd_Rule_45 : decode prog_6_method_1_code 45 = .ok (.bipush 60, 2) := by decide +kernel
theorem cd_Rule_47 : decode prog_6_method_1_code 47 = .ok (.newarray .int, 2) := by decide +kernel
theorem cd_Rule_49 : decode prog_6_method_1_code 49 = .ok (.putfield 27, 3) := by decide +kernel
theorem cd_Rule_52 : decode prog_6_method_1_code 52 = .ok (.aload_n 0, 1) := by decide +kernel
theorem cd_Rule_53 : decode prog_6_method_1_code 53 = .ok (.bipush 60, 2) := by decide +kernel
theorem cd_Rule_55 : decode prog_6_method_1_code 55 = .ok (.newarray .int, 2) := by decide +kernel
theorem cd_Rule_57 : decode prog_6_method_1_code 57 = .ok (.putfield 30, 3) := by decide +kernel
theorem cd_Rule_60 : decode prog_6_method_1_code 60 = .ok (.return_, 1) := by decide +kernel
abbrev cn_d_Rule : ax_D := (⟨"AskingFragments$Rule", "<init>", "()V"⟩, prog_6_method_1_code, 1, none, 1, 0)
def cn_tRule : Nat → FieldType := fun k => (parseFieldDescriptor (aT_Rule k).2.2.1).getD .int
theorem cn_yRule : ∀ k, k < 9 → parseFieldDescriptor (aT_Rule k).2.2.1 = some (cn_tRule k) := by decide +kernel
/-- the cells behind it -/
def cn_s_Rule (sh : Nat → ax_C) (N : Nat) (o : Nat) : Nat → ax_C := cx_set (cx_set (cx_set (cx_set (cx_set (cx_set (cx_set (cx_set (cx_set (cx_set (cx_set (cx_set (cx_set (cx_set (sh) N (1, 10, [])) o (0, 5, [(0, 0), (2, N), (4, 0), (4, 0), (4, 0), (4, 0), (4, 0), (4, 0), (0, 0)])) (N + 1) (1, 10, [])) o (0, 5, [(0, 0), (2, N), (2, (N + 1)), (4, 0), (4, 0), (4, 0), (4, 0), (4, 0), (0, 0)])) ((N + 1) + 1) (1, 10, [])) o (0, 5, [(0, 0), (2, N), (2, (N + 1)), (2, ((N + 1) + 1)), (4, 0), (4, 0), (4, 0), (4, 0), (0, 0)])) (((N + 1) + 1) + 1) (1, 40, [])) o (0, 5, [(0, 0), (2, N), (2, (N + 1)), (2, ((N + 1) + 1)), (2, (((N + 1) + 1) + 1)), (4, 0), (4, 0), (4, 0), (0, 0)])) ((((N + 1) + 1) + 1) + 1) (1, 40, [])) o (0, 5, [(0, 0), (2, N), (2, (N + 1)), (2, ((N + 1) + 1)), (2, (((N + 1) + 1) + 1)), (2, ((((N + 1) + 1) + 1) + 1)), (4, 0), (4, 0), (0, 0)])) (((((N + 1) + 1) + 1) + 1) + 1) (1, 60, [])) o (0, 5, [(0, 0), (2, N), (2, (N + 1)), (2, ((N + 1) + 1)), (2, (((N + 1) + 1) + 1)), (2, ((((N + 1) + 1) + 1) + 1)), (2, (((((N + 1) + 1) + 1) + 1) + 1)), (4, 0), (0, 0)])) ((((((N + 1) + 1) + 1) + 1) + 1) + 1) (1, 60, [])) o (0, 5, [(0, 0), (2, N), (2, (N + 1)), (2, ((N + 1) + 1)), (2, (((N + 1) + 1) + 1)), (2, ((((N + 1) + 1) + 1) + 1)), (2, (((((N + 1) + 1) + 1) + 1) + 1)), (2, ((((((N + 1) + 1) + 1) + 1) + 1) + 1)), (0, 0)])
theorem cn_Rule (l : Launch) (Dg : va_G) (A : Nat → Prop) (cA : Nat → ClassId) (ad : Nat → Nat) (sh : Nat → ax_C) (N : Nat) (μ : ax_M) {o : Nat} {a : Nat} (e_a : ad o = a) (h_o : o < N) (hso : sh o = (0, 5, [(0, 0), (4, 0), (4, 0), (4, 0), (4, 0), (4, 0), (4, 0), (4, 0), (0, 0)])) (hμ : ∀ o, N ≤ o → μ.1 o = (fun _ => 0) ∧ μ.2 o = (fun _ => 0)) :
    Met l cn_d_Rule.1 (ax_ws cn_Ts cn_d_Rule) { frames := 1, cells := 7, slots := 230, locals := 60 } (cn_P Dg A cA ad sh N μ [.ref a]) (cn_Q Dg A cA ad N (cn_s_Rule sh N o) (((((((N + 1) + 1) + 1) + 1) + 1) + 1) + 1) μ) 7 230 A := by
  refine Met.ofW (cc := prog_6_method_1_code) (maxL := 1) (ret := none) (by decide) rfl ?_
  intro p e s m args below meth c s₁ B hml hv
  obtain ⟨rfl, hW, hK, hA, hX⟩ := hv
  have hx := B.exec
  have hb := B.bytes
  have hr := B.returns
  have hlocks := B.notSynchronized
  have hin : meth.name = "<init>" := (name_of_methodNamed B.named B.method).1
  have hts0 := atoms_spec (ws := ax_ws cn_Ts cn_d_Rule) B.pre
  have htn : ∀ w ∈ cn_Ts, w.before ([.ref a] : List Value).toArray s = true := fun w hw => hts0 w (List.mem_cons_of_mem _ hw)
  have hts : ∀ w ∈ ax_Ts, w.before ([.ref a] : List Value).toArray s = true := fun w hw => htn w (cn_Ts_in hw)
  have hown : s.vm.findClass "AskingFragments$Rule" = some m.cls := findClass_of_methodNamed B.named
  have hS : va_S A s.heap s.heap [] := va_S.rf
  have hoc := cn_objC hts
  have hl := lv_entry ([.ref a]) (n := 1) (Nat.le_of_ble_eq_true rfl)
  rw [lg_entry_eq]
  generalize (lg_sl ([.ref a]) ++ List.replicate (1 - (lg_sl ([.ref a])).length) Slot.unset).toArray = ls at hl ⊢
  have hl : lv_has ls 1 [(0, .ref a)] := hl
  refine lv_aload_n hx hb cd_Rule_0 rfl (lv_at hl 0 rfl) ?_
  refine W.objInit hx hb hown (hts (.methodLink "AskingFragments$Rule" 3 Lib.objectInit) (ax_in (ax_wl_at (k := 1) (j := 113) rfl) rfl)) hoc.1 hoc.2 rfl (by rw [hml]; exact hl.1) rfl cd_Rule_1 (Nat.le_of_ble_eq_true rfl) (Nat.le_of_ble_eq_true rfl) ?_
  refine W.eq (g2 := F0 m 4 ls []) rfl ?_
  refine lv_aload_n hx hb cd_Rule_4 rfl (lv_at hl 0 rfl) ?_
  refine lv_bipush hx hb cd_Rule_5 (v := 10) rfl ?_
  refine cn_newa (len := 10) hx hb (htn _ (List.mem_of_getElem? (i := 1) rfl)) 1 (by decide) rfl rfl hK hW hS hA (hμ _ (by omega)) (by decide) rfl (by decide) (Nat.le_of_ble_eq_true rfl) (Nat.le_of_ble_eq_true rfl) cd_Rule_7 (fun q1 H1 ad1 sh1 N1 had1 hsh1 hN1 hW1 hS1 => ?_)
  have hs1 : sh1 o = (0, 5, [(0, 0), (4, 0), (4, 0), (4, 0), (4, 0), (4, 0), (4, 0), (4, 0), (0, 0)]) := by rw [hsh1, cn_set_ne (by omega)]; exact hso
  have e_a_1 : ad1 o = a := by rw [had1, cn_ext (by omega)]; exact e_a
  have e_q1_1 : ad1 N = q1 := by rw [had1]; exact cn_ext_at
  have hb1 : ∀ x, x < N → ad1 x = ad x := fun x hx => by rw [had1, cn_ext (by omega)]
  refine cn_putq (ea := e_a_1) (eb := e_q1_1) (Ts := ax_Ts) (n := 9) (T := aT_Rule) (C := "AskingFragments$Rule") (k := 1) hx hb hts aU_Rule (ty0 := cn_tRule) cn_yRule aN_Rule hown hK rfl hW1 hS1 (show o < N1 by omega) hs1 (by decide) rfl (show N < N1 by omega) (hts _ (ax_in (ax_wl_at (k := 1) (j := 117) rfl) rfl)) rfl hin rfl rfl rfl rfl cd_Rule_9 (fun H2 locs2 sh2 hsh2 hW2 hS2 => ?_)
  have hs2 : sh2 o = (0, 5, [(0, 0), (2, N), (4, 0), (4, 0), (4, 0), (4, 0), (4, 0), (4, 0), (0, 0)]) := by rw [hsh2]; exact cn_set_at
  refine lv_aload_n hx hb cd_Rule_12 rfl (lv_at hl 0 rfl) ?_
  refine lv_bipush hx hb cd_Rule_13 (v := 10) rfl ?_
  refine cn_newa (len := 10) hx hb (htn _ (List.mem_of_getElem? (i := 1) rfl)) 1 (by decide) rfl rfl hK hW2 hS2 hA (hμ _ (by omega)) (by decide) rfl (by decide) (Nat.le_of_ble_eq_true rfl) (Nat.le_of_ble_eq_true rfl) cd_Rule_15 (fun q3 H3 ad3 sh3 N3 had3 hsh3 hN3 hW3 hS3 => ?_)
  have hs3 : sh3 o = (0, 5, [(0, 0), (2, N), (4, 0), (4, 0), (4, 0), (4, 0), (4, 0), (4, 0), (0, 0)]) := by rw [hsh3, cn_set_ne (by omega)]; exact hs2
  have e_a_3 : ad3 o = a := by rw [had3, cn_ext (by omega)]; exact e_a_1
  have e_q3_3 : ad3 N1 = q3 := by rw [had3]; exact cn_ext_at
  have hb3 : ∀ x, x < N → ad3 x = ad x := fun x hx => by rw [had3, cn_ext (by omega)]; exact hb1 x hx
  refine cn_putq (ea := e_a_3) (eb := e_q3_3) (Ts := ax_Ts) (n := 9) (T := aT_Rule) (C := "AskingFragments$Rule") (k := 2) hx hb hts aU_Rule (ty0 := cn_tRule) cn_yRule aN_Rule hown hK rfl hW3 hS3 (show o < N3 by omega) hs3 (by decide) rfl (show N1 < N3 by omega) (hts _ (ax_in (ax_wl_at (k := 1) (j := 118) rfl) rfl)) rfl hin rfl rfl rfl rfl cd_Rule_17 (fun H4 locs4 sh4 hsh4 hW4 hS4 => ?_)
  have hs4 : sh4 o = (0, 5, [(0, 0), (2, N), (2, N1), (4, 0), (4, 0), (4, 0), (4, 0), (4, 0), (0, 0)]) := by rw [hsh4]; exact cn_set_at
  refine lv_aload_n hx hb cd_Rule_20 rfl (lv_at hl 0 rfl) ?_
  refine lv_bipush hx hb cd_Rule_21 (v := 10) rfl ?_
  refine cn_newa (len := 10) hx hb (htn _ (List.mem_of_getElem? (i := 1) rfl)) 1 (by decide) rfl rfl hK hW4 hS4 hA (hμ _ (by omega)) (by decide) rfl (by decide) (Nat.le_of_ble_eq_true rfl) (Nat.le_of_ble_eq_true rfl) cd_Rule_23 (fun q5 H5 ad5 sh5 N5 had5 hsh5 hN5 hW5 hS5 => ?_)
  have hs5 : sh5 o = (0, 5, [(0, 0), (2, N), (2, N1), (4, 0), (4, 0), (4, 0), (4, 0), (4, 0), (0, 0)]) := by rw [hsh5, cn_set_ne (by omega)]; exact hs4
  have e_a_5 : ad5 o = a := by rw [had5, cn_ext (by omega)]; exact e_a_3
  have e_q5_5 : ad5 N3 = q5 := by rw [had5]; exact cn_ext_at
  have hb5 : ∀ x, x < N → ad5 x = ad x := fun x hx => by rw [had5, cn_ext (by omega)]; exact hb3 x hx
  refine cn_putq (ea := e_a_5) (eb := e_q5_5) (Ts := ax_Ts) (n := 9) (T := aT_Rule) (C := "AskingFragments$Rule") (k := 3) hx hb hts aU_Rule (ty0 := cn_tRule) cn_yRule aN_Rule hown hK rfl hW5 hS5 (show o < N5 by omega) hs5 (by decide) rfl (show N3 < N5 by omega) (hts _ (ax_in (ax_wl_at (k := 1) (j := 119) rfl) rfl)) rfl hin rfl rfl rfl rfl cd_Rule_25 (fun H6 locs6 sh6 hsh6 hW6 hS6 => ?_)
  have hs6 : sh6 o = (0, 5, [(0, 0), (2, N), (2, N1), (2, N3), (4, 0), (4, 0), (4, 0), (4, 0), (0, 0)]) := by rw [hsh6]; exact cn_set_at
  refine lv_aload_n hx hb cd_Rule_28 rfl (lv_at hl 0 rfl) ?_
  refine lv_bipush hx hb cd_Rule_29 (v := 40) rfl ?_
  refine cn_newa (len := 40) hx hb (htn _ (List.mem_of_getElem? (i := 1) rfl)) 1 (by decide) rfl rfl hK hW6 hS6 hA (hμ _ (by omega)) (by decide) rfl (by decide) (Nat.le_of_ble_eq_true rfl) (Nat.le_of_ble_eq_true rfl) cd_Rule_31 (fun q7 H7 ad7 sh7 N7 had7 hsh7 hN7 hW7 hS7 => ?_)
  have hs7 : sh7 o = (0, 5, [(0, 0), (2, N), (2, N1), (2, N3), (4, 0), (4, 0), (4, 0), (4, 0), (0, 0)]) := by rw [hsh7, cn_set_ne (by omega)]; exact hs6
  have e_a_7 : ad7 o = a := by rw [had7, cn_ext (by omega)]; exact e_a_5
  have e_q7_7 : ad7 N5 = q7 := by rw [had7]; exact cn_ext_at
  have hb7 : ∀ x, x < N → ad7 x = ad x := fun x hx => by rw [had7, cn_ext (by omega)]; exact hb5 x hx
  refine cn_putq (ea := e_a_7) (eb := e_q7_7) (Ts := ax_Ts) (n := 9) (T := aT_Rule) (C := "AskingFragments$Rule") (k := 4) hx hb hts aU_Rule (ty0 := cn_tRule) cn_yRule aN_Rule hown hK rfl hW7 hS7 (show o < N7 by omega) hs7 (by decide) rfl (show N5 < N7 by omega) (hts _ (ax_in (ax_wl_at (k := 1) (j := 120) rfl) rfl)) rfl hin rfl rfl rfl rfl cd_Rule_33 (fun H8 locs8 sh8 hsh8 hW8 hS8 => ?_)
  have hs8 : sh8 o = (0, 5, [(0, 0), (2, N), (2, N1), (2, N3), (2, N5), (4, 0), (4, 0), (4, 0), (0, 0)]) := by rw [hsh8]; exact cn_set_at
  refine lv_aload_n hx hb cd_Rule_36 rfl (lv_at hl 0 rfl) ?_
  refine lv_bipush hx hb cd_Rule_37 (v := 40) rfl ?_
  refine cn_newa (len := 40) hx hb (htn _ (List.mem_of_getElem? (i := 1) rfl)) 1 (by decide) rfl rfl hK hW8 hS8 hA (hμ _ (by omega)) (by decide) rfl (by decide) (Nat.le_of_ble_eq_true rfl) (Nat.le_of_ble_eq_true rfl) cd_Rule_39 (fun q9 H9 ad9 sh9 N9 had9 hsh9 hN9 hW9 hS9 => ?_)
  have hs9 : sh9 o = (0, 5, [(0, 0), (2, N), (2, N1), (2, N3), (2, N5), (4, 0), (4, 0), (4, 0), (0, 0)]) := by rw [hsh9, cn_set_ne (by omega)]; exact hs8
  have e_a_9 : ad9 o = a := by rw [had9, cn_ext (by omega)]; exact e_a_7
  have e_q9_9 : ad9 N7 = q9 := by rw [had9]; exact cn_ext_at
  have hb9 : ∀ x, x < N → ad9 x = ad x := fun x hx => by rw [had9, cn_ext (by omega)]; exact hb7 x hx
  refine cn_putq (ea := e_a_9) (eb := e_q9_9) (Ts := ax_Ts) (n := 9) (T := aT_Rule) (C := "AskingFragments$Rule") (k := 5) hx hb hts aU_Rule (ty0 := cn_tRule) cn_yRule aN_Rule hown hK rfl hW9 hS9 (show o < N9 by omega) hs9 (by decide) rfl (show N7 < N9 by omega) (hts _ (ax_in (ax_wl_at (k := 1) (j := 121) rfl) rfl)) rfl hin rfl rfl rfl rfl cd_Rule_41 (fun H10 locs10 sh10 hsh10 hW10 hS10 => ?_)
  have hs10 : sh10 o = (0, 5, [(0, 0), (2, N), (2, N1), (2, N3), (2, N5), (2, N7), (4, 0), (4, 0), (0, 0)]) := by rw [hsh10]; exact cn_set_at
  refine lv_aload_n hx hb cd_Rule_44 rfl (lv_at hl 0 rfl) ?_
  refine lv_bipush hx hb cd_Rule_45 (v := 60) rfl ?_
  refine cn_newa (len := 60) hx hb (htn _ (List.mem_of_getElem? (i := 1) rfl)) 1 (by decide) rfl rfl hK hW10 hS10 hA (hμ _ (by omega)) (by decide) rfl (by decide) (Nat.le_of_ble_eq_true rfl) (Nat.le_of_ble_eq_true rfl) cd_Rule_47 (fun q11 H11 ad11 sh11 N11 had11 hsh11 hN11 hW11 hS11 => ?_)
  have hs11 : sh11 o = (0, 5, [(0, 0), (2, N), (2, N1), (2, N3), (2, N5), (2, N7), (4, 0), (4, 0), (0, 0)]) := by rw [hsh11, cn_set_ne (by omega)]; exact hs10
  have e_a_11 : ad11 o = a := by rw [had11, cn_ext (by omega)]; exact e_a_9
  have e_q11_11 : ad11 N9 = q11 := by rw [had11]; exact cn_ext_at
  have hb11 : ∀ x, x < N → ad11 x = ad x := fun x hx => by rw [had11, cn_ext (by omega)]; exact hb9 x hx
  refine cn_putq (ea := e_a_11) (eb := e_q11_11) (Ts := ax_Ts) (n := 9) (T := aT_Rule) (C := "AskingFragments$Rule") (k := 6) hx hb hts aU_Rule (ty0 := cn_tRule) cn_yRule aN_Rule hown hK rfl hW11 hS11 (show o < N11 by omega) hs11 (by decide) rfl (show N9 < N11 by omega) (hts _ (ax_in (ax_wl_at (k := 1) (j := 122) rfl) rfl)) rfl hin rfl rfl rfl rfl cd_Rule_49 (fun H12 locs12 sh12 hsh12 hW12 hS12 => ?_)
  have hs12 : sh12 o = (0, 5, [(0, 0), (2, N), (2, N1), (2, N3), (2, N5), (2, N7), (2, N9), (4, 0), (0, 0)]) := by rw [hsh12]; exact cn_set_at
  refine lv_aload_n hx hb cd_Rule_52 rfl (lv_at hl 0 rfl) ?_
  refine lv_bipush hx hb cd_Rule_53 (v := 60) rfl ?_
  refine cn_newa (len := 60) hx hb (htn _ (List.mem_of_getElem? (i := 1) rfl)) 1 (by decide) rfl rfl hK hW12 hS12 hA (hμ _ (by omega)) (by decide) rfl (by decide) (Nat.le_of_ble_eq_true rfl) (Nat.le_of_ble_eq_true rfl) cd_Rule_55 (fun q13 H13 ad13 sh13 N13 had13 hsh13 hN13 hW13 hS13 => ?_)
  have hs13 : sh13 o = (0, 5, [(0, 0), (2, N), (2, N1), (2, N3), (2, N5), (2, N7), (2, N9), (4, 0), (0, 0)]) := by rw [hsh13, cn_set_ne (by omega)]; exact hs12
  have e_a_13 : ad13 o = a := by rw [had13, cn_ext (by omega)]; exact e_a_11
  have e_q13_13 : ad13 N11 = q13 := by rw [had13]; exact cn_ext_at
  have hb13 : ∀ x, x < N → ad13 x = ad x := fun x hx => by rw [had13, cn_ext (by omega)]; exact hb11 x hx
  refine cn_putq (ea := e_a_13) (eb := e_q13_13) (Ts := ax_Ts) (n := 9) (T := aT_Rule) (C := "AskingFragments$Rule") (k := 7) hx hb hts aU_Rule (ty0 := cn_tRule) cn_yRule aN_Rule hown hK rfl hW13 hS13 (show o < N13 by omega) hs13 (by decide) rfl (show N11 < N13 by omega) (hts _ (ax_in (ax_wl_at (k := 1) (j := 123) rfl) rfl)) rfl hin rfl rfl rfl rfl cd_Rule_57 (fun H14 locs14 sh14 hsh14 hW14 hS14 => ?_)
  have hs14 : sh14 o = (0, 5, [(0, 0), (2, N), (2, N1), (2, N3), (2, N5), (2, N7), (2, N9), (2, N11), (0, 0)]) := by rw [hsh14]; exact cn_set_at
  have hWz : cx_W Dg ax_cl A cA ad13 (cn_s_Rule sh N o) (((((((N + 1) + 1) + 1) + 1) + 1) + 1) + 1) μ H14 := by
    subst hsh14 hsh13 hsh12 hsh11 hsh10 hsh9 hsh8 hsh7 hsh6 hsh5 hsh4 hsh3 hsh2 hsh1 hN13 hN11 hN9 hN7 hN5 hN3 hN1
    exact hW14
  exact W.vret hx hb hr (fun t ht hWm => ⟨⟨ad13, rfl, hb13, by subst ht; exact hWz⟩, hS14.F ht⟩) hS14.2.2 cd_Rule_60
theorem cd_Run_0 : decode prog_7_method_1_code 0 = .ok (.aload_n 0, 1) := by decide +kernel
theorem cd_Run_1 : decode prog_7_method_1_code 1 = .ok (.invokespecial 3, 3) := by decide +kernel
theorem cd_Run_4 : decode prog_7_method_1_code 4 = .ok (.aload_n 0, 1) := by decide +kernel
theorem cd_Run_5 : decode prog_7_method_1_code 5 = .ok (.bipush 30, 2) := by decide +kernel
theorem cd_Run_7 : decode prog_7_method_1_code 7 = .ok (.newarray .int, 2) := by decide +kernel
theorem cd_Run_9 : decode prog_7_method_1_code 9 = .ok (.putfield 9, 3) := by decide +kernel
theorem cd_Run_12 : decode prog_7_method_1_code 12 = .ok (.aload_n 0, 1) := by decide +kernel
theorem cd_Run_13 : decode prog_7_method_1_code 13 = .ok (.sipush 132, 3) := by decide +kernel
theorem cd_Run_16 : decode prog_7_method_1_code 16 = .ok (.newarray .int, 2) := by decide +kernel
theorem cd_Run_18 : decode prog_7_method_1_code 18 = .ok (.putfield 15, 3) := by decide +kernel
theorem cd_Run_21 : decode prog_7_method_1_code 21 = .ok (.aload_n 0, 1) := by decide +kernel
theorem cd_Run_22 : decode prog_7_method_1_code 22 = .ok (.bipush 60, 2) := by decide +kernel
theorem cd_Run_24 : decode prog_7_method_1_code 24 = .ok (.newarray .int, 2) := by decide +kernel
theorem cd_Run_26 : decode prog_7_method_1_code 26 = .ok (.putfield 18, 3) := by decide +kernel
theorem cd_Run_29 : decode prog_7_method_1_code 29 = .ok (.aload_n 0, 1) := by decide +kernel
theorem cd_Run_30 : decode prog_7_method_1_code 30 = .ok (.sipush 2048, 3) := by decide +kernel
theorem cd_Run_33 : decode prog_7_method_1_code 33 = .ok (.newarray .int, 2) := by decide +kernel
theorem cd_Run_35 : decode prog_7_method_1_code 35 = .ok (.putfield 21, 3) := by decide +kernel
theorem cd_Run_38 : decode prog_7_method_1_code 38 = .ok (.aload_n 0, 1) := by decide +kernel
theorem cd_Run_39 : decode prog_7_method_1_code 39 = .ok (.bipush 60, 2) := by decide +kernel
theorem cd_Run_41 : decode prog_7_method_1_code 41 = .ok (.newarray .int, 2) := by decide +kernel
theorem cd_Run_43 : decode prog_7_method_1_code 43 = .ok (.putfield 24, 3) := by decide +kernel
theorem cd_Run_46 : decode prog_7_method_1_code 46 = .ok (.aload_n 0, 1) := by decide +kernel
theorem cd_Run_47 : decode prog_7_method_1_code 47 = .ok (.bipush 60, 2) := by decide +kernel
theorem cd_Run_49 : decode prog_7_method_1_code 49 = .ok (.newarray .int, 2) := by decide +kernel
theorem cd_Run_51 : decode prog_7_method_1_code 51 = .ok (.putfield 27, 3) := by decide +kernel
theorem cd_Run_54 : decode prog_7_method_1_code 54 = .ok (.aload_n 0, 1) := by decide +kernel
theorem cd_Run_55 : decode prog_7_method_1_code 55 = .ok (.bipush 60, 2) := by decide +kernel
theorem cd_Run_57 : decode prog_7_method_1_code 57 = .ok (.newarray .int, 2) := by decide +kernel
theorem cd_Run_59 : decode prog_7_method_1_code 59 = .ok (.putfield 30, 3) := by decide +kernel
theorem cd_Run_62 : decode prog_7_method_1_code 62 = .ok (.aload_n 0, 1) := by decide +kernel
theorem cd_Run_63 : decode prog_7_method_1_code 63 = .ok (.bipush 60, 2) := by decide +kernel
theorem cd_Run_65 : decode prog_7_method_1_code 65 = .ok (.newarray .int, 2) := by decide +kernel
theorem cd_Run_67 : decode prog_7_method_1_code 67 = .ok (.putfield 33, 3) := by decide +kernel
theorem cd_Run_70 : decode prog_7_method_1_code 70 = .ok (.aload_n 0, 1) := by decide +kernel
theorem cd_Run_71 : decode prog_7_method_1_code 71 = .ok (.sipush 256, 3) := by decide +kernel
theorem cd_Run_74 : decode prog_7_method_1_code 74 = .ok (.newarray .int, 2) := by decide +kernel
theorem cd_Run_76 : decode prog_7_method_1_code 76 = .ok (.putfield 36, 3) := by decide +kernel
theorem cd_Run_79 : decode prog_7_method_1_code 79 = .ok (.aload_n 0, 1) := by decide +kernel
theorem cd_Run_80 : decode prog_7_method_1_code 80 = .ok (.bipush 7, 2) := by decide +kernel
theorem cd_Run_82 : decode prog_7_method_1_code 82 = .ok (.newarray .int, 2) := by decide +kernel
theorem cd_Run_84 : decode prog_7_method_1_code 84 = .ok (.putfield 39, 3) := by decide +kernel
theorem cd_Run_87 : decode prog_7_method_1_code 87 = .ok (.aload_n 0, 1) := by decide +kernel
theorem cd_Run_88 : decode prog_7_method_1_code 88 = .ok (.aload_n 1, 1) := by decide +kernel
theorem cd_Run_89 : decode prog_7_method_1_code 89 = .ok (.putfield 42, 3) := by decide +kernel
theorem cd_Run_92 : decode prog_7_method_1_code 92 = .ok (.return_, 1) := by decide +kernel
abbrev cn_d_Run : ax_D := (⟨"AskingFragments$Run", "<init>", "(LAskingFragments$Net;)V"⟩, prog_7_method_1_code, 2, none, 1, 0)
def cn_tRun : Nat → FieldType := fun k => (parseFieldDescriptor (aT_Run k).2.2.1).getD .int
theorem cn_yRun : ∀ k, k < 18 → parseFieldDescriptor (aT_Run k).2.2.1 = some (cn_tRun k) := by decide +kernel
/-- the cells behind it -/
def cn_s_Run (sh : Nat → ax_C) (N : Nat) (o g0 : Nat) : Nat → ax_C := cx_set (cx_set (cx_set (cx_set (cx_set (cx_set (cx_set (cx_set (cx_set (cx_set (cx_set (cx_set (cx_set (cx_set (cx_set (cx_set (cx_set (cx_set (cx_set (cx_set (cx_set (sh) N (1, 30, [])) o (0, 6, [(4, 0), (2, N), (4, 0), (4, 0), (4, 0), (4, 0), (4, 0), (4, 0), (4, 0), (4, 0), (4, 0), (0, 0), (0, 0), (0, 0), (0, 0), (0, 0), (0, 0), (0, 0)])) (N + 1) (1, 132, [])) o (0, 6, [(4, 0), (2, N), (2, (N + 1)), (4, 0), (4, 0), (4, 0), (4, 0), (4, 0), (4, 0), (4, 0), (4, 0), (0, 0), (0, 0), (0, 0), (0, 0), (0, 0), (0, 0), (0, 0)])) ((N + 1) + 1) (1, 60, [])) o (0, 6, [(4, 0), (2, N), (2, (N + 1)), (2, ((N + 1) + 1)), (4, 0), (4, 0), (4, 0), (4, 0), (4, 0), (4, 0), (4, 0), (0, 0), (0, 0), (0, 0), (0, 0), (0, 0), (0, 0), (0, 0)])) (((N + 1) + 1) + 1) (1, 2048, [])) o (0, 6, [(4, 0), (2, N), (2, (N + 1)), (2, ((N + 1) + 1)), (2, (((N + 1) + 1) + 1)), (4, 0), (4, 0), (4, 0), (4, 0), (4, 0), (4, 0), (0, 0), (0, 0), (0, 0), (0, 0), (0, 0), (0, 0), (0, 0)])) ((((N + 1) + 1) + 1) + 1) (1, 60, [])) o (0, 6, [(4, 0), (2, N), (2, (N + 1)), (2, ((N + 1) + 1)), (2, (((N + 1) + 1) + 1)), (2, ((((N + 1) + 1) + 1) + 1)), (4, 0), (4, 0), (4, 0), (4, 0), (4, 0), (0, 0), (0, 0), (0, 0), (0, 0), (0, 0), (0, 0), (0, 0)])) (((((N + 1) + 1) + 1) + 1) + 1) (1, 60, [])) o (0, 6, [(4, 0), (2, N), (2, (N + 1)), (2, ((N + 1) + 1)), (2, (((N + 1) + 1) + 1)), (2, ((((N + 1) + 1) + 1) + 1)), (2, (((((N + 1) + 1) + 1) + 1) + 1)), (4, 0), (4, 0), (4, 0), (4, 0), (0, 0), (0, 0), (0, 0), (0, 0), (0, 0), (0, 0), (0, 0)])) ((((((N + 1) + 1) + 1) + 1) + 1) + 1) (1, 60, [])) o (0, 6, [(4, 0), (2, N), (2, (N + 1)), (2, ((N + 1) + 1)), (2, (((N + 1) + 1) + 1)), (2, ((((N + 1) + 1) + 1) + 1)), (2, (((((N + 1) + 1) + 1) + 1) + 1)), (2, ((((((N + 1) + 1) + 1) + 1) + 1) + 1)), (4, 0), (4, 0), (4, 0), (0, 0), (0, 0), (0, 0), (0, 0), (0, 0), (0, 0), (0, 0)])) (((((((N + 1) + 1) + 1) + 1) + 1) + 1) + 1) (1, 60, [])) o (0, 6, [(4, 0), (2, N), (2, (N + 1)), (2, ((N + 1) + 1)), (2, (((N + 1) + 1) + 1)), (2, ((((N + 1) + 1) + 1) + 1)), (2, (((((N + 1) + 1) + 1) + 1) + 1)), (2, ((((((N + 1) + 1) + 1) + 1) + 1) + 1)), (2, (((((((N + 1) + 1) + 1) + 1) + 1) + 1) + 1)), (4, 0), (4, 0), (0, 0), (0, 0), (0, 0), (0, 0), (0, 0), (0, 0), (0, 0)])) ((((((((N + 1) + 1) + 1) + 1) + 1) + 1) + 1) + 1) (1, 256, [])) o (0, 6, [(4, 0), (2, N), (2, (N + 1)), (2, ((N + 1) + 1)), (2, (((N + 1) + 1) + 1)), (2, ((((N + 1) + 1) + 1) + 1)), (2, (((((N + 1) + 1) + 1) + 1) + 1)), (2, ((((((N + 1) + 1) + 1) + 1) + 1) + 1)), (2, (((((((N + 1) + 1) + 1) + 1) + 1) + 1) + 1)), (2, ((((((((N + 1) + 1) + 1) + 1) + 1) + 1) + 1) + 1)), (4, 0), (0, 0), (0, 0), (0, 0), (0, 0), (0, 0), (0, 0), (0, 0)])) (((((((((N + 1) + 1) + 1) + 1) + 1) + 1) + 1) + 1) + 1) (1, 7, [])) o (0, 6, [(4, 0), (2, N), (2, (N + 1)), (2, ((N + 1) + 1)), (2, (((N + 1) + 1) + 1)), (2, ((((N + 1) + 1) + 1) + 1)), (2, (((((N + 1) + 1) + 1) + 1) + 1)), (2, ((((((N + 1) + 1) + 1) + 1) + 1) + 1)), (2, (((((((N + 1) + 1) + 1) + 1) + 1) + 1) + 1)), (2, ((((((((N + 1) + 1) + 1) + 1) + 1) + 1) + 1) + 1)), (2, (((((((((N + 1) + 1) + 1) + 1) + 1) + 1) + 1) + 1) + 1)), (0, 0), (0, 0), (0, 0), (0, 0), (0, 0), (0, 0), (0, 0)])) o (0, 6, [(2, g0), (2, N), (2, (N + 1)), (2, ((N + 1) + 1)), (2, (((N + 1) + 1) + 1)), (2, ((((N + 1) + 1) + 1) + 1)), (2, (((((N + 1) + 1) + 1) + 1) + 1)), (2, ((((((N + 1) + 1) + 1) + 1) + 1) + 1)), (2, (((((((N + 1) + 1) + 1) + 1) + 1) + 1) + 1)), (2, ((((((((N + 1) + 1) + 1) + 1) + 1) + 1) + 1) + 1)), (2, (((((((((N + 1) + 1) + 1) + 1) + 1) + 1) + 1) + 1) + 1)), (0, 0), (0, 0), (0, 0), (0, 0), (0, 0), (0, 0), (0, 0)])
theorem cn_Run (l : Launch) (Dg : va_G) (A : Nat → Prop) (cA : Nat → ClassId) (ad : Nat → Nat) (sh : Nat → ax_C) (N : Nat) (μ : ax_M) {o g0 : Nat} {a b0 : Nat} (e_a : ad o = a) (h_o : o < N) (e_b0 : ad g0 = b0) (h_g0 : g0 < N) (hso : sh o = (0, 6, [(4, 0), (4, 0), (4, 0), (4, 0), (4, 0), (4, 0), (4, 0), (4, 0), (4, 0), (4, 0), (4, 0), (0, 0), (0, 0), (0, 0), (0, 0), (0, 0), (0, 0), (0, 0)])) (hμ : ∀ o, N ≤ o → μ.1 o = (fun _ => 0) ∧ μ.2 o = (fun _ => 0)) :
    Met l cn_d_Run.1 (ax_ws cn_Ts cn_d_Run) { frames := 1, cells := 10, slots := 2773, locals := 60 } (cn_P Dg A cA ad sh N μ [.ref a, .ref b0]) (cn_Q Dg A cA ad N (cn_s_Run sh N o g0) ((((((((((N + 1) + 1) + 1) + 1) + 1) + 1) + 1) + 1) + 1) + 1) μ) 10 2773 A := by
  refine Met.ofW (cc := prog_7_method_1_code) (maxL := 2) (ret := none) (by decide) rfl ?_
  intro p e s m args below meth c s₁ B hml hv
  obtain ⟨rfl, hW, hK, hA, hX⟩ := hv
  have hx := B.exec
  have hb := B.bytes
  have hr := B.returns
  have hlocks := B.notSynchronized
  have hin : meth.name = "<init>" := (name_of_methodNamed B.named B.method).1
  have hts0 := atoms_spec (ws := ax_ws cn_Ts cn_d_Run) B.pre
  have htn : ∀ w ∈ cn_Ts, w.before ([.ref a, .ref b0] : List Value).toArray s = true := fun w hw => hts0 w (List.mem_cons_of_mem _ hw)
  have hts : ∀ w ∈ ax_Ts, w.before ([.ref a, .ref b0] : List Value).toArray s = true := fun w hw => htn w (cn_Ts_in hw)
  have hown : s.vm.findClass "AskingFragments$Run" = some m.cls := findClass_of_methodNamed B.named
  have hS : va_S A s.heap s.heap [] := va_S.rf
  have hoc := cn_objC hts
  have hl := lv_entry ([.ref a, .ref b0]) (n := 2) (Nat.le_of_ble_eq_true rfl)
  rw [lg_entry_eq]
  generalize (lg_sl ([.ref a, .ref b0]) ++ List.replicate (2 - (lg_sl ([.ref a, .ref b0])).length) Slot.unset).toArray = ls at hl ⊢
  have hl : lv_has ls 2 [(0, .ref a), (1, .ref b0)] := hl
  refine lv_aload_n hx hb cd_Run_0 rfl (lv_at hl 0 rfl) ?_
  refine W.objInit hx hb hown (hts (.methodLink "AskingFragments$Run" 3 Lib.objectInit) (ax_in (ax_wl_at (k := 1) (j := 149) rfl) rfl)) hoc.1 hoc.2 rfl (by rw [hml]; exact hl.1) rfl cd_Run_1 (Nat.le_of_ble_eq_true rfl) (Nat.le_of_ble_eq_true rfl) ?_
  refine W.eq (g2 := F0 m 4 ls []) rfl ?_
  refine lv_aload_n hx hb cd_Run_4 rfl (lv_at hl 0 rfl) ?_
  refine lv_bipush hx hb cd_Run_5 (v := 30) rfl ?_
  refine cn_newa (len := 30) hx hb (htn _ (List.mem_of_getElem? (i := 1) rfl)) 1 (by decide) rfl rfl hK hW hS hA (hμ _ (by omega)) (by decide) rfl (by decide) (Nat.le_of_ble_eq_true rfl) (Nat.le_of_ble_eq_true rfl) cd_Run_7 (fun q1 H1 ad1 sh1 N1 had1 hsh1 hN1 hW1 hS1 => ?_)
  have hs1 : sh1 o = (0, 6, [(4, 0), (4, 0), (4, 0), (4, 0), (4, 0), (4, 0), (4, 0), (4, 0), (4, 0), (4, 0), (4, 0), (0, 0), (0, 0), (0, 0), (0, 0), (0, 0), (0, 0), (0, 0)]) := by rw [hsh1, cn_set_ne (by omega)]; exact hso
  have e_a_1 : ad1 o = a := by rw [had1, cn_ext (by omega)]; exact e_a
  have e_b0_1 : ad1 g0 = b0 := by rw [had1, cn_ext (by omega)]; exact e_b0
  have e_q1_1 : ad1 N = q1 := by rw [had1]; exact cn_ext_at
  have hb1 : ∀ x, x < N → ad1 x = ad x := fun x hx => by rw [had1, cn_ext (by omega)]
  refine cn_putq (ea := e_a_1) (eb := e_q1_1) (Ts := ax_Ts) (n := 18) (T := aT_Run) (C := "AskingFragments$Run") (k := 1) hx hb hts aU_Run (ty0 := cn_tRun) cn_yRun aN_Run hown hK rfl hW1 hS1 (show o < N1 by omega) hs1 (by decide) rfl (show N < N1 by omega) (hts _ (ax_in (ax_wl_at (k := 1) (j := 152) rfl) rfl)) rfl hin rfl rfl rfl rfl cd_Run_9 (fun H2 locs2 sh2 hsh2 hW2 hS2 => ?_)
  have hs2 : sh2 o = (0, 6, [(4, 0), (2, N), (4, 0), (4, 0), (4, 0), (4, 0), (4, 0), (4, 0), (4, 0), (4, 0), (4, 0), (0, 0), (0, 0), (0, 0), (0, 0), (0, 0), (0, 0), (0, 0)]) := by rw [hsh2]; exact cn_set_at
  refine lv_aload_n hx hb cd_Run_12 rfl (lv_at hl 0 rfl) ?_
  refine lv_sipush hx hb cd_Run_13 (v := 132) rfl ?_
  refine cn_newa (len := 132) hx hb (htn _ (List.mem_of_getElem? (i := 1) rfl)) 1 (by decide) rfl rfl hK hW2 hS2 hA (hμ _ (by omega)) (by decide) rfl (by decide) (Nat.le_of_ble_eq_true rfl) (Nat.le_of_ble_eq_true rfl) cd_Run_16 (fun q3 H3 ad3 sh3 N3 had3 hsh3 hN3 hW3 hS3 => ?_)
  have hs3 : sh3 o = (0, 6, [(4, 0), (2, N), (4, 0), (4, 0), (4, 0), (4, 0), (4, 0), (4, 0), (4, 0), (4, 0), (4, 0), (0, 0), (0, 0), (0, 0), (0, 0), (0, 0), (0, 0), (0, 0)]) := by rw [hsh3, cn_set_ne (by omega)]; exact hs2
  have e_a_3 : ad3 o = a := by rw [had3, cn_ext (by omega)]; exact e_a_1
  have e_b0_3 : ad3 g0 = b0 := by rw [had3, cn_ext (by omega)]; exact e_b0_1
  have e_q3_3 : ad3 N1 = q3 := by rw [had3]; exact cn_ext_at
  have hb3 : ∀ x, x < N → ad3 x = ad x := fun x hx => by rw [had3, cn_ext (by omega)]; exact hb1 x hx
  refine cn_putq (ea := e_a_3) (eb := e_q3_3) (Ts := ax_Ts) (n := 18) (T := aT_Run) (C := "AskingFragments$Run") (k := 2) hx hb hts aU_Run (ty0 := cn_tRun) cn_yRun aN_Run hown hK rfl hW3 hS3 (show o < N3 by omega) hs3 (by decide) rfl (show N1 < N3 by omega) (hts _ (ax_in (ax_wl_at (k := 1) (j := 155) rfl) rfl)) rfl hin rfl rfl rfl rfl cd_Run_18 (fun H4 locs4 sh4 hsh4 hW4 hS4 => ?_)
  have hs4 : sh4 o = (0, 6, [(4, 0), (2, N), (2, N1), (4, 0), (4, 0), (4, 0), (4, 0), (4, 0), (4, 0), (4, 0), (4, 0), (0, 0), (0, 0), (0, 0), (0, 0), (0, 0), (0, 0), (0, 0)]) := by rw [hsh4]; exact cn_set_at
  refine lv_aload_n hx hb cd_Run_21 rfl (lv_at hl 0 rfl) ?_
  refine lv_bipush hx hb cd_Run_22 (v := 60) rfl ?_
  refine cn_newa (len := 60) hx hb (htn _ (List.mem_of_getElem? (i := 1) rfl)) 1 (by decide) rfl rfl hK hW4 hS4 hA (hμ _ (by omega)) (by decide) rfl (by decide) (Nat.le_of_ble_eq_true rfl) (Nat.le_of_ble_eq_true rfl) cd_Run_24 (fun q5 H5 ad5 sh5 N5 had5 hsh5 hN5 hW5 hS5 => ?_)
  have hs5 : sh5 o = (0, 6, [(4, 0), (2, N), (2, N1), (4, 0), (4, 0), (4, 0), (4, 0), (4, 0), (4, 0), (4, 0), (4, 0), (0, 0), (0, 0), (0, 0), (0, 0), (0, 0), (0, 0), (0, 0)]) := by rw [hsh5, cn_set_ne (by omega)]; exact hs4
  have e_a_5 : ad5 o = a := by rw [had5, cn_ext (by omega)]; exact e_a_3
  have e_b0_5 : ad5 g0 = b0 := by rw [had5, cn_ext (by omega)]; exact e_b0_3
  have e_q5_5 : ad5 N3 = q5 := by rw [had5]; exact cn_ext_at
  have hb5 : ∀ x, x < N → ad5 x = ad x := fun x hx => by rw [had5, cn_ext (by omega)]; exact hb3 x hx
  refine cn_putq (ea := e_a_5) (eb := e_q5_5) (Ts := ax_Ts) (n := 18) (T := aT_Run) (C := "AskingFragments$Run") (k := 3) hx hb hts aU_Run (ty0 := cn_tRun) cn_yRun aN_Run hown hK rfl hW5 hS5 (show o < N5 by omega) hs5 (by decide) rfl (show N3 < N5 by omega) (hts _ (ax_in (ax_wl_at (k := 1) (j := 156) rfl) rfl)) rfl hin rfl rfl rfl rfl cd_Run_26 (fun H6 locs6 sh6 hsh6 hW6 hS6 => ?_)
  have hs6 : sh6 o = (0, 6, [(4, 0), (2, N), (2, N1), (2, N3), (4, 0), (4, 0), (4, 0), (4, 0), (4, 0), (4, 0), (4, 0), (0, 0), (0, 0), (0, 0), (0, 0), (0, 0), (0, 0), (0, 0)]) := by rw [hsh6]; exact cn_set_at
  refine lv_aload_n hx hb cd_Run_29 rfl (lv_at hl 0 rfl) ?_
  refine lv_sipush hx hb cd_Run_30 (v := 2048) rfl ?_
  refine cn_newa (len := 2048) hx hb (htn _ (List.mem_of_getElem? (i := 1) rfl)) 1 (by decide) rfl rfl hK hW6 hS6 hA (hμ _ (by omega)) (by decide) rfl (by decide) (Nat.le_of_ble_eq_true rfl) (Nat.le_of_ble_eq_true rfl) cd_Run_33 (fun q7 H7 ad7 sh7 N7 had7 hsh7 hN7 hW7 hS7 => ?_)
  have hs7 : sh7 o = (0, 6, [(4, 0), (2, N), (2, N1), (2, N3), (4, 0), (4, 0), (4, 0), (4, 0), (4, 0), (4, 0), (4, 0), (0, 0), (0, 0), (0, 0), (0, 0), (0, 0), (0, 0), (0, 0)]) := by rw [hsh7, cn_set_ne (by omega)]; exact hs6
  have e_a_7 : ad7 o = a := by rw [had7, cn_ext (by omega)]; exact e_a_5
  have e_b0_7 : ad7 g0 = b0 := by rw [had7, cn_ext (by omega)]; exact e_b0_5
  have e_q7_7 : ad7 N5 = q7 := by rw [had7]; exact cn_ext_at
  have hb7 : ∀ x, x < N → ad7 x = ad x := fun x hx => by rw [had7, cn_ext (by omega)]; exact hb5 x hx
  refine cn_putq (ea := e_a_7) (eb := e_q7_7) (Ts := ax_Ts) (n := 18) (T := aT_Run) (C := "AskingFragments$Run") (k := 4) hx hb hts aU_Run (ty0 := cn_tRun) cn_yRun aN_Run hown hK rfl hW7 hS7 (show o < N7 by omega) hs7 (by decide) rfl (show N5 < N7 by omega) (hts _ (ax_in (ax_wl_at (k := 1) (j := 159) rfl) rfl)) rfl hin rfl rfl rfl rfl cd_Run_35 (fun H8 locs8 sh8 hsh8 hW8 hS8 => ?_)
  have hs8 : sh8 o = (0, 6, [(4, 0), (2, N), (2, N1), (2, N3), (2, N5), (4, 0), (4, 0), (4, 0), (4, 0), (4, 0), (4, 0), (0, 0), (0, 0), (0, 0), (0, 0), (0, 0), (0, 0), (0, 0)]) := by rw [hsh8]; exact cn_set_at
  refine lv_aload_n hx hb cd_Run_38 rfl (lv_at hl 0 rfl) ?_
  refine lv_bipush hx hb cd_Run_39 (v := 60) rfl ?_
  refine cn_newa (len := 60) hx hb (htn _ (List.mem_of_getElem? (i := 1) rfl)) 1 (by decide) rfl rfl hK hW8 hS8 hA (hμ _ (by omega)) (by decide) rfl (by decide) (Nat.le_of_ble_eq_true rfl) (Nat.le_of_ble_eq_true rfl) cd_Run_41 (fun q9 H9 ad9 sh9 N9 had9 hsh9 hN9 hW9 hS9 => ?_)
  have hs9 : sh9 o = (0, 6, [(4, 0), (2, N), (2, N1), (2, N3), (2, N5), (4, 0), (4, 0), (4, 0), (4, 0), (4, 0), (4, 0), (0, 0), (0, 0), (0, 0), (0, 0), (0, 0), (0, 0), (0, 0)]) := by rw [hsh9, cn_set_ne (by omega)]; exact hs8
  have e_a_9 : ad9 o = a := by rw [had9, cn_ext (by omega)]; exact e_a_7
  have e_b0_9 : ad9 g0 = b0 := by rw [had9, cn_ext (by omega)]; exact e_b0_7
  have e_q9_9 : ad9 N7 = q9 := by rw [had9]; exact cn_ext_at
  have hb9 : ∀ x, x < N → ad9 x = ad x := fun x hx => by rw [had9, cn_ext (by omega)]; exact hb7 x hx
  refine cn_putq (ea := e_a_9) (eb := e_q9_9) (Ts := ax_Ts) (n := 18) (T := aT_Run) (C := "AskingFragments$Run") (k := 5) hx hb hts aU_Run (ty0 := cn_tRun) cn_yRun aN_Run hown hK rfl hW9 hS9 (show o < N9 by omega) hs9 (by decide) rfl (show N7 < N9 by omega) (hts _ (ax_in (ax_wl_at (k := 1) (j := 161) rfl) rfl)) rfl hin rfl rfl rfl rfl cd_Run_43 (fun H10 locs10 sh10 hsh10 hW10 hS10 => ?_)
  have hs10 : sh10 o = (0, 6, [(4, 0), (2, N), (2, N1), (2, N3), (2, N5), (2, N7), (4, 0), (4, 0), (4, 0), (4, 0), (4, 0), (0, 0), (0, 0), (0, 0), (0, 0), (0, 0), (0, 0), (0, 0)]) := by rw [hsh10]; exact cn_set_at
  refine lv_aload_n hx hb cd_Run_46 rfl (lv_at hl 0 rfl) ?_
  refine lv_bipush hx hb cd_Run_47 (v := 60) rfl ?_
  refine cn_newa (len := 60) hx hb (htn _ (List.mem_of_getElem? (i := 1) rfl)) 1 (by decide) rfl rfl hK hW10 hS10 hA (hμ _ (by omega)) (by decide) rfl (by decide) (Nat.le_of_ble_eq_true rfl) (Nat.le_of_ble_eq_true rfl) cd_Run_49 (fun q11 H11 ad11 sh11 N11 had11 hsh11 hN11 hW11 hS11 => ?_)
  have hs11 : sh11 o = (0, 6, [(4, 0), (2, N), (2, N1), (2, N3), (2, N5), (2, N7), (4, 0), (4, 0), (4, 0), (4, 0), (4, 0), (0, 0), (0, 0), (0, 0), (0, 0), (0, 0), (0, 0), (0, 0)]) := by rw [hsh11, cn_set_ne (by omega)]; exact hs10
  have e_a_11 : ad11 o = a := by rw [had11, cn_ext (by omega)]; exact e_a_9
  have e_b0_11 : ad11 g0 = b0 := by rw [had11, cn_ext (by omega)]; exact e_b0_9
  have e_q11_11 : ad11 N9 = q11 := by rw [had11]; exact cn_ext_at
  have hb11 : ∀ x, x < N → ad11 x = ad x := fun x hx => by rw [had11, cn_ext (by omega)]; exact hb9 x hx
  refine cn_putq (ea := e_a_11) (eb := e_q11_11) (Ts := ax_Ts) (n := 18) (T := aT_Run) (C := "AskingFragments$Run") (k := 6) hx hb hts aU_Run (ty0 := cn_tRun) cn_yRun aN_Run hown hK rfl hW11 hS11 (show o < N11 by omega) hs11 (by decide) rfl (show N9 < N11 by omega) (hts _ (ax_in (ax_wl_at (k := 1) (j := 163) rfl) rfl)) rfl hin rfl rfl rfl rfl cd_Run_51 (fun H12 locs12 sh12 hsh12 hW12 hS12 => ?_)
  have hs12 : sh12 o = (0, 6, [(4, 0), (2, N), (2, N1), (2, N3), (2, N5), (2, N7), (2, N9), (4, 0), (4, 0), (4, 0), (4, 0), (0, 0), (0, 0), (0, 0), (0, 0), (0, 0), (0, 0), (0, 0)]) := by rw [hsh12]; exact cn_set_at
  refine lv_aload_n hx hb cd_Run_54 rfl (lv_at hl 0 rfl) ?_
  refine lv_bipush hx hb cd_Run_55 (v := 60) rfl ?_
  refine cn_newa (len := 60) hx hb (htn _ (List.mem_of_getElem? (i := 1) rfl)) 1 (by decide) rfl rfl hK hW12 hS12 hA (hμ _ (by omega)) (by decide) rfl (by decide) (Nat.le_of_ble_eq_true rfl) (Nat.le_of_ble_eq_true rfl) cd_Run_57 (fun q13 H13 ad13 sh13 N13 had13 hsh13 hN13 hW13 hS13 => ?_)
  have hs13 : sh13 o = (0, 6, [(4, 0), (2, N), (2, N1), (2, N3), (2, N5), (2, N7), (2, N9), (4, 0), (4, 0), (4, 0), (4, 0), (0, 0), (0, 0), (0, 0), (0, 0), (0, 0), (0, 0), (0, 0)]) := by rw [hsh13, cn_set_ne (by omega)]; exact hs12
  have e_a_13 : ad13 o = a := by rw [had13, cn_ext (by omega)]; exact e_a_11
  have e_b0_13 : ad13 g0 = b0 := by rw [had13, cn_ext (by omega)]; exact e_b0_11
  have e_q13_13 : ad13 N11 = q13 := by rw [had13]; exact cn_ext_at
  have hb13 : ∀ x, x < N → ad13 x = ad x := fun x hx => by rw [had13, cn_ext (by omega)]; exact hb11 x hx
  refine cn_putq (ea := e_a_13) (eb := e_q13_13) (Ts := ax_Ts) (n := 18) (T := aT_Run) (C := "AskingFragments$Run") (k := 7) hx hb hts aU_Run (ty0 := cn_tRun) cn_yRun aN_Run hown hK rfl hW13 hS13 (show o < N13 by omega) hs13 (by decide) rfl (show N11 < N13 by omega) (hts _ (ax_in (ax_wl_at (k := 1) (j := 164) rfl) rfl)) rfl hin rfl rfl rfl rfl cd_Run_59 (fun H14 locs14 sh14 hsh14 hW14 hS14 => ?_)
  have hs14 : sh14 o = (0, 6, [(4, 0), (2, N), (2, N1), (2, N3), (2, N5), (2, N7), (2, N9), (2, N11), (4, 0), (4, 0), (4, 0), (0, 0), (0, 0), (0, 0), (0, 0), (0, 0), (0, 0), (0, 0)]) := by rw [hsh14]; exact cn_set_at
  refine lv_aload_n hx hb cd_Run_62 rfl (lv_at hl 0 rfl) ?_
  refine lv_bipush hx hb cd_Run_63 (v := 60) rfl ?_
  refine cn_newa (len := 60) hx hb (htn _ (List.mem_of_getElem? (i := 1) rfl)) 1 (by decide) rfl rfl hK hW14 hS14 hA (hμ _ (by omega)) (by decide) rfl (by decide) (Nat.le_of_ble_eq_true rfl) (Nat.le_of_ble_eq_true rfl) cd_Run_65 (fun q15 H15 ad15 sh15 N15 had15 hsh15 hN15 hW15 hS15 => ?_)
  have hs15 : sh15 o = (0, 6, [(4, 0), (2, N), (2, N1), (2, N3), (2, N5), (2, N7), (2, N9), (2, N11), (4, 0), (4, 0), (4, 0), (0, 0), (0, 0), (0, 0), (0, 0), (0, 0), (0, 0), (0, 0)]) := by rw [hsh15, cn_set_ne (by omega)]; exact hs14
  have e_a_15 : ad15 o = a := by rw [had15, cn_ext (by omega)]; exact e_a_13
  have e_b0_15 : ad15 g0 = b0 := by rw [had15, cn_ext (by omega)]; exact e_b0_13
  have e_q15_15 : ad15 N13 = q15 := by rw [had15]; exact cn_ext_at
  have hb15 : ∀ x, x < N → ad15 x = ad x := fun x hx => by rw [had15, cn_ext (by omega)]; exact hb13 x hx
  refine cn_putq (ea := e_a_15) (eb := e_q15_15) (Ts := ax_Ts) (n := 18) (T := aT_Run) (C := "AskingFragments$Run") (k := 8) hx hb hts aU_Run (ty0 := cn_tRun) cn_yRun aN_Run hown hK rfl hW15 hS15 (show o < N15 by omega) hs15 (by decide) rfl (show N13 < N15 by omega) (hts _ (ax_in (ax_wl_at (k := 1) (j := 167) rfl) rfl)) rfl hin rfl rfl rfl rfl cd_Run_67 (fun H16 locs16 sh16 hsh16 hW16 hS16 => ?_)
  have hs16 : sh16 o = (0, 6, [(4, 0), (2, N), (2, N1), (2, N3), (2, N5), (2, N7), (2, N9), (2, N11), (2, N13), (4, 0), (4, 0), (0, 0), (0, 0), (0, 0), (0, 0), (0, 0), (0, 0), (0, 0)]) := by rw [hsh16]; exact cn_set_at
  refine lv_aload_n hx hb cd_Run_70 rfl (lv_at hl 0 rfl) ?_
  refine lv_sipush hx hb cd_Run_71 (v := 256) rfl ?_
  refine cn_newa (len := 256) hx hb (htn _ (List.mem_of_getElem? (i := 1) rfl)) 1 (by decide) rfl rfl hK hW16 hS16 hA (hμ _ (by omega)) (by decide) rfl (by decide) (Nat.le_of_ble_eq_true rfl) (Nat.le_of_ble_eq_true rfl) cd_Run_74 (fun q17 H17 ad17 sh17 N17 had17 hsh17 hN17 hW17 hS17 => ?_)
  have hs17 : sh17 o = (0, 6, [(4, 0), (2, N), (2, N1), (2, N3), (2, N5), (2, N7), (2, N9), (2, N11), (2, N13), (4, 0), (4, 0), (0, 0), (0, 0), (0, 0), (0, 0), (0, 0), (0, 0), (0, 0)]) := by rw [hsh17, cn_set_ne (by omega)]; exact hs16
  have e_a_17 : ad17 o = a := by rw [had17, cn_ext (by omega)]; exact e_a_15
  have e_b0_17 : ad17 g0 = b0 := by rw [had17, cn_ext (by omega)]; exact e_b0_15
  have e_q17_17 : ad17 N15 = q17 := by rw [had17]; exact cn_ext_at
  have hb17 : ∀ x, x < N → ad17 x = ad x := fun x hx => by rw [had17, cn_ext (by omega)]; exact hb15 x hx
  refine cn_putq (ea := e_a_17) (eb := e_q17_17) (Ts := ax_Ts) (n := 18) (T := aT_Run) (C := "AskingFragments$Run") (k := 9) hx hb hts aU_Run (ty0 := cn_tRun) cn_yRun aN_Run hown hK rfl hW17 hS17 (show o < N17 by omega) hs17 (by decide) rfl (show N15 < N17 by omega) (hts _ (ax_in (ax_wl_at (k := 1) (j := 168) rfl) rfl)) rfl hin rfl rfl rfl rfl cd_Run_76 (fun H18 locs18 sh18 hsh18 hW18 hS18 => ?_)
  have hs18 : sh18 o = (0, 6, [(4, 0), (2, N), (2, N1), (2, N3), (2, N5), (2, N7), (2, N9), (2, N11), (2, N13), (2, N15), (4, 0), (0, 0), (0, 0), (0, 0), (0, 0), (0, 0), (0, 0), (0, 0)]) := by rw [hsh18]; exact cn_set_at
  refine lv_aload_n hx hb cd_Run_79 rfl (lv_at hl 0 rfl) ?_
  refine lv_bipush hx hb cd_Run_80 (v := 7) rfl ?_
  refine cn_newa (len := 7) hx hb (htn _ (List.mem_of_getElem? (i := 1) rfl)) 1 (by decide) rfl rfl hK hW18 hS18 hA (hμ _ (by omega)) (by decide) rfl (by decide) (Nat.le_of_ble_eq_true rfl) (Nat.le_of_ble_eq_true rfl) cd_Run_82 (fun q19 H19 ad19 sh19 N19 had19 hsh19 hN19 hW19 hS19 => ?_)
  have hs19 : sh19 o = (0, 6, [(4, 0), (2, N), (2, N1), (2, N3), (2, N5), (2, N7), (2, N9), (2, N11), (2, N13), (2, N15), (4, 0), (0, 0), (0, 0), (0, 0), (0, 0), (0, 0), (0, 0), (0, 0)]) := by rw [hsh19, cn_set_ne (by omega)]; exact hs18
  have e_a_19 : ad19 o = a := by rw [had19, cn_ext (by omega)]; exact e_a_17
  have e_b0_19 : ad19 g0 = b0 := by rw [had19, cn_ext (by omega)]; exact e_b0_17
  have e_q19_19 : ad19 N17 = q19 := by rw [had19]; exact cn_ext_at
  have hb19 : ∀ x, x < N → ad19 x = ad x := fun x hx => by rw [had19, cn_ext (by omega)]; exact hb17 x hx
  refine cn_putq (ea := e_a_19) (eb := e_q19_19) (Ts := ax_Ts) (n := 18) (T := aT_Run) (C := "AskingFragments$Run") (k := 10) hx hb hts aU_Run (ty0 := cn_tRun) cn_yRun aN_Run hown hK rfl hW19 hS19 (show o < N19 by omega) hs19 (by decide) rfl (show N17 < N19 by omega) (hts _ (ax_in (ax_wl_at (k := 1) (j := 169) rfl) rfl)) rfl hin rfl rfl rfl rfl cd_Run_84 (fun H20 locs20 sh20 hsh20 hW20 hS20 => ?_)
  have hs20 : sh20 o = (0, 6, [(4, 0), (2, N), (2, N1), (2, N3), (2, N5), (2, N7), (2, N9), (2, N11), (2, N13), (2, N15), (2, N17), (0, 0), (0, 0), (0, 0), (0, 0), (0, 0), (0, 0), (0, 0)]) := by rw [hsh20]; exact cn_set_at
  refine lv_aload_n hx hb cd_Run_87 rfl (lv_at hl 0 rfl) ?_
  refine lv_aload_n hx hb cd_Run_88 rfl (lv_at hl 1 rfl) ?_
  refine cn_putq (ea := e_a_19) (eb := e_b0_19) (Ts := ax_Ts) (n := 18) (T := aT_Run) (C := "AskingFragments$Run") (k := 0) hx hb hts aU_Run (ty0 := cn_tRun) cn_yRun aN_Run hown hK rfl hW20 hS20 (show o < N19 by omega) hs20 (by decide) rfl (show g0 < N19 by omega) (hts _ (ax_in (ax_wl_at (k := 1) (j := 150) rfl) rfl)) rfl hin rfl rfl rfl rfl cd_Run_89 (fun H21 locs21 sh21 hsh21 hW21 hS21 => ?_)
  have hs21 : sh21 o = (0, 6, [(2, g0), (2, N), (2, N1), (2, N3), (2, N5), (2, N7), (2, N9), (2, N11), (2, N13), (2, N15), (2, N17), (0, 0), (0, 0), (0, 0), (0, 0), (0, 0), (0, 0), (0, 0)]) := by rw [hsh21]; exact cn_set_at
  have hWz : cx_W Dg ax_cl A cA ad19 (cn_s_Run sh N o g0) ((((((((((N + 1) + 1) + 1) + 1) + 1) + 1) + 1) + 1) + 1) + 1) μ H21 := by
    subst hsh21 hsh20 hsh19 hsh18 hsh17 hsh16 hsh15 hsh14 hsh13 hsh12 hsh11 hsh10 hsh9 hsh8 hsh7 hsh6 hsh5 hsh4 hsh3 hsh2 hsh1 hN19 hN17 hN15 hN13 hN11 hN9 hN7 hN5 hN3 hN1
    exact hW21
  exact W.vret hx hb hr (fun t ht hWm => ⟨⟨ad19, rfl, hb19, by subst ht; exact hWz⟩, hS21.F ht⟩) hS21.2.2 cd_Run_92
theorem cd_Forest_0 : decode prog_2_method_1_code 0 = .ok (.aload_n 0, 1) := by decide +kernel
theorem cd_Forest_1 : decode prog_2_method_1_code 1 = .ok (.invokespecial 3, 3) := by decide +kernel
theorem cd_Forest_4 : decode prog_2_method_1_code 4 = .ok (.aload_n 0, 1) := by decide +kernel
theorem cd_Forest_5 : decode prog_2_method_1_code 5 = .ok (.bipush 30, 2) := by decide +kernel
theorem cd_Forest_7 : decode prog_2_method_1_code 7 = .ok (.newarray .int, 2) := by decide +kernel
theorem cd_Forest_9 : decode prog_2_method_1_code 9 = .ok (.putfield 9, 3) := by decide +kernel
theorem cd_Forest_12 : decode prog_2_method_1_code 12 = .ok (.aload_n 0, 1) := by decide +kernel
theorem cd_Forest_13 : decode prog_2_method_1_code 13 = .ok (.bipush 12, 2) := by decide +kernel
theorem cd_Forest_15 : decode prog_2_method_1_code 15 = .ok (.newarray .int, 2) := by decide +kernel
theorem cd_Forest_17 : decode prog_2_method_1_code 17 = .ok (.putfield 15, 3) := by decide +kernel
theorem cd_Forest_20 : decode prog_2_method_1_code 20 = .ok (.aload_n 0, 1) := by decide +kernel
theorem cd_Forest_21 : decode prog_2_method_1_code 21 = .ok (.aload_n 1, 1) := by decide +kernel
theorem cd_Forest_22 : decode prog_2_method_1_code 22 = .ok (.putfield 18, 3) := by decide +kernel
theorem cd_Forest_25 : decode prog_2_method_1_code 25 = .ok (.return_, 1) := by decide +kernel
abbrev cn_d_Forest : ax_D := (⟨"AskingFragments$Forest", "<init>", "(LAskingFragments$Net;)V"⟩, prog_2_method_1_code, 2, none, 1, 0)
def cn_tForest : Nat → FieldType := fun k => (parseFieldDescriptor (aT_Forest k).2.2.1).getD .int
theorem cn_yForest : ∀ k, k < 6 → parseFieldDescriptor (aT_Forest k).2.2.1 = some (cn_tForest k) := by decide +kernel
/-- the cells behind it -/
def cn_s_Forest (sh : Nat → ax_C) (N : Nat) (o g0 : Nat) : Nat → ax_C := cx_set (cx_set (cx_set (cx_set (cx_set (sh) N (1, 30, [])) o (0, 1, [(4, 0), (2, N), (4, 0), (0, 0), (0, 0), (0, 0)])) (N + 1) (1, 12, [])) o (0, 1, [(4, 0), (2, N), (2, (N + 1)), (0, 0), (0, 0), (0, 0)])) o (0, 1, [(2, g0), (2, N), (2, (N + 1)), (0, 0), (0, 0), (0, 0)])
theorem cn_Forest (l : Launch) (Dg : va_G) (A : Nat → Prop) (cA : Nat → ClassId) (ad : Nat → Nat) (sh : Nat → ax_C) (N : Nat) (μ : ax_M) {o g0 : Nat} {a b0 : Nat} (e_a : ad o = a) (h_o : o < N) (e_b0 : ad g0 = b0) (h_g0 : g0 < N) (hso : sh o = (0, 1, [(4, 0), (4, 0), (4, 0), (0, 0), (0, 0), (0, 0)])) (hμ : ∀ o, N ≤ o → μ.1 o = (fun _ => 0) ∧ μ.2 o = (fun _ => 0)) :
    Met l cn_d_Forest.1 (ax_ws cn_Ts cn_d_Forest) { frames := 1, cells := 2, slots := 42, locals := 60 } (cn_P Dg A cA ad sh N μ [.ref a, .ref b0]) (cn_Q Dg A cA ad N (cn_s_Forest sh N o g0) ((N + 1) + 1) μ) 2 42 A := by
  refine Met.ofW (cc := prog_2_method_1_code) (maxL := 2) (ret := none) (by decide) rfl ?_
  intro p e s m args below meth c s₁ B hml hv
  obtain ⟨rfl, hW, hK, hA, hX⟩ := hv
  have hx := B.exec
  have hb := B.bytes
  have hr := B.returns
  have hlocks := B.notSynchronized
  have hin : meth.name = "<init>" := (name_of_methodNamed B.named B.method).1
  have hts0 := atoms_spec (ws := ax_ws cn_Ts cn_d_Forest) B.pre
  have htn : ∀ w ∈ cn_Ts, w.before ([.ref a, .ref b0] : List Value).toArray s = true := fun w hw => hts0 w (List.mem_cons_of_mem _ hw)
  have hts : ∀ w ∈ ax_Ts, w.before ([.ref a, .ref b0] : List Value).toArray s = true := fun w hw => htn w (cn_Ts_in hw)
  have hown : s.vm.findClass "AskingFragments$Forest" = some m.cls := findClass_of_methodNamed B.named
  have hS : va_S A s.heap s.heap [] := va_S.rf
  have hoc := cn_objC hts
  have hl := lv_entry ([.ref a, .ref b0]) (n := 2) (Nat.le_of_ble_eq_true rfl)
  rw [lg_entry_eq]
  generalize (lg_sl ([.ref a, .ref b0]) ++ List.replicate (2 - (lg_sl ([.ref a, .ref b0])).length) Slot.unset).toArray = ls at hl ⊢
  have hl : lv_has ls 2 [(0, .ref a), (1, .ref b0)] := hl
  refine lv_aload_n hx hb cd_Forest_0 rfl (lv_at hl 0 rfl) ?_
  refine W.objInit hx hb hown (hts (.methodLink "AskingFragments$Forest" 3 Lib.objectInit) (ax_in (ax_wl_at (k := 2) (j := 17) rfl) rfl)) hoc.1 hoc.2 rfl (by rw [hml]; exact hl.1) rfl cd_Forest_1 (Nat.le_of_ble_eq_true rfl) (Nat.le_of_ble_eq_true rfl) ?_
  refine W.eq (g2 := F0 m 4 ls []) rfl ?_
  refine lv_aload_n hx hb cd_Forest_4 rfl (lv_at hl 0 rfl) ?_
  refine lv_bipush hx hb cd_Forest_5 (v := 30) rfl ?_
  refine cn_newa (len := 30) hx hb (htn _ (List.mem_of_getElem? (i := 1) rfl)) 1 (by decide) rfl rfl hK hW hS hA (hμ _ (by omega)) (by decide) rfl (by decide) (Nat.le_of_ble_eq_true rfl) (Nat.le_of_ble_eq_true rfl) cd_Forest_7 (fun q1 H1 ad1 sh1 N1 had1 hsh1 hN1 hW1 hS1 => ?_)
  have hs1 : sh1 o = (0, 1, [(4, 0), (4, 0), (4, 0), (0, 0), (0, 0), (0, 0)]) := by rw [hsh1, cn_set_ne (by omega)]; exact hso
  have e_a_1 : ad1 o = a := by rw [had1, cn_ext (by omega)]; exact e_a
  have e_b0_1 : ad1 g0 = b0 := by rw [had1, cn_ext (by omega)]; exact e_b0
  have e_q1_1 : ad1 N = q1 := by rw [had1]; exact cn_ext_at
  have hb1 : ∀ x, x < N → ad1 x = ad x := fun x hx => by rw [had1, cn_ext (by omega)]
  refine cn_putq (ea := e_a_1) (eb := e_q1_1) (Ts := ax_Ts) (n := 6) (T := aT_Forest) (C := "AskingFragments$Forest") (k := 1) hx hb hts aU_Forest (ty0 := cn_tForest) cn_yForest aN_Forest hown hK rfl hW1 hS1 (show o < N1 by omega) hs1 (by decide) rfl (show N < N1 by omega) (hts _ (ax_in (ax_wl_at (k := 2) (j := 19) rfl) rfl)) rfl hin rfl rfl rfl rfl cd_Forest_9 (fun H2 locs2 sh2 hsh2 hW2 hS2 => ?_)
  have hs2 : sh2 o = (0, 1, [(4, 0), (2, N), (4, 0), (0, 0), (0, 0), (0, 0)]) := by rw [hsh2]; exact cn_set_at
  refine lv_aload_n hx hb cd_Forest_12 rfl (lv_at hl 0 rfl) ?_
  refine lv_bipush hx hb cd_Forest_13 (v := 12) rfl ?_
  refine cn_newa (len := 12) hx hb (htn _ (List.mem_of_getElem? (i := 1) rfl)) 1 (by decide) rfl rfl hK hW2 hS2 hA (hμ _ (by omega)) (by decide) rfl (by decide) (Nat.le_of_ble_eq_true rfl) (Nat.le_of_ble_eq_true rfl) cd_Forest_15 (fun q3 H3 ad3 sh3 N3 had3 hsh3 hN3 hW3 hS3 => ?_)
  have hs3 : sh3 o = (0, 1, [(4, 0), (2, N), (4, 0), (0, 0), (0, 0), (0, 0)]) := by rw [hsh3, cn_set_ne (by omega)]; exact hs2
  have e_a_3 : ad3 o = a := by rw [had3, cn_ext (by omega)]; exact e_a_1
  have e_b0_3 : ad3 g0 = b0 := by rw [had3, cn_ext (by omega)]; exact e_b0_1
  have e_q3_3 : ad3 N1 = q3 := by rw [had3]; exact cn_ext_at
  have hb3 : ∀ x, x < N → ad3 x = ad x := fun x hx => by rw [had3, cn_ext (by omega)]; exact hb1 x hx
  refine cn_putq (ea := e_a_3) (eb := e_q3_3) (Ts := ax_Ts) (n := 6) (T := aT_Forest) (C := "AskingFragments$Forest") (k := 2) hx hb hts aU_Forest (ty0 := cn_tForest) cn_yForest aN_Forest hown hK rfl hW3 hS3 (show o < N3 by omega) hs3 (by decide) rfl (show N1 < N3 by omega) (hts _ (ax_in (ax_wl_at (k := 2) (j := 20) rfl) rfl)) rfl hin rfl rfl rfl rfl cd_Forest_17 (fun H4 locs4 sh4 hsh4 hW4 hS4 => ?_)
  have hs4 : sh4 o = (0, 1, [(4, 0), (2, N), (2, N1), (0, 0), (0, 0), (0, 0)]) := by rw [hsh4]; exact cn_set_at
  refine lv_aload_n hx hb cd_Forest_20 rfl (lv_at hl 0 rfl) ?_
  refine lv_aload_n hx hb cd_Forest_21 rfl (lv_at hl 1 rfl) ?_
  refine cn_putq (ea := e_a_3) (eb := e_b0_3) (Ts := ax_Ts) (n := 6) (T := aT_Forest) (C := "AskingFragments$Forest") (k := 0) hx hb hts aU_Forest (ty0 := cn_tForest) cn_yForest aN_Forest hown hK rfl hW4 hS4 (show o < N3 by omega) hs4 (by decide) rfl (show g0 < N3 by omega) (hts _ (ax_in (ax_wl_at (k := 2) (j := 18) rfl) rfl)) rfl hin rfl rfl rfl rfl cd_Forest_22 (fun H5 locs5 sh5 hsh5 hW5 hS5 => ?_)
  have hs5 : sh5 o = (0, 1, [(2, g0), (2, N), (2, N1), (0, 0), (0, 0), (0, 0)]) := by rw [hsh5]; exact cn_set_at
  have hWz : cx_W Dg ax_cl A cA ad3 (cn_s_Forest sh N o g0) ((N + 1) + 1) μ H5 := by
    subst hsh5 hsh4 hsh3 hsh2 hsh1 hN3 hN1
    exact hW5
  exact W.vret hx hb hr (fun t ht hWm => ⟨⟨ad3, rfl, hb3, by subst ht; exact hWz⟩, hS5.F ht⟩) hS5.2.2 cd_Forest_25
