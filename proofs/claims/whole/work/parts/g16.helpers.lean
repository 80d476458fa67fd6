/-! t: the law's four helpers: answers, or the class has thrown -/
def th_D (cc : ByteArray) (idx : Nat) : Prop := decode cc 0 = .ok (.aload_n 3, 1) ∧ decode cc 1 = .ok (.iconst (0), 1) ∧ decode cc 2 = .ok (.aload_n 0, 1) ∧ decode cc 3 = .ok (.iload_n 1, 1) ∧ decode cc 4 = .ok (.iload_n 2, 1) ∧ decode cc 5 = .ok (.invokevirtual idx, 3) ∧ decode cc 8 = .ok (.i2l, 1) ∧ decode cc 9 = .ok (.lastore, 1) ∧ decode cc 10 = .ok (.goto (7), 3) ∧ decode cc 13 = .ok (.astore 4, 2) ∧ decode cc 15 = .ok (.iconst (1), 1) ∧ decode cc 16 = .ok (.ireturn, 1) ∧ decode cc 17 = .ok (.iconst (0), 1) ∧ decode cc 18 = .ok (.ireturn, 1)
def th_h : List (Nat × Nat × Nat × Nat) := [(0, 10, 13, 13)]
def th_c (y : MethodName) (cc : ByteArray) : Jvm.Cond := Jvm.Cond.codeWith y cc 5 (Option.some FieldType.int) [((0 : Nat), (10 : Nat), (13 : Nat), (13 : Nat))]
def th_W (y : MethodName) (cc : ByteArray) (idx z : Nat) : Prop := th_c y cc ∈ ax_Ts ∧ Jvm.Cond.methodLink R_law idx (ax_MT z).1 ∈ ax_Ts ∧ Jvm.Cond.instanceMethod (ax_MT z).1 ∈ ax_Ts ∧ Jvm.Cond.selects (ax_MT z).1.cls (ax_MT z).1 (ax_MT z).1 ∈ ax_Ts ∧ y.cls = R_law ∧ z < ax_NM ∧ (ax_MT z).1.cls = "AskingFragments" ∧ (parseMethodDescriptor (ax_MT z).1.desc).map (fun d => d.parameters.length) = some 2 ∧ (ax_MT z).2.2.2.2.1 ≤ 7
def th_A (A : Nat → Prop) (oa : Nat) : Nat → Prop := fun q => A q ∨ q = oa
def th_rm0 : Room := { frames := 20, cells := 0, slots := 0, locals := 2000 }
def th_rm1 : Room := { frames := 20, cells := 1, slots := 6, locals := 2000 }
def th_P (Dg : va_G) (A : Nat → Prop) (cA : Nat → ClassId) (ad adV : Nat → Nat) (vF : Value) (oa : Nat) (a b : Int32) (ν : ax_M) : Array Value → State → Prop := fun v U => v = ([.ref (ad 0), .int a, .int b, .ref oa] : List Value).toArray ∧ ax_W Dg ax_cl A cA ad ax_sh ax_NC ν U.heap ∧ va_K Dg ax_cl (ax_ty cA) U ∧ (ax_X ad adV A vF U ∧ tn_Z A U) ∧ la_Out Dg cA oa U.heap
theorem th_blind {Dg : va_G} {A : Nat → Prop} {cA : Nat → ClassId} {ad adV : Nat → Nat} {vF : Value} {oa : Nat} {a b : Int32} {ν : ax_M} : FrameBlind (th_P Dg A cA ad adV vF oa a b ν) :=
  fun v U g mk h => ⟨h.1, h.2.1, va_K.moved (u := U) (U := U.calling g mk v) (Vm.Alike.refl U.vm) h.2.2.1, ⟨ax_Xf _ _ _ _ h.2.2.2.1.1, tn_Zf _ _ _ _ h.2.2.2.1.2⟩, h.2.2.2.2⟩
theorem th_sub {w : Jvm.Cond} (h : w ∈ ax_Ts) : w ∈ ax_Ts ∧ ((w.onTables && w.keeps) = true ∨ ∃ ty, w = .arrayClass ty) := ⟨h, Or.inl (List.mem_filter.mp h).2⟩
theorem th_goodW {z : Nat} (hz : z < ax_NM) : GoodIn ax_Ts (ax_ws ax_Ts (ax_MT z)) := fun w hw => by
  rcases List.mem_cons.mp hw with rfl | hw
  · exact th_sub (ax_mt_ok z hz).1
  · exact th_sub hw
theorem th_upd {f : Nat → Int64} {x : Int64} : vp_updL f (0 : Int32).toNatClampNeg x 0 = x := by
  simp [vp_updL]
section TH
variable {p : Program} {l : Launch} {e : Env} {R : Room} {s : State} {m : MethodId} {args : Array Value} {below : List Frame} {meth : Method} {c : Code} {D : va_G} {cl : List vw_C} {A : Nat → Prop} {a : Nat} {tys : List (ClassId × FieldType)} {ws : va_W} {H H0 : Heap} {locs : List Loc} {cells slots : Nat} {Q : State → Prop} {cc : ByteArray} {pc : Nat} {ls : Array Slot} {rest : List Value}
theorem th_last (hexec : p.tables.exec = Jvm.exec) (hb : c.code = cc) (hK : va_K D cl tys s) (hP : va_P D cl ws H) (hD : va_D A ws) (hS : va_S A H0 H locs) (q0 t0 : Nat) {cA : ClassId} {n : Nat} {f : Nat → Int64} (ha : ws[q0]? = some (a, .inl (cA, n, .inr (.inl f)))) (ht : tys[t0]? = some (cA, .long)) {i : Int32} {x : Int64} (hin : vp_in i n) (hdg : decode cc pc = .ok (.lastore, 1))
    (kk : ∀ (H1 : Heap) (locs1 : List Loc), va_P D cl (ws.set q0 (a, .inl (cA, n, .inr (.inl (vp_updL f i.toNatClampNeg x))))) H1 → (∀ q : Nat, q ≠ a → H1[q]? = H[q]?) → va_S A H0 H1 locs1 → W p l e R s m args below meth c H1 locs1 cells slots Q (F0 m (pc + 1) ls rest)) : W p l e R s m args below meth c H locs cells slots Q (F0 m pc ls (.long x :: .int i :: .ref a :: rest)) := by
  refine W.last hexec hb (hP q0 _ ha) ((hK.2 t0 _ ht).1 n (fun j => .long (f j))) (fun q => by cases q) (by show ¬ (i < 0 ∨ (arrV _ _ _).slots.size ≤ _); rw [arrV_size]; exact hin) rfl rfl hdg fun H1 e z oq => ?_
  refine kk H1 _ (hP.set hD ha ?_ oq) oq (hS.put z oq (hD.2 q0 _ ha))
  show H1[a]? = some (vp_cell _ _)
  rw [e]
  rw [vp_cell_l, vp_cell_l, arrV_store]
  congr 2
  funext q
  by_cases hq : q = i.toNatClampNeg
  · subst hq
    simp [updV, vp_updL]
  · simp [updV, vp_updL, hq]
end TH
theorem th_ret {y : MethodName} {cc : ByteArray} {idx z : Nat} (hD : th_D cc idx) (hw : th_W y cc idx z) (l : Launch) (Dg : va_G) (A : Nat → Prop) (cA : Nat → ClassId) (ad adV : Nat → Nat) (vF : Value) {oa : Nat} (hoa : ¬ A oa) {a b r : Int32} {ν ν1 : ax_M} (h : aJ (ax_EN z) [.ref 0, .int a, .int b] [] ν = some (some (.int r), ν1)) : Met l y (th_c y cc :: ax_Ts) th_rm0 (th_P Dg A cA ad adV vF oa a b ν) (va_Qi (S := Unit) (fun v _ => v = 0) (fun _ t => ax_W Dg ax_cl A cA ad ax_sh ax_NC ν1 t.heap ∧ ∃ f : Nat → Int64, f 0 = r.toInt64 ∧ va_P Dg ax_cl [(oa, .inl (cA 4, 1, .inr (.inl f)))] t.heap) (th_A A oa)) 0 0 (th_A A oa) := by
  obtain ⟨hd0, hd1, hd2, hd3, hd4, hd5, hd8, hd9, hd10, hd13, hd15, hd16, hd17, hd18⟩ := hD
  obtain ⟨hw1, hw2, hw3, hw4, hw5, hz, hw7, hw8, hw9⟩ := hw
  refine va_MetW (cc := cc) (maxL := 5) (ret := (Option.some FieldType.int)) (by rw [hw5]; decide +kernel) rfl ?_
  intro p e s m args below meth c s₁ B hml hv
  obtain ⟨hv, hW, hK, ⟨hX, hZ⟩, f, hO⟩ := hv
  have hv : args = [Value.ref (ad 0), .int a, .int b, .ref oa].toArray := hv
  subst hv
  have hx := B.exec
  have hb := B.bytes
  have hr := B.returns
  have hts0 := atoms_spec (ws := th_c y cc :: ax_Ts) B.pre
  have hts : ∀ w ∈ ax_Ts, w.before [Value.ref (ad 0), .int a, .int b, .ref oa].toArray s = true := fun w hw => hts0 w (List.mem_cons_of_mem _ hw)
  have hown : s.vm.findClass R_law = some m.cls := by
    rw [← hw5]
    exact findClass_of_methodNamed B.named
  have hlocks := B.notSynchronized
  have hS1 : va_S A s.heap s.heap [] := va_S.rf
  have hS : va_S (th_A A oa) s.heap s.heap [] := va_S.rf
  have hlt : oa < s.heap.size := (hO 0 _ rfl).lt
  have hl := lv_entry [Value.ref (ad 0), .int a, .int b, .ref oa] (n := 5) (Nat.le_of_ble_eq_true rfl)
  rw [lg_entry_eq]
  generalize (lg_sl [Value.ref (ad 0), .int a, .int b, .ref oa] ++ List.replicate (5 - (lg_sl [Value.ref (ad 0), .int a, .int b, .ref oa]).length) Slot.unset).toArray = ls at hl ⊢
  have hl : lv_has ls 5 [(0, .ref (ad 0)), (1, .int a), (2, .int b), (3, .ref oa)] := hl
  refine lv_aload_n hx hb hd0 rfl (lv_at hl 3 rfl) ?_
  refine lv_iconst (v := 0) hx hb hd1 (by decide) ?_
  refine lv_aload_n hx hb hd2 rfl (lv_at hl 0 rfl) ?_
  refine lv_iload_n hx hb hd3 rfl (lv_at hl 1 rfl) ?_
  refine lv_iload_n hx hb hd4 rfl (lv_at hl 2 rfl) ?_
  refine tn_call (R := th_rm0) ⟨hx, hb, hml, hown, hts⟩ (z := z) (o := 0) (index := idx) (As := [.int a, .int b]) (rest := [.int 0, .ref oa]) hz h rfl (by decide) (by rw [hw7]; rfl) hw2 hw3 hw4 hw8 hw9 ⟨by decide, by decide⟩ hK hX hW hS1 (fun _ q => Or.inl q) hS rfl hl.1 (Nat.le_of_ble_eq_true rfl) hd5 ⟨Nat.zero_le _, Nat.zero_le _⟩ (fun H1 locs1 hW1 hS2 hk1 hz1 => ?_)
  refine lv_i2l (v := r.toInt64) hx hb hd8 rfl ?_
  have hO1 : va_P Dg ax_cl [(oa, .inl (cA 4, 1, .inr (.inl f)))] H1 := fun k q hq => by
    match k, hq with
    | 0, hq =>
      cases hq
      exact (hO 0 _ rfl).kept (hk1 oa hlt hoa)
    | k + 1, hq => simp at hq
  have hD1 : va_D (th_A A oa) [(oa, .inl (cA 4, 1, .inr (.inl f)))] := by
    refine ⟨fun i j p q hi hj he => ?_, fun k q hq => ?_⟩
    · match i, j, hi, hj with
      | 0, 0, _, _ => rfl
      | i + 1, _, hi, _ => simp at hi
      | 0, j + 1, _, hj => simp at hj
    · match k, hq with
      | 0, hq =>
        cases hq
        exact Or.inr rfl
      | k + 1, hq => simp at hq
  refine th_last hx hb hK hO1 hD1 hS2 0 3 rfl rfl (by unfold vp_in; decide) hd9 (fun H2 locs2 hO2 hk2 hS3 => ?_)
  have hW2 : ax_W Dg ax_cl A cA ad ax_sh ax_NC ν1 H2 := tn_Wk (fun q _ hq => hk2 q (fun e => hoa (e ▸ hq))) hW1
  refine lv_goto (tgt := 17) hx hb hd10 (by decide) ?_
  refine lv_iconst (v := 0) hx hb hd17 (by decide) ?_
  exact W.iret hx hb hr (fun t ht _ => ⟨⟨0, (), rfl, rfl, by rw [ht]; exact hW2, _, th_upd, by rw [ht]; exact hO2⟩, hS3.F ht⟩) (fun q hq => hS3.2.2 q hq) hd18
theorem th_thr {y : MethodName} {cc : ByteArray} {idx z : Nat} (hD : th_D cc idx) (hw : th_W y cc idx z) (l : Launch) (Dg : va_G) (A : Nat → Prop) (cA : Nat → ClassId) (ad adV : Nat → Nat) (vF : Value) {oa : Nat} (hoa : ¬ A oa) {a b : Int32} {ν : ax_M} (hM : vx_Met l (ax_MT z).1 (ax_ws ax_Ts (ax_MT z)) tn_rm (tn_P Dg A cA ad adV vF [.ref 0, .int a, .int b] ν) (tn_Q A) (tn_XC Dg A cA ad ν) 1 6 A) : Met l y (th_c y cc :: ax_Ts) th_rm1 (th_P Dg A cA ad adV vF oa a b ν) (va_Qi (S := Unit) (fun v _ => v = 1) (fun _ t => ax_W Dg ax_cl A cA ad ax_sh ax_NC ν t.heap ∧ la_Out Dg cA oa t.heap) (th_A A oa)) 1 6 (th_A A oa) := by
  obtain ⟨hd0, hd1, hd2, hd3, hd4, hd5, hd8, hd9, hd10, hd13, hd15, hd16, hd17, hd18⟩ := hD
  obtain ⟨hw1, hw2, hw3, hw4, hw5, hz, hw7, hw8, hw9⟩ := hw
  refine va_MetW (cc := cc) (maxL := 5) (ret := (Option.some FieldType.int)) (by rw [hw5]; decide +kernel) rfl ?_
  intro p e s m args below meth c s₁ B hml hv
  obtain ⟨hv, hW, hK, ⟨hX, hZ⟩, f, hO⟩ := hv
  have hv : args = [Value.ref (ad 0), .int a, .int b, .ref oa].toArray := hv
  subst hv
  have hx := B.exec
  have hb := B.bytes
  have hr := B.returns
  have hts0 := atoms_spec (ws := th_c y cc :: ax_Ts) B.pre
  have hts : ∀ w ∈ ax_Ts, w.before [Value.ref (ad 0), .int a, .int b, .ref oa].toArray s = true := fun w hw => hts0 w (List.mem_cons_of_mem _ hw)
  have hown : s.vm.findClass R_law = some m.cls := by
    rw [← hw5]
    exact findClass_of_methodNamed B.named
  have hlocks := B.notSynchronized
  have hS1 : va_S A s.heap s.heap [] := va_S.rf
  have hS : va_S (th_A A oa) s.heap s.heap [] := va_S.rf
  have hlt : oa < s.heap.size := (hO 0 _ rfl).lt
  have hl := lv_entry [Value.ref (ad 0), .int a, .int b, .ref oa] (n := 5) (Nat.le_of_ble_eq_true rfl)
  rw [lg_entry_eq]
  generalize (lg_sl [Value.ref (ad 0), .int a, .int b, .ref oa] ++ List.replicate (5 - (lg_sl [Value.ref (ad 0), .int a, .int b, .ref oa]).length) Slot.unset).toArray = ls at hl ⊢
  have hl : lv_has ls 5 [(0, .ref (ad 0)), (1, .int a), (2, .int b), (3, .ref oa)] := hl
  refine lv_aload_n hx hb hd0 rfl (lv_at hl 3 rfl) ?_
  refine lv_iconst (v := 0) hx hb hd1 (by decide) ?_
  refine lv_aload_n hx hb hd2 rfl (lv_at hl 0 rfl) ?_
  refine lv_iload_n hx hb hd3 rfl (lv_at hl 1 rfl) ?_
  refine lv_iload_n hx hb hd4 rfl (lv_at hl 2 rfl) ?_
  obtain ⟨hcode, hini, hmL, hpl, hy1, hy2⟩ := ax_mt_ok z hz
  have hrec : ∃ cellB : Cell, s.heap[ad 0]? = some cellB ∧ cellB.vm.isStatics = false ∧ s.vm.findClass (ax_MT z).1.cls = some cellB.cls := by
    obtain ⟨r0, hr0, hr1⟩ := Option.map_eq_some_iff.mp (show (ax_cl[(ax_sh 0).2.1]?).map (fun q => q.1) = some (ax_MT z).1.cls by rw [hw7]; rfl)
    rw [← hr1]
    exact va_recv hK hW.1 hr0 ((ax_w_at (show 0 < ax_NC by decide)).trans (by rw [ax_en_kind0 (show (ax_sh 0).1 = 0 from rfl)]))
  have hp : PreV s s.heap (ax_MT z).1.cls (ad 0) (tn_P Dg A cA ad adV vF [.ref 0, .int a, .int b] ν) [.int a, .int b] :=
    ⟨ax_blind (fun U g mk a h => ⟨ax_Xf U g mk a h.1, tn_Zf U g mk a h.2⟩), hrec, fun U hU hWm => ⟨rfl, by rw [hU]; exact hW, va_K.moved hWm.alike hK, ax_Xc s _ [] hX hS1 U hU hWm, tn_Zc s _ [] hZ hS1 U hU hWm⟩⟩
  have htab : c.exceptionTable.toList = [] ++ (⟨0, 10, 13, 13⟩ : ExceptionTableEntry) :: [] := vx_table (x := y) B (hts0 (th_c y cc) List.mem_cons_self)
  refine vx_calli (A0 := th_A A oa) (R := th_rm1) (vx_runV (C := (ax_MT z).1.cls) (b := ad 0) (As := [.int a, .int b]) (rest := [.int 0, .ref oa]) (y := (ax_MT z).1) (bytes := (ax_MT z).2.1) (maxL := (ax_MT z).2.2.1) (ret := (ax_MT z).2.2.2.1) (ws := ax_ws ax_Ts (ax_MT z)) ⟨hx, hb, hml, hown, hts⟩ hM ⟨callB_of 2 hts (th_goodW hz) rfl rfl rfl (hts _ hini) (hts _ hw2) ⟨hy1, hy2, hw8⟩ ⟨by decide, by show 8 + ((ax_MT z).2.2.1 + 11) + 900 ≤ 2000; omega⟩, hts _ hw3, hts _ hw4⟩ hp rfl rfl hl.1 rfl (lv_room (Nat.le_of_ble_eq_true rfl)) hd5 ⟨by decide, by decide⟩) hS (fun q _ h => Or.inl h) (fun q h => Or.inl h) (fun q _ h => Or.inl h) (fun E ce q9 u t H1 locs1 e1 hal _ hB hz1 hk1 hS2 hce hcv hcl => ?_) (fun r u t H1 locs1 _ _ hf _ _ _ _ => hf.elim)
  obtain ⟨rfl, hW1⟩ := hB
  rw [e1] at hW1
  refine vx_catch (own := R_law) (name := tn_E) (E := tn_E) hown [] ⟨0, 10, 13, 13⟩ [] htab (fun z hz => nomatch hz) (by decide) (by decide) (hts _ (ax_in (ax_wl_at (k := 5) (j := 86) rfl) rfl)) (va_Nw.use rfl hZ.1) hce hcv hcl ?_
  refine lv_astore (lv' := [(4, .ref q9), (0, .ref (ad 0)), (1, .int a), (2, .int b), (3, .ref oa)]) hx hb hd13 hl (by decide) rfl (fun ls hl => ?_)
  refine lv_iconst (v := 1) hx hb hd15 (by decide) ?_
  have hO1 : la_Out Dg cA oa H1 := la_Out_k (hk1 oa hlt hoa) ⟨f, hO⟩
  exact W.iret hx hb hr (fun t ht _ => ⟨⟨1, (), rfl, rfl, by rw [ht]; exact hW1, by rw [ht]; exact hO1⟩, hS2.F ht⟩) (fun q hq => hS2.2.2 q hq) hd16
