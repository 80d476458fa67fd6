/-! t: the class's four methods when they throw -/
theorem tn_Wk {Dg : va_G} {A : Nat → Prop} {cA : Nat → ClassId} {ad : Nat → Nat} {μ : ax_M} {H H1 : Heap} (hk : ∀ q : Nat, q < H.size → A q → H1[q]? = H[q]?) (h : ax_W Dg ax_cl A cA ad ax_sh ax_NC μ H) : ax_W Dg ax_cl A cA ad ax_sh ax_NC μ H1 :=
  ⟨fun k q hq => (h.1 k q hq).kept (hk _ (h.1 k q hq).lt (h.2.2 k q hq)), h.2⟩
section TNC
variable {p : Program} {l : Launch} {e : Env} {R : Room} {s : State} {m : MethodId} {args : Array Value} {below : List Frame} {meth : Method} {c : Code} {Dg : va_G} {A A0 : Nat → Prop} {cA : Nat → ClassId} {ad adV : Nat → Nat} {vF : Value} {H : Heap} {locs : List Loc} {cells slots : Nat} {Q : State → Prop} {ls : Array Slot} {pc nL : Nat} {cc : ByteArray} {own : String} {μ μ1 : ax_M}
/-- a call on one of the program's cells, from any body -/
theorem tn_call (S : CallFix p m c cc nL s args ax_Ts own) {z o index : Nat} {r : Int32} {As rest st0 : List Value} (hz : z < ax_NM) (h : aJ (ax_EN z) (.ref o :: As) [] μ = some (some (.int r), μ1)) (ho0 : (ax_sh o).1 = 0) (hoN : o < ax_NC) (hcl : (ax_cl[(ax_sh o).2.1]?).map (fun q => q.1) = some (ax_MT z).1.cls)
    (hlk : Jvm.Cond.methodLink own index (ax_MT z).1 ∈ ax_Ts) (hin : Jvm.Cond.instanceMethod (ax_MT z).1 ∈ ax_Ts) (hse : Jvm.Cond.selects (ax_MT z).1.cls (ax_MT z).1 (ax_MT z).1 ∈ ax_Ts) (hnp : (parseMethodDescriptor (ax_MT z).1.desc).map (fun d => d.parameters.length) = some As.length) (hrk : (ax_MT z).2.2.2.2.1 ≤ 7) (hR : 8 ≤ R.frames ∧ 600 ≤ R.locals)
    (hK : va_K Dg ax_cl (ax_ty cA) s) (hX : ax_X ad adV A vF s) (hW : ax_W Dg ax_cl A cA ad ax_sh ax_NC μ H) (hS1 : va_S A s.heap H []) (hA : ∀ q, A q → A0 q) (hS : va_S A0 s.heap H locs) (hst : st0 = (As.map (ax_rv ad)).reverse ++ .ref (ad o) :: rest) (hls : ls.size = nL) (hfit : (rest.map fun v => v.category).sum ≤ 8) (hdg : decode cc pc = .ok (.invokevirtual index, 3)) (hcs : cells ≤ R.cells ∧ slots ≤ R.slots)
    (kk : ∀ (H1 : Heap) (locs1 : List Loc), ax_W Dg ax_cl A cA ad ax_sh ax_NC μ1 H1 → va_S A0 s.heap H1 locs1 → (∀ q, q < H.size → ¬ A q → H1[q]? = H[q]?) → H.size ≤ H1.size → W p l e R s m args below meth c H1 locs1 cells slots Q (F0 m (pc + 3) ls (.int r :: rest))) : W p l e R s m args below meth c H locs cells slots Q (F0 m pc ls st0) := by
  have htx := S.2.2.2.2
  obtain ⟨hcode, hini, hmL, hpl, hy1, hy2⟩ := ax_mt_ok z hz
  have hrec : ∃ cellB : Cell, H[ad o]? = some cellB ∧ cellB.vm.isStatics = false ∧ s.vm.findClass (ax_MT z).1.cls = some cellB.cls := by
    obtain ⟨r0, hr0, hr1⟩ := Option.map_eq_some_iff.mp hcl
    rw [← hr1]
    exact va_recv hK hW.1 hr0 ((ax_w_at hoN).trans (by rw [ax_en_kind0 ho0]))
  have hG : GoodIn ax_Ts (ax_ws ax_Ts (ax_MT z)) := fun w hw => by
    rcases List.mem_cons.mp hw with rfl | hw
    · exact ⟨hcode, Or.inl (List.mem_filter.mp hcode).2⟩
    · exact ⟨hw, Or.inl (List.mem_filter.mp hw).2⟩
  have hR2 : (ax_rm (ax_MT z).2.2.2.2.1).frames + 1 ≤ R.frames ∧ 8 + ((ax_MT z).2.2.1 + 11) + (ax_rm (ax_MT z).2.2.2.2.1).locals ≤ R.locals := by
    refine ⟨?_, ?_⟩
    · show (ax_MT z).2.2.2.2.1 + 1 ≤ R.frames
      omega
    · show 8 + ((ax_MT z).2.2.1 + 11) + 60 * (ax_MT z).2.2.2.2.1 ≤ R.locals
      omega
  have hM := ax_run (l := l) (Dg := Dg) (A := A) (cA := cA) (ad := ad) (adV := adV) (vF := vF) hz h
  have hp : PreV s H (ax_MT z).1.cls (ad o) (ax_P Dg ax_cl A cA ad ax_sh ax_NC (ax_X ad adV A vF) (.ref o :: As) μ) (As.map (ax_rv ad)) :=
    ⟨ax_blind ax_Xf, hrec, fun U hU hWm => ⟨rfl, by rw [hU]; exact hW, va_K.moved hWm.alike hK, ax_Xc s H [] hX hS1 U hU hWm⟩⟩
  have hnp' : (parseMethodDescriptor (ax_MT z).1.desc).map (fun d => d.parameters.length) = some (As.map (ax_rv ad)).length := by rw [List.length_map]; exact hnp
  have hr := va_runV (e := e) (below := below) (meth := meth) (locs := locs) (y := (ax_MT z).1) (bytes := (ax_MT z).2.1) (maxL := (ax_MT z).2.2.1) (ret := (ax_MT z).2.2.2.1) (ws := ax_ws ax_Ts (ax_MT z)) (rest := rest) (g := F0 m pc ls st0) S hM ⟨callB_of (As.map (ax_rv ad)).length htx hG rfl rfl rfl (htx _ hini) (htx _ hlk) ⟨hy1, hy2, hnp'⟩ hR2, htx _ hin, htx _ hse⟩ hp rfl rfl hls hst (by simpa [JFrame.monitorRoom] using hfit) hdg ⟨hcs.1, hcs.2⟩
  intro T hT X
  obtain ⟨v, st₀, t, T', L, h0, X', hL, e1, e2, ⟨hv, hw, hz1, hk⟩, st⟩ := hr T hT X
  cases hv
  rw [h0] at hz1 hk
  obtain ⟨t2, a1, b1⟩ := kk T'.heap (locs ++ L) (by rw [e1]; exact hw)
    ⟨Nat.le_trans hS.1 (by rw [e1]; exact hz1), fun q h1 h2 => by rw [e1, hk q (Nat.lt_of_lt_of_le h1 hS.1) (fun z => h2 (hA q z))]; exact hS.2.1 q h1 h2, fun q hq => by
      rcases List.mem_append.mp hq with h | h
      · exact hS.2.2 q h
      · exact hA _ (hL q h)⟩ (fun q h1 h2 => by rw [e1]; exact hk q h1 h2) (by rw [e1]; exact hz1) T' rfl X'
  exact ⟨t2, st t2 a1, b1⟩
end TNC
theorem tn_no {b k : Int32} (h : ¬ b < 0) (h2 : b < 0 ∨ k ≤ b) (h1 : b < k) : False := by
  rcases h2 with h2 | h2
  · exact h h2
  · exact absurd (Int32.lt_iff_toInt_lt.mp h1) (by have := Int32.le_iff_toInt_le.mp h2; omega)
theorem tn_noF {b : Int32} (h : ¬ b < 0) (h2 : b < 0 ∨ 5 ≤ b) (h1 : b ≤ 4) : False := by
  rcases h2 with h2 | h2
  · exact h h2
  · have a := Int32.le_iff_toInt_le.mp h1
    have c := Int32.le_iff_toInt_le.mp h2
    have e4 : (4 : Int32).toInt = 4 := by decide
    have e5 : (5 : Int32).toInt = 5 := by decide
    omega
theorem tn_out {b : Int32} (h2 : b < 0 ∨ 6 ≤ b) : b.toInt < 0 ∨ 5 < b.toInt := by
  rcases h2 with h2 | h2
  · have := Int32.lt_iff_toInt_lt.mp h2
    have e0 : (0 : Int32).toInt = 0 := by decide
    omega
  · have := Int32.le_iff_toInt_le.mp h2
    have e6 : (6 : Int32).toInt = 6 := by decide
    omega
def tn_rm : Room := { frames := 10, cells := 1, slots := 6, locals := 900 }
def tn_P (Dg : va_G) (A : Nat → Prop) (cA : Nat → ClassId) (ad adV : Nat → Nat) (vF : Value) (as : List Value) (μ : ax_M) : Array Value → State → Prop := ax_P Dg ax_cl A cA ad ax_sh ax_NC (fun U => ax_X ad adV A vF U ∧ tn_Z A U) as μ
def tn_XC (Dg : va_G) (A : Nat → Prop) (cA : Nat → ClassId) (ad : Nat → Nat) (μ : ax_M) : String → State → State → Prop := vx_X (S := Unit) (fun _ => True) (fun E _ t => E = tn_E ∧ ax_W Dg ax_cl A cA ad ax_sh ax_NC μ t.heap) A
def tn_Q (A : Nat → Prop) : Array Value → State → Outcome → State → Prop := va_Qi (S := Unit) (fun _ _ => False) (fun _ _ => True) A
section TNT
variable {p : Program} {l : Launch} {e : Env} {s : State} {m : MethodId} {args : Array Value} {below : List Frame} {meth : Method} {c : Code} {Dg : va_G} {A : Nat → Prop} {cA : Nat → ClassId} {ad : Nat → Nat} {H : Heap} {locs : List Loc} {ls : Array Slot} {pc : Nat} {cc : ByteArray} {μ : ax_M} {Qc : Array Value → State → Outcome → State → Prop}
theorem tn_throw (hexec : p.tables.exec = Jvm.exec) (hb : c.code = cc) (hl : l.stackTraces = false) (hown : s.vm.findClass "AskingFragments" = some m.cls) (htx : ∀ w ∈ ax_Ts, w.before args s = true) (hZ : tn_Z A s) (hS : va_S A s.heap H locs) (hsize : ls.size = c.maxLocals) (ht : ∀ x ∈ c.exceptionTable.toList, False) (hlocks : meth.locks = false) (hW : ax_W Dg ax_cl A cA ad ax_sh ax_NC μ H)
    (d0 : decode cc pc = .ok (.new 130, 3)) (d3 : decode cc (pc + 3) = .ok (.dup, 1)) (d4 : decode cc (pc + 4) = .ok (.invokespecial 132, 3)) (d7 : decode cc (pc + 7) = .ok (.athrow, 1)) :
    W p l e tn_rm s m args below meth c H locs 0 0 (vx_MQ below Qc (tn_XC Dg A cA ad μ) args s 1 6 A) (F0 m pc ls []) := by
  refine vx_throw0 (own := "AskingFragments") (cls := tn_E) (names := tn_ns) (ik := 130) (ic := 132) (A := A) hexec hb hl hown (by decide +kernel) (by decide +kernel) (htx _ (ax_in (ax_wl_at (k := 5) (j := 91) rfl) rfl)) (htx _ (ax_in (ax_wl_at (k := 1) (j := 19) rfl) rfl)) (tn_at htx hZ) tn_ot hZ.2.2.2.2.1 hZ.2.2.2.2.2 hS hsize d0 d3 d4 d7 (fun x hx => (ht x hx).elim) (by decide) (by decide) (by decide) (by decide) hlocks (fun t _ h1 h2 => ⟨(), trivial, ⟨rfl, tn_Wk (fun q hq _ => h2 q hq) hW⟩, Nat.le_trans hS.1 h1, fun q hq hA => (h2 q (Nat.lt_of_lt_of_le hq hS.1)).trans (hS.2.1 q hq hA)⟩) (fun z hz => hS.2.2 z hz) (by decide) (by decide)
end TNT
theorem td_node_0 : decode prog_1_method_7_code 0 = .ok (.aload_n 0, 1) := by decide +kernel
theorem td_node_1 : decode prog_1_method_7_code 1 = .ok (.iload_n 1, 1) := by decide +kernel
theorem td_node_2 : decode prog_1_method_7_code 2 = .ok (.invokevirtual 126, 3) := by decide +kernel
theorem td_node_5 : decode prog_1_method_7_code 5 = .ok (.ifCond .eq (13), 3) := by decide +kernel
theorem td_node_8 : decode prog_1_method_7_code 8 = .ok (.iload_n 2, 1) := by decide +kernel
theorem td_node_9 : decode prog_1_method_7_code 9 = .ok (.ifCond .lt (9), 3) := by decide +kernel
theorem td_node_12 : decode prog_1_method_7_code 12 = .ok (.iload_n 2, 1) := by decide +kernel
theorem td_node_13 : decode prog_1_method_7_code 13 = .ok (.bipush (11), 2) := by decide +kernel
theorem td_node_15 : decode prog_1_method_7_code 15 = .ok (.if_icmp .lt (11), 3) := by decide +kernel
theorem td_node_18 : decode prog_1_method_7_code 18 = .ok (.new 130, 3) := by decide +kernel
theorem td_node_21 : decode prog_1_method_7_code 21 = .ok (.dup, 1) := by decide +kernel
theorem td_node_22 : decode prog_1_method_7_code 22 = .ok (.invokespecial 132, 3) := by decide +kernel
theorem td_node_25 : decode prog_1_method_7_code 25 = .ok (.athrow, 1) := by decide +kernel
theorem tc_node (l : Launch) (hlt : l.stackTraces = false) (Dg : va_G) (A : Nat → Prop) (cA : Nat → ClassId) (ad adV : Nat → Nat) (vF : Value) {a b : Int32} {μ : ax_M} (hq : aJ 808 [.ref 0, .int a] [] μ = some (some (.int 0), μ) ∨ (aJ 808 [.ref 0, .int a] [] μ = some (some (.int 1), μ) ∧ (b < 0 ∨ 11 ≤ b))) : vx_Met l (ax_MT 140).1 (ax_ws ax_Ts (ax_MT 140)) tn_rm (tn_P Dg A cA ad adV vF [.ref 0, .int a, .int b] μ) (tn_Q A) (tn_XC Dg A cA ad μ) 1 6 A := by
  refine vx_ofW (cc := prog_1_method_7_code) (maxL := 3) (ret := (Option.some FieldType.int)) (by decide +kernel) rfl ?_
  intro p e s m args below meth c s₁ B hml ht hv
  obtain ⟨hv, hW, hK, hX, hZ⟩ := hv
  have hv : args = [Value.ref (ad 0), .int a, .int b].toArray := hv
  subst hv
  have hx := B.exec
  have hb := B.bytes
  have hts0 := atoms_spec (ws := ax_ws ax_Ts (ax_MT 140)) B.pre
  have hts : ∀ w ∈ ax_Ts, w.before [Value.ref (ad 0), .int a, .int b].toArray s = true := fun w hw => hts0 w (List.mem_cons_of_mem _ hw)
  have hown : s.vm.findClass "AskingFragments" = some m.cls := findClass_of_methodNamed B.named
  have hlocks := B.notSynchronized
  have hS : va_S A s.heap s.heap [] := va_S.rf
  have hl := lv_entry [Value.ref (ad 0), .int a, .int b] (n := 3) (Nat.le_of_ble_eq_true rfl)
  rw [lg_entry_eq]
  generalize (lg_sl [Value.ref (ad 0), .int a, .int b] ++ List.replicate (3 - (lg_sl [Value.ref (ad 0), .int a, .int b]).length) Slot.unset).toArray = ls at hl ⊢
  have hl : lv_has ls 3 [(0, .ref (ad 0)), (1, .int a), (2, .int b)] := hl
  show W p l e tn_rm s m _ below meth c s.heap [] 0 0 _ _
  refine lv_aload_n hx hb td_node_0 rfl (lv_at hl 0 rfl) ?_
  refine lv_iload_n hx hb td_node_1 rfl (lv_at hl 1 rfl) ?_
  rcases hq with hq | ⟨hq, hb2⟩
  · refine tn_call ⟨hx, hb, hml, hown, hts⟩ (z := 173) (o := 0) (index := 126) (As := [.int a]) (rest := []) (by decide) hq rfl (by decide) rfl (ax_in (ax_wl_at (k := 3) (j := 152) rfl) rfl) (ax_in (ax_wl_at (k := 3) (j := 154) rfl) rfl) (ax_in (ax_wl_at (k := 0) (j := 21) rfl) rfl) (show (parseMethodDescriptor (ax_MT 173).1.desc).map (fun d => d.parameters.length) = some 1 by decide +kernel) (by decide) ⟨by decide, by decide⟩ hK hX hW hS (fun _ q => q) hS rfl hl.1 (Nat.le_of_ble_eq_true rfl) td_node_2 ⟨Nat.zero_le _, Nat.zero_le _⟩ (fun H1 locs1 hW1 hS1 _ _ => ?_)
    refine lv_if_eq (tgt := 18) hx hb td_node_5 (by decide) (fun _ => ?_) (fun h => absurd rfl h)
    exact tn_throw hx hb hlt hown hts hZ hS1 (hl.1.trans hml.symm) ht hlocks hW1 td_node_18 td_node_21 td_node_22 td_node_25
  · refine tn_call ⟨hx, hb, hml, hown, hts⟩ (z := 173) (o := 0) (index := 126) (As := [.int a]) (rest := []) (by decide) hq rfl (by decide) rfl (ax_in (ax_wl_at (k := 3) (j := 152) rfl) rfl) (ax_in (ax_wl_at (k := 3) (j := 154) rfl) rfl) (ax_in (ax_wl_at (k := 0) (j := 21) rfl) rfl) (show (parseMethodDescriptor (ax_MT 173).1.desc).map (fun d => d.parameters.length) = some 1 by decide +kernel) (by decide) ⟨by decide, by decide⟩ hK hX hW hS (fun _ q => q) hS rfl hl.1 (Nat.le_of_ble_eq_true rfl) td_node_2 ⟨Nat.zero_le _, Nat.zero_le _⟩ (fun H1 locs1 hW1 hS1 _ _ => ?_)
    refine lv_if_eq (tgt := 18) hx hb td_node_5 (by decide) (fun h => absurd h (by decide)) (fun _ => ?_)
    refine lv_iload_n hx hb td_node_8 rfl (lv_at hl 2 rfl) ?_
    refine lv_if_lt (tgt := 18) hx hb td_node_9 (by decide) (fun _ => ?_) (fun h => ?_)
    · exact tn_throw hx hb hlt hown hts hZ hS1 (hl.1.trans hml.symm) ht hlocks hW1 td_node_18 td_node_21 td_node_22 td_node_25
    · refine lv_iload_n hx hb td_node_12 rfl (lv_at hl 2 rfl) ?_
      refine lv_bipush (v := 11) hx hb td_node_13 rfl ?_
      refine lv_icmp_lt (tgt := 26) hx hb td_node_15 (by decide) (fun h1 => ?_) (fun _ => ?_)
      · exact (tn_no h hb2 h1).elim
      · exact tn_throw hx hb hlt hown hts hZ hS1 (hl.1.trans hml.symm) ht hlocks hW1 td_node_18 td_node_21 td_node_22 td_node_25
theorem td_letter_0 : decode prog_1_method_9_code 0 = .ok (.aload_n 0, 1) := by decide +kernel
theorem td_letter_1 : decode prog_1_method_9_code 1 = .ok (.iload_n 1, 1) := by decide +kernel
theorem td_letter_2 : decode prog_1_method_9_code 2 = .ok (.invokevirtual 162, 3) := by decide +kernel
theorem td_letter_5 : decode prog_1_method_9_code 5 = .ok (.ifCond .eq (13), 3) := by decide +kernel
theorem td_letter_8 : decode prog_1_method_9_code 8 = .ok (.iload_n 2, 1) := by decide +kernel
theorem td_letter_9 : decode prog_1_method_9_code 9 = .ok (.ifCond .lt (9), 3) := by decide +kernel
theorem td_letter_12 : decode prog_1_method_9_code 12 = .ok (.iload_n 2, 1) := by decide +kernel
theorem td_letter_13 : decode prog_1_method_9_code 13 = .ok (.bipush (7), 2) := by decide +kernel
theorem td_letter_15 : decode prog_1_method_9_code 15 = .ok (.if_icmp .lt (11), 3) := by decide +kernel
theorem td_letter_18 : decode prog_1_method_9_code 18 = .ok (.new 130, 3) := by decide +kernel
theorem td_letter_21 : decode prog_1_method_9_code 21 = .ok (.dup, 1) := by decide +kernel
theorem td_letter_22 : decode prog_1_method_9_code 22 = .ok (.invokespecial 132, 3) := by decide +kernel
theorem td_letter_25 : decode prog_1_method_9_code 25 = .ok (.athrow, 1) := by decide +kernel
theorem tc_letter (l : Launch) (hlt : l.stackTraces = false) (Dg : va_G) (A : Nat → Prop) (cA : Nat → ClassId) (ad adV : Nat → Nat) (vF : Value) {a b : Int32} {μ : ax_M} (hq : aJ 817 [.ref 0, .int a] [] μ = some (some (.int 0), μ) ∨ (aJ 817 [.ref 0, .int a] [] μ = some (some (.int 1), μ) ∧ (b < 0 ∨ 7 ≤ b))) : vx_Met l (ax_MT 142).1 (ax_ws ax_Ts (ax_MT 142)) tn_rm (tn_P Dg A cA ad adV vF [.ref 0, .int a, .int b] μ) (tn_Q A) (tn_XC Dg A cA ad μ) 1 6 A := by
  refine vx_ofW (cc := prog_1_method_9_code) (maxL := 3) (ret := (Option.some FieldType.int)) (by decide +kernel) rfl ?_
  intro p e s m args below meth c s₁ B hml ht hv
  obtain ⟨hv, hW, hK, hX, hZ⟩ := hv
  have hv : args = [Value.ref (ad 0), .int a, .int b].toArray := hv
  subst hv
  have hx := B.exec
  have hb := B.bytes
  have hts0 := atoms_spec (ws := ax_ws ax_Ts (ax_MT 142)) B.pre
  have hts : ∀ w ∈ ax_Ts, w.before [Value.ref (ad 0), .int a, .int b].toArray s = true := fun w hw => hts0 w (List.mem_cons_of_mem _ hw)
  have hown : s.vm.findClass "AskingFragments" = some m.cls := findClass_of_methodNamed B.named
  have hlocks := B.notSynchronized
  have hS : va_S A s.heap s.heap [] := va_S.rf
  have hl := lv_entry [Value.ref (ad 0), .int a, .int b] (n := 3) (Nat.le_of_ble_eq_true rfl)
  rw [lg_entry_eq]
  generalize (lg_sl [Value.ref (ad 0), .int a, .int b] ++ List.replicate (3 - (lg_sl [Value.ref (ad 0), .int a, .int b]).length) Slot.unset).toArray = ls at hl ⊢
  have hl : lv_has ls 3 [(0, .ref (ad 0)), (1, .int a), (2, .int b)] := hl
  show W p l e tn_rm s m _ below meth c s.heap [] 0 0 _ _
  refine lv_aload_n hx hb td_letter_0 rfl (lv_at hl 0 rfl) ?_
  refine lv_iload_n hx hb td_letter_1 rfl (lv_at hl 1 rfl) ?_
  rcases hq with hq | ⟨hq, hb2⟩
  · refine tn_call ⟨hx, hb, hml, hown, hts⟩ (z := 176) (o := 0) (index := 162) (As := [.int a]) (rest := []) (by decide) hq rfl (by decide) rfl (ax_in (ax_wl_at (k := 5) (j := 27) rfl) rfl) (ax_in (ax_wl_at (k := 5) (j := 29) rfl) rfl) (ax_in (ax_wl_at (k := 0) (j := 54) rfl) rfl) (show (parseMethodDescriptor (ax_MT 176).1.desc).map (fun d => d.parameters.length) = some 1 by decide +kernel) (by decide) ⟨by decide, by decide⟩ hK hX hW hS (fun _ q => q) hS rfl hl.1 (Nat.le_of_ble_eq_true rfl) td_letter_2 ⟨Nat.zero_le _, Nat.zero_le _⟩ (fun H1 locs1 hW1 hS1 _ _ => ?_)
    refine lv_if_eq (tgt := 18) hx hb td_letter_5 (by decide) (fun _ => ?_) (fun h => absurd rfl h)
    exact tn_throw hx hb hlt hown hts hZ hS1 (hl.1.trans hml.symm) ht hlocks hW1 td_letter_18 td_letter_21 td_letter_22 td_letter_25
  · refine tn_call ⟨hx, hb, hml, hown, hts⟩ (z := 176) (o := 0) (index := 162) (As := [.int a]) (rest := []) (by decide) hq rfl (by decide) rfl (ax_in (ax_wl_at (k := 5) (j := 27) rfl) rfl) (ax_in (ax_wl_at (k := 5) (j := 29) rfl) rfl) (ax_in (ax_wl_at (k := 0) (j := 54) rfl) rfl) (show (parseMethodDescriptor (ax_MT 176).1.desc).map (fun d => d.parameters.length) = some 1 by decide +kernel) (by decide) ⟨by decide, by decide⟩ hK hX hW hS (fun _ q => q) hS rfl hl.1 (Nat.le_of_ble_eq_true rfl) td_letter_2 ⟨Nat.zero_le _, Nat.zero_le _⟩ (fun H1 locs1 hW1 hS1 _ _ => ?_)
    refine lv_if_eq (tgt := 18) hx hb td_letter_5 (by decide) (fun h => absurd h (by decide)) (fun _ => ?_)
    refine lv_iload_n hx hb td_letter_8 rfl (lv_at hl 2 rfl) ?_
    refine lv_if_lt (tgt := 18) hx hb td_letter_9 (by decide) (fun _ => ?_) (fun h => ?_)
    · exact tn_throw hx hb hlt hown hts hZ hS1 (hl.1.trans hml.symm) ht hlocks hW1 td_letter_18 td_letter_21 td_letter_22 td_letter_25
    · refine lv_iload_n hx hb td_letter_12 rfl (lv_at hl 2 rfl) ?_
      refine lv_bipush (v := 7) hx hb td_letter_13 rfl ?_
      refine lv_icmp_lt (tgt := 26) hx hb td_letter_15 (by decide) (fun h1 => ?_) (fun _ => ?_)
      · exact (tn_no h hb2 h1).elim
      · exact tn_throw hx hb hlt hown hts hZ hS1 (hl.1.trans hml.symm) ht hlocks hW1 td_letter_18 td_letter_21 td_letter_22 td_letter_25
theorem td_fragment_0 : decode prog_1_method_23_code 0 = .ok (.aload_n 0, 1) := by decide +kernel
theorem td_fragment_1 : decode prog_1_method_23_code 1 = .ok (.iload_n 1, 1) := by decide +kernel
theorem td_fragment_2 : decode prog_1_method_23_code 2 = .ok (.invokevirtual 126, 3) := by decide +kernel
theorem td_fragment_5 : decode prog_1_method_23_code 5 = .ok (.ifCond .eq (12), 3) := by decide +kernel
theorem td_fragment_8 : decode prog_1_method_23_code 8 = .ok (.iload_n 2, 1) := by decide +kernel
theorem td_fragment_9 : decode prog_1_method_23_code 9 = .ok (.ifCond .lt (8), 3) := by decide +kernel
theorem td_fragment_12 : decode prog_1_method_23_code 12 = .ok (.iload_n 2, 1) := by decide +kernel
theorem td_fragment_13 : decode prog_1_method_23_code 13 = .ok (.iconst (4), 1) := by decide +kernel
theorem td_fragment_14 : decode prog_1_method_23_code 14 = .ok (.if_icmp .le (11), 3) := by decide +kernel
theorem td_fragment_17 : decode prog_1_method_23_code 17 = .ok (.new 130, 3) := by decide +kernel
theorem td_fragment_20 : decode prog_1_method_23_code 20 = .ok (.dup, 1) := by decide +kernel
theorem td_fragment_21 : decode prog_1_method_23_code 21 = .ok (.invokespecial 132, 3) := by decide +kernel
theorem td_fragment_24 : decode prog_1_method_23_code 24 = .ok (.athrow, 1) := by decide +kernel
theorem tc_fragment (l : Launch) (hlt : l.stackTraces = false) (Dg : va_G) (A : Nat → Prop) (cA : Nat → ClassId) (ad adV : Nat → Nat) (vF : Value) {a b : Int32} {μ : ax_M} (hq : aJ 808 [.ref 0, .int a] [] μ = some (some (.int 0), μ) ∨ (aJ 808 [.ref 0, .int a] [] μ = some (some (.int 1), μ) ∧ (b < 0 ∨ 5 ≤ b))) : vx_Met l (ax_MT 156).1 (ax_ws ax_Ts (ax_MT 156)) tn_rm (tn_P Dg A cA ad adV vF [.ref 0, .int a, .int b] μ) (tn_Q A) (tn_XC Dg A cA ad μ) 1 6 A := by
  refine vx_ofW (cc := prog_1_method_23_code) (maxL := 4) (ret := (Option.some FieldType.int)) (by decide +kernel) rfl ?_
  intro p e s m args below meth c s₁ B hml ht hv
  obtain ⟨hv, hW, hK, hX, hZ⟩ := hv
  have hv : args = [Value.ref (ad 0), .int a, .int b].toArray := hv
  subst hv
  have hx := B.exec
  have hb := B.bytes
  have hts0 := atoms_spec (ws := ax_ws ax_Ts (ax_MT 156)) B.pre
  have hts : ∀ w ∈ ax_Ts, w.before [Value.ref (ad 0), .int a, .int b].toArray s = true := fun w hw => hts0 w (List.mem_cons_of_mem _ hw)
  have hown : s.vm.findClass "AskingFragments" = some m.cls := findClass_of_methodNamed B.named
  have hlocks := B.notSynchronized
  have hS : va_S A s.heap s.heap [] := va_S.rf
  have hl := lv_entry [Value.ref (ad 0), .int a, .int b] (n := 4) (Nat.le_of_ble_eq_true rfl)
  rw [lg_entry_eq]
  generalize (lg_sl [Value.ref (ad 0), .int a, .int b] ++ List.replicate (4 - (lg_sl [Value.ref (ad 0), .int a, .int b]).length) Slot.unset).toArray = ls at hl ⊢
  have hl : lv_has ls 4 [(0, .ref (ad 0)), (1, .int a), (2, .int b)] := hl
  show W p l e tn_rm s m _ below meth c s.heap [] 0 0 _ _
  refine lv_aload_n hx hb td_fragment_0 rfl (lv_at hl 0 rfl) ?_
  refine lv_iload_n hx hb td_fragment_1 rfl (lv_at hl 1 rfl) ?_
  rcases hq with hq | ⟨hq, hb2⟩
  · refine tn_call ⟨hx, hb, hml, hown, hts⟩ (z := 173) (o := 0) (index := 126) (As := [.int a]) (rest := []) (by decide) hq rfl (by decide) rfl (ax_in (ax_wl_at (k := 3) (j := 152) rfl) rfl) (ax_in (ax_wl_at (k := 3) (j := 154) rfl) rfl) (ax_in (ax_wl_at (k := 0) (j := 21) rfl) rfl) (show (parseMethodDescriptor (ax_MT 173).1.desc).map (fun d => d.parameters.length) = some 1 by decide +kernel) (by decide) ⟨by decide, by decide⟩ hK hX hW hS (fun _ q => q) hS rfl hl.1 (Nat.le_of_ble_eq_true rfl) td_fragment_2 ⟨Nat.zero_le _, Nat.zero_le _⟩ (fun H1 locs1 hW1 hS1 _ _ => ?_)
    refine lv_if_eq (tgt := 17) hx hb td_fragment_5 (by decide) (fun _ => ?_) (fun h => absurd rfl h)
    exact tn_throw hx hb hlt hown hts hZ hS1 (hl.1.trans hml.symm) ht hlocks hW1 td_fragment_17 td_fragment_20 td_fragment_21 td_fragment_24
  · refine tn_call ⟨hx, hb, hml, hown, hts⟩ (z := 173) (o := 0) (index := 126) (As := [.int a]) (rest := []) (by decide) hq rfl (by decide) rfl (ax_in (ax_wl_at (k := 3) (j := 152) rfl) rfl) (ax_in (ax_wl_at (k := 3) (j := 154) rfl) rfl) (ax_in (ax_wl_at (k := 0) (j := 21) rfl) rfl) (show (parseMethodDescriptor (ax_MT 173).1.desc).map (fun d => d.parameters.length) = some 1 by decide +kernel) (by decide) ⟨by decide, by decide⟩ hK hX hW hS (fun _ q => q) hS rfl hl.1 (Nat.le_of_ble_eq_true rfl) td_fragment_2 ⟨Nat.zero_le _, Nat.zero_le _⟩ (fun H1 locs1 hW1 hS1 _ _ => ?_)
    refine lv_if_eq (tgt := 17) hx hb td_fragment_5 (by decide) (fun h => absurd h (by decide)) (fun _ => ?_)
    refine lv_iload_n hx hb td_fragment_8 rfl (lv_at hl 2 rfl) ?_
    refine lv_if_lt (tgt := 17) hx hb td_fragment_9 (by decide) (fun _ => ?_) (fun h => ?_)
    · exact tn_throw hx hb hlt hown hts hZ hS1 (hl.1.trans hml.symm) ht hlocks hW1 td_fragment_17 td_fragment_20 td_fragment_21 td_fragment_24
    · refine lv_iload_n hx hb td_fragment_12 rfl (lv_at hl 2 rfl) ?_
      refine lv_iconst (v := 4) hx hb td_fragment_13 (by decide) ?_
      refine lv_icmp_le (tgt := 25) hx hb td_fragment_14 (by decide) (fun h1 => ?_) (fun _ => ?_)
      · exact (tn_noF h hb2 h1).elim
      · exact tn_throw hx hb hlt hown hts hZ hS1 (hl.1.trans hml.symm) ht hlocks hW1 td_fragment_17 td_fragment_20 td_fragment_21 td_fragment_24
theorem td_edge_0 : decode prog_1_method_8_code 0 = .ok (.aload_n 0, 1) := by decide +kernel
theorem td_edge_1 : decode prog_1_method_8_code 1 = .ok (.iload_n 1, 1) := by decide +kernel
theorem td_edge_2 : decode prog_1_method_8_code 2 = .ok (.invokevirtual 137, 3) := by decide +kernel
theorem td_edge_5 : decode prog_1_method_8_code 5 = .ok (.ifCond .ne (11), 3) := by decide +kernel
theorem td_edge_8 : decode prog_1_method_8_code 8 = .ok (.new 130, 3) := by decide +kernel
theorem td_edge_11 : decode prog_1_method_8_code 11 = .ok (.dup, 1) := by decide +kernel
theorem td_edge_12 : decode prog_1_method_8_code 12 = .ok (.invokespecial 132, 3) := by decide +kernel
theorem td_edge_15 : decode prog_1_method_8_code 15 = .ok (.athrow, 1) := by decide +kernel
theorem td_edge_16 : decode prog_1_method_8_code 16 = .ok (.iload_n 2, 1) := by decide +kernel
theorem td_edge_17 : decode prog_1_method_8_code 17 = .ok (.tableswitch (117) (0) (5) #[39, 48, 57, 66, 80, 96], 39) := by decide +kernel
theorem td_edge_134 : decode prog_1_method_8_code 134 = .ok (.new 130, 3) := by decide +kernel
theorem td_edge_137 : decode prog_1_method_8_code 137 = .ok (.dup, 1) := by decide +kernel
theorem td_edge_138 : decode prog_1_method_8_code 138 = .ok (.invokespecial 132, 3) := by decide +kernel
theorem td_edge_141 : decode prog_1_method_8_code 141 = .ok (.athrow, 1) := by decide +kernel
theorem tc_edge (l : Launch) (hlt : l.stackTraces = false) (Dg : va_G) (A : Nat → Prop) (cA : Nat → ClassId) (ad adV : Nat → Nat) (vF : Value) {a b : Int32} {μ : ax_M} (hq : aJ 811 [.ref 0, .int a] [] μ = some (some (.int 0), μ) ∨ (aJ 811 [.ref 0, .int a] [] μ = some (some (.int 1), μ) ∧ (b < 0 ∨ 6 ≤ b))) : vx_Met l (ax_MT 141).1 (ax_ws ax_Ts (ax_MT 141)) tn_rm (tn_P Dg A cA ad adV vF [.ref 0, .int a, .int b] μ) (tn_Q A) (tn_XC Dg A cA ad μ) 1 6 A := by
  refine vx_ofW (cc := prog_1_method_8_code) (maxL := 3) (ret := (Option.some FieldType.int)) (by decide +kernel) rfl ?_
  intro p e s m args below meth c s₁ B hml ht hv
  obtain ⟨hv, hW, hK, hX, hZ⟩ := hv
  have hv : args = [Value.ref (ad 0), .int a, .int b].toArray := hv
  subst hv
  have hx := B.exec
  have hb := B.bytes
  have hts0 := atoms_spec (ws := ax_ws ax_Ts (ax_MT 141)) B.pre
  have hts : ∀ w ∈ ax_Ts, w.before [Value.ref (ad 0), .int a, .int b].toArray s = true := fun w hw => hts0 w (List.mem_cons_of_mem _ hw)
  have hown : s.vm.findClass "AskingFragments" = some m.cls := findClass_of_methodNamed B.named
  have hlocks := B.notSynchronized
  have hS : va_S A s.heap s.heap [] := va_S.rf
  have hl := lv_entry [Value.ref (ad 0), .int a, .int b] (n := 3) (Nat.le_of_ble_eq_true rfl)
  rw [lg_entry_eq]
  generalize (lg_sl [Value.ref (ad 0), .int a, .int b] ++ List.replicate (3 - (lg_sl [Value.ref (ad 0), .int a, .int b]).length) Slot.unset).toArray = ls at hl ⊢
  have hl : lv_has ls 3 [(0, .ref (ad 0)), (1, .int a), (2, .int b)] := hl
  show W p l e tn_rm s m _ below meth c s.heap [] 0 0 _ _
  refine lv_aload_n hx hb td_edge_0 rfl (lv_at hl 0 rfl) ?_
  refine lv_iload_n hx hb td_edge_1 rfl (lv_at hl 1 rfl) ?_
  rcases hq with hq | ⟨hq, hb2⟩
  · refine tn_call ⟨hx, hb, hml, hown, hts⟩ (z := 174) (o := 0) (index := 137) (As := [.int a]) (rest := []) (by decide) hq rfl (by decide) rfl (ax_in (ax_wl_at (k := 4) (j := 108) rfl) rfl) (ax_in (ax_wl_at (k := 4) (j := 110) rfl) rfl) (ax_in (ax_wl_at (k := 0) (j := 47) rfl) rfl) (show (parseMethodDescriptor (ax_MT 174).1.desc).map (fun d => d.parameters.length) = some 1 by decide +kernel) (by decide) ⟨by decide, by decide⟩ hK hX hW hS (fun _ q => q) hS rfl hl.1 (Nat.le_of_ble_eq_true rfl) td_edge_2 ⟨Nat.zero_le _, Nat.zero_le _⟩ (fun H1 locs1 hW1 hS1 _ _ => ?_)
    refine lv_if_ne (tgt := 16) hx hb td_edge_5 (by decide) (fun h => absurd rfl h) (fun _ => ?_)
    exact tn_throw hx hb hlt hown hts hZ hS1 (hl.1.trans hml.symm) ht hlocks hW1 td_edge_8 td_edge_11 td_edge_12 td_edge_15
  · refine tn_call ⟨hx, hb, hml, hown, hts⟩ (z := 174) (o := 0) (index := 137) (As := [.int a]) (rest := []) (by decide) hq rfl (by decide) rfl (ax_in (ax_wl_at (k := 4) (j := 108) rfl) rfl) (ax_in (ax_wl_at (k := 4) (j := 110) rfl) rfl) (ax_in (ax_wl_at (k := 0) (j := 47) rfl) rfl) (show (parseMethodDescriptor (ax_MT 174).1.desc).map (fun d => d.parameters.length) = some 1 by decide +kernel) (by decide) ⟨by decide, by decide⟩ hK hX hW hS (fun _ q => q) hS rfl hl.1 (Nat.le_of_ble_eq_true rfl) td_edge_2 ⟨Nat.zero_le _, Nat.zero_le _⟩ (fun H1 locs1 hW1 hS1 _ _ => ?_)
    refine lv_if_ne (tgt := 16) hx hb td_edge_5 (by decide) (fun _ => ?_) (fun h => absurd h (by decide))
    refine lv_iload_n hx hb td_edge_16 rfl (lv_at hl 2 rfl) ?_
    refine lv_tableOut (tgt := 134) hx hb td_edge_17 (tn_out hb2) (by decide) ?_
    exact tn_throw hx hb hlt hown hts hZ hS1 (hl.1.trans hml.symm) ht hlocks hW1 td_edge_134 td_edge_137 td_edge_138 td_edge_141
