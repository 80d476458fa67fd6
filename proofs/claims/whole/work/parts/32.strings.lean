/-! String.length and String.charAt over the constants -/
def ax_pS (X : State → Prop) (vs : List Value) : Array Value → State → Prop := fun v U => v = vs.toArray ∧ X U
def ax_qS (r : Option Value) : Array Value → State → Outcome → State → Prop := fun _ st o t => o = .returned r ∧ t.heap = st.heap
section AXV
variable {p : Program} {l : Launch} {e : Env} {R : Room} {s : State} {m : MethodId} {args : Array Value} {below : List Frame} {meth : Method} {c : Code} {H : Heap} {locs : List Loc} {Q : State → Prop}
theorem ax_same {pc : Nat} {ls : Array Slot} {rest st0 : List Value} {r : Option Value} {a : Array Value} (hr : va_Run p l e R s m args below meth c H locs 0 0 0 0 (F0 m pc ls st0) rest (ax_qS r a) (fun _ => False))
    (kk : W p l e R s m args below meth c H locs 0 0 Q (F0 m (pc + 3) ls (r.toList ++ rest))) : W p l e R s m args below meth c H locs 0 0 Q (F0 m pc ls st0) := by
  intro T hT X
  obtain ⟨v, st₀, t, T', L, h0, X', hL, e1, e2, ⟨hv, hw⟩, st⟩ := hr T hT X
  cases hv
  have hLn : L = [] := by
    cases L with
    | nil => rfl
    | cons x t => exact (hL x List.mem_cons_self).elim
  subst hLn
  rw [List.append_nil] at X'
  obtain ⟨t2, a1, b1⟩ := kk T' (by rw [e1, hw, h0]) X'
  exact ⟨t2, st t2 a1, b1⟩
theorem ax_blindS {X : State → Prop} (hXf : ∀ (U : State) (g : JFrame) (mk : MethodId) (a : Array Value), X U → X (U.calling g mk a)) {vs : List Value} : FrameBlind (ax_pS X vs) := fun a U g mk h => ⟨h.1, hXf _ _ _ _ h.2⟩
end AXV
theorem ax_Ts_good : ∀ w ∈ ax_Ts, (w.onTables && w.keeps) = true := fun w hw => (List.mem_filter.mp hw).2
theorem ax_goodIn {y : MethodName} {b : ByteArray} {n : Nat} {r : Option FieldType} (h : Jvm.Cond.code y b n r ∈ ax_Ts) : GoodIn ax_Ts (Jvm.Cond.code y b n r :: ax_Ts) := fun w hw => by
  rcases List.mem_cons.mp hw with rfl | hw
  · exact ⟨h, Or.inl (ax_Ts_good _ h)⟩
  · exact ⟨hw, Or.inl (ax_Ts_good _ hw)⟩
def ay_coder : MethodName := ⟨"java/lang/String", "coder", "()B"⟩
theorem ak_coder : Jvm.Cond.code ay_coder prog_17_method_152_code 1 (Option.some FieldType.byte) ∈ ax_Ts := ax_in (ax_wl_at (k := 2) (j := 191) rfl) rfl
theorem ad_coder_0 : decode prog_17_method_152_code 0 = .ok (.getstatic 38, 3) := by decide +kernel
theorem ad_coder_3 : decode prog_17_method_152_code 3 = .ok (.ifCond .eq 10, 3) := by decide +kernel
theorem ad_coder_6 : decode prog_17_method_152_code 6 = .ok (.aload_n 0, 1) := by decide +kernel
theorem ad_coder_7 : decode prog_17_method_152_code 7 = .ok (.getfield 15, 3) := by decide +kernel
theorem ad_coder_10 : decode prog_17_method_152_code 10 = .ok (.goto 4, 3) := by decide +kernel
theorem ad_coder_14 : decode prog_17_method_152_code 14 = .ok (.ireturn, 1) := by decide +kernel
def ay_latin : MethodName := ⟨"java/lang/String", "isLatin1", "()Z"⟩
theorem ak_latin : Jvm.Cond.code ay_latin prog_17_method_154_code 1 (Option.some FieldType.boolean) ∈ ax_Ts := ax_in (ax_wl_at (k := 2) (j := 201) rfl) rfl
theorem ad_latin_0 : decode prog_17_method_154_code 0 = .ok (.getstatic 38, 3) := by decide +kernel
theorem ad_latin_3 : decode prog_17_method_154_code 3 = .ok (.ifCond .eq 14, 3) := by decide +kernel
theorem ad_latin_6 : decode prog_17_method_154_code 6 = .ok (.aload_n 0, 1) := by decide +kernel
theorem ad_latin_7 : decode prog_17_method_154_code 7 = .ok (.getfield 15, 3) := by decide +kernel
theorem ad_latin_10 : decode prog_17_method_154_code 10 = .ok (.ifCond .ne 7, 3) := by decide +kernel
theorem ad_latin_13 : decode prog_17_method_154_code 13 = .ok (.iconst 1, 1) := by decide +kernel
theorem ad_latin_14 : decode prog_17_method_154_code 14 = .ok (.goto 4, 3) := by decide +kernel
theorem ad_latin_18 : decode prog_17_method_154_code 18 = .ok (.ireturn, 1) := by decide +kernel
def ay_len : MethodName := ⟨"java/lang/String", "length", "()I"⟩
theorem ak_len : Jvm.Cond.code ay_len prog_17_method_54_code 1 (Option.some FieldType.int) ∈ ax_Ts := ax_in (ax_wl_at (k := 2) (j := 187) rfl) rfl
theorem ad_len_0 : decode prog_17_method_54_code 0 = .ok (.aload_n 0, 1) := by decide +kernel
theorem ad_len_1 : decode prog_17_method_54_code 1 = .ok (.getfield 9, 3) := by decide +kernel
theorem ad_len_4 : decode prog_17_method_54_code 4 = .ok (.arraylength, 1) := by decide +kernel
theorem ad_len_5 : decode prog_17_method_54_code 5 = .ok (.aload_n 0, 1) := by decide +kernel
theorem ad_len_6 : decode prog_17_method_54_code 6 = .ok (.invokevirtual 335, 3) := by decide +kernel
theorem ad_len_9 : decode prog_17_method_54_code 9 = .ok (.ishr, 1) := by decide +kernel
theorem ad_len_10 : decode prog_17_method_54_code 10 = .ok (.ireturn, 1) := by decide +kernel
def ay_pchk : MethodName := ⟨"jdk/internal/util/Preconditions", "checkIndex", "(IILjava/util/function/BiFunction;)I"⟩
theorem ak_pchk : Jvm.Cond.code ay_pchk prog_25_method_11_code 3 (Option.some FieldType.int) ∈ ax_Ts := ax_in (ax_wl_at (k := 2) (j := 212) rfl) rfl
theorem ad_pchk_0 : decode prog_25_method_11_code 0 = .ok (.iload_n 0, 1) := by decide +kernel
theorem ad_pchk_1 : decode prog_25_method_11_code 1 = .ok (.ifCond .lt 8, 3) := by decide +kernel
theorem ad_pchk_4 : decode prog_25_method_11_code 4 = .ok (.iload_n 0, 1) := by decide +kernel
theorem ad_pchk_5 : decode prog_25_method_11_code 5 = .ok (.iload_n 1, 1) := by decide +kernel
theorem ad_pchk_6 : decode prog_25_method_11_code 6 = .ok (.if_icmp .lt 10, 3) := by decide +kernel
theorem ad_pchk_16 : decode prog_25_method_11_code 16 = .ok (.iload_n 0, 1) := by decide +kernel
theorem ad_pchk_17 : decode prog_25_method_11_code 17 = .ok (.ireturn, 1) := by decide +kernel
def ay_schk : MethodName := ⟨"java/lang/String", "checkIndex", "(II)V"⟩
theorem ak_schk : Jvm.Cond.code ay_schk prog_17_method_155_code 2 (Option.none : Option FieldType) ∈ ax_Ts := ax_in (ax_wl_at (k := 2) (j := 207) rfl) rfl
theorem ad_schk_0 : decode prog_17_method_155_code 0 = .ok (.iload_n 0, 1) := by decide +kernel
theorem ad_schk_1 : decode prog_17_method_155_code 1 = .ok (.iload_n 1, 1) := by decide +kernel
theorem ad_schk_2 : decode prog_17_method_155_code 2 = .ok (.getstatic 1053, 3) := by decide +kernel
theorem ad_schk_5 : decode prog_17_method_155_code 5 = .ok (.invokestatic 1059, 3) := by decide +kernel
theorem ad_schk_8 : decode prog_17_method_155_code 8 = .ok (.pop, 1) := by decide +kernel
theorem ad_schk_9 : decode prog_17_method_155_code 9 = .ok (.return_, 1) := by decide +kernel
def ay_lch : MethodName := ⟨"java/lang/StringLatin1", "charAt", "([BI)C"⟩
theorem ak_lch : Jvm.Cond.code ay_lch prog_18_method_2_code 2 (Option.some FieldType.char) ∈ ax_Ts := ax_in (ax_wl_at (k := 2) (j := 204) rfl) rfl
theorem ad_lch_0 : decode prog_18_method_2_code 0 = .ok (.iload_n 1, 1) := by decide +kernel
theorem ad_lch_1 : decode prog_18_method_2_code 1 = .ok (.aload_n 0, 1) := by decide +kernel
theorem ad_lch_2 : decode prog_18_method_2_code 2 = .ok (.arraylength, 1) := by decide +kernel
theorem ad_lch_3 : decode prog_18_method_2_code 3 = .ok (.invokestatic 9, 3) := by decide +kernel
theorem ad_lch_6 : decode prog_18_method_2_code 6 = .ok (.aload_n 0, 1) := by decide +kernel
theorem ad_lch_7 : decode prog_18_method_2_code 7 = .ok (.iload_n 1, 1) := by decide +kernel
theorem ad_lch_8 : decode prog_18_method_2_code 8 = .ok (.baload, 1) := by decide +kernel
theorem ad_lch_9 : decode prog_18_method_2_code 9 = .ok (.sipush 255, 3) := by decide +kernel
theorem ad_lch_12 : decode prog_18_method_2_code 12 = .ok (.iand, 1) := by decide +kernel
theorem ad_lch_13 : decode prog_18_method_2_code 13 = .ok (.i2c, 1) := by decide +kernel
theorem ad_lch_14 : decode prog_18_method_2_code 14 = .ok (.ireturn, 1) := by decide +kernel
def ay_sch : MethodName := ⟨"java/lang/String", "charAt", "(I)C"⟩
theorem ak_sch : Jvm.Cond.code ay_sch prog_17_method_56_code 2 (Option.some FieldType.char) ∈ ax_Ts := ax_in (ax_wl_at (k := 2) (j := 197) rfl) rfl
theorem ad_sch_0 : decode prog_17_method_56_code 0 = .ok (.aload_n 0, 1) := by decide +kernel
theorem ad_sch_1 : decode prog_17_method_56_code 1 = .ok (.invokevirtual 492, 3) := by decide +kernel
theorem ad_sch_4 : decode prog_17_method_56_code 4 = .ok (.ifCond .eq 12, 3) := by decide +kernel
theorem ad_sch_7 : decode prog_17_method_56_code 7 = .ok (.aload_n 0, 1) := by decide +kernel
theorem ad_sch_8 : decode prog_17_method_56_code 8 = .ok (.getfield 9, 3) := by decide +kernel
theorem ad_sch_11 : decode prog_17_method_56_code 11 = .ok (.iload_n 1, 1) := by decide +kernel
theorem ad_sch_12 : decode prog_17_method_56_code 12 = .ok (.invokestatic 495, 3) := by decide +kernel
theorem ad_sch_15 : decode prog_17_method_56_code 15 = .ok (.ireturn, 1) := by decide +kernel
set_option maxHeartbeats 1000000 in
theorem ac_coder (l : Launch) (ad adV : Nat → Nat) (A : Nat → Prop) (vF : Value) {i : Nat} (hi : i < 22) : Met l ay_coder (Jvm.Cond.code ay_coder prog_17_method_152_code 1 (Option.some FieldType.byte) :: ax_Ts) (ax_rm 1) (ax_pS (ax_X ad adV A vF) [Value.ref (ad (1000 + i))]) (ax_qS (some (.int 0))) 0 0 (fun _ => False) := by
  refine Met.ofW (cc := prog_17_method_152_code) (maxL := 1) (ret := (Option.some FieldType.byte)) (by decide +kernel) rfl ?_
  intro p e s m args below meth c s₁ B hml hv
  obtain ⟨rfl, hX⟩ := hv
  have hx := B.exec
  have hb := B.bytes
  have hr := B.returns
  have hts0 := atoms_spec (ws := Jvm.Cond.code ay_coder prog_17_method_152_code 1 (Option.some FieldType.byte) :: ax_Ts) B.pre
  have hts : ∀ w ∈ ax_Ts, w.before [Value.ref (ad (1000 + i))].toArray s = true := fun w hw => hts0 w (List.mem_cons_of_mem _ hw)
  have hown : s.vm.findClass "java/lang/String" = some m.cls := findClass_of_methodNamed B.named
  have hlocks := B.notSynchronized
  have hS : va_S A s.heap s.heap [] := va_S.rf
  have hl := lv_entry [Value.ref (ad (1000 + i))] (n := 1) (Nat.le_of_ble_eq_true rfl)
  rw [lg_entry_eq]
  generalize (lg_sl [Value.ref (ad (1000 + i))] ++ List.replicate (1 - (lg_sl [Value.ref (ad (1000 + i))]).length) Slot.unset).toArray = ls at hl ⊢
  have hl : lv_has ls 1 [(0, .ref (ad (1000 + i)))] := hl
  obtain ⟨hX1, hX2, hX3, hX4, hX5, hX6⟩ := id hX
  refine va_gets hx hb hX4 hS hown (hts _ (ax_in (ax_wl_at (k := 2) (j := 192) rfl) rfl)) (fun _ h => h) ad_coder_0 ?_
  refine lv_if_eq (tgt := 13) hx hb ad_coder_3 (by decide) (fun h => absurd h (by decide)) (fun _ => ?_)
  refine lv_aload_n hx hb ad_coder_6 rfl (lv_at hl 0 rfl) ?_
  refine vk_getf hx hb (hX3.1 i hi).2.1 hS hown (hts _ (ax_in (ax_wl_at (k := 8) (j := 109) rfl) rfl)) (fun _ h => h) ad_coder_7 ?_
  refine lv_goto (tgt := 14) hx hb ad_coder_10 (by decide) ?_
  exact W.zret hx hb hr (by decide) (fun t ht hw => ⟨rfl, ht⟩) (fun q hq => by cases hq) ad_coder_14
set_option maxHeartbeats 1000000 in
theorem ac_latin (l : Launch) (ad adV : Nat → Nat) (A : Nat → Prop) (vF : Value) {i : Nat} (hi : i < 22) : Met l ay_latin (Jvm.Cond.code ay_latin prog_17_method_154_code 1 (Option.some FieldType.boolean) :: ax_Ts) (ax_rm 1) (ax_pS (ax_X ad adV A vF) [Value.ref (ad (1000 + i))]) (ax_qS (some (.int 1))) 0 0 (fun _ => False) := by
  refine Met.ofW (cc := prog_17_method_154_code) (maxL := 1) (ret := (Option.some FieldType.boolean)) (by decide +kernel) rfl ?_
  intro p e s m args below meth c s₁ B hml hv
  obtain ⟨rfl, hX⟩ := hv
  have hx := B.exec
  have hb := B.bytes
  have hr := B.returns
  have hts0 := atoms_spec (ws := Jvm.Cond.code ay_latin prog_17_method_154_code 1 (Option.some FieldType.boolean) :: ax_Ts) B.pre
  have hts : ∀ w ∈ ax_Ts, w.before [Value.ref (ad (1000 + i))].toArray s = true := fun w hw => hts0 w (List.mem_cons_of_mem _ hw)
  have hown : s.vm.findClass "java/lang/String" = some m.cls := findClass_of_methodNamed B.named
  have hlocks := B.notSynchronized
  have hS : va_S A s.heap s.heap [] := va_S.rf
  have hl := lv_entry [Value.ref (ad (1000 + i))] (n := 1) (Nat.le_of_ble_eq_true rfl)
  rw [lg_entry_eq]
  generalize (lg_sl [Value.ref (ad (1000 + i))] ++ List.replicate (1 - (lg_sl [Value.ref (ad (1000 + i))]).length) Slot.unset).toArray = ls at hl ⊢
  have hl : lv_has ls 1 [(0, .ref (ad (1000 + i)))] := hl
  obtain ⟨hX1, hX2, hX3, hX4, hX5, hX6⟩ := id hX
  refine va_gets hx hb hX4 hS hown (hts _ (ax_in (ax_wl_at (k := 2) (j := 192) rfl) rfl)) (fun _ h => h) ad_latin_0 ?_
  refine lv_if_eq (tgt := 17) hx hb ad_latin_3 (by decide) (fun h => absurd h (by decide)) (fun _ => ?_)
  refine lv_aload_n hx hb ad_latin_6 rfl (lv_at hl 0 rfl) ?_
  refine vk_getf hx hb (hX3.1 i hi).2.1 hS hown (hts _ (ax_in (ax_wl_at (k := 8) (j := 109) rfl) rfl)) (fun _ h => h) ad_latin_7 ?_
  refine lv_if_ne (tgt := 17) hx hb ad_latin_10 (by decide) (fun h => absurd rfl h) (fun _ => ?_)
  refine lv_iconst (v := 1) hx hb ad_latin_13 (by decide) ?_
  refine lv_goto (tgt := 18) hx hb ad_latin_14 (by decide) ?_
  exact W.zret hx hb hr (by decide) (fun t ht hw => ⟨rfl, ht⟩) (fun q hq => by cases hq) ad_latin_18
set_option maxHeartbeats 1000000 in
theorem ac_pchk (l : Launch) (ad adV : Nat → Nat) (A : Nat → Prop) (vF : Value) {x n : Int32} (h0 : ¬ x < 0) (h1 : x < n) : Met l ay_pchk (Jvm.Cond.code ay_pchk prog_25_method_11_code 3 (Option.some FieldType.int) :: ax_Ts) (ax_rm 1) (ax_pS (ax_X ad adV A vF) [Value.int x, Value.int n, vF]) (ax_qS (some (.int x))) 0 0 (fun _ => False) := by
  refine Met.ofW (cc := prog_25_method_11_code) (maxL := 3) (ret := (Option.some FieldType.int)) (by decide +kernel) rfl ?_
  intro p e s m args below meth c s₁ B hml hv
  obtain ⟨rfl, hX⟩ := hv
  have hx := B.exec
  have hb := B.bytes
  have hr := B.returns
  have hts0 := atoms_spec (ws := Jvm.Cond.code ay_pchk prog_25_method_11_code 3 (Option.some FieldType.int) :: ax_Ts) B.pre
  have hts : ∀ w ∈ ax_Ts, w.before [Value.int x, Value.int n, vF].toArray s = true := fun w hw => hts0 w (List.mem_cons_of_mem _ hw)
  have hown : s.vm.findClass "jdk/internal/util/Preconditions" = some m.cls := findClass_of_methodNamed B.named
  have hlocks := B.notSynchronized
  have hS : va_S A s.heap s.heap [] := va_S.rf
  have hcF : vF.category = 1 := by rcases hX.2.2.2.2.2 with rfl | ⟨t, rfl⟩ <;> rfl
  have hl := lv_entry [Value.int x, Value.int n, vF] (n := 3) (by rw [ax_sl_len]; simp only [List.map_cons, List.map_nil, List.sum_cons, List.sum_nil, hcF]; exact Nat.le_refl 3)
  rw [lg_entry_eq]
  generalize (lg_sl [Value.int x, Value.int n, vF] ++ List.replicate (3 - (lg_sl [Value.int x, Value.int n, vF]).length) Slot.unset).toArray = ls at hl ⊢
  have hl : lv_has ls 3 [(0, .int x), (1, .int n)] := ⟨hl.1, hl.2.1, fun q hq => hl.2.2 q (by simp [lv_args, Value.category] at hq ⊢; rcases hq with h | h <;> simp [h])⟩
  obtain ⟨hX1, hX2, hX3, hX4, hX5, hX6⟩ := id hX
  refine lv_iload_n hx hb ad_pchk_0 rfl (lv_at hl 0 rfl) ?_
  refine lv_if_lt (tgt := 9) hx hb ad_pchk_1 (by decide) (fun h => absurd h h0) (fun _ => ?_)
  refine lv_iload_n hx hb ad_pchk_4 rfl (lv_at hl 0 rfl) ?_
  refine lv_iload_n hx hb ad_pchk_5 rfl (lv_at hl 1 rfl) ?_
  refine lv_icmp_lt (tgt := 16) hx hb ad_pchk_6 (by decide) (fun _ => ?_) (fun h => absurd h1 h)
  refine lv_iload_n hx hb ad_pchk_16 rfl (lv_at hl 0 rfl) ?_
  exact W.iret hx hb hr (fun t ht hw => ⟨rfl, ht⟩) (fun q hq => by cases hq) ad_pchk_17
set_option maxHeartbeats 1000000 in
theorem ac_schk (l : Launch) (ad adV : Nat → Nat) (A : Nat → Prop) (vF : Value) {x n : Int32} (h0 : ¬ x < 0) (h1 : x < n) : Met l ay_schk (Jvm.Cond.code ay_schk prog_17_method_155_code 2 (Option.none : Option FieldType) :: ax_Ts) (ax_rm 2) (ax_pS (ax_X ad adV A vF) [Value.int x, Value.int n]) (ax_qS none) 0 0 (fun _ => False) := by
  refine Met.ofW (cc := prog_17_method_155_code) (maxL := 2) (ret := (Option.none : Option FieldType)) (by decide +kernel) rfl ?_
  intro p e s m args below meth c s₁ B hml hv
  obtain ⟨rfl, hX⟩ := hv
  have hx := B.exec
  have hb := B.bytes
  have hr := B.returns
  have hts0 := atoms_spec (ws := Jvm.Cond.code ay_schk prog_17_method_155_code 2 (Option.none : Option FieldType) :: ax_Ts) B.pre
  have hts : ∀ w ∈ ax_Ts, w.before [Value.int x, Value.int n].toArray s = true := fun w hw => hts0 w (List.mem_cons_of_mem _ hw)
  have hown : s.vm.findClass "java/lang/String" = some m.cls := findClass_of_methodNamed B.named
  have hlocks := B.notSynchronized
  have hS : va_S A s.heap s.heap [] := va_S.rf
  have hl := lv_entry [Value.int x, Value.int n] (n := 2) (Nat.le_of_ble_eq_true rfl)
  rw [lg_entry_eq]
  generalize (lg_sl [Value.int x, Value.int n] ++ List.replicate (2 - (lg_sl [Value.int x, Value.int n]).length) Slot.unset).toArray = ls at hl ⊢
  have hl : lv_has ls 2 [(0, .int x), (1, .int n)] := hl
  obtain ⟨hX1, hX2, hX3, hX4, hX5, hX6⟩ := id hX
  refine lv_iload_n hx hb ad_schk_0 rfl (lv_at hl 0 rfl) ?_
  refine lv_iload_n hx hb ad_schk_1 rfl (lv_at hl 1 rfl) ?_
  refine va_gets hx hb hX5 hS hown (hts _ (ax_in (ax_wl_at (k := 2) (j := 208) rfl) rfl)) (fun _ h => h) ad_schk_2 ?_
  refine ax_same (va_runS (As := [.int x, .int n, vF]) (rest := []) (y := ay_pchk) (bytes := prog_25_method_11_code) (maxL := 3) (ret := (Option.some FieldType.int)) (ws := Jvm.Cond.code ay_pchk prog_25_method_11_code 3 (Option.some FieldType.int) :: ax_Ts) (rm := ax_rm 1) ⟨hx, hb, hml, hown, hts⟩ (ac_pchk l ad adV A vF h0 h1) ⟨callB_of 3 hts (ax_goodIn ak_pchk) rfl rfl rfl (hts _ (ax_in (ax_wl_at (k := 1) (j := 13) rfl) rfl)) (hts _ (ax_in (ax_wl_at (k := 2) (j := 210) rfl) rfl)) (by decide +kernel) ⟨Nat.le_of_ble_eq_true rfl, Nat.le_of_ble_eq_true rfl⟩, (hts _ (ax_in (ax_wl_at (k := 2) (j := 211) rfl) rfl))⟩ ⟨ax_blindS ax_Xf, fun U hU hW => ⟨rfl, ax_Xc s _ _ hX hS U hU hW⟩⟩ rfl rfl hl.1 rfl (lv_room (Nat.le_of_ble_eq_true rfl)) ad_schk_5 ⟨Nat.le_refl 0, Nat.le_refl 0⟩) ?_
  refine lv_pop hx hb ad_schk_8 rfl ?_
  exact W.vret hx hb hr (fun t ht hw => ⟨rfl, ht⟩) (fun q hq => by cases hq) ad_schk_9
theorem ax_slen {i : Nat} (hi : i < 22) : ax_lens.getD i 0 = ax_len i := by
  simp [ax_lens, List.getD_eq_getElem?_getD, List.getElem?_range hi]
theorem ax_sbyt {i j : Nat} (hi : i < 22) (hj : j < ax_len i) : (ax_byts.getD i []).getD j 0 = Int32.ofNat ((ax_tx i).2.2.getD j (0, 0)).1 := by
  have key : ∀ i, i < 22 → ∀ j, j < 8 → j < ax_len i → (ax_byts.getD i []).getD j 0 = Int32.ofNat ((ax_tx i).2.2.getD j (0, 0)).1 := by decide +kernel
  have h8 : ∀ i, i < 22 → ax_len i < 9 := by decide +kernel
  exact key i hi j (by have := h8 i hi; have : ∀ i, i < 22 → ax_len i ≤ 8 := by decide +kernel
                       have := this i hi; omega) hj
def ax_chr (i j : Nat) : Int32 := Int32.ofNat ((ax_tx i).2.2.getD j (0, 0)).1
theorem ax_schr {i j : Nat} (hi : i < 22) (hj : j < ax_len i) : ((ax_chr i j &&& 255).toUInt32 % 65536).toInt32 = ax_chr i j ∧ narrow .char (.int (ax_chr i j)) = .int (ax_chr i j) := by
  have key : ∀ i, i < 22 → ∀ j, j < 8 → j < ax_len i → ((ax_chr i j &&& 255).toUInt32 % 65536).toInt32 = ax_chr i j ∧ narrow .char (.int (ax_chr i j)) = .int (ax_chr i j) := by decide +kernel
  have h8 : ∀ i, i < 22 → ax_len i ≤ 8 := by decide +kernel
  exact key i hi j (by have := h8 i hi; omega) hj
theorem ax_len8 {i : Nat} (hi : i < 22) : ax_len i ≤ 8 := (by decide +kernel : ∀ i, i < 22 → ax_len i ≤ 8) i hi
set_option maxHeartbeats 1000000 in
theorem ac_lch (l : Launch) (ad adV : Nat → Nat) (A : Nat → Prop) (vF : Value) {i : Nat} (hi : i < 22) {x : Int32} (h0 : ¬ x < 0) (h1 : x.toNatClampNeg < ax_len i) : Met l ay_lch (Jvm.Cond.code ay_lch prog_18_method_2_code 2 (Option.some FieldType.char) :: ax_Ts) (ax_rm 3) (ax_pS (ax_X ad adV A vF) [Value.ref (adV i), Value.int x]) (ax_qS (some (.int (ax_chr i x.toNatClampNeg)))) 0 0 (fun _ => False) := by
  refine Met.ofW (cc := prog_18_method_2_code) (maxL := 2) (ret := (Option.some FieldType.char)) (by decide +kernel) rfl ?_
  intro p e s m args below meth c s₁ B hml hv
  obtain ⟨rfl, hX⟩ := hv
  have hx := B.exec
  have hb := B.bytes
  have hr := B.returns
  have hts0 := atoms_spec (ws := Jvm.Cond.code ay_lch prog_18_method_2_code 2 (Option.some FieldType.char) :: ax_Ts) B.pre
  have hts : ∀ w ∈ ax_Ts, w.before [Value.ref (adV i), Value.int x].toArray s = true := fun w hw => hts0 w (List.mem_cons_of_mem _ hw)
  have hown : s.vm.findClass "java/lang/StringLatin1" = some m.cls := findClass_of_methodNamed B.named
  have hlocks := B.notSynchronized
  have hS : va_S A s.heap s.heap [] := va_S.rf
  have hl := lv_entry [Value.ref (adV i), Value.int x] (n := 2) (Nat.le_of_ble_eq_true rfl)
  rw [lg_entry_eq]
  generalize (lg_sl [Value.ref (adV i), Value.int x] ++ List.replicate (2 - (lg_sl [Value.ref (adV i), Value.int x]).length) Slot.unset).toArray = ls at hl ⊢
  have hl : lv_has ls 2 [(0, .ref (adV i)), (1, .int x)] := hl
  obtain ⟨hX1, hX2, hX3, hX4, hX5, hX6⟩ := id hX
  have hT := (hX3.1 i hi).2.2.2
  have h8 := ax_len8 hi
  have hlt : x < Int32.ofNat (ax_lens.getD i 0) := by
    rw [ax_slen hi]
    obtain ⟨j, hj, rfl⟩ := nI_of h0
    rw [nI_clamp hj] at h1
    exact nI_lt h1 (by omega)
  refine lv_iload_n hx hb ad_lch_0 rfl (lv_at hl 1 rfl) ?_
  refine lv_aload_n hx hb ad_lch_1 rfl (lv_at hl 0 rfl) ?_
  refine va_tlen hx hb hT hS rfl ad_lch_2 ?_
  refine ax_same (va_runS (As := [.int x, .int (Int32.ofNat (ax_lens.getD i 0))]) (rest := []) (y := ay_schk) (bytes := prog_17_method_155_code) (maxL := 2) (ret := (Option.none : Option FieldType)) (ws := Jvm.Cond.code ay_schk prog_17_method_155_code 2 (Option.none : Option FieldType) :: ax_Ts) (rm := ax_rm 2) ⟨hx, hb, hml, hown, hts⟩ (ac_schk l ad adV A vF h0 hlt) ⟨callB_of 2 hts (ax_goodIn ak_schk) rfl rfl rfl (hts _ (ax_in (ax_wl_at (k := 1) (j := 11) rfl) rfl)) (hts _ (ax_in (ax_wl_at (k := 2) (j := 205) rfl) rfl)) (by decide +kernel) ⟨Nat.le_of_ble_eq_true rfl, Nat.le_of_ble_eq_true rfl⟩, (hts _ (ax_in (ax_wl_at (k := 2) (j := 206) rfl) rfl))⟩ ⟨ax_blindS ax_Xf, fun U hU hW => ⟨rfl, ax_Xc s _ _ hX hS U hU hW⟩⟩ rfl rfl hl.1 rfl (lv_room (Nat.le_of_ble_eq_true rfl)) ad_lch_3 ⟨Nat.le_refl 0, Nat.le_refl 0⟩) ?_
  refine lv_aload_n hx hb ad_lch_6 rfl (lv_at hl 0 rfl) ?_
  refine lv_iload_n hx hb ad_lch_7 rfl (lv_at hl 1 rfl) ?_
  refine va_tb hx hb hT hS (v := .int (ax_chr i x.toNatClampNeg)) (by intro q; rcases q with q | q; exact h0 q; rw [ax_slen hi] at q; omega) (by rw [ax_sbyt hi h1]; rfl) ad_lch_8 ?_
  refine lv_sipush (v := 255) hx hb ad_lch_9 (by decide) ?_
  refine lv_iand hx hb ad_lch_12 ?_
  refine lv_i2c hx hb ad_lch_13 (ax_schr hi h1).1 ?_
  exact W.zret hx hb hr (ax_schr hi h1).2 (fun t ht hw => ⟨rfl, ht⟩) (fun q hq => by cases hq) ad_lch_14
set_option maxHeartbeats 1000000 in
theorem ac_len (l : Launch) (ad adV : Nat → Nat) (A : Nat → Prop) (vF : Value) {i : Nat} (hi : i < 22) (Dg : va_G) (cA : Nat → ClassId) (μ : ax_M) : ax_Met l Dg ax_cl A cA ad ax_sh ax_NC (ax_X ad adV A vF) ax_Ts am_291 [.ref (1000 + i)] μ (some (.int (Int32.ofNat (ax_len i)))) μ := by
  refine Met.ofW (cc := prog_17_method_54_code) (maxL := 1) (ret := (Option.some FieldType.int)) (by decide +kernel) rfl ?_
  intro p e s m args below meth c s₁ B hml hv
  obtain ⟨hargs, hW0, hK, hX⟩ := hv
  have hargs : args = [Value.ref (ad (1000 + i))].toArray := hargs
  subst hargs
  have hx := B.exec
  have hb := B.bytes
  have hr := B.returns
  have hts0 := atoms_spec (ws := Jvm.Cond.code ay_len prog_17_method_54_code 1 (Option.some FieldType.int) :: ax_Ts) B.pre
  have hts : ∀ w ∈ ax_Ts, w.before [Value.ref (ad (1000 + i))].toArray s = true := fun w hw => hts0 w (List.mem_cons_of_mem _ hw)
  have hown : s.vm.findClass "java/lang/String" = some m.cls := findClass_of_methodNamed B.named
  have hlocks := B.notSynchronized
  have hS : va_S A s.heap s.heap [] := va_S.rf
  have hl := lv_entry [Value.ref (ad (1000 + i))] (n := 1) (Nat.le_of_ble_eq_true rfl)
  rw [lg_entry_eq]
  generalize (lg_sl [Value.ref (ad (1000 + i))] ++ List.replicate (1 - (lg_sl [Value.ref (ad (1000 + i))]).length) Slot.unset).toArray = ls at hl ⊢
  have hl : lv_has ls 1 [(0, .ref (ad (1000 + i)))] := hl
  obtain ⟨hX1, hX2, hX3, hX4, hX5, hX6⟩ := id hX
  have hT := (hX3.1 i hi).2.2.2
  have h8 := ax_len8 hi
  refine lv_aload_n hx hb ad_len_0 rfl (lv_at hl 0 rfl) ?_
  refine vk_getf hx hb (hX3.1 i hi).2.2.1 hS hown (hts _ (ax_in (ax_wl_at (k := 8) (j := 108) rfl) rfl)) (fun _ h => h) ad_len_1 ?_
  refine va_tlen hx hb hT hS rfl ad_len_4 ?_
  refine lv_aload_n hx hb ad_len_5 rfl (lv_at hl 0 rfl) ?_
  refine ax_same (va_runV (C := "java/lang/String") (As := []) (rest := [.int (Int32.ofNat (ax_lens.getD i 0))]) (y := ay_coder) (bytes := prog_17_method_152_code) (maxL := 1) (ret := (Option.some FieldType.byte)) (ws := Jvm.Cond.code ay_coder prog_17_method_152_code 1 (Option.some FieldType.byte) :: ax_Ts) (rm := ax_rm 1) ⟨hx, hb, hml, hown, hts⟩ (ac_coder l ad adV A vF hi) ⟨callB_of 0 hts (ax_goodIn ak_coder) rfl rfl rfl (hts _ (ax_in (ax_wl_at (k := 1) (j := 11) rfl) rfl)) (hts _ (ax_in (ax_wl_at (k := 2) (j := 188) rfl) rfl)) (by decide +kernel) ⟨Nat.le_of_ble_eq_true rfl, Nat.le_of_ble_eq_true rfl⟩, (hts _ (ax_in (ax_wl_at (k := 2) (j := 189) rfl) rfl)), (hts _ (ax_in (ax_wl_at (k := 2) (j := 190) rfl) rfl))⟩ ⟨ax_blindS ax_Xf, vk_recv (i := i) (adK := fun i => ad (1000 + i)) hX3 hi hS, fun U hU hW => ⟨rfl, ax_Xc s _ _ hX hS U hU hW⟩⟩ rfl rfl hl.1 rfl (lv_room (Nat.le_of_ble_eq_true rfl)) ad_len_6 ⟨Nat.le_refl 0, Nat.le_refl 0⟩) ?_
  refine lv_ishr hx hb ad_len_9 ?_
  have e1 : Int32.ofNat (ax_lens.getD i 0) >>> ((0 : Int32) &&& 31) = Int32.ofNat (ax_len i) := by
    rw [ax_slen hi]
    exact (by decide +kernel : ∀ i, i < 22 → Int32.ofNat (ax_len i) >>> ((0 : Int32) &&& 31) = Int32.ofNat (ax_len i)) i hi
  rw [e1]
  exact W.iret hx hb hr (fun t ht hw => ⟨rfl, by rw [ht]; exact hW0, hS.F ht⟩) (fun q hq => by cases hq) ad_len_10
set_option maxHeartbeats 1000000 in
theorem ac_sch (l : Launch) (ad adV : Nat → Nat) (A : Nat → Prop) (vF : Value) {i : Nat} (hi : i < 22) {x : Int32} (h0 : ¬ x < 0) (h1 : x.toNatClampNeg < ax_len i) (Dg : va_G) (cA : Nat → ClassId) (μ : ax_M) : ax_Met l Dg ax_cl A cA ad ax_sh ax_NC (ax_X ad adV A vF) ax_Ts am_292 [.ref (1000 + i), .int x] μ (some (.int (ax_chr i x.toNatClampNeg))) μ := by
  refine Met.ofW (cc := prog_17_method_56_code) (maxL := 2) (ret := (Option.some FieldType.char)) (by decide +kernel) rfl ?_
  intro p e s m args below meth c s₁ B hml hv
  obtain ⟨hargs, hW0, hK, hX⟩ := hv
  have hargs : args = [Value.ref (ad (1000 + i)), Value.int x].toArray := hargs
  subst hargs
  have hx := B.exec
  have hb := B.bytes
  have hr := B.returns
  have hts0 := atoms_spec (ws := Jvm.Cond.code ay_sch prog_17_method_56_code 2 (Option.some FieldType.char) :: ax_Ts) B.pre
  have hts : ∀ w ∈ ax_Ts, w.before [Value.ref (ad (1000 + i)), Value.int x].toArray s = true := fun w hw => hts0 w (List.mem_cons_of_mem _ hw)
  have hown : s.vm.findClass "java/lang/String" = some m.cls := findClass_of_methodNamed B.named
  have hlocks := B.notSynchronized
  have hS : va_S A s.heap s.heap [] := va_S.rf
  have hl := lv_entry [Value.ref (ad (1000 + i)), Value.int x] (n := 2) (Nat.le_of_ble_eq_true rfl)
  rw [lg_entry_eq]
  generalize (lg_sl [Value.ref (ad (1000 + i)), Value.int x] ++ List.replicate (2 - (lg_sl [Value.ref (ad (1000 + i)), Value.int x]).length) Slot.unset).toArray = ls at hl ⊢
  have hl : lv_has ls 2 [(0, .ref (ad (1000 + i))), (1, .int x)] := hl
  obtain ⟨hX1, hX2, hX3, hX4, hX5, hX6⟩ := id hX
  refine lv_aload_n hx hb ad_sch_0 rfl (lv_at hl 0 rfl) ?_
  refine ax_same (va_runV (C := "java/lang/String") (As := []) (rest := []) (y := ay_latin) (bytes := prog_17_method_154_code) (maxL := 1) (ret := (Option.some FieldType.boolean)) (ws := Jvm.Cond.code ay_latin prog_17_method_154_code 1 (Option.some FieldType.boolean) :: ax_Ts) (rm := ax_rm 1) ⟨hx, hb, hml, hown, hts⟩ (ac_latin l ad adV A vF hi) ⟨callB_of 0 hts (ax_goodIn ak_latin) rfl rfl rfl (hts _ (ax_in (ax_wl_at (k := 1) (j := 11) rfl) rfl)) (hts _ (ax_in (ax_wl_at (k := 2) (j := 198) rfl) rfl)) (by decide +kernel) ⟨Nat.le_of_ble_eq_true rfl, Nat.le_of_ble_eq_true rfl⟩, (hts _ (ax_in (ax_wl_at (k := 2) (j := 199) rfl) rfl)), (hts _ (ax_in (ax_wl_at (k := 2) (j := 200) rfl) rfl))⟩ ⟨ax_blindS ax_Xf, vk_recv (i := i) (adK := fun i => ad (1000 + i)) hX3 hi hS, fun U hU hW => ⟨rfl, ax_Xc s _ _ hX hS U hU hW⟩⟩ rfl rfl hl.1 rfl (lv_room (Nat.le_of_ble_eq_true rfl)) ad_sch_1 ⟨Nat.le_refl 0, Nat.le_refl 0⟩) ?_
  refine lv_if_eq (tgt := 16) hx hb ad_sch_4 (by decide) (fun h => absurd h (by decide)) (fun _ => ?_)
  refine lv_aload_n hx hb ad_sch_7 rfl (lv_at hl 0 rfl) ?_
  refine vk_getf hx hb (hX3.1 i hi).2.2.1 hS hown (hts _ (ax_in (ax_wl_at (k := 8) (j := 108) rfl) rfl)) (fun _ h => h) ad_sch_8 ?_
  refine lv_iload_n hx hb ad_sch_11 rfl (lv_at hl 1 rfl) ?_
  refine ax_same (va_runS (As := [.ref (adV i), .int x]) (rest := []) (y := ay_lch) (bytes := prog_18_method_2_code) (maxL := 2) (ret := (Option.some FieldType.char)) (ws := Jvm.Cond.code ay_lch prog_18_method_2_code 2 (Option.some FieldType.char) :: ax_Ts) (rm := ax_rm 3) ⟨hx, hb, hml, hown, hts⟩ (ac_lch l ad adV A vF hi h0 h1) ⟨callB_of 2 hts (ax_goodIn ak_lch) rfl rfl rfl (hts _ (ax_in (ax_wl_at (k := 1) (j := 12) rfl) rfl)) (hts _ (ax_in (ax_wl_at (k := 2) (j := 202) rfl) rfl)) (by decide +kernel) ⟨Nat.le_of_ble_eq_true rfl, Nat.le_of_ble_eq_true rfl⟩, (hts _ (ax_in (ax_wl_at (k := 2) (j := 203) rfl) rfl))⟩ ⟨ax_blindS ax_Xf, fun U hU hW => ⟨rfl, ax_Xc s _ _ hX hS U hU hW⟩⟩ rfl rfl hl.1 rfl (lv_room (Nat.le_of_ble_eq_true rfl)) ad_sch_12 ⟨Nat.le_refl 0, Nat.le_refl 0⟩) ?_
  exact W.zret hx hb hr (ax_schr hi h1).2 (fun t ht hw => ⟨rfl, by rw [ht]; exact hW0, hS.F ht⟩) (fun q hq => by cases hq) ad_sch_15
