/-! ax: the machine's meaning is the real one's: every instruction -/
theorem ax_dk_ok {cc : ByteArray} {q : ax_I} (h : ax_dk cc q = true) : ∃ n, decode cc q.1 = .ok (q.2.1, n) ∧ (ax_sws q.2.1 = false → n = ax_ln q.2.1) := by
  unfold ax_dk at h
  split at h
  · next i n hd =>
    rw [Bool.and_eq_true, decide_eq_true_eq] at h
    obtain ⟨h1, h2⟩ := h
    subst h1
    refine ⟨n, hd, fun hs => ?_⟩
    rw [hs, Bool.false_or] at h2
    exact of_decide_eq_true h2
  · cases h
theorem ax_w_wd {s : State} {args : Array Value} {Ts : List Jvm.Cond} {wd : Nat → Nat → Option Jvm.Cond} (hwd : ∀ k j w, wd k j = some w → (w.onTables && w.keeps) = true → w ∈ Ts) (hts : ∀ w ∈ Ts, w.before args s = true) {x : List Nat} {w : Jvm.Cond} (h : ax_wok wd x (fun v => decide (v = w)) = true) : w ∈ Ts ∧ w.before args s = true := by
  obtain ⟨k, j, v, h1, h2, h3⟩ := ax_wok_in h
  have := of_decide_eq_true h3
  subst this
  exact ⟨hwd _ _ _ h1 h2, hts _ (hwd _ _ _ h1 h2)⟩
section AXU
variable {p : Program} {l : Launch} {e : Env} {s : State} {m : MethodId} {args : Array Value} {below : List Frame} {meth : Method} {c : Code}
variable {Dg : va_G} {cl : List vw_C} {A : Nat → Prop} {cA : Nat → ClassId} {ad : Nat → Nat} {sh : Nat → ax_C} {N : Nat} {X : State → Prop} {Ts : List Jvm.Cond} {wd : Nat → Nat → Option Jvm.Cond} {NM : Nat} {MT : Nat → ax_D} {BL : Nat → ax_B} {EN : Nat → Nat} {J : ax_J} {y : Nat} {SL : List (Nat × String)}
theorem ax_ldcS {R : Room} {H : Heap} {locs : List Loc} {Q : State → Prop} {cc : ByteArray} {pc : Nat} {ls : Array Slot} {rest : List Value} (hexec : p.tables.exec = Jvm.exec) (hb : c.code = cc) {own tx : String} {index q : Nat} (hown : s.vm.findClass own = some m.cls) (hZ : vk_R own index tx q s) (hdg : decode cc pc = .ok (.ldc_w index, 3))
    (k : W p l e R s m args below meth c H locs 0 0 Q (F0 m (pc + 3) ls (.ref q :: rest))) : W p l e R s m args below meth c H locs 0 0 Q (F0 m pc ls rest) := by
  intro T hT X
  obtain ⟨t, a1, b1⟩ := k T hT X
  exact ⟨t, X.ldcStringW hexec hown (text := tx) (a := q) hZ.1 hZ.2 (g := F0 m pc ls rest) rfl (by rw [hb]; exact hdg) t a1, b1⟩
theorem ax_idx {n : Nat} {i : Int32} (h : ¬ (i < 0 ∨ n ≤ i.toNatClampNeg)) : vp_in i n := h
/-- a store into one row -/
theorem ax_W_row {μ : ax_M} {a k : Nat} {x : Int32} {H1 : Heap} (hN : a < N) (e0 : ax_en cA ad (sh a) a (ax_up μ.1 a k x, μ.2) = .inl (cA (sh a).1, (sh a).2.1, .inl (upd (μ.1 a) k x)))
    (h : va_P Dg cl ((ax_w cA ad sh N μ).set a (ad a, .inl (cA (sh a).1, (sh a).2.1, .inl (upd (μ.1 a) k x)))) H1 ∧ va_D A ((ax_w cA ad sh N μ).set a (ad a, .inl (cA (sh a).1, (sh a).2.1, .inl (upd (μ.1 a) k x))))) : ax_W Dg cl A cA ad sh N (ax_up μ.1 a k x, μ.2) H1 := by
  have e1 := ax_w_set (cA := cA) (ad := ad) (sh := sh) (N := N) (μ := μ) (μ' := (ax_up μ.1 a k x, μ.2)) (o := a) (x := .inl (cA (sh a).1, (sh a).2.1, .inl (upd (μ.1 a) k x))) (fun b hb => ax_en_ne1 (ax_up_ne hb) rfl) hN e0.symm
  rw [e1] at h
  exact h


theorem ax_li_ok {wd : Nat → Nat → Option Jvm.Cond} {w : List Nat} {own : String} {ix : Nat} {zn : MethodName} (hwd : ∀ k j w, wd k j = some w → (w.onTables && w.keeps) = true → w ∈ Ts) (hts : ∀ w ∈ Ts, w.before args s = true) (hXn : ∀ k j o i x h, wd k j = some (.methodLinkNest o i x h) → va_Nw (.methodLinkNest o i x h) s) (h : ax_li wd w own ix zn = true) :
    (Jvm.Cond.methodLink own ix zn).before args s = true ∨ ∃ host, va_Nw (.methodLinkNest own ix zn host) s := by
  unfold ax_li at h
  split at h
  case h_2 => cases h
  next k n =>
  split at h
  · next o j x hw =>
    rw [Bool.and_eq_true, Bool.and_eq_true, Bool.and_eq_true, decide_eq_true_eq, decide_eq_true_eq, decide_eq_true_eq] at h
    obtain ⟨⟨⟨h0, rfl⟩, rfl⟩, rfl⟩ := h
    exact Or.inl (hts _ (hwd _ _ _ hw h0))
  · next o j x hh hw =>
    simp only [Bool.and_eq_true, decide_eq_true_eq] at h
    obtain ⟨⟨rfl, rfl⟩, rfl⟩ := h
    exact Or.inr ⟨_, hXn _ _ _ _ _ _ hw⟩
  · cases h
set_option maxHeartbeats 1000000 in
theorem ax_virt {pc ix z0 n rk ci : Nat} {w1 w2 w3 : List Nat} {st : List Value} {lv : ax_L} {μ : ax_M} {zz : Option Value × ax_M} {H : Heap} {locs : List Loc} {ls : Array Slot} {k : ax_L → List Value → ax_M → ax_R}
    (hmt : ∀ z, z < NM → Jvm.Cond.code (MT z).1 (MT z).2.1 (MT z).2.2.1 (MT z).2.2.2.1 ∈ Ts ∧ Jvm.Cond.initialized (MT z).1.cls ∈ Ts ∧ (MT z).2.2.1 ≤ 40 ∧ plainName (MT z).1.cls = true ∧ (MT z).1.cls ≠ "java/lang/invoke/MethodHandle" ∧ (MT z).1.cls ≠ "java/lang/invoke/VarHandle")
    (hwd : ∀ k j w, wd k j = some w → (w.onTables && w.keeps) = true → w ∈ Ts) (hgood : ∀ w ∈ Ts, (w.onTables && w.keeps) = true)
    (hx : p.tables.exec = Jvm.exec) (hb : c.code = (MT y).2.1) (hml : c.maxLocals = (MT y).2.2.1) (hown : s.vm.findClass (MT y).1.cls = some m.cls) (hts : ∀ w ∈ Ts, w.before args s = true) (hK : va_K Dg cl (ax_ty cA) s)
    (hXf : ∀ (U : State) (g : JFrame) (mk : MethodId) (a : Array Value), X U → X (U.calling g mk a)) (hXc : ∀ (H : Heap) (locs : List Loc), va_S A s.heap H locs → ∀ U : State, U.heap = H → s.WarmedH U.vm → X U)
    (hXn : ∀ k j o i x h, wd k j = some (.methodLinkNest o i x h) → va_Nw (.methodLinkNest o i x h) s) (hXr : ∀ a, (sh a).1 = 8 → ∀ (H : Heap) (locs : List Loc), va_S A s.heap H locs → ∃ cellB : Cell, H[ad a]? = some cellB ∧ cellB.vm.isStatics = false ∧ s.vm.findClass "java/lang/String" = some cellB.cls) (hC : ∀ z, z < NM → ∀ as μ r μ', J (EN z) as [] μ = some (r, μ') → ax_Met l Dg cl A cA ad sh N X Ts (MT z) as μ r μ')
    (hsN : ∀ o, (sh o).1 ≤ 6 → o < N) (h99 : ∀ k, 99 ≤ k → cl[k]? = none) (hsc : ∀ o, (sh o).1 = 0 → (sh o).2.1 < 99) (hz : z0 < NM) (hrank : (MT z0).2.2.2.2.1 < (MT y).2.2.2.2.1) (hrk : ax_rk (MT z0).2.2.2.1 rk = true) (hnp : ax_np (MT z0).1 (n - 1) = true) (hn0 : 0 < n) (hci : (cl[ci]?).map (fun r => r.1) = some (MT z0).1.cls ∨ (ci = 99 ∧ (MT z0).1.cls = "java/lang/String"))
    (hw1 : ax_li wd w1 (MT y).1.cls ix (MT z0).1 = true) (hw2 : ax_wok wd w2 (fun w => decide (w = .instanceMethod (MT z0).1)) = true) (hw3 : ax_wok wd w3 (fun w => decide (w = .selects (MT z0).1.cls (MT z0).1 (MT z0).1)) = true)
    (hd : decode (MT y).2.1 pc = .ok (.invokevirtual ix, 3)) (hW : ax_W Dg cl A cA ad sh N μ H) (hS : va_S A s.heap H locs) (hl : lv_has ls (MT y).2.2.1 (ax_ml ad lv))
    (hn : ∀ lv st μ z, k lv st μ = some z → ∀ (H : Heap) (locs : List Loc), ax_W Dg cl A cA ad sh N μ H → va_S A s.heap H locs → lv_has ls (MT y).2.2.1 (ax_ml ad lv) → W p l e (ax_rm (MT y).2.2.2.2.1) s m args below meth c H locs 0 0 (MQ below (ax_Q Dg cl A cA ad sh N z.1 z.2) args s 0 0 A) (F0 m (pc + 3) ls (st.map (ax_rv ad))))
    (h : ax_call J EN (k lv) z0 n rk (ax_rc sh ci) st μ = some zz) : W p l e (ax_rm (MT y).2.2.2.2.1) s m args below meth c H locs 0 0 (MQ below (ax_Q Dg cl A cA ad sh N zz.1 zz.2) args s 0 0 A) (F0 m pc ls (st.map (ax_rv ad))) := by
  unfold ax_call at h
  split at h
  case h_2 => cases h
  next as st' hpop =>
  unfold ax_rc at h
  split at h
  case h_2 => cases h
  next a tl =>
  split at h
  case isFalse => cases h
  next hc =>
  obtain ⟨hfit, h2⟩ := ax_fit_some h
  obtain ⟨xs, hxl, rfl, hxr⟩ := ax_pop_eq n [] st _ st' hpop
  rw [List.append_nil] at hxr
  have hxs : xs = tl.reverse ++ [.ref a] := by
    have := congrArg List.reverse hxr
    rw [List.reverse_reverse] at this
    rw [← this]
    simp
  have htl : (tl.map (ax_rv ad)).length = n - 1 := by
    rw [List.length_map]
    have := congrArg List.length hxs
    simp at this
    omega
  obtain ⟨hcode, hini, hmL, hpl, hy1, hy2⟩ := hmt z0 hz
  have hrec : ∃ cellB : Cell, H[ad a]? = some cellB ∧ cellB.vm.isStatics = false ∧ s.vm.findClass (MT z0).1.cls = some cellB.cls := by
    rcases hc with ⟨hc0, hc1⟩ | ⟨hc0, hc1⟩
    · rcases hci with hci | ⟨hc2, -⟩
      · subst hc1
        have hNa := hsN a (by omega)
        obtain ⟨r0, hr0, hr1⟩ := Option.map_eq_some_iff.mp hci
        rw [← hr1]
        exact va_recv hK hW.1 hr0 ((ax_w_at hNa).trans (by rw [ax_en_kind0 hc0]))
      · have := hsc a hc0
        omega
    · rcases hci with hci | ⟨-, hci⟩
      · rw [h99 ci (by omega)] at hci
        cases hci
      · rw [hci]
        exact hXr a hc0 H locs hS
  have hG : GoodIn Ts (ax_ws Ts (MT z0)) := fun w hw => by
    rcases List.mem_cons.mp hw with rfl | hw
    · exact ⟨hcode, Or.inl (hgood _ hcode)⟩
    · exact ⟨hw, Or.inl (hgood _ hw)⟩
  have hR : (ax_rm (MT z0).2.2.2.2.1).frames + 1 ≤ (ax_rm (MT y).2.2.2.2.1).frames ∧ 8 + ((MT z0).2.2.1 + 11) + (ax_rm (MT z0).2.2.2.2.1).locals ≤ (ax_rm (MT y).2.2.2.2.1).locals := by
    refine ⟨hrank, ?_⟩
    show 8 + ((MT z0).2.2.1 + 11) + 60 * (MT z0).2.2.2.2.1 ≤ 60 * (MT y).2.2.2.2.1
    omega
  have hnp' : (parseMethodDescriptor (MT z0).1.desc).map (fun d => d.parameters.length) = some (n - 1) := of_decide_eq_true hnp
  have hst : (xs ++ st').map (ax_rv ad) = (tl.map (ax_rv ad)).reverse ++ .ref (ad a) :: st'.map (ax_rv ad) := by
    rw [hxs]
    simp [List.map_reverse, ax_rv]
  refine ax_callZ (ax_rk_ret hrk) (fun v μ1 hr => ⟨(Value.ref (ad a) :: tl.map (ax_rv ad)).toArray, ?_⟩) (fun ws μ1 H1 locs1 hk hW1 hS1 => hn lv ws μ1 zz hk H1 locs1 hW1 hS1 hl) hS h2
  have hM := hC z0 hz _ _ _ _ hr
  have hp : PreV s H (MT z0).1.cls (ad a) (ax_P Dg cl A cA ad sh N X (.ref a :: tl) μ) (tl.map (ax_rv ad)) :=
    ⟨ax_blind hXf, hrec, fun U hU hWm => ⟨rfl, by rw [hU]; exact hW, va_K.moved hWm.alike hK, hXc H locs hS U hU hWm⟩⟩
  have hin := (ax_w_wd hwd hts hw2).2
  have hse := (ax_w_wd hwd hts hw3).2
  rcases ax_li_ok hwd hts hXn hw1 with hlk | ⟨host, hlk⟩
  · exact va_runV (y := (MT z0).1) (bytes := (MT z0).2.1) (maxL := (MT z0).2.2.1) (ret := (MT z0).2.2.2.1) (ws := ax_ws Ts (MT z0)) ⟨hx, hb, hml, hown, hts⟩ hM ⟨callB_of (n - 1) hts hG rfl rfl rfl (hts _ hini) hlk ⟨hy1, hy2, hnp'⟩ hR, hin, hse⟩ hp rfl htl hl.1 hst (by simpa [JFrame.monitorRoom] using ax_fit_map hfit) hd ⟨Nat.le_refl 0, Nat.le_refl 0⟩
  · exact va_runVN (y := (MT z0).1) (bytes := (MT z0).2.1) (maxL := (MT z0).2.2.1) (ret := (MT z0).2.2.2.1) (ws := ax_ws Ts (MT z0)) ⟨hx, hb, hml, hown, hts⟩ hM ⟨va_cnB (n - 1) hts hG rfl rfl rfl hlk (hts _ hini) ⟨hy1, hy2, hnp'⟩ hR, hin, hse⟩ hp rfl htl hl.1 hst (by simpa [JFrame.monitorRoom] using ax_fit_map hfit) hd ⟨Nat.le_refl 0, Nat.le_refl 0⟩
set_option maxHeartbeats 1000000 in
theorem ax_stat {pc ix z0 n rk : Nat} {w1 w2 : List Nat} {st : List Value} {lv : ax_L} {μ : ax_M} {zz : Option Value × ax_M} {H : Heap} {locs : List Loc} {ls : Array Slot} {k : ax_L → List Value → ax_M → ax_R}
    (hmt : ∀ z, z < NM → Jvm.Cond.code (MT z).1 (MT z).2.1 (MT z).2.2.1 (MT z).2.2.2.1 ∈ Ts ∧ Jvm.Cond.initialized (MT z).1.cls ∈ Ts ∧ (MT z).2.2.1 ≤ 40 ∧ plainName (MT z).1.cls = true ∧ (MT z).1.cls ≠ "java/lang/invoke/MethodHandle" ∧ (MT z).1.cls ≠ "java/lang/invoke/VarHandle")
    (hwd : ∀ k j w, wd k j = some w → (w.onTables && w.keeps) = true → w ∈ Ts) (hgood : ∀ w ∈ Ts, (w.onTables && w.keeps) = true)
    (hx : p.tables.exec = Jvm.exec) (hb : c.code = (MT y).2.1) (hml : c.maxLocals = (MT y).2.2.1) (hown : s.vm.findClass (MT y).1.cls = some m.cls) (hts : ∀ w ∈ Ts, w.before args s = true) (hK : va_K Dg cl (ax_ty cA) s)
    (hXf : ∀ (U : State) (g : JFrame) (mk : MethodId) (a : Array Value), X U → X (U.calling g mk a)) (hXc : ∀ (H : Heap) (locs : List Loc), va_S A s.heap H locs → ∀ U : State, U.heap = H → s.WarmedH U.vm → X U)
    (hXn : ∀ k j o i x h, wd k j = some (.methodLinkNest o i x h) → va_Nw (.methodLinkNest o i x h) s) (hC : ∀ z, z < NM → ∀ as μ r μ', J (EN z) as [] μ = some (r, μ') → ax_Met l Dg cl A cA ad sh N X Ts (MT z) as μ r μ')
    (hz : z0 < NM) (hrank : (MT z0).2.2.2.2.1 < (MT y).2.2.2.2.1) (hrk : ax_rk (MT z0).2.2.2.1 rk = true) (hnp : ax_np (MT z0).1 n = true)
    (hw1 : ax_li wd w1 (MT y).1.cls ix (MT z0).1 = true) (hw2 : ax_wok wd w2 (fun w => decide (w = .static (MT z0).1)) = true)
    (hd : decode (MT y).2.1 pc = .ok (.invokestatic ix, 3)) (hW : ax_W Dg cl A cA ad sh N μ H) (hS : va_S A s.heap H locs) (hl : lv_has ls (MT y).2.2.1 (ax_ml ad lv))
    (hn : ∀ lv st μ z, k lv st μ = some z → ∀ (H : Heap) (locs : List Loc), ax_W Dg cl A cA ad sh N μ H → va_S A s.heap H locs → lv_has ls (MT y).2.2.1 (ax_ml ad lv) → W p l e (ax_rm (MT y).2.2.2.2.1) s m args below meth c H locs 0 0 (MQ below (ax_Q Dg cl A cA ad sh N z.1 z.2) args s 0 0 A) (F0 m (pc + 3) ls (st.map (ax_rv ad))))
    (h : ax_call J EN (k lv) z0 n rk (fun _ r => r) st μ = some zz) : W p l e (ax_rm (MT y).2.2.2.2.1) s m args below meth c H locs 0 0 (MQ below (ax_Q Dg cl A cA ad sh N zz.1 zz.2) args s 0 0 A) (F0 m pc ls (st.map (ax_rv ad))) := by
  unfold ax_call at h
  split at h
  case h_2 => cases h
  next as st' hpop =>
  obtain ⟨hfit, h2⟩ := ax_fit_some h
  obtain ⟨xs, hxl, rfl, hxr⟩ := ax_pop_eq n [] st _ st' hpop
  rw [List.append_nil] at hxr
  have hxs : xs = as.reverse := by rw [hxr, List.reverse_reverse]
  have htl : (as.map (ax_rv ad)).length = n := by rw [List.length_map, hxr, List.length_reverse, hxl]
  obtain ⟨hcode, hini, hmL, hpl, hy1, hy2⟩ := hmt z0 hz
  have hG : GoodIn Ts (ax_ws Ts (MT z0)) := fun w hw => by
    rcases List.mem_cons.mp hw with rfl | hw
    · exact ⟨hcode, Or.inl (hgood _ hcode)⟩
    · exact ⟨hw, Or.inl (hgood _ hw)⟩
  have hR : (ax_rm (MT z0).2.2.2.2.1).frames + 1 ≤ (ax_rm (MT y).2.2.2.2.1).frames ∧ 8 + ((MT z0).2.2.1 + 11) + (ax_rm (MT z0).2.2.2.2.1).locals ≤ (ax_rm (MT y).2.2.2.2.1).locals := by
    refine ⟨hrank, ?_⟩
    show 8 + ((MT z0).2.2.1 + 11) + 60 * (MT z0).2.2.2.2.1 ≤ 60 * (MT y).2.2.2.2.1
    omega
  have hnp' : (parseMethodDescriptor (MT z0).1.desc).map (fun d => d.parameters.length) = some n := of_decide_eq_true hnp
  have hst : (xs ++ st').map (ax_rv ad) = (as.map (ax_rv ad)).reverse ++ st'.map (ax_rv ad) := by
    rw [hxs]
    simp [List.map_reverse]
  refine ax_callZ (ax_rk_ret hrk) (fun v μ1 hr => ⟨(as.map (ax_rv ad)).toArray, ?_⟩) (fun ws μ1 H1 locs1 hk hW1 hS1 => hn lv ws μ1 zz hk H1 locs1 hW1 hS1 hl) hS h2
  have hM := hC z0 hz _ _ _ _ hr
  have hp : PreS s H (ax_P Dg cl A cA ad sh N X as μ) (as.map (ax_rv ad)) :=
    ⟨ax_blind hXf, fun U hU hWm => ⟨rfl, by rw [hU]; exact hW, va_K.moved hWm.alike hK, hXc H locs hS U hU hWm⟩⟩
  have hst2 := (ax_w_wd hwd hts hw2).2
  rcases ax_li_ok hwd hts hXn hw1 with hlk | ⟨host, hlk⟩
  · exact va_runS (y := (MT z0).1) (bytes := (MT z0).2.1) (maxL := (MT z0).2.2.1) (ret := (MT z0).2.2.2.1) (ws := ax_ws Ts (MT z0)) ⟨hx, hb, hml, hown, hts⟩ hM ⟨callB_of n hts hG rfl rfl rfl (hts _ hini) hlk ⟨hy1, hy2, hnp'⟩ hR, hst2⟩ hp rfl htl hl.1 hst (by simpa [JFrame.monitorRoom] using ax_fit_map hfit) hd ⟨Nat.le_refl 0, Nat.le_refl 0⟩
  · exact va_runSN (y := (MT z0).1) (bytes := (MT z0).2.1) (maxL := (MT z0).2.2.1) (ret := (MT z0).2.2.2.1) (ws := ax_ws Ts (MT z0)) ⟨hx, hb, hml, hown, hts⟩ hM ⟨va_cnB n hts hG rfl rfl rfl hlk (hts _ hini) ⟨hy1, hy2, hnp'⟩ hR, hst2, trivial⟩ hp rfl htl hl.1 hst (by simpa [JFrame.monitorRoom] using ax_fit_map hfit) hd ⟨Nat.le_refl 0, Nat.le_refl 0⟩

theorem ax_fs_set {l : List (Nat × Nat)} {μ μ' : ax_M} {o k : Nat} {q : Nat × Nat} {v : Value} (hq : l[k]? = some q) (h1 : ∀ (j : Nat) (r : Nat × Nat), j ≠ k → ax_fv ad μ' o r j = ax_fv ad μ o r j) (h2 : ax_fv ad μ' o q k = v) :
    (l.mapIdx fun j q => ax_fv ad μ' o q j) = (l.mapIdx fun j q => ax_fv ad μ o q j).set k v := by
  have hk : k < l.length := (List.getElem?_eq_some_iff.mp hq).1
  apply List.ext_getElem?
  intro i
  by_cases hi : i = k
  · subst hi
    rw [List.getElem?_set_self (by simpa using hk), List.getElem?_mapIdx, hq, ← h2]
    rfl
  · rw [List.getElem?_set_ne (Ne.symm hi), List.getElem?_mapIdx, List.getElem?_mapIdx]
    cases l[i]? with
    | none => rfl
    | some r => exact congrArg some (h1 i r hi)
theorem ax_W_put {μ μ' : ax_M} {o f : Nat} {v : Value} {H1 : Heap} (hN : o < N) (hc0 : (sh o).1 = 0) (hne : ∀ b : Nat, b ≠ o → μ'.1 b = μ.1 b ∧ μ'.2 b = μ.2 b) (hfs : ((sh o).2.2.mapIdx fun j q => ax_fv ad μ' o q j) = ((sh o).2.2.mapIdx fun j q => ax_fv ad μ o q j).set f v)
    (h : va_P Dg cl ((ax_w cA ad sh N μ).set o (ad o, .inr ((sh o).2.1, ((sh o).2.2.mapIdx fun j q => ax_fv ad μ o q j).set f v))) H1 ∧ va_D A ((ax_w cA ad sh N μ).set o (ad o, .inr ((sh o).2.1, ((sh o).2.2.mapIdx fun j q => ax_fv ad μ o q j).set f v)))) : ax_W Dg cl A cA ad sh N μ' H1 := by
  have e1 := ax_w_set (cA := cA) (ad := ad) (sh := sh) (N := N) (μ := μ) (μ' := μ') (o := o) (x := .inr ((sh o).2.1, ((sh o).2.2.mapIdx fun j q => ax_fv ad μ o q j).set f v)) (fun b hb => ax_en_ne1 (hne b hb).1 (hne b hb).2) hN (by rw [ax_en_kind0 hc0, hfs])
  rw [e1] at h
  exact h
theorem ax_fv_up1 {μ : ax_M} {o k j : Nat} {x : Int32} {r : Nat × Nat} (h : j ≠ k) : ax_fv ad (ax_up μ.1 o k x, μ.2) o r j = ax_fv ad μ o r j := by
  unfold ax_fv
  split <;> simp [ax_up, h]
theorem ax_fv_up2 {μ : ax_M} {o k j : Nat} {x : Int64} {r : Nat × Nat} (h : j ≠ k) : ax_fv ad (μ.1, ax_up μ.2 o k x) o r j = ax_fv ad μ o r j := by
  unfold ax_fv
  split <;> simp [ax_up, h]
set_option maxHeartbeats 4000000 in
theorem ax_snd_ex (hOK : ax_OK cl sh N Ts wd NM MT) (hx : p.tables.exec = Jvm.exec) (hb : c.code = (MT y).2.1) (hml : c.maxLocals = (MT y).2.2.1) (hown : s.vm.findClass (MT y).1.cls = some m.cls) (hts : ∀ w ∈ Ts, w.before args s = true) (hK : va_K Dg cl (ax_ty cA) s) (hr : meth.sig.returnType = (MT y).2.2.2.1) (hlocks : meth.locks = false) (hA : ∀ q : Nat, A q → True) (hrk1 : 1 ≤ (MT y).2.2.2.2.1)
    (hXf : ∀ (U : State) (g : JFrame) (mk : MethodId) (a : Array Value), X U → X (U.calling g mk a)) (hXc : ∀ (H : Heap) (locs : List Loc), va_S A s.heap H locs → ∀ U : State, U.heap = H → s.WarmedH U.vm → X U)
    (hJ : ∀ lb vs st μ z, (BL lb).1 = y → J lb vs st μ = some z → ∃ lv0, ax_l0 (BL lb).2.2.1 vs = some lv0 ∧ ax_Z p l e (ax_rm (MT y).2.2.2.2.1) s m args below meth c Dg cl A cA ad sh N (MT y).2.2.1 z (BL lb).2.1 lv0 st μ)
    (hXn : ∀ k j o i x h, wd k j = some (.methodLinkNest o i x h) → va_Nw (.methodLinkNest o i x h) s) (hXs : ∀ (j ix : Nat) (tx : String), SL[j]? = some (ix, tx) → vk_R "AskingFragments" ix tx (ad (1000 + j)) s) (hXr : ∀ a, (sh a).1 = 8 → ∀ (H : Heap) (locs : List Loc), va_S A s.heap H locs → ∃ cellB : Cell, H[ad a]? = some cellB ∧ cellB.vm.isStatics = false ∧ s.vm.findClass "java/lang/String" = some cellB.cls) (hC : ∀ z, z < NM → ∀ as μ r μ', J (EN z) as [] μ = some (r, μ') → ax_Met l Dg cl A cA ad sh N X Ts (MT z) as μ r μ') :
    ∀ (is : List ax_I) (pc : Nat), ax_vb cl wd NM MT BL SL y pc is = true → ∀ lv st μ z, ax_ex sh J EN is lv st μ = some z → ax_Z p l e (ax_rm (MT y).2.2.2.2.1) s m args below meth c Dg cl A cA ad sh N (MT y).2.2.1 z pc lv st μ := by
  obtain ⟨hwd, hgood, hsN, hcl, hsh, hmt, hmath, hsys, hnw, h99, hsc⟩ := hOK
  intro is
  induction is with
  | nil => intro pc hv lv st μ z h; simp [ax_ex] at h
  | cons q is ih =>
    intro pc hv lv st μ z h
    obtain ⟨pc0, i, x⟩ := q
    simp only [ax_vb, Bool.and_eq_true, decide_eq_true_eq, Bool.or_eq_true] at hv
    obtain ⟨⟨⟨hpc, hdk⟩, hok⟩, hvt⟩ := hv
    subst hpc
    have hn := ih _ hvt
    have hd : i = .nop ∨ ∃ n, decode (MT y).2.1 pc0 = .ok (i, n) ∧ (ax_sws i = false → n = ax_ln i) := by
      rcases hdk with h1 | h1
      · exact Or.inl h1
      · obtain ⟨n, h2, h3⟩ := ax_dk_ok (q := (pc0, i, x)) h1
        exact Or.inr ⟨n, h2, h3⟩
    clear hdk
    rw [ax_ex] at h
    intro H locs ls hW hS hl
    simp only [] at h
    cases i
    case nop =>
      simp only [ax_step] at h
      split at h
      · next y0 =>
        obtain ⟨tgt, e1, k⟩ := ax_tgo hJ (show ax_tg BL y pc0 0 y0 = true from hok) h hW hS hl
        have : tgt = pc0 := by omega
        subst this
        exact k
      · exact Bool.noConfusion hok
      · exact Bool.noConfusion hok
      · cases h
    case iconst v =>
      obtain ⟨nn, hd, hnn⟩ := hd.resolve_left nofun
      cases hnn rfl
      simp only [ax_step] at h
      exact lv_iconst hx hb hd rfl (hn _ _ _ _ h H locs ls hW hS hl)
    case bipush v =>
      obtain ⟨nn, hd, hnn⟩ := hd.resolve_left nofun
      cases hnn rfl
      simp only [ax_step] at h
      exact lv_bipush hx hb hd rfl (hn _ _ _ _ h H locs ls hW hS hl)
    case sipush v =>
      obtain ⟨nn, hd, hnn⟩ := hd.resolve_left nofun
      cases hnn rfl
      simp only [ax_step] at h
      exact lv_sipush hx hb hd rfl (hn _ _ _ _ h H locs ls hW hS hl)
    case lconst v =>
      obtain ⟨nn, hd, hnn⟩ := hd.resolve_left nofun
      cases hnn rfl
      simp only [ax_step] at h
      exact lv_lconst hx hb hd rfl (hn _ _ _ _ h H locs ls hW hS hl)
    case aconst_null =>
      obtain ⟨nn, hd, hnn⟩ := hd.resolve_left nofun
      cases hnn rfl
      simp only [ax_step] at h
      exact lv_null hx hb hd (hn _ _ _ _ h H locs ls hW hS hl)
    case ldc2_w ix =>
      obtain ⟨nn, hd, hnn⟩ := hd.resolve_left nofun
      cases hnn rfl
      have hx1 : ∃ a w, x = [[a], w] ∧ ax_wok wd w (fun w => decide (w = .constantLong (MT y).1.cls ix (Int64.ofNat a))) = true := by
        rcases x with _ | ⟨_ | ⟨a, _ | ⟨_, _⟩⟩, _ | ⟨w, _ | ⟨_, _⟩⟩⟩ <;> first | exact ⟨_, _, rfl, hok⟩ | exact Bool.noConfusion hok
      obtain ⟨a, w, rfl, hw⟩ := hx1
      simp only [ax_step] at h
      exact lv_ldc2 hx hb hown (ax_w_wd hwd hts hw).2 hd (hn _ _ _ _ h H locs ls hW hS hl)
    case ldc_w ix =>
      obtain ⟨nn, hd, hnn⟩ := hd.resolve_left nofun
      cases hnn rfl
      have hx1 : (∃ a w, x = [[a], w] ∧ ax_wok wd w (fun w => decide (w = .constant (MT y).1.cls ix (Int32.ofNat a))) = true) ∨ (∃ sid, x = [[], [sid]] ∧ (decide (1000 ≤ sid) && decide ((SL[sid - 1000]?).map (fun q => q.1) = some ix) && decide ((MT y).1.cls = "AskingFragments")) = true) := by
        rcases x with _ | ⟨_ | ⟨a, _ | ⟨_, _⟩⟩, _ | ⟨_ | ⟨w, _ | ⟨_, _⟩⟩, _ | ⟨_, _⟩⟩⟩ <;> first | exact Or.inl ⟨_, _, rfl, hok⟩ | exact Or.inr ⟨_, rfl, hok⟩ | exact Bool.noConfusion hok
      rcases hx1 with ⟨a, w, rfl, hw⟩ | ⟨sid, rfl, hw⟩
      · simp only [ax_step] at h
        exact lv_ldcw hx hb hown (ax_w_wd hwd hts hw).2 hd (hn _ _ _ _ h H locs ls hW hS hl)
      · simp only [Bool.and_eq_true, decide_eq_true_eq] at hw
        obtain ⟨⟨hw1, hw2⟩, hw3⟩ := hw
        simp only [ax_step] at h
        obtain ⟨⟨i9, tx⟩, hq, rfl⟩ := Option.map_eq_some_iff.mp hw2
        have hR := hXs _ _ _ hq
        rw [show 1000 + (sid - 1000) = sid from by omega] at hR
        rw [hw3] at hown
        exact ax_ldcS hx hb hown hR hd (hn _ _ _ _ h H locs ls hW hS hl)
    case iload ix =>
      obtain ⟨nn, hd, hnn⟩ := hd.resolve_left nofun
      cases hnn rfl
      simp only [ax_step] at h
      split at h
      · next v hv => exact lv_iload hx hb hd (ax_lk_at hl hv) (hn _ _ _ _ h H locs ls hW hS hl)
      · cases h
    case lload ix =>
      obtain ⟨nn, hd, hnn⟩ := hd.resolve_left nofun
      cases hnn rfl
      simp only [ax_step] at h
      split at h
      · next v hv => exact lv_lload hx hb hd (ax_lk_at hl hv) (hn _ _ _ _ h H locs ls hW hS hl)
      · cases h
    case aload ix =>
      obtain ⟨nn, hd, hnn⟩ := hd.resolve_left nofun
      cases hnn rfl
      simp only [ax_step] at h
      split at h
      · next v hv => exact lv_aload hx hb hd (ax_lk_at hl hv) (hn _ _ _ _ h H locs ls hW hS hl)
      · next hv => exact lv_aloadN hx hb hd (ax_lk_at hl hv) (hn _ _ _ _ h H locs ls hW hS hl)
      · cases h
    case iload_n ix =>
      obtain ⟨nn, hd, hnn⟩ := hd.resolve_left nofun
      cases hnn rfl
      simp only [ax_step] at h
      split at h
      · next v hv => exact lv_iload_n hx hb hd rfl (ax_lk_at hl hv) (hn _ _ _ _ h H locs ls hW hS hl)
      · cases h
    case lload_n ix =>
      obtain ⟨nn, hd, hnn⟩ := hd.resolve_left nofun
      cases hnn rfl
      simp only [ax_step] at h
      split at h
      · next v hv => exact lv_lload_n hx hb hd rfl (ax_lk_at hl hv) (hn _ _ _ _ h H locs ls hW hS hl)
      · cases h
    case aload_n ix =>
      obtain ⟨nn, hd, hnn⟩ := hd.resolve_left nofun
      cases hnn rfl
      simp only [ax_step] at h
      split at h
      · next v hv => exact lv_aload_n hx hb hd rfl (ax_lk_at hl hv) (hn _ _ _ _ h H locs ls hW hS hl)
      · next hv => exact lv_aload_nN hx hb hd rfl (ax_lk_at hl hv) (hn _ _ _ _ h H locs ls hW hS hl)
      · cases h
    case istore ix =>
      obtain ⟨nn, hd, hnn⟩ := hd.resolve_left nofun
      cases hnn rfl
      simp only [ax_step] at h
      split at h
      · next v st => exact lv_istore hx hb hd  hl (by simpa [ax_okb] using hok) (ax_s1_ml ad lv _ (.int v)) (fun ls' hl' => hn _ _ _ _ h H locs ls' hW hS hl')
      · cases h
    case istore_n ix =>
      obtain ⟨nn, hd, hnn⟩ := hd.resolve_left nofun
      cases hnn rfl
      simp only [ax_step] at h
      split at h
      · next v st => exact lv_istore_n hx hb hd rfl hl (by simpa [ax_okb] using hok) (ax_s1_ml ad lv _ (.int v)) (fun ls' hl' => hn _ _ _ _ h H locs ls' hW hS hl')
      · cases h
    case lstore ix =>
      obtain ⟨nn, hd, hnn⟩ := hd.resolve_left nofun
      cases hnn rfl
      simp only [ax_step] at h
      split at h
      · next v st => exact lv_lstore hx hb hd  hl (by simpa [ax_okb] using hok) (ax_s2_ml ad lv _ (.long v)) (fun ls' hl' => hn _ _ _ _ h H locs ls' hW hS hl')
      · cases h
    case lstore_n ix =>
      obtain ⟨nn, hd, hnn⟩ := hd.resolve_left nofun
      cases hnn rfl
      simp only [ax_step] at h
      split at h
      · next v st => exact lv_lstore_n hx hb hd rfl hl (by simpa [ax_okb] using hok) (ax_s2_ml ad lv _ (.long v)) (fun ls' hl' => hn _ _ _ _ h H locs ls' hW hS hl')
      · cases h
    case astore ix =>
      obtain ⟨nn, hd, hnn⟩ := hd.resolve_left nofun
      cases hnn rfl
      simp only [ax_step] at h
      split at h
      · next v st => exact lv_astore hx hb hd  hl (by simpa [ax_okb] using hok) (ax_s1_ml ad lv _ (.ref v)) (fun ls' hl' => hn _ _ _ _ h H locs ls' hW hS hl')
      · next st => exact lv_astoreN hx hb hd  hl (by simpa [ax_okb] using hok) (ax_s1_ml ad lv _ .null) (fun ls' hl' => hn _ _ _ _ h H locs ls' hW hS hl')
      · cases h
    case astore_n ix =>
      obtain ⟨nn, hd, hnn⟩ := hd.resolve_left nofun
      cases hnn rfl
      simp only [ax_step] at h
      split at h
      · next v st => exact lv_astore_n hx hb hd rfl hl (by simpa [ax_okb] using hok) (ax_s1_ml ad lv _ (.ref v)) (fun ls' hl' => hn _ _ _ _ h H locs ls' hW hS hl')
      · next st => exact lv_astore_nN hx hb hd rfl hl (by simpa [ax_okb] using hok) (ax_s1_ml ad lv _ .null) (fun ls' hl' => hn _ _ _ _ h H locs ls' hW hS hl')
      · cases h
    case iinc ix k =>
      obtain ⟨nn, hd, hnn⟩ := hd.resolve_left nofun
      cases hnn rfl
      simp only [ax_step] at h
      split at h
      · next v hv =>
        obtain ⟨j, hj⟩ := ax_lk_pl (ad := ad) hv
        exact lv_iinc hx hb hd hl hj rfl (by simpa [ax_okb] using hok) (ax_s1_ml ad lv _ (.int _)) (fun ls' hl' => hn _ _ _ _ h H locs ls' hW hS hl')
      · cases h
    case dup =>
      obtain ⟨nn, hd, hnn⟩ := hd.resolve_left nofun
      cases hnn rfl
      simp only [ax_step] at h
      split at h
      · split at h
        · next hc => exact lv_dup hx hb hd ((ax_rv_cat _ _).trans hc) (hn _ _ _ _ h H locs ls hW hS hl)
        · cases h
      · cases h
    case pop =>
      obtain ⟨nn, hd, hnn⟩ := hd.resolve_left nofun
      cases hnn rfl
      simp only [ax_step] at h
      split at h
      · split at h
        · next hc => exact lv_pop hx hb hd ((ax_rv_cat _ _).trans hc) (hn _ _ _ _ h H locs ls hW hS hl)
        · cases h
      · cases h
    case dup2 =>
      obtain ⟨nn, hd, hnn⟩ := hd.resolve_left nofun
      cases hnn rfl
      simp only [ax_step] at h
      split at h
      · split at h
        · next hc => exact lv_dup2_11 hx hb hd ((ax_rv_cat _ _).trans hc.1) ((ax_rv_cat _ _).trans hc.2) (hn _ _ _ _ h H locs ls hW hS hl)
        · cases h
      · cases h
    case iadd =>
      obtain ⟨nn, hd, hnn⟩ := hd.resolve_left nofun
      cases hnn rfl
      simp only [ax_step] at h
      split at h
      · exact lv_iadd hx hb hd (hn _ _ _ _ h H locs ls hW hS hl)
      · cases h
    case isub =>
      obtain ⟨nn, hd, hnn⟩ := hd.resolve_left nofun
      cases hnn rfl
      simp only [ax_step] at h
      split at h
      · exact lv_isub hx hb hd (hn _ _ _ _ h H locs ls hW hS hl)
      · cases h
    case imul =>
      obtain ⟨nn, hd, hnn⟩ := hd.resolve_left nofun
      cases hnn rfl
      simp only [ax_step] at h
      split at h
      · exact lv_imul hx hb hd (hn _ _ _ _ h H locs ls hW hS hl)
      · cases h
    case iand =>
      obtain ⟨nn, hd, hnn⟩ := hd.resolve_left nofun
      cases hnn rfl
      simp only [ax_step] at h
      split at h
      · exact lv_iand hx hb hd (hn _ _ _ _ h H locs ls hW hS hl)
      · cases h
    case ior =>
      obtain ⟨nn, hd, hnn⟩ := hd.resolve_left nofun
      cases hnn rfl
      simp only [ax_step] at h
      split at h
      · exact lv_ior hx hb hd (hn _ _ _ _ h H locs ls hW hS hl)
      · cases h
    case ixor =>
      obtain ⟨nn, hd, hnn⟩ := hd.resolve_left nofun
      cases hnn rfl
      simp only [ax_step] at h
      split at h
      · exact lv_ixor hx hb hd (hn _ _ _ _ h H locs ls hW hS hl)
      · cases h
    case ishl =>
      obtain ⟨nn, hd, hnn⟩ := hd.resolve_left nofun
      cases hnn rfl
      simp only [ax_step] at h
      split at h
      · exact lv_ishl hx hb hd (hn _ _ _ _ h H locs ls hW hS hl)
      · cases h
    case ishr =>
      obtain ⟨nn, hd, hnn⟩ := hd.resolve_left nofun
      cases hnn rfl
      simp only [ax_step] at h
      split at h
      · exact lv_ishr hx hb hd (hn _ _ _ _ h H locs ls hW hS hl)
      · cases h
    case ladd =>
      obtain ⟨nn, hd, hnn⟩ := hd.resolve_left nofun
      cases hnn rfl
      simp only [ax_step] at h
      split at h
      · exact lv_ladd hx hb hd (hn _ _ _ _ h H locs ls hW hS hl)
      · cases h
    case lsub =>
      obtain ⟨nn, hd, hnn⟩ := hd.resolve_left nofun
      cases hnn rfl
      simp only [ax_step] at h
      split at h
      · exact lv_lsub hx hb hd (hn _ _ _ _ h H locs ls hW hS hl)
      · cases h
    case lmul =>
      obtain ⟨nn, hd, hnn⟩ := hd.resolve_left nofun
      cases hnn rfl
      simp only [ax_step] at h
      split at h
      · exact lv_lmul hx hb hd (hn _ _ _ _ h H locs ls hW hS hl)
      · cases h
    case iushr =>
      obtain ⟨nn, hd, hnn⟩ := hd.resolve_left nofun
      cases hnn rfl
      simp only [ax_step] at h
      split at h
      · exact lv_iushr hx hb hd rfl (hn _ _ _ _ h H locs ls hW hS hl)
      · cases h
    case ineg =>
      obtain ⟨nn, hd, hnn⟩ := hd.resolve_left nofun
      cases hnn rfl
      simp only [ax_step] at h
      split at h
      · exact lv_ineg hx hb hd (hn _ _ _ _ h H locs ls hW hS hl)
      · cases h
    case lcmp =>
      obtain ⟨nn, hd, hnn⟩ := hd.resolve_left nofun
      cases hnn rfl
      simp only [ax_step] at h
      split at h
      · exact W.lcmp hx hb hd (hn _ _ _ _ h H locs ls hW hS hl)
      · cases h
    case i2l =>
      obtain ⟨nn, hd, hnn⟩ := hd.resolve_left nofun
      cases hnn rfl
      simp only [ax_step] at h
      split at h
      · exact lv_i2l hx hb hd rfl (hn _ _ _ _ h H locs ls hW hS hl)
      · cases h
    case l2i =>
      obtain ⟨nn, hd, hnn⟩ := hd.resolve_left nofun
      cases hnn rfl
      simp only [ax_step] at h
      split at h
      · exact lv_l2i hx hb hd rfl (hn _ _ _ _ h H locs ls hW hS hl)
      · cases h
    case i2b =>
      obtain ⟨nn, hd, hnn⟩ := hd.resolve_left nofun
      cases hnn rfl
      simp only [ax_step] at h
      split at h
      · exact lv_i2b hx hb hd rfl (hn _ _ _ _ h H locs ls hW hS hl)
      · cases h
    case idiv =>
      obtain ⟨nn, hd, hnn⟩ := hd.resolve_left nofun
      cases hnn rfl
      simp only [ax_step] at h
      split at h
      · split at h
        · cases h
        · next hne => exact lv_idiv hx hb hd hne (hn _ _ _ _ h H locs ls hW hS hl)
      · cases h
    case irem =>
      obtain ⟨nn, hd, hnn⟩ := hd.resolve_left nofun
      cases hnn rfl
      simp only [ax_step] at h
      split at h
      · split at h
        · cases h
        · next hne => exact lv_irem hx hb hd hne (hn _ _ _ _ h H locs ls hW hS hl)
      · cases h
    case ldiv =>
      obtain ⟨nn, hd, hnn⟩ := hd.resolve_left nofun
      cases hnn rfl
      simp only [ax_step] at h
      split at h
      · split at h
        · cases h
        · next hne => exact lv_ldiv hx hb hd hne (hn _ _ _ _ h H locs ls hW hS hl)
      · cases h
    case lrem =>
      obtain ⟨nn, hd, hnn⟩ := hd.resolve_left nofun
      cases hnn rfl
      simp only [ax_step] at h
      split at h
      · split at h
        · cases h
        · next hne => exact lv_lrem hx hb hd hne (hn _ _ _ _ h H locs ls hW hS hl)
      · cases h
    case ifCond cn off =>
      obtain ⟨nn, hd, hnn⟩ := hd.resolve_left nofun
      cases hnn rfl
      simp only [ax_step] at h
      split at h
      · have ht : ax_tg BL y pc0 off _ = true := hok
        split at h
        · split at h
          · next hc =>
            obtain ⟨tgt, e1, k⟩ := ax_tgo hJ ht h hW hS hl
            exact lv_if_eq hx hb hd e1 (fun _ => k) (fun hc2 => absurd hc hc2)
          · next hc =>
            obtain ⟨lb, ks, rfl, -, e1, -, -⟩ := ax_tg_spec ht
            exact lv_if_eq hx hb hd e1 (fun hc2 => absurd hc2 hc) (fun _ => hn _ _ _ _ h H locs ls hW hS hl)
        · split at h
          · next hc =>
            obtain ⟨lb, ks, rfl, -, e1, -, -⟩ := ax_tg_spec ht
            exact lv_if_ne hx hb hd e1 (fun hc2 => absurd hc hc2) (fun _ => hn _ _ _ _ h H locs ls hW hS hl)
          · next hc =>
            obtain ⟨tgt, e1, k⟩ := ax_tgo hJ ht h hW hS hl
            exact lv_if_ne hx hb hd e1 (fun _ => k) (fun hc2 => absurd hc2 hc)
        · split at h
          · next hc =>
            obtain ⟨tgt, e1, k⟩ := ax_tgo hJ ht h hW hS hl
            exact lv_if_lt hx hb hd e1 (fun _ => k) (fun hc2 => absurd hc hc2)
          · next hc =>
            obtain ⟨lb, ks, rfl, -, e1, -, -⟩ := ax_tg_spec ht
            exact lv_if_lt hx hb hd e1 (fun hc2 => absurd hc2 hc) (fun _ => hn _ _ _ _ h H locs ls hW hS hl)
        · split at h
          · next hc =>
            obtain ⟨tgt, e1, k⟩ := ax_tgo hJ ht h hW hS hl
            exact lv_if_ge hx hb hd e1 (fun _ => k) (fun hc2 => absurd hc hc2)
          · next hc =>
            obtain ⟨lb, ks, rfl, -, e1, -, -⟩ := ax_tg_spec ht
            exact lv_if_ge hx hb hd e1 (fun hc2 => absurd hc2 hc) (fun _ => hn _ _ _ _ h H locs ls hW hS hl)
        · split at h
          · next hc =>
            obtain ⟨tgt, e1, k⟩ := ax_tgo hJ ht h hW hS hl
            exact lv_if_gt hx hb hd e1 (fun _ => k) (fun hc2 => absurd hc hc2)
          · next hc =>
            obtain ⟨lb, ks, rfl, -, e1, -, -⟩ := ax_tg_spec ht
            exact lv_if_gt hx hb hd e1 (fun hc2 => absurd hc2 hc) (fun _ => hn _ _ _ _ h H locs ls hW hS hl)
        · split at h
          · next hc =>
            obtain ⟨tgt, e1, k⟩ := ax_tgo hJ ht h hW hS hl
            exact lv_if_le hx hb hd e1 (fun _ => k) (fun hc2 => absurd hc hc2)
          · next hc =>
            obtain ⟨lb, ks, rfl, -, e1, -, -⟩ := ax_tg_spec ht
            exact lv_if_le hx hb hd e1 (fun hc2 => absurd hc2 hc) (fun _ => hn _ _ _ _ h H locs ls hW hS hl)
      · cases h
    case if_icmp cn off =>
      obtain ⟨nn, hd, hnn⟩ := hd.resolve_left nofun
      cases hnn rfl
      simp only [ax_step] at h
      split at h
      · have ht : ax_tg BL y pc0 off _ = true := hok
        split at h
        · split at h
          · next hc =>
            obtain ⟨tgt, e1, k⟩ := ax_tgo hJ ht h hW hS hl
            exact lv_icmp_eq hx hb hd e1 (fun _ => k) (fun hc2 => absurd hc hc2)
          · next hc =>
            obtain ⟨lb, ks, rfl, -, e1, -, -⟩ := ax_tg_spec ht
            exact lv_icmp_eq hx hb hd e1 (fun hc2 => absurd hc2 hc) (fun _ => hn _ _ _ _ h H locs ls hW hS hl)
        · split at h
          · next hc =>
            obtain ⟨lb, ks, rfl, -, e1, -, -⟩ := ax_tg_spec ht
            exact lv_icmp_ne hx hb hd e1 (fun hc2 => absurd hc hc2) (fun _ => hn _ _ _ _ h H locs ls hW hS hl)
          · next hc =>
            obtain ⟨tgt, e1, k⟩ := ax_tgo hJ ht h hW hS hl
            exact lv_icmp_ne hx hb hd e1 (fun _ => k) (fun hc2 => absurd hc2 hc)
        · split at h
          · next hc =>
            obtain ⟨tgt, e1, k⟩ := ax_tgo hJ ht h hW hS hl
            exact lv_icmp_lt hx hb hd e1 (fun _ => k) (fun hc2 => absurd hc hc2)
          · next hc =>
            obtain ⟨lb, ks, rfl, -, e1, -, -⟩ := ax_tg_spec ht
            exact lv_icmp_lt hx hb hd e1 (fun hc2 => absurd hc2 hc) (fun _ => hn _ _ _ _ h H locs ls hW hS hl)
        · split at h
          · next hc =>
            obtain ⟨tgt, e1, k⟩ := ax_tgo hJ ht h hW hS hl
            exact lv_icmp_ge hx hb hd e1 (fun _ => k) (fun hc2 => absurd hc hc2)
          · next hc =>
            obtain ⟨lb, ks, rfl, -, e1, -, -⟩ := ax_tg_spec ht
            exact lv_icmp_ge hx hb hd e1 (fun hc2 => absurd hc2 hc) (fun _ => hn _ _ _ _ h H locs ls hW hS hl)
        · split at h
          · next hc =>
            obtain ⟨tgt, e1, k⟩ := ax_tgo hJ ht h hW hS hl
            exact lv_icmp_gt hx hb hd e1 (fun _ => k) (fun hc2 => absurd hc hc2)
          · next hc =>
            obtain ⟨lb, ks, rfl, -, e1, -, -⟩ := ax_tg_spec ht
            exact lv_icmp_gt hx hb hd e1 (fun hc2 => absurd hc2 hc) (fun _ => hn _ _ _ _ h H locs ls hW hS hl)
        · split at h
          · next hc =>
            obtain ⟨tgt, e1, k⟩ := ax_tgo hJ ht h hW hS hl
            exact lv_icmp_le hx hb hd e1 (fun _ => k) (fun hc2 => absurd hc hc2)
          · next hc =>
            obtain ⟨lb, ks, rfl, -, e1, -, -⟩ := ax_tg_spec ht
            exact lv_icmp_le hx hb hd e1 (fun hc2 => absurd hc2 hc) (fun _ => hn _ _ _ _ h H locs ls hW hS hl)
      · cases h
    case ifnull off =>
      obtain ⟨nn, hd, hnn⟩ := hd.resolve_left nofun
      cases hnn rfl
      simp only [ax_step] at h
      split at h
      · exact lv_ifnull hx hb hd (hn _ _ _ _ h H locs ls hW hS hl)
      · obtain ⟨tgt, e1, k⟩ := ax_tgo hJ (show ax_tg BL y pc0 off _ = true from hok) h hW hS hl
        exact lv_ifnullN hx hb hd e1 k
      · cases h
    case ifnonnull off =>
      obtain ⟨nn, hd, hnn⟩ := hd.resolve_left nofun
      cases hnn rfl
      simp only [ax_step] at h
      split at h
      · obtain ⟨tgt, e1, k⟩ := ax_tgo hJ (show ax_tg BL y pc0 off _ = true from hok) h hW hS hl
        exact lv_ifnonnull hx hb hd e1 k
      · exact lv_ifnonnullN hx hb hd (hn _ _ _ _ h H locs ls hW hS hl)
      · cases h
    case goto off =>
      obtain ⟨nn, hd, hnn⟩ := hd.resolve_left nofun
      cases hnn rfl
      simp only [ax_step] at h
      split at h
      · obtain ⟨tgt, e1, k⟩ := ax_tgo hJ (show ax_tg BL y pc0 off _ = true from hok) h hW hS hl
        exact lv_goto hx hb hd e1 k
      · cases h
    case tableswitch d lo hi offs =>
      obtain ⟨nn, hd, hnn⟩ := hd.resolve_left nofun
      simp only [ax_step] at h
      split at h
      · next x0 ys a st =>
        have hok2 : (ax_tg BL y pc0 d x0 && ax_tt BL y pc0 lo offs.toList ys && decide (lo + (ys.length : Int) = hi + 1)) = true := hok
        simp only [Bool.and_eq_true, decide_eq_true_eq] at hok2
        exact ax_swT (R := ax_rm (MT y).2.2.2.2.1) hx hb hJ hd hok2.1.1 hW hS hl ys offs.toList [] rfl (by simpa using hok2.1.2) (by simpa using hok2.2) (by simp) h
      · cases h
    case lookupswitch d ps =>
      obtain ⟨nn, hd, hnn⟩ := hd.resolve_left nofun
      simp only [ax_step] at h
      split at h
      · next x0 ys a st =>
        have hok2 : (ax_tg BL y pc0 d x0 && ax_tl BL y pc0 ps.toList ys && (ps.toList.zip (ps.toList.drop 1)).all (fun (a, next) => a.1 < next.1)) = true := hok
        rw [Bool.and_eq_true, Bool.and_eq_true] at hok2
        exact ax_swL (R := ax_rm (MT y).2.2.2.2.1) hx hb hJ hd hok2.2 hok2.1.1 hW hS hl ys ps.toList hok2.1.2 rfl h
      · cases h
    case ireturn =>
      obtain ⟨nn, hd, hnn⟩ := hd.resolve_left nofun
      cases hnn rfl
      simp only [ax_step] at h
      split at h
      · cases h
        have hrt : (MT y).2.2.2.1 = some .int := by simpa [ax_okb] using hok
        exact W.iret hx hb (hr.trans hrt) (fun t ht hw => ⟨rfl, by rw [ht]; exact hW, hS.F ht⟩) hS.2.2 hd hlocks
      · split at h
        · next hz =>
          cases h
          have hrt : (MT y).2.2.2.1 = some .boolean := by simpa [ax_okb] using hok
          refine W.zret hx hb (hr.trans hrt) ?_ (fun t ht hw => ⟨rfl, by rw [ht]; exact hW, hS.F ht⟩) hS.2.2 hd hlocks
          rcases hz with rfl | rfl <;> decide
        · cases h
      · cases h
    case lreturn =>
      obtain ⟨nn, hd, hnn⟩ := hd.resolve_left nofun
      cases hnn rfl
      simp only [ax_step] at h
      split at h
      · cases h
        have hrt : (MT y).2.2.2.1 = some .long := by simpa [ax_okb] using hok
        exact W.lret hx hb (hr.trans hrt) (fun t ht hw => ⟨rfl, by rw [ht]; exact hW, hS.F ht⟩) hS.2.2 hd hlocks
      · cases h
    case areturn =>
      obtain ⟨nn, hd, hnn⟩ := hd.resolve_left nofun
      cases hnn rfl
      have hrt : ∃ o, (MT y).2.2.2.1 = some (.object o) := by
        unfold ax_okb at hok
        simp only [] at hok
        split at hok
        · next o ho => exact ⟨o, ho⟩
        · cases hok
      obtain ⟨o, hrt⟩ := hrt
      simp only [ax_step] at h
      split at h
      · cases h
        exact W.aret hx hb (hr.trans hrt) (Or.inl ⟨_, rfl⟩) (Or.inr ⟨_, rfl⟩) (fun t ht hw => ⟨rfl, by rw [ht]; exact hW, hS.F ht⟩) hS.2.2 hd hlocks
      · cases h
        exact W.aret hx hb (hr.trans hrt) (Or.inl ⟨_, rfl⟩) (Or.inl rfl) (fun t ht hw => ⟨rfl, by rw [ht]; exact hW, hS.F ht⟩) hS.2.2 hd hlocks
      · cases h
    case return_ =>
      obtain ⟨nn, hd, hnn⟩ := hd.resolve_left nofun
      cases hnn rfl
      simp only [ax_step] at h
      split at h
      · cases h
        have hrt : (MT y).2.2.2.1 = none := by simpa [ax_okb] using hok
        exact W.vret hx hb (hr.trans hrt) (fun t ht hw => ⟨rfl, by rw [ht]; exact hW, hS.F ht⟩) hS.2.2 hd hlocks
      · cases h
    case iaload =>
      obtain ⟨nn, hd, hnn⟩ := hd.resolve_left nofun
      cases hnn rfl
      simp only [ax_step] at h
      split at h
      · next i a st =>
        obtain ⟨v, h1, h2⟩ := ax_bo_some h
        unfold ax_ld at h1
        split at h1
        · next hc =>
          cases h1
          have hN := hsN a (by omega)
          exact va_iald hx hb hK hW.1 a 0 ((ax_w_at hN).trans (by rw [ax_en_kind hc.1 (Or.inl rfl)])) rfl (ax_idx hc.2) hd (hn _ _ _ _ h2 H locs ls hW hS hl)
        · cases h1
      · cases h
    case laload =>
      obtain ⟨nn, hd, hnn⟩ := hd.resolve_left nofun
      cases hnn rfl
      simp only [ax_step] at h
      split at h
      · next i a st =>
        obtain ⟨v, h1, h2⟩ := ax_bo_some h
        unfold ax_ldl at h1
        split at h1
        · next hc =>
          cases h1
          have hN := hsN a (by omega)
          exact va_lald hx hb hK hW.1 a 3 ((ax_w_at hN).trans (by rw [ax_en_kind4 hc.1])) rfl (ax_idx hc.2) hd (hn _ _ _ _ h2 H locs ls hW hS hl)
        · cases h1
      · cases h
    case baload =>
      obtain ⟨nn, hd, hnn⟩ := hd.resolve_left nofun
      cases hnn rfl
      simp only [ax_step] at h
      split at h
      · next i a st =>
        obtain ⟨v, h1, h2⟩ := ax_bo_some h
        unfold ax_ld8 at h1
        split at h1
        · next hc =>
          cases h1
          have hN := hsN a (by omega)
          rcases hc.1 with hk | hk
          · exact va_bald hx hb hK hW.1 a 1 ((ax_w_at hN).trans (by rw [ax_en_kind hk (Or.inr (Or.inl rfl))])) rfl (ax_idx hc.2) hd (hn _ _ _ _ h2 H locs ls hW hS hl)
          · exact va_zald hx hb hK hW.1 a 2 ((ax_w_at hN).trans (by rw [ax_en_kind hk (Or.inr (Or.inr rfl))])) rfl (ax_idx hc.2) hd (hn _ _ _ _ h2 H locs ls hW hS hl)
        · cases h1
      · cases h
    case aaload =>
      obtain ⟨nn, hd, hnn⟩ := hd.resolve_left nofun
      cases hnn rfl
      simp only [ax_step] at h
      split at h
      · next i a st =>
        obtain ⟨v, h1, h2⟩ := ax_bo_some h
        unfold ax_lda at h1
        split at h1
        · next hc =>
          have hN := hsN a (by omega)
          have hv : ((sh a).2.2[i.toNatClampNeg]?).map (fun q => ad q.2) = some (ad v) := by
            cases hq : (sh a).2.2[i.toNatClampNeg]? with
            | none => rw [hq] at h1; cases h1
            | some q => rw [hq] at h1; cases h1; rfl
          have hgo := hn _ _ _ _ h2 H locs ls hW hS hl
          rcases hc.1 with hk | hk
          · refine va_aldq hx hb hK hW.1 a 4 ((ax_w_at hN).trans (by rw [ax_en_kind56 hk (Or.inl rfl)])) rfl (ax_idx hc.2) hd ?_
            rw [hv]
            exact hgo
          · refine va_aldq hx hb hK hW.1 a 5 ((ax_w_at hN).trans (by rw [ax_en_kind56 hk (Or.inr rfl)])) rfl (ax_idx hc.2) hd ?_
            rw [hv]
            exact hgo
        · cases h1
      · cases h
    case arraylength =>
      obtain ⟨nn, hd, hnn⟩ := hd.resolve_left nofun
      cases hnn rfl
      simp only [ax_step] at h
      split at h
      · next a st =>
        split at h
        case isFalse => cases h
        next hc =>
        have hN := hsN a hc.2
        have hgo := hn _ _ _ _ h H locs ls hW hS hl
        have h6 : (sh a).1 = 1 ∨ (sh a).1 = 2 ∨ (sh a).1 = 3 ∨ (sh a).1 = 4 ∨ (sh a).1 = 5 ∨ (sh a).1 = 6 := by omega
        rcases h6 with hk | hk | hk | hk | hk | hk
        · exact va_alen hx hb hK hW.1 a 0 (cA := cA 1) (x := ((sh a).2.1, .inl (μ.1 a))) ((ax_w_at hN).trans (by rw [ax_en_kind hk (Or.inl rfl)])) rfl rfl hd hgo
        · exact va_alen hx hb hK hW.1 a 1 (cA := cA 2) (x := ((sh a).2.1, .inl (μ.1 a))) ((ax_w_at hN).trans (by rw [ax_en_kind hk (Or.inr (Or.inl rfl))])) rfl rfl hd hgo
        · exact va_alen hx hb hK hW.1 a 2 (cA := cA 3) (x := ((sh a).2.1, .inl (μ.1 a))) ((ax_w_at hN).trans (by rw [ax_en_kind hk (Or.inr (Or.inr rfl))])) rfl rfl hd hgo
        · exact va_alen hx hb hK hW.1 a 3 (cA := cA 4) (x := ((sh a).2.1, .inr (.inl (μ.2 a)))) ((ax_w_at hN).trans (by rw [ax_en_kind4 hk])) rfl rfl hd hgo
        · exact va_alen hx hb hK hW.1 a 4 (cA := cA 5) (x := ((sh a).2.1, .inr (.inr (.inr (.inr fun j => ((sh a).2.2[j]?).map fun q => ad q.2))))) ((ax_w_at hN).trans (by rw [ax_en_kind56 hk (Or.inl rfl)])) rfl rfl hd hgo
        · exact va_alen hx hb hK hW.1 a 5 (cA := cA 6) (x := ((sh a).2.1, .inr (.inr (.inr (.inr fun j => ((sh a).2.2[j]?).map fun q => ad q.2))))) ((ax_w_at hN).trans (by rw [ax_en_kind56 hk (Or.inr rfl)])) rfl rfl hd hgo
      · cases h
    case iastore =>
      obtain ⟨nn, hd, hnn⟩ := hd.resolve_left nofun
      cases hnn rfl
      simp only [ax_step] at h
      split at h
      · next v i a st =>
        obtain ⟨μ1, h1, h2⟩ := ax_bo_some h
        unfold ax_st at h1
        split at h1
        · next hc =>
          cases h1
          have hN := hsN a (by omega)
          refine va_iast hx hb hK hW.1 hW.2 hS a 0 ((ax_w_at hN).trans (by rw [ax_en_kind hc.1 (Or.inl rfl)])) rfl (ax_idx hc.2) hd (fun H1 locs1 hP1 hD1 hS1 => ?_)
          refine hn _ _ _ _ h2 H1 locs1 ls (ax_W_row hN ?_ ⟨by rw [hc.1]; exact hP1, by rw [hc.1]; exact hD1⟩) hS1 hl
          rw [ax_en_kind hc.1 (Or.inl rfl), hc.1]
          simp only [ax_up_row]
        · cases h1
      · cases h
    case bastore =>
      obtain ⟨nn, hd, hnn⟩ := hd.resolve_left nofun
      cases hnn rfl
      simp only [ax_step] at h
      split at h
      · next v i a st =>
        obtain ⟨μ1, h1, h2⟩ := ax_bo_some h
        unfold ax_st8 at h1
        split at h1
        · next hc =>
          cases h1
          have hN := hsN a (by omega)
          refine va_bast hx hb hK hW.1 hW.2 hS a 1 ((ax_w_at hN).trans (by rw [ax_en_kind hc.1 (Or.inr (Or.inl rfl))])) rfl (ax_idx hc.2) hd (fun H1 locs1 hP1 hD1 hS1 => ?_)
          refine hn _ _ _ _ h2 H1 locs1 ls (ax_W_row hN ?_ ⟨by rw [hc.1]; exact hP1, by rw [hc.1]; exact hD1⟩) hS1 hl
          rw [ax_en_kind hc.1 (Or.inr (Or.inl rfl)), hc.1]
          simp only [ax_up_row]
        · split at h1
          · next hc =>
            cases h1
            have hN := hsN a (by omega)
            refine va_zast hx hb hK hW.1 hW.2 hS a 2 ((ax_w_at hN).trans (by rw [ax_en_kind hc.1 (Or.inr (Or.inr rfl))])) rfl (ax_idx hc.2) hd (fun H1 locs1 hP1 hD1 hS1 => ?_)
            refine hn _ _ _ _ h2 H1 locs1 ls (ax_W_row hN ?_ ⟨by rw [hc.1]; exact hP1, by rw [hc.1]; exact hD1⟩) hS1 hl
            rw [ax_en_kind hc.1 (Or.inr (Or.inr rfl)), hc.1]
            simp only [ax_up_row]
          · cases h1
      · cases h
    case lastore =>
      obtain ⟨nn, hd, hnn⟩ := hd.resolve_left nofun
      cases hnn rfl
      simp only [ax_step] at h
      split at h
      · next v i a st =>
        obtain ⟨μ1, h1, h2⟩ := ax_bo_some h
        unfold ax_stl at h1
        split at h1
        · next hc =>
          cases h1
          have hN := hsN a (by omega)
          refine va_last hx hb hK hW.1 hW.2 hS a 3 ((ax_w_at hN).trans (by rw [ax_en_kind4 hc.1])) rfl (ax_idx hc.2) hd (fun H1 locs1 hP1 hD1 hS1 => ?_)
          have e1 := ax_w_set (cA := cA) (ad := ad) (sh := sh) (N := N) (μ := μ) (μ' := (μ.1, ax_up μ.2 a i.toNatClampNeg v)) (o := a) (x := .inl (cA 4, (sh a).2.1, .inr (.inl (vp_updL (μ.2 a) i.toNatClampNeg v)))) (fun b hb => ax_en_ne1 rfl (ax_up_ne hb)) hN (by rw [ax_en_kind4 hc.1]; simp only [ax_up_rowL])
          rw [e1] at hP1 hD1
          exact hn _ _ _ _ h2 H1 locs1 ls ⟨hP1, hD1⟩ hS1 hl
        · cases h1
      · cases h
    case getfield ix =>
      obtain ⟨nn, hd, hnn⟩ := hd.resolve_left nofun
      cases hnn rfl
      have hx1 : ∃ ci f w, x = [[ci, f], w] ∧ ax_wok wd w (ax_fl cl (MT y).1.cls ix ci f true) = true := by
        rcases x with _ | ⟨_ | ⟨ci, _ | ⟨f, _ | ⟨_, _⟩⟩⟩, _ | ⟨w, _ | ⟨_, _⟩⟩⟩ <;> first | exact ⟨_, _, _, rfl, hok⟩ | exact Bool.noConfusion hok
      obtain ⟨ci, f, w, rfl, hw⟩ := hx1
      obtain ⟨kk, jj, cw, e1, e2, e3⟩ := ax_wok_in hw
      have hcw := hts _ (hwd _ _ _ e1 e2)
      unfold ax_fl at e3
      split at e3
      case h_2 => cases e3
      next o9 j9 C9 n9 d9 =>
      simp only [Bool.and_eq_true, decide_eq_true_eq] at e3
      obtain ⟨⟨rfl, rfl⟩, e3⟩ := e3
      split at e3
      case h_2 => cases e3
      next rr hrr =>
      simp only [Bool.and_eq_true, decide_eq_true_eq, Bool.or_eq_true, Bool.not_eq_true'] at e3
      obtain ⟨⟨⟨⟨hf, rfl⟩, rfl⟩, rfl⟩, hfin⟩ := e3
      simp only [ax_step] at h
      split at h
      case h_2 => cases h
      next ci f tl o st hxx =>
      cases hxx
      obtain ⟨v, h1, h2⟩ := ax_bo_some h
      unfold ax_gf at h1
      split at h1
      case isFalse => cases h1
      next hc =>
      obtain ⟨hc0, rfl⟩ := hc
      have hN := hsN o (by omega)
      have hgo := hn _ _ _ _ h2 H locs ls hW hS hl
      cases hq : (sh o).2.2[f]? with
      | none => rw [hq] at h1; cases h1
      | some q =>
        have hv : ax_fv ad μ o q f = ax_rv ad v := by
          rw [hq] at h1
          obtain ⟨kd, tg⟩ := q
          match kd, h1 with
          | 0, h1 => cases h1; rfl
          | 1, h1 => cases h1; rfl
          | 2, h1 => cases h1; rfl
          | 3, h1 => cases h1; rfl
          | k + 4, h1 => cases h1
        refine va_get hx hb hts (hcl _ _ hrr).1 hown hK hW.1 o ((ax_w_at hN).trans (by rw [ax_en_kind0 hc0])) hrr f hf hcw (fun x h => h) (v := ax_rv ad v) ?_ hd hgo
        rw [List.getElem?_mapIdx, hq, ← hv]
        rfl
    case putfield ix =>
      obtain ⟨nn, hd, hnn⟩ := hd.resolve_left nofun
      cases hnn rfl
      have hx1 : ∃ ci f w, x = [[ci, f], w] ∧ ax_wok wd w (ax_fl cl (MT y).1.cls ix ci f false) = true := by
        rcases x with _ | ⟨_ | ⟨ci, _ | ⟨f, _ | ⟨_, _⟩⟩⟩, _ | ⟨w, _ | ⟨_, _⟩⟩⟩ <;> first | exact ⟨_, _, _, rfl, hok⟩ | exact Bool.noConfusion hok
      obtain ⟨ci, f, w, rfl, hw⟩ := hx1
      obtain ⟨kk, jj, cw, e1, e2, e3⟩ := ax_wok_in hw
      have hcw := hts _ (hwd _ _ _ e1 e2)
      unfold ax_fl at e3
      split at e3
      case h_2 => cases e3
      next o9 j9 C9 n9 d9 =>
      simp only [Bool.and_eq_true, decide_eq_true_eq] at e3
      obtain ⟨⟨rfl, rfl⟩, e3⟩ := e3
      split at e3
      case h_2 => cases e3
      next rr hrr =>
      simp only [Bool.and_eq_true, decide_eq_true_eq, Bool.or_eq_true, Bool.not_eq_true'] at e3
      obtain ⟨⟨⟨⟨hf, rfl⟩, rfl⟩, rfl⟩, hfin⟩ := e3
      have hfin : (rr.2.1 f).2.2.2 = false := by simpa using hfin
      simp only [ax_step] at h
      split at h
      case h_2 => cases h
      next ci f tl v o st hxx =>
      cases hxx
      obtain ⟨μ1, h1, h2⟩ := ax_bo_some h
      unfold ax_pf at h1
      split at h1
      case isFalse => cases h1
      next hc =>
      obtain ⟨hc0, rfl⟩ := hc
      have hN := hsN o (by omega)
      obtain ⟨hin, ⟨ty0, hty⟩, hnm⟩ := hcl _ _ hrr
      obtain ⟨hlen, hkd⟩ := hsh o hc0 rr hrr
      cases hq : (sh o).2.2[f]? with
      | none => rw [hq] at h1; cases h1
      | some q =>
        have hk := hkd f q hq
        have hl2 : f < ((sh o).2.2.mapIdx fun k q => ax_fv ad μ o q k).length := by
          rw [List.length_mapIdx, hlen]
          exact hf
        rw [hq] at h1
        obtain ⟨kd, tg⟩ := q
        match kd, v, h1 with
        | 0, .int z, h1 =>
          cases h1
          refine va_put hx hb hts hin ty0 hty hnm hown hK hW.1 hW.2 hS o ((ax_w_at hN).trans (by rw [ax_en_kind0 hc0])) hrr f hf hcw (fun x h => h) hfin (ty := .int) (v := .int z) (by rw [hk.1 rfl]; decide +kernel) rfl rfl hl2 hd (fun H1 locs1 hP1 hD1 hS1 => ?_)
          have hW1 := ax_W_put (μ := μ) (μ' := (ax_up μ.1 o f z, μ.2)) (v := .int z) hN hc0 (fun b hb => ⟨ax_up_ne hb, rfl⟩) (ax_fs_set hq (fun j qq hj => ax_fv_up1 hj) (by simp [ax_fv, ax_up])) ⟨hP1, hD1⟩
          exact hn _ _ _ _ h2 H1 locs1 ls hW1 hS1 hl
        | 1, .long z, h1 =>
          cases h1
          refine va_put hx hb hts hin ty0 hty hnm hown hK hW.1 hW.2 hS o ((ax_w_at hN).trans (by rw [ax_en_kind0 hc0])) hrr f hf hcw (fun x h => h) hfin (ty := .long) (v := .long z) (by rw [hk.2.1 rfl]; decide +kernel) rfl rfl hl2 hd (fun H1 locs1 hP1 hD1 hS1 => ?_)
          have hW1 := ax_W_put (μ := μ) (μ' := (μ.1, ax_up μ.2 o f z)) (v := .long z) hN hc0 (fun b hb => ⟨rfl, ax_up_ne hb⟩) (ax_fs_set hq (fun j qq hj => ax_fv_up2 hj) (by simp [ax_fv, ax_up])) ⟨hP1, hD1⟩
          exact hn _ _ _ _ h2 H1 locs1 ls hW1 hS1 hl
        | 3, .int z, h1 =>
          simp only [] at h1
          split at h1
          case isFalse => cases h1
          next hz =>
          cases h1
          refine va_put hx hb hts hin ty0 hty hnm hown hK hW.1 hW.2 hS o ((ax_w_at hN).trans (by rw [ax_en_kind0 hc0])) hrr f hf hcw (fun x h => h) hfin (ty := .boolean) (v := .int z) (by rw [hk.2.2 rfl]; decide +kernel) (by rcases hz with rfl | rfl <;> decide) (by rcases hz with rfl | rfl <;> decide) hl2 hd (fun H1 locs1 hP1 hD1 hS1 => ?_)
          have hW1 := ax_W_put (μ := μ) (μ' := (ax_up μ.1 o f z, μ.2)) (v := .int z) hN hc0 (fun b hb => ⟨ax_up_ne hb, rfl⟩) (ax_fs_set hq (fun j qq hj => ax_fv_up1 hj) (by simp [ax_fv, ax_up])) ⟨hP1, hD1⟩
          exact hn _ _ _ _ h2 H1 locs1 ls hW1 hS1 hl
    case invokevirtual ix =>
      obtain ⟨nn, hd, hnn⟩ := hd.resolve_left nofun
      cases hnn rfl
      have hx1 : ∃ z n rk ci w1 w2 w3, x = [[z, n, rk, ci], w1, w2, w3] := by
        rcases x with _ | ⟨_ | ⟨z, _ | ⟨n, _ | ⟨rk, _ | ⟨ci, _ | ⟨_, _⟩⟩⟩⟩⟩, _ | ⟨w1, _ | ⟨w2, _ | ⟨w3, _ | ⟨_, _⟩⟩⟩⟩⟩ <;> first | exact ⟨_, _, _, _, _, _, _, rfl⟩ | exact Bool.noConfusion hok
      obtain ⟨z0, n, rk, ci, w1, w2, w3, rfl⟩ := hx1
      have hok2 : (decide (z0 < NM) && decide ((MT z0).2.2.2.2.1 < (MT y).2.2.2.2.1) && ax_rk (MT z0).2.2.2.1 rk && ax_np (MT z0).1 (n - 1) && decide (0 < n) && (decide ((cl[ci]?).map (fun r => r.1) = some (MT z0).1.cls) || (decide (ci = 99) && decide ((MT z0).1.cls = "java/lang/String")))
        && ax_li wd w1 (MT y).1.cls ix (MT z0).1 && ax_wok wd w2 (fun w => decide (w = .instanceMethod (MT z0).1)) && ax_wok wd w3 (fun w => decide (w = .selects (MT z0).1.cls (MT z0).1 (MT z0).1))) = true := hok
      simp only [Bool.and_eq_true, decide_eq_true_eq, Bool.or_eq_true] at hok2
      obtain ⟨⟨⟨⟨⟨⟨⟨⟨hz, hrank⟩, hrk⟩, hnp⟩, hn0⟩, hci⟩, hw1⟩, hw2⟩, hw3⟩ := hok2
      simp only [ax_step] at h
      exact ax_virt hmt hwd hgood hx hb hml hown hts hK hXf hXc hXn hXr hC hsN h99 hsc hz hrank hrk hnp hn0 hci hw1 hw2 hw3 hd hW hS hl (fun lv st μ z h H locs => hn lv st μ z h H locs ls) h
    case invokestatic ix =>
      obtain ⟨nn, hd, hnn⟩ := hd.resolve_left nofun
      cases hnn rfl
      have hsum : ∀ st : List Value, (st.map fun v => v.category).sum ≤ 8 → ((st.map (ax_rv ad)).map fun v => v.category).sum ≤ 8 := fun st h => ax_fit_map h
      have hR1 : 1 ≤ (ax_rm (MT y).2.2.2.2.1).frames := hrk1
      have hR2 : 60 ≤ (ax_rm (MT y).2.2.2.2.1).locals := by show 60 ≤ 60 * _; omega
      simp only [ax_step] at h
      split at h
      · next w0 b a st =>
        have hx1 : ∃ w1 w2 w3, w0 = [w1, w2, w3] := by
          rcases w0 with _ | ⟨w1, _ | ⟨w2, _ | ⟨w3, _ | ⟨_, _⟩⟩⟩⟩ <;> first | exact ⟨_, _, _, rfl⟩ | exact Bool.noConfusion hok
        obtain ⟨w1, w2, w3, rfl⟩ := hx1
        have hok2 : (ax_wok wd w1 (fun w => decide (w = .methodLink (MT y).1.cls ix Lib.Math.min.name)) && ax_wok wd w2 (fun w => decide (w = .static Lib.Math.min.name)) && ax_wok wd w3 (fun w => decide (w = .code Lib.Math.min.name Lib.Math.min.code 2 (some .int)))) = true := hok
        simp only [Bool.and_eq_true] at hok2
        obtain ⟨h1, h2⟩ := ax_fit_some h
        have h3 := hsum st h1
        exact va_mmin hx hb (hml.trans hl.1.symm) hown (ax_w_wd hwd hts hok2.1.1).2 (ax_w_wd hwd hts hok2.1.2).2 (hts _ hmath) (ax_w_wd hwd hts hok2.2).2 hR1 (by omega) (Nat.zero_le _) (Nat.zero_le _) hd (hn _ _ _ _ h2 H locs ls hW hS hl)
      · next w0 b a st =>
        have hx1 : ∃ w1 w2 w3, w0 = [w1, w2, w3] := by
          rcases w0 with _ | ⟨w1, _ | ⟨w2, _ | ⟨w3, _ | ⟨_, _⟩⟩⟩⟩ <;> first | exact ⟨_, _, _, rfl⟩ | exact Bool.noConfusion hok
        obtain ⟨w1, w2, w3, rfl⟩ := hx1
        have hok2 : (ax_wok wd w1 (fun w => decide (w = .methodLink (MT y).1.cls ix Lib.Math.max.name)) && ax_wok wd w2 (fun w => decide (w = .static Lib.Math.max.name)) && ax_wok wd w3 (fun w => decide (w = .code Lib.Math.max.name Lib.Math.max.code 2 (some .int)))) = true := hok
        simp only [Bool.and_eq_true] at hok2
        obtain ⟨h1, h2⟩ := ax_fit_some h
        have h3 := hsum st h1
        exact va_mmax hx hb (hml.trans hl.1.symm) hown (ax_w_wd hwd hts hok2.1.1).2 (ax_w_wd hwd hts hok2.1.2).2 (hts _ hmath) (ax_w_wd hwd hts hok2.2).2 hR1 (by omega) (Nat.zero_le _) (Nat.zero_le _) hd (hn _ _ _ _ h2 H locs ls hW hS hl)
      · next w0 nI9 dp b sp a st =>
        have hx1 : ∃ w1 w2 w3, w0 = [w1, w2, w3] := by
          rcases w0 with _ | ⟨w1, _ | ⟨w2, _ | ⟨w3, _ | ⟨_, _⟩⟩⟩⟩ <;> first | exact ⟨_, _, _, rfl⟩ | exact Bool.noConfusion hok
        obtain ⟨w1, w2, w3, rfl⟩ := hx1
        have hok2 : (ax_wok wd w1 (fun w => decide (w = .methodLink (MT y).1.cls ix arraycopyName)) && ax_wok wd w2 (fun w => decide (w = .static arraycopyName)) && ax_wok wd w3 (fun w => decide (w = .native arraycopyName))) = true := hok
        simp only [Bool.and_eq_true] at hok2
        obtain ⟨h1, h2⟩ := ax_fit_some h
        have h3 := hsum st h1
        obtain ⟨μ1, h4, h5⟩ := ax_bo_some h2
        unfold ax_cp at h4
        split at h4
        case isFalse => cases h4
        next hc =>
        cases h4
        obtain ⟨hka, hkb, hs1, hs2, hs3, hs4, hs5⟩ := hc
        have hNa := hsN a (by omega)
        have hNb := hsN b (by omega)
        refine va_copyi hx hb (hml.trans hl.1.symm) hown (ax_w_wd hwd hts hok2.1.1).2 (ax_w_wd hwd hts hok2.2).2 (ax_w_wd hwd hts hok2.1.2).2 (hts _ hsys) hK hW.1 hW.2 hS a b 0 0 ((ax_w_at hNa).trans (by rw [ax_en_kind hka (Or.inl rfl)])) ((ax_w_at hNb).trans (by rw [ax_en_kind hkb (Or.inl rfl)])) rfl rfl rfl hs1 hs2 hs3 hs4 hs5 (fun i hi => rfl) hR1 (by omega) hd (fun H1 locs1 hP1 hD1 hS1 => ?_)
        have e1 := ax_w_set (cA := cA) (ad := ad) (sh := sh) (N := N) (μ := μ) (μ' := (fun q => if q = b then va_cpy (μ.1 a) (μ.1 b) sp.toNatClampNeg dp.toNatClampNeg nI9.toNatClampNeg else μ.1 q, μ.2)) (o := b) (x := .inl (cA 1, (sh b).2.1, .inl (va_cpy (μ.1 a) (μ.1 b) sp.toNatClampNeg dp.toNatClampNeg nI9.toNatClampNeg))) (fun q hq => ax_en_ne1 (if_neg hq) rfl) hNb (by rw [ax_en_kind hkb (Or.inl rfl)]; simp only [if_true])
        rw [e1] at hP1 hD1
        exact hn _ _ _ _ h5 H1 locs1 ls ⟨hP1, hD1⟩ hS1 hl
      · next z0 n rk w0 =>
        have hx1 : ∃ w1 w2, w0 = [w1, w2] := by
          rcases w0 with _ | ⟨w1, _ | ⟨w2, _ | ⟨_, _⟩⟩⟩ <;> first | exact ⟨_, _, rfl⟩ | exact Bool.noConfusion hok
        obtain ⟨w1, w2, rfl⟩ := hx1
        have hok2 : (decide (z0 < NM) && decide ((MT z0).2.2.2.2.1 < (MT y).2.2.2.2.1) && ax_rk (MT z0).2.2.2.1 rk && ax_np (MT z0).1 n && ax_li wd w1 (MT y).1.cls ix (MT z0).1 && ax_wok wd w2 (fun w => decide (w = .static (MT z0).1))) = true := hok
        simp only [Bool.and_eq_true, decide_eq_true_eq] at hok2
        obtain ⟨⟨⟨⟨⟨hz, hrank⟩, hrk⟩, hnp⟩, hw1⟩, hw2⟩ := hok2
        exact ax_stat hmt hwd hgood hx hb hml hown hts hK hXf hXc hXn hC hz hrank hrk hnp hw1 hw2 hd hW hS hl (fun lv st μ z h H locs => hn lv st μ z h H locs ls) h
      · cases h
    all_goals (exfalso; simp [ax_step] at h)
end AXU
