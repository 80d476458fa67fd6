/-! r: the law, its loop; the four cases that may throw are taken as given -/
theorem dl_23 : decode code 23 = .ok (.iload 4, 2) := by decide +kernel
theorem dl_25 : decode code 25 = .ok (.aload_n 0, 1) := by decide +kernel
theorem dl_26 : decode code 26 = .ok (.arraylength, 1) := by decide +kernel
theorem dl_27 : decode code 27 = .ok (.bipush (6), 2) := by decide +kernel
theorem dl_29 : decode code 29 = .ok (.isub, 1) := by decide +kernel
theorem dl_30 : decode code 30 = .ok (.if_icmp .gt (1301), 3) := by decide +kernel
theorem dl_33 : decode code 33 = .ok (.aload_n 0, 1) := by decide +kernel
theorem dl_34 : decode code 34 = .ok (.iload 4, 2) := by decide +kernel
theorem dl_36 : decode code 36 = .ok (.iaload, 1) := by decide +kernel
theorem dl_37 : decode code 37 = .ok (.bipush (63), 2) := by decide +kernel
theorem dl_39 : decode code 39 = .ok (.iand, 1) := by decide +kernel
theorem dl_40 : decode code 40 = .ok (.tableswitch (1285) (0) (36) #[164, 237, 262, 275, 288, 313, 381, 449, 517, 542, 591, 616, 641, 666, 691, 704, 741, 754, 767, 792, 817, 830, 898, 923, 960, 985, 998, 1023, 1036, 1061, 1074, 1123, 1160, 1185, 1210, 1235, 1260], 164) := by decide +kernel
theorem dl_1325 : decode code 1325 = .ok (.iinc 4 6, 3) := by decide +kernel
theorem dl_1328 : decode code 1328 = .ok (.goto (-1305), 3) := by decide +kernel
theorem dl_1331 : decode code 1331 = .ok (.iconst (1), 1) := by decide +kernel
theorem dl_1332 : decode code 1332 = .ok (.ireturn, 1) := by decide +kernel
section LAW3
variable {p : Program} {l : Launch} {e : Env} {s : State} {m : MethodId} {below : List Frame} {meth : Method} {c : Code} {b L : Nat} {xs : Nat → Int32} {Dg : va_G} {cA : Nat → ClassId} {ad adV : Nat → Nat} {vF : Value}
/-- the array out -/
def la_Out (Dg : va_G) (cA : Nat → ClassId) (oa : Nat) (H : Heap) : Prop := ∃ f : Nat → Int64, va_P Dg ax_cl [(oa, .inl (cA 4, 1, .inr (.inl f)))] H
theorem la_Out_k {oa : Nat} {H H1 : Heap} (hk : H1[oa]? = H[oa]?) (h : la_Out Dg cA oa H) : la_Out Dg cA oa H1 := by
  obtain ⟨f, h1⟩ := h
  refine ⟨f, fun k q hq => ?_⟩
  match k, hq with
  | 0, hq =>
    cases hq
    exact (h1 0 _ rfl).kept hk
  | k + 1, hq => simp at hq
theorem la_Out_lt {oa : Nat} {H : Heap} (h : la_Out Dg cA oa H) : oa < H.size := by
  obtain ⟨f, h1⟩ := h
  exact (h1 0 _ rfl).lt
/-- what a case that may throw must give -/
def la_T (p : Program) (l : Launch) (e : Env) (s : State) (m : MethodId) (below : List Frame) (meth : Method) (c : Code) (b L : Nat) (Dg : va_G) (cA : Nat → ClassId) (ad : Nat → Nat) (oa pc0 : Nat) : Prop := ∀ (H : Heap) (locs : List Loc) (cells slots : Nat) (ls : Array Slot) (μ : ax_M) (i : Int32), lv_has ls 7 [(0, .ref b), (1, .ref (ad 0)), (2, .ref (ad 207)), (3, .ref oa), (4, .int i)] → laI μ → ax_W Dg ax_cl (la_A s oa) cA ad ax_sh ax_NC μ H → va_S (fun q : Nat => s.heap.size ≤ q) s.heap H locs → la_Out Dg cA oa H → (∀ j : Int32, 0 ≤ j → j ≤ 5 → vp_in (i + j) L) → (cells + 20 ≤ 601024 ∧ slots + 1000 ≤ 7293034) →
  (∀ (μ' : ax_M) (H1 : Heap) (locs1 : List Loc) (ls1 : Array Slot), lv_has ls1 7 [(0, .ref b), (1, .ref (ad 0)), (2, .ref (ad 207)), (3, .ref oa), (4, .int i)] → laI μ' → ax_W Dg ax_cl (la_A s oa) cA ad ax_sh ax_NC μ' H1 → va_S (fun q : Nat => s.heap.size ≤ q) s.heap H1 locs1 → la_Out Dg cA oa H1 → W p l e room_1 s m #[Value.ref b] below meth c H1 locs1 (cells + 20) (slots + 1000) (lw_Z below #[Value.ref b] s) (F0 m 1325 ls1 [])) → W p l e room_1 s m #[Value.ref b] below meth c H locs cells slots (lw_Z below #[Value.ref b] s) (F0 m pc0 ls [])
theorem zI_nI (n : Nat) : zI (n : Int) = nI n := by
  unfold zI nI
  first | rfl | simp
set_option maxHeartbeats 4000000 in
theorem la_loop {oa : Nat} (hL : L ≤ 3072) (C0 : lw_At p s m meth c b L xs) (hK0 : la_K s oa Dg cA ad adV vF) (t5 : la_T p l e s m below meth c b L Dg cA ad oa 353) (t6 : la_T p l e s m below meth c b L Dg cA ad oa 421) (t7 : la_T p l e s m below meth c b L Dg cA ad oa 489) (t21 : la_T p l e s m below meth c b L Dg cA ad oa 870) : ∀ (n k : Nat), L < 6 * k + 6 * n → 6 * k ≤ L → ∀ (H : Heap) (locs : List Loc) (ls : Array Slot) (μ : ax_M) (i : Int32), i = nI (6 * k) → lv_has ls 7 [(0, .ref b), (1, .ref (ad 0)), (2, .ref (ad 207)), (3, .ref oa), (4, .int i)] → laI μ → ax_W Dg ax_cl (la_A s oa) cA ad ax_sh ax_NC μ H → va_S (fun q : Nat => s.heap.size ≤ q) s.heap H locs → la_Out Dg cA oa H → W p l e room_1 s m #[Value.ref b] below meth c H locs (300 + 20 * k) (80000 + 1000 * k) (lw_Z below #[Value.ref b] s) (F0 m 23 ls []) := by
  obtain ⟨hx, hb, hr, hml, hown, hts, hX, hbl, hlocks, hgv⟩ := id C0
  have hbA : ¬ (fun q : Nat => s.heap.size ≤ q) b := Nat.not_le.mpr hbl
  intro n
  induction n with
  | zero =>
    intro k h1 h2
    exact absurd h1 (by omega)
  | succ n ih =>
    intro k h1 h2 H locs ls μ i hi hl hI hW hS hO
    have fin : 6 * k + 6 ≤ L → ∀ (μ' : ax_M) (H1 : Heap) (locs1 : List Loc) (ls1 : Array Slot), lv_has ls1 7 [(0, .ref b), (1, .ref (ad 0)), (2, .ref (ad 207)), (3, .ref oa), (4, .int i)] → laI μ' → ax_W Dg ax_cl (la_A s oa) cA ad ax_sh ax_NC μ' H1 → va_S (fun q : Nat => s.heap.size ≤ q) s.heap H1 locs1 → la_Out Dg cA oa H1 → W p l e room_1 s m #[Value.ref b] below meth c H1 locs1 (300 + 20 * k + 20) (80000 + 1000 * k + 1000) (lw_Z below #[Value.ref b] s) (F0 m 1325 ls1 []) := by
      intro hk μ' H1 locs1 ls1 hl1 hI1 hW1 hS1 hO1
      obtain ⟨i2, ei2⟩ : ∃ y : Int32, y = i + 6 := ⟨_, rfl⟩
      refine lv_iinc (v := i2) (lv' := [(4, .int i2), (0, .ref b), (1, .ref (ad 0)), (2, .ref (ad 207)), (3, .ref oa)]) hx hb dl_1325 hl1 (k := 4) rfl (by rw [ei2]; rfl) (by decide) rfl (fun ls2 hl2 => ?_)
      refine lv_goto (tgt := 23) hx hb dl_1328 (by decide) ?_
      have e2 : i2 = nI (6 * (k + 1)) := by
        rw [ei2, hi, ← zI_nI, ← zI_nI, show (6 : Int32) = zI 6 from rfl, zI_add]
        exact congrArg zI (by omega)
      have hh := ih (k + 1) (by omega) (by omega) H1 locs1 ls2 μ' i2 e2 (lv_sub hl2 [1, 2, 3, 4, 0] rfl) hI1 hW1 hS1 hO1
      rw [show 300 + 20 * (k + 1) = 300 + 20 * k + 20 by omega, show 80000 + 1000 * (k + 1) = 80000 + 1000 * k + 1000 by omega] at hh
      exact hh
    refine lv_iload hx hb dl_23 (lv_at hl 4 rfl) ?_
    refine lv_aload_n hx hb dl_25 rfl (lv_at hl 0 rfl) ?_
    refine va_slen hx hb hX hbl hbA hS dl_26 ?_
    refine lv_bipush (v := 6) hx hb dl_27 rfl ?_
    refine lv_isub hx hb dl_29 ?_
    have eL : Int32.ofNat L - 6 = zI ((L : Int) - 6) := by
      rw [show Int32.ofNat L = nI L from rfl, ← zI_nI, show (6 : Int32) = zI 6 from rfl, zI_sub]
    refine lv_icmp_gt (tgt := 1331) hx hb dl_30 (by decide) (fun hc => ?_) (fun hc => ?_)
    · refine lv_iconst (v := 1) hx hb dl_1331 (by decide) ?_
      refine va_forget (fun q hq => hS.2.2 q hq) ?_
      refine W.widen (k := 601024) (n := 7293034) (by omega) (by omega) ?_
      exact lw_ret hx hb hr hlocks dl_1332
    · rw [eL, hi, ← zI_nI] at hc
      have hk : 6 * k + 6 ≤ L := by
        by_cases q : 6 * k + 6 ≤ L
        · exact q
        · exact absurd ((zI_lt (zR_of (by omega)) (zR_of (by omega))).mpr (by omega)) hc
      have hin : ∀ j : Int32, 0 ≤ j → j ≤ 5 → vp_in (i + j) L := by
        intro j j0 j1
        obtain ⟨y, hy, rfl⟩ := zI_of j
        have y0 := (zI_le (a := 0) (zR_of (by omega)) hy).mp j0
        have y1 := (zI_le (b := 5) hy (zR_of (by omega))).mp j1
        have e3 : i + zI y = nI (6 * k + y.toNat) := by
          rw [hi, ← zI_nI, ← zI_nI, zI_add]
          exact congrArg zI (by omega)
        rw [e3]
        exact vp_in_nI (by omega) (by omega)
      have hin0 : vp_in i L := by
        rw [hi]
        exact vp_in_nI (by omega) (by omega)
      refine lv_aload_n hx hb dl_33 rfl (lv_at hl 0 rfl) ?_
      refine lv_iload hx hb dl_34 (lv_at hl 4 rfl) ?_
      refine va_sld hx hb hX hbl hbA hS hin0 dl_36 ?_
      refine lv_bipush (v := 63) hx hb dl_37 rfl ?_
      refine lv_iand hx hb dl_39 ?_
      refine lv_topi (fun v ev => ?_)
      have hcs : 300 + 20 * k ≤ 601024 ∧ 80000 + 1000 * k ≤ 7293034 := by omega
      have hcs2 : 300 + 20 * k + 20 ≤ 601024 ∧ 80000 + 1000 * k + 1000 ≤ 7293034 := by omega
      have simple : ∀ (μ' : ax_M) (H1 : Heap) (locs1 : List Loc), laI μ' → ax_W Dg ax_cl (la_A s oa) cA ad ax_sh ax_NC μ' H1 → va_S (fun q : Nat => s.heap.size ≤ q) s.heap H1 locs1 → H1[oa]? = H[oa]? → W p l e room_1 s m #[Value.ref b] below meth c H1 locs1 (300 + 20 * k) (80000 + 1000 * k) (lw_Z below #[Value.ref b] s) (F0 m 1325 ls []) := fun μ' H1 locs1 a1 a2 a3 a4 => W.widen (k := 300 + 20 * k + 20) (n := 80000 + 1000 * k + 1000) (by omega) (by omega) (fin hk μ' H1 locs1 ls hl a1 a2 a3 (la_Out_k a4 hO))
      by_cases ho : v.toInt < 0 ∨ 36 < v.toInt
      · exact lv_tableOut (tgt := 1325) hx hb dl_40 ho (by decide) (simple μ H locs hI hW hS rfl)
      have h36 : v.toInt = 0 ∨ v.toInt = 1 ∨ v.toInt = 2 ∨ v.toInt = 3 ∨ v.toInt = 4 ∨ v.toInt = 5 ∨ v.toInt = 6 ∨ v.toInt = 7 ∨ v.toInt = 8 ∨ v.toInt = 9 ∨ v.toInt = 10 ∨ v.toInt = 11 ∨ v.toInt = 12 ∨ v.toInt = 13 ∨ v.toInt = 14 ∨ v.toInt = 15 ∨ v.toInt = 16 ∨ v.toInt = 17 ∨ v.toInt = 18 ∨ v.toInt = 19 ∨ v.toInt = 20 ∨ v.toInt = 21 ∨ v.toInt = 22 ∨ v.toInt = 23 ∨ v.toInt = 24 ∨ v.toInt = 25 ∨ v.toInt = 26 ∨ v.toInt = 27 ∨ v.toInt = 28 ∨ v.toInt = 29 ∨ v.toInt = 30 ∨ v.toInt = 31 ∨ v.toInt = 32 ∨ v.toInt = 33 ∨ v.toInt = 34 ∨ v.toInt = 35 ∨ v.toInt = 36 := by omega
      have hlo : ¬ v.toInt < 0 := fun q => ho (Or.inl q)
      have hhi : ¬ 36 < v.toInt := fun q => ho (Or.inr q)
      rcases h36 with q | q | q | q | q | q | q | q | q | q | q | q | q | q | q | q | q | q | q | q | q | q | q | q | q | q | q | q | q | q | q | q | q | q | q | q | q
      · exact lv_tableIn (tgt := 204) hx hb dl_40 hlo hhi (by rw [q]; rfl) (by decide) (lc_feed C0 hK0 hl hI hW hS (la_Out_lt hO) hin hcs simple)
      · exact lv_tableIn (tgt := 277) hx hb dl_40 hlo hhi (by rw [q]; rfl) (by decide) (lc_end C0 hK0 hl hI hW hS (la_Out_lt hO) hin hcs simple)
      · exact lv_tableIn (tgt := 302) hx hb dl_40 hlo hhi (by rw [q]; rfl) (by decide) (lc_net C0 hK0 hl hI hW hS (la_Out_lt hO) hin hcs simple)
      · exact lv_tableIn (tgt := 315) hx hb dl_40 hlo hhi (by rw [q]; rfl) (by decide) (lc_rule C0 hK0 hl hI hW hS (la_Out_lt hO) hin hcs simple)
      · exact lv_tableIn (tgt := 328) hx hb dl_40 hlo hhi (by rw [q]; rfl) (by decide) (lc_fault C0 hK0 hl hI hW hS (la_Out_lt hO) hin hcs simple)
      · exact lv_tableIn (tgt := 353) hx hb dl_40 hlo hhi (by rw [q]; rfl) (by decide) (t5 H locs _ _ ls μ i hl hI hW hS hO hin hcs2 (fin hk))
      · exact lv_tableIn (tgt := 421) hx hb dl_40 hlo hhi (by rw [q]; rfl) (by decide) (t6 H locs _ _ ls μ i hl hI hW hS hO hin hcs2 (fin hk))
      · exact lv_tableIn (tgt := 489) hx hb dl_40 hlo hhi (by rw [q]; rfl) (by decide) (t7 H locs _ _ ls μ i hl hI hW hS hO hin hcs2 (fin hk))
      · exact lv_tableIn (tgt := 557) hx hb dl_40 hlo hhi (by rw [q]; rfl) (by decide) (lc_onWay C0 hK0 hl hI hW hS (la_Out_lt hO) hin hcs simple)
      · exact lv_tableIn (tgt := 582) hx hb dl_40 hlo hhi (by rw [q]; rfl) (by decide) (lc_waits C0 hK0 hl hI hW hS (la_Out_lt hO) hin hcs simple)
      · exact lv_tableIn (tgt := 631) hx hb dl_40 hlo hhi (by rw [q]; rfl) (by decide) (lc_wake C0 hK0 hl hI hW hS (la_Out_lt hO) hin hcs simple)
      · exact lv_tableIn (tgt := 656) hx hb dl_40 hlo hhi (by rw [q]; rfl) (by decide) (lc_take C0 hK0 hl hI hW hS (la_Out_lt hO) hin hcs simple)
      · exact lv_tableIn (tgt := 681) hx hb dl_40 hlo hhi (by rw [q]; rfl) (by decide) (lc_rounds C0 hK0 hl hI hW hS (la_Out_lt hO) hin hcs simple)
      · exact lv_tableIn (tgt := 706) hx hb dl_40 hlo hhi (by rw [q]; rfl) (by decide) (lc_steps C0 hK0 hl hI hW hS (la_Out_lt hO) hin hcs simple)
      · exact lv_tableIn (tgt := 731) hx hb dl_40 hlo hhi (by rw [q]; rfl) (by decide) (lc_choice C0 hK0 hl hI hW hS (la_Out_lt hO) hin hcs simple)
      · exact lv_tableIn (tgt := 744) hx hb dl_40 hlo hhi (by rw [q]; rfl) (by decide) (lc_weigh C0 hK0 hl hI hW hS (la_Out_lt hO) hin hcs simple)
      · exact lv_tableIn (tgt := 781) hx hb dl_40 hlo hhi (by rw [q]; rfl) (by decide) (lc_again C0 hK0 hl hI hW hS (la_Out_lt hO) hin hcs simple)
      · exact lv_tableIn (tgt := 794) hx hb dl_40 hlo hhi (by rw [q]; rfl) (by decide) (lc_undo C0 hK0 hl hI hW hS (la_Out_lt hO) hin hcs simple)
      · exact lv_tableIn (tgt := 807) hx hb dl_40 hlo hhi (by rw [q]; rfl) (by decide) (lc_now C0 hK0 hl hI hW hS (la_Out_lt hO) hin hcs simple)
      · exact lv_tableIn (tgt := 832) hx hb dl_40 hlo hhi (by rw [q]; rfl) (by decide) (lc_sent C0 hK0 hl hI hW hS (la_Out_lt hO) hin hcs simple)
      · exact lv_tableIn (tgt := 857) hx hb dl_40 hlo hhi (by rw [q]; rfl) (by decide) (lc_limit C0 hK0 hl hI hW hS (la_Out_lt hO) hin hcs simple)
      · exact lv_tableIn (tgt := 870) hx hb dl_40 hlo hhi (by rw [q]; rfl) (by decide) (t21 H locs _ _ ls μ i hl hI hW hS hO hin hcs2 (fin hk))
      · exact lv_tableIn (tgt := 938) hx hb dl_40 hlo hhi (by rw [q]; rfl) (by decide) (lc_least C0 hK0 hl hI hW hS (la_Out_lt hO) hin hcs simple)
      · exact lv_tableIn (tgt := 963) hx hb dl_40 hlo hhi (by rw [q]; rfl) (by decide) (lc_heaviest C0 hK0 hl hI hW hS (la_Out_lt hO) hin hcs simple)
      · exact lv_tableIn (tgt := 1000) hx hb dl_40 hlo hhi (by rw [q]; rfl) (by decide) (lc_slack C0 hK0 hl hI hW hS (la_Out_lt hO) hin hcs simple)
      · exact lv_tableIn (tgt := 1025) hx hb dl_40 hlo hhi (by rw [q]; rfl) (by decide) (lc_next C0 hK0 hl hI hW hS (la_Out_lt hO) hin hcs simple)
      · exact lv_tableIn (tgt := 1038) hx hb dl_40 hlo hhi (by rw [q]; rfl) (by decide) (lc_nextBy C0 hK0 hl hI hW hS (la_Out_lt hO) hin hcs simple)
      · exact lv_tableIn (tgt := 1063) hx hb dl_40 hlo hhi (by rw [q]; rfl) (by decide) (lc_until C0 hK0 hl hI hW hS (la_Out_lt hO) hin hcs simple)
      · exact lv_tableIn (tgt := 1076) hx hb dl_40 hlo hhi (by rw [q]; rfl) (by decide) (lc_starts C0 hK0 hl hI hW hS (la_Out_lt hO) hin hcs simple)
      · exact lv_tableIn (tgt := 1101) hx hb dl_40 hlo hhi (by rw [q]; rfl) (by decide) (lc_starter C0 hK0 hl hI hW hS (la_Out_lt hO) hin hcs simple)
      · exact lv_tableIn (tgt := 1114) hx hb dl_40 hlo hhi (by rw [q]; rfl) (by decide) (lc_cores C0 hK0 hl hI hW hS (la_Out_lt hO) hin hcs simple)
      · exact lv_tableIn (tgt := 1163) hx hb dl_40 hlo hhi (by rw [q]; rfl) (by decide) (lc_drawn C0 hK0 hl hI hW hS (la_Out_lt hO) hin hcs simple)
      · exact lv_tableIn (tgt := 1200) hx hb dl_40 hlo hhi (by rw [q]; rfl) (by decide) (lc_spell C0 hK0 hl hI hW hS (la_Out_lt hO) hin hcs simple)
      · exact lv_tableIn (tgt := 1225) hx hb dl_40 hlo hhi (by rw [q]; rfl) (by decide) (lc_byteAt C0 hK0 hl hI hW hS (la_Out_lt hO) hin hcs simple)
      · exact lv_tableIn (tgt := 1250) hx hb dl_40 hlo hhi (by rw [q]; rfl) (by decide) (lc_image C0 hK0 hl hI hW hS (la_Out_lt hO) hin hcs simple)
      · exact lv_tableIn (tgt := 1275) hx hb dl_40 hlo hhi (by rw [q]; rfl) (by decide) (lc_restore C0 hK0 hl hI hW hS (la_Out_lt hO) hin hcs simple)
      · exact lv_tableIn (tgt := 1300) hx hb dl_40 hlo hhi (by rw [q]; rfl) (by decide) (lc_count C0 hK0 hl hI hW hS (la_Out_lt hO) hin hcs simple)
end LAW3
