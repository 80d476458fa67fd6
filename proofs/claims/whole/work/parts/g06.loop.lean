/-! r: the law, case by case -/
section LAW2
variable {p : Program} {l : Launch} {e : Env} {s : State} {m : MethodId} {below : List Frame} {meth : Method} {c : Code} {b L : Nat} {xs : Nat → Int32} {Dg : va_G} {cA : Nat → ClassId} {ad adV : Nat → Nat} {vF : Value} {H : Heap} {locs : List Loc} {cells slots : Nat} {Q : State → Prop} {ls : Array Slot} {pc : Nat} {μ μ1 : ax_M}
theorem la_O {oa : Nat} {H1 : Heap} (hk : ∀ q, q < H.size → ¬ la_A s oa q → H1[q]? = H[q]?) (hO : oa < H.size) : oa < H1.size := by
  have h := hk oa hO (fun q => q.2 rfl)
  rw [Array.getElem?_eq_getElem hO] at h
  exact (Array.getElem?_eq_some_iff.mp h).1
theorem lc_feed {oa : Nat} (C0 : lw_At p s m meth c b L xs) (hK0 : la_K s oa Dg cA ad adV vF) {i : Int32} (hl : lv_has ls 7 [(0, .ref b), (1, .ref (ad 0)), (2, .ref (ad 207)), (3, .ref oa), (4, .int i)]) (hI : laI μ) (hW : ax_W Dg ax_cl (la_A s oa) cA ad ax_sh ax_NC μ H) (hS : va_S (fun q : Nat => s.heap.size ≤ q) s.heap H locs) (hO : oa < H.size) (hin : ∀ j : Int32, 0 ≤ j → j ≤ 5 → vp_in (i + j) L) (hcs : cells ≤ 601024 ∧ slots ≤ 7293034)
    (kk : ∀ (μ' : ax_M) (H1 : Heap) (locs1 : List Loc), laI μ' → ax_W Dg ax_cl (la_A s oa) cA ad ax_sh ax_NC μ' H1 → va_S (fun q : Nat => s.heap.size ≤ q) s.heap H1 locs1 → H1[oa]? = H[oa]? → W p l e room_1 s m #[Value.ref b] below meth c H1 locs1 cells slots Q (F0 m 1325 ls [])) : W p l e room_1 s m #[Value.ref b] below meth c H locs cells slots Q (F0 m 204 ls []) := by
  obtain ⟨r, μ1, μ2, a1, a2, hI2⟩ := LP_feed hI (xs (i + 1).toNatClampNeg) (xs (i + 2).toNatClampNeg) (xs (i + 3).toNatClampNeg) (xs (i + 4).toNatClampNeg) (xs (i + 5).toNatClampNeg)
  obtain ⟨hx, hb, hr, hml, hown, hts, hX, hbl, hlocks, hgv⟩ := id C0
  have hbA : ¬ (fun q : Nat => s.heap.size ≤ q) b := Nat.not_le.mpr hbl
  have hO1 : ∀ {H1 : Heap}, (∀ q, q < H.size → ¬ la_A s oa q → H1[q]? = H[q]?) → oa < H1.size := fun hk => la_O hk hO
  refine lv_aload_n hx hb dl_204 rfl (lv_at hl 1 rfl) ?_
  refine lv_aload_n hx hb dl_205 rfl (lv_at hl 0 rfl) ?_
  refine lv_iload hx hb dl_206 (lv_at hl 4 rfl) ?_
  refine lv_iconst (v := 1) hx hb dl_208 (by decide) ?_
  refine lv_iadd hx hb dl_209 ?_
  refine va_sld hx hb hX hbl hbA hS (hin 1 (by decide) (by decide)) dl_210 ?_
  refine lv_aload_n hx hb dl_211 rfl (lv_at hl 0 rfl) ?_
  refine lv_iload hx hb dl_212 (lv_at hl 4 rfl) ?_
  refine lv_iconst (v := 2) hx hb dl_214 (by decide) ?_
  refine lv_iadd hx hb dl_215 ?_
  refine va_sld hx hb hX hbl hbA hS (hin 2 (by decide) (by decide)) dl_216 ?_
  refine lv_aload_n hx hb dl_217 rfl (lv_at hl 0 rfl) ?_
  refine lv_iload hx hb dl_218 (lv_at hl 4 rfl) ?_
  refine lv_iconst (v := 3) hx hb dl_220 (by decide) ?_
  refine lv_iadd hx hb dl_221 ?_
  refine va_sld hx hb hX hbl hbA hS (hin 3 (by decide) (by decide)) dl_222 ?_
  refine lv_aload_n hx hb dl_223 rfl (lv_at hl 0 rfl) ?_
  refine lv_iload hx hb dl_224 (lv_at hl 4 rfl) ?_
  refine lv_iconst (v := 4) hx hb dl_226 (by decide) ?_
  refine lv_iadd hx hb dl_227 ?_
  refine va_sld hx hb hX hbl hbA hS (hin 4 (by decide) (by decide)) dl_228 ?_
  refine lv_aload_n hx hb dl_229 rfl (lv_at hl 0 rfl) ?_
  refine lv_iload hx hb dl_230 (lv_at hl 4 rfl) ?_
  refine lv_iconst (v := 5) hx hb dl_232 (by decide) ?_
  refine lv_iadd hx hb dl_233 ?_
  refine va_sld hx hb hX hbl hbA hS (hin 5 (by decide) (by decide)) dl_234 ?_
  refine la_call C0 hK0 (z := 135) (o := 0) (index := 28) (As := [.int (xs (i + 1).toNatClampNeg), .int (xs (i + 2).toNatClampNeg), .int (xs (i + 3).toNatClampNeg), .int (xs (i + 4).toNatClampNeg), .int (xs (i + 5).toNatClampNeg)]) (rest := []) (by decide) a1 rfl (by decide) rfl (ax_wl_at (k := 2) (j := 106) rfl) (ax_wl_at (k := 2) (j := 107) rfl) (ax_wl_at (k := 2) (j := 108) rfl) (show (parseMethodDescriptor (ax_MT 135).1.desc).map (fun d => d.parameters.length) = some 5 by decide +kernel) (by decide) hW hS rfl hl.1 (Nat.le_of_ble_eq_true rfl) dl_235 hcs (fun H1 locs1 hW1 hS1 hk1 => ?_)
  refine lv_aload_n hx hb dl_238 rfl (lv_at hl 2 rfl) ?_
  refine lv_aload_n hx hb dl_239 rfl (lv_at hl 0 rfl) ?_
  refine lv_iload hx hb dl_240 (lv_at hl 4 rfl) ?_
  refine lv_iconst (v := 1) hx hb dl_242 (by decide) ?_
  refine lv_iadd hx hb dl_243 ?_
  refine va_sld hx hb hX hbl hbA hS1 (hin 1 (by decide) (by decide)) dl_244 ?_
  refine lv_aload_n hx hb dl_245 rfl (lv_at hl 0 rfl) ?_
  refine lv_iload hx hb dl_246 (lv_at hl 4 rfl) ?_
  refine lv_iconst (v := 2) hx hb dl_248 (by decide) ?_
  refine lv_iadd hx hb dl_249 ?_
  refine va_sld hx hb hX hbl hbA hS1 (hin 2 (by decide) (by decide)) dl_250 ?_
  refine lv_aload_n hx hb dl_251 rfl (lv_at hl 0 rfl) ?_
  refine lv_iload hx hb dl_252 (lv_at hl 4 rfl) ?_
  refine lv_iconst (v := 3) hx hb dl_254 (by decide) ?_
  refine lv_iadd hx hb dl_255 ?_
  refine va_sld hx hb hX hbl hbA hS1 (hin 3 (by decide) (by decide)) dl_256 ?_
  refine lv_aload_n hx hb dl_257 rfl (lv_at hl 0 rfl) ?_
  refine lv_iload hx hb dl_258 (lv_at hl 4 rfl) ?_
  refine lv_iconst (v := 4) hx hb dl_260 (by decide) ?_
  refine lv_iadd hx hb dl_261 ?_
  refine va_sld hx hb hX hbl hbA hS1 (hin 4 (by decide) (by decide)) dl_262 ?_
  refine lv_aload_n hx hb dl_263 rfl (lv_at hl 0 rfl) ?_
  refine lv_iload hx hb dl_264 (lv_at hl 4 rfl) ?_
  refine lv_iconst (v := 5) hx hb dl_266 (by decide) ?_
  refine lv_iadd hx hb dl_267 ?_
  refine va_sld hx hb hX hbl hbA hS1 (hin 5 (by decide) (by decide)) dl_268 ?_
  refine la_call C0 hK0 (z := 4) (o := 207) (index := 32) (As := [.int (xs (i + 1).toNatClampNeg), .int (xs (i + 2).toNatClampNeg), .int (xs (i + 3).toNatClampNeg), .int (xs (i + 4).toNatClampNeg), .int (xs (i + 5).toNatClampNeg)]) (rest := [.int r]) (by decide) a2 rfl (by decide) rfl (ax_wl_at (k := 5) (j := 199) rfl) (ax_wl_at (k := 5) (j := 200) rfl) (ax_wl_at (k := 5) (j := 201) rfl) (show (parseMethodDescriptor (ax_MT 4).1.desc).map (fun d => d.parameters.length) = some 5 by decide +kernel) (by decide) hW1 hS1 rfl hl.1 (Nat.le_of_ble_eq_true rfl) dl_269 hcs (fun H2 locs2 hW2 hS2 hk2 => ?_)
  refine lv_icmp_eq (tgt := 1325) hx hb dl_272 (by decide) (fun _ => ?_) (fun hq => absurd rfl hq)
  exact kk μ2 H2 locs2 hI2 hW2 hS2 (by rw [hk2 oa (hO1 hk1) (fun q => q.2 rfl), hk1 oa hO (fun q => q.2 rfl)])
theorem lc_end {oa : Nat} (C0 : lw_At p s m meth c b L xs) (hK0 : la_K s oa Dg cA ad adV vF) {i : Int32} (hl : lv_has ls 7 [(0, .ref b), (1, .ref (ad 0)), (2, .ref (ad 207)), (3, .ref oa), (4, .int i)]) (hI : laI μ) (hW : ax_W Dg ax_cl (la_A s oa) cA ad ax_sh ax_NC μ H) (hS : va_S (fun q : Nat => s.heap.size ≤ q) s.heap H locs) (hO : oa < H.size) (hin : ∀ j : Int32, 0 ≤ j → j ≤ 5 → vp_in (i + j) L) (hcs : cells ≤ 601024 ∧ slots ≤ 7293034)
    (kk : ∀ (μ' : ax_M) (H1 : Heap) (locs1 : List Loc), laI μ' → ax_W Dg ax_cl (la_A s oa) cA ad ax_sh ax_NC μ' H1 → va_S (fun q : Nat => s.heap.size ≤ q) s.heap H1 locs1 → H1[oa]? = H[oa]? → W p l e room_1 s m #[Value.ref b] below meth c H1 locs1 cells slots Q (F0 m 1325 ls [])) : W p l e room_1 s m #[Value.ref b] below meth c H locs cells slots Q (F0 m 277 ls []) := by
  obtain ⟨r, μ1, μ2, a1, a2, hI2⟩ := LP_end hI (xs (i + 1).toNatClampNeg)
  obtain ⟨hx, hb, hr, hml, hown, hts, hX, hbl, hlocks, hgv⟩ := id C0
  have hbA : ¬ (fun q : Nat => s.heap.size ≤ q) b := Nat.not_le.mpr hbl
  have hO1 : ∀ {H1 : Heap}, (∀ q, q < H.size → ¬ la_A s oa q → H1[q]? = H[q]?) → oa < H1.size := fun hk => la_O hk hO
  refine lv_aload_n hx hb dl_277 rfl (lv_at hl 1 rfl) ?_
  refine lv_aload_n hx hb dl_278 rfl (lv_at hl 0 rfl) ?_
  refine lv_iload hx hb dl_279 (lv_at hl 4 rfl) ?_
  refine lv_iconst (v := 1) hx hb dl_281 (by decide) ?_
  refine lv_iadd hx hb dl_282 ?_
  refine va_sld hx hb hX hbl hbA hS (hin 1 (by decide) (by decide)) dl_283 ?_
  refine la_call C0 hK0 (z := 136) (o := 0) (index := 33) (As := [.int (xs (i + 1).toNatClampNeg)]) (rest := []) (by decide) a1 rfl (by decide) rfl (ax_wl_at (k := 2) (j := 114) rfl) (ax_wl_at (k := 2) (j := 115) rfl) (ax_wl_at (k := 2) (j := 116) rfl) (show (parseMethodDescriptor (ax_MT 136).1.desc).map (fun d => d.parameters.length) = some 1 by decide +kernel) (by decide) hW hS rfl hl.1 (Nat.le_of_ble_eq_true rfl) dl_284 hcs (fun H1 locs1 hW1 hS1 hk1 => ?_)
  refine lv_aload_n hx hb dl_287 rfl (lv_at hl 2 rfl) ?_
  refine lv_aload_n hx hb dl_288 rfl (lv_at hl 0 rfl) ?_
  refine lv_iload hx hb dl_289 (lv_at hl 4 rfl) ?_
  refine lv_iconst (v := 1) hx hb dl_291 (by decide) ?_
  refine lv_iadd hx hb dl_292 ?_
  refine va_sld hx hb hX hbl hbA hS1 (hin 1 (by decide) (by decide)) dl_293 ?_
  refine la_call C0 hK0 (z := 5) (o := 207) (index := 37) (As := [.int (xs (i + 1).toNatClampNeg)]) (rest := [.int r]) (by decide) a2 rfl (by decide) rfl (ax_wl_at (k := 5) (j := 208) rfl) (ax_wl_at (k := 5) (j := 209) rfl) (ax_wl_at (k := 5) (j := 210) rfl) (show (parseMethodDescriptor (ax_MT 5).1.desc).map (fun d => d.parameters.length) = some 1 by decide +kernel) (by decide) hW1 hS1 rfl hl.1 (Nat.le_of_ble_eq_true rfl) dl_294 hcs (fun H2 locs2 hW2 hS2 hk2 => ?_)
  refine lv_icmp_eq (tgt := 1325) hx hb dl_297 (by decide) (fun _ => ?_) (fun hq => absurd rfl hq)
  exact kk μ2 H2 locs2 hI2 hW2 hS2 (by rw [hk2 oa (hO1 hk1) (fun q => q.2 rfl), hk1 oa hO (fun q => q.2 rfl)])
theorem lc_net {oa : Nat} (C0 : lw_At p s m meth c b L xs) (hK0 : la_K s oa Dg cA ad adV vF) {i : Int32} (hl : lv_has ls 7 [(0, .ref b), (1, .ref (ad 0)), (2, .ref (ad 207)), (3, .ref oa), (4, .int i)]) (hI : laI μ) (hW : ax_W Dg ax_cl (la_A s oa) cA ad ax_sh ax_NC μ H) (hS : va_S (fun q : Nat => s.heap.size ≤ q) s.heap H locs) (hO : oa < H.size) (hin : ∀ j : Int32, 0 ≤ j → j ≤ 5 → vp_in (i + j) L) (hcs : cells ≤ 601024 ∧ slots ≤ 7293034)
    (kk : ∀ (μ' : ax_M) (H1 : Heap) (locs1 : List Loc), laI μ' → ax_W Dg ax_cl (la_A s oa) cA ad ax_sh ax_NC μ' H1 → va_S (fun q : Nat => s.heap.size ≤ q) s.heap H1 locs1 → H1[oa]? = H[oa]? → W p l e room_1 s m #[Value.ref b] below meth c H1 locs1 cells slots Q (F0 m 1325 ls [])) : W p l e room_1 s m #[Value.ref b] below meth c H locs cells slots Q (F0 m 302 ls []) := by
  obtain ⟨r, μ1, μ2, a1, a2, hI2⟩ := LP_net hI
  obtain ⟨hx, hb, hr, hml, hown, hts, hX, hbl, hlocks, hgv⟩ := id C0
  have hbA : ¬ (fun q : Nat => s.heap.size ≤ q) b := Nat.not_le.mpr hbl
  have hO1 : ∀ {H1 : Heap}, (∀ q, q < H.size → ¬ la_A s oa q → H1[q]? = H[q]?) → oa < H1.size := fun hk => la_O hk hO
  refine lv_aload_n hx hb dl_302 rfl (lv_at hl 1 rfl) ?_
  refine la_call C0 hK0 (z := 137) (o := 0) (index := 38) (As := []) (rest := []) (by decide) a1 rfl (by decide) rfl (ax_wl_at (k := 2) (j := 118) rfl) (ax_wl_at (k := 2) (j := 119) rfl) (ax_wl_at (k := 2) (j := 120) rfl) (show (parseMethodDescriptor (ax_MT 137).1.desc).map (fun d => d.parameters.length) = some 0 by decide +kernel) (by decide) hW hS rfl hl.1 (Nat.le_of_ble_eq_true rfl) dl_303 hcs (fun H1 locs1 hW1 hS1 hk1 => ?_)
  refine lv_aload_n hx hb dl_306 rfl (lv_at hl 2 rfl) ?_
  refine la_call C0 hK0 (z := 26) (o := 207) (index := 42) (As := []) (rest := [.int r]) (by decide) a2 rfl (by decide) rfl (ax_wl_at (k := 6) (j := 85) rfl) (ax_wl_at (k := 6) (j := 86) rfl) (ax_wl_at (k := 6) (j := 87) rfl) (show (parseMethodDescriptor (ax_MT 26).1.desc).map (fun d => d.parameters.length) = some 0 by decide +kernel) (by decide) hW1 hS1 rfl hl.1 (Nat.le_of_ble_eq_true rfl) dl_307 hcs (fun H2 locs2 hW2 hS2 hk2 => ?_)
  refine lv_icmp_eq (tgt := 1325) hx hb dl_310 (by decide) (fun _ => ?_) (fun hq => absurd rfl hq)
  exact kk μ2 H2 locs2 hI2 hW2 hS2 (by rw [hk2 oa (hO1 hk1) (fun q => q.2 rfl), hk1 oa hO (fun q => q.2 rfl)])
theorem lc_rule {oa : Nat} (C0 : lw_At p s m meth c b L xs) (hK0 : la_K s oa Dg cA ad adV vF) {i : Int32} (hl : lv_has ls 7 [(0, .ref b), (1, .ref (ad 0)), (2, .ref (ad 207)), (3, .ref oa), (4, .int i)]) (hI : laI μ) (hW : ax_W Dg ax_cl (la_A s oa) cA ad ax_sh ax_NC μ H) (hS : va_S (fun q : Nat => s.heap.size ≤ q) s.heap H locs) (hO : oa < H.size) (hin : ∀ j : Int32, 0 ≤ j → j ≤ 5 → vp_in (i + j) L) (hcs : cells ≤ 601024 ∧ slots ≤ 7293034)
    (kk : ∀ (μ' : ax_M) (H1 : Heap) (locs1 : List Loc), laI μ' → ax_W Dg ax_cl (la_A s oa) cA ad ax_sh ax_NC μ' H1 → va_S (fun q : Nat => s.heap.size ≤ q) s.heap H1 locs1 → H1[oa]? = H[oa]? → W p l e room_1 s m #[Value.ref b] below meth c H1 locs1 cells slots Q (F0 m 1325 ls [])) : W p l e room_1 s m #[Value.ref b] below meth c H locs cells slots Q (F0 m 315 ls []) := by
  obtain ⟨r, μ1, μ2, a1, a2, hI2⟩ := LP_rule hI
  obtain ⟨hx, hb, hr, hml, hown, hts, hX, hbl, hlocks, hgv⟩ := id C0
  have hbA : ¬ (fun q : Nat => s.heap.size ≤ q) b := Nat.not_le.mpr hbl
  have hO1 : ∀ {H1 : Heap}, (∀ q, q < H.size → ¬ la_A s oa q → H1[q]? = H[q]?) → oa < H1.size := fun hk => la_O hk hO
  refine lv_aload_n hx hb dl_315 rfl (lv_at hl 1 rfl) ?_
  refine la_call C0 hK0 (z := 138) (o := 0) (index := 43) (As := []) (rest := []) (by decide) a1 rfl (by decide) rfl (ax_wl_at (k := 3) (j := 92) rfl) (ax_wl_at (k := 3) (j := 93) rfl) (ax_wl_at (k := 3) (j := 94) rfl) (show (parseMethodDescriptor (ax_MT 138).1.desc).map (fun d => d.parameters.length) = some 0 by decide +kernel) (by decide) hW hS rfl hl.1 (Nat.le_of_ble_eq_true rfl) dl_316 hcs (fun H1 locs1 hW1 hS1 hk1 => ?_)
  refine lv_aload_n hx hb dl_319 rfl (lv_at hl 2 rfl) ?_
  refine la_call C0 hK0 (z := 30) (o := 207) (index := 46) (As := []) (rest := [.int r]) (by decide) a2 rfl (by decide) rfl (ax_wl_at (k := 6) (j := 168) rfl) (ax_wl_at (k := 6) (j := 169) rfl) (ax_wl_at (k := 6) (j := 170) rfl) (show (parseMethodDescriptor (ax_MT 30).1.desc).map (fun d => d.parameters.length) = some 0 by decide +kernel) (by decide) hW1 hS1 rfl hl.1 (Nat.le_of_ble_eq_true rfl) dl_320 hcs (fun H2 locs2 hW2 hS2 hk2 => ?_)
  refine lv_icmp_eq (tgt := 1325) hx hb dl_323 (by decide) (fun _ => ?_) (fun hq => absurd rfl hq)
  exact kk μ2 H2 locs2 hI2 hW2 hS2 (by rw [hk2 oa (hO1 hk1) (fun q => q.2 rfl), hk1 oa hO (fun q => q.2 rfl)])
theorem lc_fault {oa : Nat} (C0 : lw_At p s m meth c b L xs) (hK0 : la_K s oa Dg cA ad adV vF) {i : Int32} (hl : lv_has ls 7 [(0, .ref b), (1, .ref (ad 0)), (2, .ref (ad 207)), (3, .ref oa), (4, .int i)]) (hI : laI μ) (hW : ax_W Dg ax_cl (la_A s oa) cA ad ax_sh ax_NC μ H) (hS : va_S (fun q : Nat => s.heap.size ≤ q) s.heap H locs) (hO : oa < H.size) (hin : ∀ j : Int32, 0 ≤ j → j ≤ 5 → vp_in (i + j) L) (hcs : cells ≤ 601024 ∧ slots ≤ 7293034)
    (kk : ∀ (μ' : ax_M) (H1 : Heap) (locs1 : List Loc), laI μ' → ax_W Dg ax_cl (la_A s oa) cA ad ax_sh ax_NC μ' H1 → va_S (fun q : Nat => s.heap.size ≤ q) s.heap H1 locs1 → H1[oa]? = H[oa]? → W p l e room_1 s m #[Value.ref b] below meth c H1 locs1 cells slots Q (F0 m 1325 ls [])) : W p l e room_1 s m #[Value.ref b] below meth c H locs cells slots Q (F0 m 328 ls []) := by
  obtain ⟨r, μ1, μ2, a1, a2, hI2⟩ := LP_fault hI (xs (i + 1).toNatClampNeg)
  obtain ⟨hx, hb, hr, hml, hown, hts, hX, hbl, hlocks, hgv⟩ := id C0
  have hbA : ¬ (fun q : Nat => s.heap.size ≤ q) b := Nat.not_le.mpr hbl
  have hO1 : ∀ {H1 : Heap}, (∀ q, q < H.size → ¬ la_A s oa q → H1[q]? = H[q]?) → oa < H1.size := fun hk => la_O hk hO
  refine lv_aload_n hx hb dl_328 rfl (lv_at hl 1 rfl) ?_
  refine lv_aload_n hx hb dl_329 rfl (lv_at hl 0 rfl) ?_
  refine lv_iload hx hb dl_330 (lv_at hl 4 rfl) ?_
  refine lv_iconst (v := 1) hx hb dl_332 (by decide) ?_
  refine lv_iadd hx hb dl_333 ?_
  refine va_sld hx hb hX hbl hbA hS (hin 1 (by decide) (by decide)) dl_334 ?_
  refine la_call C0 hK0 (z := 139) (o := 0) (index := 47) (As := [.int (xs (i + 1).toNatClampNeg)]) (rest := []) (by decide) a1 rfl (by decide) rfl (ax_wl_at (k := 3) (j := 135) rfl) (ax_wl_at (k := 3) (j := 136) rfl) (ax_wl_at (k := 3) (j := 137) rfl) (show (parseMethodDescriptor (ax_MT 139).1.desc).map (fun d => d.parameters.length) = some 1 by decide +kernel) (by decide) hW hS rfl hl.1 (Nat.le_of_ble_eq_true rfl) dl_335 hcs (fun H1 locs1 hW1 hS1 hk1 => ?_)
  refine lv_aload_n hx hb dl_338 rfl (lv_at hl 2 rfl) ?_
  refine lv_aload_n hx hb dl_339 rfl (lv_at hl 0 rfl) ?_
  refine lv_iload hx hb dl_340 (lv_at hl 4 rfl) ?_
  refine lv_iconst (v := 1) hx hb dl_342 (by decide) ?_
  refine lv_iadd hx hb dl_343 ?_
  refine va_sld hx hb hX hbl hbA hS1 (hin 1 (by decide) (by decide)) dl_344 ?_
  refine la_call C0 hK0 (z := 31) (o := 207) (index := 51) (As := [.int (xs (i + 1).toNatClampNeg)]) (rest := [.int r]) (by decide) a2 rfl (by decide) rfl (ax_wl_at (k := 6) (j := 184) rfl) (ax_wl_at (k := 6) (j := 185) rfl) (ax_wl_at (k := 6) (j := 186) rfl) (show (parseMethodDescriptor (ax_MT 31).1.desc).map (fun d => d.parameters.length) = some 1 by decide +kernel) (by decide) hW1 hS1 rfl hl.1 (Nat.le_of_ble_eq_true rfl) dl_345 hcs (fun H2 locs2 hW2 hS2 hk2 => ?_)
  refine lv_icmp_eq (tgt := 1325) hx hb dl_348 (by decide) (fun _ => ?_) (fun hq => absurd rfl hq)
  exact kk μ2 H2 locs2 hI2 hW2 hS2 (by rw [hk2 oa (hO1 hk1) (fun q => q.2 rfl), hk1 oa hO (fun q => q.2 rfl)])
theorem lc_onWay {oa : Nat} (C0 : lw_At p s m meth c b L xs) (hK0 : la_K s oa Dg cA ad adV vF) {i : Int32} (hl : lv_has ls 7 [(0, .ref b), (1, .ref (ad 0)), (2, .ref (ad 207)), (3, .ref oa), (4, .int i)]) (hI : laI μ) (hW : ax_W Dg ax_cl (la_A s oa) cA ad ax_sh ax_NC μ H) (hS : va_S (fun q : Nat => s.heap.size ≤ q) s.heap H locs) (hO : oa < H.size) (hin : ∀ j : Int32, 0 ≤ j → j ≤ 5 → vp_in (i + j) L) (hcs : cells ≤ 601024 ∧ slots ≤ 7293034)
    (kk : ∀ (μ' : ax_M) (H1 : Heap) (locs1 : List Loc), laI μ' → ax_W Dg ax_cl (la_A s oa) cA ad ax_sh ax_NC μ' H1 → va_S (fun q : Nat => s.heap.size ≤ q) s.heap H1 locs1 → H1[oa]? = H[oa]? → W p l e room_1 s m #[Value.ref b] below meth c H1 locs1 cells slots Q (F0 m 1325 ls [])) : W p l e room_1 s m #[Value.ref b] below meth c H locs cells slots Q (F0 m 557 ls []) := by
  obtain ⟨r, μ1, μ2, a1, a2, hI2⟩ := LP_onWay hI (xs (i + 1).toNatClampNeg)
  obtain ⟨hx, hb, hr, hml, hown, hts, hX, hbl, hlocks, hgv⟩ := id C0
  have hbA : ¬ (fun q : Nat => s.heap.size ≤ q) b := Nat.not_le.mpr hbl
  have hO1 : ∀ {H1 : Heap}, (∀ q, q < H.size → ¬ la_A s oa q → H1[q]? = H[q]?) → oa < H1.size := fun hk => la_O hk hO
  refine lv_aload_n hx hb dl_557 rfl (lv_at hl 1 rfl) ?_
  refine lv_aload_n hx hb dl_558 rfl (lv_at hl 0 rfl) ?_
  refine lv_iload hx hb dl_559 (lv_at hl 4 rfl) ?_
  refine lv_iconst (v := 1) hx hb dl_561 (by decide) ?_
  refine lv_iadd hx hb dl_562 ?_
  refine va_sld hx hb hX hbl hbA hS (hin 1 (by decide) (by decide)) dl_563 ?_
  refine la_call C0 hK0 (z := 143) (o := 0) (index := 67) (As := [.int (xs (i + 1).toNatClampNeg)]) (rest := []) (by decide) a1 rfl (by decide) rfl (ax_wl_at (k := 3) (j := 139) rfl) (ax_wl_at (k := 3) (j := 140) rfl) (ax_wl_at (k := 3) (j := 141) rfl) (show (parseMethodDescriptor (ax_MT 143).1.desc).map (fun d => d.parameters.length) = some 1 by decide +kernel) (by decide) hW hS rfl hl.1 (Nat.le_of_ble_eq_true rfl) dl_564 hcs (fun H1 locs1 hW1 hS1 hk1 => ?_)
  refine lv_aload_n hx hb dl_567 rfl (lv_at hl 2 rfl) ?_
  refine lv_aload_n hx hb dl_568 rfl (lv_at hl 0 rfl) ?_
  refine lv_iload hx hb dl_569 (lv_at hl 4 rfl) ?_
  refine lv_iconst (v := 1) hx hb dl_571 (by decide) ?_
  refine lv_iadd hx hb dl_572 ?_
  refine va_sld hx hb hX hbl hbA hS1 (hin 1 (by decide) (by decide)) dl_573 ?_
  refine la_call C0 hK0 (z := 76) (o := 207) (index := 70) (As := [.int (xs (i + 1).toNatClampNeg)]) (rest := [.int r]) (by decide) a2 rfl (by decide) rfl (ax_wl_at (k := 7) (j := 0) rfl) (ax_wl_at (k := 7) (j := 1) rfl) (ax_wl_at (k := 7) (j := 2) rfl) (show (parseMethodDescriptor (ax_MT 76).1.desc).map (fun d => d.parameters.length) = some 1 by decide +kernel) (by decide) hW1 hS1 rfl hl.1 (Nat.le_of_ble_eq_true rfl) dl_574 hcs (fun H2 locs2 hW2 hS2 hk2 => ?_)
  refine lv_icmp_eq (tgt := 1325) hx hb dl_577 (by decide) (fun _ => ?_) (fun hq => absurd rfl hq)
  exact kk μ2 H2 locs2 hI2 hW2 hS2 (by rw [hk2 oa (hO1 hk1) (fun q => q.2 rfl), hk1 oa hO (fun q => q.2 rfl)])
theorem lc_waits {oa : Nat} (C0 : lw_At p s m meth c b L xs) (hK0 : la_K s oa Dg cA ad adV vF) {i : Int32} (hl : lv_has ls 7 [(0, .ref b), (1, .ref (ad 0)), (2, .ref (ad 207)), (3, .ref oa), (4, .int i)]) (hI : laI μ) (hW : ax_W Dg ax_cl (la_A s oa) cA ad ax_sh ax_NC μ H) (hS : va_S (fun q : Nat => s.heap.size ≤ q) s.heap H locs) (hO : oa < H.size) (hin : ∀ j : Int32, 0 ≤ j → j ≤ 5 → vp_in (i + j) L) (hcs : cells ≤ 601024 ∧ slots ≤ 7293034)
    (kk : ∀ (μ' : ax_M) (H1 : Heap) (locs1 : List Loc), laI μ' → ax_W Dg ax_cl (la_A s oa) cA ad ax_sh ax_NC μ' H1 → va_S (fun q : Nat => s.heap.size ≤ q) s.heap H1 locs1 → H1[oa]? = H[oa]? → W p l e room_1 s m #[Value.ref b] below meth c H1 locs1 cells slots Q (F0 m 1325 ls [])) : W p l e room_1 s m #[Value.ref b] below meth c H locs cells slots Q (F0 m 582 ls []) := by
  obtain ⟨r, μ1, μ2, a1, a2, hI2⟩ := LP_waits hI (xs (i + 1).toNatClampNeg) (xs (i + 2).toNatClampNeg) (xs (i + 3).toNatClampNeg)
  obtain ⟨hx, hb, hr, hml, hown, hts, hX, hbl, hlocks, hgv⟩ := id C0
  have hbA : ¬ (fun q : Nat => s.heap.size ≤ q) b := Nat.not_le.mpr hbl
  have hO1 : ∀ {H1 : Heap}, (∀ q, q < H.size → ¬ la_A s oa q → H1[q]? = H[q]?) → oa < H1.size := fun hk => la_O hk hO
  refine lv_aload_n hx hb dl_582 rfl (lv_at hl 1 rfl) ?_
  refine lv_aload_n hx hb dl_583 rfl (lv_at hl 0 rfl) ?_
  refine lv_iload hx hb dl_584 (lv_at hl 4 rfl) ?_
  refine lv_iconst (v := 1) hx hb dl_586 (by decide) ?_
  refine lv_iadd hx hb dl_587 ?_
  refine va_sld hx hb hX hbl hbA hS (hin 1 (by decide) (by decide)) dl_588 ?_
  refine lv_aload_n hx hb dl_589 rfl (lv_at hl 0 rfl) ?_
  refine lv_iload hx hb dl_590 (lv_at hl 4 rfl) ?_
  refine lv_iconst (v := 2) hx hb dl_592 (by decide) ?_
  refine lv_iadd hx hb dl_593 ?_
  refine va_sld hx hb hX hbl hbA hS (hin 2 (by decide) (by decide)) dl_594 ?_
  refine lv_aload_n hx hb dl_595 rfl (lv_at hl 0 rfl) ?_
  refine lv_iload hx hb dl_596 (lv_at hl 4 rfl) ?_
  refine lv_iconst (v := 3) hx hb dl_598 (by decide) ?_
  refine lv_iadd hx hb dl_599 ?_
  refine va_sld hx hb hX hbl hbA hS (hin 3 (by decide) (by decide)) dl_600 ?_
  refine la_call C0 hK0 (z := 144) (o := 0) (index := 71) (As := [.int (xs (i + 1).toNatClampNeg), .int (xs (i + 2).toNatClampNeg), .int (xs (i + 3).toNatClampNeg)]) (rest := []) (by decide) a1 rfl (by decide) rfl (ax_wl_at (k := 3) (j := 148) rfl) (ax_wl_at (k := 3) (j := 149) rfl) (ax_wl_at (k := 3) (j := 150) rfl) (show (parseMethodDescriptor (ax_MT 144).1.desc).map (fun d => d.parameters.length) = some 3 by decide +kernel) (by decide) hW hS rfl hl.1 (Nat.le_of_ble_eq_true rfl) dl_601 hcs (fun H1 locs1 hW1 hS1 hk1 => ?_)
  refine lv_aload_n hx hb dl_604 rfl (lv_at hl 2 rfl) ?_
  refine lv_aload_n hx hb dl_605 rfl (lv_at hl 0 rfl) ?_
  refine lv_iload hx hb dl_606 (lv_at hl 4 rfl) ?_
  refine lv_iconst (v := 1) hx hb dl_608 (by decide) ?_
  refine lv_iadd hx hb dl_609 ?_
  refine va_sld hx hb hX hbl hbA hS1 (hin 1 (by decide) (by decide)) dl_610 ?_
  refine lv_aload_n hx hb dl_611 rfl (lv_at hl 0 rfl) ?_
  refine lv_iload hx hb dl_612 (lv_at hl 4 rfl) ?_
  refine lv_iconst (v := 2) hx hb dl_614 (by decide) ?_
  refine lv_iadd hx hb dl_615 ?_
  refine va_sld hx hb hX hbl hbA hS1 (hin 2 (by decide) (by decide)) dl_616 ?_
  refine lv_aload_n hx hb dl_617 rfl (lv_at hl 0 rfl) ?_
  refine lv_iload hx hb dl_618 (lv_at hl 4 rfl) ?_
  refine lv_iconst (v := 3) hx hb dl_620 (by decide) ?_
  refine lv_iadd hx hb dl_621 ?_
  refine va_sld hx hb hX hbl hbA hS1 (hin 3 (by decide) (by decide)) dl_622 ?_
  refine la_call C0 hK0 (z := 77) (o := 207) (index := 75) (As := [.int (xs (i + 1).toNatClampNeg), .int (xs (i + 2).toNatClampNeg), .int (xs (i + 3).toNatClampNeg)]) (rest := [.int r]) (by decide) a2 rfl (by decide) rfl (ax_wl_at (k := 7) (j := 12) rfl) (ax_wl_at (k := 7) (j := 13) rfl) (ax_wl_at (k := 7) (j := 14) rfl) (show (parseMethodDescriptor (ax_MT 77).1.desc).map (fun d => d.parameters.length) = some 3 by decide +kernel) (by decide) hW1 hS1 rfl hl.1 (Nat.le_of_ble_eq_true rfl) dl_623 hcs (fun H2 locs2 hW2 hS2 hk2 => ?_)
  refine lv_icmp_eq (tgt := 1325) hx hb dl_626 (by decide) (fun _ => ?_) (fun hq => absurd rfl hq)
  exact kk μ2 H2 locs2 hI2 hW2 hS2 (by rw [hk2 oa (hO1 hk1) (fun q => q.2 rfl), hk1 oa hO (fun q => q.2 rfl)])
theorem lc_wake {oa : Nat} (C0 : lw_At p s m meth c b L xs) (hK0 : la_K s oa Dg cA ad adV vF) {i : Int32} (hl : lv_has ls 7 [(0, .ref b), (1, .ref (ad 0)), (2, .ref (ad 207)), (3, .ref oa), (4, .int i)]) (hI : laI μ) (hW : ax_W Dg ax_cl (la_A s oa) cA ad ax_sh ax_NC μ H) (hS : va_S (fun q : Nat => s.heap.size ≤ q) s.heap H locs) (hO : oa < H.size) (hin : ∀ j : Int32, 0 ≤ j → j ≤ 5 → vp_in (i + j) L) (hcs : cells ≤ 601024 ∧ slots ≤ 7293034)
    (kk : ∀ (μ' : ax_M) (H1 : Heap) (locs1 : List Loc), laI μ' → ax_W Dg ax_cl (la_A s oa) cA ad ax_sh ax_NC μ' H1 → va_S (fun q : Nat => s.heap.size ≤ q) s.heap H1 locs1 → H1[oa]? = H[oa]? → W p l e room_1 s m #[Value.ref b] below meth c H1 locs1 cells slots Q (F0 m 1325 ls [])) : W p l e room_1 s m #[Value.ref b] below meth c H locs cells slots Q (F0 m 631 ls []) := by
  obtain ⟨r, μ1, μ2, a1, a2, hI2⟩ := LP_wake hI (xs (i + 1).toNatClampNeg)
  obtain ⟨hx, hb, hr, hml, hown, hts, hX, hbl, hlocks, hgv⟩ := id C0
  have hbA : ¬ (fun q : Nat => s.heap.size ≤ q) b := Nat.not_le.mpr hbl
  have hO1 : ∀ {H1 : Heap}, (∀ q, q < H.size → ¬ la_A s oa q → H1[q]? = H[q]?) → oa < H1.size := fun hk => la_O hk hO
  refine lv_aload_n hx hb dl_631 rfl (lv_at hl 1 rfl) ?_
  refine lv_aload_n hx hb dl_632 rfl (lv_at hl 0 rfl) ?_
  refine lv_iload hx hb dl_633 (lv_at hl 4 rfl) ?_
  refine lv_iconst (v := 1) hx hb dl_635 (by decide) ?_
  refine lv_iadd hx hb dl_636 ?_
  refine va_sld hx hb hX hbl hbA hS (hin 1 (by decide) (by decide)) dl_637 ?_
  refine la_call C0 hK0 (z := 145) (o := 0) (index := 76) (As := [.int (xs (i + 1).toNatClampNeg)]) (rest := []) (by decide) a1 rfl (by decide) rfl (ax_wl_at (k := 3) (j := 174) rfl) (ax_wl_at (k := 3) (j := 175) rfl) (ax_wl_at (k := 3) (j := 176) rfl) (show (parseMethodDescriptor (ax_MT 145).1.desc).map (fun d => d.parameters.length) = some 1 by decide +kernel) (by decide) hW hS rfl hl.1 (Nat.le_of_ble_eq_true rfl) dl_638 hcs (fun H1 locs1 hW1 hS1 hk1 => ?_)
  refine lv_aload_n hx hb dl_641 rfl (lv_at hl 2 rfl) ?_
  refine lv_aload_n hx hb dl_642 rfl (lv_at hl 0 rfl) ?_
  refine lv_iload hx hb dl_643 (lv_at hl 4 rfl) ?_
  refine lv_iconst (v := 1) hx hb dl_645 (by decide) ?_
  refine lv_iadd hx hb dl_646 ?_
  refine va_sld hx hb hX hbl hbA hS1 (hin 1 (by decide) (by decide)) dl_647 ?_
  refine la_call C0 hK0 (z := 82) (o := 207) (index := 79) (As := [.int (xs (i + 1).toNatClampNeg)]) (rest := [.int r]) (by decide) a2 rfl (by decide) rfl (ax_wl_at (k := 7) (j := 16) rfl) (ax_wl_at (k := 7) (j := 17) rfl) (ax_wl_at (k := 7) (j := 18) rfl) (show (parseMethodDescriptor (ax_MT 82).1.desc).map (fun d => d.parameters.length) = some 1 by decide +kernel) (by decide) hW1 hS1 rfl hl.1 (Nat.le_of_ble_eq_true rfl) dl_648 hcs (fun H2 locs2 hW2 hS2 hk2 => ?_)
  refine lv_icmp_eq (tgt := 1325) hx hb dl_651 (by decide) (fun _ => ?_) (fun hq => absurd rfl hq)
  exact kk μ2 H2 locs2 hI2 hW2 hS2 (by rw [hk2 oa (hO1 hk1) (fun q => q.2 rfl), hk1 oa hO (fun q => q.2 rfl)])
theorem lc_take {oa : Nat} (C0 : lw_At p s m meth c b L xs) (hK0 : la_K s oa Dg cA ad adV vF) {i : Int32} (hl : lv_has ls 7 [(0, .ref b), (1, .ref (ad 0)), (2, .ref (ad 207)), (3, .ref oa), (4, .int i)]) (hI : laI μ) (hW : ax_W Dg ax_cl (la_A s oa) cA ad ax_sh ax_NC μ H) (hS : va_S (fun q : Nat => s.heap.size ≤ q) s.heap H locs) (hO : oa < H.size) (hin : ∀ j : Int32, 0 ≤ j → j ≤ 5 → vp_in (i + j) L) (hcs : cells ≤ 601024 ∧ slots ≤ 7293034)
    (kk : ∀ (μ' : ax_M) (H1 : Heap) (locs1 : List Loc), laI μ' → ax_W Dg ax_cl (la_A s oa) cA ad ax_sh ax_NC μ' H1 → va_S (fun q : Nat => s.heap.size ≤ q) s.heap H1 locs1 → H1[oa]? = H[oa]? → W p l e room_1 s m #[Value.ref b] below meth c H1 locs1 cells slots Q (F0 m 1325 ls [])) : W p l e room_1 s m #[Value.ref b] below meth c H locs cells slots Q (F0 m 656 ls []) := by
  obtain ⟨r, μ1, μ2, a1, a2, hI2⟩ := LP_take hI (xs (i + 1).toNatClampNeg)
  obtain ⟨hx, hb, hr, hml, hown, hts, hX, hbl, hlocks, hgv⟩ := id C0
  have hbA : ¬ (fun q : Nat => s.heap.size ≤ q) b := Nat.not_le.mpr hbl
  have hO1 : ∀ {H1 : Heap}, (∀ q, q < H.size → ¬ la_A s oa q → H1[q]? = H[q]?) → oa < H1.size := fun hk => la_O hk hO
  refine lv_aload_n hx hb dl_656 rfl (lv_at hl 1 rfl) ?_
  refine lv_aload_n hx hb dl_657 rfl (lv_at hl 0 rfl) ?_
  refine lv_iload hx hb dl_658 (lv_at hl 4 rfl) ?_
  refine lv_iconst (v := 1) hx hb dl_660 (by decide) ?_
  refine lv_iadd hx hb dl_661 ?_
  refine va_sld hx hb hX hbl hbA hS (hin 1 (by decide) (by decide)) dl_662 ?_
  refine la_call C0 hK0 (z := 146) (o := 0) (index := 80) (As := [.int (xs (i + 1).toNatClampNeg)]) (rest := []) (by decide) a1 rfl (by decide) rfl (ax_wl_at (k := 3) (j := 222) rfl) (ax_wl_at (k := 3) (j := 223) rfl) (ax_wl_at (k := 3) (j := 224) rfl) (show (parseMethodDescriptor (ax_MT 146).1.desc).map (fun d => d.parameters.length) = some 1 by decide +kernel) (by decide) hW hS rfl hl.1 (Nat.le_of_ble_eq_true rfl) dl_663 hcs (fun H1 locs1 hW1 hS1 hk1 => ?_)
  refine lv_aload_n hx hb dl_666 rfl (lv_at hl 2 rfl) ?_
  refine lv_aload_n hx hb dl_667 rfl (lv_at hl 0 rfl) ?_
  refine lv_iload hx hb dl_668 (lv_at hl 4 rfl) ?_
  refine lv_iconst (v := 1) hx hb dl_670 (by decide) ?_
  refine lv_iadd hx hb dl_671 ?_
  refine va_sld hx hb hX hbl hbA hS1 (hin 1 (by decide) (by decide)) dl_672 ?_
  refine la_call C0 hK0 (z := 83) (o := 207) (index := 83) (As := [.int (xs (i + 1).toNatClampNeg)]) (rest := [.int r]) (by decide) a2 rfl (by decide) rfl (ax_wl_at (k := 7) (j := 64) rfl) (ax_wl_at (k := 7) (j := 65) rfl) (ax_wl_at (k := 7) (j := 66) rfl) (show (parseMethodDescriptor (ax_MT 83).1.desc).map (fun d => d.parameters.length) = some 1 by decide +kernel) (by decide) hW1 hS1 rfl hl.1 (Nat.le_of_ble_eq_true rfl) dl_673 hcs (fun H2 locs2 hW2 hS2 hk2 => ?_)
  refine lv_icmp_eq (tgt := 1325) hx hb dl_676 (by decide) (fun _ => ?_) (fun hq => absurd rfl hq)
  exact kk μ2 H2 locs2 hI2 hW2 hS2 (by rw [hk2 oa (hO1 hk1) (fun q => q.2 rfl), hk1 oa hO (fun q => q.2 rfl)])
theorem lc_rounds {oa : Nat} (C0 : lw_At p s m meth c b L xs) (hK0 : la_K s oa Dg cA ad adV vF) {i : Int32} (hl : lv_has ls 7 [(0, .ref b), (1, .ref (ad 0)), (2, .ref (ad 207)), (3, .ref oa), (4, .int i)]) (hI : laI μ) (hW : ax_W Dg ax_cl (la_A s oa) cA ad ax_sh ax_NC μ H) (hS : va_S (fun q : Nat => s.heap.size ≤ q) s.heap H locs) (hO : oa < H.size) (hin : ∀ j : Int32, 0 ≤ j → j ≤ 5 → vp_in (i + j) L) (hcs : cells ≤ 601024 ∧ slots ≤ 7293034)
    (kk : ∀ (μ' : ax_M) (H1 : Heap) (locs1 : List Loc), laI μ' → ax_W Dg ax_cl (la_A s oa) cA ad ax_sh ax_NC μ' H1 → va_S (fun q : Nat => s.heap.size ≤ q) s.heap H1 locs1 → H1[oa]? = H[oa]? → W p l e room_1 s m #[Value.ref b] below meth c H1 locs1 cells slots Q (F0 m 1325 ls [])) : W p l e room_1 s m #[Value.ref b] below meth c H locs cells slots Q (F0 m 681 ls []) := by
  obtain ⟨r, μ1, μ2, a1, a2, hI2⟩ := LP_rounds hI (xs (i + 1).toNatClampNeg)
  obtain ⟨hx, hb, hr, hml, hown, hts, hX, hbl, hlocks, hgv⟩ := id C0
  have hbA : ¬ (fun q : Nat => s.heap.size ≤ q) b := Nat.not_le.mpr hbl
  have hO1 : ∀ {H1 : Heap}, (∀ q, q < H.size → ¬ la_A s oa q → H1[q]? = H[q]?) → oa < H1.size := fun hk => la_O hk hO
  refine lv_aload_n hx hb dl_681 rfl (lv_at hl 1 rfl) ?_
  refine lv_aload_n hx hb dl_682 rfl (lv_at hl 0 rfl) ?_
  refine lv_iload hx hb dl_683 (lv_at hl 4 rfl) ?_
  refine lv_iconst (v := 1) hx hb dl_685 (by decide) ?_
  refine lv_iadd hx hb dl_686 ?_
  refine va_sld hx hb hX hbl hbA hS (hin 1 (by decide) (by decide)) dl_687 ?_
  refine la_call C0 hK0 (z := 147) (o := 0) (index := 84) (As := [.int (xs (i + 1).toNatClampNeg)]) (rest := []) (by decide) a1 rfl (by decide) rfl (ax_wl_at (k := 4) (j := 56) rfl) (ax_wl_at (k := 4) (j := 57) rfl) (ax_wl_at (k := 4) (j := 58) rfl) (show (parseMethodDescriptor (ax_MT 147).1.desc).map (fun d => d.parameters.length) = some 1 by decide +kernel) (by decide) hW hS rfl hl.1 (Nat.le_of_ble_eq_true rfl) dl_688 hcs (fun H1 locs1 hW1 hS1 hk1 => ?_)
  refine lv_aload_n hx hb dl_691 rfl (lv_at hl 2 rfl) ?_
  refine lv_aload_n hx hb dl_692 rfl (lv_at hl 0 rfl) ?_
  refine lv_iload hx hb dl_693 (lv_at hl 4 rfl) ?_
  refine lv_iconst (v := 1) hx hb dl_695 (by decide) ?_
  refine lv_iadd hx hb dl_696 ?_
  refine va_sld hx hb hX hbl hbA hS1 (hin 1 (by decide) (by decide)) dl_697 ?_
  refine la_call C0 hK0 (z := 84) (o := 207) (index := 87) (As := [.int (xs (i + 1).toNatClampNeg)]) (rest := [.int r]) (by decide) a2 rfl (by decide) rfl (ax_wl_at (k := 7) (j := 124) rfl) (ax_wl_at (k := 7) (j := 125) rfl) (ax_wl_at (k := 7) (j := 126) rfl) (show (parseMethodDescriptor (ax_MT 84).1.desc).map (fun d => d.parameters.length) = some 1 by decide +kernel) (by decide) hW1 hS1 rfl hl.1 (Nat.le_of_ble_eq_true rfl) dl_698 hcs (fun H2 locs2 hW2 hS2 hk2 => ?_)
  refine lv_icmp_eq (tgt := 1325) hx hb dl_701 (by decide) (fun _ => ?_) (fun hq => absurd rfl hq)
  exact kk μ2 H2 locs2 hI2 hW2 hS2 (by rw [hk2 oa (hO1 hk1) (fun q => q.2 rfl), hk1 oa hO (fun q => q.2 rfl)])
theorem lc_steps {oa : Nat} (C0 : lw_At p s m meth c b L xs) (hK0 : la_K s oa Dg cA ad adV vF) {i : Int32} (hl : lv_has ls 7 [(0, .ref b), (1, .ref (ad 0)), (2, .ref (ad 207)), (3, .ref oa), (4, .int i)]) (hI : laI μ) (hW : ax_W Dg ax_cl (la_A s oa) cA ad ax_sh ax_NC μ H) (hS : va_S (fun q : Nat => s.heap.size ≤ q) s.heap H locs) (hO : oa < H.size) (hin : ∀ j : Int32, 0 ≤ j → j ≤ 5 → vp_in (i + j) L) (hcs : cells ≤ 601024 ∧ slots ≤ 7293034)
    (kk : ∀ (μ' : ax_M) (H1 : Heap) (locs1 : List Loc), laI μ' → ax_W Dg ax_cl (la_A s oa) cA ad ax_sh ax_NC μ' H1 → va_S (fun q : Nat => s.heap.size ≤ q) s.heap H1 locs1 → H1[oa]? = H[oa]? → W p l e room_1 s m #[Value.ref b] below meth c H1 locs1 cells slots Q (F0 m 1325 ls [])) : W p l e room_1 s m #[Value.ref b] below meth c H locs cells slots Q (F0 m 706 ls []) := by
  obtain ⟨r, μ1, μ2, a1, a2, hI2⟩ := LP_steps hI (xs (i + 1).toNatClampNeg)
  obtain ⟨hx, hb, hr, hml, hown, hts, hX, hbl, hlocks, hgv⟩ := id C0
  have hbA : ¬ (fun q : Nat => s.heap.size ≤ q) b := Nat.not_le.mpr hbl
  have hO1 : ∀ {H1 : Heap}, (∀ q, q < H.size → ¬ la_A s oa q → H1[q]? = H[q]?) → oa < H1.size := fun hk => la_O hk hO
  refine lv_aload_n hx hb dl_706 rfl (lv_at hl 1 rfl) ?_
  refine lv_aload_n hx hb dl_707 rfl (lv_at hl 0 rfl) ?_
  refine lv_iload hx hb dl_708 (lv_at hl 4 rfl) ?_
  refine lv_iconst (v := 1) hx hb dl_710 (by decide) ?_
  refine lv_iadd hx hb dl_711 ?_
  refine va_sld hx hb hX hbl hbA hS (hin 1 (by decide) (by decide)) dl_712 ?_
  refine la_call C0 hK0 (z := 148) (o := 0) (index := 88) (As := [.int (xs (i + 1).toNatClampNeg)]) (rest := []) (by decide) a1 rfl (by decide) rfl (ax_wl_at (k := 4) (j := 65) rfl) (ax_wl_at (k := 4) (j := 66) rfl) (ax_wl_at (k := 4) (j := 67) rfl) (show (parseMethodDescriptor (ax_MT 148).1.desc).map (fun d => d.parameters.length) = some 1 by decide +kernel) (by decide) hW hS rfl hl.1 (Nat.le_of_ble_eq_true rfl) dl_713 hcs (fun H1 locs1 hW1 hS1 hk1 => ?_)
  refine lv_aload_n hx hb dl_716 rfl (lv_at hl 2 rfl) ?_
  refine lv_aload_n hx hb dl_717 rfl (lv_at hl 0 rfl) ?_
  refine lv_iload hx hb dl_718 (lv_at hl 4 rfl) ?_
  refine lv_iconst (v := 1) hx hb dl_720 (by decide) ?_
  refine lv_iadd hx hb dl_721 ?_
  refine va_sld hx hb hX hbl hbA hS1 (hin 1 (by decide) (by decide)) dl_722 ?_
  refine la_call C0 hK0 (z := 85) (o := 207) (index := 91) (As := [.int (xs (i + 1).toNatClampNeg)]) (rest := [.int r]) (by decide) a2 rfl (by decide) rfl (ax_wl_at (k := 7) (j := 148) rfl) (ax_wl_at (k := 7) (j := 149) rfl) (ax_wl_at (k := 7) (j := 150) rfl) (show (parseMethodDescriptor (ax_MT 85).1.desc).map (fun d => d.parameters.length) = some 1 by decide +kernel) (by decide) hW1 hS1 rfl hl.1 (Nat.le_of_ble_eq_true rfl) dl_723 hcs (fun H2 locs2 hW2 hS2 hk2 => ?_)
  refine lv_icmp_eq (tgt := 1325) hx hb dl_726 (by decide) (fun _ => ?_) (fun hq => absurd rfl hq)
  exact kk μ2 H2 locs2 hI2 hW2 hS2 (by rw [hk2 oa (hO1 hk1) (fun q => q.2 rfl), hk1 oa hO (fun q => q.2 rfl)])
theorem lc_choice {oa : Nat} (C0 : lw_At p s m meth c b L xs) (hK0 : la_K s oa Dg cA ad adV vF) {i : Int32} (hl : lv_has ls 7 [(0, .ref b), (1, .ref (ad 0)), (2, .ref (ad 207)), (3, .ref oa), (4, .int i)]) (hI : laI μ) (hW : ax_W Dg ax_cl (la_A s oa) cA ad ax_sh ax_NC μ H) (hS : va_S (fun q : Nat => s.heap.size ≤ q) s.heap H locs) (hO : oa < H.size) (hin : ∀ j : Int32, 0 ≤ j → j ≤ 5 → vp_in (i + j) L) (hcs : cells ≤ 601024 ∧ slots ≤ 7293034)
    (kk : ∀ (μ' : ax_M) (H1 : Heap) (locs1 : List Loc), laI μ' → ax_W Dg ax_cl (la_A s oa) cA ad ax_sh ax_NC μ' H1 → va_S (fun q : Nat => s.heap.size ≤ q) s.heap H1 locs1 → H1[oa]? = H[oa]? → W p l e room_1 s m #[Value.ref b] below meth c H1 locs1 cells slots Q (F0 m 1325 ls [])) : W p l e room_1 s m #[Value.ref b] below meth c H locs cells slots Q (F0 m 731 ls []) := by
  obtain ⟨r, μ1, μ2, a1, a2, hI2⟩ := LP_choice hI
  obtain ⟨hx, hb, hr, hml, hown, hts, hX, hbl, hlocks, hgv⟩ := id C0
  have hbA : ¬ (fun q : Nat => s.heap.size ≤ q) b := Nat.not_le.mpr hbl
  have hO1 : ∀ {H1 : Heap}, (∀ q, q < H.size → ¬ la_A s oa q → H1[q]? = H[q]?) → oa < H1.size := fun hk => la_O hk hO
  refine lv_aload_n hx hb dl_731 rfl (lv_at hl 1 rfl) ?_
  refine la_call C0 hK0 (z := 149) (o := 0) (index := 92) (As := []) (rest := []) (by decide) a1 rfl (by decide) rfl (ax_wl_at (k := 4) (j := 100) rfl) (ax_wl_at (k := 4) (j := 101) rfl) (ax_wl_at (k := 4) (j := 102) rfl) (show (parseMethodDescriptor (ax_MT 149).1.desc).map (fun d => d.parameters.length) = some 0 by decide +kernel) (by decide) hW hS rfl hl.1 (Nat.le_of_ble_eq_true rfl) dl_732 hcs (fun H1 locs1 hW1 hS1 hk1 => ?_)
  refine lv_aload_n hx hb dl_735 rfl (lv_at hl 2 rfl) ?_
  refine la_call C0 hK0 (z := 86) (o := 207) (index := 95) (As := []) (rest := [.int r]) (by decide) a2 rfl (by decide) rfl (ax_wl_at (k := 7) (j := 176) rfl) (ax_wl_at (k := 7) (j := 177) rfl) (ax_wl_at (k := 7) (j := 178) rfl) (show (parseMethodDescriptor (ax_MT 86).1.desc).map (fun d => d.parameters.length) = some 0 by decide +kernel) (by decide) hW1 hS1 rfl hl.1 (Nat.le_of_ble_eq_true rfl) dl_736 hcs (fun H2 locs2 hW2 hS2 hk2 => ?_)
  refine lv_icmp_eq (tgt := 1325) hx hb dl_739 (by decide) (fun _ => ?_) (fun hq => absurd rfl hq)
  exact kk μ2 H2 locs2 hI2 hW2 hS2 (by rw [hk2 oa (hO1 hk1) (fun q => q.2 rfl), hk1 oa hO (fun q => q.2 rfl)])
theorem lc_weigh {oa : Nat} (C0 : lw_At p s m meth c b L xs) (hK0 : la_K s oa Dg cA ad adV vF) {i : Int32} (hl : lv_has ls 7 [(0, .ref b), (1, .ref (ad 0)), (2, .ref (ad 207)), (3, .ref oa), (4, .int i)]) (hI : laI μ) (hW : ax_W Dg ax_cl (la_A s oa) cA ad ax_sh ax_NC μ H) (hS : va_S (fun q : Nat => s.heap.size ≤ q) s.heap H locs) (hO : oa < H.size) (hin : ∀ j : Int32, 0 ≤ j → j ≤ 5 → vp_in (i + j) L) (hcs : cells ≤ 601024 ∧ slots ≤ 7293034)
    (kk : ∀ (μ' : ax_M) (H1 : Heap) (locs1 : List Loc), laI μ' → ax_W Dg ax_cl (la_A s oa) cA ad ax_sh ax_NC μ' H1 → va_S (fun q : Nat => s.heap.size ≤ q) s.heap H1 locs1 → H1[oa]? = H[oa]? → W p l e room_1 s m #[Value.ref b] below meth c H1 locs1 cells slots Q (F0 m 1325 ls [])) : W p l e room_1 s m #[Value.ref b] below meth c H locs cells slots Q (F0 m 744 ls []) := by
  obtain ⟨r, μ1, μ2, a1, a2, hI2⟩ := LP_weigh hI (xs (i + 1).toNatClampNeg) (xs (i + 2).toNatClampNeg)
  obtain ⟨hx, hb, hr, hml, hown, hts, hX, hbl, hlocks, hgv⟩ := id C0
  have hbA : ¬ (fun q : Nat => s.heap.size ≤ q) b := Nat.not_le.mpr hbl
  have hO1 : ∀ {H1 : Heap}, (∀ q, q < H.size → ¬ la_A s oa q → H1[q]? = H[q]?) → oa < H1.size := fun hk => la_O hk hO
  refine lv_aload_n hx hb dl_744 rfl (lv_at hl 1 rfl) ?_
  refine lv_aload_n hx hb dl_745 rfl (lv_at hl 0 rfl) ?_
  refine lv_iload hx hb dl_746 (lv_at hl 4 rfl) ?_
  refine lv_iconst (v := 1) hx hb dl_748 (by decide) ?_
  refine lv_iadd hx hb dl_749 ?_
  refine va_sld hx hb hX hbl hbA hS (hin 1 (by decide) (by decide)) dl_750 ?_
  refine lv_aload_n hx hb dl_751 rfl (lv_at hl 0 rfl) ?_
  refine lv_iload hx hb dl_752 (lv_at hl 4 rfl) ?_
  refine lv_iconst (v := 2) hx hb dl_754 (by decide) ?_
  refine lv_iadd hx hb dl_755 ?_
  refine va_sld hx hb hX hbl hbA hS (hin 2 (by decide) (by decide)) dl_756 ?_
  refine la_call C0 hK0 (z := 150) (o := 0) (index := 96) (As := [.int (xs (i + 1).toNatClampNeg), .int (xs (i + 2).toNatClampNeg)]) (rest := []) (by decide) a1 rfl (by decide) rfl (ax_wl_at (k := 4) (j := 104) rfl) (ax_wl_at (k := 4) (j := 105) rfl) (ax_wl_at (k := 4) (j := 106) rfl) (show (parseMethodDescriptor (ax_MT 150).1.desc).map (fun d => d.parameters.length) = some 2 by decide +kernel) (by decide) hW hS rfl hl.1 (Nat.le_of_ble_eq_true rfl) dl_757 hcs (fun H1 locs1 hW1 hS1 hk1 => ?_)
  refine lv_aload_n hx hb dl_760 rfl (lv_at hl 2 rfl) ?_
  refine lv_aload_n hx hb dl_761 rfl (lv_at hl 0 rfl) ?_
  refine lv_iload hx hb dl_762 (lv_at hl 4 rfl) ?_
  refine lv_iconst (v := 1) hx hb dl_764 (by decide) ?_
  refine lv_iadd hx hb dl_765 ?_
  refine va_sld hx hb hX hbl hbA hS1 (hin 1 (by decide) (by decide)) dl_766 ?_
  refine lv_aload_n hx hb dl_767 rfl (lv_at hl 0 rfl) ?_
  refine lv_iload hx hb dl_768 (lv_at hl 4 rfl) ?_
  refine lv_iconst (v := 2) hx hb dl_770 (by decide) ?_
  refine lv_iadd hx hb dl_771 ?_
  refine va_sld hx hb hX hbl hbA hS1 (hin 2 (by decide) (by decide)) dl_772 ?_
  refine la_call C0 hK0 (z := 88) (o := 207) (index := 99) (As := [.int (xs (i + 1).toNatClampNeg), .int (xs (i + 2).toNatClampNeg)]) (rest := [.int r]) (by decide) a2 rfl (by decide) rfl (ax_wl_at (k := 7) (j := 180) rfl) (ax_wl_at (k := 7) (j := 181) rfl) (ax_wl_at (k := 7) (j := 182) rfl) (show (parseMethodDescriptor (ax_MT 88).1.desc).map (fun d => d.parameters.length) = some 2 by decide +kernel) (by decide) hW1 hS1 rfl hl.1 (Nat.le_of_ble_eq_true rfl) dl_773 hcs (fun H2 locs2 hW2 hS2 hk2 => ?_)
  refine lv_icmp_eq (tgt := 1325) hx hb dl_776 (by decide) (fun _ => ?_) (fun hq => absurd rfl hq)
  exact kk μ2 H2 locs2 hI2 hW2 hS2 (by rw [hk2 oa (hO1 hk1) (fun q => q.2 rfl), hk1 oa hO (fun q => q.2 rfl)])
theorem lc_again {oa : Nat} (C0 : lw_At p s m meth c b L xs) (hK0 : la_K s oa Dg cA ad adV vF) {i : Int32} (hl : lv_has ls 7 [(0, .ref b), (1, .ref (ad 0)), (2, .ref (ad 207)), (3, .ref oa), (4, .int i)]) (hI : laI μ) (hW : ax_W Dg ax_cl (la_A s oa) cA ad ax_sh ax_NC μ H) (hS : va_S (fun q : Nat => s.heap.size ≤ q) s.heap H locs) (hO : oa < H.size) (hin : ∀ j : Int32, 0 ≤ j → j ≤ 5 → vp_in (i + j) L) (hcs : cells ≤ 601024 ∧ slots ≤ 7293034)
    (kk : ∀ (μ' : ax_M) (H1 : Heap) (locs1 : List Loc), laI μ' → ax_W Dg ax_cl (la_A s oa) cA ad ax_sh ax_NC μ' H1 → va_S (fun q : Nat => s.heap.size ≤ q) s.heap H1 locs1 → H1[oa]? = H[oa]? → W p l e room_1 s m #[Value.ref b] below meth c H1 locs1 cells slots Q (F0 m 1325 ls [])) : W p l e room_1 s m #[Value.ref b] below meth c H locs cells slots Q (F0 m 781 ls []) := by
  obtain ⟨r, μ1, μ2, a1, a2, hI2⟩ := LP_again hI
  obtain ⟨hx, hb, hr, hml, hown, hts, hX, hbl, hlocks, hgv⟩ := id C0
  have hbA : ¬ (fun q : Nat => s.heap.size ≤ q) b := Nat.not_le.mpr hbl
  have hO1 : ∀ {H1 : Heap}, (∀ q, q < H.size → ¬ la_A s oa q → H1[q]? = H[q]?) → oa < H1.size := fun hk => la_O hk hO
  refine lv_aload_n hx hb dl_781 rfl (lv_at hl 1 rfl) ?_
  refine la_call C0 hK0 (z := 151) (o := 0) (index := 100) (As := []) (rest := []) (by decide) a1 rfl (by decide) rfl (ax_wl_at (k := 4) (j := 118) rfl) (ax_wl_at (k := 4) (j := 119) rfl) (ax_wl_at (k := 4) (j := 120) rfl) (show (parseMethodDescriptor (ax_MT 151).1.desc).map (fun d => d.parameters.length) = some 0 by decide +kernel) (by decide) hW hS rfl hl.1 (Nat.le_of_ble_eq_true rfl) dl_782 hcs (fun H1 locs1 hW1 hS1 hk1 => ?_)
  refine lv_aload_n hx hb dl_785 rfl (lv_at hl 2 rfl) ?_
  refine la_call C0 hK0 (z := 89) (o := 207) (index := 103) (As := []) (rest := [.int r]) (by decide) a2 rfl (by decide) rfl (ax_wl_at (k := 7) (j := 188) rfl) (ax_wl_at (k := 7) (j := 189) rfl) (ax_wl_at (k := 7) (j := 190) rfl) (show (parseMethodDescriptor (ax_MT 89).1.desc).map (fun d => d.parameters.length) = some 0 by decide +kernel) (by decide) hW1 hS1 rfl hl.1 (Nat.le_of_ble_eq_true rfl) dl_786 hcs (fun H2 locs2 hW2 hS2 hk2 => ?_)
  refine lv_icmp_eq (tgt := 1325) hx hb dl_789 (by decide) (fun _ => ?_) (fun hq => absurd rfl hq)
  exact kk μ2 H2 locs2 hI2 hW2 hS2 (by rw [hk2 oa (hO1 hk1) (fun q => q.2 rfl), hk1 oa hO (fun q => q.2 rfl)])
theorem lc_undo {oa : Nat} (C0 : lw_At p s m meth c b L xs) (hK0 : la_K s oa Dg cA ad adV vF) {i : Int32} (hl : lv_has ls 7 [(0, .ref b), (1, .ref (ad 0)), (2, .ref (ad 207)), (3, .ref oa), (4, .int i)]) (hI : laI μ) (hW : ax_W Dg ax_cl (la_A s oa) cA ad ax_sh ax_NC μ H) (hS : va_S (fun q : Nat => s.heap.size ≤ q) s.heap H locs) (hO : oa < H.size) (hin : ∀ j : Int32, 0 ≤ j → j ≤ 5 → vp_in (i + j) L) (hcs : cells ≤ 601024 ∧ slots ≤ 7293034)
    (kk : ∀ (μ' : ax_M) (H1 : Heap) (locs1 : List Loc), laI μ' → ax_W Dg ax_cl (la_A s oa) cA ad ax_sh ax_NC μ' H1 → va_S (fun q : Nat => s.heap.size ≤ q) s.heap H1 locs1 → H1[oa]? = H[oa]? → W p l e room_1 s m #[Value.ref b] below meth c H1 locs1 cells slots Q (F0 m 1325 ls [])) : W p l e room_1 s m #[Value.ref b] below meth c H locs cells slots Q (F0 m 794 ls []) := by
  obtain ⟨r, μ1, μ2, a1, a2, hI2⟩ := LP_undo hI
  obtain ⟨hx, hb, hr, hml, hown, hts, hX, hbl, hlocks, hgv⟩ := id C0
  have hbA : ¬ (fun q : Nat => s.heap.size ≤ q) b := Nat.not_le.mpr hbl
  have hO1 : ∀ {H1 : Heap}, (∀ q, q < H.size → ¬ la_A s oa q → H1[q]? = H[q]?) → oa < H1.size := fun hk => la_O hk hO
  refine lv_aload_n hx hb dl_794 rfl (lv_at hl 1 rfl) ?_
  refine la_call C0 hK0 (z := 152) (o := 0) (index := 104) (As := []) (rest := []) (by decide) a1 rfl (by decide) rfl (ax_wl_at (k := 4) (j := 123) rfl) (ax_wl_at (k := 4) (j := 124) rfl) (ax_wl_at (k := 4) (j := 125) rfl) (show (parseMethodDescriptor (ax_MT 152).1.desc).map (fun d => d.parameters.length) = some 0 by decide +kernel) (by decide) hW hS rfl hl.1 (Nat.le_of_ble_eq_true rfl) dl_795 hcs (fun H1 locs1 hW1 hS1 hk1 => ?_)
  refine lv_aload_n hx hb dl_798 rfl (lv_at hl 2 rfl) ?_
  refine la_call C0 hK0 (z := 90) (o := 207) (index := 107) (As := []) (rest := [.int r]) (by decide) a2 rfl (by decide) rfl (ax_wl_at (k := 7) (j := 192) rfl) (ax_wl_at (k := 7) (j := 193) rfl) (ax_wl_at (k := 7) (j := 194) rfl) (show (parseMethodDescriptor (ax_MT 90).1.desc).map (fun d => d.parameters.length) = some 0 by decide +kernel) (by decide) hW1 hS1 rfl hl.1 (Nat.le_of_ble_eq_true rfl) dl_799 hcs (fun H2 locs2 hW2 hS2 hk2 => ?_)
  refine lv_icmp_eq (tgt := 1325) hx hb dl_802 (by decide) (fun _ => ?_) (fun hq => absurd rfl hq)
  exact kk μ2 H2 locs2 hI2 hW2 hS2 (by rw [hk2 oa (hO1 hk1) (fun q => q.2 rfl), hk1 oa hO (fun q => q.2 rfl)])
theorem lc_now {oa : Nat} (C0 : lw_At p s m meth c b L xs) (hK0 : la_K s oa Dg cA ad adV vF) {i : Int32} (hl : lv_has ls 7 [(0, .ref b), (1, .ref (ad 0)), (2, .ref (ad 207)), (3, .ref oa), (4, .int i)]) (hI : laI μ) (hW : ax_W Dg ax_cl (la_A s oa) cA ad ax_sh ax_NC μ H) (hS : va_S (fun q : Nat => s.heap.size ≤ q) s.heap H locs) (hO : oa < H.size) (hin : ∀ j : Int32, 0 ≤ j → j ≤ 5 → vp_in (i + j) L) (hcs : cells ≤ 601024 ∧ slots ≤ 7293034)
    (kk : ∀ (μ' : ax_M) (H1 : Heap) (locs1 : List Loc), laI μ' → ax_W Dg ax_cl (la_A s oa) cA ad ax_sh ax_NC μ' H1 → va_S (fun q : Nat => s.heap.size ≤ q) s.heap H1 locs1 → H1[oa]? = H[oa]? → W p l e room_1 s m #[Value.ref b] below meth c H1 locs1 cells slots Q (F0 m 1325 ls [])) : W p l e room_1 s m #[Value.ref b] below meth c H locs cells slots Q (F0 m 807 ls []) := by
  obtain ⟨r, μ1, μ2, a1, a2, hI2⟩ := LP_now hI (xs (i + 1).toNatClampNeg)
  obtain ⟨hx, hb, hr, hml, hown, hts, hX, hbl, hlocks, hgv⟩ := id C0
  have hbA : ¬ (fun q : Nat => s.heap.size ≤ q) b := Nat.not_le.mpr hbl
  have hO1 : ∀ {H1 : Heap}, (∀ q, q < H.size → ¬ la_A s oa q → H1[q]? = H[q]?) → oa < H1.size := fun hk => la_O hk hO
  refine lv_aload_n hx hb dl_807 rfl (lv_at hl 1 rfl) ?_
  refine lv_aload_n hx hb dl_808 rfl (lv_at hl 0 rfl) ?_
  refine lv_iload hx hb dl_809 (lv_at hl 4 rfl) ?_
  refine lv_iconst (v := 1) hx hb dl_811 (by decide) ?_
  refine lv_iadd hx hb dl_812 ?_
  refine va_sld hx hb hX hbl hbA hS (hin 1 (by decide) (by decide)) dl_813 ?_
  refine la_call C0 hK0 (z := 153) (o := 0) (index := 108) (As := [.int (xs (i + 1).toNatClampNeg)]) (rest := []) (by decide) a1 rfl (by decide) rfl (ax_wl_at (k := 4) (j := 127) rfl) (ax_wl_at (k := 4) (j := 128) rfl) (ax_wl_at (k := 4) (j := 129) rfl) (show (parseMethodDescriptor (ax_MT 153).1.desc).map (fun d => d.parameters.length) = some 1 by decide +kernel) (by decide) hW hS rfl hl.1 (Nat.le_of_ble_eq_true rfl) dl_814 hcs (fun H1 locs1 hW1 hS1 hk1 => ?_)
  refine lv_aload_n hx hb dl_817 rfl (lv_at hl 2 rfl) ?_
  refine lv_aload_n hx hb dl_818 rfl (lv_at hl 0 rfl) ?_
  refine lv_iload hx hb dl_819 (lv_at hl 4 rfl) ?_
  refine lv_iconst (v := 1) hx hb dl_821 (by decide) ?_
  refine lv_iadd hx hb dl_822 ?_
  refine va_sld hx hb hX hbl hbA hS1 (hin 1 (by decide) (by decide)) dl_823 ?_
  refine la_call C0 hK0 (z := 91) (o := 207) (index := 111) (As := [.int (xs (i + 1).toNatClampNeg)]) (rest := [.int r]) (by decide) a2 rfl (by decide) rfl (ax_wl_at (k := 7) (j := 196) rfl) (ax_wl_at (k := 7) (j := 197) rfl) (ax_wl_at (k := 7) (j := 198) rfl) (show (parseMethodDescriptor (ax_MT 91).1.desc).map (fun d => d.parameters.length) = some 1 by decide +kernel) (by decide) hW1 hS1 rfl hl.1 (Nat.le_of_ble_eq_true rfl) dl_824 hcs (fun H2 locs2 hW2 hS2 hk2 => ?_)
  refine lv_icmp_eq (tgt := 1325) hx hb dl_827 (by decide) (fun _ => ?_) (fun hq => absurd rfl hq)
  exact kk μ2 H2 locs2 hI2 hW2 hS2 (by rw [hk2 oa (hO1 hk1) (fun q => q.2 rfl), hk1 oa hO (fun q => q.2 rfl)])
theorem lc_sent {oa : Nat} (C0 : lw_At p s m meth c b L xs) (hK0 : la_K s oa Dg cA ad adV vF) {i : Int32} (hl : lv_has ls 7 [(0, .ref b), (1, .ref (ad 0)), (2, .ref (ad 207)), (3, .ref oa), (4, .int i)]) (hI : laI μ) (hW : ax_W Dg ax_cl (la_A s oa) cA ad ax_sh ax_NC μ H) (hS : va_S (fun q : Nat => s.heap.size ≤ q) s.heap H locs) (hO : oa < H.size) (hin : ∀ j : Int32, 0 ≤ j → j ≤ 5 → vp_in (i + j) L) (hcs : cells ≤ 601024 ∧ slots ≤ 7293034)
    (kk : ∀ (μ' : ax_M) (H1 : Heap) (locs1 : List Loc), laI μ' → ax_W Dg ax_cl (la_A s oa) cA ad ax_sh ax_NC μ' H1 → va_S (fun q : Nat => s.heap.size ≤ q) s.heap H1 locs1 → H1[oa]? = H[oa]? → W p l e room_1 s m #[Value.ref b] below meth c H1 locs1 cells slots Q (F0 m 1325 ls [])) : W p l e room_1 s m #[Value.ref b] below meth c H locs cells slots Q (F0 m 832 ls []) := by
  obtain ⟨r, μ1, μ2, a1, a2, hI2⟩ := LP_sent hI (xs (i + 1).toNatClampNeg)
  obtain ⟨hx, hb, hr, hml, hown, hts, hX, hbl, hlocks, hgv⟩ := id C0
  have hbA : ¬ (fun q : Nat => s.heap.size ≤ q) b := Nat.not_le.mpr hbl
  have hO1 : ∀ {H1 : Heap}, (∀ q, q < H.size → ¬ la_A s oa q → H1[q]? = H[q]?) → oa < H1.size := fun hk => la_O hk hO
  refine lv_aload_n hx hb dl_832 rfl (lv_at hl 1 rfl) ?_
  refine lv_aload_n hx hb dl_833 rfl (lv_at hl 0 rfl) ?_
  refine lv_iload hx hb dl_834 (lv_at hl 4 rfl) ?_
  refine lv_iconst (v := 1) hx hb dl_836 (by decide) ?_
  refine lv_iadd hx hb dl_837 ?_
  refine va_sld hx hb hX hbl hbA hS (hin 1 (by decide) (by decide)) dl_838 ?_
  refine la_call C0 hK0 (z := 154) (o := 0) (index := 112) (As := [.int (xs (i + 1).toNatClampNeg)]) (rest := []) (by decide) a1 rfl (by decide) rfl (ax_wl_at (k := 4) (j := 170) rfl) (ax_wl_at (k := 4) (j := 171) rfl) (ax_wl_at (k := 4) (j := 172) rfl) (show (parseMethodDescriptor (ax_MT 154).1.desc).map (fun d => d.parameters.length) = some 1 by decide +kernel) (by decide) hW hS rfl hl.1 (Nat.le_of_ble_eq_true rfl) dl_839 hcs (fun H1 locs1 hW1 hS1 hk1 => ?_)
  refine lv_aload_n hx hb dl_842 rfl (lv_at hl 2 rfl) ?_
  refine lv_aload_n hx hb dl_843 rfl (lv_at hl 0 rfl) ?_
  refine lv_iload hx hb dl_844 (lv_at hl 4 rfl) ?_
  refine lv_iconst (v := 1) hx hb dl_846 (by decide) ?_
  refine lv_iadd hx hb dl_847 ?_
  refine va_sld hx hb hX hbl hbA hS1 (hin 1 (by decide) (by decide)) dl_848 ?_
  refine la_call C0 hK0 (z := 92) (o := 207) (index := 115) (As := [.int (xs (i + 1).toNatClampNeg)]) (rest := [.int r]) (by decide) a2 rfl (by decide) rfl (ax_wl_at (k := 7) (j := 211) rfl) (ax_wl_at (k := 7) (j := 212) rfl) (ax_wl_at (k := 7) (j := 213) rfl) (show (parseMethodDescriptor (ax_MT 92).1.desc).map (fun d => d.parameters.length) = some 1 by decide +kernel) (by decide) hW1 hS1 rfl hl.1 (Nat.le_of_ble_eq_true rfl) dl_849 hcs (fun H2 locs2 hW2 hS2 hk2 => ?_)
  refine lv_icmp_eq (tgt := 1325) hx hb dl_852 (by decide) (fun _ => ?_) (fun hq => absurd rfl hq)
  exact kk μ2 H2 locs2 hI2 hW2 hS2 (by rw [hk2 oa (hO1 hk1) (fun q => q.2 rfl), hk1 oa hO (fun q => q.2 rfl)])
theorem lc_limit {oa : Nat} (C0 : lw_At p s m meth c b L xs) (hK0 : la_K s oa Dg cA ad adV vF) {i : Int32} (hl : lv_has ls 7 [(0, .ref b), (1, .ref (ad 0)), (2, .ref (ad 207)), (3, .ref oa), (4, .int i)]) (hI : laI μ) (hW : ax_W Dg ax_cl (la_A s oa) cA ad ax_sh ax_NC μ H) (hS : va_S (fun q : Nat => s.heap.size ≤ q) s.heap H locs) (hO : oa < H.size) (hin : ∀ j : Int32, 0 ≤ j → j ≤ 5 → vp_in (i + j) L) (hcs : cells ≤ 601024 ∧ slots ≤ 7293034)
    (kk : ∀ (μ' : ax_M) (H1 : Heap) (locs1 : List Loc), laI μ' → ax_W Dg ax_cl (la_A s oa) cA ad ax_sh ax_NC μ' H1 → va_S (fun q : Nat => s.heap.size ≤ q) s.heap H1 locs1 → H1[oa]? = H[oa]? → W p l e room_1 s m #[Value.ref b] below meth c H1 locs1 cells slots Q (F0 m 1325 ls [])) : W p l e room_1 s m #[Value.ref b] below meth c H locs cells slots Q (F0 m 857 ls []) := by
  obtain ⟨r, μ1, μ2, a1, a2, hI2⟩ := LP_limit hI
  obtain ⟨hx, hb, hr, hml, hown, hts, hX, hbl, hlocks, hgv⟩ := id C0
  have hbA : ¬ (fun q : Nat => s.heap.size ≤ q) b := Nat.not_le.mpr hbl
  have hO1 : ∀ {H1 : Heap}, (∀ q, q < H.size → ¬ la_A s oa q → H1[q]? = H[q]?) → oa < H1.size := fun hk => la_O hk hO
  refine lv_aload_n hx hb dl_857 rfl (lv_at hl 1 rfl) ?_
  refine la_call C0 hK0 (z := 155) (o := 0) (index := 116) (As := []) (rest := []) (by decide) a1 rfl (by decide) rfl (ax_wl_at (k := 4) (j := 174) rfl) (ax_wl_at (k := 4) (j := 175) rfl) (ax_wl_at (k := 4) (j := 176) rfl) (show (parseMethodDescriptor (ax_MT 155).1.desc).map (fun d => d.parameters.length) = some 0 by decide +kernel) (by decide) hW hS rfl hl.1 (Nat.le_of_ble_eq_true rfl) dl_858 hcs (fun H1 locs1 hW1 hS1 hk1 => ?_)
  refine lv_aload_n hx hb dl_861 rfl (lv_at hl 2 rfl) ?_
  refine la_call C0 hK0 (z := 93) (o := 207) (index := 119) (As := []) (rest := [.int r]) (by decide) a2 rfl (by decide) rfl (ax_wl_at (k := 7) (j := 215) rfl) (ax_wl_at (k := 7) (j := 216) rfl) (ax_wl_at (k := 7) (j := 217) rfl) (show (parseMethodDescriptor (ax_MT 93).1.desc).map (fun d => d.parameters.length) = some 0 by decide +kernel) (by decide) hW1 hS1 rfl hl.1 (Nat.le_of_ble_eq_true rfl) dl_862 hcs (fun H2 locs2 hW2 hS2 hk2 => ?_)
  refine lv_icmp_eq (tgt := 1325) hx hb dl_865 (by decide) (fun _ => ?_) (fun hq => absurd rfl hq)
  exact kk μ2 H2 locs2 hI2 hW2 hS2 (by rw [hk2 oa (hO1 hk1) (fun q => q.2 rfl), hk1 oa hO (fun q => q.2 rfl)])
theorem lc_least {oa : Nat} (C0 : lw_At p s m meth c b L xs) (hK0 : la_K s oa Dg cA ad adV vF) {i : Int32} (hl : lv_has ls 7 [(0, .ref b), (1, .ref (ad 0)), (2, .ref (ad 207)), (3, .ref oa), (4, .int i)]) (hI : laI μ) (hW : ax_W Dg ax_cl (la_A s oa) cA ad ax_sh ax_NC μ H) (hS : va_S (fun q : Nat => s.heap.size ≤ q) s.heap H locs) (hO : oa < H.size) (hin : ∀ j : Int32, 0 ≤ j → j ≤ 5 → vp_in (i + j) L) (hcs : cells ≤ 601024 ∧ slots ≤ 7293034)
    (kk : ∀ (μ' : ax_M) (H1 : Heap) (locs1 : List Loc), laI μ' → ax_W Dg ax_cl (la_A s oa) cA ad ax_sh ax_NC μ' H1 → va_S (fun q : Nat => s.heap.size ≤ q) s.heap H1 locs1 → H1[oa]? = H[oa]? → W p l e room_1 s m #[Value.ref b] below meth c H1 locs1 cells slots Q (F0 m 1325 ls [])) : W p l e room_1 s m #[Value.ref b] below meth c H locs cells slots Q (F0 m 938 ls []) := by
  obtain ⟨r, μ1, μ2, a1, a2, hI2⟩ := LP_least hI (xs (i + 1).toNatClampNeg)
  obtain ⟨hx, hb, hr, hml, hown, hts, hX, hbl, hlocks, hgv⟩ := id C0
  have hbA : ¬ (fun q : Nat => s.heap.size ≤ q) b := Nat.not_le.mpr hbl
  have hO1 : ∀ {H1 : Heap}, (∀ q, q < H.size → ¬ la_A s oa q → H1[q]? = H[q]?) → oa < H1.size := fun hk => la_O hk hO
  refine lv_aload_n hx hb dl_938 rfl (lv_at hl 1 rfl) ?_
  refine lv_aload_n hx hb dl_939 rfl (lv_at hl 0 rfl) ?_
  refine lv_iload hx hb dl_940 (lv_at hl 4 rfl) ?_
  refine lv_iconst (v := 1) hx hb dl_942 (by decide) ?_
  refine lv_iadd hx hb dl_943 ?_
  refine va_sld hx hb hX hbl hbA hS (hin 1 (by decide) (by decide)) dl_944 ?_
  refine la_call C0 hK0 (z := 157) (o := 0) (index := 123) (As := [.int (xs (i + 1).toNatClampNeg)]) (rest := []) (by decide) a1 rfl (by decide) rfl (ax_wl_at (k := 4) (j := 178) rfl) (ax_wl_at (k := 4) (j := 179) rfl) (ax_wl_at (k := 4) (j := 180) rfl) (show (parseMethodDescriptor (ax_MT 157).1.desc).map (fun d => d.parameters.length) = some 1 by decide +kernel) (by decide) hW hS rfl hl.1 (Nat.le_of_ble_eq_true rfl) dl_945 hcs (fun H1 locs1 hW1 hS1 hk1 => ?_)
  refine lv_aload_n hx hb dl_948 rfl (lv_at hl 2 rfl) ?_
  refine lv_aload_n hx hb dl_949 rfl (lv_at hl 0 rfl) ?_
  refine lv_iload hx hb dl_950 (lv_at hl 4 rfl) ?_
  refine lv_iconst (v := 1) hx hb dl_952 (by decide) ?_
  refine lv_iadd hx hb dl_953 ?_
  refine va_sld hx hb hX hbl hbA hS1 (hin 1 (by decide) (by decide)) dl_954 ?_
  refine la_call C0 hK0 (z := 103) (o := 207) (index := 126) (As := [.int (xs (i + 1).toNatClampNeg)]) (rest := [.int r]) (by decide) a2 rfl (by decide) rfl (ax_wl_at (k := 7) (j := 223) rfl) (ax_wl_at (k := 7) (j := 224) rfl) (ax_wl_at (k := 7) (j := 225) rfl) (show (parseMethodDescriptor (ax_MT 103).1.desc).map (fun d => d.parameters.length) = some 1 by decide +kernel) (by decide) hW1 hS1 rfl hl.1 (Nat.le_of_ble_eq_true rfl) dl_955 hcs (fun H2 locs2 hW2 hS2 hk2 => ?_)
  refine lv_icmp_eq (tgt := 1325) hx hb dl_958 (by decide) (fun _ => ?_) (fun hq => absurd rfl hq)
  exact kk μ2 H2 locs2 hI2 hW2 hS2 (by rw [hk2 oa (hO1 hk1) (fun q => q.2 rfl), hk1 oa hO (fun q => q.2 rfl)])
theorem lc_heaviest {oa : Nat} (C0 : lw_At p s m meth c b L xs) (hK0 : la_K s oa Dg cA ad adV vF) {i : Int32} (hl : lv_has ls 7 [(0, .ref b), (1, .ref (ad 0)), (2, .ref (ad 207)), (3, .ref oa), (4, .int i)]) (hI : laI μ) (hW : ax_W Dg ax_cl (la_A s oa) cA ad ax_sh ax_NC μ H) (hS : va_S (fun q : Nat => s.heap.size ≤ q) s.heap H locs) (hO : oa < H.size) (hin : ∀ j : Int32, 0 ≤ j → j ≤ 5 → vp_in (i + j) L) (hcs : cells ≤ 601024 ∧ slots ≤ 7293034)
    (kk : ∀ (μ' : ax_M) (H1 : Heap) (locs1 : List Loc), laI μ' → ax_W Dg ax_cl (la_A s oa) cA ad ax_sh ax_NC μ' H1 → va_S (fun q : Nat => s.heap.size ≤ q) s.heap H1 locs1 → H1[oa]? = H[oa]? → W p l e room_1 s m #[Value.ref b] below meth c H1 locs1 cells slots Q (F0 m 1325 ls [])) : W p l e room_1 s m #[Value.ref b] below meth c H locs cells slots Q (F0 m 963 ls []) := by
  obtain ⟨r, μ1, μ2, a1, a2, hI2⟩ := LP_heaviest hI (xs (i + 1).toNatClampNeg) (xs (i + 2).toNatClampNeg)
  obtain ⟨hx, hb, hr, hml, hown, hts, hX, hbl, hlocks, hgv⟩ := id C0
  have hbA : ¬ (fun q : Nat => s.heap.size ≤ q) b := Nat.not_le.mpr hbl
  have hO1 : ∀ {H1 : Heap}, (∀ q, q < H.size → ¬ la_A s oa q → H1[q]? = H[q]?) → oa < H1.size := fun hk => la_O hk hO
  refine lv_aload_n hx hb dl_963 rfl (lv_at hl 1 rfl) ?_
  refine lv_aload_n hx hb dl_964 rfl (lv_at hl 0 rfl) ?_
  refine lv_iload hx hb dl_965 (lv_at hl 4 rfl) ?_
  refine lv_iconst (v := 1) hx hb dl_967 (by decide) ?_
  refine lv_iadd hx hb dl_968 ?_
  refine va_sld hx hb hX hbl hbA hS (hin 1 (by decide) (by decide)) dl_969 ?_
  refine lv_aload_n hx hb dl_970 rfl (lv_at hl 0 rfl) ?_
  refine lv_iload hx hb dl_971 (lv_at hl 4 rfl) ?_
  refine lv_iconst (v := 2) hx hb dl_973 (by decide) ?_
  refine lv_iadd hx hb dl_974 ?_
  refine va_sld hx hb hX hbl hbA hS (hin 2 (by decide) (by decide)) dl_975 ?_
  refine la_call C0 hK0 (z := 158) (o := 0) (index := 127) (As := [.int (xs (i + 1).toNatClampNeg), .int (xs (i + 2).toNatClampNeg)]) (rest := []) (by decide) a1 rfl (by decide) rfl (ax_wl_at (k := 4) (j := 193) rfl) (ax_wl_at (k := 4) (j := 194) rfl) (ax_wl_at (k := 4) (j := 195) rfl) (show (parseMethodDescriptor (ax_MT 158).1.desc).map (fun d => d.parameters.length) = some 2 by decide +kernel) (by decide) hW hS rfl hl.1 (Nat.le_of_ble_eq_true rfl) dl_976 hcs (fun H1 locs1 hW1 hS1 hk1 => ?_)
  refine lv_aload_n hx hb dl_979 rfl (lv_at hl 2 rfl) ?_
  refine lv_aload_n hx hb dl_980 rfl (lv_at hl 0 rfl) ?_
  refine lv_iload hx hb dl_981 (lv_at hl 4 rfl) ?_
  refine lv_iconst (v := 1) hx hb dl_983 (by decide) ?_
  refine lv_iadd hx hb dl_984 ?_
  refine va_sld hx hb hX hbl hbA hS1 (hin 1 (by decide) (by decide)) dl_985 ?_
  refine lv_aload_n hx hb dl_986 rfl (lv_at hl 0 rfl) ?_
  refine lv_iload hx hb dl_987 (lv_at hl 4 rfl) ?_
  refine lv_iconst (v := 2) hx hb dl_989 (by decide) ?_
  refine lv_iadd hx hb dl_990 ?_
  refine va_sld hx hb hX hbl hbA hS1 (hin 2 (by decide) (by decide)) dl_991 ?_
  refine la_call C0 hK0 (z := 104) (o := 207) (index := 130) (As := [.int (xs (i + 1).toNatClampNeg), .int (xs (i + 2).toNatClampNeg)]) (rest := [.int r]) (by decide) a2 rfl (by decide) rfl (ax_wl_at (k := 7) (j := 238) rfl) (ax_wl_at (k := 7) (j := 239) rfl) (ax_wl_at (k := 8) (j := 0) rfl) (show (parseMethodDescriptor (ax_MT 104).1.desc).map (fun d => d.parameters.length) = some 2 by decide +kernel) (by decide) hW1 hS1 rfl hl.1 (Nat.le_of_ble_eq_true rfl) dl_992 hcs (fun H2 locs2 hW2 hS2 hk2 => ?_)
  refine lv_icmp_eq (tgt := 1325) hx hb dl_995 (by decide) (fun _ => ?_) (fun hq => absurd rfl hq)
  exact kk μ2 H2 locs2 hI2 hW2 hS2 (by rw [hk2 oa (hO1 hk1) (fun q => q.2 rfl), hk1 oa hO (fun q => q.2 rfl)])
theorem lc_slack {oa : Nat} (C0 : lw_At p s m meth c b L xs) (hK0 : la_K s oa Dg cA ad adV vF) {i : Int32} (hl : lv_has ls 7 [(0, .ref b), (1, .ref (ad 0)), (2, .ref (ad 207)), (3, .ref oa), (4, .int i)]) (hI : laI μ) (hW : ax_W Dg ax_cl (la_A s oa) cA ad ax_sh ax_NC μ H) (hS : va_S (fun q : Nat => s.heap.size ≤ q) s.heap H locs) (hO : oa < H.size) (hin : ∀ j : Int32, 0 ≤ j → j ≤ 5 → vp_in (i + j) L) (hcs : cells ≤ 601024 ∧ slots ≤ 7293034)
    (kk : ∀ (μ' : ax_M) (H1 : Heap) (locs1 : List Loc), laI μ' → ax_W Dg ax_cl (la_A s oa) cA ad ax_sh ax_NC μ' H1 → va_S (fun q : Nat => s.heap.size ≤ q) s.heap H1 locs1 → H1[oa]? = H[oa]? → W p l e room_1 s m #[Value.ref b] below meth c H1 locs1 cells slots Q (F0 m 1325 ls [])) : W p l e room_1 s m #[Value.ref b] below meth c H locs cells slots Q (F0 m 1000 ls []) := by
  obtain ⟨r, μ1, μ2, a1, a2, hI2⟩ := LP_slack hI (xs (i + 1).toNatClampNeg)
  obtain ⟨hx, hb, hr, hml, hown, hts, hX, hbl, hlocks, hgv⟩ := id C0
  have hbA : ¬ (fun q : Nat => s.heap.size ≤ q) b := Nat.not_le.mpr hbl
  have hO1 : ∀ {H1 : Heap}, (∀ q, q < H.size → ¬ la_A s oa q → H1[q]? = H[q]?) → oa < H1.size := fun hk => la_O hk hO
  refine lv_aload_n hx hb dl_1000 rfl (lv_at hl 1 rfl) ?_
  refine lv_aload_n hx hb dl_1001 rfl (lv_at hl 0 rfl) ?_
  refine lv_iload hx hb dl_1002 (lv_at hl 4 rfl) ?_
  refine lv_iconst (v := 1) hx hb dl_1004 (by decide) ?_
  refine lv_iadd hx hb dl_1005 ?_
  refine va_sld hx hb hX hbl hbA hS (hin 1 (by decide) (by decide)) dl_1006 ?_
  refine la_call C0 hK0 (z := 159) (o := 0) (index := 131) (As := [.int (xs (i + 1).toNatClampNeg)]) (rest := []) (by decide) a1 rfl (by decide) rfl (ax_wl_at (k := 4) (j := 201) rfl) (ax_wl_at (k := 4) (j := 202) rfl) (ax_wl_at (k := 4) (j := 203) rfl) (show (parseMethodDescriptor (ax_MT 159).1.desc).map (fun d => d.parameters.length) = some 1 by decide +kernel) (by decide) hW hS rfl hl.1 (Nat.le_of_ble_eq_true rfl) dl_1007 hcs (fun H1 locs1 hW1 hS1 hk1 => ?_)
  refine lv_aload_n hx hb dl_1010 rfl (lv_at hl 2 rfl) ?_
  refine lv_aload_n hx hb dl_1011 rfl (lv_at hl 0 rfl) ?_
  refine lv_iload hx hb dl_1012 (lv_at hl 4 rfl) ?_
  refine lv_iconst (v := 1) hx hb dl_1014 (by decide) ?_
  refine lv_iadd hx hb dl_1015 ?_
  refine va_sld hx hb hX hbl hbA hS1 (hin 1 (by decide) (by decide)) dl_1016 ?_
  refine la_call C0 hK0 (z := 105) (o := 207) (index := 134) (As := [.int (xs (i + 1).toNatClampNeg)]) (rest := [.int r]) (by decide) a2 rfl (by decide) rfl (ax_wl_at (k := 8) (j := 2) rfl) (ax_wl_at (k := 8) (j := 3) rfl) (ax_wl_at (k := 8) (j := 4) rfl) (show (parseMethodDescriptor (ax_MT 105).1.desc).map (fun d => d.parameters.length) = some 1 by decide +kernel) (by decide) hW1 hS1 rfl hl.1 (Nat.le_of_ble_eq_true rfl) dl_1017 hcs (fun H2 locs2 hW2 hS2 hk2 => ?_)
  refine lv_icmp_eq (tgt := 1325) hx hb dl_1020 (by decide) (fun _ => ?_) (fun hq => absurd rfl hq)
  exact kk μ2 H2 locs2 hI2 hW2 hS2 (by rw [hk2 oa (hO1 hk1) (fun q => q.2 rfl), hk1 oa hO (fun q => q.2 rfl)])
theorem lc_next {oa : Nat} (C0 : lw_At p s m meth c b L xs) (hK0 : la_K s oa Dg cA ad adV vF) {i : Int32} (hl : lv_has ls 7 [(0, .ref b), (1, .ref (ad 0)), (2, .ref (ad 207)), (3, .ref oa), (4, .int i)]) (hI : laI μ) (hW : ax_W Dg ax_cl (la_A s oa) cA ad ax_sh ax_NC μ H) (hS : va_S (fun q : Nat => s.heap.size ≤ q) s.heap H locs) (hO : oa < H.size) (hin : ∀ j : Int32, 0 ≤ j → j ≤ 5 → vp_in (i + j) L) (hcs : cells ≤ 601024 ∧ slots ≤ 7293034)
    (kk : ∀ (μ' : ax_M) (H1 : Heap) (locs1 : List Loc), laI μ' → ax_W Dg ax_cl (la_A s oa) cA ad ax_sh ax_NC μ' H1 → va_S (fun q : Nat => s.heap.size ≤ q) s.heap H1 locs1 → H1[oa]? = H[oa]? → W p l e room_1 s m #[Value.ref b] below meth c H1 locs1 cells slots Q (F0 m 1325 ls [])) : W p l e room_1 s m #[Value.ref b] below meth c H locs cells slots Q (F0 m 1025 ls []) := by
  obtain ⟨r, μ1, μ2, a1, a2, hI2⟩ := LP_next hI
  obtain ⟨hx, hb, hr, hml, hown, hts, hX, hbl, hlocks, hgv⟩ := id C0
  have hbA : ¬ (fun q : Nat => s.heap.size ≤ q) b := Nat.not_le.mpr hbl
  have hO1 : ∀ {H1 : Heap}, (∀ q, q < H.size → ¬ la_A s oa q → H1[q]? = H[q]?) → oa < H1.size := fun hk => la_O hk hO
  refine lv_aload_n hx hb dl_1025 rfl (lv_at hl 1 rfl) ?_
  refine la_call C0 hK0 (z := 160) (o := 0) (index := 135) (As := []) (rest := []) (by decide) a1 rfl (by decide) rfl (ax_wl_at (k := 4) (j := 210) rfl) (ax_wl_at (k := 4) (j := 211) rfl) (ax_wl_at (k := 4) (j := 212) rfl) (show (parseMethodDescriptor (ax_MT 160).1.desc).map (fun d => d.parameters.length) = some 0 by decide +kernel) (by decide) hW hS rfl hl.1 (Nat.le_of_ble_eq_true rfl) dl_1026 hcs (fun H1 locs1 hW1 hS1 hk1 => ?_)
  refine lv_aload_n hx hb dl_1029 rfl (lv_at hl 2 rfl) ?_
  refine la_call C0 hK0 (z := 106) (o := 207) (index := 138) (As := []) (rest := [.int r]) (by decide) a2 rfl (by decide) rfl (ax_wl_at (k := 8) (j := 6) rfl) (ax_wl_at (k := 8) (j := 7) rfl) (ax_wl_at (k := 8) (j := 8) rfl) (show (parseMethodDescriptor (ax_MT 106).1.desc).map (fun d => d.parameters.length) = some 0 by decide +kernel) (by decide) hW1 hS1 rfl hl.1 (Nat.le_of_ble_eq_true rfl) dl_1030 hcs (fun H2 locs2 hW2 hS2 hk2 => ?_)
  refine lv_icmp_eq (tgt := 1325) hx hb dl_1033 (by decide) (fun _ => ?_) (fun hq => absurd rfl hq)
  exact kk μ2 H2 locs2 hI2 hW2 hS2 (by rw [hk2 oa (hO1 hk1) (fun q => q.2 rfl), hk1 oa hO (fun q => q.2 rfl)])
theorem lc_nextBy {oa : Nat} (C0 : lw_At p s m meth c b L xs) (hK0 : la_K s oa Dg cA ad adV vF) {i : Int32} (hl : lv_has ls 7 [(0, .ref b), (1, .ref (ad 0)), (2, .ref (ad 207)), (3, .ref oa), (4, .int i)]) (hI : laI μ) (hW : ax_W Dg ax_cl (la_A s oa) cA ad ax_sh ax_NC μ H) (hS : va_S (fun q : Nat => s.heap.size ≤ q) s.heap H locs) (hO : oa < H.size) (hin : ∀ j : Int32, 0 ≤ j → j ≤ 5 → vp_in (i + j) L) (hcs : cells ≤ 601024 ∧ slots ≤ 7293034)
    (kk : ∀ (μ' : ax_M) (H1 : Heap) (locs1 : List Loc), laI μ' → ax_W Dg ax_cl (la_A s oa) cA ad ax_sh ax_NC μ' H1 → va_S (fun q : Nat => s.heap.size ≤ q) s.heap H1 locs1 → H1[oa]? = H[oa]? → W p l e room_1 s m #[Value.ref b] below meth c H1 locs1 cells slots Q (F0 m 1325 ls [])) : W p l e room_1 s m #[Value.ref b] below meth c H locs cells slots Q (F0 m 1038 ls []) := by
  obtain ⟨r, μ1, μ2, a1, a2, hI2⟩ := LP_nextBy hI (xs (i + 1).toNatClampNeg)
  obtain ⟨hx, hb, hr, hml, hown, hts, hX, hbl, hlocks, hgv⟩ := id C0
  have hbA : ¬ (fun q : Nat => s.heap.size ≤ q) b := Nat.not_le.mpr hbl
  have hO1 : ∀ {H1 : Heap}, (∀ q, q < H.size → ¬ la_A s oa q → H1[q]? = H[q]?) → oa < H1.size := fun hk => la_O hk hO
  refine lv_aload_n hx hb dl_1038 rfl (lv_at hl 1 rfl) ?_
  refine lv_aload_n hx hb dl_1039 rfl (lv_at hl 0 rfl) ?_
  refine lv_iload hx hb dl_1040 (lv_at hl 4 rfl) ?_
  refine lv_iconst (v := 1) hx hb dl_1042 (by decide) ?_
  refine lv_iadd hx hb dl_1043 ?_
  refine va_sld hx hb hX hbl hbA hS (hin 1 (by decide) (by decide)) dl_1044 ?_
  refine la_call C0 hK0 (z := 161) (o := 0) (index := 139) (As := [.int (xs (i + 1).toNatClampNeg)]) (rest := []) (by decide) a1 rfl (by decide) rfl (ax_wl_at (k := 4) (j := 216) rfl) (ax_wl_at (k := 4) (j := 217) rfl) (ax_wl_at (k := 4) (j := 218) rfl) (show (parseMethodDescriptor (ax_MT 161).1.desc).map (fun d => d.parameters.length) = some 1 by decide +kernel) (by decide) hW hS rfl hl.1 (Nat.le_of_ble_eq_true rfl) dl_1045 hcs (fun H1 locs1 hW1 hS1 hk1 => ?_)
  refine lv_aload_n hx hb dl_1048 rfl (lv_at hl 2 rfl) ?_
  refine lv_aload_n hx hb dl_1049 rfl (lv_at hl 0 rfl) ?_
  refine lv_iload hx hb dl_1050 (lv_at hl 4 rfl) ?_
  refine lv_iconst (v := 1) hx hb dl_1052 (by decide) ?_
  refine lv_iadd hx hb dl_1053 ?_
  refine va_sld hx hb hX hbl hbA hS1 (hin 1 (by decide) (by decide)) dl_1054 ?_
  refine la_call C0 hK0 (z := 108) (o := 207) (index := 142) (As := [.int (xs (i + 1).toNatClampNeg)]) (rest := [.int r]) (by decide) a2 rfl (by decide) rfl (ax_wl_at (k := 8) (j := 14) rfl) (ax_wl_at (k := 8) (j := 15) rfl) (ax_wl_at (k := 8) (j := 16) rfl) (show (parseMethodDescriptor (ax_MT 108).1.desc).map (fun d => d.parameters.length) = some 1 by decide +kernel) (by decide) hW1 hS1 rfl hl.1 (Nat.le_of_ble_eq_true rfl) dl_1055 hcs (fun H2 locs2 hW2 hS2 hk2 => ?_)
  refine lv_icmp_eq (tgt := 1325) hx hb dl_1058 (by decide) (fun _ => ?_) (fun hq => absurd rfl hq)
  exact kk μ2 H2 locs2 hI2 hW2 hS2 (by rw [hk2 oa (hO1 hk1) (fun q => q.2 rfl), hk1 oa hO (fun q => q.2 rfl)])
theorem lc_until {oa : Nat} (C0 : lw_At p s m meth c b L xs) (hK0 : la_K s oa Dg cA ad adV vF) {i : Int32} (hl : lv_has ls 7 [(0, .ref b), (1, .ref (ad 0)), (2, .ref (ad 207)), (3, .ref oa), (4, .int i)]) (hI : laI μ) (hW : ax_W Dg ax_cl (la_A s oa) cA ad ax_sh ax_NC μ H) (hS : va_S (fun q : Nat => s.heap.size ≤ q) s.heap H locs) (hO : oa < H.size) (hin : ∀ j : Int32, 0 ≤ j → j ≤ 5 → vp_in (i + j) L) (hcs : cells ≤ 601024 ∧ slots ≤ 7293034)
    (kk : ∀ (μ' : ax_M) (H1 : Heap) (locs1 : List Loc), laI μ' → ax_W Dg ax_cl (la_A s oa) cA ad ax_sh ax_NC μ' H1 → va_S (fun q : Nat => s.heap.size ≤ q) s.heap H1 locs1 → H1[oa]? = H[oa]? → W p l e room_1 s m #[Value.ref b] below meth c H1 locs1 cells slots Q (F0 m 1325 ls [])) : W p l e room_1 s m #[Value.ref b] below meth c H locs cells slots Q (F0 m 1063 ls []) := by
  obtain ⟨r, μ1, μ2, a1, a2, hI2⟩ := LP_until hI
  obtain ⟨hx, hb, hr, hml, hown, hts, hX, hbl, hlocks, hgv⟩ := id C0
  have hbA : ¬ (fun q : Nat => s.heap.size ≤ q) b := Nat.not_le.mpr hbl
  have hO1 : ∀ {H1 : Heap}, (∀ q, q < H.size → ¬ la_A s oa q → H1[q]? = H[q]?) → oa < H1.size := fun hk => la_O hk hO
  refine lv_aload_n hx hb dl_1063 rfl (lv_at hl 1 rfl) ?_
  refine la_call C0 hK0 (z := 162) (o := 0) (index := 143) (As := []) (rest := []) (by decide) a1 rfl (by decide) rfl (ax_wl_at (k := 4) (j := 220) rfl) (ax_wl_at (k := 4) (j := 221) rfl) (ax_wl_at (k := 4) (j := 222) rfl) (show (parseMethodDescriptor (ax_MT 162).1.desc).map (fun d => d.parameters.length) = some 0 by decide +kernel) (by decide) hW hS rfl hl.1 (Nat.le_of_ble_eq_true rfl) dl_1064 hcs (fun H1 locs1 hW1 hS1 hk1 => ?_)
  refine lv_aload_n hx hb dl_1067 rfl (lv_at hl 2 rfl) ?_
  refine la_call C0 hK0 (z := 110) (o := 207) (index := 146) (As := []) (rest := [.int r]) (by decide) a2 rfl (by decide) rfl (ax_wl_at (k := 8) (j := 18) rfl) (ax_wl_at (k := 8) (j := 19) rfl) (ax_wl_at (k := 8) (j := 20) rfl) (show (parseMethodDescriptor (ax_MT 110).1.desc).map (fun d => d.parameters.length) = some 0 by decide +kernel) (by decide) hW1 hS1 rfl hl.1 (Nat.le_of_ble_eq_true rfl) dl_1068 hcs (fun H2 locs2 hW2 hS2 hk2 => ?_)
  refine lv_icmp_eq (tgt := 1325) hx hb dl_1071 (by decide) (fun _ => ?_) (fun hq => absurd rfl hq)
  exact kk μ2 H2 locs2 hI2 hW2 hS2 (by rw [hk2 oa (hO1 hk1) (fun q => q.2 rfl), hk1 oa hO (fun q => q.2 rfl)])
theorem lc_starts {oa : Nat} (C0 : lw_At p s m meth c b L xs) (hK0 : la_K s oa Dg cA ad adV vF) {i : Int32} (hl : lv_has ls 7 [(0, .ref b), (1, .ref (ad 0)), (2, .ref (ad 207)), (3, .ref oa), (4, .int i)]) (hI : laI μ) (hW : ax_W Dg ax_cl (la_A s oa) cA ad ax_sh ax_NC μ H) (hS : va_S (fun q : Nat => s.heap.size ≤ q) s.heap H locs) (hO : oa < H.size) (hin : ∀ j : Int32, 0 ≤ j → j ≤ 5 → vp_in (i + j) L) (hcs : cells ≤ 601024 ∧ slots ≤ 7293034)
    (kk : ∀ (μ' : ax_M) (H1 : Heap) (locs1 : List Loc), laI μ' → ax_W Dg ax_cl (la_A s oa) cA ad ax_sh ax_NC μ' H1 → va_S (fun q : Nat => s.heap.size ≤ q) s.heap H1 locs1 → H1[oa]? = H[oa]? → W p l e room_1 s m #[Value.ref b] below meth c H1 locs1 cells slots Q (F0 m 1325 ls [])) : W p l e room_1 s m #[Value.ref b] below meth c H locs cells slots Q (F0 m 1076 ls []) := by
  obtain ⟨r, μ1, μ2, a1, a2, hI2⟩ := LP_starts hI (xs (i + 1).toNatClampNeg)
  obtain ⟨hx, hb, hr, hml, hown, hts, hX, hbl, hlocks, hgv⟩ := id C0
  have hbA : ¬ (fun q : Nat => s.heap.size ≤ q) b := Nat.not_le.mpr hbl
  have hO1 : ∀ {H1 : Heap}, (∀ q, q < H.size → ¬ la_A s oa q → H1[q]? = H[q]?) → oa < H1.size := fun hk => la_O hk hO
  refine lv_aload_n hx hb dl_1076 rfl (lv_at hl 1 rfl) ?_
  refine lv_aload_n hx hb dl_1077 rfl (lv_at hl 0 rfl) ?_
  refine lv_iload hx hb dl_1078 (lv_at hl 4 rfl) ?_
  refine lv_iconst (v := 1) hx hb dl_1080 (by decide) ?_
  refine lv_iadd hx hb dl_1081 ?_
  refine va_sld hx hb hX hbl hbA hS (hin 1 (by decide) (by decide)) dl_1082 ?_
  refine la_call C0 hK0 (z := 163) (o := 0) (index := 147) (As := [.int (xs (i + 1).toNatClampNeg)]) (rest := []) (by decide) a1 rfl (by decide) rfl (ax_wl_at (k := 4) (j := 224) rfl) (ax_wl_at (k := 4) (j := 225) rfl) (ax_wl_at (k := 4) (j := 226) rfl) (show (parseMethodDescriptor (ax_MT 163).1.desc).map (fun d => d.parameters.length) = some 1 by decide +kernel) (by decide) hW hS rfl hl.1 (Nat.le_of_ble_eq_true rfl) dl_1083 hcs (fun H1 locs1 hW1 hS1 hk1 => ?_)
  refine lv_aload_n hx hb dl_1086 rfl (lv_at hl 2 rfl) ?_
  refine lv_aload_n hx hb dl_1087 rfl (lv_at hl 0 rfl) ?_
  refine lv_iload hx hb dl_1088 (lv_at hl 4 rfl) ?_
  refine lv_iconst (v := 1) hx hb dl_1090 (by decide) ?_
  refine lv_iadd hx hb dl_1091 ?_
  refine va_sld hx hb hX hbl hbA hS1 (hin 1 (by decide) (by decide)) dl_1092 ?_
  refine la_call C0 hK0 (z := 112) (o := 207) (index := 150) (As := [.int (xs (i + 1).toNatClampNeg)]) (rest := [.int r]) (by decide) a2 rfl (by decide) rfl (ax_wl_at (k := 8) (j := 22) rfl) (ax_wl_at (k := 8) (j := 23) rfl) (ax_wl_at (k := 8) (j := 24) rfl) (show (parseMethodDescriptor (ax_MT 112).1.desc).map (fun d => d.parameters.length) = some 1 by decide +kernel) (by decide) hW1 hS1 rfl hl.1 (Nat.le_of_ble_eq_true rfl) dl_1093 hcs (fun H2 locs2 hW2 hS2 hk2 => ?_)
  refine lv_icmp_eq (tgt := 1325) hx hb dl_1096 (by decide) (fun _ => ?_) (fun hq => absurd rfl hq)
  exact kk μ2 H2 locs2 hI2 hW2 hS2 (by rw [hk2 oa (hO1 hk1) (fun q => q.2 rfl), hk1 oa hO (fun q => q.2 rfl)])
theorem lc_starter {oa : Nat} (C0 : lw_At p s m meth c b L xs) (hK0 : la_K s oa Dg cA ad adV vF) {i : Int32} (hl : lv_has ls 7 [(0, .ref b), (1, .ref (ad 0)), (2, .ref (ad 207)), (3, .ref oa), (4, .int i)]) (hI : laI μ) (hW : ax_W Dg ax_cl (la_A s oa) cA ad ax_sh ax_NC μ H) (hS : va_S (fun q : Nat => s.heap.size ≤ q) s.heap H locs) (hO : oa < H.size) (hin : ∀ j : Int32, 0 ≤ j → j ≤ 5 → vp_in (i + j) L) (hcs : cells ≤ 601024 ∧ slots ≤ 7293034)
    (kk : ∀ (μ' : ax_M) (H1 : Heap) (locs1 : List Loc), laI μ' → ax_W Dg ax_cl (la_A s oa) cA ad ax_sh ax_NC μ' H1 → va_S (fun q : Nat => s.heap.size ≤ q) s.heap H1 locs1 → H1[oa]? = H[oa]? → W p l e room_1 s m #[Value.ref b] below meth c H1 locs1 cells slots Q (F0 m 1325 ls [])) : W p l e room_1 s m #[Value.ref b] below meth c H locs cells slots Q (F0 m 1101 ls []) := by
  obtain ⟨r, μ1, μ2, a1, a2, hI2⟩ := LP_starter hI
  obtain ⟨hx, hb, hr, hml, hown, hts, hX, hbl, hlocks, hgv⟩ := id C0
  have hbA : ¬ (fun q : Nat => s.heap.size ≤ q) b := Nat.not_le.mpr hbl
  have hO1 : ∀ {H1 : Heap}, (∀ q, q < H.size → ¬ la_A s oa q → H1[q]? = H[q]?) → oa < H1.size := fun hk => la_O hk hO
  refine lv_aload_n hx hb dl_1101 rfl (lv_at hl 1 rfl) ?_
  refine la_call C0 hK0 (z := 164) (o := 0) (index := 151) (As := []) (rest := []) (by decide) a1 rfl (by decide) rfl (ax_wl_at (k := 4) (j := 232) rfl) (ax_wl_at (k := 4) (j := 233) rfl) (ax_wl_at (k := 4) (j := 234) rfl) (show (parseMethodDescriptor (ax_MT 164).1.desc).map (fun d => d.parameters.length) = some 0 by decide +kernel) (by decide) hW hS rfl hl.1 (Nat.le_of_ble_eq_true rfl) dl_1102 hcs (fun H1 locs1 hW1 hS1 hk1 => ?_)
  refine lv_aload_n hx hb dl_1105 rfl (lv_at hl 2 rfl) ?_
  refine la_call C0 hK0 (z := 113) (o := 207) (index := 154) (As := []) (rest := [.int r]) (by decide) a2 rfl (by decide) rfl (ax_wl_at (k := 8) (j := 34) rfl) (ax_wl_at (k := 8) (j := 35) rfl) (ax_wl_at (k := 8) (j := 36) rfl) (show (parseMethodDescriptor (ax_MT 113).1.desc).map (fun d => d.parameters.length) = some 0 by decide +kernel) (by decide) hW1 hS1 rfl hl.1 (Nat.le_of_ble_eq_true rfl) dl_1106 hcs (fun H2 locs2 hW2 hS2 hk2 => ?_)
  refine lv_icmp_eq (tgt := 1325) hx hb dl_1109 (by decide) (fun _ => ?_) (fun hq => absurd rfl hq)
  exact kk μ2 H2 locs2 hI2 hW2 hS2 (by rw [hk2 oa (hO1 hk1) (fun q => q.2 rfl), hk1 oa hO (fun q => q.2 rfl)])
theorem lc_cores {oa : Nat} (C0 : lw_At p s m meth c b L xs) (hK0 : la_K s oa Dg cA ad adV vF) {i : Int32} (hl : lv_has ls 7 [(0, .ref b), (1, .ref (ad 0)), (2, .ref (ad 207)), (3, .ref oa), (4, .int i)]) (hI : laI μ) (hW : ax_W Dg ax_cl (la_A s oa) cA ad ax_sh ax_NC μ H) (hS : va_S (fun q : Nat => s.heap.size ≤ q) s.heap H locs) (hO : oa < H.size) (hin : ∀ j : Int32, 0 ≤ j → j ≤ 5 → vp_in (i + j) L) (hcs : cells ≤ 601024 ∧ slots ≤ 7293034)
    (kk : ∀ (μ' : ax_M) (H1 : Heap) (locs1 : List Loc), laI μ' → ax_W Dg ax_cl (la_A s oa) cA ad ax_sh ax_NC μ' H1 → va_S (fun q : Nat => s.heap.size ≤ q) s.heap H1 locs1 → H1[oa]? = H[oa]? → W p l e room_1 s m #[Value.ref b] below meth c H1 locs1 cells slots Q (F0 m 1325 ls [])) : W p l e room_1 s m #[Value.ref b] below meth c H locs cells slots Q (F0 m 1114 ls []) := by
  obtain ⟨r, μ1, μ2, a1, a2, hI2⟩ := LP_cores hI (xs (i + 1).toNatClampNeg) (xs (i + 2).toNatClampNeg) (xs (i + 3).toNatClampNeg)
  obtain ⟨hx, hb, hr, hml, hown, hts, hX, hbl, hlocks, hgv⟩ := id C0
  have hbA : ¬ (fun q : Nat => s.heap.size ≤ q) b := Nat.not_le.mpr hbl
  have hO1 : ∀ {H1 : Heap}, (∀ q, q < H.size → ¬ la_A s oa q → H1[q]? = H[q]?) → oa < H1.size := fun hk => la_O hk hO
  refine lv_aload_n hx hb dl_1114 rfl (lv_at hl 1 rfl) ?_
  refine lv_aload_n hx hb dl_1115 rfl (lv_at hl 0 rfl) ?_
  refine lv_iload hx hb dl_1116 (lv_at hl 4 rfl) ?_
  refine lv_iconst (v := 1) hx hb dl_1118 (by decide) ?_
  refine lv_iadd hx hb dl_1119 ?_
  refine va_sld hx hb hX hbl hbA hS (hin 1 (by decide) (by decide)) dl_1120 ?_
  refine lv_aload_n hx hb dl_1121 rfl (lv_at hl 0 rfl) ?_
  refine lv_iload hx hb dl_1122 (lv_at hl 4 rfl) ?_
  refine lv_iconst (v := 2) hx hb dl_1124 (by decide) ?_
  refine lv_iadd hx hb dl_1125 ?_
  refine va_sld hx hb hX hbl hbA hS (hin 2 (by decide) (by decide)) dl_1126 ?_
  refine lv_aload_n hx hb dl_1127 rfl (lv_at hl 0 rfl) ?_
  refine lv_iload hx hb dl_1128 (lv_at hl 4 rfl) ?_
  refine lv_iconst (v := 3) hx hb dl_1130 (by decide) ?_
  refine lv_iadd hx hb dl_1131 ?_
  refine va_sld hx hb hX hbl hbA hS (hin 3 (by decide) (by decide)) dl_1132 ?_
  refine la_call C0 hK0 (z := 165) (o := 0) (index := 155) (As := [.int (xs (i + 1).toNatClampNeg), .int (xs (i + 2).toNatClampNeg), .int (xs (i + 3).toNatClampNeg)]) (rest := []) (by decide) a1 rfl (by decide) rfl (ax_wl_at (k := 4) (j := 236) rfl) (ax_wl_at (k := 4) (j := 237) rfl) (ax_wl_at (k := 4) (j := 238) rfl) (show (parseMethodDescriptor (ax_MT 165).1.desc).map (fun d => d.parameters.length) = some 3 by decide +kernel) (by decide) hW hS rfl hl.1 (Nat.le_of_ble_eq_true rfl) dl_1133 hcs (fun H1 locs1 hW1 hS1 hk1 => ?_)
  refine lv_aload_n hx hb dl_1136 rfl (lv_at hl 2 rfl) ?_
  refine lv_aload_n hx hb dl_1137 rfl (lv_at hl 0 rfl) ?_
  refine lv_iload hx hb dl_1138 (lv_at hl 4 rfl) ?_
  refine lv_iconst (v := 1) hx hb dl_1140 (by decide) ?_
  refine lv_iadd hx hb dl_1141 ?_
  refine va_sld hx hb hX hbl hbA hS1 (hin 1 (by decide) (by decide)) dl_1142 ?_
  refine lv_aload_n hx hb dl_1143 rfl (lv_at hl 0 rfl) ?_
  refine lv_iload hx hb dl_1144 (lv_at hl 4 rfl) ?_
  refine lv_iconst (v := 2) hx hb dl_1146 (by decide) ?_
  refine lv_iadd hx hb dl_1147 ?_
  refine va_sld hx hb hX hbl hbA hS1 (hin 2 (by decide) (by decide)) dl_1148 ?_
  refine lv_aload_n hx hb dl_1149 rfl (lv_at hl 0 rfl) ?_
  refine lv_iload hx hb dl_1150 (lv_at hl 4 rfl) ?_
  refine lv_iconst (v := 3) hx hb dl_1152 (by decide) ?_
  refine lv_iadd hx hb dl_1153 ?_
  refine va_sld hx hb hX hbl hbA hS1 (hin 3 (by decide) (by decide)) dl_1154 ?_
  refine la_call C0 hK0 (z := 117) (o := 207) (index := 158) (As := [.int (xs (i + 1).toNatClampNeg), .int (xs (i + 2).toNatClampNeg), .int (xs (i + 3).toNatClampNeg)]) (rest := [.int r]) (by decide) a2 rfl (by decide) rfl (ax_wl_at (k := 8) (j := 38) rfl) (ax_wl_at (k := 8) (j := 39) rfl) (ax_wl_at (k := 8) (j := 40) rfl) (show (parseMethodDescriptor (ax_MT 117).1.desc).map (fun d => d.parameters.length) = some 3 by decide +kernel) (by decide) hW1 hS1 rfl hl.1 (Nat.le_of_ble_eq_true rfl) dl_1155 hcs (fun H2 locs2 hW2 hS2 hk2 => ?_)
  refine lv_icmp_eq (tgt := 1325) hx hb dl_1158 (by decide) (fun _ => ?_) (fun hq => absurd rfl hq)
  exact kk μ2 H2 locs2 hI2 hW2 hS2 (by rw [hk2 oa (hO1 hk1) (fun q => q.2 rfl), hk1 oa hO (fun q => q.2 rfl)])
theorem lc_drawn {oa : Nat} (C0 : lw_At p s m meth c b L xs) (hK0 : la_K s oa Dg cA ad adV vF) {i : Int32} (hl : lv_has ls 7 [(0, .ref b), (1, .ref (ad 0)), (2, .ref (ad 207)), (3, .ref oa), (4, .int i)]) (hI : laI μ) (hW : ax_W Dg ax_cl (la_A s oa) cA ad ax_sh ax_NC μ H) (hS : va_S (fun q : Nat => s.heap.size ≤ q) s.heap H locs) (hO : oa < H.size) (hin : ∀ j : Int32, 0 ≤ j → j ≤ 5 → vp_in (i + j) L) (hcs : cells ≤ 601024 ∧ slots ≤ 7293034)
    (kk : ∀ (μ' : ax_M) (H1 : Heap) (locs1 : List Loc), laI μ' → ax_W Dg ax_cl (la_A s oa) cA ad ax_sh ax_NC μ' H1 → va_S (fun q : Nat => s.heap.size ≤ q) s.heap H1 locs1 → H1[oa]? = H[oa]? → W p l e room_1 s m #[Value.ref b] below meth c H1 locs1 cells slots Q (F0 m 1325 ls [])) : W p l e room_1 s m #[Value.ref b] below meth c H locs cells slots Q (F0 m 1163 ls []) := by
  obtain ⟨r, μ1, μ2, a1, a2, hI2⟩ := LP_drawn hI (xs (i + 1).toNatClampNeg) (xs (i + 2).toNatClampNeg)
  obtain ⟨hx, hb, hr, hml, hown, hts, hX, hbl, hlocks, hgv⟩ := id C0
  have hbA : ¬ (fun q : Nat => s.heap.size ≤ q) b := Nat.not_le.mpr hbl
  have hO1 : ∀ {H1 : Heap}, (∀ q, q < H.size → ¬ la_A s oa q → H1[q]? = H[q]?) → oa < H1.size := fun hk => la_O hk hO
  refine lv_aload_n hx hb dl_1163 rfl (lv_at hl 1 rfl) ?_
  refine lv_aload_n hx hb dl_1164 rfl (lv_at hl 0 rfl) ?_
  refine lv_iload hx hb dl_1165 (lv_at hl 4 rfl) ?_
  refine lv_iconst (v := 1) hx hb dl_1167 (by decide) ?_
  refine lv_iadd hx hb dl_1168 ?_
  refine va_sld hx hb hX hbl hbA hS (hin 1 (by decide) (by decide)) dl_1169 ?_
  refine lv_aload_n hx hb dl_1170 rfl (lv_at hl 0 rfl) ?_
  refine lv_iload hx hb dl_1171 (lv_at hl 4 rfl) ?_
  refine lv_iconst (v := 2) hx hb dl_1173 (by decide) ?_
  refine lv_iadd hx hb dl_1174 ?_
  refine va_sld hx hb hX hbl hbA hS (hin 2 (by decide) (by decide)) dl_1175 ?_
  refine la_call C0 hK0 (z := 166) (o := 0) (index := 159) (As := [.int (xs (i + 1).toNatClampNeg), .int (xs (i + 2).toNatClampNeg)]) (rest := []) (by decide) a1 rfl (by decide) rfl (ax_wl_at (k := 5) (j := 19) rfl) (ax_wl_at (k := 5) (j := 20) rfl) (ax_wl_at (k := 5) (j := 21) rfl) (show (parseMethodDescriptor (ax_MT 166).1.desc).map (fun d => d.parameters.length) = some 2 by decide +kernel) (by decide) hW hS rfl hl.1 (Nat.le_of_ble_eq_true rfl) dl_1176 hcs (fun H1 locs1 hW1 hS1 hk1 => ?_)
  refine lv_aload_n hx hb dl_1179 rfl (lv_at hl 2 rfl) ?_
  refine lv_aload_n hx hb dl_1180 rfl (lv_at hl 0 rfl) ?_
  refine lv_iload hx hb dl_1181 (lv_at hl 4 rfl) ?_
  refine lv_iconst (v := 1) hx hb dl_1183 (by decide) ?_
  refine lv_iadd hx hb dl_1184 ?_
  refine va_sld hx hb hX hbl hbA hS1 (hin 1 (by decide) (by decide)) dl_1185 ?_
  refine lv_aload_n hx hb dl_1186 rfl (lv_at hl 0 rfl) ?_
  refine lv_iload hx hb dl_1187 (lv_at hl 4 rfl) ?_
  refine lv_iconst (v := 2) hx hb dl_1189 (by decide) ?_
  refine lv_iadd hx hb dl_1190 ?_
  refine va_sld hx hb hX hbl hbA hS1 (hin 2 (by decide) (by decide)) dl_1191 ?_
  refine la_call C0 hK0 (z := 119) (o := 207) (index := 162) (As := [.int (xs (i + 1).toNatClampNeg), .int (xs (i + 2).toNatClampNeg)]) (rest := [.int r]) (by decide) a2 rfl (by decide) rfl (ax_wl_at (k := 8) (j := 55) rfl) (ax_wl_at (k := 8) (j := 56) rfl) (ax_wl_at (k := 8) (j := 57) rfl) (show (parseMethodDescriptor (ax_MT 119).1.desc).map (fun d => d.parameters.length) = some 2 by decide +kernel) (by decide) hW1 hS1 rfl hl.1 (Nat.le_of_ble_eq_true rfl) dl_1192 hcs (fun H2 locs2 hW2 hS2 hk2 => ?_)
  refine lv_icmp_eq (tgt := 1325) hx hb dl_1195 (by decide) (fun _ => ?_) (fun hq => absurd rfl hq)
  exact kk μ2 H2 locs2 hI2 hW2 hS2 (by rw [hk2 oa (hO1 hk1) (fun q => q.2 rfl), hk1 oa hO (fun q => q.2 rfl)])
theorem lc_spell {oa : Nat} (C0 : lw_At p s m meth c b L xs) (hK0 : la_K s oa Dg cA ad adV vF) {i : Int32} (hl : lv_has ls 7 [(0, .ref b), (1, .ref (ad 0)), (2, .ref (ad 207)), (3, .ref oa), (4, .int i)]) (hI : laI μ) (hW : ax_W Dg ax_cl (la_A s oa) cA ad ax_sh ax_NC μ H) (hS : va_S (fun q : Nat => s.heap.size ≤ q) s.heap H locs) (hO : oa < H.size) (hin : ∀ j : Int32, 0 ≤ j → j ≤ 5 → vp_in (i + j) L) (hcs : cells ≤ 601024 ∧ slots ≤ 7293034)
    (kk : ∀ (μ' : ax_M) (H1 : Heap) (locs1 : List Loc), laI μ' → ax_W Dg ax_cl (la_A s oa) cA ad ax_sh ax_NC μ' H1 → va_S (fun q : Nat => s.heap.size ≤ q) s.heap H1 locs1 → H1[oa]? = H[oa]? → W p l e room_1 s m #[Value.ref b] below meth c H1 locs1 cells slots Q (F0 m 1325 ls [])) : W p l e room_1 s m #[Value.ref b] below meth c H locs cells slots Q (F0 m 1200 ls []) := by
  obtain ⟨r, μ1, μ2, a1, a2, hI2⟩ := LP_spell hI (xs (i + 1).toNatClampNeg)
  obtain ⟨hx, hb, hr, hml, hown, hts, hX, hbl, hlocks, hgv⟩ := id C0
  have hbA : ¬ (fun q : Nat => s.heap.size ≤ q) b := Nat.not_le.mpr hbl
  have hO1 : ∀ {H1 : Heap}, (∀ q, q < H.size → ¬ la_A s oa q → H1[q]? = H[q]?) → oa < H1.size := fun hk => la_O hk hO
  refine lv_aload_n hx hb dl_1200 rfl (lv_at hl 1 rfl) ?_
  refine lv_aload_n hx hb dl_1201 rfl (lv_at hl 0 rfl) ?_
  refine lv_iload hx hb dl_1202 (lv_at hl 4 rfl) ?_
  refine lv_iconst (v := 1) hx hb dl_1204 (by decide) ?_
  refine lv_iadd hx hb dl_1205 ?_
  refine va_sld hx hb hX hbl hbA hS (hin 1 (by decide) (by decide)) dl_1206 ?_
  refine la_call C0 hK0 (z := 167) (o := 0) (index := 163) (As := [.int (xs (i + 1).toNatClampNeg)]) (rest := []) (by decide) a1 rfl (by decide) rfl (ax_wl_at (k := 5) (j := 23) rfl) (ax_wl_at (k := 5) (j := 24) rfl) (ax_wl_at (k := 5) (j := 25) rfl) (show (parseMethodDescriptor (ax_MT 167).1.desc).map (fun d => d.parameters.length) = some 1 by decide +kernel) (by decide) hW hS rfl hl.1 (Nat.le_of_ble_eq_true rfl) dl_1207 hcs (fun H1 locs1 hW1 hS1 hk1 => ?_)
  refine lv_aload_n hx hb dl_1210 rfl (lv_at hl 2 rfl) ?_
  refine lv_aload_n hx hb dl_1211 rfl (lv_at hl 0 rfl) ?_
  refine lv_iload hx hb dl_1212 (lv_at hl 4 rfl) ?_
  refine lv_iconst (v := 1) hx hb dl_1214 (by decide) ?_
  refine lv_iadd hx hb dl_1215 ?_
  refine va_sld hx hb hX hbl hbA hS1 (hin 1 (by decide) (by decide)) dl_1216 ?_
  refine la_call C0 hK0 (z := 130) (o := 207) (index := 166) (As := [.int (xs (i + 1).toNatClampNeg)]) (rest := [.int r]) (by decide) a2 rfl (by decide) rfl (ax_wl_at (k := 8) (j := 63) rfl) (ax_wl_at (k := 8) (j := 64) rfl) (ax_wl_at (k := 8) (j := 65) rfl) (show (parseMethodDescriptor (ax_MT 130).1.desc).map (fun d => d.parameters.length) = some 1 by decide +kernel) (by decide) hW1 hS1 rfl hl.1 (Nat.le_of_ble_eq_true rfl) dl_1217 hcs (fun H2 locs2 hW2 hS2 hk2 => ?_)
  refine lv_icmp_eq (tgt := 1325) hx hb dl_1220 (by decide) (fun _ => ?_) (fun hq => absurd rfl hq)
  exact kk μ2 H2 locs2 hI2 hW2 hS2 (by rw [hk2 oa (hO1 hk1) (fun q => q.2 rfl), hk1 oa hO (fun q => q.2 rfl)])
theorem lc_byteAt {oa : Nat} (C0 : lw_At p s m meth c b L xs) (hK0 : la_K s oa Dg cA ad adV vF) {i : Int32} (hl : lv_has ls 7 [(0, .ref b), (1, .ref (ad 0)), (2, .ref (ad 207)), (3, .ref oa), (4, .int i)]) (hI : laI μ) (hW : ax_W Dg ax_cl (la_A s oa) cA ad ax_sh ax_NC μ H) (hS : va_S (fun q : Nat => s.heap.size ≤ q) s.heap H locs) (hO : oa < H.size) (hin : ∀ j : Int32, 0 ≤ j → j ≤ 5 → vp_in (i + j) L) (hcs : cells ≤ 601024 ∧ slots ≤ 7293034)
    (kk : ∀ (μ' : ax_M) (H1 : Heap) (locs1 : List Loc), laI μ' → ax_W Dg ax_cl (la_A s oa) cA ad ax_sh ax_NC μ' H1 → va_S (fun q : Nat => s.heap.size ≤ q) s.heap H1 locs1 → H1[oa]? = H[oa]? → W p l e room_1 s m #[Value.ref b] below meth c H1 locs1 cells slots Q (F0 m 1325 ls [])) : W p l e room_1 s m #[Value.ref b] below meth c H locs cells slots Q (F0 m 1225 ls []) := by
  obtain ⟨r, μ1, μ2, a1, a2, hI2⟩ := LP_byteAt hI (xs (i + 1).toNatClampNeg)
  obtain ⟨hx, hb, hr, hml, hown, hts, hX, hbl, hlocks, hgv⟩ := id C0
  have hbA : ¬ (fun q : Nat => s.heap.size ≤ q) b := Nat.not_le.mpr hbl
  have hO1 : ∀ {H1 : Heap}, (∀ q, q < H.size → ¬ la_A s oa q → H1[q]? = H[q]?) → oa < H1.size := fun hk => la_O hk hO
  refine lv_aload_n hx hb dl_1225 rfl (lv_at hl 1 rfl) ?_
  refine lv_aload_n hx hb dl_1226 rfl (lv_at hl 0 rfl) ?_
  refine lv_iload hx hb dl_1227 (lv_at hl 4 rfl) ?_
  refine lv_iconst (v := 1) hx hb dl_1229 (by decide) ?_
  refine lv_iadd hx hb dl_1230 ?_
  refine va_sld hx hb hX hbl hbA hS (hin 1 (by decide) (by decide)) dl_1231 ?_
  refine la_call C0 hK0 (z := 168) (o := 0) (index := 167) (As := [.int (xs (i + 1).toNatClampNeg)]) (rest := []) (by decide) a1 rfl (by decide) rfl (ax_wl_at (k := 5) (j := 59) rfl) (ax_wl_at (k := 5) (j := 60) rfl) (ax_wl_at (k := 5) (j := 61) rfl) (show (parseMethodDescriptor (ax_MT 168).1.desc).map (fun d => d.parameters.length) = some 1 by decide +kernel) (by decide) hW hS rfl hl.1 (Nat.le_of_ble_eq_true rfl) dl_1232 hcs (fun H1 locs1 hW1 hS1 hk1 => ?_)
  refine lv_aload_n hx hb dl_1235 rfl (lv_at hl 2 rfl) ?_
  refine lv_aload_n hx hb dl_1236 rfl (lv_at hl 0 rfl) ?_
  refine lv_iload hx hb dl_1237 (lv_at hl 4 rfl) ?_
  refine lv_iconst (v := 1) hx hb dl_1239 (by decide) ?_
  refine lv_iadd hx hb dl_1240 ?_
  refine va_sld hx hb hX hbl hbA hS1 (hin 1 (by decide) (by decide)) dl_1241 ?_
  refine la_call C0 hK0 (z := 131) (o := 207) (index := 170) (As := [.int (xs (i + 1).toNatClampNeg)]) (rest := [.int r]) (by decide) a2 rfl (by decide) rfl (ax_wl_at (k := 8) (j := 79) rfl) (ax_wl_at (k := 8) (j := 80) rfl) (ax_wl_at (k := 8) (j := 81) rfl) (show (parseMethodDescriptor (ax_MT 131).1.desc).map (fun d => d.parameters.length) = some 1 by decide +kernel) (by decide) hW1 hS1 rfl hl.1 (Nat.le_of_ble_eq_true rfl) dl_1242 hcs (fun H2 locs2 hW2 hS2 hk2 => ?_)
  refine lv_icmp_eq (tgt := 1325) hx hb dl_1245 (by decide) (fun _ => ?_) (fun hq => absurd rfl hq)
  exact kk μ2 H2 locs2 hI2 hW2 hS2 (by rw [hk2 oa (hO1 hk1) (fun q => q.2 rfl), hk1 oa hO (fun q => q.2 rfl)])
theorem lc_image {oa : Nat} (C0 : lw_At p s m meth c b L xs) (hK0 : la_K s oa Dg cA ad adV vF) {i : Int32} (hl : lv_has ls 7 [(0, .ref b), (1, .ref (ad 0)), (2, .ref (ad 207)), (3, .ref oa), (4, .int i)]) (hI : laI μ) (hW : ax_W Dg ax_cl (la_A s oa) cA ad ax_sh ax_NC μ H) (hS : va_S (fun q : Nat => s.heap.size ≤ q) s.heap H locs) (hO : oa < H.size) (hin : ∀ j : Int32, 0 ≤ j → j ≤ 5 → vp_in (i + j) L) (hcs : cells ≤ 601024 ∧ slots ≤ 7293034)
    (kk : ∀ (μ' : ax_M) (H1 : Heap) (locs1 : List Loc), laI μ' → ax_W Dg ax_cl (la_A s oa) cA ad ax_sh ax_NC μ' H1 → va_S (fun q : Nat => s.heap.size ≤ q) s.heap H1 locs1 → H1[oa]? = H[oa]? → W p l e room_1 s m #[Value.ref b] below meth c H1 locs1 cells slots Q (F0 m 1325 ls [])) : W p l e room_1 s m #[Value.ref b] below meth c H locs cells slots Q (F0 m 1250 ls []) := by
  obtain ⟨r, μ1, μ2, a1, a2, hI2⟩ := LP_image hI (xs (i + 1).toNatClampNeg)
  obtain ⟨hx, hb, hr, hml, hown, hts, hX, hbl, hlocks, hgv⟩ := id C0
  have hbA : ¬ (fun q : Nat => s.heap.size ≤ q) b := Nat.not_le.mpr hbl
  have hO1 : ∀ {H1 : Heap}, (∀ q, q < H.size → ¬ la_A s oa q → H1[q]? = H[q]?) → oa < H1.size := fun hk => la_O hk hO
  refine lv_aload_n hx hb dl_1250 rfl (lv_at hl 1 rfl) ?_
  refine lv_aload_n hx hb dl_1251 rfl (lv_at hl 0 rfl) ?_
  refine lv_iload hx hb dl_1252 (lv_at hl 4 rfl) ?_
  refine lv_iconst (v := 1) hx hb dl_1254 (by decide) ?_
  refine lv_iadd hx hb dl_1255 ?_
  refine va_sld hx hb hX hbl hbA hS (hin 1 (by decide) (by decide)) dl_1256 ?_
  refine la_call C0 hK0 (z := 169) (o := 0) (index := 171) (As := [.int (xs (i + 1).toNatClampNeg)]) (rest := []) (by decide) a1 rfl (by decide) rfl (ax_wl_at (k := 5) (j := 67) rfl) (ax_wl_at (k := 5) (j := 68) rfl) (ax_wl_at (k := 5) (j := 69) rfl) (show (parseMethodDescriptor (ax_MT 169).1.desc).map (fun d => d.parameters.length) = some 1 by decide +kernel) (by decide) hW hS rfl hl.1 (Nat.le_of_ble_eq_true rfl) dl_1257 hcs (fun H1 locs1 hW1 hS1 hk1 => ?_)
  refine lv_aload_n hx hb dl_1260 rfl (lv_at hl 2 rfl) ?_
  refine lv_aload_n hx hb dl_1261 rfl (lv_at hl 0 rfl) ?_
  refine lv_iload hx hb dl_1262 (lv_at hl 4 rfl) ?_
  refine lv_iconst (v := 1) hx hb dl_1264 (by decide) ?_
  refine lv_iadd hx hb dl_1265 ?_
  refine va_sld hx hb hX hbl hbA hS1 (hin 1 (by decide) (by decide)) dl_1266 ?_
  refine la_call C0 hK0 (z := 132) (o := 207) (index := 174) (As := [.int (xs (i + 1).toNatClampNeg)]) (rest := [.int r]) (by decide) a2 rfl (by decide) rfl (ax_wl_at (k := 8) (j := 83) rfl) (ax_wl_at (k := 8) (j := 84) rfl) (ax_wl_at (k := 8) (j := 85) rfl) (show (parseMethodDescriptor (ax_MT 132).1.desc).map (fun d => d.parameters.length) = some 1 by decide +kernel) (by decide) hW1 hS1 rfl hl.1 (Nat.le_of_ble_eq_true rfl) dl_1267 hcs (fun H2 locs2 hW2 hS2 hk2 => ?_)
  refine lv_icmp_eq (tgt := 1325) hx hb dl_1270 (by decide) (fun _ => ?_) (fun hq => absurd rfl hq)
  exact kk μ2 H2 locs2 hI2 hW2 hS2 (by rw [hk2 oa (hO1 hk1) (fun q => q.2 rfl), hk1 oa hO (fun q => q.2 rfl)])
theorem lc_restore {oa : Nat} (C0 : lw_At p s m meth c b L xs) (hK0 : la_K s oa Dg cA ad adV vF) {i : Int32} (hl : lv_has ls 7 [(0, .ref b), (1, .ref (ad 0)), (2, .ref (ad 207)), (3, .ref oa), (4, .int i)]) (hI : laI μ) (hW : ax_W Dg ax_cl (la_A s oa) cA ad ax_sh ax_NC μ H) (hS : va_S (fun q : Nat => s.heap.size ≤ q) s.heap H locs) (hO : oa < H.size) (hin : ∀ j : Int32, 0 ≤ j → j ≤ 5 → vp_in (i + j) L) (hcs : cells ≤ 601024 ∧ slots ≤ 7293034)
    (kk : ∀ (μ' : ax_M) (H1 : Heap) (locs1 : List Loc), laI μ' → ax_W Dg ax_cl (la_A s oa) cA ad ax_sh ax_NC μ' H1 → va_S (fun q : Nat => s.heap.size ≤ q) s.heap H1 locs1 → H1[oa]? = H[oa]? → W p l e room_1 s m #[Value.ref b] below meth c H1 locs1 cells slots Q (F0 m 1325 ls [])) : W p l e room_1 s m #[Value.ref b] below meth c H locs cells slots Q (F0 m 1275 ls []) := by
  obtain ⟨r, μ1, μ2, a1, a2, hI2⟩ := LP_restore hI (xs (i + 1).toNatClampNeg)
  obtain ⟨hx, hb, hr, hml, hown, hts, hX, hbl, hlocks, hgv⟩ := id C0
  have hbA : ¬ (fun q : Nat => s.heap.size ≤ q) b := Nat.not_le.mpr hbl
  have hO1 : ∀ {H1 : Heap}, (∀ q, q < H.size → ¬ la_A s oa q → H1[q]? = H[q]?) → oa < H1.size := fun hk => la_O hk hO
  refine lv_aload_n hx hb dl_1275 rfl (lv_at hl 1 rfl) ?_
  refine lv_aload_n hx hb dl_1276 rfl (lv_at hl 0 rfl) ?_
  refine lv_iload hx hb dl_1277 (lv_at hl 4 rfl) ?_
  refine lv_iconst (v := 1) hx hb dl_1279 (by decide) ?_
  refine lv_iadd hx hb dl_1280 ?_
  refine va_sld hx hb hX hbl hbA hS (hin 1 (by decide) (by decide)) dl_1281 ?_
  refine la_call C0 hK0 (z := 170) (o := 0) (index := 175) (As := [.int (xs (i + 1).toNatClampNeg)]) (rest := []) (by decide) a1 rfl (by decide) rfl (ax_wl_at (k := 5) (j := 75) rfl) (ax_wl_at (k := 5) (j := 76) rfl) (ax_wl_at (k := 5) (j := 77) rfl) (show (parseMethodDescriptor (ax_MT 170).1.desc).map (fun d => d.parameters.length) = some 1 by decide +kernel) (by decide) hW hS rfl hl.1 (Nat.le_of_ble_eq_true rfl) dl_1282 hcs (fun H1 locs1 hW1 hS1 hk1 => ?_)
  refine lv_aload_n hx hb dl_1285 rfl (lv_at hl 2 rfl) ?_
  refine lv_aload_n hx hb dl_1286 rfl (lv_at hl 0 rfl) ?_
  refine lv_iload hx hb dl_1287 (lv_at hl 4 rfl) ?_
  refine lv_iconst (v := 1) hx hb dl_1289 (by decide) ?_
  refine lv_iadd hx hb dl_1290 ?_
  refine va_sld hx hb hX hbl hbA hS1 (hin 1 (by decide) (by decide)) dl_1291 ?_
  refine la_call C0 hK0 (z := 133) (o := 207) (index := 178) (As := [.int (xs (i + 1).toNatClampNeg)]) (rest := [.int r]) (by decide) a2 rfl (by decide) rfl (ax_wl_at (k := 8) (j := 87) rfl) (ax_wl_at (k := 8) (j := 88) rfl) (ax_wl_at (k := 8) (j := 89) rfl) (show (parseMethodDescriptor (ax_MT 133).1.desc).map (fun d => d.parameters.length) = some 1 by decide +kernel) (by decide) hW1 hS1 rfl hl.1 (Nat.le_of_ble_eq_true rfl) dl_1292 hcs (fun H2 locs2 hW2 hS2 hk2 => ?_)
  refine lv_icmp_eq (tgt := 1325) hx hb dl_1295 (by decide) (fun _ => ?_) (fun hq => absurd rfl hq)
  exact kk μ2 H2 locs2 hI2 hW2 hS2 (by rw [hk2 oa (hO1 hk1) (fun q => q.2 rfl), hk1 oa hO (fun q => q.2 rfl)])
theorem lc_count {oa : Nat} (C0 : lw_At p s m meth c b L xs) (hK0 : la_K s oa Dg cA ad adV vF) {i : Int32} (hl : lv_has ls 7 [(0, .ref b), (1, .ref (ad 0)), (2, .ref (ad 207)), (3, .ref oa), (4, .int i)]) (hI : laI μ) (hW : ax_W Dg ax_cl (la_A s oa) cA ad ax_sh ax_NC μ H) (hS : va_S (fun q : Nat => s.heap.size ≤ q) s.heap H locs) (hO : oa < H.size) (hin : ∀ j : Int32, 0 ≤ j → j ≤ 5 → vp_in (i + j) L) (hcs : cells ≤ 601024 ∧ slots ≤ 7293034)
    (kk : ∀ (μ' : ax_M) (H1 : Heap) (locs1 : List Loc), laI μ' → ax_W Dg ax_cl (la_A s oa) cA ad ax_sh ax_NC μ' H1 → va_S (fun q : Nat => s.heap.size ≤ q) s.heap H1 locs1 → H1[oa]? = H[oa]? → W p l e room_1 s m #[Value.ref b] below meth c H1 locs1 cells slots Q (F0 m 1325 ls [])) : W p l e room_1 s m #[Value.ref b] below meth c H locs cells slots Q (F0 m 1300 ls []) := by
  obtain ⟨r, μ1, μ2, a1, a2, hI2⟩ := LP_count hI (xs (i + 1).toNatClampNeg)
  obtain ⟨hx, hb, hr, hml, hown, hts, hX, hbl, hlocks, hgv⟩ := id C0
  have hbA : ¬ (fun q : Nat => s.heap.size ≤ q) b := Nat.not_le.mpr hbl
  have hO1 : ∀ {H1 : Heap}, (∀ q, q < H.size → ¬ la_A s oa q → H1[q]? = H[q]?) → oa < H1.size := fun hk => la_O hk hO
  refine lv_aload_n hx hb dl_1300 rfl (lv_at hl 1 rfl) ?_
  refine lv_aload_n hx hb dl_1301 rfl (lv_at hl 0 rfl) ?_
  refine lv_iload hx hb dl_1302 (lv_at hl 4 rfl) ?_
  refine lv_iconst (v := 1) hx hb dl_1304 (by decide) ?_
  refine lv_iadd hx hb dl_1305 ?_
  refine va_sld hx hb hX hbl hbA hS (hin 1 (by decide) (by decide)) dl_1306 ?_
  refine la_call C0 hK0 (z := 171) (o := 0) (index := 179) (As := [.int (xs (i + 1).toNatClampNeg)]) (rest := []) (by decide) a1 rfl (by decide) rfl (ax_wl_at (k := 5) (j := 79) rfl) (ax_wl_at (k := 5) (j := 80) rfl) (ax_wl_at (k := 5) (j := 81) rfl) (show (parseMethodDescriptor (ax_MT 171).1.desc).map (fun d => d.parameters.length) = some 1 by decide +kernel) (by decide) hW hS rfl hl.1 (Nat.le_of_ble_eq_true rfl) dl_1307 hcs (fun H1 locs1 hW1 hS1 hk1 => ?_)
  refine lv_aload_n hx hb dl_1310 rfl (lv_at hl 2 rfl) ?_
  refine lv_aload_n hx hb dl_1311 rfl (lv_at hl 0 rfl) ?_
  refine lv_iload hx hb dl_1312 (lv_at hl 4 rfl) ?_
  refine lv_iconst (v := 1) hx hb dl_1314 (by decide) ?_
  refine lv_iadd hx hb dl_1315 ?_
  refine va_sld hx hb hX hbl hbA hS1 (hin 1 (by decide) (by decide)) dl_1316 ?_
  refine la_call C0 hK0 (z := 134) (o := 207) (index := 182) (As := [.int (xs (i + 1).toNatClampNeg)]) (rest := [.int r]) (by decide) a2 rfl (by decide) rfl (ax_wl_at (k := 8) (j := 91) rfl) (ax_wl_at (k := 8) (j := 92) rfl) (ax_wl_at (k := 8) (j := 93) rfl) (show (parseMethodDescriptor (ax_MT 134).1.desc).map (fun d => d.parameters.length) = some 1 by decide +kernel) (by decide) hW1 hS1 rfl hl.1 (Nat.le_of_ble_eq_true rfl) dl_1317 hcs (fun H2 locs2 hW2 hS2 hk2 => ?_)
  refine lv_icmp_eq (tgt := 1325) hx hb dl_1320 (by decide) (fun _ => ?_) (fun hq => absurd rfl hq)
  exact kk μ2 H2 locs2 hI2 hW2 hS2 (by rw [hk2 oa (hO1 hk1) (fun q => q.2 rfl), hk1 oa hO (fun q => q.2 rfl)])
end LAW2
