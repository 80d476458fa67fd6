/-! j: deeds drawn -/
noncomputable def hdS (G : gG) : Nat → Int32 → gS → gS
  | 0, _, S => S
  | m + 1, x, S => if gN G ≤ 0 then S else if gpk (gst x) 8 = 0 then hdS G m (gst (gst x)) (if gnd S (gpk (gst (gst x)) (gN G)) 0 = 0 then gwk G S (gpk (gst (gst x)) (gN G)) else S) else if nWh S 0 = 0 then hdS G m (gst x) S else hdS G m (gst (gst x)) (hta G S (gbw G S (gpk (gst (gst x)) (gbn G S)))).2
noncomputable def hdN (G : gG) : Nat → Int32 → gS → Int
  | 0, _, _ => 0
  | m + 1, x, S => if gN G ≤ 0 then 0 else if gpk (gst x) 8 = 0 then (if gnd S (gpk (gst (gst x)) (gN G)) 0 = 0 then 1 else 0) + hdN G m (gst (gst x)) (if gnd S (gpk (gst (gst x)) (gN G)) 0 = 0 then gwk G S (gpk (gst (gst x)) (gN G)) else S) else if nWh S 0 = 0 then hdN G m (gst x) S else 1 + hdN G m (gst (gst x)) (hta G S (gbw G S (gpk (gst (gst x)) (gbn G S)))).2
theorem hd_ok {G : gG} (hg : hGok G) (hw : hGw G) : ∀ (m : Nat) (x : Int32) (S : gS), hV G S → hZ G S → hV G (hdS G m x S) ∧ hZ G (hdS G m x S) ∧ 0 ≤ hdN G m x S ∧ hdN G m x S ≤ m := by
  intro m
  induction m with
  | zero => exact fun x S hv hz => ⟨hv, hz, by unfold hdN; omega, by unfold hdN; omega⟩
  | succ m ih =>
    intro x S hv hz
    unfold hdS hdN
    by_cases q : gN G ≤ 0
    · rw [if_pos q, if_pos q]
      exact ⟨hv, hz, by omega, by omega⟩
    · rw [if_neg q, if_neg q]
      by_cases q8 : gpk (gst x) 8 = 0
      · rw [if_pos q8, if_pos q8]
        have hk := gpk_r (gst (gst x)) (n := gN G) (by omega)
        by_cases qs : gnd S (gpk (gst (gst x)) (gN G)) 0 = 0
        · rw [if_pos qs, if_pos qs]
          obtain ⟨i1, i2, i3, i4⟩ := ih (gst (gst x)) _ (hV_wk hg hv hk.1 hk.2 qs) (hZ_wk hg hv hk.1 hk.2 qs)
          exact ⟨i1, i2, by omega, by omega⟩
        · rw [if_neg qs, if_neg qs]
          obtain ⟨i1, i2, i3, i4⟩ := ih (gst (gst x)) S hv hz
          exact ⟨i1, i2, by omega, by omega⟩
      · rw [if_neg q8, if_neg q8]
        by_cases qq : nWh S 0 = 0
        · rw [if_pos qq, if_pos qq]
          obtain ⟨i1, i2, i3, i4⟩ := ih (gst x) S hv hz
          exact ⟨i1, i2, i3, by omega⟩
        · rw [if_neg qq, if_neg qq]
          have hk := bw_fi (x := gst (gst x)) hg hv qq
          obtain ⟨i1, i2, i3, i4⟩ := ih (gst (gst x)) _ (hV_ta hg hw hv hk) (hZ_ta hg hw hv hk)
          exact ⟨i1, i2, by omega, by omega⟩
theorem q_cdr {G : gG} {n : Int} (hg : hGok G) (hw : hGw G) (hn : n ≤ 60) : ∀ (m : Nat) (x : Int32) (S : gS) (X : cX) (ν : ax_M) (t i : Int), hV G S → hZ G S → XR G S X → cI 29 G S X ν → 0 ≤ i → i + m = n → 0 ≤ t → t ≤ i → ∃ X' ν', aJ 783 [.ref 0, .int (zI n), .int x, .int (zI t), .int (zI i)] [] ν = aJ 788 [.ref 0, .int (zI (t + hdN G m x S))] [] ν' ∧ cI 29 G (hdS G m x S) X' ν' ∧ XR G (hdS G m x S) X' ∧ fr (cOL 29) ν ν' := by
  have ho : cO 29 := Or.inl rfl
  have hN := hg.2.1
  have hN0 := hg.1
  intro m
  induction m with
  | zero =>
    intro x S X ν t i hv hz hx hν i0 i1 t0 t1
    refine ⟨X, ν, ?_, hν, hx, frz⟩
    rw [jl_783]
    simp (disch := omega) only [p_le]
    rw [if_pos (by omega)]
    unfold hdN
    rw [show t + 0 = t by omega]
  | succ m ih =>
    intro x S X ν t i hv hz hx hν i0 i1 t0 t1
    have hcn := h_cnt hg hv.1 (by omega)
    have h12 := q_fow hν ho
    have hx8 : xow X = nWh S 0 := hx.2.2.2.2.2.2.2.1.1
    have hnw : nWh S 0 ≤ (gnL S).toNat := pct_le
    have hb := gbn_le (S := S) hg
    have h8 := gpk_r (gst x) (n := 8) (by omega)
    have p8 := q_pick (ν := ν) (x := gst x) (n := 8) (by omega) (by omega)
    unfold hdS hdN
    rw [jl_783, q_N hν ho]
    simp (disch := omega) only [zI_lit, p_le, q_stir, z_b1]
    rw [if_neg (by omega)]
    by_cases q : gN G ≤ 0
    · refine ⟨X, ν, ?_, by rw [if_pos q]; exact hν, by rw [if_pos q]; exact hx, frz⟩
      rw [if_pos q, if_pos q, show t + 0 = t by omega]
    · rw [if_neg q, if_neg q, if_neg q, p8, z_b1]
      simp (disch := omega) only [p_eq]
      by_cases q8 : gpk (gst x) 8 = 0
      · have hk := gpk_r (gst (gst x)) (n := gN G) (by omega)
        have pk := q_pick (ν := ν) (x := gst (gst x)) (n := gN G) (by omega) (by omega)
        obtain ⟨X1, ν1, a1, a2, a3, a4⟩ := q_rouse ho hg hw hv hx hν hk.1 hk.2
        rw [if_pos q8, if_pos q8, if_pos q8, q_N hν ho, pk, z_b1, a1, z_b1]
        by_cases qs : gnd S (gpk (gst (gst x)) (gN G)) 0 = 0
        · rw [if_pos qs] at a2 a3
          have hd : decide (gnd S (gpk (gst (gst x)) (gN G)) 0 = 0) = true := by simp [qs]
          obtain ⟨X2, ν2, b1, b2, b3, b4⟩ := ih (gst (gst x)) _ X1 ν1 (t + 1) (i + 1) (hV_wk hg hv hk.1 hk.2 qs) (hZ_wk hg hv hk.1 hk.2 qs) a3 a2 (by omega) (by omega) (by omega) (by omega)
          refine ⟨X2, ν2, ?_, by rw [if_pos qs]; exact b2, by rw [if_pos qs]; exact b3, frt a4 b4⟩
          rw [hd, if_neg (by decide), if_pos qs, if_pos qs, jl_785, jl_787]
          simp only [zI_add, zI_lit]
          rw [b1, show t + 1 + hdN G m (gst (gst x)) (gwk G S (gpk (gst (gst x)) (gN G))) = t + (1 + hdN G m (gst (gst x)) (gwk G S (gpk (gst (gst x)) (gN G)))) by omega]
        · rw [if_neg qs] at a2 a3
          have hd : decide (gnd S (gpk (gst (gst x)) (gN G)) 0 = 0) = false := by simp [qs]
          obtain ⟨X2, ν2, b1, b2, b3, b4⟩ := ih (gst (gst x)) S X1 ν1 t (i + 1) hv hz a3 a2 (by omega) (by omega) (by omega) (by omega)
          refine ⟨X2, ν2, ?_, by rw [if_neg qs]; exact b2, by rw [if_neg qs]; exact b3, frt a4 b4⟩
          rw [hd, if_pos (by decide), if_neg qs, if_neg qs, jl_784, jl_785, jl_787]
          simp only [zI_add, zI_lit]
          rw [show t + 0 = t by omega, b1, show t + hdN G m (gst (gst x)) S = t + (0 + hdN G m (gst (gst x)) S) by omega]
      · rw [if_neg q8, if_neg q8, if_neg q8, jl_786, h12, hx8]
        simp (disch := omega) only [zI_lit, p_le]
        by_cases qq : nWh S 0 = 0
        · obtain ⟨X2, ν2, b1, b2, b3, b4⟩ := ih (gst x) S X ν t (i + 1) hv hz hx hν (by omega) (by omega) (by omega) (by omega)
          refine ⟨X2, ν2, ?_, by rw [if_pos qq]; exact b2, by rw [if_pos qq]; exact b3, b4⟩
          rw [if_pos (by omega), if_pos qq, jl_787]
          simp only [zI_add, zI_lit]
          rw [b1]
        · have h1 := gbn_pos hg hv.1 hcn.1
          have hk := gpk_r (gst (gst x)) (n := gbn G S) (by omega)
          obtain ⟨w, w1, w2⟩ := q_bw ho hg hcn.1 (show gnL S ≤ 256 by omega) hx hν hk.1 hk.2
          have hkk := bw_fi (x := gst (gst x)) hg hv qq
          have hgw := gbw_of w1
          obtain ⟨X1, ν1, a1, a2, a3, a4⟩ := q_ta ho hg hw hv hx hν hkk
          rw [← hgw] at w2
          obtain ⟨X2, ν2, b1, b2, b3, b4⟩ := ih (gst (gst x)) _ X1 ν1 (t + 1) (i + 1) (hV_ta hg hw hv hkk) (hZ_ta hg hw hv hkk) a3 a2 (by omega) (by omega) (by omega) (by omega)
          refine ⟨X2, ν2, ?_, by rw [if_neg qq]; exact b2, by rw [if_neg qq]; exact b3, frt a4 b4⟩
          rw [if_neg (by omega), if_neg qq, q_stir, z_b1, q_bn ho hg hcn.1 (show gnL S ≤ 256 by omega) hx hν, z_b1, q_pick (by omega) (by omega), z_b1, w2, z_b1, a1, z_b1, jl_787]
          simp only [zI_add, zI_lit]
          rw [b1, show t + 1 + hdN G m (gst (gst x)) (hta G S (gbw G S (gpk (gst (gst x)) (gbn G S)))).2 = t + (1 + hdN G m (gst (gst x)) (hta G S (gbw G S (gpk (gst (gst x)) (gbn G S)))).2) by omega]
theorem q_rdd {G : gG} {n : Int} (hg : hGok G) (hw : hGw G) (hn : n ≤ 60) : ∀ (m : Nat) (S : gS) (ν : ax_M) (t i : Int), hV G S → hZ G S → mI G S ν → 0 ≤ i → i + m = n → 0 ≤ t → t ≤ i → ∃ ν', aJ 597 [.ref 207, .int (zI n), .int (zI t), .int (zI i)] [] ν = aJ 599 [.ref 207, .int (zI (t + hdN G m (ν.1 207 32) S))] [] ν' ∧ mI G (hdS G m (ν.1 207 32) S) ν' ∧ fr [207, 209, 223] ν ν' ∧ bgR ν ν' ∧ (∀ k, k ≠ 32 → ν'.1 207 k = ν.1 207 k) := by
  have hN := hg.2.1
  have hN0 := hg.1
  intro m
  induction m with
  | zero =>
    intro S ν t i hv hz hm i0 i1 t0 t1
    refine ⟨ν, ?_, hm, frz, bgz, fun _ _ => rfl⟩
    rw [jl_597]
    simp (disch := omega) only [p_le]
    rw [if_pos (by omega)]
    unfold hdN
    rw [show t + 0 = t by omega]
  | succ m ih =>
    intro S ν t i hv hz hm i0 i1 t0 t1
    have hcn := h_cnt hg hv.1 (by omega)
    have h8 := gpk_r (gst (ν.1 207 32)) (n := 8) (by omega)
    have d8 := q_draw (ν := ν) (n := 8) (by omega) (by omega)
    have f1 : fr [207] ν (ax_uD ν 207 32 (gst (ν.1 207 32))) := fr_uD (by decide)
    have hm1 := mI_fr f1 (by decide) hm
    have e1 : (ax_uD ν 207 32 (gst (ν.1 207 32))).1 207 32 = gst (ν.1 207 32) := uD_at
    have k1 : ∀ k, k ≠ 32 → (ax_uD ν 207 32 (gst (ν.1 207 32))).1 207 k = ν.1 207 k := fun k q => uD_nk q 207
    have b1 := bgf f1 (by decide)
    unfold hdS hdN
    rw [jl_597]
    simp (disch := omega) only [zI_lit, p_le, q_rN hm, z_bo]
    rw [if_neg (by omega)]
    by_cases q : gN G ≤ 0
    · refine ⟨ν, ?_, by rw [if_pos q]; exact hm, frz, bgz, fun _ _ => rfl⟩
      rw [if_pos q, if_pos q, show t + 0 = t by omega]
    · rw [if_neg q, if_neg q, if_neg q, jl_591]
      simp only [zI_lit]
      rw [d8, z_b1]
      generalize ax_uD ν 207 32 (gst (ν.1 207 32)) = ν1 at *
      simp (disch := omega) only [p_eq]
      by_cases q8 : gpk (gst (ν.1 207 32)) 8 = 0
      · have dN := q_draw (ν := ν1) (n := gN G) (by omega) (by omega)
        have f2 : fr [207] ν1 (ax_uD ν1 207 32 (gst (ν1.1 207 32))) := fr_uD (by decide)
        have hm2 := mI_fr f2 (by decide) hm1
        have e2 : (ax_uD ν1 207 32 (gst (ν1.1 207 32))).1 207 32 = gst (gst (ν.1 207 32)) := by rw [uD_at, e1]
        have k2 : ∀ k, k ≠ 32 → (ax_uD ν1 207 32 (gst (ν1.1 207 32))).1 207 k = ν.1 207 k := fun k q => (uD_nk q 207).trans (k1 k q)
        have b2 := bgt b1 (bgf f2 (by decide))
        have f12 := frt f1 f2
        rw [e1] at dN
        rw [if_pos q8, if_pos q8, if_pos q8]
        simp (disch := omega) only [zI_lit, q_rN hm1, z_bo]
        rw [dN, z_b1]
        rw [e1] at f2 hm2 e2 k2 b2 f12
        generalize ax_uD ν1 207 32 (gst (gst (ν.1 207 32))) = ν2 at *
        have hk := gpk_r (gst (gst (ν.1 207 32))) (n := gN G) (by omega)
        have hst := h_nd hv.1 (gpk (gst (gst (ν.1 207 32))) (gN G))
        simp (disch := omega) only [q_nd hm2, z_b1, p_eq]
        by_cases qs : gnd S (gpk (gst (gst (ν.1 207 32))) (gN G)) 0 = 0
        · obtain ⟨ν3, c1, c2, c3, c4⟩ := q_rwk hg hw hv hm2 hk.1 hk.2
          have e3 : ν3.1 207 32 = gst (gst (ν.1 207 32)) := (fr_at c3 (by decide) 32).trans e2
          obtain ⟨ν4, d1, d2, d3, d4, d5⟩ := ih (gwk G S (gpk (gst (gst (ν.1 207 32))) (gN G))) ν3 (t + 1) (i + 1) (hV_wk hg hv hk.1 hk.2 qs) (hZ_wk hg hv hk.1 hk.2 qs) c2 (by omega) (by omega) (by omega) (by omega)
          rw [e3] at d1 d2
          refine ⟨ν4, ?_, by rw [if_pos qs]; exact d2, frt (frm f12 (by simp)) (frt (frm c3 (by simp)) d3), bgt b2 (bgt c4 d4), fun k z => (d5 k z).trans ((fr_at c3 (by decide) k).trans (k2 k z))⟩
          rw [if_pos qs, if_pos qs, if_pos qs, jl_592, c1, z_b0, z_b1, if_neg (by decide), jl_598]
          simp only [zI_lit, zI_add]
          rw [d1, show t + 1 + hdN G m (gst (gst (ν.1 207 32))) (gwk G S (gpk (gst (gst (ν.1 207 32))) (gN G))) = t + (1 + hdN G m (gst (gst (ν.1 207 32))) (gwk G S (gpk (gst (gst (ν.1 207 32))) (gN G)))) by omega]
        · obtain ⟨ν4, d1, d2, d3, d4, d5⟩ := ih S ν2 t (i + 1) hv hz hm2 (by omega) (by omega) (by omega) (by omega)
          rw [e2] at d1 d2
          refine ⟨ν4, ?_, by rw [if_neg qs]; exact d2, frt (frm f12 (by simp)) d3, bgt b2 d4, fun k z => (d5 k z).trans (k2 k z)⟩
          rw [if_neg qs, if_neg qs, if_neg qs, z_b1, if_pos (by decide), jl_598]
          simp only [zI_lit, zI_add]
          rw [d1, show t + hdN G m (gst (gst (ν.1 207 32))) S = t + (0 + hdN G m (gst (gst (ν.1 207 32))) S) by omega]
      · rw [if_neg q8, if_neg q8, if_neg q8, jl_593, q_qt hm1 hg hv, z_b1, show zI 0 = (0 : Int32) from rfl, i_P]
        by_cases qq : nWh S 0 = 0
        · obtain ⟨ν4, d1, d2, d3, d4, d5⟩ := ih S ν1 t (i + 1) hv hz hm1 (by omega) (by omega) (by omega) (by omega)
          rw [e1] at d1 d2
          refine ⟨ν4, ?_, by rw [if_pos qq]; exact d2, frt (frm f1 (by simp)) d3, bgt b1 d4, fun k z => (d5 k z).trans (k1 k z)⟩
          rw [if_pos qq, if_pos qq, z_b1, if_pos (by decide), jl_598]
          simp only [zI_lit, zI_add]
          rw [d1]
        · obtain ⟨ν3, c1, c2, c3, c4, c5, c6, c7⟩ := q_rtd hg hw hv hm1 qq
          rw [e1] at c2 c3 c7
          obtain ⟨ν4, d1, d2, d3, d4, d5⟩ := ih _ ν3 (t + 1) (i + 1) (hV_ta hg hw hv c7) (hZ_ta hg hw hv c7) c2 (by omega) (by omega) (by omega) (by omega)
          rw [c3] at d1 d2
          refine ⟨ν4, ?_, by rw [if_neg qq]; exact d2, frt (frm f1 (by simp)) (frt c5 d3), bgt b1 (bgt c6 d4), fun k z => (d5 k z).trans ((c4 k z).trans (k1 k z))⟩
          rw [if_neg qq, if_neg qq, jl_594, c1, z_b0, z_b1, if_neg (by decide), jl_598]
          simp only [zI_lit, zI_add]
          rw [d1, show t + 1 + hdN G m (gst (gst (ν.1 207 32))) (hta G S (gbw G S (gpk (gst (gst (ν.1 207 32))) (gbn G S)))).2 = t + (1 + hdN G m (gst (gst (ν.1 207 32))) (hta G S (gbw G S (gpk (gst (gst (ν.1 207 32))) (gbn G S)))).2) by omega]
theorem q_drawn {G : gG} {S : gS} {U : List gU} {K : qK} (hp : pOK G S U K) (a x : Int32) : qCl G S U K 780 595 [.ref 0, .int a, .int x] [.ref 207, .int a, .int x] := by
  obtain ⟨n, hn, rfl⟩ := zI_of a
  have hg := hp.1
  have hw := hGx_w hp.2.1
  have hK := hp.2.2.2.2.2.2.1.1
  have hv := hp.2.2.1
  have hz := hp.2.2.2.1
  obtain ⟨n1, n2⟩ := hn
  by_cases c : 1 ≤ n ∧ n ≤ 60
  · have hd : decide (1 ≤ n ∧ n ≤ 60) = true := by simp [c]
    obtain ⟨r1, r2, r3, r4⟩ := hd_ok hg hw n.toNat x S hv hz
    refine ⟨zI (hdN G n.toNat x S), G, hdS G n.toNat x S, pUn U (gwt G, S) (hdN G n.toNat x S), K, pOK_un hp r1 r2, ?_, ?_⟩
    · intro ν hi
      obtain ⟨ν1, b1, b2, b3⟩ := note_ok hp hi
      obtain ⟨⟨X1, y1, y2⟩, _, _⟩ := id b2
      obtain ⟨X2, ν2, d1, d2, d3, d4⟩ := q_cdr hg hw c.2 n.toNat x S X1 ν1 0 0 hv hz y2 y1 (by omega) (by omega) (by omega) (by omega)
      rw [show (0 : Int) + hdN G n.toNat x S = hdN G n.toNat x S by omega] at d1
      have b2' := iN_st (fun _ _ h => h) d4 (by intro a ha; simp [cOL] at ha; omega) (fr_at d4 (by decide) 0) d2 d3 b2
      have hst : aJ 780 [.ref 0, .int (zI n), .int x] [] ν = aJ 788 [.ref 0, .int (zI (hdN G n.toNat x S))] [] ν2 := by
        rw [jl_780]
        simp (disch := omega) only [zI_lit, p_lt, p_le]
        rw [if_neg (by omega), if_pos (by omega), jl_782, b1, z_b0]
        simp only [zI_lit]
        exact d1
      unfold pUn
      by_cases q : 0 < hdN G n.toNat x S
      · obtain ⟨ν3, e1, e2, e3⟩ := keep_ok hp.2.2.2.2.1 b2'
        refine ⟨ν3, ?_, by rw [if_pos q]; exact e2, frC_t b3 (frC_t (frC_of d4 (by decide)) e3)⟩
        rw [hst, jl_788]
        simp (disch := omega) only [zI_lit, p_le]
        rw [if_neg (by omega), e1, z_b0, jl_789]
      · refine ⟨ν2, ?_, by rw [if_neg q]; exact drop_ok b2', frC_t b3 (frC_of d4 (by decide))⟩
        rw [hst, jl_788]
        simp (disch := omega) only [zI_lit, p_le]
        rw [if_pos (by omega), jl_789]
    · intro ν hi
      obtain ⟨ν0, e0, hi0, f0⟩ := iM_th hK hi
      obtain ⟨ν1, b1, b2, b3, b4, b5⟩ := svT_ok hp hi0
      have f2 : fr [207] ν1 (ax_uD ν1 207 32 x) := fr_uD (by decide)
      have hi2 := iM_st f2 (by simp) (fun k _ k2 => uD_nk k2 207) (bgf f2 (by decide)) hK (mI_fr f2 (by decide) b3.1) b3
      obtain ⟨ν2, d1, d2, d3, d4, d5⟩ := q_rdd hg hw c.2 n.toNat S _ 0 0 hv hz hi2.1 (by omega) (by omega) (by omega) (by omega)
      rw [uD_at] at d1 d2
      rw [show (0 : Int) + hdN G n.toNat x S = hdN G n.toNat x S by omega] at d1
      have b3' := iM_st d3 (by intro a ha; simp at ha; omega) (fun k _ k2 => d5 k k2) d4 hK d2 hi2
      obtain ⟨ν3, e1, e2, e3⟩ := stay_ok hp r1 (tP_fr d3 (by decide) (tP_fr f2 (by decide) b2)) b3' r3
      refine ⟨ν3, ?_, e2, frM_t f0 (frM_t b4 (frM_t (frM_of f2 (by simp)) (frM_t (frM_of d3 (by intro a ha; simp at ha; omega)) e3)))⟩
      have hst : aJ 595 [.ref 207, .int (zI n), .int x] [] ν = aJ 599 [.ref 207, .int (zI (hdN G n.toNat x S))] [] ν2 := by
        rw [jl_595, ← e0, show (1 : Int32) = zI 1 from rfl, show (60 : Int32) = zI 60 from rfl, mz_isIn ⟨n1, n2⟩ (zR_of (by omega)) (zR_of (by omega)), z_b1, hd, if_neg (by decide), jl_596, show (0 : Int32) = zI 0 from rfl, b1, z_b0]
        exact d1
      rw [hst, jl_599]
      simp (disch := omega) only [zI_lit, p_le]
      by_cases q : 0 < hdN G n.toNat x S
      · rw [if_pos q] at e1
        rw [if_neg (by omega), jl_601, e1, z_b0]
      · rw [if_neg q] at e1
        rw [if_pos (by omega), jl_600, jl_601, show (0 : Int32) = zI 0 from rfl, e1, z_b0]
  · have hd : decide (1 ≤ n ∧ n ≤ 60) = false := by simp; omega
    refine ⟨zI (-1), G, S, U, K, hp, ?_, ?_⟩
    · intro ν hi
      refine ⟨ν, ?_, hi, frC_z⟩
      rw [jl_780]
      simp (disch := omega) only [zI_lit, p_lt, p_le]
      by_cases d : n < 1
      · rw [if_pos d, jl_781]
        rfl
      · rw [if_neg d, if_neg (by omega), jl_781]
        rfl
    · intro ν hi
      obtain ⟨ν0, e0, hi0, f0⟩ := iM_th hK hi
      refine ⟨ν0, ?_, hi0, f0⟩
      rw [jl_595, ← e0, show (1 : Int32) = zI 1 from rfl, show (60 : Int32) = zI 60 from rfl, mz_isIn ⟨n1, n2⟩ (zR_of (by omega)) (zR_of (by omega)), z_b1, hd, if_pos (by decide)]
      rfl
