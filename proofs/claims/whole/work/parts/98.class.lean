/-! c: a node is roused while letter k is between its way and its handling -/
theorem c_rouse2 {o : Nat} (h : cO o) {G : gG} {S : gS} {X : cX} {μ : ax_M} {n k : Int} (hg : hGok G) (hw : hGw G) (hr : hRs G S) (k0 : 0 ≤ k) (k1 : k < gnL S) (hx : XR G (gsL S k 5 2) (cHd X 1)) (h0 : 0 ≤ n) (h1 : n < 12) (hL : gnL (gwk G S n) ≤ 256) : ∃ X', aJ 1185 [.ref o, .int (zI n)] [] (cM o G S X μ) = some (some (.int (zB (decide (gnd S n 0 = 0)))), cM o G (if gnd S n 0 = 0 then gwk G S n else S) X' μ) ∧ XR G (gsL (if gnd S n 0 = 0 then gwk G S n else S) k 5 2) (cHd X' 1) := by
  have hE := hg.2.2.2.1
  have rn : zR n := zR_of (by omega)
  have n0 := (hr.2.1 n).1
  rw [jl_1185 _ _ _ h, c_of0 h h0 h1, z_b1, j_eq rfl zl0 (zR_of (by omega)) (zR_of (by omega))]
  by_cases qs : gnd S n 0 = 0
  · rw [if_pos qs, if_pos qs, jl_1186 _ _ _ h, c_nt0 h (v := 2) h0 h1 zl2, z_b0, c_lb (S := gsN S n 0 2) h hg hw hr.1 h0 h1, z_b1]
    have hb := glb_r (G := G) (S := gsN S n 0 2) (n := n) hg.2.2.1
    have hd : decide (gnd S n 0 = 0) = true := by simp [qs]
    rw [hd, j_eq rfl zlm (zR_of (by omega)) (zR_of (by omega))]
    unfold gwk at hL ⊢
    simp only at hL ⊢
    by_cases q : glb G (gsN S n 0 2) n = -1
    · rw [if_pos q, if_pos q, c_nt8 h (v := 1) h0 h1 zl1, z_b0, jl_1188]
      exact ⟨X, rfl, XR_N (n := n) (i := 8) (v := 1) (XR_N (n := n) (i := 0) (v := 2) hx)⟩
    · rw [if_neg q] at hL
      rw [hk_gse, hk_gsE, hk_gsN] at hL
      have hz := h_fz hg (e := glb G (gsN S n 0 2) n) (by omega) (by omega)
      have hwr := h_wyr (G := G) (n := n) (e := glb G (gsN S n 0 2) n) (by omega) (by omega)
      have s0 : hRs G (gsN S n 0 2) := rs_gsN hr ⟨fun q => by omega, fun q => by omega, fun q => by omega, fun q => by omega⟩
      rw [if_neg q, if_neg q, jl_1187 _ _ _ _ h, c_wy h (by omega) (by omega) rn hz.1, z_b1, c_sE h (v := 1) hwr.1 hwr.2 zl1, z_b0, c_wy h (by omega) (by omega) rn hz.1, z_b1]
      obtain ⟨X', h2, h3⟩ := c_SE2 (S := gsE (gsN S n 0 2) (gwy G n (glb G (gsN S n 0 2) n)) 1) (X := X) (μ := μ) (kd := 0) (lv := 0) (td := -1) (st := -1) h hg (rs_gsE s0 (by omega)) k0 k1 (XR_E (w := gwy G n (glb G (gsN S n 0 2) n)) (v := 1) (XR_N (n := n) (i := 0) (v := 2) hx)) h0 h1 (by omega) hb.2 (glb_inc hg q) (by omega) (by omega) (by show gnL S < 256; omega) zl0 zl0 zlm zlm
      rw [h2, z_b0, jl_1188]
      exact ⟨X', rfl, h3⟩
  · rw [if_neg qs, if_neg qs]
    have hd : decide (gnd S n 0 = 0) = false := by simp [qs]
    rw [hd]
    exact ⟨X, rfl, hx⟩
