/-! m: what is done with a letter -/
theorem zI_a1 (a : Int) : zI a + (1 : Int32) = zI (a + 1) := zI_add a 1
theorem zI_s1 (a : Int) : zI a - (1 : Int32) = zI (a - 1) := zI_sub a 1
theorem m_rj {G : gG} {S : gS} {μ : ax_M} {n e : Int} (he : hRe S) (h0 : 0 ≤ e) (h1 : e < 30) (hn : zR n) (hf : zR (gfr G e)) : aJ 259 [.ref 207, .int (zI n), .int (zI e)] [] (mM G S μ) = some (none, mM G (grj G S n e) μ) := by
  have hen := he (gwy G n e)
  rw [jl_259, m_en h0 h1 hn hf, z_b1, j_eq rfl zl0 (zR_of (by omega)) (zR_of (by omega))]
  unfold grj
  by_cases q : gen S (gwy G n e) = 0
  · rw [if_pos q, if_pos q, m_sE (v := 2) h0 h1 hn hf zl2, z_b0, jl_260]
  · rw [if_neg q, if_neg q, jl_260]
theorem m_bt {G : gG} {S : gS} {μ : ax_M} {n x y : Int} (hE : gE G ≤ 30) (hw : hGw G) (h0 : 0 ≤ n) (h1 : n < 12) (hx0 : -1 ≤ x) (hx1 : x < gE G) (r5 : -1 ≤ gnd S n 5 ∧ gnd S n 5 < gE G) : aJ 265 [.ref 207, .int (zI n), .int (zI x), .int (zI y)] [] (mM G S μ) = some (none, mM G (gbt G S n x y) μ) := by
  rw [jl_265, m_nd5 h0 h1, z_b1, m_li hE hw hx0 hx1 r5.1 r5.2, z_b1, i_B]
  unfold gbt
  by_cases q : gli G x (gnd S n 5) = true
  · rw [if_pos q, if_pos q, jl_266, m_sN5 (v := x) h0 h1 rfl, z_b0, m_sN4 (v := y) h0 h1 rfl, z_b0]
  · rw [if_neg q, if_neg q]
theorem m_cn {G : gG} {S : gS} {μ : ax_M} {n e lv : Int} (hg : hGok G) (hr : hRs G S) (h0 : 0 ≤ n) (h1 : n < 12) (he0 : 0 ≤ e) (he1 : e < gE G) (hl : -1 ≤ lv ∧ lv ≤ 256) (r7 : -1000 ≤ gnd S n 7 ∧ gnd S n 7 ≤ 1000) (hL : gnL (gcn G S n e lv) ≤ 256) : aJ 250 [.ref 207, .int (zI n), .int (zI e), .int (zI lv)] [] (mM G S μ) = some (none, mM G (gcn G S n e lv) μ) := by
  have hE := hg.2.2.2.1
  have hL0 := hr.2.2.1
  have rn : zR n := zR_of (by omega)
  have hz := h_fz hg he0 he1
  obtain ⟨n0, n1, n2, n3, n4, n5, n6, n9⟩ := hr.2.1 n
  have hLS : gnL S < 256 := by
    unfold gcn at hL
    simp only at hL
    split at hL
    · rw [hk_gse] at hL
      omega
    · split at hL
      · rw [hk_gsN, hk_gse, hk_gsE] at hL
        omega
      · rw [hk_gse, hk_gsE] at hL
        omega
  rw [jl_250, m_nd1 h0 h1, z_b1, i_lt (zR_of (by omega)) (zR_of (by omega))]
  unfold gcn
  by_cases q : lv < gnd S n 1
  · have q2 : ¬ gnd S n 1 ≤ lv := by omega
    rw [if_pos q, if_neg q2, jl_251, m_sE (v := 1) he0 (by omega) rn hz.1 zl1, z_b0, m_nd1 h0 h1, z_b1, m_nd2 h0 h1, z_b1, m_nd0 h0 h1, z_b1]
    have e0 : gnd (gsE S (gwy G n e) 1) n 0 = gnd S n 0 := rfl
    have e1 : gnd (gsE S (gwy G n e) 1) n 1 = gnd S n 1 := rfl
    have e2 : gnd (gsE S (gwy G n e) 1) n 2 = gnd S n 2 := rfl
    rw [e0, e1, e2, m_se (S := gsE S (gwy G n e) 1) (kd := 1) (lv := gnd S n 1) (td := gnd S n 2) (st := gnd S n 0) h0 h1 he0 (by omega) hz.1 hL0 (by show gnL S < 260; omega) zl1 rfl rfl rfl, z_b0, m_nd0 h0 h1, z_b1]
    have e3 : gnd (gse G (gsE S (gwy G n e) 1) n e 1 (gnd S n 1) (gnd S n 2) (gnd S n 0)) n 0 = gnd S n 0 := rfl
    have e7 : gnd (gse G (gsE S (gwy G n e) 1) n e 1 (gnd S n 1) (gnd S n 2) (gnd S n 0)) n 7 = gnd S n 7 := rfl
    rw [e3, j_eq rfl zl1 (zR_of (by omega)) (zR_of (by omega))]
    simp only
    by_cases qs : gnd S n 0 = 1
    · rw [if_pos qs, if_pos qs, m_nd7 h0 h1, z_b1, e7, m_sN7 (v := gnd S n 7 + 1) h0 h1 (zI_a1 _), z_b0, jl_252]
    · rw [if_neg qs, if_neg qs, jl_252]
  · have q2 : gnd S n 1 ≤ lv := by omega
    rw [if_neg q, if_pos q2, m_nd1 h0 h1, z_b1, m_se (kd := 1) (lv := gnd S n 1 + 1) (td := e) (st := 1) h0 h1 he0 (by omega) hz.1 hL0 (by omega) zl1 (zI_a1 _) rfl zl1, z_b0]
theorem m_an {G : gG} {S : gS} {μ : ax_M} {n e x : Int} (hg : hGok G) (hw : hGw G) (hr : hRs G S) (h0 : 0 ≤ n) (h1 : n < 12) (he0 : 0 ≤ e) (he1 : e < gE G) (hx : -1 ≤ x ∧ x < gE G) (r7 : -1000 ≤ gnd S n 7 ∧ gnd S n 7 ≤ 1000) (hL : gnL (han G S n e x) ≤ 256) : aJ 261 [.ref 207, .int (zI n), .int (zI e), .int (zI x)] [] (mM G S μ) = some (none, mM G (han G S n e x) μ) := by
  have hE := hg.2.2.2.1
  have hL0 := hr.2.2.1
  have rn : zR n := zR_of (by omega)
  have hz := h_fz hg he0 he1
  obtain ⟨n0, n1, n2, n3, n4, n5, n6, n9⟩ := hr.2.1 n
  have hre : hRe (grj G S n e) := by
    unfold grj
    split
    · intro w
      rw [hE_gsE]
      unfold pu
      split
      · omega
      · exact hr.1 w
    · exact hr.1
  have eN : ∀ i, gnd (grj G S n e) n i = gnd S n i := by
    intro i
    unfold grj
    split <;> rfl
  have eL : gnL (grj G S n e) = gnL S := by
    unfold grj
    split <;> rfl
  rw [jl_261, m_nd2 h0 h1, z_b1, i_eq (zR_of (by omega)) (zR_of (by omega))]
  unfold han at hL ⊢
  by_cases q : x = gnd S n 2
  · have q' : ¬ x ≠ gnd S n 2 := fun y => y q
    rw [if_neg q'] at hL
    rw [if_pos q, if_neg q', jl_262, m_rj hr.1 he0 (by omega) rn hz.1, z_b0, m_nd6 h0 h1, z_b1, eN 6, i_eq (zR_of (by omega)) (zR_of (by omega))]
    by_cases q6 : gnd S n 6 = e
    · rw [if_pos q6] at hL
      rw [if_pos q6, if_pos q6, m_te (S := grj G S n e) hg hw hre h0 h1 (by rw [eN 3]; exact n3) (by rw [eN 7]; exact r7) (by rw [eL]; exact hL0) hL, z_b0, jl_264]
    · rw [if_neg q6] at hL
      rw [hk_gse, eL] at hL
      rw [if_neg q6, if_neg q6, jl_263, m_se (S := grj G S n e) (kd := 4) (lv := -1) (td := -1) (st := -1) h0 h1 he0 (by omega) hz.1 (by rw [eL]; exact hL0) (by rw [eL]; omega) zl4 zlm zlm zlm, z_b0, jl_264]
  · rw [if_pos q] at hL
    rw [hk_gse] at hL
    rw [if_neg q, if_pos q, m_se (kd := 3) (lv := -1) (td := -1) (st := -1) h0 h1 he0 (by omega) hz.1 hL0 (by omega) zl3 zlm zlm zlm, z_b0]
theorem gbt_nd {G : gG} {S : gS} {n x y i : Int} (h4 : i ≠ 4) (h5 : i ≠ 5) : gnd (gbt G S n x y) n i = gnd S n i := by
  unfold gbt
  split
  · simp [gnd, gsN, h4, h5]
  · rfl
theorem gbt_L {G : gG} {S : gS} {n x y : Int} : gnL (gbt G S n x y) = gnL S := by
  unfold gbt
  split <;> rfl
theorem m_he {G : gG} {S : gS} {μ : ax_M} {n e x : Int} (hg : hGok G) (hw : hGw G) (hr : hRs G S) (h0 : 0 ≤ n) (h1 : n < 12) (he0 : 0 ≤ e) (he1 : e < gE G) (hx : -1 ≤ x ∧ x < gE G) (r7 : -900 ≤ gnd S n 7 ∧ gnd S n 7 ≤ 900) (hL : gnL (hhe G S n e x) ≤ 256) : aJ 267 [.ref 207, .int (zI n), .int (zI e), .int (zI x)] [] (mM G S μ) = some (none, mM G (hhe G S n e x) μ) := by
  have hE := hg.2.2.2.1
  have hL0 := hr.2.2.1
  have rn : zR n := zR_of (by omega)
  obtain ⟨n0, n1, n2, n3, n4, n5, n6, n9⟩ := hr.2.1 n
  have e5 : gnd (gsN S n 7 (gnd S n 7 - 1)) n 5 = gnd S n 5 := by simp [gnd, gsN]
  have e7 : gnd (gsN S n 7 (gnd S n 7 - 1)) n 7 = gnd S n 7 - 1 := by simp [gnd, gsN]
  have e3 : gnd (gsN S n 7 (gnd S n 7 - 1)) n 3 = gnd S n 3 := by simp [gnd, gsN]
  have e6 : gnd (gsN S n 7 (gnd S n 7 - 1)) n 6 = gnd S n 6 := by simp [gnd, gsN]
  rw [jl_267, m_nd3 h0 h1, z_b1, i_eq (zR_of (by omega)) (zR_of (by omega))]
  unfold hhe at hL ⊢
  by_cases q : e = gnd S n 3
  · have q' : ¬ e ≠ gnd S n 3 := fun y => y q
    rw [if_neg q'] at hL
    rw [if_pos q, if_neg q', jl_268, m_nd5 h0 h1, z_b1, m_li hE hw n5.1 n5.2 hx.1 hx.2, z_b1, i_B]
    by_cases ql : gli G (gnd S n 5) x = true
    · rw [if_pos ql] at hL
      rw [if_pos ql, if_pos ql, m_ch hg hr.1 h0 h1 n4 hL0 hL, z_b0, jl_270]
    · rw [if_neg ql, if_neg ql, jl_269, m_nd5 h0 h1, z_b1, j_eq rfl zlm (zR_of (by omega)) (zR_of (by omega)), j_eq rfl zlm (zR_of (by omega)) (zR_of (by omega))]
      by_cases q5 : gnd S n 5 = -1
      · rw [if_pos q5]
        by_cases qx : x = -1
        · rw [if_pos qx, if_pos ⟨q5, qx⟩, m_sN8 (v := 1) h0 h1 zl1, z_b0, jl_270]
        · rw [if_neg qx, if_neg (fun y => qx y.2), jl_270]
      · rw [if_neg q5, if_neg (fun y => q5 y.1), jl_270]
  · rw [if_pos q] at hL
    rw [if_neg q, if_pos q, m_nd7 h0 h1, z_b1, m_sN7 (v := gnd S n 7 - 1) h0 h1 (zI_s1 _), z_b0, m_bt (S := gsN S n 7 (gnd S n 7 - 1)) hE hw h0 h1 hx.1 hx.2 (by rw [e5]; exact n5), z_b0, m_su hg h0 h1 (by rw [gbt_nd (by decide) (by decide), e3]; exact n3) (by rw [gbt_nd (by decide) (by decide), e6]; exact n6) (by rw [gbt_nd (by decide) (by decide), e7]; omega) (by rw [gbt_L]; exact hL0) hL, z_b0, jl_270]
