/-! m: wakes, sums up, tests, changes, why not, and what is done with a letter -/
theorem zl0 : (0 : Int32) = zI 0 := rfl
theorem zl1 : (1 : Int32) = zI 1 := rfl
theorem zl2 : (2 : Int32) = zI 2 := rfl
theorem zl3 : (3 : Int32) = zI 3 := rfl
theorem zl4 : (4 : Int32) = zI 4 := rfl
theorem zl5 : (5 : Int32) = zI 5 := rfl
theorem zl6 : (6 : Int32) = zI 6 := rfl
theorem zl7 : (7 : Int32) = zI 7 := rfl
theorem zl8 : (8 : Int32) = zI 8 := rfl
theorem zl9 : (9 : Int32) = zI 9 := rfl
theorem zl10 : (10 : Int32) = zI 10 := rfl
theorem zl11 : (11 : Int32) = zI 11 := rfl
theorem zl12 : (12 : Int32) = zI 12 := rfl
theorem zlm : (-1 : Int32) = zI (-1) := rfl
def hRs (G : gG) (S : gS) : Prop := (∀ w, 0 ≤ gen S w ∧ gen S w ≤ 2) ∧ (∀ n, (0 ≤ gnd S n 0 ∧ gnd S n 0 ≤ 2) ∧ (0 ≤ gnd S n 1 ∧ gnd S n 1 ≤ gnL S) ∧ (-1 ≤ gnd S n 2 ∧ gnd S n 2 < gE G) ∧ (-1 ≤ gnd S n 3 ∧ gnd S n 3 < gE G) ∧ (-1 ≤ gnd S n 4 ∧ gnd S n 4 < gE G) ∧ (-1 ≤ gnd S n 5 ∧ gnd S n 5 < gE G) ∧ (-1 ≤ gnd S n 6 ∧ gnd S n 6 < gE G) ∧ (0 ≤ gnd S n 9 ∧ gnd S n 9 ≤ gnL S)) ∧ (0 ≤ gnL S) ∧ (∀ k, 0 ≤ k → k < gnL S → (0 ≤ glt S k 0 ∧ glt S k 0 ≤ 6) ∧ (0 ≤ glt S k 1 ∧ glt S k 1 < 2 * gE G) ∧ (-1 ≤ glt S k 2 ∧ glt S k 2 ≤ gnL S) ∧ (-1 ≤ glt S k 3 ∧ glt S k 3 < gE G) ∧ (-1 ≤ glt S k 4 ∧ glt S k 4 ≤ 2) ∧ (glt S k 0 = 1 → 0 ≤ glt S k 4) ∧ (0 ≤ glt S k 5 ∧ glt S k 5 ≤ 2) ∧ (0 ≤ glt S k 6 ∧ glt S k 6 ≤ gnL S))
theorem glb_r {G : gG} {S : gS} {n : Int} (hE : 0 ≤ gE G) : -1 ≤ glb G S n ∧ glb G S n < gE G := by
  have h := glbR_r (G := G) (S := S) (n := n) (gE G).toNat
  unfold glb
  omega
theorem m_wk {G : gG} {S : gS} {μ : ax_M} {n : Int} (hg : hGok G) (hw : hGw G) (he : hRe S) (h0 : 0 ≤ n) (h1 : n < 12) (hL0 : 0 ≤ gnL S) (hL : gnL (gwk G S n) ≤ 260) : aJ 219 [.ref 207, .int (zI n)] [] (mM G S μ) = some (none, mM G (gwk G S n) μ) := by
  have hE := hg.2.2.2.1
  have rn : zR n := zR_of (by omega)
  have hr := glb_r (G := G) (S := gsN S n 0 2) (n := n) hg.2.2.1
  rw [jl_219, m_sN0 (v := 2) h0 h1 zl2, z_b0, m_lb (S := gsN S n 0 2) hg hw he h0 h1, z_b1, j_eq rfl zI_m1 (zR_of (by omega)) (zR_of (by omega))]
  unfold gwk at hL ⊢
  simp only at hL ⊢
  by_cases q : glb G (gsN S n 0 2) n = -1
  · rw [if_pos q, if_pos q, m_sN8 (v := 1) h0 h1 zl1, z_b0]
  · rw [if_neg q] at hL
    have hz := h_fz hg (e := glb G (gsN S n 0 2) n) (by omega) (by omega)
    rw [if_neg q, if_neg q, jl_220, m_sE (v := 1) (by omega) (by omega) rn hz.1 zl1, z_b0, m_se (S := gsE (gsN S n 0 2) (gwy G n (glb G (gsN S n 0 2) n)) 1) (kd := 0) (lv := 0) (td := -1) (st := -1) h0 h1 (by omega) (by omega) hz.1 hL0 (by
      rw [hk_gse, hk_gsE, hk_gsN] at hL
      show gnL S < 260
      omega) zl0 zl0 zlm zlm, z_b0]
theorem m_su {G : gG} {S : gS} {μ : ax_M} {n : Int} (hg : hGok G) (h0 : 0 ≤ n) (h1 : n < 12) (r3 : -1 ≤ gnd S n 3 ∧ gnd S n 3 < gE G) (r6 : -1 ≤ gnd S n 6 ∧ gnd S n 6 < gE G) (r7 : -1000 ≤ gnd S n 7 ∧ gnd S n 7 ≤ 1000) (hL0 : 0 ≤ gnL S) (hL : gnL (hsu G S n) ≤ 256) : aJ 224 [.ref 207, .int (zI n)] [] (mM G S μ) = some (none, mM G (hsu G S n) μ) := by
  have hE := hg.2.2.2.1
  rw [jl_224, m_nd7 h0 h1, z_b1, j_eq rfl zI_zero (zR_of (by omega)) (zR_of (by omega))]
  unfold hsu at hL ⊢
  by_cases q7 : gnd S n 7 = 0
  · rw [if_pos q7, m_nd6 h0 h1, z_b1, j_eq rfl zI_m1 (zR_of (by omega)) (zR_of (by omega))]
    by_cases q6 : gnd S n 6 = -1
    · have hc : ¬ (gnd S n 7 ≠ 0 ∨ gnd S n 6 ≠ -1) := by omega
      rw [if_neg hc] at hL
      rw [if_pos q6, if_neg hc]
      by_cases q3 : gnd S n 3 = -1
      · rw [if_pos q3] at hL
        have : gnL (hbr S) = gnL S + 1000 := rfl
        omega
      · rw [if_neg q3] at hL
        rw [hk_gse] at hL
        have hL2 : gnL (gsN S n 0 2) = gnL S := rfl
        have e3 : gnd (gsN S n 0 2) n 3 = gnd S n 3 := by simp [gnd, gsN]
        have e5 : gnd (gsN S n 0 2) n 5 = gnd S n 5 := by simp [gnd, gsN]
        have hz := h_fz hg (e := gnd S n 3) (by omega) (by omega)
        rw [if_neg q3, jl_226, m_sN0 (v := 2) h0 h1 zl2, z_b0, m_nd3 h0 h1, z_b1, m_nd5 h0 h1, z_b1, e3, e5, m_se (S := gsN S n 0 2) (kd := 5) (lv := -1) (td := gnd S n 5) (st := -1) h0 h1 (by omega) (by omega) hz.1 hL0 (by omega) zl5 zlm rfl zlm, z_b0]
    · rw [if_neg q6, if_pos (Or.inr q6), jl_225]
  · rw [if_neg q7, if_pos (Or.inl q7), jl_225]
theorem m_te {G : gG} {S : gS} {μ : ax_M} {n : Int} (hg : hGok G) (hw : hGw G) (he : hRe S) (h0 : 0 ≤ n) (h1 : n < 12) (r3 : -1 ≤ gnd S n 3 ∧ gnd S n 3 < gE G) (r7 : -1000 ≤ gnd S n 7 ∧ gnd S n 7 ≤ 1000) (hL0 : 0 ≤ gnL S) (hL : gnL (hte G S n) ≤ 256) : aJ 221 [.ref 207, .int (zI n)] [] (mM G S μ) = some (none, mM G (hte G S n) μ) := by
  have hE := hg.2.2.2.1
  have hr := glb_r (G := G) (S := S) (n := n) hg.2.2.1
  rw [jl_221, m_lb hg hw he h0 h1, z_b1, m_sN6 (v := glb G S n) h0 h1 rfl, z_b0, j_eq rfl zI_m1 (zR_of (by omega)) (zR_of (by omega))]
  unfold hte at hL ⊢
  by_cases q : glb G S n = -1
  · rw [if_pos q] at hL
    rw [if_pos q, if_pos q, jl_222, q]
    have e3 : gnd (gsN S n 6 (-1)) n 3 = gnd S n 3 := by simp [gnd, gsN]
    have e6 : gnd (gsN S n 6 (-1)) n 6 = -1 := by simp [gnd, gsN]
    have e7 : gnd (gsN S n 6 (-1)) n 7 = gnd S n 7 := by simp [gnd, gsN]
    rw [m_su (S := gsN S n 6 (-1)) hg h0 h1 (by rw [e3]; exact r3) (by rw [e6]; have := hg.2.2.1; omega) (by rw [e7]; exact r7) hL0 hL, z_b0, jl_223]
  · rw [if_neg q] at hL
    rw [hk_gse] at hL
    have hL2 : gnL (gsN S n 6 (glb G S n)) = gnL S := rfl
    have e1 : gnd (gsN S n 6 (glb G S n)) n 1 = gnd S n 1 := by simp [gnd, gsN]
    have e2 : gnd (gsN S n 6 (glb G S n)) n 2 = gnd S n 2 := by simp [gnd, gsN]
    have hz := h_fz hg (e := glb G S n) (by omega) (by omega)
    rw [if_neg q, if_neg q, m_nd1 h0 h1, z_b1, m_nd2 h0 h1, z_b1, e1, e2, m_se (S := gsN S n 6 (glb G S n)) (kd := 2) (lv := gnd S n 1) (td := gnd S n 2) (st := -1) h0 h1 (by omega) (by omega) hz.1 hL0 (by omega) zl2 rfl rfl zlm, z_b0, jl_223]
theorem m_ch {G : gG} {S : gS} {μ : ax_M} {n : Int} (hg : hGok G) (he : hRe S) (h0 : 0 ≤ n) (h1 : n < 12) (r4 : -1 ≤ gnd S n 4 ∧ gnd S n 4 < gE G) (hL0 : 0 ≤ gnL S) (hL : gnL (hch G S n) ≤ 256) : aJ 227 [.ref 207, .int (zI n)] [] (mM G S μ) = some (none, mM G (hch G S n) μ) := by
  have hE := hg.2.2.2.1
  have rn : zR n := zR_of (by omega)
  unfold hch at hL ⊢
  by_cases q4 : gnd S n 4 = -1
  · rw [if_pos q4] at hL
    have : gnL (hbr S) = gnL S + 1000 := rfl
    omega
  · rw [if_neg q4] at hL
    rw [if_neg q4]
    have hz := h_fz hg (e := gnd S n 4) (by omega) (by omega)
    have hen := he (gwy G n (gnd S n 4))
    rw [jl_227, m_nd4 h0 h1, z_b1, m_en (by omega) (by omega) rn hz.1, z_b1, j_eq rfl zI_one (zR_of (by omega)) (zR_of (by omega))]
    by_cases qe : gen S (gwy G n (gnd S n 4)) = 1
    · rw [if_pos qe] at hL
      rw [hk_gse] at hL
      rw [if_pos qe, if_pos qe, m_se (kd := 6) (lv := -1) (td := -1) (st := -1) h0 h1 (by omega) (by omega) hz.1 hL0 (by omega) zl6 zlm zlm zlm, z_b0]
    · rw [if_neg qe] at hL
      rw [hk_gsE, hk_gse] at hL
      rw [if_neg qe, if_neg qe, jl_228, m_nd1 h0 h1, z_b1, m_se (kd := 0) (lv := gnd S n 1) (td := -1) (st := -1) h0 h1 (by omega) (by omega) hz.1 hL0 (by omega) zl0 rfl zlm zlm, z_b0, m_sE (v := 1) (by omega) (by omega) rn hz.1 zl1, z_b0]
theorem m_half {w : Int} (h0 : 0 ≤ w) (h1 : w < 60) : zI w / (2 : Int32) = zI (w / 2) := zI_div2 h0 (zR_of (by omega))
theorem m_wn {G : gG} {S : gS} {μ : ax_M} {k : Int} (hg : hGok G) (hr : hRs G S) (hL : gnL S ≤ 260) (h0 : 0 ≤ k) (h1 : k < gnL S) : aJ 229 [.ref 207, .int (zI k)] [] (mM G S μ) = some (some (.int (zI (gwh G S k))), mM G S μ) := by
  have hE := hg.2.2.2.1
  obtain ⟨he, hn, hL0, hl⟩ := hr
  obtain ⟨l0, l1, l2, l3, l4, l5, l6, l7⟩ := hl k h0 h1
  have hwW : hW G (glt S k 1) := ⟨l1.1, l1.2⟩
  have hrc := h_sdr hg (h_opW hwW).1
  have hN := hg.2.1
  have r0 : 0 ≤ grc G (glt S k 1) ∧ grc G (glt S k 1) < 12 := ⟨hrc.1, by have := hrc.2; unfold grc; omega⟩
  have rn : zR (grc G (glt S k 1)) := zR_of (by omega)
  obtain ⟨n0, n1, n2, n3, n4, n5, n6, n9⟩ := hn (grc G (glt S k 1))
  rw [jl_229, m_lt1 h0 h1 hL, z_b1, m_rc (by omega) (by omega), z_b1, m_lt2 h0 h1 hL, z_b1, m_lt0 h0 h1 hL, z_b1, j_eq rfl zI_zero (zR_of (by omega)) (zR_of (by omega)), j_eq rfl (show (2 : Int32) = zI 2 from rfl) (zR_of (by omega)) (zR_of (by omega)), j_eq rfl (show (5 : Int32) = zI 5 from rfl) (zR_of (by omega)) (zR_of (by omega))]
  unfold gwh
  simp only
  by_cases q0 : glt S k 0 = 0
  · rw [if_pos q0, if_pos q0, jl_230, m_nd1 r0.1 r0.2, z_b1, i_lt (zR_of (by omega)) (zR_of (by omega))]
    by_cases q : glt S k 2 < gnd S (grc G (glt S k 1)) 1
    · rw [if_pos q, if_pos (Or.inl q), jl_231, jl_233]
      rfl
    · have hz := h_fz hg (e := glt S k 1 / 2) (by omega) (by omega)
      have hen := he (gwy G (grc G (glt S k 1)) (glt S k 1 / 2))
      rw [if_neg q, m_half (by omega) (by omega), m_en (by omega) (by omega) rn hz.1, z_b1, j_eq rfl zI_zero (zR_of (by omega)) (zR_of (by omega))]
      by_cases qe : gen S (gwy G (grc G (glt S k 1)) (glt S k 1 / 2)) = 0
      · rw [if_pos qe, if_neg (by omega), jl_232, jl_233]
        rfl
      · rw [if_neg qe, if_pos (Or.inr qe), jl_231, jl_233]
        rfl
  · rw [if_neg q0, if_neg q0]
    by_cases q2 : glt S k 0 = 2
    · rw [if_pos q2, if_pos q2, jl_234, m_nd1 r0.1 r0.2, z_b1, i_le (zR_of (by omega)) (zR_of (by omega))]
      by_cases q : glt S k 2 ≤ gnd S (grc G (glt S k 1)) 1
      · rw [if_pos q, if_neg (by omega), jl_235, jl_236]
        rfl
      · rw [if_neg q, if_pos (by omega), jl_236]
        rfl
    · rw [if_neg q2, if_neg q2]
      by_cases q5 : glt S k 0 = 5
      · rw [if_pos q5, if_pos q5, jl_237, m_nd3 r0.1 r0.2, z_b1, m_half (by omega) (by omega), i_eq (zR_of (by omega)) (zR_of (by omega))]
        by_cases q : glt S k 1 / 2 = gnd S (grc G (glt S k 1)) 3
        · rw [if_pos q, m_nd0 r0.1 r0.2, z_b1, j_eq rfl zI_one (zR_of (by omega)) (zR_of (by omega))]
          by_cases qs : gnd S (grc G (glt S k 1)) 0 = 1
          · rw [if_pos qs, if_pos ⟨q, qs⟩, jl_239]
            rfl
          · rw [if_neg qs, if_neg (fun x => qs x.2), jl_238, jl_239]
            rfl
        · rw [if_neg q, if_neg (fun x => q x.1), jl_238, jl_239]
          rfl
      · rw [if_neg q5, if_neg q5, jl_240]
        rfl
