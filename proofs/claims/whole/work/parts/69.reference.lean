/-! m: a letter is handled -/
theorem hRs_T {G : gG} {S : gS} {k n : Int} (hr : hRs G S) (k0 : 0 ≤ k) (k1 : k < gnL S) : hRs G (hcl (gsL S k 5 2) n (glt S k 6)) := by
  obtain ⟨he, hn, hL, hl⟩ := hr
  have hLT : gnL (hcl (gsL S k 5 2) n (glt S k 6)) = gnL S := hk_hcl
  have hET : gen (hcl (gsL S k 5 2) n (glt S k 6)) = gen S := hE_hcl
  have hNT : ∀ m i, i ≠ 9 → gnd (hcl (gsL S k 5 2) n (glt S k 6)) m i = gnd S m i := fun m i hi => congrFun (hN_hcl (S := gsL S k 5 2) (n := n) (d := glt S k 6) hi) m
  have hlT : ∀ j f, glt (hcl (gsL S k 5 2) n (glt S k 6)) j f = glt (gsL S k 5 2) j f := fun j f => congrFun (hL_hcl (S := gsL S k 5 2) (n := n) (d := glt S k 6) (i := f)) j
  have hN9 : ∀ m, gnd (hcl (gsL S k 5 2) n (glt S k 6)) m 9 = gnd S m 9 ∨ gnd (hcl (gsL S k 5 2) n (glt S k 6)) m 9 = glt S k 6 := by
    intro m
    unfold hcl
    split
    · by_cases q : m = n
      · right; simp [gnd, gsN, q]
      · left
        have : gnd (gsN (gsL S k 5 2) n 9 (glt S k 6)) m 9 = gnd (gsL S k 5 2) m 9 := by simp [gnd, gsN, q]
        exact this
    · left; rfl
  refine ⟨by rw [hET]; exact he, ?_, by rw [hLT]; exact hL, ?_⟩
  · intro m
    have h1 := hn m
    have h2 := (hl k k0 k1).2.2.2.2.2.2.2
    rw [hNT m 0 (by decide), hNT m 1 (by decide), hNT m 2 (by decide), hNT m 3 (by decide), hNT m 4 (by decide), hNT m 5 (by decide), hNT m 6 (by decide), hLT]
    rcases hN9 m with h3 | h3
    · rw [h3]
      exact h1
    · rw [h3]
      exact ⟨h1.1, h1.2.1, h1.2.2.1, h1.2.2.2.1, h1.2.2.2.2.1, h1.2.2.2.2.2.1, h1.2.2.2.2.2.2.1, h2⟩
  · intro j j0 j1
    rw [hLT] at j1 ⊢
    have h1 := hl j j0 j1
    have e : ∀ f, f ≠ 5 → glt (hcl (gsL S k 5 2) n (glt S k 6)) j f = glt S j f := by
      intro f hf
      rw [hlT]
      simp [glt, gsL, hf]
    have e5 : 0 ≤ glt (hcl (gsL S k 5 2) n (glt S k 6)) j 5 ∧ glt (hcl (gsL S k 5 2) n (glt S k 6)) j 5 ≤ 2 := by
      rw [hlT]
      by_cases q : j = k
      · have : glt (gsL S k 5 2) j 5 = 2 := by simp [glt, gsL, q]
        rw [this]
        omega
      · have : glt (gsL S k 5 2) j 5 = glt S j 5 := by simp [glt, gsL, q]
        rw [this]
        exact h1.2.2.2.2.2.2.1
    rw [e 0 (by decide), e 1 (by decide), e 2 (by decide), e 3 (by decide), e 4 (by decide), e 6 (by decide)]
    exact ⟨h1.1, h1.2.1, h1.2.2.1, h1.2.2.2.1, h1.2.2.2.2.1, h1.2.2.2.2.2.1, e5, h1.2.2.2.2.2.2.2⟩
theorem m_hk {G : gG} {S : gS} {μ : ax_M} {n e k : Int} (hg : hGok G) (hw : hGw G) (hr : hRs G S) (h0 : 0 ≤ n) (h1 : n < 12) (he0 : 0 ≤ e) (he1 : e < gE G) (k0 : 0 ≤ k) (k1 : k < gnL S) (hLS : gnL S ≤ 256) (r7 : -900 ≤ gnd S n 7 ∧ gnd S n 7 ≤ 900) (hL : gnL (hhk G S n e k) ≤ 256) : aJ 242 [.ref 207, .int (zI k), .int (zI e), .int (zI n)] [] (mM G S μ) = some (none, mM G (hhk G S n e k) μ) := by
  have hE := hg.2.2.2.1
  have hL0 := hr.2.2.1
  have rn : zR n := zR_of (by omega)
  have hz := h_fz hg he0 he1
  obtain ⟨l0, l1, l2, l3, l4, l5, l6, l7⟩ := hr.2.2.2 k k0 k1
  obtain ⟨n0, n1, n2, n3, n4, n5, n6, n9⟩ := hr.2.1 n
  have rk : zR (glt S k 0) := zR_of (by omega)
  rw [jl_242, m_lt0 k0 k1 (by omega), z_b1, j_eq rfl zl0 rk (zR_of (by omega)), j_eq rfl zl1 rk (zR_of (by omega)), j_eq rfl zl2 rk (zR_of (by omega)), j_eq rfl zl3 rk (zR_of (by omega)), j_eq rfl zl4 rk (zR_of (by omega)), j_eq rfl zl5 rk (zR_of (by omega))]
  unfold hhk at hL ⊢
  by_cases q0 : glt S k 0 = 0
  · rw [if_pos q0] at hL
    rw [if_pos q0, if_pos q0, jl_243, m_lt2 k0 k1 (by omega), z_b1, m_cn hg hr h0 h1 he0 he1 (by omega) (by omega) hL, z_b0]
  rw [if_neg q0] at hL
  rw [if_neg q0, if_neg q0]
  by_cases q1 : glt S k 0 = 1
  · rw [if_pos q1] at hL
    rw [if_pos q1, if_pos q1, jl_244, m_bg hg hw hr h0 h1 he0 he1 k0 k1 r7 hL, z_b0]
  rw [if_neg q1] at hL
  rw [if_neg q1, if_neg q1]
  by_cases q2 : glt S k 0 = 2
  · rw [if_pos q2] at hL
    rw [if_pos q2, if_pos q2, jl_245, m_lt3 k0 k1 (by omega), z_b1, m_an hg hw hr h0 h1 he0 he1 l3 (by omega) hL, z_b0]
  rw [if_neg q2] at hL
  rw [if_neg q2, if_neg q2]
  by_cases q3 : glt S k 0 = 3
  · rw [if_pos q3] at hL
    have e5 : gnd (gsN S n 6 (-1)) n 5 = gnd S n 5 := by simp [gnd, gsN]
    have e7 : gnd (gsN S n 6 (-1)) n 7 = gnd S n 7 := by simp [gnd, gsN]
    have e3 : gnd (gsN S n 6 (-1)) n 3 = gnd S n 3 := by simp [gnd, gsN]
    have e6 : gnd (gsN S n 6 (-1)) n 6 = -1 := by simp [gnd, gsN]
    rw [if_pos q3, if_pos q3, jl_246, m_sN6 (v := -1) h0 h1 zlm, z_b0, m_bt (S := gsN S n 6 (-1)) hE hw h0 h1 (by omega) he1 (by rw [e5]; exact n5), z_b0, m_su hg h0 h1 (by rw [gbt_nd (by decide) (by decide), e3]; exact n3) (by rw [gbt_nd (by decide) (by decide), e6]; have := hg.2.2.1; omega) (by rw [gbt_nd (by decide) (by decide), e7]; omega) (by rw [gbt_L]; exact hL0) hL, z_b0]
  rw [if_neg q3] at hL
  rw [if_neg q3, if_neg q3]
  by_cases q4 : glt S k 0 = 4
  · rw [if_pos q4] at hL
    have hre : hRe (grj G S n e) := by
      unfold grj
      split
      · intro w
        rw [hE_gsE]
        unfold pu
        split
        · omega
        · exact hr.1 w
      · exact hr.1
    have eN : ∀ i, gnd (grj G S n e) n i = gnd S n i := by
      intro i
      unfold grj
      split <;> rfl
    have eL : gnL (grj G S n e) = gnL S := by
      unfold grj
      split <;> rfl
    rw [if_pos q4, if_pos q4, jl_247, m_rj hr.1 he0 (by omega) rn hz.1, z_b0, m_te (S := grj G S n e) hg hw hre h0 h1 (by rw [eN 3]; exact n3) (by rw [eN 7]; omega) (by rw [eL]; exact hL0) hL, z_b0]
  rw [if_neg q4] at hL
  rw [if_neg q4, if_neg q4]
  by_cases q5 : glt S k 0 = 5
  · rw [if_pos q5] at hL
    rw [if_pos q5, if_pos q5, jl_248, m_lt3 k0 k1 (by omega), z_b1, m_he hg hw hr h0 h1 he0 he1 l3 r7 hL, z_b0]
  rw [if_neg q5] at hL
  rw [if_neg q5, if_neg q5, jl_249, m_ch hg hr.1 h0 h1 n4 hL0 hL, z_b0]
theorem m_ha {G : gG} {S : gS} {μ : ax_M} {k : Int} (hg : hGok G) (hw : hGw G) (hr : hRs G S) (k0 : 0 ≤ k) (k1 : k < gnL S) (r7 : ∀ n, -900 ≤ gnd S n 7 ∧ gnd S n 7 ≤ 900) (hL : gnL (hha G S k) ≤ 256) : aJ 241 [.ref 207, .int (zI k)] [] (mM G S μ) = some (none, mM G (hha G S k) μ) := by
  have hE := hg.2.2.2.1
  have hN := hg.2.1
  obtain ⟨l0, l1, l2, l3, l4, l5, l6, l7⟩ := hr.2.2.2 k k0 k1
  have hwW : hW G (glt S k 1) := ⟨l1.1, l1.2⟩
  have hrc := h_sdr hg (h_opW hwW).1
  have r0 : 0 ≤ grc G (glt S k 1) ∧ grc G (glt S k 1) < 12 := ⟨hrc.1, by have := hrc.2; unfold grc; omega⟩
  have hLS : gnL S ≤ 256 := by
    have h2 : gnL S ≤ gnL (hha G S k) := by
      unfold hha hhk
      have h3 : gnL (hcl (gsL S k 5 2) (grc G (glt S k 1)) (glt S k 6)) = gnL S := hk_hcl
      have hsu' : ∀ X m, gnL X ≤ gnL (hsu G X m) := fun X m => (fr_hsu (G := G) (n := m) (S := X)).2.2.1
      have hte' : ∀ X m, gnL X ≤ gnL (hte G X m) := fun X m => (fr_hte (G := G) (n := m) (S := X)).2.2.1
      have hch' : ∀ X m, gnL X ≤ gnL (hch G X m) := by
        intro X m
        unfold hch
        split
        · exact (fr_hbr (G := G) (n := m) (S := X)).2.2.1
        · split
          · exact (fr_gse (G := G) (n := m) (S := X)).2.2.1
          · rw [hk_gsE]
            exact (fr_gse (G := G) (n := m) (S := X)).2.2.1
      have grj' : ∀ X m e, gnL (grj G X m e) = gnL X := by
        intro X m e
        unfold grj
        split <;> rfl
      generalize hcl (gsL S k 5 2) (grc G (glt S k 1)) (glt S k 6) = T at h3
      rw [← h3]
      split
      · unfold gcn
        split
        · rw [hk_gse]
          omega
        · simp only
          split
          · rw [hk_gsN, hk_gse, hk_gsE]
            omega
          · rw [hk_gse, hk_gsE]
            omega
      · split
        · exact (fr_hbg (G := G)).2.2.1
        · split
          · unfold han
            split
            · rw [hk_gse]
              omega
            · split
              · have := hte' (grj G T (grc G (glt S k 1)) (glt S k 1 / 2)) (grc G (glt S k 1))
                rw [grj'] at this
                exact this
              · rw [hk_gse, grj']
                omega
          · split
            · have := hsu' (gbt G (gsN T (grc G (glt S k 1)) 6 (-1)) (grc G (glt S k 1)) (glt S k 1 / 2) (glt S k 1 / 2)) (grc G (glt S k 1))
              rw [gbt_L, hk_gsN] at this
              exact this
            · split
              · have := hte' (grj G T (grc G (glt S k 1)) (glt S k 1 / 2)) (grc G (glt S k 1))
                rw [grj'] at this
                exact this
              · split
                · unfold hhe
                  split
                  · have := hsu' (gbt G (gsN T (grc G (glt S k 1)) 7 (gnd T (grc G (glt S k 1)) 7 - 1)) (grc G (glt S k 1)) (glt T k 3) (glt S k 1 / 2)) (grc G (glt S k 1))
                    rw [gbt_L, hk_gsN] at this
                    exact this
                  · split
                    · exact hch' _ _
                    · split
                      · exact Int.le_refl _
                      · exact Int.le_refl _
                · exact hch' _ _
    omega
  have hrT := hRs_T (n := grc G (glt S k 1)) hr k0 k1
  have hr7 : gnd (hcl (gsL S k 5 2) (grc G (glt S k 1)) (glt S k 6)) (grc G (glt S k 1)) 7 = gnd S (grc G (glt S k 1)) 7 := congrFun (hN_hcl (S := gsL S k 5 2) (n := grc G (glt S k 1)) (d := glt S k 6) (by decide)) _
  have hLT : gnL (hcl (gsL S k 5 2) (grc G (glt S k 1)) (glt S k 6)) = gnL S := hk_hcl
  have key := m_hk (S := hcl (gsL S k 5 2) (grc G (glt S k 1)) (glt S k 6)) (μ := μ) (n := grc G (glt S k 1)) (e := glt S k 1 / 2) (k := k) hg hw hrT r0.1 r0.2 (by omega) (by omega) k0 (by rw [hLT]; exact k1) (by rw [hLT]; exact hLS) (by rw [hr7]; exact r7 _) hL
  obtain ⟨n0, n1, n2, n3, n4, n5, n6, n9⟩ := hr.2.1 (grc G (glt S k 1))
  have e6 : glt (gsL S k 5 2) k 6 = glt S k 6 := by simp [glt, gsL]
  have e9 : gnd (gsL S k 5 2) (grc G (glt S k 1)) 9 = gnd S (grc G (glt S k 1)) 9 := rfl
  rw [jl_241, m_lt1 k0 k1 (by omega), z_b1, m_lt1 k0 k1 (by omega), z_b1, m_rc (by omega) (by omega), z_b1, s_l5 (v := 2) k0 k1 (by omega) zl2, z_bo, m_lt6 (S := gsL S k 5 2) k0 k1 (by show gnL S ≤ 260; omega), z_b1, m_nd9 r0.1 r0.2, z_b1, e6, e9, i_le (zR_of (by omega)) (zR_of (by omega)), m_half (by omega) (by omega)]
  unfold hha
  unfold hcl at key ⊢
  rw [e9] at key ⊢
  by_cases q : glt S k 6 ≤ gnd S (grc G (glt S k 1)) 9
  · rw [if_neg (by omega)] at key
    rw [if_pos q, if_neg (by omega)]
    exact key
  · rw [if_pos (by omega)] at key
    rw [if_neg q, if_pos (by omega), m_lt6 (S := gsL S k 5 2) k0 k1 (by show gnL S ≤ 260; omega), z_b1, e6, m_sN9 (v := glt S k 6) r0.1 r0.2 rfl, z_b0]
    exact key
