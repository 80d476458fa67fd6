/-! m: a way's first letter is taken -/
theorem m_fi {G : gG} {S : gS} {μ : ax_M} {w : Int} (hg : hGok G) (hr : hRs G S) (hL : gnL S ≤ 256) (h0 : 0 ≤ w) (h1 : w < 60) : aJ 207 [.ref 207, .int (zI w)] [] (mM G S μ) = some (some (.int (zI (gfi S w))), mM G S μ) := by
  have hL0 := hr.2.2.1
  have hE := hg.2.2.2.1
  have loop : ∀ m l : Nat, l + m = (gnL S).toNat → gfiR S w l = -1 → aJ 208 [.ref 207, .int (zI w), .int (zI l)] [] (mM G S μ) = some (some (.int (zI (gfi S w))), mM G S μ) := by
    intro m
    induction m with
    | zero =>
      intro l hl hn
      rw [jl_208, l_L, z_bo, i_le (zR_of (by omega)) (zR_of (by omega)), if_pos (by omega), jl_210]
      unfold gfi
      rw [show (gnL S).toNat = l by omega, hn]
      rfl
    | succ m ih =>
      intro l hl hn
      have hlL : (l : Int) < gnL S := by omega
      obtain ⟨l0, l1, l2, l3, l4, l5, l6, l7⟩ := hr.2.2.2 l (by omega) hlL
      have h3 : zI (l : Int) + (1 : Int32) = zI ((l + 1 : Nat) : Int) := zI_add l 1
      have stay : ∀ (p : Nat), gfiR S w (l + 1) ≠ -1 → gfiR S w (l + 1 + p) = gfiR S w (l + 1) := by
        intro p hp
        induction p with
        | zero => rfl
        | succ p ih2 =>
          rw [show l + 1 + (p + 1) = l + 1 + p + 1 by omega, gfiR, ih2, if_pos hp]
      rw [jl_208, l_L, z_bo, i_le (zR_of (by omega)) (zR_of (by omega)), if_neg (by omega), m_lt5 (by omega) hlL (by omega), z_b1, j_eq rfl zl0 (zR_of (by omega)) (zR_of (by omega))]
      by_cases q5 : glt S l 5 = 0
      · rw [if_pos q5, m_lt1 (by omega) hlL (by omega), z_b1, i_eq (zR_of (by omega)) (zR_of (by omega))]
        by_cases q1 : glt S l 1 = w
        · rw [if_pos q1]
          have e1 : gfiR S w (l + 1) = l := by
            rw [gfiR, if_neg (fun q => q hn), if_pos ⟨q5, q1⟩]
          have e2 : gfi S w = l := by
            unfold gfi
            rw [show (gnL S).toNat = l + 1 + m by omega, stay m (by rw [e1]; omega), e1]
          rw [e2]
        · rw [if_neg q1, jl_209, h3]
          refine ih (l + 1) (by omega) ?_
          rw [gfiR, if_neg (fun q => q hn), if_neg (fun q => q1 q.2)]
      · rw [if_neg q5, jl_209, h3]
        refine ih (l + 1) (by omega) ?_
        rw [gfiR, if_neg (fun q => q hn), if_neg (fun q => q5 q.1)]
  rw [jl_207]
  exact loop (gnL S).toNat 0 (by omega) rfl
theorem m_exp {G : gG} {S : gS} (hg : hGok G) (h : hI G S 0) : ∀ n, -900 ≤ gnd S n 7 ∧ gnd S n 7 ≤ 900 := by
  intro n
  have := h_exp hg h n
  omega
theorem m_dr {G : gG} {μ : ax_M} {n : Int} (hg : hGok G) (hw : hGw G) (h0 : 0 ≤ n) (h1 : n < 12) : ∀ (f : Nat) (S : gS), hI G S 0 → hQn G n S → hRs G S → hOc S → hcD S ≤ f → aJ 291 [.ref 207, .int (zI n), .int (zI (gra G S n))] [] (mM G S μ) = some (some (.int (zI 0)), mM G (hdr G n f S) μ) ∧ hRs G (hdr G n f S) ∧ hOc (hdr G n f S) := by
  intro f
  induction f with
  | zero =>
    intro S hi hq hr ho hc
    have hcn := h_cnt hg hi (by omega)
    have h2 := (h_dr hg (n := n) 0 S hi hq hc).2.2
    unfold hdr at h2 ⊢
    rw [h2]
    refine ⟨?_, hr, ho⟩
    rw [jl_291, j_eq rfl zlm (zR_of (by omega)) (zR_of (by omega)), if_pos rfl, jl_292]
    rfl
  | succ f ih =>
    intro S hi hq hr ho hc
    have hcn := h_cnt hg hi (by omega)
    have hgr := h_gra (G := G) (S := S) (n := n) hcn.1
    unfold hdr
    by_cases hk : gra G S n = -1
    · rw [if_pos hk, hk]
      refine ⟨?_, hr, ho⟩
      rw [jl_291, j_eq rfl zlm (zR_of (by omega)) (zR_of (by omega)), if_pos rfl, jl_292]
      rfl
    · rw [if_neg hk]
      rcases hgr with h2 | h2
      · exact absurd h2.1 hk
      · obtain ⟨a1, a2, a3, a4, a5⟩ := h2
        have hkd := (h_letW hi a1 a2).2.2.1 a3
        have hf : ∀ j, 0 ≤ j → j < gra G S n → glt S j 1 = glt S (gra G S n) 1 → glt S j 5 ≠ 0 := by
          intro j j0 j1 j2 j3
          have := h_letF hi j _ j0 j1 a2 j2 j3
          omega
        have hst := h_step hg hi hq a1 a2 (by omega) hf a5 a4 (fun q => by omega)
        have hhq := h_hha hg hi a1 a2 (by omega) hf a5 (fun q => by omega)
        have hv := hV_ha hg hi hr ho a1 a2 (by omega) hhq.1 hhq.2
        have hc2 := h_cnt hg hhq.1 (by omega)
        have h3 := h_cD hcn.1 a1 a2 a3 hst.2.2.1
        have ih' := ih (hha G S (gra G S n)) hst.1 hst.2.1 hv.1 hv.2 (by omega)
        refine ⟨?_, ih'.2⟩
        rw [jl_291, j_eq rfl zlm (zR_of (by omega)) (zR_of (by omega)), if_neg hk, m_ha hg hw hr a1 a2 (m_exp hg hi) (by omega), z_b0, m_ra hg hv.1 (hO_of hv.2 hc2.1 (by omega)) (by omega) h0 h1, z_b1]
        exact ih'.1
theorem m_ta {G : gG} {S : gS} {μ : ax_M} {w : Int} (hg : hGok G) (hw : hGw G) (h : hV G S) (hk : gfi S w ≠ -1) : aJ 285 [.ref 207, .int (zI w)] [] (mM G S μ) = some (some (.int (zI (hta G S w).1)), mM G (hta G S w).2 μ) ∧ hV G (hta G S w).2 := by
  have hta0 := h_ta hg h.1 h.2.1 hk
  obtain ⟨hi, hq, hr, ho, hlt0⟩ := h
  have hcn := h_cnt hg hi (by omega)
  have hE := hg.2.2.2.1
  have hN := hg.2.1
  rcases h_gfi (S := S) (w := w) hcn.1 with h1 | h1
  · exact absurd h1.1 hk
  obtain ⟨k0, k1, k2, k3, k4⟩ := h1
  have hlW := h_letW hi k0 k1
  have hw' : hW G w := by rw [← k3]; exact hlW.1
  have hw0 : 0 ≤ w ∧ w < 60 := ⟨hw'.1, by have := hw'.2; omega⟩
  have hrn : 0 ≤ grc G w ∧ grc G w < gN G := h_sdr hg (h_opW hw').1
  have hst := h_nd hi (grc G w)
  obtain ⟨l0, l1, l2, l3, l4, l5, l6, l7⟩ := hr.2.2.2 _ k0 k1
  have rk : zR (glt S (gfi S w) 0) := zR_of (by omega)
  have key : ∀ S1, hI G S1 0 → hQ G S1 → hRs G S1 → hOc S1 → gfi S w < gnL S1 → (∀ j f, 0 ≤ j → j ≤ gfi S w → glt S1 j f = glt S j f) → aJ 289 [.ref 207, .int (zI (gfi S w)), .int (zI (grc G w))] [] (mM G S1 μ) = some (some (.int (zI (if gwh G S1 (gfi S w) ≠ 0 then (gwh G S1 (gfi S w), gdef S1 (gfi S w)) else (0, hdr G (grc G w) 256 (hha G S1 (gfi S w)))).1)), mM G (if gwh G S1 (gfi S w) ≠ 0 then (gwh G S1 (gfi S w), gdef S1 (gfi S w)) else (0, hdr G (grc G w) 256 (hha G S1 (gfi S w)))).2 μ) ∧ hRs G (if gwh G S1 (gfi S w) ≠ 0 then (gwh G S1 (gfi S w), gdef S1 (gfi S w)) else (0, hdr G (grc G w) 256 (hha G S1 (gfi S w)))).2 ∧ hOc (if gwh G S1 (gfi S w) ≠ 0 then (gwh G S1 (gfi S w), gdef S1 (gfi S w)) else (0, hdr G (grc G w) 256 (hha G S1 (gfi S w)))).2 := by
    intro S1 h1 hq1 hr1 ho1 hk1 hlt
    have hc1 := h_cnt hg h1 (by omega)
    have e1 : glt S1 (gfi S w) 1 = w := by rw [hlt _ 1 k0 (by omega)]; exact k3
    have e5 : glt S1 (gfi S w) 5 = 0 := by rw [hlt _ 5 k0 (by omega)]; exact k2
    have hf : ∀ j, 0 ≤ j → j < gfi S w → glt S1 j 1 = glt S1 (gfi S w) 1 → glt S1 j 5 ≠ 0 := by
      intro j j0 j1 j2 j3
      rw [e1, hlt j 1 j0 (by omega)] at j2
      rw [hlt j 5 j0 (by omega)] at j3
      exact k4 j j0 j1 ⟨j3, j2⟩
    have hwr : 0 ≤ gwh G S1 (gfi S w) ∧ gwh G S1 (gfi S w) ≤ 3 := by
      unfold gwh
      simp only
      split
      · split <;> omega
      · split
        · split <;> omega
        · split
          · split <;> omega
          · omega
    have hd1 := ho1.1
    have hd2 := (hO_of ho1 hc1.1 (by omega)).1
    rw [jl_289, m_wn hg hr1 (by omega) k0 hk1, z_b1, j_eq rfl zl0 (zR_of (by omega)) (zR_of (by omega))]
    by_cases hr0 : gwh G S1 (gfi S w) = 0
    · have hr0' : ¬ gwh G S1 (gfi S w) ≠ 0 := fun q => q hr0
      rw [if_pos hr0, if_neg hr0']
      have h2 := h_step (n := grc G w) hg h1 (fun j a b c _ => hq1 j a b c) k0 hk1 (by omega) hf hr0 (by rw [e1]) (fun _ j a b c _ => hq1 j a b c)
      have hhq := h_hha hg h1 k0 hk1 (by omega) hf hr0 (fun _ j a b c _ => hq1 j a b c)
      have hv := hV_ha hg h1 hr1 ho1 k0 hk1 (by omega) hhq.1 hhq.2
      have hc2 := h_cnt hg h2.1 (by omega)
      have hdr' := m_dr (μ := μ) (n := grc G w) hg hw hrn.1 (by omega) 256 _ h2.1 h2.2.1 hv.1 hv.2 (by
        have := pct_le (P := fun j => glt (hha G S1 (gfi S w)) j 5 = 1) (D := fun _ => inferInstance) (m := (gnL (hha G S1 (gfi S w))).toNat)
        unfold hcD
        omega)
      refine ⟨?_, hdr'.2⟩
      rw [jl_290, m_ha hg hw hr1 k0 hk1 (m_exp hg h1) (by omega), z_b0, m_ra hg hv.1 (hO_of hv.2 hc2.1 (by omega)) (by omega) hrn.1 (by omega), z_b1]
      exact hdr'.1
    · rw [if_neg hr0, if_pos hr0]
      refine ⟨?_, rs_gdef hr1, hOc_def ho1 k0 hk1 e5⟩
      have h3 : zI (gdf S1) + (1 : Int32) = zI (gdf S1 + 1) := zI_add (gdf S1) 1
      have hsD : ax_st ax_sh (mM G S1 μ) 209 384 (zI (gdf S1) + (1 : Int32)) = some (mM G (gsD S1 (gdf S1 + 1)) μ) := by
        rw [h3]
        refine (z_st209 (z := 384) (by omega) (by omega)).trans ?_
        exact congrArg some w_D
      have eD : gdf (gsL (gsD S1 (gdf S1 + 1)) (gfi S w) 5 1) = gdf S1 + 1 := rfl
      rw [l_D, z_bo, hsD, z_bo, s_l5 (S := gsD S1 (gdf S1 + 1)) (v := 1) k0 hk1 (by show gnL S1 ≤ 260; omega) zl1, z_bo, l_D, z_bo, eD, s_l7 (S := gsL (gsD S1 (gdf S1 + 1)) (gfi S w) 5 1) (v := gdf S1 + 1) k0 hk1 (by show gnL S1 ≤ 260; omega) rfl, z_bo]
      rfl
  have hres : aJ 285 [.ref 207, .int (zI w)] [] (mM G S μ) = some (some (.int (zI (hta G S w).1)), mM G (hta G S w).2 μ) ∧ hRs G (hta G S w).2 ∧ hOc (hta G S w).2 := by
    rw [jl_285, m_fi hg hr (by omega) hw0.1 hw0.2, z_b1, m_rc hw0.1 hw0.2, z_b1, m_lt0 k0 k1 (by omega), z_b1, j_eq rfl zl0 rk (zR_of (by omega))]
    unfold hta
    simp only
    have hwk : gnd S (grc G w) 0 = 0 → aJ 219 [.ref 207, .int (zI (grc G w))] [] (mM G S μ) = some (none, mM G (gwk G S (grc G w)) μ) := by
      intro q
      have hv := hV_wk hg ⟨hi, hq, hr, ho, hlt0⟩ hrn.1 hrn.2 q
      have hc := h_cnt hg hv.1 (by omega)
      exact m_wk hg hw hr.1 hrn.1 (by omega) hcn.1 (by omega)
    have h288 : (glt S (gfi S w) 0 = 0 ∨ glt S (gfi S w) 0 = 2) → aJ 286 [.ref 207, .int (zI (gfi S w)), .int (zI (grc G w))] [] (mM G S μ) = aJ 289 [.ref 207, .int (zI (gfi S w)), .int (zI (grc G w))] [] (mM G (if (glt S (gfi S w) 0 = 0 ∨ glt S (gfi S w) 0 = 2) ∧ gnd S (grc G w) 0 = 0 then gwk G S (grc G w) else S) μ) := by
      intro q
      rw [jl_286, jl_288, if_neg (by decide), m_nd0 hrn.1 (by omega), z_b1, j_eq rfl zl0 (zR_of (by omega)) (zR_of (by omega))]
      by_cases qs : gnd S (grc G w) 0 = 0
      · rw [if_pos qs, if_pos ⟨q, qs⟩, hwk qs, z_b0]
      · rw [if_neg qs, if_neg (fun x => qs x.2)]
    have hfin := key (if (glt S (gfi S w) 0 = 0 ∨ glt S (gfi S w) 0 = 2) ∧ gnd S (grc G w) 0 = 0 then gwk G S (grc G w) else S) (by
      split
      · next q => exact (hV_wk hg ⟨hi, hq, hr, ho, hlt0⟩ hrn.1 hrn.2 q.2).1
      · exact hi) (by
      split
      · next q => exact (hV_wk hg ⟨hi, hq, hr, ho, hlt0⟩ hrn.1 hrn.2 q.2).2.1
      · exact hq) (by
      split
      · next q => exact (hV_wk hg ⟨hi, hq, hr, ho, hlt0⟩ hrn.1 hrn.2 q.2).2.2.1
      · exact hr) (by
      split
      · next q => exact (hV_wk hg ⟨hi, hq, hr, ho, hlt0⟩ hrn.1 hrn.2 q.2).2.2.2.1
      · exact ho) (by
      split
      · next q =>
        have := (h_wk hg hi hrn.1 hrn.2 q.2).2.1.2.2.1
        omega
      · exact k1) (by
      split
      · next q => exact fun j f j0 j1 => (h_wk hg hi hrn.1 hrn.2 q.2).2.1.2.2.2.1 j f (by omega)
      · exact fun _ _ _ _ => rfl)
    by_cases q0 : glt S (gfi S w) 0 = 0
    · rw [if_pos q0, h288 (Or.inl q0)]
      exact hfin
    · rw [if_neg q0, m_lt0 k0 k1 (by omega), z_b1, j_eq rfl zl2 rk (zR_of (by omega))]
      by_cases q2 : glt S (gfi S w) 0 = 2
      · rw [if_pos q2, h288 (Or.inr q2)]
        exact hfin
      · have hcond : ¬ ((glt S (gfi S w) 0 = 0 ∨ glt S (gfi S w) 0 = 2) ∧ gnd S (grc G w) 0 = 0) := by
          rintro ⟨x | x, _⟩
          · exact q0 x
          · exact q2 x
        rw [if_neg q2, jl_287, jl_288, if_pos rfl, if_neg hcond]
        rw [if_neg hcond] at hfin
        exact hfin
  exact ⟨hres.1, hta0.1, hta0.2, hres.2.1, hres.2.2, lt_ta hg hi hq hk hlt0⟩
