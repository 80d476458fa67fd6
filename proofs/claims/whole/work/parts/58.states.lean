/-! h: steps of a state keep its invariant (printed by wip/gen/gen58.py) -/
theorem h_phi {st lv ps dl af st' lv' ps' dl' af' : Int → Int} {n d : Int} {N : Nat} (h : ∀ i, i ≠ n → st i = st' i ∧ lv i = lv' i ∧ ps i = ps' i ∧ dl i = dl' i ∧ af i = af' i) (h0 : 0 ≤ n) (h1 : n < N) (hd : pfi st lv ps dl af n + d ≤ pfi st' lv' ps' dl' af' n) : psm (pfi st lv ps dl af) N + d ≤ psm (pfi st' lv' ps' dl' af') N := by
  refine h_psm (a := n) ?_ h0 h1 hd
  intro i hi
  obtain ⟨a, b, c, d, e⟩ := h i hi
  unfold pfi
  rw [a, b, c, d, e]
theorem h_sdN {G : gG} (hg : hGok G) {b : Int} (hb : hW G b) : 0 ≤ gsd G b ∧ gsd G b < ((gN G).toNat : Int) := by
  have h := h_sdr hg hb
  omega
theorem h_wN {G : gG} {b : Int} (hb : hW G b) : 0 ≤ b ∧ b < ((2 * gE G).toNat : Int) := by
  have h := hb
  unfold hW at h
  omega
theorem h_pd0 {G : gG} {S : gS} {om ps dl dn af c0 pd rp rv fw cl cw tk : Int → Int} {F : Int → Prop} {fl fc n : Int} (hj : hJ G S om ps dl dn af c0 pd rp rv fw cl cw tk F fl fc) (hx : hX G S pd) (h7 : gnd S n 7 = 0) : ∀ v, hW G v → gsd G v = n → pd v = 0 := by
  intro v hv hs
  have h1 := psm_zero (f := fun w => if gsd G w = n then pd w else 0) (m := (2 * gE G).toNat) (by
    intro i h2 h3
    have := (pg_PD hj i ⟨h2, by omega⟩).1
    simp only
    split <;> omega) ((hx n).symm.trans h7) v (h_wN hv).1 (h_wN hv).2
  simp only [if_pos hs] at h1
  exact h1

theorem h_su {G : gG} {S : gS} {n c : Int} (hg : hGok G) (h : hI G S c) (hst : gnd S n 0 = 1) : hI G (hsu G S n) c := by
  unfold hsu
  by_cases h1 : gnd S n 7 ≠ 0 ∨ gnd S n 6 ≠ -1
  · rw [if_pos h1]
    exact h
  rw [if_neg h1]
  have h7 : gnd S n 7 = 0 := by omega
  have h6 : gnd S n 6 = -1 := by omega
  obtain ⟨om, ps, dl, dn, af, c0, pd, rp, rv, fw, cl, cw, tk, fl, fc, hj, hx, hp⟩ := h
  obtain ⟨b, hb, hs, he⟩ := pg_N4e hj n (pg_R3a hj n hst).2
  subst hs
  have he' : gnd S (gsd G b) 3 = hed b := he.symm
  have hi3 : gnd S (gsd G b) 3 ≠ -1 := by
    rw [he']
    have := hb.1
    unfold hed
    omega
  rw [if_neg hi3]
  have hp0 := h_pd0 hj hx h7
  have hb1 := h_sdN hg hb
  have hph : psm (pfi (hN S 0) (hN S 1) ps dl af) (gN G).toNat + 1 ≤ psm (pfi (pu (hN S 0) (gsd G b) 2) (hN S 1) ps dl af) (gN G).toNat := h_phi (n := gsd G b) (fun i hi => ⟨(pu_ne hi).symm, rfl, rfl, rfl, rfl⟩) hb1.1 hb1.2 (by
    unfold pfi
    rw [pu_at]
    have : hN S 0 (gsd G b) = 1 := hst
    rw [this]
    simp
    omega)
  by_cases hn : gnd S (gsd G b) 2 = hed b
  · exact ⟨om, ps, dl, dn, af, c0, pd, pu rp b 1, pu rv b (gnd S (gsd G b) 5), fw, cl, cw, tk, fl, fc, (by
      unfold hJ
      simp only [hN_gsN, hN_gsE, hN_gsL, hN_gsD, hN_gse, hE_gsN, hE_gsE, hE_gsL, hE_gsD, hE_gse, hE_hcl, hL_gsN, hL_gsE, hL_gsL, hL_gsD, hL_hcl, hL_gse0, hL_gse1, hL_gse2, hL_gse3, hL_gse4, hL_gse5, hk_gsN, hk_gsE, hk_gsL, hk_gsD, hk_gse, hk_hcl, Int.reduceEq, reduceIte, hN_hcl, ne_eq, not_false_eq_true, Int.reduceNeg, he', h_wy hg hb]
      exact pk_reb (h_G hg) hp.1 hNo_no hb hst h6 h7 hp0 he.symm hn hj), (by
      intro m; have := hx m; simp only [hN_gsN, hN_gsE, hN_gsL, hN_gsD, hN_gse, hE_gsN, hE_gsE, hE_gsL, hE_gsD, hE_gse, hE_hcl, hL_gsN, hL_gsE, hL_gsL, hL_gsD, hL_hcl, hL_gse0, hL_gse1, hL_gse2, hL_gse3, hL_gse4, hL_gse5, hk_gsN, hk_gsE, hk_gsL, hk_gsD, hk_gse, hk_hcl, Int.reduceEq, reduceIte, hN_hcl, ne_eq, not_false_eq_true, Int.reduceNeg]; exact this), (by
      have h2 := hp.1; have h3 := hp.2; unfold hP; simp only [hN_gsN, hN_gsE, hN_gsL, hN_gsD, hN_gse, hE_gsN, hE_gsE, hE_gsL, hE_gsD, hE_gse, hE_hcl, hL_gsN, hL_gsE, hL_gsL, hL_gsD, hL_hcl, hL_gse0, hL_gse1, hL_gse2, hL_gse3, hL_gse4, hL_gse5, hk_gsN, hk_gsE, hk_gsL, hk_gsD, hk_gse, hk_hcl, Int.reduceEq, reduceIte, hN_hcl, ne_eq, not_false_eq_true, Int.reduceNeg]; omega)⟩
  · exact ⟨om, ps, dl, dn, af, c0, pd, rp, rv, fw, cl, cw, tk, fl, fc, (by
      unfold hJ
      simp only [hN_gsN, hN_gsE, hN_gsL, hN_gsD, hN_gse, hE_gsN, hE_gsE, hE_gsL, hE_gsD, hE_gse, hE_hcl, hL_gsN, hL_gsE, hL_gsL, hL_gsD, hL_hcl, hL_gse0, hL_gse1, hL_gse2, hL_gse3, hL_gse4, hL_gse5, hk_gsN, hk_gsE, hk_gsL, hk_gsD, hk_gse, hk_hcl, Int.reduceEq, reduceIte, hN_hcl, ne_eq, not_false_eq_true, Int.reduceNeg, he', h_wy hg hb]
      exact pk_rea (h_G hg) hp.1 hNo_no hb hst h6 h7 hp0 he.symm hn hj), (by
      intro m; have := hx m; simp only [hN_gsN, hN_gsE, hN_gsL, hN_gsD, hN_gse, hE_gsN, hE_gsE, hE_gsL, hE_gsD, hE_gse, hE_hcl, hL_gsN, hL_gsE, hL_gsL, hL_gsD, hL_hcl, hL_gse0, hL_gse1, hL_gse2, hL_gse3, hL_gse4, hL_gse5, hk_gsN, hk_gsE, hk_gsL, hk_gsD, hk_gse, hk_hcl, Int.reduceEq, reduceIte, hN_hcl, ne_eq, not_false_eq_true, Int.reduceNeg]; exact this), (by
      have h2 := hp.1; have h3 := hp.2; unfold hP; simp only [hN_gsN, hN_gsE, hN_gsL, hN_gsD, hN_gse, hE_gsN, hE_gsE, hE_gsL, hE_gsD, hE_gse, hE_hcl, hL_gsN, hL_gsE, hL_gsL, hL_gsD, hL_hcl, hL_gse0, hL_gse1, hL_gse2, hL_gse3, hL_gse4, hL_gse5, hk_gsN, hk_gsE, hk_gsL, hk_gsD, hk_gse, hk_hcl, Int.reduceEq, reduceIte, hN_hcl, ne_eq, not_false_eq_true, Int.reduceNeg]; omega)⟩
