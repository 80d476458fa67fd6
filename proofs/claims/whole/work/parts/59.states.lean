/-! h: steps of a state keep its invariant: CHANGE, CONNECT, BEGIN (printed by wip/gen/gen59.py) -/
theorem h_chg {G : gG} {S T : gS} {k b : Int} (hg : hGok G) (h : hI G S 0) (hb : hW G b) (k0 : 0 ≤ k) (k1 : k < gnL S) (k2 : glt S k 5 ≠ 2) (k4 : glt S k 1 = gop b) (hf : ∀ j, 0 ≤ j → j < k → glt S j 1 = glt S k 1 → glt S j 5 ≠ 0) (hT : hTk S T k) (k3 : glt S k 0 = 6) : hI G (hch G T (gsd G b)) 0 := by
  obtain ⟨om, ps, dl, dn, af, c0, pd, rp, rv, fw, cl, cw, tk, fl, fc, hj, hx, hp⟩ := h
  obtain ⟨t0, t1, t2, t3, t4, t5, t6, t7, te, tn, l0, l1, l2, l3, l4, l5⟩ := hT
  have hoo : gop (hL S 1 k) = b := by
    show gop (glt S k 1) = b
    rw [k4]
    exact (h_opW hb).2.1
  have hw1 : hL S 1 k = gop b := k4
  have hed1 : hed (gop b) = hed b := (h_opW hb).2.2.1
  have y0 : ∀ m, gnd T m 0 = gnd S m 0 := fun m => congrFun t0 m
  have y1 : ∀ m, gnd T m 1 = gnd S m 1 := fun m => congrFun t1 m
  have y2 : ∀ m, gnd T m 2 = gnd S m 2 := fun m => congrFun t2 m
  have y3 : ∀ m, gnd T m 3 = gnd S m 3 := fun m => congrFun t3 m
  have y4 : ∀ m, gnd T m 4 = gnd S m 4 := fun m => congrFun t4 m
  have y5 : ∀ m, gnd T m 5 = gnd S m 5 := fun m => congrFun t5 m
  have y6 : ∀ m, gnd T m 6 = gnd S m 6 := fun m => congrFun t6 m
  have y7 : ∀ m, gnd T m 7 = gnd S m 7 := fun m => congrFun t7 m
  have z0 : ∀ m, glt T m 0 = glt S m 0 := fun m => congrFun l0 m
  have z1 : ∀ m, glt T m 1 = glt S m 1 := fun m => congrFun l1 m
  have z2 : ∀ m, glt T m 2 = glt S m 2 := fun m => congrFun l2 m
  have z3 : ∀ m, glt T m 3 = glt S m 3 := fun m => congrFun l3 m
  have z4 : ∀ m, glt T m 4 = glt S m 4 := fun m => congrFun l4 m
  have z5 : ∀ m, m ≠ k → glt T m 5 = glt S m 5 := fun m hm => (congrFun l5 m).trans (pu_ne hm)
  have z5k : glt T k 5 = 2 := (congrFun l5 k).trans pu_at
  have X := pf_hch (h_G hg) hp.1 hb k0 k1 k2 k3 k4 hf (pg_N0 hj) (pg_N2 hj) (pg_C2 hj) (pg_A2 hj) (pg_PD hj) (pg_L5 hj) (pg_L6 hj) (pg_L6u hj)
  obtain ⟨f0, f1, f2, f3, f4, f5, f6, f7, f8, f9, f10, f11, f12, f13, f14, f15, f16, f17, f18⟩ := X
  have hk : hK G T om ps dl dn af c0 pd rp rv fw cl cw tk hNo fl fc 0 := ⟨(by
      unfold hJ
      simp only [hN_gsN, hN_gsE, hN_gsL, hN_gsD, hN_gse, hE_gsN, hE_gsE, hE_gsL, hE_gsD, hE_gse, hE_hcl, hL_gsN, hL_gsE, hL_gsL, hL_gsD, hL_hcl, hL_gse0, hL_gse1, hL_gse2, hL_gse3, hL_gse4, hL_gse5, hk_gsN, hk_gsE, hk_gsL, hk_gsD, hk_gse, hk_hcl, Int.reduceEq, reduceIte, hN_hcl, ne_eq, not_false_eq_true, Int.reduceNeg, t0, t1, t2, t3, t4, t5, t6, t7, te, tn, l0, l1, l2, l3, l4, l5]
      exact pk_ch (h_G hg) hp.1 hb k0 k1 k2 k3 k4 hf hj), (by
      intro m; have := hx m; simp only [hN_gsN, hN_gsE, hN_gsL, hN_gsD, hN_gse, hE_gsN, hE_gsE, hE_gsL, hE_gsD, hE_gse, hE_hcl, hL_gsN, hL_gsE, hL_gsL, hL_gsD, hL_hcl, hL_gse0, hL_gse1, hL_gse2, hL_gse3, hL_gse4, hL_gse5, hk_gsN, hk_gsE, hk_gsL, hk_gsD, hk_gse, hk_hcl, Int.reduceEq, reduceIte, hN_hcl, ne_eq, not_false_eq_true, Int.reduceNeg, t0, t1, t2, t3, t4, t5, t6, t7, te, tn, l0, l1, l2, l3, l4, l5]; exact this), (by
      have h2 := hp.1; have h3 := hp.2; unfold hP; simp only [hN_gsN, hN_gsE, hN_gsL, hN_gsD, hN_gse, hE_gsN, hE_gsE, hE_gsL, hE_gsD, hE_gse, hE_hcl, hL_gsN, hL_gsE, hL_gsL, hL_gsD, hL_hcl, hL_gse0, hL_gse1, hL_gse2, hL_gse3, hL_gse4, hL_gse5, hk_gsN, hk_gsE, hk_gsL, hk_gsD, hk_gse, hk_hcl, Int.reduceEq, reduceIte, hN_hcl, ne_eq, not_false_eq_true, Int.reduceNeg, t0, t1, t2, t3, t4, t5, t6, t7, te, tn, l0, l1, l2, l3, l4, l5]; omega)⟩
  refine h_hch hg hk hb rfl f0 f1 (by rw [y0]; exact f2) f3 (by rw [y1]; exact f4) (by rw [y1]; exact f5) (by rw [y2]; exact f6) (by rw [y2]; exact f7) (by rw [y0]; exact f8) (by rw [y1]; exact f9) (by rw [y1]; exact f10) (by rw [y2]; exact f11) (by rw [te]; exact f12) (by rw [te]; exact f13) (by rw [y1]; exact f14) ?_ ?_ (by rw [y2]; intro h1; exact absurd h1 f17) (by rw [y4]; exact f18)
  · intro j h1 h2 h3 h4
    have hjk : j ≠ k := by
      intro e
      rw [e] at h3
      exact h3 z5k
    rw [z5 j hjk] at h3
    rw [z0] at h4
    rw [z1, y2, y2]
    rw [tn] at h2
    exact f15 j h1 h2 h3 h4 hjk
  · intro j h1 h2 h3 h4
    have hjk : j ≠ k := by
      intro e
      rw [e] at h3
      exact h3 z5k
    rw [z5 j hjk] at h3
    rw [z0] at h4
    rw [z1]
    rw [tn] at h2
    exact f16 j h1 h2 h3 h4

theorem h_rps {G : gG} {S T : gS} {k b : Int} (hg : hGok G) (h : hI G S 0) (hb : hW G b) (k0 : 0 ≤ k) (k1 : k < gnL S) (k2 : glt S k 5 ≠ 2) (k4 : glt S k 1 = gop b) (hf : ∀ j, 0 ≤ j → j < k → glt S j 1 = glt S k 1 → glt S j 5 ≠ 0) (hT : hTk S T k) (k3 : glt S k 0 = 5) (ki : gnd S (gsd G b) 3 = hed b) (ks : gnd S (gsd G b) 0 ≠ 1) (kl : gli G (gnd S (gsd G b) 5) (glt S k 3) = true) : hI G (hch G T (gsd G b)) 0 := by
  obtain ⟨om, ps, dl, dn, af, c0, pd, rp, rv, fw, cl, cw, tk, fl, fc, hj, hx, hp⟩ := h
  obtain ⟨t0, t1, t2, t3, t4, t5, t6, t7, te, tn, l0, l1, l2, l3, l4, l5⟩ := hT
  have hoo : gop (hL S 1 k) = b := by
    show gop (glt S k 1) = b
    rw [k4]
    exact (h_opW hb).2.1
  have hw1 : hL S 1 k = gop b := k4
  have hed1 : hed (gop b) = hed b := (h_opW hb).2.2.1
  have y0 : ∀ m, gnd T m 0 = gnd S m 0 := fun m => congrFun t0 m
  have y1 : ∀ m, gnd T m 1 = gnd S m 1 := fun m => congrFun t1 m
  have y2 : ∀ m, gnd T m 2 = gnd S m 2 := fun m => congrFun t2 m
  have y3 : ∀ m, gnd T m 3 = gnd S m 3 := fun m => congrFun t3 m
  have y4 : ∀ m, gnd T m 4 = gnd S m 4 := fun m => congrFun t4 m
  have y5 : ∀ m, gnd T m 5 = gnd S m 5 := fun m => congrFun t5 m
  have y6 : ∀ m, gnd T m 6 = gnd S m 6 := fun m => congrFun t6 m
  have y7 : ∀ m, gnd T m 7 = gnd S m 7 := fun m => congrFun t7 m
  have z0 : ∀ m, glt T m 0 = glt S m 0 := fun m => congrFun l0 m
  have z1 : ∀ m, glt T m 1 = glt S m 1 := fun m => congrFun l1 m
  have z2 : ∀ m, glt T m 2 = glt S m 2 := fun m => congrFun l2 m
  have z3 : ∀ m, glt T m 3 = glt S m 3 := fun m => congrFun l3 m
  have z4 : ∀ m, glt T m 4 = glt S m 4 := fun m => congrFun l4 m
  have z5 : ∀ m, m ≠ k → glt T m 5 = glt S m 5 := fun m hm => (congrFun l5 m).trans (pu_ne hm)
  have z5k : glt T k 5 = 2 := (congrFun l5 k).trans pu_at
  have X := pf_hrs (h_G hg) hp.1 hb k0 k1 k2 k3 k4 hf ki ks kl h_li (pg_R hj) (pg_N0 hj) (pg_N1 hj) (pg_N2 hj) (pg_N5 hj) (pg_C2 hj) (pg_R3a hj) (pg_E1 hj) (pg_A2 hj) (pg_PD hj) (pg_CC hj) (pg_RP hj) (pg_RP1 hj) (pg_TK hj) (pg_K2 hj) (pg_WH hj) (pg_L1 hj) (pg_L5 hj) (pg_L5o hj) (pg_L5u hj) (pg_L6 hj)
  obtain ⟨f0, f1, f2, f3, f4, f5, f6, f7, f8, f9, f10, f11, f12, f13, f14, f15, f16, f17⟩ := X
  have hk : hK G T om ps dl dn af c0 pd (pu rp (gop b) 2) rv fw cl cw (pu tk (hN S 2 (gsd G b)) 1) hNo fl fc 0 := ⟨(by
      unfold hJ
      simp only [hN_gsN, hN_gsE, hN_gsL, hN_gsD, hN_gse, hE_gsN, hE_gsE, hE_gsL, hE_gsD, hE_gse, hE_hcl, hL_gsN, hL_gsE, hL_gsL, hL_gsD, hL_hcl, hL_gse0, hL_gse1, hL_gse2, hL_gse3, hL_gse4, hL_gse5, hk_gsN, hk_gsE, hk_gsL, hk_gsD, hk_gse, hk_hcl, Int.reduceEq, reduceIte, hN_hcl, ne_eq, not_false_eq_true, Int.reduceNeg, t0, t1, t2, t3, t4, t5, t6, t7, te, tn, l0, l1, l2, l3, l4, l5]
      exact pk_rs (h_G hg) hp.1 hb k0 k1 k2 k3 k4 hf ki ks kl hj), (by
      intro m; have := hx m; simp only [hN_gsN, hN_gsE, hN_gsL, hN_gsD, hN_gse, hE_gsN, hE_gsE, hE_gsL, hE_gsD, hE_gse, hE_hcl, hL_gsN, hL_gsE, hL_gsL, hL_gsD, hL_hcl, hL_gse0, hL_gse1, hL_gse2, hL_gse3, hL_gse4, hL_gse5, hk_gsN, hk_gsE, hk_gsL, hk_gsD, hk_gse, hk_hcl, Int.reduceEq, reduceIte, hN_hcl, ne_eq, not_false_eq_true, Int.reduceNeg, t0, t1, t2, t3, t4, t5, t6, t7, te, tn, l0, l1, l2, l3, l4, l5]; exact this), (by
      have h2 := hp.1; have h3 := hp.2; unfold hP; simp only [hN_gsN, hN_gsE, hN_gsL, hN_gsD, hN_gse, hE_gsN, hE_gsE, hE_gsL, hE_gsD, hE_gse, hE_hcl, hL_gsN, hL_gsE, hL_gsL, hL_gsD, hL_hcl, hL_gse0, hL_gse1, hL_gse2, hL_gse3, hL_gse4, hL_gse5, hk_gsN, hk_gsE, hk_gsL, hk_gsD, hk_gse, hk_hcl, Int.reduceEq, reduceIte, hN_hcl, ne_eq, not_false_eq_true, Int.reduceNeg, t0, t1, t2, t3, t4, t5, t6, t7, te, tn, l0, l1, l2, l3, l4, l5]; omega)⟩
  have htw : gnd S (gsd G b) 4 ≠ -1 := fun q => f17 ((pg_N10 hj (gsd G b)).mpr q)
  refine h_hch hg hk hb rfl f0 f1 (by rw [y0]; exact f2) f3 (by rw [y1]; exact f4) (by rw [y1]; exact f5) (by rw [y2]; exact pu_at) (by rw [y2]; exact f6) (by rw [y0]; exact f7) (by rw [y1]; exact f8) (by rw [y1]; exact f9) (by rw [y2]; exact f10) (by rw [te]; exact f11) (by rw [te]; exact f12) (by rw [y1]; exact f13) ?_ ?_ (by rw [y2]; intro h1; rw [← h1]; exact pu_at) (by rw [y4]; exact htw)
  · intro j h1 h2 h3 h4
    have hjk : j ≠ k := by
      intro e
      rw [e] at h3
      exact h3 z5k
    rw [z5 j hjk] at h3
    rw [z0] at h4
    rw [z1, y2, y2]
    rw [tn] at h2
    exact f14 j h1 h2 h3 h4
  · intro j h1 h2 h3 h4 h5
    have hjk : j ≠ k := by
      intro e
      rw [e] at h3
      exact h3 z5k
    rw [z5 j hjk] at h3
    rw [z0] at h4
    rw [z1] at h5
    rw [tn] at h2
    exact hjk (f15 j h1 h2 h3 h4 h5)

theorem h_rep {G : gG} {S T : gS} {k b : Int} (hg : hGok G) (h : hI G S 0) (hb : hW G b) (k0 : 0 ≤ k) (k1 : k < gnL S) (k2 : glt S k 5 ≠ 2) (k4 : glt S k 1 = gop b) (hf : ∀ j, 0 ≤ j → j < k → glt S j 1 = glt S k 1 → glt S j 5 ≠ 0) (hT : hTk S T k) (k3 : glt S k 0 = 5) (ks : gnd S (gsd G b) 3 = hed b → gnd S (gsd G b) 0 ≠ 1) : hI G (hhe G T (gsd G b) (hed b) (glt S k 3)) 0 := by
  have hT' := hT
  have h' := h
  obtain ⟨t0, t1, t2, t3, t4, t5, t6, t7, te, tn, l0, l1, l2, l3, l4, l5⟩ := hT
  have hoo : gop (hL S 1 k) = b := by
    show gop (glt S k 1) = b
    rw [k4]
    exact (h_opW hb).2.1
  have hw1 : hL S 1 k = gop b := k4
  have hed1 : hed (gop b) = hed b := (h_opW hb).2.2.1
  have y0 : ∀ m, gnd T m 0 = gnd S m 0 := fun m => congrFun t0 m
  have y1 : ∀ m, gnd T m 1 = gnd S m 1 := fun m => congrFun t1 m
  have y2 : ∀ m, gnd T m 2 = gnd S m 2 := fun m => congrFun t2 m
  have y3 : ∀ m, gnd T m 3 = gnd S m 3 := fun m => congrFun t3 m
  have y4 : ∀ m, gnd T m 4 = gnd S m 4 := fun m => congrFun t4 m
  have y5 : ∀ m, gnd T m 5 = gnd S m 5 := fun m => congrFun t5 m
  have y6 : ∀ m, gnd T m 6 = gnd S m 6 := fun m => congrFun t6 m
  have y7 : ∀ m, gnd T m 7 = gnd S m 7 := fun m => congrFun t7 m
  have z0 : ∀ m, glt T m 0 = glt S m 0 := fun m => congrFun l0 m
  have z1 : ∀ m, glt T m 1 = glt S m 1 := fun m => congrFun l1 m
  have z2 : ∀ m, glt T m 2 = glt S m 2 := fun m => congrFun l2 m
  have z3 : ∀ m, glt T m 3 = glt S m 3 := fun m => congrFun l3 m
  have z4 : ∀ m, glt T m 4 = glt S m 4 := fun m => congrFun l4 m
  have z5 : ∀ m, m ≠ k → glt T m 5 = glt S m 5 := fun m hm => (congrFun l5 m).trans (pu_ne hm)
  have z5k : glt T k 5 = 2 := (congrFun l5 k).trans pu_at
  unfold hhe
  rw [y3, y5]
  by_cases ki : gnd S (gsd G b) 3 = hed b
  · rw [if_neg (fun q => q ki.symm)]
    by_cases kl : gli G (gnd S (gsd G b) 5) (glt S k 3) = true
    · rw [if_pos kl]
      exact h_rps hg h hb k0 k1 k2 k4 hf hT' k3 ki (ks ki) kl
    · rw [if_neg kl]
      have h2 := h_rpn hg h hb k0 k1 k2 k4 hf hT' k3 ki (ks ki)
      split
      · exact h2.2
      · exact h2.1
  · rw [if_pos (fun q => ki q.symm)]
    exact h_rpc hg h hb k0 k1 k2 k4 hf hT' k3 ki

theorem h_mrg {G : gG} {S T : gS} {k b : Int} (hg : hGok G) (h : hI G S 0) (hb : hW G b) (k0 : 0 ≤ k) (k1 : k < gnL S) (k2 : glt S k 5 ≠ 2) (k4 : glt S k 1 = gop b) (hf : ∀ j, 0 ≤ j → j < k → glt S j 1 = glt S k 1 → glt S j 5 ≠ 0) (hT : hTk S T k) (k3 : glt S k 0 = 0) (kl : ¬ glt S k 2 < gnd S (gsd G b) 1) (ke : gen S b ≠ 0) : hI G (gse G T (gsd G b) (hed b) 1 (gnd S (gsd G b) 1 + 1) (hed b) 1) 0 := by
  obtain ⟨om, ps, dl, dn, af, c0, pd, rp, rv, fw, cl, cw, tk, fl, fc, hj, hx, hp⟩ := h
  obtain ⟨t0, t1, t2, t3, t4, t5, t6, t7, te, tn, l0, l1, l2, l3, l4, l5⟩ := hT
  have hoo : gop (hL S 1 k) = b := by
    show gop (glt S k 1) = b
    rw [k4]
    exact (h_opW hb).2.1
  have hw1 : hL S 1 k = gop b := k4
  have hed1 : hed (gop b) = hed b := (h_opW hb).2.2.1
  have y0 : ∀ m, gnd T m 0 = gnd S m 0 := fun m => congrFun t0 m
  have y1 : ∀ m, gnd T m 1 = gnd S m 1 := fun m => congrFun t1 m
  have y2 : ∀ m, gnd T m 2 = gnd S m 2 := fun m => congrFun t2 m
  have y3 : ∀ m, gnd T m 3 = gnd S m 3 := fun m => congrFun t3 m
  have y4 : ∀ m, gnd T m 4 = gnd S m 4 := fun m => congrFun t4 m
  have y5 : ∀ m, gnd T m 5 = gnd S m 5 := fun m => congrFun t5 m
  have y6 : ∀ m, gnd T m 6 = gnd S m 6 := fun m => congrFun t6 m
  have y7 : ∀ m, gnd T m 7 = gnd S m 7 := fun m => congrFun t7 m
  have z0 : ∀ m, glt T m 0 = glt S m 0 := fun m => congrFun l0 m
  have z1 : ∀ m, glt T m 1 = glt S m 1 := fun m => congrFun l1 m
  have z2 : ∀ m, glt T m 2 = glt S m 2 := fun m => congrFun l2 m
  have z3 : ∀ m, glt T m 3 = glt S m 3 := fun m => congrFun l3 m
  have z4 : ∀ m, glt T m 4 = glt S m 4 := fun m => congrFun l4 m
  have z5 : ∀ m, m ≠ k → glt T m 5 = glt S m 5 := fun m hm => (congrFun l5 m).trans (pu_ne hm)
  have z5k : glt T k 5 = 2 := (congrFun l5 k).trans pu_at
  have hgw : gwy G (gsd G b) (hed b) = b := h_wy hg hb
  have hdq : dl (gsd G (gop b)) = hN S 1 (gsd G (gop b)) := (pf_mg (h_G hg) hp.1 hb k0 k1 k2 k3 k4 hf hNo_no kl ke (pg_N0 hj) (pg_ER hj) (pg_N2 hj) (pg_C1 hj) (pg_C2 hj) (pg_A1 hj) (pg_A2 hj) (pg_EC hj) (pg_Z0 hj) (pg_L0 hj)).2.2.2.2.1
  have hlq : hN S 1 (gsd G (gop b)) = hN S 1 (gsd G b) := (pf_mg (h_G hg) hp.1 hb k0 k1 k2 k3 k4 hf hNo_no kl ke (pg_N0 hj) (pg_ER hj) (pg_N2 hj) (pg_C1 hj) (pg_C2 hj) (pg_A1 hj) (pg_A2 hj) (pg_EC hj) (pg_Z0 hj) (pg_L0 hj)).2.2.2.2.2.1
  have hb1 := h_sdN hg (h_opW hb).1
  have hph : psm (pfi (hN S 0) (hN S 1) ps dl af) (gN G).toNat + 1 ≤ psm (pfi (hN S 0) (hN S 1) ps (pu dl (gsd G (gop b)) (hN S 1 (gsd G b) + 1)) af) (gN G).toNat := h_phi (n := gsd G (gop b)) (fun i hi => ⟨rfl, rfl, rfl, (pu_ne hi).symm, rfl⟩) hb1.1 hb1.2 (by
    unfold pfi
    rw [pu_at, hdq, hlq]
    omega)
  exact ⟨om, ps, pu dl (gsd G (gop b)) (hN S 1 (gsd G b) + 1), pu dn (gsd G (gop b)) (hed b), af, c0, pd, rp, rv, fw, pu cl (hed b) (gnd S (gsd G b) 1 + 1), cw, tk, fl, fc, (by
      unfold hJ
      simp only [hN_gsN, hN_gsE, hN_gsL, hN_gsD, hN_gse, hE_gsN, hE_gsE, hE_gsL, hE_gsD, hE_gse, hE_hcl, hL_gsN, hL_gsE, hL_gsL, hL_gsD, hL_hcl, hL_gse0, hL_gse1, hL_gse2, hL_gse3, hL_gse4, hL_gse5, hk_gsN, hk_gsE, hk_gsL, hk_gsD, hk_gse, hk_hcl, Int.reduceEq, reduceIte, hN_hcl, ne_eq, not_false_eq_true, Int.reduceNeg, t0, t1, t2, t3, t4, t5, t6, t7, te, tn, l0, l1, l2, l3, l4, l5, hgw]
      exact pk_mg (h_G hg) hp.1 hb k0 k1 k2 k3 k4 hf hNo_no kl ke hj), (by
      intro m; have := hx m; simp only [hN_gsN, hN_gsE, hN_gsL, hN_gsD, hN_gse, hE_gsN, hE_gsE, hE_gsL, hE_gsD, hE_gse, hE_hcl, hL_gsN, hL_gsE, hL_gsL, hL_gsD, hL_hcl, hL_gse0, hL_gse1, hL_gse2, hL_gse3, hL_gse4, hL_gse5, hk_gsN, hk_gsE, hk_gsL, hk_gsD, hk_gse, hk_hcl, Int.reduceEq, reduceIte, hN_hcl, ne_eq, not_false_eq_true, Int.reduceNeg, t0, t1, t2, t3, t4, t5, t6, t7, te, tn, l0, l1, l2, l3, l4, l5]; exact this), (by
      have h2 := hp.1; have h3 := hp.2; unfold hP; simp only [hN_gsN, hN_gsE, hN_gsL, hN_gsD, hN_gse, hE_gsN, hE_gsE, hE_gsL, hE_gsD, hE_gse, hE_hcl, hL_gsN, hL_gsE, hL_gsL, hL_gsD, hL_hcl, hL_gse0, hL_gse1, hL_gse2, hL_gse3, hL_gse4, hL_gse5, hk_gsN, hk_gsE, hk_gsL, hk_gsD, hk_gse, hk_hcl, Int.reduceEq, reduceIte, hN_hcl, ne_eq, not_false_eq_true, Int.reduceNeg, t0, t1, t2, t3, t4, t5, t6, t7, te, tn, l0, l1, l2, l3, l4, l5]; omega)⟩

theorem h_abs {G : gG} {S T : gS} {k b : Int} (hg : hGok G) (h : hI G S 0) (hb : hW G b) (k0 : 0 ≤ k) (k1 : k < gnL S) (k2 : glt S k 5 ≠ 2) (k4 : glt S k 1 = gop b) (hf : ∀ j, 0 ≤ j → j < k → glt S j 1 = glt S k 1 → glt S j 5 ≠ 0) (hT : hTk S T k) (k3 : glt S k 0 = 0) (kl : glt S k 2 < gnd S (gsd G b) 1) : hI G (if gnd S (gsd G b) 0 = 1 then gsN (gse G (gsE T b 1) (gsd G b) (hed b) 1 (gnd S (gsd G b) 1) (gnd S (gsd G b) 2) (gnd S (gsd G b) 0)) (gsd G b) 7 (gnd S (gsd G b) 7 + 1) else gse G (gsE T b 1) (gsd G b) (hed b) 1 (gnd S (gsd G b) 1) (gnd S (gsd G b) 2) (gnd S (gsd G b) 0)) 0 := by
  obtain ⟨om, ps, dl, dn, af, c0, pd, rp, rv, fw, cl, cw, tk, fl, fc, hj, hx, hp⟩ := h
  obtain ⟨t0, t1, t2, t3, t4, t5, t6, t7, te, tn, l0, l1, l2, l3, l4, l5⟩ := hT
  have hoo : gop (hL S 1 k) = b := by
    show gop (glt S k 1) = b
    rw [k4]
    exact (h_opW hb).2.1
  have hw1 : hL S 1 k = gop b := k4
  have hed1 : hed (gop b) = hed b := (h_opW hb).2.2.1
  have y0 : ∀ m, gnd T m 0 = gnd S m 0 := fun m => congrFun t0 m
  have y1 : ∀ m, gnd T m 1 = gnd S m 1 := fun m => congrFun t1 m
  have y2 : ∀ m, gnd T m 2 = gnd S m 2 := fun m => congrFun t2 m
  have y3 : ∀ m, gnd T m 3 = gnd S m 3 := fun m => congrFun t3 m
  have y4 : ∀ m, gnd T m 4 = gnd S m 4 := fun m => congrFun t4 m
  have y5 : ∀ m, gnd T m 5 = gnd S m 5 := fun m => congrFun t5 m
  have y6 : ∀ m, gnd T m 6 = gnd S m 6 := fun m => congrFun t6 m
  have y7 : ∀ m, gnd T m 7 = gnd S m 7 := fun m => congrFun t7 m
  have z0 : ∀ m, glt T m 0 = glt S m 0 := fun m => congrFun l0 m
  have z1 : ∀ m, glt T m 1 = glt S m 1 := fun m => congrFun l1 m
  have z2 : ∀ m, glt T m 2 = glt S m 2 := fun m => congrFun l2 m
  have z3 : ∀ m, glt T m 3 = glt S m 3 := fun m => congrFun l3 m
  have z4 : ∀ m, glt T m 4 = glt S m 4 := fun m => congrFun l4 m
  have z5 : ∀ m, m ≠ k → glt T m 5 = glt S m 5 := fun m hm => (congrFun l5 m).trans (pu_ne hm)
  have z5k : glt T k 5 = 2 := (congrFun l5 k).trans pu_at
  have hgw : gwy G (gsd G b) (hed b) = b := h_wy hg hb
  have X := pf_ab (h_G hg) hp.1 hb k0 k1 k2 k3 k4 hf hNo_no (F2 := fun v => v = b) (fun v => Iff.rfl) kl (pg_N0 hj) (pg_N1 hj) (pg_N2 hj) (pg_C2 hj) (pg_U hj) (pg_A1 hj) (pg_A2 hj) (pg_L0 hj)
  obtain ⟨f0, f1, f2, f3, f4, f5, f6, f7, f8, f9, f10, f11⟩ := X
  have hpd : pd b = 0 := by
    have h1 := pg_PD hj b hb
    rcases h1.1 with h2 | h2
    · exact h2
    · exact absurd (h1.2 h2).2.1 f7
  have hnm : hN S 2 (gsd G b) ≠ hed b := by
    intro h1
    have h2 := pg_C1 hj (gsd G b) (by have := (pg_N0 hj (gsd G (gop b))).2.1; omega)
    rw [h1, f11] at h2
    have := (pg_N0 hj (gsd G (gop b))).2.1
    omega
  have hb1 := h_sdN hg (h_opW hb).1
  have hb2 := h_wN hb
  have hph : psm (pfi (hN S 0) (hN S 1) ps dl af) (gN G).toNat + 1 ≤ psm (pfi (hN S 0) (hN S 1) ps (pu dl (gsd G (gop b)) (hN S 1 (gsd G b))) af) (gN G).toNat := h_phi (n := gsd G (gop b)) (fun i hi => ⟨rfl, rfl, rfl, (pu_ne hi).symm, rfl⟩) hb1.1 hb1.2 (by
    unfold pfi
    rw [pu_at]
    omega)
  by_cases hst : gnd S (gsd G b) 0 = 1
  · rw [if_pos hst]
    have J := pk_ex (b := gsd G b) (k := gnd S (gsd G b) 7 + 1) (h_G hg) (by have := hp.1; omega) hst (pk_sf (F := fun v => v = b) (F2 := hNo) (h_G hg) hp.1 hb rfl (fun v => ⟨fun h => h.elim, fun h => h.2 h.1⟩) f8 pu_at hpd hnm hst (pk_ab (F2 := fun v => v = b) (h_G hg) hp.1 hb k0 k1 k2 k3 k4 hf hNo_no (fun v => Iff.rfl) kl hj))
    exact ⟨om, ps, pu dl (gsd G (gop b)) (hN S 1 (gsd G b)), pu dn (gsd G (gop b)) (hN S 2 (gsd G b)), af, c0, pu pd b 1, rp, rv, fw, cl, cw, tk, hN S 1 (gsd G (gop b)), hN S 2 (gsd G (gop b)), (by
      unfold hJ
      simp only [hN_gsN, hN_gsE, hN_gsL, hN_gsD, hN_gse, hE_gsN, hE_gsE, hE_gsL, hE_gsD, hE_gse, hE_hcl, hL_gsN, hL_gsE, hL_gsL, hL_gsD, hL_hcl, hL_gse0, hL_gse1, hL_gse2, hL_gse3, hL_gse4, hL_gse5, hk_gsN, hk_gsE, hk_gsL, hk_gsD, hk_gse, hk_hcl, Int.reduceEq, reduceIte, hN_hcl, ne_eq, not_false_eq_true, Int.reduceNeg, t0, t1, t2, t3, t4, t5, t6, t7, te, tn, l0, l1, l2, l3, l4, l5, hgw]
      exact J), (by
      intro m
      have h1 := hx m
      have h2 := h_pd (sd := gsd G) (pd := pd) (v := 1) (n := m) hb2.1 hb2.2
      simp only [hN_gsN, hN_gsE, hN_gsL, hN_gsD, hN_gse, hE_gsN, hE_gsE, hE_gsL, hE_gsD, hE_gse, hE_hcl, hL_gsN, hL_gsE, hL_gsL, hL_gsD, hL_hcl, hL_gse0, hL_gse1, hL_gse2, hL_gse3, hL_gse4, hL_gse5, hk_gsN, hk_gsE, hk_gsL, hk_gsD, hk_gse, hk_hcl, Int.reduceEq, reduceIte, hN_hcl, ne_eq, not_false_eq_true, Int.reduceNeg, t0, t1, t2, t3, t4, t5, t6, t7, te, tn, l0, l1, l2, l3, l4, l5, h2, hpd]
      have h3 : hN S 7 m = psm (fun w => if gsd G w = m then pd w else 0) (2 * gE G).toNat := h1
      by_cases h4 : m = gsd G b
      · rw [h4, pu_at, if_pos rfl]
        rw [h4] at h3
        have h5 : gnd S (gsd G b) 7 = hN S 7 (gsd G b) := rfl
        omega
      · rw [pu_ne h4, if_neg (fun q => h4 q.symm)]
        omega), (by
      have h2 := hp.1; have h3 := hp.2; unfold hP; simp only [hN_gsN, hN_gsE, hN_gsL, hN_gsD, hN_gse, hE_gsN, hE_gsE, hE_gsL, hE_gsD, hE_gse, hE_hcl, hL_gsN, hL_gsE, hL_gsL, hL_gsD, hL_hcl, hL_gse0, hL_gse1, hL_gse2, hL_gse3, hL_gse4, hL_gse5, hk_gsN, hk_gsE, hk_gsL, hk_gsD, hk_gse, hk_hcl, Int.reduceEq, reduceIte, hN_hcl, ne_eq, not_false_eq_true, Int.reduceNeg, t0, t1, t2, t3, t4, t5, t6, t7, te, tn, l0, l1, l2, l3, l4, l5]; omega)⟩
  · rw [if_neg hst]
    have hst2 : gnd S (gsd G b) 0 = 2 := by
      have h1 : hN S 0 (gsd G b) ≠ 1 := hst
      have h2 := (pg_N0 hj (gsd G b)).1
      have h3 : hN S 0 (gsd G b) ≠ 0 := f9
      rcases h2 with h2 | h2 | h2
      · exact absurd h2 h3
      · exact absurd h2 h1
      · exact h2
    have J := pk_sg (F := fun v => v = b) (F2 := hNo) (h_G hg) hp.1 hb rfl (fun v => ⟨fun h => h.elim, fun h => h.2 h.1⟩) f8 pu_at hpd hnm hst2 (pk_ab (F2 := fun v => v = b) (h_G hg) hp.1 hb k0 k1 k2 k3 k4 hf hNo_no (fun v => Iff.rfl) kl hj)
    exact ⟨om, ps, pu dl (gsd G (gop b)) (hN S 1 (gsd G b)), pu dn (gsd G (gop b)) (hN S 2 (gsd G b)), af, c0, pd, rp, rv, fw, cl, cw, tk, hN S 1 (gsd G (gop b)), hN S 2 (gsd G (gop b)), (by
      unfold hJ
      simp only [hN_gsN, hN_gsE, hN_gsL, hN_gsD, hN_gse, hE_gsN, hE_gsE, hE_gsL, hE_gsD, hE_gse, hE_hcl, hL_gsN, hL_gsE, hL_gsL, hL_gsD, hL_hcl, hL_gse0, hL_gse1, hL_gse2, hL_gse3, hL_gse4, hL_gse5, hk_gsN, hk_gsE, hk_gsL, hk_gsD, hk_gse, hk_hcl, Int.reduceEq, reduceIte, hN_hcl, ne_eq, not_false_eq_true, Int.reduceNeg, t0, t1, t2, t3, t4, t5, t6, t7, te, tn, l0, l1, l2, l3, l4, l5, hgw]
      exact J), (by
      intro m; have := hx m; simp only [hN_gsN, hN_gsE, hN_gsL, hN_gsD, hN_gse, hE_gsN, hE_gsE, hE_gsL, hE_gsD, hE_gse, hE_hcl, hL_gsN, hL_gsE, hL_gsL, hL_gsD, hL_hcl, hL_gse0, hL_gse1, hL_gse2, hL_gse3, hL_gse4, hL_gse5, hk_gsN, hk_gsE, hk_gsL, hk_gsD, hk_gse, hk_hcl, Int.reduceEq, reduceIte, hN_hcl, ne_eq, not_false_eq_true, Int.reduceNeg, t0, t1, t2, t3, t4, t5, t6, t7, te, tn, l0, l1, l2, l3, l4, l5]; exact this), (by
      have h2 := hp.1; have h3 := hp.2; unfold hP; simp only [hN_gsN, hN_gsE, hN_gsL, hN_gsD, hN_gse, hE_gsN, hE_gsE, hE_gsL, hE_gsD, hE_gse, hE_hcl, hL_gsN, hL_gsE, hL_gsL, hL_gsD, hL_hcl, hL_gse0, hL_gse1, hL_gse2, hL_gse3, hL_gse4, hL_gse5, hk_gsN, hk_gsE, hk_gsL, hk_gsD, hk_gse, hk_hcl, Int.reduceEq, reduceIte, hN_hcl, ne_eq, not_false_eq_true, Int.reduceNeg, t0, t1, t2, t3, t4, t5, t6, t7, te, tn, l0, l1, l2, l3, l4, l5]; omega)⟩

theorem h_con {G : gG} {S T : gS} {k b : Int} (hg : hGok G) (h : hI G S 0) (hb : hW G b) (k0 : 0 ≤ k) (k1 : k < gnL S) (k2 : glt S k 5 ≠ 2) (k4 : glt S k 1 = gop b) (hf : ∀ j, 0 ≤ j → j < k → glt S j 1 = glt S k 1 → glt S j 5 ≠ 0) (hT : hTk S T k) (k3 : glt S k 0 = 0) (kr : glt S k 2 < gnd S (gsd G b) 1 ∨ gen S b ≠ 0) : hI G (gcn G T (gsd G b) (hed b) (glt S k 2)) 0 := by
  have hT' := hT
  obtain ⟨t0, t1, t2, t3, t4, t5, t6, t7, te, tn, l0, l1, l2, l3, l4, l5⟩ := hT
  have y0 : ∀ m, gnd T m 0 = gnd S m 0 := fun m => congrFun t0 m
  have y1 : ∀ m, gnd T m 1 = gnd S m 1 := fun m => congrFun t1 m
  have y2 : ∀ m, gnd T m 2 = gnd S m 2 := fun m => congrFun t2 m
  have y3 : ∀ m, gnd T m 3 = gnd S m 3 := fun m => congrFun t3 m
  have y4 : ∀ m, gnd T m 4 = gnd S m 4 := fun m => congrFun t4 m
  have y5 : ∀ m, gnd T m 5 = gnd S m 5 := fun m => congrFun t5 m
  have y6 : ∀ m, gnd T m 6 = gnd S m 6 := fun m => congrFun t6 m
  have y7 : ∀ m, gnd T m 7 = gnd S m 7 := fun m => congrFun t7 m
  have z0 : ∀ m, glt T m 0 = glt S m 0 := fun m => congrFun l0 m
  have z1 : ∀ m, glt T m 1 = glt S m 1 := fun m => congrFun l1 m
  have z2 : ∀ m, glt T m 2 = glt S m 2 := fun m => congrFun l2 m
  have z3 : ∀ m, glt T m 3 = glt S m 3 := fun m => congrFun l3 m
  have z4 : ∀ m, glt T m 4 = glt S m 4 := fun m => congrFun l4 m
  have z5 : ∀ m, m ≠ k → glt T m 5 = glt S m 5 := fun m hm => (congrFun l5 m).trans (pu_ne hm)
  have z5k : glt T k 5 = 2 := (congrFun l5 k).trans pu_at
  have hgw : gwy G (gsd G b) (hed b) = b := h_wy hg hb
  unfold gcn
  rw [y1]
  by_cases kl : glt S k 2 < gnd S (gsd G b) 1
  · rw [if_neg (by omega)]
    have h1 := h_abs hg h hb k0 k1 k2 k4 hf hT' k3 kl
    have e7 : gnd (gse G (gsE T b 1) (gsd G b) (hed b) 1 (gnd S (gsd G b) 1) (gnd S (gsd G b) 2) (gnd S (gsd G b) 0)) (gsd G b) 7 = gnd S (gsd G b) 7 := y7 _
    simp only [hgw, y2, y0]
    rw [e7]
    exact h1
  · rw [if_pos (by omega)]
    exact h_mrg hg h hb k0 k1 k2 k4 hf hT' k3 kl (kr.resolve_left kl)
