/-! h: steps of a state keep its invariant (printed by wip/gen/gen58.py) -/
theorem h_phi {st lv ps dl af st' lv' ps' dl' af' : Int → Int} {n d : Int} {N : Nat} (h : ∀ i, i ≠ n → st i = st' i ∧ lv i = lv' i ∧ ps i = ps' i ∧ dl i = dl' i ∧ af i = af' i) (h0 : 0 ≤ n) (h1 : n < N) (hd : pfi st lv ps dl af n + d ≤ pfi st' lv' ps' dl' af' n) : psm (pfi st lv ps dl af) N + d ≤ psm (pfi st' lv' ps' dl' af') N := by
  refine h_psm (a := n) ?_ h0 h1 hd
  intro i hi
  obtain ⟨a, b, c, d, e⟩ := h i hi
  unfold pfi
  rw [a, b, c, d, e]
theorem h_sdN {G : gG} (hg : hGok G) {b : Int} (hb : hW G b) : 0 ≤ gsd G b ∧ gsd G b < ((gN G).toNat : Int) := by
  have h := h_sdr hg hb
  omega
theorem h_wN {G : gG} {b : Int} (hb : hW G b) : 0 ≤ b ∧ b < ((2 * gE G).toNat : Int) := by
  have h := hb
  unfold hW at h
  omega
theorem h_pd0 {G : gG} {S : gS} {om ps dl dn af c0 pd rp rv fw cl cw tk : Int → Int} {F : Int → Prop} {fl fc n : Int} (hj : hJ G S om ps dl dn af c0 pd rp rv fw cl cw tk F fl fc) (hx : hX G S pd) (h7 : gnd S n 7 = 0) : ∀ v, hW G v → gsd G v = n → pd v = 0 := by
  intro v hv hs
  have h1 := psm_zero (f := fun w => if gsd G w = n then pd w else 0) (m := (2 * gE G).toNat) (by
    intro i h2 h3
    have := (pg_PD hj i ⟨h2, by omega⟩).1
    split <;> omega) ((hx n).symm.trans h7) v (h_wN hv).1 (h_wN hv).2
  simp only [if_pos hs] at h1
  exact h1

theorem h_su {G : gG} {S : gS} {n c : Int} (hg : hGok G) (h : hI G S c) (hst : gnd S n 0 = 1) : hI G (hsu G S n) c := by
  unfold hsu
  by_cases h1 : gnd S n 7 ≠ 0 ∨ gnd S n 6 ≠ -1
  · rw [if_pos h1]
    exact h
  rw [if_neg h1]
  have h7 : gnd S n 7 = 0 := by omega
  have h6 : gnd S n 6 = -1 := by omega
  obtain ⟨om, ps, dl, dn, af, c0, pd, rp, rv, fw, cl, cw, tk, fl, fc, hj, hx, hp⟩ := h
  obtain ⟨b, hb, hs, he⟩ := pg_N4e hj n (pg_R3a hj n hst).2
  subst hs
  have he' : gnd S (gsd G b) 3 = hed b := he.symm
  have hi3 : gnd S (gsd G b) 3 ≠ -1 := by
    rw [he']
    have := hb.1
    unfold hed
    omega
  rw [if_neg hi3]
  have hp0 := h_pd0 hj hx h7
  have hb1 := h_sdN hg hb
  have hph : psm (pfi (hN S 0) (hN S 1) ps dl af) (gN G).toNat + 1 ≤ psm (pfi (pu (hN S 0) (gsd G b) 2) (hN S 1) ps dl af) (gN G).toNat := h_phi (n := gsd G b) (fun i hi => ⟨(pu_ne hi).symm, rfl, rfl, rfl, rfl⟩) hb1.1 hb1.2 (by
    unfold pfi
    rw [pu_at]
    have : hN S 0 (gsd G b) = 1 := hst
    rw [this]
    simp)
  by_cases hn : gnd S (gsd G b) 2 = hed b
  · exact ⟨om, ps, dl, dn, af, c0, pd, pu rp b 1, pu rv b (gnd S (gsd G b) 5), fw, cl, cw, tk, fl, fc, (by
      unfold hJ
      simp only [hN_gsN, hN_gsE, hN_gsL, hN_gsD, hN_gse, hE_gsN, hE_gsE, hE_gsL, hE_gsD, hE_gse, hE_hcl, hL_gsN, hL_gsE, hL_gsL, hL_gsD, hL_hcl, hL_gse0, hL_gse1, hL_gse2, hL_gse3, hL_gse4, hL_gse5, hk_gsN, hk_gsE, hk_gsL, hk_gsD, hk_gse, hk_hcl, Int.reduceEq, reduceIte, hN_hcl, ne_eq, not_false_eq_true, Int.reduceNeg, he', h_wy hg hb]
      exact pk_reb (h_G hg) hp.1 hNo_no hb hst h6 h7 hp0 he.symm hn hj), (by
      intro m; have := hx m; simp only [hN_gsN, hN_gsE, hN_gsL, hN_gsD, hN_gse, hE_gsN, hE_gsE, hE_gsL, hE_gsD, hE_gse, hE_hcl, hL_gsN, hL_gsE, hL_gsL, hL_gsD, hL_hcl, hL_gse0, hL_gse1, hL_gse2, hL_gse3, hL_gse4, hL_gse5, hk_gsN, hk_gsE, hk_gsL, hk_gsD, hk_gse, hk_hcl, Int.reduceEq, reduceIte, hN_hcl, ne_eq, not_false_eq_true, Int.reduceNeg]; exact this), (by
      have h2 := hp.1; have h3 := hp.2; unfold hP; simp only [hN_gsN, hN_gsE, hN_gsL, hN_gsD, hN_gse, hE_gsN, hE_gsE, hE_gsL, hE_gsD, hE_gse, hE_hcl, hL_gsN, hL_gsE, hL_gsL, hL_gsD, hL_hcl, hL_gse0, hL_gse1, hL_gse2, hL_gse3, hL_gse4, hL_gse5, hk_gsN, hk_gsE, hk_gsL, hk_gsD, hk_gse, hk_hcl, Int.reduceEq, reduceIte, hN_hcl, ne_eq, not_false_eq_true, Int.reduceNeg]; omega)⟩
  · exact ⟨om, ps, dl, dn, af, c0, pd, rp, rv, fw, cl, cw, tk, fl, fc, (by
      unfold hJ
      simp only [hN_gsN, hN_gsE, hN_gsL, hN_gsD, hN_gse, hE_gsN, hE_gsE, hE_gsL, hE_gsD, hE_gse, hE_hcl, hL_gsN, hL_gsE, hL_gsL, hL_gsD, hL_hcl, hL_gse0, hL_gse1, hL_gse2, hL_gse3, hL_gse4, hL_gse5, hk_gsN, hk_gsE, hk_gsL, hk_gsD, hk_gse, hk_hcl, Int.reduceEq, reduceIte, hN_hcl, ne_eq, not_false_eq_true, Int.reduceNeg, he', h_wy hg hb]
      exact pk_rea (h_G hg) hp.1 hNo_no hb hst h6 h7 hp0 he.symm hn hj), (by
      intro m; have := hx m; simp only [hN_gsN, hN_gsE, hN_gsL, hN_gsD, hN_gse, hE_gsN, hE_gsE, hE_gsL, hE_gsD, hE_gse, hE_hcl, hL_gsN, hL_gsE, hL_gsL, hL_gsD, hL_hcl, hL_gse0, hL_gse1, hL_gse2, hL_gse3, hL_gse4, hL_gse5, hk_gsN, hk_gsE, hk_gsL, hk_gsD, hk_gse, hk_hcl, Int.reduceEq, reduceIte, hN_hcl, ne_eq, not_false_eq_true, Int.reduceNeg]; exact this), (by
      have h2 := hp.1; have h3 := hp.2; unfold hP; simp only [hN_gsN, hN_gsE, hN_gsL, hN_gsD, hN_gse, hE_gsN, hE_gsE, hE_gsL, hE_gsD, hE_gse, hE_hcl, hL_gsN, hL_gsE, hL_gsL, hL_gsD, hL_hcl, hL_gse0, hL_gse1, hL_gse2, hL_gse3, hL_gse4, hL_gse5, hk_gsN, hk_gsE, hk_gsL, hk_gsD, hk_gse, hk_hcl, Int.reduceEq, reduceIte, hN_hcl, ne_eq, not_false_eq_true, Int.reduceNeg]; omega)⟩

theorem h_weak {G : gG} {S : gS} {c d : Int} (h : hI G S c) (hd : d ≤ c) : hI G S d := by
  obtain ⟨om, ps, dl, dn, af, c0, pd, rp, rv, fw, cl, cw, tk, fl, fc, hj, hx, hp⟩ := h
  exact ⟨om, ps, dl, dn, af, c0, pd, rp, rv, fw, cl, cw, tk, fl, fc, hj, hx, hp.1, by have := hp.2; omega⟩
theorem gsN_self {S : gS} {n f v : Int} (h : gnd S n f = v) : gsN S n f v = S := by
  have e : (fun a b => if a = n ∧ b = f then v else S.1 a b) = S.1 := by
    funext a b
    split
    · next q => rw [q.1, q.2]; exact h.symm
    · rfl
  unfold gsN
  rw [e]
theorem gsN_gsN {S : gS} {n f v u : Int} : gsN (gsN S n f v) n f u = gsN S n f u := by
  unfold gsN
  congr 1
  funext a b
  split <;> simp_all
theorem glb_gen {G : gG} {S T : gS} {n : Int} (h : gen S = gen T) : glb G S n = glb G T n := by
  unfold glb
  generalize (gE G).toNat = m
  induction m with
  | zero => rfl
  | succ m ih =>
    unfold glbR
    rw [ih, h]
theorem hte_pre {G : gG} {S : gS} {n v : Int} : hte G (gsN S n 6 v) n = hte G S n := by
  have h1 : glb G (gsN S n 6 v) n = glb G S n := glb_gen rfl
  have h2 : gnd (gsN S n 6 v) n 1 = gnd S n 1 := by simp [gnd, gsN]
  have h3 : gnd (gsN S n 6 v) n 2 = gnd S n 2 := by simp [gnd, gsN]
  unfold hte
  rw [h1, gsN_gsN, gsN_gsN, h2, h3]
theorem h_te {G : gG} {S : gS} {n fl fc : Int} {om ps dl dn af c0 pd rp rv fw cl cw tk : Int → Int} (hg : hGok G) (h : hK G S om ps dl dn af c0 pd rp rv fw cl cw tk hNo fl fc 1) (hst : gnd S n 0 = 1) (h6 : gnd S n 6 = -1) (haf : af n = 0) (htow : ∀ w, hW G w → gsd G w = n → gnd S n 4 = hed w → gen S w = 1) : hI G (hte G S n) 0 := by
  unfold hte
  rcases h_glb hg S n with h1 | h1
  · rw [if_pos h1.1, gsN_self h6]
    exact h_su hg (h_weak ⟨om, ps, dl, dn, af, c0, pd, rp, rv, fw, cl, cw, tk, fl, fc, h⟩ (by omega)) hst
  · rw [if_neg h1.1]
    obtain ⟨h1, b, hb, hs, he, hen⟩ := h1
    subst hs
    obtain ⟨hj, hx, hp⟩ := h
    have he' : glb G S (gsd G b) = hed b := he.symm
    exact ⟨om, ps, dl, dn, af, c0, pd, rp, rv, fw, cl, cw, tk, fl, fc, (by
      unfold hJ
      simp only [hN_gsN, hN_gsE, hN_gsL, hN_gsD, hN_gse, hE_gsN, hE_gsE, hE_gsL, hE_gsD, hE_gse, hE_hcl, hL_gsN, hL_gsE, hL_gsL, hL_gsD, hL_hcl, hL_gse0, hL_gse1, hL_gse2, hL_gse3, hL_gse4, hL_gse5, hk_gsN, hk_gsE, hk_gsL, hk_gsD, hk_gse, hk_hcl, Int.reduceEq, reduceIte, hN_hcl, ne_eq, not_false_eq_true, Int.reduceNeg, he', h_wy hg hb]
      exact pk_ts (h_G hg) hp.1 hb hst h6 hen htow haf hj), (by
      intro m; have := hx m; simp only [hN_gsN, hN_gsE, hN_gsL, hN_gsD, hN_gse, hE_gsN, hE_gsE, hE_gsL, hE_gsD, hE_gse, hE_hcl, hL_gsN, hL_gsE, hL_gsL, hL_gsD, hL_hcl, hL_gse0, hL_gse1, hL_gse2, hL_gse3, hL_gse4, hL_gse5, hk_gsN, hk_gsE, hk_gsL, hk_gsD, hk_gse, hk_hcl, Int.reduceEq, reduceIte, hN_hcl, ne_eq, not_false_eq_true, Int.reduceNeg]; exact this), (by
      have h2 := hp.1; have h3 := hp.2; unfold hP; simp only [hN_gsN, hN_gsE, hN_gsL, hN_gsD, hN_gse, hE_gsN, hE_gsE, hE_gsL, hE_gsD, hE_gse, hE_hcl, hL_gsN, hL_gsE, hL_gsL, hL_gsD, hL_hcl, hL_gse0, hL_gse1, hL_gse2, hL_gse3, hL_gse4, hL_gse5, hk_gsN, hk_gsE, hk_gsL, hk_gsD, hk_gse, hk_hcl, Int.reduceEq, reduceIte, hN_hcl, ne_eq, not_false_eq_true, Int.reduceNeg]; omega)⟩

def hTk (S T : gS) (k : Int) : Prop := hN T 0 = hN S 0 ∧ hN T 1 = hN S 1 ∧ hN T 2 = hN S 2 ∧ hN T 3 = hN S 3 ∧ hN T 4 = hN S 4 ∧ hN T 5 = hN S 5 ∧ hN T 6 = hN S 6 ∧ hN T 7 = hN S 7 ∧ gen T = gen S ∧ gnL T = gnL S ∧ hL T 0 = hL S 0 ∧ hL T 1 = hL S 1 ∧ hL T 2 = hL S 2 ∧ hL T 3 = hL S 3 ∧ hL T 4 = hL S 4 ∧ hL T 5 = pu (hL S 5) k 2
theorem hTk_ok {S : gS} {k n d : Int} : hTk S (hcl (gsL S k 5 2) n d) k := by
  unfold hTk
  simp only [hN_gsN, hN_gsE, hN_gsL, hN_gsD, hN_gse, hE_gsN, hE_gsE, hE_gsL, hE_gsD, hE_gse, hE_hcl, hL_gsN, hL_gsE, hL_gsL, hL_gsD, hL_hcl, hL_gse0, hL_gse1, hL_gse2, hL_gse3, hL_gse4, hL_gse5, hk_gsN, hk_gsE, hk_gsL, hk_gsD, hk_gse, hk_hcl, Int.reduceEq, reduceIte, hN_hcl, ne_eq, not_false_eq_true, Int.reduceNeg, and_self]

theorem h_acc {G : gG} {S T : gS} {k b : Int} (hg : hGok G) (h : hI G S 0) (hb : hW G b) (k0 : 0 ≤ k) (k1 : k < gnL S) (k2 : glt S k 5 ≠ 2) (k4 : glt S k 1 = gop b) (hf : ∀ j, 0 ≤ j → j < k → glt S j 1 = glt S k 1 → glt S j 5 ≠ 0) (hT : hTk S T k) (k3 : glt S k 0 = 3) : hI G (hsu G (gbt G (gsN T (gsd G b) 6 (-1)) (gsd G b) (hed b) (hed b)) (gsd G b)) 0 := by
  obtain ⟨om, ps, dl, dn, af, c0, pd, rp, rv, fw, cl, cw, tk, fl, fc, hj, hx, hp⟩ := h
  obtain ⟨t0, t1, t2, t3, t4, t5, t6, t7, te, tn, l0, l1, l2, l3, l4, l5⟩ := hT
  have hoo : gop (hL S 1 k) = b := by
    show gop (glt S k 1) = b
    rw [k4]
    exact (h_opW hb).2.1
  have hw1 : hL S 1 k = gop b := k4
  have hed1 : hed (gop b) = hed b := (h_opW hb).2.2.1
  have hl := pg_L3 hj k k0 k1 k2 k3
  rw [hoo] at hl
  have hst : gnd S (gsd G b) 0 = 1 := hl.2.1
  have ht : gnd T (gsd G b) 0 = 1 := (congrFun t0 _).trans hst
  unfold gbt
  split
  · refine h_su hg ?_ (by simpa [gnd, gsN] using ht)
    exact ⟨om, ps, dl, dn, af, c0, pd, rp, rv, fw, cl, cw, tk, fl, fc, (by
      unfold hJ
      simp only [hN_gsN, hN_gsE, hN_gsL, hN_gsD, hN_gse, hE_gsN, hE_gsE, hE_gsL, hE_gsD, hE_gse, hE_hcl, hL_gsN, hL_gsE, hL_gsL, hL_gsD, hL_hcl, hL_gse0, hL_gse1, hL_gse2, hL_gse3, hL_gse4, hL_gse5, hk_gsN, hk_gsE, hk_gsL, hk_gsD, hk_gse, hk_hcl, Int.reduceEq, reduceIte, hN_hcl, ne_eq, not_false_eq_true, Int.reduceNeg, t0, t1, t2, t3, t4, t5, t6, t7, te, tn, l0, l1, l2, l3, l4, l5]
      exact pk_aca (h_G hg) hp.1 hb k0 k1 k2 k3 k4 hf hj), (by
      intro m; have := hx m; simp only [hN_gsN, hN_gsE, hN_gsL, hN_gsD, hN_gse, hE_gsN, hE_gsE, hE_gsL, hE_gsD, hE_gse, hE_hcl, hL_gsN, hL_gsE, hL_gsL, hL_gsD, hL_hcl, hL_gse0, hL_gse1, hL_gse2, hL_gse3, hL_gse4, hL_gse5, hk_gsN, hk_gsE, hk_gsL, hk_gsD, hk_gse, hk_hcl, Int.reduceEq, reduceIte, hN_hcl, ne_eq, not_false_eq_true, Int.reduceNeg, t0, t1, t2, t3, t4, t5, t6, t7, te, tn, l0, l1, l2, l3, l4, l5]; exact this), (by
      have h2 := hp.1; have h3 := hp.2; unfold hP; simp only [hN_gsN, hN_gsE, hN_gsL, hN_gsD, hN_gse, hE_gsN, hE_gsE, hE_gsL, hE_gsD, hE_gse, hE_hcl, hL_gsN, hL_gsE, hL_gsL, hL_gsD, hL_hcl, hL_gse0, hL_gse1, hL_gse2, hL_gse3, hL_gse4, hL_gse5, hk_gsN, hk_gsE, hk_gsL, hk_gsD, hk_gse, hk_hcl, Int.reduceEq, reduceIte, hN_hcl, ne_eq, not_false_eq_true, Int.reduceNeg, t0, t1, t2, t3, t4, t5, t6, t7, te, tn, l0, l1, l2, l3, l4, l5]; omega)⟩
  · refine h_su hg ?_ (by simpa [gnd, gsN] using ht)
    exact ⟨om, ps, dl, dn, af, c0, pd, rp, rv, fw, cl, cw, tk, fl, fc, (by
      unfold hJ
      simp only [hN_gsN, hN_gsE, hN_gsL, hN_gsD, hN_gse, hE_gsN, hE_gsE, hE_gsL, hE_gsD, hE_gse, hE_hcl, hL_gsN, hL_gsE, hL_gsL, hL_gsD, hL_hcl, hL_gse0, hL_gse1, hL_gse2, hL_gse3, hL_gse4, hL_gse5, hk_gsN, hk_gsE, hk_gsL, hk_gsD, hk_gse, hk_hcl, Int.reduceEq, reduceIte, hN_hcl, ne_eq, not_false_eq_true, Int.reduceNeg, t0, t1, t2, t3, t4, t5, t6, t7, te, tn, l0, l1, l2, l3, l4, l5]
      exact pk_acb (h_G hg) hp.1 hb k0 k1 k2 k3 k4 hf hj), (by
      intro m; have := hx m; simp only [hN_gsN, hN_gsE, hN_gsL, hN_gsD, hN_gse, hE_gsN, hE_gsE, hE_gsL, hE_gsD, hE_gse, hE_hcl, hL_gsN, hL_gsE, hL_gsL, hL_gsD, hL_hcl, hL_gse0, hL_gse1, hL_gse2, hL_gse3, hL_gse4, hL_gse5, hk_gsN, hk_gsE, hk_gsL, hk_gsD, hk_gse, hk_hcl, Int.reduceEq, reduceIte, hN_hcl, ne_eq, not_false_eq_true, Int.reduceNeg, t0, t1, t2, t3, t4, t5, t6, t7, te, tn, l0, l1, l2, l3, l4, l5]; exact this), (by
      have h2 := hp.1; have h3 := hp.2; unfold hP; simp only [hN_gsN, hN_gsE, hN_gsL, hN_gsD, hN_gse, hE_gsN, hE_gsE, hE_gsL, hE_gsD, hE_gse, hE_hcl, hL_gsN, hL_gsE, hL_gsL, hL_gsD, hL_hcl, hL_gse0, hL_gse1, hL_gse2, hL_gse3, hL_gse4, hL_gse5, hk_gsN, hk_gsE, hk_gsL, hk_gsD, hk_gse, hk_hcl, Int.reduceEq, reduceIte, hN_hcl, ne_eq, not_false_eq_true, Int.reduceNeg, t0, t1, t2, t3, t4, t5, t6, t7, te, tn, l0, l1, l2, l3, l4, l5]; omega)⟩

theorem h_rej {G : gG} {S T : gS} {k b : Int} (hg : hGok G) (h : hI G S 0) (hb : hW G b) (k0 : 0 ≤ k) (k1 : k < gnL S) (k2 : glt S k 5 ≠ 2) (k4 : glt S k 1 = gop b) (hf : ∀ j, 0 ≤ j → j < k → glt S j 1 = glt S k 1 → glt S j 5 ≠ 0) (hT : hTk S T k) (k3 : glt S k 0 = 4) : hI G (hte G (grj G T (gsd G b) (hed b)) (gsd G b)) 0 := by
  obtain ⟨om, ps, dl, dn, af, c0, pd, rp, rv, fw, cl, cw, tk, fl, fc, hj, hx, hp⟩ := h
  obtain ⟨t0, t1, t2, t3, t4, t5, t6, t7, te, tn, l0, l1, l2, l3, l4, l5⟩ := hT
  have hoo : gop (hL S 1 k) = b := by
    show gop (glt S k 1) = b
    rw [k4]
    exact (h_opW hb).2.1
  have hw1 : hL S 1 k = gop b := k4
  have hed1 : hed (gop b) = hed b := (h_opW hb).2.2.1
  have hl := pg_L4 hj k k0 k1 k2 k3
  rw [hoo, hw1, hed1] at hl
  have hst0 := hl.2.1
  have htst : hN S 6 (gsd G b) = hed b := hl.1
  have haf : af (gsd G b) = 0 := by
    rcases pg_AF hj b hb htst with h1 | ⟨j, h1, h2, h3, h4, h5⟩
    · exact h1
    · exfalso
      have h6 := pg_CV hj b j k hb h1 h2 h3 k0 k1 k2 (Or.inr (Or.inl ⟨Or.inl h4, h5⟩)) (Or.inr (Or.inl ⟨Or.inr k3, k4⟩))
      rw [h6] at h4
      have h7 : hL S 0 k = 4 := k3
      omega
  have hfw : fw b = 0 := (pg_FW hj b hb).2.2 htst
  have hst : gnd S (gsd G b) 0 = 1 := hst0
  have ht : gnd T (gsd G b) 0 = 1 := (congrFun t0 _).trans hst
  have hb2 := h_wN hb
  have hph : psm fw (2 * gE G).toNat + 1 ≤ psm (pu fw b 1) (2 * gE G).toNat := h_fw hb2.1 hb2.2 (by omega)
  have hto : ∀ w, hW G w → gsd G w = gsd G b → gnd S (gsd G b) 4 = hed w → gen S w = 1 := by
    intro w h1 h2 h3
    have h4 := pg_N11 hj w h1
    rw [h2] at h4
    by_cases h5 : gen S w = 1
    · exact h5
    · have h6 := (h4 h3 h5).2.2.2.2.1
      have h7 : hN S 6 (gsd G b) = hed b := htst
      rw [h7] at h6
      have := hb.1
      unfold hed at h6
      omega
  have hgw : gwy G (gsd G b) (hed b) = b := h_wy hg hb
  rw [← hte_pre (v := -1)]
  unfold grj
  rw [hgw, te]
  by_cases hen : gen S b = 0
  · rw [if_pos hen]
    refine h_te (om := om) (ps := ps) (dl := dl) (dn := dn) (af := af) (c0 := c0) (pd := pd) (rp := rp) (rv := rv) (fw := pu fw b 1) (cl := cl) (cw := cw) (tk := tk) (fl := fl) (fc := fc) hg ⟨(by
      unfold hJ
      simp only [hN_gsN, hN_gsE, hN_gsL, hN_gsD, hN_gse, hE_gsN, hE_gsE, hE_gsL, hE_gsD, hE_gse, hE_hcl, hL_gsN, hL_gsE, hL_gsL, hL_gsD, hL_hcl, hL_gse0, hL_gse1, hL_gse2, hL_gse3, hL_gse4, hL_gse5, hk_gsN, hk_gsE, hk_gsL, hk_gsD, hk_gse, hk_hcl, Int.reduceEq, reduceIte, hN_hcl, ne_eq, not_false_eq_true, Int.reduceNeg, t0, t1, t2, t3, t4, t5, t6, t7, te, tn, l0, l1, l2, l3, l4, l5]
      exact pk_rja (h_G hg) hp.1 hb k0 k1 k2 k3 k4 hf hNo_no hen hj), (by
      intro m; have := hx m; simp only [hN_gsN, hN_gsE, hN_gsL, hN_gsD, hN_gse, hE_gsN, hE_gsE, hE_gsL, hE_gsD, hE_gse, hE_hcl, hL_gsN, hL_gsE, hL_gsL, hL_gsD, hL_hcl, hL_gse0, hL_gse1, hL_gse2, hL_gse3, hL_gse4, hL_gse5, hk_gsN, hk_gsE, hk_gsL, hk_gsD, hk_gse, hk_hcl, Int.reduceEq, reduceIte, hN_hcl, ne_eq, not_false_eq_true, Int.reduceNeg, t0, t1, t2, t3, t4, t5, t6, t7, te, tn, l0, l1, l2, l3, l4, l5]; exact this), (by
      have h2 := hp.1; have h3 := hp.2; unfold hP; simp only [hN_gsN, hN_gsE, hN_gsL, hN_gsD, hN_gse, hE_gsN, hE_gsE, hE_gsL, hE_gsD, hE_gse, hE_hcl, hL_gsN, hL_gsE, hL_gsL, hL_gsD, hL_hcl, hL_gse0, hL_gse1, hL_gse2, hL_gse3, hL_gse4, hL_gse5, hk_gsN, hk_gsE, hk_gsL, hk_gsD, hk_gse, hk_hcl, Int.reduceEq, reduceIte, hN_hcl, ne_eq, not_false_eq_true, Int.reduceNeg, t0, t1, t2, t3, t4, t5, t6, t7, te, tn, l0, l1, l2, l3, l4, l5]; omega)⟩ (by simpa [gnd, gsN, gsE] using ht) (by simp [gnd, gsN, gsE]) haf ?_
    intro w h1 h2 h3
    have h4 : gnd S (gsd G b) 4 = hed w := by
      rw [← h3]
      have : gnd T (gsd G b) 4 = gnd S (gsd G b) 4 := congrFun t4 _
      simpa [gnd, gsN, gsE] using this.symm
    have h5 := hto w h1 h2 h4
    show (gen (gsN (gsE T b 2) (gsd G b) 6 (-1))) w = 1
    rw [hE_gsN, hE_gsE, te]
    by_cases h6 : w = b
    · rw [h6] at h5
      omega
    · rw [pu_ne h6]
      exact h5
  · rw [if_neg hen]
    refine h_te (om := om) (ps := ps) (dl := dl) (dn := dn) (af := af) (c0 := c0) (pd := pd) (rp := rp) (rv := rv) (fw := pu fw b 1) (cl := cl) (cw := cw) (tk := tk) (fl := fl) (fc := fc) hg ⟨(by
      unfold hJ
      simp only [hN_gsN, hN_gsE, hN_gsL, hN_gsD, hN_gse, hE_gsN, hE_gsE, hE_gsL, hE_gsD, hE_gse, hE_hcl, hL_gsN, hL_gsE, hL_gsL, hL_gsD, hL_hcl, hL_gse0, hL_gse1, hL_gse2, hL_gse3, hL_gse4, hL_gse5, hk_gsN, hk_gsE, hk_gsL, hk_gsD, hk_gse, hk_hcl, Int.reduceEq, reduceIte, hN_hcl, ne_eq, not_false_eq_true, Int.reduceNeg, t0, t1, t2, t3, t4, t5, t6, t7, te, tn, l0, l1, l2, l3, l4, l5]
      exact pk_rjb (h_G hg) hp.1 hb k0 k1 k2 k3 k4 hf hNo_no hen hj), (by
      intro m; have := hx m; simp only [hN_gsN, hN_gsE, hN_gsL, hN_gsD, hN_gse, hE_gsN, hE_gsE, hE_gsL, hE_gsD, hE_gse, hE_hcl, hL_gsN, hL_gsE, hL_gsL, hL_gsD, hL_hcl, hL_gse0, hL_gse1, hL_gse2, hL_gse3, hL_gse4, hL_gse5, hk_gsN, hk_gsE, hk_gsL, hk_gsD, hk_gse, hk_hcl, Int.reduceEq, reduceIte, hN_hcl, ne_eq, not_false_eq_true, Int.reduceNeg, t0, t1, t2, t3, t4, t5, t6, t7, te, tn, l0, l1, l2, l3, l4, l5]; exact this), (by
      have h2 := hp.1; have h3 := hp.2; unfold hP; simp only [hN_gsN, hN_gsE, hN_gsL, hN_gsD, hN_gse, hE_gsN, hE_gsE, hE_gsL, hE_gsD, hE_gse, hE_hcl, hL_gsN, hL_gsE, hL_gsL, hL_gsD, hL_hcl, hL_gse0, hL_gse1, hL_gse2, hL_gse3, hL_gse4, hL_gse5, hk_gsN, hk_gsE, hk_gsL, hk_gsD, hk_gse, hk_hcl, Int.reduceEq, reduceIte, hN_hcl, ne_eq, not_false_eq_true, Int.reduceNeg, t0, t1, t2, t3, t4, t5, t6, t7, te, tn, l0, l1, l2, l3, l4, l5]; omega)⟩ (by simpa [gnd, gsN, gsE] using ht) (by simp [gnd, gsN, gsE]) haf ?_
    intro w h1 h2 h3
    have h4 : gnd S (gsd G b) 4 = hed w := by
      rw [← h3]
      have : gnd T (gsd G b) 4 = gnd S (gsd G b) 4 := congrFun t4 _
      simpa [gnd, gsN, gsE] using this.symm
    show (gen (gsN T (gsd G b) 6 (-1))) w = 1
    rw [hE_gsN, te]
    exact hto w h1 h2 h4

theorem h_crs {G : gG} {S T : gS} {k b : Int} (hg : hGok G) (h : hI G S 0) (hb : hW G b) (k0 : 0 ≤ k) (k1 : k < gnL S) (k2 : glt S k 5 ≠ 2) (k4 : glt S k 1 = gop b) (hf : ∀ j, 0 ≤ j → j < k → glt S j 1 = glt S k 1 → glt S j 5 ≠ 0) (hT : hTk S T k) (k3 : glt S k 0 = 2) (kn : glt S k 3 = gnd S (gsd G b) 2) (kl : glt S k 2 ≤ gnd S (gsd G b) 1) (kt : gnd S (gsd G b) 6 = hed b) : hI G (hte G (grj G T (gsd G b) (hed b)) (gsd G b)) 0 := by
  obtain ⟨om, ps, dl, dn, af, c0, pd, rp, rv, fw, cl, cw, tk, fl, fc, hj, hx, hp⟩ := h
  obtain ⟨t0, t1, t2, t3, t4, t5, t6, t7, te, tn, l0, l1, l2, l3, l4, l5⟩ := hT
  have hoo : gop (hL S 1 k) = b := by
    show gop (glt S k 1) = b
    rw [k4]
    exact (h_opW hb).2.1
  have hw1 : hL S 1 k = gop b := k4
  have hed1 : hed (gop b) = hed b := (h_opW hb).2.2.1
  have htst : hN S 6 (gsd G b) = hed b := kt
  have hst0 : hN S 0 (gsd G b) = 1 := by
    by_cases h1 : hN S 0 (gsd G b) = 1
    · exact h1
    · have h2 := (pg_N7 hj (gsd G b) h1).1
      rw [htst] at h2
      have := hb.1
      unfold hed at h2
      omega
  have haf : af (gsd G b) = 0 := by
    rcases pg_AF hj b hb htst with h1 | ⟨j, h1, h2, h3, h4, h5⟩
    · exact h1
    · exfalso
      have g := (h_G hg).1 b hb
      have h6 := pg_L3 hj j h1 h2 h3 h4
      rw [h5, g.2.1, g.2.2.1] at h6
      rcases (pg_L2 hj k k0 k1 k2 k3).2 with h7 | h7
      · rw [hw1] at h7
        exact h6.2.2.1 (h7.2.2.1.symm.trans kn)
      · rw [hw1, g.2.2.1] at h7
        have h8 := pg_CV hj b j k hb h1 h2 h3 k0 k1 k2 (Or.inr (Or.inl ⟨Or.inl h4, h5⟩)) (Or.inr (Or.inr ⟨k3, k4, h7.1⟩))
        rw [h8] at h4
        have h9 : hL S 0 k = 2 := k3
        omega
  have hfw : fw b = 0 := (pg_FW hj b hb).2.2 htst
  have hst : gnd S (gsd G b) 0 = 1 := hst0
  have ht : gnd T (gsd G b) 0 = 1 := (congrFun t0 _).trans hst
  have hb2 := h_wN hb
  have hph : psm fw (2 * gE G).toNat + 1 ≤ psm (pu fw b 1) (2 * gE G).toNat := h_fw hb2.1 hb2.2 (by omega)
  have hto : ∀ w, hW G w → gsd G w = gsd G b → gnd S (gsd G b) 4 = hed w → gen S w = 1 := by
    intro w h1 h2 h3
    have h4 := pg_N11 hj w h1
    rw [h2] at h4
    by_cases h5 : gen S w = 1
    · exact h5
    · have h6 := (h4 h3 h5).2.2.2.2.1
      have h7 : hN S 6 (gsd G b) = hed b := htst
      rw [h7] at h6
      have := hb.1
      unfold hed at h6
      omega
  have hgw : gwy G (gsd G b) (hed b) = b := h_wy hg hb
  rw [← hte_pre (v := -1)]
  unfold grj
  rw [hgw, te]
  by_cases hen : gen S b = 0
  · rw [if_pos hen]
    refine h_te (om := om) (ps := ps) (dl := dl) (dn := dn) (af := af) (c0 := c0) (pd := pd) (rp := rp) (rv := rv) (fw := pu fw b 1) (cl := cl) (cw := cw) (tk := tk) (fl := fl) (fc := fc) hg ⟨(by
      unfold hJ
      simp only [hN_gsN, hN_gsE, hN_gsL, hN_gsD, hN_gse, hE_gsN, hE_gsE, hE_gsL, hE_gsD, hE_gse, hE_hcl, hL_gsN, hL_gsE, hL_gsL, hL_gsD, hL_hcl, hL_gse0, hL_gse1, hL_gse2, hL_gse3, hL_gse4, hL_gse5, hk_gsN, hk_gsE, hk_gsL, hk_gsD, hk_gse, hk_hcl, Int.reduceEq, reduceIte, hN_hcl, ne_eq, not_false_eq_true, Int.reduceNeg, t0, t1, t2, t3, t4, t5, t6, t7, te, tn, l0, l1, l2, l3, l4, l5]
      exact pk_txa (h_G hg) hp.1 hb k0 k1 k2 k3 k4 hf hNo_no kn kl kt hen hj), (by
      intro m; have := hx m; simp only [hN_gsN, hN_gsE, hN_gsL, hN_gsD, hN_gse, hE_gsN, hE_gsE, hE_gsL, hE_gsD, hE_gse, hE_hcl, hL_gsN, hL_gsE, hL_gsL, hL_gsD, hL_hcl, hL_gse0, hL_gse1, hL_gse2, hL_gse3, hL_gse4, hL_gse5, hk_gsN, hk_gsE, hk_gsL, hk_gsD, hk_gse, hk_hcl, Int.reduceEq, reduceIte, hN_hcl, ne_eq, not_false_eq_true, Int.reduceNeg, t0, t1, t2, t3, t4, t5, t6, t7, te, tn, l0, l1, l2, l3, l4, l5]; exact this), (by
      have h2 := hp.1; have h3 := hp.2; unfold hP; simp only [hN_gsN, hN_gsE, hN_gsL, hN_gsD, hN_gse, hE_gsN, hE_gsE, hE_gsL, hE_gsD, hE_gse, hE_hcl, hL_gsN, hL_gsE, hL_gsL, hL_gsD, hL_hcl, hL_gse0, hL_gse1, hL_gse2, hL_gse3, hL_gse4, hL_gse5, hk_gsN, hk_gsE, hk_gsL, hk_gsD, hk_gse, hk_hcl, Int.reduceEq, reduceIte, hN_hcl, ne_eq, not_false_eq_true, Int.reduceNeg, t0, t1, t2, t3, t4, t5, t6, t7, te, tn, l0, l1, l2, l3, l4, l5]; omega)⟩ (by simpa [gnd, gsN, gsE] using ht) (by simp [gnd, gsN, gsE]) haf ?_
    intro w h1 h2 h3
    have h4 : gnd S (gsd G b) 4 = hed w := by
      rw [← h3]
      have : gnd T (gsd G b) 4 = gnd S (gsd G b) 4 := congrFun t4 _
      simpa [gnd, gsN, gsE] using this.symm
    have h5 := hto w h1 h2 h4
    show (gen (gsN (gsE T b 2) (gsd G b) 6 (-1))) w = 1
    rw [hE_gsN, hE_gsE, te]
    by_cases h6 : w = b
    · rw [h6] at h5
      omega
    · rw [pu_ne h6]
      exact h5
  · rw [if_neg hen]
    refine h_te (om := om) (ps := ps) (dl := dl) (dn := dn) (af := af) (c0 := c0) (pd := pd) (rp := rp) (rv := rv) (fw := pu fw b 1) (cl := cl) (cw := cw) (tk := tk) (fl := fl) (fc := fc) hg ⟨(by
      unfold hJ
      simp only [hN_gsN, hN_gsE, hN_gsL, hN_gsD, hN_gse, hE_gsN, hE_gsE, hE_gsL, hE_gsD, hE_gse, hE_hcl, hL_gsN, hL_gsE, hL_gsL, hL_gsD, hL_hcl, hL_gse0, hL_gse1, hL_gse2, hL_gse3, hL_gse4, hL_gse5, hk_gsN, hk_gsE, hk_gsL, hk_gsD, hk_gse, hk_hcl, Int.reduceEq, reduceIte, hN_hcl, ne_eq, not_false_eq_true, Int.reduceNeg, t0, t1, t2, t3, t4, t5, t6, t7, te, tn, l0, l1, l2, l3, l4, l5]
      exact pk_txb (h_G hg) hp.1 hb k0 k1 k2 k3 k4 hf hNo_no kn kl kt hen hj), (by
      intro m; have := hx m; simp only [hN_gsN, hN_gsE, hN_gsL, hN_gsD, hN_gse, hE_gsN, hE_gsE, hE_gsL, hE_gsD, hE_gse, hE_hcl, hL_gsN, hL_gsE, hL_gsL, hL_gsD, hL_hcl, hL_gse0, hL_gse1, hL_gse2, hL_gse3, hL_gse4, hL_gse5, hk_gsN, hk_gsE, hk_gsL, hk_gsD, hk_gse, hk_hcl, Int.reduceEq, reduceIte, hN_hcl, ne_eq, not_false_eq_true, Int.reduceNeg, t0, t1, t2, t3, t4, t5, t6, t7, te, tn, l0, l1, l2, l3, l4, l5]; exact this), (by
      have h2 := hp.1; have h3 := hp.2; unfold hP; simp only [hN_gsN, hN_gsE, hN_gsL, hN_gsD, hN_gse, hE_gsN, hE_gsE, hE_gsL, hE_gsD, hE_gse, hE_hcl, hL_gsN, hL_gsE, hL_gsL, hL_gsD, hL_hcl, hL_gse0, hL_gse1, hL_gse2, hL_gse3, hL_gse4, hL_gse5, hk_gsN, hk_gsE, hk_gsL, hk_gsD, hk_gse, hk_hcl, Int.reduceEq, reduceIte, hN_hcl, ne_eq, not_false_eq_true, Int.reduceNeg, t0, t1, t2, t3, t4, t5, t6, t7, te, tn, l0, l1, l2, l3, l4, l5]; omega)⟩ (by simpa [gnd, gsN, gsE] using ht) (by simp [gnd, gsN, gsE]) haf ?_
    intro w h1 h2 h3
    have h4 : gnd S (gsd G b) 4 = hed w := by
      rw [← h3]
      have : gnd T (gsd G b) 4 = gnd S (gsd G b) 4 := congrFun t4 _
      simpa [gnd, gsN, gsE] using this.symm
    show (gen (gsN T (gsd G b) 6 (-1))) w = 1
    rw [hE_gsN, te]
    exact hto w h1 h2 h4

set_option maxHeartbeats 1000000 in
theorem pf_hrs {W : Int → Prop} {sd : Int → Int} {op : Int → Int} {ed : Int → Int} {li : Int → Int → Prop} {st : Int → Int} {lv : Int → Int} {nm : Int → Int} {inw : Int → Int} {tow : Int → Int} {bst : Int → Int} {om : Int → Int} {ps : Int → Int} {dl : Int → Int} {dn : Int → Int} {af : Int → Int} {en : Int → Int} {pd : Int → Int} {rp : Int → Int} {rv : Int → Int} {cl : Int → Int} {cw : Int → Int} {tk : Int → Int} {nL : Int} {kd : Int → Int} {wy : Int → Int} {ll : Int → Int} {td : Int → Int} {ls : Int → Int} {wh : Int → Int} {b k : Int} (hG : pj_G W sd op ed) (nL0 : 0 ≤ nL) (hb : W b) (k0 : 0 ≤ k) (k1 : k < nL) (k2 : wh k ≠ 2) (k3 : kd k = 5) (k4 : wy k = op b) (hf : ∀ j, 0 ≤ j → j < k → wy j = wy k → wh j ≠ 0) (r2 : inw (sd b) = (ed b)) (r3 : st (sd b) ≠ 1) (r4 : li (bst (sd b)) (td k)) (hli : ∀ x y, li x y → x ≠ -1 ∧ ¬ li y x) (cR : pj_R W nL kd wy wh) (cN0 : pj_N0 st lv ps dl af) (cN1 : pj_N1 st lv om ps dl) (cN2 : pj_N2 W sd ed om en) (cN5 : pj_N5 lv inw om ps) (cC2 : pj_C2 lv nm dl dn cl) (cR3a : pj_R3a st lv dl) (cE1 : pj_E1 sd op lv dl nL kd wy ll wh) (cA2 : pj_A2 W sd op ed st lv nm om ps dl dn cl) (cPD : pj_PD W sd op ed st om en pd) (cCC : pj_CC W ed en cl) (cRP : pj_RP W sd ed st lv nm bst rp rv) (cRP1 : pj_RP1 W sd ed lv rp cl) (cTK : pj_TK cw tk) (cK2 : pj_K2 W op ed li rp rv tk) (cWH : pj_WH nL kd wh) (cL1 : pj_L1 sd op ed st lv om dl en cl nL kd wy ll td ls wh) (cL5 : pj_L5 sd op ed st lv nm inw bst om ps dl pd rp rv cl tk nL kd wy td wh) (cL5o : pj_L5o sd op ed lv cl nL kd wy wh) (cL5u : pj_L5u nL kd wy wh) (cL6 : pj_L6 sd op ed st lv nm tow om ps dl cw tk nL kd wy wh) : (om (sd b) = (ed b)) ∧ (om (sd (op b)) = (ed b)) ∧ (st (sd b) = 2) ∧ (ps (sd b) = 0) ∧ (dl (sd b) = lv (sd b)) ∧ (1 ≤ lv (sd b)) ∧ (cw (nm (sd b)) = -1) ∧ (st (sd (op b)) ≠ 1) ∧ (dl (sd (op b)) = lv (sd (op b))) ∧ (dl (sd (op b)) = lv (sd b)) ∧ (dn (sd (op b)) = nm (sd b)) ∧ (en b = 1) ∧ (en (op b) = 1) ∧ (cl (ed b) ≤ lv (sd b)) ∧ (∀ j, 0 ≤ j → j < nL → wh j ≠ 2 → kd j = 6 → nm (sd (op (wy j))) ≠ nm (sd b)) ∧ (∀ j, 0 ≤ j → j < nL → wh j ≠ 2 → kd j = 5 → wy j = op b → j = k) ∧ (nm (sd b) = (ed b)) ∧ (bst (sd b) ≠ -1) := by
  have hop := hG.1
  have hed := hG.2
  unfold pj_R pj_N0 pj_N1 pj_N2 pj_N5 pj_C2 pj_R3a pj_E1 pj_A2 pj_PD pj_CC pj_RP pj_RP1 pj_TK pj_K2 pj_WH pj_L1 pj_L5 pj_L5o pj_L5u pj_L6 at *
  have x1 : om (sd b) = (ed b) → lv (sd b) < cl (ed b) → lv (sd b) < dl (sd b) → False := by
    intro h1 h2 h3
    have g := hop b hb
    obtain ⟨j, h4, h5, h6, h7, h8, h9⟩ := cE1 (sd b) h3
    have h10 := cL1 j h4 h5 h6 h7
    have g2 := hop (wy j) (cR j h4 h5).1
    have h11 : wy j = op b := by
      rcases hed b (wy j) hb (cR j h4 h5).1 (by rw [← h1, ← h8]; exact h10.1) with h | h
      · rw [h] at h8; exact absurd h8 g.2.2.2.1
      · exact h
    have h12 := (cL5o j k h4 h5 h6 h7 k0 k1 k2 k3 (by rw [h11, k4])).1
    rw [k4, g.2.1, g.2.2.1] at h12
    have h13 := h12 h2
    have h14 := hf j h4 h13 (by rw [h11, k4])
    have h15 := cWH j h4 h5
    have h16 := (cR j h4 h5).2.2.2
    omega
  have x2 : li (bst (sd b)) (td k) → rv b = bst (sd b) → rv (op b) = td k → rp (op b) = 1 → tk (ed b) = 1 → False := by
    intro h1 h2 h3 h4 h5
    obtain ⟨w, w1, w2, w3, w4, w5⟩ := cK2 (ed b) h5
    have g := hop b hb
    rcases hed b w hb w1 w2.symm with h | h
    · rw [h, h3, h2] at w5
      exact (hli _ _ h1).2 w5
    · rw [h, h4] at w3
      omega
  have y1 : tk (nm (sd b)) ≠ 1 → ∀ j, 0 ≤ j → j < nL → wh j ≠ 2 → kd j = 6 → nm (sd (op (wy j))) ≠ nm (sd b) := by
    intro h0 j h1 h2 h3 h4 h5
    have h6 := (cL6 j h1 h2 h3 h4).2.2.2.2.2.2.2.2.1
    rw [h5] at h6
    exact h0 h6
  have y2 : ∀ j, 0 ≤ j → j < nL → wh j ≠ 2 → kd j = 5 → wy j = op b → j = k := by
    intro j h1 h2 h3 h4 h5
    exact cL5u j k h1 h2 h3 h4 k0 k1 k2 k3 (by rw [h5, k4])
  have g0 := hop b hb
  have i0 := cL5 k
  have i1 := cPD b
  have i2 := cN0 (sd b)
  have i3 := cN0 (sd (op b))
  have i4 := cN1 (sd b)
  have i5 := cRP1 (op b)
  have i6 := cRP1 b
  have i7 := cCC b
  have i8 := cRP b
  have i9 := cRP (op b)
  have i10 := cN5 (sd b)
  have i11 := cA2 b
  have i12 := cC2 (sd b)
  have i13 := cC2 (sd (op b))
  have i14 := cN2 b
  have i15 := cN2 (op b)
  have i16 := cR3a (sd b)
  have i17 := cR3a (sd (op b))
  have i18 := cTK (nm (sd b))
  have il := hli (bst (sd b)) (td k)
  clear hG hop hed cR cN0 cN1 cN2 cN5 cC2 cR3a cE1 cA2 cPD cCC cRP cRP1 cTK cK2 cWH cL1 cL5 cL5o cL5u cL6
  refine ⟨?_, ?_, ?_, ?_, ?_, ?_, ?_, ?_, ?_, ?_, ?_, ?_, ?_, ?_, ?_, ?_, ?_, ?_⟩ <;> first | assumption | exact y1 (by clear y1 y2 hf hli r2; grind (splits := 24)) | (clear hf hli y1 y2; grind (splits := 24))

set_option maxHeartbeats 1000000 in
theorem pf_hch {W : Int → Prop} {sd : Int → Int} {op : Int → Int} {ed : Int → Int} {st : Int → Int} {lv : Int → Int} {nm : Int → Int} {inw : Int → Int} {tow : Int → Int} {bst : Int → Int} {om : Int → Int} {ps : Int → Int} {dl : Int → Int} {dn : Int → Int} {af : Int → Int} {en : Int → Int} {pd : Int → Int} {rp : Int → Int} {rv : Int → Int} {cl : Int → Int} {cw : Int → Int} {tk : Int → Int} {nL : Int} {kd : Int → Int} {wy : Int → Int} {td : Int → Int} {wh : Int → Int} {b k : Int} (hG : pj_G W sd op ed) (nL0 : 0 ≤ nL) (hb : W b) (k0 : 0 ≤ k) (k1 : k < nL) (k2 : wh k ≠ 2) (k3 : kd k = 6) (k4 : wy k = op b) (hf : ∀ j, 0 ≤ j → j < k → wy j = wy k → wh j ≠ 0) (cN0 : pj_N0 st lv ps dl af) (cN2 : pj_N2 W sd ed om en) (cC2 : pj_C2 lv nm dl dn cl) (cA2 : pj_A2 W sd op ed st lv nm om ps dl dn cl) (cPD : pj_PD W sd op ed st om en pd) (cL5 : pj_L5 sd op ed st lv nm inw bst om ps dl pd rp rv cl tk nL kd wy td wh) (cL6 : pj_L6 sd op ed st lv nm tow om ps dl cw tk nL kd wy wh) (cL6u : pj_L6u sd op nm nL kd wy wh) : (om (sd b) = (ed b)) ∧ (om (sd (op b)) = (ed b)) ∧ (st (sd b) = 2) ∧ (ps (sd b) = 0) ∧ (dl (sd b) = lv (sd b)) ∧ (1 ≤ lv (sd b)) ∧ (tk (nm (sd b)) = 1) ∧ (cw (nm (sd b)) = -1) ∧ (st (sd (op b)) ≠ 1) ∧ (dl (sd (op b)) = lv (sd (op b))) ∧ (dl (sd (op b)) = lv (sd b)) ∧ (dn (sd (op b)) = nm (sd b)) ∧ (en b = 1) ∧ (en (op b) = 1) ∧ (cl (ed b) ≤ lv (sd b)) ∧ (∀ j, 0 ≤ j → j < nL → wh j ≠ 2 → kd j = 6 → j ≠ k → nm (sd (op (wy j))) ≠ nm (sd b)) ∧ (∀ j, 0 ≤ j → j < nL → wh j ≠ 2 → kd j = 5 → wy j ≠ op b) ∧ (nm (sd b) ≠ (ed b)) ∧ (tow (sd b) ≠ -1) := by
  have hop := hG.1
  have hed := hG.2
  unfold pj_N0 pj_N2 pj_C2 pj_A2 pj_PD pj_L5 pj_L6 pj_L6u at *
  have y1 : ∀ j, 0 ≤ j → j < nL → wh j ≠ 2 → kd j = 6 → j ≠ k → nm (sd (op (wy j))) ≠ nm (sd b) := by
    intro j h1 h2 h3 h4 h5 h6
    exact h5 (cL6u j k h1 h2 h3 h4 k0 k1 k2 k3 (by rw [h6, k4, (hop b hb).2.1]))
  have y2 : st (sd b) = 2 → nm (sd b) ≠ (ed b) → dl (sd b) = lv (sd b) → ∀ j, 0 ≤ j → j < nL → wh j ≠ 2 → kd j = 5 → wy j ≠ op b := by
    intro a1 a2 a3 j h1 h2 h3 h4 h5
    have g := hop b hb
    have h6 := cL5 j h1 h2 h3 h4
    rw [h5, g.2.1, g.2.2.1] at h6
    rcases h6 with h6 | h6
    · have h7 := (cPD b hb).2 h6.1
      omega
    · rcases h6.2.2.2.2 with h7 | h7
      · exact a2 h7.2.1
      · omega
  have g0 := hop b hb
  have i0 := cL6 k
  have i1 := cN0 (sd b)
  have i2 := cN0 (sd (op b))
  have i3 := cA2 b
  have i4 := cC2 (sd b)
  have i5 := cC2 (sd (op b))
  have i6 := cN2 b
  have i7 := cN2 (op b)
  clear hG hop hed cN0 cN2 cC2 cA2 cPD cL5 cL6 cL6u
  refine ⟨?_, ?_, ?_, ?_, ?_, ?_, ?_, ?_, ?_, ?_, ?_, ?_, ?_, ?_, ?_, ?_, ?_, ?_, ?_⟩ <;> first | assumption | exact y2 (by clear y1 y2 hf; grind (splits := 24)) (by clear y1 y2 hf; grind (splits := 24)) (by clear y1 y2 hf; grind (splits := 24)) | (clear hf y1 y2; grind (splits := 24))

theorem h_tac {G : gG} {S T : gS} {k b : Int} (hg : hGok G) (h : hI G S 0) (hb : hW G b) (k0 : 0 ≤ k) (k1 : k < gnL S) (k2 : glt S k 5 ≠ 2) (k4 : glt S k 1 = gop b) (hf : ∀ j, 0 ≤ j → j < k → glt S j 1 = glt S k 1 → glt S j 5 ≠ 0) (hT : hTk S T k) (k3 : glt S k 0 = 2) (kn : glt S k 3 ≠ gnd S (gsd G b) 2) (kl : glt S k 2 ≤ gnd S (gsd G b) 1) : hI G (gse G T (gsd G b) (hed b) 3 (-1) (-1) (-1)) 0 := by
  obtain ⟨om, ps, dl, dn, af, c0, pd, rp, rv, fw, cl, cw, tk, fl, fc, hj, hx, hp⟩ := h
  obtain ⟨t0, t1, t2, t3, t4, t5, t6, t7, te, tn, l0, l1, l2, l3, l4, l5⟩ := hT
  have hoo : gop (hL S 1 k) = b := by
    show gop (glt S k 1) = b
    rw [k4]
    exact (h_opW hb).2.1
  have hw1 : hL S 1 k = gop b := k4
  have hed1 : hed (gop b) = hed b := (h_opW hb).2.2.1
  have hgw : gwy G (gsd G b) (hed b) = b := h_wy hg hb
  have haf : af (gsd G (gop b)) = 0 := (pf_ta (h_G hg) hp.1 hb k0 k1 k2 k3 k4 hf hNo_no kn kl (pg_N0 hj) (pg_N1 hj) (pg_ER hj) (pg_N2 hj) (pg_C2 hj) (pg_R3a hj) (pg_U hj) (pg_A1 hj) (pg_A2 hj) (pg_N3 hj) (pg_L2 hj) (pg_AF hj) (pg_CV hj)).2.2.2.2.2.2.1
  have hb1 := h_sdN hg (h_opW hb).1
  have hph : psm (pfi (hN S 0) (hN S 1) ps dl af) (gN G).toNat + 1 ≤ psm (pfi (hN S 0) (hN S 1) ps dl (pu af (gsd G (gop b)) 1)) (gN G).toNat := h_phi (n := gsd G (gop b)) (fun i hi => ⟨rfl, rfl, rfl, rfl, (pu_ne hi).symm⟩) hb1.1 hb1.2 (by
    unfold pfi
    rw [pu_at, haf]
    omega)
  exact ⟨om, ps, dl, dn, pu af (gsd G (gop b)) 1, c0, pd, rp, rv, fw, cl, cw, tk, fl, fc, (by
      unfold hJ
      simp only [hN_gsN, hN_gsE, hN_gsL, hN_gsD, hN_gse, hE_gsN, hE_gsE, hE_gsL, hE_gsD, hE_gse, hE_hcl, hL_gsN, hL_gsE, hL_gsL, hL_gsD, hL_hcl, hL_gse0, hL_gse1, hL_gse2, hL_gse3, hL_gse4, hL_gse5, hk_gsN, hk_gsE, hk_gsL, hk_gsD, hk_gse, hk_hcl, Int.reduceEq, reduceIte, hN_hcl, ne_eq, not_false_eq_true, Int.reduceNeg, t0, t1, t2, t3, t4, t5, t6, t7, te, tn, l0, l1, l2, l3, l4, l5, hgw]
      exact pk_ta (h_G hg) hp.1 hb k0 k1 k2 k3 k4 hf hNo_no kn kl hj), (by
      intro m; have := hx m; simp only [hN_gsN, hN_gsE, hN_gsL, hN_gsD, hN_gse, hE_gsN, hE_gsE, hE_gsL, hE_gsD, hE_gse, hE_hcl, hL_gsN, hL_gsE, hL_gsL, hL_gsD, hL_hcl, hL_gse0, hL_gse1, hL_gse2, hL_gse3, hL_gse4, hL_gse5, hk_gsN, hk_gsE, hk_gsL, hk_gsD, hk_gse, hk_hcl, Int.reduceEq, reduceIte, hN_hcl, ne_eq, not_false_eq_true, Int.reduceNeg, t0, t1, t2, t3, t4, t5, t6, t7, te, tn, l0, l1, l2, l3, l4, l5]; exact this), (by
      have h2 := hp.1; have h3 := hp.2; unfold hP; simp only [hN_gsN, hN_gsE, hN_gsL, hN_gsD, hN_gse, hE_gsN, hE_gsE, hE_gsL, hE_gsD, hE_gse, hE_hcl, hL_gsN, hL_gsE, hL_gsL, hL_gsD, hL_hcl, hL_gse0, hL_gse1, hL_gse2, hL_gse3, hL_gse4, hL_gse5, hk_gsN, hk_gsE, hk_gsL, hk_gsD, hk_gse, hk_hcl, Int.reduceEq, reduceIte, hN_hcl, ne_eq, not_false_eq_true, Int.reduceNeg, t0, t1, t2, t3, t4, t5, t6, t7, te, tn, l0, l1, l2, l3, l4, l5]; omega)⟩

theorem h_tra {G : gG} {S T : gS} {k b : Int} (hg : hGok G) (h : hI G S 0) (hb : hW G b) (k0 : 0 ≤ k) (k1 : k < gnL S) (k2 : glt S k 5 ≠ 2) (k4 : glt S k 1 = gop b) (hf : ∀ j, 0 ≤ j → j < k → glt S j 1 = glt S k 1 → glt S j 5 ≠ 0) (hT : hTk S T k) (k3 : glt S k 0 = 2) (kn : glt S k 3 = gnd S (gsd G b) 2) (kl : glt S k 2 ≤ gnd S (gsd G b) 1) (kt : gnd S (gsd G b) 6 ≠ hed b) (hen : gen S b = 0) : hI G (gse G (gsE T b 2) (gsd G b) (hed b) 4 (-1) (-1) (-1)) 0 := by
  obtain ⟨om, ps, dl, dn, af, c0, pd, rp, rv, fw, cl, cw, tk, fl, fc, hj, hx, hp⟩ := h
  obtain ⟨t0, t1, t2, t3, t4, t5, t6, t7, te, tn, l0, l1, l2, l3, l4, l5⟩ := hT
  have hoo : gop (hL S 1 k) = b := by
    show gop (glt S k 1) = b
    rw [k4]
    exact (h_opW hb).2.1
  have hw1 : hL S 1 k = gop b := k4
  have hed1 : hed (gop b) = hed b := (h_opW hb).2.2.1
  have hgw : gwy G (gsd G b) (hed b) = b := h_wy hg hb
  have hfw : fw b = 0 := (pf_tra (h_G hg) hp.1 hb k0 k1 k2 k3 k4 hf kn kl kt hen (pg_N0 hj) (pg_N1 hj) (pg_C1 hj) (pg_U hj) (pg_L2 hj)).2.2.2.2.2.1
  have hb2 := h_wN hb
  have hph : psm fw (2 * gE G).toNat + 1 ≤ psm (pu fw b 1) (2 * gE G).toNat := h_fw hb2.1 hb2.2 (by omega)
  exact ⟨om, ps, dl, dn, af, c0, pd, rp, rv, pu fw b 1, cl, cw, tk, fl, fc, (by
      unfold hJ
      simp only [hN_gsN, hN_gsE, hN_gsL, hN_gsD, hN_gse, hE_gsN, hE_gsE, hE_gsL, hE_gsD, hE_gse, hE_hcl, hL_gsN, hL_gsE, hL_gsL, hL_gsD, hL_hcl, hL_gse0, hL_gse1, hL_gse2, hL_gse3, hL_gse4, hL_gse5, hk_gsN, hk_gsE, hk_gsL, hk_gsD, hk_gse, hk_hcl, Int.reduceEq, reduceIte, hN_hcl, ne_eq, not_false_eq_true, Int.reduceNeg, t0, t1, t2, t3, t4, t5, t6, t7, te, tn, l0, l1, l2, l3, l4, l5, hgw]
      exact pk_tra (h_G hg) hp.1 hb k0 k1 k2 k3 k4 hf kn kl kt hen hj), (by
      intro m; have := hx m; simp only [hN_gsN, hN_gsE, hN_gsL, hN_gsD, hN_gse, hE_gsN, hE_gsE, hE_gsL, hE_gsD, hE_gse, hE_hcl, hL_gsN, hL_gsE, hL_gsL, hL_gsD, hL_hcl, hL_gse0, hL_gse1, hL_gse2, hL_gse3, hL_gse4, hL_gse5, hk_gsN, hk_gsE, hk_gsL, hk_gsD, hk_gse, hk_hcl, Int.reduceEq, reduceIte, hN_hcl, ne_eq, not_false_eq_true, Int.reduceNeg, t0, t1, t2, t3, t4, t5, t6, t7, te, tn, l0, l1, l2, l3, l4, l5]; exact this), (by
      have h2 := hp.1; have h3 := hp.2; unfold hP; simp only [hN_gsN, hN_gsE, hN_gsL, hN_gsD, hN_gse, hE_gsN, hE_gsE, hE_gsL, hE_gsD, hE_gse, hE_hcl, hL_gsN, hL_gsE, hL_gsL, hL_gsD, hL_hcl, hL_gse0, hL_gse1, hL_gse2, hL_gse3, hL_gse4, hL_gse5, hk_gsN, hk_gsE, hk_gsL, hk_gsD, hk_gse, hk_hcl, Int.reduceEq, reduceIte, hN_hcl, ne_eq, not_false_eq_true, Int.reduceNeg, t0, t1, t2, t3, t4, t5, t6, t7, te, tn, l0, l1, l2, l3, l4, l5]; omega)⟩

theorem h_trb {G : gG} {S T : gS} {k b : Int} (hg : hGok G) (h : hI G S 0) (hb : hW G b) (k0 : 0 ≤ k) (k1 : k < gnL S) (k2 : glt S k 5 ≠ 2) (k4 : glt S k 1 = gop b) (hf : ∀ j, 0 ≤ j → j < k → glt S j 1 = glt S k 1 → glt S j 5 ≠ 0) (hT : hTk S T k) (k3 : glt S k 0 = 2) (kn : glt S k 3 = gnd S (gsd G b) 2) (kl : glt S k 2 ≤ gnd S (gsd G b) 1) (kt : gnd S (gsd G b) 6 ≠ hed b) (hen : gen S b ≠ 0) : hI G (gse G T (gsd G b) (hed b) 4 (-1) (-1) (-1)) 0 := by
  obtain ⟨om, ps, dl, dn, af, c0, pd, rp, rv, fw, cl, cw, tk, fl, fc, hj, hx, hp⟩ := h
  obtain ⟨t0, t1, t2, t3, t4, t5, t6, t7, te, tn, l0, l1, l2, l3, l4, l5⟩ := hT
  have hoo : gop (hL S 1 k) = b := by
    show gop (glt S k 1) = b
    rw [k4]
    exact (h_opW hb).2.1
  have hw1 : hL S 1 k = gop b := k4
  have hed1 : hed (gop b) = hed b := (h_opW hb).2.2.1
  have hgw : gwy G (gsd G b) (hed b) = b := h_wy hg hb
  have hfw : fw b = 0 := (pf_trb (h_G hg) hp.1 hb k0 k1 k2 k3 k4 hf kn kl kt hen (pg_N0 hj) (pg_N1 hj) (pg_C1 hj) (pg_U hj) (pg_L2 hj)).2.2.2.2.2.1
  have hb2 := h_wN hb
  have hph : psm fw (2 * gE G).toNat + 1 ≤ psm (pu fw b 1) (2 * gE G).toNat := h_fw hb2.1 hb2.2 (by omega)
  exact ⟨om, ps, dl, dn, af, c0, pd, rp, rv, pu fw b 1, cl, cw, tk, fl, fc, (by
      unfold hJ
      simp only [hN_gsN, hN_gsE, hN_gsL, hN_gsD, hN_gse, hE_gsN, hE_gsE, hE_gsL, hE_gsD, hE_gse, hE_hcl, hL_gsN, hL_gsE, hL_gsL, hL_gsD, hL_hcl, hL_gse0, hL_gse1, hL_gse2, hL_gse3, hL_gse4, hL_gse5, hk_gsN, hk_gsE, hk_gsL, hk_gsD, hk_gse, hk_hcl, Int.reduceEq, reduceIte, hN_hcl, ne_eq, not_false_eq_true, Int.reduceNeg, t0, t1, t2, t3, t4, t5, t6, t7, te, tn, l0, l1, l2, l3, l4, l5, hgw]
      exact pk_trb (h_G hg) hp.1 hb k0 k1 k2 k3 k4 hf kn kl kt hen hj), (by
      intro m; have := hx m; simp only [hN_gsN, hN_gsE, hN_gsL, hN_gsD, hN_gse, hE_gsN, hE_gsE, hE_gsL, hE_gsD, hE_gse, hE_hcl, hL_gsN, hL_gsE, hL_gsL, hL_gsD, hL_hcl, hL_gse0, hL_gse1, hL_gse2, hL_gse3, hL_gse4, hL_gse5, hk_gsN, hk_gsE, hk_gsL, hk_gsD, hk_gse, hk_hcl, Int.reduceEq, reduceIte, hN_hcl, ne_eq, not_false_eq_true, Int.reduceNeg, t0, t1, t2, t3, t4, t5, t6, t7, te, tn, l0, l1, l2, l3, l4, l5]; exact this), (by
      have h2 := hp.1; have h3 := hp.2; unfold hP; simp only [hN_gsN, hN_gsE, hN_gsL, hN_gsD, hN_gse, hE_gsN, hE_gsE, hE_gsL, hE_gsD, hE_gse, hE_hcl, hL_gsN, hL_gsE, hL_gsL, hL_gsD, hL_hcl, hL_gse0, hL_gse1, hL_gse2, hL_gse3, hL_gse4, hL_gse5, hk_gsN, hk_gsE, hk_gsL, hk_gsD, hk_gse, hk_hcl, Int.reduceEq, reduceIte, hN_hcl, ne_eq, not_false_eq_true, Int.reduceNeg, t0, t1, t2, t3, t4, t5, t6, t7, te, tn, l0, l1, l2, l3, l4, l5]; omega)⟩

theorem h_tst {G : gG} {S T : gS} {k b : Int} (hg : hGok G) (h : hI G S 0) (hb : hW G b) (k0 : 0 ≤ k) (k1 : k < gnL S) (k2 : glt S k 5 ≠ 2) (k4 : glt S k 1 = gop b) (hf : ∀ j, 0 ≤ j → j < k → glt S j 1 = glt S k 1 → glt S j 5 ≠ 0) (hT : hTk S T k) (k3 : glt S k 0 = 2) (kl : glt S k 2 ≤ gnd S (gsd G b) 1) : hI G (han G T (gsd G b) (hed b) (glt S k 3)) 0 := by
  have hgw : gwy G (gsd G b) (hed b) = b := h_wy hg hb
  have e2 : gnd T (gsd G b) 2 = gnd S (gsd G b) 2 := congrFun hT.2.2.1 _
  have e6 : gnd T (gsd G b) 6 = gnd S (gsd G b) 6 := congrFun hT.2.2.2.2.2.2.1 _
  have ee : gen T = gen S := hT.2.2.2.2.2.2.2.2.1
  unfold han
  rw [e2, e6]
  by_cases kn : glt S k 3 ≠ gnd S (gsd G b) 2
  · rw [if_pos kn]
    exact h_tac hg h hb k0 k1 k2 k4 hf hT k3 kn kl
  · rw [if_neg kn]
    have kn' : glt S k 3 = gnd S (gsd G b) 2 := by omega
    by_cases kt : gnd S (gsd G b) 6 = hed b
    · rw [if_pos kt]
      exact h_crs hg h hb k0 k1 k2 k4 hf hT k3 kn' kl kt
    · rw [if_neg kt]
      unfold grj
      rw [hgw, ee]
      by_cases hen : gen S b = 0
      · rw [if_pos hen]
        exact h_tra hg h hb k0 k1 k2 k4 hf hT k3 kn' kl kt hen
      · rw [if_neg hen]
        exact h_trb hg h hb k0 k1 k2 k4 hf hT k3 kn' kl kt hen

theorem h_rpc {G : gG} {S T : gS} {k b : Int} (hg : hGok G) (h : hI G S 0) (hb : hW G b) (k0 : 0 ≤ k) (k1 : k < gnL S) (k2 : glt S k 5 ≠ 2) (k4 : glt S k 1 = gop b) (hf : ∀ j, 0 ≤ j → j < k → glt S j 1 = glt S k 1 → glt S j 5 ≠ 0) (hT : hTk S T k) (k3 : glt S k 0 = 5) (ki : gnd S (gsd G b) 3 ≠ hed b) : hI G (hsu G (gbt G (gsN T (gsd G b) 7 (gnd T (gsd G b) 7 - 1)) (gsd G b) (glt S k 3) (hed b)) (gsd G b)) 0 := by
  obtain ⟨om, ps, dl, dn, af, c0, pd, rp, rv, fw, cl, cw, tk, fl, fc, hj, hx, hp⟩ := h
  obtain ⟨t0, t1, t2, t3, t4, t5, t6, t7, te, tn, l0, l1, l2, l3, l4, l5⟩ := hT
  have hoo : gop (hL S 1 k) = b := by
    show gop (glt S k 1) = b
    rw [k4]
    exact (h_opW hb).2.1
  have hw1 : hL S 1 k = gop b := k4
  have hed1 : hed (gop b) = hed b := (h_opW hb).2.2.1
  have hpd : pd b = 1 := (pf_rcb (h_G hg) hp.1 hb k0 k1 k2 k3 k4 hf ki (pg_R hj) (pg_N0 hj) (pg_N10 hj) (pg_N13 hj) (pg_R3a hj) (pg_E1 hj) (pg_PD hj) (pg_CC hj) (pg_RP1 hj) (pg_WH hj) (pg_L1 hj) (pg_L5 hj) (pg_L5o hj)).1
  have hst : gnd S (gsd G b) 0 = 1 := (pf_rcb (h_G hg) hp.1 hb k0 k1 k2 k3 k4 hf ki (pg_R hj) (pg_N0 hj) (pg_N10 hj) (pg_N13 hj) (pg_R3a hj) (pg_E1 hj) (pg_PD hj) (pg_CC hj) (pg_RP1 hj) (pg_WH hj) (pg_L1 hj) (pg_L5 hj) (pg_L5o hj)).2.2.2.2.2.2.2.2.2.1
  have ht : gnd T (gsd G b) 0 = 1 := (congrFun t0 _).trans hst
  have e7 : gnd T (gsd G b) 7 = gnd S (gsd G b) 7 := congrFun t7 _
  have e5 : gnd (gsN T (gsd G b) 7 (gnd T (gsd G b) 7 - 1)) (gsd G b) 5 = gnd S (gsd G b) 5 := by
    have : gnd T (gsd G b) 5 = gnd S (gsd G b) 5 := congrFun t5 _
    simpa [gnd, gsN] using this
  have hb2 := h_wN hb
  unfold gbt
  rw [e5]
  by_cases hl : gli G (glt S k 3) (gnd S (gsd G b) 5) = true
  · rw [if_pos hl]
    refine h_su hg ?_ (by simpa [gnd, gsN] using ht)
    exact ⟨om, ps, dl, dn, af, c0, pu pd b 0, rp, rv, fw, cl, cw, tk, fl, fc, (by
      unfold hJ
      simp only [hN_gsN, hN_gsE, hN_gsL, hN_gsD, hN_gse, hE_gsN, hE_gsE, hE_gsL, hE_gsD, hE_gse, hE_hcl, hL_gsN, hL_gsE, hL_gsL, hL_gsD, hL_hcl, hL_gse0, hL_gse1, hL_gse2, hL_gse3, hL_gse4, hL_gse5, hk_gsN, hk_gsE, hk_gsL, hk_gsD, hk_gse, hk_hcl, Int.reduceEq, reduceIte, hN_hcl, ne_eq, not_false_eq_true, Int.reduceNeg, t0, t1, t2, t3, t4, t5, t6, t7, te, tn, l0, l1, l2, l3, l4, l5]
      exact pk_ex (b := gsd G b) (h_G hg) hp.1 hst (pk_rca (h_G hg) hp.1 hb k0 k1 k2 k3 k4 hf ki hl h_li hj)), (by
      intro m
      have h1 := hx m
      have h2 := h_pd (sd := gsd G) (pd := pd) (v := 0) (n := m) hb2.1 hb2.2
      simp only [hN_gsN, hN_gsE, hN_gsL, hN_gsD, hN_gse, hE_gsN, hE_gsE, hE_gsL, hE_gsD, hE_gse, hE_hcl, hL_gsN, hL_gsE, hL_gsL, hL_gsD, hL_hcl, hL_gse0, hL_gse1, hL_gse2, hL_gse3, hL_gse4, hL_gse5, hk_gsN, hk_gsE, hk_gsL, hk_gsD, hk_gse, hk_hcl, Int.reduceEq, reduceIte, hN_hcl, ne_eq, not_false_eq_true, Int.reduceNeg, t0, t1, t2, t3, t4, t5, t6, t7, te, tn, l0, l1, l2, l3, l4, l5, h2, hpd]
      have h3 : hN S 7 m = psm (fun w => if gsd G w = m then pd w else 0) (2 * gE G).toNat := h1
      by_cases h4 : m = gsd G b
      · rw [h4, pu_at, e7, if_pos rfl]
        rw [h4] at h3
        have h5 : gnd S (gsd G b) 7 = hN S 7 (gsd G b) := rfl
        omega
      · rw [pu_ne h4, if_neg (fun q => h4 q.symm)]
        omega), (by
      have h2 := hp.1; have h3 := hp.2; unfold hP; simp only [hN_gsN, hN_gsE, hN_gsL, hN_gsD, hN_gse, hE_gsN, hE_gsE, hE_gsL, hE_gsD, hE_gse, hE_hcl, hL_gsN, hL_gsE, hL_gsL, hL_gsD, hL_hcl, hL_gse0, hL_gse1, hL_gse2, hL_gse3, hL_gse4, hL_gse5, hk_gsN, hk_gsE, hk_gsL, hk_gsD, hk_gse, hk_hcl, Int.reduceEq, reduceIte, hN_hcl, ne_eq, not_false_eq_true, Int.reduceNeg, t0, t1, t2, t3, t4, t5, t6, t7, te, tn, l0, l1, l2, l3, l4, l5]; omega)⟩
  · rw [if_neg hl]
    refine h_su hg ?_ (by simpa [gnd, gsN] using ht)
    exact ⟨om, ps, dl, dn, af, c0, pu pd b 0, rp, rv, fw, cl, cw, tk, fl, fc, (by
      unfold hJ
      simp only [hN_gsN, hN_gsE, hN_gsL, hN_gsD, hN_gse, hE_gsN, hE_gsE, hE_gsL, hE_gsD, hE_gse, hE_hcl, hL_gsN, hL_gsE, hL_gsL, hL_gsD, hL_hcl, hL_gse0, hL_gse1, hL_gse2, hL_gse3, hL_gse4, hL_gse5, hk_gsN, hk_gsE, hk_gsL, hk_gsD, hk_gse, hk_hcl, Int.reduceEq, reduceIte, hN_hcl, ne_eq, not_false_eq_true, Int.reduceNeg, t0, t1, t2, t3, t4, t5, t6, t7, te, tn, l0, l1, l2, l3, l4, l5]
      exact pk_ex (b := gsd G b) (h_G hg) hp.1 hst (pk_rcb (h_G hg) hp.1 hb k0 k1 k2 k3 k4 hf ki hj)), (by
      intro m
      have h1 := hx m
      have h2 := h_pd (sd := gsd G) (pd := pd) (v := 0) (n := m) hb2.1 hb2.2
      simp only [hN_gsN, hN_gsE, hN_gsL, hN_gsD, hN_gse, hE_gsN, hE_gsE, hE_gsL, hE_gsD, hE_gse, hE_hcl, hL_gsN, hL_gsE, hL_gsL, hL_gsD, hL_hcl, hL_gse0, hL_gse1, hL_gse2, hL_gse3, hL_gse4, hL_gse5, hk_gsN, hk_gsE, hk_gsL, hk_gsD, hk_gse, hk_hcl, Int.reduceEq, reduceIte, hN_hcl, ne_eq, not_false_eq_true, Int.reduceNeg, t0, t1, t2, t3, t4, t5, t6, t7, te, tn, l0, l1, l2, l3, l4, l5, h2, hpd]
      have h3 : hN S 7 m = psm (fun w => if gsd G w = m then pd w else 0) (2 * gE G).toNat := h1
      by_cases h4 : m = gsd G b
      · rw [h4, pu_at, e7, if_pos rfl]
        rw [h4] at h3
        have h5 : gnd S (gsd G b) 7 = hN S 7 (gsd G b) := rfl
        omega
      · rw [pu_ne h4, if_neg (fun q => h4 q.symm)]
        omega), (by
      have h2 := hp.1; have h3 := hp.2; unfold hP; simp only [hN_gsN, hN_gsE, hN_gsL, hN_gsD, hN_gse, hE_gsN, hE_gsE, hE_gsL, hE_gsD, hE_gse, hE_hcl, hL_gsN, hL_gsE, hL_gsL, hL_gsD, hL_hcl, hL_gse0, hL_gse1, hL_gse2, hL_gse3, hL_gse4, hL_gse5, hk_gsN, hk_gsE, hk_gsL, hk_gsD, hk_gse, hk_hcl, Int.reduceEq, reduceIte, hN_hcl, ne_eq, not_false_eq_true, Int.reduceNeg, t0, t1, t2, t3, t4, t5, t6, t7, te, tn, l0, l1, l2, l3, l4, l5]; omega)⟩

theorem h_rpn {G : gG} {S T : gS} {k b : Int} (hg : hGok G) (h : hI G S 0) (hb : hW G b) (k0 : 0 ≤ k) (k1 : k < gnL S) (k2 : glt S k 5 ≠ 2) (k4 : glt S k 1 = gop b) (hf : ∀ j, 0 ≤ j → j < k → glt S j 1 = glt S k 1 → glt S j 5 ≠ 0) (hT : hTk S T k) (k3 : glt S k 0 = 5) (ki : gnd S (gsd G b) 3 = hed b) (ks : gnd S (gsd G b) 0 ≠ 1) : hI G T 0 ∧ hI G (gsN T (gsd G b) 8 1) 0 := by
  obtain ⟨om, ps, dl, dn, af, c0, pd, rp, rv, fw, cl, cw, tk, fl, fc, hj, hx, hp⟩ := h
  obtain ⟨t0, t1, t2, t3, t4, t5, t6, t7, te, tn, l0, l1, l2, l3, l4, l5⟩ := hT
  have hoo : gop (hL S 1 k) = b := by
    show gop (glt S k 1) = b
    rw [k4]
    exact (h_opW hb).2.1
  have hw1 : hL S 1 k = gop b := k4
  have hed1 : hed (gop b) = hed b := (h_opW hb).2.2.1
  constructor
  · exact ⟨om, ps, dl, dn, af, c0, pd, pu rp (gop b) 2, rv, fw, cl, cw, tk, fl, fc, (by
      unfold hJ
      simp only [hN_gsN, hN_gsE, hN_gsL, hN_gsD, hN_gse, hE_gsN, hE_gsE, hE_gsL, hE_gsD, hE_gse, hE_hcl, hL_gsN, hL_gsE, hL_gsL, hL_gsD, hL_hcl, hL_gse0, hL_gse1, hL_gse2, hL_gse3, hL_gse4, hL_gse5, hk_gsN, hk_gsE, hk_gsL, hk_gsD, hk_gse, hk_hcl, Int.reduceEq, reduceIte, hN_hcl, ne_eq, not_false_eq_true, Int.reduceNeg, t0, t1, t2, t3, t4, t5, t6, t7, te, tn, l0, l1, l2, l3, l4, l5]
      exact pk_rh (h_G hg) hp.1 hb k0 k1 k2 k3 k4 hf ki ks hj), (by
      intro m; have := hx m; simp only [hN_gsN, hN_gsE, hN_gsL, hN_gsD, hN_gse, hE_gsN, hE_gsE, hE_gsL, hE_gsD, hE_gse, hE_hcl, hL_gsN, hL_gsE, hL_gsL, hL_gsD, hL_hcl, hL_gse0, hL_gse1, hL_gse2, hL_gse3, hL_gse4, hL_gse5, hk_gsN, hk_gsE, hk_gsL, hk_gsD, hk_gse, hk_hcl, Int.reduceEq, reduceIte, hN_hcl, ne_eq, not_false_eq_true, Int.reduceNeg, t0, t1, t2, t3, t4, t5, t6, t7, te, tn, l0, l1, l2, l3, l4, l5]; exact this), (by
      have h2 := hp.1; have h3 := hp.2; unfold hP; simp only [hN_gsN, hN_gsE, hN_gsL, hN_gsD, hN_gse, hE_gsN, hE_gsE, hE_gsL, hE_gsD, hE_gse, hE_hcl, hL_gsN, hL_gsE, hL_gsL, hL_gsD, hL_hcl, hL_gse0, hL_gse1, hL_gse2, hL_gse3, hL_gse4, hL_gse5, hk_gsN, hk_gsE, hk_gsL, hk_gsD, hk_gse, hk_hcl, Int.reduceEq, reduceIte, hN_hcl, ne_eq, not_false_eq_true, Int.reduceNeg, t0, t1, t2, t3, t4, t5, t6, t7, te, tn, l0, l1, l2, l3, l4, l5]; omega)⟩
  · exact ⟨om, ps, dl, dn, af, c0, pd, pu rp (gop b) 2, rv, fw, cl, cw, tk, fl, fc, (by
      unfold hJ
      simp only [hN_gsN, hN_gsE, hN_gsL, hN_gsD, hN_gse, hE_gsN, hE_gsE, hE_gsL, hE_gsD, hE_gse, hE_hcl, hL_gsN, hL_gsE, hL_gsL, hL_gsD, hL_hcl, hL_gse0, hL_gse1, hL_gse2, hL_gse3, hL_gse4, hL_gse5, hk_gsN, hk_gsE, hk_gsL, hk_gsD, hk_gse, hk_hcl, Int.reduceEq, reduceIte, hN_hcl, ne_eq, not_false_eq_true, Int.reduceNeg, t0, t1, t2, t3, t4, t5, t6, t7, te, tn, l0, l1, l2, l3, l4, l5]
      exact pk_rh (h_G hg) hp.1 hb k0 k1 k2 k3 k4 hf ki ks hj), (by
      intro m; have := hx m; simp only [hN_gsN, hN_gsE, hN_gsL, hN_gsD, hN_gse, hE_gsN, hE_gsE, hE_gsL, hE_gsD, hE_gse, hE_hcl, hL_gsN, hL_gsE, hL_gsL, hL_gsD, hL_hcl, hL_gse0, hL_gse1, hL_gse2, hL_gse3, hL_gse4, hL_gse5, hk_gsN, hk_gsE, hk_gsL, hk_gsD, hk_gse, hk_hcl, Int.reduceEq, reduceIte, hN_hcl, ne_eq, not_false_eq_true, Int.reduceNeg, t0, t1, t2, t3, t4, t5, t6, t7, te, tn, l0, l1, l2, l3, l4, l5]; exact this), (by
      have h2 := hp.1; have h3 := hp.2; unfold hP; simp only [hN_gsN, hN_gsE, hN_gsL, hN_gsD, hN_gse, hE_gsN, hE_gsE, hE_gsL, hE_gsD, hE_gse, hE_hcl, hL_gsN, hL_gsE, hL_gsL, hL_gsD, hL_hcl, hL_gse0, hL_gse1, hL_gse2, hL_gse3, hL_gse4, hL_gse5, hk_gsN, hk_gsE, hk_gsL, hk_gsD, hk_gse, hk_hcl, Int.reduceEq, reduceIte, hN_hcl, ne_eq, not_false_eq_true, Int.reduceNeg, t0, t1, t2, t3, t4, t5, t6, t7, te, tn, l0, l1, l2, l3, l4, l5]; omega)⟩

theorem h_hch {G : gG} {T : gS} {n a fl fc : Int} {om ps dl dn af c0 pd rp rv fw cl cw tk : Int → Int} (hg : hGok G) (h : hK G T om ps dl dn af c0 pd rp rv fw cl cw tk hNo fl fc 0) (q1 : hW G a) (q2 : gsd G a = n) (q3 : om n = hed a) (q4 : om (gsd G (gop a)) = hed a) (q5 : gnd T n 0 = 2) (q6 : ps n = 0) (q7 : dl n = gnd T n 1) (q8 : 1 ≤ gnd T n 1) (q9 : tk (gnd T n 2) = 1) (q10 : cw (gnd T n 2) = -1) (q11 : gnd T (gsd G (gop a)) 0 ≠ 1) (q12 : dl (gsd G (gop a)) = gnd T (gsd G (gop a)) 1) (q13 : dl (gsd G (gop a)) = gnd T n 1) (q14 : dn (gsd G (gop a)) = gnd T n 2) (q15 : gen T a = 1) (q16 : gen T (gop a) = 1) (q17 : cl (hed a) ≤ gnd T n 1) (q18 : ∀ j, 0 ≤ j → j < gnL T → glt T j 5 ≠ 2 → glt T j 0 = 6 → gnd T (gsd G (gop (glt T j 1))) 2 ≠ gnd T n 2) (q19 : ∀ j, 0 ≤ j → j < gnL T → glt T j 5 ≠ 2 → glt T j 0 = 5 → glt T j 1 ≠ gop a) (q20 : gnd T n 2 = hed a → tk (hed a) = 1) (ht : gnd T n 4 ≠ -1) : hI G (hch G T n) 0 := by
  obtain ⟨hj, hx, hp⟩ := h
  obtain ⟨b, hb, hs, he⟩ := pg_N10e hj n ht
  subst hs
  have he' : gnd T (gsd G b) 4 = hed b := he.symm
  have hgw : gwy G (gsd G b) (hed b) = b := h_wy hg hb
  have hb1 := h_sdN hg hb
  have hph : psm (pfi (hN T 0) (hN T 1) ps dl af) (gN G).toNat + 1 ≤ psm (pfi (hN T 0) (hN T 1) (pu ps (gsd G b) 1) dl af) (gN G).toNat := h_phi (n := gsd G b) (fun i hi => ⟨rfl, rfl, (pu_ne hi).symm, rfl, rfl⟩) hb1.1 hb1.2 (by
    unfold pfi
    have : ps (gsd G b) = 0 := q6
    rw [pu_at, this]
    omega)
  unfold hch
  rw [if_neg ht, he', hgw]
  by_cases hen : gen T b = 1
  · rw [if_pos hen]
    exact ⟨pu om (gsd G b) (hed b), pu ps (gsd G b) 1, dl, dn, af, c0, pd, rp, rv, fw, cl, cw, tk, fl, fc, (by
      unfold hJ
      simp only [hN_gsN, hN_gsE, hN_gsL, hN_gsD, hN_gse, hE_gsN, hE_gsE, hE_gsL, hE_gsD, hE_gse, hE_hcl, hL_gsN, hL_gsE, hL_gsL, hL_gsD, hL_hcl, hL_gse0, hL_gse1, hL_gse2, hL_gse3, hL_gse4, hL_gse5, hk_gsN, hk_gsE, hk_gsL, hk_gsD, hk_gse, hk_hcl, Int.reduceEq, reduceIte, hN_hcl, ne_eq, not_false_eq_true, Int.reduceNeg, hgw]
      exact pk_ca (h_G hg) hp.1 hNo_no q1 q2 q3 q4 q5 q6 q7 q8 q9 q10 q11 q12 q13 q14 q15 q16 q17 q18 q19 q20 hb he.symm hen hj), (by
      intro m; have := hx m; simp only [hN_gsN, hN_gsE, hN_gsL, hN_gsD, hN_gse, hE_gsN, hE_gsE, hE_gsL, hE_gsD, hE_gse, hE_hcl, hL_gsN, hL_gsE, hL_gsL, hL_gsD, hL_hcl, hL_gse0, hL_gse1, hL_gse2, hL_gse3, hL_gse4, hL_gse5, hk_gsN, hk_gsE, hk_gsL, hk_gsD, hk_gse, hk_hcl, Int.reduceEq, reduceIte, hN_hcl, ne_eq, not_false_eq_true, Int.reduceNeg]; exact this), (by
      have h2 := hp.1; have h3 := hp.2; unfold hP; simp only [hN_gsN, hN_gsE, hN_gsL, hN_gsD, hN_gse, hE_gsN, hE_gsE, hE_gsL, hE_gsD, hE_gse, hE_hcl, hL_gsN, hL_gsE, hL_gsL, hL_gsD, hL_hcl, hL_gse0, hL_gse1, hL_gse2, hL_gse3, hL_gse4, hL_gse5, hk_gsN, hk_gsE, hk_gsL, hk_gsD, hk_gse, hk_hcl, Int.reduceEq, reduceIte, hN_hcl, ne_eq, not_false_eq_true, Int.reduceNeg]; omega)⟩
  · rw [if_neg hen]
    exact ⟨pu om (gsd G b) (hed b), pu ps (gsd G b) 1, dl, dn, af, c0, pd, rp, rv, fw, cl, pu cw (gnd T (gsd G b) 2) b, tk, fl, fc, (by
      unfold hJ
      simp only [hN_gsN, hN_gsE, hN_gsL, hN_gsD, hN_gse, hE_gsN, hE_gsE, hE_gsL, hE_gsD, hE_gse, hE_hcl, hL_gsN, hL_gsE, hL_gsL, hL_gsD, hL_hcl, hL_gse0, hL_gse1, hL_gse2, hL_gse3, hL_gse4, hL_gse5, hk_gsN, hk_gsE, hk_gsL, hk_gsD, hk_gse, hk_hcl, Int.reduceEq, reduceIte, hN_hcl, ne_eq, not_false_eq_true, Int.reduceNeg, hgw]
      exact pk_cb (h_G hg) hp.1 hNo_no q1 q2 q3 q4 q5 q6 q7 q8 q9 q10 q11 q12 q13 q14 q15 q16 q17 q18 q19 q20 hb he.symm hen hj), (by
      intro m; have := hx m; simp only [hN_gsN, hN_gsE, hN_gsL, hN_gsD, hN_gse, hE_gsN, hE_gsE, hE_gsL, hE_gsD, hE_gse, hE_hcl, hL_gsN, hL_gsE, hL_gsL, hL_gsD, hL_hcl, hL_gse0, hL_gse1, hL_gse2, hL_gse3, hL_gse4, hL_gse5, hk_gsN, hk_gsE, hk_gsL, hk_gsD, hk_gse, hk_hcl, Int.reduceEq, reduceIte, hN_hcl, ne_eq, not_false_eq_true, Int.reduceNeg]; exact this), (by
      have h2 := hp.1; have h3 := hp.2; unfold hP; simp only [hN_gsN, hN_gsE, hN_gsL, hN_gsD, hN_gse, hE_gsN, hE_gsE, hE_gsL, hE_gsD, hE_gse, hE_hcl, hL_gsN, hL_gsE, hL_gsL, hL_gsD, hL_hcl, hL_gse0, hL_gse1, hL_gse2, hL_gse3, hL_gse4, hL_gse5, hk_gsN, hk_gsE, hk_gsL, hk_gsD, hk_gse, hk_hcl, Int.reduceEq, reduceIte, hN_hcl, ne_eq, not_false_eq_true, Int.reduceNeg]; omega)⟩
