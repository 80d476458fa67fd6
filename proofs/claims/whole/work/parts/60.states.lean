/-! h: BEGIN; a letter is handled (printed by wip/gen/gen60.py) -/
def hF (G : gG) (E : Int → Int) (n b j : Int) : Int → Prop := fun v => hW G v ∧ gsd G v = n ∧ v ≠ b ∧ E v = 1 ∧ j ≤ hed v
theorem hF_skip {G : gG} {E : Int → Int} {n b j : Int} (h : ∀ v, hW G v → gsd G v = n → v ≠ b → E v = 1 → hed v ≠ j) : hF G E n b (j + 1) = hF G E n b j := by
  funext v
  apply propext
  unfold hF
  constructor
  · rintro ⟨h1, h2, h3, h4, h5⟩
    exact ⟨h1, h2, h3, h4, by omega⟩
  · rintro ⟨h1, h2, h3, h4, h5⟩
    have := h v h1 h2 h3 h4
    exact ⟨h1, h2, h3, h4, by omega⟩

theorem h_loop {G : gG} {S : gS} {n b fl fc : Int} {om ps dl0 dn0 af c0 pd0 rp rv fw cl cw tk : Int → Int} (hg : hGok G) (hb : hW G b) (hbn : gsd G b = n) (h : hK G S om ps dl0 dn0 af c0 pd0 rp rv fw cl cw tk (hF G (gen S) n b 0) fl fc 1) (hom : om n = hed b) (hin : gnd S n 3 = hed b) (hlv : 1 ≤ gnd S n 1) (hpd : ∀ v, hF G (gen S) n b 0 v → pd0 v = 0) (hst : gnd S n 0 = 1 ∨ gnd S n 0 = 2) : ∀ m : Nat, (m : Int) ≤ gE G → ∃ dl dn pd, hK G (gbgR G n (hed b) (gnd S n 1) (gnd S n 2) (gnd S n 0) S m) om ps dl dn af c0 pd rp rv fw cl cw tk (hF G (gen S) n b m) fl fc 1 ∧ (∀ i, i ≠ 7 → hN (gbgR G n (hed b) (gnd S n 1) (gnd S n 2) (gnd S n 0) S m) i = hN S i) ∧ gen (gbgR G n (hed b) (gnd S n 1) (gnd S n 2) (gnd S n 0) S m) = gen S ∧ ∀ v, hF G (gen S) n b m v → pd v = 0 := by
  intro m
  induction m with
  | zero => intro _; exact ⟨dl0, dn0, pd0, h, fun _ _ => rfl, rfl, hpd⟩
  | succ m ih =>
    intro hm
    obtain ⟨dl, dn, pd, hk, hN', hE', hp'⟩ := ih (by omega)
    unfold gbgR
    generalize hT : gbgR G n (hed b) (gnd S n 1) (gnd S n 2) (gnd S n 0) S m = T at hk hN' hE'
    simp only
    have hcast : ((m + 1 : Nat) : Int) = (m : Int) + 1 := by omega
    rw [hcast]
    by_cases hc : (m : Int) = hed b ∨ ¬ (gfr G m = n ∨ gsc G m = n) ∨ gen T (gwy G n m) ≠ 1
    · rw [if_pos hc]
      have hsk : hF G (gen S) n b ((m : Int) + 1) = hF G (gen S) n b m := hF_skip (by
        intro v h1 h2 h3 h4 h5
        have h6 : gwy G n m = v := by rw [← h2, ← h5]; exact h_wy hg h1
        rcases hc with hc | hc | hc
        · rcases (h_G hg).2 v b h1 hb (h5.trans hc) with h7 | h7
          · exact h3 h7.symm
          · have := ((h_G hg).1 v h1).2.2.2.1
            rw [← h7, hbn, h2] at this
            exact this rfl
        · apply hc
          rw [← h5, ← h2]
          unfold gsd hed
          split
          · exact Or.inl rfl
          · exact Or.inr rfl
        · rw [h6, hE'] at hc
          exact hc h4)
      rw [hsk]
      exact ⟨dl, dn, pd, hk, hN', hE', hp'⟩
    · rw [if_neg hc]
      have hc1 : (m : Int) ≠ hed b := fun q => hc (Or.inl q)
      have hc2 : gfr G m = n ∨ gsc G m = n := by
        by_cases q : gfr G m = n ∨ gsc G m = n
        · exact q
        · exact absurd (Or.inr (Or.inl q)) hc
      have hc3 : gen T (gwy G n m) = 1 := by
        by_cases q : gen T (gwy G n m) = 1
        · exact q
        · exact absurd (Or.inr (Or.inr q)) hc
      obtain ⟨hv, hvs, hve⟩ := h_inc (G := G) (n := n) (e := m) (by omega) (by omega) hc2
      have hgv' : gwy G n m = gwy G n m := rfl
      generalize hgen : gwy G n m = v at *
      have hvb : v ≠ b := by
        intro q
        rw [q] at hve
        exact hc1 hve.symm
      have hFv : hF G (gen S) n b m v := ⟨hv, hvs, hvb, by rw [← hE']; exact hc3, by omega⟩
      have hpv := hp' v hFv
      obtain ⟨hj, hx, hp⟩ := hk
      have hFF : ∀ u, hF G (gen S) n b ((m : Int) + 1) u ↔ (hF G (gen S) n b m u ∧ u ≠ v) := by
        intro u
        unfold hF
        constructor
        · rintro ⟨h1, h2, h3, h4, h5⟩
          exact ⟨⟨h1, h2, h3, h4, by omega⟩, fun q => by rw [q] at h5; omega⟩
        · rintro ⟨⟨h1, h2, h3, h4, h5⟩, h6⟩
          refine ⟨h1, h2, h3, h4, ?_⟩
          by_cases q : hed u = m
          · exfalso
            apply h6
            rcases (h_G hg).2 v u hv h1 (hve.trans q.symm) with h7 | h7
            · exact h7
            · have := ((h_G hg).1 v hv).2.2.2.1
              rw [← h7, h2, hvs] at this
              exact absurd rfl this
          · omega
      subst hvs
      have e0 : hN T 0 (gsd G v) = gnd S (gsd G v) 0 := congrFun (hN' 0 (by decide)) _
      have e1 : hN T 1 (gsd G v) = gnd S (gsd G v) 1 := congrFun (hN' 1 (by decide)) _
      have e2 : hN T 2 (gsd G v) = gnd S (gsd G v) 2 := congrFun (hN' 2 (by decide)) _
      have e3 : hN T 3 (gsd G v) = gnd S (gsd G v) 3 := congrFun (hN' 3 (by decide)) _
      have hov : om (gsd G v) ≠ hed v := by
        rw [hom, hve]
        exact fun q => hc1 q.symm
      have hnv : hN T 2 (gsd G v) ≠ hed v := by
        intro q
        have h1 := pg_N13 hj v hv (by rw [e1]; exact hlv) q
        rw [e3, hin, hve] at h1
        exact hc1 h1.symm
      have hgv : gwy G (gsd G v) m = v := hgen
      have hdq : dl (gsd G (gop v)) < hN T 1 (gsd G v) := by
        have h1 := pg_A1 hj (gop v) (h_opW hv).1
        have h2 := pg_N3 hj v hv hc3
        rw [(h_opW hv).2.1, (h_opW hv).2.2.1] at h1
        rcases h1 (h2.resolve_left hov) hc3 hov with h3 | h3
        · omega
        · exact absurd hFv h3.1
      have hb1 := h_sdN hg (h_opW hv).1
      have hph : psm (pfi (hN T 0) (hN T 1) ps dl af) (gN G).toNat + 1 ≤ psm (pfi (hN T 0) (hN T 1) ps (pu dl (gsd G (gop v)) (hN T 1 (gsd G v))) af) (gN G).toNat := h_phi (n := gsd G (gop v)) (fun i hi => ⟨rfl, rfl, rfl, (pu_ne hi).symm, rfl⟩) hb1.1 hb1.2 (by
        unfold pfi
        rw [pu_at]
        omega)
      rcases hst with hs | hs
      · rw [if_pos hs]
        refine ⟨pu dl (gsd G (gop v)) (hN T 1 (gsd G v)), pu dn (gsd G (gop v)) (hN T 2 (gsd G v)), pu pd v 1, ⟨(by
          unfold hJ
          simp only [hN_gsN, hN_gsE, hN_gsL, hN_gsD, hN_gse, hE_gsN, hE_gsE, hE_gsL, hE_gsD, hE_gse, hE_hcl, hL_gsN, hL_gsE, hL_gsL, hL_gsD, hL_hcl, hL_gse0, hL_gse1, hL_gse2, hL_gse3, hL_gse4, hL_gse5, hk_gsN, hk_gsE, hk_gsL, hk_gsD, hk_gse, hk_hcl, Int.reduceEq, reduceIte, hN_hcl, ne_eq, not_false_eq_true, Int.reduceNeg, hgv]
          rw [← e1, ← e2, ← e0]
          exact pk_ex (b := gsd G v) (k := gnd T (gsd G v) 7 + 1) (h_G hg) (by have := hp.1; omega) (e0.trans hs) (pk_sf (h_G hg) hp.1 hv hFv hFF hov hc3 hpv hnv (e0.trans hs) hj)), (by
          intro m'
          have h1 := hx m'
          have h2 := h_pd (sd := gsd G) (pd := pd) (v := 1) (n := m') (h_wN hv).1 (h_wN hv).2
          simp only [hN_gsN, hN_gsE, hN_gsL, hN_gsD, hN_gse, hE_gsN, hE_gsE, hE_gsL, hE_gsD, hE_gse, hE_hcl, hL_gsN, hL_gsE, hL_gsL, hL_gsD, hL_hcl, hL_gse0, hL_gse1, hL_gse2, hL_gse3, hL_gse4, hL_gse5, hk_gsN, hk_gsE, hk_gsL, hk_gsD, hk_gse, hk_hcl, Int.reduceEq, reduceIte, hN_hcl, ne_eq, not_false_eq_true, Int.reduceNeg, h2, hpv]
          have h3 : hN T 7 m' = psm (fun w => if gsd G w = m' then pd w else 0) (2 * gE G).toNat := h1
          by_cases h4 : m' = gsd G v
          · rw [h4, pu_at, if_pos rfl]
            rw [h4] at h3
            have h5 : gnd T (gsd G v) 7 = hN T 7 (gsd G v) := rfl
            have h6 : gnd (gse G T (gsd G v) m 1 (gnd S (gsd G v) 1) (gnd S (gsd G v) 2) (gnd S (gsd G v) 0)) (gsd G v) 7 = gnd T (gsd G v) 7 := rfl
            omega
          · rw [pu_ne h4, if_neg (fun q => h4 q.symm)]
            omega), (by
          have h2 := hp.1; have h3 := hp.2; unfold hP; simp only [hN_gsN, hN_gsE, hN_gsL, hN_gsD, hN_gse, hE_gsN, hE_gsE, hE_gsL, hE_gsD, hE_gse, hE_hcl, hL_gsN, hL_gsE, hL_gsL, hL_gsD, hL_hcl, hL_gse0, hL_gse1, hL_gse2, hL_gse3, hL_gse4, hL_gse5, hk_gsN, hk_gsE, hk_gsL, hk_gsD, hk_gse, hk_hcl, Int.reduceEq, reduceIte, hN_hcl, ne_eq, not_false_eq_true, Int.reduceNeg]; omega)⟩, ?_, ?_, ?_⟩
        · intro i hi
          rw [hN_gsN, if_neg hi]
          exact hN' i hi
        · exact hE'
        · intro u hu
          have h1 := (hFF u).mp hu
          rw [pu_ne h1.2]
          exact hp' u h1.1
      · rw [if_neg (by omega)]
        refine ⟨pu dl (gsd G (gop v)) (hN T 1 (gsd G v)), pu dn (gsd G (gop v)) (hN T 2 (gsd G v)), pd, ⟨(by
          unfold hJ
          simp only [hN_gsN, hN_gsE, hN_gsL, hN_gsD, hN_gse, hE_gsN, hE_gsE, hE_gsL, hE_gsD, hE_gse, hE_hcl, hL_gsN, hL_gsE, hL_gsL, hL_gsD, hL_hcl, hL_gse0, hL_gse1, hL_gse2, hL_gse3, hL_gse4, hL_gse5, hk_gsN, hk_gsE, hk_gsL, hk_gsD, hk_gse, hk_hcl, Int.reduceEq, reduceIte, hN_hcl, ne_eq, not_false_eq_true, Int.reduceNeg, hgv]
          rw [← e1, ← e2, ← e0]
          exact pk_sg (h_G hg) hp.1 hv hFv hFF hov hc3 hpv hnv (e0.trans hs) hj), (by
          intro m'; have := hx m'; simp only [hN_gsN, hN_gsE, hN_gsL, hN_gsD, hN_gse, hE_gsN, hE_gsE, hE_gsL, hE_gsD, hE_gse, hE_hcl, hL_gsN, hL_gsE, hL_gsL, hL_gsD, hL_hcl, hL_gse0, hL_gse1, hL_gse2, hL_gse3, hL_gse4, hL_gse5, hk_gsN, hk_gsE, hk_gsL, hk_gsD, hk_gse, hk_hcl, Int.reduceEq, reduceIte, hN_hcl, ne_eq, not_false_eq_true, Int.reduceNeg]; exact this), (by
          have h2 := hp.1; have h3 := hp.2; unfold hP; simp only [hN_gsN, hN_gsE, hN_gsL, hN_gsD, hN_gse, hE_gsN, hE_gsE, hE_gsL, hE_gsD, hE_gse, hE_hcl, hL_gsN, hL_gsE, hL_gsL, hL_gsD, hL_hcl, hL_gse0, hL_gse1, hL_gse2, hL_gse3, hL_gse4, hL_gse5, hk_gsN, hk_gsE, hk_gsL, hk_gsD, hk_gse, hk_hcl, Int.reduceEq, reduceIte, hN_hcl, ne_eq, not_false_eq_true, Int.reduceNeg]; omega)⟩, ?_, ?_, ?_⟩
        · intro i hi
          exact hN' i hi
        · exact hE'
        · intro u hu
          have h1 := (hFF u).mp hu
          exact hp' u h1.1

theorem h_bgn {G : gG} {S T : gS} {k b : Int} (hg : hGok G) (h : hI G S 0) (hb : hW G b) (k0 : 0 ≤ k) (k1 : k < gnL S) (k2 : glt S k 5 ≠ 2) (k4 : glt S k 1 = gop b) (hf : ∀ j, 0 ≤ j → j < k → glt S j 1 = glt S k 1 → glt S j 5 ≠ 0) (hT : hTk S T k) (k3 : glt S k 0 = 1) (hq : ∀ j, 0 ≤ j → j < gnL S → glt S j 5 = 1 → gsd G (gop (glt S j 1)) = gsd G b → (glt S j 0 = 0 → ¬ glt S j 2 < gnd S (gsd G b) 1 ∧ gen S (gop (glt S j 1)) = 0) ∧ (glt S j 0 = 5 → gnd S (gsd G b) 0 = 1)) : hI G (hbg G T (gsd G b) (hed b) k) 0 := by
  obtain ⟨om, ps, dl, dn, af, c0, pd, rp, rv, fw, cl, cw, tk, fl, fc, hj, hx, hp⟩ := h
  obtain ⟨t0, t1, t2, t3, t4, t5, t6, t7, te, tn, l0, l1, l2, l3, l4, l5⟩ := hT
  have hoo : gop (hL S 1 k) = b := by
    show gop (glt S k 1) = b
    rw [k4]
    exact (h_opW hb).2.1
  have hw1 : hL S 1 k = gop b := k4
  have hed1 : hed (gop b) = hed b := (h_opW hb).2.2.1
  have y0 : ∀ m, gnd T m 0 = gnd S m 0 := fun m => congrFun t0 m
  have y1 : ∀ m, gnd T m 1 = gnd S m 1 := fun m => congrFun t1 m
  have y2 : ∀ m, gnd T m 2 = gnd S m 2 := fun m => congrFun t2 m
  have y3 : ∀ m, gnd T m 3 = gnd S m 3 := fun m => congrFun t3 m
  have y4 : ∀ m, gnd T m 4 = gnd S m 4 := fun m => congrFun t4 m
  have y5 : ∀ m, gnd T m 5 = gnd S m 5 := fun m => congrFun t5 m
  have y6 : ∀ m, gnd T m 6 = gnd S m 6 := fun m => congrFun t6 m
  have y7 : ∀ m, gnd T m 7 = gnd S m 7 := fun m => congrFun t7 m
  have z0 : ∀ m, glt T m 0 = glt S m 0 := fun m => congrFun l0 m
  have z1 : ∀ m, glt T m 1 = glt S m 1 := fun m => congrFun l1 m
  have z2 : ∀ m, glt T m 2 = glt S m 2 := fun m => congrFun l2 m
  have z3 : ∀ m, glt T m 3 = glt S m 3 := fun m => congrFun l3 m
  have z4 : ∀ m, glt T m 4 = glt S m 4 := fun m => congrFun l4 m
  have z5 : ∀ m, m ≠ k → glt T m 5 = glt S m 5 := fun m hm => (congrFun l5 m).trans (pu_ne hm)
  have z5k : glt T k 5 = 2 := (congrFun l5 k).trans pu_at
  have hFi : ∀ v, hF G (gen S) (gsd G b) b 0 v ↔ (hW G v ∧ gsd G v = gsd G b ∧ v ≠ b ∧ gen S v = 1) := by
    intro v
    unfold hF
    constructor
    · rintro ⟨h1, h2, h3, h4, _⟩
      exact ⟨h1, h2, h3, h4⟩
    · rintro ⟨h1, h2, h3, h4⟩
      exact ⟨h1, h2, h3, h4, by have := h1.1; unfold hed; omega⟩
  have X := pf_bg (h_G hg) hp.1 hb k0 k1 k2 k3 k4 hf hNo_no hFi hq (pg_R hj) (pg_N0 hj) (pg_N2 hj) (pg_N7 hj) (pg_A2 hj) (pg_EC hj) (pg_PD hj) (pg_WH hj) (pg_OC hj) (pg_L1 hj) (pg_L1e hj) (pg_L1o hj) (pg_L1b hj) (pg_L1g hj) (pg_L5 hj) (pg_L5o hj)
  obtain ⟨f0, f1, f2, f3, f4, f5, f6, f7, f8, f9, f10, f11, f12, f13, f14, f15, f16, f17, f18⟩ := X
  have hb1 := h_sdN hg hb
  have hps := (pg_N0 hj (gsd G b)).2.2.1
  have haf := (pg_N0 hj (gsd G b)).2.2.2.2.2
  have hph : psm (pfi (hN S 0) (hN S 1) ps dl af) (gN G).toNat + 1 ≤ psm (pfi (pu (hN S 0) (gsd G b) (glt S k 4)) (pu (hN S 1) (gsd G b) (glt S k 2)) (pu ps (gsd G b) 0) dl (pu af (gsd G b) 0)) (gN G).toNat := h_phi (n := gsd G b) (fun i hi => ⟨(pu_ne hi).symm, (pu_ne hi).symm, (pu_ne hi).symm, rfl, (pu_ne hi).symm⟩) hb1.1 hb1.2 (by
    unfold pfi
    simp only [pu_at]
    have h1 : hN S 0 (gsd G b) = 2 := f6
    have h2 : hN S 1 (gsd G b) < glt S k 2 := f1
    have h3 : hN S 0 (gsd G b) ≠ 1 := by omega
    rw [if_neg h3]
    split <;> omega)
  have hk : hK G (hbs T (gsd G b) (hed b) k) om (pu ps (gsd G b) 0) dl dn (pu af (gsd G b) 0) c0 pd rp rv fw cl cw tk (hF G (gen S) (gsd G b) b 0) (hN S 1 (gsd G b)) (hN S 2 (gsd G b)) 1 := ⟨(by
      unfold hJ hbs
      simp only [hN_gsN, hN_gsE, hN_gsL, hN_gsD, hN_gse, hE_gsN, hE_gsE, hE_gsL, hE_gsD, hE_gse, hE_hcl, hL_gsN, hL_gsE, hL_gsL, hL_gsD, hL_hcl, hL_gse0, hL_gse1, hL_gse2, hL_gse3, hL_gse4, hL_gse5, hk_gsN, hk_gsE, hk_gsL, hk_gsD, hk_gse, hk_hcl, Int.reduceEq, reduceIte, hN_hcl, ne_eq, not_false_eq_true, Int.reduceNeg, t0, t1, t2, t3, t4, t5, t6, t7, te, tn, l0, l1, l2, l3, l4, l5, z2, z3, z4]
      exact pk_bg (h_G hg) hp.1 hb k0 k1 k2 k3 k4 hf hNo_no hFi hq hj), (by
      unfold hbs
      intro m; have := hx m; simp only [hN_gsN, hN_gsE, hN_gsL, hN_gsD, hN_gse, hE_gsN, hE_gsE, hE_gsL, hE_gsD, hE_gse, hE_hcl, hL_gsN, hL_gsE, hL_gsL, hL_gsD, hL_hcl, hL_gse0, hL_gse1, hL_gse2, hL_gse3, hL_gse4, hL_gse5, hk_gsN, hk_gsE, hk_gsL, hk_gsD, hk_gse, hk_hcl, Int.reduceEq, reduceIte, hN_hcl, ne_eq, not_false_eq_true, Int.reduceNeg, t0, t1, t2, t3, t4, t5, t6, t7, te, tn, l0, l1, l2, l3, l4, l5]; exact this), (by
      unfold hbs
      have h2 := hp.1; have h3 := hp.2; unfold hP; simp only [hN_gsN, hN_gsE, hN_gsL, hN_gsD, hN_gse, hE_gsN, hE_gsE, hE_gsL, hE_gsD, hE_gse, hE_hcl, hL_gsN, hL_gsE, hL_gsL, hL_gsD, hL_hcl, hL_gse0, hL_gse1, hL_gse2, hL_gse3, hL_gse4, hL_gse5, hk_gsN, hk_gsE, hk_gsL, hk_gsD, hk_gse, hk_hcl, Int.reduceEq, reduceIte, hN_hcl, ne_eq, not_false_eq_true, Int.reduceNeg, t0, t1, t2, t3, t4, t5, t6, t7, te, tn, l0, l1, l2, l3, l4, l5, z2, z3, z4]; omega)⟩
  have eE : gen (hbs T (gsd G b) (hed b) k) = gen S := te
  have s0 : gnd (hbs T (gsd G b) (hed b) k) (gsd G b) 0 = glt T k 4 := by simp [hbs, gnd, gsN]
  have s1 : gnd (hbs T (gsd G b) (hed b) k) (gsd G b) 1 = glt T k 2 := by simp [hbs, gnd, gsN]
  have s2 : gnd (hbs T (gsd G b) (hed b) k) (gsd G b) 2 = glt T k 3 := by simp [hbs, gnd, gsN]
  have s3 : gnd (hbs T (gsd G b) (hed b) k) (gsd G b) 3 = hed b := by simp [hbs, gnd, gsN]
  have s4 : gnd (hbs T (gsd G b) (hed b) k) (gsd G b) 4 = -1 := by simp [hbs, gnd, gsN]
  have s6 : gnd (hbs T (gsd G b) (hed b) k) (gsd G b) 6 = -1 := by
    have h1 : gnd (hbs T (gsd G b) (hed b) k) (gsd G b) 6 = gnd T (gsd G b) 6 := by simp [hbs, gnd, gsN]
    rw [h1, y6]
    exact f7
  rw [← eE] at hk
  have hL' := h_loop hg hb rfl hk f0 s3 (by
    rw [s1, z2]
    have h1 : hN S 1 (gsd G b) < glt S k 2 := f1
    have h2 := (pg_N0 hj (gsd G b)).2.1
    omega) (fun v hv => f8 v hv.1 hv.2.1) (by rw [s0, z4]; exact f5) (gE G).toNat (by have := hg.2.2.1; omega)
  obtain ⟨dl', dn', pd', hk', hN', hE', _⟩ := hL'
  rw [s0, s1, s2] at hk' hN' hE'
  have hFn : hF G (gen (hbs T (gsd G b) (hed b) k)) (gsd G b) b ((gE G).toNat : Int) = hNo := by
    funext v
    apply propext
    constructor
    · rintro ⟨h1, _, _, _, h5⟩
      have h6 := h1.2
      have h7 := hg.2.2.1
      unfold hed at h5
      omega
    · exact fun q => q.elim
  rw [hFn] at hk'
  unfold hbg
  simp only
  generalize gbgR G (gsd G b) (hed b) (glt T k 2) (glt T k 3) (glt T k 4) (hbs T (gsd G b) (hed b) k) (gE G).toNat = U at hk' hN' hE'
  split
  · next hs =>
    refine h_te hg hk' ?_ ?_ pu_at ?_
    · have h1 : gnd U (gsd G b) 0 = _ := congrFun (hN' 0 (by decide)) (gsd G b)
      rw [h1]
      exact s0.trans hs
    · have h1 : gnd U (gsd G b) 6 = _ := congrFun (hN' 6 (by decide)) (gsd G b)
      rw [h1]
      exact s6
    · intro w h1 h2 h3
      have h4 : gnd U (gsd G b) 4 = _ := congrFun (hN' 4 (by decide)) (gsd G b)
      rw [h4] at h3
      have h5 : (-1 : Int) = hed w := s4.symm.trans h3
      have := h1.1
      unfold hed at h5
      omega
  · exact h_weak ⟨_, _, _, _, _, _, _, _, _, _, _, _, _, _, _, hk'⟩ (by omega)
