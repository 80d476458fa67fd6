/-! h: a node is woken, a letter is deferred, a way's first letter is taken (printed by wip/gen/gen62.py) -/
theorem h_wk {G : gG} {S : gS} {n : Int} (hg : hGok G) (h : hI G S 0) (h0 : 0 ≤ n) (h1 : n < gN G) (hs : gnd S n 0 = 0) : hI G (gwk G S n) 0 ∧ hFr G n S (gwk G S n) ∧ gnd (gwk G S n) n 0 = 2 := by
  obtain ⟨om, ps, dl, dn, af, c0, pd, rp, rv, fw, cl, cw, tk, fl, fc, hj, hx, hp⟩ := h
  have hN1 : n < ((gN G).toNat : Int) := by omega
  unfold gwk
  simp only
  rcases h_glb hg (gsN S n 0 2) n with h2 | h2
  · rw [if_pos h2.1]
    have hno : ∀ w, hW G w → gsd G w ≠ n := by
      intro w hw q
      have h3 := pg_N1w hj w hw (by rw [q]; exact hs)
      exact h2.2 w hw q h3
    have hph : psm (pfi (hN S 0) (hN S 1) ps dl af) (gN G).toNat + 0 ≤ psm (pfi (pu (hN S 0) n 2) (hN S 1) ps dl af) (gN G).toNat := h_phi (n := n) (fun i hi => ⟨(pu_ne hi).symm, rfl, rfl, rfl, rfl⟩) h0 hN1 (by
      unfold pfi
      have : hN S 0 n = 0 := hs
      rw [pu_at, this]
      simp)
    refine ⟨⟨om, ps, dl, dn, af, c0, pd, rp, rv, fw, cl, cw, tk, fl, fc, (by
      unfold hJ
      simp only [hN_gsN, hN_gsE, hN_gsL, hN_gsD, hN_gse, hE_gsN, hE_gsE, hE_gsL, hE_gsD, hE_gse, hE_hcl, hL_gsN, hL_gsE, hL_gsL, hL_gsD, hL_hcl, hL_gse0, hL_gse1, hL_gse2, hL_gse3, hL_gse4, hL_gse5, hk_gsN, hk_gsE, hk_gsL, hk_gsD, hk_gse, hk_hcl, Int.reduceEq, reduceIte, hN_hcl, ne_eq, not_false_eq_true, Int.reduceNeg]
      exact pk_wn (h_G hg) hp.1 hs hno hj), (by
      intro m; have := hx m; simp only [hN_gsN, hN_gsE, hN_gsL, hN_gsD, hN_gse, hE_gsN, hE_gsE, hE_gsL, hE_gsD, hE_gse, hE_hcl, hL_gsN, hL_gsE, hL_gsL, hL_gsD, hL_hcl, hL_gse0, hL_gse1, hL_gse2, hL_gse3, hL_gse4, hL_gse5, hk_gsN, hk_gsE, hk_gsL, hk_gsD, hk_gse, hk_hcl, Int.reduceEq, reduceIte, hN_hcl, ne_eq, not_false_eq_true, Int.reduceNeg]; exact this), (by
      have h2 := hp.1; have h3 := hp.2; unfold hP; simp only [hN_gsN, hN_gsE, hN_gsL, hN_gsD, hN_gse, hE_gsN, hE_gsE, hE_gsL, hE_gsD, hE_gse, hE_hcl, hL_gsN, hL_gsE, hL_gsL, hL_gsD, hL_hcl, hL_gse0, hL_gse1, hL_gse2, hL_gse3, hL_gse4, hL_gse5, hk_gsN, hk_gsE, hk_gsL, hk_gsD, hk_gse, hk_hcl, Int.reduceEq, reduceIte, hN_hcl, ne_eq, not_false_eq_true, Int.reduceNeg]; omega)⟩, fr_trans fr_gsN fr_gsN, ?_⟩
    simp [gnd, gsN]
  · rw [if_neg h2.1]
    obtain ⟨h2, b, hb, hsb, he, hen⟩ := h2
    subst hsb
    have he' : glb G (gsN S (gsd G b) 0 2) (gsd G b) = hed b := he.symm
    have hgw : gwy G (gsd G b) (hed b) = b := h_wy hg hb
    have hps := (pg_N1 hj (gsd G b) hs).2.2.1
    have hph : psm (pfi (hN S 0) (hN S 1) ps dl af) (gN G).toNat + 1 ≤ psm (pfi (pu (hN S 0) (gsd G b) 2) (hN S 1) (pu ps (gsd G b) 1) dl af) (gN G).toNat := h_phi (n := gsd G b) (fun i hi => ⟨(pu_ne hi).symm, rfl, (pu_ne hi).symm, rfl, rfl⟩) h0 hN1 (by
      unfold pfi
      have : hN S 0 (gsd G b) = 0 := hs
      rw [pu_at, pu_at, this, hps]
      simp
      omega)
    rw [he', hgw]
    refine ⟨⟨pu om (gsd G b) (hed b), pu ps (gsd G b) 1, dl, dn, af, pu c0 (gsd G b) (hed b), pd, rp, rv, fw, cl, cw, tk, fl, fc, (by
      unfold hJ
      simp only [hN_gsN, hN_gsE, hN_gsL, hN_gsD, hN_gse, hE_gsN, hE_gsE, hE_gsL, hE_gsD, hE_gse, hE_hcl, hL_gsN, hL_gsE, hL_gsL, hL_gsD, hL_hcl, hL_gse0, hL_gse1, hL_gse2, hL_gse3, hL_gse4, hL_gse5, hk_gsN, hk_gsE, hk_gsL, hk_gsD, hk_gse, hk_hcl, Int.reduceEq, reduceIte, hN_hcl, ne_eq, not_false_eq_true, Int.reduceNeg, hgw]
      exact pk_wk (h_G hg) hp.1 hNo_no hb hs hen hj), (by
      intro m; have := hx m; simp only [hN_gsN, hN_gsE, hN_gsL, hN_gsD, hN_gse, hE_gsN, hE_gsE, hE_gsL, hE_gsD, hE_gse, hE_hcl, hL_gsN, hL_gsE, hL_gsL, hL_gsD, hL_hcl, hL_gse0, hL_gse1, hL_gse2, hL_gse3, hL_gse4, hL_gse5, hk_gsN, hk_gsE, hk_gsL, hk_gsD, hk_gse, hk_hcl, Int.reduceEq, reduceIte, hN_hcl, ne_eq, not_false_eq_true, Int.reduceNeg]; exact this), (by
      have h2 := hp.1; have h3 := hp.2; unfold hP; simp only [hN_gsN, hN_gsE, hN_gsL, hN_gsD, hN_gse, hE_gsN, hE_gsE, hE_gsL, hE_gsD, hE_gse, hE_hcl, hL_gsN, hL_gsE, hL_gsL, hL_gsD, hL_hcl, hL_gse0, hL_gse1, hL_gse2, hL_gse3, hL_gse4, hL_gse5, hk_gsN, hk_gsE, hk_gsL, hk_gsD, hk_gse, hk_hcl, Int.reduceEq, reduceIte, hN_hcl, ne_eq, not_false_eq_true, Int.reduceNeg]; omega)⟩, fr_trans fr_gsN (fr_trans (fr_gsE rfl) fr_gse), ?_⟩
    have h5 : gnd (gse G (gsE (gsN S (gsd G b) 0 2) b 1) (gsd G b) (hed b) 0 0 (-1) (-1)) (gsd G b) 0 = gnd (gsN S (gsd G b) 0 2) (gsd G b) 0 := rfl
    rw [h5]
    simp [gnd, gsN]

theorem h_letW {G : gG} {S : gS} {c j : Int} (h : hI G S c) (h0 : 0 ≤ j) (h1 : j < gnL S) : hW G (glt S j 1) ∧ (glt S j 5 = 0 ∨ glt S j 5 = 1 ∨ glt S j 5 = 2) ∧ (glt S j 5 = 1 → glt S j 0 = 0 ∨ glt S j 0 = 2 ∨ glt S j 0 = 5) ∧ (glt S j 5 ≠ 0 → gnd S (grc G (glt S j 1)) 0 ≠ 0) := by
  obtain ⟨om, ps, dl, dn, af, c0, pd, rp, rv, fw, cl, cw, tk, fl, fc, hj, hx, hp⟩ := h
  have h2 := pg_R hj j h0 h1
  exact ⟨h2.1, h2.2.2.2, pg_WH hj j h0 h1, (pg_N1c hj j h0 h1).2⟩
theorem h_letF {G : gG} {S : gS} {c : Int} (h : hI G S c) : ∀ j k, 0 ≤ j → j < k → k < gnL S → glt S j 1 = glt S k 1 → glt S j 5 = 0 → glt S k 5 = 0 := by
  obtain ⟨om, ps, dl, dn, af, c0, pd, rp, rv, fw, cl, cw, tk, fl, fc, hj, hx, hp⟩ := h
  exact pg_FI hj
theorem h_nd {G : gG} {S : gS} {c : Int} (h : hI G S c) (n : Int) : (gnd S n 0 = 0 ∨ gnd S n 0 = 1 ∨ gnd S n 0 = 2) := by
  obtain ⟨om, ps, dl, dn, af, c0, pd, rp, rv, fw, cl, cw, tk, fl, fc, hj, hx, hp⟩ := h
  exact (pg_N0 hj n).1
theorem h_def {G : gG} {S : gS} {k : Int} (hg : hGok G) (h : hI G S 0) (k0 : 0 ≤ k) (k1 : k < gnL S) (k2 : glt S k 5 = 0) (hf : ∀ j, 0 ≤ j → j < k → glt S j 1 = glt S k 1 → glt S j 5 ≠ 0) (hr : gwh G S k ≠ 0) (ha : gnd S (grc G (glt S k 1)) 0 ≠ 0) : hI G (gdef S k) 0 := by
  have hw := (h_letW h k0 k1).1
  obtain ⟨om, ps, dl, dn, af, c0, pd, rp, rv, fw, cl, cw, tk, fl, fc, hj, hx, hp⟩ := h
  have hop := h_opW hw
  generalize hb : gop (glt S k 1) = b at hop
  have k4 : glt S k 1 = gop b := hop.2.1.symm
  have hn : grc G (glt S k 1) = gsd G b := by unfold grc; rw [hb]
  have he : glt S k 1 / 2 = hed b := hop.2.2.1.symm
  rw [hn] at ha
  have hk : glt S k 0 = 0 ∨ glt S k 0 = 2 ∨ (glt S k 0 = 5 ∧ gnd S (gsd G b) 3 = hed b ∧ gnd S (gsd G b) 0 = 1) := by
    unfold gwh at hr
    simp only at hr
    rw [hn, he] at hr
    by_cases q0 : glt S k 0 = 0
    · exact Or.inl q0
    · rw [if_neg q0] at hr
      by_cases q2 : glt S k 0 = 2
      · exact Or.inr (Or.inl q2)
      · rw [if_neg q2] at hr
        by_cases q5 : glt S k 0 = 5
        · rw [if_pos q5] at hr
          by_cases q : hed b = gnd S (gsd G b) 3 ∧ gnd S (gsd G b) 0 = 1
          · exact Or.inr (Or.inr ⟨q5, q.1.symm, q.2⟩)
          · rw [if_neg q] at hr
            exact absurd rfl hr
        · rw [if_neg q5] at hr
          exact absurd rfl hr
  unfold gdef
  exact ⟨om, ps, dl, dn, af, c0, pd, rp, rv, fw, cl, cw, tk, fl, fc, (by
      unfold hJ
      simp only [hN_gsN, hN_gsE, hN_gsL, hN_gsD, hN_gse, hE_gsN, hE_gsE, hE_gsL, hE_gsD, hE_gse, hE_hcl, hL_gsN, hL_gsE, hL_gsL, hL_gsD, hL_hcl, hL_gse0, hL_gse1, hL_gse2, hL_gse3, hL_gse4, hL_gse5, hk_gsN, hk_gsE, hk_gsL, hk_gsD, hk_gse, hk_hcl, Int.reduceEq, reduceIte, hN_hcl, ne_eq, not_false_eq_true, Int.reduceNeg]
      exact pk_df (h_G hg) hp.1 hop.1 k0 k1 k2 hk k4 hf ha hj), (by
      intro m; have := hx m; simp only [hN_gsN, hN_gsE, hN_gsL, hN_gsD, hN_gse, hE_gsN, hE_gsE, hE_gsL, hE_gsD, hE_gse, hE_hcl, hL_gsN, hL_gsE, hL_gsL, hL_gsD, hL_hcl, hL_gse0, hL_gse1, hL_gse2, hL_gse3, hL_gse4, hL_gse5, hk_gsN, hk_gsE, hk_gsL, hk_gsD, hk_gse, hk_hcl, Int.reduceEq, reduceIte, hN_hcl, ne_eq, not_false_eq_true, Int.reduceNeg]; exact this), (by
      have h2 := hp.1; have h3 := hp.2; unfold hP; simp only [hN_gsN, hN_gsE, hN_gsL, hN_gsD, hN_gse, hE_gsN, hE_gsE, hE_gsL, hE_gsD, hE_gse, hE_hcl, hL_gsN, hL_gsE, hL_gsL, hL_gsD, hL_hcl, hL_gse0, hL_gse1, hL_gse2, hL_gse3, hL_gse4, hL_gse5, hk_gsN, hk_gsE, hk_gsL, hk_gsD, hk_gse, hk_hcl, Int.reduceEq, reduceIte, hN_hcl, ne_eq, not_false_eq_true, Int.reduceNeg]; omega)⟩

/-! nothing that is deferred can be handled -/
def hQn (G : gG) (n : Int) (S : gS) : Prop := ∀ j, 0 ≤ j → j < gnL S → glt S j 5 = 1 → grc G (glt S j 1) ≠ n → gwh G S j ≠ 0
def hQ (G : gG) (S : gS) : Prop := ∀ j, 0 ≤ j → j < gnL S → glt S j 5 = 1 → gwh G S j ≠ 0
theorem h_gwh {G : gG} {S S' : gS} {j : Int} (hg : hGok G) (hw : hW G (glt S j 1)) (hl : ∀ f, f ≠ 5 → f ≠ 7 → glt S' j f = glt S j f) (hn : ∀ i, i ≠ 9 → gnd S' (grc G (glt S j 1)) i = gnd S (grc G (glt S j 1)) i) (he : gen S' (gop (glt S j 1)) = gen S (gop (glt S j 1))) : gwh G S' j = gwh G S j := by
  have hop := h_opW hw
  have hgw : gwy G (grc G (glt S j 1)) (glt S j 1 / 2) = gop (glt S j 1) := by
    have h3 : hed (gop (glt S j 1)) = glt S j 1 / 2 := hop.2.2.1
    rw [← h3]
    exact h_wy hg hop.1
  unfold gwh
  simp only
  rw [hl 0 (by decide) (by decide), hl 1 (by decide) (by decide), hl 2 (by decide) (by decide), hn 0 (by decide), hn 1 (by decide), hn 3 (by decide), hgw, he]
theorem h_gwhF {G : gG} {n : Int} {S S' : gS} {j : Int} (hg : hGok G) (hF : hFr G n S S') (hw : hW G (glt S j 1)) (h1 : j < gnL S) (hn : grc G (glt S j 1) ≠ n) : gwh G S' j = gwh G S j :=
  h_gwh hg hw (fun f _ _ => hF.2.2.2.1 j f h1) (fun i _ => hF.1 _ i hn) (hF.2.1 _ hn)
theorem h_step {G : gG} {S : gS} {k n : Int} (hg : hGok G) (h : hI G S 0) (hQ' : hQn G n S) (k0 : 0 ≤ k) (k1 : k < gnL S) (k2 : glt S k 5 ≠ 2) (hf : ∀ j, 0 ≤ j → j < k → glt S j 1 = glt S k 1 → glt S j 5 ≠ 0) (hr : gwh G S k = 0) (hn : grc G (glt S k 1) = n) (hq : glt S k 0 = 1 → ∀ j, 0 ≤ j → j < gnL S → glt S j 5 = 1 → grc G (glt S j 1) = grc G (glt S k 1) → gwh G S j ≠ 0) : hI G (hha G S k) 0 ∧ hQn G n (hha G S k) ∧ (∀ j, 0 ≤ j → j < gnL (hha G S k) → glt (hha G S k) j 5 = 1 → j < gnL S ∧ j ≠ k ∧ glt S j 5 = 1) ∧ gnL S ≤ gnL (hha G S k) := by
  have h1 := h_hha hg h k0 k1 k2 hf hr hq
  have hT : hTk S (hcl (gsL S k 5 2) (grc G (glt S k 1)) (glt S k 6)) k := hTk_ok
  have hTl : ∀ j f, j ≠ k → glt (hcl (gsL S k 5 2) (grc G (glt S k 1)) (glt S k 6)) j f = glt S j f := by
    intro j f hj
    have h2 := congrFun (hL_hcl (S := gsL S k 5 2) (n := grc G (glt S k 1)) (d := glt S k 6) (i := f)) j
    refine Eq.trans h2 ?_
    simp [hL, glt, gsL, hj]
  have hTn : ∀ m i, i ≠ 9 → gnd (hcl (gsL S k 5 2) (grc G (glt S k 1)) (glt S k 6)) m i = gnd S m i := by
    intro m i hi
    exact congrFun (hN_hcl (S := gsL S k 5 2) (n := grc G (glt S k 1)) (d := glt S k 6) hi) m
  have hTk5 : glt (hcl (gsL S k 5 2) (grc G (glt S k 1)) (glt S k 6)) k 5 = 2 := by
    have h2 := congrFun hT.2.2.2.2.2.2.2.2.2.2.2.2.2.2.2 k
    rw [pu_at] at h2
    exact h2
  have hTL : gnL (hcl (gsL S k 5 2) (grc G (glt S k 1)) (glt S k 6)) = gnL S := hk_hcl
  have hTE : gen (hcl (gsL S k 5 2) (grc G (glt S k 1)) (glt S k 6)) = gen S := hE_hcl
  rw [hn] at h1 hTl hTn hTk5 hTL hTE
  obtain ⟨hI', hF⟩ := h1
  generalize hcl (gsL S k 5 2) n (glt S k 6) = T at *
  have hc := h_cnt hg hI' (by omega)
  have hmono := hF.2.2.1
  have hold : ∀ j, 0 ≤ j → j < gnL (hha G S k) → glt (hha G S k) j 5 = 1 → j < gnL S ∧ j ≠ k ∧ glt S j 5 = 1 := by
    intro j j0 j1 j2
    have hjl : j < gnL T := by
      by_cases q : j < gnL T
      · exact q
      · have h3 := hF.2.2.2.2 (by omega) (by omega) j (by omega) j1
        omega
    rw [hF.2.2.2.1 j 5 hjl] at j2
    have hjk : j ≠ k := by
      intro q
      rw [q, hTk5] at j2
      omega
    rw [hTl j 5 hjk] at j2
    exact ⟨by omega, hjk, j2⟩
  refine ⟨hI', ?_, hold, by omega⟩
  intro j j0 j1 j2 j3
  obtain ⟨a1, a2, a3⟩ := hold j j0 j1 j2
  have hw := (h_letW h j0 a1).1
  have e1 : glt (hha G S k) j 1 = glt S j 1 := (hF.2.2.2.1 j 1 (by omega)).trans (hTl j 1 a2)
  rw [e1] at j3
  have e2 : gwh G T j = gwh G S j := h_gwh hg hw (fun f _ _ => hTl j f a2) (fun i hi => hTn _ i hi) (by rw [hTE])
  have e3 : glt T j 1 = glt S j 1 := hTl j 1 a2
  have e4 : gwh G (hha G S k) j = gwh G T j := h_gwhF hg hF (by rw [e3]; exact hw) (by omega) (by rw [e3]; exact j3)
  rw [e4, e2]
  exact hQ' j j0 a1 a3 j3
theorem h_graR {G : gG} {S : gS} {n : Int} : ∀ m : Nat, (grdR G S n m = -1 ∧ ∀ j : Int, 0 ≤ j → j < m → ¬ (glt S j 5 = 1 ∧ grc G (glt S j 1) = n ∧ gwh G S j = 0)) ∨ (0 ≤ grdR G S n m ∧ grdR G S n m < m ∧ glt S (grdR G S n m) 5 = 1 ∧ grc G (glt S (grdR G S n m) 1) = n ∧ gwh G S (grdR G S n m) = 0) := by
  intro m
  induction m with
  | zero => exact Or.inl ⟨rfl, fun j h1 h2 => by omega⟩
  | succ m ih =>
    unfold grdR
    simp only
    by_cases hc : glt S m 5 = 1 ∧ grc G (glt S m 1) = n ∧ gwh G S m = 0 ∧ (grdR G S n m = -1 ∨ glt S m 7 < glt S (grdR G S n m) 7)
    · rw [if_pos hc]
      exact Or.inr ⟨by omega, by omega, hc.1, hc.2.1, hc.2.2.1⟩
    · rw [if_neg hc]
      rcases ih with h | h
      · left
        refine ⟨h.1, ?_⟩
        intro j h1 h2 h3
        by_cases q : j = m
        · rw [q] at h3
          exact hc ⟨h3.1, h3.2.1, h3.2.2, Or.inl h.1⟩
        · exact h.2 j h1 (by omega) h3
      · right
        exact ⟨h.1, by omega, h.2.2⟩
theorem h_gra {G : gG} {S : gS} {n : Int} (h0 : 0 ≤ gnL S) : (gra G S n = -1 ∧ ∀ j, 0 ≤ j → j < gnL S → ¬ (glt S j 5 = 1 ∧ grc G (glt S j 1) = n ∧ gwh G S j = 0)) ∨ (0 ≤ gra G S n ∧ gra G S n < gnL S ∧ glt S (gra G S n) 5 = 1 ∧ grc G (glt S (gra G S n) 1) = n ∧ gwh G S (gra G S n) = 0) := by
  have h := h_graR (G := G) (S := S) (n := n) (gnL S).toNat
  have e : ((gnL S).toNat : Int) = gnL S := by omega
  rw [e] at h
  exact h
def hcD (S : gS) : Nat := pct (fun j => glt S j 5 = 1) (fun _ => inferInstance) (gnL S).toNat
theorem pct_sub {P Q : Int → Prop} {D : ∀ i, Decidable (P i)} {D2 : ∀ i, Decidable (Q i)} {m m' : Nat} (h : ∀ i : Int, 0 ≤ i → i < m' → Q i → i < m ∧ P i) : pct Q D2 m' ≤ pct P D m := pct_rel (fun i j => i = j) (fun i h1 h2 h3 => ⟨i, h1, (h i h1 h2 h3).1, (h i h1 h2 h3).2, rfl⟩) (fun i i' j _ _ _ _ _ _ h7 h8 => by omega)
theorem h_cD {S S' : gS} {k : Int} (h0 : 0 ≤ gnL S) (k0 : 0 ≤ k) (k1 : k < gnL S) (k2 : glt S k 5 = 1) (h : ∀ j, 0 ≤ j → j < gnL S' → glt S' j 5 = 1 → j < gnL S ∧ j ≠ k ∧ glt S j 5 = 1) : hcD S' + 1 ≤ hcD S := by
  unfold hcD
  have h1 := pct_rem (P := fun j => glt S j 5 = 1) (Q := fun j => glt S j 5 = 1 ∧ j ≠ k) (D := fun _ => inferInstance) (D2 := fun _ => inferInstance) (m := (gnL S).toNat) k0 (by omega) k2 (fun i => Iff.rfl)
  have h2 := pct_sub (P := fun j => glt S j 5 = 1 ∧ j ≠ k) (Q := fun j => glt S' j 5 = 1) (D := fun _ => inferInstance) (D2 := fun _ => inferInstance) (m := (gnL S).toNat) (m' := (gnL S').toNat) (fun i a1 a2 a3 => by
    have := h i a1 (by omega) a3
    exact ⟨by omega, this.2.2, this.2.1⟩)
  omega
theorem h_dr {G : gG} {n : Int} (hg : hGok G) : ∀ f S, hI G S 0 → hQn G n S → hcD S ≤ f → hI G (hdr G n f S) 0 ∧ hQ G (hdr G n f S) ∧ gra G (hdr G n f S) n = -1 := by
  intro f
  induction f with
  | zero =>
    intro S h hq hc
    have hL := (h_cnt hg h (by omega)).1
    have hno : ∀ j, 0 ≤ j → j < gnL S → glt S j 5 ≠ 1 := by
      intro j j0 j1 j2
      have h1 := pct_pos (P := fun j => glt S j 5 = 1) (D := fun _ => inferInstance) (m := (gnL S).toNat) j0 (by omega) j2
      unfold hcD at hc
      omega
    refine ⟨h, fun j j0 j1 j2 => absurd j2 (hno j j0 j1), ?_⟩
    rcases h_gra (G := G) (n := n) hL with h1 | h1
    · exact h1.1
    · exact absurd h1.2.2.1 (hno _ h1.1 h1.2.1)
  | succ f ih =>
    intro S h hq hc
    have hL := (h_cnt hg h (by omega)).1
    unfold hdr
    by_cases hk : gra G S n = -1
    · rw [if_pos hk]
      refine ⟨h, ?_, hk⟩
      intro j j0 j1 j2
      by_cases q : grc G (glt S j 1) = n
      · intro q2
        rcases h_gra (G := G) (n := n) hL with h1 | h1
        · exact h1.2 j j0 j1 ⟨j2, q, q2⟩
        · omega
      · exact hq j j0 j1 j2 q
    · rw [if_neg hk]
      rcases h_gra (G := G) (n := n) hL with h1 | h1
      · exact absurd h1.1 hk
      · obtain ⟨a1, a2, a3, a4, a5⟩ := h1
        have hkd := (h_letW h a1 a2).2.2.1 a3
        have h2 := h_step hg h hq a1 a2 (by omega) (by
          intro j j0 j1 j2 j3
          have := h_letF h j _ j0 j1 a2 j2 j3
          omega) a5 a4 (fun q => by omega)
        have h3 := h_cD hL a1 a2 a3 h2.2.2.1
        exact ih _ h2.1 h2.2.1 (by omega)
theorem h_gfiR {S : gS} {w : Int} : ∀ m : Nat, (gfiR S w m = -1 ∧ ∀ j : Int, 0 ≤ j → j < m → ¬ (glt S j 5 = 0 ∧ glt S j 1 = w)) ∨ (0 ≤ gfiR S w m ∧ gfiR S w m < m ∧ glt S (gfiR S w m) 5 = 0 ∧ glt S (gfiR S w m) 1 = w ∧ ∀ j : Int, 0 ≤ j → j < gfiR S w m → ¬ (glt S j 5 = 0 ∧ glt S j 1 = w)) := by
  intro m
  induction m with
  | zero => exact Or.inl ⟨rfl, fun j h1 h2 => by omega⟩
  | succ m ih =>
    unfold gfiR
    rcases ih with h | h
    · rw [if_neg (fun q => q h.1)]
      by_cases hc : glt S m 5 = 0 ∧ glt S m 1 = w
      · rw [if_pos hc]
        exact Or.inr ⟨by omega, by omega, hc.1, hc.2, h.2⟩
      · rw [if_neg hc]
        left
        refine ⟨rfl, ?_⟩
        intro j h1 h2 h3
        by_cases q : j = m
        · rw [q] at h3
          exact hc h3
        · exact h.2 j h1 (by omega) h3
    · rw [if_pos (by omega)]
      exact Or.inr ⟨h.1, by omega, h.2.2⟩
theorem h_gfi {S : gS} {w : Int} (h0 : 0 ≤ gnL S) : (gfi S w = -1 ∧ ∀ j, 0 ≤ j → j < gnL S → ¬ (glt S j 5 = 0 ∧ glt S j 1 = w)) ∨ (0 ≤ gfi S w ∧ gfi S w < gnL S ∧ glt S (gfi S w) 5 = 0 ∧ glt S (gfi S w) 1 = w ∧ ∀ j, 0 ≤ j → j < gfi S w → ¬ (glt S j 5 = 0 ∧ glt S j 1 = w)) := by
  have h := h_gfiR (S := S) (w := w) (gnL S).toNat
  have e : ((gnL S).toNat : Int) = gnL S := by omega
  rw [e] at h
  exact h
/-- waking keeps it that nothing deferred can be handled -/
theorem h_wkQ {G : gG} {S : gS} {n : Int} (hg : hGok G) (h : hI G S 0) (hq : hQ G S) (h0 : 0 ≤ n) (h1 : n < gN G) (hs : gnd S n 0 = 0) : hQ G (gwk G S n) := by
  obtain ⟨hI', hF, _⟩ := h_wk hg h h0 h1 hs
  have hc := h_cnt hg hI' (by omega)
  have hc0 := h_cnt hg h (by omega)
  intro j j0 j1 j2
  have hjl : j < gnL S := by
    by_cases q : j < gnL S
    · exact q
    · have := hF.2.2.2.2 (by omega) (by omega) j (by omega) j1
      omega
  rw [hF.2.2.2.1 j 5 hjl] at j2
  have hl := h_letW h j0 hjl
  have hn : grc G (glt S j 1) ≠ n := by
    intro q
    have := hl.2.2.2 (by omega)
    rw [q] at this
    exact this hs
  rw [h_gwhF hg hF hl.1 hjl hn]
  exact hq j j0 hjl j2
/-- a way's first letter is taken -/
theorem h_ta {G : gG} {S : gS} {w : Int} (hg : hGok G) (h : hI G S 0) (hq : hQ G S) (hk : gfi S w ≠ -1) : hI G (hta G S w).2 0 ∧ hQ G (hta G S w).2 := by
  have hL := (h_cnt hg h (by omega)).1
  rcases h_gfi (S := S) (w := w) hL with h1 | h1
  · exact absurd h1.1 hk
  obtain ⟨k0, k1, k2, k3, k4⟩ := h1
  unfold hta
  simp only
  generalize hkk : gfi S w = k at *
  have hlW := h_letW h k0 k1
  have hw : hW G w := by rw [← k3]; exact hlW.1
  have hrn : 0 ≤ grc G w ∧ grc G w < gN G := h_sdr hg (h_opW hw).1
  have hst := h_nd h (grc G w)
  have key : ∀ S1, hI G S1 0 → hQ G S1 → k < gnL S1 → (∀ j f, 0 ≤ j → j ≤ k → glt S1 j f = glt S j f) → ((glt S k 0 = 0 ∨ glt S k 0 = 2) → gnd S1 (grc G w) 0 ≠ 0) → hI G (if gwh G S1 k ≠ 0 then (gwh G S1 k, gdef S1 k) else (0, hdr G (grc G w) 256 (hha G S1 k))).2 0 ∧ hQ G (if gwh G S1 k ≠ 0 then (gwh G S1 k, gdef S1 k) else (0, hdr G (grc G w) 256 (hha G S1 k))).2 := by
    intro S1 h1 hq1 hk1 hlt hawk
    have e1 : glt S1 k 1 = w := by rw [hlt k 1 k0 (by omega)]; exact k3
    have e5 : glt S1 k 5 = 0 := by rw [hlt k 5 k0 (by omega)]; exact k2
    have e0 : glt S1 k 0 = glt S k 0 := hlt k 0 k0 (by omega)
    have hf : ∀ j, 0 ≤ j → j < k → glt S1 j 1 = glt S1 k 1 → glt S1 j 5 ≠ 0 := by
      intro j j0 j1 j2 j3
      rw [e1, hlt j 1 j0 (by omega)] at j2
      rw [hlt j 5 j0 (by omega)] at j3
      exact k4 j j0 j1 ⟨j3, j2⟩
    by_cases hr : gwh G S1 k ≠ 0
    · rw [if_pos hr]
      have ha : gnd S1 (grc G (glt S1 k 1)) 0 ≠ 0 := by
        rw [e1]
        unfold gwh at hr
        simp only at hr
        rw [e1, e0] at hr
        by_cases q0 : glt S k 0 = 0
        · exact hawk (Or.inl q0)
        · rw [if_neg q0] at hr
          by_cases q2 : glt S k 0 = 2
          · exact hawk (Or.inr q2)
          · rw [if_neg q2] at hr
            by_cases q5 : glt S k 0 = 5
            · rw [if_pos q5] at hr
              by_cases q : w / 2 = gnd S1 (grc G w) 3 ∧ gnd S1 (grc G w) 0 = 1
              · rw [q.2]
                decide
              · rw [if_neg q] at hr
                exact absurd rfl hr
            · rw [if_neg q5] at hr
              exact absurd rfl hr
      refine ⟨h_def hg h1 k0 hk1 e5 hf hr ha, ?_⟩
      intro j j0 j1 j2
      have hdl : ∀ f, f ≠ 5 → f ≠ 7 → glt (gdef S1 k) j f = glt S1 j f := by
        intro f f5 f7
        simp [gdef, glt, gsL, gsD, f5, f7]
      have hj1 : j < gnL S1 := j1
      have hwj := (h_letW h1 j0 hj1).1
      have hgw : gwh G (gdef S1 k) j = gwh G S1 j := h_gwh hg hwj hdl (fun _ _ => rfl) rfl
      rw [hgw]
      by_cases q : j = k
      · rw [q]
        exact hr
      · refine hq1 j j0 hj1 ?_
        have : glt (gdef S1 k) j 5 = glt S1 j 5 := by simp [gdef, glt, gsL, gsD, q]
        rw [← this]
        exact j2
    · rw [if_neg hr]
      have hr0 : gwh G S1 k = 0 := by
        by_cases q : gwh G S1 k = 0
        · exact q
        · exact absurd q hr
      have h2 := h_step (n := grc G w) hg h1 (fun j a b c _ => hq1 j a b c) k0 hk1 (by omega) hf hr0 (by rw [e1]) (fun _ j a b c _ => hq1 j a b c)
      have hc := h_cnt hg h2.1 (by omega)
      have h3 := h_dr hg (n := grc G w) 256 _ h2.1 h2.2.1 (by
        have := pct_le (P := fun j => glt (hha G S1 k) j 5 = 1) (D := fun _ => inferInstance) (m := (gnL (hha G S1 k)).toNat)
        unfold hcD
        omega)
      exact ⟨h3.1, h3.2.1⟩
  by_cases hcond : (glt S k 0 = 0 ∨ glt S k 0 = 2) ∧ gnd S (grc G w) 0 = 0
  · rw [if_pos hcond]
    obtain ⟨a1, a2, a3⟩ := h_wk hg h hrn.1 hrn.2 hcond.2
    refine key _ a1 (h_wkQ hg h hq hrn.1 hrn.2 hcond.2) ?_ ?_ ?_
    · have := a2.2.2.1
      omega
    · intro j f j0 j1
      exact a2.2.2.2.1 j f (by omega)
    · intro _
      rw [a3]
      decide
  · rw [if_neg hcond]
    refine key _ h hq k1 (fun _ _ _ _ => rfl) ?_
    intro q q2
    exact hcond ⟨q, q2⟩

theorem h_as {G : gG} : hI G gas 0 ∧ hQ G gas := by
  have n0 : ∀ m i : Int, hN gas i m = if 2 ≤ i ∧ i ≤ 6 then -1 else 0 := fun _ _ => rfl
  have x0 : hN gas 0 = fun _ => 0 := rfl
  have x1 : hN gas 1 = fun _ => 0 := rfl
  have x2 : hN gas 2 = fun _ => -1 := rfl
  have x3 : hN gas 3 = fun _ => -1 := rfl
  have x4 : hN gas 4 = fun _ => -1 := rfl
  have x5 : hN gas 5 = fun _ => -1 := rfl
  have x6 : hN gas 6 = fun _ => -1 := rfl
  have x7 : hN gas 7 = fun _ => 0 := rfl
  have xe : gen gas = fun _ => 0 := rfl
  have xl : gnL gas = 0 := rfl
  have hw0 : ∀ w, hW G w → 0 ≤ hed w := fun w hw => by
    have := hw.1
    unfold hed
    omega
  constructor
  · refine ⟨fun _ => -1, fun _ => 0, fun _ => 0, fun _ => -1, fun _ => 1, fun _ => -1, fun _ => 0, fun _ => 0, fun _ => -1, fun _ => 0, fun _ => 0, fun _ => -1, fun _ => 0, 0, 0, ?_, ?_, ?_⟩
    · unfold hJ pj_J
      rw [x0, x1, x2, x3, x4, x5, x6, x7, xe, xl]
      generalize hL gas 0 = l0
      generalize hL gas 1 = l1
      generalize hL gas 2 = l2
      generalize hL gas 3 = l3
      generalize hL gas 4 = l4
      generalize hL gas 5 = l5
      exact ⟨(by unfold pj_R; grind), (by unfold pj_N0; grind), (by unfold pj_N1; grind), (by unfold pj_N1w; grind), (by unfold pj_ER; grind), (by unfold pj_N1c; grind), (by unfold pj_N2; grind), (by unfold pj_N2e; grind), (by unfold pj_N2b; grind), (by unfold pj_N4e; grind), (by unfold pj_N4b; grind), (by unfold pj_N5; grind), (by unfold pj_N7; grind), (by unfold pj_N10; grind), (by unfold pj_N10e; grind), (by unfold pj_N13; grind), (by unfold pj_C1; grind), (by unfold pj_C2; grind), (by unfold pj_R3a; grind), (by unfold pj_E1; grind), (by unfold pj_U; grind), (by unfold pj_A1; grind), (by unfold pj_A2; grind), (by unfold pj_EC; grind), (by unfold pj_R3; grind), (by unfold pj_N11; grind), (by unfold pj_N12; grind), (by unfold pj_N3; grind), (by unfold pj_RJ; grind), (by unfold pj_FW; grind), (by unfold pj_PD; grind), (by unfold pj_CC; grind), (by unfold pj_CD; grind), (by unfold pj_RP; grind), (by unfold pj_RP1; grind), (by unfold pj_CR; grind), (by unfold pj_Z1; grind), (by unfold pj_Z0; grind), (by unfold pj_TK; grind), (by unfold pj_K2; grind), (by unfold pj_WH; grind), (by unfold pj_FI; grind), (by unfold pj_L0; grind), (by unfold pj_FC; grind), (by unfold pj_L0u; grind), (by unfold pj_OC; grind), (by unfold pj_CT; grind), (by unfold pj_L1; grind), (by unfold pj_L1e; grind), (by unfold pj_L1o; grind), (by unfold pj_L1b; grind), (by unfold pj_L1g; grind), (by unfold pj_L2; grind), (by unfold pj_L3; grind), (by unfold pj_L4; grind), (by unfold pj_AF; grind), (by unfold pj_RT; grind), (by unfold pj_CV; grind), (by unfold pj_L5; grind), (by unfold pj_L5o; grind), (by unfold pj_L5u; grind), (by unfold pj_L6; grind), (by unfold pj_L6u; grind)⟩
    · intro n
      rw [x7]
      have h1 : psm (fun w => if gsd G w = n then (0 : Int) else 0) (2 * gE G).toNat = psm (fun _ => 0) (2 * gE G).toNat := psm_eq (fun i _ _ => by simp)
      rw [h1, psm_const]
      simp
    · unfold hP
      rw [x0, x1, xl]
      have h1 : psm (pfi (fun _ => 0) (fun _ => 0) (fun _ => 0) (fun _ => 0) (fun _ => 1)) (gN G).toNat = psm (fun _ => 0) (gN G).toNat := psm_eq (fun i _ _ => by simp [pfi])
      rw [h1, psm_const, psm_const]
      simp
  · intro j j0 j1
    rw [xl] at j1
    omega
