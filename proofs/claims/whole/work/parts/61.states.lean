/-! h: what a step at a node leaves as it was -/
def hFr (G : gG) (n : Int) (S S' : gS) : Prop := (∀ m i, m ≠ n → gnd S' m i = gnd S m i) ∧ (∀ w, gsd G w ≠ n → gen S' w = gen S w) ∧ gnL S ≤ gnL S' ∧ (∀ j f, j < gnL S → glt S' j f = glt S j f) ∧ (0 ≤ gnL S → gnL S' < 1000 → ∀ j, gnL S ≤ j → j < gnL S' → glt S' j 5 = 0)
theorem fr_refl {G : gG} {n : Int} {S : gS} : hFr G n S S := ⟨fun _ _ _ => rfl, fun _ _ => rfl, Int.le_refl _, fun _ _ _ => rfl, fun _ _ j h1 h2 => by omega⟩
theorem fr_trans {G : gG} {n : Int} {S S' S'' : gS} (h : hFr G n S S') (h' : hFr G n S' S'') : hFr G n S S'' := by
  obtain ⟨a1, a2, a3, a4, a5⟩ := h
  obtain ⟨b1, b2, b3, b4, b5⟩ := h'
  refine ⟨fun m i hm => (b1 m i hm).trans (a1 m i hm), fun w hw => (b2 w hw).trans (a2 w hw), by omega, fun j f hj => (b4 j f (by omega)).trans (a4 j f hj), ?_⟩
  intro h0 h1 j h2 h3
  by_cases h4 : j < gnL S'
  · rw [b4 j 5 h4]
    exact a5 h0 (by omega) j h2 h4
  · exact b5 (by omega) h1 j (by omega) h3
theorem fr_gsN {G : gG} {n i v : Int} {S : gS} : hFr G n S (gsN S n i v) := ⟨fun m i' hm => by simp [gnd, gsN, hm], fun _ _ => rfl, Int.le_refl _, fun _ _ _ => rfl, fun _ _ j h1 h2 => by
  have : gnL (gsN S n i v) = gnL S := rfl
  omega⟩
theorem fr_gsE {G : gG} {n w v : Int} {S : gS} (h : gsd G w = n) : hFr G n S (gsE S w v) := ⟨fun _ _ _ => rfl, fun u hu => by
  have : u ≠ w := fun q => hu (by rw [q]; exact h)
  rw [hE_gsE, pu_ne this], Int.le_refl _, fun _ _ _ => rfl, fun _ _ j h1 h2 => by
  have : gnL (gsE S w v) = gnL S := rfl
  omega⟩
theorem fr_gse {G : gG} {n m e kd lv td st : Int} {S : gS} : hFr G n S (gse G S m e kd lv td st) := ⟨fun _ _ _ => rfl, fun _ _ => rfl, by rw [hk_gse]; omega, fun j f hj => by
  have : j ≠ gnL S := by omega
  simp [glt, gse, this], fun _ _ j h1 h2 => by
  rw [hk_gse] at h2
  have : j = gnL S := by omega
  rw [this]
  have h3 := congrFun (hL_gse5 (G := G) (S := S) (n := m) (e := e) (kd := kd) (lv := lv) (td := td) (st := st)) (gnL S)
  rw [pu_at] at h3
  exact h3⟩
theorem fr_hbr {G : gG} {n : Int} {S : gS} : hFr G n S (hbr S) := ⟨fun _ _ _ => rfl, fun _ _ => rfl, by
  have : gnL (hbr S) = gnL S + 1000 := rfl
  omega, fun _ _ _ => rfl, fun h0 h1 => by
  have : gnL (hbr S) = gnL S + 1000 := rfl
  omega⟩
theorem fr_hsu {G : gG} {n : Int} {S : gS} : hFr G n S (hsu G S n) := by
  unfold hsu
  split
  · exact fr_refl
  · split
    · exact fr_hbr
    · exact fr_trans fr_gsN fr_gse
theorem fr_hte {G : gG} {n : Int} {S : gS} : hFr G n S (hte G S n) := by
  unfold hte
  split
  · exact fr_trans fr_gsN fr_hsu
  · exact fr_trans fr_gsN fr_gse
theorem fr_hch {G : gG} {n : Int} {S : gS} (h : gnd S n 4 ≠ -1 → gsd G (gwy G n (gnd S n 4)) = n) : hFr G n S (hch G S n) := by
  unfold hch
  split
  · exact fr_hbr
  · next h1 =>
    split
    · exact fr_gse
    · exact fr_trans fr_gse (fr_gsE (h h1))
theorem fr_gbgR {G : gG} {n e lv td st : Int} {S : gS} : ∀ m : Nat, hFr G n S (gbgR G n e lv td st S m) := by
  intro m
  induction m with
  | zero => exact fr_refl
  | succ m ih =>
    unfold gbgR
    simp only
    split
    · exact ih
    · split
      · exact fr_trans ih (fr_trans fr_gse fr_gsN)
      · exact fr_trans ih fr_gse
theorem fr_hbs {G : gG} {n e k : Int} {S : gS} : hFr G n S (hbs S n e k) := fr_trans fr_gsN (fr_trans fr_gsN (fr_trans fr_gsN (fr_trans fr_gsN (fr_trans fr_gsN fr_gsN))))
theorem fr_hbg {G : gG} {n e k : Int} {S : gS} : hFr G n S (hbg G S n e k) := by
  unfold hbg
  simp only
  split
  · exact fr_trans fr_hbs (fr_trans (fr_gbgR _) fr_hte)
  · exact fr_trans fr_hbs (fr_gbgR _)
theorem fr_grj {G : gG} {n e : Int} {S : gS} (h : gsd G (gwy G n e) = n) : hFr G n S (grj G S n e) := by
  unfold grj
  split
  · exact fr_gsE h
  · exact fr_refl
theorem fr_gbt {G : gG} {n x y : Int} {S : gS} : hFr G n S (gbt G S n x y) := by
  unfold gbt
  split
  · exact fr_trans fr_gsN fr_gsN
  · exact fr_refl
theorem fr_han {G : gG} {n e x : Int} {S : gS} (h : gsd G (gwy G n e) = n) : hFr G n S (han G S n e x) := by
  unfold han
  split
  · exact fr_gse
  · split
    · exact fr_trans (fr_grj h) fr_hte
    · exact fr_trans (fr_grj h) fr_gse
theorem fr_gcn {G : gG} {n e lv : Int} {S : gS} (h : gsd G (gwy G n e) = n) : hFr G n S (gcn G S n e lv) := by
  unfold gcn
  split
  · exact fr_gse
  · simp only
    split
    · exact fr_trans (fr_gsE h) (fr_trans fr_gse fr_gsN)
    · exact fr_trans (fr_gsE h) fr_gse
theorem fr_hhe {G : gG} {n e x : Int} {S : gS} (h : gnd S n 4 ≠ -1 → gsd G (gwy G n (gnd S n 4)) = n) : hFr G n S (hhe G S n e x) := by
  unfold hhe
  split
  · exact fr_trans fr_gsN (fr_trans fr_gbt fr_hsu)
  · split
    · exact fr_hch h
    · split
      · exact fr_gsN
      · exact fr_refl
theorem fr_hhk {G : gG} {n e k : Int} {S : gS} (h : gsd G (gwy G n e) = n) (h' : gnd S n 4 ≠ -1 → gsd G (gwy G n (gnd S n 4)) = n) : hFr G n S (hhk G S n e k) := by
  unfold hhk
  split
  · exact fr_gcn h
  · split
    · exact fr_hbg
    · split
      · exact fr_han h
      · split
        · exact fr_trans fr_gsN (fr_trans fr_gbt fr_hsu)
        · split
          · exact fr_trans (fr_grj h) fr_hte
          · split
            · exact fr_hhe h'
            · exact fr_hch h'
/-! the count of letters -/
theorem h_cnt {G : gG} {S : gS} {c : Int} (hg : hGok G) (h : hI G S c) (hc : 0 ≤ c) : 0 ≤ gnL S ∧ gnL S + c ≤ 252 := by
  obtain ⟨om, ps, dl, dn, af, c0, pd, rp, rv, fw, cl, cw, tk, fl, fc, hj, hx, hp⟩ := h
  refine ⟨hp.1, ?_⟩
  have h1 := hp.2
  have hlev := p_lev (W := hW G) (sd := gsd G) (op := gop) (cl := cl) (cw := cw) (c0 := c0) (E := (gE G).toNat) (N := (gN G).toNat) (by
    intro w
    have := hg.2.2.1
    unfold hW
    omega) (by have := hg.2.1; omega) (fun w hw => h_sdN hg hw) (h_G hg) (pg_CR hj) (pg_Z1 hj) (pg_Z0 hj)
  have h2 := p_cnt (st := hN S 0) (lv := hN S 1) (ps := ps) (dl := dl) (af := af) (fw := fw) (N := (gN G).toNat) (M := (2 * gE G).toNat) (by have := hg.2.1; omega) (by have := hg.2.2.2.1; omega) (by
    intro n
    have a1 := pg_N0 hj n
    have a2 := (pg_C2 hj n).1
    have a3 := hlev (dn n)
    have a4 : dl n ≤ 3 := by
      by_cases q : 1 ≤ dl n
      · have := a2 q
        omega
      · omega
    omega) (by
    intro w h3 h4
    have := (pg_FW hj w ⟨h3, by omega⟩).1
    omega)
  omega
/-! a letter is handled -/
theorem h_hha {G : gG} {S : gS} {k : Int} (hg : hGok G) (h : hI G S 0) (k0 : 0 ≤ k) (k1 : k < gnL S) (k2 : glt S k 5 ≠ 2) (hf : ∀ j, 0 ≤ j → j < k → glt S j 1 = glt S k 1 → glt S j 5 ≠ 0) (hr : gwh G S k = 0) (hq : glt S k 0 = 1 → ∀ j, 0 ≤ j → j < gnL S → glt S j 5 = 1 → grc G (glt S j 1) = grc G (glt S k 1) → gwh G S j ≠ 0) : hI G (hha G S k) 0 ∧ hFr G (grc G (glt S k 1)) (hcl (gsL S k 5 2) (grc G (glt S k 1)) (glt S k 6)) (hha G S k) := by
  have hR : hW G (glt S k 1) ∧ 0 ≤ glt S k 0 ∧ glt S k 0 ≤ 6 ∧ ∀ j, 0 ≤ j → j < gnL S → hW G (glt S j 1) := by
    obtain ⟨om, ps, dl, dn, af, c0, pd, rp, rv, fw, cl, cw, tk, fl, fc, hj, hx, hp⟩ := h
    have h1 := pg_R hj k k0 k1
    exact ⟨h1.1, h1.2.1, h1.2.2.1, fun j a b => (pg_R hj j a b).1⟩
  obtain ⟨hw, hk0, hk6, hwj⟩ := hR
  have htw : ∀ n, gnd S n 4 ≠ -1 → gsd G (gwy G n (gnd S n 4)) = n := by
    obtain ⟨om, ps, dl, dn, af, c0, pd, rp, rv, fw, cl, cw, tk, fl, fc, hj, hx, hp⟩ := h
    intro n hn
    obtain ⟨w, h1, h2, h3⟩ := pg_N10e hj n hn
    have h4 : gnd S n 4 = hed w := h3.symm
    rw [h4, ← h2, h_wy hg h1]
  have hop := h_opW hw
  generalize hb : gop (glt S k 1) = b at hop
  have k4 : glt S k 1 = gop b := hop.2.1.symm
  have hgb : gop (gop b) = b := by rw [← k4]; exact hb
  have hn : grc G (glt S k 1) = gsd G b := by unfold grc; rw [hb]
  have he : glt S k 1 / 2 = hed b := hop.2.2.1.symm
  have hgw : gwy G (gsd G b) (hed b) = b := h_wy hg hop.1
  unfold hha
  rw [hn, he]
  have hT : hTk S (hcl (gsL S k 5 2) (gsd G b) (glt S k 6)) k := hTk_ok
  generalize hcl (gsL S k 5 2) (gsd G b) (glt S k 6) = T at hT
  have z0 : glt T k 0 = glt S k 0 := congrFun hT.2.2.2.2.2.2.2.2.2.2.1 k
  have z2 : glt T k 2 = glt S k 2 := congrFun hT.2.2.2.2.2.2.2.2.2.2.2.2.1 k
  have z3 : glt T k 3 = glt S k 3 := congrFun hT.2.2.2.2.2.2.2.2.2.2.2.2.2.1 k
  have y4 : gnd T (gsd G b) 4 = gnd S (gsd G b) 4 := congrFun hT.2.2.2.2.1 (gsd G b)
  constructor
  · unfold gwh at hr
    simp only at hr
    rw [hn, he, hgw] at hr
    unfold hhk
    rw [z0, z2, z3]
    split
    · next h1 =>
      rw [if_pos h1] at hr
      refine h_con hg h hop.1 k0 k1 k2 k4 hf hT h1 ?_
      by_cases q : glt S k 2 < gnd S (gsd G b) 1 ∨ gen S b ≠ 0
      · exact q
      · rw [if_neg q] at hr
        omega
    · split
      · next h1 =>
        refine h_bgn hg h hop.1 k0 k1 k2 k4 hf hT h1 ?_
        intro j j0 j1 j2 j3
        have h2 := hq h1 j j0 j1 j2 (by rw [hn]; exact j3)
        have hwo := h_opW (hwj j j0 j1)
        have hgw2 : gwy G (gsd G b) (glt S j 1 / 2) = gop (glt S j 1) := by
          have h3 : hed (gop (glt S j 1)) = glt S j 1 / 2 := hwo.2.2.1
          rw [← h3, ← j3]
          exact h_wy hg hwo.1
        unfold gwh grc at h2
        simp only at h2
        rw [j3, hgw2] at h2
        constructor
        · intro h3
          rw [if_pos h3] at h2
          by_cases q : glt S j 2 < gnd S (gsd G b) 1 ∨ gen S (gop (glt S j 1)) ≠ 0
          · rw [if_pos q] at h2
            exact absurd rfl h2
          · omega
        · intro h3
          rw [if_neg (by omega), if_neg (by omega), if_pos h3] at h2
          by_cases q : glt S j 1 / 2 = gnd S (gsd G b) 3 ∧ gnd S (gsd G b) 0 = 1
          · exact q.2
          · rw [if_neg q] at h2
            exact absurd rfl h2
      · split
        · next h1 =>
          rw [if_neg (by omega), if_pos h1] at hr
          refine h_tst hg h hop.1 k0 k1 k2 k4 hf hT h1 ?_
          by_cases q : gnd S (gsd G b) 1 < glt S k 2
          · rw [if_pos q] at hr
            omega
          · omega
        · split
          · next h1 => exact h_acc hg h hop.1 k0 k1 k2 k4 hf hT h1
          · split
            · next h1 => exact h_rej hg h hop.1 k0 k1 k2 k4 hf hT h1
            · split
              · next h1 =>
                rw [if_neg (by omega), if_neg (by omega), if_pos h1] at hr
                refine h_rep hg h hop.1 k0 k1 k2 k4 hf hT h1 ?_
                intro h2 h3
                rw [if_pos ⟨h2.symm, h3⟩] at hr
                omega
              · exact h_chg hg h hop.1 k0 k1 k2 k4 hf hT (by omega)
  · refine fr_hhk (by rw [hgw]) ?_
    rw [y4]
    exact htw (gsd G b)
