/-! the order of those that were deferred stays -/
theorem df_hsu {G : gG} {S : gS} {n : Int} : gdf (hsu G S n) = gdf S := by
  unfold hsu
  split
  · rfl
  · split <;> rfl
theorem df_hte {G : gG} {S : gS} {n : Int} : gdf (hte G S n) = gdf S := by
  unfold hte
  split
  · exact df_hsu
  · rfl
theorem df_hch {G : gG} {S : gS} {n : Int} : gdf (hch G S n) = gdf S := by
  unfold hch
  split
  · rfl
  · split <;> rfl
theorem df_grj {G : gG} {S : gS} {n e : Int} : gdf (grj G S n e) = gdf S := by
  unfold grj
  split <;> rfl
theorem df_gbt {G : gG} {S : gS} {n x y : Int} : gdf (gbt G S n x y) = gdf S := by
  unfold gbt
  split <;> rfl
theorem df_gbgR {G : gG} {n e lv td st : Int} {S : gS} : ∀ m : Nat, gdf (gbgR G n e lv td st S m) = gdf S := by
  intro m
  induction m with
  | zero => rfl
  | succ m ih =>
    unfold gbgR
    simp only
    split
    · exact ih
    · split
      · exact ih
      · exact ih
theorem df_hhk {G : gG} {S : gS} {n e k : Int} : gdf (hhk G S n e k) = gdf S := by
  unfold hhk
  split
  · unfold gcn
    split
    · rfl
    · simp only
      split <;> rfl
  · split
    · unfold hbg
      simp only
      split
      · exact df_hte.trans (df_gbgR _)
      · exact df_gbgR _
    · split
      · unfold han
        split
        · rfl
        · split
          · exact df_hte.trans df_grj
          · exact df_grj (S := S)
      · split
        · exact df_hsu.trans df_gbt
        · split
          · exact df_hte.trans df_grj
          · split
            · unfold hhe
              split
              · exact df_hsu.trans df_gbt
              · split
                · exact df_hch
                · split <;> rfl
            · exact df_hch
theorem df_hha {G : gG} {S : gS} {k : Int} : gdf (hha G S k) = gdf S := by
  unfold hha
  refine df_hhk.trans ?_
  unfold hcl
  split <;> rfl
theorem df_gwk {G : gG} {S : gS} {n : Int} : gdf (gwk G S n) = gdf S := by
  unfold gwk
  simp only
  split <;> rfl
def hcW (S : gS) : Nat := pct (fun k => glt S k 5 ≠ 0) (fun _ => inferInstance) (gnL S).toNat
def hOc (S : gS) : Prop := (0 ≤ gdf S ∧ gdf S ≤ hcW S) ∧ (∀ k, 0 ≤ k → k < gnL S → glt S k 5 = 1 → 1 ≤ glt S k 7 ∧ glt S k 7 ≤ gdf S) ∧ (∀ j k, 0 ≤ j → j < gnL S → glt S j 5 = 1 → 0 ≤ k → k < gnL S → glt S k 5 = 1 → glt S j 7 = glt S k 7 → j = k)
theorem hO_of {S : gS} (h : hOc S) (h0 : 0 ≤ gnL S) (hL : gnL S ≤ 256) : hO S := by
  have h1 := pct_le (P := fun k => glt S k 5 ≠ 0) (D := fun _ => inferInstance) (m := (gnL S).toNat)
  have h2 := h.1
  unfold hcW at h2
  exact ⟨by omega, h.2⟩
theorem hOc_step {S S' : gS} (h : hOc S) (hd : gdf S' = gdf S) (hL : gnL S ≤ gnL S') (h1 : ∀ j, 0 ≤ j → j < gnL S' → glt S' j 5 = 1 → j < gnL S ∧ glt S j 5 = 1 ∧ glt S' j 7 = glt S j 7) (h2 : ∀ j, 0 ≤ j → j < gnL S → glt S j 5 ≠ 0 → glt S' j 5 ≠ 0) : hOc S' := by
  obtain ⟨a1, a2, a3⟩ := h
  have hw : hcW S ≤ hcW S' := pct_sub (fun i i0 i1 i2 => ⟨by omega, h2 i i0 (by omega) i2⟩)
  refine ⟨by omega, ?_, ?_⟩
  · intro k k0 k1 k2
    obtain ⟨b1, b2, b3⟩ := h1 k k0 k1 k2
    rw [b3, hd]
    exact a2 k k0 b1 b2
  · intro j k j0 j1 j2 k0 k1 k2 e
    obtain ⟨b1, b2, b3⟩ := h1 k k0 k1 k2
    obtain ⟨c1, c2, c3⟩ := h1 j j0 j1 j2
    rw [b3, c3] at e
    exact a3 j k j0 c1 c2 k0 b1 b2 e
theorem hOc_fr {G : gG} {n : Int} {S S' : gS} (h : hOc S) (hd : gdf S' = gdf S) (hF : hFr G n S S') (h0 : 0 ≤ gnL S) (hL : gnL S' ≤ 256) : hOc S' := by
  refine hOc_step h hd hF.2.2.1 ?_ ?_
  · intro j j0 j1 j2
    by_cases q : j < gnL S
    · rw [hF.2.2.2.1 j 5 q] at j2
      exact ⟨q, j2, hF.2.2.2.1 j 7 q⟩
    · have := hF.2.2.2.2 h0 (by omega) j (by omega) j1
      omega
  · intro j j0 j1 j2
    rw [hF.2.2.2.1 j 5 j1]
    exact j2
theorem hOc_T {S : gS} {k n d : Int} (h : hOc S) : hOc (hcl (gsL S k 5 2) n d) := by
  have hl : ∀ j f, glt (hcl (gsL S k 5 2) n d) j f = glt (gsL S k 5 2) j f := fun j f => congrFun (hL_hcl (S := gsL S k 5 2) (n := n) (d := d) (i := f)) j
  have hLT : gnL (hcl (gsL S k 5 2) n d) = gnL S := hk_hcl
  refine hOc_step h ?_ (by omega) ?_ ?_
  · unfold hcl
    split <;> rfl
  · intro j j0 j1 j2
    rw [hl] at j2 ⊢
    have hjk : j ≠ k := by
      intro q
      rw [q] at j2
      simp [glt, gsL] at j2
    have e : ∀ f, glt (gsL S k 5 2) j f = glt S j f := by
      intro f
      simp [glt, gsL, hjk]
    rw [e 5] at j2
    exact ⟨by omega, j2, e 7⟩
  · intro j j0 j1 j2
    rw [hl]
    by_cases q : j = k
    · have : glt (gsL S k 5 2) j 5 = 2 := by simp [glt, gsL, q]
      rw [this]
      decide
    · have : glt (gsL S k 5 2) j 5 = glt S j 5 := by simp [glt, gsL, q]
      rw [this]
      exact j2
theorem hOc_def {S : gS} {k : Int} (h : hOc S) (k0 : 0 ≤ k) (k1 : k < gnL S) (k2 : glt S k 5 = 0) : hOc (gdef S k) := by
  obtain ⟨a1, a2, a3⟩ := h
  have e5 : ∀ j, glt (gdef S k) j 5 = if j = k then 1 else glt S j 5 := by
    intro j
    by_cases q : j = k
    · simp [gdef, glt, gsL, gsD, q]
    · simp [gdef, glt, gsL, gsD, q]
  have e7 : ∀ j, glt (gdef S k) j 7 = if j = k then gdf S + 1 else glt S j 7 := by
    intro j
    by_cases q : j = k
    · simp [gdef, glt, gsL, gsD, q]
    · simp [gdef, glt, gsL, gsD, q]
  have ed : gdf (gdef S k) = gdf S + 1 := rfl
  have eL : gnL (gdef S k) = gnL S := rfl
  have hw : hcW S + 1 ≤ hcW (gdef S k) := by
    have h1 := pct_rem (P := fun j => glt (gdef S k) j 5 ≠ 0) (Q := fun j => glt (gdef S k) j 5 ≠ 0 ∧ j ≠ k) (D := fun _ => inferInstance) (D2 := fun _ => inferInstance) (m := (gnL (gdef S k)).toNat) k0 (by rw [eL]; omega) (by show glt (gdef S k) k 5 ≠ 0; rw [e5, if_pos rfl]; decide) (fun i => Iff.rfl)
    have h2 := pct_sub (P := fun j => glt (gdef S k) j 5 ≠ 0 ∧ j ≠ k) (Q := fun j => glt S j 5 ≠ 0) (D := fun _ => inferInstance) (D2 := fun _ => inferInstance) (m := (gnL (gdef S k)).toNat) (m' := (gnL S).toNat) (fun i i0 i1 i2 => by
      have hik : i ≠ k := fun q => i2 (by rw [q]; exact k2)
      refine ⟨by rw [eL]; omega, ?_, hik⟩
      show glt (gdef S k) i 5 ≠ 0
      rw [e5, if_neg hik]
      exact i2)
    unfold hcW
    omega
  refine ⟨by rw [ed]; omega, ?_, ?_⟩
  · intro j j0 j1 j2
    rw [e5] at j2
    rw [e7, ed]
    by_cases q : j = k
    · rw [if_pos q]
      omega
    · rw [if_neg q] at j2 ⊢
      have := a2 j j0 j1 j2
      omega
  · intro i j i0 i1 i2 j0 j1 j2 e
    rw [e5] at i2 j2
    rw [e7, e7] at e
    by_cases q : i = k
    · by_cases q2 : j = k
      · omega
      · rw [if_neg q2] at j2 e
        rw [if_pos q] at e
        have := a2 j j0 j1 j2
        omega
    · rw [if_neg q] at i2 e
      by_cases q2 : j = k
      · rw [if_pos q2] at e
        have := a2 i i0 i1 i2
        omega
      · rw [if_neg q2] at j2 e
        exact a3 i j i0 i1 i2 j0 j1 j2 e
theorem hOc_gas : hOc gas := by
  have eL : gnL gas = 0 := rfl
  refine ⟨⟨by show (0 : Int) ≤ 0; omega, ?_⟩, ?_, ?_⟩
  · show (0 : Int) ≤ _
    omega
  · intro k k0 k1
    omega
  · intro j k j0 j1
    omega
/-! all that a state has between two takes -/
def hV (G : gG) (S : gS) : Prop := hI G S 0 ∧ hQ G S ∧ hRs G S ∧ hOc S ∧ hLt S
theorem hV_gas {G : gG} (hg : hGok G) : hV G gas := ⟨h_as.1, h_as.2, rs_gas hg.2.2.1, hOc_gas, lt_gas⟩
theorem hV_wk {G : gG} {S : gS} {n : Int} (hg : hGok G) (h : hV G S) (h0 : 0 ≤ n) (h1 : n < gN G) (hs : gnd S n 0 = 0) : hV G (gwk G S n) := by
  obtain ⟨a1, a2, a3, a4, a5⟩ := h
  obtain ⟨b1, b2, b3⟩ := h_wk hg a1 h0 h1 hs
  have c := h_cnt hg b1 (by omega)
  exact ⟨b1, h_wkQ hg a1 a2 h0 h1 hs, rs_gwk hg.2.2.1 a3, hOc_fr a4 df_gwk b2 a3.2.2.1 (by omega), lt_wk hg a1 a5⟩
/-- one letter handled -/
theorem hV_ha {G : gG} {S : gS} {k : Int} (hg : hGok G) (hi : hI G S 0) (hr : hRs G S) (ho : hOc S) (k0 : 0 ≤ k) (k1 : k < gnL S) (k2 : glt S k 5 ≠ 2) (hI' : hI G (hha G S k) 0) (hF : hFr G (grc G (glt S k 1)) (hcl (gsL S k 5 2) (grc G (glt S k 1)) (glt S k 6)) (hha G S k)) : hRs G (hha G S k) ∧ hOc (hha G S k) := by
  have c := h_cnt hg hI' (by omega)
  have hLT : gnL (hcl (gsL S k 5 2) (grc G (glt S k 1)) (glt S k 6)) = gnL S := hk_hcl
  refine ⟨rs_hha hg.2.2.1 hr k0 k1 (fun q => h_lv2 hi k0 k1 k2 q) (by omega), ?_⟩
  refine hOc_fr (hOc_T (k := k) (n := grc G (glt S k 1)) (d := glt S k 6) ho) ?_ hF (by rw [hLT]; exact hr.2.2.1) (by omega)
  unfold hha
  exact df_hhk
