/-! p: what a taken letter does to the letters -/
def hTS (S S' : gS) : Prop := gnL S ≤ gnL S' ∧ (∀ j f, j < gnL S → f ≠ 5 → f ≠ 7 → glt S' j f = glt S j f) ∧ (∀ j, 0 ≤ j → j < gnL S → (glt S' j 5 = 0 ↔ glt S j 5 = 0)) ∧ (∀ j, gnL S ≤ j → j < gnL S' → glt S' j 5 = 0)
def hTR (k : Int) (S S' : gS) : Prop := gnL S ≤ gnL S' ∧ (∀ j f, j < gnL S → f ≠ 5 → f ≠ 7 → glt S' j f = glt S j f) ∧ (∀ j, 0 ≤ j → j < gnL S → j ≠ k → (glt S' j 5 = 0 ↔ glt S j 5 = 0)) ∧ glt S' k 5 ≠ 0 ∧ (∀ j, gnL S ≤ j → j < gnL S' → glt S' j 5 = 0)
theorem ts_refl {S : gS} : hTS S S := ⟨Int.le_refl _, fun _ _ _ _ _ => rfl, fun _ _ _ => Iff.rfl, fun j h1 h2 => by omega⟩
theorem ts_trans {S S' S'' : gS} (h0 : 0 ≤ gnL S) (h : hTS S S') (h' : hTS S' S'') : hTS S S'' := by
  obtain ⟨a1, a2, a3, a4⟩ := h
  obtain ⟨b1, b2, b3, b4⟩ := h'
  refine ⟨by omega, fun j f j1 f5 f7 => (b2 j f (by omega) f5 f7).trans (a2 j f j1 f5 f7), fun j j0 j1 => (b3 j j0 (by omega)).trans (a3 j j0 j1), ?_⟩
  intro j j0 j1
  by_cases q : j < gnL S'
  · exact (b3 j (by omega) q).mpr (a4 j j0 q)
  · exact b4 j (by omega) j1
theorem ts_tr {k : Int} {S S' S'' : gS} (h0 : 0 ≤ gnL S) (k1 : k < gnL S) (h : hTS S S') (h' : hTR k S' S'') : hTR k S S'' := by
  obtain ⟨a1, a2, a3, a4⟩ := h
  obtain ⟨b1, b2, b3, b4, b5⟩ := h'
  refine ⟨by omega, fun j f j1 f5 f7 => (b2 j f (by omega) f5 f7).trans (a2 j f j1 f5 f7), fun j j0 j1 jk => (b3 j j0 (by omega) jk).trans (a3 j j0 j1), b4, ?_⟩
  intro j j0 j1
  by_cases q : j < gnL S'
  · exact (b3 j (by omega) q (by omega)).mpr (a4 j j0 q)
  · exact b5 j (by omega) j1
theorem tr_ts {k : Int} {S S' S'' : gS} (h0 : 0 ≤ gnL S) (k0 : 0 ≤ k) (k1 : k < gnL S) (h : hTR k S S') (h' : hTS S' S'') : hTR k S S'' := by
  obtain ⟨a1, a2, a3, a5, a4⟩ := h
  obtain ⟨b1, b2, b3, b4⟩ := h'
  refine ⟨by omega, fun j f j1 f5 f7 => (b2 j f (by omega) f5 f7).trans (a2 j f j1 f5 f7), fun j j0 j1 jk => (b3 j j0 (by omega)).trans (a3 j j0 j1 jk), fun q => a5 ((b3 k k0 (by omega)).mp q), ?_⟩
  intro j j0 j1
  by_cases q : j < gnL S'
  · exact (b3 j (by omega) q).mpr (a4 j j0 q)
  · exact b4 j (by omega) j1
theorem tr_of1 {k : Int} {S S' : gS} (h : hTR k S S') (h5 : glt S k 5 ≠ 0) : hTS S S' := by
  obtain ⟨a1, a2, a3, a5, a4⟩ := h
  refine ⟨a1, a2, ?_, a4⟩
  intro j j0 j1
  by_cases q : j = k
  · rw [q]
    exact ⟨fun z => absurd z a5, fun z => absurd z h5⟩
  · exact a3 j j0 j1 q
theorem ts_fr {G : gG} {n : Int} {S S' : gS} (hF : hFr G n S S') (h0 : 0 ≤ gnL S) (hL : gnL S' ≤ 256) : hTS S S' :=
  ⟨hF.2.2.1, fun j f j1 _ _ => hF.2.2.2.1 j f j1, fun j j0 j1 => by rw [hF.2.2.2.1 j 5 j1], fun j j0 j1 => hF.2.2.2.2 h0 (by omega) j j0 j1⟩
theorem tr_ha {G : gG} {n d k : Int} {S S' : gS} (hF : hFr G n (hcl (gsL S k 5 2) n d) S') (h0 : 0 ≤ gnL S) (k1 : k < gnL S) (hL : gnL S' ≤ 256) : hTR k S S' := by
  have hTl : ∀ j f, glt (hcl (gsL S k 5 2) n d) j f = glt (gsL S k 5 2) j f := fun j f => congrFun (hL_hcl (S := gsL S k 5 2) (n := n) (d := d) (i := f)) j
  have hTL : gnL (hcl (gsL S k 5 2) n d) = gnL S := hk_hcl
  obtain ⟨_, _, f3, f4, f5⟩ := hF
  rw [hTL] at f3 f4 f5
  refine ⟨f3, ?_, ?_, ?_, fun j j0 j1 => f5 h0 (by omega) j j0 j1⟩
  · intro j f j1 q5 q7
    rw [f4 j f j1, hTl]
    simp [glt, gsL, q5]
  · intro j j0 j1 jk
    rw [f4 j 5 j1, hTl]
    simp [glt, gsL, jk]
  · rw [f4 k 5 k1, hTl]
    simp [glt, gsL]
theorem ts_dr {G : gG} {n : Int} (hg : hGok G) : ∀ f S, hI G S 0 → hQn G n S → hTS S (hdr G n f S) ∧ hI G (hdr G n f S) 0 := by
  intro f
  induction f with
  | zero =>
    intro S h _
    exact ⟨ts_refl, h⟩
  | succ f ih =>
    intro S h hq
    have hL := (h_cnt hg h (by omega)).1
    unfold hdr
    by_cases hk : gra G S n = -1
    · rw [if_pos hk]
      exact ⟨ts_refl, h⟩
    · rw [if_neg hk]
      rcases h_gra (G := G) (n := n) hL with h1 | h1
      · exact absurd h1.1 hk
      · obtain ⟨a1, a2, a3, a4, a5⟩ := h1
        have hkd := (h_letW h a1 a2).2.2.1 a3
        have hf : ∀ j, 0 ≤ j → j < gra G S n → glt S j 1 = glt S (gra G S n) 1 → glt S j 5 ≠ 0 := by
          intro j j0 j1 j2 j3
          have := h_letF h j _ j0 j1 a2 j2 j3
          omega
        have h2 := h_step hg h hq a1 a2 (by omega) hf a5 a4 (fun q => by omega)
        have h3 := h_hha hg h a1 a2 (by omega) hf a5 (fun q => by omega)
        have hc := h_cnt hg h3.1 (by omega)
        have h4 := tr_of1 (tr_ha h3.2 hL a2 (by omega)) (by omega)
        obtain ⟨i1, i2⟩ := ih _ h2.1 h2.2.1
        exact ⟨ts_trans hL h4 i1, i2⟩
theorem ta_tr {G : gG} {S : gS} {w : Int} (hg : hGok G) (hv : hV G S) (hk : gfi S w ≠ -1) : hTR (gfi S w) S (hta G S w).2 := by
  obtain ⟨hi, hq, hr, ho, hlt0⟩ := hv
  have hcn := h_cnt hg hi (by omega)
  rcases h_gfi (S := S) (w := w) hcn.1 with h1 | h1
  · exact absurd h1.1 hk
  obtain ⟨k0, k1, k2, k3, k4⟩ := h1
  have hlW := h_letW hi k0 k1
  have hw' : hW G w := by rw [← k3]; exact hlW.1
  have hrn : 0 ≤ grc G w ∧ grc G w < gN G := h_sdr hg (h_opW hw').1
  have key : ∀ S1, hI G S1 0 → hQ G S1 → hTS S S1 → (∀ f, glt S1 (gfi S w) f = glt S (gfi S w) f) → (∀ j, 0 ≤ j → j < gfi S w → glt S1 j 1 = glt S j 1 ∧ glt S1 j 5 = glt S j 5) → hTR (gfi S w) S (if gwh G S1 (gfi S w) ≠ 0 then (gwh G S1 (gfi S w), gdef S1 (gfi S w)) else (0, hdr G (grc G w) 256 (hha G S1 (gfi S w)))).2 := by
    intro S1 h1 hq1 ht hlk hlj
    have hc1 := h_cnt hg h1 (by omega)
    have hk1 : gfi S w < gnL S1 := by have := ht.1; omega
    by_cases hr0 : gwh G S1 (gfi S w) = 0
    · rw [if_neg (fun q => q hr0)]
      have hf : ∀ j, 0 ≤ j → j < gfi S w → glt S1 j 1 = glt S1 (gfi S w) 1 → glt S1 j 5 ≠ 0 := by
        intro j j0 j1 j2 j3
        rw [(hlj j j0 j1).1, hlk, k3] at j2
        rw [(hlj j j0 j1).2] at j3
        exact k4 j j0 j1 ⟨j3, j2⟩
      have e1 : glt S1 (gfi S w) 1 = w := by rw [hlk]; exact k3
      have e5 : glt S1 (gfi S w) 5 = 0 := by rw [hlk]; exact k2
      have h2 := h_step (n := grc G w) hg h1 (fun j a b c _ => hq1 j a b c) k0 hk1 (by omega) hf hr0 (by rw [e1]) (fun _ j a b c _ => hq1 j a b c)
      have h3 := h_hha hg h1 k0 hk1 (by omega) hf hr0 (fun _ j a b c _ => hq1 j a b c)
      have hc := h_cnt hg h3.1 (by omega)
      have h4 := tr_ha h3.2 hc1.1 hk1 (by omega)
      have h5 := ts_tr hcn.1 k1 ht h4
      exact tr_ts hcn.1 k0 k1 h5 (ts_dr hg 256 _ h2.1 h2.2.1).1
    · rw [if_pos hr0]
      refine ts_tr hcn.1 k1 ht ?_
      refine ⟨Int.le_refl _, ?_, ?_, ?_, fun j j0 j1 => absurd j1 (by show ¬ j < gnL S1; omega)⟩
      · intro j f _ q5 q7
        simp [glt, gdef, gsL, gsD, q5, q7]
      · intro j _ _ q
        simp [glt, gdef, gsL, gsD, q]
      · simp [glt, gdef, gsL, gsD]
  unfold hta
  simp only
  by_cases q : (glt S (gfi S w) 0 = 0 ∨ glt S (gfi S w) 0 = 2) ∧ gnd S (grc G w) 0 = 0
  · rw [if_pos q]
    have hv1 := hV_wk hg ⟨hi, hq, hr, ho, hlt0⟩ hrn.1 hrn.2 q.2
    have hwk := h_wk hg hi hrn.1 hrn.2 q.2
    have hc1 := h_cnt hg hv1.1 (by omega)
    exact key _ hv1.1 hv1.2.1 (ts_fr hwk.2.1 hcn.1 (by omega)) (fun f => hwk.2.1.2.2.2.1 _ f k1) (fun j j0 j1 => ⟨hwk.2.1.2.2.2.1 j 1 (by omega), hwk.2.1.2.2.2.1 j 5 (by omega)⟩)
  · rw [if_neg q]
    exact key _ hi hq ts_refl (fun f => rfl) (fun j _ _ => ⟨rfl, rfl⟩)
theorem pct_ext {P : Int → Prop} {D : ∀ i, Decidable (P i)} {m m' : Nat} (h : m ≤ m') (hn : ∀ i : Int, (m : Int) ≤ i → i < m' → ¬ P i) : pct P D m' = pct P D m := by
  induction m' with
  | zero => rw [show m = 0 by omega]
  | succ m' ih =>
    by_cases q : m = m' + 1
    · rw [q]
    · simp only [pct]
      rw [if_neg (hn m' (by omega) (by omega)), ih (by omega) (fun i i0 i1 => hn i i0 (by omega))]
      rfl
theorem tr_cW {S S' : gS} {k : Int} (h0 : 0 ≤ gnL S) (k0 : 0 ≤ k) (k1 : k < gnL S) (k5 : glt S k 5 = 0) (h : hTR k S S') : hcW S' = hcW S + 1 := by
  obtain ⟨a1, a2, a3, a4, a5⟩ := h
  unfold hcW
  rw [pct_ext (m := (gnL S).toNat) (m' := (gnL S').toNat) (by omega) (fun i i0 i1 q => q (a5 i (by omega) (by omega)))]
  have e : pct (fun j => glt S' j 5 ≠ 0) (fun _ => inferInstance) (gnL S).toNat = pct (fun j => glt S j 5 ≠ 0 ∨ j = k) (fun _ => inferInstance) (gnL S).toNat := by
    refine pct_congr ?_
    intro i i0 i1
    by_cases q : i = k
    · rw [q]
      exact ⟨fun _ => Or.inr rfl, fun _ => a4⟩
    · have := a3 i i0 (by omega) q
      constructor
      · intro z
        exact Or.inl (fun z2 => z (this.mpr z2))
      · rintro (z | z)
        · exact fun z2 => z (this.mp z2)
        · exact absurd z q
  rw [e]
  exact pct_rem (P := fun j => glt S j 5 ≠ 0 ∨ j = k) (Q := fun j => glt S j 5 ≠ 0) (a := k) k0 (by omega) (Or.inr rfl) (fun i => by
    constructor
    · intro z
      exact ⟨Or.inl z, fun q => z (by rw [q]; exact k5)⟩
    · rintro ⟨z | z, q⟩
      · exact z
      · exact absurd z q)
theorem tr_nOn {S S' : gS} {k v : Int} (h0 : 0 ≤ gnL S) (k0 : 0 ≤ k) (k1 : k < gnL S) (h : hTR k S S') : nOn S v ≤ nOn S' v + (if glt S k 1 = v then 1 else 0) := by
  obtain ⟨a1, a2, a3, a4, a5⟩ := h
  by_cases q : glt S k 5 = 0 ∧ glt S k 1 = v
  · rw [if_pos q.2]
    unfold nOn
    have h1 := pct_rem (P := fun j => glt S j 5 = 0 ∧ glt S j 1 = v) (Q := fun j => (glt S j 5 = 0 ∧ glt S j 1 = v) ∧ j ≠ k) (D := fun _ => inferInstance) (D2 := fun _ => inferInstance) (m := (gnL S).toNat) k0 (by omega) q (fun i => Iff.rfl)
    have h2 := pct_sub (P := fun j => glt S' j 5 = 0 ∧ glt S' j 1 = v) (Q := fun j => (glt S j 5 = 0 ∧ glt S j 1 = v) ∧ j ≠ k) (D := fun _ => inferInstance) (D2 := fun _ => inferInstance) (m := (gnL S').toNat) (m' := (gnL S).toNat) (fun i i0 i1 i2 => by
      refine ⟨by omega, (a3 i i0 (by omega) i2.2).mpr i2.1.1, ?_⟩
      rw [a2 i 1 (by omega) (by omega) (by omega)]
      exact i2.1.2)
    omega
  · unfold nOn
    have h2 := pct_sub (P := fun j => glt S' j 5 = 0 ∧ glt S' j 1 = v) (Q := fun j => glt S j 5 = 0 ∧ glt S j 1 = v) (D := fun _ => inferInstance) (D2 := fun _ => inferInstance) (m := (gnL S').toNat) (m' := (gnL S).toNat) (fun i i0 i1 i2 => by
      have ik : i ≠ k := by
        intro e
        rw [e] at i2
        exact q i2
      refine ⟨by omega, (a3 i i0 (by omega) ik).mpr i2.1, ?_⟩
      rw [a2 i 1 (by omega) (by omega) (by omega)]
      exact i2.2)
    omega
theorem h_awk {G : gG} {S : gS} {c : Int} (hg : hGok G) (h : hI G S c) (hL : 0 < gnL S) : ∃ n, 0 ≤ n ∧ n < gN G ∧ gnd S n 0 ≠ 0 := by
  have hw := (h_letW h (j := 0) (by omega) hL).1
  have hs := h_sdr hg hw
  obtain ⟨om, ps, dl, dn, af, c0, pd, rp, rv, fw, cl, cw, tk, fl, fc, hj, hx, hp⟩ := h
  exact ⟨_, hs.1, hs.2, (pg_N1c hj 0 (by omega) hL).1⟩
/-- all asleep as in the beginning, or some node isn't -/
def hZ (G : gG) (S : gS) : Prop := S = gas ∨ ∃ n, 0 ≤ n ∧ n < gN G ∧ gnd S n 0 ≠ 0
theorem hV_ta {G : gG} {S : gS} {w : Int} (hg : hGok G) (hw : hGw G) (hv : hV G S) (hk : gfi S w ≠ -1) : hV G (hta G S w).2 := (m_ta (μ := (fun _ _ => 0, fun _ _ => 0)) hg hw hv hk).2
theorem ta_L {G : gG} {S : gS} {w : Int} (hg : hGok G) (hv : hV G S) (hk : gfi S w ≠ -1) : 0 < gnL (hta G S w).2 := by
  have hcn := h_cnt hg hv.1 (by omega)
  rcases h_gfi (S := S) (w := w) hcn.1 with h1 | h1
  · exact absurd h1.1 hk
  · have := (ta_tr hg hv hk).1
    omega
theorem hZ_ta {G : gG} {S : gS} {w : Int} (hg : hGok G) (hw : hGw G) (hv : hV G S) (hk : gfi S w ≠ -1) : hZ G (hta G S w).2 := Or.inr (h_awk hg (hV_ta hg hw hv hk).1 (ta_L hg hv hk))
theorem hZ_wk {G : gG} {S : gS} {n : Int} (hg : hGok G) (hv : hV G S) (h0 : 0 ≤ n) (h1 : n < gN G) (hs : gnd S n 0 = 0) : hZ G (gwk G S n) := Or.inr ⟨n, h0, h1, by rw [(h_wk hg hv.1 h0 h1 hs).2.2]; decide⟩
/-- so many may be taken yet -/
def hrs (S : gS) : Nat := 256 - hcW S
theorem hrs_ta {G : gG} {S : gS} {w : Int} (hg : hGok G) (hw : hGw G) (hv : hV G S) (hk : gfi S w ≠ -1) : hrs (hta G S w).2 + 1 = hrs S := by
  have hcn := h_cnt hg hv.1 (by omega)
  have hv2 := hV_ta hg hw hv hk
  have hcn2 := h_cnt hg hv2.1 (by omega)
  rcases h_gfi (S := S) (w := w) hcn.1 with h1 | h1
  · exact absurd h1.1 hk
  · have h2 := tr_cW hcn.1 h1.1 h1.2.1 h1.2.2.1 (ta_tr hg hv hk)
    have h3 : hcW (hta G S w).2 ≤ (gnL (hta G S w).2).toNat := pct_le
    unfold hrs
    omega
