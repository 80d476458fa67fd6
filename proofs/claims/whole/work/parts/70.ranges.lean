/-! ranges stay -/
def hRv (G : gG) (S : gS) (i v : Int) : Prop := (i = 0 → 0 ≤ v ∧ v ≤ 2) ∧ (i = 1 → 0 ≤ v ∧ v ≤ gnL S) ∧ ((2 ≤ i ∧ i ≤ 6) → -1 ≤ v ∧ v < gE G) ∧ (i = 9 → 0 ≤ v ∧ v ≤ gnL S)
theorem rs_gsN {G : gG} {S : gS} {n i v : Int} (hr : hRs G S) (hv : hRv G S i v) : hRs G (gsN S n i v) := by
  obtain ⟨he, hn, hL, hl⟩ := hr
  refine ⟨he, ?_, hL, hl⟩
  intro m
  have h1 := hn m
  have e : ∀ j, gnd (gsN S n i v) m j = if m = n ∧ j = i then v else gnd S m j := fun j => rfl
  have eL : gnL (gsN S n i v) = gnL S := rfl
  obtain ⟨v0, v1, v2, v9⟩ := hv
  rw [e 0, e 1, e 2, e 3, e 4, e 5, e 6, e 9, eL]
  obtain ⟨a0, a1, a2, a3, a4, a5, a6, a9⟩ := h1
  refine ⟨?_, ?_, ?_, ?_, ?_, ?_, ?_, ?_⟩
  · split
    · next q => exact v0 q.2.symm
    · exact a0
  · split
    · next q => exact v1 q.2.symm
    · exact a1
  · split
    · next q => exact v2 (by omega)
    · exact a2
  · split
    · next q => exact v2 (by omega)
    · exact a3
  · split
    · next q => exact v2 (by omega)
    · exact a4
  · split
    · next q => exact v2 (by omega)
    · exact a5
  · split
    · next q => exact v2 (by omega)
    · exact a6
  · split
    · next q => exact v9 q.2.symm
    · exact a9
theorem rs_gsE {G : gG} {S : gS} {w v : Int} (hr : hRs G S) (hv : 0 ≤ v ∧ v ≤ 2) : hRs G (gsE S w v) := by
  obtain ⟨he, hn, hL, hl⟩ := hr
  refine ⟨?_, hn, hL, hl⟩
  intro u
  rw [hE_gsE]
  unfold pu
  split
  · exact hv
  · exact he u
theorem rs_gse {G : gG} {S : gS} {n e kd lv td st : Int} (hr : hRs G S) (he0 : 0 ≤ e) (he1 : e < gE G) (hk : 0 ≤ kd ∧ kd ≤ 6) (hlv : -1 ≤ lv ∧ lv ≤ gnL S + 1) (htd : -1 ≤ td ∧ td < gE G) (hst : -1 ≤ st ∧ st ≤ 2) (hs1 : kd = 1 → 0 ≤ st) : hRs G (gse G S n e kd lv td st) := by
  obtain ⟨he, hn, hL, hl⟩ := hr
  refine ⟨he, ?_, by rw [hk_gse]; omega, ?_⟩
  · intro m
    obtain ⟨a0, a1, a2, a3, a4, a5, a6, a9⟩ := hn m
    rw [hk_gse]
    exact ⟨a0, ⟨a1.1, Int.le_trans a1.2 (by omega)⟩, a2, a3, a4, a5, a6, ⟨a9.1, Int.le_trans a9.2 (by omega)⟩⟩
  · intro j j0 j1
    rw [hk_gse] at j1 ⊢
    by_cases q : j = gnL S
    · have f0 : glt (gse G S n e kd lv td st) j 0 = kd := by simp [glt, gse, q]
      have f1 : glt (gse G S n e kd lv td st) j 1 = gwy G n e := by simp [glt, gse, q]
      have f2 : glt (gse G S n e kd lv td st) j 2 = lv := by simp [glt, gse, q]
      have f3 : glt (gse G S n e kd lv td st) j 3 = td := by simp [glt, gse, q]
      have f4 : glt (gse G S n e kd lv td st) j 4 = st := by simp [glt, gse, q]
      have f5 : glt (gse G S n e kd lv td st) j 5 = 0 := by simp [glt, gse, q]
      have f6 : glt (gse G S n e kd lv td st) j 6 = gnd S n 9 + 1 := by simp [glt, gse, q]
      have hw : 0 ≤ gwy G n e ∧ gwy G n e < 2 * gE G := by
        unfold gwy
        split <;> omega
      have h9 := (hn n).2.2.2.2.2.2.2
      rw [f0, f1, f2, f3, f4, f5, f6]
      exact ⟨hk, hw, hlv, htd, hst, hs1, by omega, by omega⟩
    · have h1 := hl j j0 (by omega)
      have e : ∀ f, glt (gse G S n e kd lv td st) j f = glt S j f := by
        intro f
        simp [glt, gse, q]
      rw [e 0, e 1, e 2, e 3, e 4, e 5, e 6]
      obtain ⟨a0, a1, a2, a3, a4, a5, a6, a7⟩ := h1
      exact ⟨a0, a1, by omega, a3, a4, a5, a6, by omega⟩
theorem rs_hbr {G : gG} {S : gS} (hr : hRs G S) (h : gnL (hbr S) ≤ 256) : hRs G (hbr S) := by
  have h1 : gnL (hbr S) = gnL S + 1000 := rfl
  have h2 := hr.2.2.1
  omega
theorem rs_hsu {G : gG} {S : gS} {n : Int} (hr : hRs G S) (hL : gnL (hsu G S n) ≤ 256) : hRs G (hsu G S n) := by
  obtain ⟨a0, a1, a2, a3, a4, a5, a6, a9⟩ := hr.2.1 n
  have hg := hr.2.2.1
  unfold hsu at hL ⊢
  split
  · exact hr
  · next h1 =>
    rw [if_neg h1] at hL
    split
    · next h2 =>
      rw [if_pos h2] at hL
      exact rs_hbr hr hL
    · next h2 =>
      exact rs_gse (rs_gsN hr ⟨fun _ => by omega, fun q => by omega, fun q => by omega, fun q => by omega⟩) (by omega) a3.2 (by omega) (by show -1 ≤ (-1 : Int) ∧ (-1 : Int) ≤ gnL S + 1; omega) a5 (by omega) (fun q => by omega)
theorem rs_hte {G : gG} {S : gS} {n : Int} (hE : 0 ≤ gE G) (hr : hRs G S) (hL : gnL (hte G S n) ≤ 256) : hRs G (hte G S n) := by
  obtain ⟨a0, a1, a2, a3, a4, a5, a6, a9⟩ := hr.2.1 n
  have hb := glb_r (G := G) (S := S) (n := n) hE
  unfold hte at hL ⊢
  split
  · next h1 =>
    rw [if_pos h1] at hL
    exact rs_hsu (rs_gsN hr ⟨fun q => by omega, fun q => by omega, fun q => by omega, fun q => by omega⟩) hL
  · next h1 =>
    exact rs_gse (rs_gsN hr ⟨fun q => by omega, fun q => by omega, fun q => hb, fun q => by omega⟩) (by omega) hb.2 (by omega) (by show -1 ≤ gnd S n 1 ∧ gnd S n 1 ≤ gnL S + 1; omega) a2 (by omega) (fun q => by omega)
theorem rs_hch {G : gG} {S : gS} {n : Int} (hr : hRs G S) (hL : gnL (hch G S n) ≤ 256) : hRs G (hch G S n) := by
  obtain ⟨a0, a1, a2, a3, a4, a5, a6, a9⟩ := hr.2.1 n
  have hL0 := hr.2.2.1
  unfold hch at hL ⊢
  split
  · next h1 =>
    rw [if_pos h1] at hL
    exact rs_hbr hr hL
  · split
    · exact rs_gse hr (by omega) a4.2 (by omega) (by omega) (by omega) (by omega) (fun q => by omega)
    · exact rs_gsE (rs_gse hr (by omega) a4.2 (by omega) (by omega) (by omega) (by omega) (fun q => by omega)) (by omega)
theorem rs_grj {G : gG} {S : gS} {n e : Int} (hr : hRs G S) : hRs G (grj G S n e) := by
  unfold grj
  split
  · exact rs_gsE hr (by omega)
  · exact hr
theorem rs_gbt {G : gG} {S : gS} {n x y : Int} (hr : hRs G S) (hx : -1 ≤ x ∧ x < gE G) (hy : -1 ≤ y ∧ y < gE G) : hRs G (gbt G S n x y) := by
  unfold gbt
  split
  · exact rs_gsN (rs_gsN hr ⟨fun q => by omega, fun q => by omega, fun q => hx, fun q => by omega⟩) ⟨fun q => by omega, fun q => by omega, fun q => hy, fun q => by omega⟩
  · exact hr
theorem rs_gsN7 {G : gG} {S : gS} {n v : Int} (hr : hRs G S) : hRs G (gsN S n 7 v) := rs_gsN hr ⟨fun q => by omega, fun q => by omega, fun q => by omega, fun q => by omega⟩
theorem rs_gcn {G : gG} {S : gS} {n e lv : Int} (hr : hRs G S) (he0 : 0 ≤ e) (he1 : e < gE G) : hRs G (gcn G S n e lv) := by
  obtain ⟨a0, a1, a2, a3, a4, a5, a6, a9⟩ := hr.2.1 n
  unfold gcn
  split
  · exact rs_gse hr he0 he1 (by omega) (by omega) (by omega) (by omega) (fun q => by omega)
  · simp only
    have h1 : hRs G (gse G (gsE S (gwy G n e) 1) n e 1 (gnd S n 1) (gnd S n 2) (gnd S n 0)) := rs_gse (rs_gsE hr (by omega)) he0 he1 (by omega) (by show -1 ≤ gnd S n 1 ∧ gnd S n 1 ≤ gnL S + 1; omega) a2 (by omega) (fun q => a0.1)
    split
    · exact rs_gsN7 h1
    · exact h1
theorem rs_gbgR {G : gG} {n e lv td st : Int} {S : gS} (hr : hRs G S) (hlv : -1 ≤ lv ∧ lv ≤ gnL S) (htd : -1 ≤ td ∧ td < gE G) (hst : 0 ≤ st ∧ st ≤ 2) : ∀ m : Nat, (m : Int) ≤ gE G → hRs G (gbgR G n e lv td st S m) := by
  intro m
  induction m with
  | zero => intro _; exact hr
  | succ m ih =>
    intro hm
    have h1 := ih (by omega)
    have h2 := (gbg_fr (G := G) (n := n) (e := e) (lv := lv) (td := td) (st := st) (S := S) m).2.2.2.2
    unfold gbgR
    simp only
    split
    · exact h1
    · have h3 : hRs G (gse G (gbgR G n e lv td st S m) n m 1 lv td st) := rs_gse h1 (by omega) (by omega) (by omega) (by omega) htd (by omega) (fun q => hst.1)
      split
      · exact rs_gsN7 h3
      · exact h3
theorem rs_hbg {G : gG} {S : gS} {n e k : Int} (hE : 0 ≤ gE G) (hr : hRs G S) (he0 : 0 ≤ e) (he1 : e < gE G) (k0 : 0 ≤ k) (k1 : k < gnL S) (hk : glt S k 0 = 1) (hl2 : 0 ≤ glt S k 2) (hL : gnL (hbg G S n e k) ≤ 256) : hRs G (hbg G S n e k) := by
  obtain ⟨l0, l1, l2, l3, l4, l5, l6, l7⟩ := hr.2.2.2 k k0 k1
  have hb : hRs G (hbs S n e k) := by
    unfold hbs
    refine rs_gsN (rs_gsN (rs_gsN (rs_gsN (rs_gsN (rs_gsN hr ?_) ?_) ?_) ?_) ?_) ?_
    · exact ⟨fun q => by omega, fun q => ⟨hl2, l2.2⟩, fun q => by omega, fun q => by omega⟩
    · exact ⟨fun q => by omega, fun q => by omega, fun q => l3, fun q => by omega⟩
    · exact ⟨fun q => ⟨l5 hk, l4.2⟩, fun q => by omega, fun q => by omega, fun q => by omega⟩
    · exact ⟨fun q => by omega, fun q => by omega, fun q => ⟨by omega, he1⟩, fun q => by omega⟩
    · exact ⟨fun q => by omega, fun q => by omega, fun q => by omega, fun q => by omega⟩
    · exact ⟨fun q => by omega, fun q => by omega, fun q => by omega, fun q => by omega⟩
  have h1 := rs_gbgR (n := n) (e := e) (lv := glt S k 2) (td := glt S k 3) (st := glt S k 4) hb (by show -1 ≤ glt S k 2 ∧ glt S k 2 ≤ gnL S; exact l2) l3 ⟨l5 hk, l4.2⟩ (gE G).toNat (by omega)
  unfold hbg at hL ⊢
  simp only at hL ⊢
  split
  · next q =>
    rw [if_pos q] at hL
    exact rs_hte hE h1 hL
  · exact h1
theorem rs_hhk {G : gG} {S : gS} {n e k : Int} (hE : 0 ≤ gE G) (hr : hRs G S) (he0 : 0 ≤ e) (he1 : e < gE G) (k0 : 0 ≤ k) (k1 : k < gnL S) (hl2 : glt S k 0 = 1 → 0 ≤ glt S k 2) (hL : gnL (hhk G S n e k) ≤ 256) : hRs G (hhk G S n e k) := by
  obtain ⟨l0, l1, l2, l3, l4, l5, l6, l7⟩ := hr.2.2.2 k k0 k1
  have s6 : hRs G (gsN S n 6 (-1)) := rs_gsN hr ⟨fun q => by omega, fun q => by omega, fun q => by omega, fun q => by omega⟩
  have s8 : hRs G (gsN S n 8 1) := rs_gsN hr ⟨fun q => by omega, fun q => by omega, fun q => by omega, fun q => by omega⟩
  unfold hhk at hL ⊢
  by_cases q0 : glt S k 0 = 0
  · rw [if_pos q0]
    exact rs_gcn hr he0 he1
  rw [if_neg q0] at hL ⊢
  by_cases q1 : glt S k 0 = 1
  · rw [if_pos q1] at hL ⊢
    exact rs_hbg hE hr he0 he1 k0 k1 q1 (hl2 q1) hL
  rw [if_neg q1] at hL ⊢
  by_cases q2 : glt S k 0 = 2
  · rw [if_pos q2] at hL ⊢
    unfold han at hL ⊢
    by_cases r1 : glt S k 3 ≠ gnd S n 2
    · rw [if_pos r1]
      exact rs_gse hr he0 he1 (by omega) (by have := hr.2.2.1; omega) (by omega) (by omega) (fun q => by omega)
    · rw [if_neg r1] at hL ⊢
      by_cases r2 : gnd S n 6 = e
      · rw [if_pos r2] at hL ⊢
        exact rs_hte hE (rs_grj hr) hL
      · rw [if_neg r2]
        exact rs_gse (rs_grj hr) he0 he1 (by omega) (by have := (rs_grj (n := n) (e := e) hr).2.2.1; omega) (by omega) (by omega) (fun q => by omega)
  rw [if_neg q2] at hL ⊢
  by_cases q3 : glt S k 0 = 3
  · rw [if_pos q3] at hL ⊢
    exact rs_hsu (rs_gbt s6 (by omega) (by omega)) hL
  rw [if_neg q3] at hL ⊢
  by_cases q4 : glt S k 0 = 4
  · rw [if_pos q4] at hL ⊢
    exact rs_hte hE (rs_grj hr) hL
  rw [if_neg q4] at hL ⊢
  by_cases q5 : glt S k 0 = 5
  · rw [if_pos q5] at hL ⊢
    unfold hhe at hL ⊢
    by_cases r1 : e ≠ gnd S n 3
    · rw [if_pos r1] at hL ⊢
      exact rs_hsu (rs_gbt (rs_gsN7 hr) l3 (by omega)) hL
    · rw [if_neg r1] at hL ⊢
      by_cases r2 : gli G (gnd S n 5) (glt S k 3) = true
      · rw [if_pos r2] at hL ⊢
        exact rs_hch hr hL
      · rw [if_neg r2]
        split
        · exact s8
        · exact hr
  rw [if_neg q5] at hL ⊢
  exact rs_hch hr hL
theorem rs_hha {G : gG} {S : gS} {k : Int} (hE : 0 ≤ gE G) (hr : hRs G S) (k0 : 0 ≤ k) (k1 : k < gnL S) (hl2 : glt S k 0 = 1 → 0 ≤ glt S k 2) (hL : gnL (hha G S k) ≤ 256) : hRs G (hha G S k) := by
  obtain ⟨l0, l1, l2, l3, l4, l5, l6, l7⟩ := hr.2.2.2 k k0 k1
  have hT := hRs_T (n := grc G (glt S k 1)) hr k0 k1
  have hLT : gnL (hcl (gsL S k 5 2) (grc G (glt S k 1)) (glt S k 6)) = gnL S := hk_hcl
  have hl : ∀ f, f ≠ 5 → glt (hcl (gsL S k 5 2) (grc G (glt S k 1)) (glt S k 6)) k f = glt S k f := by
    intro f hf
    refine Eq.trans (congrFun (hL_hcl (S := gsL S k 5 2) (n := grc G (glt S k 1)) (d := glt S k 6) (i := f)) k) ?_
    show glt (gsL S k 5 2) k f = glt S k f
    simp [glt, gsL, hf]
  unfold hha at hL ⊢
  exact rs_hhk hE hT (by omega) (by omega) k0 (by rw [hLT]; exact k1) (by rw [hl 0 (by decide), hl 2 (by decide)]; exact hl2) hL
theorem rs_gwk {G : gG} {S : gS} {n : Int} (hE : 0 ≤ gE G) (hr : hRs G S) : hRs G (gwk G S n) := by
  have hb := glb_r (G := G) (S := gsN S n 0 2) (n := n) hE
  have s0 : hRs G (gsN S n 0 2) := rs_gsN hr ⟨fun q => by omega, fun q => by omega, fun q => by omega, fun q => by omega⟩
  have hL0 := hr.2.2.1
  unfold gwk
  simp only
  split
  · exact rs_gsN s0 ⟨fun q => by omega, fun q => by omega, fun q => by omega, fun q => by omega⟩
  · exact rs_gse (rs_gsE s0 (by omega)) (by omega) hb.2 (by omega) (by show -1 ≤ (0 : Int) ∧ (0 : Int) ≤ gnL S + 1; omega) (by omega) (by omega) (fun q => by omega)
theorem rs_gdef {G : gG} {S : gS} {k : Int} (hr : hRs G S) : hRs G (gdef S k) := by
  obtain ⟨he, hn, hL', hl⟩ := hr
  refine ⟨he, hn, hL', ?_⟩
  intro j j0 j1
  have h1 := hl j j0 j1
  have e : ∀ f, f ≠ 5 → f ≠ 7 → glt (gdef S k) j f = glt S j f := by
    intro f h5 h7
    simp [gdef, glt, gsL, gsD, h5, h7]
  have e5 : glt (gdef S k) j 5 = if j = k then 1 else glt S j 5 := by
    by_cases q : j = k
    · simp [gdef, glt, gsL, gsD, q]
    · simp [gdef, glt, gsL, gsD, q]
  obtain ⟨a0, a1, a2, a3, a4, a5, a6, a7⟩ := h1
  rw [e 0 (by decide) (by decide), e 1 (by decide) (by decide), e 2 (by decide) (by decide), e 3 (by decide) (by decide), e 4 (by decide) (by decide), e 6 (by decide) (by decide), e5]
  refine ⟨a0, a1, a2, a3, a4, a5, ?_, a7⟩
  split
  · omega
  · exact a6
theorem rs_gas {G : gG} (hE : 0 ≤ gE G) : hRs G gas := by
  refine ⟨fun w => ⟨by show (0 : Int) ≤ 0; omega, by show (0 : Int) ≤ 2; omega⟩, ?_, by show (0 : Int) ≤ 0; omega, ?_⟩
  · intro n
    have e : ∀ i, gnd gas n i = if 2 ≤ i ∧ i ≤ 6 then -1 else 0 := fun i => rfl
    have eL : gnL gas = 0 := rfl
    rw [e 0, e 1, e 2, e 3, e 4, e 5, e 6, e 9, eL]
    simp
    omega
  · intro k k0 k1
    have eL : gnL gas = 0 := rfl
    omega
/-- what a state has at which nothing is under way -/
theorem h_exp {G : gG} {S : gS} {c : Int} (hg : hGok G) (h : hI G S c) : ∀ n, 0 ≤ gnd S n 7 ∧ gnd S n 7 ≤ 60 := by
  obtain ⟨om, ps, dl, dn, af, c0, pd, rp, rv, fw, cl, cw, tk, fl, fc, hj, hx, hp⟩ := h
  intro n
  have h1 : gnd S n 7 = psm (fun w => if gsd G w = n then pd w else 0) (2 * gE G).toNat := hx n
  have h2 : psm (fun _ => 0) (2 * gE G).toNat ≤ psm (fun w => if gsd G w = n then pd w else 0) (2 * gE G).toNat := psm_le (fun i i0 i1 => by
    have := (pg_PD hj i ⟨i0, by omega⟩).1
    split <;> omega)
  have h3 : psm (fun w => if gsd G w = n then pd w else 0) (2 * gE G).toNat ≤ psm (fun _ => 1) (2 * gE G).toNat := psm_le (fun i i0 i1 => by
    have := (pg_PD hj i ⟨i0, by omega⟩).1
    split <;> omega)
  rw [psm_const] at h2 h3
  have := hg.2.2.2.1
  omega
theorem h_lv2 {G : gG} {S : gS} {c k : Int} (h : hI G S c) (k0 : 0 ≤ k) (k1 : k < gnL S) (k2 : glt S k 5 ≠ 2) (k3 : glt S k 0 = 1) : 0 ≤ glt S k 2 := by
  obtain ⟨om, ps, dl, dn, af, c0, pd, rp, rv, fw, cl, cw, tk, fl, fc, hj, hx, hp⟩ := h
  have h1 := (pg_L1 hj k k0 k1 k2 k3).2.1
  have h2 := (pg_N0 hj (gsd G (gop (hL S 1 k)))).2.1
  have h3 : hL S 2 k = glt S k 2 := rfl
  omega
