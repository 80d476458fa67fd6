/-! c: send and rouse while letter k is between its way and its handling -/
theorem c_SE2 {o : Nat} (h : cO o) {G : gG} {S : gS} {X : cX} {μ : ax_M} {n e kd lv td st k : Int} {y2 y3 y4 y5 : Int32} (hg : hGok G) (hr : hRs G S) (k0 : 0 ≤ k) (k1 : k < gnL S) (hx : XR G (gsL S k 5 2) (cHd X 1)) (hn0 : 0 ≤ n) (hn1 : n < 12) (he0 : 0 ≤ e) (he1 : e < gE G) (hsd : gsd G (gwy G n e) = n) (hk0 : 0 ≤ kd) (hk1 : kd < 7) (hL : gnL S < 256) (e2 : y2 = zI kd) (e3 : y3 = zI lv) (e4 : y4 = zI td) (e5 : y5 = zI st) : ∃ X', aJ 1193 [.ref o, .int (zI (gwy G n e)), .int y2, .int y3, .int y4, .int y5] [] (cM o G S X μ) = some (none, cM o G (gse G S n e kd lv td st) X' μ) ∧ XR G (gsL (gse G S n e kd lv td st) k 5 2) (cHd X' 1) := by
  have h0 := hr.2.2.1
  have hE := hg.2.2.2.1
  have hw := h_wyr (G := G) (n := n) he0 (by omega)
  have h9 := (hr.2.1 n).2.2.2.2.2.2.2
  have hr2 : hRs G (gsL S k 5 2) := by
    obtain ⟨a1, a2, a3, a4⟩ := hr
    refine ⟨a1, a2, a3, ?_⟩
    intro j j0 j1
    have h6 := a4 j j0 j1
    have f0 : ∀ i, i ≠ 5 → glt (gsL S k 5 2) j i = glt S j i := by
      intro i hi
      simp [glt, gsL, hi]
    have f5 : 0 ≤ glt (gsL S k 5 2) j 5 ∧ glt (gsL S k 5 2) j 5 ≤ 2 := by
      by_cases q : j = k
      · simp [glt, gsL, q]
      · have : glt (gsL S k 5 2) j 5 = glt S j 5 := by simp [glt, gsL, q]
        rw [this]
        exact h6.2.2.2.2.2.2.1
    rw [f0 0 (by omega), f0 1 (by omega), f0 2 (by omega), f0 3 (by omega), f0 4 (by omega), f0 6 (by omega)]
    exact ⟨h6.1, h6.2.1, h6.2.2.1, h6.2.2.2.1, h6.2.2.2.2.1, h6.2.2.2.2.2.1, f5, h6.2.2.2.2.2.2.2⟩
  have hs := XR_send (S := gsL S k 5 2) (n := n) (e := e) (kd := kd) (lv := lv) (td := td) (st := st) h0 hw h9.1 hx
  have hk : k ≠ gnL S := by omega
  rw [gse_gsL hk] at hs
  have c1 : xoe X (gwy G n e) = nOn (gsL S k 5 2) (gwy G n e) := hx.1 _ hw.1 hw.2
  have c1' : nOn (gsL S k 5 2) (gwy G n e) ≤ (gnL S).toNat := pct_le
  refine ⟨cSX G S X (gwy G n e) kd (gnd S n 9 + 1), c_se h hg hn0 hn1 he0 he1 hsd hk0 hk1 h0 hL ?_ (zR_of (by omega)) ?_ (zR_of (by omega)) e2 e3 e4 e5, hs⟩
  · intro q
    have hgf : gfi (gsL S k 5 2) (gwy G n e) ≠ -1 := fun z => q (by rw [c1, (gfi_no (S := gsL S k 5 2) h0).mpr z]; rfl)
    have := hx.2.2.1 _ hw.1 hw.2 hgf
    exact ⟨this.1, this.2.1⟩
  · obtain ⟨y0, y1, y2'⟩ := hx.2.2.2.2.2.2.2.2
    have ed : xdp (cHd X 1) = xdp X := rfl
    rw [ed] at y0 y1 y2'
    rcases y2' with z | ⟨j, j0, j1, j2⟩
    · exact zR_of (by omega)
    · have t1 := (hr2.2.2.2 j j0 j1).2.2.2.2.2.2.2
      have t2 : gnL (gsL S k 5 2) = gnL S := rfl
      exact zR_of (by omega)
