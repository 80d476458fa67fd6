/-! c: sum up, pass on, ask; what is done last with a letter -/
theorem c_su {o : Nat} (h : cO o) {G : gG} {S : gS} {X : cX} {μ : ax_M} {n : Int} (hg : hGok G) (hr : hRs G S) (hx : XR G S X) (h0 : 0 ≤ n) (h1 : n < 12) (r7 : -1000 ≤ gnd S n 7 ∧ gnd S n 7 ≤ 1000) (hi : gnd S n 3 ≠ -1 → gsd G (gwy G n (gnd S n 3)) = n) (hL : gnL (hsu G S n) ≤ 256) : ∃ X', aJ 1267 [.ref o, .int (zI n)] [] (cM o G S X μ) = some (none, cM o G (hsu G S n) X' μ) ∧ XR G (hsu G S n) X' := by
  have hE := hg.2.2.2.1
  have hL0 := hr.2.2.1
  have rn : zR n := zR_of (by omega)
  obtain ⟨n0, n1, n2, n3, n4, n5, n6, n9⟩ := hr.2.1 n
  rw [jl_1267 _ _ _ h, c_of7 h h0 h1, z_b1, j_eq rfl zl0 (zR_of (by omega)) (zR_of (by omega))]
  unfold hsu at hL ⊢
  by_cases q7 : gnd S n 7 = 0
  · rw [if_pos q7, c_of6 h h0 h1, z_b1, j_eq rfl zlm (zR_of (by omega)) (zR_of (by omega))]
    by_cases q6 : gnd S n 6 = -1
    · have hc : ¬ (gnd S n 7 ≠ 0 ∨ gnd S n 6 ≠ -1) := by omega
      rw [if_neg hc] at hL
      rw [if_pos q6, if_neg hc, c_of3 h h0 h1, z_b1, j_eq rfl zlm (zR_of (by omega)) (zR_of (by omega))]
      by_cases q3 : gnd S n 3 = -1
      · rw [if_pos q3] at hL
        have : gnL (hbr S) = gnL S + 1000 := rfl
        omega
      · rw [if_neg q3] at hL
        rw [hk_gse] at hL
        have e3 : gnd (gsN S n 0 2) n 3 = gnd S n 3 := by simp [gnd, gsN]
        have e5 : gnd (gsN S n 0 2) n 5 = gnd S n 5 := by simp [gnd, gsN]
        have hz := h_fz hg (e := gnd S n 3) (by omega) (by omega)
        have s0 : hRs G (gsN S n 0 2) := rs_gsN hr ⟨fun q => by omega, fun q => by omega, fun q => by omega, fun q => by omega⟩
        rw [if_neg q3, if_neg q3, c_nt0 h (v := 2) h0 h1 zl2, z_b0, c_of3 h h0 h1, z_b1, e3, c_wy h (by omega) (by omega) rn hz.1, z_b1, c_of5 h h0 h1, z_b1, e5]
        obtain ⟨X', h2, h3⟩ := c_SE (S := gsN S n 0 2) (X := X) (μ := μ) (kd := 5) (lv := -1) (td := gnd S n 5) (st := -1) h hg s0 (XR_N hx) h0 h1 (by omega) n3.2 (hi q3) (by omega) (by omega) (by show gnL S < 256; have : gnL (gsN S n 0 2) = gnL S := rfl; omega) zl5 zlm rfl zlm
        rw [h2, z_b0, jl_1268]
        exact ⟨X', rfl, h3⟩
    · rw [if_neg q6, if_pos (Or.inr q6), jl_1268]
      exact ⟨X, rfl, hx⟩
  · rw [if_neg q7, if_pos (Or.inl q7), jl_1268]
    exact ⟨X, rfl, hx⟩
theorem c_ch {o : Nat} (h : cO o) {G : gG} {S : gS} {X : cX} {μ : ax_M} {n : Int} (hg : hGok G) (hr : hRs G S) (hx : XR G S X) (h0 : 0 ≤ n) (h1 : n < 12) (hi : gnd S n 4 ≠ -1 → gsd G (gwy G n (gnd S n 4)) = n) (hL : gnL (hch G S n) ≤ 256) : ∃ X', aJ 1269 [.ref o, .int (zI n)] [] (cM o G S X μ) = some (none, cM o G (hch G S n) X' μ) ∧ XR G (hch G S n) X' := by
  have hE := hg.2.2.2.1
  have hL0 := hr.2.2.1
  have rn : zR n := zR_of (by omega)
  obtain ⟨n0, n1, n2, n3, n4, n5, n6, n9⟩ := hr.2.1 n
  unfold hch at hL ⊢
  by_cases q4 : gnd S n 4 = -1
  · rw [if_pos q4] at hL
    have : gnL (hbr S) = gnL S + 1000 := rfl
    omega
  · rw [if_neg q4] at hL
    have hz := h_fz hg (e := gnd S n 4) (by omega) (by omega)
    have hwr := h_wyr (G := G) (n := n) (e := gnd S n 4) (by omega) (by omega)
    have hen := hr.1 (gwy G n (gnd S n 4))
    rw [if_neg q4, jl_1269 _ _ _ h, c_of4 h h0 h1, z_b1, j_eq rfl zlm (zR_of (by omega)) (zR_of (by omega)), if_neg q4, jl_1270 _ _ _ _ h, c_wy h (by omega) (by omega) rn hz.1, z_b1, c_en h hwr.1 hwr.2, z_b1, j_eq rfl zl1 (zR_of (by omega)) (zR_of (by omega))]
    by_cases qe : gen S (gwy G n (gnd S n 4)) = 1
    · rw [if_pos qe] at hL
      rw [hk_gse] at hL
      rw [if_pos qe, if_pos qe]
      obtain ⟨X', h2, h3⟩ := c_SE (S := S) (X := X) (μ := μ) (kd := 6) (lv := -1) (td := -1) (st := -1) h hg hr hx h0 h1 (by omega) n4.2 (hi q4) (by omega) (by omega) (by omega) zl6 zlm zlm zlm
      rw [h2, z_b0, jl_1272]
      exact ⟨X', rfl, h3⟩
    · rw [if_neg qe] at hL
      rw [hk_gsE, hk_gse] at hL
      rw [if_neg qe, if_neg qe, jl_1271 _ _ _ _ h, c_of1 h h0 h1, z_b1]
      obtain ⟨X', h2, h3⟩ := c_SE (S := S) (X := X) (μ := μ) (kd := 0) (lv := gnd S n 1) (td := -1) (st := -1) h hg hr hx h0 h1 (by omega) n4.2 (hi q4) (by omega) (by omega) (by omega) zl0 rfl zlm zlm
      rw [h2, z_b0, c_sE h (v := 1) hwr.1 hwr.2 zl1, z_b0, jl_1272]
      exact ⟨X', rfl, XR_E h3⟩
/-- what is left to do: 2 it sums up, 3 it changes, 0 nothing -/
theorem c_th2 {o : Nat} (h : cO o) {G : gG} {S : gS} {X : cX} {μ : ax_M} {n : Int} (hg : hGok G) (hr : hRs G S) (hx : XR G S X) (h0 : 0 ≤ n) (h1 : n < 12) (r7 : -1000 ≤ gnd S n 7 ∧ gnd S n 7 ≤ 1000) (hi : gnd S n 3 ≠ -1 → gsd G (gwy G n (gnd S n 3)) = n) (hL : gnL (hsu G S n) ≤ 256) : ∃ X', aJ 1236 [.ref o, .int (zI n), .int 2] [] (cM o G S X μ) = some (none, cM o G (hsu G S n) X' μ) ∧ XR G (hsu G S n) X' := by
  obtain ⟨X', h2, h3⟩ := c_su (μ := μ) h hg hr hx h0 h1 r7 hi hL
  rw [jl_1236 _ _ _ _ h, if_neg (by decide), jl_1237 _ _ _ _ h, if_pos rfl, h2, z_b0, jl_1239]
  exact ⟨X', rfl, h3⟩
theorem c_th3 {o : Nat} (h : cO o) {G : gG} {S : gS} {X : cX} {μ : ax_M} {n : Int} (hg : hGok G) (hr : hRs G S) (hx : XR G S X) (h0 : 0 ≤ n) (h1 : n < 12) (hi : gnd S n 4 ≠ -1 → gsd G (gwy G n (gnd S n 4)) = n) (hL : gnL (hch G S n) ≤ 256) : ∃ X', aJ 1236 [.ref o, .int (zI n), .int 3] [] (cM o G S X μ) = some (none, cM o G (hch G S n) X' μ) ∧ XR G (hch G S n) X' := by
  obtain ⟨X', h2, h3⟩ := c_ch (μ := μ) h hg hr hx h0 h1 hi hL
  rw [jl_1236 _ _ _ _ h, if_neg (by decide), jl_1237 _ _ _ _ h, if_neg (by decide), jl_1238 _ _ _ _ h, if_pos rfl, h2, z_b0, jl_1239]
  exact ⟨X', rfl, h3⟩
theorem c_th0 {o : Nat} (h : cO o) {M : ax_M} {n : Int32} : aJ 1236 [.ref o, .int n, .int 0] [] M = some (none, M) := by
  rw [jl_1236 _ _ _ _ h, if_neg (by decide), jl_1237 _ _ _ _ h, if_neg (by decide), jl_1238 _ _ _ _ h, if_neg (by decide), jl_1239]
/-- 1: it tests -/
theorem c_th1 {o : Nat} (h : cO o) {G : gG} {S : gS} {X : cX} {μ : ax_M} {n : Int} (hg : hGok G) (hw : hGw G) (hr : hRs G S) (hx : XR G S X) (h0 : 0 ≤ n) (h1 : n < 12) (r7 : -1000 ≤ gnd S n 7 ∧ gnd S n 7 ≤ 1000) (hi : gnd S n 3 ≠ -1 → gsd G (gwy G n (gnd S n 3)) = n) (hL : gnL (hte G S n) ≤ 256) : ∃ X', aJ 1236 [.ref o, .int (zI n), .int 1] [] (cM o G S X μ) = some (none, cM o G (hte G S n) X' μ) ∧ XR G (hte G S n) X' := by
  have hE := hg.2.2.2.1
  have hL0 := hr.2.2.1
  have rn : zR n := zR_of (by omega)
  have hb := glb_r (G := G) (S := S) (n := n) hg.2.2.1
  obtain ⟨n0, n1, n2, n3, n4, n5, n6, n9⟩ := hr.2.1 n
  have s6 : ∀ v, -1 ≤ v ∧ v < gE G → hRs G (gsN S n 6 v) := fun v hv => rs_gsN hr ⟨fun q => by omega, fun q => by omega, fun q => hv, fun q => by omega⟩
  rw [jl_1236 _ _ _ _ h, if_pos rfl, jl_1265 _ _ _ h, c_lb h hg hw hr.1 h0 h1, z_b1, c_nt6 h (v := glb G S n) h0 h1 rfl, z_b0, j_eq rfl zlm (zR_of (by omega)) (zR_of (by omega))]
  unfold hte at hL ⊢
  by_cases q : glb G S n = -1
  · rw [if_pos q] at hL
    have e3 : gnd (gsN S n 6 (-1)) n 3 = gnd S n 3 := by simp [gnd, gsN]
    have e7 : gnd (gsN S n 6 (-1)) n 7 = gnd S n 7 := by simp [gnd, gsN]
    rw [if_pos q, if_pos q, z_b1, q, jl_1237 _ _ _ _ h, if_pos rfl]
    obtain ⟨X', h2, h3⟩ := c_su (S := gsN S n 6 (-1)) (X := X) (μ := μ) h hg (s6 (-1) (by omega)) (XR_N hx) h0 h1 (by rw [e7]; exact r7) (by rw [e3]; exact hi) hL
    rw [h2, z_b0, jl_1239]
    exact ⟨X', rfl, h3⟩
  · rw [if_neg q] at hL
    rw [hk_gse, hk_gsN] at hL
    have e1 : gnd (gsN S n 6 (glb G S n)) n 1 = gnd S n 1 := by simp [gnd, gsN]
    have e2 : gnd (gsN S n 6 (glb G S n)) n 2 = gnd S n 2 := by simp [gnd, gsN]
    have hz := h_fz hg (e := glb G S n) (by omega) (by omega)
    rw [if_neg q, if_neg q, jl_1266 _ _ _ _ h, c_wy h (by omega) (by omega) rn hz.1, z_b1, c_of1 h h0 h1, z_b1, c_of2 h h0 h1, z_b1, e1, e2]
    obtain ⟨X', h2, h3⟩ := c_SE (S := gsN S n 6 (glb G S n)) (X := X) (μ := μ) (kd := 2) (lv := gnd S n 1) (td := gnd S n 2) (st := -1) h hg (s6 _ hb) (XR_N hx) h0 h1 (by omega) hb.2 (glb_inc hg q) (by omega) (by omega) (by show gnL S < 256; omega) zl2 rfl rfl zlm
    rw [h2, z_b0, z_b1, jl_1237 _ _ _ _ h, if_neg (by decide), jl_1238 _ _ _ _ h, if_neg (by decide), jl_1239]
    exact ⟨X', rfl, h3⟩
