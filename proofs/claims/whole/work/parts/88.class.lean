/-! c: a letter's fields are noted; CONNECT, TEST, ACCEPT, REJECT, REPORT -/
theorem c_wl {o : Nat} (h : cO o) {G : gG} {S : gS} {X : cX} {μ : ax_M} {j f v : Int} (h0 : 0 ≤ j) (h1 : j < gnL S) (h2 : 0 ≤ f) (h3 : f < 7) : (ax_up (cM o G S X μ).1 (o + 4) (8 * j + f).toNat (zI v), (cM o G S X μ).2) = cM o G (gsL S j f v) X μ := by
  refine c_set rfl ?_
  intro a k
  by_cases ha : a = o + 4
  · subst ha
    rw [cM_4 h, cM_4 h]
    by_cases hk : k = (8 * j + f).toNat
    · have hc : o + 4 = o + 4 ∧ k = (8 * j + f).toNat := ⟨rfl, hk⟩
      have e : (k : Int) = 8 * j + f := by omega
      rw [if_pos hc]
      unfold cL
      rw [e, hk_gsL, if_pos (by omega), if_neg (by omega), show (8 * j + f) / 8 = j by omega, show (8 * j + f) % 8 = f by omega]
      simp [glt, gsL]
    · have hc : ¬ (o + 4 = o + 4 ∧ k = (8 * j + f).toNat) := fun q => hk q.2
      rw [if_neg hc]
      unfold cL
      have hne : ¬ ((k : Int) / 8 = j ∧ (k : Int) % 8 = f) := by omega
      have e : glt (gsL S j f v) ((k : Int) / 8) ((k : Int) % 8) = glt S ((k : Int) / 8) ((k : Int) % 8) := by
        simp only [glt, gsL]
        rw [if_neg hne]
      rw [e, hk_gsL]
  · rw [if_neg (fun q => ha q.1)]
    rcases h with rfl | rfl
    · simp only [cM, ha, if_false]
      rfl
    · simp only [cM, ha, if_false]
      rfl
theorem c_nl5 {o : Nat} (h : cO o) {G : gG} {S : gS} {X : cX} {μ : ax_M} {k v : Int} {x : Int32} (h0 : 0 ≤ k) (h1 : k < gnL S) (hL : gnL S ≤ 256) (hx : x = zI v) : aJ 1142 [.ref o, .int (zI k), .int 5, .int x] [] (cM o G S X μ) = some (none, cM o G (gsL S k 5 v) X μ) := by
  have h2 : zI k * (8 : Int32) = zI (k * 8) := zI_mul k 8
  have h3 : zI (k * 8) + (5 : Int32) = zI (8 * k + 5) := by
    have := zI_add (k * 8) 5
    rw [show k * 8 + 5 = 8 * k + 5 by omega] at this
    exact this
  rw [jl_1142 _ _ _ _ _ h, h2, h3, c_put (sh_4 h) (by omega) (by omega) (by omega), hx, c_wl h h0 h1 (by omega) (by omega), z_b0]
theorem h_half {b : Int} : b / 2 = hed b := rfl
/-- CONNECT -/
theorem c_k0 {o : Nat} (h : cO o) {G : gG} {S : gS} {X : cX} {μ : ax_M} {b k : Int} (hg : hGok G) (hr : hRs G S) (hx : XR G S X) (hb : hW G b) (k0 : 0 ≤ k) (k1 : k < gnL S) (hLS : gnL S ≤ 256) (r7 : -900 ≤ gnd S (gsd G b) 7 ∧ gnd S (gsd G b) 7 ≤ 900) (hL : gnL (gcn G S (gsd G b) (hed b) (glt S k 2)) ≤ 256) : ∃ X', aJ 1230 [.ref o, .int (zI k), .int (zI (gsd G b)), .int (zI b)] [] (cM o G S X μ) = some (none, cM o G (gcn G S (gsd G b) (hed b) (glt S k 2)) X' μ) ∧ XR G (gcn G S (gsd G b) (hed b) (glt S k 2)) X' := by
  have hE := hg.2.2.2.1
  have hN := hg.2.1
  have hn := h_sdr hg hb
  have hb0 := hb.1
  have hb1 := hb.2
  have hgw := h_wy hg hb
  have he0 : 0 ≤ hed b := by unfold hed; omega
  have he1 : hed b < gE G := by unfold hed; omega
  have hL0 := hr.2.2.1
  obtain ⟨n0, n1, n2, n3, n4, n5, n6, n9⟩ := hr.2.1 (gsd G b)
  obtain ⟨l0, l1, l2, l3, l4, l5, l6, l7⟩ := hr.2.2.2 k k0 k1
  have hh : zI b / (2 : Int32) = zI (hed b) := m_half hb0 (by omega)
  generalize hnn : gsd G b = n at *
  have hn12 : n < 12 := by omega
  have hsdw : gsd G (gwy G n (hed b)) = n := by rw [hgw]; exact hnn
  rw [jl_1230 _ _ _ _ _ h, jl_1240 _ _ _ _ _ h, c_tl2 h k0 k1 hLS, z_b1, c_of1 h hn.1 hn12, z_b1, i_le (zR_of (by omega)) (zR_of (by omega))]
  unfold gcn at hL ⊢
  by_cases q : gnd S n 1 ≤ glt S k 2
  · rw [if_pos q] at hL
    rw [hk_gse] at hL
    rw [if_pos q, if_pos q, jl_1241 _ _ _ _ h, c_of1 h hn.1 hn12, z_b1, hh]
    obtain ⟨X', h2, h3⟩ := c_SE (S := S) (X := X) (μ := μ) (n := n) (e := hed b) (kd := 1) (lv := gnd S n 1 + 1) (td := hed b) (st := 1) h hg hr hx hn.1 hn12 he0 he1 hsdw (by omega) (by omega) (by omega) zl1 (zI_a1 _) rfl zl1
    rw [hgw] at h2
    rw [h2, z_b0, jl_1242, z_b1, c_th0 h]
    exact ⟨X', rfl, h3⟩
  · rw [if_neg q] at hL
    rw [if_neg q, if_neg q, c_sE h (v := 1) hb0 (by omega) zl1, z_b0, c_of1 h hn.1 hn12, z_b1, c_of2 h hn.1 hn12, z_b1, c_of0 h hn.1 hn12, z_b1]
    simp only [hgw] at hL ⊢
    have hLS2 : gnL S < 256 := by
      split at hL
      · rw [hk_gsN, hk_gse, hk_gsE] at hL
        omega
      · rw [hk_gse, hk_gsE] at hL
        omega
    have e0 : gnd (gsE S b 1) n 0 = gnd S n 0 := rfl
    have e1 : gnd (gsE S b 1) n 1 = gnd S n 1 := rfl
    have e2 : gnd (gsE S b 1) n 2 = gnd S n 2 := rfl
    rw [e0, e1, e2]
    obtain ⟨X', h2, h3⟩ := c_SE (S := gsE S b 1) (X := X) (μ := μ) (n := n) (e := hed b) (kd := 1) (lv := gnd S n 1) (td := gnd S n 2) (st := gnd S n 0) h hg (rs_gsE hr (by omega)) (XR_E hx) hn.1 hn12 he0 he1 hsdw (by omega) (by omega) (by show gnL S < 256; omega) zl1 rfl rfl rfl
    rw [hgw] at h2
    have e3 : gnd (gse G (gsE S b 1) n (hed b) 1 (gnd S n 1) (gnd S n 2) (gnd S n 0)) n 0 = gnd S n 0 := rfl
    have e7 : gnd (gse G (gsE S b 1) n (hed b) 1 (gnd S n 1) (gnd S n 2) (gnd S n 0)) n 7 = gnd S n 7 := rfl
    rw [h2, z_b0, c_of0 h hn.1 hn12, z_b1, e3, j_eq rfl zl1 (zR_of (by omega)) (zR_of (by omega))]
    by_cases qs : gnd S n 0 = 1
    · rw [if_pos qs, if_pos qs, c_of7 h hn.1 hn12, z_b1, e7, c_nt7 h (v := gnd S n 7 + 1) hn.1 hn12 (zI_a1 _), z_b0, jl_1242, z_b1, c_th0 h]
      exact ⟨X', rfl, XR_N h3⟩
    · rw [if_neg qs, if_neg qs, jl_1242, z_b1, c_th0 h]
      exact ⟨X', rfl, h3⟩
/-- the end here of a rejected edge -/
theorem c_rj {o : Nat} (h : cO o) {G : gG} {S : gS} {X : cX} {μ : ax_M} {b : Int} (hg : hGok G) (he : hRe S) (hb : hW G b) : aJ 1258 [.ref o, .int (zI b)] [] (cM o G S X μ) = some (some (.int 1), cM o G (grj G S (gsd G b) (hed b)) X μ) := by
  have hE := hg.2.2.2.1
  have hen := he b
  have hb0 := hb.1
  have hb1 := hb.2
  rw [jl_1258 _ _ _ h, c_en h hb0 (by omega), z_b1, j_eq rfl zl0 (zR_of (by omega)) (zR_of (by omega))]
  unfold grj
  rw [h_wy hg hb]
  by_cases q : gen S b = 0
  · rw [if_pos q, if_pos q, c_sE h (v := 2) hb0 (by omega) zl2, z_b0, jl_1259]
  · rw [if_neg q, if_neg q, jl_1259]
theorem XR_rj {G : gG} {S : gS} {X : cX} {n e : Int} (h : XR G S X) : XR G (grj G S n e) X := by
  unfold grj
  split
  · exact XR_E h
  · exact h
theorem XR_bt {G : gG} {S : gS} {X : cX} {n x y : Int} (h : XR G S X) : XR G (gbt G S n x y) X := by
  unfold gbt
  split
  · exact XR_N (XR_N h)
  · exact h
theorem grj_nd {G : gG} {S : gS} {n e m i : Int} : gnd (grj G S n e) m i = gnd S m i := by
  unfold grj
  split <;> rfl
theorem grj_L {G : gG} {S : gS} {n e : Int} : gnL (grj G S n e) = gnL S := by
  unfold grj
  split <;> rfl
/-- REJECT -/
theorem c_k4 {o : Nat} (h : cO o) {G : gG} {S : gS} {X : cX} {μ : ax_M} {b : Int} (hg : hGok G) (hw : hGw G) (hr : hRs G S) (hx : XR G S X) (hb : hW G b) (r7 : -900 ≤ gnd S (gsd G b) 7 ∧ gnd S (gsd G b) 7 ≤ 900) (hi : gnd S (gsd G b) 3 ≠ -1 → gsd G (gwy G (gsd G b) (gnd S (gsd G b) 3)) = gsd G b) (hL : gnL (hte G (grj G S (gsd G b) (hed b)) (gsd G b)) ≤ 256) : ∃ X', aJ 1234 [.ref o, .int (zI (gsd G b)), .int (zI b)] [] (cM o G S X μ) = some (none, cM o G (hte G (grj G S (gsd G b) (hed b)) (gsd G b)) X' μ) ∧ XR G (hte G (grj G S (gsd G b) (hed b)) (gsd G b)) X' := by
  have hN := hg.2.1
  have hn := h_sdr hg hb
  rw [jl_1234 _ _ _ _ h, c_rj h hg hr.1 hb, z_b1]
  exact c_th1 h hg hw (rs_grj hr) (XR_rj hx) hn.1 (by omega) (by rw [grj_nd]; omega) (by rw [grj_nd]; exact hi) hL
/-- TEST -/
theorem c_k2 {o : Nat} (h : cO o) {G : gG} {S : gS} {X : cX} {μ : ax_M} {b k : Int} (hg : hGok G) (hw : hGw G) (hr : hRs G S) (hx : XR G S X) (hb : hW G b) (k0 : 0 ≤ k) (k1 : k < gnL S) (hLS : gnL S ≤ 256) (r7 : -900 ≤ gnd S (gsd G b) 7 ∧ gnd S (gsd G b) 7 ≤ 900) (hi : gnd S (gsd G b) 3 ≠ -1 → gsd G (gwy G (gsd G b) (gnd S (gsd G b) 3)) = gsd G b) (hL : gnL (han G S (gsd G b) (hed b) (glt S k 3)) ≤ 256) : ∃ X', aJ 1232 [.ref o, .int (zI k), .int (zI (gsd G b)), .int (zI b)] [] (cM o G S X μ) = some (none, cM o G (han G S (gsd G b) (hed b) (glt S k 3)) X' μ) ∧ XR G (han G S (gsd G b) (hed b) (glt S k 3)) X' := by
  have hE := hg.2.2.2.1
  have hN := hg.2.1
  have hn := h_sdr hg hb
  have hb0 := hb.1
  have hb1 := hb.2
  have hgw := h_wy hg hb
  have he0 : 0 ≤ hed b := by unfold hed; omega
  have he1 : hed b < gE G := by unfold hed; omega
  have hsdw : gsd G (gwy G (gsd G b) (hed b)) = gsd G b := by rw [hgw]
  have hn12 : gsd G b < 12 := by omega
  have hh : zI b / (2 : Int32) = zI (hed b) := m_half hb0 (by omega)
  obtain ⟨n0, n1, n2, n3, n4, n5, n6, n9⟩ := hr.2.1 (gsd G b)
  obtain ⟨l0, l1, l2, l3, l4, l5, l6, l7⟩ := hr.2.2.2 k k0 k1
  rw [jl_1232 _ _ _ _ _ h, jl_1253 _ _ _ _ _ h, c_tl3 h k0 k1 hLS, z_b1, c_of2 h hn.1 hn12, z_b1, i_eq (zR_of (by omega)) (zR_of (by omega))]
  unfold han at hL ⊢
  by_cases q : glt S k 3 = gnd S (gsd G b) 2
  · have q' : ¬ glt S k 3 ≠ gnd S (gsd G b) 2 := fun y => y q
    rw [if_neg q'] at hL
    rw [if_pos q, if_neg q', jl_1254 _ _ _ _ h, c_rj h hg hr.1 hb, z_b1, c_of6 h hn.1 hn12, z_b1, hh, grj_nd, i_eq (zR_of (by omega)) (zR_of (by omega))]
    by_cases q6 : gnd S (gsd G b) 6 = hed b
    · rw [if_pos q6] at hL
      rw [if_pos q6, if_pos q6, z_b1]
      exact c_th1 h hg hw (rs_grj hr) (XR_rj hx) hn.1 hn12 (by rw [grj_nd]; omega) (by rw [grj_nd]; exact hi) hL
    · rw [if_neg q6] at hL
      rw [hk_gse, grj_L] at hL
      rw [if_neg q6, if_neg q6, jl_1255 _ _ _ h]
      obtain ⟨X', h2, h3⟩ := c_SE (S := grj G S (gsd G b) (hed b)) (X := X) (μ := μ) (n := gsd G b) (e := hed b) (kd := 4) (lv := -1) (td := -1) (st := -1) h hg (rs_grj hr) (XR_rj hx) hn.1 hn12 he0 he1 hsdw (by omega) (by omega) (by rw [grj_L]; omega) zl4 zlm zlm zlm
      rw [hgw] at h2
      rw [h2, z_b0, z_b1, c_th0 h]
      exact ⟨X', rfl, h3⟩
  · rw [if_pos q] at hL
    rw [hk_gse] at hL
    rw [if_neg q, if_pos q]
    obtain ⟨X', h2, h3⟩ := c_SE (S := S) (X := X) (μ := μ) (n := gsd G b) (e := hed b) (kd := 3) (lv := -1) (td := -1) (st := -1) h hg hr hx hn.1 hn12 he0 he1 hsdw (by omega) (by omega) (by omega) zl3 zlm zlm zlm
    rw [hgw] at h2
    rw [h2, z_b0, z_b1, c_th0 h]
    exact ⟨X', rfl, h3⟩
/-- ACCEPT -/
theorem c_k3 {o : Nat} (h : cO o) {G : gG} {S : gS} {X : cX} {μ : ax_M} {b : Int} (hg : hGok G) (hw : hGw G) (hr : hRs G S) (hx : XR G S X) (hb : hW G b) (r7 : -900 ≤ gnd S (gsd G b) 7 ∧ gnd S (gsd G b) 7 ≤ 900) (hi : gnd S (gsd G b) 3 ≠ -1 → gsd G (gwy G (gsd G b) (gnd S (gsd G b) 3)) = gsd G b) (hL : gnL (hsu G (gbt G (gsN S (gsd G b) 6 (-1)) (gsd G b) (hed b) (hed b)) (gsd G b)) ≤ 256) : ∃ X', aJ 1233 [.ref o, .int (zI (gsd G b)), .int (zI b)] [] (cM o G S X μ) = some (none, cM o G (hsu G (gbt G (gsN S (gsd G b) 6 (-1)) (gsd G b) (hed b) (hed b)) (gsd G b)) X' μ) ∧ XR G (hsu G (gbt G (gsN S (gsd G b) 6 (-1)) (gsd G b) (hed b) (hed b)) (gsd G b)) X' := by
  have hE := hg.2.2.2.1
  have hN := hg.2.1
  have hn := h_sdr hg hb
  have hb0 := hb.1
  have hb1 := hb.2
  have he0 : 0 ≤ hed b := by unfold hed; omega
  have he1 : hed b < gE G := by unfold hed; omega
  have hn12 : gsd G b < 12 := by omega
  have hh : zI b / (2 : Int32) = zI (hed b) := m_half hb0 (by omega)
  obtain ⟨n0, n1, n2, n3, n4, n5, n6, n9⟩ := hr.2.1 (gsd G b)
  have s6 : hRs G (gsN S (gsd G b) 6 (-1)) := rs_gsN hr ⟨fun q => by omega, fun q => by omega, fun q => by omega, fun q => by omega⟩
  have e5 : gnd (gsN S (gsd G b) 6 (-1)) (gsd G b) 5 = gnd S (gsd G b) 5 := by simp [gnd, gsN]
  have e7 : gnd (gsN S (gsd G b) 6 (-1)) (gsd G b) 7 = gnd S (gsd G b) 7 := by simp [gnd, gsN]
  have e3 : gnd (gsN S (gsd G b) 6 (-1)) (gsd G b) 3 = gnd S (gsd G b) 3 := by simp [gnd, gsN]
  have hbt : aJ 1256 [.ref o, .int (zI (gsd G b)), .int (zI (hed b))] [] (cM o G S X μ) = some (some (.int 2), cM o G (gbt G (gsN S (gsd G b) 6 (-1)) (gsd G b) (hed b) (hed b)) X μ) := by
    rw [jl_1256 _ _ _ _ h, c_nt6 h (v := -1) hn.1 hn12 zlm, z_b0, c_of5 h hn.1 hn12, z_b1, e5, c_li h hE hw (by omega) he1 n5.1 n5.2, z_b1, i_B]
    unfold gbt
    rw [e5]
    by_cases q : gli G (hed b) (gnd S (gsd G b) 5) = true
    · rw [if_pos q, if_pos q, c_nt5 h (v := hed b) hn.1 hn12 rfl, z_b0, c_nt4 h (v := hed b) hn.1 hn12 rfl, z_b0, jl_1257]
    · rw [if_neg q, if_neg q, jl_1257]
  rw [jl_1233 _ _ _ _ h, hh, hbt, z_b1]
  exact c_th2 h hg (rs_gbt s6 (by omega) (by omega)) (XR_bt (XR_N hx)) hn.1 hn12 (by rw [gbt_nd (by decide) (by decide), e7]; omega) (by rw [gbt_nd (by decide) (by decide), e3]; exact hi) hL
