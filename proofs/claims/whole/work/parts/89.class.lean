/-! c: REPORT -/
theorem c_k5 {o : Nat} (h : cO o) {G : gG} {S : gS} {X : cX} {μ : ax_M} {b k : Int} (hg : hGok G) (hw : hGw G) (hr : hRs G S) (hx : XR G S X) (hb : hW G b) (k0 : 0 ≤ k) (k1 : k < gnL S) (hLS : gnL S ≤ 256) (r7 : -900 ≤ gnd S (gsd G b) 7 ∧ gnd S (gsd G b) 7 ≤ 900) (hi : gnd S (gsd G b) 3 ≠ -1 → gsd G (gwy G (gsd G b) (gnd S (gsd G b) 3)) = gsd G b) (hi4 : gnd S (gsd G b) 4 ≠ -1 → gsd G (gwy G (gsd G b) (gnd S (gsd G b) 4)) = gsd G b) (hL : gnL (hhe G S (gsd G b) (hed b) (glt S k 3)) ≤ 256) : ∃ X', aJ 1235 [.ref o, .int (zI k), .int (zI (gsd G b)), .int (zI b)] [] (cM o G S X μ) = some (none, cM o G (hhe G S (gsd G b) (hed b) (glt S k 3)) X' μ) ∧ XR G (hhe G S (gsd G b) (hed b) (glt S k 3)) X' := by
  have hE := hg.2.2.2.1
  have hN := hg.2.1
  have hn := h_sdr hg hb
  have hb0 := hb.1
  have hb1 := hb.2
  have he0 : 0 ≤ hed b := by unfold hed; omega
  have he1 : hed b < gE G := by unfold hed; omega
  have hn12 : gsd G b < 12 := by omega
  have hh : zI b / (2 : Int32) = zI (hed b) := m_half hb0 (by omega)
  obtain ⟨n0, n1, n2, n3, n4, n5, n6, n9⟩ := hr.2.1 (gsd G b)
  obtain ⟨l0, l1, l2, l3, l4, l5, l6, l7⟩ := hr.2.2.2 k k0 k1
  rw [jl_1235 _ _ _ _ _ h, c_tl3 h k0 k1 hLS, z_b1, hh, jl_1260 _ _ _ _ _ h, c_of3 h hn.1 hn12, z_b1, i_eq (zR_of (by omega)) (zR_of (by omega))]
  unfold hhe at hL ⊢
  by_cases q : gnd S (gsd G b) 3 = hed b
  · have q' : ¬ hed b ≠ gnd S (gsd G b) 3 := fun y => y q.symm
    rw [if_neg q'] at hL
    rw [if_pos q, if_neg q', jl_1262 _ _ _ _ h, c_of5 h hn.1 hn12, z_b1, c_li h hE hw n5.1 n5.2 l3.1 l3.2, z_b1, i_B]
    by_cases ql : gli G (gnd S (gsd G b) 5) (glt S k 3) = true
    · rw [if_pos ql] at hL
      rw [if_pos ql, if_pos ql, z_b1]
      exact c_th3 h hg hr hx hn.1 hn12 hi4 hL
    · rw [if_neg ql, if_neg ql, jl_1263 _ _ _ _ h, j_eq rfl zlm (zR_of (by omega)) (zR_of (by omega))]
      by_cases qx : glt S k 3 = -1
      · rw [if_pos qx, c_of5 h hn.1 hn12, z_b1, j_eq rfl zlm (zR_of (by omega)) (zR_of (by omega))]
        by_cases q5 : gnd S (gsd G b) 5 = -1
        · rw [if_pos q5, if_pos ⟨q5, qx⟩, c_nt8 h (v := 1) hn.1 hn12 zl1, z_b0, jl_1264, z_b1, c_th0 h]
          exact ⟨X, rfl, XR_N hx⟩
        · rw [if_neg q5, if_neg (fun y => q5 y.1), jl_1264, z_b1, c_th0 h]
          exact ⟨X, rfl, hx⟩
      · rw [if_neg qx, if_neg (fun y => qx y.2), jl_1264, z_b1, c_th0 h]
        exact ⟨X, rfl, hx⟩
  · have q' : hed b ≠ gnd S (gsd G b) 3 := fun y => q y.symm
    rw [if_pos q'] at hL
    have e5 : gnd (gsN S (gsd G b) 7 (gnd S (gsd G b) 7 - 1)) (gsd G b) 5 = gnd S (gsd G b) 5 := by simp [gnd, gsN]
    have e7 : gnd (gsN S (gsd G b) 7 (gnd S (gsd G b) 7 - 1)) (gsd G b) 7 = gnd S (gsd G b) 7 - 1 := by simp [gnd, gsN]
    have e3 : gnd (gsN S (gsd G b) 7 (gnd S (gsd G b) 7 - 1)) (gsd G b) 3 = gnd S (gsd G b) 3 := by simp [gnd, gsN]
    rw [if_neg q, if_pos q', c_of7 h hn.1 hn12, z_b1, c_nt7 h (v := gnd S (gsd G b) 7 - 1) hn.1 hn12 (zI_s1 _), z_b0, c_of5 h hn.1 hn12, z_b1, e5, c_li h hE hw l3.1 l3.2 n5.1 n5.2, z_b1, i_B]
    have hfin := c_th2 (S := gbt G (gsN S (gsd G b) 7 (gnd S (gsd G b) 7 - 1)) (gsd G b) (glt S k 3) (hed b)) (X := X) (μ := μ) h hg (rs_gbt (rs_gsN7 hr) l3 (by omega)) (XR_bt (XR_N hx)) hn.1 hn12 (by rw [gbt_nd (by decide) (by decide), e7]; omega) (by rw [gbt_nd (by decide) (by decide), e3]; exact hi) hL
    by_cases ql : gli G (glt S k 3) (gnd S (gsd G b) 5) = true
    · rw [if_pos ql, c_nt5 h (v := glt S k 3) hn.1 hn12 rfl, z_b0, c_nt4 h (v := hed b) hn.1 hn12 rfl, z_b0, jl_1261, z_b1]
      unfold gbt at hfin ⊢
      rw [e5, if_pos ql] at hfin
      rw [e5, if_pos ql]
      exact hfin
    · rw [if_neg ql, jl_1261, z_b1]
      unfold gbt at hfin ⊢
      rw [e5, if_neg ql] at hfin
      rw [e5, if_neg ql]
      exact hfin
