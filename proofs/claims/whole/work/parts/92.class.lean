/-! c: a letter is handled -/
theorem c_ha {o : Nat} (h : cO o) {G : gG} {S : gS} {fo lo oe af wl so wn : Int → Int} {ow wc hd dp : Int} {μ : ax_M} {k : Int} (hg : hGok G) (hw : hGw G) (hr : hRs G S) (hx : XR G (gsL S k 5 2) (fo, lo, oe, af, wl, so, wn, ow, wc, hd + 1, dp)) (k0 : 0 ≤ k) (k1 : k < gnL S) (hLS : gnL S ≤ 256) (hl2 : glt S k 0 = 1 → 0 ≤ glt S k 2) (r7 : -900 ≤ gnd S (gsd G (gop (glt S k 1))) 7 ∧ gnd S (gsd G (gop (glt S k 1))) 7 ≤ 900) (hi : gnd S (gsd G (gop (glt S k 1))) 3 ≠ -1 → gsd G (gwy G (gsd G (gop (glt S k 1))) (gnd S (gsd G (gop (glt S k 1))) 3)) = gsd G (gop (glt S k 1))) (hi4 : gnd S (gsd G (gop (glt S k 1))) 4 ≠ -1 → gsd G (gwy G (gsd G (gop (glt S k 1))) (gnd S (gsd G (gop (glt S k 1))) 4)) = gsd G (gop (glt S k 1))) (hL : gnL (hha G S k) ≤ 256) : ∃ X', aJ 1229 [.ref o, .int (zI k), .int (zI (gsd G (gop (glt S k 1))))] [] (cM o G S (fo, lo, oe, af, wl, so, wn, ow, wc, hd, dp) μ) = some (none, cM o G (hha G S k) X' μ) ∧ XR G (hha G S k) X' := by
  have hE := hg.2.2.2.1
  have hN := hg.2.1
  obtain ⟨l0, l1, l2, l3, l4, l5, l6, l7⟩ := hr.2.2.2 k k0 k1
  have hwW : hW G (glt S k 1) := ⟨l1.1, l1.2⟩
  have hop := h_opW hwW
  have hx1 : zI (glt S k 1) ^^^ (1 : Int32) = zI (gop (glt S k 1)) := zI_xor1 l1.1 (by omega)
  have hbW : hW G (gop (glt S k 1)) := hop.1
  have hH : hha G S k = hhk G (hcl (gsL S k 5 2) (gsd G (gop (glt S k 1))) (glt S k 6)) (gsd G (gop (glt S k 1))) (hed (gop (glt S k 1))) k := by
    rw [hop.2.2.1]
    rfl
  rw [hH] at hL ⊢
  have hrT : hRs G (hcl (gsL S k 5 2) (gsd G (gop (glt S k 1))) (glt S k 6)) := hRs_T (n := gsd G (gop (glt S k 1))) hr k0 k1
  generalize gop (glt S k 1) = b at *
  have hn := h_sdr hg hbW
  have hn0 : 0 ≤ gsd G b := hn.1
  have hn1 : gsd G b < 12 := by omega
  obtain ⟨n0, n1, n2, n3, n4, n5, n6, n9⟩ := hr.2.1 (gsd G b)
  have eT : ∀ i, i ≠ 5 → glt (hcl (gsL S k 5 2) (gsd G b) (glt S k 6)) k i = glt S k i := by
    intro i q
    unfold hcl
    split <;> simp [glt, gsN, gsL, q]
  have eN : ∀ i, i ≠ 9 → gnd (hcl (gsL S k 5 2) (gsd G b) (glt S k 6)) (gsd G b) i = gnd S (gsd G b) i := by
    intro i q
    unfold hcl
    split <;> simp [gnd, gsN, gsL, q]
  have eL : gnL (hcl (gsL S k 5 2) (gsd G b) (glt S k 6)) = gnL S := hk_hcl
  have hxT : XR G (hcl (gsL S k 5 2) (gsd G b) (glt S k 6)) (fo, lo, oe, af, wl, so, wn, ow, wc, hd + 1, dp) := by
    unfold hcl
    split
    · exact XR_N hx
    · exact hx
  have e6 : glt (gsL S k 5 2) k 6 = glt S k 6 := by simp [glt, gsL]
  have e9 : gnd (gsL S k 5 2) (gsd G b) 9 = gnd S (gsd G b) 9 := rfl
  have e14 : (cM o G (gsL S k 5 2) (fo, lo, oe, af, wl, so, wn, ow, wc, hd, dp) μ).1 o 14 + (1 : Int32) = zI (hd + 1) := by
    rw [c_hd h]
    exact zI_add hd 1
  have hv : (if zI (gnd S (gsd G b) 9) < zI (glt S k 6) then zI (glt S k 6) else zI (gnd S (gsd G b) 9)) = zI (if gnd S (gsd G b) 9 < glt S k 6 then glt S k 6 else gnd S (gsd G b) 9) := by
    rw [i_lt (zR_of (by omega)) (zR_of (by omega))]
    split <;> rfl
  have hc9 : gsN (gsL S k 5 2) (gsd G b) 9 (if gnd S (gsd G b) 9 < glt S k 6 then glt S k 6 else gnd S (gsd G b) 9) = hcl (gsL S k 5 2) (gsd G b) (glt S k 6) := by
    unfold hcl
    rw [e9]
    by_cases q : gnd S (gsd G b) 9 < glt S k 6
    · rw [if_pos q, if_pos q]
    · rw [if_neg q, if_neg q]
      exact gsN_self e9
  have hL5 : gnL (gsL S k 5 2) ≤ 256 := hLS
  rw [jl_1229 _ _ _ _ h, c_nl5 h (v := 2) k0 k1 hLS zl2, z_b0, e14, u_fhd h, c_of10 h hn0 hn1, z_b1, c_tl6 (S := gsL S k 5 2) h k0 k1 hL5, z_b1, e6, e9, c_nt10 h (v := if gnd S (gsd G b) 9 < glt S k 6 then glt S k 6 else gnd S (gsd G b) 9) hn0 hn1 hv, z_b0, hc9]
  have t0 := eT 0 (by omega)
  have t1 := eT 1 (by omega)
  have t2 := eT 2 (by omega)
  have t3 := eT 3 (by omega)
  have u3 := eN 3 (by omega)
  have u4 := eN 4 (by omega)
  have u7 := eN 7 (by omega)
  generalize hcl (gsL S k 5 2) (gsd G b) (glt S k 6) = T at *
  have kT : k < gnL T := by omega
  have LT : gnL T ≤ 256 := by omega
  have hiT : gnd T (gsd G b) 3 ≠ -1 → gsd G (gwy G (gsd G b) (gnd T (gsd G b) 3)) = gsd G b := by rw [u3]; exact hi
  have hi4T : gnd T (gsd G b) 4 ≠ -1 → gsd G (gwy G (gsd G b) (gnd T (gsd G b) 4)) = gsd G b := by rw [u4]; exact hi4
  have r7T : -900 ≤ gnd T (gsd G b) 7 ∧ gnd T (gsd G b) 7 ≤ 900 := by rw [u7]; exact r7
  rw [c_tl1 (S := T) h k0 kT LT, z_b1, c_tl0 (S := T) h k0 kT LT, z_b1, t0, t1, hx1]
  rw [← t0] at l0
  have rk : zR (glt T k 0) := zR_of (by omega)
  rw [← t0, j_eq rfl zl0 rk (zR_of (by omega)), j_eq rfl zl1 rk (zR_of (by omega)), j_eq rfl zl2 rk (zR_of (by omega)), j_eq rfl zl3 rk (zR_of (by omega)), j_eq rfl zl4 rk (zR_of (by omega)), j_eq rfl zl5 rk (zR_of (by omega))]
  unfold hhk at hL ⊢
  by_cases q0 : glt T k 0 = 0
  · rw [if_pos q0] at hL
    rw [if_pos q0, if_pos q0]
    exact c_k0 h hg hrT hxT hbW k0 kT LT r7T hL
  rw [if_neg q0] at hL
  rw [if_neg q0, if_neg q0]
  by_cases q1 : glt T k 0 = 1
  · rw [if_pos q1] at hL
    rw [if_pos q1, if_pos q1]
    exact c_k1 h hg hw hrT hxT hbW k0 kT q1 (by rw [t2]; exact hl2 (by rw [← t0]; exact q1)) r7T hL
  rw [if_neg q1] at hL
  rw [if_neg q1, if_neg q1]
  by_cases q2 : glt T k 0 = 2
  · rw [if_pos q2] at hL
    rw [if_pos q2, if_pos q2]
    exact c_k2 h hg hw hrT hxT hbW k0 kT LT r7T hiT hL
  rw [if_neg q2] at hL
  rw [if_neg q2, if_neg q2]
  by_cases q3 : glt T k 0 = 3
  · rw [if_pos q3] at hL
    rw [if_pos q3, if_pos q3]
    exact c_k3 h hg hw hrT hxT hbW r7T hiT hL
  rw [if_neg q3] at hL
  rw [if_neg q3, if_neg q3]
  by_cases q4 : glt T k 0 = 4
  · rw [if_pos q4] at hL
    rw [if_pos q4, if_pos q4]
    exact c_k4 h hg hw hrT hxT hbW r7T hiT hL
  rw [if_neg q4] at hL
  rw [if_neg q4, if_neg q4]
  by_cases q5 : glt T k 0 = 5
  · rw [if_pos q5] at hL
    rw [if_pos q5, if_pos q5]
    exact c_k5 h hg hw hrT hxT hbW k0 kT LT r7T hiT hi4T hL
  rw [if_neg q5] at hL
  rw [if_neg q5, if_neg q5]
  exact c_th3 h hg hrT hxT hn0 hn1 hi4T hL
