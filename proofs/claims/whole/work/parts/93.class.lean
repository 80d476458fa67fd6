/-! c: is a letter ready -/
theorem c_ready {o : Nat} (h : cO o) {G : gG} {S : gS} {X : cX} {μ : ax_M} {k : Int} (hg : hGok G) (hr : hRs G S) (k0 : 0 ≤ k) (k1 : k < gnL S) (hLS : gnL S ≤ 256) : aJ 1216 [.ref o, .int (zI k), .int (zI (gsd G (gop (glt S k 1))))] [] (cM o G S X μ) = some (some (.int (if gwh G S k = 0 then 1 else 0)), cM o G S X μ) := by
  have hE := hg.2.2.2.1
  have hN := hg.2.1
  obtain ⟨l0, l1, l2, l3, l4, l5, l6, l7⟩ := hr.2.2.2 k k0 k1
  have hwW : hW G (glt S k 1) := ⟨l1.1, l1.2⟩
  have hop := h_opW hwW
  have hx1 : zI (glt S k 1) ^^^ (1 : Int32) = zI (gop (glt S k 1)) := zI_xor1 l1.1 (by omega)
  have hbW : hW G (gop (glt S k 1)) := hop.1
  have hH : gwh G S k = if glt S k 0 = 0 then (if glt S k 2 < gnd S (gsd G (gop (glt S k 1))) 1 ∨ gen S (gop (glt S k 1)) ≠ 0 then 0 else 2) else if glt S k 0 = 2 then (if gnd S (gsd G (gop (glt S k 1))) 1 < glt S k 2 then 1 else 0) else if glt S k 0 = 5 then (if hed (gop (glt S k 1)) = gnd S (gsd G (gop (glt S k 1))) 3 ∧ gnd S (gsd G (gop (glt S k 1))) 0 = 1 then 3 else 0) else 0 := by
    have e2 := h_wy hg hop.1
    have e3 : gwh G S k = if glt S k 0 = 0 then (if glt S k 2 < gnd S (gsd G (gop (glt S k 1))) 1 ∨ gen S (gwy G (gsd G (gop (glt S k 1))) (hed (glt S k 1))) ≠ 0 then 0 else 2) else if glt S k 0 = 2 then (if gnd S (gsd G (gop (glt S k 1))) 1 < glt S k 2 then 1 else 0) else if glt S k 0 = 5 then (if hed (glt S k 1) = gnd S (gsd G (gop (glt S k 1))) 3 ∧ gnd S (gsd G (gop (glt S k 1))) 0 = 1 then 3 else 0) else 0 := rfl
    rw [hop.2.2.1] at e2
    rw [e2] at e3
    rw [e3, hop.2.2.1]
  rw [hH]
  generalize gop (glt S k 1) = b at *
  have hn := h_sdr hg hbW
  have hn0 : 0 ≤ gsd G b := hn.1
  have hn1 : gsd G b < 12 := by omega
  have hb0 := hbW.1
  have hb1 := hbW.2
  have hh : zI b / (2 : Int32) = zI (hed b) := m_half hb0 (by omega)
  have hhr : 0 ≤ hed b ∧ hed b < gE G := by unfold hed; omega
  have hen := hr.1 b
  obtain ⟨n0, n1, n2, n3, n4, n5, n6, n9⟩ := hr.2.1 (gsd G b)
  have rk : zR (glt S k 0) := zR_of (by omega)
  have ret1 : ∀ M, aJ 1218 [] [] M = some (some (.int 1), M) := by
    intro M
    rw [jl_1218, jl_1220, if_pos (Or.inr rfl)]
  have ret0 : ∀ M, aJ 1219 [] [] M = some (some (.int 0), M) := by
    intro M
    rw [jl_1219, jl_1220, if_pos (Or.inl rfl)]
  rw [jl_1216 _ _ _ _ h, c_tl1 h k0 k1 hLS, z_b1, c_tl0 h k0 k1 hLS, z_b1, hx1, j_eq rfl zl0 rk (zR_of (by omega)), j_eq rfl zl2 rk (zR_of (by omega)), j_eq rfl zl5 rk (zR_of (by omega))]
  by_cases q0 : glt S k 0 = 0
  · rw [if_pos q0, if_pos q0, jl_1217 _ _ _ _ _ h, c_tl2 h k0 k1 hLS, z_b1, c_of1 h hn0 hn1, z_b1, i_lt (zR_of (by omega)) (zR_of (by omega))]
    by_cases q : glt S k 2 < gnd S (gsd G b) 1
    · rw [if_pos q, if_pos (Or.inl q), ret1, if_pos rfl]
    · rw [if_neg q, c_en h hb0 (by omega), z_b1, j_eq rfl zl0 (zR_of (by omega)) (zR_of (by omega))]
      by_cases p : gen S b = 0
      · have hc : ¬ (glt S k 2 < gnd S (gsd G b) 1 ∨ gen S b ≠ 0) := by
          rintro (x | x)
          · exact q x
          · exact x p
        rw [if_pos p, if_neg hc, ret0, if_neg (by decide)]
      · rw [if_neg p, if_pos (Or.inr p), ret1, if_pos rfl]
  rw [if_neg q0, if_neg q0]
  by_cases q2 : glt S k 0 = 2
  · rw [if_pos q2, if_pos q2, jl_1221 _ _ _ _ h, c_tl2 h k0 k1 hLS, z_b1, c_of1 h hn0 hn1, z_b1, i_lt (zR_of (by omega)) (zR_of (by omega))]
    by_cases q : gnd S (gsd G b) 1 < glt S k 2
    · rw [if_pos q, if_pos q, jl_1222, jl_1223, if_pos (Or.inl rfl), if_neg (by decide)]
    · rw [if_neg q, if_neg q, jl_1223, if_pos (Or.inr rfl), if_pos rfl]
  rw [if_neg q2, if_neg q2]
  by_cases q5 : glt S k 0 = 5
  · rw [if_pos q5, if_pos q5, jl_1224 _ _ _ _ h, c_of3 h hn0 hn1, z_b1, hh, i_eq (zR_of (by omega)) (zR_of (by omega))]
    by_cases q : gnd S (gsd G b) 3 = hed b
    · rw [if_pos q, c_of0 h hn0 hn1, z_b1, j_eq rfl zl1 (zR_of (by omega)) (zR_of (by omega))]
      by_cases p : gnd S (gsd G b) 0 = 1
      · have hin : (if hed b = gnd S (gsd G b) 3 ∧ gnd S (gsd G b) 0 = 1 then (3 : Int) else 0) = 3 := if_pos ⟨q.symm, p⟩
        rw [hin, if_pos p, jl_1226, jl_1227, if_pos (Or.inl rfl), if_neg (by decide)]
      · have hin : (if hed b = gnd S (gsd G b) 3 ∧ gnd S (gsd G b) 0 = 1 then (3 : Int) else 0) = 0 := if_neg (fun x => p x.2)
        rw [hin, if_neg p, jl_1225, jl_1227, if_pos (Or.inr rfl), if_pos rfl]
    · have hin : (if hed b = gnd S (gsd G b) 3 ∧ gnd S (gsd G b) 0 = 1 then (3 : Int) else 0) = 0 := if_neg (fun x => q x.1.symm)
      rw [hin, if_neg q, jl_1225, jl_1227, if_pos (Or.inr rfl), if_pos rfl]
  rw [if_neg q5, if_neg q5, jl_1228, if_pos rfl]
