/-! l: a letter's text on the reference's side; spell -/
theorem q_rwrite {G : gG} {S : gS} {N : qNm} {ν : ax_M} (hg : hGok G) (hL : 0 ≤ gnL S ∧ gnL S ≤ 252) (hr : hRs G S) (hN : nOK N) (hNG : N.1 = gN G) (hm : mI G S ν) (hn : rNm 215 0 N ν) {k : Int} (k0 : 0 ≤ k) (k1 : k < gnL S) (hlv : glt S k 2 < 100) : ∃ ν', aJ 624 [.ref 207, .int (zI k)] [] ν = some (some (.int (zI (tAll G S N k).length)), ν') ∧ tXm (tAll G S N k) ν' ∧ fr [207, 224] ν ν' ∧ ∀ j, j ≠ 34 → ν'.1 207 j = ν.1 207 j := by
  have hE := hg.2.2.2.1
  obtain ⟨l0, l1, l2, l3, l4, l5, l6, l7⟩ := hr.2.2.2 k k0 k1
  have hsr := gsd_r hg l1.1 l1.2
  have hN12 := hN.2.1
  have la := tA_l hg hN hNG (k := k) l0 l1
  have o1 := hN.2.2 _ hsr.1.1 (show gsd G (glt S k 1) < N.1 by omega)
  have o2 := hN.2.2 _ hsr.2.1 (show grc G (glt S k 1) < N.1 by omega)
  have s1 := tNN_l hN (n := gsd G (glt S k 1)) hsr.1.1 (by omega)
  have s2 := tNN_l hN (n := grc G (glt S k 1)) hsr.2.1 (by omega)
  have keep : ∀ {μ μ' : ax_M}, fr [207, 224] μ μ' → mI G S μ → mI G S μ' := fun h hm => mI_fr h (by decide) hm
  have nam : ∀ {μ : ax_M} {n : Int}, fr [207, 224] ν μ → 0 ≤ n → n < N.1 → ax_ldl ax_sh μ 215 (zI n) = some (zL (qen (N.2.2 n) (N.2.1 n).toNat)) := by
    intro μ n h n0 n1
    rw [ld_215 n0 (by omega), h.1]
    have := hn n n0 n1
    rw [Int.zero_add] at this
    rw [this]
    rfl
  have z0 : tXm [] (ax_uD ν 207 34 (zI 0)) := ⟨uD_at, fun i b h => by simp at h⟩
  have f0 : fr [207, 224] ν (ax_uD ν 207 34 (zI 0)) := fr_uD (by simp)
  have g0 : ∀ j, j ≠ 34 → (ax_uD ν 207 34 (zI 0)).1 207 j = ν.1 207 j := fun j hj => uD_nk hj 207
  have m0 := keep f0 hm
  obtain ⟨ν1, a1, a2, a3, a4⟩ := q_ww (s := N.2.2 (gsd G (glt S k 1))) 7 (by omega) (N.2.1 (gsd G (glt S k 1))).toNat [] _ (by omega) (by omega) (by omega) (fun i i0 i1 => o1.2 i i0 (by omega)) z0 (by simp; omega)
  have fr1 := frt f0 a3
  have m1 := keep a3 m0
  have e1 : ([] ++ tNm (N.2.2 (gsd G (glt S k 1))) (N.2.1 (gsd G (glt S k 1))).toNat : List Int).length ≤ 7 := by
    rw [List.nil_append]
    exact s1
  obtain ⟨ν2, b1, b2, b3, b4⟩ := q_rsg (b := 62) a2 (by omega)
  have fr2 := frt fr1 b3
  have m2 := keep b3 m1
  have e2 : ([] ++ tNm (N.2.2 (gsd G (glt S k 1))) (N.2.1 (gsd G (glt S k 1))).toNat ++ [62] : List Int).length ≤ 8 := by
    rw [List.length_append]
    simp only [List.length_cons, List.length_nil]
    omega
  obtain ⟨ν3, d1, d2, d3, d4⟩ := q_ww (s := N.2.2 (grc G (glt S k 1))) 7 (by omega) (N.2.1 (grc G (glt S k 1))).toNat _ _ (by omega) (by omega) (by omega) (fun i i0 i1 => o2.2 i i0 (by omega)) b2 (by omega)
  have fr3 := frt fr2 d3
  have m3 := keep d3 m2
  have s2' : (tNm (N.2.2 (grc G (glt S k 1))) (N.2.1 (grc G (glt S k 1))).toNat).length ≤ 7 := s2
  obtain ⟨ν4, g1, g2, g3, g4⟩ := q_rsg (b := 32) d2 (by rw [List.length_append]; omega)
  have fr4 := frt fr3 g3
  have m4 := keep g3 m3
  have hk7 : (glt S k 0).toNat < 7 := by omega
  have ww := w_ok _ hk7
  have wn1 : 1 ≤ wN (glt S k 0).toNat := by
    have : ∀ j : Nat, j < 7 → 1 ≤ wN j := by decide
    exact this _ hk7
  obtain ⟨ν5, h1, h2, h3, h4⟩ := q_ww (s := wS (glt S k 0).toNat) 7 (by omega) (wN (glt S k 0).toNat) _ _ wn1 (by have := ww.2.1; omega) ww.2.1 (fun i i0 i1 => by
    have := (ww.2.2.2.2 i.toNat (by omega)).2
    rwa [show ((i.toNat : Nat) : Int) = i by omega] at this) g2 (by
    have := ww.2.1
    rw [List.length_append, List.length_append]
    simp only [List.length_cons, List.length_nil]
    omega)
  have fr5 := frt fr4 h3
  have m5 := keep h3 m4
  have hA : tXm (tA G S N k) ν5 := h2
  have g5 : ∀ j, j ≠ 34 → ν5.1 207 j = ν.1 207 j := fun j hj => (h4 j hj).trans ((g4 j hj).trans ((d4 j hj).trans ((b4 j hj).trans ((a4 j hj).trans (g0 j hj)))))
  have w51 : aJ 51 [.int (zI (glt S k 0))] [] ν4 = some (some (.long (zL (qen (wS (glt S k 0).toNat) (wN (glt S k 0).toNat)))), ν4) := by
    have := w_ref (ν := ν4) _ hk7
    rwa [show (((glt S k 0).toNat : Nat) : Int) = glt S k 0 by omega] at this
  have L617 : (603 + 2 * 7 : Nat) = 617 := rfl
  rw [L617] at a1 d1 h1
  have first : aJ 624 [.ref 207, .int (zI k)] [] ν = if 2 < glt S k 0 then aJ 625 [.ref 207, .int (zI k), .int (zI (glt S k 0))] [] ν5 else ax_b1 (aJ 205 [.ref 207, .int (zI k), .int (zI 2)] [] ν5) fun v21 μ20 => ax_b0 (aJ 619 [.ref 207, .int v21] [] μ20) fun μ22 => aJ 625 [.ref 207, .int (zI k), .int (zI (glt S k 0))] [] μ22 := by
    rw [jl_624, show (0 : Int32) = zI 0 from rfl, show (1 : Int32) = zI 1 from rfl, q_lt hm (by omega) k0 k1 (by omega) (by omega), z_b1, q_lt m0 (by omega) k0 k1 (by omega) (by omega), z_b1, q_rsd m0 l1.1 (by omega), z_b1, nam f0 hsr.1.1 (by omega), z_bo, a1, z_b0, show (62 : Int32) = zI 62 from rfl, b1, z_b0, q_lt m2 (by omega) k0 k1 (by omega) (by omega), z_b1, q_rrc m2 l1.1 (by omega), z_b1, nam fr2 hsr.2.1 (by omega), z_bo, d1, z_b0, show (32 : Int32) = zI 32 from rfl, g1, z_b0, w51, z_b2, h1, z_b0, show (2 : Int32) = zI 2 from rfl]
    by_cases q : 2 < glt S k 0
    · rw [if_pos q, if_pos ((zI_lt (zR_of (by omega)) (zR_of (by omega))).mpr q)]
    · rw [if_neg q, if_neg (fun z => q ((zI_lt (zR_of (by omega)) (zR_of (by omega))).mp z))]
  have second : ∃ ν6, aJ 624 [.ref 207, .int (zI k)] [] ν = aJ 625 [.ref 207, .int (zI k), .int (zI (glt S k 0))] [] ν6 ∧ tXm (tA G S N k ++ tB S k) ν6 ∧ fr [207, 224] ν ν6 ∧ ∀ j, j ≠ 34 → ν6.1 207 j = ν.1 207 j := by
    by_cases q : glt S k 0 ≤ 2
    · obtain ⟨ν6, i1, i2, i3, i4⟩ := q_rnum (x := glt S k 2) hA (by omega) l2.1 hlv
      refine ⟨ν6, ?_, by unfold tB; rw [if_pos q]; exact i2, frt fr5 i3, fun j hj => (i4 j hj).trans (g5 j hj)⟩
      rw [first, if_neg (by omega), q_lt m5 (by omega) k0 k1 (by omega) (by omega), z_b1, i1, z_b0]
    · refine ⟨ν5, ?_, by unfold tB; rw [if_neg q, List.append_nil]; exact hA, fr5, g5⟩
      rw [first, if_pos (by omega)]
  obtain ⟨ν6, i1, i2, i3, i4⟩ := second
  have m6 := keep i3 hm
  have lb : (tA G S N k ++ tB S k).length ≤ 26 := by
    rw [List.length_append]
    have : (tB S k).length ≤ 3 := by
      unfold tB
      split
      · exact tNu_l
      · decide
    omega
  have third : ∃ ν7, aJ 625 [.ref 207, .int (zI k), .int (zI (glt S k 0))] [] ν6 = aJ 627 [.ref 207, .int (zI k), .int (zI (glt S k 0))] [] ν7 ∧ tXm (tA G S N k ++ tB S k ++ tC' S k) ν7 ∧ fr [207, 224] ν ν7 ∧ ∀ j, j ≠ 34 → ν7.1 207 j = ν.1 207 j := by
    by_cases q : glt S k 0 = 1 ∨ glt S k 0 = 2 ∨ glt S k 0 = 5
    · obtain ⟨ν7, j1, j2, j3, j4⟩ := q_rnum (x := glt S k 3) i2 (by omega) l3.1 (by omega)
      have e79 : aJ 626 [.ref 207, .int (zI k), .int (zI (glt S k 0))] [] ν6 = aJ 627 [.ref 207, .int (zI k), .int (zI (glt S k 0))] [] ν7 := by
        rw [jl_626, show (3 : Int32) = zI 3 from rfl, q_lt m6 (by omega) k0 k1 (by omega) (by omega), z_b1, j1, z_b0]
      refine ⟨ν7, ?_, by unfold tC'; rw [if_pos q]; exact j2, frt i3 j3, fun j hj => (j4 j hj).trans (i4 j hj)⟩
      rw [jl_625, e79]
      simp (disch := omega) only [zI_lit, p_eq]
      by_cases q0 : glt S k 0 = 1
      · rw [if_pos q0]
      rw [if_neg q0]
      by_cases q1 : glt S k 0 = 2
      · rw [if_pos q1]
      rw [if_neg q1, if_pos (by omega)]
    · refine ⟨ν6, ?_, by unfold tC'; rw [if_neg q, List.append_nil]; exact i2, i3, i4⟩
      rw [jl_625]
      simp (disch := omega) only [zI_lit, p_eq]
      rw [if_neg (by omega), if_neg (by omega), if_neg (by omega)]
  obtain ⟨ν7, j1, j2, j3, j4⟩ := third
  have m7 := keep j3 hm
  have lc : (tA G S N k ++ tB S k ++ tC' S k).length ≤ 29 := by
    rw [List.length_append]
    have : (tC' S k).length ≤ 3 := by
      unfold tC'
      split
      · exact tNu_l
      · decide
    omega
  rw [i1, j1]
  by_cases q : glt S k 0 = 1
  · obtain ⟨ν8, n1, n2, n3, n4⟩ := q_rnum (x := glt S k 4) j2 (by omega) l4.1 (by omega)
    have hT : tXm (tAll G S N k) ν8 := by
      unfold tAll tD
      rw [if_pos q]
      exact n2
    refine ⟨ν8, ?_, hT, frt j3 n3, fun j hj => (n4 j hj).trans (j4 j hj)⟩
    rw [jl_627, if_pos (show zI (glt S k 0) = (1 : Int32) by rw [q]; rfl), show (4 : Int32) = zI 4 from rfl, q_lt m7 (by omega) k0 k1 (by omega) (by omega), z_b1, n1, z_b0, jl_628, hT.1]
  · have hT : tXm (tAll G S N k) ν7 := by
      unfold tAll tD
      rw [if_neg q, List.append_nil]
      exact j2
    refine ⟨ν7, ?_, hT, j3, j4⟩
    rw [jl_627, if_neg (show ¬ zI (glt S k 0) = (1 : Int32) from fun z => q ((zI_eq (b := 1) (zR_of (by omega)) (zR_of (by omega))).mp z)), jl_628, hT.1]
