/-! l: a letter's text -/
theorem z_b3r {v : Nat} {μ : ax_M} {f : Nat → ax_M → ax_R} {g : ax_M → ax_R} : ax_b3 (some (some (.ref v), μ)) f g = f v μ := rfl
def tNN (N : qNm) (n : Int) : List Int := tNm (N.2.2 n) (N.2.1 n).toNat
def tA (G : gG) (S : gS) (N : qNm) (k : Int) : List Int := [] ++ tNN N (gsd G (glt S k 1)) ++ [62] ++ tNN N (grc G (glt S k 1)) ++ [32] ++ tNm (wS (glt S k 0).toNat) (wN (glt S k 0).toNat)
def tB (S : gS) (k : Int) : List Int := if glt S k 0 ≤ 2 then tNu (glt S k 2) else []
def tC' (S : gS) (k : Int) : List Int := if glt S k 0 = 1 ∨ glt S k 0 = 2 ∨ glt S k 0 = 5 then tNu (glt S k 3) else []
def tD (S : gS) (k : Int) : List Int := if glt S k 0 = 1 then tNu (glt S k 4) else []
def tAll (G : gG) (S : gS) (N : qNm) (k : Int) : List Int := tA G S N k ++ tB S k ++ tC' S k ++ tD S k
theorem tNu_l {x : Int} : (tNu x).length ≤ 3 := by
  unfold tNu
  split
  · decide
  · split <;> simp
theorem cNm_fr {N : qNm} {l : List Nat} {ν ν' : ax_M} (h : fr l ν ν') (h4 : 4 ∉ l) (h5 : 5 ∉ l) (hc : cNm 3 N ν) : cNm 3 N ν' := by
  intro n x0 x1
  have := hc n x0 x1
  rw [fr_at h h5]
  exact ⟨this.1, fun j j0 j1 => by rw [fr_at h h4]; exact this.2 j j0 j1⟩
theorem tNN_l {N : qNm} (hN : nOK N) {n : Int} (n0 : 0 ≤ n) (n1 : n < N.1) : (tNN N n).length ≤ 7 := by
  have := (hN.2.2 n n0 n1).1
  unfold tNN
  rw [tNm_l]
  omega
theorem gsd_r {G : gG} (hg : hGok G) {w : Int} (h0 : 0 ≤ w) (h1 : w < 2 * gE G) : (0 ≤ gsd G w ∧ gsd G w < gN G) ∧ 0 ≤ grc G w ∧ grc G w < gN G := by
  have a := h_sdr hg (w := w) ⟨h0, h1⟩
  have b := h_sdr hg (w := gop w) (by unfold gop; split <;> exact ⟨by omega, by omega⟩)
  exact ⟨a, b⟩
theorem tA_l {G : gG} {S : gS} {N : qNm} (hg : hGok G) (hN : nOK N) (hNG : N.1 = gN G) {k : Int} (h0 : 0 ≤ glt S k 0 ∧ glt S k 0 ≤ 6) (h1 : 0 ≤ glt S k 1 ∧ glt S k 1 < 2 * gE G) : (tA G S N k).length ≤ 23 := by
  have hr := gsd_r hg h1.1 h1.2
  have l1 := tNN_l hN (n := gsd G (glt S k 1)) hr.1.1 (by omega)
  have l2 := tNN_l hN (n := grc G (glt S k 1)) hr.2.1 (by omega)
  have l3 : wN (glt S k 0).toNat ≤ 7 := by
    have : ∀ j : Nat, j < 7 → wN j ≤ 7 := by decide
    exact this _ (by omega)
  unfold tA
  simp only [List.length_append, tNm_l, List.length_nil, List.length_cons]
  omega
theorem q_write {G : gG} {S : gS} {X : cX} {N : qNm} {ν : ax_M} (hg : hGok G) (hL : 0 ≤ gnL S ∧ gnL S ≤ 252) (hr : hRs G S) (hN : nOK N) (hNG : N.1 = gN G) (hc : cI 29 G S X ν) (hn : cNm 3 N ν) {k : Int} (k0 : 0 ≤ k) (k1 : k < gnL S) (hlv : glt S k 2 < 100) : ∃ ν', aJ 1276 [.ref 205, .ref 29, .ref 3, .int (zI k)] [] ν = some (none, ν') ∧ tXc (tAll G S N k) ν' ∧ fr [205, 206] ν ν' := by
  have hE := hg.2.2.2.1
  obtain ⟨l0, l1, l2, l3, l4, l5, l6, l7⟩ := hr.2.2.2 k k0 k1
  have hsr := gsd_r hg l1.1 l1.2
  have la := tA_l hg hN hNG (k := k) l0 l1
  have s1 := tNN_l hN (n := gsd G (glt S k 1)) hsr.1.1 (by omega)
  have s2 := tNN_l hN (n := grc G (glt S k 1)) hsr.2.1 (by omega)
  have keep : ∀ {μ μ' : ax_M}, fr [205, 206] μ μ' → cI 29 G S X μ → cI 29 G S X μ' := fun h hc => cI_fr (Or.inl rfl) h (fun a ha => by simp at ha; omega) hc
  have z0 : tXc [] (ax_uD ν 205 1 (zI 0)) := ⟨uD_at, fun i b h => by simp at h⟩
  have f0 : fr [205, 206] ν (ax_uD ν 205 1 (zI 0)) := fr_uD (by simp)
  have c0 := keep f0 hc
  obtain ⟨ν1, a1, a2, a3⟩ := q_nam (n := gsd G (glt S k 1)) hN (cNm_fr f0 (by decide) (by decide) hn) z0 (by simp) hsr.1.1 (by omega)
  have c1 := keep a3 c0
  have n1 := cNm_fr a3 (by decide) (by decide) (cNm_fr f0 (by decide) (by decide) hn)
  have e1 : ([] ++ tNm (N.2.2 (gsd G (glt S k 1))) (N.2.1 (gsd G (glt S k 1))).toNat : List Int).length ≤ 7 := by
    rw [List.nil_append]
    exact s1
  obtain ⟨ν2, b1, b2, b3⟩ := q_sgn (b := 62) a2 (by omega) (by omega) (by omega)
  have c2 := keep b3 c1
  have n2 := cNm_fr b3 (by decide) (by decide) n1
  obtain ⟨ν3, d1, d2, d3⟩ := q_nam (n := grc G (glt S k 1)) hN n2 b2 (by rw [List.length_append]; simp only [List.length_cons, List.length_nil]; omega) hsr.2.1 (by omega)
  have c3 := keep d3 c2
  have s2' : (tNm (N.2.2 (grc G (glt S k 1))) (N.2.1 (grc G (glt S k 1))).toNat).length ≤ 7 := s2
  obtain ⟨ν4, g1, g2, g3⟩ := q_sgn (b := 32) d2 (by rw [List.length_append, List.length_append]; simp only [List.length_cons, List.length_nil]; omega) (by omega) (by omega)
  have c4 := keep g3 c3
  have hk7 : (glt S k 0).toNat < 7 := by omega
  obtain ⟨ν5, h1, h2, h3⟩ := q_wrd (w_ok _ hk7) g2 (by rw [List.length_append, List.length_append, List.length_append]; simp only [List.length_cons, List.length_nil]; omega)
  have c5 := keep h3 c4
  have hA : tXc (tA G S N k) ν5 := h2
  have fA : fr [205, 206] ν ν5 := frt f0 (frt a3 (frt b3 (frt d3 (frt g3 h3))))
  have first : aJ 1276 [.ref 205, .ref 29, .ref 3, .int (zI k)] [] ν = if glt S k 0 = 0 then aJ 1277 [.ref 205, .ref 29, .int (zI k), .int (zI (glt S k 0))] [] ν5 else if glt S k 0 = 1 then aJ 1277 [.ref 205, .ref 29, .int (zI k), .int (zI (glt S k 0))] [] ν5 else if glt S k 0 = 2 then aJ 1277 [.ref 205, .ref 29, .int (zI k), .int (zI (glt S k 0))] [] ν5 else aJ 1278 [.ref 205, .ref 29, .int (zI k), .int (zI (glt S k 0))] [] ν5 := by
    have w856 : aJ 856 [.int (zI (glt S k 0))] [] ν4 = some (some (.ref (1000 + (glt S k 0).toNat)), ν4) := by
      have := w_cls (ν := ν4) _ hk7
      rwa [show (((glt S k 0).toNat : Nat) : Int) = glt S k 0 by omega] at this
    have q944 : aJ 944 [.ref 3, .int (zI (glt S k 1))] [] (ax_uD ν 205 1 (zI 0)) = some (some (.int (zI (gsd G (glt S k 1)))), ax_uD ν 205 1 (zI 0)) := by
      have ht := (cI_cP (Or.inl rfl) c0).2.2.2 (glt S k 1) l1.1 (by omega)
      rw [jl_944 3 _ _ (Or.inl rfl), show (3 + 3 : Nat) = 6 from rfl, at_6 l1.1 (by omega), z_b1, ht]
    rw [jl_1276, show (0 : Int32) = zI 0 from rfl, show (1 : Int32) = zI 1 from rfl, q_tl c0 (Or.inl rfl) (by omega) k0 k1 (by omega) (by omega), z_b1, q_tl c0 (Or.inl rfl) (by omega) k0 k1 (by omega) (by omega), z_b1, q944, z_b1, a1, z_b0, show (62 : Int32) = zI 62 from rfl, b1, z_b0, q_rc c2 (Or.inl rfl) l1.1 (by omega), z_b1, d1, z_b0, show (32 : Int32) = zI 32 from rfl, g1, z_b0, w856, z_b3r, h1, z_b0]
    simp (disch := omega) only [zI_lit, p_eq]
  -- the level
  have second : ∃ ν6, aJ 1276 [.ref 205, .ref 29, .ref 3, .int (zI k)] [] ν = aJ 1278 [.ref 205, .ref 29, .int (zI k), .int (zI (glt S k 0))] [] ν6 ∧ tXc (tA G S N k ++ tB S k) ν6 ∧ fr [205, 206] ν ν6 := by
    by_cases q : glt S k 0 ≤ 2
    · obtain ⟨ν6, i1, i2, i3⟩ := q_num (x := glt S k 2) hA (by omega) l2.1 hlv
      have e77 : aJ 1277 [.ref 205, .ref 29, .int (zI k), .int (zI (glt S k 0))] [] ν5 = aJ 1278 [.ref 205, .ref 29, .int (zI k), .int (zI (glt S k 0))] [] ν6 := by
        rw [jl_1277, show (2 : Int32) = zI 2 from rfl, q_tl c5 (Or.inl rfl) (by omega) k0 k1 (by omega) (by omega), z_b1, i1, z_b0]
      refine ⟨ν6, ?_, by unfold tB; rw [if_pos q]; exact i2, frt fA i3⟩
      rw [first, e77]
      by_cases q0 : glt S k 0 = 0
      · rw [if_pos q0]
      rw [if_neg q0]
      by_cases q1 : glt S k 0 = 1
      · rw [if_pos q1]
      rw [if_neg q1, if_pos (by omega)]
    · refine ⟨ν5, ?_, by unfold tB; rw [if_neg q, List.append_nil]; exact hA, fA⟩
      rw [first, if_neg (by omega), if_neg (by omega), if_neg (by omega)]
  obtain ⟨ν6, i1, i2, i3⟩ := second
  have c6 := keep i3 hc
  have lb : (tA G S N k ++ tB S k).length ≤ 26 := by
    rw [List.length_append]
    have : (tB S k).length ≤ 3 := by
      unfold tB
      split
      · exact tNu_l
      · decide
    omega
  have third : ∃ ν7, aJ 1278 [.ref 205, .ref 29, .int (zI k), .int (zI (glt S k 0))] [] ν6 = aJ 1280 [.ref 205, .ref 29, .int (zI k), .int (zI (glt S k 0))] [] ν7 ∧ tXc (tA G S N k ++ tB S k ++ tC' S k) ν7 ∧ fr [205, 206] ν ν7 := by
    by_cases q : glt S k 0 = 1 ∨ glt S k 0 = 2 ∨ glt S k 0 = 5
    · obtain ⟨ν7, j1, j2, j3⟩ := q_num (x := glt S k 3) i2 (by omega) l3.1 (by omega)
      have e79 : aJ 1279 [.ref 205, .ref 29, .int (zI k), .int (zI (glt S k 0))] [] ν6 = aJ 1280 [.ref 205, .ref 29, .int (zI k), .int (zI (glt S k 0))] [] ν7 := by
        rw [jl_1279, show (3 : Int32) = zI 3 from rfl, q_tl c6 (Or.inl rfl) (by omega) k0 k1 (by omega) (by omega), z_b1, j1, z_b0]
      refine ⟨ν7, ?_, by unfold tC'; rw [if_pos q]; exact j2, frt i3 j3⟩
      rw [jl_1278, e79]
      simp (disch := omega) only [zI_lit, p_eq]
      by_cases q0 : glt S k 0 = 1
      · rw [if_pos q0]
      rw [if_neg q0]
      by_cases q1 : glt S k 0 = 2
      · rw [if_pos q1]
      rw [if_neg q1, if_pos (by omega)]
    · refine ⟨ν6, ?_, by unfold tC'; rw [if_neg q, List.append_nil]; exact i2, i3⟩
      rw [jl_1278]
      simp (disch := omega) only [zI_lit, p_eq]
      rw [if_neg (by omega), if_neg (by omega), if_neg (by omega)]
  obtain ⟨ν7, j1, j2, j3⟩ := third
  have c7 := keep j3 hc
  have lc : (tA G S N k ++ tB S k ++ tC' S k).length ≤ 29 := by
    rw [List.length_append]
    have : (tC' S k).length ≤ 3 := by
      unfold tC'
      split
      · exact tNu_l
      · decide
    omega
  rw [i1, j1]
  by_cases q : glt S k 0 = 1
  · obtain ⟨ν8, m1, m2, m3⟩ := q_num (x := glt S k 4) j2 (by omega) l4.1 (by omega)
    refine ⟨ν8, ?_, by unfold tAll tD; rw [if_pos q]; exact m2, frt j3 m3⟩
    rw [jl_1280, if_pos (show zI (glt S k 0) = (1 : Int32) by rw [q]; rfl), show (4 : Int32) = zI 4 from rfl, q_tl c7 (Or.inl rfl) (by omega) k0 k1 (by omega) (by omega), z_b1, m1, z_b0, jl_1281]
  · refine ⟨ν7, ?_, by unfold tAll tD; rw [if_neg q, List.append_nil]; exact j2, j3⟩
    rw [jl_1280, if_neg (show ¬ zI (glt S k 0) = (1 : Int32) from fun z => q ((zI_eq (b := 1) (zR_of (by omega)) (zR_of (by omega))).mp z)), jl_1281]
