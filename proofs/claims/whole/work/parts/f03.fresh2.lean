/-! n: the fresh phase: choice, rounds, steps and the like -/
theorem q_cho0 {o : Nat} (ho : cO o) {X : cX} {ν : ax_M} (hc : cI o G00 S00 X ν) : aJ 1086 [.ref 13, .ref o] [] ν = some (some (.int (zI (-1))), ax_uD ν 13 8 0) := by
  have hf : fr [13] ν (ax_uD ν 13 8 0) := fr_uD (by simp)
  have hc1 : cI o G00 S00 X (ax_uD ν 13 8 0) := cI_fr ho hf (fun a ha => by simp at ha; rcases ho with rfl | rfl <;> omega) hc
  have h8 : (ax_uD ν 13 8 0).1 13 8 = 0 := uD_at
  have h1093 : aJ 1093 [.ref 13] [] (ax_uD ν 13 8 0) = some (some (.int (zI (-1))), ax_uD ν 13 8 0) := by
    rw [jl_1093, h8, if_pos (by decide), jl_1094, jl_1095]
    rfl
  rw [jl_1086, jl_1087 _ _ _ ho, q_wcnt hc1 ho, z_b1, if_pos (by decide), jl_1089, jl_1090, h8, if_pos (show (0 : Int32) ≤ 1 by decide)]
  split <;> exact h1093
theorem q_rlh0 {ν : ax_M} (hm : mI G00 S00 ν) : ∃ ν', aJ 303 [.ref 207] [] ν = some (none, ν') ∧ fr [223] ν ν' := by
  have loop : ∀ (m : Nat) (k : Int) (ν1 : ax_M), 0 ≤ k → k + m = 60 → ∃ ν', aJ 304 [.ref 207, .int (zI k)] [] ν1 = aJ 305 [.ref 207] [] ν' ∧ fr [223] ν1 ν' := by
    intro m
    induction m with
    | zero =>
      intro k ν1 k0 k1
      refine ⟨ν1, ?_, frz⟩
      rw [jl_304]
      simp (disch := omega) only [zI_lit, p_le]
      rw [if_pos (by omega)]
    | succ m ih =>
      intro k ν1 k0 k1
      obtain ⟨ν', e1, e2⟩ := ih (k + 1) (ax_up ν1.1 223 k.toNat (zI (-1)), ν1.2) (by omega) (by omega)
      refine ⟨ν', ?_, frt (fru (by simp)) e2⟩
      rw [jl_304]
      simp (disch := omega) only [zI_lit, zI_neg, p_le, zI_add, st_223, z_bo]
      rw [if_neg (by omega)]
      exact e1
  obtain ⟨ν', a1, a2⟩ := loop 60 0 ν (by omega) (by omega)
  refine ⟨ν', ?_, a2⟩
  have m1 := mI_fr a2 (by decide) hm
  rw [jl_303]
  simp only [zI_lit] at a1 ⊢
  rw [a1, jl_305]
  simp only [zI_lit, q_rL m1, z_bo, zI_sub]
  rw [jl_306, if_pos (by decide), jl_308]
theorem q_rch0 {R : gR} {ν : ax_M} (hR : rok R) (hm : mI G00 S00 ν) (ho : oP R ν) : ∃ ν', aJ 343 [.ref 207] [] ν = some (some (.int (zI (-1))), ν') ∧ fr [223] ν ν' := by
  obtain ⟨ν1, a1, a2⟩ := q_rlh0 hm
  have h62 : ax_ld ax_sh ν1 209 (zI 62) = some (zI (rLn R)) := by
    rw [z_ld (len := 2466) (by decide) (by omega) (by decide) (by decide), a2.2 209 (by decide)]
    exact congrArg some ho.1
  have hL := hR.1
  refine ⟨ν1, ?_, a2⟩
  have loop : ∀ (m : Nat) (i : Int), 0 ≤ i → i + m = rLn R → aJ 348 [.ref 207, .int (zI 0), .int (zI i)] [] ν1 = some (some (.int (zI (-1))), ν1) := by
    intro m
    induction m with
    | zero =>
      intro i i0 i1
      rw [jl_348]
      simp (disch := omega) only [zI_lit, h62, z_bo, p_le]
      rw [if_pos (by omega), jl_358, jl_359, if_pos (by decide), jl_361]
      rfl
    | succ m ih =>
      intro i i0 i1
      rw [jl_348]
      simp (disch := omega) only [zI_lit, h62, z_bo, p_le]
      rw [if_neg (by omega), jl_349, if_pos (by decide), jl_355, jl_356, if_pos (by decide), jl_357]
      simp only [zI_lit, zI_add]
      exact ih (i + 1) (by omega) (by omega)
  rw [jl_343]
  simp only [zI_lit, q_rE hm, z_bo]
  rw [a1, z_b0, e0E]
  simp only [zI_lit, zI_mul]
  rw [show (2 : Int) * 0 = 0 from rfl, jl_344, if_pos (by decide), jl_347]
  exact loop (rLn R).toNat 0 (by omega) (by omega)
theorem q_note0 {K : qK} {X : cX} {ν : ax_M} (hc : cI 29 G00 S00 X ν) (xx : XX G00 S00 X) (hi : iC G00 S00 [] K ν) : ∃ ν' t, aJ 826 [.ref 0] [] ν = some (none, ν') ∧ fr (cOL (pc t)) ν ν' := by
  obtain ⟨_, ⟨top, a, b, c, d, e⟩, _⟩ := hi
  have hpc := pc_RO top
  obtain ⟨_, x2, _⟩ := xx0 xx
  obtain ⟨ν', e1, e2, e3⟩ := q_cf (x0 := pc top) (x1 := 29) hpc.1 (by decide) (by omega) (by decide) (cI_cP (Or.inl rfl) hc).1 (by decide) (by decide) (by omega) (by omega)
  refine ⟨ν', top, ?_, e3⟩
  rw [jl_826, c, q_pat a b, z_b3, if_pos (Or.inl (sh_pc top)), e1, z_b0, jl_827]
theorem fC_pc {t : Int} : ∀ a, a ∈ cOL (pc t) → fC a := fun a ha => by
  have := cOL_pc ha
  unfold fC
  omega
theorem q_stay0 {ν : ax_M} : aJ 409 [.ref 207, .int 0] [] ν = some (none, ν) := by rw [jl_409, if_pos rfl]
theorem f0_choice {K : qK} (hK : kOK K) (hN : (kN K).1 = 0) : qF G00 S00 [] K 708 427 [.ref 0] [.ref 207] := by
  refine qF_0 hK hN (zI (-1)) (fun ν X x xx hi => ⟨ax_uD ν 13 8 0, [13], ?_, fr_uD (by simp), fun a ha => by simp at ha; exact Or.inl ha, uD_nk (by decide) 13⟩) (fun ν ν0 e0 m hi0 => ?_)
  · rw [jl_708, q_cho0 (Or.inl rfl) x, z_b1]
  · obtain ⟨ν1, a1, a2⟩ := q_rch0 hK.1 m hi0.2.2.1
    refine ⟨ν1, ?_, iM_st a2 (by simp) (fun k _ _ => fr_at a2 (by decide) k) (bgf a2 (by decide)) hK.1 (mI_fr a2 (by decide) m) hi0, frM_of a2 (by simp)⟩
    rw [jl_427, ← e0, a1, z_b1]
theorem q_rru0 {R : gR} {ν : ax_M} {n : Int} (hR : rok R) (hm : mI G00 S00 ν) (ho : oP R ν) (hn : zR n) (n1 : 1 ≤ n) : ∃ ν', aJ 362 [.ref 207, .int (zI n)] [] ν = some (some (.int (zI 0)), ν') ∧ fr [223] ν ν' := by
  obtain ⟨ν1, a1, a2⟩ := q_rch0 hR hm ho
  have hn2 := hn.2
  refine ⟨ν1, ?_, a2⟩
  rw [jl_362, a1, z_b1, jl_363]
  simp (disch := omega) only [zI_lit, p_le]
  rw [if_neg (by omega), if_pos (by decide), jl_364]
theorem q_tbr0 {o : Nat} (ho : cO o) {X : cX} {ν : ax_M} (hc : cI o G00 S00 X ν) (xx : XX G00 S00 X) {n : Int} (hn : zR n) (n1 : 1 ≤ n) : aJ 829 [.ref 0, .ref o, .int (zI n)] [] ν = some (some (.int (zI 0)), ν) := by
  have hn2 := hn.2
  rw [jl_829, jl_830 _ _ _ _ _ ho, q_fow hc ho, (xx0 xx).1]
  simp (disch := omega) only [zI_lit, p_le]
  rw [if_neg (by omega), if_pos (by decide), jl_831]
theorem f0_rounds {K : qK} (hK : kOK K) (hN : (kN K).1 = 0) (a : Int32) : qF G00 S00 [] K 698 417 [.ref 0, .int a] [.ref 207, .int a] := by
  obtain ⟨n, hn, rfl⟩ := zI_of a
  have hn' := hn
  obtain ⟨n1, n2⟩ := hn'
  by_cases c : 1 ≤ n ∧ n ≤ 20
  · refine qF_0 hK hN (zI 0) (fun ν X x xx hi => ?_) (fun ν ν0 e0 m hi0 => ?_)
    · obtain ⟨ν1, t, a1, a2⟩ := q_note0 x xx hi
      have n13 : 13 ∉ cOL (pc t) := fun q => by have := cOL_pc q; omega
      have x1 := cI_fr (Or.inl rfl) a2 (fun a ha => by have := cOL_pc ha; omega) x
      refine ⟨ν1, cOL (pc t), ?_, a2, fC_pc, fr_at a2 n13 0⟩
      rw [jl_698]
      simp (disch := omega) only [zI_lit, p_lt, p_le]
      rw [if_neg (by omega), if_pos (by omega), jl_700, a1, z_b0, jl_701, q_fow x1 (Or.inl rfl), (xx0 xx).1]
      simp (disch := omega) only [zI_lit, p_le]
      rw [if_neg (by omega), if_pos (by decide), jl_702, if_pos (by decide), jl_703]
    · obtain ⟨ν1, a1, a2, a3⟩ := q_svT (by decide) m
      have m1 := mI_fr a3 (by decide) m
      refine ⟨ν1, ?_, iM_st a3 (by simp) (fun k _ _ => fr_at a3 (by decide) k) (bgf a3 (by decide)) hK.1 m1 hi0, frM_of a3 (by simp)⟩
      rw [jl_417, ← e0, show (1 : Int32) = zI 1 from rfl, show (20 : Int32) = zI 20 from rfl, mz_isIn hn (zR_of (by omega)) (zR_of (by omega)), z_b1, show decide (1 ≤ n ∧ n ≤ 20) = true by simp [c], if_neg (by decide), jl_418, show (0 : Int32) = zI 0 from rfl, a1, z_b0, jl_419]
      simp (disch := omega) only [zI_lit, p_le]
      rw [if_neg (by omega), jl_293, jl_215, jl_216]
      simp only [zI_lit, q_rL m1, z_bo]
      rw [if_pos (by decide), jl_218, z_b1, if_pos rfl, jl_295, if_pos (by decide), z_b1, if_neg (by decide), jl_420, if_pos (by decide), jl_421, jl_422, q_stay0, z_b0]
  · refine qF_0n hK hN (zI (-1)) (fun ν X x xx hi => ?_) (fun ν0 m hi0 ν e0 => ?_)
    · rw [jl_698]
      simp (disch := omega) only [zI_lit, p_lt, p_le, jl_699, zI_neg]
      by_cases d : n < 1
      · rw [if_pos d]
      · rw [if_neg d, if_neg (by omega)]
    · rw [jl_417, ← e0, show (1 : Int32) = zI 1 from rfl, show (20 : Int32) = zI 20 from rfl, mz_isIn hn (zR_of (by omega)) (zR_of (by omega)), z_b1, show decide (1 ≤ n ∧ n ≤ 20) = false from decide_eq_false c, if_pos (by decide)]
      rfl
theorem f0_steps {K : qK} (hK : kOK K) (hN : (kN K).1 = 0) (a : Int32) : qF G00 S00 [] K 704 423 [.ref 0, .int a] [.ref 207, .int a] := by
  obtain ⟨n, hn, rfl⟩ := zI_of a
  have hn' := hn
  obtain ⟨n1, n2⟩ := hn'
  by_cases c : 1 ≤ n ∧ n ≤ 250
  · refine qF_0 hK hN (zI 0) (fun ν X x xx hi => ?_) (fun ν ν0 e0 m hi0 => ?_)
    · obtain ⟨ν1, t, a1, a2⟩ := q_note0 x xx hi
      have n13 : 13 ∉ cOL (pc t) := fun q => by have := cOL_pc q; omega
      have x1 := cI_fr (Or.inl rfl) a2 (fun a ha => by have := cOL_pc ha; omega) x
      refine ⟨ν1, cOL (pc t), ?_, a2, fC_pc, fr_at a2 n13 0⟩
      rw [jl_704]
      simp (disch := omega) only [zI_lit, p_lt, p_le]
      rw [if_neg (by omega), if_pos (by omega), jl_706, a1, z_b0, q_tbr0 (Or.inl rfl) x1 xx hn c.1, z_b1, if_pos (by decide), jl_707]
    · obtain ⟨ν1, a1, a2, a3⟩ := q_svT (by decide) m
      have m1 := mI_fr a3 (by decide) m
      have hi1 := iM_st a3 (by simp) (fun k _ _ => fr_at a3 (by decide) k) (bgf a3 (by decide)) hK.1 m1 hi0
      obtain ⟨ν2, b1, b2⟩ := q_rru0 hK.1 m1 hi1.2.2.1 hn c.1
      refine ⟨ν2, ?_, iM_st b2 (by simp) (fun k _ _ => fr_at b2 (by decide) k) (bgf b2 (by decide)) hK.1 (mI_fr b2 (by decide) m1) hi1, frM_t (frM_of a3 (by simp)) (frM_of b2 (by simp))⟩
      rw [jl_423, ← e0, show (1 : Int32) = zI 1 from rfl, show (250 : Int32) = zI 250 from rfl, mz_isIn hn (zR_of (by omega)) (zR_of (by omega)), z_b1, show decide (1 ≤ n ∧ n ≤ 250) = true by simp [c], if_neg (by decide), jl_424, show (0 : Int32) = zI 0 from rfl, a1, z_b0, b1, z_b1, if_pos (by decide), jl_425, jl_426, q_stay0, z_b0]
  · refine qF_0n hK hN (zI (-1)) (fun ν X x xx hi => ?_) (fun ν0 m hi0 ν e0 => ?_)
    · rw [jl_704]
      simp (disch := omega) only [zI_lit, p_lt, p_le, jl_705, zI_neg]
      by_cases d : n < 1
      · rw [if_pos d]
      · rw [if_neg d, if_neg (by omega)]
    · rw [jl_423, ← e0, show (1 : Int32) = zI 1 from rfl, show (250 : Int32) = zI 250 from rfl, mz_isIn hn (zR_of (by omega)) (zR_of (by omega)), z_b1, show decide (1 ≤ n ∧ n ≤ 250) = false from decide_eq_false c, if_pos (by decide)]
      rfl
theorem f0_until {K : qK} (hK : kOK K) (hN : (kN K).1 = 0) : qF G00 S00 [] K 765 563 [.ref 0] [.ref 207] := by
  refine qF_0 hK hN (zI 0) (fun ν X x xx hi => ?_) (fun ν ν0 e0 m hi0 => ?_)
  · obtain ⟨_, x2, _⟩ := xx0 xx
    have cp := cI_cP (Or.inl rfl) x
    obtain ⟨ν1, e1, e2, e3⟩ := q_cf (x0 := 40) (x1 := 29) (by decide) (by decide) (by decide) (by decide) cp.1 (by decide) (by decide) (by omega) (by omega)
    have c40 := cP_cI (Or.inr rfl) e2 (tI_fr e3 (by decide) (by decide) cp.2)
    rw [GW_id] at c40
    refine ⟨ν1, cOL 40, ?_, e3, fun a ha => by simp [cOL] at ha; unfold fC; omega, fr_at e3 (by decide) 0⟩
    rw [jl_765, e1, z_b0, show (256 : Int32) = zI 256 from rfl, q_tbr0 (Or.inr rfl) c40 xx (zR_of (by omega)) (by omega), z_b1]
  · obtain ⟨ν1, a1, a2, a3⟩ := q_svT (by decide) m
    have m1 := mI_fr a3 (by decide) m
    have hi1 := iM_st a3 (by simp) (fun k _ _ => fr_at a3 (by decide) k) (bgf a3 (by decide)) hK.1 m1 hi0
    obtain ⟨ν2, b1, b2⟩ := q_rru0 (n := 1000) hK.1 m1 hi1.2.2.1 (zR_of (by omega)) (by omega)
    have m2 := mI_fr b2 (by decide) m1
    have hi2 := iM_st b2 (by simp) (fun k _ _ => fr_at b2 (by decide) k) (bgf b2 (by decide)) hK.1 m2 hi1
    obtain ⟨ν3, c1, c2, c3, c4⟩ := q_cbT (W := gwt G00) (by decide) m2 (tP_fr b2 (by decide) a2)
    rw [GW_id] at c2
    refine ⟨ν3, ?_, iM_st c3 (by simp) (fun k _ _ => fr_at c3 (by decide) k) c4 hK.1 c2 hi2, frM_t (frM_of a3 (by simp)) (frM_t (frM_of b2 (by simp)) (frM_of c3 (by simp)))⟩
    rw [jl_563, ← e0, show (0 : Int32) = zI 0 from rfl, a1, z_b0, show (1000 : Int32) = zI 1000 from rfl, b1, z_b1, c1, z_b0]
theorem f0_drawn {K : qK} (hK : kOK K) (hN : (kN K).1 = 0) (a s : Int32) : qF G00 S00 [] K 780 595 [.ref 0, .int a, .int s] [.ref 207, .int a, .int s] := by
  obtain ⟨n, hn, rfl⟩ := zI_of a
  have hn' := hn
  obtain ⟨n1, n2⟩ := hn'
  by_cases c : 1 ≤ n ∧ n ≤ 60
  · refine qF_0 hK hN (zI 0) (fun ν X x xx hi => ?_) (fun ν ν0 e0 m hi0 => ?_)
    · obtain ⟨ν1, t, a1, a2⟩ := q_note0 x xx hi
      have n13 : 13 ∉ cOL (pc t) := fun q => by have := cOL_pc q; omega
      have x1 := cI_fr (Or.inl rfl) a2 (fun a ha => by have := cOL_pc ha; omega) x
      refine ⟨ν1, cOL (pc t), ?_, a2, fC_pc, fr_at a2 n13 0⟩
      rw [jl_780]
      simp (disch := omega) only [zI_lit, p_lt, p_le]
      rw [if_neg (by omega), if_pos (by omega), jl_782, a1, z_b0, jl_783, q_N x1 (Or.inl rfl)]
      simp (disch := omega) only [zI_lit, p_le]
      rw [if_neg (by omega), if_pos (by decide), jl_788, if_pos (by decide), jl_789]
    · obtain ⟨ν1, a1, a2, a3⟩ := q_svT (by decide) m
      have m1 := mI_fr a3 (by decide) m
      have hi1 := iM_st a3 (by simp) (fun k _ _ => fr_at a3 (by decide) k) (bgf a3 (by decide)) hK.1 m1 hi0
      have b2 : fr [207] ν1 (ax_uD ν1 207 32 s) := fr_uD (by simp)
      have m2 := mI_fr b2 (by decide) m1
      refine ⟨ax_uD ν1 207 32 s, ?_, iM_st b2 (by simp) (fun k _ k2 => uD_nk k2 207) (bgf b2 (by decide)) hK.1 m2 hi1, frM_t (frM_of a3 (by simp)) (frM_of b2 (by simp))⟩
      rw [jl_595, ← e0, show (1 : Int32) = zI 1 from rfl, show (60 : Int32) = zI 60 from rfl, mz_isIn hn (zR_of (by omega)) (zR_of (by omega)), z_b1, show decide (1 ≤ n ∧ n ≤ 60) = true by simp [c], if_neg (by decide), jl_596, show (0 : Int32) = zI 0 from rfl, a1, z_b0, jl_597]
      simp (disch := omega) only [zI_lit, p_le, q_rN m2, z_bo]
      rw [if_neg (by omega), if_pos (by decide), jl_599, if_pos (by decide), jl_600, jl_601, q_stay0, z_b0]
  · refine qF_0n hK hN (zI (-1)) (fun ν X x xx hi => ?_) (fun ν0 m hi0 ν e0 => ?_)
    · rw [jl_780]
      simp (disch := omega) only [zI_lit, p_lt, p_le, jl_781, zI_neg]
      by_cases d : n < 1
      · rw [if_pos d]
      · rw [if_neg d, if_neg (by omega)]
    · rw [jl_595, ← e0, show (1 : Int32) = zI 1 from rfl, show (60 : Int32) = zI 60 from rfl, mz_isIn hn (zR_of (by omega)) (zR_of (by omega)), z_b1, show decide (1 ≤ n ∧ n ≤ 60) = false from decide_eq_false c, if_pos (by decide)]
      rfl
theorem fC_F : ∀ a, a ∈ [202, 203, 204] → fC a := fun a ha => by
  simp at ha
  unfold fC
  omega
theorem f0_least {K : qK} (hK : kOK K) (hN : (kN K).1 = 0) (a : Int32) : qF G00 S00 [] K 744 522 [.ref 0, .int a] [.ref 207, .int a] := by
  obtain ⟨w, ⟨w1, w2⟩, rfl⟩ := zI_of a
  have hg := G00_ok
  have hw := hGx_w G00_x
  by_cases c : 0 ≤ w ∧ w ≤ 2
  · refine qF_0 hK hN (if w = 0 then zI (gTo G00 (gTr G00) (gE G00).toNat) else if w = 1 then ibS (gTr G00) else zI (gN G00 - ibN (gTr G00))) (fun ν X x xx hi => ?_) (fun ν ν0 e0 m1 hi0 => ⟨ν0, ?_, hi0, frM_z⟩)
    · obtain ⟨ν', h1, h2, h3, h4, h5⟩ := q_grow hg hw x
      refine ⟨ν', [202, 203, 204], ?_, h2, fC_F, fr_at h2 (by decide) 0⟩
      rw [jl_744]
      simp (disch := omega) only [zI_lit, p_lt, p_le]
      rw [if_neg (by omega), if_pos (by omega), jl_746, h1, z_b0]
      simp (disch := omega) only [zI_lit, p_eq, jl_747, jl_748, jl_749, h3, h4, h5]
      by_cases c0 : w = 0
      · rw [if_pos c0, if_pos c0]
      rw [if_neg c0, if_neg c0]
      by_cases c1 : w = 1
      · rw [if_pos c1, if_pos c1]
      · rw [if_neg c1, if_neg c1]
    · rw [jl_522, ← e0]
      simp (disch := omega) only [zI_lit, p_eq, jl_523, jl_524, jl_525, q_tree hg hw m1, z_b1, q_total hg m1, q_rN m1, z_bo, q_bits, zI_sub]
      by_cases c0 : w = 0
      · rw [if_pos c0, if_pos c0]
      rw [if_neg c0, if_neg c0]
      by_cases c1 : w = 1
      · rw [if_pos c1, if_pos c1]
      rw [if_neg c1, if_neg c1, if_pos (by omega)]
  · refine qF_0n hK hN (zI (-1)) (fun ν X x xx hi => ?_) (fun ν0 m hi0 ν e0 => ?_)
    · rw [jl_744]
      simp (disch := omega) only [zI_lit, p_lt, p_le, jl_745, zI_neg]
      by_cases c0 : w < 0
      · rw [if_pos c0]
      · rw [if_neg c0, if_neg (by omega)]
    · rw [jl_522, ← e0]
      simp (disch := omega) only [zI_lit, p_eq, jl_526, zI_neg]
      rw [if_neg (by omega), if_neg (by omega), if_neg (by omega)]
theorem f0_next {K : qK} (hK : kOK K) (hN : (kN K).1 = 0) : qF G00 S00 [] K 756 542 [.ref 0] [.ref 207] := by
  have hw := hGx_w G00_x
  refine qF_0 hK hN (zI (-1)) (fun ν X x xx hi => ?_) (fun ν ν0 e0 m1 hi0 => ⟨ν0, ?_, hi0, frM_z⟩)
  · obtain ⟨ν', h1, h2, h3, h4, h5⟩ := q_grow G00_ok hw x
    have x1 := cI_fr (Or.inl rfl) h2 (fun a ha => by simp at ha; omega) x
    refine ⟨ν', [202, 203, 204], ?_, h2, fC_F, fr_at h2 (by decide) 0⟩
    rw [jl_756, h1, z_b0, jl_757, q_E x1 (Or.inl rfl), if_pos (by decide), jl_760]
    rfl
  · rw [jl_542, ← e0, q_tree G00_ok hw m1, z_b1, jl_543, show (1 : Int32) = zI 1 from rfl, q_rE m1, z_bo, if_pos (by decide), jl_553]
    rfl
theorem f0_now {K : qK} (hK : kOK K) (hN : (kN K).1 = 0) (a : Int32) : qF G00 S00 [] K 719 441 [.ref 0, .int a] [.ref 207, .int a] := by
  obtain ⟨w, hw, rfl⟩ := zI_of a
  have hww := hw
  by_cases hc : 0 ≤ w ∧ w ≤ 10
  · have hd : w = 0 ∨ w = 1 ∨ w = 2 ∨ w = 3 ∨ w = 4 ∨ w = 5 ∨ w = 6 ∨ w = 7 ∨ w = 8 ∨ w = 9 ∨ w = 10 := by omega
    have mw : ∀ {ν0 : ax_M} {v : Int32}, mI G00 S00 ν0 → aJ 215 [.ref 207, .int v] [] ν0 = some (some (.int (zI 0)), ν0) := fun m => by
      rw [jl_215, jl_216]
      simp only [zI_lit, q_rL m, z_bo]
      rw [if_pos (by decide), jl_218]
    rcases hd with rfl | rfl | rfl | rfl | rfl | rfl | rfl | rfl | rfl | rfl | rfl
    · refine qF_0n hK hN (zI 0) (fun ν X x xx hi => ?_) (fun ν0 m hi0 ν e0 => ?_)
      · rw [jl_719, if_pos (by decide), jl_720, q_fL x (Or.inl rfl)]
        rfl
      · rw [jl_441, if_pos (by decide), ← e0, jl_442, show (383 : Int32) = zI 383 from rfl, q_rL m, z_bo]
        rfl
    · refine qF_0n hK hN (zI 0) (fun ν X x xx hi => ?_) (fun ν0 m hi0 ν e0 => ?_)
      · rw [jl_719, if_neg (by decide), if_pos (by decide), jl_721, q_fow x (Or.inl rfl), (xx0 xx).1]
      · rw [jl_441, if_neg (by decide), if_pos (by decide), ← e0, jl_443, mw m, z_b1]
    · refine qF_0n hK hN (zI 0) (fun ν X x xx hi => ?_) (fun ν0 m hi0 ν e0 => ?_)
      · rw [jl_719, if_neg (by decide), if_neg (by decide), if_pos (by decide), jl_722, q_fwc x (Or.inl rfl), (xx0 xx).2.1]
      · rw [jl_441, if_neg (by decide), if_neg (by decide), if_pos (by decide), ← e0, jl_443, mw m, z_b1]
    · refine qF_0n hK hN (zI 0) (fun ν X x xx hi => ?_) (fun ν0 m hi0 ν e0 => ?_)
      · rw [jl_719, if_neg (by decide), if_neg (by decide), if_neg (by decide), if_pos (by decide), jl_723, q_fhd x (Or.inl rfl), (xx0 xx).2.2.1]
      · rw [jl_441, if_neg (by decide), if_neg (by decide), if_neg (by decide), if_pos (by decide), ← e0, jl_443, mw m, z_b1]
    · refine qF_0n hK hN (zI 0) (fun ν X x xx hi => ?_) (fun ν0 m hi0 ν e0 => ?_)
      · rw [jl_719, if_neg (by decide), if_neg (by decide), if_neg (by decide), if_neg (by decide), if_pos (by decide), jl_724, q_fdf x (Or.inl rfl)]
        rfl
      · rw [jl_441, if_neg (by decide), if_neg (by decide), if_neg (by decide), if_neg (by decide), if_pos (by decide), ← e0, jl_444, show (384 : Int32) = zI 384 from rfl, q_rD m, z_bo]
        rfl
    · refine qF_0n hK hN (zI 0) (fun ν X x xx hi => ?_) (fun ν0 m hi0 ν e0 => ?_)
      · rw [jl_719, if_neg (by decide), if_neg (by decide), if_neg (by decide), if_neg (by decide), if_neg (by decide), if_pos (by decide), jl_725, jl_1161, jl_1162, q_N x (Or.inl rfl), if_pos (by decide), jl_1163, z_b1]
        rfl
      · rw [jl_441, if_neg (by decide), if_neg (by decide), if_neg (by decide), if_neg (by decide), if_neg (by decide), if_pos (by decide), ← e0, jl_445, jl_446, show (0 : Int32) = zI 0 from rfl, q_rN m, z_bo, if_pos (by decide), jl_448]
    · refine qF_0n hK hN (zI 0) (fun ν X x xx hi => ?_) (fun ν0 m hi0 ν e0 => ?_)
      · rw [jl_719, if_neg (by decide), if_neg (by decide), if_neg (by decide), if_neg (by decide), if_neg (by decide), if_neg (by decide), if_pos (by decide), jl_726, jl_1153, jl_1154, q_N x (Or.inl rfl), if_pos (by decide), jl_1157, z_b1]
        rfl
      · rw [jl_441, if_neg (by decide), if_neg (by decide), if_neg (by decide), if_neg (by decide), if_neg (by decide), if_neg (by decide), if_pos (by decide), ← e0, jl_449, jl_428, jl_429, show (0 : Int32) = zI 0 from rfl, q_rN m, z_bo, if_pos (by decide), jl_431, z_b1]
    · refine qF_0 hK hN (zI 0) (fun ν X x xx hi => ?_) (fun ν ν0 e0 m hi0 => ⟨ν0, ?_, hi0, frM_z⟩)
      · obtain ⟨ν', p, h1, h2, h3, _⟩ := q_scat G00_ok (cI_cP (Or.inl rfl) x).2
        have x1 := cI_fr (Or.inl rfl) h3 (fun a ha => by simp at ha; omega) x
        refine ⟨ν', [202, 204], ?_, h3, fun a ha => fC_F a (by simp at ha; simp; omega), fr_at h3 (by decide) 0⟩
        rw [jl_719, if_neg (by decide), if_neg (by decide), if_neg (by decide), if_neg (by decide), if_neg (by decide), if_neg (by decide), if_neg (by decide), if_pos (by decide), jl_727, jl_913, h1, z_b0, jl_914, q_E x1 (Or.inl rfl), if_pos (by decide), jl_916, z_b1, h2.2.2]
        rfl
      · rw [jl_441, if_neg (by decide), if_neg (by decide), if_neg (by decide), if_neg (by decide), if_neg (by decide), if_neg (by decide), if_neg (by decide), if_pos (by decide), ← e0, jl_450, jl_451, show (0 : Int32) = zI 0 from rfl, q_rN m, z_bo, if_pos (by decide), jl_453]
    · refine qF_0n hK hN (zI 0) (fun ν X x xx hi => ?_) (fun ν0 m hi0 ν e0 => ?_)
      · rw [jl_719, if_neg (by decide), if_neg (by decide), if_neg (by decide), if_neg (by decide), if_neg (by decide), if_neg (by decide), if_neg (by decide), if_neg (by decide), if_pos (by decide), jl_728, jl_1158, jl_1159, q_N x (Or.inl rfl), if_pos (by decide), jl_1160, z_b1]
        rfl
      · rw [jl_441, if_neg (by decide), if_neg (by decide), if_neg (by decide), if_neg (by decide), if_neg (by decide), if_neg (by decide), if_neg (by decide), if_neg (by decide), if_pos (by decide), ← e0, jl_454, jl_455, show (0 : Int32) = zI 0 from rfl, q_rN m, z_bo, if_pos (by decide), jl_456]
    · refine qF_0n hK hN (zI 0) (fun ν X x xx hi => ?_) (fun ν0 m hi0 ν e0 => ?_)
      · rw [jl_719, if_neg (by decide), if_neg (by decide), if_neg (by decide), if_neg (by decide), if_neg (by decide), if_neg (by decide), if_neg (by decide), if_neg (by decide), if_neg (by decide), if_pos (by decide), jl_729, q_fdp x (Or.inl rfl), (xx0 xx).2.2.2.1]
      · rw [jl_441, if_neg (by decide), if_neg (by decide), if_neg (by decide), if_neg (by decide), if_neg (by decide), if_neg (by decide), if_neg (by decide), if_neg (by decide), if_neg (by decide), if_pos (by decide), ← e0, jl_457, jl_458, show (383 : Int32) = zI 383 from rfl, q_rL m, z_bo, if_pos (by decide), jl_460]
        rfl
    · refine qF_0n hK hN (zI 0) (fun ν X x xx hi => ?_) (fun ν0 m hi0 ν e0 => ?_)
      · rw [jl_719, if_neg (by decide), if_neg (by decide), if_neg (by decide), if_neg (by decide), if_neg (by decide), if_neg (by decide), if_neg (by decide), if_neg (by decide), if_neg (by decide), if_neg (by decide), if_pos (by decide), jl_730, q_frd x (Or.inl rfl)]
        rfl
      · rw [jl_441, if_neg (by decide), if_neg (by decide), if_neg (by decide), if_neg (by decide), if_neg (by decide), if_neg (by decide), if_neg (by decide), if_neg (by decide), if_neg (by decide), if_neg (by decide), if_pos (by decide), ← e0, jl_461, show (385 : Int32) = zI 385 from rfl, q_rR m, z_bo]
        rfl
  · have n : ∀ k : Int, 0 ≤ k → k ≤ 10 → ¬ zI w = zI k := fun k k0 k1 q => by
      have := (zI_eq hww (zR_of (by omega))).mp q
      omega
    refine qF_0n hK hN (zI (-1)) (fun ν X x xx hi => ?_) (fun ν0 m hi0 ν e0 => ?_)
    · rw [jl_719, if_neg (show ¬ zI w = (0 : Int32) from n 0 (by omega) (by omega)), if_neg (show ¬ zI w = (1 : Int32) from n 1 (by omega) (by omega)), if_neg (show ¬ zI w = (2 : Int32) from n 2 (by omega) (by omega)), if_neg (show ¬ zI w = (3 : Int32) from n 3 (by omega) (by omega)), if_neg (show ¬ zI w = (4 : Int32) from n 4 (by omega) (by omega)), if_neg (show ¬ zI w = (5 : Int32) from n 5 (by omega) (by omega)), if_neg (show ¬ zI w = (6 : Int32) from n 6 (by omega) (by omega)), if_neg (show ¬ zI w = (7 : Int32) from n 7 (by omega) (by omega)), if_neg (show ¬ zI w = (8 : Int32) from n 8 (by omega) (by omega)), if_neg (show ¬ zI w = (9 : Int32) from n 9 (by omega) (by omega)), if_neg (show ¬ zI w = (10 : Int32) from n 10 (by omega) (by omega)), jl_731]
      rfl
    · rw [jl_441, ← e0, if_neg (show ¬ zI w = (0 : Int32) from n 0 (by omega) (by omega)), if_neg (show ¬ zI w = (1 : Int32) from n 1 (by omega) (by omega)), if_neg (show ¬ zI w = (2 : Int32) from n 2 (by omega) (by omega)), if_neg (show ¬ zI w = (3 : Int32) from n 3 (by omega) (by omega)), if_neg (show ¬ zI w = (4 : Int32) from n 4 (by omega) (by omega)), if_neg (show ¬ zI w = (5 : Int32) from n 5 (by omega) (by omega)), if_neg (show ¬ zI w = (6 : Int32) from n 6 (by omega) (by omega)), if_neg (show ¬ zI w = (7 : Int32) from n 7 (by omega) (by omega)), if_neg (show ¬ zI w = (8 : Int32) from n 8 (by omega) (by omega)), if_neg (show ¬ zI w = (9 : Int32) from n 9 (by omega) (by omega)), if_neg (show ¬ zI w = (10 : Int32) from n 10 (by omega) (by omega)), jl_462]
      rfl
