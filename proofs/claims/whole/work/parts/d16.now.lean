/-! k: now -/
theorem q_hlt {G : gG} {S : gS} {X : cX} {ν : ax_M} (hg : hGok G) (hc : cI 29 G S X ν) : aJ 1158 [.ref 29] [] ν = some (some (.int (zI (psm (fun n => gnd S n 8) (gN G).toNat))), ν) := by
  have hN0 := hg.1
  have hN := hg.2.1
  have hNN := q_N hc (Or.inl rfl)
  have key : ∀ (m n : Nat), (n : Int) + m = gN G → aJ 1159 [.ref 29, .int (zI (psm (fun n => gnd S n 8) n)), .int (zI n)] [] ν = some (some (.int (zI (psm (fun n => gnd S n 8) (gN G).toNat))), ν) := by
    intro m
    induction m with
    | zero =>
      intro n hn
      rw [jl_1159, hNN, if_pos (by rw [zI_le (zR_of (by omega)) (zR_of (by omega))]; omega), jl_1160, show n = (gN G).toNat by omega]
    | succ m ih =>
      intro n hn
      have ih' := ih (n + 1) (by omega)
      rw [jl_1159, hNN, if_neg (by rw [zI_le (zR_of (by omega)) (zR_of (by omega))]; omega)]
      simp only [zI_lit, zI_add]
      rw [q_of hc (Or.inl rfl) (by omega) (by omega) (by omega) (by omega), z_b1, zI_add]
      exact ih'
  rw [jl_1158]
  simp only [zI_lit]
  exact key (gN G).toNat 0 (by omega)
theorem q_rhlt {G : gG} {S : gS} {ν : ax_M} (hg : hGok G) (hm : mI G S ν) : aJ 454 [.ref 207, .int (zI 0)] [] ν = some (some (.int (zI (psm (fun n => gnd S n 8) (gN G).toNat))), ν) := by
  have hN0 := hg.1
  have hN := hg.2.1
  have key : ∀ (m n : Nat), (n : Int) + m = gN G → aJ 455 [.ref 207, .int (zI (psm (fun n => gnd S n 8) n)), .int (zI n)] [] ν = some (some (.int (zI (psm (fun n => gnd S n 8) (gN G).toNat))), ν) := by
    intro m
    induction m with
    | zero =>
      intro n hn
      rw [jl_455]
      simp (disch := omega) only [zI_lit, q_rN hm, z_bo, p_le]
      rw [if_pos (by omega), jl_456, show n = (gN G).toNat by omega]
    | succ m ih =>
      intro n hn
      have ih' := ih (n + 1) (by omega)
      rw [jl_455]
      simp (disch := omega) only [zI_lit, q_rN hm, z_bo, p_le, q_nd hm, z_b1, zI_add]
      rw [if_neg (by omega)]
      exact ih'
  rw [jl_454]
  simp only [zI_lit]
  exact key (gN G).toNat 0 (by omega)
theorem q_rdeep {G : gG} {S : gS} {ν : ax_M} (hL : 0 ≤ gnL S ∧ gnL S ≤ 252) (hr : hRs G S) (hm : mI G S ν) : aJ 457 [.ref 207, .int (zI 0)] [] ν = some (some (.int (zI (gMx (fun k => glt S k 6) (gnL S).toNat))), ν) := by
  have hb : ∀ i : Int, 0 ≤ i → i < gnL S → 0 ≤ glt S i 6 ∧ glt S i 6 ≤ 1000 := by
    intro i i0 i1
    obtain ⟨l0, l1, l2, l3, l4, l5, l6, l7⟩ := hr.2.2.2 i i0 i1
    omega
  have key : ∀ (m n : Nat), (n : Int) + m = gnL S → aJ 458 [.ref 207, .int (zI (gMx (fun k => glt S k 6) n)), .int (zI n)] [] ν = some (some (.int (zI (gMx (fun k => glt S k 6) (gnL S).toNat))), ν) := by
    intro m
    induction m with
    | zero =>
      intro n hn
      rw [jl_458]
      simp (disch := omega) only [zI_lit, q_rL hm, z_bo, p_le]
      rw [if_pos (by omega), jl_460, show n = (gnL S).toNat by omega]
    | succ m ih =>
      intro n hn
      have ih' := ih (n + 1) (by omega)
      have b1 := hb n (by omega) (by omega)
      have rg : 0 ≤ gMx (fun k => glt S k 6) n ∧ gMx (fun k => glt S k 6) n ≤ 1000 := gFo_r (C := fun i b => b < glt S i 6) (v := fun k => glt S k 6) (b := 0) (lo := 0) (hi' := 1000) (by omega) (m := (gnL S).toNat) (fun i i0 i1 => hb i i0 (by omega)) n (by omega)
      rw [jl_458]
      simp (disch := omega) only [zI_lit, q_rL hm, z_bo, p_le, q_lt hm, z_b1, jl_459, zI_add]
      rw [if_neg (by omega)]
      by_cases c : gMx (fun k => glt S k 6) n < glt S n 6
      · rw [if_neg (by omega)]
        rw [show gMx (fun k => glt S k 6) (n + 1) = glt S n 6 from gFo_p c] at ih'
        exact ih'
      · rw [if_pos (by omega)]
        rw [show gMx (fun k => glt S k 6) (n + 1) = gMx (fun k => glt S k 6) n from gFo_n c] at ih'
        exact ih'
  rw [jl_457]
  simp only [zI_lit]
  exact key (gnL S).toNat 0 (by omega)
theorem xdp_mx {S : gS} {X : cX} (hL : 0 ≤ gnL S) (h : XR9 S X) : xdp X = gMx (fun k => glt S k 6) (gnL S).toNat := by
  obtain ⟨h0, h1, h2⟩ := h
  obtain ⟨g0, g1, g2⟩ := gMx_s (f := fun k => glt S k 6) (gnL S).toNat
  have a : xdp X ≤ gMx (fun k => glt S k 6) (gnL S).toNat := by
    rcases h2 with q | ⟨k, k0, k1, k2⟩
    · omega
    · have := g1 k k0 (by omega)
      omega
  have b : gMx (fun k => glt S k 6) (gnL S).toNat ≤ xdp X := by
    rcases g2 with q | ⟨k, k0, k1, k2⟩
    · omega
    · have := h1 k k0 (by omega)
      omega
  omega
theorem q_rfra {G : gG} {S : gS} {ν : ax_M} (hg : hGok G) (hm : mI G S ν) (hr : hRs G S) : aJ 450 [.ref 207, .int (zI 0)] [] ν = some (some (.int (zI (nRo G (gBr G S)))), ν) := by
  have hN0 := hg.1
  have hN := hg.2.1
  have key : ∀ (m n : Nat), (n : Int) + m = gN G → aJ 451 [.ref 207, .int (zI (pct (fun n => gLe G (gBr G S) n n) (fun _ => Classical.propDecidable _) n)), .int (zI n)] [] ν = some (some (.int (zI (nRo G (gBr G S)))), ν) := by
    intro m
    induction m with
    | zero =>
      intro n hn
      rw [jl_451]
      simp (disch := omega) only [zI_lit, q_rN hm, z_bo, p_le]
      rw [if_pos (by omega), jl_453, show n = (gN G).toNat by omega]
      rfl
    | succ m ih =>
      intro n hn
      have ih' := ih (n + 1) (by omega)
      simp only [pct] at ih'
      obtain ⟨k, hk⟩ := le_ex (G := G) (P := gBr G S) (show (0 : Int) ≤ (n : Int) by omega)
      have k0 := hk.1
      have k1 := hk.2.1
      rw [jl_451]
      simp (disch := omega) only [zI_lit, q_rN hm, z_bo, p_le, jl_452, zI_add]
      rw [if_neg (by omega), q_lw hg hm hr (by omega) (by omega) hk, z_b1]
      simp (disch := omega) only [p_eq]
      by_cases c : k = n
      · rw [if_pos c]
        rw [if_pos (by rw [← c]; exact le_self hk)] at ih'
        exact ih'
      · rw [if_neg c]
        rw [if_neg (fun q => c (le_uni hk q))] at ih'
        exact ih'
  rw [jl_450]
  simp only [zI_lit]
  exact key (gN G).toNat 0 (by omega)
theorem q_now {G : gG} {S : gS} {U : List gU} {K : qK} (hp : pOK G S U K) (a : Int32) : qCl G S U K 719 441 [.ref 0, .int a] [.ref 207, .int a] := by
  obtain ⟨w, hw, rfl⟩ := zI_of a
  have hww := hw
  have hg := hp.1
  have hv := hp.2.2.1
  have hr := hv.2.2.1
  have hL := pOK_L hp
  have hL2 : gnL S ≤ 256 := by omega
  have hxX : ∀ {X}, XR G S X → xdp X = gMx (fun k => glt S k 6) (gnL S).toNat := fun h => xdp_mx hL.1 h.2.2.2.2.2.2.2.2
  by_cases hc : 0 ≤ w ∧ w ≤ 10
  · have hd : w = 0 ∨ w = 1 ∨ w = 2 ∨ w = 3 ∨ w = 4 ∨ w = 5 ∨ w = 6 ∨ w = 7 ∨ w = 8 ∨ w = 9 ∨ w = 10 := by omega
    rcases hd with rfl | rfl | rfl | rfl | rfl | rfl | rfl | rfl | rfl | rfl | rfl
    · refine qCl_same hp (zI (gnL S)) ?_ ?_
      · intro ν hi
        obtain ⟨⟨X, x1, x2⟩, _, _⟩ := iC_R hp.2.2.1 hi
        rw [jl_719, if_pos (by decide), jl_720, q_fL x1 (Or.inl rfl)]
      · intro ν ν0 e0 hi0
        have m1 := hi0.1
        rw [jl_441, if_pos (by decide), ← e0, jl_442]
        simp only [zI_lit, q_rL m1, z_bo]
    · refine qCl_same hp (zI ((nWh S 0 : Nat))) ?_ ?_
      · intro ν hi
        obtain ⟨⟨X, x1, x2⟩, _, _⟩ := iC_R hp.2.2.1 hi
        rw [jl_719, if_neg (by decide), if_pos (by decide), jl_721, q_fow x1 (Or.inl rfl), x2.2.2.2.2.2.2.2.1.1]
      · intro ν ν0 e0 hi0
        have m1 := hi0.1
        rw [jl_441, if_neg (by decide), if_pos (by decide), ← e0, jl_443]
        simp only [zI_lit, zI_sub]
        rw [show (1 : Int) - 1 = 0 from rfl, q_mw m1 hL.1 hL2 hr (by omega) (by omega), z_b1]
    · refine qCl_same hp (zI ((nWh S 1 : Nat))) ?_ ?_
      · intro ν hi
        obtain ⟨⟨X, x1, x2⟩, _, _⟩ := iC_R hp.2.2.1 hi
        rw [jl_719, if_neg (by decide), if_neg (by decide), if_pos (by decide), jl_722, q_fwc x1 (Or.inl rfl), x2.2.2.2.2.2.2.2.1.2.1]
      · intro ν ν0 e0 hi0
        have m1 := hi0.1
        rw [jl_441, if_neg (by decide), if_neg (by decide), if_pos (by decide), ← e0, jl_443]
        simp only [zI_lit, zI_sub]
        rw [show (2 : Int) - 1 = 1 from rfl, q_mw m1 hL.1 hL2 hr (by omega) (by omega), z_b1]
    · refine qCl_same hp (zI ((nWh S 2 : Nat))) ?_ ?_
      · intro ν hi
        obtain ⟨⟨X, x1, x2⟩, _, _⟩ := iC_R hp.2.2.1 hi
        rw [jl_719, if_neg (by decide), if_neg (by decide), if_neg (by decide), if_pos (by decide), jl_723, q_fhd x1 (Or.inl rfl), x2.2.2.2.2.2.2.2.1.2.2]
      · intro ν ν0 e0 hi0
        have m1 := hi0.1
        rw [jl_441, if_neg (by decide), if_neg (by decide), if_neg (by decide), if_pos (by decide), ← e0, jl_443]
        simp only [zI_lit, zI_sub]
        rw [show (3 : Int) - 1 = 2 from rfl, q_mw m1 hL.1 hL2 hr (by omega) (by omega), z_b1]
    · refine qCl_same hp (zI (gdf S)) ?_ ?_
      · intro ν hi
        obtain ⟨⟨X, x1, x2⟩, _, _⟩ := iC_R hp.2.2.1 hi
        rw [jl_719, if_neg (by decide), if_neg (by decide), if_neg (by decide), if_neg (by decide), if_pos (by decide), jl_724, q_fdf x1 (Or.inl rfl)]
      · intro ν ν0 e0 hi0
        have m1 := hi0.1
        rw [jl_441, if_neg (by decide), if_neg (by decide), if_neg (by decide), if_neg (by decide), if_pos (by decide), ← e0, jl_444]
        simp only [zI_lit, q_rD m1, z_bo]
    · refine qCl_same hp (zI (gMx (fun n => gnd S n 1) (gN G).toNat)) ?_ ?_
      · intro ν hi
        obtain ⟨⟨X, x1, x2⟩, _, _⟩ := iC_R hp.2.2.1 hi
        rw [jl_719, if_neg (by decide), if_neg (by decide), if_neg (by decide), if_neg (by decide), if_neg (by decide), if_pos (by decide), jl_725, q_hil hg hL hr x1, z_b1]
      · intro ν ν0 e0 hi0
        have m1 := hi0.1
        rw [jl_441, if_neg (by decide), if_neg (by decide), if_neg (by decide), if_neg (by decide), if_neg (by decide), if_pos (by decide), ← e0]
        exact q_rhil hg hL hr m1
    · refine qCl_same hp (zI ((gaw G S : Nat))) ?_ ?_
      · intro ν hi
        obtain ⟨⟨X, x1, x2⟩, _, _⟩ := iC_R hp.2.2.1 hi
        rw [jl_719, if_neg (by decide), if_neg (by decide), if_neg (by decide), if_neg (by decide), if_neg (by decide), if_neg (by decide), if_pos (by decide), jl_726, q_aw hg hv.1 x1, z_b1]
      · intro ν ν0 e0 hi0
        have m1 := hi0.1
        rw [jl_441, if_neg (by decide), if_neg (by decide), if_neg (by decide), if_neg (by decide), if_neg (by decide), if_neg (by decide), if_pos (by decide), ← e0, jl_449, q_raw hg hv.1 m1, z_b1]
    · refine qCl_F hp (zI ((nRo G (gBr G S) : Nat))) ?_ ?_
      · intro ν hi
        obtain ⟨⟨X, x1, x2⟩, _, _⟩ := iC_R hp.2.2.1 hi
        obtain ⟨ν', p, h1, h2, h3⟩ := q_frag hg hr x1
        refine ⟨ν', ?_, frm h3 (by simp)⟩
        rw [jl_719, if_neg (by decide), if_neg (by decide), if_neg (by decide), if_neg (by decide), if_neg (by decide), if_neg (by decide), if_neg (by decide), if_pos (by decide), jl_727, h1, z_b1]
      · intro ν ν0 e0 hi0
        have m1 := hi0.1
        rw [jl_441, if_neg (by decide), if_neg (by decide), if_neg (by decide), if_neg (by decide), if_neg (by decide), if_neg (by decide), if_neg (by decide), if_pos (by decide), ← e0]
        exact q_rfra hg m1 hr
    · refine qCl_same hp (zI (psm (fun n => gnd S n 8) (gN G).toNat)) ?_ ?_
      · intro ν hi
        obtain ⟨⟨X, x1, x2⟩, _, _⟩ := iC_R hp.2.2.1 hi
        rw [jl_719, if_neg (by decide), if_neg (by decide), if_neg (by decide), if_neg (by decide), if_neg (by decide), if_neg (by decide), if_neg (by decide), if_neg (by decide), if_pos (by decide), jl_728, q_hlt hg x1, z_b1]
      · intro ν ν0 e0 hi0
        have m1 := hi0.1
        rw [jl_441, if_neg (by decide), if_neg (by decide), if_neg (by decide), if_neg (by decide), if_neg (by decide), if_neg (by decide), if_neg (by decide), if_neg (by decide), if_pos (by decide), ← e0]
        exact q_rhlt hg m1
    · refine qCl_same hp (zI (gMx (fun k => glt S k 6) (gnL S).toNat)) ?_ ?_
      · intro ν hi
        obtain ⟨⟨X, x1, x2⟩, _, _⟩ := iC_R hp.2.2.1 hi
        rw [jl_719, if_neg (by decide), if_neg (by decide), if_neg (by decide), if_neg (by decide), if_neg (by decide), if_neg (by decide), if_neg (by decide), if_neg (by decide), if_neg (by decide), if_pos (by decide), jl_729, q_fdp x1 (Or.inl rfl), hxX x2]
      · intro ν ν0 e0 hi0
        have m1 := hi0.1
        rw [jl_441, if_neg (by decide), if_neg (by decide), if_neg (by decide), if_neg (by decide), if_neg (by decide), if_neg (by decide), if_neg (by decide), if_neg (by decide), if_neg (by decide), if_pos (by decide), ← e0]
        exact q_rdeep hL hr m1
    · refine qCl_same hp (zI (grd S)) ?_ ?_
      · intro ν hi
        obtain ⟨⟨X, x1, x2⟩, _, _⟩ := iC_R hp.2.2.1 hi
        rw [jl_719, if_neg (by decide), if_neg (by decide), if_neg (by decide), if_neg (by decide), if_neg (by decide), if_neg (by decide), if_neg (by decide), if_neg (by decide), if_neg (by decide), if_neg (by decide), if_pos (by decide), jl_730, q_frd x1 (Or.inl rfl)]
      · intro ν ν0 e0 hi0
        have m1 := hi0.1
        rw [jl_441, if_neg (by decide), if_neg (by decide), if_neg (by decide), if_neg (by decide), if_neg (by decide), if_neg (by decide), if_neg (by decide), if_neg (by decide), if_neg (by decide), if_neg (by decide), if_pos (by decide), ← e0, jl_461]
        simp only [zI_lit, q_rR m1, z_bo]
  · have n : ∀ k : Int, 0 ≤ k → k ≤ 10 → ¬ zI w = zI k := fun k k0 k1 q => by
      have := (zI_eq hww (zR_of (by omega))).mp q
      omega
    refine qCl_same hp (zI (-1)) ?_ ?_
    · intro ν hi
      rw [jl_719]
      rw [if_neg (show ¬ zI w = (0 : Int32) from n 0 (by omega) (by omega)), if_neg (show ¬ zI w = (1 : Int32) from n 1 (by omega) (by omega)), if_neg (show ¬ zI w = (2 : Int32) from n 2 (by omega) (by omega)), if_neg (show ¬ zI w = (3 : Int32) from n 3 (by omega) (by omega)), if_neg (show ¬ zI w = (4 : Int32) from n 4 (by omega) (by omega)), if_neg (show ¬ zI w = (5 : Int32) from n 5 (by omega) (by omega)), if_neg (show ¬ zI w = (6 : Int32) from n 6 (by omega) (by omega)), if_neg (show ¬ zI w = (7 : Int32) from n 7 (by omega) (by omega)), if_neg (show ¬ zI w = (8 : Int32) from n 8 (by omega) (by omega)), if_neg (show ¬ zI w = (9 : Int32) from n 9 (by omega) (by omega)), if_neg (show ¬ zI w = (10 : Int32) from n 10 (by omega) (by omega)), jl_731]
      rfl
    · intro ν ν0 e0 hi0
      rw [jl_441, ← e0]
      rw [if_neg (show ¬ zI w = (0 : Int32) from n 0 (by omega) (by omega)), if_neg (show ¬ zI w = (1 : Int32) from n 1 (by omega) (by omega)), if_neg (show ¬ zI w = (2 : Int32) from n 2 (by omega) (by omega)), if_neg (show ¬ zI w = (3 : Int32) from n 3 (by omega) (by omega)), if_neg (show ¬ zI w = (4 : Int32) from n 4 (by omega) (by omega)), if_neg (show ¬ zI w = (5 : Int32) from n 5 (by omega) (by omega)), if_neg (show ¬ zI w = (6 : Int32) from n 6 (by omega) (by omega)), if_neg (show ¬ zI w = (7 : Int32) from n 7 (by omega) (by omega)), if_neg (show ¬ zI w = (8 : Int32) from n 8 (by omega) (by omega)), if_neg (show ¬ zI w = (9 : Int32) from n 9 (by omega) (by omega)), if_neg (show ¬ zI w = (10 : Int32) from n 10 (by omega) (by omega)), jl_462]
      rfl
