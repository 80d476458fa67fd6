/-! j: the acts -/
theorem uOKx_push {G : gG} {U : List gU} {e : gU} (h : uOKx G U) (he : ∀ i, 0 ≤ i → i < gE G → 1 ≤ e.1 i ∧ e.1 i ≤ 99) : uOKx G (pushU U e) := by
  intro x hx
  rcases List.mem_cons.mp (List.mem_of_mem_take (show x ∈ (e :: U).take 8 from hx)) with q | q
  · rw [q]; exact he
  · exact h x q
theorem pOK_act {G : gG} {S S' : gS} {U : List gU} {K : qK} (hp : pOK G S U K) (hv : hV G S') (hz : hZ G S') : pOK G S' (pushU U (gwt G, S)) K := by
  obtain ⟨a1, a2, a3, a4, a5, a6, a7, a8⟩ := hp
  exact ⟨a1, a2, hv, hz, push_OK a5 ⟨a3, hGx_w a2, a4⟩, uOKx_push a6 a2, a7, a8⟩
theorem q_wake {G : gG} {S : gS} {U : List gU} {K : qK} (hp : pOK G S U K) (a : Int32) : qCl G S U K 692 411 [.ref 0, .int a] [.ref 207, .int a] := by
  obtain ⟨n, hn, rfl⟩ := zI_of a
  have hg := hp.1
  have hw := hGx_w hp.2.1
  have hK := hp.2.2.2.2.2.2.1.1
  have hv := hp.2.2.1
  have hN := hg.2.1
  have z0 : (0 : Int32) = zI 0 := rfl
  by_cases c : 0 ≤ n ∧ n < gN G
  · have hst := h_nd hv.1 n
    have hd : decide (0 ≤ n ∧ n < gN G) = true := by simp [c]
    by_cases s : gnd S n 0 = 0
    · have hv' := hV_wk hg hv c.1 c.2 s
      refine ⟨zI 0, G, gwk G S n, pushU U (gwt G, S), K, pOK_act hp hv' (hZ_wk hg hv c.1 c.2 s), ?_, ?_⟩
      · intro ν hi
        obtain ⟨⟨X, x1, x2⟩, _, _⟩ := iC_R hp.2.2.1 hi
        obtain ⟨ν1, b1, b2, b3⟩ := note_ok hp hi
        obtain ⟨⟨X1, y1, y2⟩, _, _⟩ := id b2
        obtain ⟨X2, ν2, d1, d2, d3, d4⟩ := q_rouse (o := 29) (Or.inl rfl) hg hw hv y2 y1 c.1 c.2
        rw [if_pos s] at d2 d3
        have b2' := iN_st (fun _ _ h => h) d4 (by intro a ha; simp [cOL] at ha; omega) (fr_at d4 (by decide) 0) d2 d3 b2
        obtain ⟨ν3, e1, e2, e3⟩ := keep_ok hp.2.2.2.2.1 b2'
        refine ⟨ν3, ?_, e2, frC_t b3 (frC_t (frC_of d4 (by decide)) e3)⟩
        rw [jl_692, q_in hg x1 hn, z_b1, hd, if_neg (by decide), jl_693]
        simp (disch := omega) only [zI_lit, q_of x1 (Or.inl rfl), z_b1, p_eq]
        rw [if_pos s, jl_694, b1, z_b0, d1, z_b1, e1, z_b0]
        rfl
      · intro ν hi
        obtain ⟨ν0, e0, hi0, f0⟩ := iM_th hK hi
        obtain ⟨m1, _, _⟩ := id hi0
        obtain ⟨ν1, b1, b2, b3⟩ := snap_ok hp hi0
        obtain ⟨ν2, d1, d2, d3, d4⟩ := q_rwk hg hw hv b2.1 c.1 c.2
        refine ⟨ν2, ?_, iM_st d3 (by simp) (fun k _ _ => fr_at d3 (by decide) k) d4 hK d2 b2, frM_t f0 (frM_t b3 (frM_of d3 (by simp)))⟩
        rw [jl_411, ← e0, q_rin hg m1 hn, z_b1, hd, if_neg (by decide), jl_412]
        simp (disch := omega) only [zI_lit, q_nd m1, z_b1, p_eq]
        rw [if_pos s, jl_413]
        simp only [show zI 0 = (0 : Int32) from rfl]
        rw [b1, z_b0, d1, z_b0]
    · refine ⟨zI 1, G, S, U, K, hp, ?_, ?_⟩
      · intro ν hi
        obtain ⟨⟨X, x1, x2⟩, _, _⟩ := iC_R hp.2.2.1 hi
        refine ⟨ν, ?_, hi, frC_z⟩
        rw [jl_692, q_in hg x1 hn, z_b1, hd, if_neg (by decide), jl_693]
        simp (disch := omega) only [zI_lit, q_of x1 (Or.inl rfl), z_b1, p_eq]
        rw [if_neg s]
      · intro ν hi
        obtain ⟨ν0, e0, hi0, f0⟩ := iM_th hK hi
        obtain ⟨m1, _, _⟩ := id hi0
        refine ⟨ν0, ?_, hi0, f0⟩
        rw [jl_411, ← e0, q_rin hg m1 hn, z_b1, hd, if_neg (by decide), jl_412]
        simp (disch := omega) only [zI_lit, q_nd m1, z_b1, p_eq]
        rw [if_neg s]
  · have hd : decide (0 ≤ n ∧ n < gN G) = false := by simp; omega
    refine ⟨zI (-1), G, S, U, K, hp, ?_, ?_⟩
    · intro ν hi
      obtain ⟨⟨X, x1, x2⟩, _, _⟩ := iC_R hp.2.2.1 hi
      refine ⟨ν, ?_, hi, frC_z⟩
      rw [jl_692, q_in hg x1 hn, z_b1, hd, if_pos (by decide)]
      rfl
    · intro ν hi
      obtain ⟨ν0, e0, hi0, f0⟩ := iM_th hK hi
      obtain ⟨m1, _, _⟩ := id hi0
      refine ⟨ν0, ?_, hi0, f0⟩
      rw [jl_411, ← e0, q_rin hg m1 hn, z_b1, hd, if_pos (by decide)]
      rfl
theorem q_take {G : gG} {S : gS} {U : List gU} {K : qK} (hp : pOK G S U K) (a : Int32) : qCl G S U K 695 414 [.ref 0, .int a] [.ref 207, .int a] := by
  obtain ⟨w, hn, rfl⟩ := zI_of a
  have hg := hp.1
  have hw := hGx_w hp.2.1
  have hK := hp.2.2.2.2.2.2.1.1
  have hv := hp.2.2.1
  have hL := pOK_L hp
  have hE := hg.2.2.2.1
  have hgf := gfi_no (S := S) (w := w) hL.1
  have hno := nOn_le (S := S) (w := w)
  by_cases c : 0 ≤ w ∧ w < 2 * gE G
  · have hd : decide (0 ≤ w ∧ w < 2 * gE G) = true := by simp [c]
    have hr : -1 ≤ gfi S w ∧ gfi S w < 256 := by rcases h_gfi (S := S) (w := w) hL.1 with y | y <;> omega
    by_cases s : gfi S w = -1
    · have h0 := hgf.mpr s
      refine ⟨zI (-1), G, S, U, K, hp, ?_, ?_⟩
      · intro ν hi
        obtain ⟨⟨X, x1, x2⟩, _, _⟩ := iC_R hp.2.2.1 hi
        have hx1 := x2.1 w c.1 (by omega)
        have hoe := q_oe x1 (Or.inl rfl) c.1 (show w < 60 by omega)
        refine ⟨ν, ?_, hi, frC_z⟩
        rw [jl_695, q_iw hg x1 hn, z_b1, hd, if_neg (by decide), show (36 : Nat) = 29 + 7 from rfl, hoe, z_b1, hx1, h0]
        rw [if_pos (by rfl), jl_696]
        rfl
      · intro ν hi
        obtain ⟨ν0, e0, hi0, f0⟩ := iM_th hK hi
        obtain ⟨m1, _, _⟩ := id hi0
        refine ⟨ν0, ?_, hi0, f0⟩
        rw [jl_414, ← e0, q_riw hg m1 hn, z_b1, hd, if_neg (by decide), q_rfi hg hv m1 c.1 (by omega), z_b1, s, if_pos (by rfl), jl_415]
        rfl
    · have h0 : ¬ nOn S w = 0 := fun z => s (hgf.mp z)
      have hv' := hV_ta hg hw hv s
      refine ⟨zI (hta G S w).1, G, (hta G S w).2, pushU U (gwt G, S), K, pOK_act hp hv' (hZ_ta hg hw hv s), ?_, ?_⟩
      · intro ν hi
        obtain ⟨⟨X, x1, x2⟩, _, _⟩ := iC_R hp.2.2.1 hi
        have hx1 := x2.1 w c.1 (by omega)
        have hoe := q_oe x1 (Or.inl rfl) c.1 (show w < 60 by omega)
        obtain ⟨ν1, b1, b2, b3⟩ := note_ok hp hi
        obtain ⟨⟨X1, y1, y2⟩, _, _⟩ := id b2
        obtain ⟨X2, ν2, d1, d2, d3, d4⟩ := q_ta (o := 29) (Or.inl rfl) hg hw hv y2 y1 s
        have b2' := iN_st (fun _ _ h => h) d4 (by intro a ha; simp [cOL] at ha; omega) (fr_at d4 (by decide) 0) d2 d3 b2
        obtain ⟨ν3, e1, e2, e3⟩ := keep_ok hp.2.2.2.2.1 b2'
        refine ⟨ν3, ?_, e2, frC_t b3 (frC_t (frC_of d4 (by decide)) e3)⟩
        rw [jl_695, q_iw hg x1 hn, z_b1, hd, if_neg (by decide), show (36 : Nat) = 29 + 7 from rfl, hoe, z_b1, hx1]
        simp (disch := omega) only [zI_lit, p_eq]
        rw [if_neg (by omega), jl_697, b1, z_b0, d1, z_b1, e1, z_b0]
      · intro ν hi
        obtain ⟨ν0, e0, hi0, f0⟩ := iM_th hK hi
        obtain ⟨m1, _, _⟩ := id hi0
        obtain ⟨ν1, b1, b2, b3⟩ := snap_ok hp hi0
        obtain ⟨ν2, d1, d2, d3, d4⟩ := q_rta hg hw hv b2.1 s
        have hfi := q_rfi hg hv m1 c.1 (show w < 60 by omega)
        refine ⟨ν2, ?_, iM_st d3 (by simp) (fun k _ _ => fr_at d3 (by decide) k) d4 hK d2 b2, frM_t f0 (frM_t b3 (frM_of d3 (by simp)))⟩
        rw [jl_414, ← e0, q_riw hg m1 hn, z_b1, hd, if_neg (by decide), hfi, z_b1]
        rw [j_eq rfl zlm (zR_of (by omega)) (zR_of (by omega)), if_neg s, jl_416, b1, z_b0, d1, z_b1]
  · have hd : decide (0 ≤ w ∧ w < 2 * gE G) = false := by simp; omega
    refine ⟨zI (-1), G, S, U, K, hp, ?_, ?_⟩
    · intro ν hi
      obtain ⟨⟨X, x1, x2⟩, _, _⟩ := iC_R hp.2.2.1 hi
      refine ⟨ν, ?_, hi, frC_z⟩
      rw [jl_695, q_iw hg x1 hn, z_b1, hd, if_pos (by decide), jl_696]
      rfl
    · intro ν hi
      obtain ⟨ν0, e0, hi0, f0⟩ := iM_th hK hi
      obtain ⟨m1, _, _⟩ := id hi0
      refine ⟨ν0, ?_, hi0, f0⟩
      rw [jl_414, ← e0, q_riw hg m1 hn, z_b1, hd, if_pos (by decide), jl_415]
      rfl
theorem q_choice {G : gG} {S : gS} {U : List gU} {K : qK} (hp : pOK G S U K) : qCl G S U K 708 427 [.ref 0] [.ref 207] := by
  have hg := hp.1
  have hw := hGx_w hp.2.1
  have hK := hp.2.2.2.2.2.2.1.1
  have hv := hp.2.2.1
  refine ⟨zI (gch' G S (kR K)), G, S, U, K, hp, ?_, ?_⟩
  · intro ν hi
    obtain ⟨⟨X, x1, x2⟩, x3, x4⟩ := iC_R hp.2.2.1 hi
    obtain ⟨ν1, a1, a2, a3, a4, a5, a6⟩ := q_ch (o := 29) (Or.inl rfl) hg hw hv x2 hK x1 x4.1
    refine ⟨ν1, ?_, iC_st a5 (by intro a ha; simp [chL] at ha; omega) (a6 0 (by decide)) a3 x2 hi, frC_of a5 (by decide)⟩
    rw [jl_708, a1, z_b1]
  · intro ν hi
    obtain ⟨ν0, e0, hi0, f0⟩ := iM_th hK hi
    obtain ⟨m1, m2, m3⟩ := id hi0
    obtain ⟨ν1, a1, a2⟩ := q_rch hg hw hv hK m1 m3.1
    refine ⟨ν1, ?_, iM_st a2 (by intro a ha; simp [crL] at ha; omega) (fun k _ _ => fr_at a2 (by decide) k) (bgf a2 (by decide)) hK (mI_fr a2 (by decide) m1) hi0, frM_t f0 (frM_of a2 (by intro a ha; simp [crL] at ha; omega))⟩
    rw [jl_427, ← e0, a1, z_b1]
/-- how many are awake -/
def gaw (G : gG) (S : gS) : Nat := pct (fun n => gnd S n 0 ≠ 0) (fun _ => inferInstance) (gN G).toNat
theorem gaw_le {G : gG} {S : gS} (hg : hGok G) : gaw G S ≤ 12 := by
  have := pct_le (P := fun n => gnd S n 0 ≠ 0) (D := fun _ => inferInstance) (m := (gN G).toNat)
  have := hg.2.1
  unfold gaw
  omega
theorem q_aw {G : gG} {S : gS} {X : cX} {ν : ax_M} (hg : hGok G) (hi : hI G S 0) (hν : cI 29 G S X ν) : aJ 1153 [.ref 29] [] ν = some (some (.int (zI (gaw G S))), ν) := by
  have h1 := hg.1
  have h2 := hg.2.1
  have key : ∀ m l : Nat, l + m = (gN G).toNat → aJ 1154 [.ref 29, .int (zI (pct (fun n => gnd S n 0 ≠ 0) (fun _ => inferInstance) l)), .int (zI l)] [] ν = some (some (.int (zI (gaw G S))), ν) := by
    intro m
    induction m with
    | zero =>
      intro l hl
      rw [jl_1154, q_N hν (Or.inl rfl)]
      simp (disch := omega) only [p_le]
      rw [if_pos (by omega), jl_1157]
      unfold gaw
      rw [show (gN G).toNat = l by omega]
    | succ m ih =>
      intro l hl
      have ih' := ih (l + 1) (by omega)
      have hst := h_nd hi l
      simp only [pct] at ih'
      rw [jl_1154, q_N hν (Or.inl rfl)]
      simp (disch := omega) only [zI_lit, p_le, q_of hν (Or.inl rfl), z_b1, p_eq]
      rw [if_neg (by omega)]
      by_cases q : gnd S l 0 = 0
      · rw [if_neg (fun z => z q)] at ih'
        rw [if_pos q, jl_1156]
        simp only [zI_lit, zI_add]
        exact ih'
      · rw [if_pos q] at ih'
        rw [if_neg q, jl_1155, jl_1156]
        simp only [zI_lit, zI_add]
        exact ih'
  rw [jl_1153]
  exact key (gN G).toNat 0 (by omega)
theorem q_raw {G : gG} {S : gS} {ν : ax_M} (hg : hGok G) (hi : hI G S 0) (hν : mI G S ν) : aJ 428 [.ref 207] [] ν = some (some (.int (zI (gaw G S))), ν) := by
  have h1 := hg.1
  have h2 := hg.2.1
  have key : ∀ m l : Nat, l + m = (gN G).toNat → aJ 429 [.ref 207, .int (zI (pct (fun n => gnd S n 0 ≠ 0) (fun _ => inferInstance) l)), .int (zI l)] [] ν = some (some (.int (zI (gaw G S))), ν) := by
    intro m
    induction m with
    | zero =>
      intro l hl
      rw [jl_429]
      simp (disch := omega) only [zI_lit, q_rN hν, z_bo, p_le]
      rw [if_pos (by omega), jl_431]
      unfold gaw
      rw [show (gN G).toNat = l by omega]
    | succ m ih =>
      intro l hl
      have ih' := ih (l + 1) (by omega)
      have hst := h_nd hi l
      simp only [pct] at ih'
      rw [jl_429]
      simp (disch := omega) only [zI_lit, q_rN hν, z_bo, p_le, q_nd hν, z_b1, p_eq, jl_430, zI_add]
      rw [if_neg (by omega)]
      by_cases q : gnd S l 0 = 0
      · rw [if_neg (fun z => z q)] at ih'
        rw [if_pos q]
        exact ih'
      · rw [if_pos q] at ih'
        rw [if_neg q]
        exact ih'
  rw [jl_428]
  exact key (gN G).toNat 0 (by omega)
theorem gaw_0 {G : gG} {S : gS} (hz : hZ G S) (h : gaw G S = 0) : S = gas := by
  rcases hz with q | ⟨n, n0, n1, n2⟩
  · exact q
  · have := pct_pos (P := fun n => gnd S n 0 ≠ 0) (D := fun _ => inferInstance) (m := (gN G).toNat) n0 (by omega) n2
    unfold gaw at h
    omega
theorem hGok_W {G : gG} {W : Int → Int} (h : hGok G) : hGok (gGW G W) := h
theorem pOK_wt {G : gG} {U : List gU} {K : qK} {W : Int → Int} (hp : pOK G gas U K) (hW : ∀ e, 0 ≤ e → e < gE G → 1 ≤ W e ∧ W e ≤ 99) : pOK (gGW G W) gas (pushU U (gwt G, gas)) K := by
  obtain ⟨a1, a2, a3, a4, a5, a6, a7, a8⟩ := hp
  refine ⟨a1, hW, hV_gas (hGok_W a1), Or.inl rfl, ?_, uOKx_push a6 a2, a7, a8⟩
  have := push_OK (e := (gwt G, gas)) a5 ⟨a3, hGx_w a2, a4⟩
  exact this
theorem q_weigh {G : gG} {S : gS} {U : List gU} {K : qK} (hp : pOK G S U K) (a b : Int32) : qCl G S U K 709 432 [.ref 0, .int a, .int b] [.ref 207, .int a, .int b] := by
  obtain ⟨e, he, rfl⟩ := zI_of a
  obtain ⟨w, hwr, rfl⟩ := zI_of b
  have hg := hp.1
  have hw := hGx_w hp.2.1
  have hK := hp.2.2.2.2.2.2.1.1
  have hv := hp.2.2.1
  have hE := hg.2.2.2.1
  have hE0 := hg.2.2.1
  have ha := gaw_le (S := S) hg
  obtain ⟨wr1, wr2⟩ := hwr
  by_cases c : 0 ≤ e ∧ e < gE G
  · have hd : decide (0 ≤ e ∧ e < gE G) = true := by simp [c]
    by_cases cw : 1 ≤ w ∧ w ≤ 99
    · have hdw : decide (1 ≤ w ∧ w ≤ 99) = true := by simp [cw]
      have hwt := hp.2.1 e c.1 c.2
      by_cases s : gaw G S = 0
      · have hS := gaw_0 hp.2.2.2.1 s
        by_cases sw : gwt G e = w
        · refine ⟨zI 2, G, S, U, K, hp, ?_, ?_⟩
          · intro ν hi
            obtain ⟨⟨X, x1, x2⟩, _, _⟩ := iC_R hp.2.2.1 hi
            have hwo := q_wO x1 (Or.inl rfl) c.1 ⟨by omega, wt_ne hw c.1 c.2⟩
            refine ⟨ν, ?_, hi, frC_z⟩
            rw [jl_709, q_ie hg x1 he, z_b1, hd, if_neg (by decide)]
            simp (disch := omega) only [zI_lit, p_lt, p_le]
            rw [if_neg (by omega), if_pos (by omega), jl_711, q_aw hg hv.1 x1, z_b1]
            simp (disch := omega) only [zI_lit, p_le]
            rw [if_pos (by omega), jl_712, hwo, z_b1]
            simp (disch := omega) only [p_eq]
            rw [if_pos sw]
            rfl
          · intro ν hi
            obtain ⟨ν0, e0, hi0, f0⟩ := iM_th hK hi
            obtain ⟨m1, _, _⟩ := id hi0
            refine ⟨ν0, ?_, hi0, f0⟩
            rw [jl_432, ← e0, q_rie hg m1 he, z_b1, hd, if_neg (by decide)]
            rw [show (1 : Int32) = zI 1 from rfl, show (99 : Int32) = zI 99 from rfl, mz_isIn ⟨wr1, wr2⟩ (zR_of (by omega)) (zR_of (by omega)), z_b1, hdw, if_neg (by decide), jl_434, q_raw hg hv.1 m1, z_b1, j_le rfl zl0 (zR_of (by omega)) (zR_of (by omega)), if_pos (by omega), jl_435]
            simp (disch := omega) only [zI_lit, zI_add, ld_209, q_rwt m1, z_bo, p_eq]
            rw [if_pos sw]
        · subst hS
          have hW : ∀ i, 0 ≤ i → i < gE G → 1 ≤ pu (gwt G) e w i ∧ pu (gwt G) e w i ≤ 99 := by
            intro i i0 i1
            by_cases q : i = e
            · rw [q, pu_at]; exact cw
            · rw [pu_ne q]; exact hp.2.1 i i0 i1
          refine ⟨zI 0, gGW G (pu (gwt G) e w), gas, pushU U (gwt G, gas), K, pOK_wt hp hW, ?_, ?_⟩
          · intro ν hi
            obtain ⟨⟨X, x1, x2⟩, _, _⟩ := iC_R hp.2.2.1 hi
            have hwo := q_wO x1 (Or.inl rfl) c.1 ⟨by omega, wt_ne hw c.1 c.2⟩
            obtain ⟨ν1, b1, b2, b3⟩ := note_ok hp hi
            obtain ⟨⟨X1, y1, y2⟩, _, _⟩ := id b2
            have f1 : fr [30] ν1 (ax_up ν1.1 30 e.toNat (zI w), ν1.2) := fru (by decide)
            obtain ⟨p1, p2⟩ := cI_cP (Or.inl rfl) y1
            have p1' : cP 29 (pu (gwt G) e w) gas X1 (ax_up ν1.1 30 e.toNat (zI w), ν1.2) := by
              obtain ⟨a1, a2, a3, a4, a5, a6, a7, a8, a9, a10, a11, a12, rest⟩ := p1
              have k : ∀ a, a ≠ 30 → (ax_up ν1.1 30 e.toNat (zI w)) a = ν1.1 a := fun a ha => funext fun j => up_ne ha
              unfold cP wP rP at *
              simp only [k 29 (by decide), k (29 + 2) (by decide), k (29 + 3) (by decide), k (29 + 4) (by decide), k (29 + 5) (by decide), k (29 + 6) (by decide), k (29 + 7) (by decide), k (29 + 9) (by decide), k (29 + 10) (by decide)]
              exact ⟨fun i i0 i1 i2 => by
                by_cases q : i = e
                · rw [q, pu_at]
                  exact up_at
                · rw [pu_ne q] at i2 ⊢
                  exact (up_nk (by omega)).trans (a1 i i0 i1 i2), a2, a3, a4, a5, a6, a7, a8, a9, a10, a11, a12, rest⟩
            have hc := cP_cI (Or.inl rfl) p1' (tI_fr f1 (by decide) (by decide) p2)
            have b2' := iN_st (G := G) (G' := gGW G (pu (gwt G) e w)) (fun _ _ h => h) f1 (by intro a ha; simp at ha; omega) (fr_at f1 (by decide) 0) hc y2 b2
            obtain ⟨ν3, e1, e2, e3⟩ := keep_ok (G := gGW G (pu (gwt G) e w)) hp.2.2.2.2.1 b2'
            refine ⟨ν3, ?_, e2, frC_t b3 (frC_t (frC_of f1 (by decide)) e3)⟩
            rw [jl_709, q_ie hg x1 he, z_b1, hd, if_neg (by decide)]
            simp (disch := omega) only [zI_lit, p_lt, p_le]
            rw [if_neg (by omega), if_pos (by omega), jl_711, q_aw hg hv.1 x1, z_b1]
            simp (disch := omega) only [zI_lit, p_le]
            rw [if_pos (by omega), jl_712, hwo, z_b1]
            simp (disch := omega) only [p_eq]
            rw [if_neg sw, jl_713, b1, z_b0]
            simp (disch := omega) only [pt_30, z_b0]
            rw [e1, z_b0]
            rfl
          · intro ν hi
            obtain ⟨ν0, e0, hi0, f0⟩ := iM_th hK hi
            obtain ⟨m1, _, _⟩ := id hi0
            obtain ⟨ν1, b1, b2, b3⟩ := snap_ok hp hi0
            have f1 : fr [209] ν1 (ax_up ν1.1 209 (173 + e).toNat (zI w), ν1.2) := fru (by decide)
            have hs := mI_sP b2.1
            have hm' : mI (gGW G (pu (gwt G) e w)) gas (ax_up ν1.1 209 (173 + e).toNat (zI w), ν1.2) := by
              refine sP_mI ?_ ?_
              · obtain ⟨n1, n2, n3, n4⟩ := hs.2
                refine ⟨(up_nk (by omega)).trans n1, (up_nk (by omega)).trans n2, fun i i0 i1 => (up_nk (by omega)).trans (n3 i i0 i1), fun i i0 i1 => (up_nk (by omega)).trans (n4 i i0 i1)⟩
              · obtain ⟨s1, s2, s3, s4, s5, s6, s7⟩ := hs.1
                refine ⟨?_, fun i i0 i1 => (up_nk (by omega)).trans (s2 i i0 i1), fun n f n0 n1 f0 f1 => (up_nk (by omega)).trans (s3 n f n0 n1 f0 f1), (up_nk (by omega)).trans s4, (up_nk (by omega)).trans s5, (up_nk (by omega)).trans s6, fun k f k0 k1 f0 f1 => (up_nk (by omega)).trans (s7 k f k0 k1 f0 f1)⟩
                intro i i0 i1
                by_cases q : i = e
                · rw [q, pu_at]
                  exact up_at
                · rw [pu_ne q]
                  exact (up_nk (by omega)).trans (s1 i i0 i1)
            refine ⟨_, ?_, iM_st f1 (by simp) (fun k _ _ => fr_at f1 (by decide) k) (fun k k0 k1 => up_nk (by omega)) hK hm' b2, frM_t f0 (frM_t b3 (frM_of f1 (by simp)))⟩
            rw [jl_432, ← e0, q_rie hg m1 he, z_b1, hd, if_neg (by decide)]
            rw [show (1 : Int32) = zI 1 from rfl, show (99 : Int32) = zI 99 from rfl, mz_isIn ⟨wr1, wr2⟩ (zR_of (by omega)) (zR_of (by omega)), z_b1, hdw, if_neg (by decide), jl_434, q_raw hg hv.1 m1, z_b1, j_le rfl zl0 (zR_of (by omega)) (zR_of (by omega)), if_pos (by omega), jl_435]
            simp (disch := omega) only [zI_lit, zI_add, ld_209, q_rwt m1, z_bo, p_eq]
            rw [if_neg sw, jl_436]
            simp only [show zI 0 = (0 : Int32) from rfl]
            rw [b1, z_b0]
            simp (disch := omega) only [zI_lit, zI_add, st_209, z_bo]
      · refine ⟨zI 1, G, S, U, K, hp, ?_, ?_⟩
        · intro ν hi
          obtain ⟨⟨X, x1, x2⟩, _, _⟩ := iC_R hp.2.2.1 hi
          refine ⟨ν, ?_, hi, frC_z⟩
          rw [jl_709, q_ie hg x1 he, z_b1, hd, if_neg (by decide)]
          simp (disch := omega) only [zI_lit, p_lt, p_le]
          rw [if_neg (by omega), if_pos (by omega), jl_711, q_aw hg hv.1 x1, z_b1]
          simp (disch := omega) only [zI_lit, p_le]
          rw [if_neg (by omega)]
        · intro ν hi
          obtain ⟨ν0, e0, hi0, f0⟩ := iM_th hK hi
          obtain ⟨m1, _, _⟩ := id hi0
          refine ⟨ν0, ?_, hi0, f0⟩
          rw [jl_432, ← e0, q_rie hg m1 he, z_b1, hd, if_neg (by decide)]
          rw [show (1 : Int32) = zI 1 from rfl, show (99 : Int32) = zI 99 from rfl, mz_isIn ⟨wr1, wr2⟩ (zR_of (by omega)) (zR_of (by omega)), z_b1, hdw, if_neg (by decide), jl_434, q_raw hg hv.1 m1, z_b1, j_le rfl zl0 (zR_of (by omega)) (zR_of (by omega)), if_neg (by omega)]
          rfl
    · have hdw : decide (1 ≤ w ∧ w ≤ 99) = false := by simp; omega
      refine ⟨zI (-1), G, S, U, K, hp, ?_, ?_⟩
      · intro ν hi
        obtain ⟨⟨X, x1, x2⟩, _, _⟩ := iC_R hp.2.2.1 hi
        refine ⟨ν, ?_, hi, frC_z⟩
        rw [jl_709, q_ie hg x1 he, z_b1, hd, if_neg (by decide)]
        simp (disch := omega) only [zI_lit, p_lt, p_le]
        by_cases d : w < 1
        · rw [if_pos d, jl_710]
          rfl
        · rw [if_neg d, if_neg (by omega), jl_710]
          rfl
      · intro ν hi
        obtain ⟨ν0, e0, hi0, f0⟩ := iM_th hK hi
        obtain ⟨m1, _, _⟩ := id hi0
        refine ⟨ν0, ?_, hi0, f0⟩
        rw [jl_432, ← e0, q_rie hg m1 he, z_b1, hd, if_neg (by decide)]
        rw [show (1 : Int32) = zI 1 from rfl, show (99 : Int32) = zI 99 from rfl, mz_isIn ⟨wr1, wr2⟩ (zR_of (by omega)) (zR_of (by omega)), z_b1, hdw, if_pos (by decide), jl_433]
        rfl
  · have hd : decide (0 ≤ e ∧ e < gE G) = false := by simp; omega
    refine ⟨zI (-1), G, S, U, K, hp, ?_, ?_⟩
    · intro ν hi
      obtain ⟨⟨X, x1, x2⟩, _, _⟩ := iC_R hp.2.2.1 hi
      refine ⟨ν, ?_, hi, frC_z⟩
      rw [jl_709, q_ie hg x1 he, z_b1, hd, if_pos (by decide), jl_710]
      rfl
    · intro ν hi
      obtain ⟨ν0, e0, hi0, f0⟩ := iM_th hK hi
      obtain ⟨m1, _, _⟩ := id hi0
      refine ⟨ν0, ?_, hi0, f0⟩
      rw [jl_432, ← e0, q_rie hg m1 he, z_b1, hd, if_pos (by decide), jl_433]
      rfl
