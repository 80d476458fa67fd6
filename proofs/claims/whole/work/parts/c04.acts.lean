/-! j: more acts -/
theorem pOK_go {G : gG} {S S' : gS} {U : List gU} {K : qK} (hp : pOK G S U K) (hv : hV G S') (hz : hZ G S') : pOK G S' U K := by
  obtain ⟨a1, a2, a3, a4, a5, a6, a7, a8⟩ := hp
  exact ⟨a1, a2, hv, hz, a5, a6, a7, a8⟩
theorem q_again {G : gG} {S : gS} {U : List gU} {K : qK} (hp : pOK G S U K) : qCl G S U K 714 437 [.ref 0] [.ref 207] := by
  have hg := hp.1
  have hK := hp.2.2.2.2.2.2.1.1
  have hv := hp.2.2.1
  have ha := gaw_le (S := S) hg
  by_cases s : gaw G S = 0
  · refine ⟨zI 1, G, S, U, K, hp, ?_, ?_⟩
    · intro ν hi
      obtain ⟨⟨X, x1, x2⟩, _, _⟩ := iC_R hp.2.2.1 hi
      refine ⟨ν, ?_, hi, frC_z⟩
      rw [jl_714, q_aw hg hv.1 x1, z_b1, j_eq rfl zl0 (zR_of (by omega)) (zR_of (by omega)), if_pos (by omega)]
      rfl
    · intro ν hi
      obtain ⟨ν0, e0, hi0, f0⟩ := iM_th hK hi
      obtain ⟨m1, _, _⟩ := id hi0
      refine ⟨ν0, ?_, hi0, f0⟩
      rw [jl_437, ← e0, q_raw hg hv.1 m1, z_b1, j_eq rfl zl0 (zR_of (by omega)) (zR_of (by omega)), if_pos (by omega)]
      rfl
  · refine ⟨zI 0, G, gas, pushU U (gwt G, S), K, pOK_act hp (hV_gas hg) (Or.inl rfl), ?_, ?_⟩
    · intro ν hi
      obtain ⟨⟨X, x1, x2⟩, _, _⟩ := iC_R hp.2.2.1 hi
      obtain ⟨ν1, b1, b2, b3⟩ := note_ok hp hi
      obtain ⟨⟨X1, y1, y2⟩, _, _⟩ := id b2
      obtain ⟨p1, p2⟩ := cI_cP (Or.inl rfl) y1
      obtain ⟨ν2, d1, d2, d3⟩ := q_lay (o := 29) (Or.inl rfl) p1.1
      have hc := cP_cI (Or.inl rfl) d2 (tI_fr d3 (by decide) (by decide) p2)
      rw [GW_id] at hc
      have b2' := iN_st (fun _ _ h => h) d3 (by intro a ha; simp [cOL] at ha; omega) (fr_at d3 (by decide) 0) hc XR_gas b2
      obtain ⟨ν3, e1, e2, e3⟩ := keep_ok hp.2.2.2.2.1 b2'
      refine ⟨ν3, ?_, e2, frC_t b3 (frC_t (frC_of d3 (by decide)) e3)⟩
      rw [jl_714, q_aw hg hv.1 x1, z_b1, j_eq rfl zl0 (zR_of (by omega)) (zR_of (by omega)), if_neg (by omega), jl_715, b1, z_b0, d1, z_b0, e1, z_b0]
      rfl
    · intro ν hi
      obtain ⟨ν0, e0, hi0, f0⟩ := iM_th hK hi
      obtain ⟨m1, _, _⟩ := id hi0
      obtain ⟨ν1, b1, b2, b3⟩ := snap_ok hp hi0
      obtain ⟨ν2, d1, d2, d3, d4⟩ := q_sto b2.1
      refine ⟨ν2, ?_, iM_st d3 (by simp) (fun k _ _ => fr_at d3 (by decide) k) d4 hK d2 b2, frM_t f0 (frM_t b3 (frM_of d3 (by simp)))⟩
      rw [jl_437, ← e0, q_raw hg hv.1 m1, z_b1, j_eq rfl zl0 (zR_of (by omega)) (zR_of (by omega)), if_neg (by omega), jl_438, b1, z_b0, d1, z_b0]
      rfl
theorem q_undo {G : gG} {S : gS} {U : List gU} {K : qK} (hp : pOK G S U K) : qCl G S U K 716 439 [.ref 0] [.ref 207] := by
  have hg := hp.1
  have hK := hp.2.2.2.2.2.2.1.1
  cases U with
  | nil =>
    refine ⟨zI (-1), G, S, [], K, hp, ?_, ?_⟩
    · intro ν hi
      obtain ⟨_, ⟨top, b1, b2, b3, b4, b5⟩, _⟩ := id hi
      refine ⟨ν, ?_, hi, frC_z⟩
      rw [jl_716, b4, if_neg (by decide)]
      rfl
    · intro ν hi
      obtain ⟨ν0, e0, hi0, f0⟩ := iM_th hK hi
      obtain ⟨_, ⟨u1, u2⟩, _⟩ := id hi0
      refine ⟨ν0, ?_, hi0, f0⟩
      rw [jl_439, ← e0, u1, if_pos (by decide)]
      rfl
  | cons e0 U =>
    obtain ⟨a1, a2, a3, a4, a5, a6, a7, a8⟩ := hp
    have h0 := a5.2 e0 (by simp)
    have hU' : uOK G U := ⟨by have := a5.1; simp only [List.length_cons] at this; omega, fun e he => a5.2 e (by simp [he])⟩
    have hp' : pOK (gGW G e0.1) e0.2 U K := ⟨a1, a6 e0 (by simp), h0.1, h0.2.2, hU', fun e he => a6 e (by simp [he]), a7, a8⟩
    refine ⟨zI (U.length : Nat), gGW G e0.1, e0.2, U, K, hp', ?_, ?_⟩
    · intro ν hi
      obtain ⟨⟨X, x1, x2⟩, hu, hj⟩ := id hi
      obtain ⟨ν', X', b1, b2, b3, b4, b5, b6⟩ := q_und hg a5 hu
      have ht := (cI_cP (Or.inl rfl) x1).2
      have hc := cP_cI (Or.inl rfl) b3 (tI_fr b5 (by decide) (by decide) ht)
      refine ⟨ν', b1, ⟨⟨X', hc, Or.inl b4⟩, b2, jC_fr b5 (by intro a ha; simp [cOL] at ha; unfold jCs; omega) (fr_at b5 (by decide) 0) (b6 1 (by decide) (by decide)) (b6 15 (by decide) (by decide)) (b6 16 (by decide) (by decide)) hj⟩, frC_of b5 (by decide)⟩
    · intro ν hi
      obtain ⟨m1, m2, m3⟩ := id hi
      obtain ⟨ν', b1, b2, b3, b4, b5, b6⟩ := q_rund hg a5 m1 m2
      exact ⟨ν', b1, ⟨b3, b2, jM_fr b4 (by intro a ha; simp at ha; unfold jMs; omega) (fun k hk => b6 k (by omega) (by omega)) b5 hK m3⟩, frM_of b4 (by intro a ha; simp at ha; omega)⟩
/-! rounds -/
def hrsS (G : gG) : Nat → gS → gS
  | 0, S => S
  | m + 1, S => if nWh S 0 = 0 then S else hrsS G m (hro G S)
def hrsT (G : gG) : Nat → gS → Int
  | 0, _ => 0
  | m + 1, S => if nWh S 0 = 0 then 0 else hrt G S + hrsT G m (hro G S)
theorem hrt_r {G : gG} {S : gS} (hg : hGok G) (hv : hV G S) : 0 ≤ hrt G S ∧ hrt G S ≤ 15360 := by
  have hE := hg.2.2.2.1
  have hcn := h_cnt hg hv.1 (by omega)
  have := hsm_r (c := nOn S) (fun v => by have := nOn_le (S := S) (w := v); omega) (2 * gE G).toNat 0
  unfold hrt
  omega
theorem rs_ok {G : gG} (hg : hGok G) (hw : hGw G) : ∀ (m : Nat) (S : gS), hV G S → hZ G S → hV G (hrsS G m S) ∧ hZ G (hrsS G m S) ∧ 0 ≤ hrsT G m S ∧ hrsT G m S ≤ 15360 * m := by
  intro m
  induction m with
  | zero => exact fun S hv hz => ⟨hv, hz, Int.le_refl _, by show (0 : Int) ≤ 15360 * ((0 : Nat) : Int); omega⟩
  | succ m ih =>
    intro S hv hz
    unfold hrsS hrsT
    have hr := hrt_r hg hv
    by_cases q : nWh S 0 = 0
    · rw [if_pos q, if_pos q]
      exact ⟨hv, hz, Int.le_refl _, by omega⟩
    · rw [if_neg q, if_neg q]
      have h1 := ro_ok hg hw hv
      have hL : 0 < gnL S := by
        have : nWh S 0 ≤ (gnL S).toNat := pct_le
        omega
      obtain ⟨i1, i2, i3, i4⟩ := ih _ h1.1 (h1.2 hL)
      exact ⟨i1, i2, by omega, by omega⟩
theorem q_rs1 {G : gG} {n : Int} (hg : hGok G) (hw : hGw G) (hn : n ≤ 20) : ∀ (m : Nat) (S : gS) (X : cX) (ν : ax_M) (t i : Int), hV G S → hZ G S → XR G S X → cI 29 G S X ν → 0 ≤ i → i + m = n → 0 ≤ t → t ≤ 15360 * i → ∃ X' ν', aJ 701 [.ref 0, .int (zI n), .int (zI t), .int (zI i)] [] ν = aJ 702 [.ref 0, .int (zI (t + hrsT G m S))] [] ν' ∧ cI 29 G (hrsS G m S) X' ν' ∧ XR G (hrsS G m S) X' ∧ fr (37 :: cOL 29) ν ν' := by
  intro m
  induction m with
  | zero =>
    intro S X ν t i hv hz hx hν i0 i1 t0 t1
    refine ⟨X, ν, ?_, hν, hx, frz⟩
    rw [jl_701]
    simp (disch := omega) only [p_le]
    rw [if_pos (by omega)]
    unfold hrsT
    rw [show t + 0 = t by omega]
  | succ m ih =>
    intro S X ν t i hv hz hx hν i0 i1 t0 t1
    have hcn := h_cnt hg hv.1 (by omega)
    have h12 := q_fow hν (Or.inl rfl)
    have hx8 : xow X = nWh S 0 := hx.2.2.2.2.2.2.2.1.1
    have hnw : nWh S 0 ≤ (gnL S).toNat := pct_le
    have hr := hrt_r hg hv
    rw [jl_701, h12, hx8]
    simp (disch := omega) only [zI_lit, p_le]
    rw [if_neg (by omega)]
    unfold hrsT hrsS
    by_cases q : nWh S 0 = 0
    · refine ⟨X, ν, ?_, by rw [if_pos q]; exact hν, by rw [if_pos q]; exact hx, frz⟩
      rw [if_pos (by omega), if_pos q, show t + 0 = t by omega]
    · have h1 := ro_ok hg hw hv
      obtain ⟨X1, ν1, a1, a2, a3, a4⟩ := q_mk hg hw hv hx hν
      obtain ⟨X2, ν2, b1, b2, b3, b4⟩ := ih (hro G S) X1 ν1 (t + hrt G S) (i + 1) h1.1 (h1.2 (by omega)) a3 a2 (by omega) (by omega) (by omega) (by omega)
      refine ⟨X2, ν2, ?_, by rw [if_neg q]; exact b2, by rw [if_neg q]; exact b3, frt a4 b4⟩
      rw [if_neg (by omega), a1, z_b1, zI_add, zI_add, b1, if_neg q, show t + hrt G S + hrsT G m (hro G S) = t + (hrt G S + hrsT G m (hro G S)) by omega]
theorem q_rrs {G : gG} {n : Int} (hg : hGok G) (hw : hGw G) (hn : n ≤ 20) : ∀ (m : Nat) (S : gS) (ν : ax_M) (t i : Int), hV G S → hZ G S → mI G S ν → 0 ≤ i → i + m = n → 0 ≤ t → t ≤ 15360 * i → ∃ ν', aJ 419 [.ref 207, .int (zI n), .int (zI t), .int (zI i)] [] ν = aJ 420 [.ref 207, .int (zI (t + hrsT G m S))] [] ν' ∧ mI G (hrsS G m S) ν' ∧ fr [209, 220] ν ν' ∧ bgR ν ν' := by
  intro m
  induction m with
  | zero =>
    intro S ν t i hv hz hν i0 i1 t0 t1
    refine ⟨ν, ?_, hν, frz, bgz⟩
    rw [jl_419]
    simp (disch := omega) only [p_le]
    rw [if_pos (by omega)]
    unfold hrsT
    rw [show t + 0 = t by omega]
  | succ m ih =>
    intro S ν t i hv hz hν i0 i1 t0 t1
    have hr := hrt_r hg hv
    have hcn := h_cnt hg hv.1 (by omega)
    have hnw : nWh S 0 ≤ (gnL S).toNat := pct_le
    rw [jl_419]
    simp (disch := omega) only [p_le]
    rw [if_neg (by omega), q_qt hν hg hv, z_b1, i_P]
    unfold hrsT hrsS
    by_cases q : nWh S 0 = 0
    · refine ⟨ν, ?_, by rw [if_pos q]; exact hν, frz, bgz⟩
      rw [if_pos q, if_pos q, show t + 0 = t by omega]
    · have h1 := ro_ok hg hw hv
      obtain ⟨ν1, a1, a2, a3, a4⟩ := q_rro hg hw hv hν
      obtain ⟨ν2, b1, b2, b3, b4⟩ := ih (hro G S) ν1 (t + hrt G S) (i + 1) h1.1 (h1.2 (by omega)) a2 (by omega) (by omega) (by omega) (by omega)
      refine ⟨ν2, ?_, by rw [if_neg q]; exact b2, frt a3 b3, bgt a4 b4⟩
      rw [if_neg q, a1, z_b1, zI_add, show zI i + 1 = zI (i + 1) from zI_a1 i, b1, if_neg q, show t + hrt G S + hrsT G m (hro G S) = t + (hrt G S + hrsT G m (hro G S)) by omega]
/-- an act with a count: kept if the count is above 0 -/
def pUn (U : List gU) (e : gU) (t : Int) : List gU := if 0 < t then pushU U e else U
theorem pOK_un {G : gG} {S S' : gS} {U : List gU} {K : qK} {t : Int} (hp : pOK G S U K) (hv : hV G S') (hz : hZ G S') : pOK G S' (pUn U (gwt G, S) t) K := by
  unfold pUn
  split
  · exact pOK_act hp hv hz
  · exact pOK_go hp hv hz
/-- the reference's end of such an act -/
theorem stay_ok {G : gG} {S S0 : gS} {U : List gU} {K : qK} {ν : ax_M} {t : Int} (hp : pOK G S0 U K) (hv : hV G S) (ht : tP (gwt G) S0 ν) (hi : iM G S U K ν) (t0 : 0 ≤ t) : ∃ ν', aJ 409 [.ref 207, .int (zI (if 0 < t then 1 else 0))] [] ν = some (none, ν') ∧ iM G S (pUn U (gwt G, S0) t) K ν' ∧ frM ν ν' := by
  obtain ⟨m1, m2, m3⟩ := id hi
  unfold pUn
  by_cases q : 0 < t
  · rw [if_pos q, if_pos q]
    obtain ⟨ν', a1, a2, a3, a4, a5, a6⟩ := q_stay hp.1 hv hp.2.2.1 hp.2.2.2.2.1 m1 ht m2
    exact ⟨ν', a1, ⟨a3, a2, jM_fr a4 (by intro a ha; simp at ha; unfold jMs; omega) (fun k hk => a6 k (by omega)) a5 hp.2.2.2.2.2.2.1.1 m3⟩, frM_of a4 (by intro a ha; simp at ha; omega)⟩
  · rw [if_neg q, if_neg q]
    exact ⟨ν, q_st0, hi, frM_z⟩
theorem svT_ok {G : gG} {S : gS} {U : List gU} {K : qK} {ν : ax_M} (hp : pOK G S U K) (hi : iM G S U K ν) : ∃ ν', aJ 399 [.ref 207, .ref 214, .int (zI 0)] [] ν = some (none, ν') ∧ tP (gwt G) S ν' ∧ iM G S U K ν' ∧ frM ν ν' ∧ fr [214] ν ν' := by
  have hL := pOK_L hp
  obtain ⟨ν', a1, a2, a3⟩ := q_svT (by omega) hi.1
  exact ⟨ν', a1, a2, iM_st a3 (by simp) (fun k _ _ => fr_at a3 (by decide) k) (bgf a3 (by decide)) hp.2.2.2.2.2.2.1.1 (mI_fr a3 (by decide) hi.1) hi, frM_of a3 (by simp), a3⟩
theorem q_rounds {G : gG} {S : gS} {U : List gU} {K : qK} (hp : pOK G S U K) (a : Int32) : qCl G S U K 698 417 [.ref 0, .int a] [.ref 207, .int a] := by
  obtain ⟨n, hn, rfl⟩ := zI_of a
  have hg := hp.1
  have hw := hGx_w hp.2.1
  have hK := hp.2.2.2.2.2.2.1.1
  have hv := hp.2.2.1
  have hz := hp.2.2.2.1
  obtain ⟨n1, n2⟩ := hn
  by_cases c : 1 ≤ n ∧ n ≤ 20
  · have hd : decide (1 ≤ n ∧ n ≤ 20) = true := by simp [c]
    obtain ⟨r1, r2, r3, r4⟩ := rs_ok hg hw n.toNat S hv hz
    refine ⟨zI (hrsT G n.toNat S), G, hrsS G n.toNat S, pUn U (gwt G, S) (hrsT G n.toNat S), K, pOK_un hp r1 r2, ?_, ?_⟩
    · intro ν hi
      obtain ⟨ν1, b1, b2, b3⟩ := note_ok hp hi
      obtain ⟨⟨X1, y1, y2⟩, _, _⟩ := id b2
      obtain ⟨X2, ν2, d1, d2, d3, d4⟩ := q_rs1 hg hw c.2 n.toNat S X1 ν1 0 0 hv hz y2 y1 (by omega) (by omega) (by omega) (by omega)
      rw [show (0 : Int) + hrsT G n.toNat S = hrsT G n.toNat S by omega] at d1
      have b2' := iN_st (fun _ _ h => h) d4 (by intro a ha; simp [cOL] at ha; omega) (fr_at d4 (by decide) 0) d2 d3 b2
      have hst : aJ 698 [.ref 0, .int (zI n)] [] ν = aJ 702 [.ref 0, .int (zI (hrsT G n.toNat S))] [] ν2 := by
        rw [jl_698]
        simp (disch := omega) only [zI_lit, p_lt, p_le]
        rw [if_neg (by omega), if_pos (by omega), jl_700, b1, z_b0]
        simp only [zI_lit]
        exact d1
      unfold pUn
      by_cases q : 0 < hrsT G n.toNat S
      · obtain ⟨ν3, e1, e2, e3⟩ := keep_ok hp.2.2.2.2.1 b2'
        refine ⟨ν3, ?_, by rw [if_pos q]; exact e2, frC_t b3 (frC_t (frC_of d4 (by decide)) e3)⟩
        rw [hst, jl_702]
        simp (disch := omega) only [zI_lit, p_le]
        rw [if_neg (by omega), e1, z_b0, jl_703]
      · refine ⟨ν2, ?_, by rw [if_neg q]; exact drop_ok b2', frC_t b3 (frC_of d4 (by decide))⟩
        rw [hst, jl_702]
        simp (disch := omega) only [zI_lit, p_le]
        rw [if_pos (by omega), jl_703]
    · intro ν hi
      obtain ⟨ν0, e0, hi0, f0⟩ := iM_th hK hi
      obtain ⟨ν1, b1, b2, b3, b4, b5⟩ := svT_ok hp hi0
      obtain ⟨ν2, d1, d2, d3, d4⟩ := q_rrs hg hw c.2 n.toNat S ν1 0 0 hv hz b3.1 (by omega) (by omega) (by omega) (by omega)
      rw [show (0 : Int) + hrsT G n.toNat S = hrsT G n.toNat S by omega] at d1
      have b3' := iM_st d3 (by intro a ha; simp at ha; omega) (fun k _ _ => fr_at d3 (by decide) k) d4 hK d2 b3
      obtain ⟨ν3, e1, e2, e3⟩ := stay_ok hp r1 (tP_fr d3 (by decide) b2) b3' r3
      refine ⟨ν3, ?_, e2, frM_t f0 (frM_t b4 (frM_t (frM_of d3 (by intro a ha; simp at ha; omega)) e3))⟩
      have hst : aJ 417 [.ref 207, .int (zI n)] [] ν = aJ 420 [.ref 207, .int (zI (hrsT G n.toNat S))] [] ν2 := by
        rw [jl_417, ← e0, show (1 : Int32) = zI 1 from rfl, show (20 : Int32) = zI 20 from rfl, mz_isIn ⟨n1, n2⟩ (zR_of (by omega)) (zR_of (by omega)), z_b1, hd, if_neg (by decide), jl_418, show (0 : Int32) = zI 0 from rfl, b1, z_b0]
        exact d1
      rw [hst, jl_420]
      simp (disch := omega) only [zI_lit, p_le]
      by_cases q : 0 < hrsT G n.toNat S
      · rw [if_pos q] at e1
        rw [if_neg (by omega), jl_422, e1, z_b0]
      · rw [if_neg q] at e1
        rw [if_pos (by omega), jl_421, jl_422, show (0 : Int32) = zI 0 from rfl, e1, z_b0]
  · have hd : decide (1 ≤ n ∧ n ≤ 20) = false := by simp; omega
    refine ⟨zI (-1), G, S, U, K, hp, ?_, ?_⟩
    · intro ν hi
      refine ⟨ν, ?_, hi, frC_z⟩
      rw [jl_698]
      simp (disch := omega) only [zI_lit, p_lt, p_le]
      by_cases d : n < 1
      · rw [if_pos d, jl_699]
        rfl
      · rw [if_neg d, if_neg (by omega), jl_699]
        rfl
    · intro ν hi
      obtain ⟨ν0, e0, hi0, f0⟩ := iM_th hK hi
      refine ⟨ν0, ?_, hi0, f0⟩
      rw [jl_417, ← e0, show (1 : Int32) = zI 1 from rfl, show (20 : Int32) = zI 20 from rfl, mz_isIn ⟨n1, n2⟩ (zR_of (by omega)) (zR_of (by omega)), z_b1, hd, if_pos (by decide)]
      rfl
theorem q_steps {G : gG} {S : gS} {U : List gU} {K : qK} (hp : pOK G S U K) (a : Int32) : qCl G S U K 704 423 [.ref 0, .int a] [.ref 207, .int a] := by
  obtain ⟨n, hn, rfl⟩ := zI_of a
  have hg := hp.1
  have hw := hGx_w hp.2.1
  have hK := hp.2.2.2.2.2.2.1.1
  have hv := hp.2.2.1
  have hz := hp.2.2.2.1
  obtain ⟨n1, n2⟩ := hn
  by_cases c : 1 ≤ n ∧ n ≤ 250
  · have hd : decide (1 ≤ n ∧ n ≤ 250) = true := by simp [c]
    obtain ⟨r1, r2, r3⟩ := rS_ok (R := kR K) hg hw n.toNat S hv
    refine ⟨zI (hrN G (kR K) n.toNat S), G, hrS G (kR K) n.toNat S, pUn U (gwt G, S) (hrN G (kR K) n.toNat S), K, pOK_un hp r1 (r2 hz), ?_, ?_⟩
    · intro ν hi
      obtain ⟨ν1, b1, b2, b3⟩ := note_ok hp hi
      obtain ⟨⟨X1, y1, y2⟩, _, y3⟩ := id b2
      obtain ⟨X2, ν2, d1, d2, d3, d5, d4⟩ := q_tb (o := 29) (Or.inl rfl) hg hw hK (show 0 ≤ n by omega) (show n ≤ 1000 by omega) hv y2 y1 y3.1
      have b2' := iN_st (fun _ _ h => h) d4 (by intro a ha; simp [cOL, chL] at ha; omega) (d5.1.trans y3.1.1.symm) d2 d3 b2
      have hst : aJ 704 [.ref 0, .int (zI n)] [] ν = ax_b1 (some (some (.int (zI (hrN G (kR K) n.toNat S))), ν2)) fun v3 μ2 => if v3 ≤ 0 then aJ 707 [.int v3] [] μ2 else ax_b0 (aJ 828 [.ref 0] [] μ2) fun μ4 => aJ 707 [.int v3] [] μ4 := by
        rw [jl_704]
        simp (disch := omega) only [zI_lit, p_lt, p_le]
        rw [if_neg (by omega), if_pos (by omega), jl_706, b1, z_b0, d1]
        rfl
      unfold pUn
      by_cases q : (0 : Int) < hrN G (kR K) n.toNat S
      · obtain ⟨ν3, e1, e2, e3⟩ := keep_ok hp.2.2.2.2.1 b2'
        refine ⟨ν3, ?_, by rw [if_pos q]; exact e2, frC_t b3 (frC_t (frC_of d4 (by decide)) e3)⟩
        rw [hst, z_b1]
        simp (disch := omega) only [zI_lit, p_le]
        rw [if_neg (by omega), e1, z_b0, jl_707]
      · refine ⟨ν2, ?_, by rw [if_neg q]; exact drop_ok b2', frC_t b3 (frC_of d4 (by decide))⟩
        rw [hst, z_b1]
        simp (disch := omega) only [zI_lit, p_le]
        rw [if_pos (by omega), jl_707]
    · intro ν hi
      obtain ⟨ν0, e0, hi0, f0⟩ := iM_th hK hi
      obtain ⟨ν1, b1, b2, b3, b4, b5⟩ := svT_ok hp hi0
      obtain ⟨ν2, d1, d2, d6, d3, d4⟩ := q_rru hg hw hK (show 0 ≤ n by omega) (show n ≤ 1000 by omega) hv b3.1 b3.2.2.1
      have b3' := iM_st d3 (by intro a ha; simp [crL] at ha; omega) (fun k _ _ => fr_at d3 (by decide) k) d4 hK d2 b3
      obtain ⟨ν3, e1, e2, e3⟩ := stay_ok hp r1 (tP_fr d3 (by decide) b2) b3' (show (0 : Int) ≤ hrN G (kR K) n.toNat S by omega)
      refine ⟨ν3, ?_, e2, frM_t f0 (frM_t b4 (frM_t (frM_of d3 (by intro a ha; simp [crL] at ha; omega)) e3))⟩
      rw [jl_423, ← e0, show (1 : Int32) = zI 1 from rfl, show (250 : Int32) = zI 250 from rfl, mz_isIn ⟨n1, n2⟩ (zR_of (by omega)) (zR_of (by omega)), z_b1, hd, if_neg (by decide), jl_424, show (0 : Int32) = zI 0 from rfl, b1, z_b0, d1, z_b1]
      simp (disch := omega) only [p_le]
      by_cases q : (0 : Int) < hrN G (kR K) n.toNat S
      · rw [if_pos q] at e1
        rw [if_neg (by omega), jl_426, show (1 : Int32) = zI 1 from rfl, e1, z_b0]
      · rw [if_neg q] at e1
        rw [if_pos (by omega), jl_425, jl_426, show (0 : Int32) = zI 0 from rfl, e1, z_b0]
  · have hd : decide (1 ≤ n ∧ n ≤ 250) = false := by simp; omega
    refine ⟨zI (-1), G, S, U, K, hp, ?_, ?_⟩
    · intro ν hi
      refine ⟨ν, ?_, hi, frC_z⟩
      rw [jl_704]
      simp (disch := omega) only [zI_lit, p_lt, p_le]
      by_cases d : n < 1
      · rw [if_pos d, jl_705]
        rfl
      · rw [if_neg d, if_neg (by omega), jl_705]
        rfl
    · intro ν hi
      obtain ⟨ν0, e0, hi0, f0⟩ := iM_th hK hi
      refine ⟨ν0, ?_, hi0, f0⟩
      rw [jl_423, ← e0, show (1 : Int32) = zI 1 from rfl, show (250 : Int32) = zI 250 from rfl, mz_isIn ⟨n1, n2⟩ (zR_of (by omega)) (zR_of (by omega)), z_b1, hd, if_pos (by decide)]
      rfl
