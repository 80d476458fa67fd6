/-! k: letters taken by the RULE, one after the other -/
theorem oP_bg {R : gR} {ν ν' : ax_M} (hR : rok R) (h : bgR ν ν') (ho : oP R ν) : oP R ν' := by
  obtain ⟨o0, o1⟩ := ho
  have hR0 := hR.1
  refine ⟨(h 62 (by omega) (by omega)).trans o0, ?_⟩
  intro i i0 i1
  obtain ⟨a1, a2, a3⟩ := o1 i i0 i1
  refine ⟨(h _ (by omega) (by omega)).trans a1, (h _ (by omega) (by omega)).trans a2, ?_⟩
  intro c c0 c1
  obtain ⟨b1, b2⟩ := a3 c c0 c1
  exact ⟨(h _ (by omega) (by omega)).trans b1, (h _ (by omega) (by omega)).trans b2⟩
theorem lf_ne {G : gG} {S : gS} {R : gR} (hg : hGok G) (hw : hGw G) (hv : hV G S) : ∀ (i : Nat), (∃ w, gLf G S R 0 w) → ∃ w, gLf G S R i w := by
  intro i
  induction i with
  | zero => exact id
  | succ i ih =>
    intro h
    obtain ⟨w, hwl⟩ := ih h
    by_cases q : ∃ u, gGd G S R i u
    · obtain ⟨u, hu⟩ := q
      exact ⟨u, (gd_any hg hw hv ⟨u, hu⟩ u).mpr hu⟩
    · exact ⟨w, (gd_none hg hw hv (fun u hu => q ⟨u, hu⟩) w).mpr hwl⟩
theorem lf_0 {G : gG} {S : gS} {R : gR} : ∀ (i : Nat) {w : Int}, gLf G S R i w → gLf G S R 0 w := fun i _ h => lf_r i h
theorem ch_ex {G : gG} {S : gS} {R : gR} : isCh G S R (gch' G S R) := by
  by_cases q : ∃ w, gLf G S R (rLn R).toNat w
  · have key : ∀ (m : Nat) (w : Int), gLf G S R (rLn R).toNat w → w < m → ∃ v, isCh G S R v := by
      intro m
      induction m with
      | zero =>
        intro w hw hm
        have := (lf_r _ hw).1
        omega
      | succ m ih =>
        intro w hw hm
        by_cases c : ∃ u, gLf G S R (rLn R).toNat u ∧ u < w
        · obtain ⟨u, u1, u2⟩ := c
          exact ih u u1 (by omega)
        · refine ⟨w, Or.inr ⟨hw, fun v hv => ?_⟩⟩
          by_cases d : v < w
          · exact absurd ⟨v, hv, d⟩ c
          · omega
    obtain ⟨w, hw⟩ := q
    obtain ⟨v, hv⟩ := key (w + 1).toNat w hw (by have := (lf_r _ hw).1; omega)
    rw [ch_of hv]
    exact hv
  · have hv : isCh G S R (-1) := Or.inl ⟨rfl, fun v hv => q ⟨v, hv⟩⟩
    rw [ch_of hv]
    exact hv
theorem ch_fi {G : gG} {S : gS} {R : gR} (h : gch' G S R ≠ -1) : gfi S (gch' G S R) ≠ -1 := by
  rcases ch_ex (G := G) (S := S) (R := R) with q | q
  · exact absurd q.1 h
  · exact (lf_r _ q.1).2.2
theorem ch_q {G : gG} {S : gS} {R : gR} (hg : hGok G) (hw : hGw G) (hv : hV G S) : gch' G S R = -1 ↔ nWh S 0 = 0 := by
  have hcn := h_cnt hg hv.1 (by omega)
  have hE := hg.2.2.1
  have h1 := gbn_pos hg hv.1 hcn.1
  have h2 : gbn G S = 0 ↔ ∀ w, ¬ gLf G S R 0 w := by
    constructor
    · intro q w hl
      have := pct_pos (P := fun w => gfi S w ≠ -1) (D := fun _ => inferInstance) (m := (2 * gE G).toNat) hl.1 (by have := hl.2.1; omega) hl.2.2
      unfold gbn at q
      omega
    · intro q
      unfold gbn
      rw [pct_ext (m := 0) (by omega) (fun i i0 i1 z => q i ⟨by omega, by omega, z⟩)]
      rfl
  rw [← h1, h2]
  rcases ch_ex (G := G) (S := S) (R := R) with q | q
  · refine ⟨fun _ w hl => ?_, fun _ => q.1⟩
    obtain ⟨u, hu⟩ := lf_ne hg hw hv (rLn R).toNat ⟨w, hl⟩
    exact q.2 u hu
  · constructor
    · intro z
      have := (lf_r _ q.1).1
      omega
    · intro z
      exact absurd (lf_0 _ q.1) (z _)
noncomputable def hrS (G : gG) (R : gR) : Nat → gS → gS
  | 0, S => S
  | m + 1, S => if gch' G S R = -1 then S else hrS G R m (hta G S (gch' G S R)).2
noncomputable def hrN (G : gG) (R : gR) : Nat → gS → Nat
  | 0, _ => 0
  | m + 1, S => if gch' G S R = -1 then 0 else hrN G R m (hta G S (gch' G S R)).2 + 1
theorem rS_ok {G : gG} {R : gR} (hg : hGok G) (hw : hGw G) : ∀ (m : Nat) (S : gS), hV G S → hV G (hrS G R m S) ∧ (hZ G S → hZ G (hrS G R m S)) ∧ hrN G R m S ≤ m := by
  intro m
  induction m with
  | zero => exact fun S hv => ⟨hv, id, Nat.le_refl _⟩
  | succ m ih =>
    intro S hv
    unfold hrS hrN
    by_cases q : gch' G S R = -1
    · rw [if_pos q, if_pos q]
      exact ⟨hv, id, by omega⟩
    · rw [if_neg q, if_neg q]
      have hk := ch_fi q
      obtain ⟨i1, i2, i3⟩ := ih _ (hV_ta hg hw hv hk)
      exact ⟨i1, fun _ => i2 (hZ_ta hg hw hv hk), by omega⟩
/-- more fuel changes nothing -/
theorem rS_st {G : gG} {R : gR} (hg : hGok G) (hw : hGw G) : ∀ (m : Nat) (S : gS), hV G S → hrs S ≤ m → hrS G R (m + 1) S = hrS G R m S ∧ hrN G R (m + 1) S = hrN G R m S ∧ nWh (hrS G R m S) 0 = 0 := by
  intro m
  induction m with
  | zero =>
    intro S hv hm
    have hcn := h_cnt hg hv.1 (by omega)
    have : hcW S ≤ (gnL S).toNat := pct_le
    unfold hrs at hm
    omega
  | succ m ih =>
    intro S hv hm
    unfold hrS hrN
    by_cases q : gch' G S R = -1
    · rw [if_pos q, if_pos q, if_pos q, if_pos q]
      exact ⟨rfl, rfl, (ch_q hg hw hv).mp q⟩
    · rw [if_neg q, if_neg q, if_neg q, if_neg q]
      have hk := ch_fi q
      have h1 := hrs_ta hg hw hv hk
      obtain ⟨i1, i2, i3⟩ := ih _ (hV_ta hg hw hv hk) (by omega)
      exact ⟨i1, by rw [i2], i3⟩
theorem rS_ge {G : gG} {R : gR} (hg : hGok G) (hw : hGw G) {S : gS} (hv : hV G S) (d : Nat) : hrS G R (256 + d) S = hrS G R 256 S ∧ hrN G R (256 + d) S = hrN G R 256 S := by
  induction d with
  | zero => exact ⟨rfl, rfl⟩
  | succ d ih =>
    have h := rS_st (R := R) hg hw (256 + d) S hv (by unfold hrs; omega)
    exact ⟨h.1.trans ih.1, h.2.1.trans ih.2⟩
theorem q_tb1 {o : Nat} (h : cO o) {G : gG} {R : gR} {most : Int} (hg : hGok G) (hw : hGw G) (hR : rok R) (hmost : most ≤ 1000) : ∀ (m : Nat) (S : gS) (X : cX) (ν : ax_M) (t : Int), hV G S → XR G S X → cI o G S X ν → kP 13 R ν → 0 ≤ t → t + m = most → ∃ X' ν', aJ 830 [.ref 0, .ref o, .int (zI most), .int (zI t), .int (zI t)] [] ν = some (some (.int (zI (t + hrN G R m S))), ν') ∧ cI o G (hrS G R m S) X' ν' ∧ XR G (hrS G R m S) X' ∧ kP 13 R ν' ∧ fr (chL ++ cOL o) ν ν' := by
  intro m
  induction m with
  | zero =>
    intro S X ν t hv hx hν hk t0 t1
    refine ⟨X, ν, ?_, hν, hx, hk, frz⟩
    rw [jl_830 _ _ _ _ _ h]
    simp (disch := omega) only [p_le]
    rw [if_pos (by omega), jl_831]
    unfold hrN
    rw [show t + ((0 : Nat) : Int) = t by omega]
  | succ m ih =>
    intro S X ν t hv hx hν hk t0 t1
    have hcn := h_cnt hg hv.1 (by omega)
    have h12 := q_fow hν h
    have hx8 : xow X = nWh S 0 := hx.2.2.2.2.2.2.2.1.1
    have hnw : nWh S 0 ≤ (gnL S).toNat := pct_le
    have hq := ch_q (R := R) hg hw hv
    rw [jl_830 _ _ _ _ _ h, h12, hx8]
    simp (disch := omega) only [zI_lit, p_le]
    rw [if_neg (by omega)]
    unfold hrN hrS
    by_cases q : gch' G S R = -1
    · have h0 := hq.mp q
      refine ⟨X, ν, ?_, by rw [if_pos q]; exact hν, by rw [if_pos q]; exact hx, hk, frz⟩
      rw [if_pos (by omega), if_pos q, jl_831, show t + ((0 : Nat) : Int) = t by omega]
    · have h0 : ¬ nWh S 0 = 0 := fun z => q (hq.mpr z)
      have hkk := ch_fi q
      obtain ⟨ν1, a1, a2, a3, a4, a5, a6⟩ := q_ch h hg hw hv hx hR hν hk
      obtain ⟨X2, ν2, b1, b2, b3, b4⟩ := q_ta h hg hw hv hx a3 hkk
      have hk2 : kP 13 R ν2 := kP_fr b4 (fr_at b4 (by rcases h with rfl | rfl <;> decide) 0) (by intro a ha; simp [cOL] at ha; rcases h with rfl | rfl <;> omega) a4
      obtain ⟨X3, ν3, c1, c2, c3, c4, c5⟩ := ih (hta G S (gch' G S R)).2 X2 ν2 (t + 1) (hV_ta hg hw hv hkk) b3 b2 hk2 (by omega) (by omega)
      refine ⟨X3, ν3, ?_, by rw [if_neg q]; exact c2, by rw [if_neg q]; exact c3, c4, frt (frm a5 (fun a ha => List.mem_append_left _ ha)) (frt (frm b4 (fun a ha => List.mem_append_right _ ha)) c5)⟩
      rw [if_neg (by omega), a1, z_b1, b1, z_b1, show zI t + zI 1 = zI (t + 1) from zI_a1 t, c1, if_neg q]
      rw [show t + 1 + (hrN G R m (hta G S (gch' G S R)).2 : Int) = t + ((hrN G R m (hta G S (gch' G S R)).2 + 1 : Nat) : Int) by omega]
theorem q_tb {o : Nat} (h : cO o) {G : gG} {S : gS} {X : cX} {R : gR} {ν : ax_M} {most : Int} (hg : hGok G) (hw : hGw G) (hR : rok R) (m0 : 0 ≤ most) (hmost : most ≤ 1000) (hv : hV G S) (hx : XR G S X) (hν : cI o G S X ν) (hk : kP 13 R ν) : ∃ X' ν', aJ 829 [.ref 0, .ref o, .int (zI most)] [] ν = some (some (.int (zI (hrN G R most.toNat S))), ν') ∧ cI o G (hrS G R most.toNat S) X' ν' ∧ XR G (hrS G R most.toNat S) X' ∧ kP 13 R ν' ∧ fr (chL ++ cOL o) ν ν' := by
  obtain ⟨X', ν', a1, a2⟩ := q_tb1 h hg hw hR hmost most.toNat S X ν 0 hv hx hν hk (by omega) (by omega)
  refine ⟨X', ν', ?_, a2⟩
  rw [jl_829]
  simp only [zI_lit]
  rw [a1, show (0 : Int) + (hrN G R most.toNat S : Nat) = (hrN G R most.toNat S : Nat) by omega]
theorem q_rrn {G : gG} {R : gR} {most : Int} (hg : hGok G) (hw : hGw G) (hR : rok R) (hmost : most ≤ 1000) : ∀ (m : Nat) (S : gS) (ν : ax_M) (t : Int), hV G S → mI G S ν → oP R ν → 0 ≤ t → t + m = most → ∃ ν', aJ 363 [.ref 207, .int (zI most), .int (zI t), .int (zI (gch' G S R))] [] ν = some (some (.int (zI (t + hrN G R m S))), ν') ∧ mI G (hrS G R m S) ν' ∧ oP R ν' ∧ fr (209 :: crL) ν ν' ∧ bgR ν ν' := by
  intro m
  induction m with
  | zero =>
    intro S ν t hv hm ho t0 t1
    refine ⟨ν, ?_, hm, ho, frz, bgz⟩
    rw [jl_363]
    simp (disch := omega) only [p_le]
    rw [if_pos (by omega), jl_364]
    unfold hrN
    rw [show t + ((0 : Nat) : Int) = t by omega]
  | succ m ih =>
    intro S ν t hv hm ho t0 t1
    have hE := hg.2.2.2.1
    have hr : -1 ≤ gch' G S R ∧ gch' G S R ≤ 60 := by
      rcases ch_ex (G := G) (S := S) (R := R) with q | q
      · omega
      · have := lf_r _ q.1
        omega
    rw [jl_363]
    simp (disch := omega) only [zI_lit, zI_neg, p_le, p_eq]
    rw [if_neg (by omega)]
    unfold hrN hrS
    by_cases q : gch' G S R = -1
    · refine ⟨ν, ?_, by rw [if_pos q]; exact hm, ho, frz, bgz⟩
      rw [if_pos q, if_pos q, jl_364, show t + ((0 : Nat) : Int) = t by omega]
    · have hkk := ch_fi q
      obtain ⟨ν1, a1, a2, a3, a4⟩ := q_rta hg hw hv hm hkk
      have hv1 := hV_ta hg hw hv hkk
      have ho1 := oP_bg hR a4 ho
      obtain ⟨ν2, b1, b2⟩ := q_rch hg hw hv1 hR a2 ho1
      have b3 := bgf b2 (by decide)
      obtain ⟨ν3, c1, c2, c3, c4, c5⟩ := ih _ ν2 (t + 1) hv1 (mI_fr b2 (by decide) a2) (oP_fr b2 (by decide) ho1) (by omega) (by omega)
      refine ⟨ν3, ?_, by rw [if_neg q]; exact c2, c3, frt (frm a3 (by simp)) (frt (frm b2 (fun a ha => List.mem_cons_of_mem _ ha)) c4), bgt a4 (bgt b3 c5)⟩
      rw [if_neg q, a1, z_b1, b1, z_b1, show zI t + zI 1 = zI (t + 1) from zI_a1 t, c1, if_neg q]
      rw [show t + 1 + (hrN G R m (hta G S (gch' G S R)).2 : Int) = t + ((hrN G R m (hta G S (gch' G S R)).2 + 1 : Nat) : Int) by omega]
theorem q_rru {G : gG} {S : gS} {R : gR} {ν : ax_M} {most : Int} (hg : hGok G) (hw : hGw G) (hR : rok R) (m0 : 0 ≤ most) (hmost : most ≤ 1000) (hv : hV G S) (hm : mI G S ν) (ho : oP R ν) : ∃ ν', aJ 362 [.ref 207, .int (zI most)] [] ν = some (some (.int (zI (hrN G R most.toNat S))), ν') ∧ mI G (hrS G R most.toNat S) ν' ∧ oP R ν' ∧ fr (209 :: crL) ν ν' ∧ bgR ν ν' := by
  obtain ⟨ν1, b1, b2⟩ := q_rch hg hw hv hR hm ho
  obtain ⟨ν', a1, a2, a3, a4, a5⟩ := q_rrn hg hw hR hmost most.toNat S ν1 0 hv (mI_fr b2 (by decide) hm) (oP_fr b2 (by decide) ho) (by omega) (by omega)
  refine ⟨ν', ?_, a2, a3, frt (frm b2 (fun a ha => List.mem_cons_of_mem _ ha)) a4, bgt (bgf b2 (by decide)) a5⟩
  rw [jl_362, b1, z_b1]
  simp only [zI_lit]
  rw [a1, show (0 : Int) + (hrN G R most.toNat S : Nat) = (hrN G R most.toNat S : Nat) by omega]
/-! drawn till it's quiet -/
noncomputable def hcr (G : gG) : Nat → Int32 → gS → gS
  | 0, _, S => S
  | m + 1, x, S => if nWh S 0 = 0 then S else hcr G m (gst x) (hta G S (gbw G S (gpk (gst x) (gbn G S)))).2
theorem bw_ex {G : gG} {S : gS} {k : Int} (k0 : 0 ≤ k) (k1 : k < gbn G S) (hE : 0 ≤ gE G) : isBW G S k (gbw G S k) := by
  have key : ∀ m : Nat, k < (pct (fun w => gfi S w ≠ -1) (fun _ => inferInstance) m : Nat) → (m : Int) ≤ 2 * gE G → ∃ w, isBW G S k w := by
    intro m
    induction m with
    | zero =>
      intro h _
      simp only [pct] at h
      omega
    | succ m ih =>
      intro h hm
      simp only [pct] at h
      by_cases c : k < (pct (fun w => gfi S w ≠ -1) (fun _ => inferInstance) m : Nat)
      · exact ih c (by omega)
      · by_cases q : gfi S m ≠ -1
        · rw [if_pos q] at h
          exact ⟨m, by omega, by omega, q, by rw [Int.toNat_natCast]; omega⟩
        · rw [if_neg q] at h
          omega
  obtain ⟨w, hw⟩ := key (2 * gE G).toNat k1 (by omega)
  rw [gbw_of hw]
  exact hw
theorem bw_fi {G : gG} {S : gS} {x : Int32} (hg : hGok G) (hv : hV G S) (hq : nWh S 0 ≠ 0) : gfi S (gbw G S (gpk x (gbn G S))) ≠ -1 := by
  have hcn := h_cnt hg hv.1 (by omega)
  have h1 := gbn_pos hg hv.1 hcn.1
  have hk := gpk_r x (n := gbn G S) (by omega)
  exact (bw_ex hk.1 hk.2 hg.2.2.1).2.2.1
theorem cr_st {G : gG} (hg : hGok G) (hw : hGw G) : ∀ (m : Nat) (x : Int32) (S : gS), hV G S → hrs S ≤ m → hcr G (m + 1) x S = hcr G m x S ∧ nWh (hcr G m x S) 0 = 0 ∧ hV G (hcr G m x S) := by
  intro m
  induction m with
  | zero =>
    intro x S hv hm
    have hcn := h_cnt hg hv.1 (by omega)
    have : hcW S ≤ (gnL S).toNat := pct_le
    unfold hrs at hm
    omega
  | succ m ih =>
    intro x S hv hm
    unfold hcr
    by_cases q : nWh S 0 = 0
    · rw [if_pos q, if_pos q]
      exact ⟨rfl, q, hv⟩
    · rw [if_neg q, if_neg q]
      have hk := bw_fi (x := gst x) hg hv q
      have h1 := hrs_ta hg hw hv hk
      exact ih _ _ (hV_ta hg hw hv hk) (by omega)
theorem q_mw {G : gG} {S : gS} {ν : ax_M} (hm : mI G S ν) (h0 : 0 ≤ gnL S) (hL : gnL S ≤ 256) (hr : hRs G S) {x : Int} (x0 : 0 ≤ x) (x1 : x ≤ 2) : aJ 215 [.ref 207, .int (zI x)] [] ν = some (some (.int (zI (nWh S x))), ν) := by
  have key : ∀ m l : Nat, l + m = (gnL S).toNat → aJ 216 [.ref 207, .int (zI x), .int (zI (pct (fun k => glt S k 5 = x) (fun _ => inferInstance) l)), .int (zI l)] [] ν = some (some (.int (zI (nWh S x))), ν) := by
    intro m
    induction m with
    | zero =>
      intro l hl
      rw [jl_216]
      simp (disch := omega) only [zI_lit, q_rL hm, z_bo, p_le]
      rw [if_pos (by omega), jl_218]
      unfold nWh
      rw [show (gnL S).toNat = l by omega]
    | succ m ih =>
      intro l hl
      have ih' := ih (l + 1) (by omega)
      obtain ⟨l0, l1, l2, l3, l4, l5, l6, l7⟩ := hr.2.2.2 l (by omega) (by omega)
      have hp := pct_le (P := fun k => glt S k 5 = x) (D := fun _ => inferInstance) (m := l)
      rw [jl_216]
      simp only [pct] at ih'
      simp (disch := omega) only [zI_lit, q_rL hm, z_bo, p_le, q_lt hm hL, z_b1, p_eq, zI_add, jl_217]
      rw [if_neg (by omega)]
      by_cases q : glt S l 5 = x
      · rw [if_pos q] at ih' ⊢
        exact ih'
      · rw [if_neg q] at ih' ⊢
        exact ih'
  rw [jl_215]
  exact key (gnL S).toNat 0 (by omega)
theorem q_qt {G : gG} {S : gS} {ν : ax_M} (hm : mI G S ν) (hg : hGok G) (hv : hV G S) : aJ 293 [.ref 207] [] ν = some (some (.int (zB (decide (nWh S 0 = 0)))), ν) := by
  have hcn := h_cnt hg hv.1 (by omega)
  have hp : nWh S 0 ≤ (gnL S).toNat := pct_le
  have e := q_mw hm hcn.1 (by omega) hv.2.2.1 (x := 0) (by omega) (by omega)
  rw [jl_293]
  simp (disch := omega) only [zI_lit, e, z_b1, p_eq]
  by_cases q : nWh S 0 = 0
  · rw [if_pos (by omega), jl_295, if_pos (Or.inr (show zI 1 = 1 from rfl)), show decide (nWh S 0 = 0) = true by simp [q]]
    rfl
  · rw [if_neg (by omega), jl_294, jl_295, if_pos (Or.inl rfl), show decide (nWh S 0 = 0) = false by simp [q]]
    rfl
theorem q_dr1 {G : gG} {R : gR} (hg : hGok G) (hw : hGw G) : ∀ (m : Nat) (S : gS) (X : cX) (ν : ax_M) (x : Int32) (i : Int), hV G S → XR G S X → cI 40 G S X ν → 0 ≤ i → i + m = 256 → ∃ X' ν', aJ 836 [.ref 0, .int x, .int (zI i)] [] ν = some (none, ν') ∧ cI 40 G (hcr G m x S) X' ν' ∧ XR G (hcr G m x S) X' ∧ fr (cOL 40) ν ν' := by
  have ho : cO 40 := Or.inr rfl
  intro m
  induction m with
  | zero =>
    intro S X ν x i hv hx hν i0 i1
    refine ⟨X, ν, ?_, hν, hx, frz⟩
    rw [jl_836]
    simp (disch := omega) only [zI_lit, p_le]
    rw [if_pos (by omega), jl_837]
  | succ m ih =>
    intro S X ν x i hv hx hν i0 i1
    have hcn := h_cnt hg hv.1 (by omega)
    have h12 := q_fow hν ho
    have hx8 : xow X = nWh S 0 := hx.2.2.2.2.2.2.2.1.1
    have hnw : nWh S 0 ≤ (gnL S).toNat := pct_le
    have hb := gbn_le (S := S) hg
    rw [jl_836, h12, hx8]
    simp (disch := omega) only [zI_lit, p_le]
    rw [if_neg (by omega)]
    unfold hcr
    by_cases q : nWh S 0 = 0
    · refine ⟨X, ν, ?_, by rw [if_pos q]; exact hν, by rw [if_pos q]; exact hx, frz⟩
      rw [if_pos (by omega), jl_837]
    · have h1 := gbn_pos hg hv.1 hcn.1
      have hk := gpk_r (gst x) (n := gbn G S) (by omega)
      obtain ⟨w, w1, w2⟩ := q_bw ho hg hcn.1 (show gnL S ≤ 256 by omega) hx hν hk.1 hk.2
      have hkk := bw_fi (x := gst x) hg hv q
      have hgw := gbw_of w1
      obtain ⟨X2, ν2, b1, b2, b3, b4⟩ := q_ta ho hg hw hv hx hν hkk
      rw [← hgw] at w2
      obtain ⟨X3, ν3, c1, c2, c3, c4⟩ := ih _ X2 ν2 (gst x) (i + 1) (hV_ta hg hw hv hkk) b3 b2 (by omega) (by omega)
      refine ⟨X3, ν3, ?_, by rw [if_neg q]; exact c2, by rw [if_neg q]; exact c3, frt b4 c4⟩
      rw [if_neg (by omega), q_stir, z_b1, q_bn ho hg hcn.1 (show gnL S ≤ 256 by omega) hx hν, z_b1, q_pick (by omega) (by omega), z_b1, w2, z_b1, b1, z_b1, show zI i + zI 1 = zI (i + 1) from zI_a1 i, c1]
theorem q_rdr {G : gG} (hg : hGok G) (hw : hGw G) {a1 a2 a3 a4 a5 : Int32} : ∀ (m : Nat) (S : gS) (ν : ax_M), hV G S → mI G S ν → hrs S ≤ m → ∃ ν', aJ 587 [.ref 207, .int a1, .int a2, .int a3, .int a4, .int a5] [] ν = aJ 588 [.ref 207, .int a1, .int a2, .int a3, .int a4, .int a5] [] ν' ∧ mI G (hcr G m (ν.1 207 32) S) ν' ∧ fr [207, 209, 223] ν ν' ∧ bgR ν ν' ∧ (∀ k, k ≠ 32 → ν'.1 207 k = ν.1 207 k) := by
  intro m
  induction m with
  | zero =>
    intro S ν hv hm hs
    have hcn := h_cnt hg hv.1 (by omega)
    have : hcW S ≤ (gnL S).toNat := pct_le
    unfold hrs at hs
    omega
  | succ m ih =>
    intro S ν hv hm hs
    have hq := q_qt hm hg hv
    have z0 : (0 : Int32) = zI 0 := rfl
    rw [jl_587, hq, z_b1, i_P]
    unfold hcr
    by_cases q : nWh S 0 = 0
    · refine ⟨ν, ?_, by rw [if_pos q]; exact hm, frz, bgz, fun _ _ => rfl⟩
      rw [if_pos q]
    · obtain ⟨ν1, b1, b2, b3, b4, b5, b6, b7⟩ := q_rtd hg hw hv hm q
      have h1 := hrs_ta hg hw hv b7
      obtain ⟨ν2, c1, c2, c3, c4, c5⟩ := ih _ ν1 (hV_ta hg hw hv b7) b2 (by omega)
      rw [b3] at c2
      refine ⟨ν2, ?_, by rw [if_neg q]; exact c2, frt b5 c3, bgt b6 c4, fun k z => (c5 k z).trans (b4 k z)⟩
      rw [if_neg q, b1, z_b0, c1]
