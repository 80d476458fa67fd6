/-! c: a way's first letter is taken -/
theorem h_inw {G : gG} {S : gS} {c n : Int} (hg : hGok G) (h : hI G S c) (hn : gnd S n 3 ≠ -1) : gsd G (gwy G n (gnd S n 3)) = n := by
  obtain ⟨om, ps, dl, dn, af, c0, pd, rp, rv, fw, cl, cw, tk, fl, fc, hj, hx, hp⟩ := h
  have hlv : 1 ≤ hN S 1 n := by
    have a1 := (pg_N0 hj n).2.1
    have a2 := pg_N4b hj n
    by_cases q : hN S 1 n = 0
    · exact absurd (a2 q).2.2.1 hn
    · omega
  obtain ⟨w, h1, h2, h3⟩ := pg_N4e hj n hlv
  have h4 : gnd S n 3 = hed w := h3.symm
  rw [h4, ← h2, h_wy hg h1]
theorem h_tow {G : gG} {S : gS} {c n : Int} (hg : hGok G) (h : hI G S c) (hn : gnd S n 4 ≠ -1) : gsd G (gwy G n (gnd S n 4)) = n := by
  obtain ⟨om, ps, dl, dn, af, c0, pd, rp, rv, fw, cl, cw, tk, fl, fc, hj, hx, hp⟩ := h
  obtain ⟨w, h1, h2, h3⟩ := pg_N10e hj n hn
  have h4 : gnd S n 4 = hed w := h3.symm
  rw [h4, ← h2, h_wy hg h1]
theorem c_hX {o : Nat} (h : cO o) {G : gG} {S : gS} {X : cX} {μ : ax_M} {k : Int} (hg : hGok G) (hw : hGw G) (hi : hI G S 0) (hr : hRs G S) (hx : XR G (gsL S k 5 2) (cHd X 1)) (k0 : 0 ≤ k) (k1 : k < gnL S) (k2 : glt S k 5 ≠ 2) (hL : gnL (hha G S k) ≤ 256) : ∃ X', aJ 1229 [.ref o, .int (zI k), .int (zI (grc G (glt S k 1)))] [] (cM o G S X μ) = some (none, cM o G (hha G S k) X' μ) ∧ XR G (hha G S k) X' := by
  have hc := h_cnt hg hi (by omega)
  obtain ⟨fo, lo, oe, af, wl, so, wn, ow, wc, hd, dp⟩ := X
  exact c_ha h hg hw hr hx k0 k1 (by omega) (fun q => h_lv2 hi k0 k1 k2 q) (m_exp hg hi _) (h_inw hg hi) (h_tow hg hi) hL
theorem c_dr {o : Nat} (h : cO o) {G : gG} {n : Int} (hg : hGok G) (hw : hGw G) (h0 : 0 ≤ n) (h1 : n < 12) : ∀ (f : Nat) (S : gS) (X : cX) (μ : ax_M), f ≤ 256 → hI G S 0 → hQn G n S → hRs G S → hOc S → XR G S X → ∃ X' μ', aJ 1206 [.ref o, .int (zI n), .int (zI (256 - f))] [] (cM o G S X μ) = some (some (.int (zI 0)), cM o G (hdr G n f S) X' μ') ∧ XR G (hdr G n f S) X' ∧ cB o μ μ' := by
  have z256 : (256 : Int32) = zI 256 := rfl
  intro f
  induction f with
  | zero =>
    intro S X μ hf hi hq hr ho hx
    refine ⟨X, μ, ?_, hx, cB_refl⟩
    rw [jl_1206 _ _ _ _ h, j_le z256 rfl (zR_of (by omega)) (zR_of (by omega)), if_pos (by omega), jl_1208]
    rfl
  | succ f ih =>
    intro S X μ hf hi hq hr ho hx
    have hcn := h_cnt hg hi (by omega)
    have hgr := h_gra (G := G) (S := S) (n := n) hcn.1
    rw [jl_1206 _ _ _ _ h, j_le z256 rfl (zR_of (by omega)) (zR_of (by omega)), if_neg (by omega)]
    unfold hdr
    rcases c_pr h (μ := μ) hg hr hx (by omega) h0 h1 with ⟨e, hp⟩ | ⟨e, X', μ', hp, hx', hb⟩
    · rw [if_pos e, hp, z_b1, j_eq rfl zlm (zR_of (by omega)) (zR_of (by omega)), if_pos rfl, jl_1208]
      exact ⟨X, μ, rfl, hx, cB_refl⟩
    · rw [if_neg e]
      rcases hgr with h2 | h2
      · exact absurd h2.1 e
      · obtain ⟨a1, a2, a3, a4, a5⟩ := h2
        have hkd := (h_letW hi a1 a2).2.2.1 a3
        have hfi : ∀ j, 0 ≤ j → j < gra G S n → glt S j 1 = glt S (gra G S n) 1 → glt S j 5 ≠ 0 := by
          intro j j0 j1 j2 j3
          have := h_letF hi j _ j0 j1 a2 j2 j3
          omega
        have hst := h_step hg hi hq a1 a2 (by omega) hfi a5 a4 (fun q => by omega)
        have hhq := h_hha hg hi a1 a2 (by omega) hfi a5 (fun q => by omega)
        have hv := hV_ha hg hi hr ho a1 a2 (by omega) hhq.1 hhq.2
        have hc2 := h_cnt hg hhq.1 (by omega)
        obtain ⟨X2, h5, h6⟩ := c_hX h (μ := μ') hg hw hi hr hx' a1 a2 (by omega) (by omega)
        rw [a4] at h5
        have e1 : zI (256 - ((f + 1 : Nat) : Int)) + (1 : Int32) = zI (256 - (f : Int)) := by
          rw [zI_a1]
          exact congrArg zI (by omega)
        obtain ⟨X3, μ3, h7, h8, h9⟩ := ih (hha G S (gra G S n)) X2 μ' (by omega) hst.1 hst.2.1 hv.1 hv.2 h6
        refine ⟨X3, μ3, ?_, h8, cB_trans hb h9⟩
        rw [hp, z_b1, j_eq rfl zlm (zR_of (by omega)) (zR_of (by omega)), if_neg e, jl_1207 _ _ _ _ _ h, h5, z_b0, e1]
        exact h7
theorem c_why {S : gS} {G : gG} {k : Int} {M : ax_M} (hk : zR (glt S k 0)) (hn : gwh G S k ≠ 0) : aJ 842 [.int (zI (glt S k 0))] [] M = some (some (.int (zI (gwh G S k))), M) := by
  rw [jl_842, j_eq rfl zl0 hk (zR_of (by omega)), j_eq rfl zl2 hk (zR_of (by omega))]
  unfold gwh at hn ⊢
  simp only at hn ⊢
  by_cases q0 : glt S k 0 = 0
  · rw [if_pos q0] at hn ⊢
    by_cases p : glt S k 2 < gnd S (grc G (glt S k 1)) 1 ∨ gen S (gwy G (grc G (glt S k 1)) (glt S k 1 / 2)) ≠ 0
    · rw [if_pos p] at hn
      omega
    · rw [if_neg p, if_pos q0, jl_844]
      rfl
  · rw [if_neg q0] at hn ⊢
    rw [if_neg q0]
    by_cases q2 : glt S k 0 = 2
    · rw [if_pos q2] at hn ⊢
      by_cases p : gnd S (grc G (glt S k 1)) 1 < glt S k 2
      · rw [if_pos p, if_pos q2, jl_843]
        rfl
      · rw [if_neg p] at hn
        omega
    · rw [if_neg q2] at hn ⊢
      rw [if_neg q2]
      by_cases q5 : glt S k 0 = 5
      · rw [if_pos q5] at hn ⊢
        by_cases p : glt S k 1 / 2 = gnd S (grc G (glt S k 1)) 3 ∧ gnd S (grc G (glt S k 1)) 0 = 1
        · rw [if_pos p, jl_845]
          rfl
        · rw [if_neg p] at hn
          omega
      · rw [if_neg q5] at hn
        omega
theorem c_key {o : Nat} (h : cO o) {G : gG} {S : gS} {X : cX} {μ : ax_M} {w k : Int} (hg : hGok G) (hw : hGw G) (hi : hI G S 0) (hq : hQ G S) (hr : hRs G S) (ho : hOc S) (hx : XR G (gsL S k 5 2) (cHd X 1)) (k0 : 0 ≤ k) (k1 : k < gnL S) (e1 : glt S k 1 = w) (e5 : glt S k 5 = 0) (hf : ∀ j, 0 ≤ j → j < k → glt S j 1 = glt S k 1 → glt S j 5 ≠ 0) : ∃ X' μ', aJ 1204 [.ref o, .int (zI k), .int (zI (grc G w))] [] (cM o G S X μ) = some (some (.int (zI (if gwh G S k ≠ 0 then (gwh G S k, gdef S k) else (0, hdr G (grc G w) 256 (hha G S k))).1)), cM o G (if gwh G S k ≠ 0 then (gwh G S k, gdef S k) else (0, hdr G (grc G w) 256 (hha G S k))).2 X' μ') ∧ XR G (if gwh G S k ≠ 0 then (gwh G S k, gdef S k) else (0, hdr G (grc G w) 256 (hha G S k))).2 X' ∧ cB o μ μ' := by
  have hE := hg.2.2.2.1
  have hN := hg.2.1
  have hc1 := h_cnt hg hi (by omega)
  have hlW := h_letW hi k0 k1
  rw [e1] at hlW
  have hrn : 0 ≤ grc G w ∧ grc G w < gN G := h_sdr hg (h_opW hlW.1).1
  obtain ⟨l0, l1, l2, l3, l4, l5, l6, l7⟩ := hr.2.2.2 _ k0 k1
  have hrd := c_ready h (X := X) (μ := μ) hg hr k0 k1 (by omega)
  have eg : gsd G (gop (glt S k 1)) = grc G w := by rw [e1]; rfl
  rw [eg] at hrd
  rw [jl_1204 _ _ _ _ h, hrd, z_b1]
  by_cases hr0 : gwh G S k = 0
  · have hr0' : ¬ gwh G S k ≠ 0 := fun q => q hr0
    rw [if_pos hr0, if_neg (by decide), if_neg hr0']
    have h2 := h_step (n := grc G w) hg hi (fun j a b c _ => hq j a b c) k0 k1 (by omega) hf hr0 (by rw [e1]) (fun _ j a b c _ => hq j a b c)
    have hhq := h_hha hg hi k0 k1 (by omega) hf hr0 (fun _ j a b c _ => hq j a b c)
    have hv := hV_ha hg hi hr ho k0 k1 (by omega) hhq.1 hhq.2
    have hc2 := h_cnt hg h2.1 (by omega)
    obtain ⟨X2, h5, h6⟩ := c_hX h (μ := μ) hg hw hi hr hx k0 k1 (by omega) (by omega)
    rw [e1] at h5
    obtain ⟨X3, μ3, h7, h8, h9⟩ := c_dr h (n := grc G w) hg hw hrn.1 (by omega) 256 _ X2 μ (by omega) h2.1 h2.2.1 hv.1 hv.2 h6
    refine ⟨X3, μ3, ?_, h8, h9⟩
    rw [jl_1205 _ _ _ _ h, h5, z_b0]
    exact h7
  · rw [if_neg hr0, if_pos rfl, if_pos hr0]
    have hrw : gnL (gdef S k) = gnL S := rfl
    have ek : glt (gdef S k) k 0 = glt S k 0 := by simp [glt, gdef, gsL, gsD]
    have x5 := hx.2.2.2.2.1
    have hnk : xwc X < gnL S := by
      have h8 := hx.2.2.2.2.2.2.2.1
      have e8 : xwc (cHd X 1) = xwc X := rfl
      have h81 := h8.2.1
      rw [e8] at h81
      have hrem := pct_rem (P := fun j => True) (Q := fun j => j ≠ k) (D := fun _ => inferInstance) (D2 := fun _ => inferInstance) (m := (gnL S).toNat) k0 (by omega) trivial (fun i => by constructor; exact fun q => ⟨trivial, q⟩; exact fun q => q.2)
      have hle : nWh (gsL S k 5 2) 1 ≤ pct (fun j => j ≠ k) (fun _ => inferInstance) (gnL S).toNat := pct_sub (fun i i0 i1 i2 => by
        refine ⟨i1, ?_⟩
        intro q
        rw [q] at i2
        simp [glt, gsL] at i2)
      have hall : pct (fun _ => True) (fun _ => inferInstance) (gnL S).toNat ≤ (gnL S).toNat := pct_le
      omega
    obtain ⟨fo, lo, oe, af, wl, so, wn, ow, wc, hd, dp⟩ := X
    have x50 : 0 ≤ wc ∧ wc ≤ gnL S := x5.1
    have hnk' : wc < gnL S := hnk
    have hx2 := XR_def hc1.1 k0 k1 (by rw [e1]; exact ⟨hrn.1, by omega⟩) (fun j j0 j1 _ j5 => (ho.2.1 j j0 j1 j5).2) hx
    rw [e1] at hx2
    refine ⟨_, μ, ?_, hx2, cB_refl⟩
    rw [c_def h k0 k1 (by omega) hrn.1 (by omega) x50.1 (by omega), z_b0, c_tl0 (S := gdef S k) h k0 (by omega) (by omega), z_b1, ek, c_why (zR_of (by omega)) hr0, z_b1]
    rfl
theorem gwk_L {G : gG} {S : gS} {n : Int} : gnL (gwk G S n) ≤ gnL S + 1 := by
  unfold gwk
  simp only
  by_cases q : glb G (gsN S n 0 2) n = -1
  · rw [if_pos q]
    show gnL S ≤ gnL S + 1
    omega
  · rw [if_neg q]
    show gnL S + 1 ≤ gnL S + 1
    omega
theorem c_ta {o : Nat} (h : cO o) {G : gG} {S : gS} {X : cX} {μ : ax_M} {w : Int} (hg : hGok G) (hw : hGw G) (hv : hV G S) (hx : XR G S X) (hk : gfi S w ≠ -1) : ∃ X' μ', aJ 1201 [.ref o, .int (zI w)] [] (cM o G S X μ) = some (some (.int (zI (hta G S w).1)), cM o G (hta G S w).2 X' μ') ∧ XR G (hta G S w).2 X' ∧ cB o μ μ' := by
  obtain ⟨hi, hq, hr, ho, hlt0⟩ := hv
  have hcn := h_cnt hg hi (by omega)
  have hE := hg.2.2.2.1
  have hN := hg.2.1
  rcases h_gfi (S := S) (w := w) hcn.1 with h1 | h1
  · exact absurd h1.1 hk
  obtain ⟨k0, k1, k2, k3, k4⟩ := h1
  have hlW := h_letW hi k0 k1
  have hw' : hW G w := by rw [← k3]; exact hlW.1
  have hw0 : 0 ≤ w ∧ w < 60 := ⟨hw'.1, by have := hw'.2; omega⟩
  have hrn : 0 ≤ grc G w ∧ grc G w < gN G := h_sdr hg (h_opW hw').1
  have hst := h_nd hi (grc G w)
  obtain ⟨l0, l1, l2, l3, l4, l5, l6, l7⟩ := hr.2.2.2 _ k0 k1
  have rk : zR (glt S (gfi S w) 0) := zR_of (by omega)
  have hxp := XR_pull hcn.1 hw0 rfl k0 hx
  rw [jl_1201 _ _ _ h, c_pull h hg hr hx hw' (by omega), if_neg hk, z_b1, j_eq rfl zlm (zR_of (by omega)) (zR_of (by omega)), if_neg hk, jl_1202 _ _ _ _ h, c_rc h hw0.1 ⟨hw'.2, hw0.2⟩, z_b1, c_tl0 h k0 k1 (by omega), z_b1, j_eq rfl zl0 rk (zR_of (by omega))]
  unfold hta
  simp only
  have hone : (glt S (gfi S w) 0 = 0 ∨ glt S (gfi S w) 0 = 2) → ∃ X' μ', aJ 1203 [.ref o, .int (zI (gfi S w)), .int (zI (grc G w))] [] (cM o G S (cPX X w (gfi S w)) μ) = some (some (.int (zI (if gwh G (if (glt S (gfi S w) 0 = 0 ∨ glt S (gfi S w) 0 = 2) ∧ gnd S (grc G w) 0 = 0 then gwk G S (grc G w) else S) (gfi S w) ≠ 0 then (gwh G (if (glt S (gfi S w) 0 = 0 ∨ glt S (gfi S w) 0 = 2) ∧ gnd S (grc G w) 0 = 0 then gwk G S (grc G w) else S) (gfi S w), gdef (if (glt S (gfi S w) 0 = 0 ∨ glt S (gfi S w) 0 = 2) ∧ gnd S (grc G w) 0 = 0 then gwk G S (grc G w) else S) (gfi S w)) else (0, hdr G (grc G w) 256 (hha G (if (glt S (gfi S w) 0 = 0 ∨ glt S (gfi S w) 0 = 2) ∧ gnd S (grc G w) 0 = 0 then gwk G S (grc G w) else S) (gfi S w)))).1)), cM o G (if gwh G (if (glt S (gfi S w) 0 = 0 ∨ glt S (gfi S w) 0 = 2) ∧ gnd S (grc G w) 0 = 0 then gwk G S (grc G w) else S) (gfi S w) ≠ 0 then (gwh G (if (glt S (gfi S w) 0 = 0 ∨ glt S (gfi S w) 0 = 2) ∧ gnd S (grc G w) 0 = 0 then gwk G S (grc G w) else S) (gfi S w), gdef (if (glt S (gfi S w) 0 = 0 ∨ glt S (gfi S w) 0 = 2) ∧ gnd S (grc G w) 0 = 0 then gwk G S (grc G w) else S) (gfi S w)) else (0, hdr G (grc G w) 256 (hha G (if (glt S (gfi S w) 0 = 0 ∨ glt S (gfi S w) 0 = 2) ∧ gnd S (grc G w) 0 = 0 then gwk G S (grc G w) else S) (gfi S w)))).2 X' μ') ∧ XR G (if gwh G (if (glt S (gfi S w) 0 = 0 ∨ glt S (gfi S w) 0 = 2) ∧ gnd S (grc G w) 0 = 0 then gwk G S (grc G w) else S) (gfi S w) ≠ 0 then (gwh G (if (glt S (gfi S w) 0 = 0 ∨ glt S (gfi S w) 0 = 2) ∧ gnd S (grc G w) 0 = 0 then gwk G S (grc G w) else S) (gfi S w), gdef (if (glt S (gfi S w) 0 = 0 ∨ glt S (gfi S w) 0 = 2) ∧ gnd S (grc G w) 0 = 0 then gwk G S (grc G w) else S) (gfi S w)) else (0, hdr G (grc G w) 256 (hha G (if (glt S (gfi S w) 0 = 0 ∨ glt S (gfi S w) 0 = 2) ∧ gnd S (grc G w) 0 = 0 then gwk G S (grc G w) else S) (gfi S w)))).2 X' ∧ cB o μ μ' := by
    intro qk
    have hsame : (if (glt S (gfi S w) 0 = 0 ∨ glt S (gfi S w) 0 = 2) ∧ gnd S (grc G w) 0 = 0 then gwk G S (grc G w) else S) = (if gnd S (grc G w) 0 = 0 then gwk G S (grc G w) else S) := by
      by_cases q : gnd S (grc G w) 0 = 0
      · rw [if_pos q, if_pos ⟨qk, q⟩]
      · rw [if_neg q, if_neg (fun z => q z.2)]
    rw [hsame]
    have hvw : gnd S (grc G w) 0 = 0 → hV G (gwk G S (grc G w)) := fun q => hV_wk hg ⟨hi, hq, hr, ho, hlt0⟩ hrn.1 hrn.2 q
    by_cases q : gnd S (grc G w) 0 = 0
    · have hv1 := hvw q
      have hc1 := h_cnt hg hv1.1 (by omega)
      have hwk := h_wk hg hi hrn.1 hrn.2 q
      obtain ⟨X1, h5, h6⟩ := c_rouse2 h (μ := μ) hg hw hr k0 k1 hxp hrn.1 (by omega) (by omega)
      rw [if_pos q] at h5 h6 ⊢
      have hlt : ∀ j f, 0 ≤ j → j ≤ gfi S w → glt (gwk G S (grc G w)) j f = glt S j f := fun j f j0 j1 => hwk.2.1.2.2.2.1 j f (by omega)
      have hmo := hwk.2.1.2.2.1
      obtain ⟨X2, μ2, h7, h8, h9⟩ := c_key (w := w) (μ := μ) h hg hw hv1.1 hv1.2.1 hv1.2.2.1 hv1.2.2.2.1 h6 k0 (by omega) (by rw [hlt _ 1 k0 (by omega)]; exact k3) (by rw [hlt _ 5 k0 (by omega)]; exact k2) (by
        intro j j0 j1 j2 j3
        rw [hlt _ 1 k0 (by omega), k3, hlt j 1 j0 (by omega)] at j2
        rw [hlt j 5 j0 (by omega)] at j3
        exact k4 j j0 j1 ⟨j3, j2⟩)
      refine ⟨X2, μ2, ?_, h8, h9⟩
      rw [jl_1203 _ _ _ _ h, h5, z_b1]
      exact h7
    · obtain ⟨X1, h5, h6⟩ := c_rouse2 h (μ := μ) hg hw hr k0 k1 hxp hrn.1 (by omega) (by
        have := gwk_L (G := G) (S := S) (n := grc G w)
        omega)
      rw [if_neg q] at h5 h6 ⊢
      obtain ⟨X2, μ2, h7, h8, h9⟩ := c_key (w := w) (μ := μ) h hg hw hi hq hr ho h6 k0 k1 k3 k2 (by
        intro j j0 j1 j2 j3
        rw [k3] at j2
        exact k4 j j0 j1 ⟨j3, j2⟩)
      refine ⟨X2, μ2, ?_, h8, h9⟩
      rw [jl_1203 _ _ _ _ h, h5, z_b1]
      exact h7
  by_cases q0 : glt S (gfi S w) 0 = 0
  · rw [if_pos q0]
    exact hone (Or.inl q0)
  · rw [if_neg q0, c_tl0 h k0 k1 (by omega), z_b1, j_eq rfl zl2 rk (zR_of (by omega))]
    by_cases q2 : glt S (gfi S w) 0 = 2
    · rw [if_pos q2]
      exact hone (Or.inr q2)
    · have hcond : ¬ ((glt S (gfi S w) 0 = 0 ∨ glt S (gfi S w) 0 = 2) ∧ gnd S (grc G w) 0 = 0) := by
        rintro ⟨x | x, _⟩
        · exact q0 x
        · exact q2 x
      rw [if_neg q2]
      simp only [if_neg hcond]
      exact c_key (w := w) (μ := μ) h hg hw hi hq hr ho hxp k0 k1 k3 k2 (by
        intro j j0 j1 j2 j3
        rw [k3] at j2
        exact k4 j j0 j1 ⟨j3, j2⟩)
