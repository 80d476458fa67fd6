/-! c: a run's steps: lightest basic, send, rouse, sum up, pass on, ask -/
theorem glbR_s {G : gG} {S : gS} {n : Int} (m : Nat) : glbR G S n (m + 1) = if (gfr G m = n ∨ gsc G m = n) ∧ gen S (gwy G n m) = 0 ∧ gli G m (glbR G S n m) = true then (m : Int) else glbR G S n m := rfl
theorem c_lb {o : Nat} (h : cO o) {G : gG} {S : gS} {X : cX} {μ : ax_M} {n : Int} (hg : hGok G) (hw : hGw G) (he : hRe S) (h0 : 0 ≤ n) (h1 : n < 12) : aJ 1189 [.ref o, .int (zI n)] [] (cM o G S X μ) = some (some (.int (zI (glb G S n))), cM o G S X μ) := by
  have hE0 := hg.2.2.1
  have hE := hg.2.2.2.1
  have rn : zR n := zR_of (by omega)
  have h2E : (2 : Int32) * (cM o G S X μ).1 3 1 = zI (2 * gE G) := by
    rw [c_E h]
    exact zI_mul 2 (gE G)
  -- one way
  have one : ∀ (w b : Int), 0 ≤ w → w < 2 * gE G → -1 ≤ b → b < gE G → aJ 1190 [.ref o, .int (zI n), .int (zI b), .int (zI w)] [] (cM o G S X μ) = aJ 1190 [.ref o, .int (zI n), .int (zI (if gsd G w = n ∧ gen S w = 0 ∧ gli G (w / 2) b = true then w / 2 else b)), .int (zI (w + 1))] [] (cM o G S X μ) := by
    intro w b w0 w1 b0 b1
    have hs := h_sdr hg (show hW G w from ⟨w0, w1⟩)
    have hN := hg.2.1
    have hen := he w
    have h3 : zI w + (1 : Int32) = zI (w + 1) := zI_add w 1
    rw [jl_1190 _ _ _ _ _ h, h2E, i_le (zR_of (by omega)) (zR_of (by omega)), if_neg (by omega), c_sd h w0 (by omega), z_b1, i_eq (zR_of (by omega)) rn]
    by_cases q : gsd G w = n
    · rw [if_pos q, c_en h w0 (by omega), z_b1, j_eq rfl zl0 (zR_of (by omega)) (zR_of (by omega))]
      by_cases q2 : gen S w = 0
      · rw [if_pos q2, m_half w0 (by omega), c_li h hE hw (by omega) (by omega) b0 b1, z_b1, i_B]
        by_cases q3 : gli G (w / 2) b = true
        · rw [if_pos q3, if_pos ⟨q, q2, q3⟩, jl_1191, h3]
        · rw [if_neg q3, if_neg (fun x => q3 x.2.2), jl_1191, h3]
      · rw [if_neg q2, if_neg (fun x => q2 x.2.1), jl_1191, h3]
    · rw [if_neg q, if_neg (fun x => q x.1), jl_1191, h3]
  have loop : ∀ m : Nat, ∀ e : Nat, e + m = (gE G).toNat → aJ 1190 [.ref o, .int (zI n), .int (zI (glbR G S n e)), .int (zI (2 * (e : Int)))] [] (cM o G S X μ) = some (some (.int (zI (glb G S n))), cM o G S X μ) := by
    intro m
    induction m with
    | zero =>
      intro e hem
      rw [jl_1190 _ _ _ _ _ h, h2E, i_le (zR_of (by omega)) (zR_of (by omega)), if_pos (by omega), jl_1192]
      unfold glb
      rw [show (gE G).toNat = e by omega]
    | succ m ih =>
      intro e hem
      have hb := glbR_r (G := G) (S := S) (n := n) e
      have hne := (hg.2.2.2.2 e (by omega) (by omega)).2.2.2.2
      have ih' := ih (e + 1) (by omega)
      have e1 : (2 * (e : Int)) / 2 = e := by omega
      have e2 : (2 * (e : Int) + 1) / 2 = e := by omega
      rw [one (2 * (e : Int)) (glbR G S n e) (by omega) (by omega) (by omega) (by omega), gsd_2, e1]
      have hb2 : -1 ≤ (if gfr G e = n ∧ gen S (2 * (e : Int)) = 0 ∧ gli G e (glbR G S n e) = true then (e : Int) else glbR G S n e) ∧ (if gfr G e = n ∧ gen S (2 * (e : Int)) = 0 ∧ gli G e (glbR G S n e) = true then (e : Int) else glbR G S n e) < gE G := by split <;> omega
      rw [one (2 * (e : Int) + 1) _ (by omega) (by omega) hb2.1 hb2.2, gsd_21, e2]
      rw [show ((e + 1 : Nat) : Int) = (e : Int) + 1 by omega, show 2 * ((e : Int) + 1) = 2 * (e : Int) + 1 + 1 by omega] at ih'
      have hval : (if gsc G e = n ∧ gen S (2 * (e : Int) + 1) = 0 ∧ gli G e (if gfr G e = n ∧ gen S (2 * (e : Int)) = 0 ∧ gli G e (glbR G S n e) = true then (e : Int) else glbR G S n e) = true then (e : Int) else if gfr G e = n ∧ gen S (2 * (e : Int)) = 0 ∧ gli G e (glbR G S n e) = true then (e : Int) else glbR G S n e) = glbR G S n (e + 1) := by
        rw [glbR_s]
        unfold gwy
        by_cases q : gfr G e = n
        · have q2 : ¬ gsc G e = n := fun x => hne (q.trans x.symm)
          rw [if_pos q]
          rw [if_neg (fun x => q2 x.1)]
          by_cases c : gen S (2 * (e : Int)) = 0 ∧ gli G e (glbR G S n e) = true
          · rw [if_pos ⟨q, c.1, c.2⟩, if_pos ⟨Or.inl q, c.1, c.2⟩]
          · rw [if_neg (fun x => c x.2), if_neg (fun x => c x.2)]
        · rw [if_neg q]
          have hin : ¬ (gfr G e = n ∧ gen S (2 * (e : Int)) = 0 ∧ gli G e (glbR G S n e) = true) := fun x => q x.1
          rw [if_neg hin]
          by_cases c : gsc G e = n ∧ gen S (2 * (e : Int) + 1) = 0 ∧ gli G e (glbR G S n e) = true
          · rw [if_pos c, if_pos ⟨Or.inr c.1, c.2.1, c.2.2⟩]
          · rw [if_neg c, if_neg (fun x => c ⟨x.1.resolve_left q, x.2.1, x.2.2⟩)]
      rw [hval]
      exact ih'
  rw [jl_1189]
  exact loop (gE G).toNat 0 (by omega)
/-- a letter is sent -/
theorem c_SE {o : Nat} (h : cO o) {G : gG} {S : gS} {X : cX} {μ : ax_M} {n e kd lv td st : Int} {y2 y3 y4 y5 : Int32} (hg : hGok G) (hr : hRs G S) (hx : XR G S X) (hn0 : 0 ≤ n) (hn1 : n < 12) (he0 : 0 ≤ e) (he1 : e < gE G) (hsd : gsd G (gwy G n e) = n) (hk0 : 0 ≤ kd) (hk1 : kd < 7) (hL : gnL S < 256) (e2 : y2 = zI kd) (e3 : y3 = zI lv) (e4 : y4 = zI td) (e5 : y5 = zI st) : ∃ X', aJ 1193 [.ref o, .int (zI (gwy G n e)), .int y2, .int y3, .int y4, .int y5] [] (cM o G S X μ) = some (none, cM o G (gse G S n e kd lv td st) X' μ) ∧ XR G (gse G S n e kd lv td st) X' := by
  have h0 := hr.2.2.1
  have hE := hg.2.2.2.1
  have hw := h_wyr (G := G) (n := n) he0 (by omega)
  have h9 := (hr.2.1 n).2.2.2.2.2.2.2
  have c1 := hx.1 _ hw.1 hw.2
  have c1' : nOn S (gwy G n e) ≤ (gnL S).toNat := pct_le
  refine ⟨_, c_se h hg hn0 hn1 he0 he1 hsd hk0 hk1 h0 hL ?_ (zR_of (by omega)) ?_ (zR_of (by omega)) e2 e3 e4 e5, XR_send h0 hw h9.1 hx⟩
  · intro q
    have hgf : gfi S (gwy G n e) ≠ -1 := fun z => q (by rw [c1, (gfi_no h0).mpr z]; rfl)
    have := hx.2.2.1 _ hw.1 hw.2 hgf
    exact ⟨this.1, this.2.1⟩
  · obtain ⟨y0, y1, y2'⟩ := hx.2.2.2.2.2.2.2.2
    rcases y2' with z | ⟨k, k0, k1, k2⟩
    · exact zR_of (by omega)
    · have := (hr.2.2.2 k k0 k1).2.2.2.2.2.2.2
      exact zR_of (by omega)
theorem XR_N {G : gG} {S : gS} {X : cX} {n i v : Int} (h : XR G S X) : XR G (gsN S n i v) X := XR_same (S := S) (S' := gsN S n i v) rfl (fun _ _ => rfl) h
theorem XR_E {G : gG} {S : gS} {X : cX} {w v : Int} (h : XR G S X) : XR G (gsE S w v) X := XR_same (S := S) (S' := gsE S w v) rfl (fun _ _ => rfl) h
theorem glb_inc {G : gG} {S : gS} {n : Int} (hg : hGok G) (h : glb G S n ≠ -1) : gsd G (gwy G n (glb G S n)) = n := by
  rcases h_glb hg S n with h1 | h1
  · exact absurd h1.1 h
  · obtain ⟨_, b, hb, hs, he, _⟩ := h1
    rw [← he, ← hs, h_wy hg hb]
/-- a node asleep is roused -/
theorem c_rouse {o : Nat} (h : cO o) {G : gG} {S : gS} {X : cX} {μ : ax_M} {n : Int} (hg : hGok G) (hw : hGw G) (hr : hRs G S) (hx : XR G S X) (h0 : 0 ≤ n) (h1 : n < 12) (hL : gnL (gwk G S n) ≤ 256) : ∃ X', aJ 1185 [.ref o, .int (zI n)] [] (cM o G S X μ) = some (some (.int (zB (decide (gnd S n 0 = 0)))), cM o G (if gnd S n 0 = 0 then gwk G S n else S) X' μ) ∧ XR G (if gnd S n 0 = 0 then gwk G S n else S) X' := by
  have hE := hg.2.2.2.1
  have rn : zR n := zR_of (by omega)
  have n0 := (hr.2.1 n).1
  rw [jl_1185 _ _ _ h, c_of0 h h0 h1, z_b1, j_eq rfl zl0 (zR_of (by omega)) (zR_of (by omega))]
  by_cases qs : gnd S n 0 = 0
  · rw [if_pos qs, if_pos qs, jl_1186 _ _ _ h, c_nt0 h (v := 2) h0 h1 zl2, z_b0, c_lb (S := gsN S n 0 2) h hg hw hr.1 h0 h1, z_b1]
    have hb := glb_r (G := G) (S := gsN S n 0 2) (n := n) hg.2.2.1
    have hd : decide (gnd S n 0 = 0) = true := by simp [qs]
    rw [hd, j_eq rfl zlm (zR_of (by omega)) (zR_of (by omega))]
    unfold gwk at hL ⊢
    simp only at hL ⊢
    by_cases q : glb G (gsN S n 0 2) n = -1
    · rw [if_pos q, if_pos q, c_nt8 h (v := 1) h0 h1 zl1, z_b0, jl_1188]
      exact ⟨X, rfl, XR_N (XR_N hx)⟩
    · rw [if_neg q] at hL
      rw [hk_gse, hk_gsE, hk_gsN] at hL
      have hz := h_fz hg (e := glb G (gsN S n 0 2) n) (by omega) (by omega)
      have hwr := h_wyr (G := G) (n := n) (e := glb G (gsN S n 0 2) n) (by omega) (by omega)
      have s0 : hRs G (gsN S n 0 2) := rs_gsN hr ⟨fun q => by omega, fun q => by omega, fun q => by omega, fun q => by omega⟩
      rw [if_neg q, if_neg q, jl_1187 _ _ _ _ h, c_wy h (by omega) (by omega) rn hz.1, z_b1, c_sE h (v := 1) hwr.1 hwr.2 zl1, z_b0, c_wy h (by omega) (by omega) rn hz.1, z_b1]
      obtain ⟨X', h2, h3⟩ := c_SE (S := gsE (gsN S n 0 2) (gwy G n (glb G (gsN S n 0 2) n)) 1) (X := X) (μ := μ) (kd := 0) (lv := 0) (td := -1) (st := -1) h hg (rs_gsE s0 (by omega)) (XR_E (XR_N hx)) h0 h1 (by omega) hb.2 (glb_inc hg q) (by omega) (by omega) (by show gnL S < 256; omega) zl0 zl0 zlm zlm
      rw [h2, z_b0, jl_1188]
      exact ⟨X', rfl, h3⟩
  · rw [if_neg qs, if_neg qs]
    have hd : decide (gnd S n 0 = 0) = false := by simp [qs]
    rw [hd]
    exact ⟨X, rfl, hx⟩
