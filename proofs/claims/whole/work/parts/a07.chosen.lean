/-! k: the reference chooses by the RULE -/
def oP (R : gR) (ν : ax_M) : Prop := ν.1 209 62 = zI (rLn R) ∧ ∀ i, 0 ≤ i → i < rLn R → ν.1 209 (63 + 11 * i).toNat = zI (rLa R i) ∧ ν.1 209 (63 + 11 * i + 1).toNat = zI (if rWd R i < 8 then rWd R i else rWd R i + 7) ∧ ∀ c, 0 ≤ c → c < 4 → ν.1 209 (63 + 11 * i + 3 + 2 * c).toNat = zI (if c < rCn R i then rCw R i c - 4 else 0) ∧ ν.1 209 (63 + 11 * i + 3 + 2 * c + 1).toNat = zI (if c < rCn R i then rCv R i c else 0)
theorem oP_fr {R : gR} {l : List Nat} {ν ν' : ax_M} (h : fr l ν ν') (hl : 209 ∉ l) (hk : oP R ν) : oP R ν' := by
  have e := h.2 209 hl
  unfold oP
  rw [e]
  exact hk
theorem q_li {G : gG} {S : gS} {ν : ax_M} (hg : hGok G) (hw : hGw G) (hm : mI G S ν) {e f : Int} (e0 : 0 ≤ e) (e1 : e < gE G) (f0 : 0 ≤ f) (f1 : f < gE G) : aJ 189 [.ref 207, .int (zI e), .int (zI f)] [] ν = some (some (.int (zB (gli G e f))), ν) := by
  have h := m_li (G := G) (S := S) (μ := ν) (e := e) (f := f) hg.2.2.2.1 hw (by omega) e1 (by omega) f1
  rwa [show mM G S ν = ν from hm] at h
theorem q_dm {G : gG} {S : gS} {R : gR} {ν : ax_M} (hg : hGok G) (hw : hGw G) (hv : hV G S) (hR : rok R) (hm : mI G S ν) (ho : oP R ν) {i w : Int} (i0 : 0 ≤ i) (i1 : i < rLn R) (w0 : 0 ≤ w) (w1 : w < 2 * gE G) (hk : gfi S w ≠ -1) (hp : rWd R i < 8) : aJ 309 [.ref 207, .int (zI (gfi S w)), .int (zI (63 + 11 * i))] [] ν = some (some (.int (zB (gmt G S R i w))), ν) := by
  have hE := hg.2.2.2.1
  have hN := hg.2.1
  have hcn := h_cnt hg hv.1 (by omega)
  have hL : gnL S ≤ 256 := by omega
  rcases h_gfi (S := S) (w := w) hcn.1 with y | y
  · exact absurd y.1 hk
  have hlt := hv.2.2.1.2.2.2 _ y.1 y.2.1
  have y1 := y.2.2.2.1
  have hR0 := hR.1
  have hsd := h_sdr hg (w := w) ⟨w0, w1⟩
  have hop := h_opW (G := G) (w := w) ⟨w0, w1⟩
  have hsd2 : 0 ≤ grc G w ∧ grc G w < gN G := h_sdr hg hop.1
  have hwt := hw (w / 2) (by omega) (by omega)
  obtain ⟨r1, r2, r3, r4⟩ := hR.2 i i0 i1
  obtain ⟨o1, o2, o3⟩ := ho.2 i i0 i1
  have loop : ∀ (m c : Nat), c + m = 4 → (∀ d, d ≤ c → (d : Int) ≤ rCn R i → gmC G S R i w d = true) → aJ 311 [.ref 207, .int (zI (gfi S w)), .int (zI (63 + 11 * i)), .int (zI w), .int (zI (63 + 11 * i + 3 + 2 * c))] [] ν = some (some (.int (zB (gmC G S R i w (rCn R i).toNat))), ν) := by
    intro m
    induction m with
    | zero =>
      intro c hc ht
      rw [jl_311]
      simp (disch := omega) only [zI_lit, zI_add, p_le]
      rw [if_pos (by omega), jl_318, ht (rCn R i).toNat (by omega) (by omega)]
      rfl
    | succ m ih =>
      intro c hc ht
      obtain ⟨c3, c4⟩ := o3 c (by omega) (by omega)
      have nxt : zI (63 + 11 * i + 3 + 2 * (c : Int)) + zI 2 = zI (63 + 11 * i + 3 + 2 * ((c + 1 : Nat) : Int)) := by
        rw [zI_add]
        exact congrArg zI (by omega)
      by_cases qc : (c : Int) < rCn R i
      · rw [if_pos qc] at c3 c4
        obtain ⟨s1, s2⟩ := r4 c (by omega) (by omega)
        have fin0 : ghl G S w (rCw R i c) (rCv R i c) = false → (0 : Int32) = zB (gmC G S R i w (rCn R i).toNat) := by
          intro q
          have hf : ∀ d : Nat, gmC G S R i w (c + 1 + d) = false := by
            intro d
            induction d with
            | zero => simp [gmC, q]
            | succ d ihd => rw [show c + 1 + (d + 1) = c + 1 + d + 1 by omega, gmC, ihd]; rfl
          rw [show (rCn R i).toNat = c + 1 + ((rCn R i).toNat - c - 1) by omega, hf]
          rfl
        have fin1 : ghl G S w (rCw R i c) (rCv R i c) = true → aJ 317 [.ref 207, .int (zI (gfi S w)), .int (zI (63 + 11 * i)), .int (zI w), .int (zI (63 + 11 * i + 3 + 2 * c))] [] ν = some (some (.int (zB (gmC G S R i w (rCn R i).toNat))), ν) := by
          intro q
          rw [jl_317]
          simp only [zI_lit]
          rw [nxt]
          refine ih (c + 1) (by omega) ?_
          intro d hd hd2
          by_cases z : d = c + 1
          · rw [z, gmC, ht c (Nat.le_refl _) (by omega), q]
            rfl
          · exact ht d (by omega) hd2
        have hrs := q_rsd hm w0 (show w < 60 by omega)
        have hrr := q_rrc hm w0 (show w < 60 by omega)
        have hlv := q_lt hm hL y.1 y.2.1 (f := 2) (by omega) (by omega)
        have hww := q_rwt hm (i := w / 2) (by omega) (by omega)
        rw [jl_311]
        simp (disch := omega) only [zI_lit, zI_add, p_le, ld_209, c3, c4, z_bo, p_eq]
        rw [if_neg (by omega)]
        unfold ghl at fin0 fin1
        by_cases q1 : rCw R i c = 15
        · rw [if_pos q1] at fin0 fin1
          rw [if_pos (by omega)]
          simp (disch := omega) only [hrs, z_b1, p_eq]
          by_cases q : gsd G w = rCv R i c
          · have f1 := fin1 (by simp [q])
            rw [if_pos q, jl_312]
            simp (disch := omega) only [zI_lit, ld_209, c3, z_bo, p_eq]
            rw [if_neg (by omega), jl_314]
            simp (disch := omega) only [zI_lit, ld_209, c3, z_bo, p_eq]
            rw [if_neg (by omega), jl_315]
            simp (disch := omega) only [zI_lit, ld_209, c3, z_bo, p_eq]
            rw [if_neg (by omega)]
            exact f1
          · rw [if_neg q, jl_313, fin0 (by simp [q])]
        rw [if_neg q1] at fin0 fin1
        rw [if_neg (by omega), jl_312]
        simp (disch := omega) only [zI_lit, ld_209, c3, z_bo, p_eq]
        by_cases q2 : rCw R i c = 16
        · rw [if_pos q2] at fin0 fin1
          rw [if_pos (by omega)]
          simp (disch := omega) only [hrr, z_b1, p_eq]
          by_cases q : grc G w = rCv R i c
          · have f1 := fin1 (by simp [q])
            rw [if_pos q, jl_314]
            simp (disch := omega) only [zI_lit, ld_209, c3, z_bo, p_eq]
            rw [if_neg (by omega), jl_315]
            simp (disch := omega) only [zI_lit, ld_209, c3, z_bo, p_eq]
            rw [if_neg (by omega)]
            exact f1
          · rw [if_neg q, jl_313, fin0 (by simp [q])]
        rw [if_neg q2] at fin0 fin1
        rw [if_neg (by omega), jl_314]
        simp (disch := omega) only [zI_lit, ld_209, c3, z_bo, p_eq]
        by_cases q3 : rCw R i c = 17
        · rw [if_pos q3] at fin0 fin1
          rw [if_pos (by omega)]
          simp (disch := omega) only [hlv, z_b1, p_eq]
          by_cases q : glt S (gfi S w) 2 = rCv R i c
          · have f1 := fin1 (by simp [q])
            rw [if_pos q, jl_315]
            simp (disch := omega) only [zI_lit, ld_209, c3, z_bo, p_eq]
            rw [if_neg (by omega)]
            exact f1
          · rw [if_neg q, jl_316, fin0 (by simp [q])]
        rw [if_neg q3] at fin0 fin1
        rw [if_neg (by omega), jl_315]
        simp (disch := omega) only [zI_lit, ld_209, c3, z_bo, p_eq]
        rw [if_pos (by omega)]
        simp (disch := omega) only [zI_hlf, zI_add, ld_209, hww, z_bo, p_lt]
        by_cases q : rCv R i c < gwt G (w / 2)
        · rw [if_pos q]
          exact fin1 (by simp [q])
        · rw [if_neg q, jl_316, fin0 (by simp [q])]
      · rw [if_neg qc] at c3 c4
        rw [jl_311]
        simp (disch := omega) only [zI_lit, zI_add, p_le, ld_209, c3, c4, z_bo, p_eq]
        rw [if_neg (by omega), if_neg (by omega), jl_312]
        simp (disch := omega) only [zI_lit, ld_209, c3, z_bo, p_eq]
        rw [if_neg (by omega), jl_314]
        simp (disch := omega) only [zI_lit, ld_209, c3, z_bo, p_eq]
        rw [if_neg (by omega), jl_315]
        simp (disch := omega) only [zI_lit, ld_209, c3, z_bo, p_eq]
        rw [if_neg (by omega), jl_317]
        simp only [zI_lit]
        rw [nxt]
        refine ih (c + 1) (by omega) ?_
        intro d hd hd2
        exact ht d (by omega) hd2
  rw [if_pos hp] at o2
  have h310 : decide (rWd R i = 7 ∨ rWd R i = glt S (gfi S w) 0) = true → aJ 310 [.ref 207, .int (zI (gfi S w)), .int (zI (63 + 11 * i))] [] ν = some (some (.int (zB (gmt G S R i w))), ν) := by
    intro q
    unfold gmt
    rw [q, Bool.true_and, jl_310]
    simp (disch := omega) only [zI_lit, q_lt hm hL, z_b1, zI_add]
    rw [y1]
    have := loop 4 0 (by omega) (fun d hd _ => by rw [show d = 0 by omega]; rfl)
    rw [show 63 + 11 * i + 3 + 2 * ((0 : Nat) : Int) = 63 + 11 * i + 3 by omega] at this
    exact this
  rw [jl_309]
  simp (disch := omega) only [zI_lit, zI_add, ld_209, o2, z_bo, p_eq]
  by_cases q7 : rWd R i = 7
  · rw [if_pos q7]
    exact h310 (by simp [q7])
  · rw [if_neg q7]
    simp (disch := omega) only [q_lt hm hL, z_b1, p_eq]
    by_cases qk : rWd R i = glt S (gfi S w) 0
    · rw [if_pos qk]
      exact h310 (by simp [qk])
    · rw [if_neg qk]
      unfold gmt
      rw [show decide (rWd R i = 7 ∨ rWd R i = glt S (gfi S w) 0) = false by simp [q7, qk]]
      rfl
/-- one letter is better than another one by a word -/
theorem q_btr {G : gG} {S : gS} {R : gR} {ν : ax_M} (hg : hGok G) (hw : hGw G) (hv : hV G S) (hR : rok R) (hm : mI G S ν) {i v w : Int} (i0 : 0 ≤ i) (i1 : i < rLn R) (v0 : 0 ≤ v) (v1 : v < 2 * gE G) (hkv : gfi S v ≠ -1) (w0 : 0 ≤ w) (w1 : w < 2 * gE G) (hk : gfi S w ≠ -1) (hp : ¬ rWd R i < 8) : aJ 319 [.ref 207, .int (zI (rWd R i + 7)), .int (zI (gfi S v)), .int (zI (gfi S w))] [] ν = some (some (.int (zB (decide (ggr G S R i v < ggr G S R i w)))), ν) := by
  have hE := hg.2.2.2.1
  have hcn := h_cnt hg hv.1 (by omega)
  have hL : gnL S ≤ 256 := by omega
  rcases h_gfi (S := S) (w := w) hcn.1 with y | y
  · exact absurd y.1 hk
  rcases h_gfi (S := S) (w := v) hcn.1 with x | x
  · exact absurd x.1 hkv
  have hlt := hv.2.2.1.2.2.2 _ y.1 y.2.1
  have hlv := hv.2.2.1.2.2.2 _ x.1 x.2.1
  have y1 := y.2.2.2.1
  have x1 := x.2.2.2.1
  have hwt := hw (w / 2) (by omega) (by omega)
  have hwv := hw (v / 2) (by omega) (by omega)
  obtain ⟨r1, r2, r3, r4⟩ := hR.2 i i0 i1
  have ret1 : ∀ (l : Nat), (∀ (s : Int32), aJ l [] [.int s] ν = if s = 0 ∨ s = 1 then some (some (.int s), ν) else none) → aJ l [] [.int 1] ν = some (some (.int (zB true)), ν) := fun l e => by rw [e, if_pos (Or.inr rfl)]; rfl
  have ret0 : ∀ (l : Nat), (∀ (s : Int32), aJ l [] [.int s] ν = if s = 0 ∨ s = 1 then some (some (.int s), ν) else none) → aJ l [] [.int 0] ν = some (some (.int (zB false)), ν) := fun l e => by rw [e, if_pos (Or.inl rfl)]; rfl
  have zb01 : ∀ b : Bool, zB b = 0 ∨ zB b = 1 := by decide
  have a1 := q_lt hm hL x.1 x.2.1 (f := 1) (by omega) (by omega)
  have a2 := q_lt hm hL y.1 y.2.1 (f := 1) (by omega) (by omega)
  have b1 := q_lt hm hL x.1 x.2.1 (f := 2) (by omega) (by omega)
  have b2 := q_lt hm hL y.1 y.2.1 (f := 2) (by omega) (by omega)
  rw [x1] at a1
  rw [y1] at a2
  rw [jl_319]
  simp (disch := omega) only [zI_lit, a1, a2, z_b1, p_eq]
  unfold ggr
  by_cases q8 : rWd R i = 8
  · rw [if_pos (by omega), if_pos q8, if_pos q8, jl_320]
    simp (disch := omega) only [p_le]
    by_cases q : gfi S w ≤ gfi S v
    · rw [if_pos q, jl_321, ret0 322 (fun s => jl_322 s ν), show decide (gfi S v < gfi S w) = false by simp; omega]
    · rw [if_neg q, ret1 322 (fun s => jl_322 s ν), show decide (gfi S v < gfi S w) = true by simp; omega]
  rw [if_neg (by omega), if_neg q8, if_neg q8]
  by_cases q9 : rWd R i = 9
  · rw [if_pos (by omega), if_pos q9, if_pos q9, jl_323]
    simp (disch := omega) only [p_le]
    by_cases q : gfi S v ≤ gfi S w
    · rw [if_pos q, jl_324, ret0 325 (fun s => jl_325 s ν), show decide (-gfi S v < -gfi S w) = false by simp; omega]
    · rw [if_neg q, ret1 325 (fun s => jl_325 s ν), show decide (-gfi S v < -gfi S w) = true by simp; omega]
  rw [if_neg (by omega), if_neg q9, if_neg q9]
  by_cases q10 : rWd R i = 10
  · have hl : gli G (v / 2) (w / 2) = decide (gwt G (v / 2) * 30 + v / 2 < gwt G (w / 2) * 30 + w / 2) := by
      have h1 := gli_lo (G := G) (e := v / 2) (f := w / 2) (by omega) (by omega)
      have h2 := lo_key (G := G) (e := v / 2) (f := w / 2) (by omega) (by omega) (by omega) (by omega)
      rw [Bool.eq_iff_iff, h1, h2]
      simp
    rw [if_pos (by omega), if_pos q10, if_pos q10, zI_hlf v0 (by omega), zI_hlf w0 (by omega), jl_326, q_li hg hw hm (by omega) (by omega) (by omega) (by omega), z_b1, if_pos (zb01 _), hl]
  rw [if_neg (by omega), if_neg q10, if_neg q10]
  by_cases q11 : rWd R i = 11
  · have hl : gli G (w / 2) (v / 2) = decide (-(gwt G (v / 2) * 30 + v / 2) < -(gwt G (w / 2) * 30 + w / 2)) := by
      have h1 := gli_lo (G := G) (e := w / 2) (f := v / 2) (by omega) (by omega)
      have h2 := lo_key (G := G) (e := w / 2) (f := v / 2) (by omega) (by omega) (by omega) (by omega)
      rw [Bool.eq_iff_iff, h1, h2]
      simp
    rw [if_pos (by omega), if_pos q11, if_pos q11, zI_hlf v0 (by omega), zI_hlf w0 (by omega), jl_327, q_li hg hw hm (by omega) (by omega) (by omega) (by omega), z_b1, if_pos (zb01 _), hl]
  rw [if_neg (by omega), if_neg q11, if_neg q11]
  by_cases q12 : rWd R i = 12
  · rw [if_pos (by omega), if_pos q12, if_pos q12, jl_328]
    simp (disch := omega) only [zI_lit, b1, b2, z_b1, p_le]
    by_cases q : glt S (gfi S w) 2 ≤ glt S (gfi S v) 2
    · have r := ret0 330 (fun s => jl_330 s ν)
      rw [if_pos q, jl_329, r, show decide (glt S (gfi S v) 2 < glt S (gfi S w) 2) = false by simp; omega]
    · have r := ret1 330 (fun s => jl_330 s ν)
      rw [if_neg q, show zI 1 = (1 : Int32) from rfl, r, show decide (glt S (gfi S v) 2 < glt S (gfi S w) 2) = true by simp; omega]
  rw [if_neg (by omega), if_neg q12, if_neg q12, if_pos (by omega), if_pos (by omega), jl_331]
  simp (disch := omega) only [zI_lit, b1, b2, z_b1, p_le]
  by_cases q : glt S (gfi S v) 2 ≤ glt S (gfi S w) 2
  · have r := ret0 333 (fun s => jl_333 s ν)
    rw [if_pos q, jl_332, r, show decide (-glt S (gfi S v) 2 < -glt S (gfi S w) 2) = false by simp; omega]
  · have r := ret1 333 (fun s => jl_333 s ν)
    rw [if_neg q, show zI 1 = (1 : Int32) from rfl, r, show decide (-glt S (gfi S v) 2 < -glt S (gfi S w) 2) = true by simp; omega]
/-- a row of booleans -/
def bP (ν : ax_M) (a : Nat) (n : Int) (P : Int → Prop) : Prop := ∀ w, 0 ≤ w → w < n → (P w ∧ ν.1 a w.toNat = zI 1) ∨ (¬ P w ∧ ν.1 a w.toNat = zI 0)
theorem bP_fr {l : List Nat} {ν ν' : ax_M} {a : Nat} {n : Int} {P : Int → Prop} (h : fr l ν ν') (hl : a ∉ l) (hr : bP ν a n P) : bP ν' a n P := by
  intro i i0 i1
  rw [h.2 a hl]
  exact hr i i0 i1
theorem bP_push {ν : ax_M} {a : Nat} {n : Int} {x : Int32} {P : Int → Prop} (h : bP ν a n P) (h0 : 0 ≤ n) (hx : (P n ∧ x = zI 1) ∨ (¬ P n ∧ x = zI 0)) : bP (ax_up ν.1 a n.toNat x, ν.2) a (n + 1) P := by
  intro i i0 i1
  show (P i ∧ ax_up ν.1 a n.toNat x a i.toNat = zI 1) ∨ (¬ P i ∧ ax_up ν.1 a n.toNat x a i.toNat = zI 0)
  by_cases q : i = n
  · rw [q, up_at]
    exact hx
  · rw [up_nk (by omega)]
    exact h i i0 (by omega)
theorem bP_congr {ν : ax_M} {a : Nat} {n : Int} {P Q : Int → Prop} (h : bP ν a n P) (hq : ∀ w, 0 ≤ w → w < n → (Q w ↔ P w)) : bP ν a n Q := by
  intro i i0 i1
  rcases h i i0 i1 with z | z
  · exact Or.inl ⟨(hq i i0 i1).mpr z.1, z.2⟩
  · exact Or.inr ⟨fun c => z.1 ((hq i i0 i1).mp c), z.2⟩
theorem nb0 : vp_nar .boolean (zI 0) = zI 0 := by decide
theorem nb1 : vp_nar .boolean (zI 1) = zI 1 := by decide
