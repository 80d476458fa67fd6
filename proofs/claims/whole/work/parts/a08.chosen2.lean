/-! k: the reference's choice -/
theorem lf_min {G : gG} {S : gS} {R : gR} (i : Nat) : ∀ (m : Nat) (w : Int), gLf G S R i w → ggr G S R i w + 100000 < m → ∃ v, gLf G S R i v ∧ ∀ u, gLf G S R i u → -100000 ≤ ggr G S R i u → ggr G S R i v ≤ ggr G S R i u := by
  intro m
  induction m with
  | zero =>
    intro w hw hm
    exact ⟨w, hw, fun u _ h => by omega⟩
  | succ m ih =>
    intro w hw hm
    by_cases q : ∃ u, gLf G S R i u ∧ ggr G S R i u < ggr G S R i w
    · obtain ⟨u, u1, u2⟩ := q
      exact ih u u1 (by omega)
    · refine ⟨w, hw, ?_⟩
      intro u hu _
      by_cases c : ggr G S R i u < ggr G S R i w
      · exact absurd ⟨u, hu, c⟩ q
      · omega
theorem gr_r {G : gG} {S : gS} {R : gR} (hg : hGok G) (hw : hGw G) (hv : hV G S) {i w : Int} (w0 : 0 ≤ w) (w1 : w < 2 * gE G) (hk : gfi S w ≠ -1) : -100000 ≤ ggr G S R i w ∧ ggr G S R i w ≤ 100000 := by
  have hE := hg.2.2.2.1
  have hcn := h_cnt hg hv.1 (by omega)
  rcases h_gfi (S := S) (w := w) hcn.1 with y | y
  · exact absurd y.1 hk
  have hlt := hv.2.2.1.2.2.2 _ y.1 y.2.1
  have hwt := hw (w / 2) (by omega) (by omega)
  unfold ggr
  repeat' split
  all_goals omega
/-- the line's good ones -/
def gGd (G : gG) (S : gS) (R : gR) (i : Nat) (w : Int) : Prop := gLf G S R i w ∧ (if rWd R i < 8 then ggr G S R i w = 0 else ∀ v, gLf G S R i v → ¬ ggr G S R i v < ggr G S R i w)
theorem pat_gr {G : gG} {S : gS} {R : gR} {i w : Int} (h : rWd R i < 8) : ggr G S R i w = if gmt G S R i w = decide (rLa R i = 0) then 0 else 1 := by
  unfold ggr
  rw [if_neg (by omega), if_neg (by omega), if_neg (by omega), if_neg (by omega), if_neg (by omega), if_neg (by omega)]
theorem gd_any {G : gG} {S : gS} {R : gR} (hg : hGok G) (hw : hGw G) (hv : hV G S) {i : Nat} (h : ∃ w, gGd G S R i w) (w : Int) : gLf G S R (i + 1) w ↔ gGd G S R i w := by
  show (gLf G S R i w ∧ _) ↔ _
  unfold gGd at h ⊢
  by_cases q : rWd R i < 8
  · simp only [if_pos q] at h ⊢
    obtain ⟨u, u1, u2⟩ := h
    have h01 : ∀ x, ggr G S R i x = 0 ∨ ggr G S R i x = 1 := by
      intro x
      rw [pat_gr q]
      split
      · exact Or.inl rfl
      · exact Or.inr rfl
    constructor
    · rintro ⟨z1, z2⟩
      refine ⟨z1, ?_⟩
      have a := z2 u u1
      have b := h01 w
      omega
    · rintro ⟨z1, z2⟩
      refine ⟨z1, fun v _ => ?_⟩
      have b := h01 v
      omega
  · simp only [if_neg q]
    constructor
    · rintro ⟨z1, z2⟩
      exact ⟨z1, fun v hv => by have := z2 v hv; omega⟩
    · rintro ⟨z1, z2⟩
      exact ⟨z1, fun v hv => by have := z2 v hv; omega⟩
theorem gd_none {G : gG} {S : gS} {R : gR} (hg : hGok G) (hw : hGw G) (hv : hV G S) {i : Nat} (h : ∀ w, ¬ gGd G S R i w) (w : Int) : gLf G S R (i + 1) w ↔ gLf G S R i w := by
  show (gLf G S R i w ∧ _) ↔ _
  refine ⟨fun z => z.1, fun z => ⟨z, ?_⟩⟩
  unfold gGd at h
  by_cases q : rWd R i < 8
  · simp only [if_pos q] at h
    intro v hv
    have a := h w
    have b := h v
    have c1 : ggr G S R i w = 1 := by
      have e := pat_gr (G := G) (S := S) (w := w) q
      by_cases z1 : gmt G S R i w = decide (rLa R i = 0)
      · rw [if_pos z1] at e
        exact absurd ⟨z, e⟩ a
      · rw [if_neg z1] at e
        exact e
    have c2 : ggr G S R i v = 1 := by
      have e := pat_gr (G := G) (S := S) (w := v) q
      by_cases z1 : gmt G S R i v = decide (rLa R i = 0)
      · rw [if_pos z1] at e
        exact absurd ⟨hv, e⟩ b
      · rw [if_neg z1] at e
        exact e
    omega
  · simp only [if_neg q] at h
    exfalso
    have hr := lf_r i z
    have hgr := gr_r (R := R) (i := (i : Int)) hg hw hv hr.1 hr.2.1 hr.2.2
    obtain ⟨v, v1, v2⟩ := lf_min (G := G) (S := S) (R := R) i (ggr G S R i w + 100001).toNat w z (by omega)
    refine h v ⟨v1, fun u hu => ?_⟩
    have hr2 := lf_r i hu
    have hgr2 := gr_r (R := R) (i := (i : Int)) hg hw hv hr2.1 hr2.2.1 hr2.2.2
    have := v2 u hu hgr2.1
    omega
theorem q_bst {G : gG} {S : gS} {R : gR} {ν : ax_M} (hg : hGok G) (hw : hGw G) (hv : hV G S) (hR : rok R) (hm : mI G S ν) (ho : oP R ν) (h223 : rP ν 223 60 (gfi S)) {i : Nat} (i1 : (i : Int) < rLn R) (hb : bP ν 221 (2 * gE G) (gLf G S R i)) {w : Int} (hl : gLf G S R i w) : ∃ b, aJ 334 [.ref 207, .int (zI w), .int (zI (63 + 11 * i)), .int (zI (2 * gE G))] [] ν = some (some (.int (zB b)), ν) ∧ (b = true ↔ gGd G S R i w) := by
  have hE := hg.2.2.2.1
  obtain ⟨w0, w1, hk⟩ := lf_r i hl
  have hR0 := hR.1
  have hcn := h_cnt hg hv.1 (by omega)
  have hgw : -1 ≤ gfi S w ∧ gfi S w < 256 := by rcases h_gfi (S := S) (w := w) hcn.1 with y | y <;> omega
  obtain ⟨r1, r2, r3, r4⟩ := hR.2 i (by omega) i1
  obtain ⟨o1, o2, o3⟩ := ho.2 i (by omega) i1
  have z0 : (0 : Int32) = zI 0 := rfl
  by_cases q : rWd R i < 8
  · have hdm := q_dm hg hw hv hR hm ho (i := (i : Int)) (by omega) i1 w0 w1 hk q
    have hpg := pat_gr (G := G) (S := S) (w := w) q
    rw [if_pos q] at o2
    refine ⟨decide (gmt G S R i w = decide (rLa R i = 0)), ?_, ?_⟩
    · rw [jl_334]
      simp (disch := omega) only [ld_223, rP_at h223, z_bo, zI_lit, zI_add, ld_209, o2, p_le]
      rw [if_neg (by omega), hdm, z_b1]
      simp (disch := omega) only [ld_209, o1, z_bo, p_eq]
      by_cases ql : rLa R i = 0
      · rw [if_pos ql, jl_336]
        cases gmt G S R i w
        · rw [if_neg (by decide), jl_337, jl_338, if_pos (Or.inl rfl), show decide (rLa R i = 0) = true by simp [ql]]
          rfl
        · rw [if_pos (by decide), jl_338, if_pos (Or.inr rfl), show decide (rLa R i = 0) = true by simp [ql]]
          rfl
      · rw [if_neg ql, jl_335, jl_336]
        cases gmt G S R i w
        · rw [if_pos (by decide), jl_338, if_pos (Or.inr rfl), show decide (rLa R i = 0) = false by simp [ql]]
          rfl
        · rw [if_neg (by decide), jl_337, jl_338, if_pos (Or.inl rfl), show decide (rLa R i = 0) = false by simp [ql]]
          rfl
    · unfold gGd
      rw [if_pos q, hpg, decide_eq_true_iff]
      constructor
      · intro z
        exact ⟨hl, by rw [if_pos z]⟩
      · rintro ⟨_, z⟩
        by_cases c : gmt G S R i w = decide (rLa R i = 0)
        · exact c
        · rw [if_neg c] at z
          omega
  · rw [if_neg q] at o2
    have loop : ∀ (m : Nat) (v : Int), 0 ≤ v → v + m = 2 * gE G → (∀ u, u < v → gLf G S R i u → ¬ ggr G S R i u < ggr G S R i w) → ∃ b, aJ 340 [.ref 207, .int (zI (63 + 11 * i)), .int (zI (2 * gE G)), .int (zI (gfi S w)), .int (zI v)] [] ν = some (some (.int (zB b)), ν) ∧ (b = true ↔ ∀ u, gLf G S R i u → ¬ ggr G S R i u < ggr G S R i w) := by
      intro m
      induction m with
      | zero =>
        intro v v0 v1 hu
        refine ⟨true, ?_, ⟨fun _ u z => hu u (by have := (lf_r i z).2.1; omega) z, fun _ => rfl⟩⟩
        rw [jl_340]
        simp (disch := omega) only [p_le]
        rw [if_pos (by omega), jl_342]
        rfl
      | succ m ih =>
        intro v v0 v1 hu
        rcases hb v v0 (by omega) with ⟨z1, z2⟩ | ⟨z1, z2⟩
        · obtain ⟨_, _, hkv⟩ := lf_r i z1
          have hbt := q_btr hg hw hv hR hm (i := (i : Int)) (by omega) i1 v0 (by omega) hkv w0 w1 hk q
          by_cases c : ggr G S R i v < ggr G S R i w
          · refine ⟨false, ?_, ⟨fun e => (by cases e), fun e => absurd c (e v z1)⟩⟩
            rw [jl_340]
            simp (disch := omega) only [p_le, ld_221, z2, z_bo, zI_lit, p_eq, zI_add, ld_209, o2, ld_223, rP_at h223, hbt, z_b1]
            rw [if_neg (by omega), if_neg (by omega), show decide (ggr G S R i v < ggr G S R i w) = true by simp [c], if_neg (by decide)]
            rfl
          · obtain ⟨b, b1, b2⟩ := ih (v + 1) (by omega) (by omega) (fun u u1 uz => by
              by_cases e : u = v
              · rw [e]; exact c
              · exact hu u (by omega) uz)
            refine ⟨b, ?_, b2⟩
            rw [jl_340]
            simp (disch := omega) only [p_le, ld_221, z2, z_bo, zI_lit, p_eq, zI_add, ld_209, o2, ld_223, rP_at h223, hbt, z_b1]
            rw [if_neg (by omega), if_neg (by omega), show decide (ggr G S R i v < ggr G S R i w) = false by simp; omega, if_pos (by decide), jl_341]
            simp only [zI_lit, zI_add]
            exact b1
        · obtain ⟨b, b1, b2⟩ := ih (v + 1) (by omega) (by omega) (fun u u1 uz => by
            by_cases e : u = v
            · rw [e] at uz
              exact absurd uz z1
            · exact hu u (by omega) uz)
          refine ⟨b, ?_, b2⟩
          rw [jl_340]
          simp (disch := omega) only [p_le, ld_221, z2, z_bo, zI_lit, p_eq]
          rw [if_neg (by omega), if_pos True.intro, jl_341]
          simp only [zI_lit, zI_add]
          exact b1
    obtain ⟨b, b1, b2⟩ := loop (2 * gE G).toNat 0 (by omega) (by have := hg.2.2.1; omega) (fun u u1 uz => by have := (lf_r i uz).1; omega)
    refine ⟨b, ?_, ?_⟩
    · rw [jl_334]
      simp (disch := omega) only [ld_223, rP_at h223, z_bo, zI_lit, zI_add, ld_209, o2, p_le]
      rw [if_pos (by omega), jl_339]
      simp only [zI_lit]
      exact b1
    · rw [b2]
      unfold gGd
      rw [if_neg q]
      exact ⟨fun z => ⟨hl, z⟩, fun z => z.2⟩
def crL : List Nat := [221, 222, 223]
theorem q_cr1 {G : gG} {S : gS} {R : gR} (hg : hGok G) (hw : hGw G) (hv : hV G S) (hR : rok R) {i : Nat} (i1 : (i : Int) < rLn R) : ∀ (m : Nat) (v : Int) (a : Bool) (ν : ax_M), 0 ≤ v → v + m = 2 * gE G → mI G S ν → oP R ν → rP ν 223 60 (gfi S) → bP ν 221 (2 * gE G) (gLf G S R i) → bP ν 222 v (gGd G S R i) → (a = true ↔ ∃ u, 0 ≤ u ∧ u < v ∧ gGd G S R i u) → ∃ ν' a', aJ 349 [.ref 207, .int (zI (2 * gE G)), .int (zI i), .int (zB a), .int (zI v)] [] ν = aJ 355 [.ref 207, .int (zI (2 * gE G)), .int (zI i), .int (zB a')] [] ν' ∧ bP ν' 222 (2 * gE G) (gGd G S R i) ∧ (a' = true ↔ ∃ u, gGd G S R i u) ∧ fr [222] ν ν' := by
  have hE := hg.2.2.2.1
  have hR0 := hR.1
  have zb0 : ∀ b : Bool, (zB b = 0) = (b = false) := by intro b; cases b <;> simp [zB]
  intro m
  induction m with
  | zero =>
    intro v a ν v0 v1 hm ho h223 hb hb2 ha
    refine ⟨ν, a, ?_, by rw [show 2 * gE G = v by omega]; exact hb2, ha.trans ⟨fun ⟨u, _, _, z⟩ => ⟨u, z⟩, fun ⟨u, z⟩ => ⟨u, (lf_r i z.1).1, by have := (lf_r i z.1).2.1; omega, z⟩⟩, frz⟩
    rw [jl_349]
    simp (disch := omega) only [p_le]
    rw [if_pos (by omega)]
  | succ m ih =>
    intro v a ν v0 v1 hm ho h223 hb hb2 ha
    have step : ∀ (b : Bool), (b = true ↔ gGd G S R i v) → aJ 349 [.ref 207, .int (zI (2 * gE G)), .int (zI i), .int (zB a), .int (zI v)] [] ν = aJ 351 [.ref 207, .int (zI (2 * gE G)), .int (zI i), .int (zB a), .int (zI v)] [.int (zB b), .int (zI v), .ref 222] ν → ∃ ν' a', aJ 349 [.ref 207, .int (zI (2 * gE G)), .int (zI i), .int (zB a), .int (zI v)] [] ν = aJ 355 [.ref 207, .int (zI (2 * gE G)), .int (zI i), .int (zB a')] [] ν' ∧ bP ν' 222 (2 * gE G) (gGd G S R i) ∧ (a' = true ↔ ∃ u, gGd G S R i u) ∧ fr [222] ν ν' := by
      intro b hbg e
      have hzz : zB b = zI (if b = true then 1 else 0) := (iB).symm
      have hnb : vp_nar .boolean (zB b) = zB b := by cases b <;> decide
      have f1 : fr [222] ν (ax_up ν.1 222 v.toNat (zB b), ν.2) := fru (by decide)
      have hb2' : bP (ax_up ν.1 222 v.toNat (zB b), ν.2) 222 (v + 1) (gGd G S R i) := bP_push hb2 v0 (by
        cases b
        · exact Or.inr ⟨fun z => (by have := hbg.mpr z; cases this), rfl⟩
        · exact Or.inl ⟨hbg.mp rfl, rfl⟩)
      obtain ⟨ν', a', e1, e2, e3, e4⟩ := ih (v + 1) (a || b) _ (by omega) (by omega) (mI_fr f1 (by decide) hm) (oP_fr f1 (by decide) ho) (fr_rP f1 (by decide) h223) (bP_fr f1 (by decide) hb) hb2' (by
        rw [Bool.or_eq_true, ha, hbg]
        constructor
        · rintro (⟨u, u0, u1, z⟩ | z)
          · exact ⟨u, u0, by omega, z⟩
          · exact ⟨v, v0, by omega, z⟩
        · rintro ⟨u, u0, u1, z⟩
          by_cases c : u = v
          · rw [c] at z
            exact Or.inr z
          · exact Or.inl ⟨u, u0, by omega, z⟩)
      refine ⟨ν', a', ?_, e2, e3, frt f1 e4⟩
      rw [e, jl_351]
      simp (disch := omega) only [st_222, hnb, z_bo, ld_222]
      have hld : ax_up ν.1 222 v.toNat (zB b) 222 v.toNat = zB b := up_at
      simp only [hld, zb0]
      rw [← e1]
      cases a
      · cases b
        · rw [if_pos rfl, if_pos rfl, jl_353, jl_354]
          simp only [zI_lit, zI_add]
          rfl
        · rw [if_pos rfl, if_neg (by decide), jl_352, jl_354]
          simp only [zI_lit, zI_add]
          rfl
      · rw [if_neg (by decide), jl_352, jl_354]
        simp only [zI_lit, zI_add]
        rfl
    rcases hb v v0 (by omega) with ⟨z1, z2⟩ | ⟨z1, z2⟩
    · obtain ⟨b, b1, b2⟩ := q_bst hg hw hv hR hm ho h223 i1 hb z1
      refine step b b2 ?_
      rw [jl_349]
      simp (disch := omega) only [p_le, ld_221, z2, z_bo, zI_lit, p_eq, zI_add, zI_mul, b1, z_b1]
      rw [if_neg (by omega), if_neg (by omega)]
      cases b
      · rw [if_pos (by decide), jl_350]
        rfl
      · rw [if_neg (by decide)]
        rfl
    · refine step false ⟨fun e => (by cases e), fun e => absurd e.1 z1⟩ ?_
      rw [jl_349]
      simp (disch := omega) only [p_le, ld_221, z2, z_bo, zI_lit, p_eq]
      rw [if_neg (by omega), if_pos True.intro, jl_350]
      rfl
theorem q_cr2 {G : gG} {S : gS} {R : gR} (hg : hGok G) {i : Nat} : ∀ (m : Nat) (v : Int) (ν : ax_M), 0 ≤ v → v + m = 2 * gE G → bP ν 222 (2 * gE G) (gGd G S R i) → bP ν 221 v (gGd G S R i) → ∃ ν', aJ 356 [.ref 207, .int (zI (2 * gE G)), .int (zI i), .int (zB true), .int (zI v)] [] ν = aJ 357 [.ref 207, .int (zI (2 * gE G)), .int (zI i)] [] ν' ∧ bP ν' 221 (2 * gE G) (gGd G S R i) ∧ fr [221] ν ν' := by
  have hE := hg.2.2.2.1
  intro m
  induction m with
  | zero =>
    intro v ν v0 v1 hb2 hb
    refine ⟨ν, ?_, by rw [show 2 * gE G = v by omega]; exact hb, frz⟩
    rw [jl_356]
    simp (disch := omega) only [p_le]
    rw [if_pos (by omega)]
  | succ m ih =>
    intro v ν v0 v1 hb2 hb
    have hv := hb2 v v0 (by omega)
    have hx : ∃ x : Int, ν.1 222 v.toNat = zI x ∧ vp_nar .boolean (zI x) = zI x ∧ ((gGd G S R i v ∧ zI x = zI 1) ∨ (¬ gGd G S R i v ∧ zI x = zI 0)) := by
      rcases hv with ⟨z1, z2⟩ | ⟨z1, z2⟩
      · exact ⟨1, z2, nb1, Or.inl ⟨z1, rfl⟩⟩
      · exact ⟨0, z2, nb0, Or.inr ⟨z1, rfl⟩⟩
    obtain ⟨x, x1, x2, x3⟩ := hx
    have f1 : fr [221] ν (ax_up ν.1 221 v.toNat (zI x), ν.2) := fru (by decide)
    obtain ⟨ν', e1, e2, e3⟩ := ih (v + 1) _ (by omega) (by omega) (bP_fr f1 (by decide) hb2) (bP_push hb v0 x3)
    refine ⟨ν', ?_, e2, frt f1 e3⟩
    rw [jl_356]
    simp (disch := omega) only [p_le, ld_222, x1, z_bo, st_221, x2]
    rw [if_neg (by omega), if_neg (by decide)]
    simp only [zI_lit, zI_add]
    exact e1
theorem q_cr3 {G : gG} {S : gS} {R : gR} (hg : hGok G) (hw : hGw G) (hv : hV G S) (hR : rok R) : ∀ (m i : Nat) (ν : ax_M), i + m = (rLn R).toNat → mI G S ν → oP R ν → rP ν 223 60 (gfi S) → bP ν 221 (2 * gE G) (gLf G S R i) → ∃ ν', aJ 348 [.ref 207, .int (zI (2 * gE G)), .int (zI i)] [] ν = aJ 358 [.ref 207, .int (zI (2 * gE G))] [] ν' ∧ bP ν' 221 (2 * gE G) (gLf G S R (rLn R).toNat) ∧ fr crL ν ν' := by
  have hE := hg.2.2.2.1
  have hE0 := hg.2.2.1
  have hR0 := hR.1
  intro m
  induction m with
  | zero =>
    intro i ν hi hm ho h223 hb
    have o0 := ho.1
    have l62 : ax_ld ax_sh ν 209 (zI 62) = some (zI (rLn R)) := by
      rw [ld_209 (by decide) (by decide)]
      exact congrArg some o0
    refine ⟨ν, ?_, by rw [show (rLn R).toNat = i by omega]; exact hb, frz⟩
    rw [jl_348]
    simp (disch := omega) only [zI_lit, l62, z_bo, p_le]
    rw [if_pos (by omega)]
  | succ m ih =>
    intro i ν hi hm ho h223 hb
    have o0 := ho.1
    have l62 : ax_ld ax_sh ν 209 (zI 62) = some (zI (rLn R)) := by
      rw [ld_209 (by decide) (by decide)]
      exact congrArg some o0
    obtain ⟨ν1, a, a1, a2, a3, a4⟩ := q_cr1 hg hw hv hR (i := i) (by omega) (2 * gE G).toNat 0 false ν (by omega) (by omega) hm ho h223 hb (fun u u0 u1 => by omega) ⟨fun e => (by cases e), fun ⟨u, u0, u1, _⟩ => by omega⟩
    have hst : aJ 348 [.ref 207, .int (zI (2 * gE G)), .int (zI i)] [] ν = aJ 356 [.ref 207, .int (zI (2 * gE G)), .int (zI i), .int (zB a), .int (zI 0)] [] ν1 := by
      rw [jl_348]
      simp (disch := omega) only [zI_lit, l62, z_bo, p_le]
      rw [if_neg (by omega), show zI 0 = zB false from rfl]
      have := a1
      rw [show (zI 0 : Int32) = zB false from rfl] at this
      rw [this, jl_355]
      rfl
    have hi1 : zI (i : Int) + 1 = zI ((i + 1 : Nat) : Int) := zI_a1 i
    cases a
    · have hno : ∀ u, ¬ gGd G S R i u := fun u z => (by have := a3.mpr ⟨u, z⟩; cases this)
      obtain ⟨ν2, b1, b2, b3⟩ := ih (i + 1) ν1 (by omega) (mI_fr a4 (by decide) hm) (oP_fr a4 (by decide) ho) (fr_rP a4 (by decide) h223) (bP_congr (bP_fr a4 (by decide) hb) (fun u _ _ => gd_none hg hw hv hno u))
      refine ⟨ν2, ?_, b2, frt (frm a4 (by simp [crL])) b3⟩
      rw [hst, jl_356]
      by_cases c : 2 * gE G ≤ 0
      · simp (disch := omega) only [p_le]
        rw [if_pos c, jl_357, hi1]
        exact b1
      · simp (disch := omega) only [p_le]
        rw [if_neg c, if_pos (by decide), jl_357, hi1]
        exact b1
    · have hex := a3.mp rfl
      obtain ⟨ν2, b1, b2, b3⟩ := q_cr2 hg (S := S) (R := R) (i := i) (2 * gE G).toNat 0 ν1 (by omega) (by omega) a2 (fun u u0 u1 => by omega)
      have f12 : fr crL ν ν2 := frt (frm a4 (by simp [crL])) (frm b3 (by simp [crL]))
      obtain ⟨ν3, c1, c2, c3⟩ := ih (i + 1) ν2 (by omega) (mI_fr f12 (by decide) hm) (oP_fr f12 (by decide) ho) (fr_rP b3 (by decide) (fr_rP a4 (by decide) h223)) (bP_congr b2 (fun u _ _ => gd_any hg hw hv hex u))
      refine ⟨ν3, ?_, c2, frt f12 c3⟩
      rw [hst, b1, jl_357, hi1]
      exact c1
theorem q_cr4 {G : gG} {S : gS} {R : gR} {ν : ax_M} (hg : hGok G) (hb : bP ν 221 (2 * gE G) (gLf G S R (rLn R).toNat)) : ∃ w, isCh G S R w ∧ aJ 358 [.ref 207, .int (zI (2 * gE G))] [] ν = some (some (.int (zI w)), ν) := by
  have hE := hg.2.2.2.1
  have hE0 := hg.2.2.1
  have loop : ∀ (m : Nat) (v : Int), 0 ≤ v → v + m = 2 * gE G → (∀ u, u < v → ¬ gLf G S R (rLn R).toNat u) → ∃ w, isCh G S R w ∧ aJ 359 [.ref 207, .int (zI (2 * gE G)), .int (zI v)] [] ν = some (some (.int (zI w)), ν) := by
    intro m
    induction m with
    | zero =>
      intro v v0 v1 hu
      refine ⟨-1, Or.inl ⟨rfl, fun u z => hu u (by have := (lf_r _ z).2.1; omega) z⟩, ?_⟩
      rw [jl_359]
      simp (disch := omega) only [p_le]
      rw [if_pos (by omega), jl_361]
      rfl
    | succ m ih =>
      intro v v0 v1 hu
      rcases hb v v0 (by omega) with ⟨z1, z2⟩ | ⟨z1, z2⟩
      · refine ⟨v, Or.inr ⟨z1, fun u uz => ?_⟩, ?_⟩
        · by_cases c : u < v
          · exact absurd uz (hu u c)
          · omega
        · rw [jl_359]
          simp (disch := omega) only [p_le, ld_221, z2, z_bo, zI_lit, p_eq]
          rw [if_neg (by omega), if_neg (by omega)]
      · obtain ⟨w, w1, w2⟩ := ih (v + 1) (by omega) (by omega) (fun u u1 => by
          by_cases c : u = v
          · rw [c]; exact z1
          · exact hu u (by omega))
        refine ⟨w, w1, ?_⟩
        rw [jl_359]
        simp (disch := omega) only [p_le, ld_221, z2, z_bo, zI_lit, p_eq]
        rw [if_neg (by omega), if_pos True.intro, jl_360]
        simp only [zI_lit, zI_add]
        exact w2
  obtain ⟨w, w1, w2⟩ := loop (2 * gE G).toNat 0 (by omega) (by omega) (fun u u1 uz => by have := (lf_r _ uz).1; omega)
  exact ⟨w, w1, by rw [jl_358]; exact w2⟩
/-- the reference's choice -/
theorem q_rch {G : gG} {S : gS} {R : gR} {ν : ax_M} (hg : hGok G) (hw : hGw G) (hv : hV G S) (hR : rok R) (hm : mI G S ν) (ho : oP R ν) : ∃ ν', aJ 343 [.ref 207] [] ν = some (some (.int (zI (gch' G S R))), ν') ∧ fr crL ν ν' := by
  have hE := hg.2.2.2.1
  have hE0 := hg.2.2.1
  have hcn := h_cnt hg hv.1 (by omega)
  obtain ⟨ν1, a1, a2, a3⟩ := q_lh hg hv.1 hm
  have fill : ∀ (m : Nat) (v : Int) (ν : ax_M), 0 ≤ v → v + m = 2 * gE G → rP ν 223 60 (gfi S) → bP ν 221 v (gLf G S R 0) → ∃ ν', aJ 344 [.ref 207, .int (zI (2 * gE G)), .int (zI v)] [] ν = aJ 347 [.ref 207, .int (zI (2 * gE G))] [] ν' ∧ bP ν' 221 (2 * gE G) (gLf G S R 0) ∧ fr [221] ν ν' := by
    intro m
    induction m with
    | zero =>
      intro v ν v0 v1 h223 hb
      refine ⟨ν, ?_, by rw [show 2 * gE G = v by omega]; exact hb, frz⟩
      rw [jl_344]
      simp (disch := omega) only [p_le]
      rw [if_pos (by omega)]
    | succ m ih =>
      intro v ν v0 v1 h223 hb
      have hgv : -1 ≤ gfi S v ∧ gfi S v < 256 := by rcases h_gfi (S := S) (w := v) hcn.1 with y | y <;> omega
      by_cases q : gfi S v = -1
      · have f1 : fr [221] ν (ax_up ν.1 221 v.toNat (zI 0), ν.2) := fru (by decide)
        obtain ⟨ν', e1, e2, e3⟩ := ih (v + 1) _ (by omega) (by omega) (fr_rP f1 (by decide) h223) (bP_push hb v0 (Or.inr ⟨fun z => z.2.2 q, rfl⟩))
        refine ⟨ν', ?_, e2, frt f1 e3⟩
        rw [jl_344]
        simp (disch := omega) only [p_le, ld_223, rP_at h223, z_bo, zI_lit, zI_neg, p_eq]
        rw [if_neg (by omega), if_pos q, jl_345, jl_346]
        simp (disch := omega) only [zI_lit, st_221, nb0, z_bo, zI_add]
        exact e1
      · have f1 : fr [221] ν (ax_up ν.1 221 v.toNat (zI 1), ν.2) := fru (by decide)
        obtain ⟨ν', e1, e2, e3⟩ := ih (v + 1) _ (by omega) (by omega) (fr_rP f1 (by decide) h223) (bP_push hb v0 (Or.inl ⟨⟨v0, by omega, q⟩, rfl⟩))
        refine ⟨ν', ?_, e2, frt f1 e3⟩
        rw [jl_344]
        simp (disch := omega) only [p_le, ld_223, rP_at h223, z_bo, zI_lit, zI_neg, p_eq]
        rw [if_neg (by omega), if_neg q, jl_346]
        simp (disch := omega) only [zI_lit, st_221, nb1, z_bo, zI_add]
        exact e1
  obtain ⟨ν2, b1, b2, b3⟩ := fill (2 * gE G).toNat 0 ν1 (by omega) (by omega) a2 (fun u u0 u1 => by omega)
  have f12 : fr crL ν ν2 := frt (frm a3 (by simp [crL])) (frm b3 (by simp [crL]))
  obtain ⟨ν3, c1, c2, c3⟩ := q_cr3 hg hw hv hR (rLn R).toNat 0 ν2 (by omega) (mI_fr f12 (by decide) hm) (oP_fr f12 (by decide) ho) (fr_rP b3 (by decide) a2) b2
  obtain ⟨w, w1, w2⟩ := q_cr4 hg c2
  rw [ch_of w1]
  refine ⟨ν3, ?_, frt f12 c3⟩
  rw [jl_343]
  simp (disch := omega) only [zI_lit, q_rE hm, z_bo, zI_mul]
  rw [a1, z_b0, b1, jl_347]
  simp only [zI_lit]
  have c1' : aJ 348 [.ref 207, .int (zI (2 * gE G)), .int (zI 0)] [] ν2 = _ := c1
  rw [c1', w2]
