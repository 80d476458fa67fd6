/-! m: BEGIN; a letter is handled -/
theorem gbg_fr {G : gG} {n e lv td st : Int} {S : gS} : ∀ m : Nat, gen (gbgR G n e lv td st S m) = gen S ∧ (∀ i, i ≠ 7 → gnd (gbgR G n e lv td st S m) n i = gnd S n i) ∧ (gnd S n 7 ≤ gnd (gbgR G n e lv td st S m) n 7 ∧ gnd (gbgR G n e lv td st S m) n 7 ≤ gnd S n 7 + m) ∧ gnL (gbgR G n e lv td st S m) ≤ gnL (gbgR G n e lv td st S (m + 1)) ∧ gnL S ≤ gnL (gbgR G n e lv td st S m) := by
  intro m
  have step : ∀ m : Nat, gnL (gbgR G n e lv td st S m) ≤ gnL (gbgR G n e lv td st S (m + 1)) := by
    intro m
    rw [gbgR]
    simp only
    split
    · omega
    · split
      · rw [hk_gsN, hk_gse]
        omega
      · rw [hk_gse]
        omega
  refine ⟨?_, ?_, ?_, step m, ?_⟩
  · induction m with
    | zero => rfl
    | succ m ih =>
      unfold gbgR
      simp only
      split
      · exact ih
      · split
        · exact ih
        · exact ih
  · induction m with
    | zero => intro _ _; rfl
    | succ m ih =>
      intro i hi
      unfold gbgR
      simp only
      split
      · exact ih i hi
      · split
        · refine Eq.trans ?_ (ih i hi)
          simp [gnd, gsN, gse, hi]
        · exact ih i hi
  · induction m with
    | zero => exact ⟨Int.le_refl _, by simp [gbgR]⟩
    | succ m ih =>
      unfold gbgR
      simp only
      split
      · omega
      · split
        · have e1 : gnd (gsN (gse G (gbgR G n e lv td st S m) n m 1 lv td st) n 7 (gnd (gse G (gbgR G n e lv td st S m) n m 1 lv td st) n 7 + 1)) n 7 = gnd (gbgR G n e lv td st S m) n 7 + 1 := by simp [gnd, gsN, gse]
          omega
        · have e1 : gnd (gse G (gbgR G n e lv td st S m) n m 1 lv td st) n 7 = gnd (gbgR G n e lv td st S m) n 7 := rfl
          omega
  · induction m with
    | zero => exact Int.le_refl _
    | succ m ih =>
      have := step m
      omega
theorem gbg_mono {G : gG} {n e lv td st : Int} {S : gS} (a : Nat) : ∀ d : Nat, gnL (gbgR G n e lv td st S a) ≤ gnL (gbgR G n e lv td st S (a + d)) := by
  intro d
  induction d with
  | zero => exact Int.le_refl _
  | succ d ih =>
    have := (gbg_fr (G := G) (n := n) (e := e) (lv := lv) (td := td) (st := st) (S := S) (a + d)).2.2.2.1
    have h2 : a + (d + 1) = a + d + 1 := by omega
    rw [h2]
    omega
theorem m_bgL {G : gG} {S : gS} {μ : ax_M} {n e k st : Int} (hg : hGok G) (hw : hGw G) (he : hRe S) (h0 : 0 ≤ n) (h1 : n < 12) (he0 : 0 ≤ e) (he1 : e < gE G) (hL0 : 0 ≤ gnL S) (k0 : 0 ≤ k) (k1 : k < gnL S) (hst : -1 ≤ st ∧ st ≤ 2) (r3 : -1 ≤ gnd S n 3 ∧ gnd S n 3 < gE G) (r7 : -900 ≤ gnd S n 7 ∧ gnd S n 7 ≤ 900) (hL : gnL (if st = 1 then hte G (gbgR G n e (glt S k 2) (glt S k 3) st S (gE G).toNat) n else gbgR G n e (glt S k 2) (glt S k 3) st S (gE G).toNat) ≤ 256) : ∀ m f : Nat, f + m = (gE G).toNat → aJ 254 [.ref 207, .int (zI n), .int (zI e), .int (zI k), .int (zI st), .int (zI f)] [] (mM G (gbgR G n e (glt S k 2) (glt S k 3) st S f) μ) = some (none, mM G (if st = 1 then hte G (gbgR G n e (glt S k 2) (glt S k 3) st S (gE G).toNat) n else gbgR G n e (glt S k 2) (glt S k 3) st S (gE G).toNat) μ) := by
  have hE := hg.2.2.2.1
  have hE0 := hg.2.2.1
  have rn : zR n := zR_of (by omega)
  have hfin : gnL (gbgR G n e (glt S k 2) (glt S k 3) st S (gE G).toNat) ≤ 256 := by
    by_cases q : st = 1
    · rw [if_pos q] at hL
      have := (fr_hte (G := G) (n := n) (S := gbgR G n e (glt S k 2) (glt S k 3) st S (gE G).toNat)).2.2.1
      omega
    · rw [if_neg q] at hL
      exact hL
  intro m
  induction m with
  | zero =>
    intro f hf
    rw [jl_254, l_E, z_bo, i_le (zR_of (by omega)) (zR_of (by omega)), if_pos (by omega), jl_257, show f = (gE G).toNat by omega, j_eq rfl zl1 (zR_of (by omega)) (zR_of (by omega))]
    obtain ⟨f1, f2, f3, f4, f5⟩ := gbg_fr (G := G) (n := n) (e := e) (lv := glt S k 2) (td := glt S k 3) (st := st) (S := S) (gE G).toNat
    by_cases q : st = 1
    · rw [if_pos q] at hL ⊢
      rw [if_pos q]
      rw [m_te hg hw (by unfold hRe; rw [f1]; exact he) h0 h1 (by rw [f2 3 (by decide)]; exact r3) (by omega) (by omega) hL, z_b0, jl_258]
    · rw [if_neg q, if_neg q, jl_258]
  | succ m ih =>
    intro f hf
    obtain ⟨f1, f2, f3, f4, f5⟩ := gbg_fr (G := G) (n := n) (e := e) (lv := glt S k 2) (td := glt S k 3) (st := st) (S := S) f
    have fl := (fr_gbgR (G := G) (n := n) (e := e) (lv := glt S k 2) (td := glt S k 3) (st := st) (S := S) f).2.2.2.1
    have hz := h_fz hg (e := f) (by omega) (by omega)
    have hmono := gbg_mono (G := G) (n := n) (e := e) (lv := glt S k 2) (td := glt S k 3) (st := st) (S := S) (f + 1) m
    rw [show f + 1 + m = (gE G).toNat by omega] at hmono
    have ih' := ih (f + 1) (by omega)
    rw [gbgR] at ih' hmono
    simp only at ih' hmono
    have hnx : ∀ M, aJ 256 [.ref 207, .int (zI n), .int (zI e), .int (zI k), .int (zI st), .int (zI f)] [] M = aJ 254 [.ref 207, .int (zI n), .int (zI e), .int (zI k), .int (zI st), .int (zI ((f + 1 : Nat) : Int))] [] M := by
      intro M
      rw [jl_256]
      have h3 : zI (f : Int) + (1 : Int32) = zI ((f + 1 : Nat) : Int) := zI_add f 1
      rw [h3]
    generalize hT : gbgR G n e (glt S k 2) (glt S k 3) st S f = T at *
    rw [jl_254, l_E, z_bo, i_le (zR_of (by omega)) (zR_of (by omega)), if_neg (by omega), i_eq (zR_of (by omega)) (zR_of (by omega))]
    by_cases qe : (f : Int) = e
    · rw [if_pos (Or.inl qe)] at ih'
      rw [if_pos qe, hnx]
      exact ih'
    · rw [if_neg qe, m_isAt (by omega) (by omega) rn hz.1 hz.2, z_b1, i_P]
      by_cases qi : gfr G f = n ∨ gsc G f = n
      · have hen : hRe T := by unfold hRe; rw [f1]; exact he
        have hen2 := hen (gwy G n f)
        rw [if_pos qi, m_en (by omega) (by omega) rn hz.1, z_b1, j_eq rfl zl1 (zR_of (by omega)) (zR_of (by omega))]
        by_cases qb : gen T (gwy G n f) = 1
        · have hc : ¬ ((f : Int) = e ∨ ¬ (gfr G f = n ∨ gsc G f = n) ∨ gen T (gwy G n f) ≠ 1) := by
            rintro (x | x | x)
            · exact qe x
            · exact x qi
            · exact x qb
          rw [if_neg hc] at ih' hmono
          have hLT : gnL T < 256 := by
            split at hmono
            · rw [hk_gsN, hk_gse] at hmono
              omega
            · rw [hk_gse] at hmono
              omega
          have e2 : glt T k 2 = glt S k 2 := fl k 2 k1
          have e3 : glt T k 3 = glt S k 3 := fl k 3 k1
          rw [if_pos qb, jl_255, m_lt2 k0 (by omega) (by omega), z_b1, m_lt3 k0 (by omega) (by omega), z_b1, e2, e3, m_se (S := T) (kd := 1) (lv := glt S k 2) (td := glt S k 3) (st := st) h0 h1 (by omega) (by omega) hz.1 (by omega) (by omega) zl1 rfl rfl rfl, z_b0, j_eq rfl zl1 (zR_of (by omega)) (zR_of (by omega))]
          by_cases qs : st = 1
          · rw [if_pos qs] at ih'
            rw [if_pos qs] at ih'
            have e7 : gnd (gse G T n f 1 (glt S k 2) (glt S k 3) st) n 7 = gnd T n 7 := rfl
            rw [if_pos qs, m_nd7 h0 h1, z_b1, m_sN7 (v := gnd (gse G T n f 1 (glt S k 2) (glt S k 3) st) n 7 + 1) h0 h1 (zI_a1 _), z_b0, hnx]
            rw [if_pos qs]
            exact ih'
          · rw [if_neg qs] at ih'
            rw [if_neg qs] at ih'
            rw [if_neg qs, hnx]
            rw [if_neg qs]
            exact ih'
        · rw [if_pos (Or.inr (Or.inr qb))] at ih'
          rw [if_neg qb, hnx]
          exact ih'
      · rw [if_pos (Or.inr (Or.inl qi))] at ih'
        rw [if_neg qi, hnx]
        exact ih'
theorem m_bg {G : gG} {S : gS} {μ : ax_M} {n e k : Int} (hg : hGok G) (hw : hGw G) (hr : hRs G S) (h0 : 0 ≤ n) (h1 : n < 12) (he0 : 0 ≤ e) (he1 : e < gE G) (k0 : 0 ≤ k) (k1 : k < gnL S) (r7 : -900 ≤ gnd S n 7 ∧ gnd S n 7 ≤ 900) (hL : gnL (hbg G S n e k) ≤ 256) : aJ 253 [.ref 207, .int (zI n), .int (zI e), .int (zI k)] [] (mM G S μ) = some (none, mM G (hbg G S n e k) μ) := by
  have hE := hg.2.2.2.1
  have hL0 := hr.2.2.1
  obtain ⟨l0, l1, l2, l3, l4, l5, l6, l7⟩ := hr.2.2.2 k k0 k1
  have hLS : gnL S ≤ 256 := by
    have := (fr_hbg (G := G) (n := n) (e := e) (k := k) (S := S)).2.2.1
    omega
  rw [jl_253, m_lt4 k0 k1 (by omega), z_b1, m_lt2 k0 k1 (by omega), z_b1, m_sN1 (v := glt S k 2) h0 h1 rfl, z_b0, m_lt3 (S := gsN S n 1 (glt S k 2)) k0 k1 (by show gnL S ≤ 260; omega), z_b1]
  have e3 : glt (gsN S n 1 (glt S k 2)) k 3 = glt S k 3 := rfl
  rw [e3, m_sN2 (v := glt S k 3) h0 h1 rfl, z_b0, m_sN0 (v := glt S k 4) h0 h1 rfl, z_b0, m_sN3 (v := e) h0 h1 rfl, z_b0, m_sN4 (v := -1) h0 h1 zlm, z_b0, m_sN5 (v := -1) h0 h1 zlm, z_b0]
  have eh : gsN (gsN (gsN (gsN (gsN (gsN S n 1 (glt S k 2)) n 2 (glt S k 3)) n 0 (glt S k 4)) n 3 e) n 4 (-1)) n 5 (-1) = hbs S n e k := rfl
  rw [eh]
  have s3 : gnd (hbs S n e k) n 3 = e := by simp [hbs, gnd, gsN]
  have s7 : gnd (hbs S n e k) n 7 = gnd S n 7 := by simp [hbs, gnd, gsN]
  have hb := m_bgL (S := hbs S n e k) (μ := μ) (n := n) (e := e) (k := k) (st := glt S k 4) hg hw hr.1 h0 h1 he0 he1 hL0 k0 k1 l4 (by rw [s3]; omega) (by rw [s7]; exact r7) hL (gE G).toNat 0 (by omega)
  exact hb
