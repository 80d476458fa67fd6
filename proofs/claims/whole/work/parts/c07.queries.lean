/-! j: queries -/
theorem qCl_same {G : gG} {S : gS} {U : List gU} {K : qK} {fC fM : Nat} {aC aM : List Value} (hp : pOK G S U K) (r : Int32) (h1 : ∀ ν, iC G S U K ν → aJ fC aC [] ν = some (some (.int r), ν)) (h2 : ∀ ν ν0, ν0 = ax_uD ν 207 0 0 → iM G S U K ν0 → aJ fM aM [] ν = some (some (.int r), ν0)) : qCl G S U K fC fM aC aM :=
  ⟨r, G, S, U, K, hp, fun ν hi => ⟨ν, h1 ν hi, hi, frC_z⟩, fun ν hi => by
    obtain ⟨ν0, e0, hi0, f0⟩ := iM_th hp.2.2.2.2.2.2.1.1 hi
    exact ⟨ν0, h2 ν ν0 e0 hi0, hi0, f0⟩⟩
theorem q_fault {G : gG} {S : gS} {U : List gU} {K : qK} (hp : pOK G S U K) (a : Int32) : qCl G S U K 660 172 [.ref 0, .int a] [.ref 207, .int a] := by
  obtain ⟨w, ⟨w1, w2⟩, rfl⟩ := zI_of a
  have hF := hp.2.2.2.2.2.2.1.2.2.2.2.2.1
  refine qCl_same hp (zI (if w = 0 then (kF K).1 else if w = 1 then (if (kF K).1 = 0 then -1 else (kF K).2) else -1)) ?_ ?_
  · intro ν hi
    obtain ⟨_, _, j⟩ := id hi
    obtain ⟨_, _, _, _, _, _, j7, j8, _⟩ := j
    rw [jl_660]
    simp (disch := omega) only [zI_lit, p_eq]
    by_cases c0 : w = 0
    · rw [if_pos c0, if_pos c0, jl_661, j7]
    · rw [if_neg c0, if_neg c0]
      by_cases c1 : w = 1
      · rw [if_pos c1, if_pos c1, jl_662, j7]
        simp (disch := omega) only [zI_lit, p_eq]
        by_cases cf : (kF K).1 = 0
        · rw [if_pos cf, if_pos cf, jl_664]
          rfl
        · rw [if_neg cf, if_neg cf, jl_663, jl_664, j8 cf]
      · rw [if_neg c1, if_neg c1, jl_665]
        rfl
  · intro ν ν0 e0 hi0
    obtain ⟨_, _, j⟩ := id hi0
    obtain ⟨_, _, _, _, _, _, j7, j8, _⟩ := j
    rw [jl_172, ← e0, j7]
    simp (disch := omega) only [zI_lit, p_eq]
    by_cases c0 : w = 0
    · rw [if_pos c0, if_pos c0, jl_175]
    · rw [if_neg c0, if_neg c0, jl_173]
      simp (disch := omega) only [zI_lit, p_eq]
      by_cases c1 : w = 1
      · rw [if_pos c1, if_pos c1, jl_175, j8]
      · rw [if_neg c1, if_neg c1, jl_174, jl_175]
        rfl
theorem q_onWay {G : gG} {S : gS} {U : List gU} {K : qK} (hp : pOK G S U K) (a : Int32) : qCl G S U K 683 388 [.ref 0, .int a] [.ref 207, .int a] := by
  obtain ⟨w, hn, rfl⟩ := zI_of a
  have hg := hp.1
  have hL := pOK_L hp
  have hE := hg.2.2.2.1
  by_cases c : 0 ≤ w ∧ w < 2 * gE G
  · have hd : decide (0 ≤ w ∧ w < 2 * gE G) = true := by simp [c]
    refine qCl_same hp (zI (nOn S w)) ?_ ?_
    · intro ν hi
      obtain ⟨⟨X, x1, x2⟩, _, _⟩ := iC_R hp.2.2.1 hi
      have hx1 := x2.1 w c.1 (by omega)
      have hoe := q_oe x1 (Or.inl rfl) c.1 (show w < 60 by omega)
      rw [jl_683, q_iw hg x1 hn, z_b1, hd, if_neg (by decide), show (36 : Nat) = 29 + 7 from rfl, hoe, z_b1, jl_685, hx1]
    · intro ν ν0 e0 hi0
      rw [jl_388, ← e0, q_riw hg hi0.1 hn, z_b1, hd, if_neg (by decide), q_rmo hi0.1 hL.1 (by omega) hp.2.2.1.2.2.1 hE c.1 (by omega), z_b1, jl_390]
  · have hd : decide (0 ≤ w ∧ w < 2 * gE G) = false := by simp; omega
    refine qCl_same hp (zI (-1)) ?_ ?_
    · intro ν hi
      obtain ⟨⟨X, x1, x2⟩, _, _⟩ := iC_R hp.2.2.1 hi
      rw [jl_683, q_iw hg x1 hn, z_b1, hd, if_pos (by decide), jl_684, jl_685]
      rfl
    · intro ν ν0 e0 hi0
      rw [jl_388, ← e0, q_riw hg hi0.1 hn, z_b1, hd, if_pos (by decide), jl_389, jl_390]
      rfl
/-! those that wait at a node, by their order -/
def pcw (G : gG) (S : gS) (X : cX) (n : Int) : Nat → Nat := pct (fun i => grc G (glt S (xwl X i) 1) = n) (fun _ => inferInstance)
def isK (G : gG) (S : gS) (X : cX) (n : Int) (k : Nat) (i : Int) : Prop := 0 ≤ i ∧ i < xwc X ∧ grc G (glt S (xwl X i) 1) = n ∧ pcw G S X n i.toNat = k
theorem isK_ex {G : gG} {S : gS} {X : cX} {n : Int} : ∀ (m k : Nat), k < pcw G S X n m → (m : Int) ≤ xwc X → ∃ i, isK G S X n k i ∧ i < m := by
  intro m
  induction m with
  | zero =>
    intro k h _
    unfold pcw at h
    simp only [pct] at h
    omega
  | succ m ih =>
    intro k h hm
    unfold pcw at h
    simp only [pct] at h
    by_cases c : k < pcw G S X n m
    · obtain ⟨i, i1, i2⟩ := ih k c (by omega)
      exact ⟨i, i1, by omega⟩
    · unfold pcw at c
      by_cases q : grc G (glt S (xwl X m) 1) = n
      · rw [if_pos q] at h
        exact ⟨m, ⟨by omega, by omega, q, by rw [Int.toNat_natCast]; unfold pcw; omega⟩, by omega⟩
      · rw [if_neg q] at h
        omega
theorem isK_lt {G : gG} {S : gS} {X : cX} {n i j : Int} {k l : Nat} (hi : isK G S X n k i) (hj : isK G S X n l j) (h : i < j) : k < l := by
  obtain ⟨a0, a1, a2, a3⟩ := hi
  obtain ⟨b0, b1, b2, b3⟩ := hj
  have e1 : pcw G S X n (i.toNat + 1) = pcw G S X n i.toNat + 1 := by
    unfold pcw
    simp only [pct]
    rw [if_pos (by rw [r_cast a0]; exact a2)]
  have e2 : pcw G S X n (i.toNat + 1) ≤ pcw G S X n j.toNat := pct_mono (by omega)
  omega
theorem gwl_n {G : gG} {S : gS} {n : Int} : ∀ (d : Nat) (a : Int), gwl G S n d a = -1 → gwl G S n (d + 1) a = -1 := by
  intro d
  induction d with
  | zero =>
    intro a h
    show (if gnx G S n a = -1 then -1 else _) = -1
    have h' : gnx G S n a = -1 := h
    rw [if_pos h']
  | succ d ih =>
    intro a h
    have h' : (if gnx G S n a = -1 then -1 else gwl G S n d (glt S (gnx G S n a) 7)) = -1 := h
    show (if gnx G S n a = -1 then -1 else gwl G S n (d + 1) (glt S (gnx G S n a) 7)) = -1
    by_cases q : gnx G S n a = -1
    · rw [if_pos q]
    · rw [if_neg q] at h' ⊢
      exact ih _ h'
/-- what comes next behind an order -/
theorem gnx_at {G : gG} {S : gS} {X : cX} {n a i : Int} (hL : 0 ≤ gnL S) (hx : XR5 S X) (i0 : 0 ≤ i) (i1 : i < xwc X) (hn : grc G (glt S (xwl X i) 1) = n) (ha : a < glt S (xwl X i) 7) (hf : ∀ j, 0 ≤ j → j < i → grc G (glt S (xwl X j) 1) = n → glt S (xwl X j) 7 ≤ a) : gnx G S n a = xwl X i := by
  obtain ⟨h1, h2, h3, h4⟩ := hx
  have hi := h2 i i0 i1
  rcases gnx_s (G := G) (S := S) (n := n) (a := a) hL with g | g
  · exact absurd ⟨hi.2.2, hn, ha⟩ (g.2 _ hi.1 hi.2.1)
  · obtain ⟨g0, g1, ⟨g2, g3, g4⟩, g5⟩ := g
    obtain ⟨m, m0, m1, m2⟩ := h4 _ g0 g1 g2
    have g6 := g5 _ hi.1 hi.2.1 ⟨hi.2.2, hn, ha⟩
    rcases Int.lt_trichotomy m i with c | c | c
    · have := hf m m0 c (by rw [m2]; exact g3)
      rw [m2] at this
      omega
    · rw [← c, m2]
    · have := h3 i m i0 c m1
      rw [m2] at this
      omega
theorem gnx_no {G : gG} {S : gS} {X : cX} {n a : Int} (hL : 0 ≤ gnL S) (hx : XR5 S X) (hf : ∀ j, 0 ≤ j → j < xwc X → grc G (glt S (xwl X j) 1) = n → glt S (xwl X j) 7 ≤ a) : gnx G S n a = -1 := by
  obtain ⟨h1, h2, h3, h4⟩ := hx
  rcases gnx_s (G := G) (S := S) (n := n) (a := a) hL with g | g
  · exact g.1
  · obtain ⟨g0, g1, ⟨g2, g3, g4⟩, g5⟩ := g
    obtain ⟨m, m0, m1, m2⟩ := h4 _ g0 g1 g2
    have := hf m m0 m1 (by rw [m2]; exact g3)
    rw [m2] at this
    omega
theorem gwl_K {G : gG} {S : gS} {X : cX} {n : Int} (hL : 0 ≤ gnL S) (ho : hOc S) (hx : XR5 S X) : ∀ (k : Nat), (∀ i, isK G S X n k i → gwl G S n k 0 = xwl X i) ∧ (pcw G S X n (xwc X).toNat ≤ k → gwl G S n k 0 = -1) := by
  have hx' := hx
  obtain ⟨h1, h2, h3, h4⟩ := hx'
  intro k
  induction k with
  | zero =>
    constructor
    · intro i hi
      have hi' := hi
      obtain ⟨a0, a1, a2, a3⟩ := hi'
      have hw := h2 i a0 a1
      have h7 := ho.2.1 _ hw.1 hw.2.1 hw.2.2
      refine gnx_at hL hx a0 a1 a2 (by omega) ?_
      intro j j0 j1 jn
      have hj : isK G S X n (pcw G S X n j.toNat) j := ⟨j0, by omega, jn, rfl⟩
      have := isK_lt hj hi j1
      omega
    · intro hc
      refine gnx_no hL hx ?_
      intro j j0 j1 jn
      have e2 : pcw G S X n (j.toNat + 1) ≤ pcw G S X n (xwc X).toNat := pct_mono (by omega)
      have e1 : pcw G S X n (j.toNat + 1) = pcw G S X n j.toNat + 1 := by
        unfold pcw
        simp only [pct]
        rw [if_pos (by rw [r_cast j0]; exact jn)]
      omega
  | succ k ih =>
    constructor
    · intro i hi
      have hi' := hi
      obtain ⟨a0, a1, a2, a3⟩ := hi'
      obtain ⟨i', b, b'⟩ := isK_ex (G := G) (S := S) (X := X) (n := n) i.toNat k (by omega) (by omega)
      have e := ih.1 i' b
      have hw' := h2 i' b.1 b.2.1
      rw [gwl_s k 0 (by rw [e]; omega), e]
      refine gnx_at hL hx a0 a1 a2 (h3 i' i b.1 (by omega) a1) ?_
      intro j j0 j1 jn
      have hj : isK G S X n (pcw G S X n j.toNat) j := ⟨j0, by omega, jn, rfl⟩
      have hlt := isK_lt hj hi j1
      by_cases c : j ≤ i'
      · by_cases c2 : j = i'
        · rw [c2]
          exact Int.le_refl _
        · have := h3 j i' j0 (by omega) b.2.1
          omega
      · have := isK_lt b hj (by omega)
        omega
    · intro hc
      by_cases q : pcw G S X n (xwc X).toNat ≤ k
      · exact gwl_n k 0 (ih.2 q)
      · obtain ⟨i', b, b'⟩ := isK_ex (G := G) (S := S) (X := X) (n := n) (xwc X).toNat k (by omega) (by have := h1.1; omega)
        have e := ih.1 i' b
        have hw' := h2 i' b.1 b.2.1
        rw [gwl_s k 0 (by rw [e]; omega), e]
        refine gnx_no hL hx ?_
        intro j j0 j1 jn
        have hj : isK G S X n (pcw G S X n j.toNat) j := ⟨j0, j1, jn, rfl⟩
        have e1 : pcw G S X n (j.toNat + 1) = pcw G S X n j.toNat + 1 := by
          unfold pcw
          simp only [pct]
          rw [if_pos (by rw [r_cast j0]; exact jn)]
        have e2 : pcw G S X n (j.toNat + 1) ≤ pcw G S X n (xwc X).toNat := pct_mono (by omega)
        by_cases c : j ≤ i'
        · by_cases c2 : j = i'
          · rw [c2]
            exact Int.le_refl _
          · have := h3 j i' j0 (by omega) b.2.1
            omega
        · have := isK_lt b hj (by omega)
          omega
theorem pcw_nDf {G : gG} {S : gS} {X : cX} {n : Int} (hL : 0 ≤ gnL S) (hx : XR5 S X) : pcw G S X n (xwc X).toNat = nDf G S n := by
  obtain ⟨h1, h2, h3, h4⟩ := hx
  have inj : ∀ i j, 0 ≤ i → i < xwc X → 0 ≤ j → j < xwc X → xwl X i = xwl X j → i = j := by
    intro i j i0 i1 j0 j1 e
    rcases Int.lt_trichotomy i j with c | c | c
    · have := h3 i j i0 c j1
      rw [e] at this
      omega
    · exact c
    · have := h3 j i j0 c i1
      rw [e] at this
      omega
  have ha : pcw G S X n (xwc X).toNat ≤ nDf G S n := by
    unfold pcw nDf
    refine pct_rel (fun i j => j = xwl X i) ?_ ?_
    · intro i i0 i1 i2
      have hw := h2 i i0 (by omega)
      exact ⟨xwl X i, hw.1, by omega, ⟨hw.2.2, i2⟩, rfl⟩
    · intro i i' j a0 a1 _ b0 b1 _ e1 e2
      exact inj i i' a0 (by omega) b0 (by omega) (by rw [← e1, ← e2])
  have hb : nDf G S n ≤ pcw G S X n (xwc X).toNat := by
    unfold pcw nDf
    refine pct_rel (fun j i => j = xwl X i) ?_ ?_
    · intro j j0 j1 j2
      obtain ⟨i, i0, i1, i2⟩ := h4 j j0 (by omega) j2.1
      exact ⟨i, i0, by omega, by rw [i2]; exact j2.2, i2.symm⟩
    · intro j j' i _ _ _ _ _ _ e1 e2
      rw [e1, e2]
  omega
theorem gwl_ord {G : gG} {S : gS} {n : Int} (hL : 0 ≤ gnL S) : ∀ k : Nat, gwl G S n k 0 ≠ -1 → (k : Int) + 1 ≤ glt S (gwl G S n k 0) 7 := by
  intro k
  induction k with
  | zero =>
    intro h
    rcases gnx_s (G := G) (S := S) (n := n) (a := 0) hL with g | g
    · exact absurd g.1 h
    · have := g.2.2.1.2.2
      show ((0 : Nat) : Int) + 1 ≤ glt S (gnx G S n 0) 7
      omega
  | succ k ih =>
    intro h
    by_cases q : gwl G S n k 0 = -1
    · exact absurd (gwl_n k 0 q) h
    · have h1 := ih q
      rw [gwl_s k 0 q] at h ⊢
      rcases gnx_s (G := G) (S := S) (n := n) (a := glt S (gwl G S n k 0) 7) hL with g | g
      · exact absurd g.1 h
      · have := g.2.2.1.2.2
        omega
theorem gwl_out {G : gG} {S : gS} {n : Int} (hL : 0 ≤ gnL S) (ho : hOc S) {k : Nat} (hk : gnL S ≤ k) : gwl G S n k 0 = -1 := by
  by_cases q : gwl G S n k 0 = -1
  · exact q
  · have h1 := gwl_ord hL k q
    rcases gwl_r (G := G) (S := S) (n := n) hL k 0 with h | h
    · exact h
    · have h2 := ho.2.1 _ h.1 h.2.1 h.2.2.1
      have h3 := ho.1.2
      have h4 : hcW S ≤ (gnL S).toNat := pct_le
      omega
/-- the class's k-th that waits -/
theorem q_wat {G : gG} {S : gS} {X : cX} {ν : ax_M} (hg : hGok G) (hv : hV G S) (hx : XR G S X) (hν : cI 29 G S X ν) {n k : Int} (hn : zR n) (k0 : 0 ≤ k) (k1 : k < 2147483648) : aJ 1174 [.ref 29, .int (zI n), .int (zI k)] [] ν = some (some (.int (zI (gwl G S n k.toNat 0))), ν) := by
  have ho : cO 29 := Or.inl rfl
  have hcn := h_cnt hg hv.1 (by omega)
  have hr := hv.2.2.1
  have hE := hg.2.2.2.1
  have hN := hg.2.1
  have x5 := hx.2.2.2.2.1
  have xb := x5.1
  obtain ⟨hn1, hn2⟩ := hn
  have hK := gwl_K (G := G) (n := n) hcn.1 hv.2.2.2.1 x5 k.toNat
  have loop : ∀ (m i : Nat), i + m = (xwc X).toNat → pcw G S X n i ≤ k.toNat → aJ 1175 [.ref 29, .int (zI n), .int (zI (k - pcw G S X n i)), .int (zI i)] [] ν = some (some (.int (zI (gwl G S n k.toNat 0))), ν) := by
    intro m
    induction m with
    | zero =>
      intro i hi hc
      rw [jl_1175, q_fwc hν ho]
      simp (disch := omega) only [p_le]
      rw [if_pos (by omega), jl_1178, hK.2 (by rw [show (xwc X).toNat = i by omega]; exact hc)]
      rfl
    | succ m ih =>
      intro i hi hc
      have hw := x5.2.1 i (by omega) (by omega)
      have hlr := hr.2.2.2 _ hw.1 hw.2.1
      have hrn : 0 ≤ grc G (glt S (xwl X i) 1) ∧ grc G (glt S (xwl X i) 1) < gN G := h_sdr hg (h_opW ⟨hlr.2.1.1, hlr.2.1.2⟩).1
      have hwl := q_wl hν ho (show xwc X ≤ 256 by omega) (i := (i : Int)) (by omega) (by omega)
      have hno := q_nodeOf hν ho hr hE (show gnL S ≤ 256 by omega) hw.1 hw.2.1
      have ih' := ih (i + 1) (by omega)
      have hpi : pcw G S X n (i + 1) = pcw G S X n i + (if grc G (glt S (xwl X i) 1) = n then 1 else 0) := rfl
      rw [jl_1175, q_fwc hν ho]
      simp (disch := omega) only [p_le]
      rw [if_neg (by omega), show (38 : Nat) = 29 + 9 from rfl, hwl, z_b1, hno, z_b1]
      simp (disch := omega) only [p_eq]
      by_cases q : grc G (glt S (xwl X i) 1) = n
      · rw [if_pos q] at hpi
        rw [if_pos q]
        by_cases qk : k = pcw G S X n i
        · rw [j_eq rfl zl0 ⟨by omega, by omega⟩ (zR_of (by omega)), if_pos (by omega), hwl, z_b1, hK.1 i ⟨by omega, by omega, q, by rw [Int.toNat_natCast]; omega⟩]
        · rw [j_eq rfl zl0 ⟨by omega, by omega⟩ (zR_of (by omega)), if_neg (by omega), jl_1176, jl_1177]
          simp only [zI_lit, zI_neg, zI_add]
          have ih2 := ih' (by omega)
          rw [hpi] at ih2
          rw [show k - (pcw G S X n i : Int) + -1 = k - ((pcw G S X n i + 1 : Nat) : Int) by omega]
          exact ih2
      · rw [if_neg q] at hpi
        rw [if_neg q, jl_1177]
        simp only [zI_lit, zI_add]
        have ih2 := ih' (by omega)
        rw [hpi] at ih2
        exact ih2
  have h0 := loop (xwc X).toNat 0 (by omega) (by unfold pcw; simp only [pct]; omega)
  rw [jl_1174]
  have e0 : k - (pcw G S X n 0 : Int) = k := by
    unfold pcw
    simp only [pct]
    omega
  rw [e0] at h0
  exact h0
theorem q_rwt' {G : gG} {S : gS} {ν : ax_M} (hg : hGok G) (hv : hV G S) (hm : mI G S ν) {n : Int} (h0 : 0 ≤ n) (h1 : n < 12) {k : Nat} (hk : k ≤ 100000) : aJ 271 [.ref 207, .int (zI n), .int (zI k)] [] ν = some (some (.int (zI (gwl G S n k 0))), ν) := by
  have hcn := h_cnt hg hv.1 (by omega)
  have e := m_wt (μ := ν) hg hv.2.2.1 (hO_of hv.2.2.2.1 hcn.1 (by omega)) (by omega) h0 h1 hk
  rwa [show mM G S ν = ν from hm] at e
theorem gwl_rng {G : gG} {S : gS} {n : Int} (hL : 0 ≤ gnL S) (k : Nat) : gwl G S n k 0 = -1 ∨ (0 ≤ gwl G S n k 0 ∧ gwl G S n k 0 < gnL S ∧ glt S (gwl G S n k 0) 5 = 1) := by
  rcases gwl_r (G := G) (S := S) (n := n) hL k 0 with h | h
  · exact Or.inl h
  · exact Or.inr ⟨h.1, h.2.1, h.2.2.1⟩
theorem why3 {G : gG} {S : gS} {l : Int} (hi : hI G S 0) (h0 : 0 ≤ l) (h1 : l < gnL S) (h5 : glt S l 5 = 1) : glt S l 0 = 0 ∨ glt S l 0 = 2 ∨ glt S l 0 = 5 := (h_letW hi h0 h1).2.2.1 h5
theorem q_waits {G : gG} {S : gS} {U : List gU} {K : qK} (hp : pOK G S U K) (a b c : Int32) : qCl G S U K 686 391 [.ref 0, .int a, .int b, .int c] [.ref 207, .int a, .int b, .int c] := by
  obtain ⟨n, hn, rfl⟩ := zI_of a
  obtain ⟨k, hk, rfl⟩ := zI_of b
  obtain ⟨w, hw, rfl⟩ := zI_of c
  have hg := hp.1
  have hv := hp.2.2.1
  have hL := pOK_L hp
  have hN := hg.2.1
  have hnn := hn
  have hkk := hk
  have hww := hw
  obtain ⟨n1, n2⟩ := hn
  obtain ⟨k1, k2⟩ := hk
  obtain ⟨w1, w2⟩ := hw
  have zero : ∀ r : Int, (0 ≤ n ∧ n < gN G ∧ 0 ≤ k ∧ 0 ≤ w ∧ w ≤ 1 → r = -1) → ¬ (0 ≤ n ∧ n < gN G ∧ 0 ≤ k ∧ 0 ≤ w ∧ w ≤ 1) → qCl G S U K 686 391 [.ref 0, .int (zI n), .int (zI k), .int (zI w)] [.ref 207, .int (zI n), .int (zI k), .int (zI w)] := by
    intro r _ hbad
    refine qCl_same hp (zI (-1)) ?_ ?_
    · intro ν hi
      obtain ⟨⟨X, x1, x2⟩, _, _⟩ := iC_R hp.2.2.1 hi
      rw [jl_686, q_in hg x1 hnn, z_b1]
      by_cases cn : 0 ≤ n ∧ n < gN G
      · rw [show decide (0 ≤ n ∧ n < gN G) = true by simp [cn], if_neg (by decide)]
        simp (disch := omega) only [zI_lit, p_lt, p_le]
        by_cases d1 : k < 0
        · rw [if_pos d1, jl_687]; rfl
        rw [if_neg d1]
        by_cases d2 : w < 0
        · rw [if_pos d2, jl_687]; rfl
        rw [if_neg d2, if_neg (by omega), jl_687]; rfl
      · rw [show decide (0 ≤ n ∧ n < gN G) = false by simp; omega, if_pos (by decide), jl_687]; rfl
    · intro ν ν0 e0 hi0
      rw [jl_391, ← e0, q_rin hg hi0.1 hnn, z_b1]
      by_cases cn : 0 ≤ n ∧ n < gN G
      · rw [show decide (0 ≤ n ∧ n < gN G) = true by simp [cn], if_neg (by decide)]
        simp only [zI_lit, q_rL hi0.1, z_bo, zI_sub]
        rw [mz_isIn hkk (zR_of (by omega)) (zR_of (by omega)), z_b1]
        by_cases d1 : 0 ≤ k ∧ k ≤ gnL S - 1
        · rw [show decide (0 ≤ k ∧ k ≤ gnL S - 1) = true by simp [d1], if_neg (by decide), mz_isIn hww (zR_of (by omega)) (zR_of (by omega)), z_b1, show decide (0 ≤ w ∧ w ≤ 1) = false by simp; omega, if_pos (by decide), jl_392]; rfl
        · rw [show decide (0 ≤ k ∧ k ≤ gnL S - 1) = false by simp; omega, if_pos (by decide), jl_392]; rfl
      · rw [show decide (0 ≤ n ∧ n < gN G) = false by simp; omega, if_pos (by decide), jl_392]; rfl
  by_cases cc : 0 ≤ n ∧ n < gN G ∧ 0 ≤ k ∧ 0 ≤ w ∧ w ≤ 1
  · obtain ⟨c1, c2, c3, c4, c5⟩ := cc
    have hdn : decide (0 ≤ n ∧ n < gN G) = true := by simp [c1, c2]
    have hdw : decide (0 ≤ w ∧ w ≤ 1) = true := by simp [c4, c5]
    have hr := gwl_rng (G := G) (S := S) (n := n) hL.1 k.toNat
    refine qCl_same hp (zI (if gwl G S n k.toNat 0 = -1 ∨ w = 0 then gwl G S n k.toNat 0 else if glt S (gwl G S n k.toNat 0) 0 = 2 then 1 else if glt S (gwl G S n k.toNat 0) 0 = 0 then 2 else 3)) ?_ ?_
    · intro ν hi
      obtain ⟨⟨X, x1, x2⟩, _, _⟩ := iC_R hp.2.2.1 hi
      rw [jl_686, q_in hg x1 hnn, z_b1, hdn, if_neg (by decide)]
      simp (disch := omega) only [zI_lit, p_lt, p_le]
      rw [if_neg (by omega), if_neg (by omega), if_pos (by omega), jl_688, q_wat hg hv x2 x1 hnn c3 k2, z_b1]
      simp (disch := omega) only [zI_lit, zI_neg, p_eq]
      by_cases q1 : gwl G S n k.toNat 0 = -1
      · rw [if_pos q1, if_pos (Or.inl q1), jl_689, jl_691]
      · rw [if_neg q1]
        by_cases q2 : w = 0
        · rw [if_pos q2, if_pos (Or.inr q2), jl_689, jl_691]
        · rcases hr with hr | hr
          · exact absurd hr q1
          have h3 := why3 hv.1 hr.1 hr.2.1 hr.2.2
          rw [if_neg q2, if_neg (by rintro (z | z); exact q1 z; exact q2 z), jl_690]
          simp (disch := omega) only [zI_lit, q_tl x1 (Or.inl rfl) (show gnL S ≤ 256 by omega), z_b1]
          rw [jl_842]
          simp (disch := omega) only [zI_lit, p_eq]
          by_cases r0 : glt S (gwl G S n k.toNat 0) 0 = 0
          · rw [if_pos r0, jl_844, z_b1, jl_691, if_neg (by omega), if_pos r0]; rfl
          · rw [if_neg r0]
            by_cases r2 : glt S (gwl G S n k.toNat 0) 0 = 2
            · rw [if_pos r2, jl_843, z_b1, jl_691, if_pos r2]; rfl
            · rw [if_neg r2, jl_845, z_b1, jl_691, if_neg r2, if_neg r0]; rfl
    · intro ν ν0 e0 hi0
      have hgl : gnL S ≤ k → gwl G S n k.toNat 0 = -1 := by
        intro hh
        exact gwl_out hL.1 hv.2.2.2.1 (by omega)
      rw [jl_391, ← e0, q_rin hg hi0.1 hnn, z_b1, hdn, if_neg (by decide)]
      simp only [zI_lit]
      rw [q_rL hi0.1, z_bo, zI_sub, mz_isIn hkk (zR_of (by omega)) (zR_of (by omega)), z_b1]
      by_cases d1 : k < gnL S
      · rw [show decide (0 ≤ k ∧ k ≤ gnL S - 1) = true by simp; omega, if_neg (by decide), mz_isIn hww (zR_of (by omega)) (zR_of (by omega)), z_b1, hdw, if_neg (by decide), jl_393]
        have hwt := q_rwt' hg hv hi0.1 c1 (show n < 12 by omega) (k := k.toNat) (by omega)
        rw [show ((k.toNat : Nat) : Int) = k by omega] at hwt
        rw [hwt, z_b1]
        simp (disch := omega) only [zI_lit, zI_neg, p_eq]
        by_cases q1 : gwl G S n k.toNat 0 = -1
        · rw [if_pos q1, if_pos (Or.inl q1), jl_394]
        · rw [if_neg q1]
          by_cases q2 : w = 0
          · rw [if_pos q2, if_pos (Or.inr q2), jl_394]
          · rcases hr with hr | hr
            · exact absurd hr q1
            have h3 := why3 hv.1 hr.1 hr.2.1 hr.2.2
            rw [if_neg q2, if_neg (by rintro (z | z); exact q1 z; exact q2 z), jl_395]
            simp (disch := omega) only [zI_lit, q_lt hi0.1 (show gnL S ≤ 256 by omega), z_b1, p_eq]
            by_cases r2 : glt S (gwl G S n k.toNat 0) 0 = 2
            · rw [if_pos r2, if_pos r2, jl_398]
            · rw [if_neg r2, if_neg r2, jl_396]
              simp (disch := omega) only [zI_lit, q_lt hi0.1 (show gnL S ≤ 256 by omega), z_b1, p_eq]
              by_cases r0 : glt S (gwl G S n k.toNat 0) 0 = 0
              · rw [if_pos r0, if_pos r0, jl_398]
              · rw [if_neg r0, if_neg r0, jl_397, jl_398]; rfl
      · have hz := hgl (by omega)
        rw [show decide (0 ≤ k ∧ k ≤ gnL S - 1) = false by simp; omega, if_pos (by decide), jl_392, if_pos (Or.inl hz), hz]; rfl
  · exact zero (-1) (fun _ => rfl) cc
