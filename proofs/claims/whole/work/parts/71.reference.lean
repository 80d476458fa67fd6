/-! m: those that wait, in the order in which they were deferred -/
def hO (S : gS) : Prop := (0 ≤ gdf S ∧ gdf S ≤ 1000) ∧ (∀ k, 0 ≤ k → k < gnL S → glt S k 5 = 1 → 1 ≤ glt S k 7 ∧ glt S k 7 ≤ gdf S) ∧ (∀ j k, 0 ≤ j → j < gnL S → glt S j 5 = 1 → 0 ≤ k → k < gnL S → glt S k 5 = 1 → glt S j 7 = glt S k 7 → j = k)
/-- deferred at a node, behind a place in the order -/
def gdw (G : gG) (S : gS) (n a j : Int) : Prop := glt S j 5 = 1 ∧ grc G (glt S j 1) = n ∧ a < glt S j 7
def gnxR (G : gG) (S : gS) (n a : Int) : Nat → Int
  | 0 => -1
  | j + 1 => if (glt S j 5 = 1 ∧ grc G (glt S j 1) = n ∧ a < glt S j 7) ∧ (gnxR G S n a j = -1 ∨ glt S j 7 < glt S (gnxR G S n a j) 7) then (j : Int) else gnxR G S n a j
def gnx (G : gG) (S : gS) (n a : Int) : Int := gnxR G S n a (gnL S).toNat
def gwl (G : gG) (S : gS) (n : Int) : Nat → Int → Int
  | 0, a => gnx G S n a
  | d + 1, a => if gnx G S n a = -1 then -1 else gwl G S n d (glt S (gnx G S n a) 7)
theorem gnxR_s {G : gG} {S : gS} {n a : Int} : ∀ m : Nat, (gnxR G S n a m = -1 ∧ ∀ j : Int, 0 ≤ j → j < m → ¬ gdw G S n a j) ∨ (0 ≤ gnxR G S n a m ∧ gnxR G S n a m < m ∧ gdw G S n a (gnxR G S n a m) ∧ ∀ j : Int, 0 ≤ j → j < m → gdw G S n a j → glt S (gnxR G S n a m) 7 ≤ glt S j 7) := by
  intro m
  induction m with
  | zero => exact Or.inl ⟨rfl, fun j h1 h2 => by omega⟩
  | succ m ih =>
    unfold gnxR
    by_cases hc : (glt S m 5 = 1 ∧ grc G (glt S m 1) = n ∧ a < glt S m 7) ∧ (gnxR G S n a m = -1 ∨ glt S m 7 < glt S (gnxR G S n a m) 7)
    · rw [if_pos hc]
      right
      refine ⟨by omega, by omega, hc.1, ?_⟩
      intro j h1 h2 h3
      by_cases q : j = m
      · rw [q]
        exact Int.le_refl _
      · rcases ih with h | h
        · exact absurd h3 (h.2 j h1 (by omega))
        · have h4 := h.2.2.2 j h1 (by omega) h3
          rcases hc.2 with h5 | h5
          · omega
          · omega
    · rw [if_neg hc]
      rcases ih with h | h
      · left
        refine ⟨h.1, ?_⟩
        intro j h1 h2 h3
        by_cases q : j = m
        · rw [q] at h3
          exact hc ⟨h3, Or.inl h.1⟩
        · exact h.2 j h1 (by omega) h3
      · right
        refine ⟨h.1, by omega, h.2.2.1, ?_⟩
        intro j h1 h2 h3
        by_cases q : j = m
        · rw [q] at h3 ⊢
          by_cases q2 : glt S m 7 < glt S (gnxR G S n a m) 7
          · exact absurd ⟨h3, Or.inr q2⟩ hc
          · omega
        · exact h.2.2.2 j h1 (by omega) h3
theorem gnx_s {G : gG} {S : gS} {n a : Int} (hL : 0 ≤ gnL S) : (gnx G S n a = -1 ∧ ∀ j : Int, 0 ≤ j → j < gnL S → ¬ gdw G S n a j) ∨ (0 ≤ gnx G S n a ∧ gnx G S n a < gnL S ∧ gdw G S n a (gnx G S n a) ∧ ∀ j : Int, 0 ≤ j → j < gnL S → gdw G S n a j → glt S (gnx G S n a) 7 ≤ glt S j 7) := by
  have h := gnxR_s (G := G) (S := S) (n := n) (a := a) (gnL S).toNat
  have e : ((gnL S).toNat : Int) = gnL S := by omega
  rw [e] at h
  exact h
theorem gwl_s {G : gG} {S : gS} {n : Int} : ∀ (d : Nat) (a : Int), gwl G S n d a ≠ -1 → gwl G S n (d + 1) a = gnx G S n (glt S (gwl G S n d a) 7) := by
  intro d
  induction d with
  | zero =>
    intro a h
    unfold gwl at h ⊢
    rw [if_neg h]
    rfl
  | succ d ih =>
    intro a h
    rw [gwl] at h ⊢
    by_cases q : gnx G S n a = -1
    · rw [if_pos q] at h
      exact absurd rfl h
    · rw [if_neg q] at h
      rw [if_neg q, ih _ h]
      rw [gwl, if_neg q]
theorem gwl_r {G : gG} {S : gS} {n : Int} (hL : 0 ≤ gnL S) : ∀ (d : Nat) (a : Int), gwl G S n d a = -1 ∨ (0 ≤ gwl G S n d a ∧ gwl G S n d a < gnL S ∧ gdw G S n a (gwl G S n d a)) := by
  intro d
  induction d with
  | zero =>
    intro a
    unfold gwl
    rcases gnx_s (G := G) (S := S) (n := n) (a := a) hL with h | h
    · exact Or.inl h.1
    · exact Or.inr ⟨h.1, h.2.1, h.2.2.1⟩
  | succ d ih =>
    intro a
    unfold gwl
    by_cases q : gnx G S n a = -1
    · rw [if_pos q]
      exact Or.inl rfl
    · rw [if_neg q]
      rcases gnx_s (G := G) (S := S) (n := n) (a := a) hL with h | h
      · exact absurd h.1 q
      · rcases ih (glt S (gnx G S n a) 7) with h2 | h2
        · exact Or.inl h2
        · have h3 := h.2.2.1.2.2
          exact Or.inr ⟨h2.1, h2.2.1, h2.2.2.1, h2.2.2.2.1, by have := h2.2.2.2.2; omega⟩
theorem m_nx {G : gG} {S : gS} {μ : ax_M} {n k a i : Int} (hg : hGok G) (hr : hRs G S) (ho : hO S) (hL : gnL S ≤ 256) (h0 : 0 ≤ n) (h1 : n < 12) (ha : -1 ≤ a ∧ a ≤ 1000) : ∀ m l : Nat, l + m = (gnL S).toNat → aJ 273 [.ref 207, .int (zI n), .int (zI k), .int (zI a), .int (zI i), .int (zI (gnxR G S n a l)), .int (zI l)] [] (mM G S μ) = aJ 277 [.ref 207, .int (zI n), .int (zI k), .int (zI i), .int (zI (gnx G S n a))] [] (mM G S μ) := by
  have hL0 := hr.2.2.1
  have hE := hg.2.2.2.1
  have hN := hg.2.1
  intro m
  induction m with
  | zero =>
    intro l hl
    rw [jl_273, l_L, z_bo, i_le (zR_of (by omega)) (zR_of (by omega)), if_pos (by omega)]
    unfold gnx
    rw [show l = (gnL S).toNat by omega]
  | succ m ih =>
    intro l hl
    have hlL : (l : Int) < gnL S := by omega
    obtain ⟨l0, l1, l2, l3, l4, l5, l6, l7⟩ := hr.2.2.2 l (by omega) hlL
    have hb := gnxR_s (G := G) (S := S) (n := n) (a := a) l
    have hnx : ∀ v : Int, aJ 276 [.ref 207, .int (zI n), .int (zI k), .int (zI a), .int (zI i), .int (zI v), .int (zI l)] [] (mM G S μ) = aJ 273 [.ref 207, .int (zI n), .int (zI k), .int (zI a), .int (zI i), .int (zI v), .int (zI ((l + 1 : Nat) : Int))] [] (mM G S μ) := by
      intro v
      rw [jl_276]
      have h3 : zI (l : Int) + (1 : Int32) = zI ((l + 1 : Nat) : Int) := zI_add l 1
      rw [h3]
    have ih' := ih (l + 1) (by omega)
    rw [gnxR] at ih'
    have hrc := h_sdr hg (h_opW (show hW G (glt S l 1) from ⟨l1.1, l1.2⟩)).1
    have hrc2 : 0 ≤ grc G (glt S l 1) ∧ grc G (glt S l 1) < gN G := hrc
    rw [jl_273, l_L, z_bo, i_le (zR_of (by omega)) (zR_of (by omega)), if_neg (by omega), m_lt5 (by omega) hlL (by omega), z_b1, j_eq rfl zl1 (zR_of (by omega)) (zR_of (by omega))]
    by_cases q5 : glt S l 5 = 1
    · obtain ⟨o1, o2⟩ := ho.2.1 l (by omega) hlL q5
      have hd := ho.1.2
      rw [if_pos q5, m_lt1 (by omega) hlL (by omega), z_b1, m_rc (by omega) (by omega), z_b1, i_eq (zR_of (by omega)) (zR_of (by omega))]
      by_cases qn : grc G (glt S l 1) = n
      · rw [if_pos qn, m_lt7 (by omega) hlL (by omega), z_b1, i_lt (zR_of (by omega)) (zR_of (by omega))]
        by_cases qa : a < glt S l 7
        · rw [if_pos qa, jl_274, j_eq rfl zlm (zR_of (by omega)) (zR_of (by omega))]
          by_cases qb : gnxR G S n a l = -1
          · rw [if_pos ⟨⟨q5, qn, qa⟩, Or.inl qb⟩] at ih'
            rw [if_pos qb, jl_275, hnx]
            exact ih'
          · rcases hb with hb | hb
            · exact absurd hb.1 qb
            · have ob := ho.2.1 _ hb.1 (by omega) hb.2.2.1.1
              rw [if_neg qb, m_lt7 (by omega) hlL (by omega), z_b1, m_lt7 hb.1 (by omega) (by omega), z_b1, i_le (zR_of (by omega)) (zR_of (by omega))]
              by_cases qc : glt S l 7 < glt S (gnxR G S n a l) 7
              · rw [if_pos ⟨⟨q5, qn, qa⟩, Or.inr qc⟩] at ih'
                rw [if_neg (by omega), jl_275, hnx]
                exact ih'
              · have hc : ¬ ((glt S l 5 = 1 ∧ grc G (glt S l 1) = n ∧ a < glt S l 7) ∧ (gnxR G S n a l = -1 ∨ glt S l 7 < glt S (gnxR G S n a l) 7)) := by
                  rintro ⟨_, x | x⟩
                  · exact qb x
                  · exact qc x
                rw [if_neg hc] at ih'
                rw [if_pos (by omega), hnx]
                exact ih'
        · rw [if_neg (fun x => qa x.1.2.2)] at ih'
          rw [if_neg qa, hnx]
          exact ih'
      · rw [if_neg (fun x => qn x.1.2.1)] at ih'
        rw [if_neg qn, hnx]
        exact ih'
    · rw [if_neg (fun x => q5 x.1.1)] at ih'
      rw [if_neg q5, hnx]
      exact ih'
theorem m_wl {G : gG} {S : gS} {μ : ax_M} {n : Int} (hg : hGok G) (hr : hRs G S) (ho : hO S) (hL : gnL S ≤ 256) (h0 : 0 ≤ n) (h1 : n < 12) {k : Nat} (hk : k ≤ 100000) : ∀ (d i : Nat) (a : Int), i + d = k → -1 ≤ a → a ≤ 1000 → aJ 272 [.ref 207, .int (zI n), .int (zI k), .int (zI a), .int (zI i)] [] (mM G S μ) = some (some (.int (zI (gwl G S n d a))), mM G S μ) := by
  have hL0 := hr.2.2.1
  intro d
  induction d with
  | zero =>
    intro i a hi a0 a1
    have hm := m_nx (μ := μ) (n := n) (k := k) (a := a) (i := i) hg hr ho hL h0 h1 ⟨a0, a1⟩ (gnL S).toNat 0 (by omega)
    have hb := gnx_s (G := G) (S := S) (n := n) (a := a) hL0
    rw [jl_272, i_lt (zR_of (by omega)) (zR_of (by omega)), if_neg (by omega)]
    have hm' : aJ 273 [.ref 207, .int (zI n), .int (zI k), .int (zI a), .int (zI i), .int (-1), .int 0] [] (mM G S μ) = aJ 277 [.ref 207, .int (zI n), .int (zI k), .int (zI i), .int (zI (gnx G S n a))] [] (mM G S μ) := hm
    rw [hm', jl_277, j_eq rfl zlm (zR_of (by omega)) (zR_of (by omega)), i_eq (zR_of (by omega)) (zR_of (by omega)), if_pos (show (i : Int) = k by omega)]
    unfold gwl
    split <;> rw [jl_278]
  | succ d ih =>
    intro i a hi a0 a1
    have hm := m_nx (μ := μ) (n := n) (k := k) (a := a) (i := i) hg hr ho hL h0 h1 ⟨a0, a1⟩ (gnL S).toNat 0 (by omega)
    have hb := gnx_s (G := G) (S := S) (n := n) (a := a) hL0
    rw [jl_272, i_lt (zR_of (by omega)) (zR_of (by omega)), if_neg (by omega)]
    have hm' : aJ 273 [.ref 207, .int (zI n), .int (zI k), .int (zI a), .int (zI i), .int (-1), .int 0] [] (mM G S μ) = aJ 277 [.ref 207, .int (zI n), .int (zI k), .int (zI i), .int (zI (gnx G S n a))] [] (mM G S μ) := hm
    rw [hm', jl_277, j_eq rfl zlm (zR_of (by omega)) (zR_of (by omega)), i_eq (zR_of (by omega)) (zR_of (by omega)), if_neg (show ¬ (i : Int) = k by omega)]
    unfold gwl
    rcases hb with hb | hb
    · rw [if_pos hb.1, if_pos hb.1, jl_278, hb.1]
    · have hne : ¬ gnx G S n a = -1 := by omega
      have ob := ho.2.1 _ hb.1 hb.2.1 hb.2.2.1.1
      have hd := ho.1.2
      have h3 : zI (i : Int) + (1 : Int32) = zI ((i + 1 : Nat) : Int) := zI_add i 1
      rw [if_neg hne, if_neg hne, jl_279, m_lt7 hb.1 hb.2.1 (by omega), z_b1, h3, ih (i + 1) _ (by omega) (by omega) (by omega)]
theorem m_wt {G : gG} {S : gS} {μ : ax_M} {n : Int} (hg : hGok G) (hr : hRs G S) (ho : hO S) (hL : gnL S ≤ 256) (h0 : 0 ≤ n) (h1 : n < 12) {k : Nat} (hk : k ≤ 100000) : aJ 271 [.ref 207, .int (zI n), .int (zI k)] [] (mM G S μ) = some (some (.int (zI (gwl G S n k 0))), mM G S μ) := by
  rw [jl_271]
  exact m_wl hg hr ho hL h0 h1 hk k 0 0 (by omega) (by omega) (by omega)
/-! which of them is the first that can be handled -/
theorem h_graM {G : gG} {S : gS} {n : Int} : ∀ m : Nat, grdR G S n m = -1 ∨ ∀ j : Int, 0 ≤ j → j < m → (glt S j 5 = 1 ∧ grc G (glt S j 1) = n ∧ gwh G S j = 0) → glt S (grdR G S n m) 7 ≤ glt S j 7 := by
  intro m
  induction m with
  | zero => exact Or.inl rfl
  | succ m ih =>
    unfold grdR
    simp only
    by_cases hc : glt S m 5 = 1 ∧ grc G (glt S m 1) = n ∧ gwh G S m = 0 ∧ (grdR G S n m = -1 ∨ glt S m 7 < glt S (grdR G S n m) 7)
    · rw [if_pos hc]
      right
      intro j h1 h2 h3
      by_cases q : j = m
      · rw [q]
        exact Int.le_refl _
      · rcases h_graR (G := G) (S := S) (n := n) m with h | h
        · exact absurd h3 (h.2 j h1 (by omega))
        · rcases ih with h4 | h4
          · omega
          · have h5 := h4 j h1 (by omega) h3
            rcases hc.2.2.2 with h6 | h6 <;> omega
    · rw [if_neg hc]
      rcases ih with h4 | h4
      · exact Or.inl h4
      · right
        intro j h1 h2 h3
        by_cases q : j = m
        · rw [q] at h3 ⊢
          by_cases q2 : glt S m 7 < glt S (grdR G S n m) 7
          · exact absurd ⟨h3.1, h3.2.1, h3.2.2, Or.inr q2⟩ hc
          · omega
        · exact h4 j h1 (by omega) h3
theorem m_ra {G : gG} {S : gS} {μ : ax_M} {n : Int} (hg : hGok G) (hr : hRs G S) (ho : hO S) (hL : gnL S ≤ 256) (h0 : 0 ≤ n) (h1 : n < 12) : aJ 281 [.ref 207, .int (zI n)] [] (mM G S μ) = some (some (.int (zI (gra G S n))), mM G S μ) := by
  have hL0 := hr.2.2.1
  have hgr := h_gra (G := G) (S := S) (n := n) hL0
  have hgm := h_graM (G := G) (S := S) (n := n) (gnL S).toNat
  have eL : ((gnL S).toNat : Int) = gnL S := by omega
  rw [eL] at hgm
  have hd := ho.1
  have hwr : ∀ j, 0 ≤ gwh G S j ∧ gwh G S j ≤ 3 := by
    intro j
    unfold gwh
    simp only
    split
    · split <;> omega
    · split
      · split <;> omega
      · split
        · split <;> omega
        · omega
  have key : ∀ (f k : Nat), k ≤ 2000 → (gwl G S n k 0 ≠ -1 → gdf S - glt S (gwl G S n k 0) 7 < f ∧ k < glt S (gwl G S n k 0) 7) → (∀ j : Int, 0 ≤ j → j < gnL S → (glt S j 5 = 1 ∧ grc G (glt S j 1) = n ∧ gwh G S j = 0) → gwl G S n k 0 ≠ -1 ∧ glt S (gwl G S n k 0) 7 ≤ glt S j 7) → aJ 282 [.ref 207, .int (zI n), .int (zI k)] [] (mM G S μ) = some (some (.int (zI (gra G S n))), mM G S μ) := by
    intro f
    induction f with
    | zero =>
      intro k hk hf hm
      rw [jl_282, m_wt hg hr ho hL h0 h1 (by omega), z_b1]
      rcases gwl_r (G := G) (S := S) (n := n) hL0 k 0 with hb | hb
      · rw [j_eq rfl zlm (zR_of (by omega)) (zR_of (by omega)), if_pos hb, jl_284]
        rcases hgr with h2 | h2
        · rw [h2.1]
          rfl
        · exact absurd hb (hm _ h2.1 h2.2.1 h2.2.2).1
      · have ob := ho.2.1 _ hb.1 hb.2.1 hb.2.2.1
        have hf' := hf (by omega)
        omega
    | succ f ih =>
      intro k hk hf hm
      rw [jl_282, m_wt hg hr ho hL h0 h1 (by omega), z_b1]
      rcases gwl_r (G := G) (S := S) (n := n) hL0 k 0 with hb | hb
      · rw [j_eq rfl zlm (zR_of (by omega)) (zR_of (by omega)), if_pos hb, jl_284]
        rcases hgr with h2 | h2
        · rw [h2.1]
          rfl
        · exact absurd hb (hm _ h2.1 h2.2.1 h2.2.2).1
      · have ob := ho.2.1 _ hb.1 hb.2.1 hb.2.2.1
        have hne : ¬ gwl G S n k 0 = -1 := by omega
        have hf' := hf hne
        have hw := hwr (gwl G S n k 0)
        rw [j_eq rfl zlm (zR_of (by omega)) (zR_of (by omega)), if_neg hne, m_wt hg hr ho hL h0 h1 (by omega), z_b1, m_wn hg hr (by omega) hb.1 hb.2.1, z_b1, j_eq rfl zl0 (zR_of (by omega)) (zR_of (by omega))]
        by_cases q : gwh G S (gwl G S n k 0) = 0
        · rw [if_pos q, m_wt hg hr ho hL h0 h1 (by omega), z_b1]
          rcases hgr with h2 | h2
          · exact absurd ⟨hb.2.2.1, hb.2.2.2.1, q⟩ (h2.2 _ hb.1 hb.2.1)
          · have h3 := (hm _ h2.1 h2.2.1 h2.2.2).2
            have h4 := hgm.resolve_left (by unfold gra at h2; omega) _ hb.1 hb.2.1 ⟨hb.2.2.1, hb.2.2.2.1, q⟩
            have h5 := ho.2.2 _ _ hb.1 hb.2.1 hb.2.2.1 h2.1 h2.2.1 h2.2.2.1 (by unfold gra at h3 ⊢; omega)
            rw [h5]
        · have hs := gwl_s (G := G) (S := S) (n := n) k 0 hne
          have hx := gnx_s (G := G) (S := S) (n := n) (a := glt S (gwl G S n k 0) 7) hL0
          have h3 : zI (k : Int) + (1 : Int32) = zI ((k + 1 : Nat) : Int) := zI_add k 1
          rw [if_neg q, jl_283, h3]
          refine ih (k + 1) (by omega) ?_ ?_
          · intro h4
            rw [hs] at h4 ⊢
            rcases hx with hx | hx
            · exact absurd hx.1 h4
            · have h5 := hx.2.2.1.2.2
              omega
          · intro j j0 j1 j2
            rw [hs]
            have h6 := (hm j j0 j1 j2).2
            have h7 : glt S (gwl G S n k 0) 7 ≠ glt S j 7 := by
              intro h8
              have h9 := ho.2.2 _ _ hb.1 hb.2.1 hb.2.2.1 j0 j1 j2.1 h8
              rw [h9] at q
              exact q j2.2.2
            have h8 : gdw G S n (glt S (gwl G S n k 0) 7) j := ⟨j2.1, j2.2.1, by omega⟩
            rcases hx with hx | hx
            · exact absurd h8 (hx.2 j j0 j1)
            · exact ⟨by omega, hx.2.2.2 j j0 j1 h8⟩
  rw [jl_281]
  refine key 2000 0 (by omega) ?_ ?_
  · intro h4
    rcases gwl_r (G := G) (S := S) (n := n) hL0 0 0 with hb | hb
    · exact absurd hb h4
    · have ob := ho.2.1 _ hb.1 hb.2.1 hb.2.2.1
      omega
  · intro j j0 j1 j2
    have ob := ho.2.1 _ j0 j1 j2.1
    have h8 : gdw G S n 0 j := ⟨j2.1, j2.2.1, by omega⟩
    rw [gwl]
    rcases gnx_s (G := G) (S := S) (n := n) (a := 0) hL0 with hx | hx
    · exact absurd h8 (hx.2 j j0 j1)
    · exact ⟨by omega, hx.2.2.2 j j0 j1 h8⟩
