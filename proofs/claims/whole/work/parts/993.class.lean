/-! c: the first of those that wait at a node that can be handled -/
def shf (f : Int → Int) (i j : Int) : Int → Int := fun x => if i ≤ x ∧ x < j then f (x + 1) else f x
theorem shf_0 {f : Int → Int} {i : Int} : shf f i i = f := by
  funext x
  unfold shf
  rw [if_neg (by omega)]
theorem shf_1 {f : Int → Int} {i j : Int} (h : i ≤ j) : pu (shf f i j) j (f (j + 1)) = shf f i (j + 1) := by
  funext x
  by_cases q : x = j
  · subst q
    rw [pu_at]
    unfold shf
    rw [if_pos (by omega)]
  · rw [pu_ne q]
    unfold shf
    by_cases c : i ≤ x ∧ x < j
    · rw [if_pos c, if_pos (by omega)]
    · rw [if_neg c, if_neg (by omega)]
theorem XR_unw {G : gG} {S : gS} {fo lo oe af wl so wn : Int → Int} {ow wc hd dp i : Int} (h0 : 0 ≤ gnL S) (i0 : 0 ≤ i) (i1 : i < wc) (h : XR G S (fo, lo, oe, af, wl, so, wn, ow, wc, hd, dp)) : XR G (gsL S (wl i) 5 2) (fo, lo, oe, af, shf wl i (wc - 1), so, pu wn (grc G (glt S (wl i) 1)) (wn (grc G (glt S (wl i) 1)) - 1), ow, wc - 1, hd + 1, dp) := by
  obtain ⟨x1, x2, x3, x4, x5, x6, x7, x8, x9⟩ := h
  have a5 := x5.2.1 i i0 i1
  have a5' : 0 ≤ wl i ∧ wl i < gnL S ∧ glt S (wl i) 5 = 1 := a5
  obtain ⟨k0, g1, k5⟩ := a5'
  have hne : ∀ j, 0 ≤ j → j < wc → j ≠ i → wl j ≠ wl i := by
    intro j j0 j1 q e
    have x53 := x5.2.2.1
    by_cases c : j < i
    · have : glt S (wl j) 7 < glt S (wl i) 7 := x53 j i j0 c i1
      rw [e] at this
      omega
    · have : glt S (wl i) 7 < glt S (wl j) 7 := x53 i j i0 (by omega) j1
      rw [e] at this
      omega
  have eW : (wl i) = wl i := rfl
  generalize hk : wl i = k at k0 g1 k5 hne ⊢
  have eT : gnL (gsL S k 5 2) = gnL S := rfl
  have t5 : ∀ j, j ≠ k → glt (gsL S k 5 2) j 5 = glt S j 5 := fun j q => by simp [glt, gsL, q]
  have tf : ∀ j f, f ≠ 5 → glt (gsL S k 5 2) j f = glt S j f := fun j f q => by simp [glt, gsL, q]
  have tn : glt (gsL S k 5 2) k 5 = 2 := by simp [glt, gsL]
  generalize gsL S k 5 2 = T at *
  have on : ∀ v j, onW T v j ↔ onW S v j := by
    intro v j
    unfold onW
    rw [tf j 1 (by omega)]
    by_cases q : j = k
    · rw [q, k5, tn]
      constructor
      · intro z
        omega
      · intro z
        omega
    · rw [t5 j q]
  have kT : k < ((gnL S).toNat : Nat) := by omega
  have fi : ∀ v, gfi T v = gfi S v := by
    intro v
    unfold gfi
    rw [eT]
    exact gfiR_congr _ (fun j _ _ => on v j)
  have up : ∀ x : Int, nWh T x + (if x = 1 then 1 else 0) = nWh S x + (if x = 2 then 1 else 0) := by
    intro x
    have h2 := pct_upd (P := fun j => glt S j 5 = x) (Q := fun j => glt T j 5 = x) (D := fun _ => inferInstance) (D2 := fun _ => inferInstance) (m := (gnL S).toNat) k0 kT (fun i hi => by rw [t5 i hi])
    have e2 : nWh T x = pct (fun j => glt T j 5 = x) (fun _ => inferInstance) (gnL S).toNat := by
      unfold nWh
      rw [eT]
    have e1 : nWh S x = pct (fun j => glt S j 5 = x) (fun _ => inferInstance) (gnL S).toNat := rfl
    rw [e1, e2]
    rw [show (if x = 2 then 1 else 0) = (if glt T k 5 = x then 1 else 0) by rw [tn]; by_cases c : x = 2; rw [if_pos c, if_pos c.symm]; rw [if_neg c, if_neg (fun z => c z.symm)]]
    rw [show (if x = 1 then 1 else 0) = (if glt S k 5 = x then 1 else 0) by rw [k5]; by_cases c : x = 1; rw [if_pos c, if_pos c.symm]; rw [if_neg c, if_neg (fun z => c z.symm)]]
    exact h2
  obtain ⟨v0, v1, v2⟩ := x8
  have v0' : ow = nWh S 0 := v0
  have v1' : wc = nWh S 1 := v1
  have v2' : hd = nWh S 2 := v2
  have p0 := up 0
  have p1 := up 1
  have p2 := up 2
  simp at p0 p1 p2
  refine ⟨?_, ?_, ?_, ?_, ?_, ?_, ?_, ?_, ?_⟩
  · intro v a0 a1
    have h2 : nOn T v = nOn S v := by
      unfold nOn
      rw [eT]
      exact pct_congr (fun i _ _ => on v i)
    rw [h2]
    exact x1 v a0 a1
  · intro v a0 a1
    rw [fi]
    exact x2 v a0 a1
  · intro v a0 a1 hv
    rw [fi] at hv
    obtain ⟨z1, z2, z3, z4⟩ := x3 v a0 a1 hv
    refine ⟨z1, by rw [eT]; exact z2, (on v _).mpr z3, fun j j0 j1 j2 => z4 j j0 (by rw [← eT]; exact j1) ((on v j).mp j2)⟩
  · intro j j0 j1 j5
    have jk : j ≠ k := by
      intro q
      rw [q, tn] at j5
      omega
    rw [t5 j jk] at j5
    rw [tf j 1 (by omega)]
    rw [eT] at j1
    rw [eT]
    rcases x4 j j0 j1 j5 with z | z
    · exact Or.inl ⟨z.1, fun i i0 i1 i2 => z.2 i i0 i1 ((on _ i).mp i2)⟩
    · exact Or.inr ⟨z.1, z.2.1, (on _ _).mpr z.2.2.1, fun i i0 i1 i2 => z.2.2.2 i i0 i1 ((on _ i).mp i2)⟩
  · obtain ⟨u1, u2, u3, u4⟩ := x5
    have u1' : 0 ≤ wc ∧ wc ≤ gnL S := u1
    have u2' : ∀ j, 0 ≤ j → j < wc → 0 ≤ wl j ∧ wl j < gnL S ∧ glt S (wl j) 5 = 1 := u2
    have u3' : ∀ a b, 0 ≤ a → a < b → b < wc → glt S (wl a) 7 < glt S (wl b) 7 := u3
    have u4' : ∀ j, 0 ≤ j → j < gnL S → glt S j 5 = 1 → ∃ i, 0 ≤ i ∧ i < wc ∧ wl i = j := u4
    have sh : ∀ j, 0 ≤ j → j < wc - 1 → ∃ j', shf wl i (wc - 1) j = wl j' ∧ 0 ≤ j' ∧ j' < wc ∧ j' ≠ i ∧ j' = (if j < i then j else j + 1) := by
      intro j j0 j1
      by_cases q : j < i
      · refine ⟨j, ?_, j0, by omega, by omega, by rw [if_pos q]⟩
        unfold shf
        rw [if_neg (by omega)]
      · refine ⟨j + 1, ?_, by omega, by omega, by omega, by rw [if_neg q]⟩
        unfold shf
        rw [if_pos (by omega)]
    refine ⟨⟨by show 0 ≤ wc - 1; omega, by show wc - 1 ≤ gnL T; omega⟩, ?_, ?_, ?_⟩
    · intro j j0 j1
      have j1' : j < wc - 1 := j1
      show 0 ≤ shf wl i (wc - 1) j ∧ shf wl i (wc - 1) j < gnL T ∧ glt T (shf wl i (wc - 1) j) 5 = 1
      obtain ⟨j', e, s0, s1, s2, _⟩ := sh j j0 j1'
      have z := u2' j' s0 s1
      rw [e, t5 _ (hne j' s0 s1 s2), eT]
      exact z
    · intro a b a0 ab b1
      have b1' : b < wc - 1 := b1
      show glt T (shf wl i (wc - 1) a) 7 < glt T (shf wl i (wc - 1) b) 7
      obtain ⟨a', ea, s0, s1, s2, s3⟩ := sh a a0 (by omega)
      obtain ⟨b', eb, r0, r1, r2, r3⟩ := sh b (by omega) b1'
      rw [ea, eb, tf _ 7 (by omega), tf _ 7 (by omega)]
      refine u3' a' b' s0 ?_ r1
      rw [s3, r3]
      by_cases q : a < i
      · rw [if_pos q]
        split <;> omega
      · rw [if_neg q, if_neg (by omega)]
        omega
    · intro j j0 j1 j5
      have jk : j ≠ k := by
        intro q
        rw [q, tn] at j5
        omega
      rw [t5 j jk] at j5
      obtain ⟨m, m0, m1, m2⟩ := u4' j j0 (by rw [← eT]; exact j1) j5
      have mi : m ≠ i := by
        intro q
        rw [q, hk] at m2
        exact jk m2.symm
      show ∃ i', 0 ≤ i' ∧ i' < wc - 1 ∧ shf wl i (wc - 1) i' = j
      by_cases q : m < i
      · refine ⟨m, m0, by omega, ?_⟩
        unfold shf
        rw [if_neg (by omega)]
        exact m2
      · refine ⟨m - 1, by omega, by omega, ?_⟩
        unfold shf
        rw [if_pos (by omega), show m - 1 + 1 = m by omega]
        exact m2
  · intro x a0 a1
    have h2 : nKd T x = nKd S x := by
      unfold nKd
      rw [eT]
      refine pct_congr ?_
      intro i _ _
      rw [tf i 0 (by omega)]
    rw [h2]
    exact x6 x a0 a1
  · intro m a0 a1
    have h2 := pct_upd (P := fun j => glt S j 5 = 1 ∧ grc G (glt S j 1) = m) (Q := fun j => glt T j 5 = 1 ∧ grc G (glt T j 1) = m) (D := fun _ => inferInstance) (D2 := fun _ => inferInstance) (m := (gnL S).toNat) k0 kT (fun i hi => by rw [t5 i hi, tf i 1 (by omega)])
    have e1 : nDf G S m = pct (fun j => glt S j 5 = 1 ∧ grc G (glt S j 1) = m) (fun _ => inferInstance) (gnL S).toNat := rfl
    have e2 : nDf G T m = pct (fun j => glt T j 5 = 1 ∧ grc G (glt T j 1) = m) (fun _ => inferInstance) (gnL S).toNat := by
      unfold nDf
      rw [eT]
    have hp : ¬ (glt T k 5 = 1 ∧ grc G (glt T k 1) = m) := by
      rw [tn]
      intro z
      omega
    rw [if_neg hp, ← e1, ← e2] at h2
    have h7 : wn m = nDf G S m := x7 m a0 a1
    show pu wn (grc G (glt S k 1)) (wn (grc G (glt S k 1)) - 1) m = _
    by_cases c : m = grc G (glt S k 1)
    · rw [if_pos ⟨k5, c.symm⟩] at h2
      rw [← c, pu_at]
      omega
    · have hq : ¬ (glt S k 5 = 1 ∧ grc G (glt S k 1) = m) := fun z => c z.2.symm
      rw [if_neg hq] at h2
      rw [pu_ne c]
      omega
  · refine ⟨?_, ?_, ?_⟩
    · show ow = _
      omega
    · show wc - 1 = _
      omega
    · show hd + 1 = _
      omega
  · obtain ⟨w0, w1, w2⟩ := x9
    refine ⟨w0, ?_, ?_⟩
    · intro j j0 j1
      rw [tf j 6 (by omega)]
      exact w1 j j0 (by rw [← eT]; exact j1)
    · rcases w2 with z | ⟨j, j0, j1, j2⟩
      · exact Or.inl z
      · exact Or.inr ⟨j, j0, by rw [eT]; exact j1, by rw [tf j 6 (by omega)]; exact j2⟩
theorem gra_first {G : gG} {S : gS} {X : cX} {n i : Int} (hL : 0 ≤ gnL S) (h : XR5 S X) (i0 : 0 ≤ i) (i1 : i < xwc X) (hp : grc G (glt S (xwl X i) 1) = n ∧ gwh G S (xwl X i) = 0) (hf : ∀ j, 0 ≤ j → j < i → ¬ (grc G (glt S (xwl X j) 1) = n ∧ gwh G S (xwl X j) = 0)) : gra G S n = xwl X i := by
  obtain ⟨h1, h2, h3, h4⟩ := h
  have hi := h2 i i0 i1
  have hm := h_graM (G := G) (S := S) (n := n) (gnL S).toNat
  rcases h_gra (G := G) (S := S) (n := n) hL with g | g
  · exact absurd ⟨hi.2.2, hp.1, hp.2⟩ (g.2 _ hi.1 hi.2.1)
  · obtain ⟨g0, g1, g2, g3, g4⟩ := g
    obtain ⟨m, m0, m1, m2⟩ := h4 _ g0 g1 g2
    rcases hm with z | z
    · unfold gra at g0
      omega
    · have z2 : glt S (gra G S n) 7 ≤ glt S (xwl X i) 7 := z _ hi.1 (by omega) ⟨hi.2.2, hp.1, hp.2⟩
      rcases Int.lt_trichotomy m i with c | c | c
      · exact absurd ⟨by rw [m2]; exact g3, by rw [m2]; exact g4⟩ (hf m m0 c)
      · rw [← c, m2]
      · have := h3 i m i0 c m1
        rw [m2] at this
        omega
theorem gra_none {G : gG} {S : gS} {X : cX} {n : Int} (hL : 0 ≤ gnL S) (h : XR5 S X) (hf : ∀ j, 0 ≤ j → j < xwc X → ¬ (grc G (glt S (xwl X j) 1) = n ∧ gwh G S (xwl X j) = 0)) : gra G S n = -1 := by
  obtain ⟨h1, h2, h3, h4⟩ := h
  rcases h_gra (G := G) (S := S) (n := n) hL with g | g
  · exact g.1
  · obtain ⟨g0, g1, g2, g3, g4⟩ := g
    obtain ⟨m, m0, m1, m2⟩ := h4 _ g0 g1 g2
    exact absurd ⟨by rw [m2]; exact g3, by rw [m2]; exact g4⟩ (hf m m0 m1)
/-- the memory behind differs in the waiting row's background at most -/
def cB (o : Nat) (μ μ' : ax_M) : Prop := μ'.2 = μ.2 ∧ ∀ a, a ≠ o + 9 → μ'.1 a = μ.1 a
theorem cB_refl {o : Nat} {μ : ax_M} : cB o μ μ := ⟨rfl, fun _ _ => rfl⟩
theorem cB_trans {o : Nat} {μ μ' μ'' : ax_M} (h : cB o μ μ') (h' : cB o μ' μ'') : cB o μ μ'' := ⟨h'.1.trans h.1, fun a q => (h'.2 a q).trans (h.2 a q)⟩
theorem cB_up {o : Nat} {μ : ax_M} {z : Nat} {x : Int32} : cB o μ (ax_up μ.1 (o + 9) z x, μ.2) := by
  refine ⟨rfl, ?_⟩
  intro a q
  funext k
  show ax_up μ.1 (o + 9) z x a k = _
  unfold ax_up
  rw [if_neg (fun c => q c.1)]
theorem up_up {f : Nat → Nat → Int32} {o k : Nat} {v w : Int32} : ax_up (ax_up f o k v) o k w = ax_up f o k w := by
  funext a b
  unfold ax_up
  split <;> rfl
theorem up_id {f : Nat → Nat → Int32} {o k : Nat} {v : Int32} (h : f o k = v) : ax_up f o k v = f := by
  funext a b
  unfold ax_up
  split
  · next c => rw [c.1, c.2, h]
  · rfl
/-- one less waits -/
theorem u_fwm {o : Nat} (h : cO o) {G : gG} {S : gS} {fo lo oe af wl so wn : Int → Int} {ow wc hd dp : Int} {μ : ax_M} (h0 : 1 ≤ wc) : ax_uD (cM o G S (fo, lo, oe, af, wl, so, wn, ow, wc, hd, dp) μ) o 13 (zI (wc - 1)) = cM o G S (fo, lo, oe, af, wl, so, wn, ow, wc - 1, hd, dp) (ax_up μ.1 (o + 9) (wc - 1).toNat (zI (wl (wc - 1))), μ.2) := by
  have h1 := u_fwc h (G := G) (S := S) (fo := fo) (lo := lo) (oe := oe) (af := af) (wl := wl) (so := so) (wn := wn) (ow := ow) (wc := wc - 1) (hd := hd) (dp := dp) (j := wl (wc - 1)) (μ := (ax_up μ.1 (o + 9) (wc - 1).toNat (zI (wl (wc - 1))), μ.2)) (by omega) (by simp [ax_up])
  rw [pu_self rfl, show wc - 1 + 1 = wc by omega] at h1
  have h2 := c_unb h (G := G) (S := S) (X := (fo, lo, oe, af, wl, so, wn, ow, wc, hd, dp)) (μ := μ) (z := (wc - 1).toNat) (x := zI (wl (wc - 1))) (by show ((wc - 1).toNat : Int) < wc; omega)
  rw [← h1.trans h2]
  unfold ax_uD
  simp only [up_up]
  have h3 : (cM o G S (fo, lo, oe, af, wl, so, wn, ow, wc - 1, hd, dp) (ax_up μ.1 (o + 9) (wc - 1).toNat (zI (wl (wc - 1))), μ.2)).1 o 13 = zI (wc - 1) := by
    rw [cM_o h]
    rfl
  rw [up_id h3]
theorem c_wai {o : Nat} (h : cO o) {G : gG} {S : gS} {X : cX} {μ : ax_M} : (cM o G S X μ).1 o 13 = zI (xwc X) := by
  rw [cM_o h]
  rfl
theorem c_wlr {o : Nat} (h : cO o) {G : gG} {S : gS} {X : cX} {μ : ax_M} {i : Int} (h0 : 0 ≤ i) (h1 : i < xwc X) (h2 : xwc X ≤ 256) : aJ 846 [.ref (o + 9), .int (zI i)] [] (cM o G S X μ) = some (some (.int (zI (xwl X i))), cM o G S X μ) := by
  rw [c_at (sh_9 h) (by omega) h0 (by omega), cM_9 h, cR_at h0 h1]
theorem c_nodeOf {o : Nat} (h : cO o) {G : gG} {S : gS} {X : cX} {μ : ax_M} {k : Int} (hr : hRs G S) (hE : gE G ≤ 30) (k0 : 0 ≤ k) (k1 : k < gnL S) (hLS : gnL S ≤ 256) : aJ 1179 [.ref o, .int (zI k)] [] (cM o G S X μ) = some (some (.int (zI (grc G (glt S k 1)))), cM o G S X μ) := by
  obtain ⟨l0, l1, l2, l3, l4, l5, l6, l7⟩ := hr.2.2.2 k k0 k1
  rw [jl_1179 _ _ _ h, c_tl1 h k0 k1 hLS, z_b1, c_rc h l1.1 (by omega), z_b1]
/-- the shift of the waiting row, one place on -/
theorem c_shf {o : Nat} (h : cO o) {G : gG} {S : gS} {fo lo oe af wl so wn : Int → Int} {ow wc hd dp i : Int} {μ : ax_M} {n : Int} {x3 : Int32} (i0 : 0 ≤ i) (i1 : i < wc) (w1 : wc ≤ 256) (hn0 : 0 ≤ n) (hn1 : n < 12) : ∀ m : Nat, ∀ j : Int, i + 1 ≤ j → j + m = wc → aJ 1212 [.ref o, .int (zI n), .int x3, .int (zI j)] [] (cM o G S (fo, lo, oe, af, shf wl i (j - 1), so, wn, ow, wc, hd, dp) μ) = some (some (.int x3), cM o G S (fo, lo, oe, af, shf wl i (wc - 1), so, pu wn n (wn n - 1), ow, wc - 1, hd, dp) (ax_up μ.1 (o + 9) (wc - 1).toNat (zI (shf wl i (wc - 1) (wc - 1))), μ.2)) := by
  intro m
  induction m with
  | zero =>
    intro j j0 j1
    have ej : j = wc := by omega
    subst ej
    have e13 : (cM o G S (fo, lo, oe, af, shf wl i (j - 1), so, wn, ow, j, hd, dp) μ).1 o 13 - (1 : Int32) = zI (j - 1) := by
      rw [c_wai h]
      exact zI_s1 j
    have e9 : zI (xwn (fo, lo, oe, af, shf wl i (j - 1), so, wn, ow, j - 1, hd, dp) n) - (1 : Int32) = zI (wn n - 1) := zI_s1 (wn n)
    have e14 : (cM o G S (fo, lo, oe, af, shf wl i (j - 1), so, wn, ow, j, hd, dp) μ).1 o 13 = zI j := c_wai h
    rw [jl_1212 _ _ _ _ _ h, e14, i_le (zR_of (by omega)) (zR_of (by omega)), if_pos (by omega), jl_1213 _ _ _ _ h, e13, u_fwm h (by omega), c_of9 h hn0 hn1, z_b1, c_nt9 h hn0 hn1 e9, z_b0]
  | succ m ih =>
    intro j j0 j1
    have ej : zI j - (1 : Int32) = zI (j - 1) := zI_s1 j
    have ej2 : zI j + (1 : Int32) = zI (j + 1) := zI_a1 j
    have es : shf wl i (j - 1) j = wl (j - 1 + 1) := by
      unfold shf
      rw [if_neg (by omega), show j - 1 + 1 = j by omega]
    have hw : aJ 849 [.ref (o + 9), .int (zI (j - 1)), .int (zI (wl (j - 1 + 1)))] [] (cM o G S (fo, lo, oe, af, shf wl i (j - 1), so, wn, ow, wc, hd, dp) μ) = some (none, cM o G S (fo, lo, oe, af, shf wl i j, so, wn, ow, wc, hd, dp) μ) := by
      rw [c_put (sh_9 h) (by omega) (by omega) (by omega), c_wwl h (by omega) (by omega), shf_1 (by omega), show j - 1 + 1 = j by omega]
    have ih2 := ih (j + 1) (by omega) (by omega)
    rw [show j + 1 - 1 = j by omega] at ih2
    have e14 : (cM o G S (fo, lo, oe, af, shf wl i (j - 1), so, wn, ow, wc, hd, dp) μ).1 o 13 = zI wc := c_wai h
    have e15 : aJ 846 [.ref (o + 9), .int (zI j)] [] (cM o G S (fo, lo, oe, af, shf wl i (j - 1), so, wn, ow, wc, hd, dp) μ) = some (some (.int (zI (shf wl i (j - 1) j))), cM o G S (fo, lo, oe, af, shf wl i (j - 1), so, wn, ow, wc, hd, dp) μ) := c_wlr h (by omega) (by show j < wc; omega) w1
    rw [jl_1212 _ _ _ _ _ h, e14, i_le (zR_of (by omega)) (zR_of (by omega)), if_neg (by omega), e15, z_b1]
    rw [ej, es, hw, z_b0, ej2]
    exact ih2
theorem c_pr {o : Nat} (h : cO o) {G : gG} {S : gS} {X : cX} {μ : ax_M} {n : Int} (hg : hGok G) (hr : hRs G S) (hx : XR G S X) (hL : gnL S ≤ 256) (h0 : 0 ≤ n) (h1 : n < 12) : (gra G S n = -1 ∧ aJ 1210 [.ref o, .int (zI n)] [] (cM o G S X μ) = some (some (.int (zI (-1))), cM o G S X μ)) ∨ (gra G S n ≠ -1 ∧ ∃ X' μ', aJ 1210 [.ref o, .int (zI n)] [] (cM o G S X μ) = some (some (.int (zI (gra G S n))), cM o G S X' μ') ∧ XR G (gsL S (gra G S n) 5 2) (cHd X' 1) ∧ cB o μ μ') := by
  have hL0 := hr.2.2.1
  have hE := hg.2.2.2.1
  have hN := hg.2.1
  have x5 := hx.2.2.2.2.1
  have key : ∀ m : Nat, ∀ i : Int, 0 ≤ i → i + m = xwc X → (∀ j, 0 ≤ j → j < i → ¬ (grc G (glt S (xwl X j) 1) = n ∧ gwh G S (xwl X j) = 0)) → (gra G S n = -1 ∧ aJ 1211 [.ref o, .int (zI n), .int (zI i)] [] (cM o G S X μ) = some (some (.int (zI (-1))), cM o G S X μ)) ∨ (gra G S n ≠ -1 ∧ ∃ X' μ', aJ 1211 [.ref o, .int (zI n), .int (zI i)] [] (cM o G S X μ) = some (some (.int (zI (gra G S n))), cM o G S X' μ') ∧ XR G (gsL S (gra G S n) 5 2) (cHd X' 1) ∧ cB o μ μ') := by
    intro m
    induction m with
    | zero =>
      intro i i0 i1 hf
      left
      refine ⟨gra_none hL0 x5 (fun j j0 j1 => hf j j0 (by omega)), ?_⟩
      have xb := x5.1
      rw [jl_1211 _ _ _ _ h, c_wai h, i_le (zR_of (by omega)) (zR_of (by omega)), if_pos (by omega), jl_1215]
      rfl
    | succ m ih =>
      intro i i0 i1 hf
      have xb := x5.1
      have hk := x5.2.1 i i0 (by omega)
      obtain ⟨l0, l1, l2, l3, l4, l5, l6, l7⟩ := hr.2.2.2 _ hk.1 hk.2.1
      have hrn : 0 ≤ grc G (glt S (xwl X i) 1) ∧ grc G (glt S (xwl X i) 1) < gN G := h_sdr hg (h_opW ⟨l1.1, l1.2⟩).1
      have hi1 : zI i + (1 : Int32) = zI (i + 1) := zI_a1 i
      rw [jl_1211 _ _ _ _ h, c_wai h, i_le (zR_of (by omega)) (zR_of (by omega)), if_neg (by omega), c_wlr h i0 (by omega) (by omega), z_b1, c_nodeOf h hr hE hk.1 hk.2.1 hL, z_b1, i_eq (zR_of (by omega)) (zR_of (by omega))]
      by_cases q : grc G (glt S (xwl X i) 1) = n
      · have hrd := c_ready h (X := X) (μ := μ) hg hr hk.1 hk.2.1 hL
        have eg : gsd G (gop (glt S (xwl X i) 1)) = n := q
        rw [eg] at hrd
        rw [if_pos q, hrd, z_b1]
        by_cases p : gwh G S (xwl X i) = 0
        · right
          have hgr := gra_first hL0 x5 i0 (by omega) ⟨q, p⟩ hf
          rw [if_pos p, if_neg (by decide), hi1, hgr]
          obtain ⟨fo, lo, oe, af, wl, so, wn, ow, wc, hd, dp⟩ := X
          have xb' : 0 ≤ wc ∧ wc ≤ gnL S := xb
          have i1' : i + (m + 1 : Nat) = wc := i1
          have hs := c_shf h (G := G) (S := S) (fo := fo) (lo := lo) (oe := oe) (af := af) (wl := wl) (so := so) (wn := wn) (ow := ow) (wc := wc) (hd := hd) (dp := dp) (μ := μ) (x3 := zI (wl i)) i0 (by omega) (by omega) h0 h1 m (i + 1) (by omega) (by omega)
          rw [show i + 1 - 1 = i by omega, shf_0] at hs
          refine ⟨?_, _, _, hs, ?_, cB_up⟩
          · have : 0 ≤ wl i := hk.1
            show wl i ≠ -1
            omega
          · have hu := XR_unw hL0 i0 (by omega) hx
            have q' : grc G (glt S (wl i) 1) = n := q
            rw [q'] at hu
            exact hu
        · rw [if_neg p, if_pos rfl, jl_1214, hi1]
          refine ih (i + 1) (by omega) (by omega) ?_
          intro j j0 j1
          by_cases e : j = i
          · rw [e]
            exact fun z => p z.2
          · exact hf j j0 (by omega)
      · rw [if_neg q, jl_1214, hi1]
        refine ih (i + 1) (by omega) (by omega) ?_
        intro j j0 j1
        by_cases e : j = i
        · rw [e]
          exact fun z => q z.1
        · exact hf j j0 (by omega)
  have xb := x5.1
  rw [jl_1210]
  exact key (xwc X).toNat 0 (by omega) (by omega) (fun j j0 j1 => by omega)
