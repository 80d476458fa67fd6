/-! x: the first letter is taken off a way -/
def cPX (X : cX) (w k : Int) : cX := (pu (xfo X) w (xaf X k), xlo X, pu (xoe X) w (xoe X w - 1), xaf X, xwl X, xso X, xwn X, xow X - 1, xwc X, xhd X, xdp X)
theorem XR_pull {G : gG} {S : gS} {X : cX} {w k : Int} (h0 : 0 ≤ gnL S) (hw : 0 ≤ w ∧ w < 60) (hk : gfi S w = k) (k0 : 0 ≤ k) (h : XR G S X) : XR G (gsL S k 5 2) (cHd (cPX X w k) 1) := by
  obtain ⟨x1, x2, x3, x4, x5, x6, x7, x8, x9⟩ := h
  have hfi := h_gfi (S := S) (w := w) h0
  have g : k < gnL S ∧ glt S k 5 = 0 ∧ glt S k 1 = w ∧ ∀ j, 0 ≤ j → j < k → ¬ onW S w j := by
    rcases hfi with z | z
    · omega
    · rw [hk] at z
      exact ⟨z.2.1, z.2.2.1, z.2.2.2.1, z.2.2.2.2⟩
  obtain ⟨g1, g5, gw, gm⟩ := g
  have kw : ∀ v, onW S v k → v = w := fun v q => by rw [← gw]; exact q.2.symm
  have y := x4 k k0 g1 g5
  rw [gw] at y
  have eL : gnL (gsL S k 5 2) = gnL S := rfl
  have o5 : ∀ j, j ≠ k → glt (gsL S k 5 2) j 5 = glt S j 5 := fun j q => by simp [glt, gsL, q]
  have of : ∀ j f, f ≠ 5 → glt (gsL S k 5 2) j f = glt S j f := fun j f q => by simp [glt, gsL, q]
  have n5 : glt (gsL S k 5 2) k 5 = 2 := by simp [glt, gsL]
  generalize gsL S k 5 2 = S' at *
  have on : ∀ v j, onW S' v j ↔ (onW S v j ∧ j ≠ k) := by
    intro v j
    unfold onW
    rw [of j 1 (by omega)]
    by_cases q : j = k
    · rw [q, n5]
      constructor
      · intro z
        omega
      · intro z
        exact absurd rfl z.2
    · rw [o5 j q]
      exact ⟨fun z => ⟨z, q⟩, fun z => z.1⟩
  have fw : gfi S' w = xaf X k := by
    rcases h_gfi (S := S') (w := w) (by rw [eL]; exact h0) with z | z
    · rcases y with y | y
      · omega
      · exfalso
        exact z.2 (xaf X k) (by omega) (by rw [eL]; exact y.2.1) ((on w _).mpr ⟨y.2.2.1, by omega⟩)
    · obtain ⟨z0, z1, z2, z3, z4⟩ := z
      have zo := (on w (gfi S' w)).mp ⟨z2, z3⟩
      have zk : k < gfi S' w := by
        rcases Int.lt_trichotomy (gfi S' w) k with q | q | q
        · exact absurd zo.1 (gm _ z0 q)
        · exact absurd q zo.2
        · exact q
      rcases y with y | y
      · exact absurd zo.1 (y.2 _ zk (by rw [← eL]; exact z1))
      · rcases Int.lt_trichotomy (gfi S' w) (xaf X k) with q | q | q
        · exact absurd zo.1 (y.2.2.2 _ zk q)
        · exact q
        · exact absurd ((on w (xaf X k)).mpr ⟨y.2.2.1, by omega⟩) (z4 _ (by omega) q)
  have fv : ∀ v, v ≠ w → gfi S' v = gfi S v := by
    intro v hv
    unfold gfi
    rw [eL]
    refine gfiR_congr _ ?_
    intro j _ _
    rw [on]
    exact ⟨fun z => z.1, fun z => ⟨z, fun q => hv (kw v (by rw [← q]; exact z))⟩⟩
  have kT : k < ((gnL S).toNat : Nat) := by omega
  refine ⟨?_, ?_, ?_, ?_, ?_, ?_, ?_, ?_, ?_⟩
  · intro v v0 v1
    have h2 := pct_upd (P := fun j => glt S j 5 = 0 ∧ glt S j 1 = v) (Q := fun j => glt S' j 5 = 0 ∧ glt S' j 1 = v) (D := fun _ => inferInstance) (D2 := fun _ => inferInstance) (m := (gnL S).toNat) k0 kT (fun i hi => by rw [o5 i hi, of i 1 (by omega)])
    have h3 : nOn S' v + (if v = w then 1 else 0) = nOn S v := by
      have e1 : nOn S' v = pct (fun j => glt S' j 5 = 0 ∧ glt S' j 1 = v) (fun _ => inferInstance) (gnL S).toNat := by
        unfold nOn
        rw [eL]
      have e2 : nOn S v = pct (fun j => glt S j 5 = 0 ∧ glt S j 1 = v) (fun _ => inferInstance) (gnL S).toNat := rfl
      rw [e1, e2]
      have hq : ¬ (glt S' k 5 = 0 ∧ glt S' k 1 = v) := by omega
      rw [if_neg hq] at h2
      by_cases c : v = w
      · have hp : glt S k 5 = 0 ∧ glt S k 1 = v := ⟨g5, gw.trans c.symm⟩
        rw [if_pos hp] at h2
        rw [if_pos c]
        exact h2
      · have hp : ¬ (glt S k 5 = 0 ∧ glt S k 1 = v) := fun z => c (z.2.symm.trans gw)
        rw [if_neg hp] at h2
        rw [if_neg c]
        exact h2
    have h4 := x1 v v0 v1
    show pu (xoe X) w (xoe X w - 1) v = _
    by_cases c : v = w
    · rw [if_pos c] at h3
      subst c
      rw [pu_at]
      omega
    · rw [if_neg c] at h3
      rw [pu_ne c]
      omega
  · intro v v0 v1
    show pu (xfo X) w (xaf X k) v = _
    by_cases c : v = w
    · rw [c, pu_at, fw]
    · rw [pu_ne c, fv v c]
      exact x2 v v0 v1
  · intro v v0 v1 hv
    show 0 ≤ xlo X v ∧ xlo X v < gnL S' ∧ onW S' v (xlo X v) ∧ ∀ j, 0 ≤ j → j < gnL S' → onW S' v j → j ≤ xlo X v
    have hv2 : gfi S v ≠ -1 := by
      by_cases c : v = w
      · rw [c]
        omega
      · rw [← fv v c]
        exact hv
    obtain ⟨z1, z2, z3, z4⟩ := x3 v v0 v1 hv2
    rw [eL]
    refine ⟨z1, z2, (on v _).mpr ⟨z3, ?_⟩, fun j j0 j1 j2 => z4 j j0 j1 ((on v j).mp j2).1⟩
    intro q
    have hvw : v = w := kw v (by rw [← q]; exact z3)
    rcases h_gfi (S := S') (w := v) (by rw [eL]; exact h0) with z | z
    · exact hv z.1
    · obtain ⟨p0, p1, p2, p3, p4⟩ := z
      have po := (on v (gfi S' v)).mp ⟨p2, p3⟩
      have h5 := z4 _ p0 (by rw [← eL]; exact p1) po.1
      have h6 : gfi S' v < k := by
        have := po.2
        omega
      exact gm _ p0 h6 (by rw [← hvw]; exact po.1)
  · intro j j0 j1 j5
    have jk : j ≠ k := by
      intro q
      rw [q, n5] at j5
      omega
    rw [o5 j jk] at j5
    rw [of j 1 (by omega)]
    rw [eL] at j1
    rw [eL]
    show (xaf X j = -1 ∧ ∀ i, j < i → i < gnL S → ¬ onW S' (glt S j 1) i) ∨ (j < xaf X j ∧ xaf X j < gnL S ∧ onW S' (glt S j 1) (xaf X j) ∧ ∀ i, j < i → i < xaf X j → ¬ onW S' (glt S j 1) i)
    rcases x4 j j0 j1 j5 with z | z
    · exact Or.inl ⟨z.1, fun i i0 i1 i2 => z.2 i i0 i1 ((on _ i).mp i2).1⟩
    · refine Or.inr ⟨z.1, z.2.1, (on _ _).mpr ⟨z.2.2.1, ?_⟩, fun i i0 i1 i2 => z.2.2.2 i i0 i1 ((on _ i).mp i2).1⟩
      intro q
      have hjw : glt S j 1 = w := kw _ (by rw [← q]; exact z.2.2.1)
      exact gm j j0 (by omega) ⟨j5, hjw⟩
  · have e5 : ∀ i, glt S' i 5 = 1 ↔ glt S i 5 = 1 := by
      intro i
      by_cases q : i = k
      · rw [q, n5]
        omega
      · rw [o5 i q]
    obtain ⟨u1, u2, u3, u4⟩ := x5
    refine ⟨by rw [eL]; exact u1, ?_, ?_, ?_⟩
    · intro i i0 i1
      have := u2 i i0 i1
      exact ⟨this.1, by rw [eL]; exact this.2.1, (e5 _).mpr this.2.2⟩
    · intro i j i0 i1 i2
      show glt S' (xwl X i) 7 < glt S' (xwl X j) 7
      rw [of _ 7 (by omega), of _ 7 (by omega)]
      exact u3 i j i0 i1 i2
    · intro j j0 j1 j5
      rw [eL] at j1
      exact u4 j j0 j1 ((e5 j).mp j5)
  · intro x a0 a1
    have h2 : nKd S' x = nKd S x := by
      unfold nKd
      rw [eL]
      refine pct_congr ?_
      intro i _ _
      rw [of i 0 (by omega)]
    rw [h2]
    exact x6 x a0 a1
  · intro n a0 a1
    have h2 : nDf G S' n = nDf G S n := by
      unfold nDf
      rw [eL]
      refine pct_congr ?_
      intro i _ _
      rw [of i 1 (by omega)]
      by_cases q : i = k
      · rw [q, n5]
        constructor
        · intro z
          omega
        · intro z
          omega
      · rw [o5 i q]
    rw [h2]
    exact x7 n a0 a1
  · have up : ∀ x : Int, nWh S' x + (if x = 0 then 1 else 0) = nWh S x + (if x = 2 then 1 else 0) := by
      intro x
      have h2 := pct_upd (P := fun j => glt S j 5 = x) (Q := fun j => glt S' j 5 = x) (D := fun _ => inferInstance) (D2 := fun _ => inferInstance) (m := (gnL S).toNat) k0 kT (fun i hi => by rw [o5 i hi])
      have e1 : nWh S' x = pct (fun j => glt S' j 5 = x) (fun _ => inferInstance) (gnL S).toNat := by
        unfold nWh
        rw [eL]
      have e2 : nWh S x = pct (fun j => glt S j 5 = x) (fun _ => inferInstance) (gnL S).toNat := rfl
      rw [e1, e2]
      by_cases c : x = 0
      · have hp : glt S k 5 = x := g5.trans c.symm
        have hq : ¬ glt S' k 5 = x := by omega
        have hc2 : ¬ x = 2 := by omega
        rw [if_pos hp, if_neg hq] at h2
        rw [if_pos c, if_neg hc2]
        exact h2
      · have hp : ¬ glt S k 5 = x := by omega
        rw [if_neg hp] at h2
        rw [if_neg c]
        by_cases d : x = 2
        · have hq : glt S' k 5 = x := n5.trans d.symm
          rw [if_pos hq] at h2
          rw [if_pos d]
          exact h2
        · have hq : ¬ glt S' k 5 = x := by omega
          rw [if_neg hq] at h2
          rw [if_neg d]
          exact h2
    obtain ⟨v0, v1, v2⟩ := x8
    have p0 := up 0
    have p1 := up 1
    have p2 := up 2
    simp at p0 p1 p2
    refine ⟨?_, ?_, ?_⟩
    · show xow X - 1 = _
      omega
    · show xwc X = _
      omega
    · show xhd X + 1 = _
      omega
  · obtain ⟨v0, v1, v2⟩ := x9
    refine ⟨v0, ?_, ?_⟩
    · intro j j0 j1
      rw [of j 6 (by omega)]
      exact v1 j j0 (by rw [← eL]; exact j1)
    · rcases v2 with z | ⟨j, j0, j1, j2⟩
      · exact Or.inl z
      · exact Or.inr ⟨j, j0, by rw [eL]; exact j1, by rw [of j 6 (by omega)]; exact j2⟩
