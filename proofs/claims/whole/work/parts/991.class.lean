/-! x: a taken letter is deferred -/
def cDX (X : cX) (k n : Int) : cX := (xfo X, xlo X, xoe X, xaf X, pu (xwl X) (xwc X) k, xso X, pu (xwn X) n (xwn X n + 1), xow X, xwc X + 1, xhd X, xdp X)
theorem XR_def {G : gG} {S : gS} {X : cX} {k : Int} (h0 : 0 ≤ gnL S) (k0 : 0 ≤ k) (g1 : k < gnL S) (hn : 0 ≤ grc G (glt S k 1) ∧ grc G (glt S k 1) < 12) (hO : ∀ j, 0 ≤ j → j < gnL S → j ≠ k → glt S j 5 = 1 → glt S j 7 ≤ gdf S) (h : XR G (gsL S k 5 2) (cHd X 1)) : XR G (gdef S k) (cDX X k (grc G (glt S k 1))) := by
  obtain ⟨x1, x2, x3, x4, x5, x6, x7, x8, x9⟩ := h
  have eT : gnL (gsL S k 5 2) = gnL S := rfl
  have eL : gnL (gdef S k) = gnL S := rfl
  have t5 : ∀ j, j ≠ k → glt (gsL S k 5 2) j 5 = glt S j 5 := fun j q => by simp [glt, gsL, q]
  have tf : ∀ j f, f ≠ 5 → glt (gsL S k 5 2) j f = glt S j f := fun j f q => by simp [glt, gsL, q]
  have tn : glt (gsL S k 5 2) k 5 = 2 := by simp [glt, gsL]
  have o5 : ∀ j, j ≠ k → glt (gdef S k) j 5 = glt S j 5 := fun j q => by simp [glt, gsL, gdef, gsD, q]
  have o7 : ∀ j, j ≠ k → glt (gdef S k) j 7 = glt S j 7 := fun j q => by simp [glt, gsL, gdef, gsD, q]
  have of : ∀ j f, f ≠ 5 → f ≠ 7 → glt (gdef S k) j f = glt S j f := fun j f q q2 => by simp [glt, gsL, gdef, gsD, q, q2]
  have n5 : glt (gdef S k) k 5 = 1 := by simp [glt, gsL, gdef, gsD]
  have n7 : glt (gdef S k) k 7 = gdf S + 1 := by simp [glt, gsL, gdef, gsD]
  generalize gdef S k = S' at *
  generalize gsL S k 5 2 = T at *
  have on : ∀ v j, onW S' v j ↔ onW T v j := by
    intro v j
    unfold onW
    rw [of j 1 (by omega) (by omega), tf j 1 (by omega)]
    by_cases q : j = k
    · rw [q, n5, tn]
      constructor
      · intro z
        omega
      · intro z
        omega
    · rw [o5 j q, t5 j q]
  have kT : k < ((gnL S).toNat : Nat) := by omega
  have fi : ∀ v, gfi S' v = gfi T v := by
    intro v
    unfold gfi
    rw [eL, eT]
    exact gfiR_congr _ (fun j _ _ => on v j)
  have up : ∀ x : Int, nWh S' x + (if x = 2 then 1 else 0) = nWh T x + (if x = 1 then 1 else 0) := by
    intro x
    have h2 := pct_upd (P := fun j => glt T j 5 = x) (Q := fun j => glt S' j 5 = x) (D := fun _ => inferInstance) (D2 := fun _ => inferInstance) (m := (gnL S).toNat) k0 kT (fun i hi => by rw [o5 i hi, t5 i hi])
    have e1 : nWh S' x = pct (fun j => glt S' j 5 = x) (fun _ => inferInstance) (gnL S).toNat := by
      unfold nWh
      rw [eL]
    have e2 : nWh T x = pct (fun j => glt T j 5 = x) (fun _ => inferInstance) (gnL S).toNat := by
      unfold nWh
      rw [eT]
    rw [e1, e2]
    rw [show (if x = 2 then 1 else 0) = (if glt T k 5 = x then 1 else 0) by rw [tn]; by_cases c : x = 2; rw [if_pos c, if_pos c.symm]; rw [if_neg c, if_neg (fun z => c z.symm)]]
    rw [show (if x = 1 then 1 else 0) = (if glt S' k 5 = x then 1 else 0) by rw [n5]; by_cases c : x = 1; rw [if_pos c, if_pos c.symm]; rw [if_neg c, if_neg (fun z => c z.symm)]]
    exact h2
  obtain ⟨v0, v1, v2⟩ := x8
  have v0' : xow X = nWh T 0 := v0
  have v1' : xwc X = nWh T 1 := v1
  have v2' : xhd X + 1 = nWh T 2 := v2
  have p0 := up 0
  have p1 := up 1
  have p2 := up 2
  simp at p0 p1 p2
  have hle : nWh S' 1 ≤ (gnL S').toNat := pct_le
  refine ⟨?_, ?_, ?_, ?_, ?_, ?_, ?_, ?_, ?_⟩
  · intro v a0 a1
    have h2 : nOn S' v = nOn T v := by
      unfold nOn
      rw [eL, eT]
      exact pct_congr (fun i _ _ => on v i)
    rw [h2]
    exact x1 v a0 a1
  · intro v a0 a1
    rw [fi]
    exact x2 v a0 a1
  · intro v a0 a1 hv
    rw [fi] at hv
    obtain ⟨z1, z2, z3, z4⟩ := x3 v a0 a1 hv
    rw [eT] at z2
    refine ⟨z1, by rw [eL]; exact z2, (on v _).mpr z3, fun j j0 j1 j2 => z4 j j0 (by rw [eT, ← eL]; exact j1) ((on v j).mp j2)⟩
  · intro j j0 j1 j5
    have jk : j ≠ k := by
      intro q
      rw [q, n5] at j5
      omega
    rw [o5 j jk, ← t5 j jk] at j5
    rw [of j 1 (by omega) (by omega), ← tf j 1 (by omega)]
    rw [eL, ← eT] at j1
    rw [eL, ← eT]
    rcases x4 j j0 j1 j5 with z | z
    · exact Or.inl ⟨z.1, fun i i0 i1 i2 => z.2 i i0 i1 ((on _ i).mp i2)⟩
    · exact Or.inr ⟨z.1, z.2.1, (on _ _).mpr z.2.2.1, fun i i0 i1 i2 => z.2.2.2 i i0 i1 ((on _ i).mp i2)⟩
  · obtain ⟨u1, u2, u3, u4⟩ := x5
    have u1' : 0 ≤ xwc X ∧ xwc X ≤ gnL T := u1
    have old : ∀ i, 0 ≤ i → i < xwc X → 0 ≤ xwl X i ∧ xwl X i < gnL S ∧ glt S (xwl X i) 5 = 1 ∧ xwl X i ≠ k := by
      intro i i0 i1
      have z := u2 i i0 i1
      have z' : 0 ≤ xwl X i ∧ xwl X i < gnL T ∧ glt T (xwl X i) 5 = 1 := z
      have q : xwl X i ≠ k := by
        intro q
        rw [q, tn] at z'
        omega
      rw [t5 _ q, eT] at z'
      exact ⟨z'.1, z'.2.1, z'.2.2, q⟩
    have wlo : ∀ i, i < xwc X → pu (xwl X) (xwc X) k i = xwl X i := fun i q => pu_ne (by omega)
    have wln : pu (xwl X) (xwc X) k (xwc X) = k := pu_at
    refine ⟨⟨by show 0 ≤ xwc X + 1; omega, by show xwc X + 1 ≤ gnL S'; omega⟩, ?_, ?_, ?_⟩
    · intro i i0 i1
      have i1' : i < xwc X + 1 := i1
      show 0 ≤ pu (xwl X) (xwc X) k i ∧ pu (xwl X) (xwc X) k i < gnL S' ∧ glt S' (pu (xwl X) (xwc X) k i) 5 = 1
      by_cases q : i < xwc X
      · have z := old i i0 q
        rw [wlo i q, o5 _ z.2.2.2, eL]
        exact ⟨z.1, z.2.1, z.2.2.1⟩
      · have e : i = xwc X := by omega
        rw [e, wln, n5, eL]
        exact ⟨k0, g1, rfl⟩
    · intro i j i0 i1 i2
      have i2' : j < xwc X + 1 := i2
      show glt S' (pu (xwl X) (xwc X) k i) 7 < glt S' (pu (xwl X) (xwc X) k j) 7
      have zi := old i i0 (by omega)
      rw [wlo i (by omega), o7 _ zi.2.2.2]
      by_cases q : j < xwc X
      · have zj := old j (by omega) q
        rw [wlo j q, o7 _ zj.2.2.2]
        have := u3 i j i0 i1 q
        have this' : glt T (xwl X i) 7 < glt T (xwl X j) 7 := this
        rw [tf _ 7 (by omega), tf _ 7 (by omega)] at this'
        exact this'
      · have e : j = xwc X := by omega
        rw [e, wln, n7]
        have := hO _ zi.1 zi.2.1 zi.2.2.2 zi.2.2.1
        omega
    · intro j j0 j1 j5
      by_cases q : j = k
      · exact ⟨xwc X, u1'.1, by show xwc X < xwc X + 1; omega, by rw [q]; exact wln⟩
      · rw [o5 j q, ← t5 j q] at j5
        obtain ⟨i, i0, i1, i2⟩ := u4 j j0 (by rw [eT, ← eL]; exact j1) j5
        have i1' : i < xwc X := i1
        exact ⟨i, i0, by show i < xwc X + 1; omega, (wlo i i1').trans i2⟩
  · intro x a0 a1
    have h2 : nKd S' x = nKd T x := by
      unfold nKd
      rw [eL, eT]
      refine pct_congr ?_
      intro i _ _
      rw [of i 0 (by omega) (by omega), tf i 0 (by omega)]
    rw [h2]
    exact x6 x a0 a1
  · intro m a0 a1
    have h2 := pct_upd (P := fun j => glt T j 5 = 1 ∧ grc G (glt T j 1) = m) (Q := fun j => glt S' j 5 = 1 ∧ grc G (glt S' j 1) = m) (D := fun _ => inferInstance) (D2 := fun _ => inferInstance) (m := (gnL S).toNat) k0 kT (fun i hi => by rw [o5 i hi, t5 i hi, of i 1 (by omega) (by omega), tf i 1 (by omega)])
    have e1 : nDf G S' m = pct (fun j => glt S' j 5 = 1 ∧ grc G (glt S' j 1) = m) (fun _ => inferInstance) (gnL S).toNat := by
      unfold nDf
      rw [eL]
    have e2 : nDf G T m = pct (fun j => glt T j 5 = 1 ∧ grc G (glt T j 1) = m) (fun _ => inferInstance) (gnL S).toNat := by
      unfold nDf
      rw [eT]
    have hp : ¬ (glt T k 5 = 1 ∧ grc G (glt T k 1) = m) := by
      rw [tn]
      intro z
      omega
    rw [if_neg hp, ← e1, ← e2] at h2
    have h7 : xwn X m = nDf G T m := x7 m a0 a1
    show pu (xwn X) (grc G (glt S k 1)) (xwn X (grc G (glt S k 1)) + 1) m = _
    by_cases c : m = grc G (glt S k 1)
    · have hq : glt S' k 5 = 1 ∧ grc G (glt S' k 1) = m := ⟨n5, by rw [of k 1 (by omega) (by omega)]; exact c.symm⟩
      rw [if_pos hq] at h2
      rw [← c, pu_at]
      omega
    · have hq : ¬ (glt S' k 5 = 1 ∧ grc G (glt S' k 1) = m) := by
        rw [of k 1 (by omega) (by omega)]
        exact fun z => c z.2.symm
      rw [if_neg hq] at h2
      rw [pu_ne c]
      omega
  · refine ⟨?_, ?_, ?_⟩
    · show xow X = _
      omega
    · show xwc X + 1 = _
      omega
    · show xhd X = _
      omega
  · obtain ⟨w0, w1, w2⟩ := x9
    refine ⟨w0, ?_, ?_⟩
    · intro j j0 j1
      rw [of j 6 (by omega) (by omega), ← tf j 6 (by omega)]
      exact w1 j j0 (by rw [eT, ← eL]; exact j1)
    · rcases w2 with z | ⟨j, j0, j1, j2⟩
      · exact Or.inl z
      · exact Or.inr ⟨j, j0, by rw [eL, ← eT]; exact j1, by rw [of j 6 (by omega) (by omega), ← tf j 6 (by omega)]; exact j2⟩
