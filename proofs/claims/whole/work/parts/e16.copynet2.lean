/-! m: a net is copied -/
theorem nar_b : ∀ n : Nat, n < 128 → vp_nar .byte (zI n) = zI n := fun n hn => (sgn_8 n hn).2
theorem q_ncp {x0 x1 : Nat} {G : gG} {N : qNm} {ν : ax_M} (h0 : x0 = 3 ∨ x0 = 153 ∨ x0 = 178) (h1 : x1 = 3 ∨ x1 = 8 ∨ x1 = 153 ∨ x1 = 178) (hd : x0 + 4 < x1 ∨ x1 + 4 < x0) (s0 : shN x0) (s1 : shN x1) (hN : nOK N) (hE : gE G ≤ 30) (hk : cNt x1 G ν) (hn : cNm x1 N ν) : ∃ ν', aJ 939 [.ref x0, .ref x1] [] ν = some (none, ν') ∧ cNt x0 G ν' ∧ cNm x0 N ν' ∧ fr [x0, x0 + 1, x0 + 2, x0 + 3, x0 + 4] ν ν' ∧ (∀ k, k ≠ 0 → k ≠ 1 → ν'.1 x0 k = ν.1 x0 k) ∧ ∀ i : Nat, i < 30 → ν'.1 (x0 + 4) i = ν.1 (x1 + 4) i := by
  obtain ⟨k0, k1, k2⟩ := hk
  obtain ⟨n0, n1, n2⟩ := hN
  have hne : x1 ≠ x0 := by omega
  have f0 : fr [x0] ν (ax_uD (ax_uD ν x0 0 (ν.1 x1 0)) x0 1 ((ax_uD ν x0 0 (ν.1 x1 0)).1 x1 1)) := frt (ν' := ax_uD ν x0 0 (ν.1 x1 0)) (fr_uD (by simp)) (fr_uD (by simp))
  obtain ⟨ν1, c1, c2, c3, c4⟩ := q_ncl h0 h1 (fun q => hne q.symm) s0 s1 84 0 (ax_uD (ax_uD ν x0 0 (ν.1 x1 0)) x0 1 ((ax_uD ν x0 0 (ν.1 x1 0)).1 x1 1)) (by omega)
  obtain ⟨a1, a2, a3, a4⟩ := s0
  obtain ⟨b1, b2, b3, b4⟩ := s1
  obtain ⟨ν2, d1, d2, d3, d4⟩ := q_cp (n := 12) b2 a2 (by omega) (by omega) (by omega) (by omega) (by omega) ν1
  obtain ⟨ν3, e1, e2, e3, e4⟩ := q_cp (n := 60) b3 a3 (by omega) (by omega) (by omega) (by omega) (by omega) ν2
  obtain ⟨ν4, g1, g2, g3, g4⟩ := q_cp (n := 30) b4 a4 (by omega) (by omega) (by omega) (by omega) (by omega) ν3
  have nin : ∀ {a b : Nat}, a ≠ b → a ∉ [b] := fun h q => h (by simpa using q)
  have hx0 : ∀ k, ν4.1 x0 k = (ax_uD (ax_uD ν x0 0 (ν.1 x1 0)) x0 1 ((ax_uD ν x0 0 (ν.1 x1 0)).1 x1 1)).1 x0 k := fun k => by
    rw [fr_at g2 (nin (by omega)), fr_at e2 (nin (by omega)), fr_at d2 (nin (by omega)), fr_at c4 (nin (by omega))]
  have r1 : ∀ j : Nat, j < 84 → ν4.1 (x0 + 1) j = vp_nar .byte (ν.1 (x1 + 1) j) := fun j hj => by
    rw [fr_at g2 (nin (by omega)), fr_at e2 (nin (by omega)), fr_at d2 (nin (by omega)), c2 j (by omega) hj, fr_at f0 (nin (by omega))]
  have r2 : ∀ i : Nat, (i : Int) < 12 → ν4.1 (x0 + 2) i = ν.1 (x1 + 2) i := fun i hi => by
    rw [fr_at g2 (nin (by omega)), fr_at e2 (nin (by omega)), d3 i hi, fr_at c4 (nin (by omega)), fr_at f0 (nin (by omega))]
  have r3 : ∀ i : Nat, (i : Int) < 60 → ν4.1 (x0 + 3) i = ν.1 (x1 + 3) i := fun i hi => by
    rw [fr_at g2 (nin (by omega)), e3 i hi, fr_at d2 (nin (by omega)), fr_at c4 (nin (by omega)), fr_at f0 (nin (by omega))]
  have r4 : ∀ i : Nat, (i : Int) < 30 → ν4.1 (x0 + 4) i = ν.1 (x1 + 4) i := fun i hi => by
    rw [g3 i hi, fr_at e2 (nin (by omega)), fr_at d2 (nin (by omega)), fr_at c4 (nin (by omega)), fr_at f0 (nin (by omega))]
  refine ⟨ν4, ?_, ⟨?_, ?_, ?_⟩, ?_, ?_, ?_, fun i hi => r4 i (by omega)⟩
  · rw [jl_939 x0 x1 ν h1 h0, show (0 : Int32) = zI ((0 : Nat) : Int) from rfl, c1, jl_941 x0 x1 _ h1 h0, show (12 : Int32) = zI 12 from rfl, show (60 : Int32) = zI 60 from rfl, show (30 : Int32) = zI 30 from rfl, d1, z_b0, e1, z_b0, g1, z_b0]
  · rw [hx0, uD_nk (by decide), uD_at]
    exact k0
  · rw [hx0, uD_at, uD_ne hne]
    exact k1
  · intro i i0 i1
    rw [r3 _ (by omega)]
    exact k2 i i0 i1
  · intro n m0 m1
    have hnn := n2 n m0 m1
    refine ⟨?_, fun i i0 i1 => ?_⟩
    · rw [r2 _ (by omega)]
      exact (hn n m0 m1).1
    · have hb := hnn.2 i i0 i1
      rw [r1 _ (by omega), (hn n m0 m1).2 i i0 i1]
      have := nar_b (N.2.2 n i).toNat (by omega)
      rwa [show (((N.2.2 n i).toNat : Nat) : Int) = N.2.2 n i by omega] at this
  · exact frt (frm f0 (by simp)) (frt (frm c4 (by simp)) (frt (frm d2 (by simp)) (frt (frm e2 (by simp)) (frm g2 (by simp)))))
  · intro k h h'
    rw [hx0, uD_nk h', uD_nk h]
