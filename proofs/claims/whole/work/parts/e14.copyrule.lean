/-! m: a rule is copied -/
def shR (x : Nat) : Prop := ((ax_sh (x + 1)).1 = 1 ∧ (ax_sh (x + 1)).2.1 = 10) ∧ ((ax_sh (x + 2)).1 = 1 ∧ (ax_sh (x + 2)).2.1 = 10) ∧ ((ax_sh (x + 3)).1 = 1 ∧ (ax_sh (x + 3)).2.1 = 10) ∧ ((ax_sh (x + 4)).1 = 1 ∧ (ax_sh (x + 4)).2.1 = 40) ∧ ((ax_sh (x + 5)).1 = 1 ∧ (ax_sh (x + 5)).2.1 = 40)
theorem shR_13 : shR 13 ∧ shR 21 ∧ shR 158 ∧ shR 183 := ⟨⟨by decide, by decide, by decide, by decide, by decide⟩, ⟨by decide, by decide, by decide, by decide, by decide⟩, ⟨by decide, by decide, by decide, by decide, by decide⟩, ⟨by decide, by decide, by decide, by decide, by decide⟩⟩
theorem q_rcp {x0 x1 : Nat} {R : gR} {ν : ax_M} (h0 : x0 = 13 ∨ x0 = 158 ∨ x0 = 183) (h1 : x1 = 13 ∨ x1 = 21 ∨ x1 = 158 ∨ x1 = 183) (hd : x0 + 5 < x1 ∨ x1 + 5 < x0) (s0 : shR x0) (s1 : shR x1) (hR : rok R) (hk : kP x1 R ν) : ∃ ν', aJ 1081 [.ref x0, .ref x1] [] ν = some (none, ν') ∧ kP x0 R ν' ∧ fr [x0, x0 + 1, x0 + 2, x0 + 3, x0 + 4, x0 + 5] ν ν' ∧ ∀ k, k ≠ 0 → ν'.1 x0 k = ν.1 x0 k := by
  obtain ⟨a1, a2, a3, a4, a5⟩ := s0
  obtain ⟨b1, b2, b3, b4, b5⟩ := s1
  obtain ⟨k0, k1, k2, k3, k4, k5⟩ := hk
  have hL := hR.1
  have f0 : fr [x0] ν (ax_uD ν x0 0 (ν.1 x1 0)) := fr_uD (by simp)
  obtain ⟨ν1, c1, c2, c3, c4⟩ := q_cp (n := 10) b1 a1 (by omega) (by omega) (by omega) (by omega) (by omega) (ax_uD ν x0 0 (ν.1 x1 0))
  obtain ⟨ν2, d1, d2, d3, d4⟩ := q_cp (n := 10) b2 a2 (by omega) (by omega) (by omega) (by omega) (by omega) ν1
  obtain ⟨ν3, e1, e2, e3, e4⟩ := q_cp (n := 10) b3 a3 (by omega) (by omega) (by omega) (by omega) (by omega) ν2
  obtain ⟨ν4, g1, g2, g3, g4⟩ := q_cp (n := 40) b4 a4 (by omega) (by omega) (by omega) (by omega) (by omega) ν3
  obtain ⟨ν5, i1, i2, i3, i4⟩ := q_cp (n := 40) b5 a5 (by omega) (by omega) (by omega) (by omega) (by omega) ν4
  have nin : ∀ {a b : Nat}, a ≠ b → a ∉ [b] := fun h q => h (by simpa using q)
  have hx0 : ∀ k, ν5.1 x0 k = (ax_uD ν x0 0 (ν.1 x1 0)).1 x0 k := fun k => by
    rw [fr_at i2 (nin (by omega)), fr_at g2 (nin (by omega)), fr_at e2 (nin (by omega)), fr_at d2 (nin (by omega)), fr_at c2 (nin (by omega))]
  have r1 : ∀ i : Nat, (i : Int) < 10 → ν5.1 (x0 + 1) i = ν.1 (x1 + 1) i := fun i hi => by
    rw [fr_at i2 (nin (by omega)), fr_at g2 (nin (by omega)), fr_at e2 (nin (by omega)), fr_at d2 (nin (by omega)), c3 i hi, fr_at f0 (nin (by omega))]
  have r2 : ∀ i : Nat, (i : Int) < 10 → ν5.1 (x0 + 2) i = ν.1 (x1 + 2) i := fun i hi => by
    rw [fr_at i2 (nin (by omega)), fr_at g2 (nin (by omega)), fr_at e2 (nin (by omega)), d3 i hi, fr_at c2 (nin (by omega)), fr_at f0 (nin (by omega))]
  have r3 : ∀ i : Nat, (i : Int) < 10 → ν5.1 (x0 + 3) i = ν.1 (x1 + 3) i := fun i hi => by
    rw [fr_at i2 (nin (by omega)), fr_at g2 (nin (by omega)), e3 i hi, fr_at d2 (nin (by omega)), fr_at c2 (nin (by omega)), fr_at f0 (nin (by omega))]
  have r4 : ∀ i : Nat, (i : Int) < 40 → ν5.1 (x0 + 4) i = ν.1 (x1 + 4) i := fun i hi => by
    rw [fr_at i2 (nin (by omega)), g3 i hi, fr_at e2 (nin (by omega)), fr_at d2 (nin (by omega)), fr_at c2 (nin (by omega)), fr_at f0 (nin (by omega))]
  have r5 : ∀ i : Nat, (i : Int) < 40 → ν5.1 (x0 + 5) i = ν.1 (x1 + 5) i := fun i hi => by
    rw [i3 i hi, fr_at g2 (nin (by omega)), fr_at e2 (nin (by omega)), fr_at d2 (nin (by omega)), fr_at c2 (nin (by omega)), fr_at f0 (nin (by omega))]
  have ten : (10 : Int32) = zI 10 := rfl
  have forty : (40 : Int32) = zI 40 := rfl
  refine ⟨ν5, ?_, ⟨?_, ?_, ?_, ?_, ?_, ?_⟩, ?_, ?_⟩
  · rw [jl_1081 x0 x1 ν h1 h0, ten, forty, c1, z_b0, d1, z_b0, e1, z_b0, g1, z_b0, i1, z_b0]
  · rw [hx0, uD_at]
    exact k0
  · intro i i0 j1
    rw [r1 _ (by omega)]
    exact k1 i i0 j1
  · intro i i0 j1
    rw [r2 _ (by omega)]
    exact k2 i i0 j1
  · intro i i0 j1
    rw [r3 _ (by omega)]
    exact k3 i i0 j1
  · intro i c i0 j1 c0 cc
    have := (hR.2 i i0 j1).2.2.1
    rw [r4 _ (by omega)]
    exact k4 i c i0 j1 c0 cc
  · intro i c i0 j1 c0 cc
    have := (hR.2 i i0 j1).2.2.1
    rw [r5 _ (by omega)]
    exact k5 i c i0 j1 c0 cc
  · exact frt (frm f0 (by simp)) (frt (frm c2 (by simp)) (frt (frm d2 (by simp)) (frt (frm e2 (by simp)) (frt (frm g2 (by simp)) (frm i2 (by simp))))))
  · intro k hk
    rw [hx0, uD_nk hk]
