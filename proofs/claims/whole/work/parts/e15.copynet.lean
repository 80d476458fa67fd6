/-! m: a net is copied -/
def shN (x : Nat) : Prop := ((ax_sh (x + 1)).1 = 2 ∧ (ax_sh (x + 1)).2.1 = 84) ∧ ((ax_sh (x + 2)).1 = 1 ∧ (ax_sh (x + 2)).2.1 = 12) ∧ ((ax_sh (x + 3)).1 = 1 ∧ (ax_sh (x + 3)).2.1 = 60) ∧ ((ax_sh (x + 4)).1 = 1 ∧ (ax_sh (x + 4)).2.1 = 30)
theorem shN_3 : shN 3 ∧ shN 8 ∧ shN 153 ∧ shN 178 := ⟨⟨by decide, by decide, by decide, by decide⟩, ⟨by decide, by decide, by decide, by decide⟩, ⟨by decide, by decide, by decide, by decide⟩, ⟨by decide, by decide, by decide, by decide⟩⟩
theorem st8_at {μ : ax_M} {a len : Nat} {z : Int} {x : Int32} (h : (ax_sh a).1 = 2 ∧ (ax_sh a).2.1 = len) (h0 : 0 ≤ z) (h1 : z < len) (h2 : len < 2147483648) : ax_st8 ax_sh μ a (zI z) x = some (ax_up μ.1 a z.toNat (vp_nar .byte x), μ.2) := by
  have hz : zR z := by unfold zR; omega
  have e0 : (0 : Int32) = zI 0 := rfl
  unfold ax_st8
  rw [zI_nat hz, if_pos]
  refine ⟨h.1, ?_⟩
  rintro (q | q)
  · rw [e0, zI_lt hz (by unfold zR; omega)] at q
    omega
  · rw [h.2] at q
    omega
theorem q_ncl {x0 x1 : Nat} (h0 : x0 = 3 ∨ x0 = 153 ∨ x0 = 178) (h1 : x1 = 3 ∨ x1 = 8 ∨ x1 = 153 ∨ x1 = 178) (hd : x0 ≠ x1) (s0 : shN x0) (s1 : shN x1) : ∀ (m : Nat) (i : Nat) (ν : ax_M), i + m = 84 → ∃ ν', aJ 940 [.ref x0, .ref x1, .int (zI i)] [] ν = aJ 941 [.ref x0, .ref x1] [] ν' ∧ (∀ j : Nat, i ≤ j → j < 84 → ν'.1 (x0 + 1) j = vp_nar .byte (ν.1 (x1 + 1) j)) ∧ (∀ j : Nat, j < i → ν'.1 (x0 + 1) j = ν.1 (x0 + 1) j) ∧ fr [x0 + 1] ν ν' := by
  intro m
  have l0 : Int32.ofNat (ax_sh (x0 + 1)).2.1 = zI 84 := by rw [s0.1.2]; decide
  have l1 : Int32.ofNat (ax_sh (x1 + 1)).2.1 = zI 84 := by rw [s1.1.2]; decide
  have k0 : 1 ≤ (ax_sh (x0 + 1)).1 ∧ (ax_sh (x0 + 1)).1 ≤ 6 := by rw [s0.1.1]; decide
  have k1 : 1 ≤ (ax_sh (x1 + 1)).1 ∧ (ax_sh (x1 + 1)).1 ≤ 6 := by rw [s1.1.1]; decide
  induction m with
  | zero =>
    intro i ν im
    refine ⟨ν, ?_, fun j a b => by omega, fun j _ => rfl, frz⟩
    rw [jl_940 x0 x1 _ ν h0 h1, if_pos k0, l0, if_pos ((zI_le (zR_of (by omega)) (zR_of (by omega))).mpr (by omega))]
  | succ m ih =>
    intro i ν im
    have hn : ¬ zI 84 ≤ zI (i : Int) := fun q => by
      have := (zI_le (zR_of (by omega)) (zR_of (by omega))).mp q
      omega
    have hf : fr [x0 + 1] ν (ax_up ν.1 (x0 + 1) i (vp_nar .byte (ν.1 (x1 + 1) i)), ν.2) := fru (by simp)
    obtain ⟨ν', a1, a2, a3, a4⟩ := ih (i + 1) (ax_up ν.1 (x0 + 1) i (vp_nar .byte (ν.1 (x1 + 1) i)), ν.2) (by omega)
    have hx : ∀ j, ((ax_up ν.1 (x0 + 1) i (vp_nar .byte (ν.1 (x1 + 1) i)), ν.2) : ax_M).1 (x1 + 1) j = ν.1 (x1 + 1) j := fun j => by
      show ax_up ν.1 (x0 + 1) i (vp_nar .byte (ν.1 (x1 + 1) i)) (x1 + 1) j = _
      exact up_ne (by omega)
    refine ⟨ν', ?_, fun j j0 j1 => ?_, fun j j1 => ?_, frt hf a4⟩
    · rw [jl_940 x0 x1 _ ν h0 h1, if_pos k0, l0, if_neg hn, if_pos k1, l1, if_neg hn, ld8_at (len := 84) ⟨Or.inl s1.1.1, s1.1.2⟩ (by omega) (by omega) (by decide), z_bo, st8_at (len := 84) s0.1 (by omega) (by omega) (by decide), z_bo, Int.toNat_natCast, show (1 : Int32) = zI 1 from rfl, zI_add]
      exact a1
    · by_cases c : j = i
      · subst c
        rw [a3 j (by omega)]
        exact up_at
      · rw [a2 j (by omega) j1, hx]
    · rw [a3 j (by omega)]
      show ax_up ν.1 (x0 + 1) i (vp_nar .byte (ν.1 (x1 + 1) i)) (x0 + 1) j = _
      exact up_nk (by omega)
