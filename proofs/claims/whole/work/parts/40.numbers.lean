/-! z: numbers of the machine by mathematical ones; the reference's rows -/
def zI (z : Int) : Int32 := Int32.ofInt z
def zR (z : Int) : Prop := -2147483648 ≤ z ∧ z < 2147483648
theorem zI_lit (n : Nat) : (OfNat.ofNat n : Int32) = zI (OfNat.ofNat n) := by
  show Int32.ofNat n = Int32.ofInt (n : Int)
  first
    | rfl
    | exact (Int32.ofInt_eq_ofNat).symm
    | (apply Int32.toInt_inj.mp; simp)
theorem zI_add (a b : Int) : zI a + zI b = zI (a + b) := by simp [zI, Int32.ofInt_add]
theorem zI_sub (a b : Int) : zI a - zI b = zI (a - b) := by simp [zI, Int32.ofInt_sub]
theorem zI_mul (a b : Int) : zI a * zI b = zI (a * b) := by simp [zI, Int32.ofInt_mul]
theorem zI_neg (a : Int) : -zI a = zI (-a) := by simp [zI, Int32.ofInt_neg]
theorem zI_toInt {a : Int} (h : zR a) : (zI a).toInt = a := by
  obtain ⟨h1, h2⟩ := h
  exact Int32.toInt_ofInt_of_le (by omega) (by omega)
theorem zI_lt {a b : Int} (ha : zR a) (hb : zR b) : zI a < zI b ↔ a < b := by rw [Int32.lt_iff_toInt_lt, zI_toInt ha, zI_toInt hb]
theorem zI_le {a b : Int} (ha : zR a) (hb : zR b) : zI a ≤ zI b ↔ a ≤ b := by rw [Int32.le_iff_toInt_le, zI_toInt ha, zI_toInt hb]
theorem zI_eq {a b : Int} (ha : zR a) (hb : zR b) : zI a = zI b ↔ a = b := by rw [← Int32.toInt_inj, zI_toInt ha, zI_toInt hb]
theorem zI_nat {a : Int} (ha : zR a) : (zI a).toNatClampNeg = a.toNat := by
  show (zI a).toInt.toNat = a.toNat
  rw [zI_toInt ha]
theorem zI_of (x : Int32) : ∃ a, zR a ∧ x = zI a := ⟨x.toInt, ⟨by have := x.le_toInt; omega, by have := x.toInt_lt; omega⟩, by simp [zI]⟩
theorem zI_div2 {a : Int} (h0 : 0 ≤ a) (ha : zR a) : zI a / zI 2 = zI (a / 2) := by
  obtain ⟨h1, h2⟩ := ha
  rw [← Int32.toInt_inj]
  have e2 : (zI 2).toInt = 2 := by decide
  rw [Int32.toInt_div_of_ne_right _ _ (by decide), zI_toInt ⟨h1, h2⟩, e2, zI_toInt (by unfold zR; omega), Int.tdiv_eq_ediv_of_nonneg h0]
theorem zI_xor1 {w : Int} (h0 : 0 ≤ w) (h1 : w < 60) : zI w ^^^ zI 1 = zI (gop w) := by
  obtain ⟨n, rfl⟩ := Int.eq_ofNat_of_zero_le h0
  have hn : n < 60 := by omega
  exact (by decide +kernel : ∀ n : Nat, n < 60 → zI n ^^^ zI 1 = zI (gop n)) n hn
theorem z_ld {μ : ax_M} {a len : Nat} {z : Int} (h : (ax_sh a).1 = 1 ∧ (ax_sh a).2.1 = len) (h0 : 0 ≤ z) (h1 : z < len) (h2 : len < 2147483648) : ax_ld ax_sh μ a (zI z) = some (μ.1 a z.toNat) := by
  have hz : zR z := by unfold zR; omega
  unfold ax_ld
  rw [zI_nat hz, if_pos]
  refine ⟨h.1, ?_⟩
  rintro (q | q)
  · have e0 : (0 : Int32) = zI 0 := rfl
    rw [e0, zI_lt hz (by unfold zR; omega)] at q
    omega
  · rw [h.2] at q
    omega
theorem z_st {μ : ax_M} {a len : Nat} {z : Int} {x : Int32} (h : (ax_sh a).1 = 1 ∧ (ax_sh a).2.1 = len) (h0 : 0 ≤ z) (h1 : z < len) (h2 : len < 2147483648) : ax_st ax_sh μ a (zI z) x = some (ax_up μ.1 a z.toNat x, μ.2) := by
  have hz : zR z := by unfold zR; omega
  unfold ax_st
  rw [zI_nat hz, if_pos]
  refine ⟨h.1, ?_⟩
  rintro (q | q)
  · have e0 : (0 : Int32) = zI 0 := rfl
    rw [e0, zI_lt hz (by unfold zR; omega)] at q
    omega
  · rw [h.2] at q
    omega
theorem z_ld209 {μ : ax_M} {z : Int} (h0 : 0 ≤ z) (h1 : z < 2466) : ax_ld ax_sh μ 209 (zI z) = some (μ.1 209 z.toNat) := z_ld (len := 2466) (by decide) h0 h1 (by decide)
theorem z_st209 {μ : ax_M} {z : Int} {x : Int32} (h0 : 0 ≤ z) (h1 : z < 2466) : ax_st ax_sh μ 209 (zI z) x = some (ax_up μ.1 209 z.toNat x, μ.2) := z_st (len := 2466) (by decide) h0 h1 (by decide)
theorem z_bo {α : Type} {v : α} {f : α → ax_R} : ax_bo (some v) f = f v := rfl
theorem z_b0 {μ : ax_M} {f : ax_M → ax_R} : ax_b0 (some (none, μ)) f = f μ := rfl
theorem z_b1 {v : Int32} {μ : ax_M} {f : Int32 → ax_M → ax_R} : ax_b1 (some (some (.int v), μ)) f = f v μ := rfl
theorem z_b2 {v : Int64} {μ : ax_M} {f : Int64 → ax_M → ax_R} : ax_b2 (some (some (.long v), μ)) f = f v μ := rfl
def zB (b : Bool) : Int32 := if b then 1 else 0
/-- isIn -/
theorem mz_isIn {v a b : Int} (hv : zR v) (ha : zR a) (hb : zR b) (μ : ax_M) : aJ 2 [.int (zI v), .int (zI a), .int (zI b)] [] μ = some (some (.int (zB (decide (a ≤ v ∧ v ≤ b)))), μ) := by
  rw [jl_2]
  simp only [zI_lt hv ha, zI_lt hb hv]
  by_cases h1 : v < a
  · rw [if_pos h1, jl_3, jl_4, if_pos (Or.inl rfl)]
    simp [zB, show ¬ (a ≤ v ∧ v ≤ b) by omega]
  · rw [if_neg h1]
    by_cases h2 : b < v
    · rw [if_pos h2, jl_3, jl_4, if_pos (Or.inl rfl)]
      simp [zB, show ¬ (a ≤ v ∧ v ≤ b) by omega]
    · rw [if_neg h2, jl_4, if_pos (Or.inr rfl)]
      simp [zB, show a ≤ v ∧ v ≤ b by omega]
theorem mz_letterIs {k f : Int} (hk : 0 ≤ k) (hk2 : k < 260) (hf : 0 ≤ f) (hf2 : f < 8) (μ : ax_M) : aJ 205 [.ref 207, .int (zI k), .int (zI f)] [] μ = some (some (.int (μ.1 209 (386 + 8 * k + f).toNat)), μ) := by
  rw [jl_205]
  simp only [zI_lit, zI_mul, zI_add]
  rw [z_ld209 (by omega) (by omega), z_bo]
theorem mz_nodeIs {n f : Int} (hk : 0 ≤ n) (hk2 : n < 12) (hf : 0 ≤ f) (hf2 : f < 10) (μ : ax_M) : aJ 203 [.ref 207, .int (zI n), .int (zI f)] [] μ = some (some (.int (μ.1 209 (263 + 10 * n + f).toNat)), μ) := by
  rw [jl_203]
  simp only [zI_lit, zI_mul, zI_add]
  rw [z_ld209 (by omega) (by omega), z_bo]
theorem mz_setNode {n f : Int} {v : Int32} (hk : 0 ≤ n) (hk2 : n < 12) (hf : 0 ≤ f) (hf2 : f < 10) (μ : ax_M) : aJ 204 [.ref 207, .int (zI n), .int (zI f), .int v] [] μ = some (none, (ax_up μ.1 209 (263 + 10 * n + f).toNat v, μ.2)) := by
  rw [jl_204]
  simp only [zI_lit, zI_mul, zI_add]
  rw [z_st209 (by omega) (by omega), z_bo]
theorem mz_sender {w : Int} (h0 : 0 ≤ w) (h1 : w < 60) (μ : ax_M) : aJ 185 [.ref 207, .int (zI w)] [] μ = some (some (.int (μ.1 209 ((if w % 2 = 0 then 2 else 32) + w / 2).toNat)), μ) := by
  rw [jl_185]
  simp only [zI_lit]
  rw [zI_div2 h0 (by unfold zR; omega)]
  simp only [zI_mul, zI_sub]
  simp only [zI_eq (show zR (w - w / 2 * 2) by unfold zR; omega) (show zR 0 by unfold zR; omega)]
  by_cases hp : w % 2 = 0
  · rw [if_pos (by omega), jl_187]
    simp only [zI_lit]
    rw [zI_div2 h0 (by unfold zR; omega), zI_add, z_ld209 (by omega) (by omega), z_bo, if_pos hp]
  · rw [if_neg (by omega), jl_186, jl_187]
    simp only [zI_lit]
    rw [zI_div2 h0 (by unfold zR; omega), zI_add, z_ld209 (by omega) (by omega), z_bo, if_neg hp]
