/-! k: the reference's sets: how many, the least -/
theorem lea_ex {P : Int → Prop} : ∀ m : Nat, (∃ i : Int, 0 ≤ i ∧ i < m ∧ P i) → ∃ k : Int, 0 ≤ k ∧ k < m ∧ P k ∧ ∀ j, 0 ≤ j → j < k → ¬ P j := by
  intro m
  induction m with
  | zero =>
    rintro ⟨i, i0, i1, _⟩
    omega
  | succ m ih =>
    rintro ⟨i, i0, i1, i2⟩
    by_cases c : ∃ i : Int, 0 ≤ i ∧ i < m ∧ P i
    · obtain ⟨k, k0, k1, k2, k3⟩ := ih c
      exact ⟨k, k0, by omega, k2, k3⟩
    · have hi : i = m := by
        apply Classical.byContradiction
        intro h
        exact c ⟨i, i0, by omega, i2⟩
      exact ⟨i, i0, i1, i2, fun j j0 j1 h => c ⟨j, j0, by omega, h⟩⟩
theorem ib_nat {x k j : Nat} (h : x.testBit k = true) (hl : ∀ i, i < k → x.testBit i = false) : (x.testBit j = true ∧ (x - 1).testBit j = true) ↔ (x.testBit j = true ∧ j ≠ k) := by
  have hm : x % 2 ^ k = 0 := by
    apply Nat.eq_of_testBit_eq
    intro i
    rw [Nat.testBit_mod_two_pow, Nat.zero_testBit]
    by_cases c : i < k
    · rw [hl i c]
      simp
    · simp [c]
  rw [Nat.testBit_eq_decide_div_mod_eq] at h
  have hy : x / 2 ^ k % 2 = 1 := by simpa using h
  have hx : x = 2 ^ k * (x / 2 ^ k) := by
    have := Nat.div_add_mod x (2 ^ k)
    omega
  obtain ⟨q, hq⟩ : ∃ q, x / 2 ^ k = 2 * q + 1 := ⟨x / 2 ^ k / 2, by omega⟩
  have hp : 0 < 2 ^ k := Nat.two_pow_pos k
  have ex : x = 2 ^ k * (2 * q + 1) + 0 := by rw [← hq]; omega
  have e1 : x - 1 = 2 ^ k * (2 * q) + (2 ^ k - 1) := by
    rw [ex, Nat.mul_add]
    omega
  have t0 := Nat.testBit_two_pow_mul_add (i := k) (2 * q + 1) (b := 0) hp j
  have t1 := Nat.testBit_two_pow_mul_add (i := k) (2 * q) (b := 2 ^ k - 1) (by omega) j
  rw [← ex] at t0
  rw [← e1] at t1
  rw [t0, t1]
  by_cases c : j < k
  · simp [c]
  · rw [if_neg c, if_neg c]
    by_cases c2 : j = k
    · subst c2
      simp
    · obtain ⟨d, hd⟩ : ∃ d, j - k = d + 1 := ⟨j - k - 1, by omega⟩
      rw [hd, Nat.testBit_succ, Nat.testBit_succ, show (2 * q + 1) / 2 = q by omega, show 2 * q / 2 = q by omega]
      exact ⟨fun a => ⟨a.1, c2⟩, fun a => ⟨a.1, a.1⟩⟩
theorem ib_low {s : Int32} {k j : Int} (k0 : 0 ≤ k) (h : ibt s k) (hl : ∀ j, 0 ≤ j → j < k → ¬ ibt s j) (j0 : 0 ≤ j) : ibt (s &&& (s - zI 1)) j ↔ (ibt s j ∧ j ≠ k) := by
  have e : (s - zI 1).toBitVec.toNat = s.toBitVec.toNat - 1 := by
    have hx : s.toBitVec.toNat ≠ 0 := by
      intro q
      unfold ibt at h
      rw [← BitVec.testBit_toNat, q] at h
      simp at h
    have hlt := s.toBitVec.isLt
    rw [Int32.toBitVec_sub, BitVec.toNat_sub, show (zI 1).toBitVec.toNat = 1 from rfl]
    omega
  rw [ibt_and]
  unfold ibt at *
  rw [← BitVec.testBit_toNat, ← BitVec.testBit_toNat, e]
  rw [← BitVec.testBit_toNat] at h
  have := ib_nat (x := s.toBitVec.toNat) (k := k.toNat) (j := j.toNat) h (fun i i0 => by
    have := hl i (by omega) (by omega)
    rw [← BitVec.testBit_toNat, Int.toNat_natCast] at this
    exact Bool.eq_false_iff.mpr this)
  rw [this]
  constructor
  · rintro ⟨a, b⟩
    exact ⟨a, by omega⟩
  · rintro ⟨a, b⟩
    exact ⟨a, by omega⟩
noncomputable def ibN (P : Int → Prop) : Nat := pct P (fun _ => Classical.propDecidable _) 32
theorem q_bits {ν : ax_M} {P : Int → Prop} : aJ 485 [.int (ibS P)] [] ν = some (some (.int (zI (ibN P))), ν) := by
  have key : ∀ (m : Nat) (P : Int → Prop) (c : Int), ibN P = m → aJ 486 [.int (zI c), .int (ibS P)] [] ν = some (some (.int (zI (c + m))), ν) := by
    intro m
    induction m with
    | zero =>
      intro P c h
      have h0 : ∀ i : Int, 0 ≤ i → i < 32 → ¬ P i := by
        intro i i0 i1 p
        have := pct_pos (P := P) (D := fun _ => Classical.propDecidable _) (m := 32) i0 (by omega) p
        unfold ibN at h
        omega
      rw [jl_486, ← ibS_0 h0]
      simp only [zI_lit]
      rw [if_pos trivial, jl_487, show c + ((0 : Nat) : Int) = c by omega]
    | succ m ih =>
      intro P c h
      have hx : ∃ i : Int, 0 ≤ i ∧ i < (32 : Nat) ∧ P i := by
        apply Classical.byContradiction
        intro hc
        have e := pct_congr (P := P) (Q := fun _ => False) (D := fun _ => Classical.propDecidable _) (D2 := fun _ => inferInstance) (m := 32) (fun i i0 i1 => ⟨fun p => hc ⟨i, i0, i1, p⟩, fun p => p.elim⟩)
        unfold ibN at h
        rw [e] at h
        have : pct (fun _ => False) (fun _ => inferInstance) 32 = 0 := by decide
        omega
      obtain ⟨k, k0, k1, k2, k3⟩ := lea_ex 32 hx
      have e : ibS P &&& (ibS P - zI 1) = ibS (fun i => P i ∧ i ≠ k) := ibS_eq (fun i i0 i1 => by
        rw [ib_low k0 ((ibS_b k0 (by omega)).mpr k2) (fun j j0 j1 w => k3 j j0 j1 ((ibS_b j0 (by omega)).mp w)) i0, ibS_b i0 i1])
      have e2 : ibN P = ibN (fun i => P i ∧ i ≠ k) + 1 := pct_rem (P := P) (Q := fun i => P i ∧ i ≠ k) (D := fun _ => Classical.propDecidable _) (D2 := fun _ => Classical.propDecidable _) (m := 32) k0 k1 k2 (fun i => Iff.rfl)
      have ih' := ih (fun i => P i ∧ i ≠ k) (c + 1) (by omega)
      rw [jl_486]
      simp only [zI_lit, e, zI_add]
      rw [if_neg (fun q => ibt_z k0 (by rw [← q]; exact (ibS_b k0 (by omega)).mpr k2)), ih', show c + 1 + (m : Int) = c + ((m + 1 : Nat) : Int) by omega]
  rw [jl_485]
  simp only [zI_lit]
  rw [key _ P 0 rfl, Int.zero_add]
theorem q_lowest {ν : ax_M} {P : Int → Prop} {k : Int} (k0 : 0 ≤ k) (k1 : k < 32) (h : P k) (hl : ∀ j, 0 ≤ j → j < k → ¬ P j) : aJ 481 [.int (ibS P)] [] ν = some (some (.int (zI k)), ν) := by
  have key : ∀ (m : Nat) (i : Int), 0 ≤ i → i + m = k → aJ 482 [.int (ibS P), .int (zI i)] [] ν = some (some (.int (zI k)), ν) := by
    intro m
    induction m with
    | zero =>
      intro i i0 i1
      rw [jl_482]
      simp only [zI_lit]
      have hi : i = k := by omega
      subst hi
      rw [if_neg (by rw [ibs_p i0 k1 ((ibS_b i0 k1).mpr h)]; exact fun q => ibs_01 q.symm), jl_483]
    | succ m ih =>
      intro i i0 i1
      have ih' := ih (i + 1) (by omega) (by omega)
      rw [jl_482]
      simp only [zI_lit, zI_add]
      rw [if_pos (ibs_n i0 (by omega) (fun w => hl i i0 (by omega) ((ibS_b i0 (by omega)).mp w))), ih']
  rw [jl_481]
  simp only [zI_lit]
  exact key k.toNat 0 (by omega) (by omega)
