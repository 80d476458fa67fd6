/-! k: sets as bits -/
def ibt (s : Int32) (i : Int) : Prop := s.toBitVec.getLsbD i.toNat = true
def ibo (i : Int) : Int32 := zI 1 <<< (zI i &&& zI 31)
theorem ibt_ext {s t : Int32} (h : ∀ i : Int, 0 ≤ i → i < 32 → (ibt s i ↔ ibt t i)) : s = t := by
  apply Int32.toBitVec_inj.mp
  apply BitVec.eq_of_getLsbD_eq
  intro i hi
  have := h i (by omega) (by omega)
  unfold ibt at this
  rw [Int.toNat_natCast] at this
  exact Bool.eq_iff_iff.mpr this
theorem ibo_b : ∀ i : Nat, i < 32 → (ibo i).toBitVec = BitVec.twoPow 32 i := by decide +kernel
theorem ibt_o {i j : Int} (h0 : 0 ≤ i) (h1 : i < 32) (j0 : 0 ≤ j) : ibt (ibo i) j ↔ i = j := by
  obtain ⟨n, rfl⟩ := Int.eq_ofNat_of_zero_le h0
  obtain ⟨k, rfl⟩ := Int.eq_ofNat_of_zero_le j0
  unfold ibt
  rw [ibo_b n (by omega), BitVec.getLsbD_twoPow, Int.toNat_natCast]
  simp
  omega
theorem ibt_or {s t : Int32} {j : Int} : ibt (s ||| t) j ↔ (ibt s j ∨ ibt t j) := by
  unfold ibt
  rw [Int32.toBitVec_or, BitVec.getLsbD_or]
  simp
theorem ibt_and {s t : Int32} {j : Int} : ibt (s &&& t) j ↔ (ibt s j ∧ ibt t j) := by
  unfold ibt
  rw [Int32.toBitVec_and, BitVec.getLsbD_and]
  simp
theorem ibm_b : ∀ j : Nat, j < 32 → (zI (-1)).toBitVec.getLsbD j = true := by decide +kernel
theorem ibt_xm {t : Int32} {j : Int} (j0 : 0 ≤ j) (j1 : j < 32) : ibt (t ^^^ zI (-1)) j ↔ ¬ ibt t j := by
  unfold ibt
  rw [Int32.toBitVec_xor, BitVec.getLsbD_xor, ibm_b j.toNat (by omega)]
  cases t.toBitVec.getLsbD j.toNat <;> simp
theorem ibt_z {j : Int} (j0 : 0 ≤ j) : ¬ ibt (zI 0) j := by
  unfold ibt
  rw [show (zI 0).toBitVec = 0#32 from rfl]
  simp
theorem ibs_b : ∀ i : Nat, i < 32 → ((zI i &&& zI 31).toBitVec.smod 32) = BitVec.ofNat 32 i := by decide +kernel
theorem ib1_b : (zI 1).toBitVec = BitVec.twoPow 32 0 := by decide +kernel
theorem ibt_s {s : Int32} {i j : Int} (h0 : 0 ≤ i) (h1 : i < 32) (j0 : 0 ≤ j) : ibt ((s >>> (zI i &&& zI 31)) &&& zI 1) j ↔ (ibt s i ∧ j = 0) := by
  obtain ⟨n, rfl⟩ := Int.eq_ofNat_of_zero_le h0
  obtain ⟨k, rfl⟩ := Int.eq_ofNat_of_zero_le j0
  rw [ibt_and]
  unfold ibt
  rw [ib1_b, BitVec.getLsbD_twoPow, Int32.toBitVec_shiftRight, ibs_b n (by omega), BitVec.sshiftRight_eq', Int.toNat_natCast, Int.toNat_natCast, BitVec.getLsbD_sshiftRight]
  have e : (BitVec.ofNat 32 n).toNat = n := by
    rw [BitVec.toNat_ofNat]
    omega
  rw [e]
  constructor
  · rintro ⟨a, b⟩
    have hk : k = 0 := by
      simp at b
      omega
    subst hk
    rw [if_pos (by omega)] at a
    simp at a
    exact ⟨a, rfl⟩
  · rintro ⟨a, b⟩
    have hk : k = 0 := by omega
    subst hk
    rw [if_pos (by omega)]
    simp
    exact a
theorem ibt_1 {j : Int} (j0 : 0 ≤ j) : ibt (zI 1) j ↔ j = 0 := by
  obtain ⟨k, rfl⟩ := Int.eq_ofNat_of_zero_le j0
  unfold ibt
  rw [ib1_b, BitVec.getLsbD_twoPow, Int.toNat_natCast]
  simp
  omega
theorem ibs_p {s : Int32} {i : Int} (h0 : 0 ≤ i) (h1 : i < 32) (h : ibt s i) : ((s >>> (zI i &&& zI 31)) &&& zI 1) = zI 1 := ibt_ext (fun j j0 _ => by rw [ibt_s h0 h1 j0, ibt_1 j0]; exact ⟨fun q => q.2, fun q => ⟨h, q⟩⟩)
theorem ibs_n {s : Int32} {i : Int} (h0 : 0 ≤ i) (h1 : i < 32) (h : ¬ ibt s i) : ((s >>> (zI i &&& zI 31)) &&& zI 1) = zI 0 := ibt_ext (fun j j0 _ => by rw [ibt_s h0 h1 j0]; exact ⟨fun q => absurd q.1 h, fun q => absurd q (ibt_z j0)⟩)
theorem ibs_01 : zI 0 ≠ zI 1 := by decide
/-- the set of a property -/
noncomputable def ibSn (P : Int → Prop) : Nat → Int32
  | 0 => zI 0
  | n + 1 => @ite _ (P n) (Classical.propDecidable _) (ibSn P n ||| ibo n) (ibSn P n)
noncomputable def ibS (P : Int → Prop) : Int32 := ibSn P 32
theorem ibSn_b {P : Int → Prop} : ∀ n : Nat, n ≤ 32 → ∀ j : Int, 0 ≤ j → (ibt (ibSn P n) j ↔ (j < n ∧ P j)) := by
  intro n
  induction n with
  | zero =>
    intro _ j j0
    show ibt (zI 0) j ↔ _
    exact ⟨fun q => absurd q (ibt_z j0), fun q => by omega⟩
  | succ n ih =>
    intro hn j j0
    have ih' := ih (by omega) j j0
    unfold ibSn
    by_cases q : P n
    · rw [if_pos q, ibt_or, ih', ibt_o (by omega) (by omega) j0]
      constructor
      · rintro (⟨a, b⟩ | a)
        · exact ⟨by omega, b⟩
        · subst a
          exact ⟨by omega, q⟩
      · rintro ⟨a, b⟩
        by_cases c : j = n
        · exact Or.inr c.symm
        · exact Or.inl ⟨by omega, b⟩
    · rw [if_neg q, ih']
      constructor
      · rintro ⟨a, b⟩
        exact ⟨by omega, b⟩
      · rintro ⟨a, b⟩
        by_cases c : j = n
        · subst c
          exact absurd b q
        · exact ⟨by omega, b⟩
theorem ibS_b {P : Int → Prop} {j : Int} (j0 : 0 ≤ j) (j1 : j < 32) : ibt (ibS P) j ↔ P j := by
  unfold ibS
  rw [ibSn_b 32 (Nat.le_refl _) j j0]
  exact ⟨fun q => q.2, fun q => ⟨by omega, q⟩⟩
theorem ibS_eq {s : Int32} {P : Int → Prop} (h : ∀ i : Int, 0 ≤ i → i < 32 → (ibt s i ↔ P i)) : s = ibS P := ibt_ext (fun j j0 j1 => by rw [ibS_b j0 j1]; exact h j j0 j1)
theorem ibS_c {P Q : Int → Prop} (h : ∀ i : Int, 0 ≤ i → i < 32 → (P i ↔ Q i)) : ibS P = ibS Q := ibS_eq (fun i i0 i1 => by rw [ibS_b i0 i1]; exact h i i0 i1)
theorem ibS_0 {P : Int → Prop} (h : ∀ i : Int, 0 ≤ i → i < 32 → ¬ P i) : zI 0 = ibS P := ibS_eq (fun i i0 i1 => ⟨fun q => absurd q (ibt_z i0), fun q => absurd q (h i i0 i1)⟩)
theorem ibS_add {P Q : Int → Prop} {e : Int} (e0 : 0 ≤ e) (e1 : e < 32) (h : ∀ i, 0 ≤ i → i < 32 → (Q i ↔ (P i ∨ i = e))) : ibS P ||| ibo e = ibS Q := ibS_eq (fun i i0 i1 => by
  rw [ibt_or, ibS_b i0 i1, ibt_o e0 e1 i0, h i i0 i1, eq_comm])
theorem ibS_rem {P Q : Int → Prop} {e : Int} (e0 : 0 ≤ e) (e1 : e < 32) (h : ∀ i, 0 ≤ i → i < 32 → (Q i ↔ (P i ∧ i ≠ e))) : ibS P &&& (ibo e ^^^ zI (-1)) = ibS Q := ibS_eq (fun i i0 i1 => by
  rw [ibt_and, ibS_b i0 i1, ibt_xm i0 i1, ibt_o e0 e1 i0, h i i0 i1, eq_comm])
theorem ibS_ne {P Q : Int → Prop} (h : ibS P = ibS Q) {i : Int} (i0 : 0 ≤ i) (i1 : i < 32) : P i ↔ Q i := by rw [← ibS_b (P := P) i0 i1, h, ibS_b i0 i1]
theorem ibS_o {e : Int} (e0 : 0 ≤ e) (e1 : e < 32) : ibo e = ibS (fun i => i = e) := ibS_eq (fun i i0 i1 => by rw [ibt_o e0 e1 i0, eq_comm])
