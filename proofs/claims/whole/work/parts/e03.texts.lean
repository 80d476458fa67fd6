/-! l: texts, sign by sign -/
def tXc (l : List Int) (ν : ax_M) : Prop := ν.1 205 1 = zI (l.length : Nat) ∧ ∀ (i : Nat) (b : Int), l[i]? = some b → ν.1 206 i = zI b
def tXm (l : List Int) (ν : ax_M) : Prop := ν.1 207 34 = zI (l.length : Nat) ∧ ∀ (i : Nat) (b : Int), l[i]? = some b → ν.1 224 i = zI b
theorem sgn_8 : ∀ n : Nat, n < 128 → (zI n).toInt8.toInt32 = zI n ∧ vp_nar .byte (zI n) = zI n := by decide +kernel
theorem st8_206 {μ : ax_M} {z b : Int} (h0 : 0 ≤ z) (h1 : z < 64) (b0 : 0 ≤ b) (b1 : b < 128) : ax_st8 ax_sh μ 206 (zI z) ((zI b).toInt8.toInt32) = some (ax_up μ.1 206 z.toNat (zI b), μ.2) := by
  have hz : zR z := by unfold zR; omega
  have e0 : (0 : Int32) = zI 0 := rfl
  obtain ⟨n, rfl⟩ := Int.eq_ofNat_of_zero_le b0
  have h8 := sgn_8 n (by omega)
  unfold ax_st8
  rw [h8.1, zI_nat hz, if_pos, h8.2]
  refine ⟨by decide, ?_⟩
  rintro (q | q)
  · rw [e0, zI_lt hz (by unfold zR; omega)] at q
    omega
  · have : (ax_sh 206).2.1 = 64 := by decide
    rw [this] at q
    omega
theorem app_at {l : List Int} {b c : Int} {i : Nat} (h : (l ++ [b])[i]? = some c) : (i < l.length ∧ l[i]? = some c) ∨ (i = l.length ∧ c = b) := by
  by_cases q : i < l.length
  · rw [List.getElem?_append_left q] at h
    exact Or.inl ⟨q, h⟩
  · rw [List.getElem?_append_right (by omega)] at h
    by_cases q2 : i = l.length
    · rw [q2, Nat.sub_self] at h
      simp at h
      exact Or.inr ⟨q2, h.symm⟩
    · obtain ⟨d, hd⟩ : ∃ d, i - l.length = d + 1 := ⟨i - l.length - 1, by omega⟩
      rw [hd] at h
      simp at h
theorem q_sgn {l : List Int} {ν : ax_M} {b : Int} (h : tXc l ν) (hl : l.length < 48) (b0 : 0 ≤ b) (b1 : b < 128) : ∃ ν', aJ 1282 [.ref 205, .int (zI b)] [] ν = some (none, ν') ∧ tXc (l ++ [b]) ν' ∧ fr [205, 206] ν ν' := by
  obtain ⟨h1, h2⟩ := h
  refine ⟨ax_uD (ax_up ν.1 206 l.length (zI b), ν.2) 205 1 (zI ((l.length : Int) + 1)), ?_, ⟨?_, ?_⟩, frt (ν' := (ax_up ν.1 206 l.length (zI b), ν.2)) (fru (by simp)) (fr_uD (by simp))⟩
  · have e1 : ((ax_up ν.1 206 l.length (zI b), ν.2) : ax_M).1 205 1 = zI (l.length : Nat) := by
      show ax_up ν.1 206 l.length (zI b) 205 1 = _
      rw [up_ne (by decide)]
      exact h1
    rw [jl_1282, h1]
    simp (disch := omega) only [show (0 : Int32) = zI 0 from rfl, show (64 : Int32) = zI 64 from rfl, p_lt, p_le]
    rw [if_neg (by omega), if_neg (by omega), st8_206 (by omega) (by omega) b0 b1, z_bo, Int.toNat_natCast, e1, jl_1283, show (1 : Int32) = zI 1 from rfl, zI_add]
  · rw [uD_at, List.length_append]
    rfl
  · intro i c hc
    rw [uD_ne (by decide)]
    show ax_up ν.1 206 l.length (zI b) 206 i = zI c
    rcases app_at hc with ⟨q1, q2⟩ | ⟨q1, q2⟩
    · rw [up_nk (by omega)]
      exact h2 i c q2
    · rw [q1, up_at, q2]
theorem q_rsg {l : List Int} {ν : ax_M} {b : Int} (h : tXm l ν) (hl : l.length < 48) : ∃ ν', aJ 602 [.ref 207, .int (zI b)] [] ν = some (none, ν') ∧ tXm (l ++ [b]) ν' ∧ fr [207, 224] ν ν' ∧ ∀ k, k ≠ 34 → ν'.1 207 k = ν.1 207 k := by
  obtain ⟨h1, h2⟩ := h
  refine ⟨ax_uD (ax_up ν.1 224 l.length (zI b), ν.2) 207 34 (zI ((l.length : Int) + 1)), ?_, ⟨?_, ?_⟩, frt (ν' := (ax_up ν.1 224 l.length (zI b), ν.2)) (fru (by simp)) (fr_uD (by simp)), ?_⟩
  · have e1 : ((ax_up ν.1 224 l.length (zI b), ν.2) : ax_M).1 207 34 = zI (l.length : Nat) := by
      show ax_up ν.1 224 l.length (zI b) 207 34 = _
      rw [up_ne (by decide)]
      exact h1
    have e2 : ax_st ax_sh ν 224 (zI (l.length : Nat)) (zI b) = some (ax_up ν.1 224 ((l.length : Nat) : Int).toNat (zI b), ν.2) := z_st (len := 48) (by decide) (by omega) (by omega) (by decide)
    rw [jl_602, h1, e2, z_bo, Int.toNat_natCast, e1, show (1 : Int32) = zI 1 from rfl, zI_add]
  · rw [uD_at, List.length_append]
    rfl
  · intro i c hc
    rw [uD_ne (by decide)]
    show ax_up ν.1 224 l.length (zI b) 224 i = zI c
    rcases app_at hc with ⟨q1, q2⟩ | ⟨q1, q2⟩
    · rw [up_nk (by omega)]
      exact h2 i c q2
    · rw [q1, up_at, q2]
  · intro k hk
    rw [uD_nk hk]
    show ax_up ν.1 224 l.length (zI b) 207 k = _
    exact up_ne (by decide)
/-- a number behind a blank -/
def tNu (x : Int) : List Int := if x = -1 then [32, 45] else if x < 10 then [32, 48 + x] else [32, 48 + x / 10, 48 + x % 10]
theorem q_num {l : List Int} {ν : ax_M} {x : Int} (h : tXc l ν) (hl : l.length ≤ 45) (x0 : -1 ≤ x) (x1 : x < 100) : ∃ ν', aJ 1290 [.ref 205, .int (zI x)] [] ν = some (none, ν') ∧ tXc (l ++ tNu x) ν' ∧ fr [205, 206] ν ν' := by
  obtain ⟨ν1, a1, a2, a3⟩ := q_sgn (b := 32) h (by omega) (by omega) (by omega)
  have n1 : (l ++ [(32 : Int)]).length = l.length + 1 := by simp
  by_cases c : x = -1
  · obtain ⟨ν2, b1, b2, b3⟩ := q_sgn (b := 45) a2 (by omega) (by omega) (by omega)
    refine ⟨ν2, ?_, ?_, frt a3 b3⟩
    · rw [jl_1290, show (32 : Int32) = zI 32 from rfl, a1, z_b0, if_pos (show zI x = (-1 : Int32) by rw [c]; rfl), show (45 : Int32) = zI 45 from rfl, b1, z_b0]
    · unfold tNu
      rw [if_pos c, show ([32, 45] : List Int) = [32] ++ [45] from rfl, ← List.append_assoc]
      exact b2
  · have hx0 : 0 ≤ x := by omega
    have d10 : ∀ y : Int, 0 ≤ y → y < 100 → zI y / 10 = zI (y / 10) := fun y y0 y1 => by
      rw [show (10 : Int32) = zI 10 from rfl, zI_dv y0 (by omega) (by omega) (by omega)]
    have e1290 : aJ 1290 [.ref 205, .int (zI x)] [] ν = aJ 1291 [.ref 205, .int (zI x)] [] ν1 := by
      rw [jl_1290, show (32 : Int32) = zI 32 from rfl, a1, z_b0, if_neg (show ¬ zI x = (-1 : Int32) from fun q => by
        have := (zI_eq (b := -1) (zR_of (by omega)) (zR_of (by omega))).mp q
        omega)]
    have hmod : x - x / 10 * 10 = x % 10 := by omega
    have e1292 : aJ 1292 [.ref 205, .int (zI x)] [] = fun ν => ax_b0 (aJ 1282 [.ref 205, .int (zI (48 + x % 10))] [] ν) fun ν' => some (none, ν') := by
      funext ν
      rw [jl_1292, d10 x hx0 x1]
      simp only [zI_lit, zI_mul, zI_sub, zI_add, hmod]
    by_cases d : x < 10
    · obtain ⟨ν2, b1, b2, b3⟩ := q_sgn (b := 48 + x % 10) a2 (by omega) (by omega) (by omega)
      refine ⟨ν2, ?_, ?_, frt a3 b3⟩
      · rw [e1290, jl_1291, if_pos (show zI x < (10 : Int32) from (zI_lt (b := 10) (zR_of (by omega)) (zR_of (by omega))).mpr d), e1292]
        show ax_b0 (aJ 1282 [.ref 205, .int (zI (48 + x % 10))] [] ν1) _ = _
        rw [b1, z_b0]
      · unfold tNu
        rw [if_neg c, if_pos d, show ([32, 48 + x] : List Int) = [32] ++ [48 + x % 10] by rw [show x % 10 = x by omega]; rfl, ← List.append_assoc]
        exact b2
    · obtain ⟨ν2, b1, b2, b3⟩ := q_sgn (b := 48 + x / 10) a2 (by omega) (by omega) (by omega)
      have n2 : (l ++ [(32 : Int)] ++ [48 + x / 10]).length = l.length + 2 := by simp
      obtain ⟨ν3, c1, c2, c3⟩ := q_sgn (b := 48 + x % 10) b2 (by omega) (by omega) (by omega)
      refine ⟨ν3, ?_, ?_, frt a3 (frt b3 c3)⟩
      · have hd : x / 10 - x / 10 / 10 * 10 = x / 10 := by omega
        rw [e1290, jl_1291, if_neg (show ¬ zI x < (10 : Int32) from fun q => d ((zI_lt (b := 10) (zR_of (by omega)) (zR_of (by omega))).mp q)), e1292, d10 x hx0 x1, d10 (x / 10) (by omega) (by omega)]
        simp only [zI_lit, zI_mul, zI_sub, zI_add, hd]
        rw [b1, z_b0, c1, z_b0]
      · unfold tNu
        rw [if_neg c, if_neg d, show ([32, 48 + x / 10, 48 + x % 10] : List Int) = [32] ++ [48 + x / 10] ++ [48 + x % 10] from rfl, ← List.append_assoc, ← List.append_assoc]
        exact c2
