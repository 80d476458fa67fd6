/-! l: numbers on the reference's side, names on the class's -/
theorem q_rnum {l : List Int} {ν : ax_M} {x : Int} (h : tXm l ν) (hl : l.length ≤ 45) (x0 : -1 ≤ x) (x1 : x < 100) : ∃ ν', aJ 619 [.ref 207, .int (zI x)] [] ν = some (none, ν') ∧ tXm (l ++ tNu x) ν' ∧ fr [207, 224] ν ν' ∧ ∀ k, k ≠ 34 → ν'.1 207 k = ν.1 207 k := by
  obtain ⟨ν1, a1, a2, a3, a4⟩ := q_rsg (b := 32) h (by omega)
  have n1 : (l ++ [(32 : Int)]).length = l.length + 1 := by simp
  by_cases c : x = -1
  · obtain ⟨ν2, b1, b2, b3, b4⟩ := q_rsg (b := 45) a2 (by omega)
    refine ⟨ν2, ?_, ?_, frt a3 b3, fun k hk => (b4 k hk).trans (a4 k hk)⟩
    · rw [jl_619, show (32 : Int32) = zI 32 from rfl, a1, z_b0, if_pos (show zI x = (-1 : Int32) by rw [c]; rfl), show (45 : Int32) = zI 45 from rfl, b1, z_b0, jl_620, if_pos (show zI x ≤ (9 : Int32) by rw [c]; decide), jl_621, if_pos (show zI x < (0 : Int32) by rw [c]; decide), jl_622]
    · unfold tNu
      rw [if_pos c, show ([32, 45] : List Int) = [32] ++ [45] from rfl, ← List.append_assoc]
      exact b2
  · have hx0 : 0 ≤ x := by omega
    have d10 : zI x / 10 = zI (x / 10) := by
      rw [show (10 : Int32) = zI 10 from rfl, zI_dv hx0 (by omega) (by omega) (by omega)]
    have hmod : x - x / 10 * 10 = x % 10 := by omega
    have e619 : aJ 619 [.ref 207, .int (zI x)] [] ν = aJ 620 [.ref 207, .int (zI x)] [] ν1 := by
      rw [jl_619, show (32 : Int32) = zI 32 from rfl, a1, z_b0, if_neg (show ¬ zI x = (-1 : Int32) from fun q => by
        have := (zI_eq (b := -1) (zR_of (by omega)) (zR_of (by omega))).mp q
        omega)]
    have e621 : ∀ ν, aJ 621 [.ref 207, .int (zI x)] [] ν = ax_b0 (aJ 602 [.ref 207, .int (zI (48 + x % 10))] [] ν) fun ν' => some (none, ν') := by
      intro ν
      rw [jl_621, d10, if_neg (show ¬ zI x < (0 : Int32) from fun q => by
        have := (zI_lt (b := 0) (zR_of (by omega)) (zR_of (by omega))).mp q
        omega)]
      simp only [zI_lit, zI_mul, zI_sub, zI_add, hmod, jl_622]
    by_cases d : x < 10
    · obtain ⟨ν2, b1, b2, b3, b4⟩ := q_rsg (b := 48 + x % 10) a2 (by omega)
      refine ⟨ν2, ?_, ?_, frt a3 b3, fun k hk => (b4 k hk).trans (a4 k hk)⟩
      · rw [e619, jl_620, if_pos (show zI x ≤ (9 : Int32) from (zI_le (b := 9) (zR_of (by omega)) (zR_of (by omega))).mpr (by omega)), e621, b1, z_b0]
      · unfold tNu
        rw [if_neg c, if_pos d, show ([32, 48 + x] : List Int) = [32] ++ [48 + x % 10] by rw [show x % 10 = x by omega]; rfl, ← List.append_assoc]
        exact b2
    · obtain ⟨ν2, b1, b2, b3, b4⟩ := q_rsg (b := 48 + x / 10) a2 (by omega)
      have n2 : (l ++ [(32 : Int)] ++ [48 + x / 10]).length = l.length + 2 := by simp
      obtain ⟨ν3, c1, c2, c3, c4⟩ := q_rsg (b := 48 + x % 10) b2 (by omega)
      refine ⟨ν3, ?_, ?_, frt a3 (frt b3 c3), fun k hk => (c4 k hk).trans ((b4 k hk).trans (a4 k hk))⟩
      · rw [e619, jl_620, if_neg (show ¬ zI x ≤ (9 : Int32) from fun q => by
          have := (zI_le (b := 9) (zR_of (by omega)) (zR_of (by omega))).mp q
          omega), d10, show (48 : Int32) = zI 48 from rfl, zI_add, b1, z_b0, e621, c1, z_b0]
      · unfold tNu
        rw [if_neg c, if_neg d, show ([32, 48 + x / 10, 48 + x % 10] : List Int) = [32] ++ [48 + x / 10] ++ [48 + x % 10] from rfl, ← List.append_assoc, ← List.append_assoc]
        exact c2
theorem ld8_at {μ : ax_M} {a len : Nat} {z : Int} (h : ((ax_sh a).1 = 2 ∨ (ax_sh a).1 = 3) ∧ (ax_sh a).2.1 = len) (h0 : 0 ≤ z) (h1 : z < len) (h2 : len < 2147483648) : ax_ld8 ax_sh μ a (zI z) = some (μ.1 a z.toNat) := by
  have hz : zR z := by unfold zR; omega
  have e0 : (0 : Int32) = zI 0 := rfl
  unfold ax_ld8
  rw [zI_nat hz, if_pos]
  refine ⟨h.1, ?_⟩
  rintro (q | q)
  · rw [e0, zI_lt hz (by unfold zR; omega)] at q
    omega
  · rw [h.2] at q
    omega
theorem q_949 {μ : ax_M} {n i : Int} (h0 : 0 ≤ n * 7 + i) (h1 : n * 7 + i < 84) : aJ 949 [.ref 3, .int (zI n), .int (zI i)] [] μ = some (some (.int (μ.1 4 (n * 7 + i).toNat)), μ) := by
  have hl : Int32.ofNat (ax_sh (3 + 1)).2.1 = zI 84 := by decide
  have h8 : ax_ld8 ax_sh μ (3 + 1) (zI (n * 7 + i)) = some (μ.1 4 (n * 7 + i).toNat) := ld8_at (len := 84) (by decide) h0 h1 (by decide)
  rw [jl_949 3 _ _ _ (Or.inl rfl), hl]
  simp only [zI_lit, zI_mul, zI_add]
  rw [if_neg (fun q => by
    have := (zI_lt (zR_of (by omega)) (zR_of (by omega))).mp q
    omega), if_pos (by decide), if_neg (fun q => by
    have := (zI_le (zR_of (by omega)) (zR_of (by omega))).mp q
    omega), h8, z_bo, jl_951]
/-- the signs of a name -/
def tNm (s : Int → Int) : Nat → List Int
  | 0 => []
  | n + 1 => tNm s n ++ [s n]
theorem tNm_l {s : Int → Int} : ∀ n : Nat, (tNm s n).length = n := by
  intro n
  induction n with
  | zero => rfl
  | succ n ih =>
    show (tNm s n ++ [s n]).length = _
    rw [List.length_append, ih]
    rfl
theorem q_nam {N : qNm} {l : List Int} {ν : ax_M} {n : Int} (hN : nOK N) (hc : cNm 3 N ν) (h : tXc l ν) (hl : l.length ≤ 41) (n0 : 0 ≤ n) (n1 : n < N.1) : ∃ ν', aJ 1284 [.ref 205, .ref 3, .int (zI n)] [] ν = some (none, ν') ∧ tXc (l ++ tNm (N.2.2 n) (N.2.1 n).toNat) ν' ∧ fr [205, 206] ν ν' := by
  obtain ⟨k0, k1, k2⟩ := hN
  have hn := k2 n n0 n1
  have key : ∀ (m i : Nat) (ν : ax_M), cNm 3 N ν → (i : Int) + m = N.2.1 n → tXc (l ++ tNm (N.2.2 n) i) ν → ∃ ν', aJ 1285 [.ref 205, .ref 3, .int (zI n), .int (zI i)] [] ν = some (none, ν') ∧ tXc (l ++ tNm (N.2.2 n) (N.2.1 n).toNat) ν' ∧ fr [205, 206] ν ν' := by
    intro m
    induction m with
    | zero =>
      intro i ν hc im h
      have hl5 := (hc n n0 n1).1
      refine ⟨ν, ?_, by rw [show (N.2.1 n).toNat = i by omega]; exact h, frz⟩
      rw [jl_1285]
      simp (disch := omega) only [at_5, z_b1]
      rw [hl5]
      simp (disch := omega) only [p_le]
      rw [if_pos (by omega), jl_1286]
    | succ m ih =>
      intro i ν hc im h
      have hl5 := (hc n n0 n1).1
      have hl4 := (hc n n0 n1).2 i (by omega) (by omega)
      have hb := hn.2 i (by omega) (by omega)
      have nl : (l ++ tNm (N.2.2 n) i).length = l.length + i := by rw [List.length_append, tNm_l]
      obtain ⟨ν1, a1, a2, a3⟩ := q_sgn (b := N.2.2 n i) h (by omega) (by omega) (by omega)
      have hc1 : cNm 3 N ν1 := by
        intro n' x0 x1
        have := hc n' x0 x1
        rw [fr_at a3 (by decide)]
        exact ⟨this.1, fun j j0 j1 => by rw [fr_at a3 (by decide)]; exact this.2 j j0 j1⟩
      obtain ⟨ν', b1, b2, b3⟩ := ih (i + 1) ν1 hc1 (by omega) (by
        show tXc (l ++ (tNm (N.2.2 n) i ++ [N.2.2 n i])) ν1
        rw [← List.append_assoc]
        exact a2)
      refine ⟨ν', ?_, b2, frt a3 b3⟩
      have e949 : aJ 949 [.ref 3, .int (zI n), .int (zI i)] [] ν = some (some (.int (zI (N.2.2 n i))), ν) := by
        rw [q_949 (by omega) (by omega)]
        exact congrArg (fun x => some (some (Value.int x), ν)) hl4
      rw [jl_1285]
      simp (disch := omega) only [at_5, z_b1]
      rw [hl5]
      simp (disch := omega) only [p_le, zI_lit, zI_add]
      rw [if_neg (by omega), if_neg (by omega), e949, z_b1, a1, z_b0]
      exact b1
  have h0 : tXc (l ++ tNm (N.2.2 n) 0) ν := by
    show tXc (l ++ []) ν
    rw [List.append_nil]
    exact h
  obtain ⟨ν', b1, b2, b3⟩ := key (N.2.1 n).toNat 0 ν hc (by omega) h0
  refine ⟨ν', ?_, b2, b3⟩
  rw [jl_1284]
  simp only [zI_lit]
  exact b1
