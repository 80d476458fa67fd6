/-! s: all asleep in the class; what is noted ahead of an act, and undone -/
def gaX : cX := (fun _ => -1, fun _ => -1, fun _ => 0, fun _ => 0, fun _ => 0, fun _ => 0, fun _ => 0, 0, 0, 0, 0)
theorem XR_gas {G : gG} : XR G gas gaX := by
  have hL : gnL gas = 0 := rfl
  refine ⟨fun w _ _ => rfl, fun w _ _ => rfl, fun w _ _ q => absurd rfl q, fun k k0 k1 => by omega, ⟨⟨Int.le_refl _, by rw [hL]; exact Int.le_refl _⟩, fun i i0 i1 => by have : i < 0 := i1; omega, fun i j i0 ij j1 => by have : j < 0 := j1; omega, fun k k0 k1 => by omega⟩, fun x _ _ => rfl, fun n _ _ => rfl, ⟨rfl, rfl, rfl⟩, ⟨Int.le_refl _, fun k k0 k1 => by omega, Or.inl rfl⟩⟩
theorem q_fill {a len : Nat} {x : Int32} (ha : (ax_sh a).1 = 1 ∧ (ax_sh a).2.1 = len) (hl : len ≤ 100000) (ν : ax_M) : ∃ ν', aJ 853 [.ref a, .int x] [] ν = some (none, ν') ∧ (∀ j : Nat, j < len → ν'.1 a j = x) ∧ fr [a] ν ν' := by
  have loop : ∀ (m : Nat) (k : Int) (ν1 : ax_M), 0 ≤ k → k + m = len → (∀ j : Nat, (j : Int) < k → ν1.1 a j = x) → fr [a] ν ν1 → ∃ ν', aJ 854 [.ref a, .int x, .int (zI k)] [] ν1 = some (none, ν') ∧ (∀ j : Nat, j < len → ν'.1 a j = x) ∧ fr [a] ν ν' := by
    intro m
    induction m with
    | zero =>
      intro k ν1 k0 k1 h1 h2
      refine ⟨ν1, ?_, fun j hj => h1 j (by omega), h2⟩
      rw [jl_854, if_pos (by omega), ha.2, ofNat_zI]
      simp (disch := omega) only [p_le]
      rw [if_pos (by omega), jl_855]
    | succ m ih =>
      intro k ν1 k0 k1 h1 h2
      obtain ⟨ν', e1, e2⟩ := ih (k + 1) (ax_up ν1.1 a k.toNat x, ν1.2) (by omega) (by omega) (fun j hj => by
        by_cases c : j = k.toNat
        · rw [c]
          exact up_at
        · exact (up_nk c).trans (h1 j (by omega))) (frt h2 (fru (by simp)))
      refine ⟨ν', ?_, e2⟩
      rw [jl_854, if_pos (by omega), ha.2, ofNat_zI]
      simp (disch := omega) only [p_le]
      rw [if_neg (by omega), z_st ha k0 (by omega) (by omega), z_bo, show zI k + 1 = zI (k + 1) from zI_a1 k]
      exact e1
  obtain ⟨ν', a1, a2⟩ := loop len 0 ν (by omega) (by omega) (fun j hj => by omega) frz
  refine ⟨ν', ?_, a2⟩
  rw [jl_853]
  exact a1
theorem q_lay {o : Nat} (h : cO o) {W : Int → Int} {ν : ax_M} (hw : wP ν (o + 1) W) : ∃ ν', aJ 1134 [.ref o] [] ν = some (none, ν') ∧ cP o W gas gaX ν' ∧ fr (cOL o) ν ν' := by
  obtain ⟨ν1, a1, a2, a3⟩ := q_fill (x := 0) (sh_2 h) (by decide) ν
  have inner : ∀ (m : Nat) (n f : Int) (ν1 : ax_M), 0 ≤ n → n < 12 → 2 ≤ f → f + m = 7 → ∃ ν', aJ 1136 [.ref o, .int (zI n), .int (zI f)] [] ν1 = aJ 1137 [.ref o, .int (zI n)] [] ν' ∧ (∀ j : Nat, (11 * n + f ≤ j ∧ (j : Int) < 11 * n + 7) → ν'.1 (o + 2) j = zI (-1)) ∧ (∀ j : Nat, ¬ (11 * n + f ≤ j ∧ (j : Int) < 11 * n + 7) → ν'.1 (o + 2) j = ν1.1 (o + 2) j) ∧ fr [o + 2] ν1 ν' := by
    intro m
    induction m with
    | zero =>
      intro n f ν1 n0 n1 f0 f1
      refine ⟨ν1, ?_, fun j hj => by omega, fun j _ => rfl, frz⟩
      rw [jl_1136 _ _ _ _ h]
      simp (disch := omega) only [zI_lit, p_lt]
      rw [if_pos (by omega)]
    | succ m ih =>
      intro n f ν1 n0 n1 f0 f1
      obtain ⟨ν', e1, e2, e3, e4⟩ := ih n (f + 1) (ax_up ν1.1 (o + 2) (n * 11 + f).toNat (zI (-1)), ν1.2) n0 n1 (by omega) (by omega)
      refine ⟨ν', ?_, ?_, ?_, frt (fru (by simp)) e4⟩
      · rw [jl_1136 _ _ _ _ h]
        simp (disch := omega) only [zI_lit, p_lt]
        rw [if_neg (by omega), jl_1140 _ _ _ _ _ h]
        simp only [zI_lit, zI_mul, zI_add, zI_neg]
        rw [c_put (sh_2 h) (by omega) (by omega) (by omega), z_b0, z_b0]
        exact e1
      · intro j hj
        by_cases c : (j : Int) = 11 * n + f
        · rw [e3 j (by omega), show j = (n * 11 + f).toNat by omega]
          exact up_at
        · exact e2 j (by omega)
      · intro j hj
        rw [e3 j (by omega)]
        exact up_nk (by omega)
  have outer : ∀ (m : Nat) (n : Int) (ν1 : ax_M), 0 ≤ n → n + m = 12 → (∀ j : Nat, j < 132 → ν1.1 (o + 2) j = zI (if 2 ≤ (j : Int) % 11 ∧ (j : Int) % 11 ≤ 6 ∧ (j : Int) / 11 < n then -1 else 0)) → ∃ ν', aJ 1135 [.ref o, .int (zI n)] [] ν1 = aJ 1138 [.ref o] [] ν' ∧ (∀ j : Nat, j < 132 → ν'.1 (o + 2) j = zI (if 2 ≤ (j : Int) % 11 ∧ (j : Int) % 11 ≤ 6 then -1 else 0)) ∧ fr [o + 2] ν1 ν' := by
    intro m
    induction m with
    | zero =>
      intro n ν1 n0 n1 hh
      refine ⟨ν1, ?_, ?_, frz⟩
      · rw [jl_1135]
        simp (disch := omega) only [zI_lit, p_le]
        rw [if_pos (by omega)]
      · intro j j1
        rw [hh j j1]
        by_cases c : 2 ≤ (j : Int) % 11 ∧ (j : Int) % 11 ≤ 6
        · rw [if_pos c, if_pos (by omega)]
        · rw [if_neg c, if_neg (by omega)]
    | succ m ih =>
      intro n ν1 n0 n1 hh
      obtain ⟨ν2, c1, c2, c3, c4⟩ := inner 5 n 2 ν1 n0 (by omega) (by omega) (by omega)
      obtain ⟨ν', e1, e2, e4⟩ := ih (n + 1) ν2 (by omega) (by omega) (fun j j1 => by
        by_cases c : 11 * n + 2 ≤ (j : Int) ∧ (j : Int) < 11 * n + 7
        · rw [c2 j c, if_pos (by omega)]
        · rw [c3 j c, hh j j1]
          by_cases d : 2 ≤ (j : Int) % 11 ∧ (j : Int) % 11 ≤ 6 ∧ (j : Int) / 11 < n
          · rw [if_pos d, if_pos (by omega)]
          · rw [if_neg d, if_neg (by omega)])
      refine ⟨ν', ?_, e2, frt c4 e4⟩
      rw [jl_1135]
      simp (disch := omega) only [zI_lit, p_le]
      rw [if_neg (by omega), c1, jl_1137]
      simp only [zI_lit, zI_add]
      exact e1
  obtain ⟨ν2, b1, b2, b3⟩ := outer 12 0 ν1 (by omega) (by omega) (fun j j1 => by rw [a2 j j1, if_neg (by omega)]; rfl)
  obtain ⟨ν3, c1, c2, c3⟩ := q_fill (x := 0) (sh_3 h) (by decide) ν2
  obtain ⟨ν4, d1, d2, d3⟩ := q_fill (x := -1) (sh_5 h) (by decide) ν3
  obtain ⟨ν5, e1, e2, e3⟩ := q_fill (x := -1) (sh_6 h) (by decide) ν4
  obtain ⟨ν6, f1, f2, f3⟩ := q_fill (x := 0) (sh_7 h) (by decide) ν5
  obtain ⟨ν7, g1, g2, g3⟩ := q_fill (x := 0) (sh_10 h) (by decide) ν6
  have m0 : o ∈ cOL o := by simp [cOL]
  refine ⟨ax_uD (ax_uD (ax_uD (ax_uD (ax_uD (ax_uD (ax_uD ν7 o 11 0) o 12 0) o 13 0) o 14 0) o 15 0) o 16 0) o 17 0, ?_, ?_, ?_⟩
  · rw [jl_1134 _ _ h, a1, z_b0]
    simp only [zI_lit] at b1 ⊢
    rw [b1, jl_1138 _ _ h, c1, z_b0, d1, z_b0, e1, z_b0, f1, z_b0, g1, z_b0]
    rfl
  · have k9 : ∀ a k, a ≠ o → (ax_uD (ax_uD (ax_uD (ax_uD (ax_uD (ax_uD (ax_uD ν7 o 11 0) o 12 0) o 13 0) o 14 0) o 15 0) o 16 0) o 17 0).1 a k = ν7.1 a k := by
      intro a k ha
      simp only [uD_ne ha]
    have r1 : ∀ j, ν7.1 (o + 1) j = ν.1 (o + 1) j := fun j => by rw [g3.2 _ (by simp), f3.2 _ (by simp), e3.2 _ (by simp), d3.2 _ (by simp), c3.2 _ (by simp), b3.2 _ (by simp), a3.2 _ (by simp)]
    have r2 : ∀ j, ν7.1 (o + 2) j = ν2.1 (o + 2) j := fun j => by rw [g3.2 _ (by simp), f3.2 _ (by simp), e3.2 _ (by simp), d3.2 _ (by simp), c3.2 _ (by simp)]
    have r3 : ∀ j, ν7.1 (o + 3) j = ν3.1 (o + 3) j := fun j => by rw [g3.2 _ (by simp), f3.2 _ (by simp), e3.2 _ (by simp), d3.2 _ (by simp)]
    have r5 : ∀ j, ν7.1 (o + 5) j = ν4.1 (o + 5) j := fun j => by rw [g3.2 _ (by simp), f3.2 _ (by simp), e3.2 _ (by simp)]
    have r6 : ∀ j, ν7.1 (o + 6) j = ν5.1 (o + 6) j := fun j => by rw [g3.2 _ (by simp), f3.2 _ (by simp)]
    have r7 : ∀ j, ν7.1 (o + 7) j = ν6.1 (o + 7) j := fun j => by rw [g3.2 _ (by simp)]
    have hL : gnL gas = 0 := rfl
    unfold cP
    refine ⟨fun i i0 i1 => ?_, fun n f n0 n1 f0 f1 => ?_, fun n n0 n1 => ?_, fun n n0 n1 => ?_, fun i i0 i1 => ?_, fun k f k0 k1 f0 f1 => by omega, fun k k0 k1 => by omega, fun i i0 i1 => ?_, fun i i0 i1 => ?_, fun i i0 i1 => ?_, fun i i0 i1 => ?_, fun i i0 i1 => ?_, ?_, ?_, ?_, ?_, ?_, ?_, ?_⟩
    · rw [k9 _ _ (by omega), r1]; exact hw i i0 i1
    · rw [k9 _ _ (by omega), r2, b2 _ (by omega)]
      show _ = zI (if 2 ≤ f ∧ f ≤ 6 then -1 else 0)
      by_cases c : 2 ≤ f ∧ f ≤ 6
      · rw [if_pos c, if_pos (by omega)]
      · rw [if_neg c, if_neg (by omega)]
    · rw [k9 _ _ (by omega), r2, b2 _ (by omega), if_neg (by omega)]; rfl
    · rw [k9 _ _ (by omega), r2, b2 _ (by omega), if_neg (by omega)]; rfl
    · rw [k9 _ _ (by omega), r3, c2 _ (by omega)]; rfl
    · rw [k9 _ _ (by omega), r5, d2 _ (by omega)]; rfl
    · rw [k9 _ _ (by omega), r6, e2 _ (by omega)]; rfl
    · rw [k9 _ _ (by omega), r7, f2 _ (by omega)]; rfl
    · have : i < 0 := i1
      omega
    · rw [k9 _ _ (by omega), g2 _ (by omega)]; rfl
    · rw [uD_nk (by decide), uD_nk (by decide), uD_nk (by decide), uD_nk (by decide), uD_nk (by decide), uD_nk (by decide), uD_at]; rfl
    · rw [uD_nk (by decide), uD_nk (by decide), uD_nk (by decide), uD_nk (by decide), uD_nk (by decide), uD_at]; rfl
    · rw [uD_nk (by decide), uD_nk (by decide), uD_nk (by decide), uD_nk (by decide), uD_at]; rfl
    · rw [uD_nk (by decide), uD_nk (by decide), uD_nk (by decide), uD_at]; rfl
    · rw [uD_nk (by decide), uD_nk (by decide), uD_at]; rfl
    · rw [uD_nk (by decide), uD_at]; rfl
    · rw [uD_at]; rfl
  · exact frt (frm a3 (by simp [cOL])) (frt (frm b3 (by simp [cOL])) (frt (frm c3 (by simp [cOL])) (frt (frm d3 (by simp [cOL])) (frt (frm e3 (by simp [cOL])) (frt (frm f3 (by simp [cOL])) (frt (frm g3 (by simp [cOL])) (frt (fr_uD m0) (frt (fr_uD m0) (frt (fr_uD m0) (frt (fr_uD m0) (frt (fr_uD m0) (frt (fr_uD m0) (fr_uD m0)))))))))))))
