/-! r: counts over the letters, a round -/
theorem q_cp {a b la lb : Nat} {n : Int} (ha : (ax_sh a).1 = 1 ∧ (ax_sh a).2.1 = la) (hb : (ax_sh b).1 = 1 ∧ (ax_sh b).2.1 = lb) (hla : la ≤ 100000) (hlb : lb ≤ 100000) (h0 : 0 ≤ n) (h1 : n ≤ la) (h2 : n ≤ lb) (ν : ax_M) : ∃ ν', aJ 851 [.ref a, .ref b, .int (zI n)] [] ν = some (none, ν') ∧ fr [b] ν ν' ∧ (∀ i : Nat, (i : Int) < n → ν'.1 b i = ν.1 a i) ∧ (∀ i : Nat, n ≤ i → ν'.1 b i = ν.1 b i) := by
  have hm : (if (if (Int32.ofNat (ax_sh b).2.1) < (Int32.ofNat (ax_sh a).2.1) then Int32.ofNat (ax_sh b).2.1 else Int32.ofNat (ax_sh a).2.1) < zI n then if (Int32.ofNat (ax_sh b).2.1) < (Int32.ofNat (ax_sh a).2.1) then Int32.ofNat (ax_sh b).2.1 else Int32.ofNat (ax_sh a).2.1 else zI n) = zI n := by
    rw [ha.2, hb.2, ofNat_zI, ofNat_zI, i_lt (zR_of (by omega)) (zR_of (by omega))]
    by_cases q : (lb : Int) < la
    · rw [if_pos q, i_lt (zR_of (by omega)) (zR_of (by omega)), if_neg (by omega)]
    · rw [if_neg q, i_lt (zR_of (by omega)) (zR_of (by omega)), if_neg (by omega)]
  rw [jl_851, hm, if_pos (by omega), if_pos (by omega), j_le rfl zl0 (zR_of (by omega)) (zR_of (by omega))]
  by_cases q : n ≤ 0
  · rw [if_pos q, jl_852]
    exact ⟨ν, rfl, frz, fun i hi => by omega, fun i _ => rfl⟩
  · have hn : (zI n).toNatClampNeg = n.toNat := zI_nat (zR_of (by omega))
    have hn0 : ¬ zI n < 0 := by
      rw [zl0, zI_lt (zR_of (by omega)) (zR_of (by omega))]
      omega
    have e0 : (0 : Int32).toNatClampNeg = 0 := rfl
    rw [if_neg q]
    unfold ax_cp
    rw [hn, e0, if_pos ⟨ha.1, hb.1, by decide, by decide, hn0, by omega, by omega⟩, z_bo, jl_852]
    refine ⟨_, rfl, ⟨rfl, ?_⟩, ?_, ?_⟩
    · intro c hc
      show (if c = b then _ else ν.1 c) = ν.1 c
      rw [if_neg (by simpa using hc)]
    · intro i hi
      show (if b = b then va_cpy (ν.1 a) (ν.1 b) 0 0 n.toNat else ν.1 b) i = _
      rw [if_pos rfl]
      unfold va_cpy
      rw [if_pos (by omega), show 0 + (i - 0) = i by omega]
    · intro i hi
      show (if b = b then va_cpy (ν.1 a) (ν.1 b) 0 0 n.toNat else ν.1 b) i = _
      rw [if_pos rfl]
      unfold va_cpy
      rw [if_neg (by omega)]
theorem q_rmo {G : gG} {S : gS} {ν : ax_M} (hm : mI G S ν) (h0 : 0 ≤ gnL S) (hL : gnL S ≤ 256) (hr : hRs G S) (hE : gE G ≤ 30) {w : Int} (w0 : 0 ≤ w) (w1 : w < 60) : aJ 211 [.ref 207, .int (zI w)] [] ν = some (some (.int (zI (nOn S w))), ν) := by
  have key : ∀ m l : Nat, l + m = (gnL S).toNat → aJ 212 [.ref 207, .int (zI w), .int (zI (pct (fun k => glt S k 5 = 0 ∧ glt S k 1 = w) (fun _ => inferInstance) l)), .int (zI l)] [] ν = some (some (.int (zI (nOn S w))), ν) := by
    intro m
    induction m with
    | zero =>
      intro l hl
      rw [jl_212]
      simp (disch := omega) only [zI_lit, q_rL hm, z_bo, p_le]
      rw [if_pos (by omega), jl_214]
      unfold nOn
      rw [show (gnL S).toNat = l by omega]
    | succ m ih =>
      intro l hl
      have ih' := ih (l + 1) (by omega)
      obtain ⟨l0, l1, l2, l3, l4, l5, l6, l7⟩ := hr.2.2.2 l (by omega) (by omega)
      have hp := pct_le (P := fun k => glt S k 5 = 0 ∧ glt S k 1 = w) (D := fun _ => inferInstance) (m := l)
      rw [jl_212]
      simp only [pct] at ih'
      by_cases q : glt S l 5 = 0 ∧ glt S l 1 = w
      · rw [if_pos q] at ih'
        simp (disch := omega) only [zI_lit, q_rL hm, z_bo, p_le, q_lt hm hL, z_b1, p_eq, zI_add, jl_213]
        rw [if_neg (by omega), if_pos q.1, if_pos q.2]
        exact ih'
      · rw [if_neg q] at ih'
        simp (disch := omega) only [zI_lit, q_rL hm, z_bo, p_le, q_lt hm hL, z_b1, p_eq, zI_add, jl_213]
        rw [if_neg (by omega)]
        by_cases q5 : glt S l 5 = 0
        · rw [if_pos q5, if_neg (fun z => q ⟨q5, z⟩)]
          exact ih'
        · rw [if_neg q5]
          exact ih'
  rw [jl_211]
  exact key (gnL S).toNat 0 (by omega)
