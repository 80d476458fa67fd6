/-! j: more queries -/
theorem q_nextBy {G : gG} {S : gS} {U : List gU} {K : qK} (hp : pOK G S U K) (a : Int32) : qCl G S U K 761 558 [.ref 0, .int a] [.ref 207, .int a] := by
  obtain ⟨w, ⟨w1, w2⟩, rfl⟩ := zI_of a
  refine qCl_same hp (zI (if w = 0 then (kO K).1 else if w = 1 then (kO K).2 else -1)) ?_ ?_
  · intro ν hi
    obtain ⟨_, _, j⟩ := id hi
    obtain ⟨_, _, _, _, _, _, _, _, j9, j10, _⟩ := j
    rw [jl_761]
    simp (disch := omega) only [zI_lit, p_eq]
    by_cases c0 : w = 0
    · rw [if_pos c0, if_pos c0, jl_762, j9]
    · rw [if_neg c0, if_neg c0]
      by_cases c1 : w = 1
      · rw [if_pos c1, if_pos c1, jl_763, j10]
      · rw [if_neg c1, if_neg c1, jl_764]
        rfl
  · intro ν ν0 e0 hi0
    obtain ⟨_, _, j⟩ := id hi0
    obtain ⟨_, _, _, _, _, _, _, _, j9, j10, _⟩ := j
    rw [jl_558, ← e0, j9]
    simp (disch := omega) only [zI_lit, p_eq]
    by_cases c0 : w = 0
    · rw [if_pos c0, if_pos c0, jl_561]
    · rw [if_neg c0, if_neg c0, jl_559]
      simp (disch := omega) only [zI_lit, p_eq]
      by_cases c1 : w = 1
      · rw [if_pos c1, if_pos c1, jl_561, j10]
      · rw [if_neg c1, if_neg c1, jl_560, jl_561]
        rfl
theorem q_count {G : gG} {S : gS} {U : List gU} {K : qK} (hp : pOK G S U K) (a : Int32) : qCl G S U K 798 645 [.ref 0, .int a] [.ref 207, .int a] := by
  obtain ⟨w, ⟨w1, w2⟩, rfl⟩ := zI_of a
  refine qCl_same hp (zI (if w = 0 then gN G else if w = 1 then gE G else if w = 2 then rLn (kR K) else if w = 3 then (kT K).1 else -1)) ?_ ?_
  · intro ν hi
    obtain ⟨⟨X, x1, x2⟩, _, j⟩ := iC_R hp.2.2.1 hi
    obtain ⟨j1, _, j3, _⟩ := j
    have hN := q_N x1 (Or.inl rfl)
    have hE := q_E x1 (Or.inl rfl)
    rw [jl_798]
    simp (disch := omega) only [zI_lit, p_eq]
    by_cases c0 : w = 0
    · rw [if_pos c0, if_pos c0, jl_799, hN]
    rw [if_neg c0, if_neg c0]
    by_cases c1 : w = 1
    · rw [if_pos c1, if_pos c1, jl_800, hE]
    rw [if_neg c1, if_neg c1]
    by_cases c2 : w = 2
    · rw [if_pos c2, if_pos c2, jl_801, j1.1]
    rw [if_neg c2, if_neg c2]
    by_cases c3 : w = 3
    · rw [if_pos c3, if_pos c3, jl_802, j3]
    rw [if_neg c3, if_neg c3, jl_803]
    rfl
  · intro ν ν0 e0 hi0
    obtain ⟨m1, _, j⟩ := id hi0
    obtain ⟨j1, _, j3, _⟩ := j
    have o0 := j1.1
    have l62 : ax_ld ax_sh ν0 209 (zI 62) = some (zI (rLn (kR K))) := by
      rw [ld_209 (by decide) (by decide)]
      exact congrArg some o0
    rw [jl_645, ← e0]
    simp (disch := omega) only [zI_lit, p_eq]
    by_cases c0 : w = 0
    · rw [if_pos c0, if_pos c0, jl_646]
      simp only [zI_lit, q_rN m1, z_bo]
    rw [if_neg c0, if_neg c0]
    by_cases c1 : w = 1
    · rw [if_pos c1, if_pos c1, jl_647]
      simp only [zI_lit, q_rE m1, z_bo]
    rw [if_neg c1, if_neg c1]
    by_cases c2 : w = 2
    · rw [if_pos c2, if_pos c2, jl_648]
      simp only [zI_lit, l62, z_bo]
    rw [if_neg c2, if_neg c2]
    by_cases c3 : w = 3
    · rw [if_pos c3, if_pos c3, jl_649, j3]
    rw [if_neg c3, if_neg c3, jl_650]
    rfl
theorem q_rkd {G : gG} {S : gS} {ν : ax_M} (hm : mI G S ν) (h0 : 0 ≤ gnL S) (hL : gnL S ≤ 256) (hr : hRs G S) {x : Int} (x0 : 0 ≤ x) (x1 : x ≤ 6) : aJ 464 [.ref 207, .int (zI x)] [] ν = some (some (.int (zI (nKd S x))), ν) := by
  have key : ∀ m l : Nat, l + m = (gnL S).toNat → aJ 465 [.ref 207, .int (zI x), .int (zI (pct (fun k => glt S k 0 = x) (fun _ => inferInstance) l)), .int (zI l)] [] ν = some (some (.int (zI (nKd S x))), ν) := by
    intro m
    induction m with
    | zero =>
      intro l hl
      rw [jl_465]
      simp (disch := omega) only [zI_lit, q_rL hm, z_bo, p_le]
      rw [if_pos (by omega), jl_467]
      unfold nKd
      rw [show (gnL S).toNat = l by omega]
    | succ m ih =>
      intro l hl
      have ih' := ih (l + 1) (by omega)
      obtain ⟨l0, l1, l2, l3, l4, l5, l6, l7⟩ := hr.2.2.2 l (by omega) (by omega)
      have hp := pct_le (P := fun k => glt S k 0 = x) (D := fun _ => inferInstance) (m := l)
      rw [jl_465]
      simp only [pct] at ih'
      simp (disch := omega) only [zI_lit, q_rL hm, z_bo, p_le, q_lt hm hL, z_b1, p_eq, zI_add, jl_466]
      rw [if_neg (by omega)]
      by_cases q : glt S l 0 = x
      · rw [if_pos q] at ih' ⊢
        exact ih'
      · rw [if_neg q] at ih' ⊢
        exact ih'
  rw [jl_464]
  exact key (gnL S).toNat 0 (by omega)
theorem q_sent {G : gG} {S : gS} {U : List gU} {K : qK} (hp : pOK G S U K) (a : Int32) : qCl G S U K 732 463 [.ref 0, .int a] [.ref 207, .int a] := by
  obtain ⟨w, hw, rfl⟩ := zI_of a
  have hL := pOK_L hp
  have hww := hw
  obtain ⟨w1, w2⟩ := hw
  by_cases c : 0 ≤ w ∧ w ≤ 6
  · refine qCl_same hp (zI (nKd S w)) ?_ ?_
    · intro ν hi
      obtain ⟨⟨X, x1, x2⟩, _, _⟩ := iC_R hp.2.2.1 hi
      have h6 := x2.2.2.2.2.2.1 w c.1 (by omega)
      rw [jl_732, show (39 : Nat) = 29 + 10 from rfl, q_so x1 (Or.inl rfl) c.1 (by omega), z_b1, h6]
    · intro ν ν0 e0 hi0
      rw [jl_463, ← e0, show (0 : Int32) = zI 0 from rfl, show (6 : Int32) = zI 6 from rfl, mz_isIn hww (zR_of (by omega)) (zR_of (by omega)), z_b1, show decide (0 ≤ w ∧ w ≤ 6) = true by simp [c], if_neg (by decide), q_rkd hi0.1 hL.1 (by omega) hp.2.2.1.2.2.1 c.1 c.2]
  · refine qCl_same hp (zI (-1)) ?_ ?_
    · intro ν hi
      rw [jl_732, c_at_out (a := 39) (len := 7) (by decide) (by decide) hww (by omega), z_b1]
      rfl
    · intro ν ν0 e0 hi0
      rw [jl_463, ← e0, show (0 : Int32) = zI 0 from rfl, show (6 : Int32) = zI 6 from rfl, mz_isIn hww (zR_of (by omega)) (zR_of (by omega)), z_b1, show decide (0 ≤ w ∧ w ≤ 6) = false by simp; omega, if_pos (by decide)]
      rfl
def glg (n : Int) : Int := if n ≤ 1 then 0 else if n ≤ 3 then 1 else if n ≤ 7 then 2 else 3
theorem q_limit {G : gG} {S : gS} {U : List gU} {K : qK} (hp : pOK G S U K) : qCl G S U K 733 468 [.ref 0] [.ref 207] := by
  have hg := hp.1
  have hN0 := hg.1
  have hN := hg.2.1
  refine qCl_same hp (zI (2 * gE G + 5 * gN G * glg (gN G))) ?_ ?_
  · intro ν hi
    obtain ⟨⟨X, x1, x2⟩, _, _⟩ := iC_R hp.2.2.1 hi
    have eN := q_N x1 (Or.inl rfl)
    have eE := q_E x1 (Or.inl rfl)
    have s1 : (1 : Int32) <<< (zI 1 &&& 31) = zI 2 := by decide
    have s2 : (1 : Int32) <<< (zI 2 &&& 31) = zI 4 := by decide
    have s3 : (1 : Int32) <<< (zI 3 &&& 31) = zI 8 := by decide
    have s4 : (1 : Int32) <<< (zI 4 &&& 31) = zI 16 := by decide
    have n1 : zI 1 + 1 = zI 2 := by decide
    have n2 : zI 2 + 1 = zI 3 := by decide
    have n3 : zI 3 + 1 = zI 4 := by decide
    have fin : ∀ k : Int, aJ 735 [.ref 0, .int (zI k)] [] ν = some (some (.int (zI (2 * gE G + 5 * gN G * k))), ν) := by
      intro k
      rw [jl_735, eN, eE]
      simp only [zI_lit, zI_mul, zI_add]
    have z4 : (4 : Int32) = zI 4 := rfl
    unfold glg
    rw [jl_733, show (0 : Int32) = zI 0 from rfl, show (1 : Int32) = zI 1 from rfl, jl_734, j_lt z4 rfl (zR_of (by omega)) (zR_of (by omega)), if_neg (by omega), eN, show ((1 : Int32) <<< (zI 1 &&& 31)) = zI 2 from s1, i_lt (zR_of (by omega)) (zR_of (by omega))]
    by_cases c1 : gN G < 2
    · rw [if_pos c1, fin, if_pos (by omega)]
    rw [if_neg c1, n1, jl_734, j_lt z4 rfl (zR_of (by omega)) (zR_of (by omega)), if_neg (by omega), eN, s2, i_lt (zR_of (by omega)) (zR_of (by omega)), if_neg (show ¬ gN G ≤ 1 by omega)]
    by_cases c2 : gN G < 4
    · rw [if_pos c2, fin, if_pos (by omega)]
    rw [if_neg c2, n2, jl_734, j_lt z4 rfl (zR_of (by omega)) (zR_of (by omega)), if_neg (by omega), eN, s3, i_lt (zR_of (by omega)) (zR_of (by omega)), if_neg (show ¬ gN G ≤ 3 by omega)]
    by_cases c3 : gN G < 8
    · rw [if_pos c3, fin, if_pos (by omega)]
    rw [if_neg c3, n3, jl_734, j_lt z4 rfl (zR_of (by omega)) (zR_of (by omega)), if_neg (by omega), eN, s4, i_lt (zR_of (by omega)) (zR_of (by omega)), if_neg (show ¬ gN G ≤ 7 by omega), if_pos (by omega), fin]
  · intro ν ν0 e0 hi0
    have m1 := hi0.1
    have fin : ∀ k : Int, aJ 470 [.ref 207, .int (zI k)] [] ν0 = some (some (.int (zI (2 * gE G + 5 * gN G * k))), ν0) := by
      intro k
      rw [jl_470]
      simp only [zI_lit, q_rE m1, q_rN m1, z_bo, zI_mul, zI_add]
    have st : ∀ k n : Int, 1 < n → n ≤ 12 → aJ 469 [.ref 207, .int (zI k), .int (zI n)] [] ν0 = aJ 469 [.ref 207, .int (zI (k + 1)), .int (zI (n / 2))] [] ν0 := by
      intro k n h1 h2
      rw [jl_469]
      simp (disch := omega) only [zI_lit, p_le, zI_add, zI_hlf]
      rw [if_neg (by omega)]
    have en : ∀ k n : Int, 0 ≤ n → n ≤ 1 → aJ 469 [.ref 207, .int (zI k), .int (zI n)] [] ν0 = aJ 470 [.ref 207, .int (zI k)] [] ν0 := by
      intro k n h1 h2
      rw [jl_469]
      simp (disch := omega) only [zI_lit, p_le]
      rw [if_pos (by omega)]
    unfold glg
    rw [jl_468, ← e0]
    simp only [zI_lit, q_rN m1, z_bo]
    by_cases c1 : gN G ≤ 1
    · rw [en _ _ hN0 c1, fin, if_pos c1]
    rw [if_neg c1, st _ _ (by omega) hN]
    by_cases c2 : gN G ≤ 3
    · rw [en _ _ (by omega) (by omega), fin, if_pos c2]
      rfl
    rw [if_neg c2, st _ _ (by omega) (by omega)]
    by_cases c3 : gN G ≤ 7
    · rw [en _ _ (by omega) (by omega), fin, if_pos c3]
      rfl
    rw [if_neg c3, st _ _ (by omega) (by omega), en _ _ (by omega) (by omega), fin]
    rfl
/-! a call that may throw -/
def qCt (c : Prop) (G : gG) (S : gS) (U : List gU) (K : qK) (fC fM : Nat) (aC aM : List Value) : Prop := (c → ∃ r : Int32, (∀ ν, iC G S U K ν → ∃ ν', aJ fC aC [] ν = some (some (.int r), ν') ∧ iC G S U K ν' ∧ frC ν ν') ∧ (∀ ν, iM G S U K ν → ∃ ν', aJ fM aM [] ν = some (some (.int r), ν') ∧ iM G S U K ν' ∧ frM ν ν' ∧ ν'.1 207 0 = 0)) ∧ (¬ c → ∀ ν, iM G S U K ν → ∃ ν' r, aJ fM aM [] ν = some (some (.int r), ν') ∧ iM G S U K ν' ∧ frM ν ν' ∧ ν'.1 207 0 = 1)
theorem q_rf {ν0 : ax_M} : aJ 1 [.ref 207] [] ν0 = some (some (.int 0), ax_uD ν0 207 0 1) := jl_1 ν0
theorem q_nodeC {G : gG} {S : gS} {U : List gU} {K : qK} (hp : pOK G S U K) (hX : ∃ X, XR G S X) {n w : Int} (hn : zR n) (hw : zR w) : qCt ((0 ≤ n ∧ n < gN G) ∧ 0 ≤ w ∧ w < 11) G S U K 666 365 [.ref 0, .int (zI n), .int (zI w)] [.ref 207, .int (zI n), .int (zI w)] := by
  have hg := hp.1
  have hv := hp.2.2.1
  have hL := pOK_L hp
  have hN := hg.2.1
  have hK := hp.2.2.2.2.2.2.1.1
  have hww := hw
  obtain ⟨w1, w2⟩ := hw
  constructor
  · rintro ⟨cn, cw⟩
    have hdn : decide (0 ≤ n ∧ n < gN G) = true := by simp [cn]
    have hdw : decide (0 ≤ w ∧ w ≤ 10) = true := by simp; omega
    refine ⟨zI (if w = 9 then nDf G S n else if w = 10 then gnd S n 9 else gnd S n w), ?_, ?_⟩
    · intro ν hi
      obtain ⟨⟨X, x1, x2⟩, _, _⟩ := iC_R hp.2.2.1 hi
      refine ⟨ν, ?_, hi, frC_z⟩
      rw [jl_666, q_in hg x1 hn, z_b1, hdn, if_neg (by decide)]
      simp (disch := omega) only [zI_lit, p_lt]
      rw [if_neg (by omega), if_pos (by omega), jl_668]
      by_cases c9 : w = 9
      · have h7 : xwn X n = nDf G S n := x2.2.2.2.2.2.2.1 n cn.1 (by omega)
        subst c9
        rw [q_of9 x1 (Or.inl rfl) cn.1 (by omega), z_b1, if_pos rfl, h7]
      · rw [if_neg c9]
        by_cases c10 : w = 10
        · subst c10
          rw [q_of10 x1 (Or.inl rfl) cn.1 (by omega), z_b1, if_pos rfl]
        · rw [if_neg c10, q_of x1 (Or.inl rfl) cn.1 (by omega) (by omega) (by omega), z_b1]
    · intro ν hi
      obtain ⟨ν0, e0, hi0, f0⟩ := iM_th hK hi
      have m1 := hi0.1
      refine ⟨ν0, ?_, hi0, f0, by rw [e0]; exact uD_at⟩
      rw [jl_365, ← e0, q_rin hg m1 hn, z_b1, hdn, if_neg (by decide), show (0 : Int32) = zI 0 from rfl, show (10 : Int32) = zI 10 from rfl, mz_isIn hww (zR_of (by omega)) (zR_of (by omega)), z_b1, hdw, if_neg (by decide), jl_367]
      simp (disch := omega) only [zI_lit, p_eq]
      by_cases c9 : w = 9
      · have hpd : nDf G S n ≤ (gnL S).toNat := pct_le
        have spec : ∀ k : Nat, (k < nDf G S n → gwl G S n k 0 ≠ -1) ∧ (nDf G S n ≤ k → gwl G S n k 0 = -1) := by
          obtain ⟨X, hx⟩ := hX
          have x5 := hx.2.2.2.2.1
          have hpn := pcw_nDf (G := G) (n := n) hL.1 x5
          have xb := x5.1
          intro k
          have hKk := gwl_K (G := G) (n := n) hL.1 hv.2.2.2.1 x5 k
          constructor
          · intro hk
            obtain ⟨i, hi, _⟩ := isK_ex (G := G) (S := S) (X := X) (n := n) (xwc X).toNat k (by omega) (by omega)
            have := (x5.2.1 i hi.1 hi.2.1).1
            rw [hKk.1 i hi]
            omega
          · intro hk
            exact hKk.2 (by omega)
        have loop : ∀ (m k : Nat), k + m = nDf G S n → aJ 368 [.ref 207, .int (zI n), .int (zI k)] [] ν0 = some (some (.int (zI (nDf G S n : Nat))), ν0) := by
          intro m
          induction m with
          | zero =>
            intro k hk
            rw [jl_368, q_rwt' hg hv m1 cn.1 (by omega) (by omega), z_b1, (spec k).2 (by omega), if_pos (by decide), jl_369, show nDf G S n = k by omega]
          | succ m ih =>
            intro k hk
            have hne := (spec k).1 (by omega)
            have hr := gwl_rng (G := G) (S := S) (n := n) hL.1 k
            rw [jl_368, q_rwt' hg hv m1 cn.1 (by omega) (by omega), z_b1, j_eq rfl zlm (zR_of (by omega)) (zR_of (by omega)), if_neg hne, show zI (k : Int) + 1 = zI ((k + 1 : Nat) : Int) from zI_a1 k]
            exact ih (k + 1) (by omega)
        rw [if_pos c9, if_pos c9]
        exact loop (nDf G S n) 0 (by omega)
      · rw [if_neg c9, if_neg c9, jl_370]
        simp (disch := omega) only [zI_lit, p_eq]
        by_cases c10 : w = 10
        · rw [if_pos c10, if_pos c10, jl_372, q_nd m1 cn.1 (by omega) (by omega) (by omega), z_b1]
        · rw [if_neg c10, if_neg c10, jl_371, jl_372, q_nd m1 cn.1 (by omega) (by omega) (by omega), z_b1]
  · intro hc ν hi
    obtain ⟨ν0, e0, hi0, f0⟩ := iM_th hK hi
    have m1 := hi0.1
    refine ⟨ax_uD ν0 207 0 1, 0, ?_, iM_u0 hK hi0, frM_t f0 frM_u0, uD_at⟩
    have h366 : aJ 366 [.ref 207] [] ν0 = some (some (.int 0), ax_uD ν0 207 0 1) := by rw [jl_366, q_rf, z_b1]
    rw [jl_365, ← e0, q_rin hg m1 hn, z_b1]
    by_cases cn : 0 ≤ n ∧ n < gN G
    · rw [show decide (0 ≤ n ∧ n < gN G) = true by simp [cn], if_neg (by decide), show (10 : Int32) = zI 10 from rfl, show Value.int (0 : Int32) = .int (zI 0) from rfl, mz_isIn hww (zR_of (by omega)) (zR_of (by omega)), z_b1, show decide (0 ≤ w ∧ w ≤ 10) = false by simp; omega, if_pos (by decide), h366]
      rfl
    · rw [show decide (0 ≤ n ∧ n < gN G) = false by simp; omega, if_pos (by decide), h366]
theorem q_letterC {G : gG} {S : gS} {U : List gU} {K : qK} (hp : pOK G S U K) {k w : Int} (hk : zR k) (hw : zR w) : qCt ((0 ≤ k ∧ k < gnL S) ∧ 0 ≤ w ∧ w < 7) G S U K 680 384 [.ref 0, .int (zI k), .int (zI w)] [.ref 207, .int (zI k), .int (zI w)] := by
  have hL := pOK_L hp
  have hK := hp.2.2.2.2.2.2.1.1
  have hww := hw
  obtain ⟨w1, w2⟩ := hw
  constructor
  · rintro ⟨cn, cw⟩
    have hdn : decide (0 ≤ k ∧ k < gnL S) = true := by simp [cn]
    have hdn' : decide (0 ≤ k ∧ k ≤ gnL S - 1) = true := by simp; omega
    have hdw : decide (0 ≤ w ∧ w ≤ 6) = true := by simp; omega
    refine ⟨zI (glt S k w), ?_, ?_⟩
    · intro ν hi
      obtain ⟨⟨X, x1, x2⟩, _, _⟩ := iC_R hp.2.2.1 hi
      refine ⟨ν, ?_, hi, frC_z⟩
      rw [jl_680, q_il hL.1 (by omega) x1 hk, z_b1, hdn, if_neg (by decide)]
      simp (disch := omega) only [zI_lit, p_lt]
      rw [if_neg (by omega), if_pos (by omega), jl_682, q_tl x1 (Or.inl rfl) (by omega) cn.1 cn.2 (by omega) (by omega), z_b1]
    · intro ν hi
      obtain ⟨ν0, e0, hi0, f0⟩ := iM_th hK hi
      have m1 := hi0.1
      refine ⟨ν0, ?_, hi0, f0, by rw [e0]; exact uD_at⟩
      rw [jl_384, ← e0]
      simp only [zI_lit, q_rL m1, z_bo, zI_sub]
      rw [mz_isIn hk (zR_of (by omega)) (zR_of (by omega)), z_b1, hdn', if_neg (by decide), mz_isIn hww (zR_of (by omega)) (zR_of (by omega)), z_b1, hdw, if_neg (by decide), q_lt m1 (by omega) cn.1 cn.2 (by omega) (by omega), z_b1, jl_386]
  · intro hc ν hi
    obtain ⟨ν0, e0, hi0, f0⟩ := iM_th hK hi
    have m1 := hi0.1
    refine ⟨ax_uD ν0 207 0 1, 0, ?_, iM_u0 hK hi0, frM_t f0 frM_u0, uD_at⟩
    have h385 : aJ 385 [.ref 207] [] ν0 = some (some (.int 0), ax_uD ν0 207 0 1) := by rw [jl_385, q_rf, z_b1, jl_386]
    rw [jl_384, ← e0]
    simp only [zI_lit, q_rL m1, z_bo, zI_sub]
    rw [mz_isIn hk (zR_of (by omega)) (zR_of (by omega)), z_b1]
    by_cases cn : 0 ≤ k ∧ k < gnL S
    · rw [show decide (0 ≤ k ∧ k ≤ gnL S - 1) = true by simp; omega, if_neg (by decide), mz_isIn hww (zR_of (by omega)) (zR_of (by omega)), z_b1, show decide (0 ≤ w ∧ w ≤ 6) = false by simp; omega, if_pos (by decide), h385]
      rfl
    · rw [show decide (0 ≤ k ∧ k ≤ gnL S - 1) = false by simp; omega, if_pos (by decide), h385]
      rfl
