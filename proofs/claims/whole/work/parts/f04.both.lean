/-! n: calls that are alike in both phases -/
theorem pQ_T {G : gG} {S : gS} {U : List gU} {K : qK} {t : Int × (Int → Int)} (hp : pQ G S U K) (h : 0 ≤ t.1 ∧ t.1 ≤ 940 ∧ ∀ i, 0 ≤ i → i < t.1 → 0 ≤ t.2 i ∧ t.2 i ≤ 255) : pQ G S U (kTs K t) := by
  obtain ⟨q1, q2, q3, q4, q5, q6, q7, q8, q9, q10⟩ := pQ_K hp
  exact pQ_r hp ⟨q1, q2, h, q4, q5, q6, q7, q8, q9, q10⟩ rfl
theorem f_fault {G : gG} {S : gS} {U : List gU} {K : qK} (hp : pQ G S U K) (a : Int32) : qF G S U K 660 172 [.ref 0, .int a] [.ref 207, .int a] := by
  obtain ⟨w, ⟨w1, w2⟩, rfl⟩ := zI_of a
  have hF := (pQ_K hp).2.2.2.2.2.1
  refine qF_same hp (zI (if w = 0 then (kF K).1 else if w = 1 then (if (kF K).1 = 0 then -1 else (kF K).2) else -1)) ?_ ?_
  · intro ν hi
    obtain ⟨_, _, j⟩ := id hi
    obtain ⟨_, _, _, _, _, _, j7, j8, _⟩ := j
    rw [jl_660]
    simp (disch := omega) only [zI_lit, p_eq]
    by_cases c0 : w = 0
    · rw [if_pos c0, if_pos c0, jl_661, j7]
    · rw [if_neg c0, if_neg c0]
      by_cases c1 : w = 1
      · rw [if_pos c1, if_pos c1, jl_662, j7]
        simp (disch := omega) only [zI_lit, p_eq]
        by_cases cf : (kF K).1 = 0
        · rw [if_pos cf, if_pos cf, jl_664]
          rfl
        · rw [if_neg cf, if_neg cf, jl_663, jl_664, j8 cf]
      · rw [if_neg c1, if_neg c1, jl_665]
        rfl
  · intro ν ν0 e0 hi0
    obtain ⟨_, _, j⟩ := id hi0
    obtain ⟨_, _, _, _, _, _, j7, j8, _⟩ := j
    rw [jl_172, ← e0, j7]
    simp (disch := omega) only [zI_lit, p_eq]
    by_cases c0 : w = 0
    · rw [if_pos c0, if_pos c0, jl_175]
    · rw [if_neg c0, if_neg c0, jl_173]
      simp (disch := omega) only [zI_lit, p_eq]
      by_cases c1 : w = 1
      · rw [if_pos c1, if_pos c1, jl_175, j8]
      · rw [if_neg c1, if_neg c1, jl_174, jl_175]
        rfl
theorem f_nextBy {G : gG} {S : gS} {U : List gU} {K : qK} (hp : pQ G S U K) (a : Int32) : qF G S U K 761 558 [.ref 0, .int a] [.ref 207, .int a] := by
  obtain ⟨w, ⟨w1, w2⟩, rfl⟩ := zI_of a
  refine qF_same hp (zI (if w = 0 then (kO K).1 else if w = 1 then (kO K).2 else -1)) ?_ ?_
  · intro ν hi
    obtain ⟨_, _, j⟩ := id hi
    obtain ⟨_, _, _, _, _, _, _, _, j9, j10, _⟩ := j
    rw [jl_761]
    simp (disch := omega) only [zI_lit, p_eq]
    by_cases c0 : w = 0
    · rw [if_pos c0, if_pos c0, jl_762, j9]
    · rw [if_neg c0, if_neg c0]
      by_cases c1 : w = 1
      · rw [if_pos c1, if_pos c1, jl_763, j10]
      · rw [if_neg c1, if_neg c1, jl_764]
        rfl
  · intro ν ν0 e0 hi0
    obtain ⟨_, _, j⟩ := id hi0
    obtain ⟨_, _, _, _, _, _, _, _, j9, j10, _⟩ := j
    rw [jl_558, ← e0, j9]
    simp (disch := omega) only [zI_lit, p_eq]
    by_cases c0 : w = 0
    · rw [if_pos c0, if_pos c0, jl_561]
    · rw [if_neg c0, if_neg c0, jl_559]
      simp (disch := omega) only [zI_lit, p_eq]
      by_cases c1 : w = 1
      · rw [if_pos c1, if_pos c1, jl_561, j10]
      · rw [if_neg c1, if_neg c1, jl_560, jl_561]
        rfl
theorem f_count {G : gG} {S : gS} {U : List gU} {K : qK} (hp : pQ G S U K) (a : Int32) : qF G S U K 798 645 [.ref 0, .int a] [.ref 207, .int a] := by
  obtain ⟨w, ⟨w1, w2⟩, rfl⟩ := zI_of a
  refine qF_same hp (zI (if w = 0 then gN G else if w = 1 then gE G else if w = 2 then rLn (kR K) else if w = 3 then (kT K).1 else -1)) ?_ ?_
  · intro ν hi
    obtain ⟨⟨X, x1, x2⟩, _, j⟩ := id hi
    obtain ⟨j1, _, j3, _⟩ := j
    have hN := q_N x1 (Or.inl rfl)
    have hE := q_E x1 (Or.inl rfl)
    rw [jl_798]
    simp (disch := omega) only [zI_lit, p_eq]
    by_cases c0 : w = 0
    · rw [if_pos c0, if_pos c0, jl_799, hN]
    rw [if_neg c0, if_neg c0]
    by_cases c1 : w = 1
    · rw [if_pos c1, if_pos c1, jl_800, hE]
    rw [if_neg c1, if_neg c1]
    by_cases c2 : w = 2
    · rw [if_pos c2, if_pos c2, jl_801, j1.1]
    rw [if_neg c2, if_neg c2]
    by_cases c3 : w = 3
    · rw [if_pos c3, if_pos c3, jl_802, j3]
    rw [if_neg c3, if_neg c3, jl_803]
    rfl
  · intro ν ν0 e0 hi0
    obtain ⟨m1, _, j⟩ := id hi0
    obtain ⟨j1, _, j3, _⟩ := j
    have o0 := j1.1
    have l62 : ax_ld ax_sh ν0 209 (zI 62) = some (zI (rLn (kR K))) := by
      rw [ld_209 (by decide) (by decide)]
      exact congrArg some o0
    rw [jl_645, ← e0]
    simp (disch := omega) only [zI_lit, p_eq]
    by_cases c0 : w = 0
    · rw [if_pos c0, if_pos c0, jl_646]
      simp only [zI_lit, q_rN m1, z_bo]
    rw [if_neg c0, if_neg c0]
    by_cases c1 : w = 1
    · rw [if_pos c1, if_pos c1, jl_647]
      simp only [zI_lit, q_rE m1, z_bo]
    rw [if_neg c1, if_neg c1]
    by_cases c2 : w = 2
    · rw [if_pos c2, if_pos c2, jl_648]
      simp only [zI_lit, l62, z_bo]
    rw [if_neg c2, if_neg c2]
    by_cases c3 : w = 3
    · rw [if_pos c3, if_pos c3, jl_649, j3]
    rw [if_neg c3, if_neg c3, jl_650]
    rfl
theorem f_byteAt {G : gG} {S : gS} {U : List gU} {K : qK} (hp : pQ G S U K) (a : Int32) : qF G S U K 792 629 [.ref 0, .int a] [.ref 207, .int a] := by
  obtain ⟨w, hw, rfl⟩ := zI_of a
  have hKK := (pQ_K hp)
  have hX := hKK.2.2.2.2.2.2.2.2.2
  obtain ⟨w1, w2⟩ := id hw
  by_cases c : 0 ≤ w ∧ w < (kX K).1
  · refine qF_same hp (zI ((kX K).2 w)) ?_ ?_
    · intro ν hi
      obtain ⟨_, _, j⟩ := id hi
      obtain ⟨_, _, _, _, _, _, _, _, _, _, j11, j12⟩ := j
      have h12 := j12 w c.1 c.2
      rw [jl_792, jl_1273, j11]
      simp (disch := omega) only [zI_lit, p_lt, p_le, ld8_206, z_bo]
      rw [if_neg (by omega), if_neg (by omega), if_neg (by omega), jl_1275, z_b1, h12]
    · intro ν ν0 e0 hi0
      obtain ⟨_, _, j⟩ := id hi0
      obtain ⟨_, _, _, _, _, _, _, _, _, _, j11, j12⟩ := j
      have h12 := j12 w c.1 c.2
      have l224 : ax_ld ax_sh ν0 224 (zI w) = some (ν0.1 224 w.toNat) := z_ld (len := 48) (by decide) c.1 (by omega) (by decide)
      rw [jl_629, ← e0, j11, show (1 : Int32) = zI 1 from rfl, show (0 : Int32) = zI 0 from rfl, zI_sub, mz_isIn hw (zR_of (by omega)) (zR_of (by omega)), z_b1, show decide (0 ≤ w ∧ w ≤ (kX K).1 - 1) = true by simp; omega, if_neg zB_t', l224, z_bo, jl_631, h12]
  · refine qF_same hp (zI (-1)) ?_ ?_
    · intro ν hi
      obtain ⟨_, _, j⟩ := id hi
      obtain ⟨_, _, _, _, _, _, _, _, _, _, j11, j12⟩ := j
      have h1274 : aJ 1274 [] [] ν = some (some (.int (zI (-1))), ν) := by
        rw [jl_1274, jl_1275]
        rfl
      rw [jl_792, jl_1273, j11, h1274]
      simp (disch := omega) only [zI_lit, p_lt, p_le]
      by_cases d : w < 0
      · rw [if_pos d, z_b1]
      · rw [if_neg d, if_pos (by omega), z_b1]
    · intro ν ν0 e0 hi0
      obtain ⟨_, _, j⟩ := id hi0
      obtain ⟨_, _, _, _, _, _, _, _, _, _, j11, j12⟩ := j
      rw [jl_629, ← e0, j11, show (1 : Int32) = zI 1 from rfl, show (0 : Int32) = zI 0 from rfl, zI_sub, mz_isIn hw (zR_of (by omega)) (zR_of (by omega)), z_b1, show decide (0 ≤ w ∧ w ≤ (kX K).1 - 1) = false by simp; omega, if_pos zB_f, jl_630, jl_631]
      rfl
theorem f_end {G : gG} {S : gS} {U : List gU} {K : qK} (hp : pQ G S U K) (a : Int32) : qF G S U K 653 10 [.ref 0, .int a] [.ref 207, .int a] := by
  obtain ⟨w, hw, rfl⟩ := zI_of a
  have hK := (pQ_K hp).1
  have hT := (pQ_K hp).2.2.1
  obtain ⟨w1, w2⟩ := id hw
  by_cases c : 0 ≤ w ∧ w ≤ (kT K).1
  · refine ⟨1, G, S, U, kTs K (w, (kT K).2), pQ_T hp ⟨c.1, by show w ≤ 940; omega, fun i i0 i1 => hT.2.2 i i0 (by have : i < w := i1; omega)⟩, ?_, ?_⟩
    · intro ν hi
      obtain ⟨_, _, j⟩ := id hi
      obtain ⟨_, _, j3, j4, _⟩ := j
      have hf : fr [0, 1] ν (ax_uD ν 0 1 (zI w)) := fr_uD (by simp)
      refine ⟨ax_uD ν 0 1 (zI w), ?_, iC_T hf (fun k hk => uD_nk hk 0) uD_at ?_ hi, frC_of hf (fun a ha => by simp at ha; omega)⟩
      · rw [jl_653, j3]
        simp (disch := omega) only [show (0 : Int32) = zI 0 from rfl, p_lt, p_le]
        rw [if_neg (by omega), if_pos c.2, jl_655]
      · intro i i0 i1
        rw [uD_ne (by decide)]
        exact j4 i i0 (by have : i < w := i1; omega)
    · intro ν hi
      obtain ⟨ν0, e0, hi0, f0⟩ := iM_th hK hi
      obtain ⟨_, _, j⟩ := id hi0
      obtain ⟨_, _, j3, j4, _⟩ := j
      have hf : fr [207, 208] ν0 (ax_uD ν0 207 2 (zI w)) := fr_uD (by simp)
      refine ⟨ax_uD ν0 207 2 (zI w), ?_, iM_T hK hf (fun k hk => uD_nk hk 207) uD_at ?_ hi0, frM_t f0 (frM_of hf (by simp))⟩
      · rw [jl_10, ← e0, j3]
        simp (disch := omega) only [show (0 : Int32) = zI 0 from rfl, p_lt, p_le]
        rw [if_neg (by omega), if_pos c.2, jl_12]
      · intro i i0 i1
        rw [uD_ne (by decide)]
        exact j4 i i0 (by have : i < w := i1; omega)
  · refine qF_same hp 0 ?_ ?_
    · intro ν hi
      obtain ⟨_, _, j⟩ := id hi
      obtain ⟨_, _, j3, j4, _⟩ := j
      rw [jl_653, j3, jl_654]
      simp (disch := omega) only [show (0 : Int32) = zI 0 from rfl, p_lt, p_le]
      by_cases d : w < 0
      · rw [if_pos d]
      · rw [if_neg d, if_neg (by omega)]
    · intro ν ν0 e0 hi0
      obtain ⟨_, _, j⟩ := id hi0
      obtain ⟨_, _, j3, j4, _⟩ := j
      rw [jl_10, ← e0, j3, jl_11]
      simp (disch := omega) only [show (0 : Int32) = zI 0 from rfl, p_lt, p_le]
      by_cases d : w < 0
      · rw [if_pos d]
      · rw [if_neg d, if_neg (by omega)]
theorem f_feed {G : gG} {S : gS} {U : List gU} {K : qK} (hp : pQ G S U K) (a b c d e : Int32) : qF G S U K 651 8 [.ref 0, .int a, .int b, .int c, .int d, .int e] [.ref 207, .int a, .int b, .int c, .int d, .int e] := by
  have hK := (pQ_K hp).1
  have hT : tOK (kT K) := (pQ_K hp).2.2.1
  have hn := hT.1
  have hn2 := hT.2.1
  by_cases q : (kT K).1 + 20 ≤ 940
  · have o1 := tEx_ok (x := a) hT (by omega)
    have l1 : (tEx (kT K) a).1 = (kT K).1 + 4 := rfl
    have o2 := tEx_ok (x := b) o1 (by omega)
    have l2 : (tEx (tEx (kT K) a) b).1 = (kT K).1 + 4 + 4 := rfl
    have o3 := tEx_ok (x := c) o2 (by omega)
    have l3 : (tEx (tEx (tEx (kT K) a) b) c).1 = (kT K).1 + 4 + 4 + 4 := rfl
    have o4 := tEx_ok (x := d) o3 (by omega)
    have l4 : (tEx (tEx (tEx (tEx (kT K) a) b) c) d).1 = (kT K).1 + 4 + 4 + 4 + 4 := rfl
    have o5 := tEx_ok (x := e) o4 (by omega)
    refine ⟨zI (tEx (tEx (tEx (tEx (tEx (kT K) a) b) c) d) e).1, G, S, U, kTs K (tEx (tEx (tEx (tEx (tEx (kT K) a) b) c) d) e), pQ_T hp o5, ?_, ?_⟩
    · intro ν hi
      obtain ⟨_, _, j⟩ := id hi
      obtain ⟨_, _, j3, j4, _⟩ := j
      obtain ⟨ν1, a1, a2, a3, a4, a5⟩ := q_put (x := a) hT (by omega) j3 j4
      obtain ⟨ν2, b1, b2, b3, b4, b5⟩ := q_put (x := b) o1 (by omega) a2 a3
      obtain ⟨ν3, c1, c2, c3, c4, c5⟩ := q_put (x := c) o2 (by omega) b2 b3
      obtain ⟨ν4, d1, d2, d3, d4, d5⟩ := q_put (x := d) o3 (by omega) c2 c3
      obtain ⟨ν5, e1, e2, e3, e4, e5⟩ := q_put (x := e) o4 (by omega) d2 d3
      have hf := frt a4 (frt b4 (frt c4 (frt d4 e4)))
      refine ⟨ν5, ?_, iC_T hf (fun k hk => ((e5 k hk).trans (d5 k hk)).trans ((c5 k hk).trans ((b5 k hk).trans (a5 k hk)))) e2 e3 hi, frC_of hf (fun a ha => by simp at ha; omega)⟩
      rw [jl_651, j3, show (20 : Int32) = zI 20 from rfl, show (940 : Int32) = zI 940 from rfl, zI_add, if_pos ((zI_le (zR_of (by omega)) (zR_of (by omega))).mpr q), jl_652, a1, z_b0, b1, z_b0, c1, z_b0, d1, z_b0, e1, z_b0, e2]
    · intro ν hi
      obtain ⟨ν0, e0, hi0, f0⟩ := iM_th hK hi
      obtain ⟨_, _, j⟩ := id hi0
      obtain ⟨_, _, j3, j4, _⟩ := j
      obtain ⟨ν1, a1, a2, a3, a4, a5⟩ := q_come (x := a) hT (by omega) j3 j4
      obtain ⟨ν2, b1, b2, b3, b4, b5⟩ := q_come (x := b) o1 (by omega) a2 a3
      obtain ⟨ν3, c1, c2, c3, c4, c5⟩ := q_come (x := c) o2 (by omega) b2 b3
      obtain ⟨ν4, d1, d2, d3, d4, d5⟩ := q_come (x := d) o3 (by omega) c2 c3
      obtain ⟨ν5, e1, e2, e3, e4, e5⟩ := q_come (x := e) o4 (by omega) d2 d3
      have hf := frt a4 (frt b4 (frt c4 (frt d4 e4)))
      refine ⟨ν5, ?_, iM_T hK hf (fun k hk => ((e5 k hk).trans (d5 k hk)).trans ((c5 k hk).trans ((b5 k hk).trans (a5 k hk)))) e2 e3 hi0, frM_t f0 (frM_of hf (by simp))⟩
      rw [jl_8, ← e0, j3, show (20 : Int32) = zI 20 from rfl, show (940 : Int32) = zI 940 from rfl, zI_add, if_pos ((zI_le (zR_of (by omega)) (zR_of (by omega))).mpr q), jl_9, a1, z_b0, b1, z_b0, c1, z_b0, d1, z_b0, e1, z_b0, e2]
  · refine qF_same hp (-1) ?_ ?_
    · intro ν hi
      obtain ⟨_, _, j⟩ := id hi
      obtain ⟨_, _, j3, j4, _⟩ := j
      rw [jl_651, j3, show (20 : Int32) = zI 20 from rfl, show (940 : Int32) = zI 940 from rfl, zI_add, if_neg (fun z => q ((zI_le (zR_of (by omega)) (zR_of (by omega))).mp z))]
    · intro ν ν0 e0 hi0
      obtain ⟨_, _, j⟩ := id hi0
      obtain ⟨_, _, j3, j4, _⟩ := j
      rw [jl_8, ← e0, j3, show (20 : Int32) = zI 20 from rfl, show (940 : Int32) = zI 940 from rfl, zI_add, if_neg (fun z => q ((zI_le (zR_of (by omega)) (zR_of (by omega))).mp z))]
