/-! l: byteAt, end -/
theorem ld8_206 {μ : ax_M} {z : Int} (h0 : 0 ≤ z) (h1 : z < 64) : ax_ld8 ax_sh μ 206 (zI z) = some (μ.1 206 z.toNat) := by
  have hz : zR z := by unfold zR; omega
  have e0 : (0 : Int32) = zI 0 := rfl
  unfold ax_ld8
  rw [zI_nat hz, if_pos]
  refine ⟨by decide, ?_⟩
  rintro (q | q)
  · rw [e0, zI_lt hz (by unfold zR; omega)] at q
    omega
  · have : (ax_sh 206).2.1 = 64 := by decide
    rw [this] at q
    omega
theorem q_byteAt {G : gG} {S : gS} {U : List gU} {K : qK} (hp : pOK G S U K) (a : Int32) : qCl G S U K 792 629 [.ref 0, .int a] [.ref 207, .int a] := by
  obtain ⟨w, hw, rfl⟩ := zI_of a
  have hKK := hp.2.2.2.2.2.2.1
  have hX := hKK.2.2.2.2.2.2.2.2.2
  obtain ⟨w1, w2⟩ := id hw
  by_cases c : 0 ≤ w ∧ w < (kX K).1
  · refine qCl_same hp (zI ((kX K).2 w)) ?_ ?_
    · intro ν hi
      obtain ⟨_, _, j⟩ := id hi
      obtain ⟨_, _, _, _, _, _, _, _, _, _, j11, j12⟩ := j
      have h12 := j12 w c.1 c.2
      rw [jl_792, jl_1273, j11]
      simp (disch := omega) only [zI_lit, p_lt, p_le, ld8_206, z_bo]
      rw [if_neg (by omega), if_neg (by omega), if_neg (by omega), jl_1275, z_b1, h12]
    · intro ν ν0 e0 hi0
      obtain ⟨_, _, j⟩ := id hi0
      obtain ⟨_, _, _, _, _, _, _, _, _, _, j11, j12⟩ := j
      have h12 := j12 w c.1 c.2
      have l224 : ax_ld ax_sh ν0 224 (zI w) = some (ν0.1 224 w.toNat) := z_ld (len := 48) (by decide) c.1 (by omega) (by decide)
      rw [jl_629, ← e0, j11, show (1 : Int32) = zI 1 from rfl, show (0 : Int32) = zI 0 from rfl, zI_sub, mz_isIn hw (zR_of (by omega)) (zR_of (by omega)), z_b1, show decide (0 ≤ w ∧ w ≤ (kX K).1 - 1) = true by simp; omega, if_neg zB_t', l224, z_bo, jl_631, h12]
  · refine qCl_same hp (zI (-1)) ?_ ?_
    · intro ν hi
      obtain ⟨_, _, j⟩ := id hi
      obtain ⟨_, _, _, _, _, _, _, _, _, _, j11, j12⟩ := j
      have h1274 : aJ 1274 [] [] ν = some (some (.int (zI (-1))), ν) := by
        rw [jl_1274, jl_1275]
        rfl
      rw [jl_792, jl_1273, j11, h1274]
      simp (disch := omega) only [zI_lit, p_lt, p_le]
      by_cases d : w < 0
      · rw [if_pos d, z_b1]
      · rw [if_neg d, if_pos (by omega), z_b1]
    · intro ν ν0 e0 hi0
      obtain ⟨_, _, j⟩ := id hi0
      obtain ⟨_, _, _, _, _, _, _, _, _, _, j11, j12⟩ := j
      rw [jl_629, ← e0, j11, show (1 : Int32) = zI 1 from rfl, show (0 : Int32) = zI 0 from rfl, zI_sub, mz_isIn hw (zR_of (by omega)) (zR_of (by omega)), z_b1, show decide (0 ≤ w ∧ w ≤ (kX K).1 - 1) = false by simp; omega, if_pos zB_f, jl_630, jl_631]
      rfl
/-! l: the tape -/
def kTs (K : qK) (t : Int × (Int → Int)) : qK := (kR K, kN K, t, kI0 K, kI1 K, kF K, kO K, kX K)
/-- the class with another tape -/
theorem iC_T {G : gG} {S : gS} {U : List gU} {K : qK} {t : Int × (Int → Int)} {ν ν' : ax_M} (hf : fr [0, 1] ν ν') (h0 : ∀ k, k ≠ 1 → ν'.1 0 k = ν.1 0 k) (h1 : ν'.1 0 1 = zI t.1) (h2 : rP ν' 1 t.1 (fun i => sby (t.2 i))) (hi : iC G S U K ν) : iC G S U (kTs K t) ν' := by
  obtain ⟨⟨X, x1, x2⟩, u, j⟩ := hi
  obtain ⟨j1, j2, j3, j4, j5, j6, j7, j8, j9, j10, j11, j12⟩ := j
  have hcell : ∀ a, a ≠ 0 → a ≠ 1 → ν'.1 a = ν.1 a := fun a a0 a1 => hf.2 a (by simp [a0, a1])
  refine ⟨⟨X, cI_fr (Or.inl rfl) hf (fun a ha => by simp at ha; omega) x1, x2⟩, ?_, ?_⟩
  · obtain ⟨top, b1, b2, b3, b4, b5⟩ := u
    refine ⟨top, b1, b2, by rw [h0 10 (by decide)]; exact b3, by rw [h0 11 (by decide)]; exact b4, fun j e he => ?_⟩
    obtain ⟨X', r1, r2⟩ := b5 j e he
    exact ⟨X', cP_e (fun a ha => hcell a (by have := cOL_pc ha; omega) (by have := cOL_pc ha; omega)) r1, r2⟩
  · have e2 := hcell 2 (by decide) (by decide)
    have e205 := hcell 205 (by decide) (by decide)
    refine ⟨kP_e (by rw [hcell 13 (by decide) (by decide)]) (fun a z1 z2 => hcell a (by omega) (by omega)) j1, ?_, h1, h2, cIm_e (fun a z1 z2 => hcell a (by omega) (by omega)) j5, cIm_e (fun a z1 z2 => hcell a (by omega) (by omega)) j6, by rw [e2]; exact j7, by rw [e2]; exact j8, (h0 15 (by decide)).trans j9, (h0 16 (by decide)).trans j10, by rw [e205]; exact j11, rP_e (hcell 206 (by decide) (by decide)) j12⟩
    unfold cNm at *
    rw [hcell (3 + 2) (by decide) (by decide), hcell (3 + 1) (by decide) (by decide)]
    exact j2
theorem iM_T {G : gG} {S : gS} {U : List gU} {K : qK} {t : Int × (Int → Int)} {ν ν' : ax_M} (hK : rok (kR K)) (hf : fr [207, 208] ν ν') (h0 : ∀ k, k ≠ 2 → ν'.1 207 k = ν.1 207 k) (h1 : ν'.1 207 2 = zI t.1) (h2 : rP ν' 208 t.1 t.2) (hi : iM G S U K ν) : iM G S U (kTs K t) ν' := by
  obtain ⟨m1, u, j⟩ := hi
  obtain ⟨j1, j2, j3, j4, j5, j6, j7, j8, j9, j10, j11, j12⟩ := j
  refine ⟨mI_fr hf (by decide) m1, uM_fr hf (by decide) (h0 24 (by decide)) u, ?_⟩
  refine ⟨oP_bg hK (bgf hf (by decide)) j1, ?_, h1, h2, rIm_e (hf.2 211 (by decide)) (hf.2 218 (by decide)) (by rw [hf.1]) j5, rIm_e (hf.2 211 (by decide)) (hf.2 218 (by decide)) (by rw [hf.1]) j6, (h0 9 (by decide)).trans j7, (h0 10 (by decide)).trans j8, (h0 30 (by decide)).trans j9, (h0 31 (by decide)).trans j10, (h0 34 (by decide)).trans j11, rP_e (hf.2 224 (by decide)) j12⟩
  unfold rNm at *
  rw [hf.1]
  exact j2
theorem pOK_T {G : gG} {S : gS} {U : List gU} {K : qK} {t : Int × (Int → Int)} (hp : pOK G S U K) (h : 0 ≤ t.1 ∧ t.1 ≤ 940 ∧ ∀ i, 0 ≤ i → i < t.1 → 0 ≤ t.2 i ∧ t.2 i ≤ 255) : pOK G S U (kTs K t) := by
  obtain ⟨p1, p2, p3, p4, p5, p6, p7, p8⟩ := hp
  obtain ⟨q1, q2, q3, q4, q5, q6, q7, q8, q9, q10⟩ := p7
  exact ⟨p1, p2, p3, p4, p5, p6, ⟨q1, q2, h, q4, q5, q6, q7, q8, q9, q10⟩, p8⟩
theorem q_end {G : gG} {S : gS} {U : List gU} {K : qK} (hp : pOK G S U K) (a : Int32) : qCl G S U K 653 10 [.ref 0, .int a] [.ref 207, .int a] := by
  obtain ⟨w, hw, rfl⟩ := zI_of a
  have hK := hp.2.2.2.2.2.2.1.1
  have hT := hp.2.2.2.2.2.2.1.2.2.1
  obtain ⟨w1, w2⟩ := id hw
  by_cases c : 0 ≤ w ∧ w ≤ (kT K).1
  · refine ⟨1, G, S, U, kTs K (w, (kT K).2), pOK_T hp ⟨c.1, by show w ≤ 940; omega, fun i i0 i1 => hT.2.2 i i0 (by have : i < w := i1; omega)⟩, ?_, ?_⟩
    · intro ν hi
      obtain ⟨_, _, j⟩ := id hi
      obtain ⟨_, _, j3, j4, _⟩ := j
      have hf : fr [0, 1] ν (ax_uD ν 0 1 (zI w)) := fr_uD (by simp)
      refine ⟨ax_uD ν 0 1 (zI w), ?_, iC_T hf (fun k hk => uD_nk hk 0) uD_at ?_ hi, frC_of hf (fun a ha => by simp at ha; omega)⟩
      · rw [jl_653, j3]
        simp (disch := omega) only [show (0 : Int32) = zI 0 from rfl, p_lt, p_le]
        rw [if_neg (by omega), if_pos c.2, jl_655]
      · intro i i0 i1
        rw [uD_ne (by decide)]
        exact j4 i i0 (by have : i < w := i1; omega)
    · intro ν hi
      obtain ⟨ν0, e0, hi0, f0⟩ := iM_th hK hi
      obtain ⟨_, _, j⟩ := id hi0
      obtain ⟨_, _, j3, j4, _⟩ := j
      have hf : fr [207, 208] ν0 (ax_uD ν0 207 2 (zI w)) := fr_uD (by simp)
      refine ⟨ax_uD ν0 207 2 (zI w), ?_, iM_T hK hf (fun k hk => uD_nk hk 207) uD_at ?_ hi0, frM_t f0 (frM_of hf (by simp))⟩
      · rw [jl_10, ← e0, j3]
        simp (disch := omega) only [show (0 : Int32) = zI 0 from rfl, p_lt, p_le]
        rw [if_neg (by omega), if_pos c.2, jl_12]
      · intro i i0 i1
        rw [uD_ne (by decide)]
        exact j4 i i0 (by have : i < w := i1; omega)
  · refine qCl_same hp 0 ?_ ?_
    · intro ν hi
      obtain ⟨_, _, j⟩ := id hi
      obtain ⟨_, _, j3, j4, _⟩ := j
      rw [jl_653, j3, jl_654]
      simp (disch := omega) only [show (0 : Int32) = zI 0 from rfl, p_lt, p_le]
      by_cases d : w < 0
      · rw [if_pos d]
      · rw [if_neg d, if_neg (by omega)]
    · intro ν ν0 e0 hi0
      obtain ⟨_, _, j⟩ := id hi0
      obtain ⟨_, _, j3, j4, _⟩ := j
      rw [jl_10, ← e0, j3, jl_11]
      simp (disch := omega) only [show (0 : Int32) = zI 0 from rfl, p_lt, p_le]
      by_cases d : w < 0
      · rw [if_pos d]
      · rw [if_neg d, if_neg (by omega)]
