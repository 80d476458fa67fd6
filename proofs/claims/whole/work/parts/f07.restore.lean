/-! n: restore -/
theorem jl_795 (x1 : Int32) (μ : ax_M) {v : Nat} (hv : v = 152 ∨ v = 177) (h : aJ 823 [.ref 0, .int x1] [] μ = some (some (.ref v), μ)) : aJ 795 [.ref 0, .int x1] [] μ = if μ.1 v 3 = 0 then aJ 796 [] [] μ else aJ 797 [.ref 0, .ref v] [] μ := by
  refine (aJ_eq 795 _ _ _).trans ?_
  show ax_b3 (aJ 823 [.ref 0, .int x1] [] μ) _ _ = _
  rw [h]
  rcases hv with rfl | rfl
  · rfl
  · rfl
theorem jl_795n (x1 : Int32) (μ : ax_M) (h : aJ 823 [.ref 0, .int x1] [] μ = some (some .null, μ)) : aJ 795 [.ref 0, .int x1] [] μ = aJ 796 [] [] μ := by
  refine (aJ_eq 795 _ _ _).trans ?_
  show ax_b3 (aJ 823 [.ref 0, .int x1] [] μ) _ _ = _
  rw [h]
  rfl
def kRe (K : qK) (R : gR) (N : qNm) : qK := (R, N, kT K, kI0 K, kI1 K, kF K, kO K, kX K)
theorem q_reC {G G' : gG} {S S' : gS} {U : List gU} {K : qK} {R' : gR} {N' : qNm} {b : Nat} {ν : ax_M} (hb : b = 152 ∨ b = 177) (hE : gE G' ≤ 30) (hL : 0 ≤ gnL S' ∧ gnL S' ≤ 252) (hR : rok R') (hN : nOK N') (hc : cIm b (some (G', S', R', N')) ν) (hi : iC G S U K ν) : ∃ ν', aJ 797 [.ref 0, .ref b] [] ν = some (some (.int 1), ν') ∧ iC G' S' [] (kRe K R' N') ν' ∧ frC ν ν' := by
  obtain ⟨a1, a2, a3, a4, X, a5, a6⟩ := hc
  obtain ⟨_, ⟨top, u1, u2, u3, u4, u5⟩, j⟩ := hi
  obtain ⟨j1, j2, j3, j4, j5, j6, j7, j8, j9, j10, j11, j12⟩ := j
  have hw := xx_wc a6 hL.2
  have hs : shN (b + 1) ∧ shR (b + 6) ∧ b + 14 ∈ RO := by
    rcases hb with rfl | rfl
    · exact ⟨shN_3.2.2.1, shR_13.2.2.1, by decide⟩
    · exact ⟨shN_3.2.2.2, shR_13.2.2.2, by decide⟩
  obtain ⟨ν1, b1, b2, b3, b4, b5, b6⟩ := q_ncp (x0 := 3) (x1 := b + 1) (Or.inl rfl) (by omega) (by omega) shN_3.1 hs.1 hN hE a2 a3
  have k1 : kP (b + 6) R' ν1 := kP_e (by rw [b4.2 (b + 6) (by simp; omega)]) (fun a h1 h2 => b4.2 a (by simp; omega)) a4
  obtain ⟨ν2, c1, c2, c3, c4⟩ := q_rcp (x0 := 13) (x1 := b + 6) (Or.inl rfl) (by omega) (by omega) shR_13.1 hs.2.1 hR k1
  have k2 : cP (b + 14) (gwt G') S' X ν2 := cP_e (fun a ha => (c3.2 a (by simp [cOL] at ha; simp; omega)).trans (b4.2 a (by simp [cOL] at ha; simp; omega))) a5
  obtain ⟨ν3, d1, d2, d3⟩ := q_cf (x0 := 29) (x1 := b + 14) (by decide) hs.2.2 (by omega) (by omega) k2 hL.1 (by omega) hw.1 (by omega)
  have g4 : ∀ a, a ≠ 0 → (ax_uD ν3 0 11 0).1 a = ν3.1 a := fun a ha => funext fun k => uD_ne ha
  have g1 : ∀ a, (a < 3 ∨ (7 < a ∧ a < 13) ∨ (18 < a ∧ a < 29) ∨ 39 < a) → ν3.1 a = ν.1 a := fun a ha => (d3.2 a (by simp [cOL]; omega)).trans ((c3.2 a (by simp; omega)).trans (b4.2 a (by simp; omega)))
  have g2 : ∀ a, a ≠ 0 → (a < 3 ∨ (7 < a ∧ a < 13) ∨ (18 < a ∧ a < 29) ∨ 39 < a) → (ax_uD ν3 0 11 0).1 a = ν.1 a := fun a h0 ha => (g4 a h0).trans (g1 a ha)
  have g3 : ∀ k, k ≠ 11 → (ax_uD ν3 0 11 0).1 0 k = ν.1 0 k := fun k hk => (uD_nk hk 0).trans (congrFun (g1 0 (by omega)) k)
  have n3 : ∀ a, 3 ≤ a → a ≤ 7 → (ax_uD ν3 0 11 0).1 a = ν1.1 a := fun a h1 h2 => (g4 a (by omega)).trans ((d3.2 a (by simp [cOL]; omega)).trans (c3.2 a (by simp; omega)))
  have n13 : ∀ a, 13 ≤ a → a ≤ 18 → (ax_uD ν3 0 11 0).1 a = ν2.1 a := fun a h1 h2 => (g4 a (by omega)).trans (d3.2 a (by simp [cOL]; omega))
  have e2 := g2 2 (by omega) (by omega)
  have e205 := g2 205 (by omega) (by omega)
  have ht : tI G' (ax_uD ν3 0 11 0) := by
    have := cNt_e (b := 3) (n3 3 (by omega) (by omega)) (n3 6 (by omega) (by omega)) b2
    exact this
  have hp : cP 29 (gwt G') S' X (ax_uD ν3 0 11 0) := cP_e (fun a ha => g4 a (by simp [cOL] at ha; omega)) d2
  have hI := cP_cI (Or.inl rfl) hp ht
  rw [GW_id] at hI
  refine ⟨ax_uD ν3 0 11 0, ?_, ⟨⟨X, hI, a6⟩, ⟨top, u1, u2, (g3 10 (by decide)).trans u3, uD_at, fun j e he => by cases j <;> cases he⟩, ?_⟩, ?_⟩
  · rw [jl_797 _ _ hb, b1, z_b0, c1, z_b0, d1, z_b0]
  · exact ⟨kP_e (by rw [n13 13 (by omega) (by omega)]) (fun a z1 z2 => n13 a (by omega) (by omega)) c2, cNm_e (n3 4 (by omega) (by omega)) (n3 5 (by omega) (by omega)) b3, (g3 1 (by decide)).trans j3, rP_e (g2 1 (by omega) (by omega)) j4, cIm_e (fun a z1 z2 => g2 a (by omega) (by omega)) j5, cIm_e (fun a z1 z2 => g2 a (by omega) (by omega)) j6, by rw [e2]; exact j7, by rw [e2]; exact j8, (g3 15 (by decide)).trans j9, (g3 16 (by decide)).trans j10, by rw [e205]; exact j11, rP_e (g2 206 (by omega) (by omega)) j12⟩
  · refine ⟨?_, fun a ha => g2 a (by omega) (by omega)⟩
    exact d3.1.trans (c3.1.trans b4.1)
theorem q_rel {k : Int} (hk : k = 0 ∨ k = 1) (ν : ax_M) : ∃ ν', aJ 640 [.ref 207, .int (zI k)] [] ν = some (some (.int 1), ν') ∧ (∀ a, a ≠ 209 → a ≠ 207 → ν'.1 a = ν.1 a) ∧ (∀ j, j ≠ 24 → ν'.1 207 j = ν.1 207 j) ∧ ν'.1 207 24 = 0 ∧ (∀ a, a ≠ 215 → ν'.2 a = ν.2 a) ∧ (∀ i : Int, 0 ≤ i → i < 2466 → ν'.1 209 i.toNat = ν.1 211 (2466 * k + i).toNat) ∧ (∀ i : Int, 0 ≤ i → i < 12 → ν'.2 215 i.toNat = ν.2 217 (12 * k + i).toNat) := by
  have loop1 : ∀ (m : Nat) (i : Int) (ν1 : ax_M), 0 ≤ i → i + m = 2466 → (∀ j : Int, 0 ≤ j → j < i → ν1.1 209 j.toNat = ν.1 211 (2466 * k + j).toNat) → fr [209] ν ν1 → ∃ ν', aJ 641 [.ref 207, .int (zI k), .int (zI i)] [] ν1 = aJ 642 [.ref 207, .int (zI k)] [] ν' ∧ (∀ j : Int, 0 ≤ j → j < 2466 → ν'.1 209 j.toNat = ν.1 211 (2466 * k + j).toNat) ∧ fr [209] ν ν' := by
    intro m
    induction m with
    | zero =>
      intro i ν1 i0 i1 h1 h3
      refine ⟨ν1, ?_, fun j j0 j1 => h1 j j0 (by omega), h3⟩
      rw [jl_641]
      simp (disch := omega) only [zI_lit, p_le]
      rw [if_pos (by omega)]
    | succ m ih =>
      intro i ν1 i0 i1 h1 h3
      have f1 : fr [209] ν1 (ax_up ν1.1 209 i.toNat (ν1.1 211 (2466 * k + i).toNat), ν1.2) := fru (by simp)
      obtain ⟨ν', e1, e2⟩ := ih (i + 1) (ax_up ν1.1 209 i.toNat (ν1.1 211 (2466 * k + i).toNat), ν1.2) (by omega) (by omega) (fun j j0 j1 => by
        by_cases c : j = i
        · subst c
          rw [← fr_at h3 (by decide : 211 ∉ [209])]
          exact up_at
        · exact (up_nk (by omega)).trans (h1 j j0 (by omega))) (frt h3 f1)
      refine ⟨ν', ?_, e2⟩
      rw [jl_641]
      simp (disch := omega) only [zI_lit, p_le, zI_mul, zI_add, ld_211, z_bo, st_209]
      rw [if_neg (by omega)]
      exact e1
  have loop2 : ∀ (m : Nat) (i : Int) (ν0 ν1 : ax_M), 0 ≤ i → i + m = 12 → ν1.1 = ν0.1 → (∀ a, a ≠ 215 → ν1.2 a = ν0.2 a) → (∀ j : Int, 0 ≤ j → j < i → ν1.2 215 j.toNat = ν0.2 217 (12 * k + j).toNat) → ∃ ν', aJ 643 [.ref 207, .int (zI k), .int (zI i)] [] ν1 = aJ 644 [.ref 207] [] ν' ∧ ν'.1 = ν0.1 ∧ (∀ a, a ≠ 215 → ν'.2 a = ν0.2 a) ∧ (∀ j : Int, 0 ≤ j → j < 12 → ν'.2 215 j.toNat = ν0.2 217 (12 * k + j).toNat) := by
    intro m
    induction m with
    | zero =>
      intro i ν0 ν1 i0 i1 g1 g2 h1
      refine ⟨ν1, ?_, g1, g2, fun j j0 j1 => h1 j j0 (by omega)⟩
      rw [jl_643]
      simp (disch := omega) only [zI_lit, p_le]
      rw [if_pos (by omega)]
    | succ m ih =>
      intro i ν0 ν1 i0 i1 g1 g2 h1
      have u : ∀ (a j : Nat), (a ≠ 215 ∨ j ≠ i.toNat) → ax_up ν1.2 215 i.toNat (ν1.2 217 (12 * k + i).toNat) a j = ν1.2 a j := fun a j hh => by
        unfold ax_up
        rw [if_neg (by omega)]
      have ua : ax_up ν1.2 215 i.toNat (ν1.2 217 (12 * k + i).toNat) 215 i.toNat = ν1.2 217 (12 * k + i).toNat := by
        unfold ax_up
        rw [if_pos ⟨rfl, rfl⟩]
      obtain ⟨ν', e1, e2⟩ := ih (i + 1) ν0 (ν1.1, ax_up ν1.2 215 i.toNat (ν1.2 217 (12 * k + i).toNat)) (by omega) (by omega) g1 (fun a ha => (funext fun j => u a j (Or.inl ha)).trans (g2 a ha)) (fun j j0 j1 => by
        by_cases c : j = i
        · subst c
          rw [← g2 217 (by decide)]
          exact ua
        · exact (u _ _ (Or.inr (by omega))).trans (h1 j j0 (by omega)))
      refine ⟨ν', ?_, e2⟩
      rw [jl_643]
      simp (disch := omega) only [zI_lit, p_le, zI_mul, zI_add, ld_217, z_bo, st_215]
      rw [if_neg (by omega)]
      exact e1
  obtain ⟨ν1, a1, a2, a3⟩ := loop1 2466 0 ν (by omega) (by omega) (fun j j0 j1 => by omega) frz
  obtain ⟨ν2, b1, b2, b3, b4⟩ := loop2 12 0 ν1 ν1 (by omega) (by omega) rfl (fun _ _ => rfl) (fun j j0 j1 => by omega)
  refine ⟨ax_uD ν2 207 24 0, ?_, ?_, ?_, uD_at, ?_, ?_, ?_⟩
  · rw [jl_640]
    simp only [zI_lit] at a1 b1 ⊢
    rw [a1, jl_642]
    simp only [zI_lit] at b1 ⊢
    rw [b1, jl_644]
    rfl
  · intro a h9 h7
    exact (funext fun j => uD_ne h7).trans ((congrFun b2 a).trans (a3.2 a (by simpa using h9)))
  · intro j hj
    exact (uD_nk hj 207).trans ((congrFun (congrFun b2 207) j).trans (fr_at a3 (by decide) j))
  · intro a ha
    exact (b3 a ha).trans (congrFun a3.1 a)
  · intro i i0 i1
    exact (uD_ne (o := 207) (by decide)).trans ((congrFun (congrFun b2 209) _).trans (a2 i i0 i1))
  · intro i i0 i1
    exact (b4 i i0 i1).trans (congrFun (congrFun a3.1 217) _)
theorem pQ_re {G : gG} {S : gS} {U : List gU} {K : qK} {I : qIm} {G' : gG} {S' : gS} {R' : gR} {N' : qNm} (hp : pQ G S U K) (hI : imOK I) (h : I = some (G', S', R', N')) : pQ G' S' [] (kRe K R' N') := by
  obtain ⟨h1, h2, h3, h4⟩ := hI G' S' R' N' h
  obtain ⟨q1, q2, q3, q4, q5, q6, q7, q8, q9, q10⟩ := pQ_K hp
  have hk : kOK (kRe K R' N') := ⟨h2, h3, q3, q4, q5, q6, q7, q8, q9, q10⟩
  rcases h1 with ⟨a1, a2, a3, a4⟩ | ⟨rfl, rfl⟩
  · exact Or.inl ⟨a1, a2, a3, a4, ⟨by decide, (fun e he => by cases he)⟩, (fun e he => by cases he), hk, h4⟩
  · exact Or.inr ⟨rfl, rfl, rfl, hk, h4⟩
theorem q_restore {G : gG} {S : gS} {U : List gU} {K : qK} (hp : pQ G S U K) (a : Int32) : qF G S U K 795 638 [.ref 0, .int a] [.ref 207, .int a] := by
  obtain ⟨k, hk, rfl⟩ := zI_of a
  have hKK := pQ_K hp
  by_cases c : k = 0 ∨ k = 1
  · have hd : decide (0 ≤ k ∧ k ≤ 1) = true := by simp; omega
    have hII : ∃ I, imOK I ∧ (∀ ν, jC K ν → cIm (152 + 25 * k.toNat) I ν) ∧ (∀ ν, jM K ν → rIm k I ν) := by
      rcases c with rfl | rfl
      · exact ⟨kI0 K, hKK.2.2.2.1, fun ν j => j.2.2.2.2.1, fun ν j => j.2.2.2.2.1⟩
      · exact ⟨kI1 K, hKK.2.2.2.2.1, fun ν j => j.2.2.2.2.2.1, fun ν j => j.2.2.2.2.2.1⟩
    obtain ⟨I, hI, iC1, iM1⟩ := hII
    have hb : 152 + 25 * k.toNat = 152 ∨ 152 + 25 * k.toNat = 177 := by omega
    have start : ∀ ν0 : ax_M, ∀ ν : ax_M, ν0 = ax_uD ν 207 0 0 → aJ 638 [.ref 207, .int (zI k)] [] ν = if ν0.1 218 k.toNat = 0 then aJ 639 [] [] ν0 else aJ 640 [.ref 207, .int (zI k)] [] ν0 := by
      intro ν0 ν e0
      rw [jl_638, ← e0, show (0 : Int32) = zI 0 from rfl, show (1 : Int32) = zI 1 from rfl, mz_isIn hk (zR_of (by omega)) (zR_of (by omega)), z_b1, hd, if_neg zB_t', ld_218 (by omega) (by omega), z_bo]
    cases I with
    | none =>
      refine qF_same hp 0 ?_ ?_
      · intro ν hi
        have h0 := iC1 ν hi.2.2
        rw [jl_795 _ _ hb (q_ima c), if_pos (show ν.1 (152 + 25 * k.toNat) 3 = 0 from h0), jl_796]
      · intro ν ν0 e0 hi0
        have h0 := iM1 ν0 hi0.2.2
        rw [start ν0 ν e0, if_pos (show ν0.1 218 k.toNat = 0 from h0), jl_639]
    | some x =>
      obtain ⟨G', S', R', N'⟩ := x
      have hg := im_L hI rfl
      obtain ⟨_, hR, hN, hNG⟩ := hI G' S' R' N' rfl
      refine ⟨1, G', S', [], kRe K R' N', pQ_re hp hI rfl, ?_, ?_⟩
      · intro ν hi
        have h0 := iC1 ν hi.2.2
        obtain ⟨ν', h1, h2, h3⟩ := q_reC hb hg.1.2.2.2.1 hg.2.2 hR hN h0 hi
        refine ⟨ν', ?_, h2, h3⟩
        rw [jl_795 _ _ hb (q_ima c), h0.1, if_neg (by decide), h1]
      · intro ν hi
        obtain ⟨ν0, e0, hi0, f0⟩ := iM_th hKK.1 hi
        obtain ⟨m1, u, j⟩ := id hi0
        obtain ⟨r1, r2, r3, r4, r5⟩ := iM1 ν0 j
        obtain ⟨j1, j2, j3, j4, j5, j6, j7, j8, j9, j10, j11, j12⟩ := j
        obtain ⟨ν', h1, h2, h3, h4, h5, h6, h7⟩ := q_rel c ν0
        have hm : mI G' S' ν' := by
          have := sP_mI (G := G') (W := gwt G') (S := S') (ν := ν') (nI_g.mpr (nIg_c (fun i i0 i1 => h6 i i0 (by omega)) r2)) (sP_congr (by have := hg.2.2; omega) (fun i i0 i1 => h6 i (by omega) i1) r4)
          rwa [GW_id] at this
        refine ⟨ν', ?_, ⟨hm, ⟨h4, fun j e he => by cases j <;> cases he⟩, ?_⟩, frM_t f0 (fun a ha => h2 a (by omega) (by omega))⟩
        · rw [start ν0 ν e0, r1, if_neg (by decide), h1]
        · refine ⟨oP_g.mpr (oPg_c hR (fun i i0 i1 => h6 i (by omega) (by omega)) r3), fun n n0 n1 => ?_, (h3 2 (by decide)).trans j3, rP_e (h2 208 (by decide) (by decide)) j4, rIm_e (h2 211 (by decide) (by decide)) (h2 218 (by decide) (by decide)) (h5 217 (by decide)) j5, rIm_e (h2 211 (by decide) (by decide)) (h2 218 (by decide) (by decide)) (h5 217 (by decide)) j6, (h3 9 (by decide)).trans j7, (h3 10 (by decide)).trans j8, (h3 30 (by decide)).trans j9, (h3 31 (by decide)).trans j10, (h3 34 (by decide)).trans j11, rP_e (h2 224 (by decide) (by decide)) j12⟩
          have n12 := hN.2.1
          have hn1 : n < N'.1 := n1
          rw [show (0 : Int) + n = n by omega, h7 n n0 (by omega)]
          exact r5 n n0 n1
  · refine qF_same hp 0 ?_ ?_
    · intro ν hi
      rw [jl_795n _ _ (q_imo hk c), jl_796]
    · intro ν ν0 e0 hi0
      rw [jl_638, ← e0, show (0 : Int32) = zI 0 from rfl, show (1 : Int32) = zI 1 from rfl, mz_isIn hk (zR_of (by omega)) (zR_of (by omega)), z_b1, show decide (0 ≤ k ∧ k ≤ 1) = false by simp; omega, if_pos zB_f, jl_639]
      rfl
