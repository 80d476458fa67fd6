/-! n: image: the reference -/
theorem nIg_c {G : gG} {g g' : Int → Int32} (h : ∀ i, 0 ≤ i → i < 62 → g' i = g i) (hn : nIg G g) : nIg G g' := by
  obtain ⟨a1, a2, a3, a4⟩ := hn
  exact ⟨(h 0 (by omega) (by omega)).trans a1, (h 1 (by omega) (by omega)).trans a2, fun e e0 e1 => (h _ (by omega) (by omega)).trans (a3 e e0 e1), fun e e0 e1 => (h _ (by omega) (by omega)).trans (a4 e e0 e1)⟩
theorem oPg_c {R : gR} {g g' : Int → Int32} (hR : rok R) (h : ∀ i, 62 ≤ i → i < 173 → g' i = g i) (ho : oPg R g) : oPg R g' := by
  obtain ⟨a1, a2⟩ := ho
  have hL := hR.1
  refine ⟨(h 62 (by omega) (by omega)).trans a1, fun i i0 i1 => ?_⟩
  obtain ⟨b1, b2, b3⟩ := a2 i i0 i1
  exact ⟨(h _ (by omega) (by omega)).trans b1, (h _ (by omega) (by omega)).trans b2, fun c c0 c1 => ⟨(h _ (by omega) (by omega)).trans (b3 c c0 c1).1, (h _ (by omega) (by omega)).trans (b3 c c0 c1).2⟩⟩
theorem im_L {I : qIm} {G : gG} {S : gS} {R : gR} {N : qNm} (hI : imOK I) (h : I = some (G, S, R, N)) : hGok G ∧ hGx G ∧ (0 ≤ gnL S ∧ gnL S ≤ 252) := by
  rcases (hI G S R N h).1 with ⟨h1, h2, h3, _⟩ | ⟨rfl, rfl⟩
  · have := h_cnt h1 h3.1 (by omega)
    exact ⟨h1, h2, by omega⟩
  · exact ⟨G00_ok, G00_x, by decide⟩
theorem rIm_c {k : Int} {I : qIm} {ν ν' : ax_M} (hI : imOK I) (h1 : ∀ i : Int, 0 ≤ i → i < 2466 → ν'.1 211 (2466 * k + i).toNat = ν.1 211 (2466 * k + i).toNat) (h2 : ν'.1 218 k.toNat = ν.1 218 k.toNat) (h3 : ∀ n : Int, 0 ≤ n → n < 12 → ν'.2 217 (12 * k + n).toNat = ν.2 217 (12 * k + n).toNat) (hi : rIm k I ν) : rIm k I ν' := by
  cases I with
  | none =>
    show ν'.1 218 k.toNat = zI 0
    rw [h2]
    exact hi
  | some x =>
    obtain ⟨G, S, R, N⟩ := x
    obtain ⟨a1, a2, a3, a4, a5⟩ := hi
    obtain ⟨b1, b2, b3, b4⟩ := hI G S R N rfl
    have hL := im_L hI rfl
    have hN := b3.2.1
    refine ⟨by rw [h2]; exact a1, nIg_c (fun i i0 i1 => h1 i i0 (by omega)) a2, oPg_c b2 (fun i i0 i1 => h1 i (by omega) (by omega)) a3, sP_congr (by omega) (fun i i0 i1 => h1 i (by omega) i1) a4, fun n n0 n1 => ?_⟩
    rw [h3 n n0 (by omega)]
    exact a5 n n0 n1
/-- a state's row, whatever the second memory holds -/
theorem mI_e {G : gG} {S : gS} {ν ν' : ax_M} (h : ν'.1 209 = ν.1 209) (hm : mI G S ν) : mI G S ν' := by
  have hs := mI_sP hm
  have : mI (gGW G (gwt G)) S ν' := sP_mI (by unfold nnI; rw [h]; exact hs.2) (by rw [h]; exact hs.1)
  rwa [GW_id] at this
theorem q_iml {k : Int} (hk : k = 0 ∨ k = 1) (ν : ax_M) : ∃ ν', aJ 633 [.ref 207, .int (zI k)] [] ν = some (some (.int 1), ν') ∧ (∀ a, a ≠ 211 → a ≠ 218 → ν'.1 a = ν.1 a) ∧ (∀ a, a ≠ 217 → ν'.2 a = ν.2 a) ∧ (∀ i : Int, 0 ≤ i → i < 2466 → ν'.1 211 (2466 * k + i).toNat = ν.1 209 i.toNat) ∧ (∀ j : Nat, ((j : Int) < 2466 * k ∨ 2466 * k + 2466 ≤ j) → ν'.1 211 j = ν.1 211 j) ∧ (∀ i : Int, 0 ≤ i → i < 12 → ν'.2 217 (12 * k + i).toNat = ν.2 215 i.toNat) ∧ (∀ j : Nat, ((j : Int) < 12 * k ∨ 12 * k + 12 ≤ j) → ν'.2 217 j = ν.2 217 j) ∧ ν'.1 218 k.toNat = zI 1 ∧ ∀ j, j ≠ k.toNat → ν'.1 218 j = ν.1 218 j := by
  have loop1 : ∀ (m : Nat) (i : Int) (ν1 : ax_M), 0 ≤ i → i + m = 2466 → ν1.1 209 = ν.1 209 → (∀ j : Int, 0 ≤ j → j < i → ν1.1 211 (2466 * k + j).toNat = ν.1 209 j.toNat) → (∀ j : Nat, ((j : Int) < 2466 * k ∨ 2466 * k + 2466 ≤ j) → ν1.1 211 j = ν.1 211 j) → fr [211] ν ν1 → ∃ ν', aJ 634 [.ref 207, .int (zI k), .int (zI i)] [] ν1 = aJ 635 [.ref 207, .int (zI k)] [] ν' ∧ (∀ j : Int, 0 ≤ j → j < 2466 → ν'.1 211 (2466 * k + j).toNat = ν.1 209 j.toNat) ∧ (∀ j : Nat, ((j : Int) < 2466 * k ∨ 2466 * k + 2466 ≤ j) → ν'.1 211 j = ν.1 211 j) ∧ fr [211] ν ν' := by
    intro m
    induction m with
    | zero =>
      intro i ν1 i0 i1 h9 h1 h2 h3
      refine ⟨ν1, ?_, fun j j0 j1 => h1 j j0 (by omega), h2, h3⟩
      rw [jl_634]
      simp (disch := omega) only [zI_lit, p_le]
      rw [if_pos (by omega)]
    | succ m ih =>
      intro i ν1 i0 i1 h9 h1 h2 h3
      have f1 : fr [211] ν1 (ax_up ν1.1 211 (2466 * k + i).toNat (ν1.1 209 i.toNat), ν1.2) := fru (by simp)
      obtain ⟨ν', e1, e2⟩ := ih (i + 1) (ax_up ν1.1 211 (2466 * k + i).toNat (ν1.1 209 i.toNat), ν1.2) (by omega) (by omega) ((f1.2 209 (by decide)).trans h9) (fun j j0 j1 => by
        by_cases c : j = i
        · subst c
          rw [← h9]
          exact up_at
        · exact (up_nk (by omega)).trans (h1 j j0 (by omega))) (fun j hj => (up_nk (by omega)).trans (h2 j hj)) (frt h3 f1)
      refine ⟨ν', ?_, e2⟩
      rw [jl_634]
      simp (disch := omega) only [zI_lit, p_le, zI_mul, zI_add, ld_209, z_bo, st_211]
      rw [if_neg (by omega)]
      exact e1
  have loop2 : ∀ (m : Nat) (i : Int) (ν0 ν1 : ax_M), 0 ≤ i → i + m = 12 → ν1.1 = ν0.1 → (∀ a, a ≠ 217 → ν1.2 a = ν0.2 a) → (∀ j : Int, 0 ≤ j → j < i → ν1.2 217 (12 * k + j).toNat = ν0.2 215 j.toNat) → (∀ j : Nat, ((j : Int) < 12 * k ∨ 12 * k + 12 ≤ j) → ν1.2 217 j = ν0.2 217 j) → ∃ ν', aJ 636 [.ref 207, .int (zI k), .int (zI i)] [] ν1 = aJ 637 [.ref 207, .int (zI k)] [] ν' ∧ ν'.1 = ν0.1 ∧ (∀ a, a ≠ 217 → ν'.2 a = ν0.2 a) ∧ (∀ j : Int, 0 ≤ j → j < 12 → ν'.2 217 (12 * k + j).toNat = ν0.2 215 j.toNat) ∧ (∀ j : Nat, ((j : Int) < 12 * k ∨ 12 * k + 12 ≤ j) → ν'.2 217 j = ν0.2 217 j) := by
    intro m
    induction m with
    | zero =>
      intro i ν0 ν1 i0 i1 g1 g2 h1 h2
      refine ⟨ν1, ?_, g1, g2, fun j j0 j1 => h1 j j0 (by omega), h2⟩
      rw [jl_636]
      simp (disch := omega) only [zI_lit, p_le]
      rw [if_pos (by omega)]
    | succ m ih =>
      intro i ν0 ν1 i0 i1 g1 g2 h1 h2
      have u : ∀ (a j : Nat), (a ≠ 217 ∨ j ≠ (12 * k + i).toNat) → ax_up ν1.2 217 (12 * k + i).toNat (ν1.2 215 i.toNat) a j = ν1.2 a j := fun a j hh => by
        unfold ax_up
        rw [if_neg (by omega)]
      have ua : ax_up ν1.2 217 (12 * k + i).toNat (ν1.2 215 i.toNat) 217 (12 * k + i).toNat = ν1.2 215 i.toNat := by
        unfold ax_up
        rw [if_pos ⟨rfl, rfl⟩]
      obtain ⟨ν', e1, e2⟩ := ih (i + 1) ν0 (ν1.1, ax_up ν1.2 217 (12 * k + i).toNat (ν1.2 215 i.toNat)) (by omega) (by omega) g1 (fun a ha => (funext fun j => u a j (Or.inl ha)).trans (g2 a ha)) (fun j j0 j1 => by
        by_cases c : j = i
        · subst c
          rw [← g2 215 (by decide)]
          exact ua
        · exact (u _ _ (Or.inr (by omega))).trans (h1 j j0 (by omega))) (fun j hj => (u _ _ (Or.inr (by omega))).trans (h2 j hj))
      refine ⟨ν', ?_, e2⟩
      rw [jl_636]
      simp (disch := omega) only [zI_lit, p_le, zI_mul, zI_add, ld_215, z_bo, st_217]
      rw [if_neg (by omega)]
      exact e1
  obtain ⟨ν1, a1, a2, a3, a4⟩ := loop1 2466 0 ν (by omega) (by omega) rfl (fun j j0 j1 => by omega) (fun _ _ => rfl) frz
  obtain ⟨ν2, b1, b2, b3, b4, b5⟩ := loop2 12 0 ν1 ν1 (by omega) (by omega) rfl (fun _ _ => rfl) (fun j j0 j1 => by omega) (fun _ _ => rfl)
  have hn : vp_nar .boolean (1 : Int32) = zI 1 := by decide
  have hk1 : 0 ≤ k ∧ k < 2 := by omega
  refine ⟨(ax_up ν2.1 218 k.toNat (zI 1), ν2.2), ?_, ?_, ?_, ?_, ?_, ?_, ?_, up_at, ?_⟩
  · rw [jl_633]
    simp only [zI_lit] at a1 b1 ⊢
    rw [a1, jl_635]
    simp only [zI_lit] at b1 ⊢
    rw [b1, jl_637, show zI 1 = (1 : Int32) from rfl, st_218 hk1.1 hk1.2, z_bo, hn]
    rfl
  · intro a ha hb
    exact (funext fun j => up_ne hb).trans ((congrFun b2 a).trans (a4.2 a (by simpa using ha)))
  · intro a ha
    exact (b3 a ha).trans (congrFun a4.1 a)
  · intro i i0 i1
    exact (pp_ne (by decide)).trans ((congrFun (congrFun b2 211) _).trans (a2 i i0 i1))
  · intro j hj
    exact (pp_ne (by decide)).trans ((congrFun (congrFun b2 211) _).trans (a3 j hj))
  · intro i i0 i1
    exact (b4 i i0 i1).trans (congrFun (congrFun a4.1 215) _)
  · intro j hj
    exact (b5 j hj).trans (congrFun (congrFun a4.1 217) _)
  · intro j hj
    exact (up_nk hj).trans ((congrFun (congrFun b2 218) _).trans (fr_at a4 (by decide) j))
theorem q_image {G : gG} {S : gS} {U : List gU} {K : qK} (hp : pQ G S U K) (a : Int32) : qF G S U K 793 632 [.ref 0, .int a] [.ref 207, .int a] := by
  obtain ⟨k, hk, rfl⟩ := zI_of a
  have hKK := pQ_K hp
  have hNN := hKK.2.1.2.1
  by_cases c : k = 0 ∨ k = 1
  · have hd : decide (0 ≤ k ∧ k ≤ 1) = true := by simp; omega
    refine ⟨1, G, S, U, kIm K k (some (G, S, kR K, kN K)), pQ_r hp (kIm_OK hKK (pQ_im hp)) kIm_R.2, ?_, ?_⟩
    · intro ν hi
      obtain ⟨⟨X, x1, x2⟩, _, j⟩ := id hi
      obtain ⟨ν', h1, h2, h3⟩ := q_imC (b := 152 + 25 * k.toNat) (by omega) hp x1 x2 j
      refine ⟨ν', ?_, iC_im c h3 h2 hi, frC_of h3 (fun a ha => by have := mem_r.mp ha; omega)⟩
      rw [jl_793, q_ima c, z_b3, h1]
    · intro ν hi
      obtain ⟨ν0, e0, hi0, f0⟩ := iM_th hKK.1 hi
      obtain ⟨m1, ⟨u1, u2⟩, j⟩ := id hi0
      obtain ⟨j1, j2, j3, j4, j5, j6, j7, j8, j9, j10, j11, j12⟩ := j
      obtain ⟨ν', h1, h2, h3, h4, h5, h6, h7, h8, h9⟩ := q_iml c ν0
      have e207 := h2 207 (by decide) (by decide)
      have e209 := h2 209 (by decide) (by decide)
      have hs := mI_sP m1
      have hnew : rIm k (some (G, S, kR K, kN K)) ν' := by
        refine ⟨h8, nIg_c (fun i i0 i1 => h4 i i0 (by omega)) (nI_g.mp hs.2), oPg_c hKK.1 (fun i i0 i1 => h4 i (by omega) (by omega)) (oP_g.mp j1), sP_congr (by have := pQ_L hp; omega) (fun i i0 i1 => h4 i (by omega) i1) hs.1, fun n n0 n1 => ?_⟩
        rw [h6 n n0 (by omega)]
        have := j2 n n0 n1
        rwa [show (0 : Int) + n = n by omega] at this
      have hold : ∀ k' I, imOK I → (k' = 0 ∨ k' = 1) → k' ≠ k → rIm k' I ν0 → rIm k' I ν' := by
        intro k' I hI hk' hne hr
        refine rIm_c hI (fun i i0 i1 => h5 _ (by omega)) (h9 _ (by omega)) (fun n n0 n1 => h7 _ (by omega)) hr
      have q1 : oP (kR K) ν' := oP_bg hKK.1 (fun i _ _ => by rw [e209]) j1
      have q2 : rNm 215 0 (kN K) ν' := by
        unfold rNm at *
        rw [h3 215 (by decide)]
        exact j2
      refine ⟨ν', ?_, ⟨mI_e e209 m1, ⟨by rw [e207]; exact u1, by rw [h2 212 (by decide) (by decide)]; exact u2⟩, ?_⟩, frM_t f0 (fun a ha => h2 a (by omega) (by omega))⟩
      · rw [jl_632, ← e0, show (0 : Int32) = zI 0 from rfl, show (1 : Int32) = zI 1 from rfl, mz_isIn hk (zR_of (by omega)) (zR_of (by omega)), z_b1, hd, if_neg zB_t']
        exact h1
      · rcases c with rfl | rfl
        · exact ⟨q1, q2, by rw [e207]; exact j3, rP_e (h2 208 (by decide) (by decide)) j4, hnew, hold 1 _ hKK.2.2.2.2.1 (Or.inr rfl) (by decide) j6, by rw [e207]; exact j7, by rw [e207]; exact j8, by rw [e207]; exact j9, by rw [e207]; exact j10, by rw [e207]; exact j11, rP_e (h2 224 (by decide) (by decide)) j12⟩
        · exact ⟨q1, q2, by rw [e207]; exact j3, rP_e (h2 208 (by decide) (by decide)) j4, hold 0 _ hKK.2.2.2.1 (Or.inl rfl) (by decide) j5, hnew, by rw [e207]; exact j7, by rw [e207]; exact j8, by rw [e207]; exact j9, by rw [e207]; exact j10, by rw [e207]; exact j11, rP_e (h2 224 (by decide) (by decide)) j12⟩
  · refine qF_same hp 0 ?_ ?_
    · intro ν hi
      rw [jl_793, q_imo hk c, z_b3n]
    · intro ν ν0 e0 hi0
      rw [jl_632, ← e0, show (0 : Int32) = zI 0 from rfl, show (1 : Int32) = zI 1 from rfl, mz_isIn hk (zR_of (by omega)) (zR_of (by omega)), z_b1, show decide (0 ≤ k ∧ k ≤ 1) = false by simp; omega, if_pos zB_f]
