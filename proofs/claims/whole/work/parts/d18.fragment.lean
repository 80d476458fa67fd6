/-! k: fragment, on the reference's side, and the call -/
theorem q_rpb {G : gG} {S : gS} {ν : ax_M} (hg : hGok G) (hr : hRs G S) (hm : mI G S ν) {n : Int} : aJ 495 [.ref 207, .int (ibS (gPt G S n)), .int (zI 0)] [] ν = some (some (.int (ibS (gPb G S n))), ν) := by
  have hN := hg.2.1
  have hE := hg.2.2.2.1
  have hE0 := hg.2.2.1
  have key : ∀ (m : Nat) (i : Int), 0 ≤ i → i + m = gE G → aJ 496 [.ref 207, .int (ibS (gPt G S n)), .int (ibS (fun j => gPb G S n j ∧ j < i)), .int (zI i)] [] ν = some (some (.int (ibS (gPb G S n))), ν) := by
    intro m
    induction m with
    | zero =>
      intro i i0 im
      rw [jl_496]
      simp (disch := omega) only [zI_lit, q_rE hm, z_bo, p_le]
      rw [if_pos (by omega), jl_498, ibS_fu (Q := gPb G S n) (fun j q => by have := q.1.2.1; omega)]
    | succ m ih =>
      intro i i0 im
      have ih' := ih (i + 1) (by omega) (by omega)
      obtain ⟨a0, a1, c0, c1, ac⟩ := hg.2.2.2.2 i i0 (by omega)
      rw [jl_496]
      simp (disch := omega) only [zI_lit, q_rE hm, z_bo, p_le, q_br hg hm hr, z_b1, zI_add, ld_209, q_fr hm, jl_497, ibo_d]
      rw [if_neg (by omega)]
      by_cases b : gBr G S i
      · rw [if_pos (ibs_p i0 (by omega) ((ibS_b i0 (by omega)).mpr b))]
        by_cases c : gPt G S n (gfr G i)
        · rw [if_pos (ibs_p a0 (by omega) ((ibS_b a0 (by omega)).mpr c)), ibS_pt i0 (by omega) (show gPb G S n i from ⟨b, c⟩)]
          exact ih'
        · rw [if_neg (by rw [ibs_n a0 (by omega) (fun z => c ((ibS_b a0 (by omega)).mp z))]; exact ibs_01), ibS_sk (fun z => c z.2)]
          exact ih'
      · rw [if_neg (by rw [ibs_n i0 (by omega) (fun z => b ((ibS_b i0 (by omega)).mp z))]; exact ibs_01), ibS_sk (fun z => b z.1)]
        exact ih'
  have k0 := key (gE G).toNat 0 (by omega) (by omega)
  rw [← ibS_0 (P := fun j => gPb G S n j ∧ j < 0) (fun i i0 i1 h => by omega)] at k0
  rw [jl_495]
  simp only [zI_lit]
  exact k0
theorem q_rpl {G : gG} {S : gS} {ν : ax_M} (hg : hGok G) (hL : 0 ≤ gnL S ∧ gnL S ≤ 252) (hr : hRs G S) (hm : mI G S ν) {n : Int} : aJ 499 [.ref 207, .int (ibS (gPt G S n)), .int (zI 0)] [] ν = some (some (.int (zI (gPl G S n (gN G).toNat))), ν) := by
  have hN := hg.2.1
  have hN0 := hg.1
  have key : ∀ (m i : Nat), (i : Int) + m = gN G → aJ 500 [.ref 207, .int (ibS (gPt G S n)), .int (zI (gPl G S n i)), .int (zI i)] [] ν = some (some (.int (zI (gPl G S n (gN G).toNat))), ν) := by
    intro m
    induction m with
    | zero =>
      intro i im
      rw [jl_500]
      simp (disch := omega) only [zI_lit, q_rN hm, z_bo, p_le]
      rw [if_pos (by omega), jl_502, show i = (gN G).toNat by omega]
    | succ m ih =>
      intro i im
      have ih' := ih (i + 1) (by omega)
      have i0 : (0 : Int) ≤ (i : Int) := by omega
      have b1 := (hr.2.1 i).2.1
      have rg := gPl_r hL hr (G := G) (n := n) i
      rw [jl_500]
      simp (disch := omega) only [zI_lit, q_rN hm, z_bo, p_le, q_nd hm, z_b1, jl_501, zI_add]
      rw [if_neg (by omega)]
      by_cases c : gPt G S n i
      · rw [if_pos (ibs_p i0 (by omega) ((ibS_b i0 (by omega)).mpr c))]
        by_cases d : gPl G S n i < gnd S i 1
        · rw [if_neg (by omega)]
          rw [show gPl G S n (i + 1) = gnd S i 1 from gFo_p ⟨c, d⟩] at ih'
          exact ih'
        · rw [if_pos (by omega)]
          rw [show gPl G S n (i + 1) = gPl G S n i from gFo_n (fun z => d z.2)] at ih'
          exact ih'
      · rw [if_neg (by rw [ibs_n i0 (by omega) (fun z => c ((ibS_b i0 (by omega)).mp z))]; exact ibs_01)]
        rw [show gPl G S n (i + 1) = gPl G S n i from gFo_n (fun z => c z.1)] at ih'
        exact ih'
  rw [jl_499]
  simp only [zI_lit]
  exact key (gN G).toNat 0 (by omega)
theorem q_rl {G : gG} {S : gS} {ν : ax_M} (hg : hGok G) (hw : hGw G) (hm : mI G S ν) {e f : Int} (h0 : -1 ≤ e) (h1 : e < gE G) (h2 : -1 ≤ f) (h3 : f < gE G) : aJ 189 [.ref 207, .int (zI e), .int (zI f)] [] ν = some (some (.int (zB (gli G e f))), ν) := by
  have h := m_li (G := G) (S := S) (μ := ν) hg.2.2.2.1 hw h0 h1 h2 h3
  rwa [show mM G S ν = ν from hm] at h
theorem q_rpo {G : gG} {S : gS} {ν : ax_M} (hg : hGok G) (hw : hGw G) (hm : mI G S ν) {n : Int} : aJ 503 [.ref 207, .int (ibS (gPt G S n)), .int (zI (-1))] [] ν = some (some (.int (zI (gPo G S n (gE G).toNat))), ν) := by
  have hN := hg.2.1
  have hE := hg.2.2.2.1
  have hE0 := hg.2.2.1
  have key : ∀ (m i : Nat), (i : Int) + m = gE G → aJ 504 [.ref 207, .int (ibS (gPt G S n)), .int (zI (gPo G S n i)), .int (zI i)] [] ν = some (some (.int (zI (gPo G S n (gE G).toNat))), ν) := by
    intro m
    induction m with
    | zero =>
      intro i im
      rw [jl_504]
      simp (disch := omega) only [zI_lit, q_rE hm, z_bo, p_le]
      rw [if_pos (by omega), jl_506, show i = (gE G).toNat by omega]
    | succ m ih =>
      intro i im
      have ih' := ih (i + 1) (by omega)
      have i0 : (0 : Int) ≤ (i : Int) := by omega
      have i1 : (i : Int) < gE G := by omega
      obtain ⟨a0, a1, c0, c1, ac⟩ := hg.2.2.2.2 i i0 i1
      have rg := gPo_r (G := G) (S := S) (n := n) i
      have bit : ∀ x, 0 ≤ x → x < 32 → ((ibS (gPt G S n) >>> (zI x &&& zI 31)) &&& zI 1 = zI 1 ∧ gPt G S n x) ∨ ((ibS (gPt G S n) >>> (zI x &&& zI 31)) &&& zI 1 = zI 0 ∧ ¬ gPt G S n x) := by
        intro x x0 x1
        by_cases c : gPt G S n x
        · exact Or.inl ⟨ibs_p x0 x1 ((ibS_b x0 x1).mpr c), c⟩
        · exact Or.inr ⟨ibs_n x0 x1 (fun z => c ((ibS_b x0 x1).mp z)), c⟩
      have hcond : ((ibS (gPt G S n) >>> (zI (gfr G i) &&& zI 31)) &&& zI 1 = (ibS (gPt G S n) >>> (zI (gsc G i) &&& zI 31)) &&& zI 1) ↔ ¬ gOu G S n i := by
        unfold gOu
        rcases bit _ a0 (by omega) with ⟨e1, h1⟩ | ⟨e1, h1⟩ <;> rcases bit _ c0 (by omega) with ⟨e2, h2⟩ | ⟨e2, h2⟩
        · rw [e1, e2]
          exact ⟨fun _ z => z ⟨fun _ => h2, fun _ => h1⟩, fun _ => rfl⟩
        · rw [e1, e2]
          exact ⟨fun z => absurd z.symm ibs_01, fun z => absurd ((Classical.not_not.mp z).mp h1) h2⟩
        · rw [e1, e2]
          exact ⟨fun z => absurd z ibs_01, fun z => absurd ((Classical.not_not.mp z).mpr h2) h1⟩
        · rw [e1, e2]
          exact ⟨fun _ z => z ⟨fun y => absurd y h1, fun y => absurd y h2⟩, fun _ => rfl⟩
      rw [jl_504]
      simp (disch := omega) only [zI_lit, q_rE hm, z_bo, p_le, zI_add, ld_209, q_fr hm, q_sc hm, jl_505]
      rw [if_neg (by omega)]
      by_cases c : gOu G S n i
      · rw [if_neg (fun z => (hcond.mp z) c), q_rl hg hw hm (by omega) i1 (by omega) (by omega), z_b1]
        cases hl : gli G i (gPo G S n i) with
        | true =>
          rw [if_neg zB_t']
          rw [show gPo G S n (i + 1) = i from gFo_p ⟨c, hl⟩] at ih'
          exact ih'
        | false =>
          rw [if_pos (by decide)]
          rw [show gPo G S n (i + 1) = gPo G S n i from gFo_n (fun z => by have hz : gli G i (gPo G S n i) = true := z.2; rw [hl] at hz; exact absurd hz (by decide))] at ih'
          exact ih'
      · rw [if_pos (hcond.mpr c)]
        rw [show gPo G S n (i + 1) = gPo G S n i from gFo_n (fun z => c z.1)] at ih'
        exact ih'
  rw [jl_503]
  simp only [zI_lit]
  exact key (gE G).toNat 0 (by omega)
theorem q_fragC {G : gG} {S : gS} {U : List gU} {K : qK} (hp : pOK G S U K) {n w : Int} (hn : zR n) (hw : zR w) : qCt ((0 ≤ n ∧ n < gN G) ∧ 0 ≤ w ∧ w < 5) G S U K 736 488 [.ref 0, .int (zI n), .int (zI w)] [.ref 207, .int (zI n), .int (zI w)] := by
  have hg := hp.1
  have hv := hp.2.2.1
  have hr := hv.2.2.1
  have hL := pOK_L hp
  have hN := hg.2.1
  have hE := hg.2.2.2.1
  have hGw' := pOK_w hp
  have hww := hw
  obtain ⟨w1, w2⟩ := hw
  refine qCt_mk hp ?_ ?_
  · rintro ⟨cn, cw⟩
    have hdn : decide (0 ≤ n ∧ n < gN G) = true := by simp [cn]
    have hdw : decide (0 ≤ w ∧ w ≤ 4) = true := by simp; omega
    obtain ⟨k, hk⟩ := le_ex (G := G) (P := gBr G S) cn.1
    have start : ∀ {ν X}, cI 29 G S X ν → ∃ ν' p, (aJ 736 [.ref 0, .int (zI n), .int (zI w)] [] ν = if w = 0 then aJ 739 [.int (zI (p n))] [] ν' else if w = 1 then aJ 740 [.ref 0, .int (zI (p n))] [] ν' else if w = 2 then aJ 741 [.ref 0, .int (zI (p n))] [] ν' else if w = 3 then aJ 742 [.ref 0, .int (zI (p n))] [] ν' else aJ 743 [.ref 0, .int (zI (p n))] [] ν') ∧ fP G (gBr G S) p ν' ∧ fr [202, 203, 204] ν ν' ∧ cI 29 G S X ν' := by
      intro ν X x1
      obtain ⟨ν', p, h1, h2, h3⟩ := q_frag hg hr x1
      refine ⟨ν', p, ?_, h2, frm h3 (by simp), cI_fr (Or.inl rfl) h3 (fun a ha => by simp at ha; omega) x1⟩
      rw [jl_736, q_in hg x1 hn, z_b1, hdn, if_neg zB_t, jl_738, h1, z_b1, q_part h2 cn.1 (by omega), z_b1]
      simp (disch := omega) only [zI_lit, p_lt, p_le, p_eq]
      rw [if_neg (by omega), if_pos (by omega)]
    have rstart : ∀ {ν ν0}, ν0 = ax_uD ν 207 0 0 → mI G S ν0 → aJ 488 [.ref 207, .int (zI n), .int (zI w)] [] ν = if w = 4 then aJ 492 [.ref 207, .int (zI w), .int (ibS (gPt G S n))] [.int (zI (-1))] ν0 else aJ 492 [.ref 207, .int (zI w), .int (ibS (gPt G S n))] [.int (zI 0)] ν0 := by
      intro ν ν0 e0 m1
      rw [jl_488, ← e0, q_rin hg m1 hn, z_b1, hdn, if_neg zB_t, show (4 : Int32) = zI 4 from rfl, show Value.int (0 : Int32) = .int (zI 0) from rfl, mz_isIn hww (zR_of (by omega)) (zR_of (by omega)), z_b1, hdw, if_neg zB_t, jl_490, q_br hg m1 hr, z_b1, q_joinP hg m1 cn.1 (by omega), z_b1, jl_491]
      simp (disch := omega) only [zI_lit, p_eq, zI_neg]
      rfl
    have hd : w = 0 ∨ w = 1 ∨ w = 2 ∨ w = 3 ∨ w = 4 := by omega
    rcases hd with rfl | rfl | rfl | rfl | rfl
    · refine ⟨zI k, ?_, ?_⟩
      · intro ν hi
        obtain ⟨⟨X, x1, x2⟩, _, _⟩ := iC_R hp.2.2.1 hi
        obtain ⟨ν', p, h1, h2, h3, h4⟩ := start x1
        refine ⟨ν', ?_, h3⟩
        rw [h1, if_pos rfl, jl_739, le_uni (h2.2.1 n cn.1 (by omega)) hk]
      · intro ν ν0 e0 hi0
        have m1 := hi0.1
        have hk0 := hk.1
        have hk1 := hk.2.1
        rw [rstart e0 m1, if_neg (by decide), jl_492, if_pos (by decide), jl_493, q_lowest (P := gPt G S n) hk0 (by omega) hk.2.2.1 hk.2.2.2, z_b1]
    · refine ⟨ibS (gPt G S n), ?_, ?_⟩
      · intro ν hi
        obtain ⟨⟨X, x1, x2⟩, _, _⟩ := iC_R hp.2.2.1 hi
        obtain ⟨ν', p, h1, h2, h3, h4⟩ := start x1
        refine ⟨ν', ?_, h3⟩
        rw [h1, if_neg (by decide), if_pos rfl, jl_740, q_nbits hg h4 h2 cn.1 cn.2, z_b1]
      · intro ν ν0 e0 hi0
        have m1 := hi0.1
        rw [rstart e0 m1, if_neg (by decide), jl_492, if_neg (by decide), if_pos (by decide), jl_494]
    · refine ⟨ibS (gPb G S n), ?_, ?_⟩
      · intro ν hi
        obtain ⟨⟨X, x1, x2⟩, _, _⟩ := iC_R hp.2.2.1 hi
        obtain ⟨ν', p, h1, h2, h3, h4⟩ := start x1
        refine ⟨ν', ?_, h3⟩
        rw [h1, if_neg (by decide), if_neg (by decide), if_pos rfl, jl_741, q_bbits hg hr h4 h2 cn.1 cn.2, z_b1]
      · intro ν ν0 e0 hi0
        have m1 := hi0.1
        rw [rstart e0 m1, if_neg (by decide), jl_492, if_neg (by decide), if_neg (by decide), if_pos (by decide), q_rpb hg hr m1]
    · refine ⟨zI (gPl G S n (gN G).toNat), ?_, ?_⟩
      · intro ν hi
        obtain ⟨⟨X, x1, x2⟩, _, _⟩ := iC_R hp.2.2.1 hi
        obtain ⟨ν', p, h1, h2, h3, h4⟩ := start x1
        refine ⟨ν', ?_, h3⟩
        rw [h1, if_neg (by decide), if_neg (by decide), if_neg (by decide), if_pos rfl, jl_742, q_plev hg hL hr h4 h2 cn.1 cn.2, z_b1]
      · intro ν ν0 e0 hi0
        have m1 := hi0.1
        rw [rstart e0 m1, if_neg (by decide), jl_492, if_neg (by decide), if_neg (by decide), if_neg (by decide), if_pos (by decide), q_rpl hg hL hr m1]
    · refine ⟨zI (gPo G S n (gE G).toNat), ?_, ?_⟩
      · intro ν hi
        obtain ⟨⟨X, x1, x2⟩, _, _⟩ := iC_R hp.2.2.1 hi
        obtain ⟨ν', p, h1, h2, h3, h4⟩ := start x1
        refine ⟨ν', ?_, h3⟩
        rw [h1, if_neg (by decide), if_neg (by decide), if_neg (by decide), if_neg (by decide), jl_743, q_lout hg hGw' h4 h2 cn.1 cn.2, z_b1]
      · intro ν ν0 e0 hi0
        have m1 := hi0.1
        rw [rstart e0 m1, if_pos rfl, jl_492, if_neg (by decide), if_neg (by decide), if_neg (by decide), if_neg (by decide), q_rpo hg hGw' m1]
  · intro hc ν ν0 e0 hi0
    have m1 := hi0.1
    have h489 : aJ 489 [.ref 207] [] ν0 = some (some (.int 0), ax_uD ν0 207 0 1) := by rw [jl_489, q_rf, z_b1]
    rw [jl_488, ← e0, q_rin hg m1 hn, z_b1]
    by_cases cn : 0 ≤ n ∧ n < gN G
    · rw [show decide (0 ≤ n ∧ n < gN G) = true by simp [cn], if_neg zB_t, show (4 : Int32) = zI 4 from rfl, show Value.int (0 : Int32) = .int (zI 0) from rfl, mz_isIn hww (zR_of (by omega)) (zR_of (by omega)), z_b1, show decide (0 ≤ w ∧ w ≤ 4) = false by simp; omega, if_pos (by decide), h489]
      rfl
    · rw [show decide (0 ≤ n ∧ n < gN G) = false by simp; omega, if_pos (by decide), h489]
