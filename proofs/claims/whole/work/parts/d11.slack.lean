/-! k: edge, slack -/
theorem hnl {G : gG} (hg : hGok G) : ∀ e, 0 ≤ e → e < gE G → gfr G e ≠ gsc G e := fun e e0 e1 => (hg.2.2.2.2 e e0 e1).2.2.2.2
theorem q_inT {G : gG} {S : gS} {X : cX} {ν : ax_M} (hg : hGok G) (hw : hGw G) (hc : cI 29 G S X ν) {e : Int} (e0 : 0 ≤ e) (e1 : e < gE G) : ∃ ν', fr [202, 203, 204] ν ν' ∧ (gT G e → aJ 901 [.ref 202, .ref 29, .int (zI e)] [] ν = some (some (.int (zI 1)), ν')) ∧ (¬ gT G e → aJ 901 [.ref 202, .ref 29, .int (zI e)] [] ν = some (some (.int (zI 0)), ν')) := by
  have hE := hg.2.2.2.1
  have hN := hg.2.1
  obtain ⟨a0, a1, c0, c1, ac⟩ := hg.2.2.2.2 e e0 e1
  obtain ⟨t1, t2⟩ := cI_cP (Or.inl rfl) hc
  obtain ⟨ν', h1, h2⟩ := q_joinA hg hw hc a0 (by omega) c0 (by omega) ac
  have hed : gcc G gAll (gfr G e) (gsc G e) := cc_edge e0 e1 trivial
  rcases h2 with ⟨x, h2, h3⟩ | ⟨h2, h3⟩
  · have hs := J_self e0 e1 h2
    have x0 := h2.1
    have x1 := h2.2.1
    refine ⟨ν', h1, fun q => ?_, fun q => ?_⟩
    · rw [jl_901, q_942 t2 e0 (by omega), z_b1, q_943 t2 e0 (by omega), z_b1, show (-1 : Int32) = zI (-1) from rfl, h3, z_b1, if_pos (congrArg zI (hs.mpr q)), jl_903]
      rfl
    · rw [jl_901, q_942 t2 e0 (by omega), z_b1, q_943 t2 e0 (by omega), z_b1, show (-1 : Int32) = zI (-1) from rfl, h3, z_b1, if_neg (fun z => q (hs.mp ((zI_eq (zR_of (by omega)) (zR_of (by omega))).mp z))), jl_902, jl_903]
      rfl
  · exact absurd hed h2
theorem q_edgeC {G : gG} {S : gS} {U : List gU} {K : qK} (hp : pOK G S U K) {e w : Int} (he : zR e) (hw : zR w) : qCt ((0 ≤ e ∧ e < gE G) ∧ 0 ≤ w ∧ w < 6) G S U K 669 373 [.ref 0, .int (zI e), .int (zI w)] [.ref 207, .int (zI e), .int (zI w)] := by
  have hg := hp.1
  have hv := hp.2.2.1
  have hE := hg.2.2.2.1
  have hGw' := pOK_w hp
  have hK := hp.2.2.2.2.2.2.1.1
  obtain ⟨w1, w2⟩ := id hw
  constructor
  · rintro ⟨ce, cw⟩
    have hde : decide (0 ≤ e ∧ e < gE G) = true := by simp [ce]
    have hwe := hGw' e ce.1 ce.2
    have hge0 := hv.2.2.1.1 (2 * e)
    have hge1 := hv.2.2.1.1 (2 * e + 1)
    have five : ∀ r : Int32, (∀ ν, iC G S U K ν → ∃ ν', aJ 669 [.ref 0, .int (zI e), .int (zI w)] [] ν = some (some (.int r), ν') ∧ fr [202, 203, 204] ν ν') → (∀ ν ν0, ν0 = ax_uD ν 207 0 0 → iM G S U K ν0 → aJ 373 [.ref 207, .int (zI e), .int (zI w)] [] ν = some (some (.int r), ν0)) → ∃ r : Int32, (∀ ν, iC G S U K ν → ∃ ν', aJ 669 [.ref 0, .int (zI e), .int (zI w)] [] ν = some (some (.int r), ν') ∧ iC G S U K ν' ∧ frC ν ν') ∧ (∀ ν, iM G S U K ν → ∃ ν', aJ 373 [.ref 207, .int (zI e), .int (zI w)] [] ν = some (some (.int r), ν') ∧ iM G S U K ν' ∧ frM ν ν' ∧ ν'.1 207 0 = 0) := by
      intro r h1 h2
      refine ⟨r, fun ν hi => ?_, fun ν hi => ?_⟩
      · obtain ⟨ν', k1, k2⟩ := h1 ν hi
        exact ⟨ν', k1, iC_F k2 hi, frC_F k2⟩
      · obtain ⟨ν0, e0, hi0, f0⟩ := iM_th hK hi
        exact ⟨ν0, h2 ν ν0 e0 hi0, hi0, f0, by rw [e0]; exact uD_at⟩
    by_cases c5 : w = 5
    · subst c5
      by_cases t : gT G e
      · refine five (zI 1) ?_ ?_
        · intro ν hi
          obtain ⟨⟨X, x1, x2⟩, _, _⟩ := iC_R hp.2.2.1 hi
          obtain ⟨ν', h1, h2, h3⟩ := q_inT hg hGw' x1 ce.1 ce.2
          refine ⟨ν', ?_, h1⟩
          rw [jl_669, q_ie hg x1 he, z_b1, hde, if_neg zB_t, jl_670, if_neg (by decide), if_neg (by decide), if_neg (by decide), if_neg (by decide), if_neg (by decide), if_pos (by decide), jl_676, h2 t, z_b1, if_neg (by decide), jl_678]
          rfl
        · intro ν ν0 e0 hi0
          have m1 := hi0.1
          rw [jl_373, ← e0, q_rie hg m1 he, z_b1, hde, if_neg zB_t, jl_374, if_neg (by decide), if_neg (by decide), if_neg (by decide), if_neg (by decide), if_neg (by decide), if_pos (by decide), jl_380]
          simp (disch := omega) only [zI_lit, zI_add, ld_209, z_bo, q_rwt m1]
          rw [q_it1 hg hGw' m1 ce.1 ce.2 (by omega) (by omega) (gIn_T.mpr t), z_b1, if_neg (fun q => ibs_01 q.symm), jl_382]
      · refine five (zI 0) ?_ ?_
        · intro ν hi
          obtain ⟨⟨X, x1, x2⟩, _, _⟩ := iC_R hp.2.2.1 hi
          obtain ⟨ν', h1, h2, h3⟩ := q_inT hg hGw' x1 ce.1 ce.2
          refine ⟨ν', ?_, h1⟩
          rw [jl_669, q_ie hg x1 he, z_b1, hde, if_neg zB_t, jl_670, if_neg (by decide), if_neg (by decide), if_neg (by decide), if_neg (by decide), if_neg (by decide), if_pos (by decide), jl_676, h3 t, z_b1, if_pos (by decide), jl_677, jl_678]
          rfl
        · intro ν ν0 e0 hi0
          have m1 := hi0.1
          rw [jl_373, ← e0, q_rie hg m1 he, z_b1, hde, if_neg zB_t, jl_374, if_neg (by decide), if_neg (by decide), if_neg (by decide), if_neg (by decide), if_neg (by decide), if_pos (by decide), jl_380]
          simp (disch := omega) only [zI_lit, zI_add, ld_209, z_bo, q_rwt m1]
          rw [q_it0 hg hGw' m1 ce.1 ce.2 (by omega) (by omega) (fun q => t (gIn_T.mp q)), z_b1, if_pos rfl, jl_381, jl_382]
          rfl
    · refine five (zI (if w = 0 then gfr G e else if w = 1 then gsc G e else if w = 2 then gwt G e else if w = 3 then gen S (2 * e) else gen S (2 * e + 1))) ?_ ?_
      · intro ν hi
        obtain ⟨⟨X, x1, x2⟩, _, _⟩ := iC_R hp.2.2.1 hi
        obtain ⟨t1, t2⟩ := cI_cP (Or.inl rfl) x1
        have n1 := q_en x1 (Or.inl rfl) (show 0 ≤ 2 * e by omega) (show 2 * e < 60 by omega)
        have n2 := q_en x1 (Or.inl rfl) (show 0 ≤ 2 * e + 1 by omega) (show 2 * e + 1 < 60 by omega)
        refine ⟨ν, ?_, frz⟩
        rw [jl_669, q_ie hg x1 he, z_b1, hde, if_neg zB_t, jl_670]
        simp (disch := omega) only [zI_lit, p_eq]
        by_cases c0 : w = 0
        · rw [if_pos c0, if_pos c0, jl_671, q_942 t2 ce.1 (by omega), z_b1]
        rw [if_neg c0, if_neg c0]
        by_cases c1 : w = 1
        · rw [if_pos c1, if_pos c1, jl_672, q_943 t2 ce.1 (by omega), z_b1]
        rw [if_neg c1, if_neg c1]
        by_cases c2 : w = 2
        · rw [if_pos c2, if_pos c2, jl_673, q_wO x1 (Or.inl rfl) ce.1 ⟨by omega, wt_ne hGw' ce.1 ce.2⟩, z_b1]
        rw [if_neg c2, if_neg c2]
        by_cases c3 : w = 3
        · rw [if_pos c3, if_pos c3, jl_674]
          simp only [zI_lit, zI_mul]
          rw [n1, z_b1]
        rw [if_neg c3, if_neg c3, if_pos (by omega), jl_675]
        simp only [zI_lit, zI_mul, zI_add]
        rw [n2, z_b1]
      · intro ν ν0 e0 hi0
        have m1 := hi0.1
        have l0 : ax_ld ax_sh ν0 209 (zI (203 + 2 * e)) = some (zI (gen S (2 * e))) := by rw [ld_209 (by omega) (by omega), q_ren m1 (by omega) (by omega)]
        have l1 : ax_ld ax_sh ν0 209 (zI (203 + 2 * e + 1)) = some (zI (gen S (2 * e + 1))) := by rw [show 203 + 2 * e + 1 = 203 + (2 * e + 1) by omega, ld_209 (by omega) (by omega), q_ren m1 (by omega) (by omega)]
        rw [jl_373, ← e0, q_rie hg m1 he, z_b1, hde, if_neg zB_t, jl_374]
        simp (disch := omega) only [zI_lit, p_eq, jl_375, jl_376, jl_377, jl_378, jl_379, zI_add, zI_mul, l0, l1, z_bo, ld_209, q_fr m1, q_sc m1, q_rwt m1]
        by_cases c0 : w = 0
        · rw [if_pos c0, if_pos c0]
        rw [if_neg c0, if_neg c0]
        by_cases c1 : w = 1
        · rw [if_pos c1, if_pos c1]
        rw [if_neg c1, if_neg c1]
        by_cases c2 : w = 2
        · rw [if_pos c2, if_pos c2]
        rw [if_neg c2, if_neg c2]
        by_cases c3 : w = 3
        · rw [if_pos c3, if_pos c3]
        rw [if_neg c3, if_neg c3, if_pos (by omega)]
  · intro hc ν hi
    obtain ⟨ν0, e0, hi0, f0⟩ := iM_th hK hi
    have m1 := hi0.1
    refine ⟨ax_uD ν0 207 0 1, 0, ?_, iM_u0 hK hi0, frM_t f0 frM_u0, uD_at⟩
    rw [jl_373, ← e0, q_rie hg m1 he, z_b1]
    by_cases ce : 0 ≤ e ∧ e < gE G
    · have h383 : aJ 383 [.ref 207] [] ν0 = some (some (.int 0), ax_uD ν0 207 0 1) := by rw [jl_383, q_rf, z_b1]
      rw [show decide (0 ≤ e ∧ e < gE G) = true by simp [ce], if_neg zB_t, jl_374]
      have n : ∀ k : Int, 0 ≤ k → k < 6 → ¬ zI w = zI k := fun k k0 k1 q => by
        have := (zI_eq hw (zR_of (by omega))).mp q
        omega
      simp only [show (0 : Int32) = zI 0 from rfl, show (1 : Int32) = zI 1 from rfl, show (2 : Int32) = zI 2 from rfl, show (3 : Int32) = zI 3 from rfl, show (4 : Int32) = zI 4 from rfl, show (5 : Int32) = zI 5 from rfl]
      simp only [n 0 (by omega) (by omega), n 1 (by omega) (by omega), n 2 (by omega) (by omega), n 3 (by omega) (by omega), n 4 (by omega) (by omega), n 5 (by omega) (by omega), if_false]
      exact h383
    · rw [show decide (0 ≤ e ∧ e < gE G) = false by simp; omega, if_pos (by decide), q_rf, z_b1]
/-- the last weight with which e is in the tree -/
def gLw (G : gG) (e m : Int) : Int := if e < m then gwt G m else gwt G m - 1
theorem gIn_J {G : gG} {e m w : Int} (h : gJ G (gAx e) (gfr G e) (gsc G e) m) : gIn G e w ↔ w ≤ gLw G e m := by
  have := J_slack (w := w) h
  unfold gIn gLw
  rw [this]
  split <;> omega
theorem q_slack {G : gG} {S : gS} {U : List gU} {K : qK} (hp : pOK G S U K) (a : Int32) : qCl G S U K 753 535 [.ref 0, .int a] [.ref 207, .int a] := by
  obtain ⟨e, he, rfl⟩ := zI_of a
  have hg := hp.1
  have hw := pOK_w hp
  have hx := hp.2.1
  have hN := hg.2.1
  have hE := hg.2.2.2.1
  by_cases ce : 0 ≤ e ∧ e < gE G
  · have hde : decide (0 ≤ e ∧ e < gE G) = true := by simp [ce]
    obtain ⟨a0, a1, c0, c1, ac⟩ := hg.2.2.2.2 e ce.1 ce.2
    have hwe := hx e ce.1 ce.2
    have h1000 : gIn G e 1000 ↔ ¬ gcc G (gAx e) (gfr G e) (gsc G e) := not_congr (cc_congr (fun f f0 f1 => by
      have := hx f f0 f1
      unfold gAx
      exact ⟨fun q => q.1, fun q => ⟨q, Or.inl (by omega)⟩⟩))
    by_cases q : gcc G (gAx e) (gfr G e) (gsc G e)
    · obtain ⟨m, hm⟩ := J_of hE hw ac q
      have m0 := hm.1
      have m1 := hm.2.1
      have hne : m ≠ e := hm.2.2.1
      have hwm := hx m m0 m1
      have hlw : 0 ≤ gLw G e m ∧ gLw G e m ≤ 99 := by unfold gLw; split <;> omega
      have hlg : glo G e m ↔ gwt G e ≤ gLw G e m := by unfold glo gLw; split <;> omega
      refine qCl_F hp (zI (if gwt G e ≤ gLw G e m then gLw G e m - gwt G e else gwt G e - gLw G e m)) ?_ ?_
      · intro ν hi
        obtain ⟨⟨X, x1, x2⟩, _, _⟩ := iC_R hp.2.2.1 hi
        obtain ⟨t1, t2⟩ := cI_cP (Or.inl rfl) x1
        obtain ⟨ν', h1, h2⟩ := q_joiner hg hw x1 a0 (by omega) c0 (by omega) (c := e) (by omega) (by omega) ac
        have hc' : cI 29 G S X ν' := cI_fr (Or.inl rfl) h1 (fun a ha => by simp at ha; omega) x1
        refine ⟨ν', ?_, h1⟩
        rcases h2 with ⟨y, h2, h3⟩ | ⟨h2, h3⟩
        · rw [J_uni h2 hm] at h3
          have h907 : aJ 905 [.ref 29, .int (zI e), .int (zI m)] [] ν' = aJ 907 [.ref 29, .int (zI e), .int (zI m)] [.int (zI (gLw G e m - gwt G e))] ν' := by
            rw [jl_905, q_wO hc' (Or.inl rfl) m0 ⟨by omega, wt_ne hw m0 m1⟩, z_b1, q_wO hc' (Or.inl rfl) ce.1 ⟨by omega, wt_ne hw ce.1 ce.2⟩, z_b1]
            simp (disch := omega) only [zI_lit, zI_sub, p_le, jl_906]
            unfold gLw
            by_cases k : m ≤ e
            · rw [if_pos k, if_neg (by omega), show gwt G m - gwt G e - 1 = gwt G m - 1 - gwt G e by omega]
            · rw [if_neg k, if_pos (by omega)]
          rw [jl_753, q_ie hg x1 he, z_b1, hde, if_neg zB_t, jl_904, q_942 t2 ce.1 (by omega), z_b1, q_943 t2 ce.1 (by omega), z_b1, h3, z_b1, if_neg (show ¬ zI m = (-1 : Int32) from fun z => by have := (zI_eq (b := -1) (zR_of (by omega)) (zR_of (by omega))).mp z; omega), h907, jl_907, q_cl hg hw hc' (by omega) ce.2 (by omega) m1, z_b1]
          by_cases k : glo G e m
          · rw [(gli_lo ce.1 m0).mpr k, if_neg zB_t, if_pos (hlg.mp k), jl_909, z_b1, jl_755]
          · rw [Bool.eq_false_iff.mpr (fun z => k ((gli_lo ce.1 m0).mp z)), if_pos (by decide), if_neg (fun z => k (hlg.mpr z)), jl_908]
            simp only [zI_lit, zI_sub]
            rw [jl_909, z_b1, jl_755, show 0 - (gLw G e m - gwt G e) = gwt G e - gLw G e m by omega]
        · exact absurd q h2
      · intro ν ν0 e0 hi0
        have n1 := hi0.1
        rw [jl_535, ← e0, q_rie hg n1 he, z_b1, hde, if_neg zB_t, jl_536]
        simp (disch := omega) only [zI_lit, zI_add, ld_209, z_bo, q_rwt n1]
        rw [q_it0 hg hw n1 ce.1 ce.2 (by omega) (by omega) (fun z => (h1000.mp z) q), z_b1, if_pos rfl, jl_537]
        by_cases k : gwt G e ≤ gLw G e m
        · rw [q_it1 hg hw n1 ce.1 ce.2 (by omega) (by omega) ((gIn_J hm).mpr k), z_b1, if_neg (by decide), if_pos k]
          have loop : ∀ (d : Nat) (i : Int), 0 ≤ i → i + d = gLw G e m - gwt G e → aJ 538 [.ref 207, .int (zI e), .int (zI (gwt G e)), .int (zI i)] [] ν0 = some (some (.int (zI (gLw G e m - gwt G e))), ν0) := by
            intro d
            induction d with
            | zero =>
              intro i i0 i1
              rw [jl_538]
              simp only [zI_lit, zI_add]
              rw [q_it0 hg hw n1 ce.1 ce.2 (by omega) (by omega) (fun z => by have := (gIn_J hm).mp z; omega), z_b1, if_pos rfl, jl_539, show i = gLw G e m - gwt G e by omega]
            | succ d ih =>
              intro i i0 i1
              have ih' := ih (i + 1) (by omega) (by omega)
              rw [jl_538]
              simp only [zI_lit, zI_add]
              rw [q_it1 hg hw n1 ce.1 ce.2 (by omega) (by omega) ((gIn_J hm).mpr (by omega)), z_b1, if_neg (fun z => ibs_01 z.symm), ih']
          exact loop (gLw G e m - gwt G e).toNat 0 (by omega) (by omega)
        · rw [q_it0 hg hw n1 ce.1 ce.2 (by omega) (by omega) (fun z => k ((gIn_J hm).mp z)), z_b1, if_pos (by decide), if_neg k]
          have loop : ∀ (d : Nat) (i : Int), 0 ≤ i → i + d = gwt G e - gLw G e m → aJ 540 [.ref 207, .int (zI e), .int (zI (gwt G e)), .int (zI i)] [] ν0 = some (some (.int (zI (gwt G e - gLw G e m))), ν0) := by
            intro d
            induction d with
            | zero =>
              intro i i0 i1
              rw [jl_540]
              simp only [zI_lit, zI_sub]
              rw [q_it1 hg hw n1 ce.1 ce.2 (by omega) (by omega) ((gIn_J hm).mpr (by omega)), z_b1, if_neg (fun z => ibs_01 z.symm), jl_541, show i = gwt G e - gLw G e m by omega]
            | succ d ih =>
              intro i i0 i1
              have ih' := ih (i + 1) (by omega) (by omega)
              rw [jl_540]
              simp only [zI_lit, zI_sub, zI_add]
              rw [q_it0 hg hw n1 ce.1 ce.2 (by omega) (by omega) (fun z => by have := (gIn_J hm).mp z; omega), z_b1, if_pos rfl, ih']
          exact loop (gwt G e - gLw G e m).toNat 0 (by omega) (by omega)
    · refine qCl_F hp (zI (-1)) ?_ ?_
      · intro ν hi
        obtain ⟨⟨X, x1, x2⟩, _, _⟩ := iC_R hp.2.2.1 hi
        obtain ⟨t1, t2⟩ := cI_cP (Or.inl rfl) x1
        obtain ⟨ν', h1, h2⟩ := q_joiner hg hw x1 a0 (by omega) c0 (by omega) (c := e) (by omega) (by omega) ac
        refine ⟨ν', ?_, h1⟩
        rcases h2 with ⟨y, h2, h3⟩ | ⟨h2, h3⟩
        · exact absurd (cc_mono (fun f _ _ z => z.1) h2.2.2.2.1) q
        · rw [jl_753, q_ie hg x1 he, z_b1, hde, if_neg zB_t, jl_904, q_942 t2 ce.1 (by omega), z_b1, q_943 t2 ce.1 (by omega), z_b1, h3, z_b1, if_pos (by decide), z_b1, jl_755]
          rfl
      · intro ν ν0 e0 hi0
        have n1 := hi0.1
        rw [jl_535, ← e0, q_rie hg n1 he, z_b1, hde, if_neg zB_t, jl_536]
        simp (disch := omega) only [zI_lit, zI_add, ld_209, z_bo, q_rwt n1]
        rw [q_it1 hg hw n1 ce.1 ce.2 (by omega) (by omega) (h1000.mpr q), z_b1, if_neg (fun z => ibs_01 z.symm)]
        rfl
  · have hde : decide (0 ≤ e ∧ e < gE G) = false := by simp; omega
    refine qCl_same hp (zI (-1)) ?_ ?_
    · intro ν hi
      obtain ⟨⟨X, x1, x2⟩, _, _⟩ := iC_R hp.2.2.1 hi
      rw [jl_753, q_ie hg x1 he, z_b1, hde, if_pos (by decide), jl_754, jl_755]
      rfl
    · intro ν ν0 e0 hi0
      have m1 := hi0.1
      rw [jl_535, ← e0, q_rie hg m1 he, z_b1, hde, if_pos (by decide)]
      rfl
