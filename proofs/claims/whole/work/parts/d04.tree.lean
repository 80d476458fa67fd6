/-! k: the reference's branches, tree, totals -/
theorem q_joinP {G : gG} {S : gS} {ν : ax_M} (hg : hGok G) (hm : mI G S ν) {P : Int → Prop} {n : Int} (n0 : 0 ≤ n) (n1 : n < 12) : aJ 471 [.ref 207, .int (zI n), .int (ibS P)] [] ν = some (some (.int (ibS (gcc G P n))), ν) := by
  have hE := hg.2.2.2.1
  rw [q_joined hg hm n0 n1, ibS_c (fun i i0 i1 => cc_congr (fun e e0 e1 => ibS_b e0 (by omega)))]
theorem ibS_sk {Q : Int → Prop} {e : Int} (h : ¬ Q e) : ibS (fun i => Q i ∧ i < e) = ibS (fun i => Q i ∧ i < e + 1) := ibS_c (fun i i0 i1 => ⟨fun w => ⟨w.1, by omega⟩, fun w => ⟨w.1, by
  have hne : i ≠ e := fun q => h (q ▸ w.1)
  omega⟩⟩)
theorem ibS_pt {Q : Int → Prop} {e : Int} (e0 : 0 ≤ e) (e1 : e < 32) (h : Q e) : ibS (fun i => Q i ∧ i < e) ||| ibo e = ibS (fun i => Q i ∧ i < e + 1) := ibS_add e0 e1 (fun i i0 i1 => ⟨fun w => by
  by_cases q : i = e
  · exact Or.inr q
  · exact Or.inl ⟨w.1, by omega⟩, fun w => by
  rcases w with w | w
  · exact ⟨w.1, by omega⟩
  · rw [w]
    exact ⟨h, by omega⟩⟩)
theorem ibS_fu {Q : Int → Prop} {e : Int} (h : ∀ i, Q i → i < e) : ibS (fun i => Q i ∧ i < e) = ibS Q := ibS_c (fun i i0 i1 => ⟨fun w => w.1, fun w => ⟨w, h i w⟩⟩)
def gBr (G : gG) (S : gS) (e : Int) : Prop := 0 ≤ e ∧ e < gE G ∧ gen S (2 * e) = 1 ∧ gen S (2 * e + 1) = 1
theorem q_br {G : gG} {S : gS} {ν : ax_M} (hg : hGok G) (hm : mI G S ν) (hr : hRs G S) : aJ 477 [.ref 207] [] ν = some (some (.int (ibS (gBr G S))), ν) := by
  have hE := hg.2.2.2.1
  have hE0 := hg.2.2.1
  have key : ∀ (m : Nat) (e : Int), 0 ≤ e → e + m = gE G → aJ 478 [.ref 207, .int (ibS (fun i => gBr G S i ∧ i < e)), .int (zI e)] [] ν = some (some (.int (ibS (gBr G S))), ν) := by
    intro m
    induction m with
    | zero =>
      intro e e0 e1
      rw [jl_478]
      simp (disch := omega) only [zI_lit, q_rE hm, z_bo, p_le]
      rw [if_pos (by omega), jl_480]
      rw [ibS_c (P := fun i => gBr G S i ∧ i < e) (Q := gBr G S) (fun i i0 i1 => ⟨fun h => h.1, fun h => ⟨h, by have := h.2.1; omega⟩⟩)]
    | succ m ih =>
      intro e e0 e1
      have ih' := ih (e + 1) (by omega) (by omega)
      have g0 := hr.1 (2 * e)
      have g1 := hr.1 (2 * e + 1)
      have l0 : ax_ld ax_sh ν 209 (zI (203 + 2 * e)) = some (zI (gen S (2 * e))) := by rw [ld_209 (by omega) (by omega), q_ren hm (by omega) (by omega)]
      have l1 : ax_ld ax_sh ν 209 (zI (203 + 2 * e + 1)) = some (zI (gen S (2 * e + 1))) := by rw [show 203 + 2 * e + 1 = 203 + (2 * e + 1) by omega, ld_209 (by omega) (by omega), q_ren hm (by omega) (by omega)]
      have no : ¬ gBr G S e → aJ 478 [.ref 207, .int (ibS (fun i => gBr G S i ∧ i < e)), .int (zI (e + 1))] [] ν = some (some (.int (ibS (gBr G S))), ν) := by
        intro h
        rw [← ih', ibS_sk h]
      rw [jl_478]
      simp (disch := omega) only [zI_lit, q_rE hm, z_bo, p_le, zI_mul, zI_add, l0, l1, p_eq, jl_479, ibo_d]
      rw [if_neg (by omega)]
      by_cases c0 : gen S (2 * e) = 1
      · rw [if_pos c0]
        by_cases c1 : gen S (2 * e + 1) = 1
        · have hb : gBr G S e := ⟨e0, by omega, c0, c1⟩
          rw [if_pos c1, ibS_add (P := fun i => gBr G S i ∧ i < e) (Q := fun i => gBr G S i ∧ i < e + 1) e0 (by omega) (fun i i0 i1 => ⟨fun w => by
            by_cases q : i = e
            · exact Or.inr q
            · exact Or.inl ⟨w.1, by omega⟩, fun w => by
            rcases w with w | w
            · exact ⟨w.1, by omega⟩
            · rw [w]
              exact ⟨hb, by omega⟩⟩)]
          exact ih'
        · rw [if_neg c1]
          exact no (fun h => c1 h.2.2.2)
      · rw [if_neg c0]
        exact no (fun h => c0 h.2.2.1)
  have k0 := key (gE G).toNat 0 (by omega) (by omega)
  rw [← ibS_0 (fun i i0 i1 h => by omega)] at k0
  rw [jl_477]
  simp only [zI_lit]
  exact k0
/-- the least node joined with n -/
def gLe (G : gG) (P : Int → Prop) (n k : Int) : Prop := 0 ≤ k ∧ k ≤ n ∧ gcc G P n k ∧ ∀ j, 0 ≤ j → j < k → ¬ gcc G P n j
theorem le_ex {G : gG} {P : Int → Prop} {n : Int} (n0 : 0 ≤ n) : ∃ k, gLe G P n k := by
  obtain ⟨k, k0, k1, k2, k3⟩ := lea_ex (P := gcc G P n) (n + 1).toNat ⟨n, n0, by omega, cc_refl⟩
  exact ⟨k, k0, by omega, k2, k3⟩
theorem le_uni {G : gG} {P : Int → Prop} {n k k' : Int} (h : gLe G P n k) (h' : gLe G P n k') : k = k' := by
  obtain ⟨a0, a1, a2, a3⟩ := h
  obtain ⟨b0, b1, b2, b3⟩ := h'
  rcases Int.lt_trichotomy k k' with c | c | c
  · exact absurd a2 (b3 k a0 c)
  · exact c
  · exact absurd b2 (a3 k' b0 c)
theorem q_lw {G : gG} {S : gS} {ν : ax_M} (hg : hGok G) (hm : mI G S ν) (hr : hRs G S) {n k : Int} (n0 : 0 ≤ n) (n1 : n < gN G) (h : gLe G (gBr G S) n k) : aJ 484 [.ref 207, .int (zI n)] [] ν = some (some (.int (zI k)), ν) := by
  have hN := hg.2.1
  obtain ⟨a0, a1, a2, a3⟩ := h
  rw [jl_484, q_br hg hm hr, z_b1, q_joinP hg hm n0 (by omega), z_b1, q_lowest a0 (by omega) a2 a3, z_b1]
/-- with weight w, e is in the least tree -/
def gIn (G : gG) (e w : Int) : Prop := ¬ gcc G (fun f => f ≠ e ∧ (gwt G f < w ∨ (gwt G f = w ∧ f < e))) (gfr G e) (gsc G e)
theorem q_itx {G : gG} {S : gS} {ν : ax_M} (hg : hGok G) (hw : hGw G) (hm : mI G S ν) {e w : Int} (e0 : 0 ≤ e) (e1 : e < gE G) (w0 : -10000 ≤ w) (w1 : w ≤ 10000) : aJ 507 [.ref 207, .int (zI e), .int (zI w)] [] ν = aJ 511 [.ref 207, .int (zI e), .int (ibS (fun f => f ≠ e ∧ (gwt G f < w ∨ (gwt G f = w ∧ f < e)) ∧ f < gE G))] [] ν := by
  have hE := hg.2.2.2.1
  have hE0 := hg.2.2.1
  have key : ∀ (m : Nat) (f : Int), 0 ≤ f → f + m = gE G → aJ 508 [.ref 207, .int (zI e), .int (zI w), .int (ibS (fun i => i ≠ e ∧ (gwt G i < w ∨ (gwt G i = w ∧ i < e)) ∧ i < f)), .int (zI f)] [] ν = aJ 511 [.ref 207, .int (zI e), .int (ibS (fun f => f ≠ e ∧ (gwt G f < w ∨ (gwt G f = w ∧ f < e)) ∧ f < gE G))] [] ν := by
    intro m
    induction m with
    | zero =>
      intro f f0 f1
      rw [jl_508]
      simp (disch := omega) only [zI_lit, q_rE hm, z_bo, p_le]
      rw [if_pos (by omega), show f = gE G by omega]
    | succ m ih =>
      intro f f0 f1
      have ih' := ih (f + 1) (by omega) (by omega)
      have hwf := hw f f0 (by omega)
      have no : ¬ (f ≠ e ∧ (gwt G f < w ∨ (gwt G f = w ∧ f < e))) → ibS (fun i => i ≠ e ∧ (gwt G i < w ∨ (gwt G i = w ∧ i < e)) ∧ i < f) = ibS (fun i => i ≠ e ∧ (gwt G i < w ∨ (gwt G i = w ∧ i < e)) ∧ i < f + 1) := by
        intro h
        refine ibS_c (fun i i0 i1 => ⟨fun q => ⟨q.1, q.2.1, by omega⟩, fun q => ⟨q.1, q.2.1, ?_⟩⟩)
        have : i ≠ f := fun z => h (z ▸ ⟨q.1, q.2.1⟩)
        omega
      have yes : (f ≠ e ∧ (gwt G f < w ∨ (gwt G f = w ∧ f < e))) → ibS (fun i => i ≠ e ∧ (gwt G i < w ∨ (gwt G i = w ∧ i < e)) ∧ i < f) ||| ibo f = ibS (fun i => i ≠ e ∧ (gwt G i < w ∨ (gwt G i = w ∧ i < e)) ∧ i < f + 1) := by
        intro h
        refine ibS_add f0 (by omega) (fun i i0 i1 => ⟨fun q => ?_, fun q => ?_⟩)
        · by_cases z : i = f
          · exact Or.inr z
          · exact Or.inl ⟨q.1, q.2.1, by omega⟩
        · rcases q with q | q
          · exact ⟨q.1, q.2.1, by omega⟩
          · rw [q]
            exact ⟨h.1, h.2, by omega⟩
      rw [jl_508]
      simp (disch := omega) only [zI_lit, q_rE hm, z_bo, p_le, p_lt, p_eq, zI_add, ld_209, q_rwt hm, jl_509, jl_510, ibo_d]
      rw [if_neg (by omega)]
      by_cases c0 : f = e
      · rw [if_pos c0, no (by omega)]
        exact ih'
      rw [if_neg c0]
      by_cases c1 : gwt G f < w
      · rw [if_pos c1, yes ⟨c0, Or.inl c1⟩]
        exact ih'
      rw [if_neg c1]
      by_cases c2 : gwt G f = w
      · rw [if_pos c2]
        by_cases c3 : e ≤ f
        · rw [if_pos c3, no (by omega)]
          exact ih'
        · rw [if_neg c3, yes ⟨c0, Or.inr ⟨c2, by omega⟩⟩]
          exact ih'
      · rw [if_neg c2, no (by omega)]
        exact ih'
  have k0 := key (gE G).toNat 0 (by omega) (by omega)
  rw [← ibS_0 (fun i i0 i1 h => by omega)] at k0
  rw [jl_507]
  simp only [zI_lit]
  exact k0
theorem q_ity {G : gG} {S : gS} {ν : ax_M} (hg : hGok G) (hw : hGw G) (hm : mI G S ν) {e w : Int} (e0 : 0 ≤ e) (e1 : e < gE G) (w0 : -10000 ≤ w) (w1 : w ≤ 10000) : aJ 507 [.ref 207, .int (zI e), .int (zI w)] [] ν = if ((ibS (gcc G (fun f => f ≠ e ∧ (gwt G f < w ∨ (gwt G f = w ∧ f < e))) (gfr G e)) >>> (zI (gsc G e) &&& zI 31)) &&& zI 1) = zI 0 then aJ 513 [] [.int (zI 1)] ν else aJ 513 [] [.int (zI 0)] ν := by
  have hE := hg.2.2.2.1
  have hN := hg.2.1
  obtain ⟨a0, a1, c0, c1, ac⟩ := hg.2.2.2.2 e e0 e1
  rw [q_itx hg hw hm e0 e1 w0 w1, jl_511]
  simp (disch := omega) only [zI_lit, z_bo, zI_add, ld_209, q_fr hm, q_sc hm]
  rw [q_joinP hg hm a0 (by omega), z_b1]
  simp (disch := omega) only [zI_lit, z_bo, zI_add, ld_209, q_fr hm, q_sc hm, jl_512]
  rw [ibS_c (P := gcc G (fun f => f ≠ e ∧ (gwt G f < w ∨ (gwt G f = w ∧ f < e)) ∧ f < gE G) (gfr G e)) (Q := gcc G (fun f => f ≠ e ∧ (gwt G f < w ∨ (gwt G f = w ∧ f < e))) (gfr G e)) (fun i i0 i1 => cc_congr (fun f f0 f1 => ⟨fun h => ⟨h.1, h.2.1⟩, fun h => ⟨h.1, h.2, f1⟩⟩))]
theorem q_it1 {G : gG} {S : gS} {ν : ax_M} (hg : hGok G) (hw : hGw G) (hm : mI G S ν) {e w : Int} (e0 : 0 ≤ e) (e1 : e < gE G) (w0 : -10000 ≤ w) (w1 : w ≤ 10000) (h : gIn G e w) : aJ 507 [.ref 207, .int (zI e), .int (zI w)] [] ν = some (some (.int (zI 1)), ν) := by
  have hN := hg.2.1
  obtain ⟨a0, a1, c0, c1, ac⟩ := hg.2.2.2.2 e e0 e1
  rw [q_ity hg hw hm e0 e1 w0 w1, if_pos (ibs_n c0 (by omega) (fun q => h ((ibS_b c0 (by omega)).mp q))), jl_513]
  rfl
theorem q_it0 {G : gG} {S : gS} {ν : ax_M} (hg : hGok G) (hw : hGw G) (hm : mI G S ν) {e w : Int} (e0 : 0 ≤ e) (e1 : e < gE G) (w0 : -10000 ≤ w) (w1 : w ≤ 10000) (h : ¬ gIn G e w) : aJ 507 [.ref 207, .int (zI e), .int (zI w)] [] ν = some (some (.int (zI 0)), ν) := by
  have hN := hg.2.1
  obtain ⟨a0, a1, c0, c1, ac⟩ := hg.2.2.2.2 e e0 e1
  have h' : gcc G (fun f => f ≠ e ∧ (gwt G f < w ∨ (gwt G f = w ∧ f < e))) (gfr G e) (gsc G e) := Classical.byContradiction h
  rw [q_ity hg hw hm e0 e1 w0 w1, if_neg (by rw [ibs_p c0 (by omega) ((ibS_b c0 (by omega)).mpr h')]; exact fun q => ibs_01 q.symm), jl_513]
  rfl
theorem gIn_T {G : gG} {e : Int} : gIn G e (gwt G e) ↔ gT G e := by
  unfold gIn gT
  refine not_congr (cc_congr (fun f f0 f1 => ?_))
  unfold glo
  constructor
  · rintro ⟨a, b⟩
    exact b
  · intro b
    exact ⟨by rintro rfl; omega, b⟩
def gTr (G : gG) (e : Int) : Prop := 0 ≤ e ∧ e < gE G ∧ gT G e
theorem q_tree {G : gG} {S : gS} {ν : ax_M} (hg : hGok G) (hw : hGw G) (hm : mI G S ν) : aJ 514 [.ref 207] [] ν = some (some (.int (ibS (gTr G))), ν) := by
  have hE := hg.2.2.2.1
  have hE0 := hg.2.2.1
  have key : ∀ (m : Nat) (e : Int), 0 ≤ e → e + m = gE G → aJ 515 [.ref 207, .int (ibS (fun i => gTr G i ∧ i < e)), .int (zI e)] [] ν = some (some (.int (ibS (gTr G))), ν) := by
    intro m
    induction m with
    | zero =>
      intro e e0 e1
      rw [jl_515]
      simp (disch := omega) only [zI_lit, q_rE hm, z_bo, p_le]
      rw [if_pos (by omega), jl_517]
      rw [ibS_c (P := fun i => gTr G i ∧ i < e) (Q := gTr G) (fun i i0 i1 => ⟨fun h => h.1, fun h => ⟨h, by have := h.2.1; omega⟩⟩)]
    | succ m ih =>
      intro e e0 e1
      have ih' := ih (e + 1) (by omega) (by omega)
      have hwe := hw e e0 (by omega)
      rw [jl_515]
      simp (disch := omega) only [zI_lit, q_rE hm, z_bo, p_le, zI_add, ld_209, q_rwt hm, jl_516, ibo_d]
      rw [if_neg (by omega)]
      by_cases c : gT G e
      · rw [q_it1 hg hw hm e0 (by omega) (by omega) (by omega) (gIn_T.mpr c), z_b1]
        rw [if_neg (fun q => ibs_01 q.symm), ibS_add (P := fun i => gTr G i ∧ i < e) (Q := fun i => gTr G i ∧ i < e + 1) e0 (by omega) (fun i i0 i1 => ⟨fun w => by
            by_cases q : i = e
            · exact Or.inr q
            · exact Or.inl ⟨w.1, by omega⟩, fun w => by
            rcases w with w | w
            · exact ⟨w.1, by omega⟩
            · rw [w]
              exact ⟨⟨e0, by omega, c⟩, by omega⟩⟩)]
        exact ih'
      · rw [q_it0 hg hw hm e0 (by omega) (by omega) (by omega) (fun q => c (gIn_T.mp q)), z_b1, if_pos rfl]
        rw [← ih', ibS_sk (fun q => c q.2.2)]
  have k0 := key (gE G).toNat 0 (by omega) (by omega)
  rw [← ibS_0 (fun i i0 i1 h => by omega)] at k0
  rw [jl_514]
  simp only [zI_lit]
  exact k0
noncomputable def gTo (G : gG) (P : Int → Prop) : Nat → Int := psm (fun e => @ite _ (P e) (Classical.propDecidable _) (gwt G e) 0)
theorem q_total {G : gG} {S : gS} {ν : ax_M} (hg : hGok G) (hm : mI G S ν) {P : Int → Prop} : aJ 518 [.ref 207, .int (ibS P)] [] ν = some (some (.int (zI (gTo G P (gE G).toNat))), ν) := by
  have hE := hg.2.2.2.1
  have hE0 := hg.2.2.1
  have key : ∀ (m e : Nat), (e : Int) + m = gE G → aJ 519 [.ref 207, .int (ibS P), .int (zI (gTo G P e)), .int (zI e)] [] ν = some (some (.int (zI (gTo G P (gE G).toNat))), ν) := by
    intro m
    induction m with
    | zero =>
      intro e e1
      rw [jl_519]
      simp (disch := omega) only [zI_lit, q_rE hm, z_bo, p_le]
      rw [if_pos (by omega), jl_521, show e = (gE G).toNat by omega]
    | succ m ih =>
      intro e e1
      have ih' := ih (e + 1) (by omega)
      have es : gTo G P (e + 1) = gTo G P e + @ite _ (P e) (Classical.propDecidable _) (gwt G e) 0 := rfl
      rw [es] at ih'
      rw [jl_519]
      simp (disch := omega) only [zI_lit, q_rE hm, z_bo, p_le, zI_add, ld_209, q_rwt hm, jl_520]
      rw [if_neg (by omega)]
      by_cases c : P e
      · rw [if_pos c] at ih'
        rw [if_pos (ibs_p (by omega) (by omega) ((ibS_b (by omega) (by omega)).mpr c))]
        exact ih'
      · rw [if_neg c, Int.add_zero] at ih'
        rw [if_neg (by rw [ibs_n (by omega) (by omega) (fun q => c ((ibS_b (by omega) (by omega)).mp q))]; exact ibs_01)]
        exact ih'
  rw [jl_518]
  simp only [zI_lit]
  exact key (gE G).toNat 0 (by omega)
