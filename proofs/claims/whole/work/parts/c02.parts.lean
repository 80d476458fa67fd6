/-! j: small checks; what an act notes and keeps -/
theorem pOK_L {G : gG} {S : gS} {U : List gU} {K : qK} (h : pOK G S U K) : 0 ≤ gnL S ∧ gnL S ≤ 252 := by
  have := h_cnt h.1 h.2.2.1.1 (by omega)
  omega
theorem q_in {G : gG} {S : gS} {X : cX} {ν : ax_M} (hg : hGok G) (hν : cI 29 G S X ν) {n : Int} (hn : zR n) : aJ 808 [.ref 0, .int (zI n)] [] ν = some (some (.int (zB (decide (0 ≤ n ∧ n < gN G)))), ν) := by
  have h1 := hg.1
  have h2 := hg.2.1
  obtain ⟨z1, z2⟩ := hn
  rw [jl_808, q_N hν (Or.inl rfl)]
  simp (disch := omega) only [zI_lit, p_lt, p_le]
  by_cases c : n < 0
  · rw [if_pos c, jl_809, jl_810, if_pos (Or.inl rfl), show decide (0 ≤ n ∧ n < gN G) = false by simp; omega]
    rfl
  · rw [if_neg c]
    by_cases d : gN G ≤ n
    · rw [if_pos d, jl_809, jl_810, if_pos (Or.inl rfl), show decide (0 ≤ n ∧ n < gN G) = false by simp; omega]
      rfl
    · rw [if_neg d, jl_810, if_pos (Or.inr (show zI 1 = 1 from rfl)), show decide (0 ≤ n ∧ n < gN G) = true by simp; omega]
      rfl
theorem q_ie {G : gG} {S : gS} {X : cX} {ν : ax_M} (hg : hGok G) (hν : cI 29 G S X ν) {n : Int} (hn : zR n) : aJ 811 [.ref 0, .int (zI n)] [] ν = some (some (.int (zB (decide (0 ≤ n ∧ n < gE G)))), ν) := by
  have h1 := hg.2.2.1
  have h2 := hg.2.2.2.1
  obtain ⟨z1, z2⟩ := hn
  rw [jl_811, q_E hν (Or.inl rfl)]
  simp (disch := omega) only [zI_lit, p_lt, p_le]
  by_cases c : n < 0
  · rw [if_pos c, jl_812, jl_813, if_pos (Or.inl rfl), show decide (0 ≤ n ∧ n < gE G) = false by simp; omega]
    rfl
  · rw [if_neg c]
    by_cases d : gE G ≤ n
    · rw [if_pos d, jl_812, jl_813, if_pos (Or.inl rfl), show decide (0 ≤ n ∧ n < gE G) = false by simp; omega]
      rfl
    · rw [if_neg d, jl_813, if_pos (Or.inr (show zI 1 = 1 from rfl)), show decide (0 ≤ n ∧ n < gE G) = true by simp; omega]
      rfl
theorem q_iw {G : gG} {S : gS} {X : cX} {ν : ax_M} (hg : hGok G) (hν : cI 29 G S X ν) {n : Int} (hn : zR n) : aJ 814 [.ref 0, .int (zI n)] [] ν = some (some (.int (zB (decide (0 ≤ n ∧ n < 2 * gE G)))), ν) := by
  have h1 := hg.2.2.1
  have h2 := hg.2.2.2.1
  obtain ⟨z1, z2⟩ := hn
  rw [jl_814, q_E hν (Or.inl rfl)]
  simp (disch := omega) only [zI_lit, zI_mul, p_lt, p_le]
  by_cases c : n < 0
  · rw [if_pos c, jl_815, jl_816, if_pos (Or.inl rfl), show decide (0 ≤ n ∧ n < 2 * gE G) = false by simp; omega]
    rfl
  · rw [if_neg c]
    by_cases d : 2 * gE G ≤ n
    · rw [if_pos d, jl_815, jl_816, if_pos (Or.inl rfl), show decide (0 ≤ n ∧ n < 2 * gE G) = false by simp; omega]
      rfl
    · rw [if_neg d, jl_816, if_pos (Or.inr (show zI 1 = 1 from rfl)), show decide (0 ≤ n ∧ n < 2 * gE G) = true by simp; omega]
      rfl
theorem q_il {G : gG} {S : gS} {X : cX} {ν : ax_M} (hL0 : 0 ≤ gnL S) (hL : gnL S ≤ 256) (hν : cI 29 G S X ν) {n : Int} (hn : zR n) : aJ 817 [.ref 0, .int (zI n)] [] ν = some (some (.int (zB (decide (0 ≤ n ∧ n < gnL S)))), ν) := by
  obtain ⟨z1, z2⟩ := hn
  rw [jl_817, q_fL hν (Or.inl rfl)]
  simp (disch := omega) only [zI_lit, p_lt, p_le]
  by_cases c : n < 0
  · rw [if_pos c, jl_818, jl_819, if_pos (Or.inl rfl), show decide (0 ≤ n ∧ n < gnL S) = false by simp; omega]
    rfl
  · rw [if_neg c]
    by_cases d : gnL S ≤ n
    · rw [if_pos d, jl_818, jl_819, if_pos (Or.inl rfl), show decide (0 ≤ n ∧ n < gnL S) = false by simp; omega]
      rfl
    · rw [if_neg d, jl_819, if_pos (Or.inr (show zI 1 = 1 from rfl)), show decide (0 ≤ n ∧ n < gnL S) = true by simp; omega]
      rfl
theorem zb01 (b : Bool) : zB b = 0 ∨ zB b = 1 := by cases b; exact Or.inl rfl; exact Or.inr rfl
theorem q_rin {G : gG} {S : gS} {ν : ax_M} (hg : hGok G) (hm : mI G S ν) {n : Int} (hn : zR n) : aJ 176 [.ref 207, .int (zI n)] [] ν = some (some (.int (zB (decide (0 ≤ n ∧ n < gN G)))), ν) := by
  have h1 := hg.1
  have h2 := hg.2.1
  rw [jl_176]
  simp only [zI_lit, q_rN hm, z_bo, zI_sub]
  rw [mz_isIn hn (zR_of (by omega)) (zR_of (by omega)), z_b1]
  simp only [show zI 0 = (0 : Int32) from rfl, show zI 1 = (1 : Int32) from rfl]
  rw [if_pos (zb01 _), show decide (0 ≤ n ∧ n ≤ gN G - 1) = decide (0 ≤ n ∧ n < gN G) from decide_eq_decide.mpr (by omega)]
theorem q_rie {G : gG} {S : gS} {ν : ax_M} (hg : hGok G) (hm : mI G S ν) {n : Int} (hn : zR n) : aJ 177 [.ref 207, .int (zI n)] [] ν = some (some (.int (zB (decide (0 ≤ n ∧ n < gE G)))), ν) := by
  have h1 := hg.2.2.1
  have h2 := hg.2.2.2.1
  rw [jl_177]
  simp only [zI_lit, q_rE hm, z_bo, zI_sub]
  rw [mz_isIn hn (zR_of (by omega)) (zR_of (by omega)), z_b1]
  simp only [show zI 0 = (0 : Int32) from rfl, show zI 1 = (1 : Int32) from rfl]
  rw [if_pos (zb01 _), show decide (0 ≤ n ∧ n ≤ gE G - 1) = decide (0 ≤ n ∧ n < gE G) from decide_eq_decide.mpr (by omega)]
theorem q_riw {G : gG} {S : gS} {ν : ax_M} (hg : hGok G) (hm : mI G S ν) {n : Int} (hn : zR n) : aJ 387 [.ref 207, .int (zI n)] [] ν = some (some (.int (zB (decide (0 ≤ n ∧ n < 2 * gE G)))), ν) := by
  have h1 := hg.2.2.1
  have h2 := hg.2.2.2.1
  rw [jl_387]
  simp only [zI_lit, q_rE hm, z_bo, zI_mul, zI_sub]
  rw [mz_isIn hn (zR_of (by omega)) (zR_of (by omega)), z_b1]
  simp only [show zI 0 = (0 : Int32) from rfl, show zI 1 = (1 : Int32) from rfl]
  rw [if_pos (zb01 _), show decide (0 ≤ n ∧ n ≤ 2 * gE G - 1) = decide (0 ≤ n ∧ n < 2 * gE G) from decide_eq_decide.mpr (by omega)]
theorem iM_u0 {G : gG} {S : gS} {U : List gU} {K : qK} {ν : ax_M} {x : Int32} (hK : rok (kR K)) (hi : iM G S U K ν) : iM G S U K (ax_uD ν 207 0 x) := by
  have f : fr [207] ν (ax_uD ν 207 0 x) := fr_uD (by decide)
  obtain ⟨a1, a2, a3⟩ := hi
  exact ⟨mI_fr f (by decide) a1, uM_fr f (by decide) (uD_nk (by decide) 207) a2, jM_fr f (by intro a ha; simp at ha; unfold jMs; omega) (fun k hk => uD_nk (by omega) 207) (bgf f (by decide)) hK a3⟩
theorem frM_u0 {ν : ax_M} {k : Nat} {x : Int32} : frM ν (ax_uD ν 207 k x) := frM_of (fr_uD (l := [207]) (by decide)) (by simp)
theorem frM_t {ν ν' ν'' : ax_M} (h : frM ν ν') (h' : frM ν' ν'') : frM ν ν'' := fun a ha => (h' a ha).trans (h a ha)
theorem frM_z {ν : ax_M} : frM ν ν := fun _ _ => rfl
theorem frC_t {ν ν' ν'' : ax_M} (h : frC ν ν') (h' : frC ν' ν'') : frC ν ν'' := ⟨h'.1.trans h.1, fun a ha => (h'.2 a ha).trans (h.2 a ha)⟩
theorem frC_z {ν : ax_M} : frC ν ν := ⟨rfl, fun _ _ => rfl⟩
/-- nothing has been thrown -/
theorem iM_th {G : gG} {S : gS} {U : List gU} {K : qK} {ν : ax_M} (hK : rok (kR K)) (hi : iM G S U K ν) : ∃ ν0, ν0 = ax_uD ν 207 0 0 ∧ iM G S U K ν0 ∧ frM ν ν0 := ⟨_, rfl, iM_u0 hK hi, frM_u0⟩
/-- the class while an act is lived -/
def iN (G G0 : gG) (S0 S : gS) (U : List gU) (K : qK) (ν : ax_M) : Prop := (∃ X, cI 29 G S X ν ∧ XR G S X) ∧ uN G U (gwt G0, S0) ν ∧ jC K ν
theorem note_ok {G : gG} {S : gS} {U : List gU} {K : qK} {ν : ax_M} (hp : pOK G S U K) (hi : iC G S U K ν) : ∃ ν', aJ 826 [.ref 0] [] ν = some (none, ν') ∧ iN G G S S U K ν' ∧ frC ν ν' := by
  have hL := pOK_L hp
  obtain ⟨⟨X, a1, a2⟩, b, c⟩ := iC_R hp.2.2.1 hi
  obtain ⟨ν', t, e1, e2, e3⟩ := q_note hp.2.2.2.2.1 (cI_cP (Or.inl rfl) a1).1 a2 hL.1 (by omega) b
  have n0 : 0 ∉ cOL (pc t) := fun q => by have := cOL_pc q; omega
  have n13 : 13 ∉ cOL (pc t) := fun q => by have := cOL_pc q; omega
  refine ⟨ν', e1, ⟨⟨X, cI_fr (Or.inl rfl) e3 (fun a ha => by have := cOL_pc ha; omega) a1, a2⟩, e2, jC_fr e3 (fun a ha => by have := cOL_pc ha; unfold jCs; omega) (fr_at e3 n13 0) (fr_at e3 n0 1) (fr_at e3 n0 15) (fr_at e3 n0 16) c⟩, frC_of e3 (fun a ha => by have := cOL_pc ha; omega)⟩
theorem iN_st {G G' G0 : gG} {S S' S0 : gS} {U : List gU} {K : qK} {l : List Nat} {X' : cX} {ν ν' : ax_M} (hG : ∀ S X, XR G S X → XR G' S X) (hf : fr l ν ν') (hl : ∀ a, a ∈ l → (13 = a ∨ a = 19 ∨ a = 20 ∨ (29 ≤ a ∧ a ≤ 50))) (h13 : ν'.1 13 0 = ν.1 13 0) (hc : cI 29 G' S' X' ν') (hx : XR G' S' X') (hi : iN G G0 S0 S U K ν) : iN G' G0 S0 S' U K ν' := by
  obtain ⟨_, b, c⟩ := hi
  have n0 : 0 ∉ l := fun q => by have := hl 0 q; omega
  obtain ⟨top, b1, b2, b3, b4, ⟨X0, b5, b6⟩, b7⟩ := uN_fr hf (fun a ha => by have := hl a ha; omega) (fr_at hf n0 10) (fr_at hf n0 11) b
  exact ⟨⟨X', hc, hx⟩, ⟨top, b1, b2, b3, b4, ⟨X0, b5, hG _ _ b6⟩, fun j e he => by obtain ⟨Y, y1, y2⟩ := b7 j e he; exact ⟨Y, y1, hG _ _ y2⟩⟩, jC_fr hf (fun a ha => by have := hl a ha; unfold jCs; omega) h13 (fr_at hf n0 1) (fr_at hf n0 15) (fr_at hf n0 16) c⟩
theorem keep_ok {G G0 : gG} {S S0 : gS} {U : List gU} {K : qK} {ν : ax_M} (hU : uOK G U) (hi : iN G G0 S0 S U K ν) : ∃ ν', aJ 828 [.ref 0] [] ν = some (none, ν') ∧ iC G S (pushU U (gwt G0, S0)) K ν' ∧ frC ν ν' := by
  obtain ⟨⟨X, a1, a2⟩, b, c⟩ := hi
  obtain ⟨ν', e1, e2, e3, e4⟩ := q_keep hU b
  refine ⟨ν', e1, ⟨⟨X, cI_fr (Or.inl rfl) e3 (by intro a ha; simp at ha; omega) a1, Or.inl a2⟩, e2, jC_fr e3 (by intro a ha; simp at ha; unfold jCs; omega) (fr_at e3 (by decide) 0) (e4 1 (by decide) (by decide)) (e4 15 (by decide) (by decide)) (e4 16 (by decide) (by decide)) c⟩, frC_of e3 (by intro a ha; simp at ha; omega)⟩
theorem drop_ok {G G0 : gG} {S S0 : gS} {U : List gU} {K : qK} {ν : ax_M} (hi : iN G G0 S0 S U K ν) : iC G S U K ν := ⟨hi.1.imp (fun _ h => ⟨h.1, Or.inl h.2⟩), uN_uC hi.2.1, hi.2.2⟩
/-- the class's run goes on, nothing noted -/
theorem iC_st {G : gG} {S S' : gS} {U : List gU} {K : qK} {l : List Nat} {X' : cX} {ν ν' : ax_M} (hf : fr l ν ν') (hl : ∀ a, a ∈ l → (13 = a ∨ a = 19 ∨ a = 20 ∨ (29 ≤ a ∧ a ≤ 50) ∨ (202 ≤ a ∧ a ≤ 204))) (h13 : ν'.1 13 0 = ν.1 13 0) (hc : cI 29 G S' X' ν') (hx : XR G S' X') (hi : iC G S U K ν) : iC G S' U K ν' := by
  obtain ⟨_, b, c⟩ := hi
  have n0 : 0 ∉ l := fun q => by have := hl 0 q; omega
  exact ⟨⟨X', hc, Or.inl hx⟩, uC_fr hf (fun a ha => by have := hl a ha; omega) (fr_at hf n0 10) (fr_at hf n0 11) b, jC_fr hf (fun a ha => by have := hl a ha; unfold jCs; omega) h13 (fr_at hf n0 1) (fr_at hf n0 15) (fr_at hf n0 16) c⟩
/-- the reference: a state is snapped; it goes on -/
theorem snap_ok {G : gG} {S : gS} {U : List gU} {K : qK} {ν : ax_M} (hp : pOK G S U K) (hi : iM G S U K ν) : ∃ ν', aJ 405 [.ref 207] [] ν = some (none, ν') ∧ iM G S (pushU U (gwt G, S)) K ν' ∧ frM ν ν' := by
  obtain ⟨a1, a2, a3⟩ := hi
  obtain ⟨ν', e1, e2, e3, e4, e5⟩ := q_snap hp.1 hp.2.2.1 hp.2.2.2.2.1 a1 a2
  exact ⟨ν', e1, ⟨e3, e2, jM_fr e4 (by intro a ha; simp at ha; unfold jMs; omega) (fun k hk => e5 k (by omega)) (bgf e4 (by decide)) hp.2.2.2.2.2.2.1.1 a3⟩, frM_of e4 (by intro a ha; simp at ha; omega)⟩
theorem iM_st {G G' : gG} {S S' : gS} {U : List gU} {K : qK} {l : List Nat} {ν ν' : ax_M} (hf : fr l ν ν') (hl : ∀ a, a ∈ l → (a = 207 ∨ a = 209 ∨ a = 210 ∨ (213 ≤ a ∧ a ≤ 214) ∨ (219 ≤ a ∧ a ≤ 223))) (h7 : ∀ k, k ≠ 0 → k ≠ 32 → ν'.1 207 k = ν.1 207 k) (hb : bgR ν ν') (hK : rok (kR K)) (hm : mI G' S' ν') (hi : iM G S U K ν) : iM G' S' U K ν' := by
  obtain ⟨_, a2, a3⟩ := hi
  exact ⟨hm, uM_fr hf (fun q => by have := hl _ q; omega) (h7 24 (by decide) (by decide)) a2, jM_fr hf (fun a ha => by have := hl a ha; unfold jMs; omega) (fun k hk => h7 k (by omega) (by omega)) hb hK a3⟩
