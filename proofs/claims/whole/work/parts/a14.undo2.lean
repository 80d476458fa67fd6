/-! u: the reference's rows of states that can be come back to -/
def uM (U : List gU) (ν : ax_M) : Prop := ν.1 207 24 = zI (U.length : Nat) ∧ ∀ (j : Nat) e, U[j]? = some e → sP (fun i => ν.1 212 (2293 * ((U.length : Nat) - 1 - j : Int) - 173 + i).toNat) e.1 e.2
theorem uM_fr {U : List gU} {l : List Nat} {ν ν' : ax_M} (h : fr l ν ν') (hl : 212 ∉ l) (h24 : ν'.1 207 24 = ν.1 207 24) (hu : uM U ν) : uM U ν' := by
  unfold uM
  rw [h24, h.2 212 hl]
  exact hu
theorem len_of {U : List gU} {j : Nat} {x : gU} (h : U[j]? = some x) : j < U.length := by
  by_cases q : j < U.length
  · exact q
  · rw [List.getElem?_eq_none (by omega)] at h
    cases h
theorem sh_212 : (ax_sh 212).1 = 1 ∧ (ax_sh 212).2.1 = 18344 := by decide
theorem sh_213 : (ax_sh 213).1 = 1 ∧ (ax_sh 213).2.1 = 2293 := by decide
theorem sh_214 : (ax_sh 214).1 = 1 ∧ (ax_sh 214).2.1 = 2293 := by decide
theorem u_cnt {G : gG} {U : List gU} (hg : hGok G) (hU : uOK G U) {e : gU} (he : e ∈ U) : gnL e.2 ≤ 252 := by
  have hg' : hGok (gGW G e.1) := hg
  have := h_cnt hg' (hU.2 e he).1.1 (by omega)
  omega
theorem q_shf {ν : ax_M} : ∃ ν', aJ 406 [.ref 207, .int (zI 0)] [] ν = aJ 407 [.ref 207] [] ν' ∧ (∀ k : Nat, k < 16051 → ν'.1 212 k = ν.1 212 (k + 2293)) ∧ fr [212] ν ν' := by
  have loop : ∀ (m : Nat) (k : Int) (ν1 : ax_M), 0 ≤ k → k + m = 16051 → (∀ j : Nat, (j : Int) < k → ν1.1 212 j = ν.1 212 (j + 2293)) → (∀ j : Nat, k ≤ j → ν1.1 212 j = ν.1 212 j) → fr [212] ν ν1 → ∃ ν', aJ 406 [.ref 207, .int (zI k)] [] ν1 = aJ 407 [.ref 207] [] ν' ∧ (∀ k : Nat, k < 16051 → ν'.1 212 k = ν.1 212 (k + 2293)) ∧ fr [212] ν ν' := by
    intro m
    induction m with
    | zero =>
      intro k ν1 k0 k1 h1 h2 h3
      refine ⟨ν1, ?_, fun j hj => h1 j (by omega), h3⟩
      rw [jl_406]
      simp (disch := omega) only [zI_lit, p_le]
      rw [if_pos (by omega)]
    | succ m ih =>
      intro k ν1 k0 k1 h1 h2 h3
      have hv : ν1.1 212 (k + 2293).toNat = ν.1 212 (k.toNat + 2293) := by
        rw [h2 _ (by omega), show (k + 2293).toNat = k.toNat + 2293 by omega]
      obtain ⟨ν', e1, e2⟩ := ih (k + 1) (ax_up ν1.1 212 k.toNat (ν.1 212 (k.toNat + 2293)), ν1.2) (by omega) (by omega) (fun j hj => by
        by_cases c : j = k.toNat
        · rw [c]
          exact up_at
        · exact (up_nk c).trans (h1 j (by omega))) (fun j hj => (up_nk (by omega)).trans (h2 j (by omega))) (frt h3 (fru (by decide)))
      refine ⟨ν', ?_, e2⟩
      rw [jl_406]
      simp (disch := omega) only [zI_lit, p_le, zI_add, ld_212, z_bo, hv, st_212]
      rw [if_neg (by omega)]
      exact e1
  exact loop 16051 0 ν (by omega) (by omega) (fun j hj => by omega) (fun j _ => rfl) frz
theorem q_snap {G : gG} {S : gS} {U : List gU} {ν : ax_M} (hg : hGok G) (hv : hV G S) (hU : uOK G U) (hm : mI G S ν) (hu : uM U ν) : ∃ ν', aJ 405 [.ref 207] [] ν = some (none, ν') ∧ uM (pushU U (gwt G, S)) ν' ∧ mI G S ν' ∧ fr [207, 212] ν ν' ∧ (∀ k, k ≠ 24 → ν'.1 207 k = ν.1 207 k) := by
  have hcn := h_cnt hg hv.1 (by omega)
  have hU8 := hU.1
  have hlen := push_len (U := U) (e := (gwt G, S))
  obtain ⟨u1, u2⟩ := hu
  -- from n ≥ 0 kept at the front
  have fin : ∀ (n : Nat) (ν1 : ax_M), n ≤ 7 → n + 1 = (pushU U (gwt G, S)).length → ν1.1 207 24 = zI (n : Nat) → mI G S ν1 → (∀ (j : Nat) e, (pushU U (gwt G, S))[j + 1]? = some e → sP (fun i => ν1.1 212 (2293 * ((n : Nat) - 1 - j : Int) - 173 + i).toNat) e.1 e.2 ∧ gnL e.2 ≤ 252) → ∃ ν', aJ 408 [.ref 207] [] ν1 = some (none, ν') ∧ uM (pushU U (gwt G, S)) ν' ∧ mI G S ν' ∧ fr [207, 212] ν1 ν' ∧ (∀ k, k ≠ 24 → ν'.1 207 k = ν1.1 207 k) := by
    intro n ν1 hn hn1 h24 hm1 hj
    obtain ⟨ν2, a1, a2, a3, a4⟩ := q_sv (d := 2293 * (n : Int)) sh_212 (by decide) (by omega) (by omega) (by decide) (by omega) hm1
    have e24 : ν2.1 207 24 + (1 : Int32) = zI ((pushU U (gwt G, S)).length : Nat) := by
      rw [fr_at a3 (by decide) 24, h24]
      simp only [zI_lit, zI_add]
      exact congrArg zI (by omega)
    have ff : fr [207] ν2 (ax_uD ν2 207 24 (zI ((pushU U (gwt G, S)).length : Nat))) := fr_uD (by decide)
    refine ⟨_, ?_, ⟨uD_at, ?_⟩, mI_fr ff (by decide) (mI_fr a3 (by decide) hm1), frt (frm a3 (by simp)) (frm ff (by simp)), fun k q => (uD_nk q 207).trans (fr_at a3 (by decide) k)⟩
    · rw [jl_408, h24]
      simp (disch := omega) only [zI_lit, zI_mul]
      rw [a1, z_b0, show zI 1 = (1 : Int32) from rfl, e24]
    · intro j e hje
      have hjl := len_of hje
      cases j with
      | zero =>
        rw [push_0] at hje
        cases hje
        refine sP_congr (show gnL S ≤ 260 by omega) ?_ a2
        intro i i0 i1
        rw [uD_ne (by decide)]
        exact congrArg (ν2.1 212) (by omega)
      | succ j =>
        obtain ⟨h1, h2⟩ := hj j e hje
        refine sP_congr (by omega) ?_ h1
        intro i i0 i1
        rw [uD_ne (by decide), a4 _ (by omega)]
        exact congrArg (ν1.1 212) (by omega)
  rw [jl_405, u1]
  simp (disch := omega) only [zI_lit, p_eq]
  by_cases q : U.length = 8
  · obtain ⟨ν1, b1, b2, b3⟩ := q_shf (ν := ν)
    have e24 : ν1.1 207 24 - (1 : Int32) = zI ((7 : Nat) : Int) := by
      rw [fr_at b3 (by decide) 24, u1, q]
      rfl
    have ff : fr [207] ν1 (ax_uD ν1 207 24 (zI ((7 : Nat) : Int))) := fr_uD (by decide)
    have hj7 : ∀ (j : Nat) e, (pushU U (gwt G, S))[j + 1]? = some e → sP (fun i => (ax_uD ν1 207 24 (zI ((7 : Nat) : Int))).1 212 (2293 * ((7 : Nat) - 1 - j : Int) - 173 + i).toNat) e.1 e.2 ∧ gnL e.2 ≤ 252 := by
      intro j e hje
      obtain ⟨h1, h2⟩ := push_s hje
      have hmem : e ∈ U := List.mem_of_getElem? h1
      have hc := u_cnt hg hU hmem
      have hg7 : ∀ i : Int, 173 ≤ i → i < 2466 → (ax_uD ν1 207 24 (zI ((7 : Nat) : Int))).1 212 (2293 * ((7 : Nat) - 1 - j : Int) - 173 + i).toNat = ν.1 212 (2293 * ((U.length : Nat) - 1 - j : Int) - 173 + i).toNat := by
        intro i i0 i1
        rw [uD_ne (by decide), b2 (2293 * ((7 : Nat) - 1 - j : Int) - 173 + i).toNat (by omega)]
        exact congrArg (ν.1 212) (by omega)
      exact ⟨sP_congr (by omega) hg7 (u2 j e h1), hc⟩
    obtain ⟨ν', c1, c2, c3, c4, c5⟩ := fin 7 (ax_uD ν1 207 24 (zI ((7 : Nat) : Int))) (by omega) (by omega) uD_at (mI_fr ff (by decide) (mI_fr b3 (by decide) hm)) hj7
    refine ⟨ν', ?_, c2, c3, frt (frm b3 (by simp)) (frt (frm ff (by simp)) c4), fun k z => (c5 k z).trans ((uD_nk z 207).trans (fr_at b3 (by decide) k))⟩
    rw [if_pos (by omega), b1, jl_407, e24]
    exact c1
  · obtain ⟨ν', c1, c2, c3, c4, c5⟩ := fin U.length ν (by omega) (by omega) u1 hm (by
      intro j e hje
      obtain ⟨h1, h2⟩ := push_s hje
      have hmem : e ∈ U := List.mem_of_getElem? h1
      exact ⟨u2 j e h1, u_cnt hg hU hmem⟩)
    refine ⟨ν', ?_, c2, c3, c4, c5⟩
    rw [if_neg (by omega)]
    exact c1
/-- what was lived stays: `then` holds what was ahead of it -/
def tP (W : Int → Int) (S : gS) (ν : ax_M) : Prop := sP (fun i => ν.1 214 (0 - 173 + i).toNat) W S
theorem tP_fr {W : Int → Int} {S : gS} {l : List Nat} {ν ν' : ax_M} (h : fr l ν ν') (hl : 214 ∉ l) (ht : tP W S ν) : tP W S ν' := by
  unfold tP
  rw [h.2 214 hl]
  exact ht
theorem q_svT {G : gG} {S : gS} {ν : ax_M} (hL : gnL S ≤ 256) (hm : mI G S ν) : ∃ ν', aJ 399 [.ref 207, .ref 214, .int (zI 0)] [] ν = some (none, ν') ∧ tP (gwt G) S ν' ∧ fr [214] ν ν' := by
  obtain ⟨ν', a1, a2, a3, _⟩ := q_sv (d := 0) sh_214 (by decide) (by omega) (by omega) (by decide) hL hm
  exact ⟨ν', a1, a2, a3⟩
theorem q_cbT {G : gG} {S S' : gS} {W : Int → Int} {ν : ax_M} (hL : gnL S' ≤ 256) (hm : mI G S ν) (ht : tP W S' ν) : ∃ ν', aJ 402 [.ref 207, .ref 214, .int (zI 0)] [] ν = some (none, ν') ∧ mI (gGW G W) S' ν' ∧ fr [209] ν ν' ∧ bgR ν ν' := q_cb (d := 0) sh_214 (by decide) (by omega) (by omega) (by decide) hL hm ht
theorem q_stay {G : gG} {S S0 : gS} {U : List gU} {ν : ax_M} (hg : hGok G) (hv : hV G S) (hv0 : hV G S0) (hU : uOK G U) (hm : mI G S ν) (ht : tP (gwt G) S0 ν) (hu : uM U ν) : ∃ ν', aJ 409 [.ref 207, .int (zI 1)] [] ν = some (none, ν') ∧ uM (pushU U (gwt G, S0)) ν' ∧ mI G S ν' ∧ fr [207, 209, 212, 213] ν ν' ∧ bgR ν ν' ∧ (∀ k, k ≠ 24 → ν'.1 207 k = ν.1 207 k) := by
  have hcn := h_cnt hg hv.1 (by omega)
  have hcn0 := h_cnt hg hv0.1 (by omega)
  obtain ⟨ν1, a1, a2, a3, _⟩ := q_sv (d := 0) sh_213 (by decide) (by omega) (by omega) (by decide) (by omega) hm
  obtain ⟨ν2, b1, b2, b3, b4⟩ := q_cbT (by omega) (mI_fr a3 (by decide) hm) (tP_fr a3 (by decide) ht)
  rw [GW_id] at b2
  obtain ⟨ν3, c1, c2, c3, c4, c5⟩ := q_snap hg hv0 hU b2 (uM_fr b3 (by decide) (fr_at b3 (by decide) 24) (uM_fr a3 (by decide) (fr_at a3 (by decide) 24) hu))
  have s3 : sP (fun i => ν3.1 213 (0 - 173 + i).toNat) (gwt G) S := by
    rw [c4.2 213 (by decide), b3.2 213 (by decide)]
    exact a2
  obtain ⟨ν4, d1, d2, d3, d4⟩ := q_cb (d := 0) (G := G) (S := S0) sh_213 (by decide) (by omega) (by omega) (by decide) (show gnL S ≤ 256 by omega) c3 s3
  rw [GW_id] at d2
  refine ⟨ν4, ?_, uM_fr d3 (by decide) (fr_at d3 (by decide) 24) c2, d2, frt (frm a3 (by simp)) (frt (frm b3 (by simp)) (frt (frm c4 (by simp)) (frm d3 (by simp)))), bgt (bgf a3 (by decide)) (bgt b4 (bgt (bgf c4 (by decide)) d4)), fun k q => (fr_at d3 (by decide) k).trans ((c5 k q).trans ((fr_at b3 (by decide) k).trans (fr_at a3 (by decide) k)))⟩
  rw [jl_409]
  simp (disch := omega) only [zI_lit, p_eq]
  rw [if_neg (by omega), jl_410]
  simp only [zI_lit]
  rw [a1, z_b0, b1, z_b0, c1, z_b0, d1, z_b0]
theorem q_st0 {ν : ax_M} : aJ 409 [.ref 207, .int (zI 0)] [] ν = some (none, ν) := by
  rw [jl_409]
  rfl
theorem q_rund {G : gG} {S : gS} {U : List gU} {e0 : gU} {ν : ax_M} (hg : hGok G) (hU : uOK G (e0 :: U)) (hm : mI G S ν) (hu : uM (e0 :: U) ν) : ∃ ν', aJ 439 [.ref 207] [] ν = some (some (.int (zI (U.length : Nat))), ν') ∧ uM U ν' ∧ mI (gGW G e0.1) e0.2 ν' ∧ fr [207, 209] ν ν' ∧ bgR ν ν' ∧ (∀ k, k ≠ 0 → k ≠ 24 → ν'.1 207 k = ν.1 207 k) := by
  obtain ⟨u1, u2⟩ := hu
  have hU8 := hU.1
  simp only [List.length_cons] at u1 u2 hU8
  have hc := u_cnt hg hU (e := e0) (by simp)
  have f0 : fr [207] ν (ax_uD ν 207 0 0) := fr_uD (by decide)
  have e24 : (ax_uD ν 207 0 0).1 207 24 - (1 : Int32) = zI (U.length : Nat) := by
    rw [uD_nk (by decide), u1]
    simp only [zI_lit, zI_sub]
    exact congrArg zI (by omega)
  have f1 : fr [207] ν (ax_uD (ax_uD ν 207 0 0) 207 24 (zI (U.length : Nat))) := frt f0 (fr_uD (by decide))
  have hk : ∀ k, k ≠ 0 → k ≠ 24 → (ax_uD (ax_uD ν 207 0 0) 207 24 (zI (U.length : Nat))).1 207 k = ν.1 207 k := fun k q q2 => (uD_nk q2 207).trans (uD_nk q 207)
  have h24 : (ax_uD (ax_uD ν 207 0 0) 207 24 (zI (U.length : Nat))).1 207 24 = zI (U.length : Nat) := uD_at
  have hst : aJ 439 [.ref 207] [] ν = aJ 440 [.ref 207] [] (ax_uD ν 207 0 0) := by
    rw [jl_439, uD_nk (by decide), u1]
    simp (disch := omega) only [zI_lit, p_eq]
    rw [if_neg (by omega)]
  have hs0 : sP (fun i => (ax_uD (ax_uD ν 207 0 0) 207 24 (zI (U.length : Nat))).1 212 (2293 * (U.length : Int) - 173 + i).toNat) e0.1 e0.2 := by
    have := u2 0 e0 rfl
    rw [f1.2 212 (by decide)]
    refine sP_congr (by omega) ?_ this
    intro i i0 i1
    exact congrArg (ν.1 212) (by omega)
  obtain ⟨ν', a1, a2, a3, a4⟩ := q_cb (d := 2293 * (U.length : Int)) sh_212 (by decide) (by omega) (by omega) (by decide) (by omega) (mI_fr f1 (by decide) hm) hs0
  refine ⟨ν', ?_, ⟨(fr_at a3 (by decide) 24).trans h24, ?_⟩, a2, frt (frm f1 (by simp)) (frm a3 (by simp)), bgt (bgf f1 (by decide)) a4, fun k q q2 => (fr_at a3 (by decide) k).trans (hk k q q2)⟩
  · rw [hst, jl_440]
    simp only [e24, h24]
    rw [show (2293 : Int32) * zI (U.length : Nat) = zI (2293 * (U.length : Int)) from zI_mul 2293 _, a1, z_b0, fr_at a3 (by decide) 24, h24]
  · intro j e hj
    have hjl := len_of hj
    have hc2 := u_cnt hg hU (e := e) (by simp [List.mem_of_getElem? hj])
    refine sP_congr (by omega) ?_ (u2 (j + 1) e (by rw [List.getElem?_cons_succ]; exact hj))
    intro i i0 i1
    rw [a3.2 212 (by decide), f1.2 212 (by decide)]
    exact congrArg (ν.1 212) (by omega)
