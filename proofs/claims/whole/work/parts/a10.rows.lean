/-! s: states kept elsewhere: the reference's rows -/
def sP (g : Int → Int32) (W : Int → Int) (S : gS) : Prop := (∀ e, 0 ≤ e → e < 30 → g (173 + e) = zI (W e)) ∧ (∀ w, 0 ≤ w → w < 60 → g (203 + w) = zI (gen S w)) ∧ (∀ n f, 0 ≤ n → n < 12 → 0 ≤ f → f < 10 → g (263 + 10 * n + f) = zI (gnd S n f)) ∧ g 383 = zI (gnL S) ∧ g 384 = zI (gdf S) ∧ g 385 = zI (grd S) ∧ (∀ k f, 0 ≤ k → k < gnL S → 0 ≤ f → f < 8 → g (386 + 8 * k + f) = zI (glt S k f))
def nnI (G : gG) (ν : ax_M) : Prop := ν.1 209 0 = zI (gN G) ∧ ν.1 209 1 = zI (gE G) ∧ (∀ e, 0 ≤ e → e < 30 → ν.1 209 (2 + e).toNat = zI (gfr G e)) ∧ (∀ e, 0 ≤ e → e < 30 → ν.1 209 (32 + e).toNat = zI (gsc G e))
def gGW (G : gG) (W : Int → Int) : gG := (gN G, gE G, gfr G, gsc G, W)
theorem GW_id {G : gG} : gGW G (gwt G) = G := rfl
theorem sP_congr {g g' : Int → Int32} {W : Int → Int} {S : gS} (hL : gnL S ≤ 260) (h : ∀ i, 173 ≤ i → i < 2466 → g' i = g i) (hs : sP g W S) : sP g' W S := by
  obtain ⟨a1, a2, a3, a4, a5, a6, a7⟩ := hs
  refine ⟨fun e e0 e1 => (h _ (by omega) (by omega)).trans (a1 e e0 e1), fun e e0 e1 => (h _ (by omega) (by omega)).trans (a2 e e0 e1), fun n f n0 n1 f0 f1 => (h _ (by omega) (by omega)).trans (a3 n f n0 n1 f0 f1), (h _ (by omega) (by omega)).trans a4, (h _ (by omega) (by omega)).trans a5, (h _ (by omega) (by omega)).trans a6, fun k f k0 k1 f0 f1 => (h _ (by omega) (by omega)).trans (a7 k f k0 k1 f0 f1)⟩
theorem mI_sP {G : gG} {S : gS} {ν : ax_M} (hm : mI G S ν) : sP (fun i => ν.1 209 i.toNat) (gwt G) S ∧ nnI G ν := by
  have e : ∀ k, ν.1 209 k = (mM G S ν).1 209 k := fun k => (congrFun (congrFun (congrArg Prod.fst (show mM G S ν = ν from hm)) 209) k).symm
  refine ⟨⟨fun i i0 i1 => q_rwt hm i0 i1, fun i i0 i1 => q_ren hm i0 i1, fun n f n0 n1 f0 f1 => (e _).trans (r_nd n0 n1 f0 f1), (e _).trans r_L, (e _).trans r_D, (e _).trans r_R, fun k f k0 k1 f0 f1 => (e _).trans (r_lt k0 k1 f0 f1)⟩, (e _).trans r_N, (e _).trans r_E, fun i i0 i1 => q_fr hm i0 i1, fun i i0 i1 => q_sc hm i0 i1⟩
theorem sP_mI {G : gG} {W : Int → Int} {S : gS} {ν : ax_M} (hn : nnI G ν) (hs : sP (fun i => ν.1 209 i.toNat) W S) : mI (gGW G W) S ν := by
  obtain ⟨n1, n2, n3, n4⟩ := hn
  obtain ⟨a1, a2, a3, a4, a5, a6, a7⟩ := hs
  refine ax_ext ?_ rfl
  intro a k
  by_cases q : a = 209
  · subst q
    rw [mM_209]
    unfold rrow
    by_cases c1 : (k : Int) < 1
    · rw [if_pos c1, show k = 0 by omega]
      exact n1.symm
    rw [if_neg c1]
    by_cases c2 : (k : Int) < 2
    · rw [if_pos c2, show k = 1 by omega]
      exact n2.symm
    rw [if_neg c2]
    by_cases c3 : (k : Int) < 32
    · rw [if_pos c3]
      have := n3 ((k : Int) - 2) (by omega) (by omega)
      rw [show (2 + ((k : Int) - 2)).toNat = k by omega] at this
      exact this.symm
    rw [if_neg c3]
    by_cases c4 : (k : Int) < 62
    · rw [if_pos c4]
      have := n4 ((k : Int) - 32) (by omega) (by omega)
      rw [show (32 + ((k : Int) - 32)).toNat = k by omega] at this
      exact this.symm
    rw [if_neg c4]
    by_cases c5 : (k : Int) < 173
    · rw [if_pos c5]
    rw [if_neg c5]
    by_cases c6 : (k : Int) < 203
    · rw [if_pos c6]
      have := a1 ((k : Int) - 173) (by omega) (by omega)
      simp only at this
      rw [show (173 + ((k : Int) - 173)).toNat = k by omega] at this
      exact this.symm
    rw [if_neg c6]
    by_cases c7 : (k : Int) < 263
    · rw [if_pos c7]
      have := a2 ((k : Int) - 203) (by omega) (by omega)
      simp only at this
      rw [show (203 + ((k : Int) - 203)).toNat = k by omega] at this
      exact this.symm
    rw [if_neg c7]
    by_cases c8 : (k : Int) < 383
    · rw [if_pos c8]
      have := a3 (((k : Int) - 263) / 10) (((k : Int) - 263) % 10) (by omega) (by omega) (by omega) (by omega)
      simp only at this
      rw [show (263 + 10 * (((k : Int) - 263) / 10) + ((k : Int) - 263) % 10).toNat = k by omega] at this
      exact this.symm
    rw [if_neg c8]
    by_cases c9 : (k : Int) < 384
    · rw [if_pos c9, show k = 383 by omega]
      exact a4.symm
    rw [if_neg c9]
    by_cases c10 : (k : Int) < 385
    · rw [if_pos c10, show k = 384 by omega]
      exact a5.symm
    rw [if_neg c10]
    by_cases c11 : (k : Int) < 386
    · rw [if_pos c11, show k = 385 by omega]
      exact a6.symm
    rw [if_neg c11]
    by_cases c12 : ((k : Int) - 386) / 8 < gnL S
    · rw [if_pos c12]
      have := a7 (((k : Int) - 386) / 8) (((k : Int) - 386) % 8) (by omega) c12 (by omega) (by omega)
      simp only at this
      rw [show (386 + 8 * (((k : Int) - 386) / 8) + ((k : Int) - 386) % 8).toNat = k by omega] at this
      exact this.symm
    rw [if_neg c12]
  · rw [mM_ne q]
theorem nnI_fr {G : gG} {l : List Nat} {ν ν' : ax_M} (h : fr l ν ν') (hl : 209 ∉ l) (hn : nnI G ν) : nnI G ν' := by
  unfold nnI
  rw [h.2 209 hl]
  exact hn
/-- all asleep -/
theorem q_sto {G : gG} {S : gS} {ν : ax_M} (hm : mI G S ν) : ∃ ν', aJ 93 [.ref 207] [] ν = some (none, ν') ∧ mI G gas ν' ∧ fr [209] ν ν' ∧ bgR ν ν' := by
  have fill : ∀ (m : Nat) (k : Int) (ν1 : ax_M), 203 ≤ k → k + m = 2466 → (∀ j : Nat, j < 203 → ν1.1 209 j = ν.1 209 j) → (∀ j : Nat, 203 ≤ j → (j : Int) < k → ν1.1 209 j = zI 0) → fr [209] ν ν1 → ∃ ν', aJ 94 [.ref 207, .int (zI k)] [] ν1 = aJ 95 [.ref 207] [] ν' ∧ (∀ j : Nat, j < 203 → ν'.1 209 j = ν.1 209 j) ∧ (∀ j : Nat, 203 ≤ j → j < 2466 → ν'.1 209 j = zI 0) ∧ fr [209] ν ν' := by
    intro m
    induction m with
    | zero =>
      intro k ν1 k0 k1 h1 h2 h3
      refine ⟨ν1, ?_, h1, fun j j0 j1 => h2 j j0 (by omega), h3⟩
      rw [jl_94]
      simp (disch := omega) only [zI_lit, p_le]
      rw [if_pos (by omega)]
    | succ m ih =>
      intro k ν1 k0 k1 h1 h2 h3
      obtain ⟨ν', e1, e2, e3, e4⟩ := ih (k + 1) (ax_up ν1.1 209 k.toNat (zI 0), ν1.2) (by omega) (by omega) (fun j j0 => (up_nk (by omega)).trans (h1 j j0)) (fun j j0 j1 => by
        by_cases c : j = k.toNat
        · rw [c]
          exact up_at
        · exact (up_nk c).trans (h2 j j0 (by omega))) (frt h3 (fru (by decide)))
      refine ⟨ν', ?_, e2, e3, e4⟩
      rw [jl_94]
      simp (disch := omega) only [zI_lit, p_le, st_209, z_bo, zI_add]
      rw [if_neg (by omega)]
      exact e1
  have inner : ∀ (m : Nat) (n f : Int) (ν1 : ax_M), 0 ≤ n → n < 12 → 2 ≤ f → f + m = 7 → ∃ ν', aJ 97 [.ref 207, .int (zI n), .int (zI f)] [] ν1 = aJ 98 [.ref 207, .int (zI n)] [] ν' ∧ (∀ j : Nat, (263 + 10 * n + f ≤ j ∧ (j : Int) < 263 + 10 * n + 7) → ν'.1 209 j = zI (-1)) ∧ (∀ j : Nat, ¬ (263 + 10 * n + f ≤ j ∧ (j : Int) < 263 + 10 * n + 7) → ν'.1 209 j = ν1.1 209 j) ∧ fr [209] ν1 ν' := by
    intro m
    induction m with
    | zero =>
      intro n f ν1 n0 n1 f0 f1
      refine ⟨ν1, ?_, fun j hj => by omega, fun j _ => rfl, frz⟩
      rw [jl_97]
      simp (disch := omega) only [zI_lit, p_lt]
      rw [if_pos (by omega)]
    | succ m ih =>
      intro n f ν1 n0 n1 f0 f1
      obtain ⟨ν', e1, e2, e3, e4⟩ := ih n (f + 1) (ax_up ν1.1 209 (263 + 10 * n + f).toNat (zI (-1)), ν1.2) n0 n1 (by omega) (by omega)
      refine ⟨ν', ?_, ?_, ?_, frt (fru (by decide)) e4⟩
      · rw [jl_97]
        simp (disch := omega) only [zI_lit, p_lt, zI_mul, zI_add, zI_neg, st_209, z_bo]
        rw [if_neg (by omega)]
        exact e1
      · intro j hj
        by_cases c : (j : Int) = 263 + 10 * n + f
        · rw [e3 j (by omega), show j = (263 + 10 * n + f).toNat by omega]
          exact up_at
        · exact e2 j (by omega)
      · intro j hj
        rw [e3 j (by omega)]
        exact up_nk (by omega)
  have outer : ∀ (m : Nat) (n : Int) (ν1 : ax_M), 0 ≤ n → n + m = 12 → (∀ j : Nat, 203 ≤ j → j < 2466 → ν1.1 209 j = zI (if 263 ≤ j ∧ j < 383 ∧ 2 ≤ ((j : Int) - 263) % 10 ∧ ((j : Int) - 263) % 10 ≤ 6 ∧ ((j : Int) - 263) / 10 < n then -1 else 0)) → ∃ ν', aJ 96 [.ref 207, .int (zI n)] [] ν1 = some (none, ν') ∧ (∀ j : Nat, 203 ≤ j → j < 2466 → ν'.1 209 j = zI (if 263 ≤ j ∧ j < 383 ∧ 2 ≤ ((j : Int) - 263) % 10 ∧ ((j : Int) - 263) % 10 ≤ 6 then -1 else 0)) ∧ (∀ j : Nat, j < 203 → ν'.1 209 j = ν1.1 209 j) ∧ fr [209] ν1 ν' := by
    intro m
    induction m with
    | zero =>
      intro n ν1 n0 n1 h
      refine ⟨ν1, ?_, ?_, fun j _ => rfl, frz⟩
      · rw [jl_96]
        simp (disch := omega) only [zI_lit, p_le]
        rw [if_pos (by omega), jl_99]
      · intro j j0 j1
        rw [h j j0 j1]
        by_cases c : 263 ≤ j ∧ j < 383 ∧ 2 ≤ ((j : Int) - 263) % 10 ∧ ((j : Int) - 263) % 10 ≤ 6
        · rw [if_pos c, if_pos (by omega)]
        · rw [if_neg c, if_neg (by omega)]
    | succ m ih =>
      intro n ν1 n0 n1 h
      obtain ⟨ν2, a1, a2, a3, a4⟩ := inner 5 n 2 ν1 n0 (by omega) (by omega) (by omega)
      obtain ⟨ν', e1, e2, e3, e4⟩ := ih (n + 1) ν2 (by omega) (by omega) (fun j j0 j1 => by
        by_cases c : 263 + 10 * n + 2 ≤ (j : Int) ∧ (j : Int) < 263 + 10 * n + 7
        · rw [a2 j c, if_pos (by omega)]
        · rw [a3 j c, h j j0 j1]
          by_cases d : 263 ≤ j ∧ j < 383 ∧ 2 ≤ ((j : Int) - 263) % 10 ∧ ((j : Int) - 263) % 10 ≤ 6 ∧ ((j : Int) - 263) / 10 < n
          · rw [if_pos d, if_pos (by omega)]
          · rw [if_neg d, if_neg (by omega)])
      refine ⟨ν', ?_, e2, fun j j0 => (e3 j j0).trans (a3 j (by omega)), frt a4 e4⟩
      rw [jl_96]
      simp (disch := omega) only [zI_lit, p_le]
      rw [if_neg (by omega), a1, jl_98]
      simp only [zI_lit, zI_add]
      exact e1
  obtain ⟨hs, hn⟩ := mI_sP hm
  obtain ⟨ν1, a1, a2, a3, a4⟩ := fill 2263 203 ν (by omega) (by omega) (fun j _ => rfl) (fun j j0 j1 => by omega) frz
  obtain ⟨ν2, b1, b2, b3, b4⟩ := outer 12 0 ν1 (by omega) (by omega) (fun j j0 j1 => by rw [a3 j j0 j1, if_neg (by omega)])
  have low : ∀ j : Nat, j < 203 → ν2.1 209 j = ν.1 209 j := fun j j0 => (b3 j j0).trans (a2 j j0)
  refine ⟨ν2, ?_, ?_, frt a4 b4, fun k k0 k1 => low k (by omega)⟩
  · rw [jl_93]
    simp only [zI_lit]
    rw [a1, jl_95]
    exact b1
  · have hn2 : nnI G ν2 := ⟨(low 0 (by omega)).trans hn.1, (low 1 (by omega)).trans hn.2.1, fun e e0 e1 => (low _ (by omega)).trans (hn.2.2.1 e e0 e1), fun e e0 e1 => (low _ (by omega)).trans (hn.2.2.2 e e0 e1)⟩
    have hs2 : sP (fun i => ν2.1 209 i.toNat) (gwt G) gas := by
      refine ⟨fun e e0 e1 => (low _ (by omega)).trans (hs.1 e e0 e1), ?_, ?_, ?_, ?_, ?_, ?_⟩
      · intro w w0 w1
        show ν2.1 209 (203 + w).toNat = _
        rw [b2 _ (by omega) (by omega), if_neg (by omega)]
        rfl
      · intro n f n0 n1 f0 f1
        show ν2.1 209 (263 + 10 * n + f).toNat = zI (if 2 ≤ f ∧ f ≤ 6 then -1 else 0)
        rw [b2 _ (by omega) (by omega)]
        by_cases c : 2 ≤ f ∧ f ≤ 6
        · rw [if_pos c, if_pos (by omega)]
        · rw [if_neg c, if_neg (by omega)]
      · show ν2.1 209 383 = _
        rw [b2 383 (by omega) (by omega), if_neg (by omega)]
        rfl
      · show ν2.1 209 384 = _
        rw [b2 384 (by omega) (by omega), if_neg (by omega)]
        rfl
      · show ν2.1 209 385 = _
        rw [b2 385 (by omega) (by omega), if_neg (by omega)]
        rfl
      · intro k f k0 k1 f0 f1
        have : gnL gas = 0 := rfl
        omega
    have := sP_mI hn2 hs2
    rwa [GW_id] at this
/-- a state is kept -/
theorem q_sv {G : gG} {S : gS} {r len : Nat} {d : Int} (hr : (ax_sh r).1 = 1 ∧ (ax_sh r).2.1 = len) (hr9 : r ≠ 209) (d0 : 0 ≤ d) (d1 : d + 2293 ≤ len) (hl : len ≤ 100000) (hL : gnL S ≤ 256) {ν : ax_M} (hm : mI G S ν) : ∃ ν', aJ 399 [.ref 207, .ref r, .int (zI d)] [] ν = some (none, ν') ∧ sP (fun i => ν'.1 r (d - 173 + i).toNat) (gwt G) S ∧ fr [r] ν ν' ∧ (∀ k : Nat, (k : Int) < d ∨ d + 2293 ≤ k → ν'.1 r k = ν.1 r k) := by
  have loop : ∀ (m : Nat) (k : Int) (ν1 : ax_M), 0 ≤ k → k + m = 2293 → ν1.1 209 = ν.1 209 → (∀ j, 0 ≤ j → j < k → ν1.1 r (d + j).toNat = ν.1 209 (173 + j).toNat) → (∀ j : Nat, (j : Int) < d ∨ d + 2293 ≤ j → ν1.1 r j = ν.1 r j) → fr [r] ν ν1 → ∃ ν', aJ 400 [.ref 207, .ref r, .int (zI d), .int (zI k)] [] ν1 = some (none, ν') ∧ (∀ j, 0 ≤ j → j < 2293 → ν'.1 r (d + j).toNat = ν.1 209 (173 + j).toNat) ∧ (∀ j : Nat, (j : Int) < d ∨ d + 2293 ≤ j → ν'.1 r j = ν.1 r j) ∧ fr [r] ν ν' := by
    intro m
    induction m with
    | zero =>
      intro k ν1 k0 k1 h9 h1 h2 h3
      refine ⟨ν1, ?_, fun j j0 j1 => h1 j j0 (by omega), h2, h3⟩
      rw [jl_400]
      simp (disch := omega) only [zI_lit, p_le]
      rw [if_pos (by omega), jl_401]
    | succ m ih =>
      intro k ν1 k0 k1 h9 h1 h2 h3
      obtain ⟨ν', e1, e2⟩ := ih (k + 1) (ax_up ν1.1 r (d + k).toNat (ν.1 209 (173 + k).toNat), ν1.2) (by omega) (by omega) (by
        funext j
        show ax_up ν1.1 r _ _ 209 j = _
        rw [up_ne (fun c => hr9 c.symm), h9]) (fun j j0 j1 => by
        by_cases c : j = k
        · rw [c]
          exact up_at
        · exact (up_nk (by omega)).trans (h1 j j0 (by omega))) (fun j hj => (up_nk (by omega)).trans (h2 j hj)) (frt h3 (fru (by simp)))
      refine ⟨ν', ?_, e2⟩
      rw [jl_400]
      simp (disch := omega) only [zI_lit, p_le, zI_add, ld_209, z_bo]
      rw [if_neg (by omega), h9, z_st hr (by omega) (by omega) (by omega), z_bo]
      exact e1
  obtain ⟨ν', a1, a2, a3, a4⟩ := loop 2293 0 ν (by omega) (by omega) rfl (fun j j0 j1 => by omega) (fun j _ => rfl) frz
  refine ⟨ν', ?_, ?_, a4, a3⟩
  · rw [jl_399]
    simp only [zI_lit]
    exact a1
  · refine sP_congr (g := fun i => ν.1 209 i.toNat) (by omega) ?_ (mI_sP hm).1
    intro i i0 i1
    have := a2 (i - 173) (by omega) (by omega)
    rw [show d + (i - 173) = d - 173 + i by omega, show 173 + (i - 173) = i by omega] at this
    exact this
/-- and comes back -/
theorem q_cb {G : gG} {S S' : gS} {W : Int → Int} {r len : Nat} {d : Int} (hr : (ax_sh r).1 = 1 ∧ (ax_sh r).2.1 = len) (hr9 : r ≠ 209) (d0 : 0 ≤ d) (d1 : d + 2293 ≤ len) (hl : len ≤ 100000) (hL : gnL S' ≤ 256) {ν : ax_M} (hm : mI G S ν) (hs : sP (fun i => ν.1 r (d - 173 + i).toNat) W S') : ∃ ν', aJ 402 [.ref 207, .ref r, .int (zI d)] [] ν = some (none, ν') ∧ mI (gGW G W) S' ν' ∧ fr [209] ν ν' ∧ bgR ν ν' := by
  have loop : ∀ (m : Nat) (k : Int) (ν1 : ax_M), 0 ≤ k → k + m = 2293 → ν1.1 r = ν.1 r → (∀ j, 0 ≤ j → j < k → ν1.1 209 (173 + j).toNat = ν.1 r (d + j).toNat) → (∀ j : Nat, j < 173 → ν1.1 209 j = ν.1 209 j) → fr [209] ν ν1 → ∃ ν', aJ 403 [.ref 207, .ref r, .int (zI d), .int (zI k)] [] ν1 = some (none, ν') ∧ (∀ j, 0 ≤ j → j < 2293 → ν'.1 209 (173 + j).toNat = ν.1 r (d + j).toNat) ∧ (∀ j : Nat, j < 173 → ν'.1 209 j = ν.1 209 j) ∧ fr [209] ν ν' := by
    intro m
    induction m with
    | zero =>
      intro k ν1 k0 k1 h9 h1 h2 h3
      refine ⟨ν1, ?_, fun j j0 j1 => h1 j j0 (by omega), h2, h3⟩
      rw [jl_403]
      simp (disch := omega) only [zI_lit, p_le]
      rw [if_pos (by omega), jl_404]
    | succ m ih =>
      intro k ν1 k0 k1 h9 h1 h2 h3
      obtain ⟨ν', e1, e2⟩ := ih (k + 1) (ax_up ν1.1 209 (173 + k).toNat (ν.1 r (d + k).toNat), ν1.2) (by omega) (by omega) (by
        funext j
        show ax_up ν1.1 209 _ _ r j = _
        rw [up_ne hr9, h9]) (fun j j0 j1 => by
        by_cases c : j = k
        · rw [c]
          exact up_at
        · exact (up_nk (by omega)).trans (h1 j j0 (by omega))) (fun j hj => (up_nk (by omega)).trans (h2 j hj)) (frt h3 (fru (by decide)))
      refine ⟨ν', ?_, e2⟩
      rw [jl_403]
      simp (disch := omega) only [zI_lit, p_le, zI_add]
      rw [if_neg (by omega), z_ld hr (by omega) (by omega) (by omega), z_bo, h9]
      simp (disch := omega) only [st_209, z_bo]
      exact e1
  obtain ⟨ν', a1, a2, a3, a4⟩ := loop 2293 0 ν (by omega) (by omega) rfl (fun j j0 j1 => by omega) (fun j _ => rfl) frz
  have hn := (mI_sP hm).2
  have hn2 : nnI G ν' := ⟨(a3 0 (by omega)).trans hn.1, (a3 1 (by omega)).trans hn.2.1, fun e e0 e1 => (a3 _ (by omega)).trans (hn.2.2.1 e e0 e1), fun e e0 e1 => (a3 _ (by omega)).trans (hn.2.2.2 e e0 e1)⟩
  refine ⟨ν', ?_, sP_mI hn2 (sP_congr (by omega) ?_ hs), a4, fun k k0 k1 => a3 k (by omega)⟩
  · rw [jl_402]
    simp only [zI_lit]
    exact a1
  · intro i i0 i1
    have := a2 (i - 173) (by omega) (by omega)
    rw [show d + (i - 173) = d - 173 + i by omega, show 173 + (i - 173) = i by omega] at this
    exact this
