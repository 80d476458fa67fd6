/-! o: net: what is common with rule -/
def kFa (K : qK) (k n : Int) : qK := (kR K, kN K, (0, (kT K).2), kI0 K, kI1 K, (k, n), kO K, kX K)
def fLn : List Nat := [0, 2, 8, 9, 10, 11, 12, 21, 22, 23, 24, 25, 26, 27, 28]
theorem fLn_m {a : Nat} (h : a ∈ fLn) : a = 0 ∨ a = 2 ∨ (8 ≤ a ∧ a ≤ 12) ∨ (21 ≤ a ∧ a ≤ 28) := by
  simp [fLn] at h
  omega
theorem jC_fa {K : qK} {k n : Int} {ν ν' : ax_M} (hf : fr fLn ν ν') (h0 : ∀ j, j ≠ 1 → ν'.1 0 j = ν.1 0 j) (h1 : ν'.1 0 1 = zI 0) (h8 : ν'.1 2 8 = zI k) (h7 : k ≠ 0 → ν'.1 2 7 = zI n) (hj : jC K ν) : jC (kFa K k n) ν' := by
  obtain ⟨j1, j2, j3, j4, j5, j6, j7, j8, j9, j10, j11, j12⟩ := hj
  have hc : ∀ a, a ≠ 0 → a ≠ 2 → (a < 8 ∨ (12 < a ∧ a < 21) ∨ 28 < a) → ν'.1 a = ν.1 a := fun a x y z => hf.2 a (fun q => by have := fLn_m q; omega)
  refine ⟨kP_e (by rw [hc 13 (by omega) (by omega) (by omega)]) (fun a z1 z2 => hc a (by omega) (by omega) (by omega)) j1, cNm_e (hc _ (by omega) (by omega) (by omega)) (hc _ (by omega) (by omega) (by omega)) j2, h1, fun i i0 i1 => ?_, cIm_e (fun a z1 z2 => hc a (by omega) (by omega) (by omega)) j5, cIm_e (fun a z1 z2 => hc a (by omega) (by omega) (by omega)) j6, h8, h7, (h0 15 (by decide)).trans j9, (h0 16 (by decide)).trans j10, by rw [hc 205 (by omega) (by omega) (by omega)]; exact j11, rP_e (hc 206 (by omega) (by omega) (by omega)) j12⟩
  have : i < 0 := i1
  omega
theorem iC_fa {G : gG} {S : gS} {U : List gU} {K : qK} {k n : Int} {ν ν' : ax_M} (hf : fr fLn ν ν') (h0 : ∀ j, j ≠ 1 → ν'.1 0 j = ν.1 0 j) (h1 : ν'.1 0 1 = zI 0) (h8 : ν'.1 2 8 = zI k) (h7 : k ≠ 0 → ν'.1 2 7 = zI n) (hi : iC G S U K ν) : iC G S U (kFa K k n) ν' := by
  obtain ⟨⟨X, x1, x2⟩, u, j⟩ := hi
  exact ⟨⟨X, cI_fr (Or.inl rfl) hf (fun a ha => by have := fLn_m ha; omega) x1, x2⟩, uC_fr hf (fun a ha => by have := fLn_m ha; omega) (h0 10 (by decide)) (h0 11 (by decide)) u, jC_fa hf h0 h1 h8 h7 j⟩
theorem jM_fa {K : qK} {k n : Int} {ν ν' : ax_M} (hK : rok (kR K)) (h : ∀ a, 207 < a → a ≠ 210 → a ≠ 219 → ν'.1 a = ν.1 a) (h7 : ∀ j, 14 ≤ j → ν'.1 207 j = ν.1 207 j) (hL : ∀ a, a ≠ 207 → a ≠ 216 → ν'.2 a = ν.2 a) (h2 : ν'.1 207 2 = zI 0) (h9 : ν'.1 207 9 = zI k) (h10 : ν'.1 207 10 = zI (if k = 0 then -1 else n)) (hj : jM K ν) : jM (kFa K k n) ν' := by
  obtain ⟨j1, j2, j3, j4, j5, j6, j7, j8, j9, j10, j11, j12⟩ := hj
  refine ⟨oP_bg hK (fun i _ _ => by rw [h 209 (by decide) (by decide) (by decide)]) j1, ?_, h2, fun i i0 i1 => ?_, rIm_e (h 211 (by decide) (by decide) (by decide)) (h 218 (by decide) (by decide) (by decide)) (hL 217 (by decide) (by decide)) j5, rIm_e (h 211 (by decide) (by decide) (by decide)) (h 218 (by decide) (by decide) (by decide)) (hL 217 (by decide) (by decide)) j6, h9, h10, (h7 30 (by decide)).trans j9, (h7 31 (by decide)).trans j10, (h7 34 (by decide)).trans j11, rP_e (h 224 (by decide) (by decide) (by decide)) j12⟩
  · unfold rNm at *
    rw [hL 215 (by decide) (by decide)]
    exact j2
  · have : i < 0 := i1
    omega
theorem iM_fa {G : gG} {S : gS} {U : List gU} {K : qK} {k n : Int} {ν ν' : ax_M} (hK : rok (kR K)) (h : ∀ a, 207 < a → a ≠ 210 → a ≠ 219 → ν'.1 a = ν.1 a) (h7 : ∀ j, 14 ≤ j → ν'.1 207 j = ν.1 207 j) (hL : ∀ a, a ≠ 207 → a ≠ 216 → ν'.2 a = ν.2 a) (h2 : ν'.1 207 2 = zI 0) (h9 : ν'.1 207 9 = zI k) (h10 : ν'.1 207 10 = zI (if k = 0 then -1 else n)) (hi : iM G S U K ν) : iM G S U (kFa K k n) ν' := by
  obtain ⟨m1, ⟨u1, u2⟩, j⟩ := hi
  exact ⟨mI_e (h 209 (by decide) (by decide) (by decide)) m1, ⟨(h7 24 (by decide)).trans u1, by rw [h 212 (by decide) (by decide) (by decide)]; exact u2⟩, jM_fa hK h h7 hL h2 h9 h10 j⟩
theorem kFa_OK {K : qK} {k n : Int} (h : kOK K) (hk : 0 ≤ k ∧ k ≤ 4) (hn : 0 ≤ n ∧ n ≤ 1000) : kOK (kFa K k n) := by
  obtain ⟨q1, q2, q3, q4, q5, q6, q7, q8, q9, q10⟩ := h
  exact ⟨q1, q2, ⟨Int.le_refl _, by show (0 : Int) ≤ 940; omega, fun i i0 i1 => by have : i < 0 := i1; omega⟩, q4, q5, hk, hn, q8, q9, q10⟩
theorem q_opn {T : Int → Int} {L M : Int} {ν : ax_M} (hr : rP ν 1 L (fun i => sby (T i))) : ∃ ν', aJ 980 [.ref 2, .int (zI L), .int (zI M)] [] ν = some (none, ν') ∧ rdC T L M 0 ν' ∧ ν'.1 2 7 = zI 0 ∧ ν'.1 2 8 = zI 0 ∧ fr [2] ν ν' := by
  have hf : fr [2] ν (ax_uD (ax_uD (ax_uD (ax_uD (ax_uD (ax_uD ν 2 1 (zI L)) 2 2 (zI M)) 2 3 0) 2 7 0) 2 8 0) 2 9 0) := frt (fr_uD (by simp)) (frt (fr_uD (by simp)) (frt (fr_uD (by simp)) (frt (fr_uD (by simp)) (frt (fr_uD (by simp)) (fr_uD (by simp))))))
  refine ⟨_, jl_980 _ _ _, ⟨?_, ?_, ?_, rP_e (hf.2 1 (by decide)) hr⟩, ?_, ?_, hf⟩
  · rw [uD_nk (by decide), uD_nk (by decide), uD_nk (by decide), uD_nk (by decide), uD_nk (by decide), uD_at]
  · rw [uD_nk (by decide), uD_nk (by decide), uD_nk (by decide), uD_nk (by decide), uD_at]
  · rw [uD_nk (by decide), uD_nk (by decide), uD_nk (by decide), uD_at]
    rfl
  · rw [uD_nk (by decide), uD_nk (by decide), uD_at]
    rfl
  · rw [uD_nk (by decide), uD_at]
    rfl
/-- the reference begins to read -/
theorem q_beg {T : Int → Int} {L M : Int} {ν ν0 : ax_M} (hT : tBy T L) (hM : 0 ≤ M ∧ M ≤ 1000) (e0 : ν0 = ax_uD ν 207 0 0) (h2 : ν0.1 207 2 = zI L) (h8 : rP ν0 208 L T) : ∃ ν', aJ 91 [.ref 207, .int (zI M)] [] ν = some (none, ν') ∧ rtM T L M (tok T L M 0) ν' ∧ ν'.1 207 2 = zI 0 ∧ ν'.1 207 9 = zI 0 ∧ ν'.1 207 10 = zI (-1) ∧ (∀ a, a ≠ 207 → ν'.1 a = ν0.1 a) ∧ (∀ j, 14 ≤ j → ν'.1 207 j = ν0.1 207 j) ∧ ∀ a, a ≠ 207 → ν'.2 a = ν0.2 a := by
  have hL0 := hT.1
  generalize hν : ax_uD (ax_uD (ax_uD (ax_uD (ax_uD (ax_uD ν0 207 2 0) 207 3 (zI L)) 207 4 (zI M)) 207 9 0) 207 10 (-1)) 207 5 0 = ν1
  have off : ∀ a, a ≠ 207 → ν1.1 a = ν0.1 a := fun a ha => by
    rw [← hν]
    funext j
    rw [uD_ne ha, uD_ne ha, uD_ne ha, uD_ne ha, uD_ne ha, uD_ne ha]
  have k14 : ∀ j, 14 ≤ j → ν1.1 207 j = ν0.1 207 j := fun j hj => by
    rw [← hν, uD_nk (by omega), uD_nk (by omega), uD_nk (by omega), uD_nk (by omega), uD_nk (by omega), uD_nk (by omega)]
  have f2 : ν1.1 207 2 = zI 0 := by
    rw [← hν, uD_nk (by decide), uD_nk (by decide), uD_nk (by decide), uD_nk (by decide), uD_nk (by decide), uD_at]
    rfl
  have f3 : ν1.1 207 3 = zI L := by
    rw [← hν, uD_nk (by decide), uD_nk (by decide), uD_nk (by decide), uD_nk (by decide), uD_at]
  have f4 : ν1.1 207 4 = zI M := by
    rw [← hν, uD_nk (by decide), uD_nk (by decide), uD_nk (by decide), uD_at]
  have f9 : ν1.1 207 9 = zI 0 := by
    rw [← hν, uD_nk (by decide), uD_nk (by decide), uD_at]
    rfl
  have f10 : ν1.1 207 10 = zI (-1) := by
    rw [← hν, uD_nk (by decide), uD_at]
    rfl
  have f5 : ν1.1 207 5 = zI 0 := by
    rw [← hν, uD_at]
    rfl
  have l2 : ν1.2 = ν0.2 := by
    rw [← hν]
    rfl
  obtain ⟨ν', a1, a2, a3⟩ := q_go (p := 0) hT hM (by omega) (by omega) (show rtI T L M ν1 from ⟨f3, f4, rP_e (off 208 (by decide)) h8⟩) f5
  refine ⟨ν', ?_, a2, (a3.2.1 2 (by decide) (by decide) (by decide) (by decide)).trans f2, (a3.2.1 9 (by decide) (by decide) (by decide) (by decide)).trans f9, (a3.2.1 10 (by decide) (by decide) (by decide) (by decide)).trans f10, fun a ha => (a3.1 a ha).trans (off a ha), fun j hj => (a3.2.1 j (by omega) (by omega) (by omega) (by omega)).trans (k14 j hj), fun a ha => (a3.2.2 a ha).trans (congrFun l2 a)⟩
  rw [jl_91, ← e0, jl_13, z_b1, h2, hν, a1, z_b0]
theorem rtM_e {T : Int → Int} {L M : Int} {t : Int × Int × Int} {ν ν' : ax_M} (h7 : ν'.1 207 = ν.1 207) (h8 : ν'.1 208 = ν.1 208) (h2 : ν'.2 207 = ν.2 207) (hr : rtM T L M t ν) : rtM T L M t ν' := by
  obtain ⟨⟨q1, q2, q3⟩, q4, q5, q6, q7, q8⟩ := hr
  exact ⟨⟨by rw [h7]; exact q1, by rw [h7]; exact q2, rP_e h8 q3⟩, by rw [h7]; exact q4, by rw [h7]; exact q5, fun z => by rw [h7]; exact q6 z, fun z => by rw [h2]; exact q7 z, fun z => by rw [h7]; exact q8 z⟩
/-- a row of the reference is cleared: labels 123, 164 -/
theorem q_z210 {f g : Nat} (hstep : ∀ (x : Int32) (μ : ax_M), aJ f [.ref 207, .int x] [] μ = if 173 ≤ x then aJ g [.ref 207] [] μ else ax_bo (ax_st ax_sh μ 210 x 0) fun μ1 => aJ f [.ref 207, .int (x + 1)] [] μ1) (ν : ax_M) : ∃ ν', aJ f [.ref 207, .int (zI 0)] [] ν = aJ g [.ref 207] [] ν' ∧ (∀ j : Nat, j < 173 → ν'.1 210 j = zI 0) ∧ fr [210] ν ν' := by
  have loop : ∀ (m : Nat) (k : Int) (ν1 : ax_M), 0 ≤ k → k + m = 173 → (∀ j : Nat, (j : Int) < k → ν1.1 210 j = zI 0) → fr [210] ν ν1 → ∃ ν', aJ f [.ref 207, .int (zI k)] [] ν1 = aJ g [.ref 207] [] ν' ∧ (∀ j : Nat, j < 173 → ν'.1 210 j = zI 0) ∧ fr [210] ν ν' := by
    intro m
    induction m with
    | zero =>
      intro k ν1 k0 k1 h1 h2
      refine ⟨ν1, ?_, fun j hj => h1 j (by omega), h2⟩
      rw [hstep]
      simp (disch := omega) only [zI_lit, p_le]
      rw [if_pos (by omega)]
    | succ m ih =>
      intro k ν1 k0 k1 h1 h2
      obtain ⟨ν', e1, e2⟩ := ih (k + 1) (ax_up ν1.1 210 k.toNat (zI 0), ν1.2) (by omega) (by omega) (fun j hj => by
        by_cases c : j = k.toNat
        · rw [c]
          exact up_at
        · exact (up_nk c).trans (h1 j (by omega))) (frt h2 (fru (by simp)))
      refine ⟨ν', ?_, e2⟩
      rw [hstep, z_st (len := 173) (by decide) k0 (by omega) (by decide), z_bo]
      simp (disch := omega) only [zI_lit, p_le, zI_add]
      rw [if_neg (by omega)]
      exact e1
  exact loop 173 0 ν (by omega) (by omega) (fun j hj => by omega) frz
