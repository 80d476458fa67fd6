/-! u: what can be undone: the class's ring, the reference's rows -/
abbrev gU : Type := (Int → Int) × gS
def pc (t : Int) : Nat := 52 + 11 * (t % 9).toNat
theorem pc_RO (t : Int) : pc t ∈ RO ∧ 52 ≤ pc t ∧ pc t ≤ 140 := by
  have h : (t % 9).toNat < 9 := by omega
  unfold pc
  exact ⟨(by decide : ∀ i, i < 9 → 52 + 11 * i ∈ RO) _ h, by omega, by omega⟩
theorem pc_ne {t u : Int} (h : t % 9 ≠ u % 9) : pc t ≠ pc u := by
  unfold pc
  omega
def uOK (G : gG) (U : List gU) : Prop := U.length ≤ 8 ∧ ∀ e, e ∈ U → hV (gGW G e.1) e.2 ∧ hGw (gGW G e.1) ∧ hZ (gGW G e.1) e.2
def uC (G : gG) (U : List gU) (ν : ax_M) : Prop := ∃ top : Int, 0 ≤ top ∧ top < 9 ∧ ν.1 0 10 = zI top ∧ ν.1 0 11 = zI U.length ∧ ∀ (j : Nat) e, U[j]? = some e → ∃ X, cP (pc (top - 1 - j)) e.1 e.2 X ν ∧ XR G e.2 X
/-- and the newest noted, not yet kept -/
def uN (G : gG) (U : List gU) (e0 : gU) (ν : ax_M) : Prop := ∃ top : Int, 0 ≤ top ∧ top < 9 ∧ ν.1 0 10 = zI top ∧ ν.1 0 11 = zI U.length ∧ (∃ X, cP (pc top) e0.1 e0.2 X ν ∧ XR G e0.2 X) ∧ ∀ (j : Nat) e, U[j]? = some e → ∃ X, cP (pc (top - 1 - j)) e.1 e.2 X ν ∧ XR G e.2 X
theorem uN_uC {G : gG} {U : List gU} {e0 : gU} {ν : ax_M} (h : uN G U e0 ν) : uC G U ν := by
  obtain ⟨top, a, b, c, d, _, e⟩ := h
  exact ⟨top, a, b, c, d, e⟩
theorem cOL_pc {t : Int} {a : Nat} (h : a ∈ cOL (pc t)) : 52 ≤ a ∧ a ≤ 150 := by
  have := pc_RO t
  simp [cOL] at h
  omega
theorem uC_fr {G : gG} {U : List gU} {l : List Nat} {ν ν' : ax_M} (h : fr l ν ν') (hl : ∀ a, a ∈ l → a < 52 ∨ 150 < a) (h10 : ν'.1 0 10 = ν.1 0 10) (h11 : ν'.1 0 11 = ν.1 0 11) (hu : uC G U ν) : uC G U ν' := by
  obtain ⟨top, a, b, c, d, e⟩ := hu
  refine ⟨top, a, b, h10.trans c, h11.trans d, ?_⟩
  intro j x hx
  obtain ⟨X, p1, p2⟩ := e j x hx
  exact ⟨X, cP_fr h (fun a ha q => by have := cOL_pc ha; have := hl a q; omega) p1, p2⟩
theorem uN_fr {G : gG} {U : List gU} {e0 : gU} {l : List Nat} {ν ν' : ax_M} (h : fr l ν ν') (hl : ∀ a, a ∈ l → a < 52 ∨ 150 < a) (h10 : ν'.1 0 10 = ν.1 0 10) (h11 : ν'.1 0 11 = ν.1 0 11) (hu : uN G U e0 ν) : uN G U e0 ν' := by
  obtain ⟨top, a, b, c, d, ⟨X0, f1, f2⟩, e⟩ := hu
  refine ⟨top, a, b, h10.trans c, h11.trans d, ⟨X0, cP_fr h (fun a ha q => by have := cOL_pc ha; have := hl a q; omega) f1, f2⟩, ?_⟩
  intro j x hx
  obtain ⟨X, p1, p2⟩ := e j x hx
  exact ⟨X, cP_fr h (fun a ha q => by have := cOL_pc ha; have := hl a q; omega) p1, p2⟩
theorem lda_51 {t : Int} (h0 : 0 ≤ t) (h1 : t < 9) : ax_lda ax_sh 51 (zI t) = some (pc t) := by
  have h := (by decide +kernel : ∀ i : Nat, i < 9 → ax_lda ax_sh 51 (zI i) = some (52 + 11 * i)) t.toNat (by omega)
  rw [show ((t.toNat : Nat) : Int) = t by omega] at h
  rw [h]
  unfold pc
  rw [show t % 9 = t by omega]
theorem z_b3 {a : Nat} {μ : ax_M} {f : Nat → ax_M → ax_R} {g : ax_M → ax_R} : ax_b3 (some (some (.ref a), μ)) f g = f a μ := rfl
theorem z_b3n {μ : ax_M} {f : Nat → ax_M → ax_R} {g : ax_M → ax_R} : ax_b3 (some (some .null, μ)) f g = g μ := rfl
theorem q_pat {ν : ax_M} {t : Int} (h0 : 0 ≤ t) (h1 : t < 9) : aJ 820 [.ref 0, .int (zI t)] [] ν = some (some (.ref (pc t)), ν) := by
  rw [jl_820]
  simp (disch := omega) only [zI_lit, p_lt, p_le]
  rw [if_neg (by omega), if_neg (by omega), lda_51 h0 h1, z_bo, jl_822]
theorem sh_pc (t : Int) : (ax_sh (pc t)).1 = 0 ∧ (ax_sh (pc t)).2.1 = 6 := by
  have h : (t % 9).toNat < 9 := by omega
  unfold pc
  exact (by decide : ∀ i, i < 9 → (ax_sh (52 + 11 * i)).1 = 0 ∧ (ax_sh (52 + 11 * i)).2.1 = 6) _ h
def inPast (a : Nat) : Prop := 52 ≤ a ∧ a ≤ 150
theorem q_note {G : gG} {U : List gU} {W : Int → Int} {S : gS} {X : cX} {ν : ax_M} (hU : uOK G U) (hp : cP 29 W S X ν) (hx : XR G S X) (hL0 : 0 ≤ gnL S) (hL : gnL S ≤ 256) (hu : uC G U ν) : ∃ ν' t, aJ 826 [.ref 0] [] ν = some (none, ν') ∧ uN G U (W, S) ν' ∧ fr (cOL (pc t)) ν ν' := by
  obtain ⟨top, a, b, c, d, e⟩ := hu
  have hpc := pc_RO top
  have hxw := hx.2.2.2.2.1.1
  obtain ⟨ν', e1, e2, e3⟩ := q_cf (x0 := pc top) (x1 := 29) hpc.1 (by decide) (by omega) (by decide) hp hL0 hL hxw.1 (by omega)
  have n0 : 0 ∉ cOL (pc top) := fun q => by have := cOL_pc q; omega
  refine ⟨ν', top, ?_, ⟨top, a, b, (fr_at e3 n0 10).trans c, (fr_at e3 n0 11).trans d, ⟨X, e2, hx⟩, ?_⟩, e3⟩
  · rw [jl_826, c, q_pat a b, z_b3, if_pos (Or.inl (sh_pc top)), e1, z_b0, jl_827]
  · intro j x hj
    obtain ⟨X', p1, p2⟩ := e j x hj
    have hlen : j < U.length := by
      by_cases q : j < U.length
      · exact q
      · rw [List.getElem?_eq_none (by omega)] at hj
        cases hj
    have hU8 := hU.1
    have hne : pc (top - 1 - j) ≠ pc top := pc_ne (by omega)
    have hs := ro_sep (pc_RO (top - 1 - j)).1 hpc.1 hne
    refine ⟨X', cP_fr e3 (fun a ha q => ?_) p1, p2⟩
    simp [cOL] at ha q
    omega
def pushU (U : List gU) (e : gU) : List gU := (e :: U).take 8
theorem push_len {U : List gU} {e : gU} : (pushU U e).length = min (U.length + 1) 8 := by
  unfold pushU
  rw [List.length_take, List.length_cons, Nat.min_comm]
theorem push_0 {U : List gU} {e : gU} : (pushU U e)[0]? = some e := by
  unfold pushU
  rw [List.getElem?_take]
  simp
theorem push_s {U : List gU} {e : gU} {j : Nat} {x : gU} (h : (pushU U e)[j + 1]? = some x) : U[j]? = some x ∧ j < 7 := by
  unfold pushU at h
  rw [List.getElem?_take] at h
  by_cases q : j + 1 < 8
  · rw [if_pos q, List.getElem?_cons_succ] at h
    exact ⟨h, by omega⟩
  · rw [if_neg q] at h
    cases h
theorem push_OK {G : gG} {U : List gU} {e : gU} (h : uOK G U) (he : hV (gGW G e.1) e.2 ∧ hGw (gGW G e.1) ∧ hZ (gGW G e.1) e.2) : uOK G (pushU U e) := by
  refine ⟨by rw [push_len]; omega, ?_⟩
  intro x hx
  have := List.mem_of_mem_take (show x ∈ (e :: U).take 8 from hx)
  rcases List.mem_cons.mp this with q | q
  · rw [q]; exact he
  · exact h.2 x q
theorem q_keep {G : gG} {U : List gU} {e0 : gU} {ν : ax_M} (hU : uOK G U) (hu : uN G U e0 ν) : ∃ ν', aJ 828 [.ref 0] [] ν = some (none, ν') ∧ uC G (pushU U e0) ν' ∧ fr [0] ν ν' ∧ (∀ k, k ≠ 10 → k ≠ 11 → ν'.1 0 k = ν.1 0 k) := by
  obtain ⟨top, a, b, c, d, ⟨X0, f1, f2⟩, e⟩ := hu
  have hU8 := hU.1
  have hlen := push_len (U := U) (e := e0)
  have e10 : ν.1 0 10 + (1 : Int32) - (ν.1 0 10 + (1 : Int32)) / 9 * 9 = zI ((top + 1) % 9) := by
    rw [c]
    simp (disch := omega) only [zI_lit, zI_add, zI_dv, zI_mul, zI_sub]
    exact congrArg zI (by omega)
  have e11 : (if 8 < (ax_uD ν 0 10 (zI ((top + 1) % 9))).1 0 11 + (1 : Int32) then (8 : Int32) else (ax_uD ν 0 10 (zI ((top + 1) % 9))).1 0 11 + (1 : Int32)) = zI ((pushU U e0).length : Nat) := by
    rw [uD_nk (by decide), d, hlen]
    simp (disch := omega) only [zI_lit, zI_add, p_lt]
    by_cases q : (8 : Int) < (U.length : Int) + 1
    · rw [if_pos q]
      exact congrArg zI (by omega)
    · rw [if_neg q]
      exact congrArg zI (by omega)
  have ff : fr [0] ν (ax_uD (ax_uD ν 0 10 (zI ((top + 1) % 9))) 0 11 (zI ((pushU U e0).length : Nat))) := frt (fr_uD (by decide)) (fr_uD (by decide))
  have hcp : ∀ {t : Int} {W S X}, cP (pc t) W S X ν → cP (pc t) W S X (ax_uD (ax_uD ν 0 10 (zI ((top + 1) % 9))) 0 11 (zI ((pushU U e0).length : Nat))) := fun hp => cP_fr ff (fun a ha q => by have := cOL_pc ha; simp at q; omega) hp
  have pce : ∀ {t u : Int}, t % 9 = u % 9 → pc t = pc u := fun h => by unfold pc; rw [h]
  refine ⟨_, ?_, ⟨(top + 1) % 9, by omega, by omega, (uD_nk (by decide) 0).trans uD_at, uD_at, ?_⟩, ff, fun k k0 k1 => (uD_nk k1 0).trans (uD_nk k0 0)⟩
  · rw [jl_828, e10, e11]
  · intro j x hj
    cases j with
    | zero =>
      rw [push_0] at hj
      cases hj
      refine ⟨X0, ?_, f2⟩
      rw [pce (show ((top + 1) % 9 - 1 - ((0 : Nat) : Int)) % 9 = top % 9 by omega)]
      exact hcp f1
    | succ j =>
      obtain ⟨h1, h2⟩ := push_s hj
      obtain ⟨X, p1, p2⟩ := e j x h1
      refine ⟨X, ?_, p2⟩
      rw [pce (show ((top + 1) % 9 - 1 - ((j + 1 : Nat) : Int)) % 9 = (top - 1 - (j : Int)) % 9 by omega)]
      exact hcp p1
/-- the latest act is undone -/
theorem q_und {G : gG} {U : List gU} {e0 : gU} {ν : ax_M} (hg : hGok G) (hU : uOK G (e0 :: U)) (hu : uC G (e0 :: U) ν) : ∃ ν' X, aJ 716 [.ref 0] [] ν = some (some (.int (zI (U.length : Nat))), ν') ∧ uC G U ν' ∧ cP 29 e0.1 e0.2 X ν' ∧ XR G e0.2 X ∧ fr (0 :: cOL 29) ν ν' ∧ (∀ k, k ≠ 10 → k ≠ 11 → ν'.1 0 k = ν.1 0 k) := by
  obtain ⟨top, a, b, c, d, e⟩ := hu
  have hU8 := hU.1
  simp only [List.length_cons] at d hU8
  obtain ⟨X0, p1, p2⟩ := e 0 e0 rfl
  have hv0 := (hU.2 e0 (by simp)).1
  have e10 : ν.1 0 10 + (8 : Int32) - (ν.1 0 10 + (8 : Int32)) / 9 * 9 = zI ((top + 8) % 9) := by
    rw [c]
    simp (disch := omega) only [zI_lit, zI_add, zI_dv, zI_mul, zI_sub]
    exact congrArg zI (by omega)
  have e11 : (ax_uD ν 0 10 (zI ((top + 8) % 9))).1 0 11 - (1 : Int32) = zI (U.length : Nat) := by
    rw [uD_nk (by decide), d]
    simp only [zI_lit, zI_sub]
    exact congrArg zI (by omega)
  have ff : fr [0] ν (ax_uD (ax_uD ν 0 10 (zI ((top + 8) % 9))) 0 11 (zI (U.length : Nat))) := frt (fr_uD (by decide)) (fr_uD (by decide))
  have hcp : ∀ {t : Int} {W S X}, cP (pc t) W S X ν → cP (pc t) W S X (ax_uD (ax_uD ν 0 10 (zI ((top + 8) % 9))) 0 11 (zI (U.length : Nat))) := fun hp => cP_fr ff (fun a ha q => by have := cOL_pc ha; simp at q; omega) hp
  have pce : ∀ {t u : Int}, t % 9 = u % 9 → pc t = pc u := fun h => by unfold pc; rw [h]
  have hpc := pc_RO ((top + 8) % 9)
  have hp0 : cP (pc ((top + 8) % 9)) e0.1 e0.2 X0 (ax_uD (ax_uD ν 0 10 (zI ((top + 8) % 9))) 0 11 (zI (U.length : Nat))) := by
    have := hcp p1
    rwa [pce (show (top - 1 - ((0 : Nat) : Int)) % 9 = ((top + 8) % 9) % 9 by omega)] at this
  have hxw := p2.2.2.2.2.1.1
  have hr := hv0.2.2.1
  have hL0 := hr.2.2.1
  have hg' : hGok (gGW G e0.1) := hg
  have hLL : gnL e0.2 ≤ 256 := by
    have := h_cnt hg' hv0.1 (by omega)
    omega
  obtain ⟨ν', c1, c2, c3⟩ := q_cf (x0 := 29) (x1 := pc ((top + 8) % 9)) (by decide) hpc.1 (by omega) (by omega) hp0 hL0 hLL hxw.1 (by omega)
  have g10 : (ax_uD (ax_uD ν 0 10 (zI ((top + 8) % 9))) 0 11 (zI (U.length : Nat))).1 0 10 = zI ((top + 8) % 9) := (uD_nk (by decide) 0).trans uD_at
  have g11 : (ax_uD (ax_uD ν 0 10 (zI ((top + 8) % 9))) 0 11 (zI (U.length : Nat))).1 0 11 = zI (U.length : Nat) := uD_at
  have gk : ∀ k, k ≠ 10 → k ≠ 11 → (ax_uD (ax_uD ν 0 10 (zI ((top + 8) % 9))) 0 11 (zI (U.length : Nat))).1 0 k = ν.1 0 k := fun k k0 k1 => (uD_nk k1 0).trans (uD_nk k0 0)
  have h1 : aJ 716 [.ref 0] [] ν = ax_b3 (aJ 820 [.ref 0, .int (zI ((top + 8) % 9))] [] (ax_uD (ax_uD ν 0 10 (zI ((top + 8) % 9))) 0 11 (zI (U.length : Nat)))) (fun v2 μ1 => ax_b0 (aJ 1132 [.ref 29, .ref v2] [] μ1) fun μ3 => aJ 718 [.ref 0] [] μ3) (fun μ1 => aJ 718 [.ref 0] [] μ1) := by
    rw [jl_716, d, j_lt zl0 rfl (zR_of (by omega)) (zR_of (by omega)), if_pos (by omega), jl_717, e10, e11, g10]
  generalize ax_uD (ax_uD ν 0 10 (zI ((top + 8) % 9))) 0 11 (zI (U.length : Nat)) = ν1 at *
  have n0 : 0 ∉ cOL 29 := by decide
  refine ⟨ν', X0, ?_, ⟨(top + 8) % 9, by omega, by omega, (fr_at c3 n0 10).trans g10, (fr_at c3 n0 11).trans g11, ?_⟩, c2, p2, frt (frm ff (by simp)) (frm c3 (fun a h => List.mem_cons_of_mem _ h)), fun k k0 k1 => (fr_at c3 n0 k).trans (gk k k0 k1)⟩
  · rw [h1, q_pat (by omega) (by omega), z_b3, c1, z_b0, jl_718, fr_at c3 n0 11, g11]
  · intro j x hj
    obtain ⟨X, r1, r2⟩ := e (j + 1) x (by rw [List.getElem?_cons_succ]; exact hj)
    refine ⟨X, ?_, r2⟩
    have := hcp r1
    rw [pce (show (top - 1 - ((j + 1 : Nat) : Int)) % 9 = ((top + 8) % 9 - 1 - (j : Int)) % 9 by omega)] at this
    exact cP_fr c3 (fun a ha q => by have := cOL_pc ha; simp [cOL] at q; omega) this
