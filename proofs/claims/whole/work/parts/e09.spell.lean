/-! l: spell -/
def kXs (K : qK) (t : List Int) : qK := (kR K, kN K, kT K, kI0 K, kI1 K, kF K, kO K, ((t.length : Int), fun i => t.getD i.toNat 0))
theorem tX_r {t : List Int} {a : Nat} {ν : ax_M} (h : ∀ (i : Nat) (b : Int), t[i]? = some b → ν.1 a i = zI b) : rP ν a (t.length : Int) (fun i => t.getD i.toNat 0) := by
  intro i i0 i1
  have hi : i.toNat < t.length := by omega
  have := h i.toNat (t[i.toNat]) (List.getElem?_eq_getElem hi)
  rw [this]
  show _ = zI (t.getD i.toNat 0)
  rw [List.getD_eq_getElem?_getD, List.getElem?_eq_getElem hi]
  rfl
theorem iC_X {G : gG} {S : gS} {U : List gU} {K : qK} {t : List Int} {ν ν' : ax_M} (hf : fr [205, 206] ν ν') (ht : tXc t ν') (hi : iC G S U K ν) : iC G S U (kXs K t) ν' := by
  obtain ⟨⟨X, x1, x2⟩, u, j⟩ := hi
  obtain ⟨j1, j2, j3, j4, j5, j6, j7, j8, j9, j10, j11, j12⟩ := j
  have hcell : ∀ a, a ≠ 205 → a ≠ 206 → ν'.1 a = ν.1 a := fun a a0 a1 => hf.2 a (by simp [a0, a1])
  have e0 := hcell 0 (by decide) (by decide)
  refine ⟨⟨X, cI_fr (Or.inl rfl) hf (fun a ha => by simp at ha; omega) x1, x2⟩, ?_, ?_⟩
  · obtain ⟨top, b1, b2, b3, b4, b5⟩ := u
    refine ⟨top, b1, b2, by rw [e0]; exact b3, by rw [e0]; exact b4, fun j e he => ?_⟩
    obtain ⟨X', r1, r2⟩ := b5 j e he
    exact ⟨X', cP_e (fun a ha => hcell a (by have := cOL_pc ha; omega) (by have := cOL_pc ha; omega)) r1, r2⟩
  · have e2 := hcell 2 (by decide) (by decide)
    refine ⟨kP_e (by rw [hcell 13 (by decide) (by decide)]) (fun a z1 z2 => hcell a (by omega) (by omega)) j1, cNm_fr hf (by decide) (by decide) j2, by rw [e0]; exact j3, rP_e (hcell 1 (by decide) (by decide)) j4, cIm_e (fun a z1 z2 => hcell a (by omega) (by omega)) j5, cIm_e (fun a z1 z2 => hcell a (by omega) (by omega)) j6, by rw [e2]; exact j7, by rw [e2]; exact j8, by rw [e0]; exact j9, by rw [e0]; exact j10, ht.1, tX_r ht.2⟩
theorem iM_X {G : gG} {S : gS} {U : List gU} {K : qK} {t : List Int} {ν ν' : ax_M} (hK : rok (kR K)) (hf : fr [207, 224] ν ν') (h0 : ∀ k, k ≠ 34 → ν'.1 207 k = ν.1 207 k) (ht : tXm t ν') (hi : iM G S U K ν) : iM G S U (kXs K t) ν' := by
  obtain ⟨m1, u, j⟩ := hi
  obtain ⟨j1, j2, j3, j4, j5, j6, j7, j8, j9, j10, j11, j12⟩ := j
  refine ⟨mI_fr hf (by decide) m1, uM_fr hf (by decide) (h0 24 (by decide)) u, ?_⟩
  refine ⟨oP_bg hK (bgf hf (by decide)) j1, ?_, (h0 2 (by decide)).trans j3, rP_e (hf.2 208 (by decide)) j4, rIm_e (hf.2 211 (by decide)) (hf.2 218 (by decide)) (by rw [hf.1]) j5, rIm_e (hf.2 211 (by decide)) (hf.2 218 (by decide)) (by rw [hf.1]) j6, (h0 9 (by decide)).trans j7, (h0 10 (by decide)).trans j8, (h0 30 (by decide)).trans j9, (h0 31 (by decide)).trans j10, ht.1, tX_r ht.2⟩
  unfold rNm at *
  rw [hf.1]
  exact j2
theorem tAll_l {G : gG} {S : gS} {N : qNm} (hg : hGok G) (hN : nOK N) (hNG : N.1 = gN G) {k : Int} (h0 : 0 ≤ glt S k 0 ∧ glt S k 0 ≤ 6) (h1 : 0 ≤ glt S k 1 ∧ glt S k 1 < 2 * gE G) : (tAll G S N k).length ≤ 32 := by
  have la := tA_l hg hN hNG (k := k) h0 h1
  have b : (tB S k).length ≤ 3 := by
    unfold tB
    split
    · exact tNu_l
    · decide
  have c : (tC' S k).length ≤ 3 := by
    unfold tC'
    split
    · exact tNu_l
    · decide
  have d : (tD S k).length ≤ 3 := by
    unfold tD
    split
    · exact tNu_l
    · decide
  unfold tAll
  simp only [List.length_append]
  omega
theorem q_spell {G : gG} {S : gS} {U : List gU} {K : qK} (hp : pOK G S U K) (a : Int32) : qCl G S U K 790 623 [.ref 0, .int a] [.ref 207, .int a] := by
  have hlv : ∀ k, 0 ≤ k → k < gnL S → glt S k 2 < 100 := fun k _ _ => by
    have := hp.2.2.1.2.2.2.2 k
    omega
  obtain ⟨k, hk, rfl⟩ := zI_of a
  have hg := hp.1
  have hv := hp.2.2.1
  have hr := hv.2.2.1
  have hL := pOK_L hp
  have hKK := hp.2.2.2.2.2.2.1
  have hK := hKK.1
  have hN := hKK.2.1
  have hNG := hp.2.2.2.2.2.2.2
  by_cases c : 0 ≤ k ∧ k < gnL S
  · obtain ⟨l0, l1, _⟩ := hr.2.2.2 k c.1 c.2
    have hlen := tAll_l hg hN hNG (k := k) l0 l1
    have hd : decide (0 ≤ k ∧ k < gnL S) = true := by simp [c]
    refine ⟨zI (tAll G S (kN K) k).length, G, S, U, kXs K (tAll G S (kN K) k), ?_, ?_, ?_⟩
    · obtain ⟨p1, p2, p3, p4, p5, p6, p7, p8⟩ := hp
      obtain ⟨q1, q2, q3, q4, q5, q6, q7, q8, q9, q10⟩ := p7
      exact ⟨p1, p2, p3, p4, p5, p6, ⟨q1, q2, q3, q4, q5, q6, q7, q8, q9, ⟨by show (0 : Int) ≤ (tAll G S (kN K) k).length; omega, by show ((tAll G S (kN K) k).length : Int) ≤ 48; omega⟩⟩, p8⟩
    · intro ν hi
      obtain ⟨⟨X, x1, x2⟩, _, j⟩ := iC_R hp.2.2.1 hi
      obtain ⟨ν', h1, h2, h3⟩ := q_write hg hL hr hN hNG x1 j.2.1 c.1 c.2 (hlv k c.1 c.2)
      refine ⟨ν', ?_, iC_X h3 h2 hi, frC_of h3 (fun a ha => by simp at ha; omega)⟩
      rw [jl_790, q_il hL.1 (by omega) x1 hk, z_b1, hd, if_neg zB_t, jl_791, h1, z_b0, h2.1]
    · intro ν hi
      obtain ⟨ν0, e0, hi0, f0⟩ := iM_th hK hi
      obtain ⟨m1, _, j⟩ := id hi0
      obtain ⟨ν', h1, h2, h3, h4⟩ := q_rwrite hg hL hr hN hNG m1 j.2.1 c.1 c.2 (hlv k c.1 c.2)
      refine ⟨ν', ?_, iM_X hK h3 h4 h2 hi0, frM_t f0 (frM_of h3 (by simp))⟩
      rw [jl_623, ← e0, show (383 : Int32) = zI 383 from rfl, q_rL m1, z_bo, show (1 : Int32) = zI 1 from rfl, show (0 : Int32) = zI 0 from rfl, zI_sub, mz_isIn hk (zR_of (by omega)) (zR_of (by omega)), z_b1, show decide (0 ≤ k ∧ k ≤ gnL S - 1) = true by simp; omega, if_neg zB_t', h1]
  · have hd : decide (0 ≤ k ∧ k < gnL S) = false := by simp; omega
    refine qCl_same hp (-1) ?_ ?_
    · intro ν hi
      obtain ⟨⟨X, x1, x2⟩, _, j⟩ := iC_R hp.2.2.1 hi
      rw [jl_790, q_il hL.1 (by omega) x1 hk, z_b1, hd, if_pos (by decide)]
    · intro ν ν0 e0 hi0
      have m1 := hi0.1
      rw [jl_623, ← e0, show (383 : Int32) = zI 383 from rfl, q_rL m1, z_bo, show (1 : Int32) = zI 1 from rfl, show (0 : Int32) = zI 0 from rfl, zI_sub, mz_isIn hk (zR_of (by omega)) (zR_of (by omega)), z_b1, show decide (0 ≤ k ∧ k ≤ gnL S - 1) = false by simp; omega, if_pos zB_f]
