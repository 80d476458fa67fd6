/-! n: image: the class -/
theorem pp_at {f : Nat → Nat → Int32} {a k : Nat} {x : Int32} {y : Nat → Nat → Int64} : ((ax_up f a k x, y) : ax_M).1 a k = x := up_at
theorem pp_ne {f : Nat → Nat → Int32} {a b k j : Nat} {x : Int32} {y : Nat → Nat → Int64} (h : b ≠ a) : ((ax_up f a k x, y) : ax_M).1 b j = f b j := up_ne h
theorem pp_nk {f : Nat → Nat → Int32} {a b k j : Nat} {x : Int32} {y : Nat → Nat → Int64} (h : j ≠ k) : ((ax_up f a k x, y) : ax_M).1 b j = f b j := up_nk h
theorem cNt_e {b : Nat} {G : gG} {ν ν' : ax_M} (h0 : ν'.1 b = ν.1 b) (h3 : ν'.1 (b + 3) = ν.1 (b + 3)) (h : cNt b G ν) : cNt b G ν' := by
  unfold cNt rP at *
  rw [h0, h3]
  exact h
theorem cNm_e {b : Nat} {N : qNm} {ν ν' : ax_M} (h1 : ν'.1 (b + 1) = ν.1 (b + 1)) (h2 : ν'.1 (b + 2) = ν.1 (b + 2)) (h : cNm b N ν) : cNm b N ν' := by
  unfold cNm at *
  rw [h1, h2]
  exact h
def kIm (K : qK) (k : Int) (I : qIm) : qK := if k = 0 then (kR K, kN K, kT K, I, kI1 K, kF K, kO K, kX K) else (kR K, kN K, kT K, kI0 K, I, kF K, kO K, kX K)
theorem kIm_R {K : qK} {k : Int} {I : qIm} : kR (kIm K k I) = kR K ∧ kN (kIm K k I) = kN K := by
  unfold kIm
  split <;> exact ⟨rfl, rfl⟩
theorem kIm_OK {K : qK} {k : Int} {I : qIm} (h : kOK K) (hI : imOK I) : kOK (kIm K k I) := by
  obtain ⟨q1, q2, q3, q4, q5, q6, q7, q8, q9, q10⟩ := h
  unfold kIm
  split
  · exact ⟨q1, q2, q3, hI, q5, q6, q7, q8, q9, q10⟩
  · exact ⟨q1, q2, q3, q4, hI, q6, q7, q8, q9, q10⟩
theorem pQ_im {G : gG} {S : gS} {U : List gU} {K : qK} (hp : pQ G S U K) : imOK (some (G, S, kR K, kN K)) := by
  intro G' S' R' N' h
  cases h
  refine ⟨?_, (pQ_K hp).1, (pQ_K hp).2.1, pQ_n hp⟩
  rcases hp with h | ⟨h1, h2, _⟩
  · exact Or.inl ⟨h.1, h.2.1, h.2.2.1, h.2.2.2.1⟩
  · exact Or.inr ⟨h1, h2⟩
theorem xx_wc {G : gG} {S : gS} {X : cX} (h : XX G S X) (hL : gnL S ≤ 252) : 0 ≤ xwc X ∧ xwc X ≤ 252 := by
  rcases h with h | ⟨_, _, rfl⟩
  · have := h.2.2.2.2.1.1
    omega
  · have : xwc X00 = 0 := rfl
    omega
theorem mem_r {a b : Nat} : a ∈ List.range' b 25 ↔ b ≤ a ∧ a < b + 25 := List.mem_range'_1
theorem q_imC {G : gG} {S : gS} {U : List gU} {K : qK} {X : cX} {b : Nat} {ν : ax_M} (hb : b = 152 ∨ b = 177) (hp : pQ G S U K) (x1 : cI 29 G S X ν) (hx : XX G S X) (j : jC K ν) : ∃ ν', aJ 794 [.ref 0, .ref b] [] ν = some (some (.int 1), ν') ∧ cIm b (some (G, S, kR K, kN K)) ν' ∧ fr (List.range' b 25) ν ν' := by
  have hg := pQ_g hp
  have hK := pQ_K hp
  have hL := pQ_L hp
  have hw := xx_wc hx hL.2
  obtain ⟨c1, c2⟩ := cI_cP (Or.inl rfl) x1
  have hs : shN (b + 1) ∧ shR (b + 6) ∧ b + 14 ∈ RO := by
    rcases hb with rfl | rfl
    · exact ⟨shN_3.2.2.1, shR_13.2.2.1, by decide⟩
    · exact ⟨shN_3.2.2.2, shR_13.2.2.2, by decide⟩
  obtain ⟨ν1, a1, a2, a3, a4, a5, a6⟩ := q_ncp (x0 := b + 1) (x1 := 3) (by omega) (Or.inl rfl) (by omega) hs.1 shN_3.1 hK.2.1 hg.2.2.2.1 (show cNt 3 G ν from ⟨c2.1, c2.2.1, c2.2.2⟩) j.2.1
  have k1 : kP 13 (kR K) ν1 := kP_e (by rw [a4.2 13 (by simp; omega)]) (fun a h1 h2 => a4.2 a (by simp; omega)) j.1
  obtain ⟨ν2, b1, b2, b3, b4⟩ := q_rcp (x0 := b + 6) (x1 := 13) (by omega) (Or.inl rfl) (by omega) hs.2.1 shR_13.1 hK.1 k1
  have k2 : cP 29 (gwt G) S X ν2 := cP_e (fun a ha => (b3.2 a (by simp [cOL] at ha; simp; omega)).trans (a4.2 a (by simp [cOL] at ha; simp; omega))) c1
  obtain ⟨ν3, d1, d2, d3⟩ := q_cf (x0 := b + 14) (x1 := 29) hs.2.2 (by decide) (by omega) (by decide) k2 hL.1 (by omega) hw.1 (by omega)
  have f4 : fr (List.range' b 25) ν3 (ax_uD ν3 b 3 1) := fr_uD (mem_r.mpr (by omega))
  have n3 : ∀ a, a ∉ cOL (b + 14) → ν3.1 a = ν2.1 a := d3.2
  have g4 : ∀ a, a ≠ b → (ax_uD ν3 b 3 1).1 a = ν3.1 a := fun a ha => funext fun k => uD_ne ha
  refine ⟨ax_uD ν3 b 3 1, ?_, ⟨uD_at, ?_, ?_, ?_, X, ?_, hx⟩, ?_⟩
  · rw [jl_794 _ _ hb, a1, z_b0, b1, z_b0, d1, z_b0]
  · refine cNt_e ?_ ?_ a2
    · rw [g4 _ (by omega), n3 _ (by simp [cOL] <;> omega), b3.2 _ (by simp)]
    · rw [g4 _ (by omega), n3 _ (by simp [cOL] <;> omega), b3.2 _ (by simp)]
  · refine cNm_e ?_ ?_ a3
    · rw [g4 _ (by omega), n3 _ (by simp [cOL] <;> omega), b3.2 _ (by simp)]
    · rw [g4 _ (by omega), n3 _ (by simp [cOL] <;> omega), b3.2 _ (by simp)]
  · refine kP_e ?_ ?_ b2
    · rw [g4 _ (by omega), n3 _ (by simp [cOL] <;> omega)]
    · intro a h1 h2
      rw [g4 _ (by omega), n3 _ (by simp [cOL] <;> omega)]
  · refine cP_e (fun a ha => ?_) d2
    rw [g4 _ (by simp [cOL] at ha; omega)]
  · refine frt (frm a4 ?_) (frt (frm b3 ?_) (frt (frm d3 ?_) f4))
    · intro a ha
      simp at ha
      exact mem_r.mpr (by omega)
    · intro a ha
      simp at ha
      exact mem_r.mpr (by omega)
    · intro a ha
      simp [cOL] at ha
      exact mem_r.mpr (by omega)
theorem q_ima {ν : ax_M} {k : Int} (hk : k = 0 ∨ k = 1) : aJ 823 [.ref 0, .int (zI k)] [] ν = some (some (.ref (152 + 25 * k.toNat)), ν) := by
  have l0 : ax_lda ax_sh 151 (zI 0) = some 152 := by decide +kernel
  have l1 : ax_lda ax_sh 151 (zI 1) = some 177 := by decide +kernel
  rw [jl_823]
  simp (disch := omega) only [zI_lit, p_lt, p_le]
  rw [if_neg (by omega), if_neg (by omega)]
  rcases hk with rfl | rfl
  · rw [l0, z_bo, jl_825]
    rfl
  · rw [l1, z_bo, jl_825]
    rfl
theorem q_imo {ν : ax_M} {k : Int} (hz : zR k) (hk : ¬ (k = 0 ∨ k = 1)) : aJ 823 [.ref 0, .int (zI k)] [] ν = some (some .null, ν) := by
  obtain ⟨z1, z2⟩ := hz
  rw [jl_823]
  simp (disch := omega) only [zI_lit, p_lt, p_le]
  by_cases c : k < 0
  · rw [if_pos c, jl_824, jl_825_n]
  · rw [if_neg c, if_pos (by omega), jl_824, jl_825_n]
/-- the class with another image -/
theorem iC_im {G : gG} {S : gS} {U : List gU} {K : qK} {I : qIm} {k : Int} {ν ν' : ax_M} (hk : k = 0 ∨ k = 1) (hf : fr (List.range' (152 + 25 * k.toNat) 25) ν ν') (hI : cIm (152 + 25 * k.toNat) I ν') (hi : iC G S U K ν) : iC G S U (kIm K k I) ν' := by
  have hl : ∀ a, a ∈ List.range' (152 + 25 * k.toNat) 25 → (152 ≤ a ∧ a ≤ 201) ∧ 152 + 25 * k.toNat ≤ a ∧ a < 177 + 25 * k.toNat := fun a ha => by
    have := mem_r.mp ha
    omega
  have hc : ∀ a, a < 152 ∨ 201 < a → ν'.1 a = ν.1 a := fun a ha => hf.2 a (fun q => by have := hl a q; omega)
  obtain ⟨⟨X, x1, x2⟩, u, j⟩ := hi
  obtain ⟨j1, j2, j3, j4, j5, j6, j7, j8, j9, j10, j11, j12⟩ := j
  have e0 := hc 0 (by omega)
  have e2 := hc 2 (by omega)
  have e205 := hc 205 (by omega)
  refine ⟨⟨X, cI_fr (Or.inl rfl) hf (fun a ha => by have := hl a ha; omega) x1, x2⟩, uC_fr hf (fun a ha => by have := hl a ha; omega) (by rw [e0]) (by rw [e0]) u, ?_⟩
  have q1 : kP 13 (kR K) ν' := kP_e (by rw [hc 13 (by omega)]) (fun a z1 z2 => hc a (by omega)) j1
  have q2 : cNm 3 (kN K) ν' := cNm_e (hc _ (by omega)) (hc _ (by omega)) j2
  have q4 := rP_e (hc 1 (by omega)) j4
  have q12 := rP_e (hc 206 (by omega)) j12
  rcases hk with rfl | rfl
  · refine ⟨q1, q2, by rw [e0]; exact j3, q4, hI, cIm_e (fun a z1 z2 => hf.2 a (fun q => by have := hl a q; simp at this; omega)) j6, by rw [e2]; exact j7, by rw [e2]; exact j8, by rw [e0]; exact j9, by rw [e0]; exact j10, by rw [e205]; exact j11, q12⟩
  · refine ⟨q1, q2, by rw [e0]; exact j3, q4, cIm_e (fun a z1 z2 => hf.2 a (fun q => by have := hl a q; simp at this; omega)) j5, hI, by rw [e2]; exact j7, by rw [e2]; exact j8, by rw [e0]; exact j9, by rw [e0]; exact j10, by rw [e205]; exact j11, q12⟩
