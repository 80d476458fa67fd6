/-! l: levels of letters stay below 100 -/
def hLt (S : gS) : Prop := ∀ k, glt S k 2 ≤ 31
theorem lt_W {G : gG} {S : gS} {c : Int} (hg : hGok G) (h : hI G S c) (hl : hLt S) : hLW S := ⟨fun n => by
  have := lev_le hg h n
  have := hg.2.2.2.1
  omega, hl⟩
theorem lt_ha {G : gG} {S : gS} {c k : Int} (hg : hGok G) (h : hI G S c) (hl : hLt S) : hLt (hha G S k) := (lw_hha (lt_W hg h hl) (fun n => by
  have := lev_le hg h n
  have := hg.2.2.2.1
  omega)).2
theorem lt_dr {G : gG} {n : Int} (hg : hGok G) : ∀ f S, hI G S 0 → hQn G n S → hcD S ≤ f → hLt S → hLt (hdr G n f S) := by
  intro f
  induction f with
  | zero => exact fun S _ _ _ hl => hl
  | succ f ih =>
    intro S h hq hc hl
    have hL := (h_cnt hg h (by omega)).1
    unfold hdr
    by_cases hk : gra G S n = -1
    · rw [if_pos hk]
      exact hl
    · rw [if_neg hk]
      rcases h_gra (G := G) (n := n) hL with h1 | h1
      · exact absurd h1.1 hk
      · obtain ⟨a1, a2, a3, a4, a5⟩ := h1
        have hkd := (h_letW h a1 a2).2.2.1 a3
        have h2 := h_step hg h hq a1 a2 (by omega) (by
          intro j j0 j1 j2 j3
          have := h_letF h j _ j0 j1 a2 j2 j3
          omega) a5 a4 (fun q => by omega)
        have h3 := h_cD hL a1 a2 a3 h2.2.2.1
        exact ih _ h2.1 h2.2.1 (by omega) (lt_ha hg h hl)
theorem lt_ta {G : gG} {S : gS} {w : Int} (hg : hGok G) (h : hI G S 0) (hq : hQ G S) (hk : gfi S w ≠ -1) (hl : hLt S) : hLt (hta G S w).2 := by
  have hL := (h_cnt hg h (by omega)).1
  rcases h_gfi (S := S) (w := w) hL with h1 | h1
  · exact absurd h1.1 hk
  obtain ⟨k0, k1, k2, k3, k4⟩ := h1
  unfold hta
  simp only
  generalize hkk : gfi S w = k at *
  have hlW := h_letW h k0 k1
  have hw : hW G w := by rw [← k3]; exact hlW.1
  have hrn : 0 ≤ grc G w ∧ grc G w < gN G := h_sdr hg (h_opW hw).1
  have key : ∀ S1, hI G S1 0 → hQ G S1 → hLt S1 → k < gnL S1 → (∀ j f, 0 ≤ j → j ≤ k → glt S1 j f = glt S j f) → hLt (if gwh G S1 k ≠ 0 then (gwh G S1 k, gdef S1 k) else (0, hdr G (grc G w) 256 (hha G S1 k))).2 := by
    intro S1 h1 hq1 hl1 hk1 hlt
    have e1 : glt S1 k 1 = w := by rw [hlt k 1 k0 (by omega)]; exact k3
    have e5 : glt S1 k 5 = 0 := by rw [hlt k 5 k0 (by omega)]; exact k2
    have hf : ∀ j, 0 ≤ j → j < k → glt S1 j 1 = glt S1 k 1 → glt S1 j 5 ≠ 0 := by
      intro j j0 j1 j2 j3
      rw [e1, hlt j 1 j0 (by omega)] at j2
      rw [hlt j 5 j0 (by omega)] at j3
      exact k4 j j0 j1 ⟨j3, j2⟩
    by_cases hr : gwh G S1 k ≠ 0
    · rw [if_pos hr]
      exact (lw_gdef (lt_W hg h1 hl1)).2
    · rw [if_neg hr]
      have hr0 : gwh G S1 k = 0 := by
        by_cases q : gwh G S1 k = 0
        · exact q
        · exact absurd q hr
      have h2 := h_step (n := grc G w) hg h1 (fun j a b c _ => hq1 j a b c) k0 hk1 (by omega) hf hr0 (by rw [e1]) (fun _ j a b c _ => hq1 j a b c)
      have hc := h_cnt hg h2.1 (by omega)
      exact lt_dr hg (n := grc G w) 256 _ h2.1 h2.2.1 (by
        have := pct_le (P := fun j => glt (hha G S1 k) j 5 = 1) (D := fun _ => inferInstance) (m := (gnL (hha G S1 k)).toNat)
        unfold hcD
        omega) (lt_ha hg h1 hl1)
  by_cases hcond : (glt S k 0 = 0 ∨ glt S k 0 = 2) ∧ gnd S (grc G w) 0 = 0
  · rw [if_pos hcond]
    obtain ⟨a1, a2, a3⟩ := h_wk hg h hrn.1 hrn.2 hcond.2
    refine key _ a1 (h_wkQ hg h hq hrn.1 hrn.2 hcond.2) (lw_gwk (lt_W hg h hl)).2 ?_ ?_
    · have := a2.2.2.1
      omega
    · intro j f j0 j1
      exact a2.2.2.2.1 j f (by omega)
  · rw [if_neg hcond]
    exact key _ h hq hl k1 (fun _ _ _ _ => rfl)
theorem lt_wk {G : gG} {S : gS} {n : Int} (hg : hGok G) (h : hI G S 0) (hl : hLt S) : hLt (gwk G S n) := (lw_gwk (lt_W hg h hl)).2
theorem lt_gas : hLt gas := lw_gas.2
