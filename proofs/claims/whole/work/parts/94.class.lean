/-! c: writes into the waiting row -/
theorem c_bw {o : Nat} (h : cO o) {G : gG} {S : gS} {X : cX} {μ : ax_M} {z : Nat} {x : Int32} (hz : xwc X ≤ z) : (ax_up (cM o G S X μ).1 (o + 9) z x, (cM o G S X μ).2) = cM o G S X (ax_up μ.1 (o + 9) z x, μ.2) := by
  refine c_set rfl ?_
  intro a k
  by_cases ha : a = o + 9
  · subst ha
    rw [cM_9 h, cM_9 h]
    unfold cR
    by_cases hk : k = z
    · have hc : o + 9 = o + 9 ∧ k = z := ⟨rfl, hk⟩
      have hn : ¬ (k : Int) < xwc X := by omega
      rw [if_neg hn, if_neg hn, if_pos hc]
      show ax_up μ.1 (o + 9) z x (o + 9) k = x
      unfold ax_up
      rw [if_pos hc]
    · have hc : ¬ (o + 9 = o + 9 ∧ k = z) := fun q => hk q.2
      rw [if_neg hc]
      have e : (ax_up μ.1 (o + 9) z x, μ.2).1 (o + 9) k = μ.1 (o + 9) k := by
        show ax_up μ.1 (o + 9) z x (o + 9) k = _
        unfold ax_up
        rw [if_neg hc]
      rw [e]
  · rw [if_neg (fun q => ha q.1)]
    have e : ∀ b k, b ≠ o + 9 → ax_up μ.1 (o + 9) z x b k = μ.1 b k := by
      intro b k hb
      unfold ax_up
      rw [if_neg (fun q => hb q.1)]
    have e2 : ∀ b, b ≠ o + 9 → ax_up μ.1 (o + 9) z x b = μ.1 b := fun b hb => funext (fun k => e b k hb)
    unfold cM
    simp only
    have q3 : 3 ≠ o + 9 := by rcases h with rfl | rfl <;> decide
    have q6 : 6 ≠ o + 9 := by rcases h with rfl | rfl <;> decide
    rw [e2 3 q3, e2 6 q6, e2 o (by omega), e2 (o + 1) (by omega), e2 (o + 2) (by omega), e2 (o + 3) (by omega), e2 (o + 4) (by omega), e2 (o + 5) (by omega), e2 (o + 6) (by omega), e2 (o + 7) (by omega), e2 (o + 10) (by omega), e2 a ha]
    simp only [if_neg ha]
theorem c_wwl {o : Nat} (h : cO o) {G : gG} {S : gS} {fo lo oe af wl so wn : Int → Int} {ow wc hd dp : Int} {μ : ax_M} {w v : Int} (h0 : 0 ≤ w) (h1 : w < wc) : (ax_up (cM o G S (fo, lo, oe, af, wl, so, wn, ow, wc, hd, dp) μ).1 (o + 9) w.toNat (zI v), (cM o G S (fo, lo, oe, af, wl, so, wn, ow, wc, hd, dp) μ).2) = cM o G S (fo, lo, oe, af, pu wl w v, so, wn, ow, wc, hd, dp) μ := by
  refine c_set rfl ?_
  intro a k
  by_cases ha : a = o + 9
  · subst ha
    rw [cM_9 h, cM_9 h]
    have e : ∀ Z : cX, (Z = (fo, lo, oe, af, pu wl w v, so, wn, ow, wc, hd, dp)) → cR (xwl Z) (xwc Z) (μ.1 (o + 9)) k = if k = w.toNat then zI v else cR wl wc (μ.1 (o + 9)) k := by
      intro Z hZ
      rw [hZ]
      exact cR_pu h0 h1
    rw [e _ rfl]
    simp [xwl, xwc]
  · rw [if_neg (fun q => ha q.1)]
    rcases h with rfl | rfl
    · simp only [cM, ha, if_false]
      rfl
    · simp only [cM, ha, if_false]
      rfl
/-- one more waits -/
theorem u_fwc {o : Nat} (h : cO o) {G : gG} {S : gS} {fo lo oe af wl so wn : Int → Int} {ow wc hd dp j : Int} {μ : ax_M} (h0 : 0 ≤ wc) (hb : μ.1 (o + 9) wc.toNat = zI j) : ax_uD (cM o G S (fo, lo, oe, af, wl, so, wn, ow, wc, hd, dp) μ) o 13 (zI (wc + 1)) = cM o G S (fo, lo, oe, af, pu wl wc j, so, wn, ow, wc + 1, hd, dp) μ := by
  rw [uD_eq]
  refine c_set rfl ?_
  intro a k
  by_cases ha : a = o
  · subst ha
    rw [cM_o h, cM_o h]
    by_cases hk : k = 13
    · subst hk
      simp [cF]
      rfl
    · simp only [hk, and_false, if_false]
      unfold cF
      simp only [hk, if_false]
      rfl
  · rw [if_neg (fun q => ha q.1)]
    by_cases h9 : a = o + 9
    · subst h9
      rw [cM_9 h, cM_9 h]
      show cR (pu wl wc j) (wc + 1) (μ.1 (o + 9)) k = cR wl wc (μ.1 (o + 9)) k
      rw [cR_pu h0 (by omega)]
      by_cases hk : k = wc.toNat
      · have hn : ¬ (k : Int) < wc := by omega
        rw [if_pos hk]
        unfold cR
        rw [if_neg hn, hk, hb]
      · rw [if_neg hk]
        unfold cR
        by_cases q : (k : Int) < wc
        · rw [if_pos q, if_pos (by omega)]
        · rw [if_neg q, if_neg (by omega)]
    · rcases h with rfl | rfl
      · simp only [cM, ha, h9, if_false]
        rfl
      · simp only [cM, ha, h9, if_false]
        rfl
