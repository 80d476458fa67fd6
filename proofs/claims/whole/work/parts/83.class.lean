/-! c: more writes into the picture; a letter is sent (printed by wip/gen/gen83.py) -/
theorem c_wfo {o : Nat} (h : cO o) {G : gG} {S : gS} {fo lo oe af wl so wn : Int → Int} {ow wc hd dp : Int} {μ : ax_M} {w v : Int} (h0 : 0 ≤ w) (h1 : w < 60) : (ax_up (cM o G S (fo, lo, oe, af, wl, so, wn, ow, wc, hd, dp) μ).1 (o + 5) w.toNat (zI v), (cM o G S (fo, lo, oe, af, wl, so, wn, ow, wc, hd, dp) μ).2) = cM o G S (pu fo w v, lo, oe, af, wl, so, wn, ow, wc, hd, dp) μ := by
  refine c_set rfl ?_
  intro a k
  by_cases ha : a = o + 5
  · subst ha
    rw [cM_5 h, cM_5 h]
    have e : ∀ Z : cX, (Z = (pu fo w v, lo, oe, af, wl, so, wn, ow, wc, hd, dp)) → cR (xfo Z) 60 (μ.1 (o + 5)) k = if k = w.toNat then zI v else cR fo 60 (μ.1 (o + 5)) k := by
      intro Z hZ
      rw [hZ]
      exact cR_pu h0 h1
    rw [e _ rfl]
    simp [xfo]
  · rw [if_neg (fun q => ha q.1)]
    rcases h with rfl | rfl
    · simp only [cM, ha, if_false]
      rfl
    · simp only [cM, ha, if_false]
      rfl
theorem c_wlo {o : Nat} (h : cO o) {G : gG} {S : gS} {fo lo oe af wl so wn : Int → Int} {ow wc hd dp : Int} {μ : ax_M} {w v : Int} (h0 : 0 ≤ w) (h1 : w < 60) : (ax_up (cM o G S (fo, lo, oe, af, wl, so, wn, ow, wc, hd, dp) μ).1 (o + 6) w.toNat (zI v), (cM o G S (fo, lo, oe, af, wl, so, wn, ow, wc, hd, dp) μ).2) = cM o G S (fo, pu lo w v, oe, af, wl, so, wn, ow, wc, hd, dp) μ := by
  refine c_set rfl ?_
  intro a k
  by_cases ha : a = o + 6
  · subst ha
    rw [cM_l h, cM_l h]
    have e : ∀ Z : cX, (Z = (fo, pu lo w v, oe, af, wl, so, wn, ow, wc, hd, dp)) → cR (xlo Z) 60 (μ.1 (o + 6)) k = if k = w.toNat then zI v else cR lo 60 (μ.1 (o + 6)) k := by
      intro Z hZ
      rw [hZ]
      exact cR_pu h0 h1
    rw [e _ rfl]
    simp [xlo]
  · rw [if_neg (fun q => ha q.1)]
    rcases h with rfl | rfl
    · simp only [cM, ha, if_false]
      rfl
    · simp only [cM, ha, if_false]
      rfl
theorem c_woe {o : Nat} (h : cO o) {G : gG} {S : gS} {fo lo oe af wl so wn : Int → Int} {ow wc hd dp : Int} {μ : ax_M} {w v : Int} (h0 : 0 ≤ w) (h1 : w < 60) : (ax_up (cM o G S (fo, lo, oe, af, wl, so, wn, ow, wc, hd, dp) μ).1 (o + 7) w.toNat (zI v), (cM o G S (fo, lo, oe, af, wl, so, wn, ow, wc, hd, dp) μ).2) = cM o G S (fo, lo, pu oe w v, af, wl, so, wn, ow, wc, hd, dp) μ := by
  refine c_set rfl ?_
  intro a k
  by_cases ha : a = o + 7
  · subst ha
    rw [cM_7 h, cM_7 h]
    have e : ∀ Z : cX, (Z = (fo, lo, pu oe w v, af, wl, so, wn, ow, wc, hd, dp)) → cR (xoe Z) 60 (μ.1 (o + 7)) k = if k = w.toNat then zI v else cR oe 60 (μ.1 (o + 7)) k := by
      intro Z hZ
      rw [hZ]
      exact cR_pu h0 h1
    rw [e _ rfl]
    simp [xoe]
  · rw [if_neg (fun q => ha q.1)]
    rcases h with rfl | rfl
    · simp only [cM, ha, if_false]
      rfl
    · simp only [cM, ha, if_false]
      rfl
theorem c_wso {o : Nat} (h : cO o) {G : gG} {S : gS} {fo lo oe af wl so wn : Int → Int} {ow wc hd dp : Int} {μ : ax_M} {w v : Int} (h0 : 0 ≤ w) (h1 : w < 7) : (ax_up (cM o G S (fo, lo, oe, af, wl, so, wn, ow, wc, hd, dp) μ).1 (o + 10) w.toNat (zI v), (cM o G S (fo, lo, oe, af, wl, so, wn, ow, wc, hd, dp) μ).2) = cM o G S (fo, lo, oe, af, wl, pu so w v, wn, ow, wc, hd, dp) μ := by
  refine c_set rfl ?_
  intro a k
  by_cases ha : a = o + 10
  · subst ha
    rw [cM_10 h, cM_10 h]
    have e : ∀ Z : cX, (Z = (fo, lo, oe, af, wl, pu so w v, wn, ow, wc, hd, dp)) → cR (xso Z) 7 (μ.1 (o + 10)) k = if k = w.toNat then zI v else cR so 7 (μ.1 (o + 10)) k := by
      intro Z hZ
      rw [hZ]
      exact cR_pu h0 h1
    rw [e _ rfl]
    simp [xso]
  · rw [if_neg (fun q => ha q.1)]
    rcases h with rfl | rfl
    · simp only [cM, ha, if_false]
      rfl
    · simp only [cM, ha, if_false]
      rfl
theorem c_bg {o : Nat} (h : cO o) {G : gG} {S : gS} {X : cX} {μ : ax_M} {z : Nat} {x : Int32} (hz : 8 * gnL S ≤ z) : (ax_up (cM o G S X μ).1 (o + 4) z x, (cM o G S X μ).2) = cM o G S X (ax_up μ.1 (o + 4) z x, μ.2) := by
  refine c_set rfl ?_
  intro a k
  by_cases ha : a = o + 4
  · subst ha
    rw [cM_4 h, cM_4 h]
    unfold cL
    by_cases hk : k = z
    · have hc : o + 4 = o + 4 ∧ k = z := ⟨rfl, hk⟩
      have hn : ¬ (k : Int) / 8 < gnL S := by omega
      rw [if_neg hn, if_neg hn, if_pos hc]
      show ax_up μ.1 (o + 4) z x (o + 4) k = x
      unfold ax_up
      rw [if_pos hc]
    · have hc : ¬ (o + 4 = o + 4 ∧ k = z) := fun q => hk q.2
      rw [if_neg hc]
      have e : (ax_up μ.1 (o + 4) z x, μ.2).1 (o + 4) k = μ.1 (o + 4) k := by
        show ax_up μ.1 (o + 4) z x (o + 4) k = _
        unfold ax_up
        rw [if_neg hc]
      rw [e]
  · rw [if_neg (fun q => ha q.1)]
    have e : ∀ b k, b ≠ o + 4 → ax_up μ.1 (o + 4) z x b k = μ.1 b k := by
      intro b k hb
      unfold ax_up
      rw [if_neg (fun q => hb q.1)]
    have e2 : ∀ b, b ≠ o + 4 → ax_up μ.1 (o + 4) z x b = μ.1 b := fun b hb => funext (fun k => e b k hb)
    unfold cM
    simp only
    have q3 : 3 ≠ o + 4 := by rcases h with rfl | rfl <;> decide
    have q6 : 6 ≠ o + 4 := by rcases h with rfl | rfl <;> decide
    rw [e2 3 q3, e2 6 q6, e2 o (by omega), e2 (o + 1) (by omega), e2 (o + 2) (by omega), e2 (o + 3) (by omega), e2 (o + 5) (by omega), e2 (o + 6) (by omega), e2 (o + 7) (by omega), e2 (o + 9) (by omega), e2 (o + 10) (by omega), e2 a ha]
    simp only [if_neg ha]
theorem c_waf {o : Nat} (h : cO o) {G : gG} {S : gS} {fo lo oe af wl so wn : Int → Int} {ow wc hd dp : Int} {μ : ax_M} {j v : Int} (h0 : 0 ≤ j) (h1 : j < gnL S) : (ax_up (cM o G S (fo, lo, oe, af, wl, so, wn, ow, wc, hd, dp) μ).1 (o + 4) (8 * j + 7).toNat (zI v), (cM o G S (fo, lo, oe, af, wl, so, wn, ow, wc, hd, dp) μ).2) = cM o G S (fo, lo, oe, pu af j v, wl, so, wn, ow, wc, hd, dp) μ := by
  refine c_set rfl ?_
  intro a k
  by_cases ha : a = o + 4
  · subst ha
    rw [cM_4 h, cM_4 h]
    by_cases hk : k = (8 * j + 7).toNat
    · have hc : o + 4 = o + 4 ∧ k = (8 * j + 7).toNat := ⟨rfl, hk⟩
      have e : (k : Int) = 8 * j + 7 := by omega
      rw [if_pos hc]
      unfold cL
      rw [e, if_pos (by omega), if_pos (by omega), show (8 * j + 7) / 8 = j by omega]
      show zI (pu af j v j) = zI v
      rw [pu_at]
    · have hc : ¬ (o + 4 = o + 4 ∧ k = (8 * j + 7).toNat) := fun q => hk q.2
      rw [if_neg hc]
      unfold cL
      by_cases hm : (k : Int) % 8 = 7
      · have e : xaf (fo, lo, oe, pu af j v, wl, so, wn, ow, wc, hd, dp) ((k : Int) / 8) = xaf (fo, lo, oe, af, wl, so, wn, ow, wc, hd, dp) ((k : Int) / 8) := by
          show pu af j v ((k : Int) / 8) = af ((k : Int) / 8)
          exact pu_ne (by omega)
        rw [e]
      · rw [if_neg hm, if_neg hm]
  · rw [if_neg (fun q => ha q.1)]
    rcases h with rfl | rfl
    · simp only [cM, ha, if_false]
      rfl
    · simp only [cM, ha, if_false]
      rfl
theorem c_fow {o : Nat} (h : cO o) {G : gG} {S : gS} {fo lo oe af wl so wn : Int → Int} {ow wc hd dp : Int} {μ : ax_M} {v : Int} : (ax_up (cM o G S (fo, lo, oe, af, wl, so, wn, ow, wc, hd, dp) μ).1 o 12 (zI v), (cM o G S (fo, lo, oe, af, wl, so, wn, ow, wc, hd, dp) μ).2) = cM o G S (fo, lo, oe, af, wl, so, wn, v, wc, hd, dp) μ := by
  refine c_set rfl ?_
  intro a k
  by_cases ha : a = o
  · subst ha
    rw [cM_o h, cM_o h]
    by_cases hk : k = 12
    · subst hk
      simp [cF]
      rfl
    · simp only [hk, and_false, if_false]
      unfold cF
      simp only [hk, if_false]
      rfl
  · rw [if_neg (fun q => ha q.1)]
    rcases h with rfl | rfl
    · simp only [cM, ha, if_false]
      rfl
    · simp only [cM, ha, if_false]
      rfl
theorem c_fhd {o : Nat} (h : cO o) {G : gG} {S : gS} {fo lo oe af wl so wn : Int → Int} {ow wc hd dp : Int} {μ : ax_M} {v : Int} : (ax_up (cM o G S (fo, lo, oe, af, wl, so, wn, ow, wc, hd, dp) μ).1 o 14 (zI v), (cM o G S (fo, lo, oe, af, wl, so, wn, ow, wc, hd, dp) μ).2) = cM o G S (fo, lo, oe, af, wl, so, wn, ow, wc, v, dp) μ := by
  refine c_set rfl ?_
  intro a k
  by_cases ha : a = o
  · subst ha
    rw [cM_o h, cM_o h]
    by_cases hk : k = 14
    · subst hk
      simp [cF]
      rfl
    · simp only [hk, and_false, if_false]
      unfold cF
      simp only [hk, if_false]
      rfl
  · rw [if_neg (fun q => ha q.1)]
    rcases h with rfl | rfl
    · simp only [cM, ha, if_false]
      rfl
    · simp only [cM, ha, if_false]
      rfl
theorem c_fdp {o : Nat} (h : cO o) {G : gG} {S : gS} {fo lo oe af wl so wn : Int → Int} {ow wc hd dp : Int} {μ : ax_M} {v : Int} : (ax_up (cM o G S (fo, lo, oe, af, wl, so, wn, ow, wc, hd, dp) μ).1 o 16 (zI v), (cM o G S (fo, lo, oe, af, wl, so, wn, ow, wc, hd, dp) μ).2) = cM o G S (fo, lo, oe, af, wl, so, wn, ow, wc, hd, v) μ := by
  refine c_set rfl ?_
  intro a k
  by_cases ha : a = o
  · subst ha
    rw [cM_o h, cM_o h]
    by_cases hk : k = 16
    · subst hk
      simp [cF]
      rfl
    · simp only [hk, and_false, if_false]
      unfold cF
      simp only [hk, if_false]
      rfl
  · rw [if_neg (fun q => ha q.1)]
    rcases h with rfl | rfl
    · simp only [cM, ha, if_false]
      rfl
    · simp only [cM, ha, if_false]
      rfl
theorem c_fdf {o : Nat} (h : cO o) {G : gG} {S : gS} {X : cX} {μ : ax_M} {v : Int} : (ax_up (cM o G S X μ).1 o 15 (zI v), (cM o G S X μ).2) = cM o G (gsD S v) X μ := by
  refine c_set rfl ?_
  intro a k
  by_cases ha : a = o
  · subst ha
    rw [cM_o h, cM_o h]
    by_cases hk : k = 15
    · subst hk
      simp [cF]
      rfl
    · simp only [hk, and_false, if_false]
      unfold cF
      simp only [hk, if_false]
      rfl
  · rw [if_neg (fun q => ha q.1)]
    rcases h with rfl | rfl
    · simp only [cM, ha, if_false]
      rfl
    · simp only [cM, ha, if_false]
      rfl
theorem c_frd {o : Nat} (h : cO o) {G : gG} {S : gS} {X : cX} {μ : ax_M} {v : Int} : (ax_up (cM o G S X μ).1 o 17 (zI v), (cM o G S X μ).2) = cM o G (gsR S v) X μ := by
  refine c_set rfl ?_
  intro a k
  by_cases ha : a = o
  · subst ha
    rw [cM_o h, cM_o h]
    by_cases hk : k = 17
    · subst hk
      simp [cF]
      rfl
    · simp only [hk, and_false, if_false]
      unfold cF
      simp only [hk, if_false]
      rfl
  · rw [if_neg (fun q => ha q.1)]
    rcases h with rfl | rfl
    · simp only [cM, ha, if_false]
      rfl
    · simp only [cM, ha, if_false]
      rfl
