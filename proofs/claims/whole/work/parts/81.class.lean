/-! c: writes into the picture -/
theorem c_set {o r z : Nat} {x : Int32} {G : gG} {S S' : gS} {X X' : cX} {μ μ' : ax_M} (h2 : μ'.2 = μ.2) (h : ∀ a k, (cM o G S' X' μ').1 a k = if a = r ∧ k = z then x else (cM o G S X μ).1 a k) : (ax_up (cM o G S X μ).1 r z x, (cM o G S X μ).2) = cM o G S' X' μ' := by
  have e : ax_up (cM o G S X μ).1 r z x = (cM o G S' X' μ').1 := by
    funext a k
    rw [h a k]
    rfl
  rw [e]
  have e2 : (cM o G S X μ).2 = (cM o G S' X' μ').2 := h2.symm
  rw [e2]
theorem c_wn {o : Nat} (h : cO o) {G : gG} {S : gS} {X : cX} {μ : ax_M} {n f v : Int} (h0 : 0 ≤ n) (h1 : n < 12) (h2 : 0 ≤ f) (h3 : f < 9) : (ax_up (cM o G S X μ).1 (o + 2) (11 * n + f).toNat (zI v), (cM o G S X μ).2) = cM o G (gsN S n f v) X μ := by
  refine c_set rfl ?_
  intro a k
  by_cases ha : a = o + 2
  · subst ha
    rw [cM_2 h, cM_2 h]
    by_cases hk : k = (11 * n + f).toNat
    · have hc : o + 2 = o + 2 ∧ k = (11 * n + f).toNat := ⟨rfl, hk⟩
      rw [if_pos hc]
      unfold cN
      have e : (k : Int) = 11 * n + f := by omega
      rw [e, if_pos (by omega), if_neg (by omega), if_neg (by omega), show (11 * n + f) / 11 = n by omega, show (11 * n + f) % 11 = f by omega]
      simp [gnd, gsN]
    · have hc : ¬ (o + 2 = o + 2 ∧ k = (11 * n + f).toNat) := fun q => hk q.2
      rw [if_neg hc]
      unfold cN
      have hne : ¬ ((k : Int) / 11 = n ∧ (k : Int) % 11 = f) := by omega
      have e1 : gnd (gsN S n f v) ((k : Int) / 11) ((k : Int) % 11) = gnd S ((k : Int) / 11) ((k : Int) % 11) := by
        simp only [gnd, gsN]
        rw [if_neg hne]
      have e2 : gnd (gsN S n f v) ((k : Int) / 11) 9 = gnd S ((k : Int) / 11) 9 := by
        simp only [gnd, gsN]
        rw [if_neg (fun q => by omega)]
      rw [e1, e2]
  · rw [if_neg (fun q => ha q.1)]
    rcases h with rfl | rfl
    · simp only [cM, ha, if_false]
      rfl
    · simp only [cM, ha, if_false]
      rfl
theorem c_wc {o : Nat} (h : cO o) {G : gG} {S : gS} {X : cX} {μ : ax_M} {n v : Int} (h0 : 0 ≤ n) (h1 : n < 12) : (ax_up (cM o G S X μ).1 (o + 2) (11 * n + 10).toNat (zI v), (cM o G S X μ).2) = cM o G (gsN S n 9 v) X μ := by
  refine c_set rfl ?_
  intro a k
  by_cases ha : a = o + 2
  · subst ha
    rw [cM_2 h, cM_2 h]
    by_cases hk : k = (11 * n + 10).toNat
    · have hc : o + 2 = o + 2 ∧ k = (11 * n + 10).toNat := ⟨rfl, hk⟩
      rw [if_pos hc]
      unfold cN
      have e : (k : Int) = 11 * n + 10 := by omega
      rw [e, if_pos (by omega), if_neg (by omega), if_pos (by omega), show (11 * n + 10) / 11 = n by omega]
      simp [gnd, gsN]
    · have hc : ¬ (o + 2 = o + 2 ∧ k = (11 * n + 10).toNat) := fun q => hk q.2
      rw [if_neg hc]
      unfold cN
      by_cases hm : (k : Int) % 11 = 10
      · have e2 : gnd (gsN S n 9 v) ((k : Int) / 11) 9 = gnd S ((k : Int) / 11) 9 := by
          simp only [gnd, gsN]
          rw [if_neg (fun q => by omega)]
        rw [if_pos hm, if_pos hm, e2]
      · rw [if_neg hm, if_neg hm]
        by_cases hm9 : (k : Int) % 11 = 9
        · rw [if_pos hm9, if_pos hm9]
        · have e2 : gnd (gsN S n 9 v) ((k : Int) / 11) ((k : Int) % 11) = gnd S ((k : Int) / 11) ((k : Int) % 11) := by
            simp only [gnd, gsN]
            rw [if_neg (fun q => hm9 q.2)]
          rw [e2]
  · rw [if_neg (fun q => ha q.1)]
    rcases h with rfl | rfl
    · simp only [cM, ha, if_false]
      rfl
    · simp only [cM, ha, if_false]
      rfl
theorem cR_pu {f : Int → Int} {n : Int} {b : Nat → Int32} {w v : Int} {k : Nat} (h0 : 0 ≤ w) (h1 : w < n) : cR (pu f w v) n b k = if k = w.toNat then zI v else cR f n b k := by
  unfold cR
  by_cases hk : k = w.toNat
  · have e : (k : Int) = w := by omega
    rw [if_pos hk, e, if_pos h1, pu_at]
  · have e : (k : Int) ≠ w := by omega
    rw [if_neg hk, pu_ne e]
theorem c_we {o : Nat} (h : cO o) {G : gG} {S : gS} {X : cX} {μ : ax_M} {w v : Int} (h0 : 0 ≤ w) (h1 : w < 60) : (ax_up (cM o G S X μ).1 (o + 3) w.toNat (zI v), (cM o G S X μ).2) = cM o G (gsE S w v) X μ := by
  refine c_set rfl ?_
  intro a k
  by_cases ha : a = o + 3
  · subst ha
    rw [cM_e h, cM_e h, hE_gsE, cR_pu h0 h1]
    simp
  · rw [if_neg (fun q => ha q.1)]
    rcases h with rfl | rfl
    · simp only [cM, ha, if_false]
      rfl
    · simp only [cM, ha, if_false]
      rfl
