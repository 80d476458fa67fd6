/-! r: the reference's row as a picture of a graph and a state; its small methods -/
def rrow (G : gG) (S : gS) (b : Nat → Int32) (i : Nat) : Int32 :=
  if (i : Int) < 1 then zI (gN G) else if (i : Int) < 2 then zI (gE G)
  else if (i : Int) < 32 then zI (gfr G ((i : Int) - 2))
  else if (i : Int) < 62 then zI (gsc G ((i : Int) - 32))
  else if (i : Int) < 173 then b i
  else if (i : Int) < 203 then zI (gwt G ((i : Int) - 173))
  else if (i : Int) < 263 then zI (gen S ((i : Int) - 203))
  else if (i : Int) < 383 then zI (gnd S (((i : Int) - 263) / 10) (((i : Int) - 263) % 10))
  else if (i : Int) < 384 then zI (gnL S) else if (i : Int) < 385 then zI (gdf S) else if (i : Int) < 386 then zI (grd S)
  else if ((i : Int) - 386) / 8 < gnL S then zI (glt S (((i : Int) - 386) / 8) (((i : Int) - 386) % 8)) else b i
def mM (G : gG) (S : gS) (μ : ax_M) : ax_M := (fun a k => if a = 209 then rrow G S (μ.1 209) k else μ.1 a k, μ.2)
theorem mM_209 {G : gG} {S : gS} {μ : ax_M} {k : Nat} : (mM G S μ).1 209 k = rrow G S (μ.1 209) k := rfl
theorem mM_ne {G : gG} {S : gS} {μ : ax_M} {a k : Nat} (h : a ≠ 209) : (mM G S μ).1 a k = μ.1 a k := by simp [mM, h]
theorem r_cast {z : Int} (h : 0 ≤ z) : ((z.toNat : Nat) : Int) = z := by omega
theorem r_N {G : gG} {S : gS} {μ : ax_M} : (mM G S μ).1 209 0 = zI (gN G) := rfl
theorem r_E {G : gG} {S : gS} {μ : ax_M} : (mM G S μ).1 209 1 = zI (gE G) := rfl
theorem r_L {G : gG} {S : gS} {μ : ax_M} : (mM G S μ).1 209 383 = zI (gnL S) := rfl
theorem r_D {G : gG} {S : gS} {μ : ax_M} : (mM G S μ).1 209 384 = zI (gdf S) := rfl
theorem r_R {G : gG} {S : gS} {μ : ax_M} : (mM G S μ).1 209 385 = zI (grd S) := rfl
theorem r_fr {G : gG} {S : gS} {μ : ax_M} {e : Int} (h0 : 0 ≤ e) (h1 : e < 30) : (mM G S μ).1 209 (2 + e).toNat = zI (gfr G e) := by
  rw [mM_209]
  unfold rrow
  rw [r_cast (by omega), if_neg (by omega), if_neg (by omega), if_pos (by omega), show 2 + e - 2 = e by omega]
theorem r_sc {G : gG} {S : gS} {μ : ax_M} {e : Int} (h0 : 0 ≤ e) (h1 : e < 30) : (mM G S μ).1 209 (32 + e).toNat = zI (gsc G e) := by
  rw [mM_209]
  unfold rrow
  rw [r_cast (by omega), if_neg (by omega), if_neg (by omega), if_neg (by omega), if_pos (by omega), show 32 + e - 32 = e by omega]
theorem r_wt {G : gG} {S : gS} {μ : ax_M} {e : Int} (h0 : 0 ≤ e) (h1 : e < 30) : (mM G S μ).1 209 (173 + e).toNat = zI (gwt G e) := by
  rw [mM_209]
  unfold rrow
  rw [r_cast (by omega), if_neg (by omega), if_neg (by omega), if_neg (by omega), if_neg (by omega), if_neg (by omega), if_pos (by omega), show 173 + e - 173 = e by omega]
theorem r_en {G : gG} {S : gS} {μ : ax_M} {w : Int} (h0 : 0 ≤ w) (h1 : w < 60) : (mM G S μ).1 209 (203 + w).toNat = zI (gen S w) := by
  rw [mM_209]
  unfold rrow
  rw [r_cast (by omega), if_neg (by omega), if_neg (by omega), if_neg (by omega), if_neg (by omega), if_neg (by omega), if_neg (by omega), if_pos (by omega), show 203 + w - 203 = w by omega]
theorem r_nd {G : gG} {S : gS} {μ : ax_M} {n f : Int} (h0 : 0 ≤ n) (h1 : n < 12) (h2 : 0 ≤ f) (h3 : f < 10) : (mM G S μ).1 209 (263 + 10 * n + f).toNat = zI (gnd S n f) := by
  rw [mM_209]
  unfold rrow
  rw [r_cast (by omega), if_neg (by omega), if_neg (by omega), if_neg (by omega), if_neg (by omega), if_neg (by omega), if_neg (by omega), if_neg (by omega), if_pos (by omega), show (263 + 10 * n + f - 263) / 10 = n by omega, show (263 + 10 * n + f - 263) % 10 = f by omega]
theorem r_lt {G : gG} {S : gS} {μ : ax_M} {k f : Int} (h0 : 0 ≤ k) (h1 : k < gnL S) (h2 : 0 ≤ f) (h3 : f < 8) : (mM G S μ).1 209 (386 + 8 * k + f).toNat = zI (glt S k f) := by
  rw [mM_209]
  unfold rrow
  rw [r_cast (by omega), if_neg (by omega), if_neg (by omega), if_neg (by omega), if_neg (by omega), if_neg (by omega), if_neg (by omega), if_neg (by omega), if_neg (by omega), if_neg (by omega), if_neg (by omega), if_neg (by omega), if_pos (by omega), show (386 + 8 * k + f - 386) / 8 = k by omega, show (386 + 8 * k + f - 386) % 8 = f by omega]
theorem w_row {G : gG} {S S' : gS} {μ : ax_M} {z : Nat} {x : Int32} (h : ∀ k : Nat, rrow G S' (μ.1 209) k = if k = z then x else rrow G S (μ.1 209) k) : (ax_up (mM G S μ).1 209 z x, (mM G S μ).2) = mM G S' μ := by
  unfold mM ax_up
  simp only
  congr 1
  funext a k
  by_cases h1 : a = 209
  · simp only [h1, true_and]
    rw [if_pos trivial, h k]
    simp only [if_pos trivial]
  · simp [h1]
theorem w_nd {G : gG} {S : gS} {μ : ax_M} {n f v : Int} (h0 : 0 ≤ n) (h1 : n < 12) (h2 : 0 ≤ f) (h3 : f < 10) : (ax_up (mM G S μ).1 209 (263 + 10 * n + f).toNat (zI v), (mM G S μ).2) = mM G (gsN S n f v) μ := by
  refine w_row ?_
  intro k
  unfold rrow
  by_cases hk : k = (263 + 10 * n + f).toNat
  · rw [if_pos hk]
    have e : (k : Int) = 263 + 10 * n + f := by omega
    rw [e, if_neg (by omega), if_neg (by omega), if_neg (by omega), if_neg (by omega), if_neg (by omega), if_neg (by omega), if_neg (by omega), if_pos (by omega), show (263 + 10 * n + f - 263) / 10 = n by omega, show (263 + 10 * n + f - 263) % 10 = f by omega]
    simp [gnd, gsN]
  · rw [if_neg hk]
    by_cases hr : 263 ≤ (k : Int) ∧ (k : Int) < 383
    · have hne : ¬ (((k : Int) - 263) / 10 = n ∧ ((k : Int) - 263) % 10 = f) := by omega
      have e : gnd (gsN S n f v) (((k : Int) - 263) / 10) (((k : Int) - 263) % 10) = gnd S (((k : Int) - 263) / 10) (((k : Int) - 263) % 10) := by
        simp only [gnd, gsN]
        rw [if_neg hne]
      rw [e]
      rfl
    · by_cases hs : (k : Int) < 263
      · simp only [hs, if_true, if_pos] <;> rfl
      · have h4 : ¬ (k : Int) < 383 := by omega
        simp only [h4, if_false] <;> rfl
theorem w_en {G : gG} {S : gS} {μ : ax_M} {w v : Int} (h0 : 0 ≤ w) (h1 : w < 60) : (ax_up (mM G S μ).1 209 (203 + w).toNat (zI v), (mM G S μ).2) = mM G (gsE S w v) μ := by
  refine w_row ?_
  intro k
  unfold rrow
  by_cases hk : k = (203 + w).toNat
  · rw [if_pos hk]
    have e : (k : Int) = 203 + w := by omega
    rw [e, if_neg (by omega), if_neg (by omega), if_neg (by omega), if_neg (by omega), if_neg (by omega), if_neg (by omega), if_pos (by omega), show 203 + w - 203 = w by omega, hE_gsE, pu_at]
  · rw [if_neg hk]
    by_cases hr : 203 ≤ (k : Int) ∧ (k : Int) < 263
    · rw [hE_gsE, pu_ne (by omega)]
      rfl
    · by_cases hs : (k : Int) < 203
      · simp only [hs, if_true, if_pos] <;> rfl
      · have h4 : ¬ (k : Int) < 263 := by omega
        simp only [h4, if_false] <;> rfl
theorem w_lt {G : gG} {S : gS} {μ : ax_M} {j f v : Int} (h0 : 0 ≤ j) (h1 : j < gnL S) (h2 : 0 ≤ f) (h3 : f < 8) : (ax_up (mM G S μ).1 209 (386 + 8 * j + f).toNat (zI v), (mM G S μ).2) = mM G (gsL S j f v) μ := by
  refine w_row ?_
  intro k
  unfold rrow
  by_cases hk : k = (386 + 8 * j + f).toNat
  · rw [if_pos hk]
    have e : (k : Int) = 386 + 8 * j + f := by omega
    rw [e, if_neg (by omega), if_neg (by omega), if_neg (by omega), if_neg (by omega), if_neg (by omega), if_neg (by omega), if_neg (by omega), if_neg (by omega), if_neg (by omega), if_neg (by omega), if_neg (by omega), show (386 + 8 * j + f - 386) / 8 = j by omega, show (386 + 8 * j + f - 386) % 8 = f by omega, hk_gsL, if_pos h1]
    simp [glt, gsL]
  · rw [if_neg hk]
    by_cases hr : 386 ≤ (k : Int)
    · have hne : ¬ (((k : Int) - 386) / 8 = j ∧ ((k : Int) - 386) % 8 = f) := by omega
      have e : glt (gsL S j f v) (((k : Int) - 386) / 8) (((k : Int) - 386) % 8) = glt S (((k : Int) - 386) / 8) (((k : Int) - 386) % 8) := by
        simp only [glt, gsL]
        rw [if_neg hne]
      rw [e]
      rfl
    · have h4 : (k : Int) < 386 := by omega
      simp only [h4, if_true, if_pos] <;> rfl
theorem w_D {G : gG} {S : gS} {μ : ax_M} {v : Int} : (ax_up (mM G S μ).1 209 384 (zI v), (mM G S μ).2) = mM G (gsD S v) μ := by
  refine w_row ?_
  intro k
  by_cases hk : k = 384
  · subst hk
    rfl
  · rw [if_neg hk]
    have h1 : ¬ ((k : Int) < 385 ∧ ¬ (k : Int) < 384) := by omega
    unfold rrow
    by_cases hs : (k : Int) < 384
    · simp only [hs, if_true, if_pos] <;> rfl
    · have h4 : ¬ (k : Int) < 385 := by omega
      simp only [h4, if_false] <;> rfl
theorem w_R {G : gG} {S : gS} {μ : ax_M} {v : Int} : (ax_up (mM G S μ).1 209 385 (zI v), (mM G S μ).2) = mM G (gsR S v) μ := by
  refine w_row ?_
  intro k
  by_cases hk : k = 385
  · subst hk
    rfl
  · rw [if_neg hk]
    unfold rrow
    by_cases hs : (k : Int) < 385
    · simp only [hs, if_true, if_pos] <;> rfl
    · have h4 : ¬ (k : Int) < 386 := by omega
      simp only [h4, if_false] <;> rfl
