/-! c: a letter is deferred -/
theorem c_unb {o : Nat} (h : cO o) {G : gG} {S : gS} {X : cX} {μ : ax_M} {z : Nat} {x : Int32} (hz : (z : Int) < xwc X) : cM o G S X (ax_up μ.1 (o + 9) z x, μ.2) = cM o G S X μ := by
  have e : (cM o G S X (ax_up μ.1 (o + 9) z x, μ.2)).1 = (cM o G S X μ).1 := by
    funext a k
    by_cases ha : a = o + 9
    · subst ha
      rw [cM_9 h, cM_9 h]
      unfold cR
      by_cases q : (k : Int) < xwc X
      · rw [if_pos q, if_pos q]
      · rw [if_neg q, if_neg q]
        show ax_up μ.1 (o + 9) z x (o + 9) k = _
        unfold ax_up
        have hc : ¬ (o + 9 = o + 9 ∧ k = z) := by omega
        rw [if_neg hc]
    · have e : ∀ b k, b ≠ o + 9 → ax_up μ.1 (o + 9) z x b k = μ.1 b k := by
        intro b k hb
        unfold ax_up
        rw [if_neg (fun q => hb q.1)]
      have e2 : ∀ b, b ≠ o + 9 → ax_up μ.1 (o + 9) z x b = μ.1 b := fun b hb => funext (fun k => e b k hb)
      unfold cM
      simp only
      have q3 : 3 ≠ o + 9 := by rcases h with rfl | rfl <;> decide
      have q6 : 6 ≠ o + 9 := by rcases h with rfl | rfl <;> decide
      rw [e2 3 q3, e2 6 q6, e2 o (by omega), e2 (o + 1) (by omega), e2 (o + 2) (by omega), e2 (o + 3) (by omega), e2 (o + 4) (by omega), e2 (o + 5) (by omega), e2 (o + 6) (by omega), e2 (o + 7) (by omega), e2 (o + 10) (by omega), e2 a ha]
      simp only [if_neg ha]
  exact Prod.ext e rfl
theorem c_wwn {o : Nat} (h : cO o) {G : gG} {S : gS} {fo lo oe af wl so wn : Int → Int} {ow wc hd dp : Int} {μ : ax_M} {n v : Int} (h0 : 0 ≤ n) (h1 : n < 12) : (ax_up (cM o G S (fo, lo, oe, af, wl, so, wn, ow, wc, hd, dp) μ).1 (o + 2) (11 * n + 9).toNat (zI v), (cM o G S (fo, lo, oe, af, wl, so, wn, ow, wc, hd, dp) μ).2) = cM o G S (fo, lo, oe, af, wl, so, pu wn n v, ow, wc, hd, dp) μ := by
  refine c_set rfl ?_
  intro a k
  by_cases ha : a = o + 2
  · subst ha
    rw [cM_2 h, cM_2 h]
    by_cases hk : k = (11 * n + 9).toNat
    · have hc : o + 2 = o + 2 ∧ k = (11 * n + 9).toNat := ⟨rfl, hk⟩
      rw [if_pos hc]
      unfold cN
      have e : (k : Int) = 11 * n + 9 := by omega
      rw [e, if_pos (by omega), if_pos (by omega), show (11 * n + 9) / 11 = n by omega]
      show zI (pu wn n v n) = zI v
      rw [pu_at]
    · have hc : ¬ (o + 2 = o + 2 ∧ k = (11 * n + 9).toNat) := fun q => hk q.2
      rw [if_neg hc]
      unfold cN
      by_cases q : (k : Int) < 132
      · rw [if_pos q, if_pos q]
        by_cases q2 : (k : Int) % 11 = 9
        · rw [if_pos q2, if_pos q2]
          show zI (pu wn n v ((k : Int) / 11)) = zI (wn ((k : Int) / 11))
          have hne : (k : Int) / 11 ≠ n := by omega
          rw [pu_ne hne]
        · rw [if_neg q2, if_neg q2]
      · rw [if_neg q, if_neg q]
  · rw [if_neg (fun q => ha q.1)]
    rcases h with rfl | rfl
    · simp only [cM, ha, if_false]
      rfl
    · simp only [cM, ha, if_false]
      rfl
theorem c_nt9 {o : Nat} (h : cO o) {G : gG} {S : gS} {fo lo oe af wl so wn : Int → Int} {ow wc hd dp : Int} {μ : ax_M} {n v : Int} {x : Int32} (h0 : 0 ≤ n) (h1 : n < 12) (hx : x = zI v) : aJ 1140 [.ref o, .int (zI n), .int 9, .int x] [] (cM o G S (fo, lo, oe, af, wl, so, wn, ow, wc, hd, dp) μ) = some (none, cM o G S (fo, lo, oe, af, wl, so, pu wn n v, ow, wc, hd, dp) μ) := by
  have h2 : zI n * (11 : Int32) = zI (n * 11) := zI_mul n 11
  have h3 : zI (n * 11) + (9 : Int32) = zI (11 * n + 9) := by
    have := zI_add (n * 11) 9
    rw [show n * 11 + 9 = 11 * n + 9 by omega] at this
    exact this
  rw [jl_1140 _ _ _ _ _ h, h2, h3, c_put (sh_2 h) (by omega) (by omega) (by omega), hx, c_wwn h h0 h1, z_b0]
theorem c_l7 {o : Nat} {G : gG} {S : gS} {X : cX} {μ : ax_M} {k v : Int} : cM o G (gsL S k 7 v) X μ = cM o G S X μ := by
  have e : ∀ b, cL (gsL S k 7 v) X b = cL S X b := by
    intro b
    funext i
    unfold cL
    have e1 : gnL (gsL S k 7 v) = gnL S := rfl
    rw [e1]
    by_cases q : (i : Int) / 8 < gnL S
    · rw [if_pos q, if_pos q]
      by_cases q2 : (i : Int) % 8 = 7
      · rw [if_pos q2, if_pos q2]
      · rw [if_neg q2, if_neg q2]
        have e2 : glt (gsL S k 7 v) ((i : Int) / 8) ((i : Int) % 8) = glt S ((i : Int) / 8) ((i : Int) % 8) := by simp [glt, gsL, q2]
        rw [e2]
    · rw [if_neg q, if_neg q]
  unfold cM
  rw [e]
  rfl
theorem c_def {o : Nat} (h : cO o) {G : gG} {S : gS} {fo lo oe af wl so wn : Int → Int} {ow wc hd dp : Int} {μ : ax_M} {k n : Int} (k0 : 0 ≤ k) (k1 : k < gnL S) (hLS : gnL S ≤ 256) (hn0 : 0 ≤ n) (hn1 : n < 12) (w0 : 0 ≤ wc) (w1 : wc < 256) : aJ 1209 [.ref o, .int (zI k), .int (zI n)] [] (cM o G S (fo, lo, oe, af, wl, so, wn, ow, wc, hd, dp) μ) = some (none, cM o G (gdef S k) (fo, lo, oe, af, pu wl wc k, so, pu wn n (wn n + 1), ow, wc + 1, hd, dp) μ) := by
  have e13 : (cM o G S (fo, lo, oe, af, wl, so, wn, ow, wc, hd, dp) μ).1 o 13 = zI wc := c_wct h
  have e13b : (cM o G S (fo, lo, oe, af, wl, so, wn, ow, wc, hd, dp) (ax_up μ.1 (o + 9) wc.toNat (zI k), μ.2)).1 o 13 + (1 : Int32) = zI (wc + 1) := by
    rw [c_wct h]
    exact zI_add wc 1
  have hb : (ax_up μ.1 (o + 9) wc.toNat (zI k), μ.2).1 (o + 9) wc.toNat = zI k := by
    show ax_up μ.1 (o + 9) wc.toNat (zI k) (o + 9) wc.toNat = zI k
    unfold ax_up
    rw [if_pos ⟨rfl, rfl⟩]
  have e15 : (cM o G S (fo, lo, oe, af, pu wl wc k, so, wn, ow, wc + 1, hd, dp) μ).1 o 15 + (1 : Int32) = zI (gdf S + 1) := by
    rw [c_df h]
    exact zI_add (gdf S) 1
  have hz9 : zI (xwn (fo, lo, oe, af, pu wl wc k, so, wn, ow, wc + 1, hd, dp) n) + (1 : Int32) = zI (wn n + 1) := zI_add (wn n) 1
  have hun : cM o G S (fo, lo, oe, af, pu wl wc k, so, wn, ow, wc + 1, hd, dp) (ax_up μ.1 (o + 9) wc.toNat (zI k), μ.2) = cM o G S (fo, lo, oe, af, pu wl wc k, so, wn, ow, wc + 1, hd, dp) μ := c_unb h (by show ((wc.toNat : Nat) : Int) < wc + 1; omega)
  have hp : aJ 849 [.ref (o + 9), .int (zI wc), .int (zI k)] [] (cM o G S (fo, lo, oe, af, wl, so, wn, ow, wc, hd, dp) μ) = some (none, cM o G S (fo, lo, oe, af, wl, so, wn, ow, wc, hd, dp) (ax_up μ.1 (o + 9) wc.toNat (zI k), μ.2)) := by
    rw [c_put (sh_9 h) (by omega) w0 (by omega), c_bw h (by show wc ≤ ((wc.toNat : Nat) : Int); omega)]
  have hd7 : gdef S k = gsL (gsL (gsD S (gdf S + 1)) k 5 1) k 7 (gdf S + 1) := rfl
  rw [jl_1209 _ _ _ _ h, e13, hp, z_b0, e13b, u_fwc h w0 hb, hun, e15, u_fdf h, c_nl5 (S := gsD S (gdf S + 1)) h (v := 1) k0 k1 hLS zl1, z_b0, c_of9 h hn0 hn1, z_b1, c_nt9 h (v := wn n + 1) hn0 hn1 hz9, z_b0, hd7, c_l7]
