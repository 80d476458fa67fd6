/-! c: a letter is sent (printed by wip/gen/gen84.py) -/
theorem uD_eq (μ : ax_M) (o k : Nat) (v : Int32) : ax_uD μ o k v = (ax_up μ.1 o k v, μ.2) := rfl
theorem c_fL {o : Nat} (h : cO o) {G : gG} {S : gS} {fo lo oe af wl so wn : Int → Int} {ow wc hd dp : Int} {μ : ax_M} {n e kd lv td st : Int} {x0 x1 x2 x3 x4 x5 x6 x7 : Int32} (h0 : 0 ≤ gnL S) (e0 : x0 = zI kd) (e1 : x1 = zI (gwy G n e)) (e2 : x2 = zI lv) (e3 : x3 = zI td) (e4 : x4 = zI st) (e5 : x5 = zI 0) (e6 : x6 = zI (gnd S n 9 + 1)) (e7 : x7 = zI (-1)) : (ax_up (cM o G S (fo, lo, oe, af, wl, so, wn, ow, wc, hd, dp) ((ax_up (ax_up (ax_up (ax_up (ax_up (ax_up (ax_up (ax_up μ.1 (o + 4) (8 * gnL S + 0).toNat x0) (o + 4) (8 * gnL S + 1).toNat x1) (o + 4) (8 * gnL S + 2).toNat x2) (o + 4) (8 * gnL S + 3).toNat x3) (o + 4) (8 * gnL S + 4).toNat x4) (o + 4) (8 * gnL S + 5).toNat x5) (o + 4) (8 * gnL S + 6).toNat x6) (o + 4) (8 * gnL S + 7).toNat x7), μ.2)).1 o 11 (zI (gnL S + 1)), (cM o G S (fo, lo, oe, af, wl, so, wn, ow, wc, hd, dp) ((ax_up (ax_up (ax_up (ax_up (ax_up (ax_up (ax_up (ax_up μ.1 (o + 4) (8 * gnL S + 0).toNat x0) (o + 4) (8 * gnL S + 1).toNat x1) (o + 4) (8 * gnL S + 2).toNat x2) (o + 4) (8 * gnL S + 3).toNat x3) (o + 4) (8 * gnL S + 4).toNat x4) (o + 4) (8 * gnL S + 5).toNat x5) (o + 4) (8 * gnL S + 6).toNat x6) (o + 4) (8 * gnL S + 7).toNat x7), μ.2)).2) = cM o G (gse G S n e kd lv td st) (fo, lo, oe, pu af (gnL S) (-1), wl, so, wn, ow, wc, hd, dp) μ := by
  refine c_set rfl ?_
  intro a k
  by_cases ha : a = o
  · subst ha
    rw [cM_o h, cM_o h]
    have e : ∀ b, b ≠ a + 4 → ((ax_up (ax_up (ax_up (ax_up (ax_up (ax_up (ax_up (ax_up μ.1 (a + 4) (8 * gnL S + 0).toNat x0) (a + 4) (8 * gnL S + 1).toNat x1) (a + 4) (8 * gnL S + 2).toNat x2) (a + 4) (8 * gnL S + 3).toNat x3) (a + 4) (8 * gnL S + 4).toNat x4) (a + 4) (8 * gnL S + 5).toNat x5) (a + 4) (8 * gnL S + 6).toNat x6) (a + 4) (8 * gnL S + 7).toNat x7)) b = μ.1 b := by
      intro b hb
      funext j
      unfold ax_up
      simp only [hb, false_and, if_false]
    show cF _ _ _ k = if a = a ∧ k = 11 then _ else cF S _ (((ax_up (ax_up (ax_up (ax_up (ax_up (ax_up (ax_up (ax_up μ.1 (a + 4) (8 * gnL S + 0).toNat x0) (a + 4) (8 * gnL S + 1).toNat x1) (a + 4) (8 * gnL S + 2).toNat x2) (a + 4) (8 * gnL S + 3).toNat x3) (a + 4) (8 * gnL S + 4).toNat x4) (a + 4) (8 * gnL S + 5).toNat x5) (a + 4) (8 * gnL S + 6).toNat x6) (a + 4) (8 * gnL S + 7).toNat x7)) a) k
    rw [e a (by omega)]
    by_cases hk : k = 11
    · subst hk
      simp [cF]
      rfl
    · simp only [hk, and_false, if_false]
      unfold cF
      simp only [hk, if_false]
      rfl
  · rw [if_neg (fun q => ha q.1)]
    by_cases h4 : a = o + 4
    · subst h4
      rw [cM_4 h, cM_4 h]
      show cL _ _ _ k = cL S _ (((ax_up (ax_up (ax_up (ax_up (ax_up (ax_up (ax_up (ax_up μ.1 (o + 4) (8 * gnL S + 0).toNat x0) (o + 4) (8 * gnL S + 1).toNat x1) (o + 4) (8 * gnL S + 2).toNat x2) (o + 4) (8 * gnL S + 3).toNat x3) (o + 4) (8 * gnL S + 4).toNat x4) (o + 4) (8 * gnL S + 5).toNat x5) (o + 4) (8 * gnL S + 6).toNat x6) (o + 4) (8 * gnL S + 7).toNat x7)) (o + 4)) k
      obtain ⟨j, f, hj, hf, hjf⟩ : ∃ j f : Int, 0 ≤ j ∧ (0 ≤ f ∧ f < 8) ∧ (k : Int) = 8 * j + f := ⟨(k : Int) / 8, (k : Int) % 8, by omega, by omega, by omega⟩
      have hdv : (k : Int) / 8 = j := by omega
      have hm : (k : Int) % 8 = f := by omega
      unfold cL
      rw [hdv, hm, hk_gse]
      rcases Int.lt_trichotomy j (gnL S) with q | q | q
      · rw [if_pos q, if_pos (show j < gnL S + 1 by omega)]
        have g1 : glt (gse G S n e kd lv td st) j f = glt S j f := by
          simp only [glt, gse]
          rw [if_neg (by show ¬ j = gnL S; omega)]
        have g2 : xaf (fo, lo, oe, pu af (gnL S) (-1), wl, so, wn, ow, wc, hd, dp) j = xaf (fo, lo, oe, af, wl, so, wn, ow, wc, hd, dp) j := pu_ne (by omega)
        rw [g1, g2]
      · rw [if_neg (show ¬ j < gnL S by omega), if_pos (show j < gnL S + 1 by omega)]
        have hne : ∀ i : Int, 0 ≤ i → i < 8 → (k = (8 * gnL S + i).toNat ↔ f = i) := fun i i0 i1 => by omega
        have g2 : xaf (fo, lo, oe, pu af (gnL S) (-1), wl, so, wn, ow, wc, hd, dp) j = -1 := by
          rw [q]
          exact pu_at
        rw [g2]
        unfold ax_up
        simp only [hne 0 (by omega) (by omega), hne 1 (by omega) (by omega), hne 2 (by omega) (by omega), hne 3 (by omega) (by omega), hne 4 (by omega) (by omega), hne 5 (by omega) (by omega), hne 6 (by omega) (by omega), hne 7 (by omega) (by omega), true_and]
        have hf8 : f = 0 ∨ f = 1 ∨ f = 2 ∨ f = 3 ∨ f = 4 ∨ f = 5 ∨ f = 6 ∨ f = 7 := by omega
        rcases hf8 with r | r | r | r | r | r | r | r <;> subst r <;> simp [q, glt, gse, e0, e1, e2, e3, e4, e5, e6, e7]
      · rw [if_neg (show ¬ j < gnL S by omega), if_neg (show ¬ j < gnL S + 1 by omega)]
        have z0 : k ≠ (8 * gnL S + 0).toNat := by omega
        have z1 : k ≠ (8 * gnL S + 1).toNat := by omega
        have z2 : k ≠ (8 * gnL S + 2).toNat := by omega
        have z3 : k ≠ (8 * gnL S + 3).toNat := by omega
        have z4 : k ≠ (8 * gnL S + 4).toNat := by omega
        have z5 : k ≠ (8 * gnL S + 5).toNat := by omega
        have z6 : k ≠ (8 * gnL S + 6).toNat := by omega
        have z7 : k ≠ (8 * gnL S + 7).toNat := by omega
        unfold ax_up
        simp only [true_and, z0, z1, z2, z3, z4, z5, z6, z7, if_false]
    · have e : ∀ b, b ≠ o + 4 → ((ax_up (ax_up (ax_up (ax_up (ax_up (ax_up (ax_up (ax_up μ.1 (o + 4) (8 * gnL S + 0).toNat x0) (o + 4) (8 * gnL S + 1).toNat x1) (o + 4) (8 * gnL S + 2).toNat x2) (o + 4) (8 * gnL S + 3).toNat x3) (o + 4) (8 * gnL S + 4).toNat x4) (o + 4) (8 * gnL S + 5).toNat x5) (o + 4) (8 * gnL S + 6).toNat x6) (o + 4) (8 * gnL S + 7).toNat x7)) b = μ.1 b := by
        intro b hb
        funext j
        unfold ax_up
        simp only [hb, false_and, if_false]
      have q3 : 3 ≠ o + 4 := by rcases h with rfl | rfl <;> decide
      have q6 : 6 ≠ o + 4 := by rcases h with rfl | rfl <;> decide
      unfold cM
      simp only
      rw [e 3 q3, e 6 q6, e (o + 1) (by omega), e (o + 2) (by omega), e (o + 3) (by omega), e (o + 5) (by omega), e (o + 6) (by omega), e (o + 7) (by omega), e (o + 9) (by omega), e (o + 10) (by omega), e a h4]
      simp only [if_neg h4, if_neg ha]
      rfl
theorem u_fdp {o : Nat} (h : cO o) {G : gG} {S : gS} {fo lo oe af wl so wn : Int → Int} {ow wc hd dp : Int} {μ : ax_M} {v : Int} : ax_uD (cM o G S (fo, lo, oe, af, wl, so, wn, ow, wc, hd, dp) μ) o 16 (zI v) = cM o G S (fo, lo, oe, af, wl, so, wn, ow, wc, hd, v) μ := c_fdp h
theorem u_fow {o : Nat} (h : cO o) {G : gG} {S : gS} {fo lo oe af wl so wn : Int → Int} {ow wc hd dp : Int} {μ : ax_M} {v : Int} : ax_uD (cM o G S (fo, lo, oe, af, wl, so, wn, ow, wc, hd, dp) μ) o 12 (zI v) = cM o G S (fo, lo, oe, af, wl, so, wn, v, wc, hd, dp) μ := c_fow h
theorem u_fhd {o : Nat} (h : cO o) {G : gG} {S : gS} {fo lo oe af wl so wn : Int → Int} {ow wc hd dp : Int} {μ : ax_M} {v : Int} : ax_uD (cM o G S (fo, lo, oe, af, wl, so, wn, ow, wc, hd, dp) μ) o 14 (zI v) = cM o G S (fo, lo, oe, af, wl, so, wn, ow, wc, v, dp) μ := c_fhd h
theorem u_fdf {o : Nat} (h : cO o) {G : gG} {S : gS} {X : cX} {μ : ax_M} {v : Int} : ax_uD (cM o G S X μ) o 15 (zI v) = cM o G (gsD S v) X μ := c_fdf h
theorem u_frd {o : Nat} (h : cO o) {G : gG} {S : gS} {X : cX} {μ : ax_M} {v : Int} : ax_uD (cM o G S X μ) o 17 (zI v) = cM o G (gsR S v) X μ := c_frd h
def cSX (G : gG) (S : gS) (X : cX) (w kd d : Int) : cX := (if xoe X w = 0 then pu (xfo X) w (gnL S) else xfo X, pu (xlo X) w (gnL S), pu (xoe X) w (xoe X w + 1), pu (if xoe X w = 0 then xaf X else pu (xaf X) (xlo X w) (gnL S)) (gnL S) (-1), xwl X, pu (xso X) kd (xso X kd + 1), xwn X, xow X + 1, xwc X, xhd X, if xdp X < d then d else xdp X)
theorem c_oe {o : Nat} (h : cO o) {G : gG} {S : gS} {X : cX} {μ : ax_M} {w : Int} (h0 : 0 ≤ w) (h1 : w < 60) : aJ 846 [.ref (o + 7), .int (zI w)] [] (cM o G S X μ) = some (some (.int (zI (xoe X w))), cM o G S X μ) := by
  rw [c_at (sh_7 h) (by omega) h0 (by omega), cM_7 h, cR_at h0 h1]
theorem c_lo {o : Nat} (h : cO o) {G : gG} {S : gS} {X : cX} {μ : ax_M} {w : Int} (h0 : 0 ≤ w) (h1 : w < 60) : aJ 846 [.ref (o + 6), .int (zI w)] [] (cM o G S X μ) = some (some (.int (zI (xlo X w))), cM o G S X μ) := by
  rw [c_at (sh_6 h) (by omega) h0 (by omega), cM_l h, cR_at h0 h1]
theorem c_fo {o : Nat} (h : cO o) {G : gG} {S : gS} {X : cX} {μ : ax_M} {w : Int} (h0 : 0 ≤ w) (h1 : w < 60) : aJ 846 [.ref (o + 5), .int (zI w)] [] (cM o G S X μ) = some (some (.int (zI (xfo X w))), cM o G S X μ) := by
  rw [c_at (sh_5 h) (by omega) h0 (by omega), cM_5 h, cR_at h0 h1]
theorem c_so {o : Nat} (h : cO o) {G : gG} {S : gS} {X : cX} {μ : ax_M} {w : Int} (h0 : 0 ≤ w) (h1 : w < 7) : aJ 846 [.ref (o + 10), .int (zI w)] [] (cM o G S X μ) = some (some (.int (zI (xso X w))), cM o G S X μ) := by
  rw [c_at (sh_10 h) (by omega) h0 (by omega), cM_10 h, cR_at h0 h1]
theorem c_nL {o : Nat} (h : cO o) {G : gG} {S : gS} {X : cX} {μ : ax_M} : (cM o G S X μ).1 o 11 = zI (gnL S) := by
  rw [cM_o h]
  simp [cF]
theorem c_ow {o : Nat} (h : cO o) {G : gG} {S : gS} {X : cX} {μ : ax_M} : (cM o G S X μ).1 o 12 = zI (xow X) := by
  rw [cM_o h]
  simp [cF]
theorem c_wct {o : Nat} (h : cO o) {G : gG} {S : gS} {X : cX} {μ : ax_M} : (cM o G S X μ).1 o 13 = zI (xwc X) := by
  rw [cM_o h]
  simp [cF]
theorem c_hd {o : Nat} (h : cO o) {G : gG} {S : gS} {X : cX} {μ : ax_M} : (cM o G S X μ).1 o 14 = zI (xhd X) := by
  rw [cM_o h]
  simp [cF]
theorem c_df {o : Nat} (h : cO o) {G : gG} {S : gS} {X : cX} {μ : ax_M} : (cM o G S X μ).1 o 15 = zI (gdf S) := by
  rw [cM_o h]
  simp [cF]
theorem c_dp {o : Nat} (h : cO o) {G : gG} {S : gS} {X : cX} {μ : ax_M} : (cM o G S X μ).1 o 16 = zI (xdp X) := by
  rw [cM_o h]
  simp [cF]
theorem c_rd {o : Nat} (h : cO o) {G : gG} {S : gS} {X : cX} {μ : ax_M} : (cM o G S X μ).1 o 17 = zI (grd S) := by
  rw [cM_o h]
  simp [cF]
theorem c_pb0 {o : Nat} (h : cO o) {G : gG} {S : gS} {X : cX} {μ : ax_M} {x : Int32} (h0 : 0 ≤ gnL S) (hL : gnL S < 256) : aJ 849 [.ref (o + 4), .int ((zI (gnL S) * (8 : Int32)) + (0 : Int32)), .int x] [] (cM o G S X μ) = some (none, cM o G S X (ax_up μ.1 (o + 4) (8 * gnL S + 0).toNat x, μ.2)) := by
  have h2 : zI (gnL S) * (8 : Int32) = zI (gnL S * 8) := zI_mul (gnL S) 8
  have h3 : zI (gnL S * 8) + (0 : Int32) = zI (8 * gnL S + 0) := by
    have := zI_add (gnL S * 8) 0
    rw [show gnL S * 8 + 0 = 8 * gnL S + 0 by omega] at this
    exact this
  rw [h2, h3, c_put (sh_4 h) (by omega) (by omega) (by omega), c_bg h (by omega)]
theorem c_pb1 {o : Nat} (h : cO o) {G : gG} {S : gS} {X : cX} {μ : ax_M} {x : Int32} (h0 : 0 ≤ gnL S) (hL : gnL S < 256) : aJ 849 [.ref (o + 4), .int ((zI (gnL S) * (8 : Int32)) + (1 : Int32)), .int x] [] (cM o G S X μ) = some (none, cM o G S X (ax_up μ.1 (o + 4) (8 * gnL S + 1).toNat x, μ.2)) := by
  have h2 : zI (gnL S) * (8 : Int32) = zI (gnL S * 8) := zI_mul (gnL S) 8
  have h3 : zI (gnL S * 8) + (1 : Int32) = zI (8 * gnL S + 1) := by
    have := zI_add (gnL S * 8) 1
    rw [show gnL S * 8 + 1 = 8 * gnL S + 1 by omega] at this
    exact this
  rw [h2, h3, c_put (sh_4 h) (by omega) (by omega) (by omega), c_bg h (by omega)]
theorem c_pb2 {o : Nat} (h : cO o) {G : gG} {S : gS} {X : cX} {μ : ax_M} {x : Int32} (h0 : 0 ≤ gnL S) (hL : gnL S < 256) : aJ 849 [.ref (o + 4), .int ((zI (gnL S) * (8 : Int32)) + (2 : Int32)), .int x] [] (cM o G S X μ) = some (none, cM o G S X (ax_up μ.1 (o + 4) (8 * gnL S + 2).toNat x, μ.2)) := by
  have h2 : zI (gnL S) * (8 : Int32) = zI (gnL S * 8) := zI_mul (gnL S) 8
  have h3 : zI (gnL S * 8) + (2 : Int32) = zI (8 * gnL S + 2) := by
    have := zI_add (gnL S * 8) 2
    rw [show gnL S * 8 + 2 = 8 * gnL S + 2 by omega] at this
    exact this
  rw [h2, h3, c_put (sh_4 h) (by omega) (by omega) (by omega), c_bg h (by omega)]
theorem c_pb3 {o : Nat} (h : cO o) {G : gG} {S : gS} {X : cX} {μ : ax_M} {x : Int32} (h0 : 0 ≤ gnL S) (hL : gnL S < 256) : aJ 849 [.ref (o + 4), .int ((zI (gnL S) * (8 : Int32)) + (3 : Int32)), .int x] [] (cM o G S X μ) = some (none, cM o G S X (ax_up μ.1 (o + 4) (8 * gnL S + 3).toNat x, μ.2)) := by
  have h2 : zI (gnL S) * (8 : Int32) = zI (gnL S * 8) := zI_mul (gnL S) 8
  have h3 : zI (gnL S * 8) + (3 : Int32) = zI (8 * gnL S + 3) := by
    have := zI_add (gnL S * 8) 3
    rw [show gnL S * 8 + 3 = 8 * gnL S + 3 by omega] at this
    exact this
  rw [h2, h3, c_put (sh_4 h) (by omega) (by omega) (by omega), c_bg h (by omega)]
theorem c_pb4 {o : Nat} (h : cO o) {G : gG} {S : gS} {X : cX} {μ : ax_M} {x : Int32} (h0 : 0 ≤ gnL S) (hL : gnL S < 256) : aJ 849 [.ref (o + 4), .int ((zI (gnL S) * (8 : Int32)) + (4 : Int32)), .int x] [] (cM o G S X μ) = some (none, cM o G S X (ax_up μ.1 (o + 4) (8 * gnL S + 4).toNat x, μ.2)) := by
  have h2 : zI (gnL S) * (8 : Int32) = zI (gnL S * 8) := zI_mul (gnL S) 8
  have h3 : zI (gnL S * 8) + (4 : Int32) = zI (8 * gnL S + 4) := by
    have := zI_add (gnL S * 8) 4
    rw [show gnL S * 8 + 4 = 8 * gnL S + 4 by omega] at this
    exact this
  rw [h2, h3, c_put (sh_4 h) (by omega) (by omega) (by omega), c_bg h (by omega)]
theorem c_pb5 {o : Nat} (h : cO o) {G : gG} {S : gS} {X : cX} {μ : ax_M} {x : Int32} (h0 : 0 ≤ gnL S) (hL : gnL S < 256) : aJ 849 [.ref (o + 4), .int ((zI (gnL S) * (8 : Int32)) + (5 : Int32)), .int x] [] (cM o G S X μ) = some (none, cM o G S X (ax_up μ.1 (o + 4) (8 * gnL S + 5).toNat x, μ.2)) := by
  have h2 : zI (gnL S) * (8 : Int32) = zI (gnL S * 8) := zI_mul (gnL S) 8
  have h3 : zI (gnL S * 8) + (5 : Int32) = zI (8 * gnL S + 5) := by
    have := zI_add (gnL S * 8) 5
    rw [show gnL S * 8 + 5 = 8 * gnL S + 5 by omega] at this
    exact this
  rw [h2, h3, c_put (sh_4 h) (by omega) (by omega) (by omega), c_bg h (by omega)]
theorem c_pb6 {o : Nat} (h : cO o) {G : gG} {S : gS} {X : cX} {μ : ax_M} {x : Int32} (h0 : 0 ≤ gnL S) (hL : gnL S < 256) : aJ 849 [.ref (o + 4), .int ((zI (gnL S) * (8 : Int32)) + (6 : Int32)), .int x] [] (cM o G S X μ) = some (none, cM o G S X (ax_up μ.1 (o + 4) (8 * gnL S + 6).toNat x, μ.2)) := by
  have h2 : zI (gnL S) * (8 : Int32) = zI (gnL S * 8) := zI_mul (gnL S) 8
  have h3 : zI (gnL S * 8) + (6 : Int32) = zI (8 * gnL S + 6) := by
    have := zI_add (gnL S * 8) 6
    rw [show gnL S * 8 + 6 = 8 * gnL S + 6 by omega] at this
    exact this
  rw [h2, h3, c_put (sh_4 h) (by omega) (by omega) (by omega), c_bg h (by omega)]
theorem c_pb7 {o : Nat} (h : cO o) {G : gG} {S : gS} {X : cX} {μ : ax_M} {x : Int32} (h0 : 0 ≤ gnL S) (hL : gnL S < 256) : aJ 849 [.ref (o + 4), .int ((zI (gnL S) * (8 : Int32)) + (7 : Int32)), .int x] [] (cM o G S X μ) = some (none, cM o G S X (ax_up μ.1 (o + 4) (8 * gnL S + 7).toNat x, μ.2)) := by
  have h2 : zI (gnL S) * (8 : Int32) = zI (gnL S * 8) := zI_mul (gnL S) 8
  have h3 : zI (gnL S * 8) + (7 : Int32) = zI (8 * gnL S + 7) := by
    have := zI_add (gnL S * 8) 7
    rw [show gnL S * 8 + 7 = 8 * gnL S + 7 by omega] at this
    exact this
  rw [h2, h3, c_put (sh_4 h) (by omega) (by omega) (by omega), c_bg h (by omega)]
theorem c_se {o : Nat} (h : cO o) {G : gG} {S : gS} {X : cX} {μ : ax_M} {n e kd lv td st : Int} {y2 y3 y4 y5 : Int32} (hg : hGok G) (hn0 : 0 ≤ n) (hn1 : n < 12) (he0 : 0 ≤ e) (he1 : e < gE G) (hsd : gsd G (gwy G n e) = n) (hk0 : 0 ≤ kd) (hk1 : kd < 7) (h0 : 0 ≤ gnL S) (hL : gnL S < 256) (ho : xoe X (gwy G n e) ≠ 0 → 0 ≤ xlo X (gwy G n e) ∧ xlo X (gwy G n e) < gnL S) (ro : zR (xoe X (gwy G n e))) (rd : zR (xdp X)) (r9 : zR (gnd S n 9 + 1)) (e2 : y2 = zI kd) (e3 : y3 = zI lv) (e4 : y4 = zI td) (e5 : y5 = zI st) : aJ 1193 [.ref o, .int (zI (gwy G n e)), .int y2, .int y3, .int y4, .int y5] [] (cM o G S X μ) = some (none, cM o G (gse G S n e kd lv td st) (cSX G S X (gwy G n e) kd (gnd S n 9 + 1)) μ) := by
  have hE := hg.2.2.2.1
  have hw := h_wyr (G := G) (n := n) he0 (by omega)
  have hwE : gwy G n e < 2 * gE G := by unfold gwy; split <;> omega
  subst e2
  obtain ⟨fo, lo, oe, af, wl, so, wn, ow, wc, hd, dp⟩ := X
  generalize hW : gwy G n e = w at *
  have h11 : zI n * (11 : Int32) = zI (n * 11) := zI_mul n 11
  have h12 : zI (n * 11) + (10 : Int32) = zI (11 * n + 10) := by
    have := zI_add (n * 11) 10
    rw [show n * 11 + 10 = 11 * n + 10 by omega] at this
    exact this
  rw [jl_1193 _ _ _ _ _ _ _ h, c_nL h, j_le (show (256 : Int32) = zI 256 from rfl) rfl (zR_of (by omega)) (zR_of (by omega)), if_neg (by omega), j_lt rfl zl0 (zR_of (by omega)) (zR_of (by omega)), if_neg (by omega), j_lt rfl (show (60 : Int32) = zI 60 from rfl) (zR_of (by omega)) (zR_of (by omega)), if_pos (by omega), jl_1195 _ _ _ _ _ _ _ h, c_sd h hw.1 ⟨hwE, hw.2⟩, z_b1, hsd, h11, h12, c_at (sh_2 h) (by omega) (by omega) (by omega), c_ndc h hn0 hn1, z_b1, c_nL h, c_pb0 h h0 hL, z_b0, c_pb1 h h0 hL, z_b0, c_pb2 h h0 hL, z_b0, c_pb3 h h0 hL, z_b0, c_pb4 h h0 hL, z_b0, c_pb5 h h0 hL, z_b0, c_pb6 h h0 hL, z_b0, c_pb7 h h0 hL, z_b0, c_oe h hw.1 hw.2, z_b1, j_eq rfl zl0 ro (zR_of (by omega))]
  dsimp only
  have hv : ∀ (x7 : Int32), x7 = zI (gnd S n 9 + 1) → (if zI dp < x7 then x7 else zI dp) = zI (if dp < gnd S n 9 + 1 then gnd S n 9 + 1 else dp) := by
    intro x7 hx
    rw [hx]
    have rd' : zR dp := rd
    by_cases q : dp < gnd S n 9 + 1
    · rw [if_pos q, if_pos ((zI_lt rd' r9).mpr q)]
    · rw [if_neg q, if_neg (fun x => q ((zI_lt rd' r9).mp x))]
  have key : ∀ (fo' af' : Int → Int), aJ 1197 [.ref o, .int (zI w), .int (zI kd), .int (zI (gnd S n 9) + 1)] [] (cM o G S (fo', lo, oe, af', wl, so, wn, ow, wc, hd, dp) ((ax_up (ax_up (ax_up (ax_up (ax_up (ax_up (ax_up (ax_up μ.1 (o + 4) (8 * gnL S + 0).toNat (zI kd)) (o + 4) (8 * gnL S + 1).toNat (zI w)) (o + 4) (8 * gnL S + 2).toNat y3) (o + 4) (8 * gnL S + 3).toNat y4) (o + 4) (8 * gnL S + 4).toNat y5) (o + 4) (8 * gnL S + 5).toNat 0) (o + 4) (8 * gnL S + 6).toNat (zI (gnd S n 9) + 1)) (o + 4) (8 * gnL S + 7).toNat (-1)), μ.2)) = some (none, cM o G (gse G S n e kd lv td st) (fo', pu lo w (gnL S), pu oe w (oe w + 1), pu af' (gnL S) (-1), wl, pu so kd (so kd + 1), wn, ow + 1, wc, hd, if dp < gnd S n 9 + 1 then gnd S n 9 + 1 else dp) μ) := by
    intro fo' af'
    rw [jl_1197 _ _ _ _ _ h, c_nL h, c_put (sh_6 h) (by omega) hw.1 (by omega), c_wlo h hw.1 hw.2, z_b0, c_oe h hw.1 hw.2, z_b1]
    have d1 : zI (xoe (fo', pu lo w (gnL S), oe, af', wl, so, wn, ow, wc, hd, dp) w) + (1 : Int32) = zI (oe w + 1) := zI_a1 _
    rw [d1, c_put (sh_7 h) (by omega) hw.1 (by omega), c_woe h hw.1 hw.2, z_b0, c_so h hk0 (by omega), z_b1]
    have d2 : zI (xso (fo', pu lo w (gnL S), pu oe w (oe w + 1), af', wl, so, wn, ow, wc, hd, dp) kd) + (1 : Int32) = zI (so kd + 1) := zI_a1 _
    rw [d2, c_put (sh_10 h) (by omega) hk0 (by omega), c_wso h hk0 (by omega), z_b0, c_dp h]
    have d3 : xdp (fo', pu lo w (gnL S), pu oe w (oe w + 1), af', wl, pu so kd (so kd + 1), wn, ow, wc, hd, dp) = dp := rfl
    rw [d3, hv _ (zI_a1 _), u_fdp h, c_nL h, zI_a1 (gnL S), uD_eq (cM o G S _ _) o 11]
    rw [c_fL h (G := G) (μ := μ) (fo := fo') (lo := pu lo w (gnL S)) (oe := pu oe w (oe w + 1)) (af := af') (wl := wl) (so := pu so kd (so kd + 1)) (wn := wn) (ow := ow) (wc := wc) (hd := hd) (dp := if dp < gnd S n 9 + 1 then gnd S n 9 + 1 else dp) (x1 := zI w) (n := n) (e := e) (kd := kd) (lv := lv) (td := td) (st := st) h0 rfl (by rw [hW]) e3 e4 e5 zl0 (zI_a1 _) zlm, c_ow h]
    have d4 : ∀ Z : cX, xow Z = ow → zI (xow Z) + (1 : Int32) = zI (ow + 1) := fun Z hZ => by rw [hZ]; exact zI_a1 ow
    rw [d4 _ rfl, u_fow h]
  by_cases q : oe w = 0
  · have q' : xoe (fo, lo, oe, af, wl, so, wn, ow, wc, hd, dp) w = 0 := q
    rw [if_pos q', c_nL h, c_put (sh_5 h) (by omega) hw.1 (by omega), c_wfo h hw.1 hw.2, z_b0, key]
    unfold cSX
    rw [if_pos q', if_pos q']
    rfl
  · have q' : ¬ xoe (fo, lo, oe, af, wl, so, wn, ow, wc, hd, dp) w = 0 := q
    have hlo := ho q'
    have hlo1 : 0 ≤ lo w := hlo.1
    have hlo2 : lo w < gnL S := hlo.2
    have f1 : zI (lo w) * (8 : Int32) = zI (lo w * 8) := zI_mul (lo w) 8
    have f2 : zI (lo w * 8) + (7 : Int32) = zI (8 * lo w + 7) := by
      have := zI_add (lo w * 8) 7
      rw [show lo w * 8 + 7 = 8 * lo w + 7 by omega] at this
      exact this
    have f0 : xlo (fo, lo, oe, af, wl, so, wn, ow, wc, hd, dp) w = lo w := rfl
    rw [if_neg q', jl_1196 _ _ _ _ _ h, c_lo h hw.1 hw.2, z_b1, f0, f1, f2, c_nL h, c_put (sh_4 h) (by omega) (by omega) (by omega), c_waf h hlo1 hlo2, z_b0, key]
    unfold cSX
    rw [if_neg q', if_neg q']
    rfl
