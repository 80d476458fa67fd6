/-! m: sends, wakes, tests, sums up, changes (printed by wip/gen/gen65.py) -/
theorem m_nd0 {G : gG} {S : gS} {μ : ax_M} {n : Int} (h0 : 0 ≤ n) (h1 : n < 12) : aJ 203 [.ref 207, .int (zI n), .int 0] [] (mM G S μ) = some (some (.int (zI (gnd S n 0))), mM G S μ) := m_nd h0 h1 (f := 0) (by omega) (by omega)
theorem m_sN0 {G : gG} {S : gS} {μ : ax_M} {n v : Int} {x : Int32} (h0 : 0 ≤ n) (h1 : n < 12) (hx : x = zI v) : aJ 204 [.ref 207, .int (zI n), .int 0, .int x] [] (mM G S μ) = some (none, mM G (gsN S n 0 v) μ) := by
  rw [hx]
  exact m_sN h0 h1 (f := 0) (by omega) (by omega)
theorem m_nd1 {G : gG} {S : gS} {μ : ax_M} {n : Int} (h0 : 0 ≤ n) (h1 : n < 12) : aJ 203 [.ref 207, .int (zI n), .int 1] [] (mM G S μ) = some (some (.int (zI (gnd S n 1))), mM G S μ) := m_nd h0 h1 (f := 1) (by omega) (by omega)
theorem m_sN1 {G : gG} {S : gS} {μ : ax_M} {n v : Int} {x : Int32} (h0 : 0 ≤ n) (h1 : n < 12) (hx : x = zI v) : aJ 204 [.ref 207, .int (zI n), .int 1, .int x] [] (mM G S μ) = some (none, mM G (gsN S n 1 v) μ) := by
  rw [hx]
  exact m_sN h0 h1 (f := 1) (by omega) (by omega)
theorem m_nd2 {G : gG} {S : gS} {μ : ax_M} {n : Int} (h0 : 0 ≤ n) (h1 : n < 12) : aJ 203 [.ref 207, .int (zI n), .int 2] [] (mM G S μ) = some (some (.int (zI (gnd S n 2))), mM G S μ) := m_nd h0 h1 (f := 2) (by omega) (by omega)
theorem m_sN2 {G : gG} {S : gS} {μ : ax_M} {n v : Int} {x : Int32} (h0 : 0 ≤ n) (h1 : n < 12) (hx : x = zI v) : aJ 204 [.ref 207, .int (zI n), .int 2, .int x] [] (mM G S μ) = some (none, mM G (gsN S n 2 v) μ) := by
  rw [hx]
  exact m_sN h0 h1 (f := 2) (by omega) (by omega)
theorem m_nd3 {G : gG} {S : gS} {μ : ax_M} {n : Int} (h0 : 0 ≤ n) (h1 : n < 12) : aJ 203 [.ref 207, .int (zI n), .int 3] [] (mM G S μ) = some (some (.int (zI (gnd S n 3))), mM G S μ) := m_nd h0 h1 (f := 3) (by omega) (by omega)
theorem m_sN3 {G : gG} {S : gS} {μ : ax_M} {n v : Int} {x : Int32} (h0 : 0 ≤ n) (h1 : n < 12) (hx : x = zI v) : aJ 204 [.ref 207, .int (zI n), .int 3, .int x] [] (mM G S μ) = some (none, mM G (gsN S n 3 v) μ) := by
  rw [hx]
  exact m_sN h0 h1 (f := 3) (by omega) (by omega)
theorem m_nd4 {G : gG} {S : gS} {μ : ax_M} {n : Int} (h0 : 0 ≤ n) (h1 : n < 12) : aJ 203 [.ref 207, .int (zI n), .int 4] [] (mM G S μ) = some (some (.int (zI (gnd S n 4))), mM G S μ) := m_nd h0 h1 (f := 4) (by omega) (by omega)
theorem m_sN4 {G : gG} {S : gS} {μ : ax_M} {n v : Int} {x : Int32} (h0 : 0 ≤ n) (h1 : n < 12) (hx : x = zI v) : aJ 204 [.ref 207, .int (zI n), .int 4, .int x] [] (mM G S μ) = some (none, mM G (gsN S n 4 v) μ) := by
  rw [hx]
  exact m_sN h0 h1 (f := 4) (by omega) (by omega)
theorem m_nd5 {G : gG} {S : gS} {μ : ax_M} {n : Int} (h0 : 0 ≤ n) (h1 : n < 12) : aJ 203 [.ref 207, .int (zI n), .int 5] [] (mM G S μ) = some (some (.int (zI (gnd S n 5))), mM G S μ) := m_nd h0 h1 (f := 5) (by omega) (by omega)
theorem m_sN5 {G : gG} {S : gS} {μ : ax_M} {n v : Int} {x : Int32} (h0 : 0 ≤ n) (h1 : n < 12) (hx : x = zI v) : aJ 204 [.ref 207, .int (zI n), .int 5, .int x] [] (mM G S μ) = some (none, mM G (gsN S n 5 v) μ) := by
  rw [hx]
  exact m_sN h0 h1 (f := 5) (by omega) (by omega)
theorem m_nd6 {G : gG} {S : gS} {μ : ax_M} {n : Int} (h0 : 0 ≤ n) (h1 : n < 12) : aJ 203 [.ref 207, .int (zI n), .int 6] [] (mM G S μ) = some (some (.int (zI (gnd S n 6))), mM G S μ) := m_nd h0 h1 (f := 6) (by omega) (by omega)
theorem m_sN6 {G : gG} {S : gS} {μ : ax_M} {n v : Int} {x : Int32} (h0 : 0 ≤ n) (h1 : n < 12) (hx : x = zI v) : aJ 204 [.ref 207, .int (zI n), .int 6, .int x] [] (mM G S μ) = some (none, mM G (gsN S n 6 v) μ) := by
  rw [hx]
  exact m_sN h0 h1 (f := 6) (by omega) (by omega)
theorem m_nd7 {G : gG} {S : gS} {μ : ax_M} {n : Int} (h0 : 0 ≤ n) (h1 : n < 12) : aJ 203 [.ref 207, .int (zI n), .int 7] [] (mM G S μ) = some (some (.int (zI (gnd S n 7))), mM G S μ) := m_nd h0 h1 (f := 7) (by omega) (by omega)
theorem m_sN7 {G : gG} {S : gS} {μ : ax_M} {n v : Int} {x : Int32} (h0 : 0 ≤ n) (h1 : n < 12) (hx : x = zI v) : aJ 204 [.ref 207, .int (zI n), .int 7, .int x] [] (mM G S μ) = some (none, mM G (gsN S n 7 v) μ) := by
  rw [hx]
  exact m_sN h0 h1 (f := 7) (by omega) (by omega)
theorem m_nd8 {G : gG} {S : gS} {μ : ax_M} {n : Int} (h0 : 0 ≤ n) (h1 : n < 12) : aJ 203 [.ref 207, .int (zI n), .int 8] [] (mM G S μ) = some (some (.int (zI (gnd S n 8))), mM G S μ) := m_nd h0 h1 (f := 8) (by omega) (by omega)
theorem m_sN8 {G : gG} {S : gS} {μ : ax_M} {n v : Int} {x : Int32} (h0 : 0 ≤ n) (h1 : n < 12) (hx : x = zI v) : aJ 204 [.ref 207, .int (zI n), .int 8, .int x] [] (mM G S μ) = some (none, mM G (gsN S n 8 v) μ) := by
  rw [hx]
  exact m_sN h0 h1 (f := 8) (by omega) (by omega)
theorem m_nd9 {G : gG} {S : gS} {μ : ax_M} {n : Int} (h0 : 0 ≤ n) (h1 : n < 12) : aJ 203 [.ref 207, .int (zI n), .int 9] [] (mM G S μ) = some (some (.int (zI (gnd S n 9))), mM G S μ) := m_nd h0 h1 (f := 9) (by omega) (by omega)
theorem m_sN9 {G : gG} {S : gS} {μ : ax_M} {n v : Int} {x : Int32} (h0 : 0 ≤ n) (h1 : n < 12) (hx : x = zI v) : aJ 204 [.ref 207, .int (zI n), .int 9, .int x] [] (mM G S μ) = some (none, mM G (gsN S n 9 v) μ) := by
  rw [hx]
  exact m_sN h0 h1 (f := 9) (by omega) (by omega)
theorem m_lt0 {G : gG} {S : gS} {μ : ax_M} {k : Int} (h0 : 0 ≤ k) (h1 : k < gnL S) (hL : gnL S ≤ 260) : aJ 205 [.ref 207, .int (zI k), .int 0] [] (mM G S μ) = some (some (.int (zI (glt S k 0))), mM G S μ) := m_lt h0 h1 hL (f := 0) (by omega) (by omega)
theorem m_lt1 {G : gG} {S : gS} {μ : ax_M} {k : Int} (h0 : 0 ≤ k) (h1 : k < gnL S) (hL : gnL S ≤ 260) : aJ 205 [.ref 207, .int (zI k), .int 1] [] (mM G S μ) = some (some (.int (zI (glt S k 1))), mM G S μ) := m_lt h0 h1 hL (f := 1) (by omega) (by omega)
theorem m_lt2 {G : gG} {S : gS} {μ : ax_M} {k : Int} (h0 : 0 ≤ k) (h1 : k < gnL S) (hL : gnL S ≤ 260) : aJ 205 [.ref 207, .int (zI k), .int 2] [] (mM G S μ) = some (some (.int (zI (glt S k 2))), mM G S μ) := m_lt h0 h1 hL (f := 2) (by omega) (by omega)
theorem m_lt3 {G : gG} {S : gS} {μ : ax_M} {k : Int} (h0 : 0 ≤ k) (h1 : k < gnL S) (hL : gnL S ≤ 260) : aJ 205 [.ref 207, .int (zI k), .int 3] [] (mM G S μ) = some (some (.int (zI (glt S k 3))), mM G S μ) := m_lt h0 h1 hL (f := 3) (by omega) (by omega)
theorem m_lt4 {G : gG} {S : gS} {μ : ax_M} {k : Int} (h0 : 0 ≤ k) (h1 : k < gnL S) (hL : gnL S ≤ 260) : aJ 205 [.ref 207, .int (zI k), .int 4] [] (mM G S μ) = some (some (.int (zI (glt S k 4))), mM G S μ) := m_lt h0 h1 hL (f := 4) (by omega) (by omega)
theorem m_lt5 {G : gG} {S : gS} {μ : ax_M} {k : Int} (h0 : 0 ≤ k) (h1 : k < gnL S) (hL : gnL S ≤ 260) : aJ 205 [.ref 207, .int (zI k), .int 5] [] (mM G S μ) = some (some (.int (zI (glt S k 5))), mM G S μ) := m_lt h0 h1 hL (f := 5) (by omega) (by omega)
theorem m_lt6 {G : gG} {S : gS} {μ : ax_M} {k : Int} (h0 : 0 ≤ k) (h1 : k < gnL S) (hL : gnL S ≤ 260) : aJ 205 [.ref 207, .int (zI k), .int 6] [] (mM G S μ) = some (some (.int (zI (glt S k 6))), mM G S μ) := m_lt h0 h1 hL (f := 6) (by omega) (by omega)
theorem m_lt7 {G : gG} {S : gS} {μ : ax_M} {k : Int} (h0 : 0 ≤ k) (h1 : k < gnL S) (hL : gnL S ≤ 260) : aJ 205 [.ref 207, .int (zI k), .int 7] [] (mM G S μ) = some (some (.int (zI (glt S k 7))), mM G S μ) := m_lt h0 h1 hL (f := 7) (by omega) (by omega)
theorem w_bg {G : gG} {S : gS} {μ : ax_M} {z : Nat} {x : Int32} (h : 386 + 8 * gnL S ≤ z) (hL : 0 ≤ gnL S) : (ax_up (mM G S μ).1 209 z x, (mM G S μ).2) = mM G S (ax_up μ.1 209 z x, μ.2) := by
  unfold mM ax_up
  simp only
  congr 1
  funext a k
  by_cases h1 : a = 209
  · simp only [h1, true_and, if_pos trivial]
    by_cases hk : k = z
    · rw [if_pos hk]
      unfold rrow
      dsimp only
      rw [if_neg (by omega), if_neg (by omega), if_neg (by omega), if_neg (by omega), if_neg (by omega), if_neg (by omega), if_neg (by omega), if_neg (by omega), if_neg (by omega), if_neg (by omega), if_neg (by omega), if_neg (by omega), if_pos hk]
    · rw [if_neg hk]
      unfold rrow
      dsimp only
      simp only [if_neg hk]
  · simp [h1]
theorem s_bg0 {G : gG} {S : gS} {μ : ax_M} {x : Int32} (h0 : 0 ≤ gnL S) (hL : gnL S < 260) : ax_st ax_sh (mM G S μ) 209 (((386 : Int32) + ((8 : Int32) * zI (gnL S))) + (0 : Int32)) x = some (mM G S (ax_up μ.1 209 (386 + 8 * gnL S + 0).toNat x, μ.2)) := by
  have h2 : (8 : Int32) * zI (gnL S) = zI (8 * gnL S) := zI_mul 8 (gnL S)
  have h3 : (386 : Int32) + zI (8 * gnL S) = zI (386 + 8 * gnL S) := zI_add 386 (8 * gnL S)
  have h4 : zI (386 + 8 * gnL S) + (0 : Int32) = zI (386 + 8 * gnL S + 0) := zI_add (386 + 8 * gnL S) 0
  rw [h2, h3, h4, z_st209 (by omega) (by omega), w_bg (by omega) h0]
theorem s_bg1 {G : gG} {S : gS} {μ : ax_M} {x : Int32} (h0 : 0 ≤ gnL S) (hL : gnL S < 260) : ax_st ax_sh (mM G S μ) 209 (((386 : Int32) + ((8 : Int32) * zI (gnL S))) + (1 : Int32)) x = some (mM G S (ax_up μ.1 209 (386 + 8 * gnL S + 1).toNat x, μ.2)) := by
  have h2 : (8 : Int32) * zI (gnL S) = zI (8 * gnL S) := zI_mul 8 (gnL S)
  have h3 : (386 : Int32) + zI (8 * gnL S) = zI (386 + 8 * gnL S) := zI_add 386 (8 * gnL S)
  have h4 : zI (386 + 8 * gnL S) + (1 : Int32) = zI (386 + 8 * gnL S + 1) := zI_add (386 + 8 * gnL S) 1
  rw [h2, h3, h4, z_st209 (by omega) (by omega), w_bg (by omega) h0]
theorem s_bg2 {G : gG} {S : gS} {μ : ax_M} {x : Int32} (h0 : 0 ≤ gnL S) (hL : gnL S < 260) : ax_st ax_sh (mM G S μ) 209 (((386 : Int32) + ((8 : Int32) * zI (gnL S))) + (2 : Int32)) x = some (mM G S (ax_up μ.1 209 (386 + 8 * gnL S + 2).toNat x, μ.2)) := by
  have h2 : (8 : Int32) * zI (gnL S) = zI (8 * gnL S) := zI_mul 8 (gnL S)
  have h3 : (386 : Int32) + zI (8 * gnL S) = zI (386 + 8 * gnL S) := zI_add 386 (8 * gnL S)
  have h4 : zI (386 + 8 * gnL S) + (2 : Int32) = zI (386 + 8 * gnL S + 2) := zI_add (386 + 8 * gnL S) 2
  rw [h2, h3, h4, z_st209 (by omega) (by omega), w_bg (by omega) h0]
theorem s_bg3 {G : gG} {S : gS} {μ : ax_M} {x : Int32} (h0 : 0 ≤ gnL S) (hL : gnL S < 260) : ax_st ax_sh (mM G S μ) 209 (((386 : Int32) + ((8 : Int32) * zI (gnL S))) + (3 : Int32)) x = some (mM G S (ax_up μ.1 209 (386 + 8 * gnL S + 3).toNat x, μ.2)) := by
  have h2 : (8 : Int32) * zI (gnL S) = zI (8 * gnL S) := zI_mul 8 (gnL S)
  have h3 : (386 : Int32) + zI (8 * gnL S) = zI (386 + 8 * gnL S) := zI_add 386 (8 * gnL S)
  have h4 : zI (386 + 8 * gnL S) + (3 : Int32) = zI (386 + 8 * gnL S + 3) := zI_add (386 + 8 * gnL S) 3
  rw [h2, h3, h4, z_st209 (by omega) (by omega), w_bg (by omega) h0]
theorem s_bg4 {G : gG} {S : gS} {μ : ax_M} {x : Int32} (h0 : 0 ≤ gnL S) (hL : gnL S < 260) : ax_st ax_sh (mM G S μ) 209 (((386 : Int32) + ((8 : Int32) * zI (gnL S))) + (4 : Int32)) x = some (mM G S (ax_up μ.1 209 (386 + 8 * gnL S + 4).toNat x, μ.2)) := by
  have h2 : (8 : Int32) * zI (gnL S) = zI (8 * gnL S) := zI_mul 8 (gnL S)
  have h3 : (386 : Int32) + zI (8 * gnL S) = zI (386 + 8 * gnL S) := zI_add 386 (8 * gnL S)
  have h4 : zI (386 + 8 * gnL S) + (4 : Int32) = zI (386 + 8 * gnL S + 4) := zI_add (386 + 8 * gnL S) 4
  rw [h2, h3, h4, z_st209 (by omega) (by omega), w_bg (by omega) h0]
theorem s_bg5 {G : gG} {S : gS} {μ : ax_M} {x : Int32} (h0 : 0 ≤ gnL S) (hL : gnL S < 260) : ax_st ax_sh (mM G S μ) 209 (((386 : Int32) + ((8 : Int32) * zI (gnL S))) + (5 : Int32)) x = some (mM G S (ax_up μ.1 209 (386 + 8 * gnL S + 5).toNat x, μ.2)) := by
  have h2 : (8 : Int32) * zI (gnL S) = zI (8 * gnL S) := zI_mul 8 (gnL S)
  have h3 : (386 : Int32) + zI (8 * gnL S) = zI (386 + 8 * gnL S) := zI_add 386 (8 * gnL S)
  have h4 : zI (386 + 8 * gnL S) + (5 : Int32) = zI (386 + 8 * gnL S + 5) := zI_add (386 + 8 * gnL S) 5
  rw [h2, h3, h4, z_st209 (by omega) (by omega), w_bg (by omega) h0]
theorem s_bg6 {G : gG} {S : gS} {μ : ax_M} {x : Int32} (h0 : 0 ≤ gnL S) (hL : gnL S < 260) : ax_st ax_sh (mM G S μ) 209 (((386 : Int32) + ((8 : Int32) * zI (gnL S))) + (6 : Int32)) x = some (mM G S (ax_up μ.1 209 (386 + 8 * gnL S + 6).toNat x, μ.2)) := by
  have h2 : (8 : Int32) * zI (gnL S) = zI (8 * gnL S) := zI_mul 8 (gnL S)
  have h3 : (386 : Int32) + zI (8 * gnL S) = zI (386 + 8 * gnL S) := zI_add 386 (8 * gnL S)
  have h4 : zI (386 + 8 * gnL S) + (6 : Int32) = zI (386 + 8 * gnL S + 6) := zI_add (386 + 8 * gnL S) 6
  rw [h2, h3, h4, z_st209 (by omega) (by omega), w_bg (by omega) h0]
theorem s_bg7 {G : gG} {S : gS} {μ : ax_M} {x : Int32} (h0 : 0 ≤ gnL S) (hL : gnL S < 260) : ax_st ax_sh (mM G S μ) 209 (((386 : Int32) + ((8 : Int32) * zI (gnL S))) + (7 : Int32)) x = some (mM G S (ax_up μ.1 209 (386 + 8 * gnL S + 7).toNat x, μ.2)) := by
  have h2 : (8 : Int32) * zI (gnL S) = zI (8 * gnL S) := zI_mul 8 (gnL S)
  have h3 : (386 : Int32) + zI (8 * gnL S) = zI (386 + 8 * gnL S) := zI_add 386 (8 * gnL S)
  have h4 : zI (386 + 8 * gnL S) + (7 : Int32) = zI (386 + 8 * gnL S + 7) := zI_add (386 + 8 * gnL S) 7
  rw [h2, h3, h4, z_st209 (by omega) (by omega), w_bg (by omega) h0]
theorem rrow_hi {G : gG} {S : gS} {b : Nat → Int32} {k : Nat} {j f : Int} (hj : 0 ≤ j) (hf : 0 ≤ f ∧ f < 8) (h : (k : Int) = 386 + 8 * j + f) : rrow G S b k = if j < gnL S then zI (glt S j f) else b k := by
  unfold rrow
  rw [h, if_neg (by omega), if_neg (by omega), if_neg (by omega), if_neg (by omega), if_neg (by omega), if_neg (by omega), if_neg (by omega), if_neg (by omega), if_neg (by omega), if_neg (by omega), if_neg (by omega), show (386 + 8 * j + f - 386) / 8 = j by omega, show (386 + 8 * j + f - 386) % 8 = f by omega]
theorem rrow_lo {G : gG} {S S' : gS} {b b' : Nat → Int32} {k : Nat} (h : (k : Int) < 386) (hk : (k : Int) ≠ 383) (h1 : S'.1 = S.1) (h2 : S'.2.1 = S.2.1) (h3 : gdf S' = gdf S) (h4 : grd S' = grd S) (hb : (k : Int) < 173 → 62 ≤ (k : Int) → b k = b' k) : rrow G S' b k = rrow G S b' k := by
  have e1 : gnd S' = gnd S := h1
  have e2 : gen S' = gen S := h2
  unfold rrow
  rw [e1, e2, h3, h4]
  by_cases c5 : (k : Int) < 173
  · by_cases c4 : (k : Int) < 62
    · simp only [c4, if_true]
    · simp only [c5, if_true, hb c5 (by omega)]
  · by_cases c9 : (k : Int) < 383
    · simp only [c5, c9, if_true, if_false]
    · have c10 : ¬ (k : Int) < 384 := by omega
      simp only [c5, c9, c10, h, if_true, if_false]
theorem w_send {G : gG} {S : gS} {μ : ax_M} {n e kd lv td st : Int} {x0 x1 x2 x3 x4 x5 x6 x7 : Int32} (h0 : 0 ≤ gnL S) (hL : gnL S < 260) (e0 : x0 = zI kd) (e1 : x1 = zI (gwy G n e)) (e2 : x2 = zI lv) (e3 : x3 = zI td) (e4 : x4 = zI st) (e5 : x5 = zI 0) (e6 : x6 = zI (gnd S n 9 + 1)) (e7 : x7 = zI 0) : ax_st ax_sh (mM G S ((ax_up (ax_up (ax_up (ax_up (ax_up (ax_up (ax_up (ax_up μ.1 209 (386 + 8 * gnL S + 0).toNat x0) 209 (386 + 8 * gnL S + 1).toNat x1) 209 (386 + 8 * gnL S + 2).toNat x2) 209 (386 + 8 * gnL S + 3).toNat x3) 209 (386 + 8 * gnL S + 4).toNat x4) 209 (386 + 8 * gnL S + 5).toNat x5) 209 (386 + 8 * gnL S + 6).toNat x6) 209 (386 + 8 * gnL S + 7).toNat x7), μ.2)) 209 383 (zI (gnL S) + (1 : Int32)) = some (mM G (gse G S n e kd lv td st) μ) := by
  have h1 : zI (gnL S) + (1 : Int32) = zI (gnL S + 1) := zI_add (gnL S) 1
  have h2 := z_st209 (μ := mM G S ((ax_up (ax_up (ax_up (ax_up (ax_up (ax_up (ax_up (ax_up μ.1 209 (386 + 8 * gnL S + 0).toNat x0) 209 (386 + 8 * gnL S + 1).toNat x1) 209 (386 + 8 * gnL S + 2).toNat x2) 209 (386 + 8 * gnL S + 3).toNat x3) 209 (386 + 8 * gnL S + 4).toNat x4) 209 (386 + 8 * gnL S + 5).toNat x5) 209 (386 + 8 * gnL S + 6).toNat x6) 209 (386 + 8 * gnL S + 7).toNat x7), μ.2)) (z := 383) (x := zI (gnL S + 1)) (by omega) (by omega)
  rw [h1]
  refine Eq.trans h2 (congrArg some ?_)
  unfold mM ax_up
  simp only
  congr 1
  funext a k
  by_cases ha : a = 209
  · simp only [ha, true_and, if_pos trivial]
    by_cases hk : k = Int.toNat 383
    · rw [if_pos hk]
      have e : (k : Int) = 383 := by omega
      unfold rrow
      rw [e]
      rfl
    · rw [if_neg hk]
      have hk2 : (k : Int) ≠ 383 := by omega
      by_cases hr : (k : Int) < 386
      · refine Eq.symm (rrow_lo (G := G) (S := S) (S' := gse G S n e kd lv td st) hr hk2 (by rfl) (by rfl) (by rfl) (by rfl) ?_)
        intro c1 c2
        have z0 : k ≠ (386 + 8 * gnL S + 0).toNat := by omega
        have z1 : k ≠ (386 + 8 * gnL S + 1).toNat := by omega
        have z2 : k ≠ (386 + 8 * gnL S + 2).toNat := by omega
        have z3 : k ≠ (386 + 8 * gnL S + 3).toNat := by omega
        have z4 : k ≠ (386 + 8 * gnL S + 4).toNat := by omega
        have z5 : k ≠ (386 + 8 * gnL S + 5).toNat := by omega
        have z6 : k ≠ (386 + 8 * gnL S + 6).toNat := by omega
        have z7 : k ≠ (386 + 8 * gnL S + 7).toNat := by omega
        rw [if_neg z7, if_neg z6, if_neg z5, if_neg z4, if_neg z3, if_neg z2, if_neg z1, if_neg z0]
      · obtain ⟨j, f, hj, hf, hjf⟩ : ∃ j f : Int, 0 ≤ j ∧ (0 ≤ f ∧ f < 8) ∧ (k : Int) = 386 + 8 * j + f := ⟨((k : Int) - 386) / 8, ((k : Int) - 386) % 8, by omega, by omega, by omega⟩
        rw [rrow_hi hj hf hjf, rrow_hi hj hf hjf, hk_gse]
        rcases Int.lt_trichotomy j (gnL S) with q | q | q
        · rw [if_pos q, if_pos (show j < gnL S + 1 by omega)]
          simp only [glt, gse]
          rw [if_neg (by show ¬ j = gnL S; omega)]
        · have hne : ∀ i : Int, 0 ≤ i → i < 8 → (k = (386 + 8 * gnL S + i).toNat ↔ f = i) := fun i i0 i1 => by omega
          rw [if_neg (show ¬ j < gnL S by omega), if_pos (show j < gnL S + 1 by omega)]
          simp only [hne 0 (by omega) (by omega), hne 1 (by omega) (by omega), hne 2 (by omega) (by omega), hne 3 (by omega) (by omega), hne 4 (by omega) (by omega), hne 5 (by omega) (by omega), hne 6 (by omega) (by omega), hne 7 (by omega) (by omega)]
          simp only [glt, gse]
          have hf8 : f = 0 ∨ f = 1 ∨ f = 2 ∨ f = 3 ∨ f = 4 ∨ f = 5 ∨ f = 6 ∨ f = 7 := by omega
          rcases hf8 with r | r | r | r | r | r | r | r <;> subst r <;> simp [q, e0, e1, e2, e3, e4, e5, e6, e7]
        · have z0 : k ≠ (386 + 8 * gnL S + 0).toNat := by omega
          have z1 : k ≠ (386 + 8 * gnL S + 1).toNat := by omega
          have z2 : k ≠ (386 + 8 * gnL S + 2).toNat := by omega
          have z3 : k ≠ (386 + 8 * gnL S + 3).toNat := by omega
          have z4 : k ≠ (386 + 8 * gnL S + 4).toNat := by omega
          have z5 : k ≠ (386 + 8 * gnL S + 5).toNat := by omega
          have z6 : k ≠ (386 + 8 * gnL S + 6).toNat := by omega
          have z7 : k ≠ (386 + 8 * gnL S + 7).toNat := by omega
          rw [if_neg (show ¬ j < gnL S by omega), if_neg (show ¬ j < gnL S + 1 by omega), if_neg z7, if_neg z6, if_neg z5, if_neg z4, if_neg z3, if_neg z2, if_neg z1, if_neg z0]
  · simp [ha]
theorem m_se {G : gG} {S : gS} {μ : ax_M} {n e kd lv td st : Int} {y3 y4 y5 y6 : Int32} (hn0 : 0 ≤ n) (hn1 : n < 12) (he0 : 0 ≤ e) (he1 : e < 30) (hf : zR (gfr G e)) (h0 : 0 ≤ gnL S) (hL : gnL S < 260) (e3 : y3 = zI kd) (e4 : y4 = zI lv) (e5 : y5 = zI td) (e6 : y6 = zI st) : aJ 206 [.ref 207, .int (zI n), .int (zI e), .int y3, .int y4, .int y5, .int y6] [] (mM G S μ) = some (none, mM G (gse G S n e kd lv td st) μ) := by
  have rn : zR n := zR_of (by omega)
  rw [jl_206, l_L, z_bo, s_bg0 h0 hL, z_bo, m_wy he0 he1 rn hf, z_b1, s_bg1 h0 hL, z_bo, s_bg2 h0 hL, z_bo, s_bg3 h0 hL, z_bo, s_bg4 h0 hL, z_bo, s_bg5 h0 hL, z_bo, m_nd9 hn0 hn1, z_b1, s_bg6 h0 hL, z_bo, s_bg7 h0 hL, z_bo, l_L, z_bo]
  dsimp only
  rw [w_send (n := n) (e := e) (kd := kd) (lv := lv) (td := td) (st := st) (x5 := 0) (x6 := zI (gnd S n 9) + 1) (x7 := 0) h0 hL e3 rfl e4 e5 e6 zI_zero (zI_add _ 1) zI_zero, z_bo]
