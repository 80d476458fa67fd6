/-! c: a run's small methods over the picture (printed) -/
theorem c_nd {o : Nat} (h : cO o) {G : gG} {S : gS} {X : cX} {μ : ax_M} {n f : Int} (h0 : 0 ≤ n) (h1 : n < 12) (h2 : 0 ≤ f) (h3 : f < 9) : (cM o G S X μ).1 (o + 2) (11 * n + f).toNat = zI (gnd S n f) := by
  rw [cM_2 h]
  unfold cN
  rw [r_cast (by omega), if_pos (by omega), if_neg (by omega), if_neg (by omega), show (11 * n + f) / 11 = n by omega, show (11 * n + f) % 11 = f by omega]
theorem c_ndw {o : Nat} (h : cO o) {G : gG} {S : gS} {X : cX} {μ : ax_M} {n : Int} (h0 : 0 ≤ n) (h1 : n < 12) : (cM o G S X μ).1 (o + 2) (11 * n + 9).toNat = zI (xwn X n) := by
  rw [cM_2 h]
  unfold cN
  rw [r_cast (by omega), if_pos (by omega), if_pos (by omega), show (11 * n + 9) / 11 = n by omega]
theorem c_ndc {o : Nat} (h : cO o) {G : gG} {S : gS} {X : cX} {μ : ax_M} {n : Int} (h0 : 0 ≤ n) (h1 : n < 12) : (cM o G S X μ).1 (o + 2) (11 * n + 10).toNat = zI (gnd S n 9) := by
  rw [cM_2 h]
  unfold cN
  rw [r_cast (by omega), if_pos (by omega), if_neg (by omega), if_pos (by omega), show (11 * n + 10) / 11 = n by omega]
theorem c_lt {o : Nat} (h : cO o) {G : gG} {S : gS} {X : cX} {μ : ax_M} {k f : Int} (h0 : 0 ≤ k) (h1 : k < gnL S) (h2 : 0 ≤ f) (h3 : f < 7) : (cM o G S X μ).1 (o + 4) (8 * k + f).toNat = zI (glt S k f) := by
  rw [cM_4 h]
  unfold cL
  rw [r_cast (by omega), if_pos (by omega), if_neg (by omega), show (8 * k + f) / 8 = k by omega, show (8 * k + f) % 8 = f by omega]
theorem c_la {o : Nat} (h : cO o) {G : gG} {S : gS} {X : cX} {μ : ax_M} {k : Int} (h0 : 0 ≤ k) (h1 : k < gnL S) : (cM o G S X μ).1 (o + 4) (8 * k + 7).toNat = zI (xaf X k) := by
  rw [cM_4 h]
  unfold cL
  rw [r_cast (by omega), if_pos (by omega), if_pos (by omega), show (8 * k + 7) / 8 = k by omega]
theorem cR_at {f : Int → Int} {n : Int} {b : Nat → Int32} {w : Int} (h0 : 0 ≤ w) (h1 : w < n) : cR f n b w.toNat = zI (f w) := by
  unfold cR
  rw [r_cast h0, if_pos h1]
theorem c_en {o : Nat} (h : cO o) {G : gG} {S : gS} {X : cX} {μ : ax_M} {w : Int} (h0 : 0 ≤ w) (h1 : w < 60) : aJ 846 [.ref (o + 3), .int (zI w)] [] (cM o G S X μ) = some (some (.int (zI (gen S w))), cM o G S X μ) := by
  rw [c_at (sh_3 h) (by omega) h0 (by omega), cM_e h, cR_at h0 h1]
theorem c_sE {o : Nat} (h : cO o) {G : gG} {S : gS} {X : cX} {μ : ax_M} {w v : Int} {x : Int32} (h0 : 0 ≤ w) (h1 : w < 60) (hx : x = zI v) : aJ 849 [.ref (o + 3), .int (zI w), .int x] [] (cM o G S X μ) = some (none, cM o G (gsE S w v) X μ) := by
  rw [c_put (sh_3 h) (by omega) h0 (by omega), hx, c_we h h0 h1]
theorem c_sd {o : Nat} (h : cO o) {G : gG} {S : gS} {X : cX} {μ : ax_M} {w : Int} (h0 : 0 ≤ w) (h1 : w < 2 * gE G ∧ w < 60) : aJ 846 [.ref 6, .int (zI w)] [] (cM o G S X μ) = some (some (.int (zI (gsd G w))), cM o G S X μ) := by
  rw [c_at sh_s (by omega) h0 (by omega), cM_6 h, cR_at h0 h1.1]
theorem c_E {o : Nat} (h : cO o) {G : gG} {S : gS} {X : cX} {μ : ax_M} : (cM o G S X μ).1 3 1 = zI (gE G) := by
  rw [cM_3 h]
  rfl
theorem c_N {o : Nat} (h : cO o) {G : gG} {S : gS} {X : cX} {μ : ax_M} : (cM o G S X μ).1 3 0 = zI (gN G) := by
  rw [cM_3 h]
  rfl
theorem c_wcnt {o : Nat} (h : cO o) {G : gG} {S : gS} {X : cX} {μ : ax_M} : aJ 1144 [.ref o] [] (cM o G S X μ) = some (some (.int (zI (2 * gE G))), cM o G S X μ) := by
  rw [jl_1144 _ _ h, c_E h]
  have h2 : (2 : Int32) * zI (gE G) = zI (2 * gE G) := zI_mul 2 (gE G)
  rw [h2]
theorem c_rc {o : Nat} (h : cO o) {G : gG} {S : gS} {X : cX} {μ : ax_M} {w : Int} (h0 : 0 ≤ w) (h1 : w < 2 * gE G ∧ w < 60) : aJ 945 [.ref 3, .int (zI w)] [] (cM o G S X μ) = some (some (.int (zI (grc G w))), cM o G S X μ) := by
  have h2 : 0 ≤ gop w ∧ gop w < 2 * gE G ∧ gop w < 60 := by unfold gop; split <;> omega
  have h3 : zI w ^^^ (1 : Int32) = zI (gop w) := zI_xor1 h0 h1.2
  rw [jl_945 _ _ _ (Or.inl rfl), h3, c_sd h h2.1 h2.2, z_b1]
  rfl
theorem gsd_2 {G : gG} {e : Int} : gsd G (2 * e) = gfr G e := by
  unfold gsd
  rw [if_pos (by omega), show 2 * e / 2 = e by omega]
theorem gsd_21 {G : gG} {e : Int} : gsd G (2 * e + 1) = gsc G e := by
  unfold gsd
  rw [if_neg (by omega), show (2 * e + 1) / 2 = e by omega]
theorem c_wy {o : Nat} (h : cO o) {G : gG} {S : gS} {X : cX} {μ : ax_M} {n e : Int} (h0 : 0 ≤ e) (h1 : e < gE G ∧ e < 30) (hn : zR n) (hf : zR (gfr G e)) : aJ 946 [.ref 3, .int (zI n), .int (zI e)] [] (cM o G S X μ) = some (some (.int (zI (gwy G n e))), cM o G S X μ) := by
  have h2 : (2 : Int32) * zI e = zI (2 * e) := zI_mul 2 e
  rw [jl_946, h2, c_sd h (by omega) (by omega), z_b1, gsd_2, i_eq hf hn]
  unfold gwy
  by_cases q : gfr G e = n
  · rw [if_pos q, if_pos q, jl_948]
  · have h3 : zI (2 * e) + (1 : Int32) = zI (2 * e + 1) := zI_add (2 * e) 1
    rw [if_neg q, if_neg q, jl_947, jl_948, h2, h3]
theorem c_of0 {o : Nat} (h : cO o) {G : gG} {S : gS} {X : cX} {μ : ax_M} {n : Int} (h0 : 0 ≤ n) (h1 : n < 12) : aJ 1139 [.ref o, .int (zI n), .int 0] [] (cM o G S X μ) = some (some (.int (zI (gnd S n 0))), cM o G S X μ) := by
  have h2 : zI n * (11 : Int32) = zI (n * 11) := zI_mul n 11
  have h3 : zI (n * 11) + (0 : Int32) = zI (11 * n + 0) := by
    have := zI_add (n * 11) 0
    rw [show n * 11 + 0 = 11 * n + 0 by omega] at this
    exact this
  rw [jl_1139 _ _ _ _ h, h2, h3, c_at (sh_2 h) (by omega) (by omega) (by omega), c_nd h (f := 0) h0 h1 (by omega) (by omega), z_b1]
theorem c_nt0 {o : Nat} (h : cO o) {G : gG} {S : gS} {X : cX} {μ : ax_M} {n v : Int} {x : Int32} (h0 : 0 ≤ n) (h1 : n < 12) (hx : x = zI v) : aJ 1140 [.ref o, .int (zI n), .int 0, .int x] [] (cM o G S X μ) = some (none, cM o G (gsN S n 0 v) X μ) := by
  have h2 : zI n * (11 : Int32) = zI (n * 11) := zI_mul n 11
  have h3 : zI (n * 11) + (0 : Int32) = zI (11 * n + 0) := by
    have := zI_add (n * 11) 0
    rw [show n * 11 + 0 = 11 * n + 0 by omega] at this
    exact this
  rw [jl_1140 _ _ _ _ _ h, h2, h3, c_put (sh_2 h) (by omega) (by omega) (by omega), hx, c_wn h (f := 0) h0 h1 (by omega) (by omega), z_b0]
theorem c_of1 {o : Nat} (h : cO o) {G : gG} {S : gS} {X : cX} {μ : ax_M} {n : Int} (h0 : 0 ≤ n) (h1 : n < 12) : aJ 1139 [.ref o, .int (zI n), .int 1] [] (cM o G S X μ) = some (some (.int (zI (gnd S n 1))), cM o G S X μ) := by
  have h2 : zI n * (11 : Int32) = zI (n * 11) := zI_mul n 11
  have h3 : zI (n * 11) + (1 : Int32) = zI (11 * n + 1) := by
    have := zI_add (n * 11) 1
    rw [show n * 11 + 1 = 11 * n + 1 by omega] at this
    exact this
  rw [jl_1139 _ _ _ _ h, h2, h3, c_at (sh_2 h) (by omega) (by omega) (by omega), c_nd h (f := 1) h0 h1 (by omega) (by omega), z_b1]
theorem c_nt1 {o : Nat} (h : cO o) {G : gG} {S : gS} {X : cX} {μ : ax_M} {n v : Int} {x : Int32} (h0 : 0 ≤ n) (h1 : n < 12) (hx : x = zI v) : aJ 1140 [.ref o, .int (zI n), .int 1, .int x] [] (cM o G S X μ) = some (none, cM o G (gsN S n 1 v) X μ) := by
  have h2 : zI n * (11 : Int32) = zI (n * 11) := zI_mul n 11
  have h3 : zI (n * 11) + (1 : Int32) = zI (11 * n + 1) := by
    have := zI_add (n * 11) 1
    rw [show n * 11 + 1 = 11 * n + 1 by omega] at this
    exact this
  rw [jl_1140 _ _ _ _ _ h, h2, h3, c_put (sh_2 h) (by omega) (by omega) (by omega), hx, c_wn h (f := 1) h0 h1 (by omega) (by omega), z_b0]
theorem c_of2 {o : Nat} (h : cO o) {G : gG} {S : gS} {X : cX} {μ : ax_M} {n : Int} (h0 : 0 ≤ n) (h1 : n < 12) : aJ 1139 [.ref o, .int (zI n), .int 2] [] (cM o G S X μ) = some (some (.int (zI (gnd S n 2))), cM o G S X μ) := by
  have h2 : zI n * (11 : Int32) = zI (n * 11) := zI_mul n 11
  have h3 : zI (n * 11) + (2 : Int32) = zI (11 * n + 2) := by
    have := zI_add (n * 11) 2
    rw [show n * 11 + 2 = 11 * n + 2 by omega] at this
    exact this
  rw [jl_1139 _ _ _ _ h, h2, h3, c_at (sh_2 h) (by omega) (by omega) (by omega), c_nd h (f := 2) h0 h1 (by omega) (by omega), z_b1]
theorem c_nt2 {o : Nat} (h : cO o) {G : gG} {S : gS} {X : cX} {μ : ax_M} {n v : Int} {x : Int32} (h0 : 0 ≤ n) (h1 : n < 12) (hx : x = zI v) : aJ 1140 [.ref o, .int (zI n), .int 2, .int x] [] (cM o G S X μ) = some (none, cM o G (gsN S n 2 v) X μ) := by
  have h2 : zI n * (11 : Int32) = zI (n * 11) := zI_mul n 11
  have h3 : zI (n * 11) + (2 : Int32) = zI (11 * n + 2) := by
    have := zI_add (n * 11) 2
    rw [show n * 11 + 2 = 11 * n + 2 by omega] at this
    exact this
  rw [jl_1140 _ _ _ _ _ h, h2, h3, c_put (sh_2 h) (by omega) (by omega) (by omega), hx, c_wn h (f := 2) h0 h1 (by omega) (by omega), z_b0]
theorem c_of3 {o : Nat} (h : cO o) {G : gG} {S : gS} {X : cX} {μ : ax_M} {n : Int} (h0 : 0 ≤ n) (h1 : n < 12) : aJ 1139 [.ref o, .int (zI n), .int 3] [] (cM o G S X μ) = some (some (.int (zI (gnd S n 3))), cM o G S X μ) := by
  have h2 : zI n * (11 : Int32) = zI (n * 11) := zI_mul n 11
  have h3 : zI (n * 11) + (3 : Int32) = zI (11 * n + 3) := by
    have := zI_add (n * 11) 3
    rw [show n * 11 + 3 = 11 * n + 3 by omega] at this
    exact this
  rw [jl_1139 _ _ _ _ h, h2, h3, c_at (sh_2 h) (by omega) (by omega) (by omega), c_nd h (f := 3) h0 h1 (by omega) (by omega), z_b1]
theorem c_nt3 {o : Nat} (h : cO o) {G : gG} {S : gS} {X : cX} {μ : ax_M} {n v : Int} {x : Int32} (h0 : 0 ≤ n) (h1 : n < 12) (hx : x = zI v) : aJ 1140 [.ref o, .int (zI n), .int 3, .int x] [] (cM o G S X μ) = some (none, cM o G (gsN S n 3 v) X μ) := by
  have h2 : zI n * (11 : Int32) = zI (n * 11) := zI_mul n 11
  have h3 : zI (n * 11) + (3 : Int32) = zI (11 * n + 3) := by
    have := zI_add (n * 11) 3
    rw [show n * 11 + 3 = 11 * n + 3 by omega] at this
    exact this
  rw [jl_1140 _ _ _ _ _ h, h2, h3, c_put (sh_2 h) (by omega) (by omega) (by omega), hx, c_wn h (f := 3) h0 h1 (by omega) (by omega), z_b0]
theorem c_of4 {o : Nat} (h : cO o) {G : gG} {S : gS} {X : cX} {μ : ax_M} {n : Int} (h0 : 0 ≤ n) (h1 : n < 12) : aJ 1139 [.ref o, .int (zI n), .int 4] [] (cM o G S X μ) = some (some (.int (zI (gnd S n 4))), cM o G S X μ) := by
  have h2 : zI n * (11 : Int32) = zI (n * 11) := zI_mul n 11
  have h3 : zI (n * 11) + (4 : Int32) = zI (11 * n + 4) := by
    have := zI_add (n * 11) 4
    rw [show n * 11 + 4 = 11 * n + 4 by omega] at this
    exact this
  rw [jl_1139 _ _ _ _ h, h2, h3, c_at (sh_2 h) (by omega) (by omega) (by omega), c_nd h (f := 4) h0 h1 (by omega) (by omega), z_b1]
theorem c_nt4 {o : Nat} (h : cO o) {G : gG} {S : gS} {X : cX} {μ : ax_M} {n v : Int} {x : Int32} (h0 : 0 ≤ n) (h1 : n < 12) (hx : x = zI v) : aJ 1140 [.ref o, .int (zI n), .int 4, .int x] [] (cM o G S X μ) = some (none, cM o G (gsN S n 4 v) X μ) := by
  have h2 : zI n * (11 : Int32) = zI (n * 11) := zI_mul n 11
  have h3 : zI (n * 11) + (4 : Int32) = zI (11 * n + 4) := by
    have := zI_add (n * 11) 4
    rw [show n * 11 + 4 = 11 * n + 4 by omega] at this
    exact this
  rw [jl_1140 _ _ _ _ _ h, h2, h3, c_put (sh_2 h) (by omega) (by omega) (by omega), hx, c_wn h (f := 4) h0 h1 (by omega) (by omega), z_b0]
theorem c_of5 {o : Nat} (h : cO o) {G : gG} {S : gS} {X : cX} {μ : ax_M} {n : Int} (h0 : 0 ≤ n) (h1 : n < 12) : aJ 1139 [.ref o, .int (zI n), .int 5] [] (cM o G S X μ) = some (some (.int (zI (gnd S n 5))), cM o G S X μ) := by
  have h2 : zI n * (11 : Int32) = zI (n * 11) := zI_mul n 11
  have h3 : zI (n * 11) + (5 : Int32) = zI (11 * n + 5) := by
    have := zI_add (n * 11) 5
    rw [show n * 11 + 5 = 11 * n + 5 by omega] at this
    exact this
  rw [jl_1139 _ _ _ _ h, h2, h3, c_at (sh_2 h) (by omega) (by omega) (by omega), c_nd h (f := 5) h0 h1 (by omega) (by omega), z_b1]
theorem c_nt5 {o : Nat} (h : cO o) {G : gG} {S : gS} {X : cX} {μ : ax_M} {n v : Int} {x : Int32} (h0 : 0 ≤ n) (h1 : n < 12) (hx : x = zI v) : aJ 1140 [.ref o, .int (zI n), .int 5, .int x] [] (cM o G S X μ) = some (none, cM o G (gsN S n 5 v) X μ) := by
  have h2 : zI n * (11 : Int32) = zI (n * 11) := zI_mul n 11
  have h3 : zI (n * 11) + (5 : Int32) = zI (11 * n + 5) := by
    have := zI_add (n * 11) 5
    rw [show n * 11 + 5 = 11 * n + 5 by omega] at this
    exact this
  rw [jl_1140 _ _ _ _ _ h, h2, h3, c_put (sh_2 h) (by omega) (by omega) (by omega), hx, c_wn h (f := 5) h0 h1 (by omega) (by omega), z_b0]
theorem c_of6 {o : Nat} (h : cO o) {G : gG} {S : gS} {X : cX} {μ : ax_M} {n : Int} (h0 : 0 ≤ n) (h1 : n < 12) : aJ 1139 [.ref o, .int (zI n), .int 6] [] (cM o G S X μ) = some (some (.int (zI (gnd S n 6))), cM o G S X μ) := by
  have h2 : zI n * (11 : Int32) = zI (n * 11) := zI_mul n 11
  have h3 : zI (n * 11) + (6 : Int32) = zI (11 * n + 6) := by
    have := zI_add (n * 11) 6
    rw [show n * 11 + 6 = 11 * n + 6 by omega] at this
    exact this
  rw [jl_1139 _ _ _ _ h, h2, h3, c_at (sh_2 h) (by omega) (by omega) (by omega), c_nd h (f := 6) h0 h1 (by omega) (by omega), z_b1]
theorem c_nt6 {o : Nat} (h : cO o) {G : gG} {S : gS} {X : cX} {μ : ax_M} {n v : Int} {x : Int32} (h0 : 0 ≤ n) (h1 : n < 12) (hx : x = zI v) : aJ 1140 [.ref o, .int (zI n), .int 6, .int x] [] (cM o G S X μ) = some (none, cM o G (gsN S n 6 v) X μ) := by
  have h2 : zI n * (11 : Int32) = zI (n * 11) := zI_mul n 11
  have h3 : zI (n * 11) + (6 : Int32) = zI (11 * n + 6) := by
    have := zI_add (n * 11) 6
    rw [show n * 11 + 6 = 11 * n + 6 by omega] at this
    exact this
  rw [jl_1140 _ _ _ _ _ h, h2, h3, c_put (sh_2 h) (by omega) (by omega) (by omega), hx, c_wn h (f := 6) h0 h1 (by omega) (by omega), z_b0]
theorem c_of7 {o : Nat} (h : cO o) {G : gG} {S : gS} {X : cX} {μ : ax_M} {n : Int} (h0 : 0 ≤ n) (h1 : n < 12) : aJ 1139 [.ref o, .int (zI n), .int 7] [] (cM o G S X μ) = some (some (.int (zI (gnd S n 7))), cM o G S X μ) := by
  have h2 : zI n * (11 : Int32) = zI (n * 11) := zI_mul n 11
  have h3 : zI (n * 11) + (7 : Int32) = zI (11 * n + 7) := by
    have := zI_add (n * 11) 7
    rw [show n * 11 + 7 = 11 * n + 7 by omega] at this
    exact this
  rw [jl_1139 _ _ _ _ h, h2, h3, c_at (sh_2 h) (by omega) (by omega) (by omega), c_nd h (f := 7) h0 h1 (by omega) (by omega), z_b1]
theorem c_nt7 {o : Nat} (h : cO o) {G : gG} {S : gS} {X : cX} {μ : ax_M} {n v : Int} {x : Int32} (h0 : 0 ≤ n) (h1 : n < 12) (hx : x = zI v) : aJ 1140 [.ref o, .int (zI n), .int 7, .int x] [] (cM o G S X μ) = some (none, cM o G (gsN S n 7 v) X μ) := by
  have h2 : zI n * (11 : Int32) = zI (n * 11) := zI_mul n 11
  have h3 : zI (n * 11) + (7 : Int32) = zI (11 * n + 7) := by
    have := zI_add (n * 11) 7
    rw [show n * 11 + 7 = 11 * n + 7 by omega] at this
    exact this
  rw [jl_1140 _ _ _ _ _ h, h2, h3, c_put (sh_2 h) (by omega) (by omega) (by omega), hx, c_wn h (f := 7) h0 h1 (by omega) (by omega), z_b0]
theorem c_of8 {o : Nat} (h : cO o) {G : gG} {S : gS} {X : cX} {μ : ax_M} {n : Int} (h0 : 0 ≤ n) (h1 : n < 12) : aJ 1139 [.ref o, .int (zI n), .int 8] [] (cM o G S X μ) = some (some (.int (zI (gnd S n 8))), cM o G S X μ) := by
  have h2 : zI n * (11 : Int32) = zI (n * 11) := zI_mul n 11
  have h3 : zI (n * 11) + (8 : Int32) = zI (11 * n + 8) := by
    have := zI_add (n * 11) 8
    rw [show n * 11 + 8 = 11 * n + 8 by omega] at this
    exact this
  rw [jl_1139 _ _ _ _ h, h2, h3, c_at (sh_2 h) (by omega) (by omega) (by omega), c_nd h (f := 8) h0 h1 (by omega) (by omega), z_b1]
theorem c_nt8 {o : Nat} (h : cO o) {G : gG} {S : gS} {X : cX} {μ : ax_M} {n v : Int} {x : Int32} (h0 : 0 ≤ n) (h1 : n < 12) (hx : x = zI v) : aJ 1140 [.ref o, .int (zI n), .int 8, .int x] [] (cM o G S X μ) = some (none, cM o G (gsN S n 8 v) X μ) := by
  have h2 : zI n * (11 : Int32) = zI (n * 11) := zI_mul n 11
  have h3 : zI (n * 11) + (8 : Int32) = zI (11 * n + 8) := by
    have := zI_add (n * 11) 8
    rw [show n * 11 + 8 = 11 * n + 8 by omega] at this
    exact this
  rw [jl_1140 _ _ _ _ _ h, h2, h3, c_put (sh_2 h) (by omega) (by omega) (by omega), hx, c_wn h (f := 8) h0 h1 (by omega) (by omega), z_b0]
theorem c_of9 {o : Nat} (h : cO o) {G : gG} {S : gS} {X : cX} {μ : ax_M} {n : Int} (h0 : 0 ≤ n) (h1 : n < 12) : aJ 1139 [.ref o, .int (zI n), .int 9] [] (cM o G S X μ) = some (some (.int (zI (xwn X n))), cM o G S X μ) := by
  have h2 : zI n * (11 : Int32) = zI (n * 11) := zI_mul n 11
  have h3 : zI (n * 11) + (9 : Int32) = zI (11 * n + 9) := by
    have := zI_add (n * 11) 9
    rw [show n * 11 + 9 = 11 * n + 9 by omega] at this
    exact this
  rw [jl_1139 _ _ _ _ h, h2, h3, c_at (sh_2 h) (by omega) (by omega) (by omega), c_ndw h h0 h1, z_b1]
theorem c_of10 {o : Nat} (h : cO o) {G : gG} {S : gS} {X : cX} {μ : ax_M} {n : Int} (h0 : 0 ≤ n) (h1 : n < 12) : aJ 1139 [.ref o, .int (zI n), .int 10] [] (cM o G S X μ) = some (some (.int (zI (gnd S n 9))), cM o G S X μ) := by
  have h2 : zI n * (11 : Int32) = zI (n * 11) := zI_mul n 11
  have h3 : zI (n * 11) + (10 : Int32) = zI (11 * n + 10) := by
    have := zI_add (n * 11) 10
    rw [show n * 11 + 10 = 11 * n + 10 by omega] at this
    exact this
  rw [jl_1139 _ _ _ _ h, h2, h3, c_at (sh_2 h) (by omega) (by omega) (by omega), c_ndc h h0 h1, z_b1]
theorem c_nt10 {o : Nat} (h : cO o) {G : gG} {S : gS} {X : cX} {μ : ax_M} {n v : Int} {x : Int32} (h0 : 0 ≤ n) (h1 : n < 12) (hx : x = zI v) : aJ 1140 [.ref o, .int (zI n), .int 10, .int x] [] (cM o G S X μ) = some (none, cM o G (gsN S n 9 v) X μ) := by
  have h2 : zI n * (11 : Int32) = zI (n * 11) := zI_mul n 11
  have h3 : zI (n * 11) + (10 : Int32) = zI (11 * n + 10) := by
    have := zI_add (n * 11) 10
    rw [show n * 11 + 10 = 11 * n + 10 by omega] at this
    exact this
  rw [jl_1140 _ _ _ _ _ h, h2, h3, c_put (sh_2 h) (by omega) (by omega) (by omega), hx, c_wc h h0 h1, z_b0]
theorem c_tl0 {o : Nat} (h : cO o) {G : gG} {S : gS} {X : cX} {μ : ax_M} {k : Int} (h0 : 0 ≤ k) (h1 : k < gnL S) (hL : gnL S ≤ 256) : aJ 1141 [.ref o, .int (zI k), .int 0] [] (cM o G S X μ) = some (some (.int (zI (glt S k 0))), cM o G S X μ) := by
  have h2 : zI k * (8 : Int32) = zI (k * 8) := zI_mul k 8
  have h3 : zI (k * 8) + (0 : Int32) = zI (8 * k + 0) := by
    have := zI_add (k * 8) 0
    rw [show k * 8 + 0 = 8 * k + 0 by omega] at this
    exact this
  rw [jl_1141 _ _ _ _ h, h2, h3, c_at (sh_4 h) (by omega) (by omega) (by omega), c_lt h (f := 0) h0 h1 (by omega) (by omega), z_b1]
theorem c_tl1 {o : Nat} (h : cO o) {G : gG} {S : gS} {X : cX} {μ : ax_M} {k : Int} (h0 : 0 ≤ k) (h1 : k < gnL S) (hL : gnL S ≤ 256) : aJ 1141 [.ref o, .int (zI k), .int 1] [] (cM o G S X μ) = some (some (.int (zI (glt S k 1))), cM o G S X μ) := by
  have h2 : zI k * (8 : Int32) = zI (k * 8) := zI_mul k 8
  have h3 : zI (k * 8) + (1 : Int32) = zI (8 * k + 1) := by
    have := zI_add (k * 8) 1
    rw [show k * 8 + 1 = 8 * k + 1 by omega] at this
    exact this
  rw [jl_1141 _ _ _ _ h, h2, h3, c_at (sh_4 h) (by omega) (by omega) (by omega), c_lt h (f := 1) h0 h1 (by omega) (by omega), z_b1]
theorem c_tl2 {o : Nat} (h : cO o) {G : gG} {S : gS} {X : cX} {μ : ax_M} {k : Int} (h0 : 0 ≤ k) (h1 : k < gnL S) (hL : gnL S ≤ 256) : aJ 1141 [.ref o, .int (zI k), .int 2] [] (cM o G S X μ) = some (some (.int (zI (glt S k 2))), cM o G S X μ) := by
  have h2 : zI k * (8 : Int32) = zI (k * 8) := zI_mul k 8
  have h3 : zI (k * 8) + (2 : Int32) = zI (8 * k + 2) := by
    have := zI_add (k * 8) 2
    rw [show k * 8 + 2 = 8 * k + 2 by omega] at this
    exact this
  rw [jl_1141 _ _ _ _ h, h2, h3, c_at (sh_4 h) (by omega) (by omega) (by omega), c_lt h (f := 2) h0 h1 (by omega) (by omega), z_b1]
theorem c_tl3 {o : Nat} (h : cO o) {G : gG} {S : gS} {X : cX} {μ : ax_M} {k : Int} (h0 : 0 ≤ k) (h1 : k < gnL S) (hL : gnL S ≤ 256) : aJ 1141 [.ref o, .int (zI k), .int 3] [] (cM o G S X μ) = some (some (.int (zI (glt S k 3))), cM o G S X μ) := by
  have h2 : zI k * (8 : Int32) = zI (k * 8) := zI_mul k 8
  have h3 : zI (k * 8) + (3 : Int32) = zI (8 * k + 3) := by
    have := zI_add (k * 8) 3
    rw [show k * 8 + 3 = 8 * k + 3 by omega] at this
    exact this
  rw [jl_1141 _ _ _ _ h, h2, h3, c_at (sh_4 h) (by omega) (by omega) (by omega), c_lt h (f := 3) h0 h1 (by omega) (by omega), z_b1]
theorem c_tl4 {o : Nat} (h : cO o) {G : gG} {S : gS} {X : cX} {μ : ax_M} {k : Int} (h0 : 0 ≤ k) (h1 : k < gnL S) (hL : gnL S ≤ 256) : aJ 1141 [.ref o, .int (zI k), .int 4] [] (cM o G S X μ) = some (some (.int (zI (glt S k 4))), cM o G S X μ) := by
  have h2 : zI k * (8 : Int32) = zI (k * 8) := zI_mul k 8
  have h3 : zI (k * 8) + (4 : Int32) = zI (8 * k + 4) := by
    have := zI_add (k * 8) 4
    rw [show k * 8 + 4 = 8 * k + 4 by omega] at this
    exact this
  rw [jl_1141 _ _ _ _ h, h2, h3, c_at (sh_4 h) (by omega) (by omega) (by omega), c_lt h (f := 4) h0 h1 (by omega) (by omega), z_b1]
theorem c_tl5 {o : Nat} (h : cO o) {G : gG} {S : gS} {X : cX} {μ : ax_M} {k : Int} (h0 : 0 ≤ k) (h1 : k < gnL S) (hL : gnL S ≤ 256) : aJ 1141 [.ref o, .int (zI k), .int 5] [] (cM o G S X μ) = some (some (.int (zI (glt S k 5))), cM o G S X μ) := by
  have h2 : zI k * (8 : Int32) = zI (k * 8) := zI_mul k 8
  have h3 : zI (k * 8) + (5 : Int32) = zI (8 * k + 5) := by
    have := zI_add (k * 8) 5
    rw [show k * 8 + 5 = 8 * k + 5 by omega] at this
    exact this
  rw [jl_1141 _ _ _ _ h, h2, h3, c_at (sh_4 h) (by omega) (by omega) (by omega), c_lt h (f := 5) h0 h1 (by omega) (by omega), z_b1]
theorem c_tl6 {o : Nat} (h : cO o) {G : gG} {S : gS} {X : cX} {μ : ax_M} {k : Int} (h0 : 0 ≤ k) (h1 : k < gnL S) (hL : gnL S ≤ 256) : aJ 1141 [.ref o, .int (zI k), .int 6] [] (cM o G S X μ) = some (some (.int (zI (glt S k 6))), cM o G S X μ) := by
  have h2 : zI k * (8 : Int32) = zI (k * 8) := zI_mul k 8
  have h3 : zI (k * 8) + (6 : Int32) = zI (8 * k + 6) := by
    have := zI_add (k * 8) 6
    rw [show k * 8 + 6 = 8 * k + 6 by omega] at this
    exact this
  rw [jl_1141 _ _ _ _ h, h2, h3, c_at (sh_4 h) (by omega) (by omega) (by omega), c_lt h (f := 6) h0 h1 (by omega) (by omega), z_b1]
theorem c_tl7 {o : Nat} (h : cO o) {G : gG} {S : gS} {X : cX} {μ : ax_M} {k : Int} (h0 : 0 ≤ k) (h1 : k < gnL S) (hL : gnL S ≤ 256) : aJ 1141 [.ref o, .int (zI k), .int 7] [] (cM o G S X μ) = some (some (.int (zI (xaf X k))), cM o G S X μ) := by
  have h2 : zI k * (8 : Int32) = zI (k * 8) := zI_mul k 8
  have h3 : zI (k * 8) + (7 : Int32) = zI (8 * k + 7) := by
    have := zI_add (k * 8) 7
    rw [show k * 8 + 7 = 8 * k + 7 by omega] at this
    exact this
  rw [jl_1141 _ _ _ _ h, h2, h3, c_at (sh_4 h) (by omega) (by omega) (by omega), c_la h h0 h1, z_b1]
theorem c_li {o : Nat} (h : cO o) {G : gG} {S : gS} {X : cX} {μ : ax_M} {e f : Int} (hE : gE G ≤ 30) (hw : hGw G) (h0 : -1 ≤ e) (h1 : e < gE G) (h2 : -1 ≤ f) (h3 : f < gE G) : aJ 1145 [.ref o, .int (zI e), .int (zI f)] [] (cM o G S X μ) = some (some (.int (zB (gli G e f))), cM o G S X μ) := by
  have re : zR e := zR_of (by omega)
  have rf : zR f := zR_of (by omega)
  have s1 := sh_1 h
  have hc : 1 ≤ (ax_sh (o + 1)).1 ∧ (ax_sh (o + 1)).1 ≤ 6 := by omega
  rw [jl_1145 _ _ _ _ h, j_lt rfl zl0 re (zR_of (by omega))]
  by_cases q : e < 0
  · have qe : e = -1 := by omega
    rw [if_pos q, jl_1146]
    simp [gli, qe, zB]
  · rw [if_neg q, if_pos hc, s1.2, j_lt rfl (ofNat_zI 30) re (zR_of (by omega)), if_pos (by omega), jl_1147 _ _ _ _ h, j_lt rfl zl0 rf (zR_of (by omega))]
    by_cases q2 : f < 0
    · have qf : f = -1 := by omega
      rw [if_pos q2, jl_1148]
      have : e ≠ -1 := by omega
      simp [gli, qf, this, zB]
    · have we := hw e (by omega) h1
      have wf := hw f (by omega) h3
      have rwe : zR (gwt G e) := zR_of (by omega)
      have rwf : zR (gwt G f) := zR_of (by omega)
      have le : ax_ld ax_sh (cM o G S X μ) (o + 1) (zI e) = some (zI (gwt G e)) := by
        rw [z_ld s1 (by omega) (by omega) (by omega), cM_1 h]
        unfold cW
        rw [r_cast (by omega), if_pos (by omega)]
      have lf : ax_ld ax_sh (cM o G S X μ) (o + 1) (zI f) = some (zI (gwt G f)) := by
        rw [z_ld s1 (by omega) (by omega) (by omega), cM_1 h]
        unfold cW
        rw [r_cast (by omega), if_pos (by omega)]
      rw [if_neg q2, if_pos hc, s1.2, j_lt rfl (ofNat_zI 30) rf (zR_of (by omega)), if_pos (by omega), jl_1149 _ _ _ _ h, le, z_bo, lf, z_bo, z_bo, z_bo, i_lt rwe rwf, i_eq rwe rwf, i_le rf re]
      have hg : gli G e f = decide (gwt G e < gwt G f ∨ (gwt G e = gwt G f ∧ e < f)) := by
        unfold gli
        rw [if_neg (by omega)]
      rw [hg]
      by_cases q3 : gwt G e < gwt G f
      · rw [if_pos q3, jl_1150, jl_1152, if_pos (Or.inr rfl)]
        simp [q3, zB]
      · rw [if_neg q3]
        by_cases q4 : gwt G e = gwt G f
        · rw [if_pos q4]
          by_cases q5 : f ≤ e
          · rw [if_pos q5, jl_1151, jl_1152, if_pos (Or.inl rfl)]
            simp [q4, show ¬ e < f by omega, zB]
          · rw [if_neg q5, jl_1150, jl_1152, if_pos (Or.inr rfl)]
            simp [q4, show e < f by omega, zB]
        · rw [if_neg q4, jl_1151, jl_1152, if_pos (Or.inl rfl)]
          simp [q3, q4, zB]
