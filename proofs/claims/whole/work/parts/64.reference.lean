/-! m: the reference's small methods over the picture -/
theorem i_eq {α : Type} {a b : Int} (ha : zR a) (hb : zR b) {D : Decidable (zI a = zI b)} {x y : α} : @ite α (zI a = zI b) D x y = if a = b then x else y := by
  by_cases h : a = b
  · rw [if_pos h, if_pos ((zI_eq ha hb).mpr h)]
  · rw [if_neg h, if_neg (fun q => h ((zI_eq ha hb).mp q))]
theorem i_lt {α : Type} {a b : Int} (ha : zR a) (hb : zR b) {D : Decidable (zI a < zI b)} {x y : α} : @ite α (zI a < zI b) D x y = if a < b then x else y := by
  by_cases h : a < b
  · rw [if_pos h, if_pos ((zI_lt ha hb).mpr h)]
  · rw [if_neg h, if_neg (fun q => h ((zI_lt ha hb).mp q))]
theorem i_le {α : Type} {a b : Int} (ha : zR a) (hb : zR b) {D : Decidable (zI a ≤ zI b)} {x y : α} : @ite α (zI a ≤ zI b) D x y = if a ≤ b then x else y := by
  by_cases h : a ≤ b
  · rw [if_pos h, if_pos ((zI_le ha hb).mpr h)]
  · rw [if_neg h, if_neg (fun q => h ((zI_le ha hb).mp q))]
theorem j_eq {α : Type} {x y : Int32} {a b : Int} (hx : x = zI a) (hy : y = zI b) (ha : zR a) (hb : zR b) {D : Decidable (x = y)} {p q : α} : @ite α (x = y) D p q = if a = b then p else q := by
  subst hx
  subst hy
  exact i_eq ha hb
theorem j_lt {α : Type} {x y : Int32} {a b : Int} (hx : x = zI a) (hy : y = zI b) (ha : zR a) (hb : zR b) {D : Decidable (x < y)} {p q : α} : @ite α (x < y) D p q = if a < b then p else q := by
  subst hx
  subst hy
  exact i_lt ha hb
theorem j_le {α : Type} {x y : Int32} {a b : Int} (hx : x = zI a) (hy : y = zI b) (ha : zR a) (hb : zR b) {D : Decidable (x ≤ y)} {p q : α} : @ite α (x ≤ y) D p q = if a ≤ b then p else q := by
  subst hx
  subst hy
  exact i_le ha hb
theorem zB_t : ¬ zB true = 0 := by decide
theorem i_B {α : Type} {b : Bool} {D : Decidable (zB b = 0)} {x y : α} : @ite α (zB b = 0) D x y = if b = true then y else x := by
  cases b
  · rw [if_pos (by rfl), if_neg (by decide)]
  · rw [if_neg zB_t, if_pos rfl]
theorem i_P {α : Type} {p : Prop} [Decidable p] {D : Decidable (zB (decide p) = 0)} {x y : α} : @ite α (zB (decide p) = 0) D x y = if p then y else x := by
  rw [i_B]
  by_cases h : p <;> simp [h]
theorem zR_of {a : Int} (h : -1000000 ≤ a ∧ a ≤ 1000000) : zR a := by unfold zR; omega
theorem zI_one : (1 : Int32) = zI 1 := rfl
theorem zI_zero : (0 : Int32) = zI 0 := rfl
theorem zI_m1 : (-1 : Int32) = zI (-1) := rfl
def hGw (G : gG) : Prop := ∀ e, 0 ≤ e → e < gE G → 1 ≤ gwt G e ∧ gwt G e ≤ 1000
theorem zR_s {a : Int} (h0 : -1 ≤ a) (h1 : a ≤ 1000000) : zR a := zR_of (by omega)
theorem l_N {G : gG} {S : gS} {μ : ax_M} : ax_ld ax_sh (mM G S μ) 209 0 = some (zI (gN G)) := z_ld209 (z := 0) (by omega) (by omega)
theorem l_E {G : gG} {S : gS} {μ : ax_M} : ax_ld ax_sh (mM G S μ) 209 1 = some (zI (gE G)) := z_ld209 (z := 1) (by omega) (by omega)
theorem l_L {G : gG} {S : gS} {μ : ax_M} : ax_ld ax_sh (mM G S μ) 209 383 = some (zI (gnL S)) := z_ld209 (z := 383) (by omega) (by omega)
theorem l_D {G : gG} {S : gS} {μ : ax_M} : ax_ld ax_sh (mM G S μ) 209 384 = some (zI (gdf S)) := z_ld209 (z := 384) (by omega) (by omega)
theorem l_R {G : gG} {S : gS} {μ : ax_M} : ax_ld ax_sh (mM G S μ) 209 385 = some (zI (grd S)) := z_ld209 (z := 385) (by omega) (by omega)
theorem l_fr {G : gG} {S : gS} {μ : ax_M} {e : Int} (h0 : 0 ≤ e) (h1 : e < 30) : ax_ld ax_sh (mM G S μ) 209 ((2 : Int32) + zI e) = some (zI (gfr G e)) := by
  have h : (2 : Int32) + zI e = zI (2 + e) := zI_add 2 e
  rw [h, z_ld209 (by omega) (by omega), r_fr h0 h1]
theorem l_sc {G : gG} {S : gS} {μ : ax_M} {e : Int} (h0 : 0 ≤ e) (h1 : e < 30) : ax_ld ax_sh (mM G S μ) 209 ((32 : Int32) + zI e) = some (zI (gsc G e)) := by
  have h : (32 : Int32) + zI e = zI (32 + e) := zI_add 32 e
  rw [h, z_ld209 (by omega) (by omega), r_sc h0 h1]
theorem l_wt {G : gG} {S : gS} {μ : ax_M} {e : Int} (h0 : 0 ≤ e) (h1 : e < 30) : ax_ld ax_sh (mM G S μ) 209 ((173 : Int32) + zI e) = some (zI (gwt G e)) := by
  have h : (173 : Int32) + zI e = zI (173 + e) := zI_add 173 e
  rw [h, z_ld209 (by omega) (by omega), r_wt h0 h1]
theorem l_en {G : gG} {S : gS} {μ : ax_M} {w : Int} (h0 : 0 ≤ w) (h1 : w < 60) : ax_ld ax_sh (mM G S μ) 209 ((203 : Int32) + zI w) = some (zI (gen S w)) := by
  have h : (203 : Int32) + zI w = zI (203 + w) := zI_add 203 w
  rw [h, z_ld209 (by omega) (by omega), r_en h0 h1]
theorem s_en {G : gG} {S : gS} {μ : ax_M} {w v : Int} {x : Int32} (h0 : 0 ≤ w) (h1 : w < 60) (hx : x = zI v) : ax_st ax_sh (mM G S μ) 209 ((203 : Int32) + zI w) x = some (mM G (gsE S w v) μ) := by
  have h : (203 : Int32) + zI w = zI (203 + w) := zI_add 203 w
  rw [h, z_st209 (by omega) (by omega), hx, w_en h0 h1]
theorem s_l5 {G : gG} {S : gS} {μ : ax_M} {k v : Int} {x : Int32} (h0 : 0 ≤ k) (h1 : k < gnL S) (hL : gnL S ≤ 260) (hx : x = zI v) : ax_st ax_sh (mM G S μ) 209 (((386 : Int32) + ((8 : Int32) * zI k)) + (5 : Int32)) x = some (mM G (gsL S k 5 v) μ) := by
  have h2 : (8 : Int32) * zI k = zI (8 * k) := zI_mul 8 k
  have h3 : (386 : Int32) + zI (8 * k) = zI (386 + 8 * k) := zI_add 386 (8 * k)
  have h4 : zI (386 + 8 * k) + (5 : Int32) = zI (386 + 8 * k + 5) := zI_add (386 + 8 * k) 5
  rw [h2, h3, h4, z_st209 (by omega) (by omega), hx, w_lt h0 h1 (by omega) (by omega)]
theorem s_l7 {G : gG} {S : gS} {μ : ax_M} {k v : Int} {x : Int32} (h0 : 0 ≤ k) (h1 : k < gnL S) (hL : gnL S ≤ 260) (hx : x = zI v) : ax_st ax_sh (mM G S μ) 209 (((386 : Int32) + ((8 : Int32) * zI k)) + (7 : Int32)) x = some (mM G (gsL S k 7 v) μ) := by
  have h2 : (8 : Int32) * zI k = zI (8 * k) := zI_mul 8 k
  have h3 : (386 : Int32) + zI (8 * k) = zI (386 + 8 * k) := zI_add 386 (8 * k)
  have h4 : zI (386 + 8 * k) + (7 : Int32) = zI (386 + 8 * k + 7) := zI_add (386 + 8 * k) 7
  rw [h2, h3, h4, z_st209 (by omega) (by omega), hx, w_lt h0 h1 (by omega) (by omega)]
theorem h_wyr {G : gG} {n e : Int} (h0 : 0 ≤ e) (h1 : e < 30) : 0 ≤ gwy G n e ∧ gwy G n e < 60 := by
  unfold gwy
  split <;> omega
theorem m_nd {G : gG} {S : gS} {μ : ax_M} {n f : Int} (h0 : 0 ≤ n) (h1 : n < 12) (h2 : 0 ≤ f) (h3 : f < 10) : aJ 203 [.ref 207, .int (zI n), .int (zI f)] [] (mM G S μ) = some (some (.int (zI (gnd S n f))), mM G S μ) := by
  rw [mz_nodeIs h0 h1 h2 h3, r_nd h0 h1 h2 h3]
theorem m_sN {G : gG} {S : gS} {μ : ax_M} {n f v : Int} (h0 : 0 ≤ n) (h1 : n < 12) (h2 : 0 ≤ f) (h3 : f < 10) : aJ 204 [.ref 207, .int (zI n), .int (zI f), .int (zI v)] [] (mM G S μ) = some (none, mM G (gsN S n f v) μ) := by
  rw [mz_setNode h0 h1 h2 h3, w_nd h0 h1 h2 h3]
theorem m_lt {G : gG} {S : gS} {μ : ax_M} {k f : Int} (h0 : 0 ≤ k) (h1 : k < gnL S) (hL : gnL S ≤ 260) (h2 : 0 ≤ f) (h3 : f < 8) : aJ 205 [.ref 207, .int (zI k), .int (zI f)] [] (mM G S μ) = some (some (.int (zI (glt S k f))), mM G S μ) := by
  rw [mz_letterIs h0 (by omega) h2 h3, r_lt h0 h1 h2 h3]
theorem m_sd {G : gG} {S : gS} {μ : ax_M} {w : Int} (h0 : 0 ≤ w) (h1 : w < 60) : aJ 185 [.ref 207, .int (zI w)] [] (mM G S μ) = some (some (.int (zI (gsd G w))), mM G S μ) := by
  rw [mz_sender h0 h1]
  unfold gsd
  by_cases h : w % 2 = 0
  · rw [if_pos h, if_pos h, r_fr (by omega) (by omega)]
  · rw [if_neg h, if_neg h, r_sc (by omega) (by omega)]
theorem m_rc {G : gG} {S : gS} {μ : ax_M} {w : Int} (h0 : 0 ≤ w) (h1 : w < 60) : aJ 188 [.ref 207, .int (zI w)] [] (mM G S μ) = some (some (.int (zI (grc G w))), mM G S μ) := by
  have h2 : 0 ≤ gop w ∧ gop w < 60 := by unfold gop; split <;> omega
  rw [jl_188, zI_one, zI_xor1 h0 h1, m_sd h2.1 h2.2, z_b1]
  rfl
theorem m_isAt {G : gG} {S : gS} {μ : ax_M} {n e : Int} (h0 : 0 ≤ e) (h1 : e < 30) (hn : zR n) (hf : zR (gfr G e)) (hs : zR (gsc G e)) : aJ 178 [.ref 207, .int (zI e), .int (zI n)] [] (mM G S μ) = some (some (.int (zB (decide (gfr G e = n ∨ gsc G e = n)))), mM G S μ) := by
  rw [jl_178]
  rw [l_fr h0 h1, z_bo, i_eq hf hn]
  by_cases q : gfr G e = n
  · rw [if_pos q, jl_179, jl_181, if_pos (Or.inr rfl)]
    simp [q, zB]
  · rw [if_neg q, l_sc h0 h1, z_bo, i_eq hs hn]
    by_cases q2 : gsc G e = n
    · rw [if_pos q2, jl_179, jl_181, if_pos (Or.inr rfl)]
      simp [q2, zB]
    · rw [if_neg q2, jl_180, jl_181, if_pos (Or.inl rfl)]
      simp [q, q2, zB]
theorem m_wy {G : gG} {S : gS} {μ : ax_M} {n e : Int} (h0 : 0 ≤ e) (h1 : e < 30) (hn : zR n) (hf : zR (gfr G e)) : aJ 182 [.ref 207, .int (zI n), .int (zI e)] [] (mM G S μ) = some (some (.int (zI (gwy G n e))), mM G S μ) := by
  rw [jl_182]
  rw [l_fr h0 h1, z_bo, i_eq hf hn]
  unfold gwy
  by_cases q : gfr G e = n
  · rw [if_pos q, if_pos q, jl_184]
    have h2 : (2 : Int32) * zI e = zI (2 * e) := zI_mul 2 e
    rw [h2]
  · rw [if_neg q, if_neg q, jl_183, jl_184]
    have h2 : (2 : Int32) * zI e = zI (2 * e) := zI_mul 2 e
    have h3 : zI (2 * e) + (1 : Int32) = zI (2 * e + 1) := zI_add (2 * e) 1
    rw [h2, h3]
theorem m_li {G : gG} {S : gS} {μ : ax_M} {e f : Int} (hE : gE G ≤ 30) (hw : hGw G) (h0 : -1 ≤ e) (h1 : e < gE G) (h2 : -1 ≤ f) (h3 : f < gE G) : aJ 189 [.ref 207, .int (zI e), .int (zI f)] [] (mM G S μ) = some (some (.int (zB (gli G e f))), mM G S μ) := by
  have re : zR e := zR_of (by omega)
  have rf : zR f := zR_of (by omega)
  have rm : zR (-1) := zR_of (by omega)
  rw [jl_189, j_eq rfl zI_m1 re rm, j_eq rfl zI_m1 rf rm]
  by_cases q : e = -1
  · rw [if_pos q, jl_190, j_eq rfl zI_m1 re rm, if_pos q, jl_191, jl_192, if_pos (Or.inl rfl)]
    simp [gli, q, zB]
  · rw [if_neg q]
    by_cases q2 : f = -1
    · rw [if_pos q2, jl_190, j_eq rfl zI_m1 re rm, if_neg q, jl_192, if_pos (Or.inr rfl)]
      simp [gli, q, q2, zB]
    · rw [if_neg q2, jl_193]
      have we := hw e (by omega) h1
      have wf := hw f (by omega) h3
      have rwe : zR (gwt G e) := zR_of (by omega)
      have rwf : zR (gwt G f) := zR_of (by omega)
      rw [l_wt (by omega) (by omega), z_bo, l_wt (by omega) (by omega), z_bo, z_bo, z_bo, i_lt rwe rwf, i_eq rwe rwf, i_le rf re]
      have hg : gli G e f = decide (gwt G e < gwt G f ∨ (gwt G e = gwt G f ∧ e < f)) := by
        unfold gli
        rw [if_neg (by omega)]
      rw [hg]
      by_cases q3 : gwt G e < gwt G f
      · rw [if_pos q3, jl_194, jl_196, if_pos (Or.inr rfl)]
        simp [q3, zB]
      · rw [if_neg q3]
        by_cases q4 : gwt G e = gwt G f
        · rw [if_pos q4]
          by_cases q5 : f ≤ e
          · rw [if_pos q5, jl_195, jl_196, if_pos (Or.inl rfl)]
            simp [q4, show ¬ e < f by omega, zB]
          · rw [if_neg q5, jl_194, jl_196, if_pos (Or.inr rfl)]
            simp [q4, show e < f by omega, zB]
        · rw [if_neg q4, jl_195, jl_196, if_pos (Or.inl rfl)]
          simp [q3, q4, zB]
theorem m_en {G : gG} {S : gS} {μ : ax_M} {n e : Int} (h0 : 0 ≤ e) (h1 : e < 30) (hn : zR n) (hf : zR (gfr G e)) : aJ 197 [.ref 207, .int (zI n), .int (zI e)] [] (mM G S μ) = some (some (.int (zI (gen S (gwy G n e)))), mM G S μ) := by
  have h2 := h_wyr (G := G) (n := n) h0 h1
  rw [jl_197, m_wy h0 h1 hn hf, z_b1]
  rw [l_en h2.1 h2.2, z_bo]
theorem m_sE {G : gG} {S : gS} {μ : ax_M} {n e v : Int} {x : Int32} (h0 : 0 ≤ e) (h1 : e < 30) (hn : zR n) (hf : zR (gfr G e)) (hx : x = zI v) : aJ 198 [.ref 207, .int (zI n), .int (zI e), .int x] [] (mM G S μ) = some (none, mM G (gsE S (gwy G n e) v) μ) := by
  have h2 := h_wyr (G := G) (n := n) h0 h1
  rw [jl_198, m_wy h0 h1 hn hf, z_b1]
  rw [s_en h2.1 h2.2 hx, z_bo]
/-! ranges -/
def hRe (S : gS) : Prop := ∀ w, 0 ≤ gen S w ∧ gen S w ≤ 2
theorem h_fz {G : gG} (hg : hGok G) {e : Int} (h0 : 0 ≤ e) (h1 : e < gE G) : zR (gfr G e) ∧ zR (gsc G e) := by
  have h := hg.2.2.2.2 e h0 h1
  have h2 := hg.2.1
  exact ⟨zR_of (by omega), zR_of (by omega)⟩
theorem glbR_r {G : gG} {S : gS} {n : Int} : ∀ m : Nat, -1 ≤ glbR G S n m ∧ glbR G S n m < m := by
  intro m
  induction m with
  | zero => exact ⟨by unfold glbR; omega, by unfold glbR; omega⟩
  | succ m ih =>
    unfold glbR
    split <;> omega
theorem m_lb {G : gG} {S : gS} {μ : ax_M} {n : Int} (hg : hGok G) (hw : hGw G) (he : hRe S) (h0 : 0 ≤ n) (h1 : n < 12) : aJ 199 [.ref 207, .int (zI n)] [] (mM G S μ) = some (some (.int (zI (glb G S n))), mM G S μ) := by
  have hE0 := hg.2.2.1
  have hE := hg.2.2.2.1
  have rn : zR n := zR_of (by omega)
  have loop : ∀ m : Nat, ∀ e : Nat, e + m = (gE G).toNat → aJ 200 [.ref 207, .int (zI n), .int (zI (glbR G S n e)), .int (zI e)] [] (mM G S μ) = some (some (.int (zI (glb G S n))), mM G S μ) := by
    intro m
    induction m with
    | zero =>
      intro e hem
      rw [jl_200, l_E, z_bo, i_le (zR_of (by omega)) (zR_of (by omega)), if_pos (by omega), jl_202]
      unfold glb
      rw [show (gE G).toNat = e by omega]
    | succ m ih =>
      intro e hem
      have hz := h_fz hg (e := e) (by omega) (by omega)
      have hb := glbR_r (G := G) (S := S) (n := n) e
      rw [jl_200, l_E, z_bo, i_le (zR_of (by omega)) (zR_of (by omega)), if_neg (by omega), m_isAt (by omega) (by omega) rn hz.1 hz.2, z_b1, i_P]
      have hn : aJ 201 [.ref 207, .int (zI n), .int (zI (glbR G S n e)), .int (zI e)] [] (mM G S μ) = aJ 200 [.ref 207, .int (zI n), .int (zI (glbR G S n e)), .int (zI ((e + 1 : Nat) : Int))] [] (mM G S μ) := by
        rw [jl_201]
        have h3 : zI e + (1 : Int32) = zI ((e + 1 : Nat) : Int) := zI_add e 1
        rw [h3]
      by_cases q : gfr G e = n ∨ gsc G e = n
      · rw [if_pos q, m_en (by omega) (by omega) rn hz.1, z_b1, j_eq rfl zI_zero (zR_of (by have := he (gwy G n e); omega)) (zR_of (by omega))]
        by_cases q2 : gen S (gwy G n e) = 0
        · rw [if_pos q2, m_li hE hw (by omega) (by omega) hb.1 (by omega), z_b1, i_B]
          by_cases q3 : gli G e (glbR G S n e) = true
          · rw [if_pos q3, jl_201]
            have h4 : zI e + (1 : Int32) = zI ((e + 1 : Nat) : Int) := zI_add e 1
            rw [h4]
            have h3 := ih (e + 1) (by omega)
            unfold glbR at h3
            rw [if_pos ⟨q, q2, q3⟩] at h3
            exact h3
          · rw [if_neg q3, hn]
            have h3 := ih (e + 1) (by omega)
            unfold glbR at h3
            rw [if_neg (fun x => q3 x.2.2)] at h3
            exact h3
        · rw [if_neg q2, hn]
          have h3 := ih (e + 1) (by omega)
          unfold glbR at h3
          rw [if_neg (fun x => q2 x.2.1)] at h3
          exact h3
      · rw [if_neg q, hn]
        have h3 := ih (e + 1) (by omega)
        unfold glbR at h3
        rw [if_neg (fun x => q x.1)] at h3
        exact h3
  rw [jl_199]
  exact loop (gE G).toNat 0 (by omega)
