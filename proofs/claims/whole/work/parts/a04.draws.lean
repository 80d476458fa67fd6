/-! r: draws -/
def u24 (x : Int32) : UInt32 := x.toUInt32 >>> ((8 : Int32).toUInt32 &&& Int32.toUInt32 31)
def gst (x : Int32) : Int32 := x * (1103515245 : Int32) + (12345 : Int32)
def gpk (x : Int32) (n : Int) : Int := ((u24 x).toNat : Int) % n
theorem u24_lt (x : Int32) : (u24 x).toNat < 16777216 := by
  have e : ((8 : Int32).toUInt32 &&& Int32.toUInt32 31) = 8 := by decide
  unfold u24
  rw [e, UInt32.toNat_shiftRight, show (8 : UInt32).toNat % 32 = 8 from rfl, Nat.shiftRight_eq_div_pow]
  have := x.toUInt32.toNat_lt
  omega
theorem u24_zI (x : Int32) : (u24 x).toInt32 = zI (u24 x).toNat := by
  rw [← ofNat_zI]
  have h : u24 x = UInt32.ofNatLT (u24 x).toNat (u24 x).toNat_lt := rfl
  exact (congrArg UInt32.toInt32 h).trans (UInt32.toInt32_ofNatLT _)
theorem zI_dv {a b : Int} (h0 : 0 ≤ a) (h1 : a < 2147483648) (h2 : 0 < b) (h3 : b < 2147483648) : zI a / zI b = zI (a / b) := by
  have hd : a / b ≤ a := Int.ediv_le_self b h0
  have hd0 : 0 ≤ a / b := Int.ediv_nonneg h0 (by omega)
  rw [← Int32.toInt_inj]
  have e2 : (zI b).toInt = b := zI_toInt ⟨by omega, h3⟩
  have hb : zI b ≠ -1 := by
    intro q
    have := congrArg Int32.toInt q
    rw [e2] at this
    have e : (-1 : Int32).toInt = -1 := by decide
    omega
  rw [Int32.toInt_div_of_ne_right _ _ hb, zI_toInt ⟨by omega, h1⟩, e2, zI_toInt ⟨by omega, by omega⟩, Int.tdiv_eq_ediv_of_nonneg h0]
theorem dk_eq (x : Int32) {n : Int} (h0 : 0 < n) (h1 : n ≤ 1000) : (x.toUInt32 >>> ((8 : Int32).toUInt32 &&& Int32.toUInt32 31)).toInt32 - (x.toUInt32 >>> ((8 : Int32).toUInt32 &&& Int32.toUInt32 31)).toInt32 / zI n * zI n = zI (gpk x n) := by
  show (u24 x).toInt32 - (u24 x).toInt32 / zI n * zI n = _
  have h2 := u24_lt x
  rw [u24_zI, zI_dv (by omega) (by omega) h0 (by omega), zI_mul, zI_sub]
  unfold gpk
  rw [Int.emod_def, Int.mul_comm]
theorem gpk_r (x : Int32) {n : Int} (h0 : 0 < n) : 0 ≤ gpk x n ∧ gpk x n < n := ⟨Int.emod_nonneg _ (by omega), Int.emod_lt_of_pos _ h0⟩
theorem uD_at {μ : ax_M} {o k : Nat} {v : Int32} : (ax_uD μ o k v).1 o k = v := up_at
theorem uD_nk {μ : ax_M} {o k j : Nat} {v : Int32} (h : j ≠ k) (o' : Nat) : (ax_uD μ o k v).1 o' j = μ.1 o' j := up_nk h
theorem uD_ne {μ : ax_M} {o k j o' : Nat} {v : Int32} (h : o' ≠ o) : (ax_uD μ o k v).1 o' j = μ.1 o' j := up_ne h
theorem fr_uD {l : List Nat} {ν : ax_M} {o k : Nat} {x : Int32} (h : o ∈ l) : fr l ν (ax_uD ν o k x) := fru h
theorem q_draw {ν : ax_M} {n : Int} (h0 : 0 < n) (h1 : n ≤ 1000) : aJ 572 [.ref 207, .int (zI n)] [] ν = some (some (.int (zI (gpk (gst (ν.1 207 32)) n))), ax_uD ν 207 32 (gst (ν.1 207 32))) := by
  rw [jl_572, j_eq rfl zl0 (zR_of (by omega)) (zR_of (by omega)), if_neg (by omega), uD_at, dk_eq _ h0 h1]
  rfl
theorem q_stir {ν : ax_M} {x : Int32} : aJ 838 [.int x] [] ν = some (some (.int (gst x)), ν) := by rw [jl_838]; rfl
theorem q_pick {ν : ax_M} {x : Int32} {n : Int} (h0 : 0 < n) (h1 : n ≤ 1000) : aJ 839 [.int x, .int (zI n)] [] ν = some (some (.int (zI (gpk x n))), ν) := by
  rw [jl_839, j_le rfl zl0 (zR_of (by omega)) (zR_of (by omega)), if_neg (by omega), j_eq rfl zl0 (zR_of (by omega)) (zR_of (by omega)), if_neg (by omega), dk_eq _ h0 h1, jl_841]
/-! ways with letters -/
def gbn (G : gG) (S : gS) : Nat := pct (fun w => gfi S w ≠ -1) (fun _ => inferInstance) (2 * gE G).toNat
def isBW (G : gG) (S : gS) (k : Int) (w : Int) : Prop := 0 ≤ w ∧ w < 2 * gE G ∧ gfi S w ≠ -1 ∧ ((pct (fun w => gfi S w ≠ -1) (fun _ => inferInstance) w.toNat : Nat) : Int) = k
theorem pct_mono {P : Int → Prop} {D : ∀ i, Decidable (P i)} {m m' : Nat} (h : m ≤ m') : pct P D m ≤ pct P D m' := by
  induction m' with
  | zero => rw [show m = 0 by omega]; exact Nat.le_refl _
  | succ m' ih =>
    by_cases q : m = m' + 1
    · rw [q]; exact Nat.le_refl _
    · have := ih (by omega)
      simp only [pct]
      omega
theorem bw_uni {G : gG} {S : gS} {k w w' : Int} (h : isBW G S k w) (h' : isBW G S k w') : w = w' := by
  have key : ∀ {w w' : Int}, isBW G S k w → isBW G S k w' → ¬ w < w' := by
    intro w w' h h' q
    have e1 : pct (fun w => gfi S w ≠ -1) (fun _ => inferInstance) (w.toNat + 1) = pct (fun w => gfi S w ≠ -1) (fun _ => inferInstance) w.toNat + 1 := by
      simp only [pct]
      rw [if_pos (by rw [r_cast h.1]; exact h.2.2.1)]
    have e2 := pct_mono (P := fun w => gfi S w ≠ -1) (D := fun _ => inferInstance) (m := w.toNat + 1) (m' := w'.toNat) (by have := h.1; omega)
    have e3 := h.2.2.2
    have e4 := h'.2.2.2
    omega
  have a1 := key h h'
  have a2 := key h' h
  omega
noncomputable def gbw (G : gG) (S : gS) (k : Int) : Int := Classical.epsilon (fun w => isBW G S k w)
theorem gbw_of {G : gG} {S : gS} {k w : Int} (h : isBW G S k w) : gbw G S k = w := bw_uni (Classical.epsilon_spec (p := fun w => isBW G S k w) ⟨w, h⟩) h
theorem gbn_le {G : gG} {S : gS} (hg : hGok G) : gbn G S ≤ 60 := by
  have h1 := pct_le (P := fun w => gfi S w ≠ -1) (D := fun _ => inferInstance) (m := (2 * gE G).toNat)
  have := hg.2.2.2.1
  unfold gbn
  omega
theorem gbn_pos {G : gG} {S : gS} {c : Int} (hg : hGok G) (h : hI G S c) (h0 : 0 ≤ gnL S) : gbn G S = 0 ↔ nWh S 0 = 0 := by
  have hE := hg.2.2.1
  constructor
  · intro q
    have hn : ∀ i : Int, 0 ≤ i → i < (gnL S).toNat → ¬ glt S i 5 = 0 := by
      intro i i0 i1 i2
      have hw := (h_letW h i0 (by omega)).1
      have hf : gfi S (glt S i 1) ≠ -1 := by
        intro z
        rcases h_gfi (S := S) (w := glt S i 1) h0 with y | y
        · exact y.2 i i0 (by omega) ⟨i2, rfl⟩
        · omega
      have := pct_pos (P := fun w => gfi S w ≠ -1) (D := fun _ => inferInstance) (m := (2 * gE G).toNat) hw.1 (by have := hw.2; omega) hf
      unfold gbn at q
      omega
    unfold nWh
    rw [pct_ext (m := 0) (by omega) (fun i i0 i1 => hn i (by omega) i1)]
    rfl
  · intro q
    have hn : ∀ w : Int, 0 ≤ w → w < (2 * gE G).toNat → ¬ gfi S w ≠ -1 := by
      intro w w0 w1 w2
      rcases h_gfi (S := S) (w := w) h0 with y | y
      · exact w2 y.1
      · have := pct_pos (P := fun k => glt S k 5 = 0) (D := fun _ => inferInstance) (m := (gnL S).toNat) y.1 (by omega) y.2.2.1
        unfold nWh at q
        omega
    unfold gbn
    rw [pct_ext (m := 0) (by omega) (fun i i0 i1 => hn i (by omega) i1)]
    rfl
/-- the class's count of them, and the k-th -/
theorem q_bn {o : Nat} (h : cO o) {G : gG} {S : gS} {X : cX} {ν : ax_M} (hg : hGok G) (h0 : 0 ≤ gnL S) (hL : gnL S ≤ 256) (hx : XR G S X) (hν : cI o G S X ν) : aJ 1164 [.ref o] [] ν = some (some (.int (zI (gbn G S))), ν) := by
  have hE := hg.2.2.1
  have hE2 := hg.2.2.2.1
  have key : ∀ (m w : Nat), w + m = (2 * gE G).toNat → aJ 1165 [.ref o, .int (zI (pct (fun w => gfi S w ≠ -1) (fun _ => inferInstance) w)), .int (zI w)] [] ν = some (some (.int (zI (gbn G S))), ν) := by
    intro m
    induction m with
    | zero =>
      intro w hw
      rw [jl_1165 _ _ _ _ h]
      simp (disch := omega) only [q_wcnt hν h, z_b1, p_le]
      rw [if_pos (by omega), jl_1168]
      unfold gbn
      rw [show (2 * gE G).toNat = w by omega]
    | succ m ih =>
      intro w hw
      have ih' := ih (w + 1) (by omega)
      have h1 := hx.1 w (by omega) (by omega)
      have h2 := gfi_no (S := S) (w := w) h0
      have h3 := nOn_le (S := S) (w := w)
      have hp := pct_le (P := fun w => gfi S w ≠ -1) (D := fun _ => inferInstance) (m := w)
      simp only [pct] at ih'
      rw [jl_1165 _ _ _ _ h]
      simp (disch := omega) only [q_wcnt hν h, z_b1, p_le, q_oe hν h]
      rw [if_neg (by omega), h1, j_le rfl zl0 (zR_of (by omega)) (zR_of (by omega))]
      by_cases q : gfi S w = -1
      · have h4 := h2.mpr q
        rw [if_neg (fun z => z q)] at ih'
        rw [if_pos (by omega), jl_1166, jl_1167]
        simp only [zI_lit, zI_add]
        exact ih'
      · have h4 : ¬ nOn S w = 0 := fun z => q (h2.mp z)
        rw [if_pos q] at ih'
        rw [if_neg (by omega), jl_1167]
        simp only [zI_lit, zI_add]
        exact ih'
  rw [jl_1164]
  exact key (2 * gE G).toNat 0 (by omega)
theorem q_bw {o : Nat} (h : cO o) {G : gG} {S : gS} {X : cX} {ν : ax_M} (hg : hGok G) (h0 : 0 ≤ gnL S) (hL : gnL S ≤ 256) (hx : XR G S X) (hν : cI o G S X ν) {k : Int} (k0 : 0 ≤ k) (k1 : k < gbn G S) : ∃ w, isBW G S k w ∧ aJ 1169 [.ref o, .int (zI k)] [] ν = some (some (.int (zI w)), ν) := by
  have hE := hg.2.2.1
  have hE2 := hg.2.2.2.1
  have hb := gbn_le (S := S) hg
  have key : ∀ (m w : Nat), w + m = (2 * gE G).toNat → ((pct (fun w => gfi S w ≠ -1) (fun _ => inferInstance) w : Nat) : Int) ≤ k → ∃ v, isBW G S k v ∧ aJ 1170 [.ref o, .int (zI (k - (pct (fun w => gfi S w ≠ -1) (fun _ => inferInstance) w : Nat))), .int (zI w)] [] ν = some (some (.int (zI v)), ν) := by
    intro m
    induction m with
    | zero =>
      intro w hw hk
      exfalso
      unfold gbn at k1
      rw [show (2 * gE G).toNat = w by omega] at k1
      omega
    | succ m ih =>
      intro w hw hk
      have ih' := ih (w + 1) (by omega)
      have h1 := hx.1 w (by omega) (by omega)
      have h2 := gfi_no (S := S) (w := w) h0
      have h3 := nOn_le (S := S) (w := w)
      have hp := pct_le (P := fun w => gfi S w ≠ -1) (D := fun _ => inferInstance) (m := w)
      simp only [pct] at ih'
      by_cases q : gfi S w = -1
      · have h4 := h2.mpr q
        rw [if_neg (fun z => z q)] at ih'
        obtain ⟨v, v1, v2⟩ := ih' (by omega)
        refine ⟨v, v1, ?_⟩
        rw [jl_1170 _ _ _ _ h]
        simp (disch := omega) only [q_wcnt hν h, z_b1, p_le, q_oe hν h]
        rw [if_neg (by omega), h1, j_le rfl zl0 (zR_of (by omega)) (zR_of (by omega)), if_pos (by omega), jl_1172]
        simp only [zI_lit, zI_add]
        exact v2
      · have h4 : ¬ nOn S w = 0 := fun z => q (h2.mp z)
        rw [if_pos q] at ih'
        by_cases qk : ((pct (fun w => gfi S w ≠ -1) (fun _ => inferInstance) w : Nat) : Int) = k
        · refine ⟨w, ⟨by omega, by omega, q, by rw [Int.toNat_natCast]; exact qk⟩, ?_⟩
          rw [jl_1170 _ _ _ _ h]
          simp (disch := omega) only [q_wcnt hν h, z_b1, p_le, q_oe hν h]
          rw [if_neg (by omega), h1, j_le rfl zl0 (zR_of (by omega)) (zR_of (by omega)), if_neg (by omega), j_eq rfl zl0 (zR_of (by omega)) (zR_of (by omega)), if_pos (by omega)]
        · obtain ⟨v, v1, v2⟩ := ih' (by omega)
          refine ⟨v, v1, ?_⟩
          rw [jl_1170 _ _ _ _ h]
          simp (disch := omega) only [q_wcnt hν h, z_b1, p_le, q_oe hν h]
          rw [if_neg (by omega), h1, j_le rfl zl0 (zR_of (by omega)) (zR_of (by omega)), if_neg (by omega), j_eq rfl zl0 (zR_of (by omega)) (zR_of (by omega)), if_neg (by omega), jl_1171, jl_1172]
          simp only [zI_lit, zI_neg, zI_add]
          rw [show k - (pct (fun w => gfi S w ≠ -1) (fun _ => inferInstance) w : Nat) + -1 = k - ((pct (fun w => gfi S w ≠ -1) (fun _ => inferInstance) w + 1 : Nat) : Int) by omega]
          exact v2
  obtain ⟨v, v1, v2⟩ := key (2 * gE G).toNat 0 (by omega) (by simp only [pct]; omega)
  refine ⟨v, v1, ?_⟩
  rw [jl_1169]
  simp only [pct] at v2
  rw [show k - ((0 : Nat) : Int) = k by omega] at v2
  exact v2
/-! the reference's heads -/
def hdI (S : gS) (f : Int → Int) (j : Int) : Prop := ∀ w, 0 ≤ w → w < 60 → (f w = -1 ∧ ∀ i, j ≤ i → i < gnL S → ¬ onW S w i) ∨ (j ≤ f w ∧ f w < gnL S ∧ onW S w (f w) ∧ ∀ i, j ≤ i → i < f w → ¬ onW S w i)
theorem hd_gfi {S : gS} {f : Int → Int} (h0 : 0 ≤ gnL S) (h : hdI S f 0) {w : Int} (w0 : 0 ≤ w) (w1 : w < 60) : f w = gfi S w := by
  rcases h_gfi (S := S) (w := w) h0 with y | y
  · rcases h w w0 w1 with z | z
    · rw [z.1, y.1]
    · exact absurd z.2.2.1 (y.2 _ z.1 z.2.1)
  · rcases h w w0 w1 with z | z
    · exact absurd ⟨y.2.2.1, y.2.2.2.1⟩ (z.2 _ y.1 y.2.1)
    · rcases Int.lt_trichotomy (f w) (gfi S w) with c | c | c
      · exact absurd z.2.2.1 (y.2.2.2.2 _ z.1 c)
      · exact c
      · exact absurd ⟨y.2.2.1, y.2.2.2.1⟩ (z.2.2.2 _ y.1 c)
theorem q_lh {G : gG} {S : gS} {ν : ax_M} (hg : hGok G) (hi : hI G S 0) (hν : mI G S ν) : ∃ ν', aJ 303 [.ref 207] [] ν = some (none, ν') ∧ rP ν' 223 60 (gfi S) ∧ fr [223] ν ν' := by
  have hcn := h_cnt hg hi (by omega)
  have hE2 := hg.2.2.2.1
  have fill : ∀ (m : Nat) (w : Int) (ν : ax_M), 0 ≤ w → w + m = 60 → rP ν 223 w (fun _ => -1) → ∃ ν', aJ 304 [.ref 207, .int (zI w)] [] ν = aJ 305 [.ref 207] [] ν' ∧ rP ν' 223 60 (fun _ => -1) ∧ fr [223] ν ν' := by
    intro m
    induction m with
    | zero =>
      intro w ν w0 w1 h
      refine ⟨ν, ?_, by rw [show (60 : Int) = w by omega]; exact h, frz⟩
      rw [jl_304]
      simp (disch := omega) only [zI_lit, p_le]
      rw [if_pos (by omega)]
    | succ m ih =>
      intro w ν w0 w1 h
      have hp := rP_push (v := -1) h w0
      rw [pu_self rfl] at hp
      obtain ⟨ν', e1, e2, e3⟩ := ih (w + 1) _ (by omega) (by omega) hp
      refine ⟨ν', ?_, e2, frt (fru (by decide)) e3⟩
      rw [jl_304]
      simp (disch := omega) only [zI_lit, p_le, zI_neg, st_223, z_bo, zI_add]
      rw [if_neg (by omega)]
      exact e1
  have lay : ∀ (m : Nat) (j : Int) (ν : ax_M) (f : Int → Int), j + 1 = m → j < gnL S → mI G S ν → rP ν 223 60 f → hdI S f (j + 1) → ∃ ν' f', aJ 306 [.ref 207, .int (zI j)] [] ν = some (none, ν') ∧ rP ν' 223 60 f' ∧ hdI S f' 0 ∧ fr [223] ν ν' := by
    intro m
    induction m with
    | zero =>
      intro j ν f j0 j1 hν h hh
      refine ⟨ν, f, ?_, h, by rw [show (0 : Int) = j + 1 by omega]; exact hh, frz⟩
      rw [jl_306]
      simp (disch := omega) only [zI_lit, p_lt]
      rw [if_pos (by omega), jl_308]
    | succ m ih =>
      intro j ν f j0 j1 hν h hh
      have hw := (h_letW hi (j := j) (by omega) j1).1
      have hw0 := hw.1
      have hw1 := hw.2
      have hj5 := (h_letW hi (j := j) (by omega) j1).2.1
      by_cases q : glt S j 5 = 0
      · have hf : fr [223] ν (ax_up ν.1 223 (glt S j 1).toNat (zI j), ν.2) := fru (by decide)
        obtain ⟨ν', f', e1, e2, e3, e4⟩ := ih (j - 1) _ (pu f (glt S j 1) j) (by omega) (by omega) (mI_fr hf (by decide) hν) (rP_up h hw0) (by
          intro w w0 w1
          rw [show j - 1 + 1 = j by omega]
          by_cases c : w = glt S j 1
          · right
            rw [c, pu_at]
            exact ⟨by omega, j1, ⟨q, rfl⟩, fun i i0 i1 => by omega⟩
          · rw [pu_ne c]
            have hno : ¬ onW S w j := fun z => c z.2.symm
            rcases hh w w0 w1 with z | z
            · left
              refine ⟨z.1, fun i i0 i1 => ?_⟩
              by_cases ci : i = j
              · rw [ci]; exact hno
              · exact z.2 i (by omega) i1
            · right
              refine ⟨by omega, z.2.1, z.2.2.1, fun i i0 i1 => ?_⟩
              by_cases ci : i = j
              · rw [ci]; exact hno
              · exact z.2.2.2 i (by omega) i1)
        refine ⟨ν', f', ?_, e2, e3, frt hf e4⟩
        rw [jl_306]
        simp (disch := omega) only [zI_lit, p_lt, q_lt hν (show gnL S ≤ 256 by omega), z_b1, p_eq, st_223, z_bo, jl_307, zI_neg, zI_add]
        rw [if_neg (by omega), if_pos q]
        exact e1
      · obtain ⟨ν', f', e1, e2, e3, e4⟩ := ih (j - 1) ν f (by omega) (by omega) hν h (by
          intro w w0 w1
          rw [show j - 1 + 1 = j by omega]
          have hno : ¬ onW S w j := fun z => q z.1
          rcases hh w w0 w1 with z | z
          · left
            refine ⟨z.1, fun i i0 i1 => ?_⟩
            by_cases ci : i = j
            · rw [ci]; exact hno
            · exact z.2 i (by omega) i1
          · right
            refine ⟨by omega, z.2.1, z.2.2.1, fun i i0 i1 => ?_⟩
            by_cases ci : i = j
            · rw [ci]; exact hno
            · exact z.2.2.2 i (by omega) i1)
        refine ⟨ν', f', ?_, e2, e3, e4⟩
        rw [jl_306]
        simp (disch := omega) only [zI_lit, p_lt, q_lt hν (show gnL S ≤ 256 by omega), z_b1, p_eq, jl_307, zI_neg, zI_add]
        rw [if_neg (by omega), if_neg q]
        exact e1
  obtain ⟨ν1, a1, a2, a3⟩ := fill 60 0 ν (by omega) (by omega) (fun i i0 i1 => by omega)
  have hν1 := mI_fr a3 (by decide) hν
  obtain ⟨ν2, f', b1, b2, b3, b4⟩ := lay (gnL S).toNat (gnL S - 1) ν1 (fun _ => -1) (by omega) (by omega) hν1 a2 (fun w _ _ => Or.inl ⟨rfl, fun i i0 i1 => by omega⟩)
  refine ⟨ν2, ?_, rP_mono b2 (Int.le_refl _) (fun i i0 i1 => hd_gfi hcn.1 b3 i0 i1), frt a3 b4⟩
  rw [jl_303, show (0 : Int32) = zI 0 from rfl, a1, jl_305]
  simp (disch := omega) only [zI_lit, q_rL hν1, z_bo, zI_sub]
  exact b1
theorem q_rbn {G : gG} {S : gS} {ν : ax_M} (hg : hGok G) (hi : hI G S 0) (hν : mI G S ν) : ∃ ν', aJ 573 [.ref 207] [] ν = some (some (.int (zI (gbn G S))), ν') ∧ rP ν' 223 60 (gfi S) ∧ fr [223] ν ν' := by
  have hE := hg.2.2.1
  have hE2 := hg.2.2.2.1
  have hcn := h_cnt hg hi (by omega)
  obtain ⟨ν1, a1, a2, a3⟩ := q_lh hg hi hν
  have hν1 := mI_fr a3 (by decide) hν
  have key : ∀ (m w : Nat), w + m = (2 * gE G).toNat → aJ 574 [.ref 207, .int (zI (pct (fun w => gfi S w ≠ -1) (fun _ => inferInstance) w)), .int (zI w)] [] ν1 = some (some (.int (zI (gbn G S))), ν1) := by
    intro m
    induction m with
    | zero =>
      intro w hw
      rw [jl_574]
      simp (disch := omega) only [zI_lit, q_rE hν1, z_bo, zI_mul, p_le]
      rw [if_pos (by omega), jl_576]
      unfold gbn
      rw [show (2 * gE G).toNat = w by omega]
    | succ m ih =>
      intro w hw
      have ih' := ih (w + 1) (by omega)
      have hr : -1 ≤ gfi S w ∧ gfi S w < 256 := by rcases h_gfi (S := S) (w := w) hcn.1 with y | y <;> omega
      simp only [pct] at ih'
      rw [jl_574]
      simp (disch := omega) only [zI_lit, q_rE hν1, z_bo, zI_mul, p_le, ld_223, rP_at a2, zI_neg, p_eq, jl_575, zI_add]
      rw [if_neg (by omega)]
      by_cases q : gfi S w = -1
      · rw [if_neg (fun z => z q)] at ih'
        rw [if_pos q]
        exact ih'
      · rw [if_pos q] at ih'
        rw [if_neg q]
        exact ih'
  refine ⟨ν1, ?_, a2, a3⟩
  rw [jl_573, a1, z_b0]
  exact key (2 * gE G).toNat 0 (by omega)
/-- the first letter of a way that is drawn is taken -/
theorem q_rtd {G : gG} {S : gS} {ν : ax_M} (hg : hGok G) (hw : hGw G) (hv : hV G S) (hν : mI G S ν) (hq : nWh S 0 ≠ 0) : ∃ ν', aJ 577 [.ref 207] [] ν = some (none, ν') ∧ mI G (hta G S (gbw G S (gpk (gst (ν.1 207 32)) (gbn G S)))).2 ν' ∧ ν'.1 207 32 = gst (ν.1 207 32) ∧ (∀ k, k ≠ 32 → ν'.1 207 k = ν.1 207 k) ∧ fr [207, 209, 223] ν ν' ∧ bgR ν ν' ∧ gfi S (gbw G S (gpk (gst (ν.1 207 32)) (gbn G S))) ≠ -1 := by
  have hE := hg.2.2.1
  have hE2 := hg.2.2.2.1
  have hcn := h_cnt hg hv.1 (by omega)
  have hb := gbn_le (S := S) hg
  have hbp : 0 < gbn G S := by
    have := gbn_pos hg hv.1 hcn.1
    omega
  obtain ⟨ν1, a1, a2, a3⟩ := q_rbn hg hv.1 hν
  have e32 : ν1.1 207 32 = ν.1 207 32 := fr_at a3 (by decide) 32
  have hd := q_draw (ν := ν1) (n := gbn G S) (by omega) (by omega)
  rw [e32] at hd
  have hk := gpk_r (gst (ν.1 207 32)) (n := gbn G S) (by omega)
  generalize gpk (gst (ν.1 207 32)) (gbn G S) = k at hk hd ⊢
  have f2 : fr [207] ν1 (ax_uD ν1 207 32 (gst (ν.1 207 32))) := fr_uD (by decide)
  have a2' := fr_rP f2 (by decide) a2
  have hν2 := mI_fr f2 (by decide) (mI_fr a3 (by decide) hν)
  have g32 : (ax_uD ν1 207 32 (gst (ν.1 207 32))).1 207 32 = gst (ν.1 207 32) := uD_at
  have gne : ∀ k, k ≠ 32 → (ax_uD ν1 207 32 (gst (ν.1 207 32))).1 207 k = ν.1 207 k := fun k q => (uD_nk q 207).trans (fr_at a3 (by decide) k)
  generalize ax_uD ν1 207 32 (gst (ν.1 207 32)) = ν2 at *
  have key : ∀ (m w : Nat), w + m = (2 * gE G).toNat → ((pct (fun w => gfi S w ≠ -1) (fun _ => inferInstance) w : Nat) : Int) ≤ k → ∃ v, isBW G S k v ∧ aJ 578 [.ref 207, .int (zI (k - (pct (fun w => gfi S w ≠ -1) (fun _ => inferInstance) w : Nat))), .int (zI w)] [] ν2 = aJ 581 [.ref 207, .int (zI v)] [] ν2 := by
    intro m
    induction m with
    | zero =>
      intro w hw hk2
      exfalso
      have h1 := hk.2
      unfold gbn at h1
      rw [show (2 * gE G).toNat = w by omega] at h1
      omega
    | succ m ih =>
      intro w hw hk2
      have ih' := ih (w + 1) (by omega)
      have hr : -1 ≤ gfi S w ∧ gfi S w < 256 := by rcases h_gfi (S := S) (w := w) hcn.1 with y | y <;> omega
      simp only [pct] at ih'
      by_cases q : gfi S w = -1
      · rw [if_neg (fun z => z q)] at ih'
        obtain ⟨v, v1, v2⟩ := ih' (by omega)
        refine ⟨v, v1, ?_⟩
        rw [jl_578]
        simp (disch := omega) only [zI_lit, ld_223, rP_at a2', zI_neg, z_bo, p_eq]
        rw [if_pos q, jl_579]
        simp (disch := omega) only [zI_lit, ld_223, rP_at a2', zI_neg, z_bo, p_eq]
        rw [if_pos q, jl_580]
        simp only [zI_lit, zI_add]
        exact v2
      · rw [if_pos q] at ih'
        by_cases qk : ((pct (fun w => gfi S w ≠ -1) (fun _ => inferInstance) w : Nat) : Int) = k
        · refine ⟨w, ⟨by omega, by omega, q, by rw [Int.toNat_natCast]; exact qk⟩, ?_⟩
          rw [jl_578]
          simp (disch := omega) only [zI_lit, ld_223, rP_at a2', zI_neg, z_bo, p_eq, p_le]
          rw [if_neg q, if_pos (by omega)]
        · obtain ⟨v, v1, v2⟩ := ih' (by omega)
          refine ⟨v, v1, ?_⟩
          rw [jl_578]
          simp (disch := omega) only [zI_lit, ld_223, rP_at a2', zI_neg, z_bo, p_eq, p_le]
          rw [if_neg q, if_neg (by omega), jl_579]
          simp (disch := omega) only [zI_lit, ld_223, rP_at a2', zI_neg, z_bo, p_eq]
          rw [if_neg q, jl_580]
          simp only [zI_lit, zI_add]
          rw [show k - (pct (fun w => gfi S w ≠ -1) (fun _ => inferInstance) w : Nat) + -1 = k - ((pct (fun w => gfi S w ≠ -1) (fun _ => inferInstance) w + 1 : Nat) : Int) by omega]
          exact v2
  obtain ⟨v, v1, v2⟩ := key (2 * gE G).toNat 0 (by omega) (by simp only [pct]; omega)
  simp only [pct] at v2
  rw [show k - ((0 : Nat) : Int) = k by omega] at v2
  rw [gbw_of v1]
  obtain ⟨ν3, c1, c2, c3, c4⟩ := q_rta hg hw hv hν2 v1.2.2.1
  refine ⟨ν3, ?_, c2, (fr_at c3 (by decide) 32).trans g32, fun k q => (fr_at c3 (by decide) k).trans (gne k q), frt (frm a3 (by simp)) (frt (frm f2 (by simp)) (frm c3 (by simp))), bgt (bgf a3 (by decide)) (bgt (bgf f2 (by decide)) c4), v1.2.2.1⟩
  rw [jl_577, a1, z_b1, hd, z_b1, show (0 : Int32) = zI ((0 : Nat) : Int) from rfl, v2, jl_581, c1, z_b1]
