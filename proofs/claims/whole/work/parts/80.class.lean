/-! c: the class's rows: at, put; the shapes of a run's cells -/
theorem ofNat_zI (n : Nat) : Int32.ofNat n = zI n := (Int32.ofInt_eq_ofNat).symm
theorem c_at {a len : Nat} {i : Int} {μ : ax_M} (h : (ax_sh a).1 = 1 ∧ (ax_sh a).2.1 = len) (hl : len ≤ 100000) (h0 : 0 ≤ i) (h1 : i < len) : aJ 846 [.ref a, .int (zI i)] [] μ = some (some (.int (μ.1 a i.toNat)), μ) := by
  have hi : zR i := zR_of (by omega)
  rw [jl_846, j_lt rfl zl0 hi (zR_of (by omega)), if_neg (by omega), if_pos (by omega), h.2, j_le (ofNat_zI len) rfl (zR_of (by omega)) hi, if_neg (by omega), z_ld h h0 h1 (by omega), z_bo, jl_848]
theorem c_at_out {a len : Nat} {i : Int} {μ : ax_M} (h : (ax_sh a).1 = 1 ∧ (ax_sh a).2.1 = len) (hl : len ≤ 100000) (hi : zR i) (h0 : i < 0 ∨ len ≤ i) : aJ 846 [.ref a, .int (zI i)] [] μ = some (some (.int (-1)), μ) := by
  rw [jl_846, j_lt rfl zl0 hi (zR_of (by omega))]
  by_cases q : i < 0
  · rw [if_pos q, jl_847, jl_848]
  · rw [if_neg q, if_pos (by omega), h.2, j_le (ofNat_zI len) rfl (zR_of (by omega)) hi, if_pos (by omega), jl_847, jl_848]
theorem c_put {a len : Nat} {i : Int} {x : Int32} {μ : ax_M} (h : (ax_sh a).1 = 1 ∧ (ax_sh a).2.1 = len) (hl : len ≤ 100000) (h0 : 0 ≤ i) (h1 : i < len) : aJ 849 [.ref a, .int (zI i), .int x] [] μ = some (none, (ax_up μ.1 a i.toNat x, μ.2)) := by
  have hi : zR i := zR_of (by omega)
  rw [jl_849, j_lt rfl zl0 hi (zR_of (by omega)), if_neg (by omega), if_pos (by omega), h.2, j_le (ofNat_zI len) rfl (zR_of (by omega)) hi, if_neg (by omega), z_st h h0 h1 (by omega), z_bo, jl_850]
theorem c_put_out {a len : Nat} {i : Int} {x : Int32} {μ : ax_M} (h : (ax_sh a).1 = 1 ∧ (ax_sh a).2.1 = len) (hl : len ≤ 100000) (hi : zR i) (h0 : i < 0 ∨ len ≤ i) : aJ 849 [.ref a, .int (zI i), .int x] [] μ = some (none, μ) := by
  rw [jl_849, j_lt rfl zl0 hi (zR_of (by omega))]
  by_cases q : i < 0
  · rw [if_pos q, jl_850]
  · rw [if_neg q, if_pos (by omega), h.2, j_le (ofNat_zI len) rfl (zR_of (by omega)) hi, if_pos (by omega), jl_850]
/-- run, trial -/
def cO (o : Nat) : Prop := o = 29 ∨ o = 40
theorem sh_1 {o : Nat} (h : cO o) : (ax_sh (o + 1)).1 = 1 ∧ (ax_sh (o + 1)).2.1 = 30 := by rcases h with rfl | rfl <;> decide
theorem sh_2 {o : Nat} (h : cO o) : (ax_sh (o + 2)).1 = 1 ∧ (ax_sh (o + 2)).2.1 = 132 := by rcases h with rfl | rfl <;> decide
theorem sh_3 {o : Nat} (h : cO o) : (ax_sh (o + 3)).1 = 1 ∧ (ax_sh (o + 3)).2.1 = 60 := by rcases h with rfl | rfl <;> decide
theorem sh_4 {o : Nat} (h : cO o) : (ax_sh (o + 4)).1 = 1 ∧ (ax_sh (o + 4)).2.1 = 2048 := by rcases h with rfl | rfl <;> decide
theorem sh_5 {o : Nat} (h : cO o) : (ax_sh (o + 5)).1 = 1 ∧ (ax_sh (o + 5)).2.1 = 60 := by rcases h with rfl | rfl <;> decide
theorem sh_6 {o : Nat} (h : cO o) : (ax_sh (o + 6)).1 = 1 ∧ (ax_sh (o + 6)).2.1 = 60 := by rcases h with rfl | rfl <;> decide
theorem sh_7 {o : Nat} (h : cO o) : (ax_sh (o + 7)).1 = 1 ∧ (ax_sh (o + 7)).2.1 = 60 := by rcases h with rfl | rfl <;> decide
theorem sh_8 {o : Nat} (h : cO o) : (ax_sh (o + 8)).1 = 1 ∧ (ax_sh (o + 8)).2.1 = 60 := by rcases h with rfl | rfl <;> decide
theorem sh_9 {o : Nat} (h : cO o) : (ax_sh (o + 9)).1 = 1 ∧ (ax_sh (o + 9)).2.1 = 256 := by rcases h with rfl | rfl <;> decide
theorem sh_10 {o : Nat} (h : cO o) : (ax_sh (o + 10)).1 = 1 ∧ (ax_sh (o + 10)).2.1 = 7 := by rcases h with rfl | rfl <;> decide
theorem sh_s : (ax_sh 6).1 = 1 ∧ (ax_sh 6).2.1 = 60 := by decide
/-! a run's rows as a picture of a state S and what goes with it: X = first, last, on each way; after; waiting; sent of each kind; waiting at each node; (on ways, waiting, handled, deepest) -/
abbrev cX : Type := (Int → Int) × (Int → Int) × (Int → Int) × (Int → Int) × (Int → Int) × (Int → Int) × (Int → Int) × Int × Int × Int × Int
def xfo (X : cX) : Int → Int := X.1
def xlo (X : cX) : Int → Int := X.2.1
def xoe (X : cX) : Int → Int := X.2.2.1
def xaf (X : cX) : Int → Int := X.2.2.2.1
def xwl (X : cX) : Int → Int := X.2.2.2.2.1
def xso (X : cX) : Int → Int := X.2.2.2.2.2.1
def xwn (X : cX) : Int → Int := X.2.2.2.2.2.2.1
def xow (X : cX) : Int := X.2.2.2.2.2.2.2.1
def xwc (X : cX) : Int := X.2.2.2.2.2.2.2.2.1
def xhd (X : cX) : Int := X.2.2.2.2.2.2.2.2.2.1
def xdp (X : cX) : Int := X.2.2.2.2.2.2.2.2.2.2
/-- a run's fields -/
def cF (S : gS) (X : cX) (b : Nat → Int32) (k : Nat) : Int32 :=
  if k = 11 then zI (gnL S) else if k = 12 then zI (xow X) else if k = 13 then zI (xwc X) else if k = 14 then zI (xhd X) else if k = 15 then zI (gdf S) else if k = 16 then zI (xdp X) else if k = 17 then zI (grd S) else b k
/-- a run's rows, by place -/
def cW (G : gG) (b : Nat → Int32) (i : Nat) : Int32 := if (i : Int) < 30 ∧ gwt G i ≠ 0 then zI (gwt G i) else b i
def cN (S : gS) (X : cX) (b : Nat → Int32) (i : Nat) : Int32 :=
  if (i : Int) < 132 then (if (i : Int) % 11 = 9 then zI (xwn X ((i : Int) / 11)) else if (i : Int) % 11 = 10 then zI (gnd S ((i : Int) / 11) 9) else zI (gnd S ((i : Int) / 11) ((i : Int) % 11))) else b i
def cR (f : Int → Int) (n : Int) (b : Nat → Int32) (i : Nat) : Int32 := if (i : Int) < n then zI (f i) else b i
def cL (S : gS) (X : cX) (b : Nat → Int32) (i : Nat) : Int32 :=
  if (i : Int) / 8 < gnL S then (if (i : Int) % 8 = 7 then zI (xaf X ((i : Int) / 8)) else zI (glt S ((i : Int) / 8) ((i : Int) % 8))) else b i
/-- the net's -/
def cG (G : gG) (b : Nat → Int32) (k : Nat) : Int32 := if k = 0 then zI (gN G) else if k = 1 then zI (gE G) else b k
def cM (o : Nat) (G : gG) (S : gS) (X : cX) (μ : ax_M) : ax_M :=
  (fun a k => if a = 3 then cG G (μ.1 3) k else if a = 6 then cR (gsd G) (2 * gE G) (μ.1 6) k
    else if a = o then cF S X (μ.1 o) k else if a = o + 1 then cW G (μ.1 (o + 1)) k else if a = o + 2 then cN S X (μ.1 (o + 2)) k
    else if a = o + 3 then cR (gen S) 60 (μ.1 (o + 3)) k else if a = o + 4 then cL S X (μ.1 (o + 4)) k else if a = o + 5 then cR (xfo X) 60 (μ.1 (o + 5)) k
    else if a = o + 6 then cR (xlo X) 60 (μ.1 (o + 6)) k else if a = o + 7 then cR (xoe X) 60 (μ.1 (o + 7)) k
    else if a = o + 9 then cR (xwl X) (xwc X) (μ.1 (o + 9)) k else if a = o + 10 then cR (xso X) 7 (μ.1 (o + 10)) k else μ.1 a k, μ.2)
theorem cM_3 {o : Nat} (h : cO o) {G : gG} {S : gS} {X : cX} {μ : ax_M} {k : Nat} : (cM o G S X μ).1 3 k = cG G (μ.1 3) k := by simp [cM]
theorem cM_6 {o : Nat} (h : cO o) {G : gG} {S : gS} {X : cX} {μ : ax_M} {k : Nat} : (cM o G S X μ).1 6 k = cR (gsd G) (2 * gE G) (μ.1 6) k := by simp [cM]
theorem cM_o {o : Nat} (h : cO o) {G : gG} {S : gS} {X : cX} {μ : ax_M} {k : Nat} : (cM o G S X μ).1 o k = cF S X (μ.1 o) k := by rcases h with rfl | rfl <;> simp [cM]
theorem cM_1 {o : Nat} (h : cO o) {G : gG} {S : gS} {X : cX} {μ : ax_M} {k : Nat} : (cM o G S X μ).1 (o + 1) k = cW G (μ.1 (o + 1)) k := by rcases h with rfl | rfl <;> simp [cM]
theorem cM_2 {o : Nat} (h : cO o) {G : gG} {S : gS} {X : cX} {μ : ax_M} {k : Nat} : (cM o G S X μ).1 (o + 2) k = cN S X (μ.1 (o + 2)) k := by rcases h with rfl | rfl <;> simp [cM]
theorem cM_e {o : Nat} (h : cO o) {G : gG} {S : gS} {X : cX} {μ : ax_M} {k : Nat} : (cM o G S X μ).1 (o + 3) k = cR (gen S) 60 (μ.1 (o + 3)) k := by rcases h with rfl | rfl <;> simp [cM]
theorem cM_4 {o : Nat} (h : cO o) {G : gG} {S : gS} {X : cX} {μ : ax_M} {k : Nat} : (cM o G S X μ).1 (o + 4) k = cL S X (μ.1 (o + 4)) k := by rcases h with rfl | rfl <;> simp [cM]
theorem cM_5 {o : Nat} (h : cO o) {G : gG} {S : gS} {X : cX} {μ : ax_M} {k : Nat} : (cM o G S X μ).1 (o + 5) k = cR (xfo X) 60 (μ.1 (o + 5)) k := by rcases h with rfl | rfl <;> simp [cM]
theorem cM_l {o : Nat} (h : cO o) {G : gG} {S : gS} {X : cX} {μ : ax_M} {k : Nat} : (cM o G S X μ).1 (o + 6) k = cR (xlo X) 60 (μ.1 (o + 6)) k := by rcases h with rfl | rfl <;> simp [cM]
theorem cM_7 {o : Nat} (h : cO o) {G : gG} {S : gS} {X : cX} {μ : ax_M} {k : Nat} : (cM o G S X μ).1 (o + 7) k = cR (xoe X) 60 (μ.1 (o + 7)) k := by rcases h with rfl | rfl <;> simp [cM]
theorem cM_9 {o : Nat} (h : cO o) {G : gG} {S : gS} {X : cX} {μ : ax_M} {k : Nat} : (cM o G S X μ).1 (o + 9) k = cR (xwl X) (xwc X) (μ.1 (o + 9)) k := by rcases h with rfl | rfl <;> simp [cM]
theorem cM_10 {o : Nat} (h : cO o) {G : gG} {S : gS} {X : cX} {μ : ax_M} {k : Nat} : (cM o G S X μ).1 (o + 10) k = cR (xso X) 7 (μ.1 (o + 10)) k := by rcases h with rfl | rfl <;> simp [cM]
