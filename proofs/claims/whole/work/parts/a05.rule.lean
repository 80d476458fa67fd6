/-! k: a RULE, in numbers: how many lines; of a line its word (the class's), whether it's late, how many conditions, their words and values -/
abbrev gR : Type := Int × (Int → Int) × (Int → Int) × (Int → Int) × (Int → Int → Int) × (Int → Int → Int)
def rLn (R : gR) : Int := R.1
def rWd (R : gR) : Int → Int := R.2.1
def rLa (R : gR) : Int → Int := R.2.2.1
def rCn (R : gR) : Int → Int := R.2.2.2.1
def rCw (R : gR) : Int → Int → Int := R.2.2.2.2.1
def rCv (R : gR) : Int → Int → Int := R.2.2.2.2.2
def rok (R : gR) : Prop := (0 ≤ rLn R ∧ rLn R ≤ 10) ∧ ∀ i, 0 ≤ i → i < rLn R → (0 ≤ rWd R i ∧ rWd R i ≤ 13) ∧ (rLa R i = 0 ∨ rLa R i = 1) ∧ (0 ≤ rCn R i ∧ rCn R i ≤ 4) ∧ ∀ c, 0 ≤ c → c < rCn R i → (15 ≤ rCw R i c ∧ rCw R i c ≤ 18) ∧ (0 ≤ rCv R i c ∧ rCv R i c ≤ 99)
/-- does a condition hold of the first letter of a way -/
def ghl (G : gG) (S : gS) (w cw v : Int) : Bool := if cw = 15 then decide (gsd G w = v) else if cw = 16 then decide (grc G w = v) else if cw = 17 then decide (glt S (gfi S w) 2 = v) else decide (v < gwt G (w / 2))
def gmC (G : gG) (S : gS) (R : gR) (i w : Int) : Nat → Bool
  | 0 => true
  | c + 1 => gmC G S R i w c && ghl G S w (rCw R i c) (rCv R i c)
def gmt (G : gG) (S : gS) (R : gR) (i w : Int) : Bool := decide (rWd R i = 7 ∨ rWd R i = glt S (gfi S w) 0) && gmC G S R i w (rCn R i).toNat
/-- the grade of a way by a line -/
def ggr (G : gG) (S : gS) (R : gR) (i w : Int) : Int :=
  if rWd R i = 8 then gfi S w else if rWd R i = 9 then -gfi S w
  else if rWd R i = 10 then gwt G (w / 2) * 30 + w / 2 else if rWd R i = 11 then -(gwt G (w / 2) * 30 + w / 2)
  else if rWd R i = 12 then glt S (gfi S w) 2 else if rWd R i = 13 then -glt S (gfi S w) 2
  else if gmt G S R i w = decide (rLa R i = 0) then 0 else 1
/-- the ways that are left by the lines ahead of i -/
def gLf (G : gG) (S : gS) (R : gR) : Nat → Int → Prop
  | 0, w => 0 ≤ w ∧ w < 2 * gE G ∧ gfi S w ≠ -1
  | i + 1, w => gLf G S R i w ∧ ∀ v, gLf G S R i v → ggr G S R i w ≤ ggr G S R i v
def isCh (G : gG) (S : gS) (R : gR) (w : Int) : Prop := (w = -1 ∧ ∀ v, ¬ gLf G S R (rLn R).toNat v) ∨ (gLf G S R (rLn R).toNat w ∧ ∀ v, gLf G S R (rLn R).toNat v → w ≤ v)
theorem lf_r {G : gG} {S : gS} {R : gR} : ∀ (i : Nat) {w : Int}, gLf G S R i w → 0 ≤ w ∧ w < 2 * gE G ∧ gfi S w ≠ -1 := by
  intro i
  induction i with
  | zero => exact fun h => h
  | succ i ih => exact fun h => ih h.1
theorem ch_uni {G : gG} {S : gS} {R : gR} {w w' : Int} (h : isCh G S R w) (h' : isCh G S R w') : w = w' := by
  rcases h with h | h <;> rcases h' with h' | h'
  · rw [h.1, h'.1]
  · exact absurd h'.1 (h.2 _)
  · exact absurd h.1 (h'.2 _)
  · have a := h.2 _ h'.1
    have b := h'.2 _ h.1
    omega
noncomputable def gch' (G : gG) (S : gS) (R : gR) : Int := Classical.epsilon (fun w => isCh G S R w)
theorem ch_of {G : gG} {S : gS} {R : gR} {w : Int} (h : isCh G S R w) : gch' G S R = w := ch_uni (Classical.epsilon_spec (p := fun w => isCh G S R w) ⟨w, h⟩) h
/-- a row enumerates the ways of a set, by number -/
def gEn (P : Int → Prop) (n : Int) (f : Int → Int) : Prop := 0 ≤ n ∧ (∀ i, 0 ≤ i → i < n → P (f i)) ∧ (∀ i j, 0 ≤ i → i < j → j < n → f i < f j) ∧ ∀ w, P w → ∃ i, 0 ≤ i ∧ i < n ∧ f i = w
theorem en_le {P : Int → Prop} {n : Int} {f : Int → Int} {b : Int} (h : gEn P n f) (hb : ∀ w, P w → 0 ≤ w ∧ w < b) (b0 : 0 ≤ b) : n ≤ b := by
  obtain ⟨h0, h1, h2, _⟩ := h
  have key : ∀ m : Nat, (m : Int) < n → (m : Int) ≤ f m := by
    intro m
    induction m with
    | zero =>
      intro hm
      have := (hb _ (h1 0 (by omega) hm)).1
      exact this
    | succ m ih =>
      intro hm
      have a := ih (by omega)
      have c := h2 m (m + 1) (by omega) (by omega) (by omega)
      show ((m + 1 : Nat) : Int) ≤ f ((m + 1 : Nat) : Int)
      rw [show ((m + 1 : Nat) : Int) = (m : Int) + 1 by omega]
      omega
  by_cases q : 0 < n
  · have a := key (n - 1).toNat (by omega)
    have c := (hb _ (h1 (((n - 1).toNat : Nat) : Int) (by omega) (by omega))).2
    omega
  · omega
theorem en_nil {P : Int → Prop} {f : Int → Int} (h : ∀ w, ¬ P w) : gEn P 0 f := ⟨Int.le_refl _, fun i i0 i1 => by omega, fun i j i0 i1 i2 => by omega, fun w hw => absurd hw (h w)⟩
theorem en_push {P Q : Int → Prop} {n w : Int} {f : Int → Int} (h : gEn P n f) (hQ : ∀ v, Q v ↔ (P v ∨ v = w)) (hl : ∀ v, P v → v < w) : gEn Q (n + 1) (pu f n w) := by
  obtain ⟨h0, h1, h2, h3⟩ := h
  refine ⟨by omega, ?_, ?_, ?_⟩
  · intro i i0 i1
    by_cases q : i = n
    · rw [q, pu_at]
      exact (hQ w).mpr (Or.inr rfl)
    · rw [pu_ne q]
      exact (hQ _).mpr (Or.inl (h1 i i0 (by omega)))
  · intro i j i0 ij j1
    by_cases q : j = n
    · rw [q, pu_at, pu_ne (by omega)]
      exact hl _ (h1 i i0 (by omega))
    · rw [pu_ne q, pu_ne (by omega)]
      exact h2 i j i0 ij (by omega)
  · intro v hv
    rcases (hQ v).mp hv with q | q
    · obtain ⟨i, i0, i1, i2⟩ := h3 v q
      exact ⟨i, i0, by omega, by rw [pu_ne (by omega)]; exact i2⟩
    · exact ⟨n, h0, by omega, by rw [pu_at]; exact q.symm⟩
theorem en_congr {P Q : Int → Prop} {n : Int} {f : Int → Int} (h : gEn P n f) (hQ : ∀ v, Q v ↔ P v) : gEn Q n f := ⟨h.1, fun i i0 i1 => (hQ _).mpr (h.2.1 i i0 i1), h.2.2.1, fun w hw => h.2.2.2 w ((hQ w).mp hw)⟩
/-- a Rule object of the class -/
def kP (b : Nat) (R : gR) (ν : ax_M) : Prop := ν.1 b 0 = zI (rLn R) ∧ rP ν (b + 1) (rLn R) (rWd R) ∧ rP ν (b + 2) (rLn R) (rLa R) ∧ rP ν (b + 3) (rLn R) (rCn R) ∧ (∀ i c, 0 ≤ i → i < rLn R → 0 ≤ c → c < rCn R i → ν.1 (b + 4) (i * 4 + c).toNat = zI (rCw R i c)) ∧ (∀ i c, 0 ≤ i → i < rLn R → 0 ≤ c → c < rCn R i → ν.1 (b + 5) (i * 4 + c).toNat = zI (rCv R i c))
theorem kP_fr {b : Nat} {R : gR} {l : List Nat} {ν ν' : ax_M} (h : fr l ν ν') (h0 : ν'.1 b 0 = ν.1 b 0) (hl : ∀ a, a ∈ l → a ≤ b ∨ b + 5 < a) (hk : kP b R ν) : kP b R ν' := by
  have hn : ∀ a, b < a → a ≤ b + 5 → a ∉ l := by
    intro a h1 h2 q
    have := hl a q
    omega
  obtain ⟨a0, a1, a2, a3, a4, a5⟩ := hk
  refine ⟨h0.trans a0, fr_rP h (hn _ (by omega) (by omega)) a1, fr_rP h (hn _ (by omega) (by omega)) a2, fr_rP h (hn _ (by omega) (by omega)) a3, ?_, ?_⟩
  · intro i c i0 i1 c0 c1
    rw [h.2 _ (hn _ (by omega) (by omega))]
    exact a4 i c i0 i1 c0 c1
  · intro i c i0 i1 c0 c1
    rw [h.2 _ (hn _ (by omega) (by omega))]
    exact a5 i c i0 i1 c0 c1
theorem iB {b : Bool} : zI (if b = true then 1 else 0) = zB b := by cases b <;> rfl
/-- what's needed to walk a choice -/
def cCh (o : Nat) (G : gG) (S : gS) (X : cX) (R : gR) (ν : ax_M) : Prop := cI o G S X ν ∧ kP 13 R ν
theorem q_hl {o : Nat} (h : cO o) {G : gG} {S : gS} {X : cX} {ν : ax_M} (hg : hGok G) (hw : hGw G) (hv : hV G S) (hx : XR G S X) (hν : cI o G S X ν) {w cw v : Int} (w0 : 0 ≤ w) (w1 : w < 2 * gE G) (hk : gfi S w ≠ -1) (c0 : 15 ≤ cw) (c1 : cw ≤ 18) (v0 : 0 ≤ v) (v1 : v ≤ 99) : aJ 1119 [.ref 13, .ref o, .int (zI cw), .int (zI v), .int (zI w)] [] ν = some (some (.int (zB (ghl G S w cw v))), ν) := by
  have hE := hg.2.2.2.1
  have hN := hg.2.1
  have hcn := h_cnt hg hv.1 (by omega)
  have hsd := h_sdr hg (w := w) ⟨w0, w1⟩
  have hop := h_opW (G := G) (w := w) ⟨w0, w1⟩
  have hop1 := hop.1.1
  have hop2 := hop.1.2
  have hsd2 := h_sdr hg hop.1
  rcases h_gfi (S := S) (w := w) hcn.1 with y | y
  · exact absurd y.1 hk
  have hlt := hv.2.2.1.2.2.2 _ y.1 y.2.1
  have hwt := hw (w / 2) (by omega) (by omega)
  have h2 := hx.2.1 w w0 (by omega)
  unfold ghl
  have ret1 : ∀ (l : Nat), (∀ (s : Int32), aJ l [] [.int s] ν = if s = 0 ∨ s = 1 then some (some (.int s), ν) else none) → aJ l [] [.int 1] ν = some (some (.int (zB true)), ν) := fun l e => by rw [e, if_pos (Or.inr rfl)]; rfl
  have ret0 : ∀ (l : Nat), (∀ (s : Int32), aJ l [] [.int s] ν = if s = 0 ∨ s = 1 then some (some (.int s), ν) else none) → aJ l [] [.int 0] ν = some (some (.int (zB false)), ν) := fun l e => by rw [e, if_pos (Or.inl rfl)]; rfl
  rw [jl_1119, j_eq rfl (show (15 : Int32) = zI 15 from rfl) (zR_of (by omega)) (zR_of (by omega)), j_eq rfl (show (16 : Int32) = zI 16 from rfl) (zR_of (by omega)) (zR_of (by omega)), j_eq rfl (show (17 : Int32) = zI 17 from rfl) (zR_of (by omega)) (zR_of (by omega))]
  by_cases q1 : cw = 15
  · rw [if_pos q1, if_pos q1, jl_1120 _ _ _ _ h, q_sd hν h w0 (by omega), z_b1, i_eq (zR_of (by omega)) (zR_of (by omega))]
    by_cases q : gsd G w = v
    · rw [if_pos q, ret1 1122 (fun s => jl_1122 s ν)]
      simp [q]
    · rw [if_neg q, jl_1121, ret0 1122 (fun s => jl_1122 s ν)]
      simp [q]
  rw [if_neg q1, if_neg q1]
  by_cases q2 : cw = 16
  · rw [if_pos q2, if_pos q2, jl_1123 _ _ _ _ h, show zI w ^^^ (1 : Int32) = zI (gop w) from zI_xor1 w0 (by omega), q_sd hν h (by omega) (by omega), z_b1, i_eq (zR_of (by omega)) (zR_of (by omega))]
    by_cases q : gsd G (gop w) = v
    · rw [if_pos q, ret1 1125 (fun s => jl_1125 s ν)]
      simp [grc, q]
    · rw [if_neg q, jl_1124, ret0 1125 (fun s => jl_1125 s ν)]
      simp [grc, q]
  rw [if_neg q2, if_neg q2]
  by_cases q3 : cw = 17
  · have hl : aJ 846 [.ref (o + 4), .int (zI (gfi S w * 8 + 2))] [] ν = some (some (.int (zI (glt S (gfi S w) 2))), ν) := by
      have e := c_lt h (G := G) (S := S) (X := X) (μ := ν) (f := 2) y.1 y.2.1 (by omega) (by omega)
      rw [show cM o G S X ν = ν from hν] at e
      rw [c_at (sh_4 h) (by omega) (by omega) (by omega), show gfi S w * 8 + 2 = 8 * gfi S w + 2 by omega, e]
    rw [if_pos q3, if_pos q3, jl_1126 _ _ _ _ h, q_fo hν h w0 (by omega), z_b1, h2]
    simp only [zI_lit, zI_mul, zI_add]
    rw [hl, z_b1, i_eq (zR_of (by omega)) (zR_of (by omega))]
    by_cases q : glt S (gfi S w) 2 = v
    · have r := ret1 1128 (fun s => jl_1128 s ν)
      rw [if_pos q, show zI 1 = (1 : Int32) from rfl, r]
      simp [q]
    · rw [if_neg q, jl_1127, ret0 1128 (fun s => jl_1128 s ν)]
      simp [q]
  rw [if_neg q3, if_neg q3, jl_1129 _ _ _ _ h, show zI w / (2 : Int32) = zI (w / 2) from m_half w0 (by omega), q_wt hν h (by omega) (by omega), z_b1, i_le (zR_of (by omega)) (zR_of (by omega))]
  by_cases q : gwt G (w / 2) ≤ v
  · rw [if_pos q, jl_1130, ret0 1131 (fun s => jl_1131 s ν)]
    simp [show ¬ v < gwt G (w / 2) by omega]
  · rw [if_neg q, ret1 1131 (fun s => jl_1131 s ν)]
    simp [show v < gwt G (w / 2) by omega]
theorem q_mt {o : Nat} (h : cO o) {G : gG} {S : gS} {X : cX} {R : gR} {ν : ax_M} (hg : hGok G) (hw : hGw G) (hv : hV G S) (hx : XR G S X) (hR : rok R) (hν : cI o G S X ν) (hk' : kP 13 R ν) {i w : Int} (i0 : 0 ≤ i) (i1 : i < rLn R) (w0 : 0 ≤ w) (w1 : w < 2 * gE G) (hk : gfi S w ≠ -1) : aJ 1114 [.ref 13, .ref o, .int (zI i), .int (zI w)] [] ν = some (some (.int (zB (gmt G S R i w))), ν) := by
  have hE := hg.2.2.2.1
  have hcn := h_cnt hg hv.1 (by omega)
  rcases h_gfi (S := S) (w := w) hcn.1 with y | y
  · exact absurd y.1 hk
  have hlt := hv.2.2.1.2.2.2 _ y.1 y.2.1
  have h2 := hx.2.1 w w0 (by omega)
  have hR0 := hR.1
  obtain ⟨r1, r2, r3, r4⟩ := hR.2 i i0 i1
  obtain ⟨k0, k1, k2, k3, k4, k5⟩ := hk'
  have loop : ∀ (m c : Nat), c + m = (rCn R i).toNat → gmC G S R i w c = true → aJ 1116 [.ref 13, .ref o, .int (zI i), .int (zI w), .int (zI (i * 4)), .int (zI c)] [] ν = some (some (.int (zB (gmC G S R i w (rCn R i).toNat))), ν) := by
    intro m
    induction m with
    | zero =>
      intro c hc ht
      rw [jl_1116]
      simp (disch := omega) only [zI_lit, at_16, rP_at k3, z_b1, p_le]
      rw [if_pos (by omega), jl_1118, show (rCn R i).toNat = c by omega, ht]
      rfl
    | succ m ih =>
      intro c hc ht
      have e4 := k4 i c i0 i1 (by omega) (by omega)
      have e5 := k5 i c i0 i1 (by omega) (by omega)
      obtain ⟨s1, s2⟩ := r4 c (by omega) (by omega)
      have hl := q_hl h hg hw hv hx hν w0 w1 hk s1.1 s1.2 s2.1 s2.2
      rw [jl_1116]
      simp (disch := omega) only [zI_lit, at_16, rP_at k3, z_b1, p_le, zI_add, at_17, at_18, e4, e5, hl]
      rw [if_neg (by omega), if_neg (by omega), show zI 0 = (0 : Int32) from rfl, i_B]
      by_cases q : ghl G S w (rCw R i c) (rCv R i c) = true
      · rw [if_pos q, jl_1117]
        simp only [zI_lit, zI_add]
        exact ih (c + 1) (by omega) (by simp [gmC, ht, q])
      · rw [if_neg q]
        have hf : ∀ d : Nat, gmC G S R i w (c + 1 + d) = false := by
          intro d
          induction d with
          | zero => simp [gmC, q]
          | succ d ihd => rw [show c + 1 + (d + 1) = c + 1 + d + 1 by omega, gmC, ihd]; rfl
        rw [show (rCn R i).toNat = c + 1 + m by omega, hf]
        rfl
  unfold gmt
  rw [jl_1114 _ _ _ _ h]
  simp (disch := omega) only [zI_lit, q_fo hν h, z_b1, h2, at_14, rP_at k1, p_eq]
  by_cases q7 : rWd R i = 7
  · rw [if_pos q7, jl_1115]
    simp only [zI_lit, zI_mul]
    rw [show decide (rWd R i = 7 ∨ rWd R i = glt S (gfi S w) 0) = true by simp [q7], Bool.true_and]
    exact loop (rCn R i).toNat 0 (by omega) rfl
  · rw [if_neg q7]
    simp (disch := omega) only [q_tl hν h (show gnL S ≤ 256 by omega), z_b1, p_eq]
    by_cases qk : rWd R i = glt S (gfi S w) 0
    · rw [if_pos qk, jl_1115]
      simp only [zI_lit, zI_mul]
      rw [show decide (rWd R i = 7 ∨ rWd R i = glt S (gfi S w) 0) = true by simp [qk], Bool.true_and]
      exact loop (rCn R i).toNat 0 (by omega) rfl
    · rw [if_neg qk, show decide (rWd R i = 7 ∨ rWd R i = glt S (gfi S w) 0) = false by simp [q7, qk]]
      rfl
theorem q_gr {o : Nat} (h : cO o) {G : gG} {S : gS} {X : cX} {R : gR} {ν : ax_M} (hg : hGok G) (hw : hGw G) (hv : hV G S) (hx : XR G S X) (hR : rok R) (hν : cI o G S X ν) (hk' : kP 13 R ν) {i w : Int} (i0 : 0 ≤ i) (i1 : i < rLn R) (w0 : 0 ≤ w) (w1 : w < 2 * gE G) (hk : gfi S w ≠ -1) : aJ 1102 [.ref 13, .ref o, .int (zI i), .int (zI w)] [] ν = some (some (.int (zI (ggr G S R i w))), ν) ∧ -100000 ≤ ggr G S R i w ∧ ggr G S R i w ≤ 100000 := by
  have hE := hg.2.2.2.1
  have hcn := h_cnt hg hv.1 (by omega)
  rcases h_gfi (S := S) (w := w) hcn.1 with y | y
  · exact absurd y.1 hk
  have hlt := hv.2.2.1.2.2.2 _ y.1 y.2.1
  have hwt := hw (w / 2) (by omega) (by omega)
  have h2 := hx.2.1 w w0 (by omega)
  have hR0 := hR.1
  obtain ⟨r1, r2, r3, r4⟩ := hR.2 i i0 i1
  have k1 := hk'.2.1
  have k2 := hk'.2.2.1
  have z0 : (0 : Int32) = zI 0 := rfl
  constructor
  · rw [jl_1102 _ _ _ _ h]
    simp (disch := omega) only [zI_lit, q_fo hν h, z_b1, h2, at_14, rP_at k1, p_eq]
    unfold ggr
    by_cases q8 : rWd R i = 8
    · rw [if_pos q8, if_pos q8, jl_1103]
    rw [if_neg q8, if_neg q8]
    by_cases q9 : rWd R i = 9
    · rw [if_pos q9, if_pos q9, jl_1104]
      simp only [zI_lit, zI_sub]
      rw [show 0 - gfi S w = -gfi S w by omega]
    rw [if_neg q9, if_neg q9]
    by_cases q10 : rWd R i = 10
    · rw [if_pos q10, if_pos q10, zI_hlf w0 (by omega), jl_1105 _ _ _ h, q_wO hν h (by omega) ⟨by omega, wt_ne hw (by omega) (by omega)⟩, z_b1]
      simp only [zI_lit, zI_mul, zI_add]
    rw [if_neg q10, if_neg q10]
    by_cases q11 : rWd R i = 11
    · rw [if_pos q11, if_pos q11, zI_hlf w0 (by omega), jl_1106 _ _ _ h, q_wO hν h (by omega) ⟨by omega, wt_ne hw (by omega) (by omega)⟩, z_b1]
      simp only [zI_lit, zI_mul, zI_add, zI_sub]
      rw [show 0 - (gwt G (w / 2) * 30 + w / 2) = -(gwt G (w / 2) * 30 + w / 2) by omega]
    rw [if_neg q11, if_neg q11]
    by_cases q12 : rWd R i = 12
    · rw [if_pos q12, if_pos q12, jl_1107 _ _ _ h]
      simp (disch := omega) only [zI_lit, q_tl hν h (show gnL S ≤ 256 by omega), z_b1]
    rw [if_neg q12, if_neg q12]
    by_cases q13 : rWd R i = 13
    · rw [if_pos q13, if_pos q13, jl_1108 _ _ _ h]
      simp (disch := omega) only [zI_lit, q_tl hν h (show gnL S ≤ 256 by omega), z_b1, zI_sub]
      rw [show 0 - glt S (gfi S w) 2 = -glt S (gfi S w) 2 by omega]
    rw [if_neg q13, if_neg q13, jl_1109, q_mt h hg hw hv hx hR hν hk' i0 i1 w0 w1 hk, z_b1]
    simp (disch := omega) only [at_15, rP_at k2, z_b1]
    rw [j_eq rfl z0 (zR_of (by omega)) (zR_of (by omega))]
    by_cases ql : rLa R i = 0
    · rw [if_pos ql, jl_1111]
      cases gmt G S R i w
      · rw [if_neg (by decide), jl_1112, jl_1113, show decide (rLa R i = 0) = true by simp [ql]]
        rfl
      · rw [if_pos (show zB true = 1 from rfl), jl_1113, show decide (rLa R i = 0) = true by simp [ql]]
        rfl
    · rw [if_neg ql, jl_1110, jl_1111]
      cases gmt G S R i w
      · rw [if_pos (show zB false = 0 from rfl), jl_1113, show decide (rLa R i = 0) = false by simp [ql]]
        rfl
      · rw [if_neg (by decide), jl_1112, jl_1113, show decide (rLa R i = 0) = false by simp [ql]]
        rfl
  · unfold ggr
    repeat' split
    all_goals omega
