/-! r: rounds, in the class and in the reference -/
def hrw (G : gG) (w : Int) : Nat → gS → gS
  | 0, S => S
  | m + 1, S => hrw G w m (hta G S w).2
def hrd (G : gG) (c : Int → Nat) : Nat → Int → gS → gS
  | 0, _, S => S
  | m + 1, w, S => hrd G c m (w + 1) (hrw G w (c w) S)
def hsm (c : Int → Nat) : Nat → Int → Int
  | 0, _ => 0
  | m + 1, w => c w + hsm c m (w + 1)
def hrF (T : gS) : gS := gsR T (grd T + 1)
def hro (G : gG) (S : gS) : gS := hrF (hrd G (nOn S) (2 * gE G).toNat 0 S)
def hrt (G : gG) (S : gS) : Int := hsm (nOn S) (2 * gE G).toNat 0
theorem hsm_s {c : Int → Nat} {m : Nat} {w : Int} : hsm c (m + 1) w = c w + hsm c m (w + 1) := rfl
theorem nOn_le {S : gS} {w : Int} : nOn S w ≤ (gnL S).toNat := pct_le
theorem hsm_r {c : Int → Nat} (hc : ∀ v, c v ≤ 256) : ∀ (m : Nat) (w : Int), 0 ≤ hsm c m w ∧ hsm c m w ≤ 256 * m := by
  intro m
  induction m with
  | zero => intro w; simp [hsm]
  | succ m ih =>
    intro w
    have h1 := ih (w + 1)
    have h2 := hc w
    unfold hsm
    omega
theorem rw_ok {G : gG} {w : Int} (hg : hGok G) (hw : hGw G) : ∀ (m : Nat) (S : gS), hV G S → m ≤ nOn S w → hV G (hrw G w m S) ∧ (∀ v, v ≠ w → nOn S v ≤ nOn (hrw G w m S) v) ∧ gnL S ≤ gnL (hrw G w m S) := by
  intro m
  induction m with
  | zero =>
    intro S hv _
    exact ⟨hv, fun v _ => Nat.le_refl _, Int.le_refl _⟩
  | succ m ih =>
    intro S hv hm
    have hcn := h_cnt hg hv.1 (by omega)
    have hk : gfi S w ≠ -1 := fun q => by
      have := (gfi_no (S := S) (w := w) hcn.1).mpr q
      omega
    rcases h_gfi (S := S) (w := w) hcn.1 with h1 | h1
    · exact absurd h1.1 hk
    have htr := ta_tr hg hv hk
    have hv2 := hV_ta hg hw hv hk
    have hn := fun v => tr_nOn (v := v) hcn.1 h1.1 h1.2.1 htr
    have hw1 := hn w
    rw [h1.2.2.2.1, if_pos rfl] at hw1
    obtain ⟨i1, i2, i3⟩ := ih (hta G S w).2 hv2 (by omega)
    refine ⟨i1, ?_, ?_⟩
    · intro v q
      have h2 := hn v
      rw [h1.2.2.2.1, if_neg (fun z => q z.symm)] at h2
      have h3 := i2 v q
      show nOn S v ≤ nOn (hrw G w m (hta G S w).2) v
      omega
    · have := htr.1
      show gnL S ≤ gnL (hrw G w m (hta G S w).2)
      omega
theorem rd_ok {G : gG} {c : Int → Nat} (hg : hGok G) (hw : hGw G) : ∀ (m : Nat) (w : Int) (S : gS), hV G S → (∀ v, w ≤ v → v < w + m → c v ≤ nOn S v) → hV G (hrd G c m w S) ∧ gnL S ≤ gnL (hrd G c m w S) := by
  intro m
  induction m with
  | zero =>
    intro w S hv _
    exact ⟨hv, Int.le_refl _⟩
  | succ m ih =>
    intro w S hv hc
    obtain ⟨j1, j2, j3⟩ := rw_ok hg hw (c w) S hv (hc w (by omega) (by omega))
    obtain ⟨i1, i2⟩ := ih (w + 1) (hrw G w (c w) S) j1 (fun v v0 v1 => by
      have h2 := hc v (by omega) (by omega)
      have h3 := j2 v (by omega)
      omega)
    exact ⟨i1, by show gnL S ≤ gnL (hrd G c m (w + 1) (hrw G w (c w) S)); omega⟩
theorem hV_R {G : gG} {S : gS} {v : Int} (h : hV G S) : hV G (gsR S v) := h
theorem XR_rd {G : gG} {S : gS} {X : cX} {v : Int} (h : XR G S X) : XR G (gsR S v) X := XR_same (S := S) (S' := gsR S v) rfl (fun _ _ => rfl) h
theorem ro_ok {G : gG} {S : gS} (hg : hGok G) (hw : hGw G) (hv : hV G S) : hV G (hro G S) ∧ (0 < gnL S → hZ G (hro G S)) := by
  have hE := hg.2.2.1
  have h1 := rd_ok (c := nOn S) hg hw (2 * gE G).toNat 0 S hv (fun v _ _ => Nat.le_refl _)
  have h2 : hV G (hro G S) := hV_R h1.1
  refine ⟨h2, fun h => Or.inr (h_awk hg h2.1 ?_)⟩
  show 0 < gnL (hrd G (nOn S) (2 * gE G).toNat 0 S)
  omega
theorem q_mk1 {G : gG} {c : Int → Nat} {w : Int} (hg : hGok G) (hw : hGw G) (w0 : 0 ≤ w) (w1 : w < 60) : ∀ (m : Nat) (S : gS) (X : cX) (ν : ax_M) (i t : Int), 0 ≤ i → i + m = c w → c w ≤ 256 → hV G S → XR G S X → cI 29 G S X ν → rP ν 37 60 (fun v => (c v : Int)) → m ≤ nOn S w → 0 ≤ t → t + m ≤ 100000 → ∃ X' ν', aJ 1182 [.ref 29, .int (zI t), .int (zI w), .int (zI i)] [] ν = aJ 1183 [.ref 29, .int (zI (t + m)), .int (zI w)] [] ν' ∧ cI 29 G (hrw G w m S) X' ν' ∧ XR G (hrw G w m S) X' ∧ fr (cOL 29) ν ν' := by
  intro m
  induction m with
  | zero =>
    intro S X ν i t i0 i1 hc hv hx hν h37 _ t0 t1
    refine ⟨X, ν, ?_, hν, hx, frz⟩
    rw [jl_1182]
    simp (disch := omega) only [zI_lit, at_37, rP_at h37, z_b1, p_le]
    rw [if_pos (by omega), show t + ((0 : Nat) : Int) = t by omega]
  | succ m ih =>
    intro S X ν i t i0 i1 hc hv hx hν h37 hm t0 t1
    have hcn := h_cnt hg hv.1 (by omega)
    have hk : gfi S w ≠ -1 := fun q => by
      have := (gfi_no (S := S) (w := w) hcn.1).mpr q
      omega
    rcases h_gfi (S := S) (w := w) hcn.1 with h1 | h1
    · exact absurd h1.1 hk
    have hn := tr_nOn (v := w) hcn.1 h1.1 h1.2.1 (ta_tr hg hv hk)
    rw [h1.2.2.2.1, if_pos rfl] at hn
    obtain ⟨X1, ν1, e1, e2, e3, e4⟩ := q_ta (o := 29) (Or.inl rfl) hg hw hv hx hν hk
    obtain ⟨X2, ν2, f1, f2, f3, f4⟩ := ih (hta G S w).2 X1 ν1 (i + 1) (t + 1) (by omega) (by omega) hc (hV_ta hg hw hv hk) e3 e2 (fr_rP e4 (by decide) h37) (by omega) (by omega) (by omega)
    refine ⟨X2, ν2, ?_, f2, f3, frt e4 f4⟩
    rw [jl_1182]
    simp (disch := omega) only [zI_lit, at_37, rP_at h37, z_b1, p_le, e1, zI_add]
    rw [if_neg (by omega), f1, show t + 1 + (m : Int) = t + ((m + 1 : Nat) : Int) by omega]
theorem q_mk2 {G : gG} {c : Int → Nat} (hg : hGok G) (hw : hGw G) (hc : ∀ v, c v ≤ 256) : ∀ (m : Nat) (w : Int) (S : gS) (X : cX) (ν : ax_M) (t : Int), 0 ≤ w → w + m = 2 * gE G → hV G S → XR G S X → cI 29 G S X ν → rP ν 37 60 (fun v => (c v : Int)) → (∀ v, w ≤ v → v < w + m → c v ≤ nOn S v) → 0 ≤ t → t ≤ 256 * w → ∃ X' ν', aJ 1181 [.ref 29, .int (zI t), .int (zI w)] [] ν = some (some (.int (zI (t + hsm c m w))), ν') ∧ cI 29 G (hrF (hrd G c m w S)) X' ν' ∧ XR G (hrF (hrd G c m w S)) X' ∧ fr (cOL 29) ν ν' := by
  have hE := hg.2.2.2.1
  intro m
  induction m with
  | zero =>
    intro w S X ν t w0 w1 hv hx hν h37 _ t0 t1
    have er : ν.1 29 17 + (1 : Int32) = zI (grd S + 1) := by
      rw [q_frd hν (Or.inl rfl)]
      exact zI_a1 _
    have e2 := c_frd (o := 29) (Or.inl rfl) (G := G) (S := S) (X := X) (μ := ν) (v := grd S + 1)
    rw [show cM 29 G S X ν = ν from hν] at e2
    refine ⟨X, _, ?_, ?_, XR_rd hx, fru (a := 29) (k := 17) (x := zI (grd S + 1)) (by decide)⟩
    · rw [jl_1181]
      simp (disch := omega) only [q_wcnt hν (Or.inl rfl), z_b1, p_le]
      rw [if_pos (by omega), jl_1184, er]
      unfold hsm
      rw [show t + 0 = t by omega]
      rfl
    · rw [e2]
      exact cM_idem (Or.inl rfl)
  | succ m ih =>
    intro w S X ν t w0 w1 hv hx hν h37 hcv t0 t1
    have hcw := hc w
    obtain ⟨X1, ν1, e1, e2, e3, e4⟩ := q_mk1 (c := c) hg hw w0 (by omega) (c w) S X ν 0 t (by omega) (by omega) (hc w) hv hx hν h37 (hcv w (by omega) (by omega)) t0 (by omega)
    obtain ⟨j1, j2, j3⟩ := rw_ok hg hw (c w) S hv (hcv w (by omega) (by omega))
    obtain ⟨X2, ν2, f1, f2, f3, f4⟩ := ih (w + 1) (hrw G w (c w) S) X1 ν1 (t + c w) (by omega) (by omega) j1 e3 e2 (fr_rP e4 (by decide) h37) (fun v v0 v1 => by
      have h2 := hcv v (by omega) (by omega)
      have h3 := j2 v (by omega)
      omega) (by omega) (by omega)
    refine ⟨X2, ν2, ?_, f2, f3, frt e4 f4⟩
    rw [jl_1181]
    simp (disch := omega) only [q_wcnt hν (Or.inl rfl), z_b1, p_le]
    rw [if_neg (by omega), show (0 : Int32) = zI 0 from rfl, e1, jl_1183, show zI w + (1 : Int32) = zI (w + 1) from zI_a1 w, f1]
    rw [hsm_s, show t + (c w : Int) + hsm c m (w + 1) = t + ((c w : Int) + hsm c m (w + 1)) by omega]
/-- the class's round -/
theorem q_mk {G : gG} {S : gS} {X : cX} {ν : ax_M} (hg : hGok G) (hw : hGw G) (hv : hV G S) (hx : XR G S X) (hν : cI 29 G S X ν) : ∃ X' ν', aJ 1180 [.ref 29] [] ν = some (some (.int (zI (hrt G S))), ν') ∧ cI 29 G (hro G S) X' ν' ∧ XR G (hro G S) X' ∧ fr (37 :: cOL 29) ν ν' := by
  have hE := hg.2.2.1
  have hE2 := hg.2.2.2.1
  have hcn := h_cnt hg hv.1 (by omega)
  obtain ⟨ν1, e1, e2, e3, _⟩ := q_cp (a := 36) (b := 37) (la := 60) (lb := 60) (n := 60) (by decide) (by decide) (by decide) (by decide) (by decide) (by decide) (by decide) ν
  have hν1 : cI 29 G S X ν1 := cI_fr (Or.inl rfl) e2 (by intro a ha; simp at ha; omega) hν
  have h37 : rP ν1 37 60 (fun v => (nOn S v : Int)) := by
    intro i i0 i1
    rw [e3 i.toNat (by omega)]
    have e := cM_7 (o := 29) (Or.inl rfl) (G := G) (S := S) (X := X) (μ := ν) (k := i.toNat)
    rw [cR_at i0 i1, show cM 29 G S X ν = ν from hν] at e
    rw [show (36 : Nat) = 29 + 7 from rfl, e, hx.1 i i0 i1]
  obtain ⟨X2, ν2, f1, f2, f3, f4⟩ := q_mk2 (c := nOn S) hg hw (fun v => by have := nOn_le (S := S) (w := v); omega) (2 * gE G).toNat 0 S X ν1 0 (by omega) (by omega) hv hx hν1 h37 (fun v _ _ => Nat.le_refl _) (by omega) (by omega)
  refine ⟨X2, ν2, ?_, f2, f3, frt (frm e2 (by simp)) (frm f4 (fun a h => List.mem_cons_of_mem _ h))⟩
  rw [jl_1180, show (60 : Int32) = zI 60 from rfl, e1, z_b0, show (0 : Int32) = zI 0 from rfl, f1]
  show _ = some (some (Value.int (zI (hsm (nOn S) (2 * gE G).toNat 0))), ν2)
  rw [show (0 : Int) + hsm (nOn S) (2 * gE G).toNat 0 = hsm (nOn S) (2 * gE G).toNat 0 by omega]
theorem q_ro1 {G : gG} {c : Int → Nat} {w : Int} (hg : hGok G) (hw : hGw G) (w0 : 0 ≤ w) (w1 : w < 60) : ∀ (m : Nat) (S : gS) (ν : ax_M) (i : Int) (t : Int32), 0 ≤ i → i + m = c w → c w ≤ 256 → hV G S → mI G S ν → rP ν 220 (2 * gE G) (fun v => (c v : Int)) → w < 2 * gE G → m ≤ nOn S w → ∃ ν', aJ 300 [.ref 207, .int t, .int (zI w), .int (zI i)] [] ν = aJ 301 [.ref 207, .int t, .int (zI w)] [] ν' ∧ mI G (hrw G w m S) ν' ∧ fr [209] ν ν' ∧ bgR ν ν' := by
  intro m
  induction m with
  | zero =>
    intro S ν i t i0 i1 hc hv hν h37 hwE _
    refine ⟨ν, ?_, hν, frz, bgz⟩
    rw [jl_300]
    simp (disch := omega) only [zI_lit, ld_220, rP_at h37, z_bo, p_le]
    rw [if_pos (by omega)]
  | succ m ih =>
    intro S ν i t i0 i1 hc hv hν h37 hwE hm
    have hcn := h_cnt hg hv.1 (by omega)
    have hk : gfi S w ≠ -1 := fun q => by
      have := (gfi_no (S := S) (w := w) hcn.1).mpr q
      omega
    rcases h_gfi (S := S) (w := w) hcn.1 with h1 | h1
    · exact absurd h1.1 hk
    have hn := tr_nOn (v := w) hcn.1 h1.1 h1.2.1 (ta_tr hg hv hk)
    rw [h1.2.2.2.1, if_pos rfl] at hn
    obtain ⟨ν1, e1, e2, e4, e5⟩ := q_rta hg hw hv hν hk
    obtain ⟨ν2, f1, f2, f4, f5⟩ := ih (hta G S w).2 ν1 (i + 1) t (by omega) (by omega) hc (hV_ta hg hw hv hk) e2 (fr_rP e4 (by decide) h37) hwE (by omega)
    refine ⟨ν2, ?_, f2, frt e4 f4, bgt e5 f5⟩
    rw [jl_300]
    simp (disch := omega) only [zI_lit, ld_220, rP_at h37, z_bo, p_le, e1, z_b1, zI_add]
    rw [if_neg (by omega), f1]
theorem q_ro2 {G : gG} {c : Int → Nat} (hg : hGok G) (hw : hGw G) (hc : ∀ v, c v ≤ 256) : ∀ (m : Nat) (w : Int) (S : gS) (ν : ax_M) (t : Int), 0 ≤ w → w + m = 2 * gE G → hV G S → mI G S ν → rP ν 220 (2 * gE G) (fun v => (c v : Int)) → (∀ v, w ≤ v → v < w + m → c v ≤ nOn S v) → 0 ≤ t → t ≤ 256 * w → ∃ ν', aJ 299 [.ref 207, .int (zI t), .int (zI w)] [] ν = some (some (.int (zI (t + hsm c m w))), ν') ∧ mI G (hrF (hrd G c m w S)) ν' ∧ fr [209] ν ν' ∧ bgR ν ν' := by
  have hE := hg.2.2.2.1
  intro m
  induction m with
  | zero =>
    intro w S ν t w0 w1 hv hν h37 _ t0 t1
    have e2 := w_R (G := G) (S := S) (μ := ν) (v := grd S + 1)
    rw [show mM G S ν = ν from hν] at e2
    refine ⟨_, ?_, ?_, fru (a := 209) (k := 385) (x := zI (grd S + 1)) (by decide), fun k k0 k1 => up_nk (by omega)⟩
    · rw [jl_299]
      simp (disch := omega) only [zI_lit, q_rE hν, z_bo, zI_mul, p_le]
      rw [if_pos (by omega), jl_302]
      simp (disch := omega) only [zI_lit, q_rR hν, z_bo, zI_add, st_209]
      unfold hsm
      rw [show t + 0 = t by omega]
      rfl
    · rw [e2]
      exact mI_of
  | succ m ih =>
    intro w S ν t w0 w1 hv hν h37 hcv t0 t1
    have hcw := hc w
    obtain ⟨ν1, e1, e2, e4, e5⟩ := q_ro1 (c := c) hg hw w0 (by omega) (c w) S ν 0 (zI t) (by omega) (by omega) (hc w) hv hν h37 (by omega) (hcv w (by omega) (by omega))
    obtain ⟨j1, j2, j3⟩ := rw_ok hg hw (c w) S hv (hcv w (by omega) (by omega))
    have h37' := fr_rP e4 (by decide) h37
    obtain ⟨ν2, f1, f2, f4, f5⟩ := ih (w + 1) (hrw G w (c w) S) ν1 (t + c w) (by omega) (by omega) j1 e2 h37' (fun v v0 v1 => by
      have h2 := hcv v (by omega) (by omega)
      have h3 := j2 v (by omega)
      omega) (by omega) (by omega)
    refine ⟨ν2, ?_, f2, frt e4 f4, bgt e5 f5⟩
    rw [jl_299]
    simp (disch := omega) only [zI_lit, q_rE hν, z_bo, zI_mul, p_le]
    rw [if_neg (by omega), e1, jl_301]
    simp (disch := omega) only [zI_lit, ld_220, rP_at h37', z_bo, zI_add, f1]
    rw [hsm_s, show t + (c w : Int) + hsm c m (w + 1) = t + ((c w : Int) + hsm c m (w + 1)) by omega]
theorem q_ro0 {G : gG} {S : gS} (hg : hGok G) (hv : hV G S) : ∀ (m : Nat) (w : Int) (ν : ax_M), 0 ≤ w → w + m = 2 * gE G → mI G S ν → rP ν 220 w (fun v => (nOn S v : Int)) → ∃ ν', aJ 297 [.ref 207, .int (zI 0), .int (zI w)] [] ν = aJ 298 [.ref 207, .int (zI 0)] [] ν' ∧ mI G S ν' ∧ rP ν' 220 (2 * gE G) (fun v => (nOn S v : Int)) ∧ fr [220] ν ν' := by
  have hE := hg.2.2.2.1
  have hcn := h_cnt hg hv.1 (by omega)
  intro m
  induction m with
  | zero =>
    intro w ν w0 w1 hν h
    refine ⟨ν, ?_, hν, by rw [show 2 * gE G = w by omega]; exact h, frz⟩
    rw [jl_297]
    simp (disch := omega) only [zI_lit, q_rE hν, z_bo, zI_mul, p_le]
    rw [if_pos (by omega)]
  | succ m ih =>
    intro w ν w0 w1 hν h
    have hf : fr [220] ν (ax_up ν.1 220 w.toNat (zI (nOn S w)), ν.2) := fru (by decide)
    have hp := rP_push (v := (nOn S w : Int)) h w0
    rw [pu_self rfl] at hp
    obtain ⟨ν2, f1, f2, f3, f4⟩ := ih (w + 1) (ax_up ν.1 220 w.toNat (zI (nOn S w)), ν.2) (by omega) (by omega) (mI_fr hf (by decide) hν) hp
    refine ⟨ν2, ?_, f2, f3, frt hf f4⟩
    rw [jl_297]
    simp (disch := omega) only [zI_lit, q_rE hν, z_bo, zI_mul, p_le, q_rmo hν hcn.1 (show gnL S ≤ 256 by omega) hv.2.2.1 hE, z_b1, st_220, zI_add]
    rw [if_neg (by omega), f1]
/-- the reference's round -/
theorem q_rro {G : gG} {S : gS} {ν : ax_M} (hg : hGok G) (hw : hGw G) (hv : hV G S) (hν : mI G S ν) : ∃ ν', aJ 296 [.ref 207] [] ν = some (some (.int (zI (hrt G S))), ν') ∧ mI G (hro G S) ν' ∧ fr [209, 220] ν ν' ∧ bgR ν ν' := by
  have hE := hg.2.2.1
  have hE2 := hg.2.2.2.1
  have hcn := h_cnt hg hv.1 (by omega)
  obtain ⟨ν1, e1, e2, e3, e4⟩ := q_ro0 hg hv (2 * gE G).toNat 0 ν (by omega) (by omega) hν (fun i i0 i1 => by omega)
  obtain ⟨ν2, f1, f2, f4, f5⟩ := q_ro2 (c := nOn S) hg hw (fun v => by have := nOn_le (S := S) (w := v); omega) (2 * gE G).toNat 0 S ν1 0 (by omega) (by omega) hv e2 e3 (fun v _ _ => Nat.le_refl _) (by omega) (by omega)
  refine ⟨ν2, ?_, f2, frt (frm e4 (by simp)) (frm f4 (by simp)), bgt (bgf e4 (by decide)) f5⟩
  rw [jl_296, show (0 : Int32) = zI 0 from rfl, e1, jl_298, show (0 : Int32) = zI 0 from rfl, f1]
  show _ = some (some (Value.int (zI (hsm (nOn S) (2 * gE G).toNat 0))), ν2)
  rw [show (0 : Int) + hsm (nOn S) (2 * gE G).toNat 0 = hsm (nOn S) (2 * gE G).toNat 0 by omega]
