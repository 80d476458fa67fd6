/-! s: states kept elsewhere: the class's Run objects -/
def RO : List Nat := [29, 40, 52, 63, 74, 85, 96, 107, 118, 129, 140, 166, 191]
theorem so_1 {o : Nat} (h : o ∈ RO) : (ax_sh (o + 1)).1 = 1 ∧ (ax_sh (o + 1)).2.1 = 30 := (by decide : ∀ o ∈ RO, (ax_sh (o + 1)).1 = 1 ∧ (ax_sh (o + 1)).2.1 = 30) o h
theorem so_2 {o : Nat} (h : o ∈ RO) : (ax_sh (o + 2)).1 = 1 ∧ (ax_sh (o + 2)).2.1 = 132 := (by decide : ∀ o ∈ RO, (ax_sh (o + 2)).1 = 1 ∧ (ax_sh (o + 2)).2.1 = 132) o h
theorem so_3 {o : Nat} (h : o ∈ RO) : (ax_sh (o + 3)).1 = 1 ∧ (ax_sh (o + 3)).2.1 = 60 := (by decide : ∀ o ∈ RO, (ax_sh (o + 3)).1 = 1 ∧ (ax_sh (o + 3)).2.1 = 60) o h
theorem so_4 {o : Nat} (h : o ∈ RO) : (ax_sh (o + 4)).1 = 1 ∧ (ax_sh (o + 4)).2.1 = 2048 := (by decide : ∀ o ∈ RO, (ax_sh (o + 4)).1 = 1 ∧ (ax_sh (o + 4)).2.1 = 2048) o h
theorem so_5 {o : Nat} (h : o ∈ RO) : (ax_sh (o + 5)).1 = 1 ∧ (ax_sh (o + 5)).2.1 = 60 := (by decide : ∀ o ∈ RO, (ax_sh (o + 5)).1 = 1 ∧ (ax_sh (o + 5)).2.1 = 60) o h
theorem so_6 {o : Nat} (h : o ∈ RO) : (ax_sh (o + 6)).1 = 1 ∧ (ax_sh (o + 6)).2.1 = 60 := (by decide : ∀ o ∈ RO, (ax_sh (o + 6)).1 = 1 ∧ (ax_sh (o + 6)).2.1 = 60) o h
theorem so_7 {o : Nat} (h : o ∈ RO) : (ax_sh (o + 7)).1 = 1 ∧ (ax_sh (o + 7)).2.1 = 60 := (by decide : ∀ o ∈ RO, (ax_sh (o + 7)).1 = 1 ∧ (ax_sh (o + 7)).2.1 = 60) o h
theorem so_9 {o : Nat} (h : o ∈ RO) : (ax_sh (o + 9)).1 = 1 ∧ (ax_sh (o + 9)).2.1 = 256 := (by decide : ∀ o ∈ RO, (ax_sh (o + 9)).1 = 1 ∧ (ax_sh (o + 9)).2.1 = 256) o h
theorem so_10 {o : Nat} (h : o ∈ RO) : (ax_sh (o + 10)).1 = 1 ∧ (ax_sh (o + 10)).2.1 = 7 := (by decide : ∀ o ∈ RO, (ax_sh (o + 10)).1 = 1 ∧ (ax_sh (o + 10)).2.1 = 7) o h
theorem ro_sep {o o' : Nat} (h : o ∈ RO) (h' : o' ∈ RO) (hn : o ≠ o') : o + 10 < o' ∨ o' + 10 < o := (by decide : ∀ o ∈ RO, ∀ o' ∈ RO, o ≠ o' → o + 10 < o' ∨ o' + 10 < o) o h o' h' hn
theorem ro_gt {o : Nat} (h : o ∈ RO) : 29 ≤ o ∧ o ≤ 191 := (by decide : ∀ o ∈ RO, 29 ≤ o ∧ o ≤ 191) o h
/-- a run's weights: what is 0 is not known -/
def wP (ν : ax_M) (a : Nat) (W : Int → Int) : Prop := ∀ i, 0 ≤ i → i < 30 → W i ≠ 0 → ν.1 a i.toNat = zI (W i)
def cP (o : Nat) (W : Int → Int) (S : gS) (X : cX) (ν : ax_M) : Prop := wP ν (o + 1) W ∧ (∀ n f, 0 ≤ n → n < 12 → 0 ≤ f → f < 9 → ν.1 (o + 2) (11 * n + f).toNat = zI (gnd S n f)) ∧ (∀ n, 0 ≤ n → n < 12 → ν.1 (o + 2) (11 * n + 9).toNat = zI (xwn X n)) ∧ (∀ n, 0 ≤ n → n < 12 → ν.1 (o + 2) (11 * n + 10).toNat = zI (gnd S n 9)) ∧ rP ν (o + 3) 60 (gen S) ∧ (∀ k f, 0 ≤ k → k < gnL S → 0 ≤ f → f < 7 → ν.1 (o + 4) (8 * k + f).toNat = zI (glt S k f)) ∧ (∀ k, 0 ≤ k → k < gnL S → ν.1 (o + 4) (8 * k + 7).toNat = zI (xaf X k)) ∧ rP ν (o + 5) 60 (xfo X) ∧ rP ν (o + 6) 60 (xlo X) ∧ rP ν (o + 7) 60 (xoe X) ∧ rP ν (o + 9) (xwc X) (xwl X) ∧ rP ν (o + 10) 7 (xso X) ∧ ν.1 o 11 = zI (gnL S) ∧ ν.1 o 12 = zI (xow X) ∧ ν.1 o 13 = zI (xwc X) ∧ ν.1 o 14 = zI (xhd X) ∧ ν.1 o 15 = zI (gdf S) ∧ ν.1 o 16 = zI (xdp X) ∧ ν.1 o 17 = zI (grd S)
/-- the net's rows, as far as a run needs them -/
def tI (G : gG) (ν : ax_M) : Prop := ν.1 3 0 = zI (gN G) ∧ ν.1 3 1 = zI (gE G) ∧ rP ν 6 (2 * gE G) (gsd G)
theorem cI_cP {o : Nat} (h : cO o) {G : gG} {S : gS} {X : cX} {ν : ax_M} (hν : cI o G S X ν) : cP o (gwt G) S X ν ∧ tI G ν := by
  have e : ∀ a k, ν.1 a k = (cM o G S X ν).1 a k := fun a k => (congrFun (congrFun (congrArg Prod.fst (show cM o G S X ν = ν from hν)) a) k).symm
  have w1 : ∀ {f : Int → Int} {n : Int} {b : Nat → Int32} {a : Nat}, (∀ k, (cM o G S X ν).1 a k = cR f n b k) → rP ν a n f := by
    intro f n b a hh i i0 i1
    rw [e, hh]
    exact cR_at i0 i1
  refine ⟨⟨?_, fun n f n0 n1 f0 f1 => (e _ _).trans (c_nd h n0 n1 f0 f1), fun n n0 n1 => (e _ _).trans (c_ndw h n0 n1), fun n n0 n1 => (e _ _).trans (c_ndc h n0 n1), w1 (fun k => cM_e h), fun k f k0 k1 f0 f1 => (e _ _).trans (c_lt h k0 k1 f0 f1), fun k k0 k1 => (e _ _).trans (c_la h k0 k1), w1 (fun k => cM_5 h), w1 (fun k => cM_l h), w1 (fun k => cM_7 h), w1 (fun k => cM_9 h), w1 (fun k => cM_10 h), q_fL hν h, q_fow hν h, q_fwc hν h, q_fhd hν h, q_fdf hν h, q_fdp hν h, q_frd hν h⟩, q_N hν h, q_E hν h, w1 (fun k => cM_6 h)⟩
  intro i i0 i1 i2
  rw [e, cM_1 h]
  unfold cW
  rw [show ((i.toNat : Nat) : Int) = i by omega, if_pos ⟨i1, i2⟩]
theorem cP_cI {o : Nat} (h : cO o) {G : gG} {S : gS} {X : cX} {W : Int → Int} {ν : ax_M} (hp : cP o W S X ν) (ht : tI G ν) : cI o (gGW G W) S X ν := by
  obtain ⟨a1, a2, a3, a4, a5, a6, a7, a8, a9, a10, a11, a12, b1, b2, b3, b4, b5, b6, b7⟩ := hp
  obtain ⟨t1, t2, t3⟩ := ht
  have w1 : ∀ {f : Int → Int} {n : Int} {a : Nat}, rP ν a n f → ∀ k, cR f n (ν.1 a) k = ν.1 a k := by
    intro f n a hh k
    unfold cR
    by_cases c : (k : Int) < n
    · rw [if_pos c]
      have := hh k (by omega) c
      rw [show ((k : Int)).toNat = k by omega] at this
      exact this.symm
    · rw [if_neg c]
  refine ax_ext ?_ rfl
  intro a k
  by_cases q : a = 3
  · subst q
    rw [cM_3 h]
    unfold cG
    by_cases c0 : k = 0
    · rw [if_pos c0, c0]; exact t1.symm
    rw [if_neg c0]
    by_cases c1 : k = 1
    · rw [if_pos c1, c1]; exact t2.symm
    rw [if_neg c1]
  by_cases q : a = 6
  · subst q
    rw [cM_6 h]
    exact w1 t3 k
  by_cases q : a = o
  · subst q
    rw [cM_o h]
    unfold cF
    by_cases hk : k = 11 ∨ k = 12 ∨ k = 13 ∨ k = 14 ∨ k = 15 ∨ k = 16 ∨ k = 17
    · rcases hk with rfl | rfl | rfl | rfl | rfl | rfl | rfl
      · exact b1.symm
      · exact b2.symm
      · exact b3.symm
      · exact b4.symm
      · exact b5.symm
      · exact b6.symm
      · exact b7.symm
    · simp only [not_or] at hk
      simp only [hk, if_false]
  by_cases q : a = o + 1
  · subst q
    rw [cM_1 h]
    unfold cW
    by_cases c : (k : Int) < 30 ∧ W k ≠ 0
    · rw [if_pos (show (k : Int) < 30 ∧ gwt (gGW G W) k ≠ 0 from c)]
      have := a1 k (by omega) c.1 c.2
      rw [show ((k : Int)).toNat = k by omega] at this
      exact this.symm
    · rw [if_neg (show ¬ ((k : Int) < 30 ∧ gwt (gGW G W) k ≠ 0) from c)]
  by_cases q : a = o + 2
  · subst q
    rw [cM_2 h]
    unfold cN
    by_cases c : (k : Int) < 132
    · rw [if_pos c]
      by_cases c9 : (k : Int) % 11 = 9
      · rw [if_pos c9]
        have := a3 ((k : Int) / 11) (by omega) (by omega)
        rw [show (11 * ((k : Int) / 11) + 9).toNat = k by omega] at this
        exact this.symm
      rw [if_neg c9]
      by_cases c10 : (k : Int) % 11 = 10
      · rw [if_pos c10]
        have := a4 ((k : Int) / 11) (by omega) (by omega)
        rw [show (11 * ((k : Int) / 11) + 10).toNat = k by omega] at this
        exact this.symm
      rw [if_neg c10]
      have := a2 ((k : Int) / 11) ((k : Int) % 11) (by omega) (by omega) (by omega) (by omega)
      rw [show (11 * ((k : Int) / 11) + (k : Int) % 11).toNat = k by omega] at this
      exact this.symm
    · rw [if_neg c]
  by_cases q : a = o + 3
  · subst q
    rw [cM_e h]
    exact w1 a5 k
  by_cases q : a = o + 4
  · subst q
    rw [cM_4 h]
    unfold cL
    by_cases c : (k : Int) / 8 < gnL S
    · rw [if_pos c]
      by_cases c7 : (k : Int) % 8 = 7
      · rw [if_pos c7]
        have := a7 ((k : Int) / 8) (by omega) c
        rw [show (8 * ((k : Int) / 8) + 7).toNat = k by omega] at this
        exact this.symm
      rw [if_neg c7]
      have := a6 ((k : Int) / 8) ((k : Int) % 8) (by omega) c (by omega) (by omega)
      rw [show (8 * ((k : Int) / 8) + (k : Int) % 8).toNat = k by omega] at this
      exact this.symm
    · rw [if_neg c]
  by_cases q : a = o + 5
  · subst q
    rw [cM_5 h]
    exact w1 a8 k
  by_cases q : a = o + 6
  · subst q
    rw [cM_l h]
    exact w1 a9 k
  by_cases q : a = o + 7
  · subst q
    rw [cM_7 h]
    exact w1 a10 k
  by_cases q : a = o + 9
  · subst q
    rw [cM_9 h]
    exact w1 a11 k
  by_cases q : a = o + 10
  · subst q
    rw [cM_10 h]
    exact w1 a12 k
  simp [cM, *]
theorem cP_fr {o : Nat} {W : Int → Int} {S : gS} {X : cX} {l : List Nat} {ν ν' : ax_M} (h : fr l ν ν') (hl : ∀ a, a ∈ cOL o → a ∉ l) (hp : cP o W S X ν) : cP o W S X ν' := by
  have e : ∀ a, a ∈ cOL o → ν'.1 a = ν.1 a := fun a ha => h.2 a (hl a ha)
  have e0 := e o (by simp [cOL])
  have e1 := e (o + 1) (by simp [cOL])
  have e2 := e (o + 2) (by simp [cOL])
  have e3 := e (o + 3) (by simp [cOL])
  have e4 := e (o + 4) (by simp [cOL])
  have e5 := e (o + 5) (by simp [cOL])
  have e6 := e (o + 6) (by simp [cOL])
  have e7 := e (o + 7) (by simp [cOL])
  have e9 := e (o + 9) (by simp [cOL])
  have e10 := e (o + 10) (by simp [cOL])
  unfold cP wP rP at *
  simp only [e0, e1, e2, e3, e4, e5, e6, e7, e9, e10]
  exact hp
theorem tI_fr {G : gG} {l : List Nat} {ν ν' : ax_M} (h : fr l ν ν') (h3 : 3 ∉ l) (h6 : 6 ∉ l) (hp : tI G ν) : tI G ν' := by
  unfold tI rP at *
  simp only [h.2 3 h3, h.2 6 h6]
  exact hp
/-- a Run is copied -/
theorem q_cf {x0 x1 : Nat} (h0 : x0 ∈ RO) (h1 : x1 ∈ RO) (hn : x1 ≠ x0) (h1' : x1 ≠ 40) {W : Int → Int} {S : gS} {X : cX} {ν : ax_M} (hp : cP x1 W S X ν) (hL0 : 0 ≤ gnL S) (hL : gnL S ≤ 256) (hw0 : 0 ≤ xwc X) (hw1 : xwc X ≤ 256) : ∃ ν', aJ 1132 [.ref x0, .ref x1] [] ν = some (none, ν') ∧ cP x0 W S X ν' ∧ fr (cOL x0) ν ν' := by
  have hsep := ro_sep h1 h0 hn
  obtain ⟨a1, a2, a3, a4, a5, a6, a7, a8, a9, a10, a11, a12, b1, b2, b3, b4, b5, b6, b7⟩ := hp
  have hx1 : x1 = 29 ∨ x1 = 52 ∨ x1 = 63 ∨ x1 = 74 ∨ x1 = 85 ∨ x1 = 96 ∨ x1 = 107 ∨ x1 = 118 ∨ x1 = 129 ∨ x1 = 140 ∨ x1 = 166 ∨ x1 = 191 := by
    simp [RO] at h1
    omega
  have hx0 : x0 = 29 ∨ x0 = 40 ∨ x0 = 52 ∨ x0 = 63 ∨ x0 = 74 ∨ x0 = 85 ∨ x0 = 96 ∨ x0 = 107 ∨ x0 = 118 ∨ x0 = 129 ∨ x0 = 140 ∨ x0 = 166 ∨ x0 = 191 := by
    simpa [RO] using h0
  obtain ⟨ν1, c1, d1, e1, _⟩ := q_cp (n := 30) (so_1 h1) (so_1 h0) (by decide) (by decide) (by decide) (by decide) (by decide) ν
  obtain ⟨ν2, c2, d2, e2, _⟩ := q_cp (n := 132) (so_2 h1) (so_2 h0) (by decide) (by decide) (by decide) (by decide) (by decide) ν1
  obtain ⟨ν3, c3, d3, e3, _⟩ := q_cp (n := 60) (so_3 h1) (so_3 h0) (by decide) (by decide) (by decide) (by decide) (by decide) ν2
  obtain ⟨ν4, c4, d4, e4, _⟩ := q_cp (n := gnL S * 8) (so_4 h1) (so_4 h0) (by decide) (by decide) (by omega) (by omega) (by omega) ν3
  obtain ⟨ν5, c5, d5, e5, _⟩ := q_cp (n := 60) (so_5 h1) (so_5 h0) (by decide) (by decide) (by decide) (by decide) (by decide) ν4
  obtain ⟨ν6, c6, d6, e6, _⟩ := q_cp (n := 60) (so_6 h1) (so_6 h0) (by decide) (by decide) (by decide) (by decide) (by decide) ν5
  obtain ⟨ν7, c7, d7, e7, _⟩ := q_cp (n := 60) (so_7 h1) (so_7 h0) (by decide) (by decide) (by decide) (by decide) (by decide) ν6
  obtain ⟨ν8, c8, d8, e8, _⟩ := q_cp (n := xwc X) (so_9 h1) (so_9 h0) (by decide) (by decide) hw0 (by omega) (by omega) ν7
  obtain ⟨ν9, c9, d9, e9, _⟩ := q_cp (n := 7) (so_10 h1) (so_10 h0) (by decide) (by decide) (by decide) (by decide) (by decide) ν8
  have s3 : ∀ a, (a < x0 ∨ x0 + 10 < a ∨ a = x0) → ν3.1 a = ν.1 a := fun a ha => (d3.2 a (by simp; omega)).trans ((d2.2 a (by simp; omega)).trans (d1.2 a (by simp; omega)))
  have s7 : ∀ a, (a < x0 ∨ x0 + 10 < a ∨ a = x0) → ν7.1 a = ν.1 a := fun a ha => (d7.2 a (by simp; omega)).trans ((d6.2 a (by simp; omega)).trans ((d5.2 a (by simp; omega)).trans ((d4.2 a (by simp; omega)).trans (s3 a ha))))
  have s9 : ∀ a, (a < x0 ∨ x0 + 10 < a ∨ a = x0) → ν9.1 a = ν.1 a := fun a ha => (d9.2 a (by simp; omega)).trans ((d8.2 a (by simp; omega)).trans (s7 a ha))
  have hL8 : ν3.1 x1 11 * (8 : Int32) = zI (gnL S * 8) := by
    rw [s3 x1 (by omega), b1]
    exact zI_mul (gnL S) 8
  have hwc : ν7.1 x1 13 = zI (xwc X) := by
    rw [s7 x1 (by omega), b3]
  have f9 : fr (cOL x0) ν ν9 := frt (frm d1 (by simp [cOL])) (frt (frm d2 (by simp [cOL])) (frt (frm d3 (by simp [cOL])) (frt (frm d4 (by simp [cOL])) (frt (frm d5 (by simp [cOL])) (frt (frm d6 (by simp [cOL])) (frt (frm d7 (by simp [cOL])) (frt (frm d8 (by simp [cOL])) (frm d9 (by simp [cOL])))))))))
  have z0 : x1 ≠ x0 := hn
  refine ⟨ax_uD (ax_uD (ax_uD (ax_uD (ax_uD (ax_uD (ax_uD ν9 x0 11 (ν9.1 x1 11)) x0 12 (ν9.1 x1 12)) x0 13 (ν9.1 x1 13)) x0 14 (ν9.1 x1 14)) x0 15 (ν9.1 x1 15)) x0 16 (ν9.1 x1 16)) x0 17 (ν9.1 x1 17), ?_, ?_, ?_⟩
  · rw [jl_1132 _ _ _ hx1 hx0]
    simp only [zI_lit] at c1 c2 c3 c5 c6 c7 c9 ⊢
    rw [c1, z_b0, c2, z_b0, c3, z_b0]
    simp only [zI_lit] at hL8
    rw [hL8, c4, z_b0, c5, z_b0, c6, z_b0, c7, z_b0, hwc, c8, z_b0, c9, z_b0]
    simp only [uD_ne z0]
  · have g9 : ∀ a k, a ≠ x0 → (ax_uD (ax_uD (ax_uD (ax_uD (ax_uD (ax_uD (ax_uD ν9 x0 11 (ν9.1 x1 11)) x0 12 (ν9.1 x1 12)) x0 13 (ν9.1 x1 13)) x0 14 (ν9.1 x1 14)) x0 15 (ν9.1 x1 15)) x0 16 (ν9.1 x1 16)) x0 17 (ν9.1 x1 17)).1 a k = ν9.1 a k := by
      intro a k ha
      simp only [uD_ne ha]
    have r1 : ∀ j, ν9.1 (x0 + 1) j = ν1.1 (x0 + 1) j := fun j => by rw [d9.2 _ (by simp), d8.2 _ (by simp), d7.2 _ (by simp), d6.2 _ (by simp), d5.2 _ (by simp), d4.2 _ (by simp), d3.2 _ (by simp), d2.2 _ (by simp)]
    have r2 : ∀ j, ν9.1 (x0 + 2) j = ν2.1 (x0 + 2) j := fun j => by rw [d9.2 _ (by simp), d8.2 _ (by simp), d7.2 _ (by simp), d6.2 _ (by simp), d5.2 _ (by simp), d4.2 _ (by simp), d3.2 _ (by simp)]
    have r3 : ∀ j, ν9.1 (x0 + 3) j = ν3.1 (x0 + 3) j := fun j => by rw [d9.2 _ (by simp), d8.2 _ (by simp), d7.2 _ (by simp), d6.2 _ (by simp), d5.2 _ (by simp), d4.2 _ (by simp)]
    have r4 : ∀ j, ν9.1 (x0 + 4) j = ν4.1 (x0 + 4) j := fun j => by rw [d9.2 _ (by simp), d8.2 _ (by simp), d7.2 _ (by simp), d6.2 _ (by simp), d5.2 _ (by simp)]
    have r5 : ∀ j, ν9.1 (x0 + 5) j = ν5.1 (x0 + 5) j := fun j => by rw [d9.2 _ (by simp), d8.2 _ (by simp), d7.2 _ (by simp), d6.2 _ (by simp)]
    have r6 : ∀ j, ν9.1 (x0 + 6) j = ν6.1 (x0 + 6) j := fun j => by rw [d9.2 _ (by simp), d8.2 _ (by simp), d7.2 _ (by simp)]
    have r7 : ∀ j, ν9.1 (x0 + 7) j = ν7.1 (x0 + 7) j := fun j => by rw [d9.2 _ (by simp), d8.2 _ (by simp)]
    have r9 : ∀ j, ν9.1 (x0 + 9) j = ν8.1 (x0 + 9) j := fun j => by rw [d9.2 _ (by simp)]
    have u2 : ∀ j, ν1.1 (x1 + 2) j = ν.1 (x1 + 2) j := fun j => by rw [d1.2 _ (by simp; omega)]
    have u3 : ∀ j, ν2.1 (x1 + 3) j = ν.1 (x1 + 3) j := fun j => by rw [d2.2 _ (by simp; omega), d1.2 _ (by simp; omega)]
    have u4 : ∀ j, ν3.1 (x1 + 4) j = ν.1 (x1 + 4) j := fun j => by rw [s3 _ (by omega)]
    have u5 : ∀ j, ν4.1 (x1 + 5) j = ν.1 (x1 + 5) j := fun j => by rw [d4.2 _ (by simp; omega), s3 _ (by omega)]
    have u6 : ∀ j, ν5.1 (x1 + 6) j = ν.1 (x1 + 6) j := fun j => by rw [d5.2 _ (by simp; omega), d4.2 _ (by simp; omega), s3 _ (by omega)]
    have u7 : ∀ j, ν6.1 (x1 + 7) j = ν.1 (x1 + 7) j := fun j => by rw [d6.2 _ (by simp; omega), d5.2 _ (by simp; omega), d4.2 _ (by simp; omega), s3 _ (by omega)]
    have u9 : ∀ j, ν7.1 (x1 + 9) j = ν.1 (x1 + 9) j := fun j => by rw [s7 _ (by omega)]
    have u10 : ∀ j, ν8.1 (x1 + 10) j = ν.1 (x1 + 10) j := fun j => by rw [d8.2 _ (by simp; omega), s7 _ (by omega)]
    have v1 : ∀ j : Nat, j < 30 → ν9.1 (x0 + 1) j = ν.1 (x1 + 1) j := fun j hj => (r1 j).trans (e1 j (by omega))
    have v2 : ∀ j : Nat, j < 132 → ν9.1 (x0 + 2) j = ν.1 (x1 + 2) j := fun j hj => (r2 j).trans ((e2 j (by omega)).trans (u2 j))
    have v3 : ∀ j : Nat, j < 60 → ν9.1 (x0 + 3) j = ν.1 (x1 + 3) j := fun j hj => (r3 j).trans ((e3 j (by omega)).trans (u3 j))
    have v4 : ∀ j : Nat, (j : Int) < gnL S * 8 → ν9.1 (x0 + 4) j = ν.1 (x1 + 4) j := fun j hj => (r4 j).trans ((e4 j hj).trans (u4 j))
    have v5 : ∀ j : Nat, j < 60 → ν9.1 (x0 + 5) j = ν.1 (x1 + 5) j := fun j hj => (r5 j).trans ((e5 j (by omega)).trans (u5 j))
    have v6 : ∀ j : Nat, j < 60 → ν9.1 (x0 + 6) j = ν.1 (x1 + 6) j := fun j hj => (r6 j).trans ((e6 j (by omega)).trans (u6 j))
    have v7 : ∀ j : Nat, j < 60 → ν9.1 (x0 + 7) j = ν.1 (x1 + 7) j := fun j hj => (r7 j).trans ((e7 j (by omega)).trans (u7 j))
    have v9 : ∀ j : Nat, (j : Int) < xwc X → ν9.1 (x0 + 9) j = ν.1 (x1 + 9) j := fun j hj => (r9 j).trans ((e8 j hj).trans (u9 j))
    have v10 : ∀ j : Nat, j < 7 → ν9.1 (x0 + 10) j = ν.1 (x1 + 10) j := fun j hj => (e9 j (by omega)).trans (u10 j)
    have vf : ∀ k, ν9.1 x1 k = ν.1 x1 k := fun k => by rw [s9 x1 (by omega)]
    unfold cP
    refine ⟨fun i i0 i1 => ?_, fun n f n0 n1 f0 f1 => ?_, fun n n0 n1 => ?_, fun n n0 n1 => ?_, fun i i0 i1 => ?_, fun k f k0 k1 f0 f1 => ?_, fun k k0 k1 => ?_, fun i i0 i1 => ?_, fun i i0 i1 => ?_, fun i i0 i1 => ?_, fun i i0 i1 => ?_, fun i i0 i1 => ?_, ?_, ?_, ?_, ?_, ?_, ?_, ?_⟩
    · rw [g9 _ _ (by omega), v1 _ (by omega)]; exact a1 i i0 i1
    · rw [g9 _ _ (by omega), v2 _ (by omega)]; exact a2 n f n0 n1 f0 f1
    · rw [g9 _ _ (by omega), v2 _ (by omega)]; exact a3 n n0 n1
    · rw [g9 _ _ (by omega), v2 _ (by omega)]; exact a4 n n0 n1
    · rw [g9 _ _ (by omega), v3 _ (by omega)]; exact a5 i i0 i1
    · rw [g9 _ _ (by omega), v4 _ (by omega)]; exact a6 k f k0 k1 f0 f1
    · rw [g9 _ _ (by omega), v4 _ (by omega)]; exact a7 k k0 k1
    · rw [g9 _ _ (by omega), v5 _ (by omega)]; exact a8 i i0 i1
    · rw [g9 _ _ (by omega), v6 _ (by omega)]; exact a9 i i0 i1
    · rw [g9 _ _ (by omega), v7 _ (by omega)]; exact a10 i i0 i1
    · rw [g9 _ _ (by omega), v9 _ (by omega)]; exact a11 i i0 i1
    · rw [g9 _ _ (by omega), v10 _ (by omega)]; exact a12 i i0 i1
    · rw [uD_nk (by decide), uD_nk (by decide), uD_nk (by decide), uD_nk (by decide), uD_nk (by decide), uD_nk (by decide), uD_at, vf]; exact b1
    · rw [uD_nk (by decide), uD_nk (by decide), uD_nk (by decide), uD_nk (by decide), uD_nk (by decide), uD_at, vf]; exact b2
    · rw [uD_nk (by decide), uD_nk (by decide), uD_nk (by decide), uD_nk (by decide), uD_at, vf]; exact b3
    · rw [uD_nk (by decide), uD_nk (by decide), uD_nk (by decide), uD_at, vf]; exact b4
    · rw [uD_nk (by decide), uD_nk (by decide), uD_at, vf]; exact b5
    · rw [uD_nk (by decide), uD_at, vf]; exact b6
    · rw [uD_at, vf]; exact b7
  · have m0 : x0 ∈ cOL x0 := by simp [cOL]
    exact frt f9 (frt (fr_uD m0) (frt (fr_uD m0) (frt (fr_uD m0) (frt (fr_uD m0) (frt (fr_uD m0) (frt (fr_uD m0) (fr_uD m0)))))))
