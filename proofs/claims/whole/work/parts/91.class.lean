/-! c: BEGIN, all its ways -/
theorem rs_gW {G : gG} {n b lv td st : Int} {T : gS} {w : Int} (hr : hRs G T) (hw : hW G w) (hlv : -1 ≤ lv ∧ lv ≤ gnL T + 1) (htd : -1 ≤ td ∧ td < gE G) (hst : 0 ≤ st ∧ st ≤ 2) : hRs G (gW G n b lv td st T w) := by
  have hw0 := hw.1
  have hw1 := hw.2
  have h3 : hRs G (gse G T n (w / 2) 1 lv td st) := rs_gse hr (by omega) (by omega) (by omega) hlv htd (by omega) (fun q => hst.1)
  unfold gW
  split
  · split
    · exact rs_gsN7 h3
    · exact h3
  · exact hr
theorem lt_gW {G : gG} {n b lv td st : Int} {T : gS} {w : Int} {k f : Int} (k1 : k < gnL T) : glt (gW G n b lv td st T w) k f = glt T k f := by
  have h3 := (fr_gse (G := G) (n := n) (m := n) (e := w / 2) (kd := 1) (lv := lv) (td := td) (st := st) (S := T)).2.2.2.1 k f k1
  unfold gW
  split
  · split
    · exact h3
    · exact h3
  · rfl
theorem c_bgL {o : Nat} (h : cO o) {G : gG} {S : gS} {μ : ax_M} {n b lv td st k : Int} {fin : Int32} (hg : hGok G) (hr : hRs G S) (hn0 : 0 ≤ n) (hn1 : n < 12) (hb : hW G b) (hbn : gsd G b = n) (k0 : 0 ≤ k) (k1 : k < gnL S) (hL2 : glt S k 2 = lv) (hL3 : glt S k 3 = td) (hL4 : glt S k 4 = st) (hst : 0 ≤ st ∧ st ≤ 2) (hfin : fin = if st = 1 then 1 else 0) (hL : gnL (gbgR G n (hed b) lv td st S (gE G).toNat) ≤ 256) : ∀ m f : Nat, f + m = (gE G).toNat → ∀ X, XR G (gbgR G n (hed b) lv td st S f) X → ∃ X', aJ 1246 [.ref o, .int (zI k), .int (zI n), .int (zI b), .int fin, .int (zI (2 * (f : Int)))] [] (cM o G (gbgR G n (hed b) lv td st S f) X μ) = aJ 1246 [.ref o, .int (zI k), .int (zI n), .int (zI b), .int fin, .int (zI (2 * gE G))] [] (cM o G (gbgR G n (hed b) lv td st S (gE G).toNat) X' μ) ∧ XR G (gbgR G n (hed b) lv td st S (gE G).toNat) X' := by
  have hE0 := hg.2.2.1
  obtain ⟨l0, l1, l2, l3, l4, l5, l6, l7⟩ := hr.2.2.2 k k0 k1
  rw [hL2] at l2
  rw [hL3] at l3
  intro m
  induction m with
  | zero =>
    intro f hf X hX
    have e1 : f = (gE G).toNat := by omega
    have e2 : (f : Int) = gE G := by omega
    rw [e2, e1]
    rw [e1] at hX
    exact ⟨X, rfl, hX⟩
  | succ m ih =>
    intro f hf X hX
    have hf1 : (f : Int) < gE G := by omega
    have hrT := rs_gbgR (n := n) (e := hed b) (lv := lv) (td := td) (st := st) hr l2 l3 hst f (by omega)
    have hmono := gbg_mono (G := G) (n := n) (e := hed b) (lv := lv) (td := td) (st := st) (S := S) (f + 1) m
    have hmo2 := (gbg_fr (G := G) (n := n) (e := hed b) (lv := lv) (td := td) (st := st) (S := S) f).2.2.2.2
    have hfr := (fr_gbgR (G := G) (n := n) (e := hed b) (lv := lv) (td := td) (st := st) (S := S) f).2.2.2.1
    have hfm : f + 1 + m = (gE G).toNat := by omega
    rw [hfm] at hmono
    have ht := gW_two (S := S) (lv := lv) (td := td) (st := st) hg hb hbn f hf1
    have ih1 := ih (f + 1) hfm
    have e3 : ((f + 1 : Nat) : Int) = (f : Int) + 1 := by omega
    have e4 : 2 * ((f : Int) + 1) = 2 * (f : Int) + 1 + 1 := by omega
    rw [← ht, e3, e4] at ih1
    rw [← ht] at hmono
    have f2 := hfr k 2 k1
    have f3 := hfr k 3 k1
    have f4 := hfr k 4 k1
    generalize gbgR G n (hed b) lv td st S f = T at *
    have hm1 := gW_L (G := G) (n := n) (b := b) (lv := lv) (td := td) (st := st) (T := T) (w := 2 * (f : Int))
    have hm2 := gW_L (G := G) (n := n) (b := b) (lv := lv) (td := td) (st := st) (T := gW G n b lv td st T (2 * (f : Int))) (w := 2 * (f : Int) + 1)
    have hw1 : hW G (2 * (f : Int)) := ⟨by omega, by omega⟩
    have hw2 : hW G (2 * (f : Int) + 1) := ⟨by omega, by omega⟩
    have hkT : k < gnL T := by omega
    obtain ⟨X1, q1, x1⟩ := c_one (μ := μ) (n := n) (b := b) (lv := lv) (td := td) (st := st) (w := 2 * (f : Int)) (k := k) (fin := fin) h hg hrT hX hn0 hn1 hb hw1 k0 hkT (f2.trans hL2) (f3.trans hL3) (f4.trans hL4) hfin (by omega)
    have hr1 := rs_gW (n := n) (b := b) (lv := lv) (td := td) (st := st) hrT hw1 (by omega) l3 hst
    have g2 := lt_gW (G := G) (n := n) (b := b) (lv := lv) (td := td) (st := st) (w := 2 * (f : Int)) (f := 2) hkT
    have g3 := lt_gW (G := G) (n := n) (b := b) (lv := lv) (td := td) (st := st) (w := 2 * (f : Int)) (f := 3) hkT
    have g4 := lt_gW (G := G) (n := n) (b := b) (lv := lv) (td := td) (st := st) (w := 2 * (f : Int)) (f := 4) hkT
    obtain ⟨X2, q2, x2⟩ := c_one (μ := μ) (n := n) (b := b) (lv := lv) (td := td) (st := st) (w := 2 * (f : Int) + 1) (k := k) (fin := fin) h hg hr1 x1 hn0 hn1 hb hw2 k0 (by omega) (g2.trans (f2.trans hL2)) (g3.trans (f3.trans hL3)) (g4.trans (f4.trans hL4)) hfin (by omega)
    obtain ⟨X3, q3, x3⟩ := ih1 X2 x2
    rw [q1, q2]
    exact ⟨X3, q3, x3⟩
/-- BEGIN -/
theorem c_k1 {o : Nat} (h : cO o) {G : gG} {S : gS} {X : cX} {μ : ax_M} {b k : Int} (hg : hGok G) (hw : hGw G) (hr : hRs G S) (hx : XR G S X) (hb : hW G b) (k0 : 0 ≤ k) (k1 : k < gnL S) (hk : glt S k 0 = 1) (hl2 : 0 ≤ glt S k 2) (r7 : -900 ≤ gnd S (gsd G b) 7 ∧ gnd S (gsd G b) 7 ≤ 900) (hL : gnL (hbg G S (gsd G b) (hed b) k) ≤ 256) : ∃ X', aJ 1231 [.ref o, .int (zI k), .int (zI (gsd G b)), .int (zI b)] [] (cM o G S X μ) = some (none, cM o G (hbg G S (gsd G b) (hed b) k) X' μ) ∧ XR G (hbg G S (gsd G b) (hed b) k) X' := by
  have hE := hg.2.2.2.1
  have hE0 := hg.2.2.1
  have hN := hg.2.1
  have hn := h_sdr hg hb
  have hb0 := hb.1
  have hb1 := hb.2
  have hgw := h_wy hg hb
  have he0 : 0 ≤ hed b := by unfold hed; omega
  have he1 : hed b < gE G := by unfold hed; omega
  have hn0 : 0 ≤ gsd G b := hn.1
  have hn1 : gsd G b < 12 := by omega
  have hh : zI b / (2 : Int32) = zI (hed b) := m_half hb0 (by omega)
  obtain ⟨l0, l1, l2, l3, l4, l5, l6, l7⟩ := hr.2.2.2 k k0 k1
  have hst : 0 ≤ glt S k 4 ∧ glt S k 4 ≤ 2 := ⟨l5 hk, l4.2⟩
  have hLS : gnL S ≤ 256 := by
    have := (fr_hbg (G := G) (n := gsd G b) (e := hed b) (k := k) (S := S)).2.2.1
    omega
  have eh : gsN (gsN (gsN (gsN (gsN (gsN S (gsd G b) 1 (glt S k 2)) (gsd G b) 2 (glt S k 3)) (gsd G b) 0 (glt S k 4)) (gsd G b) 3 (hed b)) (gsd G b) 4 (-1)) (gsd G b) 5 (-1) = hbs S (gsd G b) (hed b) k := rfl
  have hrB : hRs G (hbs S (gsd G b) (hed b) k) := by
    unfold hbs
    refine rs_gsN (rs_gsN (rs_gsN (rs_gsN (rs_gsN (rs_gsN hr ?_) ?_) ?_) ?_) ?_) ?_
    · exact ⟨fun q => by omega, fun q => ⟨hl2, l2.2⟩, fun q => by omega, fun q => by omega⟩
    · exact ⟨fun q => by omega, fun q => by omega, fun q => l3, fun q => by omega⟩
    · exact ⟨fun q => ⟨l5 hk, l4.2⟩, fun q => by omega, fun q => by omega, fun q => by omega⟩
    · exact ⟨fun q => by omega, fun q => by omega, fun q => ⟨by omega, he1⟩, fun q => by omega⟩
    · exact ⟨fun q => by omega, fun q => by omega, fun q => by omega, fun q => by omega⟩
    · exact ⟨fun q => by omega, fun q => by omega, fun q => by omega, fun q => by omega⟩
  have hxB : XR G (hbs S (gsd G b) (hed b) k) X := XR_N (XR_N (XR_N (XR_N (XR_N (XR_N hx)))))
  have s3 : gnd (hbs S (gsd G b) (hed b) k) (gsd G b) 3 = hed b := by simp [hbs, gnd, gsN]
  have s7 : gnd (hbs S (gsd G b) (hed b) k) (gsd G b) 7 = gnd S (gsd G b) 7 := by simp [hbs, gnd, gsN]
  have hbody : ∀ fin : Int32, fin = (if glt S k 4 = 1 then 1 else 0) → aJ 1245 [.ref o, .int (zI k), .int (zI (gsd G b)), .int (zI b)] [.int fin] (cM o G S X μ) = aJ 1246 [.ref o, .int (zI k), .int (zI (gsd G b)), .int (zI b), .int fin, .int (zI (2 * ((0 : Nat) : Int)))] [] (cM o G (hbs S (gsd G b) (hed b) k) X μ) := by
    intro fin hfin
    have e3 : glt (gsN S (gsd G b) 1 (glt S k 2)) k 3 = glt S k 3 := rfl
    have e4 : glt (gsN (gsN S (gsd G b) 1 (glt S k 2)) (gsd G b) 2 (glt S k 3)) k 4 = glt S k 4 := rfl
    have z0 : zI (2 * ((0 : Nat) : Int)) = (0 : Int32) := rfl
    rw [jl_1245 _ _ _ _ _ _ h, c_tl2 h k0 k1 hLS, z_b1, c_nt1 h (v := glt S k 2) hn0 hn1 rfl, z_b0, c_tl3 (S := gsN S (gsd G b) 1 (glt S k 2)) h k0 k1 hLS, z_b1, e3, c_nt2 h (v := glt S k 3) hn0 hn1 rfl, z_b0, c_tl4 (S := gsN (gsN S (gsd G b) 1 (glt S k 2)) (gsd G b) 2 (glt S k 3)) h k0 k1 hLS, z_b1, e4, c_nt0 h (v := glt S k 4) hn0 hn1 rfl, z_b0, c_nt3 h (v := hed b) hn0 hn1 hh, z_b0, c_nt4 h (v := -1) hn0 hn1 zlm, z_b0, c_nt5 h (v := -1) hn0 hn1 zlm, z_b0, eh, z0]
  have hL1 : gnL (gbgR G (gsd G b) (hed b) (glt S k 2) (glt S k 3) (glt S k 4) (hbs S (gsd G b) (hed b) k) (gE G).toNat) ≤ 256 := by
    unfold hbg at hL
    simp only at hL
    split at hL
    · have := (fr_hte (G := G) (n := gsd G b) (S := gbgR G (gsd G b) (hed b) (glt S k 2) (glt S k 3) (glt S k 4) (hbs S (gsd G b) (hed b) k) (gE G).toNat)).2.2.1
      omega
    · exact hL
  have hloop : ∀ fin : Int32, fin = (if glt S k 4 = 1 then 1 else 0) → ∃ X', aJ 1245 [.ref o, .int (zI k), .int (zI (gsd G b)), .int (zI b)] [.int fin] (cM o G S X μ) = aJ 1250 [.int fin] [] (cM o G (gbgR G (gsd G b) (hed b) (glt S k 2) (glt S k 3) (glt S k 4) (hbs S (gsd G b) (hed b) k) (gE G).toNat) X' μ) ∧ XR G (gbgR G (gsd G b) (hed b) (glt S k 2) (glt S k 3) (glt S k 4) (hbs S (gsd G b) (hed b) k) (gE G).toNat) X' := by
    intro fin hfin
    obtain ⟨X', q1, q2⟩ := c_bgL (S := hbs S (gsd G b) (hed b) k) (μ := μ) (n := gsd G b) (b := b) (lv := glt S k 2) (td := glt S k 3) (st := glt S k 4) (k := k) (fin := fin) h hg hrB hn0 hn1 hb rfl k0 k1 rfl rfl rfl hst hfin hL1 (gE G).toNat 0 (by omega) X hxB
    rw [hbody fin hfin]
    refine ⟨X', ?_, q2⟩
    have q1' := q1
    rw [show gbgR G (gsd G b) (hed b) (glt S k 2) (glt S k 3) (glt S k 4) (hbs S (gsd G b) (hed b) k) 0 = hbs S (gsd G b) (hed b) k from rfl] at q1'
    rw [q1', jl_1246 _ _ _ _ _ _ _ h, c_wcnt h, z_b1, i_le (zR_of (by omega)) (zR_of (by omega)), if_pos (Int.le_refl _)]
  have hrR := rs_gbgR (n := gsd G b) (e := hed b) (lv := glt S k 2) (td := glt S k 3) (st := glt S k 4) hrB l2 l3 hst (gE G).toNat (by omega)
  obtain ⟨f1, f2, f3, f4, f5⟩ := gbg_fr (G := G) (n := gsd G b) (e := hed b) (lv := glt S k 2) (td := glt S k 3) (st := glt S k 4) (S := hbs S (gsd G b) (hed b) k) (gE G).toNat
  have t3 := f2 3 (by omega)
  rw [s3] at t3
  rw [s7] at f3
  unfold hbg at hL ⊢
  simp only at hL ⊢
  rw [jl_1231 _ _ _ _ _ h, jl_1243 _ _ _ _ _ h, c_tl4 h k0 k1 hLS, z_b1, j_eq rfl zl1 (zR_of (by omega)) (zR_of (by omega))]
  by_cases q : glt S k 4 = 1
  · rw [if_pos q] at hL
    rw [if_pos q, if_pos q]
    obtain ⟨X', q1, q2⟩ := hloop 1 (by rw [if_pos q])
    have e0 : ¬ (1 : Int32) = 0 := by decide
    rw [q1, jl_1250, if_neg e0, jl_1252, z_b1]
    exact c_th1 h hg hw hrR q2 hn0 hn1 (by omega) (by rw [t3]; intro _; rw [hgw]) hL
  · rw [if_neg q] at hL
    rw [if_neg q, if_neg q, jl_1244]
    obtain ⟨X', q1, q2⟩ := hloop 0 (by rw [if_neg q])
    rw [q1, jl_1250, if_pos rfl, jl_1251, jl_1252, z_b1, c_th0 h]
    exact ⟨X', rfl, q2⟩
