/-! c: BEGIN -/
def gW (G : gG) (n b lv td st : Int) (T : gS) (w : Int) : gS := if w ≠ b ∧ gsd G w = n ∧ gen T w = 1 then (if st = 1 then gsN (gse G T n (w / 2) 1 lv td st) n 7 (gnd (gse G T n (w / 2) 1 lv td st) n 7 + 1) else gse G T n (w / 2) 1 lv td st) else T
theorem gW_two {G : gG} {n b lv td st : Int} {S : gS} (hg : hGok G) (hb : hW G b) (hbn : gsd G b = n) (e : Nat) (he : (e : Int) < gE G) : gW G n b lv td st (gW G n b lv td st (gbgR G n (hed b) lv td st S e) (2 * (e : Int))) (2 * (e : Int) + 1) = gbgR G n (hed b) lv td st S (e + 1) := by
  have hne := (hg.2.2.2.2 e (by omega) he).2.2.2.2
  have e1 : (2 * (e : Int)) / 2 = e := by omega
  have e2 : (2 * (e : Int) + 1) / 2 = e := by omega
  have hs : gbgR G n (hed b) lv td st S (e + 1) = if (e : Int) = hed b ∨ ¬ (gfr G e = n ∨ gsc G e = n) ∨ gen (gbgR G n (hed b) lv td st S e) (gwy G n e) ≠ 1 then gbgR G n (hed b) lv td st S e else (if st = 1 then gsN (gse G (gbgR G n (hed b) lv td st S e) n e 1 lv td st) n 7 (gnd (gse G (gbgR G n (hed b) lv td st S e) n e 1 lv td st) n 7 + 1) else gse G (gbgR G n (hed b) lv td st S e) n e 1 lv td st) := rfl
  rw [hs]
  generalize gbgR G n (hed b) lv td st S e = T
  have hbw : gwy G n (hed b) = b := by rw [← hbn]; exact h_wy hg hb
  unfold gW
  rw [gsd_2, gsd_21, e1, e2]
  by_cases q : gfr G e = n
  · have q2 : ¬ gsc G e = n := fun x => hne (q.trans x.symm)
    rw [if_neg (fun x => q2 x.2.1)]
    have hwy : gwy G n e = 2 * (e : Int) := by unfold gwy; rw [if_pos q]
    rw [hwy]
    by_cases c : (e : Int) = hed b
    · have hb2 : 2 * (e : Int) = b := by rw [← hwy, c]; exact hbw
      rw [if_neg (fun x => x.1 hb2), if_pos (Or.inl c)]
    · have hb2 : 2 * (e : Int) ≠ b := by
        intro x
        apply c
        unfold hed
        omega
      by_cases d : gen T (2 * (e : Int)) = 1
      · have hc : ¬ ((e : Int) = hed b ∨ ¬ (gfr G e = n ∨ gsc G e = n) ∨ gen T (2 * (e : Int)) ≠ 1) := by
          rintro (x | x | x)
          · exact c x
          · exact x (Or.inl q)
          · exact x d
        rw [if_pos ⟨hb2, q, d⟩, if_neg hc]
      · rw [if_neg (fun x => d x.2.2), if_pos (Or.inr (Or.inr d))]
  · have hin : ¬ (2 * (e : Int) ≠ b ∧ gfr G e = n ∧ gen T (2 * (e : Int)) = 1) := fun x => q x.2.1
    rw [if_neg hin]
    have hwy : gwy G n e = 2 * (e : Int) + 1 := by unfold gwy; rw [if_neg q]
    rw [hwy]
    by_cases r : gsc G e = n
    · by_cases c : (e : Int) = hed b
      · have hb2 : 2 * (e : Int) + 1 = b := by rw [← hwy, c]; exact hbw
        rw [if_neg (fun x => x.1 hb2), if_pos (Or.inl c)]
      · have hb2 : 2 * (e : Int) + 1 ≠ b := by
          intro x
          apply c
          unfold hed
          omega
        by_cases d : gen T (2 * (e : Int) + 1) = 1
        · have hc : ¬ ((e : Int) = hed b ∨ ¬ (gfr G e = n ∨ gsc G e = n) ∨ gen T (2 * (e : Int) + 1) ≠ 1) := by
            rintro (x | x | x)
            · exact c x
            · exact x (Or.inr r)
            · exact x d
          rw [if_pos ⟨hb2, r, d⟩, if_neg hc]
        · rw [if_neg (fun x => d x.2.2), if_pos (Or.inr (Or.inr d))]
    · rw [if_neg (fun x => r x.2.1), if_pos (Or.inr (Or.inl (fun x => x.elim q r)))]
theorem gW_L {G : gG} {n b lv td st : Int} {T : gS} {w : Int} : gnL T ≤ gnL (gW G n b lv td st T w) := by
  unfold gW
  split
  · split
    · rw [hk_gsN, hk_gse]
      omega
    · rw [hk_gse]
      omega
  · omega
theorem c_one {o : Nat} (h : cO o) {G : gG} {T : gS} {X : cX} {μ : ax_M} {n b lv td st w k : Int} {fin : Int32} (hg : hGok G) (hr : hRs G T) (hx : XR G T X) (hn0 : 0 ≤ n) (hn1 : n < 12) (hb : hW G b) (hw : hW G w) (k0 : 0 ≤ k) (k1 : k < gnL T) (hL2 : glt T k 2 = lv) (hL3 : glt T k 3 = td) (hL4 : glt T k 4 = st) (hfin : fin = if st = 1 then 1 else 0) (hL : gnL (gW G n b lv td st T w) ≤ 256) : ∃ X', aJ 1246 [.ref o, .int (zI k), .int (zI n), .int (zI b), .int fin, .int (zI w)] [] (cM o G T X μ) = aJ 1246 [.ref o, .int (zI k), .int (zI n), .int (zI b), .int fin, .int (zI (w + 1))] [] (cM o G (gW G n b lv td st T w) X' μ) ∧ XR G (gW G n b lv td st T w) X' := by
  have hE := hg.2.2.2.1
  have hE0 := hg.2.2.1
  have hN := hg.2.1
  have hw0 := hw.1
  have hw1 := hw.2
  have hb0 := hb.1
  have hb1 := hb.2
  have hs := h_sdr hg hw
  have hen := hr.1 w
  have hLT := gW_L (G := G) (n := n) (b := b) (lv := lv) (td := td) (st := st) (T := T) (w := w)
  have hnx : ∀ M, aJ 1249 [.ref o, .int (zI k), .int (zI n), .int (zI b), .int fin, .int (zI w)] [] M = aJ 1246 [.ref o, .int (zI k), .int (zI n), .int (zI b), .int fin, .int (zI (w + 1))] [] M := by
    intro M
    have h3 : zI w + (1 : Int32) = zI (w + 1) := zI_add w 1
    rw [jl_1249, h3]
  rw [jl_1246 _ _ _ _ _ _ _ h, c_wcnt h, z_b1, i_le (zR_of (by omega)) (zR_of (by omega)), if_neg (by omega), i_eq (zR_of (by omega)) (zR_of (by omega))]
  unfold gW at hL ⊢
  by_cases q : w = b
  · rw [if_pos q, if_neg (fun x => x.1 q), hnx]
    exact ⟨X, rfl, hx⟩
  · rw [if_neg q, c_sd h hw0 (by omega), z_b1, i_eq (zR_of (by omega)) (zR_of (by omega))]
    by_cases r : gsd G w = n
    · rw [if_pos r, c_en h hw0 (by omega), z_b1, j_eq rfl zl1 (zR_of (by omega)) (zR_of (by omega))]
      by_cases d : gen T w = 1
      · rw [if_pos ⟨q, r, d⟩] at hL
        rw [if_pos d, if_pos ⟨q, r, d⟩]
        obtain ⟨l0, l1, l2, l3, l4, l5, l6, l7⟩ := hr.2.2.2 k k0 k1
        have hgw : gwy G n (w / 2) = w := by rw [← r]; exact h_wy hg hw
        have hLS : gnL T < 256 := by
          split at hL
          · rw [hk_gsN, hk_gse] at hL
            omega
          · rw [hk_gse] at hL
            omega
        rw [c_tl2 h k0 k1 (by omega), z_b1, c_tl3 h k0 k1 (by omega), z_b1, c_tl4 h k0 k1 (by omega), z_b1, hL2, hL3, hL4]
        obtain ⟨X', h2, h3⟩ := c_SE (S := T) (X := X) (μ := μ) (n := n) (e := w / 2) (kd := 1) (lv := lv) (td := td) (st := st) h hg hr hx hn0 hn1 (by omega) (by omega) (by rw [hgw]; exact r) (by omega) (by omega) hLS zl1 rfl rfl rfl
        rw [hgw] at h2
        rw [h2, z_b0, c_of7 h hn0 hn1, z_b1]
        by_cases s : st = 1
        · have hf1 : ¬ fin = 0 := by rw [hfin, if_pos s]; decide
          rw [if_neg hf1, if_pos s, jl_1248 _ _ _ _ _ _ _ _ _ _ _ _ h, c_nt7 h (v := gnd (gse G T n (w / 2) 1 lv td st) n 7 + 1) hn0 hn1 (zI_a1 _), z_b0, hnx]
          exact ⟨X', rfl, XR_N h3⟩
        · have hf0 : fin = 0 := by rw [hfin, if_neg s]
          have hz : zI (gnd (gse G T n (w / 2) 1 lv td st) n 7) + (0 : Int32) = zI (gnd (gse G T n (w / 2) 1 lv td st) n 7 + 0) := zI_add _ 0
          rw [if_pos hf0, if_neg s, jl_1247, jl_1248 _ _ _ _ _ _ _ _ _ _ _ _ h, c_nt7 h (v := gnd (gse G T n (w / 2) 1 lv td st) n 7 + 0) hn0 hn1 hz, z_b0, hnx, gsN_self (show gnd (gse G T n (w / 2) 1 lv td st) n 7 = gnd (gse G T n (w / 2) 1 lv td st) n 7 + 0 by omega)]
          exact ⟨X', rfl, h3⟩
      · rw [if_neg d, if_neg (fun x => d x.2.2), hnx]
        exact ⟨X, rfl, hx⟩
    · rw [if_neg r, if_neg (fun x => r x.2.1), hnx]
      exact ⟨X, rfl, hx⟩
