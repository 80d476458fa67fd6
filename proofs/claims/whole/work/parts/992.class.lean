/-! c: pullFrom -/
theorem c_pull {o : Nat} (h : cO o) {G : gG} {S : gS} {X : cX} {μ : ax_M} {w : Int} (hg : hGok G) (hr : hRs G S) (hx : XR G S X) (hw : hW G w) (hL : gnL S ≤ 256) : aJ 1198 [.ref o, .int (zI w)] [] (cM o G S X μ) = if gfi S w = -1 then some (some (.int (-1)), cM o G S X μ) else some (some (.int (zI (gfi S w))), cM o G S (cPX X w (gfi S w)) μ) := by
  have hE := hg.2.2.2.1
  have h0 := hr.2.2.1
  have hw0 := hw.1
  have hw1 := hw.2
  have c1 := hx.1 w hw0 (by omega)
  have c1' : nOn S w ≤ (gnL S).toNat := pct_le
  have c2 := hx.2.1 w hw0 (by omega)
  have hno := gfi_no (S := S) (w := w) h0
  rw [jl_1198 _ _ _ h, j_lt rfl zl0 (zR_of (by omega)) (zR_of (by omega)), if_neg (by omega), c_wcnt h, z_b1, i_le (zR_of (by omega)) (zR_of (by omega)), if_neg (by omega), c_oe h hw0 (by omega), z_b1, j_eq rfl zl0 (zR_of (by omega)) (zR_of (by omega))]
  by_cases q : gfi S w = -1
  · have q2 : xoe X w = 0 := by
      rw [c1, hno.mpr q]
      rfl
    rw [if_pos q2, if_pos q, jl_1199]
  · have q2 : ¬ xoe X w = 0 := by
      intro z
      exact q (hno.mp (by omega))
    have hk : 0 ≤ gfi S w ∧ gfi S w < gnL S := by
      rcases h_gfi (S := S) (w := w) h0 with z | z
      · exact absurd z.1 q
      · exact ⟨z.1, z.2.1⟩
    rw [if_neg q2, if_neg q, jl_1200 _ _ _ h, c_fo h hw0 (by omega), z_b1, c2, c_tl7 h hk.1 hk.2 hL, z_b1]
    obtain ⟨fo, lo, oe, af, wl, so, wn, ow, wc, hd, dp⟩ := X
    have hwf : aJ 849 [.ref (o + 5), .int (zI w), .int (zI (af (gfi S w)))] [] (cM o G S (fo, lo, oe, af, wl, so, wn, ow, wc, hd, dp) μ) = some (none, cM o G S (pu fo w (af (gfi S w)), lo, oe, af, wl, so, wn, ow, wc, hd, dp) μ) := by
      rw [c_put (sh_5 h) (by omega) hw0 (by omega), c_wfo h hw0 (by omega)]
    have hzm : zI (oe w) - (1 : Int32) = zI (oe w - 1) := zI_s1 (oe w)
    have hwo : aJ 849 [.ref (o + 7), .int (zI w), .int (zI (oe w) - (1 : Int32))] [] (cM o G S (pu fo w (af (gfi S w)), lo, oe, af, wl, so, wn, ow, wc, hd, dp) μ) = some (none, cM o G S (pu fo w (af (gfi S w)), lo, pu oe w (oe w - 1), af, wl, so, wn, ow, wc, hd, dp) μ) := by
      rw [hzm, c_put (sh_7 h) (by omega) hw0 (by omega), c_woe h hw0 (by omega)]
    have e12 : (cM o G S (pu fo w (af (gfi S w)), lo, pu oe w (oe w - 1), af, wl, so, wn, ow, wc, hd, dp) μ).1 o 12 - (1 : Int32) = zI (ow - 1) := by
      rw [c_ow h]
      exact zI_s1 ow
    show ax_b0 (aJ 849 [.ref (o + 5), .int (zI w), .int (zI (af (gfi S w)))] [] (cM o G S (fo, lo, oe, af, wl, so, wn, ow, wc, hd, dp) μ)) _ = _
    rw [hwf, z_b0, c_oe h hw0 (by omega), z_b1]
    show ax_b0 (aJ 849 [.ref (o + 7), .int (zI w), .int (zI (oe w) - (1 : Int32))] [] (cM o G S (pu fo w (af (gfi S w)), lo, oe, af, wl, so, wn, ow, wc, hd, dp) μ)) _ = _
    rw [hwo, z_b0, e12, u_fow h]
    rfl
