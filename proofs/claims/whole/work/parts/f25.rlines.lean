/-! o: rule: a line -/
theorem q_ptn {T : Int → Int} {L M : Int} {N : qNm} {R : gR} {p w l : Int} (hT : tBy T L) (hM : 0 ≤ M ∧ M ≤ 1000) (hN : nOK N) (hR : rok R) (hn : rLn R < 10) (hw : 0 ≤ w ∧ w ≤ 7) (hl : l = 0 ∨ l = 1) (p0 : 0 ≤ p) (p1 : p ≤ L) : (∃ k pl, (1 ≤ k ∧ k ≤ 4) ∧ (0 ≤ pl ∧ pl ≤ L) ∧ (∀ ν (i : Int32), rdC T L M p ν → wC N R ν → ∃ ν', fr [2, 21, 22, 23, 24, 25, 26] ν ν' ∧ ν'.1 2 7 = ν.1 2 7 ∧ (ax_b0 (aJ 1082 [.ref 21, .int (zI w), .int (zI l)] [] ν) fun μ1 => aJ 976 [.ref 2, .ref 21, .ref 3, .int i] [] μ1) = some (some (.int 0), ν') ∧ ν'.1 2 8 = zI k ∧ ν'.1 2 9 = zI pl) ∧ (∀ ν (x : Int32), rtM T L M (tok T L M p) ν → wM N R ν → ∃ ν', nfr ν ν' ∧ rEnd (aJ 157 [.ref 207, .int (zI (63 + 11 * rLn R)), .int (zI (-1)), .int (zI w)] [.int (zI l), .int (zI (63 + 11 * rLn R)), .ref 210] ν) x = aJ 167 [.ref 207, .int x] [] ν' ∧ ν'.1 207 9 = zI k ∧ ν'.1 207 11 = zI pl)) ∨ ∃ R' p', rok R' ∧ rLn R' = rLn R + 1 ∧ p ≤ p' ∧ p' ≤ L ∧ (∀ ν (i : Int32), rdC T L M p ν → wC N R ν → ∃ ν', fr [2, 21, 22, 23, 24, 25, 26] ν ν' ∧ ν'.1 2 7 = ν.1 2 7 ∧ (ax_b0 (aJ 1082 [.ref 21, .int (zI w), .int (zI l)] [] ν) fun μ1 => aJ 976 [.ref 2, .ref 21, .ref 3, .int i] [] μ1) = aJ 978 [.ref 2, .ref 21, .ref 3, .int i] [] ν' ∧ rdC T L M p' ν' ∧ ν'.1 2 8 = ν.1 2 8 ∧ wC N R' ν') ∧ (∀ ν (x : Int32), rtM T L M (tok T L M p) ν → wM N R ν → ∃ ν', nfr ν ν' ∧ rEnd (aJ 157 [.ref 207, .int (zI (63 + 11 * rLn R)), .int (zI (-1)), .int (zI w)] [.int (zI l), .int (zI (63 + 11 * rLn R)), .ref 210] ν) x = aJ 168 [.ref 207, .int x] [] ν' ∧ rtM T L M (tok T L M p') ν' ∧ ν'.1 207 9 = ν.1 207 9 ∧ wM N R' ν') := by
  have n0 := hR.1.1
  have hok := rad_ok (w := w) (l := l) hR hn (by omega) hl
  have hL1 : rLn (rad R w l) - 1 = rLn R := by
    show rLn R + 1 - 1 = rLn R
    omega
  have hC1 : rCn (rad R w l) (rLn (rad R w l) - 1) = 0 := by
    rw [hL1]
    exact pu_at
  have hC : ∀ ν (i : Int32), rdC T L M p ν → wC N R ν → ∃ ν1, (ax_b0 (aJ 1082 [.ref 21, .int (zI w), .int (zI l)] [] ν) fun μ1 => aJ 976 [.ref 2, .ref 21, .ref 3, .int i] [] μ1) = (ax_b1 (aJ 1001 [.ref 2, .ref 21, .ref 3, .int (zI (rCn (rad R w l) (rLn (rad R w l) - 1)))] [] ν1) fun v2 μ1 => if v2 = 0 then aJ 977 [] [] μ1 else aJ 978 [.ref 2, .ref 21, .ref 3, .int i] [] μ1) ∧ rdC T L M p ν1 ∧ wC N (rad R w l) ν1 ∧ fr [2, 21, 22, 23, 24, 25, 26] ν ν1 ∧ ν1.1 2 7 = ν.1 2 7 ∧ ν1.1 2 8 = ν.1 2 8 := by
    intro ν i hr hw'
    obtain ⟨ν1, a1, a2, a3⟩ := q_adl (w := w) hR hn hl hw'
    refine ⟨ν1, ?_, rdC_fr a3 (by decide) (by decide) hr, a2, frm a3 (by simp), fr_at a3 (by decide) 7, fr_at a3 (by decide) 8⟩
    rw [a1, z_b0, jl_976, jl_1000, hC1]
    rfl
  have hRr : ∀ ν (x : Int32), rtM T L M (tok T L M p) ν → wM N R ν → ∃ ν1, rEnd (aJ 157 [.ref 207, .int (zI (63 + 11 * rLn R)), .int (zI (-1)), .int (zI w)] [.int (zI l), .int (zI (63 + 11 * rLn R)), .ref 210] ν) x = rEnd (aJ 144 [.ref 207, .int (zI (63 + 11 * (rLn (rad R w l) - 1))), .int (zI (rCn (rad R w l) (rLn (rad R w l) - 1)))] [] ν1) x ∧ rtM T L M (tok T L M p) ν1 ∧ wM N (rad R w l) ν1 ∧ nfr ν ν1 ∧ ν1.1 207 9 = ν.1 207 9 := by
    intro ν x hr hw'
    have W := w2_w (f := ν.1) (p := (63 + 11 * rLn R).toNat) (q := (63 + 11 * rLn R + 1).toNat) (x := zI l) (y := zI w) (by omega)
    generalize hF : ax_up (ax_up ν.1 210 (63 + 11 * rLn R).toNat (zI l)) 210 (63 + 11 * rLn R + 1).toNat (zI w) = F at W
    obtain ⟨W1, W2, W3, W4⟩ := W
    refine ⟨(F, ν.2), ?_, rtM_F W4 hr, wM_l hR hn hw' W1 (by rw [if_pos (by omega)]; exact W2) W3 W4, nf_210 W4, congrFun (W4 207 (by decide)) 9⟩
    rw [jl_157, z_st (len := 173) (by decide) (by omega) (by omega) (by decide), z_bo, if_pos (by decide), zI_a1, jl_159, z_st (len := 173) (by decide) (by omega) (by omega) (by decide), z_bo, if_pos (by decide), rEnd_w, jl_143, hC1, hL1, ← hF]
    rfl
  rcases q_cds hT hM hN 4 p (rad R w l) (by rw [hC1]; rfl) hok (by show 1 ≤ rLn R + 1; omega) p0 p1 with ⟨k, pl, hk, hpl, g1, g2⟩ | ⟨R', p', hR', hL', hq1, hq2, g1, g2⟩
  · refine Or.inl ⟨k, pl, hk, hpl, fun ν i hr hw' => ?_, fun ν x hr hw' => ?_⟩
    · obtain ⟨ν1, a1, a2, a3, a4, a5, a6⟩ := hC ν i hr hw'
      obtain ⟨ν2, b1, b2, b3, b4, b5⟩ := g1 ν1 a2 a3
      refine ⟨ν2, frt a4 (frm b1 (by simp)), b2.trans a5, ?_, b4, b5⟩
      rw [a1, b3, z_b1, if_pos rfl, jl_977]
    · obtain ⟨ν1, a1, a2, a3, a4, a5⟩ := hRr ν x hr hw'
      obtain ⟨ν2, b1, b2, b3, b4⟩ := g2 ν1 x a2 a3
      exact ⟨ν2, nft a4 b1, a1.trans b2, b3, b4⟩
  · refine Or.inr ⟨R', p', hR', hL', hq1, hq2, fun ν i hr hw' => ?_, fun ν x hr hw' => ?_⟩
    · obtain ⟨ν1, a1, a2, a3, a4, a5, a6⟩ := hC ν i hr hw'
      obtain ⟨ν2, b1, b2, b3, b4, b5, b6⟩ := g1 ν1 a2 a3
      refine ⟨ν2, frt a4 (frm b1 (by simp)), b2.trans a5, ?_, b4, b5.trans a6, b6⟩
      rw [a1, b3, z_b1, if_neg (by decide)]
    · obtain ⟨ν1, a1, a2, a3, a4, a5⟩ := hRr ν x hr hw'
      obtain ⟨ν2, b1, b2, b3, b4, b5⟩ := g2 ν1 x a2 a3
      exact ⟨ν2, nft a4 b1, a1.trans b2, b3, b4.trans a5, b5⟩
def uFC (T : Int → Int) (L M : Int) (t : Int × Int × Int) (N : qNm) (R : gR) (k pl : Int) : Prop := ∀ ν (i : Int32), rdT T L M t ν → wC N R ν → ∃ ν', fr [2, 21, 22, 23, 24, 25, 26] ν ν' ∧ ν'.1 2 7 = ν.1 2 7 ∧ aJ 975 [.ref 2, .ref 21, .ref 3, .int i] [] ν = some (some (.int 0), ν') ∧ ν'.1 2 8 = zI k ∧ ν'.1 2 9 = zI pl
def uFR (T : Int → Int) (L M : Int) (t : Int × Int × Int) (N : qNm) (R : gR) (k pl : Int) : Prop := ∀ ν, rtM T L M t ν → wM N R ν → ∃ ν', nfr ν ν' ∧ rEnd (aJ 151 [.ref 207, .int (zI (rLn R))] [] ν) (zI (rLn R)) = aJ 167 [.ref 207, .int (zI (rLn R))] [] ν' ∧ ν'.1 207 9 = zI k ∧ ν'.1 207 11 = zI pl
def uSC (T : Int → Int) (L M : Int) (t : Int × Int × Int) (N : qNm) (R R' : gR) (p' : Int) : Prop := ∀ ν (i : Int32), rdT T L M t ν → wC N R ν → ∃ ν', fr [2, 21, 22, 23, 24, 25, 26] ν ν' ∧ ν'.1 2 7 = ν.1 2 7 ∧ aJ 975 [.ref 2, .ref 21, .ref 3, .int i] [] ν = aJ 978 [.ref 2, .ref 21, .ref 3, .int i] [] ν' ∧ rdC T L M p' ν' ∧ ν'.1 2 8 = ν.1 2 8 ∧ wC N R' ν'
def uSR (T : Int → Int) (L M : Int) (t : Int × Int × Int) (N : qNm) (R R' : gR) (p' : Int) : Prop := ∀ ν, rtM T L M t ν → wM N R ν → ∃ ν', nfr ν ν' ∧ rEnd (aJ 151 [.ref 207, .int (zI (rLn R))] [] ν) (zI (rLn R)) = aJ 168 [.ref 207, .int (zI (rLn R))] [] ν' ∧ rtM T L M (tok T L M p') ν' ∧ ν'.1 207 9 = ν.1 207 9 ∧ wM N R' ν'
def uRes (T : Int → Int) (L M : Int) (t : Int × Int × Int) (N : qNm) (R : gR) : Prop := (∃ k pl, (1 ≤ k ∧ k ≤ 4) ∧ (0 ≤ pl ∧ pl ≤ L) ∧ uFC T L M t N R k pl ∧ uFR T L M t N R k pl) ∨ ∃ R' p', tK t = 1 ∧ rok R' ∧ rLn R' = rLn R + 1 ∧ tE t ≤ p' ∧ p' ≤ L ∧ uSC T L M t N R R' p' ∧ uSR T L M t N R R' p'
theorem cwr_07 {c : Int} (h0 : 0 ≤ c) (h1 : c ≤ 7) : cwr c = c := by
  unfold cwr
  rw [if_pos (by omega)]
theorem cwr_so {c : Int} (h0 : 8 ≤ c) (h1 : c ≤ 13) : cwr c = c + 7 := by
  unfold cwr
  rw [if_neg (by omega), if_pos (by omega)]
theorem cwr_14 : cwr 14 = 10 := by decide
theorem cwr_m {c : Int} (h0 : 15 ≤ c) (h1 : c ≤ 20) : 8 ≤ cwr c ∧ cwr c ≤ 14 := by
  unfold cwr
  rw [if_neg (by omega), if_neg (by omega), if_neg (by omega)]
  by_cases a : c ≤ 18
  · rw [if_pos a]
    omega
  · rw [if_neg a]
    split <;> omega
theorem u_line {T : Int → Int} {L M : Int} {t : Int × Int × Int} {N : qNm} {R : gR} (hT : tBy T L) (hM : 0 ≤ M ∧ M ≤ 1000) (hN : nOK N) (hR : rok R) (h4 : 0 ≤ tK t ∧ tK t ≤ 4) (htw : tWd T t) (ht : 0 ≤ tS t ∧ tS t ≤ L ∧ 0 ≤ tE t ∧ tE t ≤ L) : uRes T L M t N R := by
  have hkr := kw_r (T := T) (t := t)
  have hrk := rk_w (L := L) (M := M) h4
  have n0 := hR.1.1
  have n10 := hR.1.2
  have hz : zB false = 0 := by decide
  -- what both sides ask first
  have hR1 : ∀ ν, rtM T L M t ν → aJ 151 [.ref 207, .int (zI (rLn R))] [] ν = if tK t = 1 ∧ 0 ≤ kw T t ∧ kw T t ≤ 14 then aJ 152 [.ref 207, .int (zI (rLn R)), .int (zI (63 + 11 * rLn R)), .int (zI (if 8 ≤ kw T t ∧ kw T t ≤ 13 then kw T t + 7 else -1)), .int (zI (if kw T t ≤ 7 then kw T t else -1)), .int (zB (decide (kw T t = 14)))] [] ν else some (some (.int 0), mBad L M t 1 ν) := by
    intro ν hr
    have h15 := q_wh (a := 15) (b := 20) h4 htw hr (by omega) (by omega) (by omega)
    have h07 := q_wh (a := 0) (b := 7) h4 htw hr (by omega) (by omega) (by omega)
    have h10 := q_rwd (k := 10) h4 htw hr (by omega)
    rw [jl_151, show aJ 73 [.ref 207, .int 15, .int 20] [] ν = _ from h15, z_b1, show aJ 73 [.ref 207, .int 0, .int 7] [] ν = _ from h07, z_b1, show aJ 77 [.ref 207, .int 10] [] ν = _ from h10, z_b1, show (63 : Int32) = zI 63 from rfl, show (11 : Int32) = zI 11 from rfl, zI_mul, zI_add]
    have hcr : (crw 10 : Int) = 14 := by decide
    rw [hcr]
    by_cases c : tK t = 1 ∧ 0 ≤ kw T t ∧ kw T t ≤ 14
    · rw [if_pos c]
      by_cases c1 : kw T t ≤ 7
      · have e := cwr_07 c.2.1 c1
        rw [if_neg (show ¬ (tK t = 1 ∧ kw T t ≠ -1 ∧ 15 ≤ cwr (kw T t) ∧ cwr (kw T t) ≤ 20) by omega), if_pos (show tK t = 1 ∧ kw T t ≠ -1 ∧ 0 ≤ cwr (kw T t) ∧ cwr (kw T t) ≤ 7 by omega), if_neg (show ¬ (8 ≤ kw T t ∧ kw T t ≤ 13) by omega), if_pos c1, e, if_pos (show zI (-1) = -1 by decide), if_neg (fun z => by
          have := (zI_eq (b := -1) (zR_of (by omega)) (zR_of (by omega))).mp z
          omega), decide_eq_false (show ¬ (tK t = 1 ∧ kw T t = 14) by omega), decide_eq_false (show ¬ kw T t = 14 by omega)]
      by_cases c2 : kw T t ≤ 13
      · have e := cwr_so (by omega) c2
        rw [if_pos (show tK t = 1 ∧ kw T t ≠ -1 ∧ 15 ≤ cwr (kw T t) ∧ cwr (kw T t) ≤ 20 by omega), if_neg (show ¬ (tK t = 1 ∧ kw T t ≠ -1 ∧ 0 ≤ cwr (kw T t) ∧ cwr (kw T t) ≤ 7) by omega), if_pos (show 8 ≤ kw T t ∧ kw T t ≤ 13 by omega), if_neg c1, e, if_neg (fun z => by
          have := (zI_eq (b := -1) (zR_of (by omega)) (zR_of (by omega))).mp z
          omega), decide_eq_false (show ¬ (tK t = 1 ∧ kw T t = 14) by omega), decide_eq_false (show ¬ kw T t = 14 by omega)]
      · have hk : kw T t = 14 := by omega
        have e : cwr (kw T t) = 10 := by rw [hk]; exact cwr_14
        rw [if_neg (show ¬ (tK t = 1 ∧ kw T t ≠ -1 ∧ 15 ≤ cwr (kw T t) ∧ cwr (kw T t) ≤ 20) by omega), if_neg (show ¬ (tK t = 1 ∧ kw T t ≠ -1 ∧ 0 ≤ cwr (kw T t) ∧ cwr (kw T t) ≤ 7) by omega), if_neg (show ¬ (8 ≤ kw T t ∧ kw T t ≤ 13) by omega), if_neg c1, if_pos (show zI (-1) = -1 by decide), if_pos (show zI (-1) = -1 by decide), decide_eq_true (show tK t = 1 ∧ kw T t = 14 by omega), decide_eq_true hk, if_neg zB_t]
    · rw [if_neg c]
      have no : ∀ a b : Int, (15 ≤ a ∨ b ≤ 7) → ¬ (tK t = 1 ∧ kw T t ≠ -1 ∧ a ≤ cwr (kw T t) ∧ cwr (kw T t) ≤ b) := fun a b hab z => by
        have := cwr_m (c := kw T t) (by omega) (by omega)
        omega
      rw [if_neg (no 15 20 (by omega)), if_neg (no 0 7 (by omega)), if_pos (show zI (-1) = -1 by decide), if_pos (show zI (-1) = -1 by decide), decide_eq_false (show ¬ (tK t = 1 ∧ kw T t = 14) by omega), if_pos hz]
      exact q_bad' (k := 1) h4 hr
  have hC1 : ∀ ν, rdT T L M t ν → aJ 996 [.ref 2, .ref 21] [] ν = if tK t = 1 ∧ 0 ≤ kw T t ∧ kw T t ≤ 14 then aJ 997 [.ref 2, .ref 21, .int (zB (decide (kw T t = 14)))] [] ν else some (some (.int 0), cRf 1 (tS t) ν) := by
    intro ν hr
    have q14 := q_iwd (w := 14) h4 hr (by omega) (by omega)
    rw [jl_996, show aJ 1023 [.ref 2, .int 14] [] ν = _ from q14, z_b1]
    by_cases c : tK t = 1 ∧ 0 ≤ kw T t ∧ kw T t ≤ 14
    · rw [if_pos c]
      by_cases c1 : kw T t = 14
      · rw [decide_eq_true (show tK t = 1 ∧ kw T t = 14 from ⟨c.1, c1⟩), if_neg zB_t, decide_eq_true c1]
      · rw [decide_eq_false (show ¬ (tK t = 1 ∧ kw T t = 14) by omega), if_pos hz, q_ipt h4 hr, z_b1, decide_eq_false c1]
        by_cases c2 : kw T t ≤ 7
        · rw [decide_eq_true (show tK t = 1 ∧ 0 ≤ kw T t ∧ kw T t ≤ 7 by omega), if_neg zB_t]
        · rw [decide_eq_false (show ¬ (tK t = 1 ∧ 0 ≤ kw T t ∧ kw T t ≤ 7) by omega), if_pos hz, q_isr h4 hr, z_b1, decide_eq_true (show tK t = 1 ∧ 8 ≤ kw T t ∧ kw T t ≤ 13 by omega), if_neg zB_t]
    · rw [if_neg c, decide_eq_false (show ¬ (tK t = 1 ∧ kw T t = 14) by omega), if_pos hz, q_ipt h4 hr, z_b1, decide_eq_false (show ¬ (tK t = 1 ∧ 0 ≤ kw T t ∧ kw T t ≤ 7) by omega), if_pos hz, q_isr h4 hr, z_b1, decide_eq_false (show ¬ (tK t = 1 ∧ 8 ≤ kw T t ∧ kw T t ≤ 13) by omega), if_pos hz]
      exact q_ref' (k := 1) hr
  by_cases c : tK t = 1 ∧ 0 ≤ kw T t ∧ kw T t ≤ 14
  case neg =>
    refine Or.inl ⟨1, tS t, by omega, by omega, fun ν i hr hw => ?_, fun ν hr hw => ?_⟩
    · refine ⟨cRf 1 (tS t) ν, frm cRf_fr (by simp), cRf_7.1, ?_, cRf_7.2.1, cRf_7.2.2⟩
      rw [jl_975, q_isr h4 hr, z_b1, hC1 ν hr, if_neg c, z_b1, if_pos rfl, jl_977]
    · refine ⟨mBad L M t 1 ν, nfb, ?_, ?_, mBad_9.2⟩
      · rw [hR1 ν hr, if_neg c, rEnd_0]
      · rw [mBad_9.1]
        split <;> rfl
  by_cases c10 : rLn R = 10
  · refine Or.inl ⟨4, tS t, by omega, by omega, fun ν i hr hw => ?_, fun ν hr hw => ?_⟩
    · refine ⟨cRf 4 (tS t) ν, frm cRf_fr (by simp), cRf_7.1, ?_, cRf_7.2.1, cRf_7.2.2⟩
      have h7 : aJ 997 [.ref 2, .ref 21, .int (zB (decide (kw T t = 14)))] [] ν = some (some (.int 0), cRf 4 (tS t) ν) := by
        rw [jl_997, hw.2.2.1, c10, if_neg (by decide)]
        exact q_ref' (k := 4) hr
      rw [jl_975, q_isr h4 hr, z_b1, hC1 ν hr, if_pos c, h7, z_b1, if_pos rfl, jl_977]
    · refine ⟨mBad L M t 4 ν, nfb, ?_, ?_, mBad_9.2⟩
      · have h7 : aJ 152 [.ref 207, .int (zI (rLn R)), .int (zI (63 + 11 * rLn R)), .int (zI (if 8 ≤ kw T t ∧ kw T t ≤ 13 then kw T t + 7 else -1)), .int (zI (if kw T t ≤ 7 then kw T t else -1)), .int (zB (decide (kw T t = 14)))] [] ν = some (some (.int 0), mBad L M t 4 ν) := by
          rw [jl_152, if_pos (show zI (rLn R) = 10 by rw [c10]; rfl)]
          exact q_bad' (k := 4) h4 hr
        rw [hR1 ν hr, if_pos c, h7, rEnd_0]
      · rw [mBad_9.1, if_neg (by omega)]
  have hn : rLn R < 10 := by omega
  have hh1 := tok_h (T := T) (L := L) (M := M) ht.2.2.1 ht.2.2.2 hM.1
  have hrg1 := tok_r (T := T) (L := L) (M := M) ht.2.2.1 ht.2.2.2 hM.1
  have hkr1 := kw_r (T := T) (t := tok T L M (tE t))
  have hR2 : ∀ ν, rtM T L M t ν → wM N R ν → ∃ ν1, aJ 151 [.ref 207, .int (zI (rLn R))] [] ν = (if zB (decide (kw T t = 14)) = 0 then aJ 155 [.ref 207, .int (zI (63 + 11 * rLn R)), .int (zI (if 8 ≤ kw T t ∧ kw T t ≤ 13 then kw T t + 7 else -1)), .int (zI (if kw T t ≤ 7 then kw T t else -1)), .int (zB (decide (kw T t = 14)))] [] ν1 else ax_b1 (aJ 73 [.ref 207, .int 0, .int 7] [] ν1) fun v3 μ2 => if v3 = (-1) then ax_b1 (aJ 83 [.ref 207, .int 1] [] μ2) fun v5 μ4 => if v5 = 0 ∨ v5 = 1 then some (some (.int v5), μ4) else none else aJ 154 [.ref 207, .int (zI (63 + 11 * rLn R)), .int (zI (if 8 ≤ kw T t ∧ kw T t ≤ 13 then kw T t + 7 else -1)), .int v3, .int (zB (decide (kw T t = 14)))] [] μ2) ∧ rtM T L M (tok T L M (tE t)) ν1 ∧ wM N R ν1 ∧ gf ν ν1 := by
    intro ν hr hw
    obtain ⟨ν1, a1, a2, a3⟩ := q_gon hT hM ht.2.2.1 ht.2.2.2 (Or.inl c.1) hr
    refine ⟨ν1, ?_, a2, wM_e a3.1 a3.2.2 hw, a3⟩
    rw [hR1 ν hr, if_pos c, jl_152, if_neg (fun z => by
      have := (zI_eq (b := 10) (zR_of (by omega)) (zR_of (by omega))).mp z
      omega), jl_153, a1, z_b0]
  have hC2 : ∀ ν (i : Int32), rdT T L M t ν → wC N R ν → aJ 975 [.ref 2, .ref 21, .ref 3, .int i] [] ν = ax_b1 (aJ 998 [.ref 2, .ref 21, .int (zB (decide (kw T t = 14)))] [] ν) fun v4 μ3 => if v4 = 0 then aJ 977 [] [] μ3 else if zB (decide (tK t = 1 ∧ 8 ≤ kw T t ∧ kw T t ≤ 13)) = 0 then aJ 976 [.ref 2, .ref 21, .ref 3, .int i] [] μ3 else ax_b1 (aJ 1012 [.ref 2] [] μ3) fun v6 μ5 => if v6 = 0 then aJ 977 [] [] μ5 else aJ 978 [.ref 2, .ref 21, .ref 3, .int i] [] μ5 := by
    intro ν i hr hw
    rw [jl_975, q_isr h4 hr, z_b1, hC1 ν hr, if_pos c, jl_997, show (10 : Int32) = zI 10 from rfl, hw.2.2.1, if_pos ((zI_lt (b := 10) (zR_of (by omega)) (zR_of (by omega))).mpr hn)]
  by_cases c14 : kw T t = 14
  · -- late
    have hd14 : decide (kw T t = 14) = true := decide_eq_true c14
    have hso : decide (tK t = 1 ∧ 8 ≤ kw T t ∧ kw T t ≤ 13) = false := decide_eq_false (by omega)
    by_cases cp : tK (tok T L M (tE t)) = 1 ∧ 0 ≤ kw T (tok T L M (tE t)) ∧ kw T (tok T L M (tE t)) ≤ 7
    case neg =>
      refine Or.inl ⟨1, tS (tok T L M (tE t)), by omega, by omega, fun ν i hr hw => ?_, fun ν hr hw => ?_⟩
      · obtain ⟨ν1, a1, a2, a3, a4, a5, a6⟩ := q_tk hT hM ht.2.2.1 ht.2.2.2 hr.1
        refine ⟨cRf 1 (tS (tok T L M (tE t))) ν1, frt (frm a3 (by simp)) (frm cRf_fr (by simp)), cRf_7.1.trans a4, ?_, cRf_7.2.1, cRf_7.2.2⟩
        rw [hC2 ν i hr hw, hd14, jl_998, if_neg zB_t, a1, z_b0, q_ipt hh1.1 a2, z_b1, decide_eq_false cp, if_pos hz, show (1 : Int32) = zI 1 from rfl, q_ref (k := 1) a2, z_b1, if_pos (by decide), z_b1, if_pos rfl, jl_977]
      · obtain ⟨ν1, a1, a2, a3, a4⟩ := hR2 ν hr hw
        have h07 := q_wh (a := 0) (b := 7) hh1.1 hh1.2 a2 (by omega) (by omega) (by omega)
        rw [if_neg (fun z => cp (by
          obtain ⟨z1, z2, z3, z4⟩ := z
          refine ⟨z1, by omega, ?_⟩
          by_cases y : kw T (tok T L M (tE t)) ≤ 7
          · exact y
          · exfalso
            by_cases y1 : kw T (tok T L M (tE t)) ≤ 13
            · have := cwr_so (c := kw T (tok T L M (tE t))) (by omega) y1
              omega
            · by_cases y2 : kw T (tok T L M (tE t)) = 14
              · rw [y2, cwr_14] at z4
                omega
              · have := cwr_m (c := kw T (tok T L M (tE t))) (by omega) (by omega)
                omega))] at h07
        refine ⟨mBad L M (tok T L M (tE t)) 1 ν1, nft (nfg a4) nfb, ?_, ?_, mBad_9.2⟩
        · rw [a1, hd14, if_neg zB_t, show aJ 73 [.ref 207, .int 0, .int 7] [] ν1 = _ from h07, z_b1, if_pos (by decide), show (1 : Int32) = zI 1 from rfl]
          have := q_bad (k := 1) hh1.1 a2
          rw [this, z_b1, if_pos (by decide), rEnd_0]
        · rw [mBad_9.1]
          split <;> rfl
    have hse := hrg1.2.2.2.2.2.2 (Or.inl cp.1)
    have hpe := hrg1.2.2.2.2.2.1 (by omega)
    have hC3 : ∀ ν (i : Int32), rdT T L M t ν → wC N R ν → ∃ ν1, aJ 975 [.ref 2, .ref 21, .ref 3, .int i] [] ν = (ax_b0 (aJ 1082 [.ref 21, .int (zI (kw T (tok T L M (tE t)))), .int (zI 1)] [] ν1) fun μ1 => aJ 976 [.ref 2, .ref 21, .ref 3, .int i] [] μ1) ∧ rdC T L M (tE (tok T L M (tE t))) ν1 ∧ wC N R ν1 ∧ fr [2] ν ν1 ∧ ν1.1 2 7 = ν.1 2 7 ∧ ν1.1 2 8 = ν.1 2 8 := by
      intro ν i hr hw
      obtain ⟨ν1, a1, a2, a3, a4, a5, a6⟩ := q_tk hT hM ht.2.2.1 ht.2.2.2 hr.1
      obtain ⟨ν2, b1, b2, b3⟩ := q_adl (w := kw T (tok T L M (tE t))) hR hn (l := 1) (Or.inr rfl) (wC_2 a3 hw)
      refine ⟨ν1, ?_, a2.1, wC_2 a3 hw, a3, a4, a5⟩
      rw [hC2 ν i hr hw, hd14, jl_998, if_neg zB_t, a1, z_b0, q_ipt hh1.1 a2, z_b1, decide_eq_true cp, if_neg zB_t, jl_999, a2.2.2.2.1 cp.1, show zB true = zI 1 from rfl, b1, z_b0, z_b1, if_neg (by decide), hso, if_pos hz, z_b0]
    have hR3 : ∀ ν, rtM T L M t ν → wM N R ν → ∃ ν1, aJ 151 [.ref 207, .int (zI (rLn R))] [] ν = aJ 157 [.ref 207, .int (zI (63 + 11 * rLn R)), .int (zI (-1)), .int (zI (kw T (tok T L M (tE t))))] [.int (zI 1), .int (zI (63 + 11 * rLn R)), .ref 210] ν1 ∧ rtM T L M (tok T L M (tE (tok T L M (tE t)))) ν1 ∧ wM N R ν1 ∧ gf ν ν1 := by
      intro ν hr hw
      obtain ⟨ν1, a1, a2, a3, a4⟩ := hR2 ν hr hw
      have h07 := q_wh (a := 0) (b := 7) hh1.1 hh1.2 a2 (by omega) (by omega) (by omega)
      have e := cwr_07 cp.2.1 cp.2.2
      rw [if_pos (by omega), e] at h07
      obtain ⟨ν2, b1, b2, b3⟩ := q_gon hT hM (by omega) hrg1.2.1 (Or.inl cp.1) a2
      refine ⟨ν2, ?_, b2, wM_e b3.1 b3.2.2 a3, gft a4 b3⟩
      rw [a1, hd14, if_neg zB_t, show aJ 73 [.ref 207, .int 0, .int 7] [] ν1 = _ from h07, z_b1, if_neg (fun z => by
        have := (zI_eq (b := -1) (zR_of (by omega)) (zR_of (by omega))).mp z
        omega), jl_154, b1, z_b0, jl_155, if_neg zB_t, if_neg (by omega)]
      rfl
    rcases q_ptn (l := 1) hT hM hN hR hn cp.2 (Or.inr rfl) (p := tE (tok T L M (tE t))) (by omega) hrg1.2.1 with ⟨k, pl, hk, hpl, g1, g2⟩ | ⟨R', p', hR', hL', hq1, hq2, g1, g2⟩
    · refine Or.inl ⟨k, pl, hk, hpl, fun ν i hr hw => ?_, fun ν hr hw => ?_⟩
      · obtain ⟨ν1, a1, a2, a3, a4, a5, a6⟩ := hC3 ν i hr hw
        obtain ⟨ν2, b1, b2, b3, b4, b5⟩ := g1 ν1 i a2 a3
        exact ⟨ν2, frt (frm a4 (by simp)) b1, b2.trans a5, a1.trans b3, b4, b5⟩
      · obtain ⟨ν1, a1, a2, a3, a4⟩ := hR3 ν hr hw
        obtain ⟨ν2, b1, b2, b3, b4⟩ := g2 ν1 (zI (rLn R)) a2 a3
        exact ⟨ν2, nft (nfg a4) b1, by rw [a1]; exact b2, b3, b4⟩
    · refine Or.inr ⟨R', p', c.1, hR', hL', by omega, hq2, fun ν i hr hw => ?_, fun ν hr hw => ?_⟩
      · obtain ⟨ν1, a1, a2, a3, a4, a5, a6⟩ := hC3 ν i hr hw
        obtain ⟨ν2, b1, b2, b3, b4, b5, b6⟩ := g1 ν1 i a2 a3
        exact ⟨ν2, frt (frm a4 (by simp)) b1, b2.trans a5, a1.trans b3, b4, b5.trans a6, b6⟩
      · obtain ⟨ν1, a1, a2, a3, a4⟩ := hR3 ν hr hw
        obtain ⟨ν2, b1, b2, b3, b4, b5⟩ := g2 ν1 (zI (rLn R)) a2 a3
        exact ⟨ν2, nft (nfg a4) b1, by rw [a1]; exact b2, b3, b4.trans (a4.2.1 9 (by decide) (by decide) (by decide) (by decide)), b5⟩
  have hd14 : decide (kw T t = 14) = false := decide_eq_false c14
  by_cases cp : kw T t ≤ 7
  · -- a pattern
    have hso : decide (tK t = 1 ∧ 8 ≤ kw T t ∧ kw T t ≤ 13) = false := decide_eq_false (by omega)
    have hC3 : ∀ ν (i : Int32), rdT T L M t ν → wC N R ν → aJ 975 [.ref 2, .ref 21, .ref 3, .int i] [] ν = (ax_b0 (aJ 1082 [.ref 21, .int (zI (kw T t)), .int (zI 0)] [] ν) fun μ1 => aJ 976 [.ref 2, .ref 21, .ref 3, .int i] [] μ1) := by
      intro ν i hr hw
      obtain ⟨ν2, b1, b2, b3⟩ := q_adl (w := kw T t) hR hn (l := 0) (Or.inl rfl) hw
      rw [hC2 ν i hr hw, hd14, jl_998, if_pos hz, jl_999, hr.2.2.2.1 c.1, show zB false = zI 0 from rfl, b1, z_b0, z_b1, if_neg (by decide), hso, if_pos hz, z_b0]
    have hR3 : ∀ ν, rtM T L M t ν → wM N R ν → ∃ ν1, aJ 151 [.ref 207, .int (zI (rLn R))] [] ν = aJ 157 [.ref 207, .int (zI (63 + 11 * rLn R)), .int (zI (-1)), .int (zI (kw T t))] [.int (zI 0), .int (zI (63 + 11 * rLn R)), .ref 210] ν1 ∧ rtM T L M (tok T L M (tE t)) ν1 ∧ wM N R ν1 ∧ gf ν ν1 := by
      intro ν hr hw
      obtain ⟨ν1, a1, a2, a3, a4⟩ := hR2 ν hr hw
      refine ⟨ν1, ?_, a2, a3, a4⟩
      rw [a1, hd14, if_pos hz, jl_155, if_pos hz, jl_156, if_neg (by omega), if_pos cp]
      rfl
    rcases q_ptn (l := 0) hT hM hN hR hn (w := kw T t) ⟨c.2.1, cp⟩ (Or.inl rfl) (p := tE t) ht.2.2.1 ht.2.2.2 with ⟨k, pl, hk, hpl, g1, g2⟩ | ⟨R', p', hR', hL', hq1, hq2, g1, g2⟩
    · refine Or.inl ⟨k, pl, hk, hpl, fun ν i hr hw => ?_, fun ν hr hw => ?_⟩
      · obtain ⟨ν2, b1, b2, b3, b4, b5⟩ := g1 ν i hr.1 hw
        exact ⟨ν2, b1, b2, (hC3 ν i hr hw).trans b3, b4, b5⟩
      · obtain ⟨ν1, a1, a2, a3, a4⟩ := hR3 ν hr hw
        obtain ⟨ν2, b1, b2, b3, b4⟩ := g2 ν1 (zI (rLn R)) a2 a3
        exact ⟨ν2, nft (nfg a4) b1, by rw [a1]; exact b2, b3, b4⟩
    · refine Or.inr ⟨R', p', c.1, hR', hL', hq1, hq2, fun ν i hr hw => ?_, fun ν hr hw => ?_⟩
      · obtain ⟨ν2, b1, b2, b3, b4, b5, b6⟩ := g1 ν i hr.1 hw
        exact ⟨ν2, b1, b2, (hC3 ν i hr hw).trans b3, b4, b5, b6⟩
      · obtain ⟨ν1, a1, a2, a3, a4⟩ := hR3 ν hr hw
        obtain ⟨ν2, b1, b2, b3, b4, b5⟩ := g2 ν1 (zI (rLn R)) a2 a3
        exact ⟨ν2, nft (nfg a4) b1, by rw [a1]; exact b2, b3, b4.trans (a4.2.1 9 (by decide) (by decide) (by decide) (by decide)), b5⟩
  -- a sorting
  have hso : decide (tK t = 1 ∧ 8 ≤ kw T t ∧ kw T t ≤ 13) = true := decide_eq_true (by omega)
  have hok := rad_ok (w := kw T t) (l := 0) hR hn (by omega) (Or.inl rfl)
  have hC3 : ∀ ν (i : Int32), rdT T L M t ν → wC N R ν → ∃ ν1, aJ 975 [.ref 2, .ref 21, .ref 3, .int i] [] ν = (ax_b1 (aJ 1012 [.ref 2] [] ν1) fun v6 μ5 => if v6 = 0 then aJ 977 [] [] μ5 else aJ 978 [.ref 2, .ref 21, .ref 3, .int i] [] μ5) ∧ rdC T L M (tE t) ν1 ∧ wC N (rad R (kw T t) 0) ν1 ∧ fr [21, 22, 23, 24] ν ν1 := by
    intro ν i hr hw
    obtain ⟨ν2, b1, b2, b3⟩ := q_adl (w := kw T t) hR hn (l := 0) (Or.inl rfl) hw
    refine ⟨ν2, ?_, rdC_fr b3 (by decide) (by decide) hr.1, b2, b3⟩
    rw [hC2 ν i hr hw, hd14, jl_998, if_pos hz, jl_999, hr.2.2.2.1 c.1, show zB false = zI 0 from rfl, b1, z_b0, z_b1, if_neg (by decide), hso, if_neg zB_t]
  have hR3 : ∀ ν, rtM T L M t ν → wM N R ν → ∃ ν1, aJ 151 [.ref 207, .int (zI (rLn R))] [] ν = some (some (.int 1), ν1) ∧ rtM T L M (tok T L M (tE t)) ν1 ∧ wM N (rad R (kw T t) 0) ν1 ∧ nfr ν ν1 ∧ ν1.1 207 9 = ν.1 207 9 := by
    intro ν hr hw
    obtain ⟨ν1, a1, a2, a3, a4⟩ := hR2 ν hr hw
    have W := w2_w (f := ν1.1) (p := (63 + 11 * rLn R).toNat) (q := (63 + 11 * rLn R + 1).toNat) (x := zI 0) (y := zI (kw T t + 7)) (by omega)
    generalize hF : ax_up (ax_up ν1.1 210 (63 + 11 * rLn R).toNat (zI 0)) 210 (63 + 11 * rLn R + 1).toNat (zI (kw T t + 7)) = F at W
    obtain ⟨W1, W2, W3, W4⟩ := W
    refine ⟨(F, ν1.2), ?_, rtM_F W4 a2, wM_l hR hn a3 W1 (by rw [if_neg (by omega)]; exact W2) W3 W4, nft (nfg a4) (nf_210 W4), (congrFun (W4 207 (by decide)) 9).trans (a4.2.1 9 (by decide) (by decide) (by decide) (by decide))⟩
    have hne : ¬ zI (kw T t + 7) = -1 := fun z => by
      have := (zI_eq (b := -1) (zR_of (by omega)) (zR_of (by omega))).mp z
      omega
    rw [a1, hd14, if_pos hz, jl_155, if_pos hz, jl_156, if_pos (by omega), if_neg cp, jl_157, z_st (len := 173) (by decide) (by omega) (by omega) (by decide), z_bo, if_neg hne, zI_a1, jl_158, jl_159, z_st (len := 173) (by decide) (by omega) (by omega) (by decide), z_bo, if_neg hne, jl_160, jl_162, if_pos (by decide), ← hF]
    rfl
  by_cases cc : tK (tok T L M (tE t)) = 3
  · have hse := hrg1.2.2.2.2.2.1 (by omega)
    refine Or.inr ⟨rad R (kw T t) 0, tE (tok T L M (tE t)), c.1, hok, rfl, by omega, hrg1.2.1, fun ν i hr hw => ?_, fun ν hr hw => ?_⟩
    · obtain ⟨ν1, a1, a2, a3, a4⟩ := hC3 ν i hr hw
      obtain ⟨ν2, b1, b2, b3, _⟩ := q_clo hT hM ht.2.2.1 ht.2.2.2 a2
      obtain ⟨d1, d2, d3, d4⟩ := b3 cc
      refine ⟨ν2, frt (frm a4 (by simp)) (frm b1 (by simp)), b2.trans (fr_at a4 (by decide) 7), ?_, d2, d3.trans (fr_at a4 (by decide) 8), wC_2 b1 a3⟩
      rw [a1, d1, z_b1, if_neg (by decide)]
    · obtain ⟨ν1, a1, a2, a3, a4, a5⟩ := hR3 ν hr hw
      obtain ⟨ν2, b1, b1a, b1b, b2, _⟩ := q_rne hT hM (by omega) hrg1.2.1 hh1.1 a2
      obtain ⟨d1, d2, d3⟩ := b2 cc
      refine ⟨ν2, nft a4 b1, ?_, d2, d3.trans a5, wM_e b1a b1b a3⟩
      rw [a1, rEnd_1, d1, z_b1, if_neg (by decide)]
  · refine Or.inl ⟨1, tS (tok T L M (tE t)), by omega, by omega, fun ν i hr hw => ?_, fun ν hr hw => ?_⟩
    · obtain ⟨ν1, a1, a2, a3, a4⟩ := hC3 ν i hr hw
      obtain ⟨ν2, b1, b2, _, b3⟩ := q_clo hT hM ht.2.2.1 ht.2.2.2 a2
      obtain ⟨d1, d2, d3⟩ := b3 cc
      refine ⟨ν2, frt (frm a4 (by simp)) (frm b1 (by simp)), b2.trans (fr_at a4 (by decide) 7), ?_, d2, d3⟩
      rw [a1, d1, z_b1, if_pos rfl, jl_977]
    · obtain ⟨ν1, a1, a2, a3, a4, a5⟩ := hR3 ν hr hw
      obtain ⟨ν2, b1, b1a, b1b, _, b2⟩ := q_rne hT hM (by omega) hrg1.2.1 hh1.1 a2
      obtain ⟨d1, d2, d3⟩ := b2 cc
      refine ⟨ν2, nft a4 b1, ?_, d2, d3⟩
      rw [a1, rEnd_1, d1, z_b1, if_pos rfl]
