/-! o: rule: the conditions of a line, a line -/
def cFC (T : Int → Int) (L M : Int) (N : qNm) (R : gR) (p k pl : Int) : Prop := ∀ ν, rdC T L M p ν → wC N R ν → ∃ ν', fr [2, 24, 25, 26] ν ν' ∧ ν'.1 2 7 = ν.1 2 7 ∧ aJ 1001 [.ref 2, .ref 21, .ref 3, .int (zI (rCn R (rLn R - 1)))] [] ν = some (some (.int 0), ν') ∧ ν'.1 2 8 = zI k ∧ ν'.1 2 9 = zI pl
def cFR (T : Int → Int) (L M : Int) (N : qNm) (R : gR) (p k pl : Int) : Prop := ∀ ν (x : Int32), rtM T L M (tok T L M p) ν → wM N R ν → ∃ ν', nfr ν ν' ∧ rEnd (aJ 144 [.ref 207, .int (zI (63 + 11 * (rLn R - 1))), .int (zI (rCn R (rLn R - 1)))] [] ν) x = aJ 167 [.ref 207, .int x] [] ν' ∧ ν'.1 207 9 = zI k ∧ ν'.1 207 11 = zI pl
def cSC (T : Int → Int) (L M : Int) (N : qNm) (R : gR) (p : Int) (R' : gR) (p' : Int) : Prop := ∀ ν, rdC T L M p ν → wC N R ν → ∃ ν', fr [2, 24, 25, 26] ν ν' ∧ ν'.1 2 7 = ν.1 2 7 ∧ aJ 1001 [.ref 2, .ref 21, .ref 3, .int (zI (rCn R (rLn R - 1)))] [] ν = some (some (.int 1), ν') ∧ rdC T L M p' ν' ∧ ν'.1 2 8 = ν.1 2 8 ∧ wC N R' ν'
def cSR (T : Int → Int) (L M : Int) (N : qNm) (R : gR) (p : Int) (R' : gR) (p' : Int) : Prop := ∀ ν (x : Int32), rtM T L M (tok T L M p) ν → wM N R ν → ∃ ν', nfr ν ν' ∧ rEnd (aJ 144 [.ref 207, .int (zI (63 + 11 * (rLn R - 1))), .int (zI (rCn R (rLn R - 1)))] [] ν) x = aJ 168 [.ref 207, .int x] [] ν' ∧ rtM T L M (tok T L M p') ν' ∧ ν'.1 207 9 = ν.1 207 9 ∧ wM N R' ν'
theorem nf_210 {ν : ax_M} {F : Nat → Nat → Int32} (h : ∀ a, a ≠ 210 → F a = ν.1 a) : nfr ν (F, ν.2) := ⟨fun a _ y _ => h a y, fun k _ _ _ _ _ _ _ => congrFun (h 207 (by decide)) k, fun _ _ _ => rfl⟩
theorem rtM_F {T : Int → Int} {L M : Int} {t : Int × Int × Int} {ν : ax_M} {F : Nat → Nat → Int32} (h : ∀ a, a ≠ 210 → F a = ν.1 a) (hr : rtM T L M t ν) : rtM T L M t (F, ν.2) := rtM_e (h 207 (by decide)) (h 208 (by decide)) rfl hr
theorem q_cds {T : Int → Int} {L M : Int} {N : qNm} (hT : tBy T L) (hM : 0 ≤ M ∧ M ≤ 1000) (hN : nOK N) : ∀ (m : Nat) (p : Int) (R : gR), rCn R (rLn R - 1) + m = 4 → rok R → 1 ≤ rLn R → 0 ≤ p → p ≤ L → (∃ k pl, (1 ≤ k ∧ k ≤ 4) ∧ (0 ≤ pl ∧ pl ≤ L) ∧ cFC T L M N R p k pl ∧ cFR T L M N R p k pl) ∨ ∃ R' p', rok R' ∧ rLn R' = rLn R ∧ p ≤ p' ∧ p' ≤ L ∧ cSC T L M N R p R' p' ∧ cSR T L M N R p R' p' := by
  intro m
  induction m with
  | zero =>
    intro p R hm hR hn p0 p1
    have hh := tok_h (T := T) (L := L) (M := M) p0 p1 hM.1
    have hrg := tok_r (T := T) (L := L) (M := M) p0 p1 hM.1
    have hkr := kw_r (T := T) (t := tok T L M p)
    have n10 := hR.1.2
    have hC : ∀ ν, rdC T L M p ν → ∃ ν1, aJ 1001 [.ref 2, .ref 21, .ref 3, .int (zI (rCn R (rLn R - 1)))] [] ν = (if tK (tok T L M p) = 3 then some (some (.int 1), ν1) else aJ 1002 [.ref 2, .ref 21, .ref 3, .int (zI (rCn R (rLn R - 1)))] [] ν1) ∧ rdT T L M (tok T L M p) ν1 ∧ fr [2] ν ν1 ∧ ν1.1 2 7 = ν.1 2 7 ∧ ν1.1 2 8 = ν.1 2 8 := by
      intro ν hr
      obtain ⟨ν1, a1, a2, a3, a4, a5, a6⟩ := q_tk hT hM p0 p1 hr
      refine ⟨ν1, ?_, a2, a3, a4, a5⟩
      rw [jl_1001, a1, z_b0, a2.2.1, j_eq rfl (show (3 : Int32) = zI 3 from rfl) (zR_of (by omega)) (zR_of (by omega)), if_neg (fun z => by
        have := (zI_lt (a := 4) (zR_of (by omega)) (zR_of (by omega))).mp z
        omega)]
    have hR0 : ∀ ν, rtM T L M (tok T L M p) ν → ¬ (tK (tok T L M p) = 1 ∧ 15 ≤ kw T (tok T L M p) ∧ kw T (tok T L M p) ≤ 18) → ∀ x2 : Int32, aJ 144 [.ref 207, .int (zI (63 + 11 * (rLn R - 1))), .int x2] [] ν = some (some (.int 1), ν) := by
      intro ν hr hno x2
      have h := q_wh (a := 11) (b := 14) hh.1 hh.2 hr (by omega) (by omega) (by omega)
      rw [if_neg (fun z => hno (by
        obtain ⟨z1, z2, z3, z4⟩ := z
        unfold cwr at z3 z4
        refine ⟨z1, ?_⟩
        repeat' split at z3
        all_goals first | omega | (repeat' split at z4) <;> omega))] at h
      rw [jl_144, show (11 : Int32) = zI 11 from rfl, show (14 : Int32) = zI 14 from rfl, h, z_b1, if_pos (by decide), jl_150]
    by_cases c3 : tK (tok T L M p) = 3
    · refine Or.inr ⟨R, tE (tok T L M p), hR, rfl, by omega, hrg.2.1, fun ν hr hw => ?_, fun ν x hr hw => ?_⟩
      · obtain ⟨ν1, a1, a2, a3, a4, a5⟩ := hC ν hr
        exact ⟨ν1, frm a3 (by simp), a4, by rw [a1, if_pos c3], a2.1, a5, wC_2 a3 hw⟩
      · obtain ⟨ν1, b1, b1a, b1b, b2, _⟩ := q_rne hT hM (by omega) hrg.2.1 hh.1 hr
        obtain ⟨d1, d2, d3⟩ := b2 c3
        refine ⟨ν1, b1, ?_, d2, d3, wM_e b1a b1b hw⟩
        rw [hR0 ν hr (fun z => by omega), rEnd_1, d1, z_b1, if_neg (by decide)]
    by_cases cw : tK (tok T L M p) = 1 ∧ 15 ≤ kw T (tok T L M p) ∧ kw T (tok T L M p) ≤ 18
    case neg =>
      refine Or.inl ⟨1, tS (tok T L M p), by omega, by omega, fun ν hr hw => ?_, fun ν x hr hw => ?_⟩
      · obtain ⟨ν1, a1, a2, a3, a4, a5⟩ := hC ν hr
        refine ⟨cRf 1 (tS (tok T L M p)) ν1, frt (frm a3 (by simp)) (frm cRf_fr (by simp)), cRf_7.1.trans a4, ?_, cRf_7.2.1, cRf_7.2.2⟩
        have h3 : aJ 1003 [.ref 2] [] ν1 = some (some (.int 0), cRf 1 (tS (tok T L M p)) ν1) := by
          rw [jl_1003]
          exact q_ref' (k := 1) a2
        rw [a1, if_neg c3, jl_1002, show (15 : Int32) = zI 15 from rfl, show (18 : Int32) = zI 18 from rfl, a2.2.1, j_eq rfl (show (1 : Int32) = zI 1 from rfl) (zR_of (by omega)) (zR_of (by omega)), h3]
        by_cases q : tK (tok T L M p) = 1
        · rw [if_pos q, a2.2.2.2.1 q]
          by_cases q1 : kw T (tok T L M p) < 15
          · rw [if_pos ((zI_lt (b := 15) (zR_of (by omega)) (zR_of (by omega))).mpr q1)]
          · rw [if_neg (fun z => q1 ((zI_lt (b := 15) (zR_of (by omega)) (zR_of (by omega))).mp z)), if_neg (fun z => cw ⟨q, by omega, (zI_le (b := 18) (zR_of (by omega)) (zR_of (by omega))).mp z⟩)]
        · rw [if_neg q]
      · obtain ⟨ν1, b1, b1a, b1b, _, b2⟩ := q_rne hT hM (by omega) hrg.2.1 hh.1 hr
        obtain ⟨d1, d2, d3⟩ := b2 c3
        refine ⟨ν1, b1, ?_, d2, d3⟩
        rw [hR0 ν hr cw, rEnd_1, d1, z_b1, if_pos rfl]
    refine Or.inl ⟨4, tS (tok T L M p), by omega, by omega, fun ν hr hw => ?_, fun ν x hr hw => ?_⟩
    · obtain ⟨ν1, a1, a2, a3, a4, a5⟩ := hC ν hr
      refine ⟨cRf 4 (tS (tok T L M p)) ν1, frt (frm a3 (by simp)) (frm cRf_fr (by simp)), cRf_7.1.trans a4, ?_, cRf_7.2.1, cRf_7.2.2⟩
      rw [a1, if_neg c3, jl_1002, show (15 : Int32) = zI 15 from rfl, show (18 : Int32) = zI 18 from rfl, a2.2.1, j_eq rfl (show (1 : Int32) = zI 1 from rfl) (zR_of (by omega)) (zR_of (by omega)), if_pos cw.1, a2.2.2.2.1 cw.1, if_neg (fun z => by
        have := (zI_lt (b := 15) (zR_of (by omega)) (zR_of (by omega))).mp z
        omega), if_pos ((zI_le (b := 18) (zR_of (by omega)) (zR_of (by omega))).mpr cw.2.2), jl_1004, if_pos (show zI (rCn R (rLn R - 1)) = 4 by rw [show rCn R (rLn R - 1) = 4 by omega]; rfl)]
      exact q_ref' (k := 4) a2
    · have h := q_wh (a := 11) (b := 14) hh.1 hh.2 hr (by omega) (by omega) (by omega)
      have hcw : cwr (kw T (tok T L M p)) = kw T (tok T L M p) - 4 := by
        unfold cwr
        rw [if_neg (by omega), if_neg (by omega), if_neg (by omega), if_pos (by omega)]
      rw [if_pos (by omega)] at h
      refine ⟨mBad L M (tok T L M p) 4 ν, nfb, ?_, ?_, mBad_9.2⟩
      · rw [jl_144, show (11 : Int32) = zI 11 from rfl, show (14 : Int32) = zI 14 from rfl, h, z_b1, h, z_b1, j_eq rfl (show (-1 : Int32) = zI (-1) from rfl) (zR_of (by omega)) (zR_of (by omega)), if_neg (by omega), if_pos (show zI (rCn R (rLn R - 1)) = 4 by rw [show rCn R (rLn R - 1) = 4 by omega]; rfl), show (4 : Int32) = zI 4 from rfl, q_bad' (k := 4) hh.1 hr, rEnd_0]
      · rw [mBad_9.1, if_neg (by
          have := rk_w (L := L) (M := M) hh.1
          omega)]
  | succ m ih =>
    intro p R hm hR hn p0 p1
    have hh := tok_h (T := T) (L := L) (M := M) p0 p1 hM.1
    have hrg := tok_r (T := T) (L := L) (M := M) p0 p1 hM.1
    have hkr := kw_r (T := T) (t := tok T L M p)
    have n10 := hR.1.2
    have hc0 := (hR.2 (rLn R - 1) (by omega) (by omega)).2.2.1.1
    have hC : ∀ ν, rdC T L M p ν → ∃ ν1, aJ 1001 [.ref 2, .ref 21, .ref 3, .int (zI (rCn R (rLn R - 1)))] [] ν = (if tK (tok T L M p) = 3 then some (some (.int 1), ν1) else aJ 1002 [.ref 2, .ref 21, .ref 3, .int (zI (rCn R (rLn R - 1)))] [] ν1) ∧ rdT T L M (tok T L M p) ν1 ∧ fr [2] ν ν1 ∧ ν1.1 2 7 = ν.1 2 7 ∧ ν1.1 2 8 = ν.1 2 8 := by
      intro ν hr
      obtain ⟨ν1, a1, a2, a3, a4, a5, a6⟩ := q_tk hT hM p0 p1 hr
      refine ⟨ν1, ?_, a2, a3, a4, a5⟩
      rw [jl_1001, a1, z_b0, a2.2.1, j_eq rfl (show (3 : Int32) = zI 3 from rfl) (zR_of (by omega)) (zR_of (by omega)), if_neg (fun z => by
        have := (zI_lt (a := 4) (zR_of (by omega)) (zR_of (by omega))).mp z
        omega)]
    have hR0 : ∀ ν, rtM T L M (tok T L M p) ν → ¬ (tK (tok T L M p) = 1 ∧ 15 ≤ kw T (tok T L M p) ∧ kw T (tok T L M p) ≤ 18) → ∀ x2 : Int32, aJ 144 [.ref 207, .int (zI (63 + 11 * (rLn R - 1))), .int x2] [] ν = some (some (.int 1), ν) := by
      intro ν hr hno x2
      have h := q_wh (a := 11) (b := 14) hh.1 hh.2 hr (by omega) (by omega) (by omega)
      rw [if_neg (fun z => hno (by
        obtain ⟨z1, z2, z3, z4⟩ := z
        unfold cwr at z3 z4
        refine ⟨z1, ?_⟩
        repeat' split at z3
        all_goals first | omega | (repeat' split at z4) <;> omega))] at h
      rw [jl_144, show (11 : Int32) = zI 11 from rfl, show (14 : Int32) = zI 14 from rfl, h, z_b1, if_pos (by decide), jl_150]
    by_cases c3 : tK (tok T L M p) = 3
    · refine Or.inr ⟨R, tE (tok T L M p), hR, rfl, by omega, hrg.2.1, fun ν hr hw => ?_, fun ν x hr hw => ?_⟩
      · obtain ⟨ν1, a1, a2, a3, a4, a5⟩ := hC ν hr
        exact ⟨ν1, frm a3 (by simp), a4, by rw [a1, if_pos c3], a2.1, a5, wC_2 a3 hw⟩
      · obtain ⟨ν1, b1, b1a, b1b, b2, _⟩ := q_rne hT hM (by omega) hrg.2.1 hh.1 hr
        obtain ⟨d1, d2, d3⟩ := b2 c3
        refine ⟨ν1, b1, ?_, d2, d3, wM_e b1a b1b hw⟩
        rw [hR0 ν hr (fun z => by omega), rEnd_1, d1, z_b1, if_neg (by decide)]
    by_cases cw : tK (tok T L M p) = 1 ∧ 15 ≤ kw T (tok T L M p) ∧ kw T (tok T L M p) ≤ 18
    case neg =>
      refine Or.inl ⟨1, tS (tok T L M p), by omega, by omega, fun ν hr hw => ?_, fun ν x hr hw => ?_⟩
      · obtain ⟨ν1, a1, a2, a3, a4, a5⟩ := hC ν hr
        refine ⟨cRf 1 (tS (tok T L M p)) ν1, frt (frm a3 (by simp)) (frm cRf_fr (by simp)), cRf_7.1.trans a4, ?_, cRf_7.2.1, cRf_7.2.2⟩
        have h3 : aJ 1003 [.ref 2] [] ν1 = some (some (.int 0), cRf 1 (tS (tok T L M p)) ν1) := by
          rw [jl_1003]
          exact q_ref' (k := 1) a2
        rw [a1, if_neg c3, jl_1002, show (15 : Int32) = zI 15 from rfl, show (18 : Int32) = zI 18 from rfl, a2.2.1, j_eq rfl (show (1 : Int32) = zI 1 from rfl) (zR_of (by omega)) (zR_of (by omega)), h3]
        by_cases q : tK (tok T L M p) = 1
        · rw [if_pos q, a2.2.2.2.1 q]
          by_cases q1 : kw T (tok T L M p) < 15
          · rw [if_pos ((zI_lt (b := 15) (zR_of (by omega)) (zR_of (by omega))).mpr q1)]
          · rw [if_neg (fun z => q1 ((zI_lt (b := 15) (zR_of (by omega)) (zR_of (by omega))).mp z)), if_neg (fun z => cw ⟨q, by omega, (zI_le (b := 18) (zR_of (by omega)) (zR_of (by omega))).mp z⟩)]
        · rw [if_neg q]
      · obtain ⟨ν1, b1, b1a, b1b, _, b2⟩ := q_rne hT hM (by omega) hrg.2.1 hh.1 hr
        obtain ⟨d1, d2, d3⟩ := b2 c3
        refine ⟨ν1, b1, ?_, d2, d3⟩
        rw [hR0 ν hr cw, rEnd_1, d1, z_b1, if_pos rfl]
    have hC4 : ∀ ν, rdC T L M p ν → ∃ ν1, aJ 1001 [.ref 2, .ref 21, .ref 3, .int (zI (rCn R (rLn R - 1)))] [] ν = (ax_b1 (aJ 1008 [.ref 2, .int (zI (kw T (tok T L M p))), .ref 3] [] ν1) fun v2 μ1 => if v2 = (-1) then some (some (.int 0), μ1) else aJ 1006 [.ref 2, .ref 21, .ref 3, .int (zI (rCn R (rLn R - 1))), .int (zI (kw T (tok T L M p))), .int v2] [] μ1) ∧ rdC T L M (tE (tok T L M p)) ν1 ∧ fr [2] ν ν1 ∧ ν1.1 2 7 = ν.1 2 7 ∧ ν1.1 2 8 = ν.1 2 8 := by
      intro ν hr
      obtain ⟨ν1, a1, a2, a3, a4, a5⟩ := hC ν hr
      refine ⟨ν1, ?_, a2.1, a3, a4, a5⟩
      rw [a1, if_neg c3, jl_1002, show (15 : Int32) = zI 15 from rfl, show (18 : Int32) = zI 18 from rfl, a2.2.1, j_eq rfl (show (1 : Int32) = zI 1 from rfl) (zR_of (by omega)) (zR_of (by omega)), if_pos cw.1, a2.2.2.2.1 cw.1, if_neg (fun z => by
        have := (zI_lt (b := 15) (zR_of (by omega)) (zR_of (by omega))).mp z
        omega), if_pos ((zI_le (b := 18) (zR_of (by omega)) (zR_of (by omega))).mpr cw.2.2), jl_1004, if_neg (fun z => by
        have := (zI_eq (b := 4) (zR_of (by omega)) (zR_of (by omega))).mp z
        omega), jl_1005, a2.2.2.2.1 cw.1]
    have hR4 : ∀ ν, rtM T L M (tok T L M p) ν → ∃ ν1, aJ 144 [.ref 207, .int (zI (63 + 11 * (rLn R - 1))), .int (zI (rCn R (rLn R - 1)))] [] ν = (ax_b1 (vR (kw T (tok T L M p)) ν1) fun v3 μ2 => aJ 148 [.ref 207, .int (zI (63 + 11 * (rLn R - 1))), .int (zI (rCn R (rLn R - 1))), .int (zI (kw T (tok T L M p) - 4))] [.int v3] μ2) ∧ rtM T L M (tok T L M (tE (tok T L M p))) ν1 ∧ gf ν ν1 := by
      intro ν hr
      have h := q_wh (a := 11) (b := 14) hh.1 hh.2 hr (by omega) (by omega) (by omega)
      have hcw : cwr (kw T (tok T L M p)) = kw T (tok T L M p) - 4 := by
        unfold cwr
        rw [if_neg (by omega), if_neg (by omega), if_neg (by omega), if_pos (by omega)]
      rw [if_pos (by omega), hcw] at h
      obtain ⟨ν1, b1, b2, b3⟩ := q_gon hT hM (by omega) hrg.2.1 (Or.inl cw.1) hr
      refine ⟨ν1, ?_, b2, b3⟩
      rw [jl_144, show (11 : Int32) = zI 11 from rfl, show (14 : Int32) = zI 14 from rfl, h, z_b1, h, z_b1, j_eq rfl (show (-1 : Int32) = zI (-1) from rfl) (zR_of (by omega)) (zR_of (by omega)), if_neg (by omega), if_neg (fun z => by
        have := (zI_eq (b := 4) (zR_of (by omega)) (zR_of (by omega))).mp z
        omega), q_145 cw.2, b1, z_b0]
    have h6 := hrg.2.2.2.2.2.1 (by omega)
    have h7' := hrg.2.2.2.2.2.2 (Or.inl cw.1)
    rcases q_cvl (R := R) hT hM hN (p := tE (tok T L M p)) (by omega) hrg.2.1 cw.2 with ⟨k, pl, hk, hpl, h1, h2⟩ | ⟨v, p', hv, hp1, hp2, h1, h2⟩
    · refine Or.inl ⟨k, pl, hk, hpl, fun ν hr hw => ?_, fun ν x hr hw => ?_⟩
      · obtain ⟨ν1, a1, a2, a3, a4, a5⟩ := hC4 ν hr
        obtain ⟨ν2, b1, b2, b3, b4, b5⟩ := h1 ν1 a2 (wC_2 a3 hw)
        refine ⟨ν2, frt (frm a3 (by simp)) (frm b1 (by simp)), b2.trans a4, ?_, b4, b5⟩
        rw [a1, b3, z_b1, if_pos (by decide)]
      · obtain ⟨ν1, a1, a2, a3⟩ := hR4 ν hr
        obtain ⟨ν2, b1, b2, b3, b4⟩ := h2 ν1 a2 (wM_e a3.1 a3.2.2 hw)
        refine ⟨ν2, nft (nfg a3) b1, ?_, b3, b4⟩
        rw [a1, b2, z_b1, jl_148, if_pos rfl, rEnd_0]
    have hc4 : rCn R (rLn R - 1) < 4 := by omega
    have hokR := rca_ok (w := kw T (tok T L M p)) (v := v) hR hn hc4 cw.2 hv
    have hCC : rCn (rca R (kw T (tok T L M p)) v) (rLn (rca R (kw T (tok T L M p)) v) - 1) = rCn R (rLn R - 1) + 1 := pu_at
    have hLL : rLn (rca R (kw T (tok T L M p)) v) = rLn R := rfl
    have hC5 : ∀ ν, rdC T L M p ν → wC N R ν → ∃ ν1, aJ 1001 [.ref 2, .ref 21, .ref 3, .int (zI (rCn R (rLn R - 1)))] [] ν = aJ 1001 [.ref 2, .ref 21, .ref 3, .int (zI (rCn R (rLn R - 1) + 1))] [] ν1 ∧ rdC T L M p' ν1 ∧ wC N (rca R (kw T (tok T L M p)) v) ν1 ∧ fr [2, 24, 25, 26] ν ν1 ∧ ν1.1 2 7 = ν.1 2 7 ∧ ν1.1 2 8 = ν.1 2 8 := by
      intro ν hr hw
      obtain ⟨ν1, a1, a2, a3, a4, a5⟩ := hC4 ν hr
      obtain ⟨ν2, b1, b2, b3, b4, b5⟩ := h1 ν1 a2 (wC_2 a3 hw)
      obtain ⟨ν3, c1, c2, c3'⟩ := q_adc (w := kw T (tok T L M p)) (v := v) hR hn hc4 (wC_2 b1 (wC_2 a3 hw))
      refine ⟨ν3, ?_, rdC_fr c3' (by decide) (by decide) b4, c2, frt (frm a3 (by simp)) (frt (frm b1 (by simp)) (frm c3' (by simp))), (fr_at c3' (by decide) 7).trans (b2.trans a4), (fr_at c3' (by decide) 8).trans (b5.trans a5)⟩
      rw [a1, b3, z_b1, j_eq rfl (show (-1 : Int32) = zI (-1) from rfl) (zR_of (by omega)) (zR_of (by omega)), if_neg (by omega), jl_1006, c1, z_b0, zI_a1]
    have hR5 : ∀ ν, rtM T L M (tok T L M p) ν → wM N R ν → ∃ ν1, aJ 144 [.ref 207, .int (zI (63 + 11 * (rLn R - 1))), .int (zI (rCn R (rLn R - 1)))] [] ν = aJ 144 [.ref 207, .int (zI (63 + 11 * (rLn R - 1))), .int (zI (rCn R (rLn R - 1) + 1))] [] ν1 ∧ rtM T L M (tok T L M p') ν1 ∧ wM N (rca R (kw T (tok T L M p)) v) ν1 ∧ nfr ν ν1 ∧ ν1.1 207 9 = ν.1 207 9 := by
      intro ν hr hw
      obtain ⟨ν1, a1, a2, a3⟩ := hR4 ν hr
      obtain ⟨ν2, b1, b2, b3, b4, b5, b6⟩ := h2 ν1 a2 (wM_e a3.1 a3.2.2 hw)
      have W := w2_w (f := ν2.1) (p := (63 + 11 * (rLn R - 1) + 3 + 2 * rCn R (rLn R - 1)).toNat) (q := (63 + 11 * (rLn R - 1) + 4 + 2 * rCn R (rLn R - 1)).toNat) (x := zI (kw T (tok T L M p) - 4)) (y := zI v) (by omega)
      generalize hF : ax_up (ax_up ν2.1 210 (63 + 11 * (rLn R - 1) + 3 + 2 * rCn R (rLn R - 1)).toNat (zI (kw T (tok T L M p) - 4))) 210 (63 + 11 * (rLn R - 1) + 4 + 2 * rCn R (rLn R - 1)).toNat (zI v) = F at W
      obtain ⟨W1, W2, W3, W4⟩ := W
      refine ⟨(F, ν2.2), ?_, rtM_F W4 b3, wM_c hR hn hc4 b4 W1 W2 W3 W4, nft (nfg a3) (nft b1 (nf_210 W4)), (congrFun (W4 207 (by decide)) 9).trans (b5.trans (a3.2.1 9 (by decide) (by decide) (by decide) (by decide)))⟩
      have e13 : ax_up ν2.1 210 (63 + 11 * (rLn R - 1) + 3 + 2 * rCn R (rLn R - 1)).toNat (zI (kw T (tok T L M p) - 4)) 207 13 = zI v := (up_ne (show 207 ≠ 210 by decide)).trans b6
      rw [a1, b2, z_b1, jl_148, if_neg (by decide), jl_149]
      simp only [zI_lit, zI_add, zI_mul]
      rw [z_st (len := 173) (by decide) (by omega) (by omega) (by decide), z_bo, show ((ax_up ν2.1 210 (63 + 11 * (rLn R - 1) + 3 + 2 * rCn R (rLn R - 1)).toNat (zI (kw T (tok T L M p) - 4)), ν2.2) : ax_M).1 207 13 = zI v from e13, z_st (len := 173) (by decide) (by omega) (by omega) (by decide), z_bo, ← hF]
    rcases ih p' (rca R (kw T (tok T L M p)) v) (by rw [hCC]; omega) hokR hn (by omega) hp2 with ⟨k, pl, hk, hpl, g1, g2⟩ | ⟨R', p2, hR', hL', hq1, hq2, g1, g2⟩
    · refine Or.inl ⟨k, pl, hk, hpl, fun ν hr hw => ?_, fun ν x hr hw => ?_⟩
      · obtain ⟨ν1, a1, a2, a3, a4, a5, a6⟩ := hC5 ν hr hw
        obtain ⟨ν2, b1, b2, b3, b4, b5⟩ := g1 ν1 a2 a3
        rw [hCC] at b3
        exact ⟨ν2, frt a4 b1, b2.trans a5, a1.trans b3, b4, b5⟩
      · obtain ⟨ν1, a1, a2, a3, a4, a5⟩ := hR5 ν hr hw
        obtain ⟨ν2, b1, b2, b3, b4⟩ := g2 ν1 x a2 a3
        rw [hCC, hLL] at b2
        exact ⟨ν2, nft a4 b1, by rw [a1]; exact b2, b3, b4⟩
    · refine Or.inr ⟨R', p2, hR', hL', by omega, hq2, fun ν hr hw => ?_, fun ν x hr hw => ?_⟩
      · obtain ⟨ν1, a1, a2, a3, a4, a5, a6⟩ := hC5 ν hr hw
        obtain ⟨ν2, b1, b2, b3, b4, b5, b6⟩ := g1 ν1 a2 a3
        rw [hCC] at b3
        exact ⟨ν2, frt a4 b1, b2.trans a5, a1.trans b3, b4, b5.trans a6, b6⟩
      · obtain ⟨ν1, a1, a2, a3, a4, a5⟩ := hR5 ν hr hw
        obtain ⟨ν2, b1, b2, b3, b4, b5⟩ := g2 ν1 x a2 a3
        rw [hCC, hLL] at b2
        exact ⟨ν2, nft a4 b1, by rw [a1]; exact b2, b3, b4.trans a5, b5⟩
