/-! o: a line of a network's text: a node -/
def dC (N : qNm) (G : gG) (ν : ax_M) : Prop := cNm 8 N ν ∧ ν.1 8 0 = zI N.1 ∧ ν.1 8 1 = zI (gE G) ∧ rP ν 11 (2 * gE G) (gsd G) ∧ rP ν 12 (gE G) (gwt G)
def dM (N : qNm) (G : gG) (ν : ax_M) : Prop := ν.1 210 0 = zI N.1 ∧ ν.1 210 1 = zI (gE G) ∧ (∀ e, 0 ≤ e → e < 30 → ν.1 210 (2 + e).toNat = zI (gfr G e)) ∧ (∀ e, 0 ≤ e → e < 30 → ν.1 210 (32 + e).toNat = zI (gsc G e)) ∧ rNm 216 0 N ν ∧ rP ν 219 (gE G) (gwt G) ∧ ∀ j : Nat, 62 ≤ j → j < 173 → ν.1 210 j = zI 0
def dOK (N : qNm) (G : gG) : Prop := nOK N ∧ N.1 = gN G ∧ hGok G ∧ hGx G ∧ ∀ e, gE G ≤ e → gwt G e = 0
def CF (T : Int → Int) (L M : Int) (t : Int × Int × Int) (N : qNm) (G : gG) (k pl : Int) : Prop := ∀ ν (i : Int32), rdT T L M t ν → dC N G ν → ∃ ν', fr [2, 8, 9, 10, 11, 12] ν ν' ∧ ν'.1 2 7 = ν.1 2 7 ∧ aJ 964 [.ref 2, .ref 8, .int i] [] ν = some (some (.int 0), ν') ∧ ν'.1 2 8 = zI k ∧ ν'.1 2 9 = zI pl
def RF (T : Int → Int) (L M : Int) (t : Int × Int × Int) (N : qNm) (G : gG) (k pl : Int) : Prop := ∀ ν (x : Int32), rtM T L M t ν → dM N G ν → ∃ ν', nfr ν ν' ∧ aJ 125 [.ref 207, .int x] [] ν = aJ 129 [.ref 207, .int x] [] ν' ∧ ν'.1 207 9 = zI k ∧ ν'.1 207 11 = zI pl
def CS (T : Int → Int) (L M : Int) (t : Int × Int × Int) (N : qNm) (G : gG) (N' : qNm) (G' : gG) (p' : Int) : Prop := ∀ ν (i : Int32), rdT T L M t ν → dC N G ν → ∃ ν', fr [2, 8, 9, 10, 11, 12] ν ν' ∧ aJ 964 [.ref 2, .ref 8, .int i] [] ν = aJ 960 [.ref 2, .ref 8, .int (i + 1)] [] ν' ∧ ν'.1 2 7 = ν.1 2 7 + 1 ∧ ν'.1 2 8 = ν.1 2 8 ∧ ν'.1 2 9 = ν.1 2 9 ∧ rdC T L M p' ν' ∧ dC N' G' ν'
def RS (T : Int → Int) (L M : Int) (t : Int × Int × Int) (N : qNm) (G : gG) (N' : qNm) (G' : gG) (p' : Int) : Prop := ∀ ν (x : Int32), rtM T L M t ν → dM N G ν → ∃ ν', nfr ν ν' ∧ aJ 125 [.ref 207, .int x] [] ν = aJ 130 [.ref 207, .int x] [] ν' ∧ ν'.1 207 9 = ν.1 207 9 ∧ rtM T L M (tok T L M p') ν' ∧ dM N' G' ν'
def lRes (T : Int → Int) (L M : Int) (t : Int × Int × Int) (N : qNm) (G : gG) : Prop := (∃ k pl, (1 ≤ k ∧ k ≤ 4) ∧ (0 ≤ pl ∧ pl ≤ L) ∧ CF T L M t N G k pl ∧ RF T L M t N G k pl) ∨ ∃ N' G' p', dOK N' G' ∧ tE t ≤ p' ∧ p' ≤ L ∧ CS T L M t N G N' G' p' ∧ RS T L M t N G N' G' p'
theorem dC_fr {N : qNm} {G : gG} {l : List Nat} {ν ν' : ax_M} (h : fr l ν ν') (hl : ∀ a, a ∈ l → a = 2 ∨ a < 2) (hd : dC N G ν) : dC N G ν' := by
  obtain ⟨a, b, c, d, e⟩ := hd
  have g : ∀ x, 8 ≤ x → ν'.1 x = ν.1 x := fun x hx => h.2 x (fun q => by have := hl x q; omega)
  exact ⟨cNm_e (g _ (by omega)) (g _ (by omega)) a, by rw [g 8 (by omega)]; exact b, by rw [g 8 (by omega)]; exact c, rP_e (g 11 (by omega)) d, rP_e (g 12 (by omega)) e⟩
theorem dM_e {N : qNm} {G : gG} {ν ν' : ax_M} (h : ∀ a, a ≠ 207 → ν'.1 a = ν.1 a) (h2 : ∀ a, a ≠ 207 → ν'.2 a = ν.2 a) (hd : dM N G ν) : dM N G ν' := by
  obtain ⟨a, b, c, d, e, f, f7⟩ := hd
  have g := h 210 (by decide)
  refine ⟨by rw [g]; exact a, by rw [g]; exact b, by rw [g]; exact c, by rw [g]; exact d, ?_, rP_e (h 219 (by decide)) f, by rw [g]; exact f7⟩
  unfold rNm at *
  rw [h2 216 (by decide)]
  exact e
def nadd (N : qNm) (T : Int → Int) (t : Int × Int × Int) : qNm := (N.1 + 1, pu N.2.1 N.1 (tE t - tS t), fun n => if n = N.1 then (fun i => T (tS t + i)) else N.2.2 n)
def gadd (G : gG) : gG := (gN G + 1, gE G, gfr G, gsc G, gwt G)
theorem nadd_OK {N : qNm} {T : Int → Int} {t : Int × Int × Int} (hN : nOK N) (h12 : N.1 < 12) (ht : tWd T t) (hk : tK t = 1) : nOK (nadd N T t) := by
  obtain ⟨a, b, c⟩ := hN
  obtain ⟨w1, w2, w3⟩ := ht hk
  refine ⟨by show 0 ≤ N.1 + 1; omega, by show N.1 + 1 ≤ 12; omega, fun n n0 n1 => ?_⟩
  have n1' : n < N.1 + 1 := n1
  show (1 ≤ pu N.2.1 N.1 (tE t - tS t) n ∧ pu N.2.1 N.1 (tE t - tS t) n ≤ 7) ∧ ∀ i : Int, 0 ≤ i → i < pu N.2.1 N.1 (tE t - tS t) n → 97 ≤ (if n = N.1 then (fun i => T (tS t + i)) else N.2.2 n) i ∧ (if n = N.1 then (fun i => T (tS t + i)) else N.2.2 n) i ≤ 122
  by_cases q : n = N.1
  · rw [q, pu_at, if_pos rfl]
    exact ⟨⟨w1, w2⟩, w3⟩
  · rw [pu_ne q, if_neg q]
    exact c n n0 (by omega)
theorem dOK_nd {N : qNm} {G : gG} {T : Int → Int} {t : Int × Int × Int} (hd : dOK N G) (h12 : N.1 < 12) (ht : tWd T t) (hk : tK t = 1) : dOK (nadd N T t) (gadd G) := by
  obtain ⟨a, b, ⟨g1, g2, g3, g4, g5⟩, d, e⟩ := hd
  refine ⟨nadd_OK a h12 ht hk, by show N.1 + 1 = gN G + 1; omega, ⟨by show 0 ≤ gN G + 1; omega, by show gN G + 1 ≤ 12; omega, g3, g4, fun e e0 e1 => ?_⟩, d, e⟩
  obtain ⟨q1, q2, q3, q4, q5⟩ := g5 e e0 e1
  exact ⟨q1, by show gfr G e < gN G + 1; omega, q3, by show gsc G e < gN G + 1; omega, q5⟩
theorem q_952 {n j c : Int} {ν : ax_M} (n0 : 0 ≤ n) (n1 : n < 12) (j0 : 0 ≤ j) (j1 : j < 7) (c0 : 97 ≤ c) (c1 : c ≤ 122) : aJ 952 [.ref 8, .int (zI n), .int (zI j), .int (zI c)] [] ν = some (none, (ax_up ν.1 9 (n * 7 + j).toNat (zI c), ν.2)) := by
  have hs := sgn_8 c.toNat (by omega)
  rw [show ((c.toNat : Nat) : Int) = c by omega] at hs
  rw [jl_952]
  simp (disch := omega) only [zI_lit, zI_mul, zI_add, p_lt, p_le]
  rw [if_neg (by omega), if_neg (by omega), hs.1, st8_at (len := 84) (by decide) (by omega) (by omega) (by decide), hs.2, z_bo, jl_953]
/-- the class takes a name over -/
theorem q_nad {T : Int → Int} {L M : Int} {t : Int × Int × Int} {N : qNm} {G : gG} {ν : ax_M} (hT : tBy T L) (hw : tWd T t) (hk : tK t = 1) (ht : 0 ≤ tS t ∧ tS t ≤ tE t ∧ tE t ≤ L) (h12 : 0 ≤ N.1 ∧ N.1 < 12) (hN : nOK N) (hr : rdT T L M t ν) (hd : dC N G ν) : ∃ ν', aJ 985 [.ref 2, .ref 8] [] ν = (ax_b1 (aJ 1012 [.ref 2] [] ν') fun v3 μ2 => if v3 = 0 ∨ v3 = 1 then some (some (Value.int v3), μ2) else none) ∧ rdT T L M t ν' ∧ dC (nadd N T t) (gadd G) ν' ∧ fr [8, 9, 10] ν ν' := by
  obtain ⟨w1, w2, w3⟩ := hw hk
  have hL := hT.2.1
  have loop : ∀ (m : Nat) (j : Int) (ν1 : ax_M), 0 ≤ j → j + m = tE t - tS t → rdT T L M t ν1 → ν1.1 8 0 = zI N.1 → ∃ ν', aJ 986 [.ref 2, .ref 8, .int (zI j)] [] ν1 = aJ 987 [.ref 2, .ref 8] [] ν' ∧ (∀ i : Int, j ≤ i → i < tE t - tS t → ν'.1 9 (N.1 * 7 + i).toNat = zI (T (tS t + i))) ∧ (∀ q : Nat, ((q : Int) < N.1 * 7 + j ∨ N.1 * 7 + 7 ≤ q) → ν'.1 9 q = ν1.1 9 q) ∧ fr [9] ν1 ν' := by
    intro m
    induction m with
    | zero =>
      intro j ν1 j0 jm hr1 h8
      refine ⟨ν1, ?_, fun i i0 i1 => by omega, fun _ _ => rfl, frz⟩
      rw [jl_986, hr1.1.2.2.1, hr1.2.2.1]
      simp (disch := omega) only [zI_lit, zI_add, p_le]
      by_cases c : 7 ≤ j
      · rw [if_pos c]
      · rw [if_neg c, if_pos (by omega)]
    | succ m ih =>
      intro j ν1 j0 jm hr1 h8
      have hc := w3 j j0 (by omega)
      have hsig := q_sig hT hr1.1 (i := tS t + j) (by omega) (by omega)
      have hsb : sby (T (tS t + j)) = T (tS t + j) := by
        unfold sby
        rw [if_pos (by omega)]
      have f1 : fr [9] ν1 (ax_up ν1.1 9 (N.1 * 7 + j).toNat (zI (T (tS t + j))), ν1.2) := fru (by simp)
      obtain ⟨ν', a1, a2, a3, a4⟩ := ih (j + 1) (ax_up ν1.1 9 (N.1 * 7 + j).toNat (zI (T (tS t + j))), ν1.2) (by omega) (by omega) (rdT_fr f1 (by decide) (by decide) hr1) ((fr_at f1 (by decide) 0).trans h8)
      refine ⟨ν', ?_, fun i i0 i1 => ?_, fun q hq => ?_, frt f1 a4⟩
      · rw [jl_986, hr1.1.2.2.1, hr1.2.2.1]
        simp (disch := omega) only [zI_lit, zI_add, p_le]
        rw [if_neg (by omega), if_neg (by omega), hsig, z_b1, hsb, h8, q_952 h12.1 h12.2 j0 (by omega) hc.1 hc.2, z_b0]
        exact a1
      · by_cases q : i = j
        · subst q
          rw [a3 _ (by omega)]
          exact up_at
        · exact a2 i (by omega) i1
      · rw [a3 q (by omega)]
        exact up_nk (by omega)
  obtain ⟨d1, d2, d3, d4, d5⟩ := hd
  obtain ⟨ν1, a1, a2, a3, a4⟩ := loop (tE t - tS t).toNat 0 ν (by omega) (by omega) hr d2
  have hr1 := rdT_fr a4 (by decide) (by decide) hr
  have h81 : ν1.1 8 0 = zI N.1 := (fr_at a4 (by decide) 0).trans d2
  have f2 : fr [10] ν1 (ax_up ν1.1 10 N.1.toNat (zI (tE t - tS t)), ν1.2) := fru (by simp)
  have f3 : fr [8] (ax_up ν1.1 10 N.1.toNat (zI (tE t - tS t)), ν1.2) (ax_uD (ax_up ν1.1 10 N.1.toNat (zI (tE t - tS t)), ν1.2) 8 0 (zI (N.1 + 1))) := fr_uD (by simp)
  have fa : fr [8, 9, 10] ν (ax_uD (ax_up ν1.1 10 N.1.toNat (zI (tE t - tS t)), ν1.2) 8 0 (zI (N.1 + 1))) := frt (frm a4 (by simp)) (frt (frm f2 (by simp)) (frm f3 (by simp)))
  refine ⟨ax_uD (ax_up ν1.1 10 N.1.toNat (zI (tE t - tS t)), ν1.2) 8 0 (zI (N.1 + 1)), ?_, rdT_fr f3 (by decide) (by decide) (rdT_fr f2 (by decide) (by decide) hr1), ⟨?_, uD_at, ?_, rP_e (fa.2 11 (by decide)) d4, rP_e (fa.2 12 (by decide)) d5⟩, fa⟩
  · rw [jl_985]
    simp only [zI_lit] at a1 ⊢
    rw [a1, jl_987, h81, hr1.1.2.2.1, hr1.2.2.1, zI_sub, c_put (len := 12) (by decide) (by decide) h12.1 (by omega), z_b0]
    have e8 : (ax_up ν1.1 10 N.1.toNat (zI (tE t - tS t))) 8 0 = zI N.1 := (up_ne (by decide)).trans h81
    rw [show ((ax_up ν1.1 10 N.1.toNat (zI (tE t - tS t)), ν1.2) : ax_M).1 8 0 = zI N.1 from e8]
    simp only [zI_lit, zI_add]
  · intro n n0 n1
    have n1' : n < N.1 + 1 := n1
    show _ = zI (pu N.2.1 N.1 (tE t - tS t) n) ∧ ∀ i : Int, 0 ≤ i → i < pu N.2.1 N.1 (tE t - tS t) n → _ = zI ((if n = N.1 then (fun i => T (tS t + i)) else N.2.2 n) i)
    by_cases q : n = N.1
    · rw [q, pu_at, if_pos rfl]
      refine ⟨?_, fun i i0 i1 => ?_⟩
      · rw [uD_ne (by decide)]
        exact up_at
      · rw [uD_ne (by decide)]
        exact (pp_ne (by decide)).trans (a2 i i0 i1)
    · rw [pu_ne q, if_neg q]
      obtain ⟨x1, x2⟩ := d1 n n0 (by omega)
      have h7 := (hN.2.2 n n0 (by omega)).1
      refine ⟨?_, fun i i0 i1 => ?_⟩
      · rw [uD_ne (by decide)]
        exact (up_nk (by omega)).trans ((fr_at a4 (by decide) _).trans x1)
      · rw [uD_ne (by decide)]
        exact (pp_ne (by decide)).trans ((a3 _ (by omega)).trans (x2 i i0 i1))
  · rw [uD_nk (by decide)]
    exact (pp_ne (by decide)).trans ((fr_at a4 (by decide) 1).trans d3)
theorem l_nd {T : Int → Int} {L M : Int} {t : Int × Int × Int} {N : qNm} {G : gG} (hT : tBy T L) (hM : 0 ≤ M ∧ M ≤ 1000) (h4 : 0 ≤ tK t ∧ tK t ≤ 4) (htw : tWd T t) (hk : tK t = 1) (hkw : kw T t = 19) (ht : 0 ≤ tS t ∧ tS t ≤ L ∧ 0 ≤ tE t ∧ tE t ≤ L) (hd : dOK N G) : lRes T L M t N G := by
  have hN := hd.1
  have hE := hd.2.2.1.2.2.2.1
  have hE0 := hd.2.2.1.2.2.1
  have h00 := hN.1
  have h012 := hN.2.1
  obtain ⟨r2, r3, r4, r0, r1, rl, ru⟩ := rk_w (L := L) (M := M) h4
  have hC : ∀ ν (i : Int32), rdT T L M t ν → aJ 964 [.ref 2, .ref 8, .int i] [] ν = ax_b1 (aJ 982 [.ref 2, .ref 8] [] ν) fun v4 μ3 => aJ 967 [.ref 2, .ref 8, .int i] [.int v4] μ3 := by
    intro ν i hr
    have := q_iwd (w := 19) h4 hr (by omega) (by omega)
    rw [jl_964, show (19 : Int32) = zI 19 from rfl, this, z_b1, decide_eq_true ⟨hk, hkw⟩, if_neg zB_t]
  have hR : ∀ ν (x : Int32), rtM T L M t ν → aJ 125 [.ref 207, .int x] [] ν = ax_b1 (aJ 104 [.ref 207] [] ν) fun v4 μ3 => aJ 128 [.ref 207, .int x] [.int v4] μ3 := by
    intro ν x hr
    have := q_rwd (k := 8) h4 htw hr (by omega)
    rw [jl_125, hr.2.2.1, show (8 : Int32) = zI ((8 : Nat) : Int) from rfl, this, z_b1, decide_eq_true (⟨hk, hkw⟩ : tK t = 1 ∧ kw T t = crw 8), if_neg zB_t]
    simp (disch := omega) only [zI_lit, p_eq]
    rw [if_neg (by omega)]
  have ld0 : ∀ ν, dM N G ν → ax_ld ax_sh ν 210 0 = some (zI N.1) := fun ν hm => by
    rw [show (0 : Int32) = zI 0 from rfl, z_ld (len := 173) (by decide) (by omega) (by decide) (by decide)]
    exact congrArg some hm.1
  by_cases c1 : 12 ≤ N.1
  · refine Or.inl ⟨4, tS t, by omega, ⟨ht.1, ht.2.1⟩, fun ν i hr hm => ?_, fun ν x hr hm => ?_⟩
    · refine ⟨cRf 4 (tS t) ν, frm cRf_fr (by simp), cRf_7.1, ?_, cRf_7.2.1, cRf_7.2.2⟩
      rw [hC ν i hr, jl_982, hm.2.1]
      simp (disch := omega) only [zI_lit, p_lt]
      rw [if_neg (by omega)]
      have := q_ref (k := 4) hr
      rw [this, z_b1, if_pos (by decide), z_b1, jl_967, if_pos rfl] <;> rfl
    · refine ⟨mBad L M t 4 ν, nfb, ?_, ?_, mBad_9.2⟩
      · have := q_bad (k := 4) h4 hr
        rw [hR ν x hr, jl_104, ld0 ν hm, z_bo]
        simp (disch := omega) only [p_eq, show (12 : Int32) = zI 12 from rfl]
        rw [if_pos (by omega), show (4 : Int32) = zI 4 from rfl, this, z_b1, if_pos (by decide), z_b1, jl_128, if_pos rfl] <;> rfl
      · rw [mBad_9.1, if_neg (by omega)]
  have hh := tok_h (T := T) (L := L) (M := M) ht.2.2.1 ht.2.2.2 hM.1
  have hrg := tok_r (T := T) (L := L) (M := M) ht.2.2.1 ht.2.2.2 hM.1
  have hC1 : ∀ ν (i : Int32), rdT T L M t ν → dC N G ν → aJ 964 [.ref 2, .ref 8, .int i] [] ν = ax_b1 (aJ 983 [.ref 2, .ref 8] [] ν) fun v4 μ3 => aJ 967 [.ref 2, .ref 8, .int i] [.int v4] μ3 := by
    intro ν i hr hm
    rw [hC ν i hr, jl_982, hm.2.1]
    simp (disch := omega) only [zI_lit, p_lt]
    rw [if_pos (by omega)]
  have hR1 : ∀ ν (x : Int32), rtM T L M t ν → dM N G ν → aJ 125 [.ref 207, .int x] [] ν = ax_b1 (aJ 105 [.ref 207] [] ν) fun v4 μ3 => aJ 128 [.ref 207, .int x] [.int v4] μ3 := by
    intro ν x hr hm
    rw [hR ν x hr, jl_104, ld0 ν hm, z_bo]
    simp (disch := omega) only [p_eq, show (12 : Int32) = zI 12 from rfl]
    rw [if_neg (by omega)]
  generalize htt : tok T L M (tE t) = t1 at *
  by_cases c2 : tK t1 = 1 ∧ kw T t1 = -1
  case neg =>
    refine Or.inl ⟨1, tS t1, by omega, ⟨hrg.2.2.1, hrg.2.2.2.1⟩, fun ν i hr hm => ?_, fun ν x hr hm => ?_⟩
    · obtain ⟨ν1, a1, a2, a3, a4, _, _⟩ := q_tk hT hM ht.2.2.1 ht.2.2.2 hr.1
      rw [htt] at a2
      refine ⟨cRf 1 (tS t1) ν1, frt (frm a3 (by simp)) (frm cRf_fr (by simp)), cRf_7.1.trans a4, ?_, cRf_7.2.1, cRf_7.2.2⟩
      have := q_ref (k := 1) a2
      rw [hC1 ν i hr hm, jl_983, a1, z_b0, q_inm hh.1 a2, z_b1, decide_eq_false c2, if_pos (by decide), show (1 : Int32) = zI 1 from rfl, this, z_b1, if_pos (by decide), z_b1, jl_967, if_pos rfl] <;> rfl
    · obtain ⟨ν1, a1, a2, a3⟩ := q_gon hT hM ht.2.2.1 ht.2.2.2 (Or.inl hk) hr
      rw [htt] at a2
      refine ⟨mBad L M t1 1 ν1, nft (nfg a3) nfb, ?_, ?_, mBad_9.2⟩
      · have := q_bad (k := 1) hh.1 a2
        rw [hR1 ν x hr hm, jl_105, a1, z_b0, q_rnmd hh.1 hh.2 a2, z_b1, decide_eq_false c2, if_pos (by decide), show (1 : Int32) = zI 1 from rfl, this, z_b1, if_pos (by decide), z_b1, jl_128, if_pos rfl] <;> rfl
      · rw [mBad_9.1]
        split <;> rfl
  have hwd := hh.2 c2.1
  have hk1 := rk_w (L := L) (M := M) hh.1
  have hse : tS t1 ≤ tE t1 := by omega
  have hnm : ∀ ν1, rdT T L M t1 ν1 → dC N G ν1 → aJ 1035 [.ref 2, .ref 8] [] ν1 = some (some (.int (zI (fn N T t1))), ν1) := fun ν1 hr1 hm1 => q_nmd hT ⟨hrg.2.2.1, hse, hrg.2.1⟩ hwd.2.2 hr1 (Or.inr rfl) hN hm1.1 hm1.2.1
  have hfr := fn_r (N := N) (T := T) (t := t1) h00
  have hC2 : ∀ ν (i : Int32), rdT T L M t ν → dC N G ν → ∃ ν1, aJ 964 [.ref 2, .ref 8, .int i] [] ν = (ax_b1 (aJ 984 [.ref 2, .ref 8] [] ν1) fun v4 μ3 => aJ 967 [.ref 2, .ref 8, .int i] [.int v4] μ3) ∧ rdT T L M t1 ν1 ∧ dC N G ν1 ∧ fr [2] ν ν1 ∧ ν1.1 2 7 = ν.1 2 7 ∧ ν1.1 2 8 = ν.1 2 8 ∧ ν1.1 2 9 = ν.1 2 9 := by
    intro ν i hr hm
    obtain ⟨ν1, a1, a2, a3, a4, a5, a6⟩ := q_tk hT hM ht.2.2.1 ht.2.2.2 hr.1
    rw [htt] at a2
    refine ⟨ν1, ?_, a2, dC_fr a3 (by simp) hm, a3, a4, a5, a6⟩
    rw [hC1 ν i hr hm, jl_983, a1, z_b0, q_inm hh.1 a2, z_b1, decide_eq_true c2, if_neg zB_t]
  have hR2 : ∀ ν (x : Int32), rtM T L M t ν → dM N G ν → ∃ ν1, aJ 125 [.ref 207, .int x] [] ν = (ax_b1 (aJ 106 [.ref 207] [] ν1) fun v4 μ3 => aJ 128 [.ref 207, .int x] [.int v4] μ3) ∧ rtM T L M t1 ν1 ∧ dM N G ν1 ∧ gf ν ν1 ∧ aJ 100 [.ref 216, .int (zI N.1), .long (ν1.2 207 12)] [] ν1 = some (some (.int (zI (fn N T t1))), ν1) := by
    intro ν x hr hm
    obtain ⟨ν1, a1, a2, a3⟩ := q_gon hT hM ht.2.2.1 ht.2.2.2 (Or.inl hk) hr
    rw [htt] at a2
    have hm1 := dM_e a3.1 a3.2.2 hm
    refine ⟨ν1, ?_, a2, hm1, a3, ?_⟩
    · rw [hR1 ν x hr hm, jl_105, a1, z_b0, q_rnmd hh.1 hh.2 a2, z_b1, decide_eq_true c2, if_neg zB_t]
    · rw [a2.2.2.2.2.1 c2.1]
      exact q_fni hh.2 c2.1 (Or.inr rfl) hN hm1.2.2.2.2.1
  by_cases c3 : fn N T t1 = -1
  case neg =>
    refine Or.inl ⟨3, tS t1, by omega, ⟨hrg.2.2.1, hrg.2.2.2.1⟩, fun ν i hr hm => ?_, fun ν x hr hm => ?_⟩
    · obtain ⟨ν1, a1, a2, a3, a4, a5, _, _⟩ := hC2 ν i hr hm
      refine ⟨cRf 3 (tS t1) ν1, frt (frm a4 (by simp)) (frm cRf_fr (by simp)), cRf_7.1.trans a5, ?_, cRf_7.2.1, cRf_7.2.2⟩
      have := q_ref (k := 3) a2
      rw [a1, jl_984, hnm ν1 a2 a3, z_b1]
      simp (disch := omega) only [p_eq, show (-1 : Int32) = zI (-1) from rfl]
      rw [if_neg c3, show (3 : Int32) = zI 3 from rfl, this, z_b1, if_pos (by decide), z_b1, jl_967, if_pos rfl] <;> rfl
    · obtain ⟨ν1, a1, a2, a3, a4, a5⟩ := hR2 ν x hr hm
      refine ⟨mBad L M t1 3 ν1, nft (nfg a4) nfb, ?_, ?_, mBad_9.2⟩
      · have := q_bad (k := 3) hh.1 a2
        rw [a1, jl_106, ld0 ν1 a3, z_bo, a5, z_b1]
        simp (disch := omega) only [p_eq, show (-1 : Int32) = zI (-1) from rfl]
        rw [if_neg c3, show (3 : Int32) = zI 3 from rfl, this, z_b1, if_pos (by decide), z_b1, jl_128, if_pos rfl] <;> rfl
      · rw [mBad_9.1, if_neg (by omega)]
  -- the name is taken over
  have hh2 := tok_h (T := T) (L := L) (M := M) (p := tE t1) (by omega) (by omega) hM.1
  have hrg2 := tok_r (T := T) (L := L) (M := M) (p := tE t1) (by omega) (by omega) hM.1
  have hC3 : ∀ ν (i : Int32), rdT T L M t ν → dC N G ν → ∃ ν1, aJ 964 [.ref 2, .ref 8, .int i] [] ν = (ax_b1 (ax_b1 (aJ 1012 [.ref 2] [] ν1) fun v3 μ2 => if v3 = 0 ∨ v3 = 1 then some (some (Value.int v3), μ2) else none) fun v4 μ3 => aJ 967 [.ref 2, .ref 8, .int i] [.int v4] μ3) ∧ rdT T L M t1 ν1 ∧ dC (nadd N T t1) (gadd G) ν1 ∧ fr [2, 8, 9, 10, 11, 12] ν ν1 ∧ ν1.1 2 7 = ν.1 2 7 ∧ ν1.1 2 8 = ν.1 2 8 ∧ ν1.1 2 9 = ν.1 2 9 := by
    intro ν i hr hm
    obtain ⟨ν1, a1, a2, a3, a4, a5, a6, a7⟩ := hC2 ν i hr hm
    obtain ⟨ν2, b1, b2, b3, b4⟩ := q_nad hT hh.2 c2.1 ⟨hrg.2.2.1, hse, hrg.2.1⟩ ⟨h00, by omega⟩ hN a2 a3
    refine ⟨ν2, ?_, b2, b3, frt (frm a4 (by simp)) (frm b4 (by simp)), (fr_at b4 (by decide) 7).trans a5, (fr_at b4 (by decide) 8).trans a6, (fr_at b4 (by decide) 9).trans a7⟩
    rw [a1, jl_984, hnm ν1 a2 a3, z_b1]
    simp (disch := omega) only [p_eq, show (-1 : Int32) = zI (-1) from rfl]
    rw [if_pos c3, b1]
  have hR3 : ∀ ν (x : Int32), rtM T L M t ν → dM N G ν → ∃ ν1, aJ 125 [.ref 207, .int x] [] ν = aJ 128 [.ref 207, .int x] [.int 1] ν1 ∧ rtM T L M (tok T L M (tE t1)) ν1 ∧ dM (nadd N T t1) (gadd G) ν1 ∧ nfr ν ν1 ∧ ν1.1 207 9 = ν.1 207 9 := by
    intro ν x hr hm
    obtain ⟨ν1, a1, a2, a3, a4, a5⟩ := hR2 ν x hr hm
    obtain ⟨m1, m2, m3, m4, m5, m6, m7⟩ := a3
    have hcd := a2.2.2.2.2.1 c2.1
    have u : ∀ (a j : Nat), (a ≠ 216 ∨ j ≠ N.1.toNat) → ax_up ν1.2 216 N.1.toNat (ν1.2 207 12) a j = ν1.2 a j := fun a j hh => by
      unfold ax_up
      rw [if_neg (by omega)]
    have ua : ax_up ν1.2 216 N.1.toNat (ν1.2 207 12) 216 N.1.toNat = ν1.2 207 12 := by
      unfold ax_up
      rw [if_pos ⟨rfl, rfl⟩]
    have l0 : ax_ld ax_sh ((ν1.1, ax_up ν1.2 216 N.1.toNat (ν1.2 207 12)) : ax_M) 210 0 = some (zI N.1) := by
      rw [show (0 : Int32) = zI 0 from rfl, z_ld (len := 173) (by decide) (by omega) (by decide) (by decide)]
      exact congrArg some m1
    have g2 : nfr ν1 (ax_up ν1.1 210 0 (zI (N.1 + 1)), ax_up ν1.2 216 N.1.toNat (ν1.2 207 12)) := ⟨fun a x y z => funext fun j => up_ne y, fun k _ _ _ _ _ _ _ => pp_ne (show 207 ≠ 210 by decide), fun a x y => funext fun j => u a j (Or.inl y)⟩
    have r2' : rtM T L M t1 (ax_up ν1.1 210 0 (zI (N.1 + 1)), ax_up ν1.2 216 N.1.toNat (ν1.2 207 12)) := by
      obtain ⟨⟨q1, q2, q3⟩, q4, q5, q6, q7, q8⟩ := a2
      have e207 : ∀ j, (ax_up ν1.1 210 0 (zI (N.1 + 1))) 207 j = ν1.1 207 j := fun j => up_ne (by decide)
      exact ⟨⟨(e207 3).trans q1, (e207 4).trans q2, rP_e (g2.1 208 (by decide) (by decide) (by decide)) q3⟩, (e207 6).trans q4, (e207 7).trans q5, fun z => (e207 5).trans (q6 z), fun z => (u 207 12 (Or.inl (by decide))).trans (q7 z), fun z => (e207 8).trans (q8 z)⟩
    have hdm : dM (nadd N T t1) (gadd G) (ax_up ν1.1 210 0 (zI (N.1 + 1)), ax_up ν1.2 216 N.1.toNat (ν1.2 207 12)) := by
      refine ⟨pp_at, (pp_nk (by decide)).trans m2, fun e e0 e1 => (pp_nk (by omega)).trans (m3 e e0 e1), fun e e0 e1 => (pp_nk (by omega)).trans (m4 e e0 e1), fun n n0 n1 => ?_, rP_e (funext fun j => pp_ne (by decide)) m6, fun j h1 h2 => (pp_nk (by omega)).trans (m7 j h1 h2)⟩
      have n1' : n < N.1 + 1 := n1
      show ax_up ν1.2 216 N.1.toNat (ν1.2 207 12) 216 (0 + n).toNat = Int64.ofInt (qen (if n = N.1 then (fun i => T (tS t1 + i)) else N.2.2 n) (pu N.2.1 N.1 (tE t1 - tS t1) n).toNat)
      by_cases q : n = N.1
      · rw [q, pu_at, if_pos rfl, show (0 : Int) + N.1 = N.1 by omega, ua, hcd]
        rfl
      · rw [pu_ne q, if_neg q, u _ _ (Or.inr (by omega))]
        exact m5 n n0 (by omega)
    obtain ⟨ν2, b1, b2, b3⟩ := q_gon hT hM (by omega) hrg.2.1 (Or.inl c2.1) r2'
    refine ⟨ν2, ?_, b2, dM_e b3.1 b3.2.2 hdm, nft (nfg a4) (nft g2 (nfg b3)), (b3.2.1 9 (by decide) (by decide) (by decide) (by decide)).trans ((pp_ne (by decide)).trans (a4.2.1 9 (by decide) (by decide) (by decide) (by decide)))⟩
    rw [a1, jl_106, ld0 ν1 ⟨m1, m2, m3, m4, m5, m6, m7⟩, z_bo, a5, z_b1]
    simp (disch := omega) only [p_eq, show (-1 : Int32) = zI (-1) from rfl]
    rw [if_pos c3, jl_107, ld0 ν1 ⟨m1, m2, m3, m4, m5, m6, m7⟩, z_bo, z_stl (len := 12) (by decide) h00 (by omega) (by decide), z_bo, l0, z_bo]
    simp only [zI_lit, zI_add]
    rw [z_st (len := 173) (by decide) (by omega) (by decide) (by decide), z_bo, show (0 : Int).toNat = 0 from rfl, b1, z_b0, z_b1]
  by_cases c4 : tK (tok T L M (tE t1)) = 3
  · refine Or.inr ⟨nadd N T t1, gadd G, tE (tok T L M (tE t1)), dOK_nd hd (by omega) hh.2 c2.1, by omega, hrg2.2.1, fun ν i hr hm => ?_, fun ν x hr hm => ?_⟩
    · obtain ⟨ν1, a1, a2, a3, a4, a5, a6, a7⟩ := hC3 ν i hr hm
      obtain ⟨ν2, b1, b2, b3, _⟩ := q_clo hT hM (by omega) hrg.2.1 a2.1
      obtain ⟨b4, b5, b6, b7⟩ := b3 c4
      have f7 : fr [2] ν2 (ax_uD ν2 2 7 (ν2.1 2 7 + 1)) := fr_uD (by simp)
      refine ⟨ax_uD ν2 2 7 (ν2.1 2 7 + 1), frt a4 (frt (frm b1 (by simp)) (frm f7 (by simp))), ?_, ?_, ?_, ?_, rdC_k (by decide) b5, dC_fr f7 (by simp) (dC_fr b1 (by simp) a3)⟩
      · rw [a1, b4, z_b1, if_pos (Or.inr rfl), z_b1, jl_967, if_neg (by decide), jl_968]
      · rw [uD_at, b2, a5]
      · rw [uD_nk (by decide), b6, a6]
      · rw [uD_nk (by decide), b7, a7]
    · obtain ⟨ν1, a1, a2, a3, a4, a5⟩ := hR3 ν x hr hm
      obtain ⟨ν2, b1, b2, b3, b4, _⟩ := q_rne hT hM (by omega) hrg2.2.1 hh2.1 a2
      obtain ⟨b5, b6, b7⟩ := b4 c4
      refine ⟨ν2, nft a4 b1, ?_, b7.trans a5, b6, dM_e b2 b3 a3⟩
      rw [a1, jl_128, if_neg (by decide), b5, z_b1, if_neg (by decide)]
  · refine Or.inl ⟨1, tS (tok T L M (tE t1)), by omega, ⟨hrg2.2.2.1, hrg2.2.2.2.1⟩, fun ν i hr hm => ?_, fun ν x hr hm => ?_⟩
    · obtain ⟨ν1, a1, a2, a3, a4, a5, a6, a7⟩ := hC3 ν i hr hm
      obtain ⟨ν2, b1, b2, _, b3⟩ := q_clo hT hM (by omega) hrg.2.1 a2.1
      obtain ⟨b4, b5, b6⟩ := b3 c4
      refine ⟨ν2, frt a4 (frm b1 (by simp)), b2.trans a5, ?_, b5, b6⟩
      rw [a1, b4, z_b1, if_pos (Or.inl rfl), z_b1, jl_967, if_pos rfl]
    · obtain ⟨ν1, a1, a2, a3, a4, a5⟩ := hR3 ν x hr hm
      obtain ⟨ν2, b1, b2, b3, _, b4⟩ := q_rne hT hM (by omega) hrg2.2.1 hh2.1 a2
      obtain ⟨b5, b6, b7⟩ := b4 c4
      refine ⟨ν2, nft a4 b1, ?_, b6, b7⟩
      rw [a1, jl_128, if_neg (by decide), b5, z_b1, if_pos rfl]
