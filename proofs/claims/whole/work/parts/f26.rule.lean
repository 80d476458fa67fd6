/-! o: rule: line by line, put together -/
def uFail (T : Int → Int) (L M p : Int) (N : qNm) (R : gR) (k pl n : Int) : Prop := (∀ ν, rdC T L M p ν → wC N R ν → ν.1 2 7 = zI (rLn R) → ∃ ν', fr [2, 21, 22, 23, 24, 25, 26] ν ν' ∧ aJ 971 [.ref 2, .ref 21, .ref 3, .int (zI (rLn R))] [] ν = some (some (.int 0), ν') ∧ ν'.1 2 7 = zI n ∧ ν'.1 2 8 = zI k ∧ ν'.1 2 9 = zI pl) ∧ (∀ ν, rtM T L M (tok T L M p) ν → wM N R ν → ∃ ν', nfS ν ν' ∧ aJ 166 [.ref 207, .int (zI (rLn R))] [] ν = some (some (.int (zI (-1 - pl))), ν') ∧ ν'.1 207 9 = zI k ∧ ν'.1 207 10 = zI n)
def uGood (T : Int → Int) (L M p : Int) (N : qNm) (R R' : gR) : Prop := (∀ ν, rdC T L M p ν → wC N R ν → ν.1 2 7 = zI (rLn R) → ∃ ν', fr [2, 21, 22, 23, 24, 25, 26] ν ν' ∧ aJ 971 [.ref 2, .ref 21, .ref 3, .int (zI (rLn R))] [] ν = some (some (.int 1), ν') ∧ ν'.1 2 7 = zI (rLn R') ∧ ν'.1 2 8 = ν.1 2 8 ∧ wC N R' ν') ∧ (∀ ν, rtM T L M (tok T L M p) ν → wM N R ν → ∃ ν', nfr ν ν' ∧ aJ 166 [.ref 207, .int (zI (rLn R))] [] ν = aJ 169 [.ref 207, .int (zI (rLn R'))] [] ν' ∧ ν'.1 207 9 = ν.1 207 9 ∧ wM N R' ν')
theorem q_flu {x pl : Int} {ν : ax_M} (h : ν.1 207 11 = zI pl) : aJ 167 [.ref 207, .int (zI x)] [] ν = some (some (.int (zI (-1 - pl))), ax_uD ν 207 10 (zI x)) := by
  rw [jl_167, jl_92, uD_nk (by decide), h, z_b1]
  simp only [show (-1 : Int32) = zI (-1) from rfl, zI_sub]
theorem j_166 {x : Int32} {ν : ax_M} (h : ¬ ν.1 207 7 = 0) : aJ 166 [.ref 207, .int x] [] ν = rEnd (aJ 151 [.ref 207, .int x] [] ν) x := by
  rw [jl_166, if_neg h]
  rfl
theorem u_all {T : Int → Int} {L M : Int} {N : qNm} (hT : tBy T L) (hM : 0 ≤ M ∧ M ≤ 1000) (hN : nOK N) : ∀ (m : Nat) (p : Int) (R : gR), 0 ≤ p → p ≤ L → L - p < m → rok R → (∃ k pl n, (1 ≤ k ∧ k ≤ 4) ∧ (0 ≤ pl ∧ pl ≤ L) ∧ (0 ≤ n ∧ n ≤ 940) ∧ uFail T L M p N R k pl n) ∨ ∃ R', rok R' ∧ uGood T L M p N R R' := by
  intro m
  have hL := hT.2.1
  induction m with
  | zero =>
    intro p R p0 p1 pm
    omega
  | succ m ih =>
    intro p R p0 p1 pm hR
    have hh := tok_h (T := T) (L := L) (M := M) p0 p1 hM.1
    have hrg := tok_r (T := T) (L := L) (M := M) p0 p1 hM.1
    obtain ⟨r2, r3, r4, r0, r1, rl, ru⟩ := rk_w (L := L) (M := M) hh.1
    have n0 := hR.1.1
    have n10 := hR.1.2
    have hC : ∀ ν, rdC T L M p ν → ∃ ν1, aJ 971 [.ref 2, .ref 21, .ref 3, .int (zI (rLn R))] [] ν = (if tK (tok T L M p) = 0 then if L ≤ M then aJ 972 [] [] ν1 else ax_b1 (aJ 981 [.ref 2, .int 1] [] ν1) fun v3 μ2 => if v3 = 0 then aJ 973 [] [] μ2 else aJ 972 [] [] μ2 else aJ 975 [.ref 2, .ref 21, .ref 3, .int (zI (rLn R))] [] ν1) ∧ rdT T L M (tok T L M p) ν1 ∧ fr [2] ν ν1 ∧ ν1.1 2 7 = ν.1 2 7 ∧ ν1.1 2 8 = ν.1 2 8 := by
      intro ν hr
      obtain ⟨ν1, a1, a2, a3, a4, a5, a6⟩ := q_tk hT hM p0 p1 hr
      refine ⟨ν1, ?_, a2, a3, a4, a5⟩
      rw [jl_971, a1, z_b0, a2.2.1, a2.1.1, a2.1.2.1, if_neg (fun z => by
        have := (zI_lt (a := 940) (zR_of (by omega)) (zR_of (by omega))).mp z
        omega), j_eq rfl (show (0 : Int32) = zI 0 from rfl) (zR_of (by omega)) (zR_of (by omega))]
      simp (disch := omega) only [p_le]
    by_cases h0 : tK (tok T L M p) = 0
    · by_cases c : L ≤ M
      · refine Or.inr ⟨R, hR, fun ν hr hw h7 => ?_, fun ν hr hw => ⟨ν, nfz, ?_, rfl, hw⟩⟩
        · obtain ⟨ν1, a1, a2, a3, a4, a5⟩ := hC ν hr
          refine ⟨ν1, frm a3 (by simp), ?_, a4.trans h7, a5, wC_2 a3 hw⟩
          rw [a1, if_pos h0, if_pos c, jl_972, jl_974, if_pos (by decide)]
        · rw [jl_166, hr.2.2.1, if_pos (by rw [r0.mpr ⟨h0, c⟩]; rfl)]
      · have h7 : ¬ zI (rkd L M (tok T L M p)) = (0 : Int32) := fun z => by
          have := (zI_eq (b := 0) (zR_of (by omega)) (zR_of (by omega))).mp z
          exact c (r0.mp this).2
        refine Or.inl ⟨1, tS (tok T L M p), rLn R, by omega, ⟨hrg.2.2.1, hrg.2.2.2.1⟩, by omega, fun ν hr hw h7 => ?_, fun ν hr hw => ?_⟩
        · obtain ⟨ν1, a1, a2, a3, a4, a5⟩ := hC ν hr
          refine ⟨cRf 1 (tS (tok T L M p)) ν1, frt (frm a3 (by simp)) (frm cRf_fr (by simp)), ?_, cRf_7.1.trans (a4.trans h7), cRf_7.2.1, cRf_7.2.2⟩
          rw [a1, if_pos h0, if_neg c, show (1 : Int32) = zI 1 from rfl, q_ref (k := 1) a2, z_b1, if_pos rfl, jl_973, jl_974, if_pos (by decide)]
        · have h15 := q_wh (a := 15) (b := 20) hh.1 hh.2 hr (by omega) (by omega) (by omega)
          have h07 := q_wh (a := 0) (b := 7) hh.1 hh.2 hr (by omega) (by omega) (by omega)
          have h10 := q_rwd (k := 10) hh.1 hh.2 hr (by omega)
          rw [if_neg (fun z => by have := z.1; omega)] at h15 h07
          rw [decide_eq_false (fun z => by have := z.1; omega)] at h10
          have e7 : ν.1 207 7 = zI (rkd L M (tok T L M p)) := hr.2.2.1
          refine ⟨ax_uD (mBad L M (tok T L M p) 1 ν) 207 10 (zI (rLn R)), nfS_t (nfS_n nfb) nfS_k, ?_, ?_, uD_at⟩
          · rw [j_166 (by rw [e7]; exact h7), jl_151, show aJ 73 [.ref 207, .int 15, .int 20] [] ν = _ from h15, z_b1, show aJ 73 [.ref 207, .int 0, .int 7] [] ν = _ from h07, z_b1, show aJ 77 [.ref 207, .int 10] [] ν = _ from h10, z_b1, if_pos (show zI (-1) = -1 by decide), if_pos (show zI (-1) = -1 by decide), if_pos (show zB false = 0 by decide), show (1 : Int32) = zI 1 from rfl, q_bad (k := 1) hh.1 hr, z_b1, if_pos (by decide), rEnd_0, q_flu mBad_9.2]
          · rw [uD_nk (by decide), mBad_9.1]
            split <;> rfl
    have e7 : ∀ ν, rtM T L M (tok T L M p) ν → ¬ ν.1 207 7 = 0 := fun ν hr z => by
      rw [hr.2.2.1] at z
      have := (zI_eq (b := 0) (zR_of (by omega)) (zR_of (by omega))).mp z
      exact h0 (r0.mp this).1
    have htb : 0 ≤ tS (tok T L M p) ∧ tS (tok T L M p) ≤ L ∧ 0 ≤ tE (tok T L M p) ∧ tE (tok T L M p) ≤ L := by omega
    rcases u_line hT hM hN hR hh.1 hh.2 htb with ⟨k, pl, hk, hpl, g1, g2⟩ | ⟨R1, p', hk1, hR1, hl1, hp1, hp2, g1, g2⟩
    · refine Or.inl ⟨k, pl, rLn R, hk, hpl, by omega, fun ν hr hw h7 => ?_, fun ν hr hw => ?_⟩
      · obtain ⟨ν1, a1, a2, a3, a4, a5⟩ := hC ν hr
        obtain ⟨ν2, b1, b2, b3, b4, b5⟩ := g1 ν1 (zI (rLn R)) a2 (wC_2 a3 hw)
        refine ⟨ν2, frt (frm a3 (by simp)) b1, ?_, b2.trans (a4.trans h7), b4, b5⟩
        rw [a1, if_neg h0, b3]
      · obtain ⟨ν2, b1, b2, b3, b4⟩ := g2 ν hr hw
        refine ⟨ax_uD ν2 207 10 (zI (rLn R)), nfS_t (nfS_n b1) nfS_k, ?_, (uD_nk (by decide) 207).trans b3, uD_at⟩
        rw [j_166 (e7 ν hr), b2, q_flu b4]
    have h6 := hrg.2.2.2.2.2.1 h0
    have h7' := hrg.2.2.2.2.2.2 (Or.inl hk1)
    have hC5 : ∀ ν, rdC T L M p ν → wC N R ν → ν.1 2 7 = zI (rLn R) → ∃ ν1, aJ 971 [.ref 2, .ref 21, .ref 3, .int (zI (rLn R))] [] ν = aJ 971 [.ref 2, .ref 21, .ref 3, .int (zI (rLn R1))] [] ν1 ∧ rdC T L M p' ν1 ∧ wC N R1 ν1 ∧ fr [2, 21, 22, 23, 24, 25, 26] ν ν1 ∧ ν1.1 2 7 = zI (rLn R1) ∧ ν1.1 2 8 = ν.1 2 8 := by
      intro ν hr hw h7
      obtain ⟨ν1, a1, a2, a3, a4, a5⟩ := hC ν hr
      obtain ⟨ν2, b1, b2, b3, b4, b5, b6⟩ := g1 ν1 (zI (rLn R)) a2 (wC_2 a3 hw)
      have f2 : fr [2] ν2 (ax_uD ν2 2 7 (ν2.1 2 7 + 1)) := fr_uD (by simp)
      have e2 : ν2.1 2 7 = zI (rLn R) := b2.trans (a4.trans h7)
      refine ⟨ax_uD ν2 2 7 (ν2.1 2 7 + 1), ?_, ?_, wC_2 f2 b6, frt (frm a3 (by simp)) (frt b1 (frm f2 (by simp))), ?_, (uD_nk (by decide) 2).trans (b5.trans a5)⟩
      · rw [a1, if_neg h0, b3, jl_978, zI_a1, hl1]
      · obtain ⟨q1, q2, q3, q4⟩ := b4
        exact ⟨(uD_nk (by decide) 2).trans q1, (uD_nk (by decide) 2).trans q2, (uD_nk (by decide) 2).trans q3, rP_e (f2.2 1 (by decide)) q4⟩
      · rw [uD_at, e2, zI_a1, hl1]
    have hR5 : ∀ ν, rtM T L M (tok T L M p) ν → wM N R ν → ∃ ν1, aJ 166 [.ref 207, .int (zI (rLn R))] [] ν = aJ 166 [.ref 207, .int (zI (rLn R1))] [] ν1 ∧ rtM T L M (tok T L M p') ν1 ∧ wM N R1 ν1 ∧ nfr ν ν1 ∧ ν1.1 207 9 = ν.1 207 9 := by
      intro ν hr hw
      obtain ⟨ν2, b1, b2, b3, b4, b5⟩ := g2 ν hr hw
      refine ⟨ν2, ?_, b3, b5, b1, b4⟩
      rw [j_166 (e7 ν hr), b2, jl_168, show zI (rLn R) + 1 = zI (rLn R + 1) from zI_a1 _, hl1]
    rcases ih p' R1 (by omega) hp2 (by omega) hR1 with ⟨k, pl, n, hk, hpl, hn, u1, u2⟩ | ⟨R2, hR2, u1, u2⟩
    · refine Or.inl ⟨k, pl, n, hk, hpl, hn, fun ν hr hw h7 => ?_, fun ν hr hw => ?_⟩
      · obtain ⟨ν1, a1, a2, a3, a4, a5, a6⟩ := hC5 ν hr hw h7
        obtain ⟨ν2, b1, b2, b3, b4, b5⟩ := u1 ν1 a2 a3 a5
        exact ⟨ν2, frt a4 b1, a1.trans b2, b3, b4, b5⟩
      · obtain ⟨ν1, a1, a2, a3, a4, a5⟩ := hR5 ν hr hw
        obtain ⟨ν2, b1, b2, b3, b4⟩ := u2 ν1 a2 a3
        exact ⟨ν2, nfS_t (nfS_n a4) b1, a1.trans b2, b3, b4⟩
    · refine Or.inr ⟨R2, hR2, fun ν hr hw h7 => ?_, fun ν hr hw => ?_⟩
      · obtain ⟨ν1, a1, a2, a3, a4, a5, a6⟩ := hC5 ν hr hw h7
        obtain ⟨ν2, b1, b2, b3, b4, b5⟩ := u1 ν1 a2 a3 a5
        exact ⟨ν2, frt a4 b1, a1.trans b2, b3, b4.trans a6, b5⟩
      · obtain ⟨ν1, a1, a2, a3, a4, a5⟩ := hR5 ν hr hw
        obtain ⟨ν2, b1, b2, b3, b4⟩ := u2 ν1 a2 a3
        exact ⟨ν2, nft a4 b1, a1.trans b2, b3.trans a5, b4⟩
def kRu (K : qK) (R : gR) : qK := (R, kN K, (0, (kT K).2), kI0 K, kI1 K, (0, 0), kO K, kX K)
theorem kRu_OK {K : qK} {R : gR} (h : kOK K) (hR : rok R) : kOK (kRu K R) := by
  obtain ⟨q1, q2, q3, q4, q5, q6, q7, q8, q9, q10⟩ := h
  exact ⟨hR, q2, ⟨Int.le_refl _, by show (0 : Int) ≤ 940; omega, fun i i0 i1 => by have : i < 0 := i1; omega⟩, q4, q5, ⟨Int.le_refl _, by show (0 : Int) ≤ 4; omega⟩, ⟨Int.le_refl _, by show (0 : Int) ≤ 1000; omega⟩, q8, q9, q10⟩
/-- the class takes the rule over -/
theorem q_cru {G : gG} {S : gS} {U : List gU} {K : qK} {R : gR} {n : Int} {ν : ax_M} (hR : rok R) (hi : iC G S U (kFa K 0 0) ν) (hm : kP 21 R ν) (h7 : ν.1 2 7 = zI n) : ∃ ν', aJ 659 [.ref 0] [] ν = some (some (.int (zI n)), ν') ∧ iC G S U (kRu K R) ν' ∧ frC ν ν' := by
  obtain ⟨⟨X, x1, x2⟩, u, j⟩ := hi
  obtain ⟨j1, j2, j3, j4, j5, j6, j7, j8, j9, j10, j11, j12⟩ := j
  obtain ⟨ν1, a1, a2, a3, a4⟩ := q_rcp (x0 := 13) (x1 := 21) (Or.inl rfl) (Or.inr (Or.inl rfl)) (by omega) shR_13.1 shR_13.2.1 hR hm
  have hl : ∀ a, a ∈ [13, 13 + 1, 13 + 2, 13 + 3, 13 + 4, 13 + 5] → 13 ≤ a ∧ a ≤ 18 := fun a ha => by
    simp at ha
    omega
  have hc : ∀ a, (a < 13 ∨ 18 < a) → ν1.1 a = ν.1 a := fun a ha => a3.2 a (fun q => by have := hl a q; omega)
  refine ⟨ν1, ?_, ⟨⟨X, cI_fr (Or.inl rfl) a3 (fun a ha => by have := hl a ha; omega) x1, x2⟩, uC_fr a3 (fun a ha => by have := hl a ha; omega) (congrFun (hc 0 (by omega)) 10) (congrFun (hc 0 (by omega)) 11) u, a2, cNm_e (hc _ (by omega)) (hc _ (by omega)) j2, (congrFun (hc 0 (by omega)) 1).trans j3, fun i i0 i1 => ?_, cIm_e (fun a z1 z2 => hc a (by omega)) j5, cIm_e (fun a z1 z2 => hc a (by omega)) j6, (congrFun (hc 2 (by omega)) 8).trans j7, fun z => absurd rfl z, (congrFun (hc 0 (by omega)) 15).trans j9, (congrFun (hc 0 (by omega)) 16).trans j10, (congrFun (hc 205 (by omega)) 1).trans j11, rP_e (hc 206 (by omega)) j12⟩, frC_of a3 (fun a ha => by have := hl a ha; omega)⟩
  · rw [jl_659, a1, z_b0, hc 2 (by omega), h7]
  · have : i < 0 := i1
    omega
/-- the reference takes it over -/
theorem q_mru {G : gG} {S : gS} {U : List gU} {K : qK} {R : gR} {ν : ax_M} (hR : rok R) (hK : rok (kR K)) (hi : iM G S U (kFa K 0 0) ν) (hm : wM (kN K) R ν) : ∃ ν', aJ 169 [.ref 207, .int (zI (rLn R))] [] ν = some (some (.int (zI (rLn R))), ν') ∧ iM G S U (kRu K R) ν' ∧ frM ν ν' := by
  obtain ⟨c1, c2, c3, c4⟩ := hm
  obtain ⟨m1, ⟨u1, u2⟩, j⟩ := hi
  obtain ⟨j1, j2, j3, j4, j5, j6, j7, j8, j9, j10, j11, j12⟩ := j
  have n0 := hR.1.1
  have n10 := hR.1.2
  have loop1 : ∀ (m : Nat) (i : Int) (ν1 : ax_M), 63 ≤ i → i + m = 173 → (∀ q : Nat, 63 ≤ q → (q : Int) < i → ν1.1 209 q = ν.1 210 q) → (∀ q : Nat, (q < 63 ∨ i ≤ q) → ν1.1 209 q = ν.1 209 q) → fr [209] ν ν1 → ∃ ν', aJ 170 [.ref 207, .int (zI (rLn R)), .int (zI i)] [] ν1 = aJ 171 [.ref 207, .int (zI (rLn R))] [] ν' ∧ (∀ q : Nat, 63 ≤ q → q < 173 → ν'.1 209 q = ν.1 210 q) ∧ (∀ q : Nat, (q < 63 ∨ 173 ≤ q) → ν'.1 209 q = ν.1 209 q) ∧ fr [209] ν ν' := by
    intro m
    induction m with
    | zero =>
      intro i ν1 i0 i1 h1 h2 h3
      refine ⟨ν1, ?_, fun q q0 hq => h1 q q0 (by omega), fun q hq => h2 q (by omega), h3⟩
      rw [jl_170]
      simp (disch := omega) only [zI_lit, p_le]
      rw [if_pos (by omega)]
    | succ m ih =>
      intro i ν1 i0 i1 h1 h2 h3
      have f1 : fr [209] ν1 (ax_up ν1.1 209 i.toNat (ν1.1 210 i.toNat), ν1.2) := fru (by simp)
      obtain ⟨ν', e1, e2⟩ := ih (i + 1) (ax_up ν1.1 209 i.toNat (ν1.1 210 i.toNat), ν1.2) (by omega) (by omega) (fun q q0 hq => by
        by_cases c : q = i.toNat
        · rw [c, ← fr_at h3 (by decide : 210 ∉ [209])]
          exact up_at
        · exact (up_nk c).trans (h1 q q0 (by omega))) (fun q hq => (up_nk (by omega)).trans (h2 q (by omega))) (frt h3 f1)
      refine ⟨ν', ?_, e2⟩
      rw [jl_170]
      simp (disch := omega) only [zI_lit, p_le, zI_add]
      rw [z_ld (len := 173) (by decide) (by omega) (by omega) (by decide), z_bo, st_209 (by omega) (by omega), z_bo, if_neg (by omega)]
      exact e1
  obtain ⟨ν1, a1, a2, a3, a4⟩ := loop1 110 63 ν (by omega) (by omega) (fun q q0 hq => by omega) (fun _ _ => rfl) frz
  have f2 : fr [209] ν1 (ax_up ν1.1 209 (62 : Int).toNat (zI (rLn R)), ν1.2) := fru (by simp)
  have fa := frt a4 f2
  have e62 : ax_up ν1.1 209 (62 : Int).toNat (zI (rLn R)) 209 (62 : Int).toNat = zI (rLn R) := up_at
  have eo : ∀ q : Nat, q ≠ 62 → ax_up ν1.1 209 (62 : Int).toNat (zI (rLn R)) 209 q = ν1.1 209 q := fun q hq => up_nk hq
  generalize hF : ax_up ν1.1 209 (62 : Int).toNat (zI (rLn R)) = F at *
  have off : ∀ a, a ≠ 209 → F a = ν.1 a := fun a ha => fa.2 a (by simpa using ha)
  have hl2 : ν1.2 = ν.2 := a4.1
  have hmI : mI G S (F, ν1.2) := by
    have hs := mI_sP m1
    obtain ⟨s1, s2, s3, s4, s5, s6, s7⟩ := hs.1
    obtain ⟨t1, t2, t3, t4⟩ := hs.2
    have k : ∀ q : Nat, (q < 62 ∨ 173 ≤ q) → F 209 q = ν.1 209 q := fun q hq => (eo q (by omega)).trans (a3 q (by omega))
    have := sP_mI (G := G) (W := gwt G) (S := S) (ν := (F, ν1.2)) ⟨(k 0 (by omega)).trans t1, (k 1 (by omega)).trans t2, fun e e0 e1 => (k _ (by omega)).trans (t3 e e0 e1), fun e e0 e1 => (k _ (by omega)).trans (t4 e e0 e1)⟩ ⟨fun e e0 e1 => (k _ (by omega)).trans (s1 e e0 e1), fun w w0 w1 => (k _ (by omega)).trans (s2 w w0 w1), fun n f n0 n1 f0 f1 => (k _ (by omega)).trans (s3 n f n0 n1 f0 f1), (k 383 (by omega)).trans s4, (k 384 (by omega)).trans s5, (k 385 (by omega)).trans s6, fun k' f k0 k1 f0 f1 => (k _ (by omega)).trans (s7 k' f k0 k1 f0 f1)⟩
    rwa [GW_id] at this
  refine ⟨(F, ν1.2), ?_, ⟨hmI, ⟨(congrFun (off 207 (by decide)) 24).trans u1, ?_⟩, ?_⟩, fun a ha => off a (by omega)⟩
  · rw [jl_169]
    simp only [zI_lit] at a1 ⊢
    rw [a1, jl_171, show (62 : Int32) = zI 62 from rfl, st_209 (by omega) (by omega), z_bo, hF]
  · rw [show ((F, ν1.2) : ax_M).1 212 = ν.1 212 from off 212 (by decide)]
    exact u2
  · refine ⟨⟨e62, fun i i0 i1 => ?_⟩, fun k k0 k1 => ?_, (congrFun (off 207 (by decide)) 2).trans j3, fun i i0 i1 => ?_, rIm_e (off 211 (by decide)) (off 218 (by decide)) (congrFun hl2 217) j5, rIm_e (off 211 (by decide)) (off 218 (by decide)) (congrFun hl2 217) j6, (congrFun (off 207 (by decide)) 9).trans j7, (congrFun (off 207 (by decide)) 10).trans j8, (congrFun (off 207 (by decide)) 30).trans j9, (congrFun (off 207 (by decide)) 31).trans j10, (congrFun (off 207 (by decide)) 34).trans j11, rP_e (off 224 (by decide)) j12⟩
    · have i1' : i < rLn R := i1
      obtain ⟨x1, x2, x3⟩ := c3 i i0 i1'
      have k : ∀ q : Nat, 63 ≤ q → q < 173 → F 209 q = ν.1 210 q := fun q q0 q1 => (eo q (by omega)).trans (a2 q q0 q1)
      refine ⟨(k _ (by omega) (by omega)).trans x1, (k _ (by omega) (by omega)).trans x2, fun c c0 c1 => ?_⟩
      obtain ⟨y1, y2⟩ := x3 c c0 c1
      exact ⟨(k _ (by omega) (by omega)).trans y1, (k _ (by omega) (by omega)).trans y2⟩
    · exact (congrFun (congrFun hl2 215) _).trans (j2 k k0 k1)
    · have : i < 0 := i1
      omega
theorem q_rule {G : gG} {S : gS} {U : List gU} {K : qK} (hp : pQ G S U K) : qF G S U K 658 163 [.ref 0] [.ref 207] := by
  have hKK := pQ_K hp
  have hNn := pQ_n hp
  have hN := hKK.2.1
  have hT := tBy_K hKK
  generalize hTT : (kT K).2 = T at *
  generalize hLL : (kT K).1 = L at *
  have hL0 := hT.1
  have hL9 := hT.2.1
  have hr0 : rLn R00 = 0 := rfl
  -- the class begins
  have hC : ∀ ν, iC G S U K ν → ∃ ν1, aJ 658 [.ref 0] [] ν = (ax_b1 (aJ 971 [.ref 2, .ref 21, .ref 3, .int (zI (rLn R00))] [] ν1) fun v3 μ2 => if v3 = 0 then some (some (.int ((-1 : Int32) - ((ax_uD μ2 0 1 0).1 2 9))), (ax_uD μ2 0 1 0)) else aJ 659 [.ref 0] [] (ax_uD μ2 0 1 0)) ∧ rdC T L 300 0 ν1 ∧ wC (kN K) R00 ν1 ∧ ν1.1 2 7 = zI (rLn R00) ∧ ν1.1 2 8 = zI 0 ∧ fr [2, 21] ν ν1 := by
    intro ν hi
    obtain ⟨⟨X, x1, x2⟩, _, j⟩ := id hi
    obtain ⟨j1, j2, j3, j4, _⟩ := j
    rw [hLL] at j3 j4
    rw [hTT] at j4
    have f1 : fr [21] ν (ax_uD ν 21 0 0) := fr_uD (by simp)
    obtain ⟨ν1, a1, a2, a3, a4, a5⟩ := q_opn (M := 300) (rP_e (f1.2 1 (by decide)) j4)
    refine ⟨ν1, ?_, a2, ⟨cNm_e ((a5.2 _ (by decide)).trans (f1.2 _ (by decide))) ((a5.2 _ (by decide)).trans (f1.2 _ (by decide))) j2, ?_, ?_, fun i i0 i1 => ?_, fun i i0 i1 => ?_, fun i i0 i1 => ?_, fun i c i0 i1 => ?_, fun i c i0 i1 => ?_⟩, a3, a4, frt (frm f1 (by simp)) (frm a5 (by simp))⟩
    · rw [jl_658, jl_1080 21 _ (Or.inr rfl), z_b0, fr_at f1 (by decide), j3, jl_970, show (300 : Int32) = zI 300 from rfl, a1, z_b0]
      rfl
    · rw [fr_at a5 (by decide), fr_at f1 (by decide), q_N x1 (Or.inl rfl), hNn]
    · rw [fr_at a5 (by decide), uD_at]
      rfl
    all_goals
      exfalso
      have : i < 0 := i1
      omega
  -- the reference begins
  have hRr : ∀ ν ν0, ν0 = ax_uD ν 207 0 0 → iM G S U K ν0 → ∃ ν1, aJ 163 [.ref 207] [] ν = aJ 166 [.ref 207, .int (zI (rLn R00))] [] ν1 ∧ rtM T L 300 (tok T L 300 0) ν1 ∧ wM (kN K) R00 ν1 ∧ ν1.1 207 2 = zI 0 ∧ ν1.1 207 9 = zI 0 ∧ ν1.1 207 10 = zI (-1) ∧ (∀ a, a ≠ 207 → a ≠ 210 → ν1.1 a = ν0.1 a) ∧ (∀ j, 14 ≤ j → ν1.1 207 j = ν0.1 207 j) ∧ ∀ a, a ≠ 207 → ν1.2 a = ν0.2 a := by
    intro ν ν0 e0 hi0
    obtain ⟨m1, _, j⟩ := id hi0
    obtain ⟨j1, j2, j3, j4, _⟩ := j
    rw [hLL] at j3 j4
    rw [hTT] at j4
    obtain ⟨ν1, a1, a2, a3, a4, a5, a6, a7, a8⟩ := q_beg (M := 300) hT (by omega) e0 j3 j4
    obtain ⟨ν2, b1, b2, b3⟩ := q_z210 jl_164 ν1
    have off : ∀ a, a ≠ 207 → a ≠ 210 → ν2.1 a = ν0.1 a := fun a x y => (b3.2 a (by simpa using y)).trans (a6 a x)
    have off2 : ∀ a, a ≠ 207 → ν2.2 a = ν0.2 a := fun a x => (congrFun b3.1 a).trans (a8 a x)
    refine ⟨ν2, ?_, rtM_e (b3.2 207 (by decide)) (b3.2 208 (by decide)) (by rw [b3.1]) a2, ⟨?_, fun k k0 k1 => (congrFun (off2 215 (by decide)) _).trans (j2 k k0 k1), fun i i0 i1 => ?_, fun j h1 h2 => b2 j h2⟩, (fr_at b3 (by decide) 2).trans a3, (fr_at b3 (by decide) 9).trans a4, (fr_at b3 (by decide) 10).trans a5, off, fun j hj => (fr_at b3 (by decide) j).trans (a7 j hj), off2⟩
    · rw [jl_163, show (300 : Int32) = zI 300 from rfl, a1, z_b0]
      simp only [zI_lit] at b1 ⊢
      rw [b1, jl_165]
      rfl
    · rw [off 209 (by decide) (by decide), (mI_sP m1).2.1, hNn]
    · have : i < 0 := i1
      omega
  rcases u_all hT (M := 300) (by omega) hN (L.toNat + 1) 0 R00 (by omega) hL0 (by omega) R00_ok with ⟨k, pl, n, hk, hpl, hn, h1, h2⟩ | ⟨R', hR', h1, h2⟩
  · refine ⟨zI (-1 - pl), G, S, U, kFa K k n, pQ_r hp (kFa_OK hKK (by omega) (by omega)) rfl, ?_, ?_⟩
    · intro ν hi
      obtain ⟨ν1, a1, a2, a3, a4, a5, a6⟩ := hC ν hi
      obtain ⟨ν2, b1, b2, b3, b4, b5⟩ := h1 ν1 a2 a3 a4
      have f3 : fr [0] ν2 (ax_uD ν2 0 1 0) := fr_uD (by simp)
      have fa : fr fLn ν (ax_uD ν2 0 1 0) := frt (frm a6 (by simp [fLn])) (frt (frm b1 (by simp [fLn])) (frm f3 (by simp [fLn])))
      refine ⟨ax_uD ν2 0 1 0, ?_, iC_fa fa (fun j hj => (uD_nk hj 0).trans ((fr_at b1 (by decide) j).trans (fr_at a6 (by decide) j))) uD_at ((uD_ne (by decide)).trans b4) (fun _ => (uD_ne (by decide)).trans b3) hi, frC_of fa (fun a ha => by have := fLn_m ha; omega)⟩
      rw [a1, b2, z_b1, if_pos rfl, uD_ne (by decide), b5]
      simp only [show (-1 : Int32) = zI (-1) from rfl, zI_sub]
    · intro ν hi
      obtain ⟨ν0, e0, hi0, f0⟩ := iM_th hKK.1 hi
      obtain ⟨ν1, a1, a2, a3, a4, a5, a6, a7, a8, a9⟩ := hRr ν ν0 e0 hi0
      obtain ⟨ν2, b1, b2, b3, b4⟩ := h2 ν1 a2 a3
      refine ⟨ν2, a1.trans b2, iM_fa hKK.1 (fun a x y z => (b1.1 a (by omega) y z).trans (a7 a (by omega) y)) (fun j hj => (b1.2.1 j (by omega) (by omega) (by omega) (by omega) (by omega) (by omega) (by omega) (by omega)).trans (a8 j hj)) (fun a x y => (b1.2.2 a x y).trans (a9 a x)) ((b1.2.1 2 (by decide) (by decide) (by decide) (by decide) (by decide) (by decide) (by decide) (by decide)).trans a4) b3 (by rw [if_neg (by omega)]; exact b4) hi0, frM_t f0 (fun a ha => (b1.1 a (by omega) (by omega) (by omega)).trans (a7 a (by omega) (by omega)))⟩
  · refine ⟨zI (rLn R'), G, S, U, kRu K R', pQ_r hp (kRu_OK hKK hR') rfl, ?_, ?_⟩
    · intro ν hi
      obtain ⟨ν1, a1, a2, a3, a4, a5, a6⟩ := hC ν hi
      obtain ⟨ν2, b1, b2, b3, b4, b5⟩ := h1 ν1 a2 a3 a4
      have f3 : fr [0] ν2 (ax_uD ν2 0 1 0) := fr_uD (by simp)
      have fa : fr fLn ν (ax_uD ν2 0 1 0) := frt (frm a6 (by simp [fLn])) (frt (frm b1 (by simp [fLn])) (frm f3 (by simp [fLn])))
      have hi2 : iC G S U (kFa K 0 0) (ax_uD ν2 0 1 0) := iC_fa fa (fun j hj => (uD_nk hj 0).trans ((fr_at b1 (by decide) j).trans (fr_at a6 (by decide) j))) uD_at ((uD_ne (by decide)).trans (b4.trans a5)) (fun z => absurd rfl z) hi
      have hd2 : wC (kN K) R' (ax_uD ν2 0 1 0) := wC_fr f3 (fun a ha => by
        have : a = 0 := by simpa using ha
        omega) b5
      obtain ⟨ν3, c1, c2, c3⟩ := q_cru hR' hi2 hd2.2.2 ((uD_ne (by decide)).trans b3)
      refine ⟨ν3, ?_, c2, frC_t (frC_of fa (fun a ha => by have := fLn_m ha; omega)) c3⟩
      rw [a1, b2, z_b1, if_neg (by decide), c1]
    · intro ν hi
      obtain ⟨ν0, e0, hi0, f0⟩ := iM_th hKK.1 hi
      obtain ⟨ν1, a1, a2, a3, a4, a5, a6, a7, a8, a9⟩ := hRr ν ν0 e0 hi0
      obtain ⟨ν2, b1, b2, b3, b4⟩ := h2 ν1 a2 a3
      have hi2 : iM G S U (kFa K 0 0) ν2 := iM_fa hKK.1 (fun a x y z => (b1.1 a (by omega) y z).trans (a7 a (by omega) y)) (fun j hj => (b1.2.1 j (by omega) (by omega) (by omega) (by omega) (by omega) (by omega) (by omega)).trans (a8 j hj)) (fun a x y => (b1.2.2 a x y).trans (a9 a x)) ((b1.2.1 2 (by decide) (by decide) (by decide) (by decide) (by decide) (by decide) (by decide)).trans a4) (b3.trans a5) (by rw [if_pos rfl]; exact (b1.2.1 10 (by decide) (by decide) (by decide) (by decide) (by decide) (by decide) (by decide)).trans a6) hi0
      obtain ⟨ν3, c1, c2, c3⟩ := q_mru hR' hKK.1 hi2 b4
      exact ⟨ν3, a1.trans (b2.trans c1), c2, frM_t f0 (frM_t (fun a ha => (b1.1 a (by omega) (by omega) (by omega)).trans (a7 a (by omega) (by omega))) c3)⟩
