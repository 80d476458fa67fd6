/-! o: tokens read one after another -/
theorem rdC_fr {T : Int → Int} {L M p : Int} {l : List Nat} {ν ν' : ax_M} (h : fr l ν ν') (h1 : 1 ∉ l) (h2 : 2 ∉ l) (hr : rdC T L M p ν) : rdC T L M p ν' := by
  obtain ⟨a, b, c, d⟩ := hr
  have k := fr_at h h2
  exact ⟨(k 1).trans a, (k 2).trans b, (k 3).trans c, rP_e (h.2 1 h1) d⟩
theorem tok_h {T : Int → Int} {L M p : Int} (h0 : 0 ≤ p) (h1 : p ≤ L) (hM : 0 ≤ M) : (0 ≤ tK (tok T L M p) ∧ tK (tok T L M p) ≤ 4) ∧ tWd T (tok T L M p) := ⟨(tok_r h0 h1 hM).2.2.2.2.1, fun hk => tok_w h0 h1 hk⟩
theorem nv_r {T : Int → Int} {L M p : Int} (hT : tBy T L) (h0 : 0 ≤ p) (h1 : p ≤ L) (hM : 0 ≤ M) (hk : tK (tok T L M p) = 2) : -3000 ≤ nv T (tok T L M p) ∧ nv T (tok T L M p) ≤ 3000 := by
  have hr := tok_r (T := T) (L := L) (M := M) h0 h1 hM
  have h6 := hr.2.2.2.2.2.1 (by omega)
  have h7 := hr.2.2.2.2.2.2 (by omega)
  have b1 := hT.2.2 (tS (tok T L M p)) (by omega) (by omega)
  unfold nv
  by_cases c : tE (tok T L M p) - tS (tok T L M p) = 1
  · rw [if_pos c]
    omega
  · rw [if_neg c]
    have b2 := hT.2.2 (tS (tok T L M p) + 1) (by omega) (by omega)
    omega
/-- readToken, in short -/
theorem q_tk {T : Int → Int} {L M p : Int} {ν : ax_M} (hT : tBy T L) (hM : 0 ≤ M ∧ M ≤ 1000) (p0 : 0 ≤ p) (p1 : p ≤ L) (hr : rdC T L M p ν) : ∃ ν', aJ 1048 [.ref 2] [] ν = some (none, ν') ∧ rdT T L M (tok T L M p) ν' ∧ fr [2] ν ν' ∧ ν'.1 2 7 = ν.1 2 7 ∧ ν'.1 2 8 = ν.1 2 8 ∧ ν'.1 2 9 = ν.1 2 9 := by
  obtain ⟨ν', a1, a2, a3, a4, a5, a6, a7, a8⟩ := q_tok hT hM p0 p1 hr
  exact ⟨ν', a1, ⟨a2, a3, a4, a5, a6⟩, a7, a8 7 (by omega), a8 8 (by omega), a8 9 (by omega)⟩
theorem cRf_fr {k pl : Int} {ν : ax_M} : fr [2] ν (cRf k pl ν) := frt (fr_uD (by simp)) (fr_uD (by simp))
theorem cRf_7 {k pl : Int} {ν : ax_M} : (cRf k pl ν).1 2 7 = ν.1 2 7 ∧ (cRf k pl ν).1 2 8 = zI k ∧ (cRf k pl ν).1 2 9 = zI pl := ⟨(uD_nk (by decide) 2).trans (uD_nk (by decide) 2), (uD_nk (by decide) 2).trans uD_at, uD_at⟩
theorem q_clo {T : Int → Int} {L M p : Int} {ν : ax_M} (hT : tBy T L) (hM : 0 ≤ M ∧ M ≤ 1000) (p0 : 0 ≤ p) (p1 : p ≤ L) (hr : rdC T L M p ν) : ∃ ν', fr [2] ν ν' ∧ ν'.1 2 7 = ν.1 2 7 ∧ (tK (tok T L M p) = 3 → aJ 1012 [.ref 2] [] ν = some (some (.int 1), ν') ∧ rdC T L M (tE (tok T L M p)) ν' ∧ ν'.1 2 8 = ν.1 2 8 ∧ ν'.1 2 9 = ν.1 2 9) ∧ (tK (tok T L M p) ≠ 3 → aJ 1012 [.ref 2] [] ν = some (some (.int 0), ν') ∧ ν'.1 2 8 = zI 1 ∧ ν'.1 2 9 = zI (tS (tok T L M p))) := by
  obtain ⟨ν1, a1, a2, a3, a4, a5, a6⟩ := q_tk hT hM p0 p1 hr
  have h4 := (tok_h (T := T) (L := L) (M := M) p0 p1 hM.1).1
  by_cases c : tK (tok T L M p) = 3
  · refine ⟨ν1, a3, a4, fun _ => ⟨?_, a2.1, a5, a6⟩, fun q => absurd c q⟩
    rw [jl_1012, a1, z_b0, a2.2.1]
    simp (disch := omega) only [zI_lit, p_eq]
    rw [if_pos c, jl_1013, jl_1015, if_pos (by decide)]
    rfl
  · refine ⟨cRf 1 (tS (tok T L M p)) ν1, frt a3 cRf_fr, cRf_7.1.trans a4, fun q => absurd q c, fun _ => ⟨?_, cRf_7.2.1, cRf_7.2.2⟩⟩
    rw [jl_1012, a1, z_b0, a2.2.1, show (1 : Int32) = zI 1 from rfl, q_ref a2, z_b1]
    simp (disch := omega) only [zI_lit, p_eq]
    rw [if_neg c, if_pos trivial, jl_1014, jl_1015, if_pos (Or.inl rfl)]
    rfl
theorem q_cnd {T : Int → Int} {L M p : Int} {x1 : Nat} {N : qNm} {ν : ax_M} (hT : tBy T L) (hM : 0 ≤ M ∧ M ≤ 1000) (p0 : 0 ≤ p) (p1 : p ≤ L) (hx : x1 = 3 ∨ x1 = 8) (hN : nOK N) (hc : cNm x1 N ν) (h0 : ν.1 x1 0 = zI N.1) (hr : rdC T L M p ν) : ∃ ν', fr [2] ν ν' ∧ ν'.1 2 7 = ν.1 2 7 ∧ (¬ (tK (tok T L M p) = 1 ∧ kw T (tok T L M p) = -1) → aJ 1016 [.ref 2, .ref x1] [] ν = some (some (.int (zI (-1))), ν') ∧ ν'.1 2 8 = zI 1 ∧ ν'.1 2 9 = zI (tS (tok T L M p))) ∧ ((tK (tok T L M p) = 1 ∧ kw T (tok T L M p) = -1) → fn N T (tok T L M p) = -1 → aJ 1016 [.ref 2, .ref x1] [] ν = some (some (.int (zI (-1))), ν') ∧ ν'.1 2 8 = zI 3 ∧ ν'.1 2 9 = zI (tS (tok T L M p))) ∧ ((tK (tok T L M p) = 1 ∧ kw T (tok T L M p) = -1) → fn N T (tok T L M p) ≠ -1 → aJ 1016 [.ref 2, .ref x1] [] ν = some (some (.int (zI (fn N T (tok T L M p)))), ν') ∧ rdC T L M (tE (tok T L M p)) ν' ∧ ν'.1 2 8 = ν.1 2 8 ∧ ν'.1 2 9 = ν.1 2 9) := by
  obtain ⟨ν1, a1, a2, a3, a4, a5, a6⟩ := q_tk hT hM p0 p1 hr
  have hh := tok_h (T := T) (L := L) (M := M) p0 p1 hM.1
  have hr' := tok_r (T := T) (L := L) (M := M) p0 p1 hM.1
  have hf := fn_r (N := N) (T := T) (t := tok T L M p) hN.1
  have h12 := hN.2.1
  have hx2 : x1 ≠ 2 ∧ x1 + 1 ≠ 2 ∧ x1 + 2 ≠ 2 := by omega
  have hc1 : cNm x1 N ν1 := by
    rcases hx with rfl | rfl <;> exact cNm_e (a3.2 _ (by decide)) (a3.2 _ (by decide)) hc
  have h01 : ν1.1 x1 0 = zI N.1 := by rw [a3.2 x1 (by simp [hx2])]; exact h0
  by_cases c : tK (tok T L M p) = 1 ∧ kw T (tok T L M p) = -1
  · have hw := hh.2 c.1
    have hnm := q_nmd hT ⟨hr'.2.2.1, by omega, hr'.2.1⟩ hw.2.2 a2 hx hN hc1 h01
    have hst : aJ 1016 [.ref 2, .ref x1] [] ν = if fn N T (tok T L M p) = -1 then some (some (.int (zI (fn N T (tok T L M p)))), cRf 3 (tS (tok T L M p)) ν1) else some (some (.int (zI (fn N T (tok T L M p)))), ν1) := by
      rw [jl_1016, a1, z_b0, q_inm hh.1 a2, z_b1, decide_eq_true c, if_neg zB_t, jl_1017, hnm, z_b1, show (3 : Int32) = zI 3 from rfl, q_ref a2, z_b1, jl_1018, jl_1018]
      simp (disch := omega) only [zI_lit, zI_neg, p_eq]
    by_cases d : fn N T (tok T L M p) = -1
    · refine ⟨cRf 3 (tS (tok T L M p)) ν1, frt a3 cRf_fr, cRf_7.1.trans a4, fun q => absurd c q, fun _ _ => ⟨?_, cRf_7.2.1, cRf_7.2.2⟩, fun _ q => absurd d q⟩
      rw [hst, if_pos d, d]
    · refine ⟨ν1, a3, a4, fun q => absurd c q, fun _ q => absurd q d, fun _ _ => ⟨?_, a2.1, a5, a6⟩⟩
      rw [hst, if_neg d]
  · refine ⟨cRf 1 (tS (tok T L M p)) ν1, frt a3 cRf_fr, cRf_7.1.trans a4, fun _ => ⟨?_, cRf_7.2.1, cRf_7.2.2⟩, fun q => absurd q c, fun q => absurd q c⟩
    rw [jl_1016, a1, z_b0, q_inm hh.1 a2, z_b1, decide_eq_false c, if_pos (by decide), show (1 : Int32) = zI 1 from rfl, q_ref a2, z_b1]
    rfl
theorem q_cnu {T : Int → Int} {L M p a b : Int} {ν : ax_M} (hT : tBy T L) (hM : 0 ≤ M ∧ M ≤ 1000) (p0 : 0 ≤ p) (p1 : p ≤ L) (ha : 0 ≤ a ∧ a ≤ 100) (hb : 0 ≤ b ∧ b ≤ 100) (hr : rdC T L M p ν) : ∃ ν', fr [2] ν ν' ∧ ν'.1 2 7 = ν.1 2 7 ∧ (tK (tok T L M p) ≠ 2 → aJ 1019 [.ref 2, .int (zI a), .int (zI b)] [] ν = some (some (.int (zI (-1))), ν') ∧ ν'.1 2 8 = zI 1 ∧ ν'.1 2 9 = zI (tS (tok T L M p))) ∧ (tK (tok T L M p) = 2 → ¬ (a ≤ nv T (tok T L M p) ∧ nv T (tok T L M p) ≤ b) → aJ 1019 [.ref 2, .int (zI a), .int (zI b)] [] ν = some (some (.int (zI (-1))), ν') ∧ ν'.1 2 8 = zI 2 ∧ ν'.1 2 9 = zI (tS (tok T L M p))) ∧ (tK (tok T L M p) = 2 → (a ≤ nv T (tok T L M p) ∧ nv T (tok T L M p) ≤ b) → aJ 1019 [.ref 2, .int (zI a), .int (zI b)] [] ν = some (some (.int (zI (nv T (tok T L M p)))), ν') ∧ rdC T L M (tE (tok T L M p)) ν' ∧ ν'.1 2 8 = ν.1 2 8 ∧ ν'.1 2 9 = ν.1 2 9) := by
  obtain ⟨ν1, a1, a2, a3, a4, a5, a6⟩ := q_tk hT hM p0 p1 hr
  have hh := tok_h (T := T) (L := L) (M := M) p0 p1 hM.1
  have h4 := hh.1
  by_cases c : tK (tok T L M p) = 2
  · have hv := nv_r hT p0 p1 hM.1 c
    have h6 := a2.2.2.2.2 c
    have h1021 : aJ 1021 [.ref 2] [] ν1 = some (some (.int (zI (-1))), cRf 2 (tS (tok T L M p)) ν1) := by
      rw [jl_1021, show (2 : Int32) = zI 2 from rfl, q_ref a2, z_b1]
      rfl
    by_cases d : a ≤ nv T (tok T L M p) ∧ nv T (tok T L M p) ≤ b
    · refine ⟨ν1, a3, a4, fun q => absurd c q, fun _ q => absurd d q, fun _ _ => ⟨?_, a2.1, a5, a6⟩⟩
      rw [jl_1019, a1, z_b0, a2.2.1]
      simp (disch := omega) only [zI_lit, p_eq]
      rw [if_pos c, jl_1020, h6]
      simp (disch := omega) only [p_lt, p_le]
      rw [if_neg (by omega), if_pos d.2, jl_1022, h6]
    · refine ⟨cRf 2 (tS (tok T L M p)) ν1, frt a3 cRf_fr, cRf_7.1.trans a4, fun q => absurd c q, fun _ _ => ⟨?_, cRf_7.2.1, cRf_7.2.2⟩, fun _ q => absurd q d⟩
      rw [jl_1019, a1, z_b0, a2.2.1]
      simp (disch := omega) only [zI_lit, p_eq]
      rw [if_pos c, jl_1020, h6]
      simp (disch := omega) only [p_lt, p_le]
      by_cases e : nv T (tok T L M p) < a
      · rw [if_pos e, h1021]
      · rw [if_neg e, if_neg (by omega), h1021]
  · refine ⟨cRf 1 (tS (tok T L M p)) ν1, frt a3 cRf_fr, cRf_7.1.trans a4, fun _ => ⟨?_, cRf_7.2.1, cRf_7.2.2⟩, fun q => absurd q c, fun q => absurd q c⟩
    rw [jl_1019, a1, z_b0, a2.2.1, show (1 : Int32) = zI 1 from rfl, q_ref a2, z_b1]
    simp (disch := omega) only [zI_lit, zI_neg, p_eq]
    rw [if_neg c]
/-- what parsing leaves of the reference -/
def nfr (ν ν' : ax_M) : Prop := (∀ a, a ≠ 207 → a ≠ 210 → a ≠ 219 → ν'.1 a = ν.1 a) ∧ (∀ k, k ≠ 5 → k ≠ 6 → k ≠ 7 → k ≠ 8 → k ≠ 9 → k ≠ 11 → k ≠ 13 → ν'.1 207 k = ν.1 207 k) ∧ ∀ a, a ≠ 207 → a ≠ 216 → ν'.2 a = ν.2 a
theorem nfz {ν : ax_M} : nfr ν ν := ⟨fun _ _ _ _ => rfl, fun _ _ _ _ _ _ _ _ => rfl, fun _ _ _ => rfl⟩
theorem nft {ν ν' ν'' : ax_M} (h : nfr ν ν') (h' : nfr ν' ν'') : nfr ν ν'' := ⟨fun a x y z => (h'.1 a x y z).trans (h.1 a x y z), fun k a b c d e f g => (h'.2.1 k a b c d e f g).trans (h.2.1 k a b c d e f g), fun a x y => (h'.2.2 a x y).trans (h.2.2 a x y)⟩
theorem nfg {ν ν' : ax_M} (h : gf ν ν') : nfr ν ν' := ⟨fun a x _ _ => h.1 a x, fun k a b c d _ _ _ => h.2.1 k a b c d, fun a x _ => h.2.2 a x⟩
theorem nfk {ν : ax_M} {k : Nat} {x : Int32} (h : k = 5 ∨ k = 6 ∨ k = 7 ∨ k = 8 ∨ k = 9 ∨ k = 11 ∨ k = 13) : nfr ν (ax_uD ν 207 k x) := ⟨fun a q _ _ => funext fun j => uD_ne q, fun j a b c d e f g => uD_nk (by omega) 207, fun _ _ _ => rfl⟩
theorem nfb {L M k : Int} {t : Int × Int × Int} {ν : ax_M} : nfr ν (mBad L M t k ν) := nft (nfk (by omega)) (nfk (by omega))
theorem mBad_9 {L M k : Int} {t : Int × Int × Int} {ν : ax_M} : (mBad L M t k ν).1 207 9 = zI (if rkd L M t = 1 then 1 else k) ∧ (mBad L M t k ν).1 207 11 = zI (tS t) := ⟨(uD_nk (by decide) 207).trans uD_at, uD_at⟩
theorem q_gon {T : Int → Int} {L M : Int} {t : Int × Int × Int} {ν : ax_M} (hT : tBy T L) (hM : 0 ≤ M ∧ M ≤ 1000) (p0 : 0 ≤ tE t) (p1 : tE t ≤ L) (hk : tK t = 1 ∨ tK t = 2 ∨ tK t = 3) (hr : rtM T L M t ν) : ∃ ν', aJ 23 [.ref 207] [] ν = some (none, ν') ∧ rtM T L M (tok T L M (tE t)) ν' ∧ gf ν ν' := q_go hT hM p0 p1 hr.1 (hr.2.2.2.1 hk)
theorem q_rne {T : Int → Int} {L M : Int} {t : Int × Int × Int} {ν : ax_M} (hT : tBy T L) (hM : 0 ≤ M ∧ M ≤ 1000) (p0 : 0 ≤ tE t) (p1 : tE t ≤ L) (h4 : 0 ≤ tK t ∧ tK t ≤ 4) (hr : rtM T L M t ν) : ∃ ν', nfr ν ν' ∧ (∀ a, a ≠ 207 → ν'.1 a = ν.1 a) ∧ (∀ a, a ≠ 207 → ν'.2 a = ν.2 a) ∧ (tK t = 3 → aJ 89 [.ref 207] [] ν = some (some (.int 1), ν') ∧ rtM T L M (tok T L M (tE t)) ν' ∧ ν'.1 207 9 = ν.1 207 9) ∧ (tK t ≠ 3 → aJ 89 [.ref 207] [] ν = some (some (.int 0), ν') ∧ ν'.1 207 9 = zI 1 ∧ ν'.1 207 11 = zI (tS t)) := by
  obtain ⟨r2, r3, r4, r0, r1, rl, ru⟩ := rk_w (L := L) (M := M) h4
  by_cases c : tK t = 3
  · obtain ⟨ν', a1, a2, a3⟩ := q_gon hT hM p0 p1 (Or.inr (Or.inr c)) hr
    refine ⟨ν', nfg a3, a3.1, a3.2.2, fun _ => ⟨?_, a2, a3.2.1 9 (by decide) (by decide) (by decide) (by decide)⟩, fun q => absurd c q⟩
    rw [jl_89, hr.2.2.1]
    simp (disch := omega) only [zI_lit, p_eq]
    rw [if_pos (r4.mpr c), jl_90, a1, z_b0]
    rfl
  · refine ⟨mBad L M t 1 ν, nfb, fun a ha => funext fun j => (uD_ne ha).trans (uD_ne ha), fun _ _ => rfl, fun q => absurd q c, fun _ => ⟨?_, ?_, mBad_9.2⟩⟩
    · have hb := q_bad' (k := 1) h4 hr
      rw [jl_89, hr.2.2.1]
      simp (disch := omega) only [p_eq, show (4 : Int32) = zI 4 from rfl]
      rw [if_neg (fun z => c (r4.mp z))]
      exact hb
    · rw [mBad_9.1]
      split <;> rfl
theorem q_rnu {T : Int → Int} {L M a b : Int} {t : Int × Int × Int} {ν : ax_M} (hT : tBy T L) (hM : 0 ≤ M ∧ M ≤ 1000) (p0 : 0 ≤ tE t) (p1 : tE t ≤ L) (h4 : 0 ≤ tK t ∧ tK t ≤ 4) (ha : 0 ≤ a ∧ a ≤ 100) (hb : 0 ≤ b ∧ b ≤ 100) (hv : tK t = 2 → -3000 ≤ nv T t ∧ nv T t ≤ 3000) (hr : rtM T L M t ν) : ∃ ν', nfr ν ν' ∧ (∀ a, a ≠ 207 → ν'.1 a = ν.1 a) ∧ (∀ a, a ≠ 207 → ν'.2 a = ν.2 a) ∧ (tK t ≠ 2 → aJ 86 [.ref 207, .int (zI a), .int (zI b)] [] ν = some (some (.int 0), ν') ∧ ν'.1 207 9 = zI 1 ∧ ν'.1 207 11 = zI (tS t)) ∧ (tK t = 2 → ¬ (a ≤ nv T t ∧ nv T t ≤ b) → aJ 86 [.ref 207, .int (zI a), .int (zI b)] [] ν = some (some (.int 0), ν') ∧ ν'.1 207 9 = zI 2 ∧ ν'.1 207 11 = zI (tS t)) ∧ (tK t = 2 → (a ≤ nv T t ∧ nv T t ≤ b) → aJ 86 [.ref 207, .int (zI a), .int (zI b)] [] ν = some (some (.int 1), ν') ∧ rtM T L M (tok T L M (tE t)) ν' ∧ ν'.1 207 9 = ν.1 207 9 ∧ ν'.1 207 13 = zI (nv T t)) := by
  obtain ⟨r2, r3, r4, r0, r1, rl, ru⟩ := rk_w (L := L) (M := M) h4
  have hoff : ∀ k, ∀ a, a ≠ 207 → (mBad L M t k ν).1 a = ν.1 a := fun k a ha => funext fun j => (uD_ne ha).trans (uD_ne ha)
  by_cases c : tK t = 2
  · have hvv := hv c
    have h8 := hr.2.2.2.2.2 c
    have hin : aJ 86 [.ref 207, .int (zI a), .int (zI b)] [] ν = ax_b1 (some (some (.int (zB (decide (a ≤ nv T t ∧ nv T t ≤ b)))), ν)) fun v2 μ1 => if v2 = 0 then ax_b1 (aJ 83 [.ref 207, .int 2] [] μ1) fun v4 μ3 => if v4 = 0 ∨ v4 = 1 then some (some (.int v4), μ3) else none else aJ 88 [.ref 207] [] μ1 := by
      rw [jl_86, hr.2.2.1]
      simp (disch := omega) only [p_eq, show (3 : Int32) = zI 3 from rfl]
      rw [if_pos (r3.mpr c), jl_87, h8, mz_isIn (zR_of (by omega)) (zR_of (by omega)) (zR_of (by omega))]
    by_cases d : a ≤ nv T t ∧ nv T t ≤ b
    · have g13 : nfr ν (ax_uD ν 207 13 (zI (nv T t))) := nfk (by omega)
      have r13 : rtM T L M t (ax_uD ν 207 13 (zI (nv T t))) := by
        obtain ⟨⟨q1, q2, q3⟩, q4, q5, q6, q7, q8⟩ := hr
        exact ⟨⟨(uD_nk (by decide) 207).trans q1, (uD_nk (by decide) 207).trans q2, rP_e (g13.1 208 (by decide) (by decide) (by decide)) q3⟩, (uD_nk (by decide) 207).trans q4, (uD_nk (by decide) 207).trans q5, fun z => (uD_nk (by decide) 207).trans (q6 z), q7, fun z => (uD_nk (by decide) 207).trans (q8 z)⟩
      obtain ⟨ν', a1, a2, a3⟩ := q_gon hT hM p0 p1 (Or.inr (Or.inl c)) r13
      refine ⟨ν', nft g13 (nfg a3), fun a ha => (a3.1 a ha).trans (funext fun j => uD_ne ha), a3.2.2, fun q => absurd c q, fun _ q => absurd d q, fun _ _ => ⟨?_, a2, (a3.2.1 9 (by decide) (by decide) (by decide) (by decide)).trans (uD_nk (by decide) 207), (a3.2.1 13 (by decide) (by decide) (by decide) (by decide)).trans uD_at⟩⟩
      rw [hin, z_b1, decide_eq_true d, if_neg zB_t, jl_88, h8, a1, z_b0]
    · refine ⟨mBad L M t 2 ν, nfb, hoff 2, fun _ _ => rfl, fun q => absurd c q, fun _ _ => ⟨?_, ?_, mBad_9.2⟩, fun _ q => absurd q d⟩
      · rw [hin, z_b1, decide_eq_false d, if_pos (by decide)]
        exact q_bad' (k := 2) h4 hr
      · rw [mBad_9.1, if_neg (by omega)]
  · refine ⟨mBad L M t 1 ν, nfb, hoff 1, fun _ _ => rfl, fun _ => ⟨?_, ?_, mBad_9.2⟩, fun q => absurd q c, fun q => absurd q c⟩
    · have hb := q_bad' (k := 1) h4 hr
      rw [jl_86, hr.2.2.1]
      simp (disch := omega) only [p_eq, show (3 : Int32) = zI 3 from rfl]
      rw [if_neg (fun z => c (r3.mp z))]
      exact hb
    · rw [mBad_9.1]
      split <;> rfl
