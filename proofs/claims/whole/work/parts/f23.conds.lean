/-! o: rule: a line's conditions -/
noncomputable def rEnd (r : ax_R) (x : Int32) : ax_R := ax_b1 r fun v2 μ1 => if v2 = 0 then aJ 167 [.ref 207, .int x] [] μ1 else ax_b1 (aJ 89 [.ref 207] [] μ1) fun v4 μ3 => if v4 = 0 then aJ 167 [.ref 207, .int x] [] μ3 else aJ 168 [.ref 207, .int x] [] μ3
theorem rEnd_w {r : ax_R} {x : Int32} : rEnd (ax_b1 r fun v3 μ2 => if v3 = 0 then aJ 161 [] [] μ2 else aJ 160 [] [] μ2) x = rEnd r x := by
  match r with
  | none => rfl
  | some (none, μ) => rfl
  | some (some (.int v), μ) =>
    unfold rEnd
    rw [z_b1, z_b1]
    by_cases h : v = 0
    · rw [if_pos h, if_pos h, jl_161, jl_162, if_pos (by decide), z_b1, if_pos (by decide)]
    · rw [if_neg h, if_neg h, jl_160, jl_162, if_pos (by decide), z_b1, if_neg (by decide)]
  | some (some (.long v), μ) => rfl
  | some (some (.ref v), μ) => rfl
  | some (some .null, μ) => rfl
  | some (some (.float v), μ) => rfl
  | some (some (.double v), μ) => rfl
  | some (some (.retAddr v), μ) => rfl
theorem rEnd_0 {x : Int32} {μ : ax_M} : rEnd (some (some (.int 0), μ)) x = aJ 167 [.ref 207, .int x] [] μ := by
  unfold rEnd
  rw [z_b1, if_pos rfl]
theorem rEnd_1 {x : Int32} {μ : ax_M} : rEnd (some (some (.int 1), μ)) x = ax_b1 (aJ 89 [.ref 207] [] μ) fun v4 μ3 => if v4 = 0 then aJ 167 [.ref 207, .int x] [] μ3 else aJ 168 [.ref 207, .int x] [] μ3 := by
  unfold rEnd
  rw [z_b1, if_neg (by decide)]
theorem rtM_13 {T : Int → Int} {L M : Int} {t : Int × Int × Int} {ν : ax_M} {x : Int32} (hr : rtM T L M t ν) : rtM T L M t (ax_uD ν 207 13 x) := by
  have g13 : nfr ν (ax_uD ν 207 13 x) := nfk (by omega)
  obtain ⟨⟨q1, q2, q3⟩, q4, q5, q6, q7, q8⟩ := hr
  exact ⟨⟨(uD_nk (by decide) 207).trans q1, (uD_nk (by decide) 207).trans q2, rP_e (g13.1 208 (by decide) (by decide) (by decide)) q3⟩, (uD_nk (by decide) 207).trans q4, (uD_nk (by decide) 207).trans q5, fun z => (uD_nk (by decide) 207).trans (q6 z), q7, fun z => (uD_nk (by decide) 207).trans (q8 z)⟩
/-- the reference reads a node's name -/
theorem q_rnd {T : Int → Int} {L M : Int} {t : Int × Int × Int} {N : qNm} {ν : ax_M} (hT : tBy T L) (hM : 0 ≤ M ∧ M ≤ 1000) (p0 : 0 ≤ tE t) (p1 : tE t ≤ L) (h4 : 0 ≤ tK t ∧ tK t ≤ 4) (htw : tWd T t) (hN : nOK N) (hr : rtM T L M t ν) (h0 : ν.1 209 0 = zI N.1) (hc : rNm 215 0 N ν) : ∃ ν', nfr ν ν' ∧ (∀ a, a ≠ 207 → ν'.1 a = ν.1 a) ∧ (∀ a, a ≠ 207 → ν'.2 a = ν.2 a) ∧ (¬ (tK t = 1 ∧ kw T t = -1) → aJ 140 [.ref 207] [] ν = some (some (.int 0), ν') ∧ ν'.1 207 9 = zI 1 ∧ ν'.1 207 11 = zI (tS t)) ∧ ((tK t = 1 ∧ kw T t = -1) → fn N T t = -1 → aJ 140 [.ref 207] [] ν = some (some (.int 0), ν') ∧ ν'.1 207 9 = zI 3 ∧ ν'.1 207 11 = zI (tS t)) ∧ ((tK t = 1 ∧ kw T t = -1) → fn N T t ≠ -1 → aJ 140 [.ref 207] [] ν = some (some (.int 1), ν') ∧ rtM T L M (tok T L M (tE t)) ν' ∧ ν'.1 207 9 = ν.1 207 9 ∧ ν'.1 207 13 = zI (fn N T t)) := by
  obtain ⟨r2, r3, r4, r0, r1, rl, ru⟩ := rk_w (L := L) (M := M) h4
  have hoff : ∀ k μ, ∀ a, a ≠ 207 → (mBad L M t k μ).1 a = μ.1 a := fun k μ a ha => funext fun j => (uD_ne ha).trans (uD_ne ha)
  have hfr := fn_r (N := N) (T := T) (t := t) hN.1
  have h12 := hN.2.1
  by_cases c : tK t = 1 ∧ kw T t = -1
  · have ld0 : ax_ld ax_sh ν 209 0 = some (zI N.1) := by
      rw [show (0 : Int32) = zI 0 from rfl, z_ld (len := 2466) (by decide) (by omega) (by decide) (by decide)]
      exact congrArg some h0
    have hf : aJ 100 [.ref 215, .int (zI N.1), .long (ν.2 207 12)] [] ν = some (some (.int (zI (fn N T t))), ν) := by
      rw [hr.2.2.2.2.1 c.1]
      exact q_fni htw c.1 (Or.inl rfl) hN hc
    have hin : aJ 140 [.ref 207] [] ν = if fn N T t = -1 then (ax_b1 (aJ 83 [.ref 207, .int 3] [] (ax_uD ν 207 13 (zI (fn N T t)))) fun v5 μ4 => if v5 = 0 ∨ v5 = 1 then some (some (.int v5), μ4) else none) else aJ 142 [.ref 207] [] (ax_uD ν 207 13 (zI (fn N T t))) := by
      rw [jl_140, q_rnmd h4 htw hr, z_b1, decide_eq_true c, if_neg zB_t, jl_141, ld0, z_bo, hf, z_b1, uD_at, j_eq rfl (show (-1 : Int32) = zI (-1) from rfl) (zR_of (by omega)) (zR_of (by omega))]
    have g13 : nfr ν (ax_uD ν 207 13 (zI (fn N T t))) := nfk (by omega)
    have r13 := rtM_13 (x := zI (fn N T t)) hr
    have o13 : ∀ a, a ≠ 207 → (ax_uD ν 207 13 (zI (fn N T t))).1 a = ν.1 a := fun a ha => funext fun j => uD_ne ha
    by_cases d : fn N T t = -1
    · refine ⟨mBad L M t 3 (ax_uD ν 207 13 (zI (fn N T t))), nft g13 nfb, fun a ha => (hoff 3 _ a ha).trans (o13 a ha), fun _ _ => rfl, fun q => absurd c q, fun _ _ => ⟨?_, ?_, mBad_9.2⟩, fun _ q => absurd d q⟩
      · rw [hin, if_pos d]
        exact q_bad' (k := 3) h4 r13
      · rw [mBad_9.1, if_neg (by omega)]
    · obtain ⟨ν', a1, a2, a3⟩ := q_gon hT hM p0 p1 (Or.inl c.1) r13
      refine ⟨ν', nft g13 (nfg a3), fun a ha => (a3.1 a ha).trans (o13 a ha), a3.2.2, fun q => absurd c q, fun _ q => absurd q d, fun _ _ => ⟨?_, a2, (a3.2.1 9 (by decide) (by decide) (by decide) (by decide)).trans (uD_nk (by decide) 207), (a3.2.1 13 (by decide) (by decide) (by decide) (by decide)).trans uD_at⟩⟩
      rw [hin, if_neg d, jl_142, a1, z_b0]
  · refine ⟨mBad L M t 1 ν, nfb, hoff 1 ν, fun _ _ => rfl, fun _ => ⟨?_, ?_, mBad_9.2⟩, fun q => absurd q c, fun q => absurd q c⟩
    · rw [jl_140, q_rnmd h4 htw hr, z_b1, decide_eq_false c, if_pos (by decide)]
      exact q_bad' (k := 1) h4 hr
    · rw [mBad_9.1]
      split <;> rfl
/-- a condition's value -/
noncomputable def vR (cw : Int) (ν : ax_M) : ax_R := if cw = 17 then aJ 86 [.ref 207, .int (zI 0), .int (zI 9)] [] ν else if cw = 18 then aJ 86 [.ref 207, .int (zI 1), .int (zI 99)] [] ν else aJ 140 [.ref 207] [] ν
theorem q_145 {cw : Int} {x1 x2 : Int32} {ν : ax_M} (h : 15 ≤ cw ∧ cw ≤ 18) : aJ 145 [.ref 207, .int x1, .int x2, .int (zI (cw - 4))] [] ν = ax_b0 (aJ 23 [.ref 207] [] ν) fun μ1 => ax_b1 (vR cw μ1) fun v3 μ2 => aJ 148 [.ref 207, .int x1, .int x2, .int (zI (cw - 4))] [.int v3] μ2 := by
  rw [jl_145]
  congr 1
  funext μ1
  unfold vR
  have hh : cw = 15 ∨ cw = 16 ∨ cw = 17 ∨ cw = 18 := by omega
  rcases hh with rfl | rfl | rfl | rfl
  · rw [if_neg (by decide), if_neg (by decide), if_neg (by decide)]
  · rw [if_neg (by decide), if_neg (by decide), if_neg (by decide)]
  · rw [if_pos (by decide), if_pos (by decide), jl_146, if_pos (by decide)]
    rfl
  · rw [if_pos (by decide), if_neg (by decide), if_pos (by decide), jl_146, if_neg (by decide), jl_147]
    rfl
def vFC (T : Int → Int) (L M : Int) (N : qNm) (R : gR) (cw p k pl : Int) : Prop := ∀ ν, rdC T L M p ν → wC N R ν → ∃ ν', fr [2] ν ν' ∧ ν'.1 2 7 = ν.1 2 7 ∧ aJ 1008 [.ref 2, .int (zI cw), .ref 3] [] ν = some (some (.int (zI (-1))), ν') ∧ ν'.1 2 8 = zI k ∧ ν'.1 2 9 = zI pl
def vFR (T : Int → Int) (L M : Int) (N : qNm) (R : gR) (cw p k pl : Int) : Prop := ∀ ν, rtM T L M (tok T L M p) ν → wM N R ν → ∃ ν', nfr ν ν' ∧ vR cw ν = some (some (.int 0), ν') ∧ ν'.1 207 9 = zI k ∧ ν'.1 207 11 = zI pl
def vSC (T : Int → Int) (L M : Int) (N : qNm) (R : gR) (cw p v p' : Int) : Prop := ∀ ν, rdC T L M p ν → wC N R ν → ∃ ν', fr [2] ν ν' ∧ ν'.1 2 7 = ν.1 2 7 ∧ aJ 1008 [.ref 2, .int (zI cw), .ref 3] [] ν = some (some (.int (zI v)), ν') ∧ rdC T L M p' ν' ∧ ν'.1 2 8 = ν.1 2 8
def vSR (T : Int → Int) (L M : Int) (N : qNm) (R : gR) (cw p v p' : Int) : Prop := ∀ ν, rtM T L M (tok T L M p) ν → wM N R ν → ∃ ν', nfr ν ν' ∧ vR cw ν = some (some (.int 1), ν') ∧ rtM T L M (tok T L M p') ν' ∧ wM N R ν' ∧ ν'.1 207 9 = ν.1 207 9 ∧ ν'.1 207 13 = zI v
def vRes (T : Int → Int) (L M : Int) (N : qNm) (R : gR) (cw p : Int) : Prop := (∃ k pl, (1 ≤ k ∧ k ≤ 4) ∧ (0 ≤ pl ∧ pl ≤ L) ∧ vFC T L M N R cw p k pl ∧ vFR T L M N R cw p k pl) ∨ ∃ v p', (0 ≤ v ∧ v ≤ 99) ∧ p ≤ p' ∧ p' ≤ L ∧ vSC T L M N R cw p v p' ∧ vSR T L M N R cw p v p'
theorem q_cvn {T : Int → Int} {L M : Int} {N : qNm} {R : gR} {cw p a b : Int} (hT : tBy T L) (hM : 0 ≤ M ∧ M ≤ 1000) (p0 : 0 ≤ p) (p1 : p ≤ L) (ha : 0 ≤ a ∧ a ≤ 1) (hb : 9 ≤ b ∧ b ≤ 99) (e1 : ∀ ν, aJ 1008 [.ref 2, .int (zI cw), .ref 3] [] ν = ax_b1 (aJ 1019 [.ref 2, .int (zI a), .int (zI b)] [] ν) fun v2 μ1 => some (some (.int v2), μ1)) (e2 : ∀ ν, vR cw ν = aJ 86 [.ref 207, .int (zI a), .int (zI b)] [] ν) : vRes T L M N R cw p := by
  have hh := tok_h (T := T) (L := L) (M := M) p0 p1 hM.1
  have hrg := tok_r (T := T) (L := L) (M := M) p0 p1 hM.1
  have hv := fun z => nv_r (T := T) (L := L) (M := M) hT p0 p1 hM.1 z
  by_cases c : tK (tok T L M p) = 2
  case neg =>
    refine Or.inl ⟨1, tS (tok T L M p), by omega, by omega, fun ν hr hw => ?_, fun ν hr hw => ?_⟩
    · obtain ⟨ν', b1, b2, b3, _, _⟩ := q_cnu (a := a) (b := b) hT hM p0 p1 (by omega) (by omega) hr
      obtain ⟨d1, d2, d3⟩ := b3 c
      refine ⟨ν', b1, b2, ?_, d2, d3⟩
      rw [e1, d1, z_b1]
    · obtain ⟨ν', b1, _, _, b2, _, _⟩ := q_rnu (a := a) (b := b) hT hM (by omega) hrg.2.1 hh.1 (by omega) (by omega) hv hr
      obtain ⟨d1, d2, d3⟩ := b2 c
      exact ⟨ν', b1, (e2 ν).trans d1, d2, d3⟩
  by_cases d : a ≤ nv T (tok T L M p) ∧ nv T (tok T L M p) ≤ b
  case neg =>
    refine Or.inl ⟨2, tS (tok T L M p), by omega, by omega, fun ν hr hw => ?_, fun ν hr hw => ?_⟩
    · obtain ⟨ν', b1, b2, _, b3, _⟩ := q_cnu (a := a) (b := b) hT hM p0 p1 (by omega) (by omega) hr
      obtain ⟨d1, d2, d3⟩ := b3 c d
      refine ⟨ν', b1, b2, ?_, d2, d3⟩
      rw [e1, d1, z_b1]
    · obtain ⟨ν', b1, _, _, _, b2, _⟩ := q_rnu (a := a) (b := b) hT hM (by omega) hrg.2.1 hh.1 (by omega) (by omega) hv hr
      obtain ⟨d1, d2, d3⟩ := b2 c d
      exact ⟨ν', b1, (e2 ν).trans d1, d2, d3⟩
  refine Or.inr ⟨nv T (tok T L M p), tE (tok T L M p), by omega, by omega, hrg.2.1, fun ν hr hw => ?_, fun ν hr hw => ?_⟩
  · obtain ⟨ν', b1, b2, _, _, b3⟩ := q_cnu (a := a) (b := b) hT hM p0 p1 (by omega) (by omega) hr
    obtain ⟨d1, d2, d3, d4⟩ := b3 c d
    refine ⟨ν', b1, b2, ?_, d2, d3⟩
    rw [e1, d1, z_b1]
  · obtain ⟨ν', b1, b1a, b1b, _, _, b2⟩ := q_rnu (a := a) (b := b) hT hM (by omega) hrg.2.1 hh.1 (by omega) (by omega) hv hr
    obtain ⟨d1, d2, d3, d4⟩ := b2 c d
    exact ⟨ν', b1, (e2 ν).trans d1, d2, wM_e b1a b1b hw, d3, d4⟩
theorem q_cvl {T : Int → Int} {L M : Int} {N : qNm} {R : gR} {cw p : Int} (hT : tBy T L) (hM : 0 ≤ M ∧ M ≤ 1000) (hN : nOK N) (p0 : 0 ≤ p) (p1 : p ≤ L) (hc : 15 ≤ cw ∧ cw ≤ 18) : vRes T L M N R cw p := by
  by_cases c17 : cw = 17
  · refine q_cvn (a := 0) (b := 9) hT hM p0 p1 (by omega) (by omega) (fun ν => ?_) (fun ν => ?_)
    · rw [c17, jl_1008, if_pos (by decide), jl_1009]
      rfl
    · unfold vR
      rw [if_pos c17]
  by_cases c18 : cw = 18
  · refine q_cvn (a := 1) (b := 99) hT hM p0 p1 (by omega) (by omega) (fun ν => ?_) (fun ν => ?_)
    · rw [c18, jl_1008, if_neg (by decide), if_pos (by decide), jl_1010]
      rfl
    · unfold vR
      rw [if_neg c17, if_pos c18]
  have e1 : ∀ ν, aJ 1008 [.ref 2, .int (zI cw), .ref 3] [] ν = ax_b1 (aJ 1016 [.ref 2, .ref 3] [] ν) fun v2 μ1 => some (some (.int v2), μ1) := fun ν => by
    rw [jl_1008, j_eq rfl (show (17 : Int32) = zI 17 from rfl) (zR_of (by omega)) (zR_of (by omega)), if_neg c17, j_eq rfl (show (18 : Int32) = zI 18 from rfl) (zR_of (by omega)) (zR_of (by omega)), if_neg c18, jl_1011]
  have e2 : ∀ ν, vR cw ν = aJ 140 [.ref 207] [] ν := fun ν => by
    unfold vR
    rw [if_neg c17, if_neg c18]
  have hh := tok_h (T := T) (L := L) (M := M) p0 p1 hM.1
  have hrg := tok_r (T := T) (L := L) (M := M) p0 p1 hM.1
  have h12 := hN.2.1
  have hfr := fn_r (N := N) (T := T) (t := tok T L M p) hN.1
  by_cases c : tK (tok T L M p) = 1 ∧ kw T (tok T L M p) = -1
  case neg =>
    refine Or.inl ⟨1, tS (tok T L M p), by omega, by omega, fun ν hr hw => ?_, fun ν hr hw => ?_⟩
    · obtain ⟨ν', b1, b2, b3, _, _⟩ := q_cnd (x1 := 3) hT hM p0 p1 (Or.inl rfl) hN hw.1 hw.2.1 hr
      obtain ⟨d1, d2, d3⟩ := b3 c
      refine ⟨ν', b1, b2, ?_, d2, d3⟩
      rw [e1, d1, z_b1]
    · obtain ⟨ν', b1, _, _, b2, _, _⟩ := q_rnd hT hM (by omega) hrg.2.1 hh.1 hh.2 hN hr hw.1 hw.2.1
      obtain ⟨d1, d2, d3⟩ := b2 c
      exact ⟨ν', b1, (e2 ν).trans d1, d2, d3⟩
  by_cases d : fn N T (tok T L M p) = -1
  · refine Or.inl ⟨3, tS (tok T L M p), by omega, by omega, fun ν hr hw => ?_, fun ν hr hw => ?_⟩
    · obtain ⟨ν', b1, b2, _, b3, _⟩ := q_cnd (x1 := 3) hT hM p0 p1 (Or.inl rfl) hN hw.1 hw.2.1 hr
      obtain ⟨d1, d2, d3⟩ := b3 c d
      refine ⟨ν', b1, b2, ?_, d2, d3⟩
      rw [e1, d1, z_b1]
    · obtain ⟨ν', b1, _, _, _, b2, _⟩ := q_rnd hT hM (by omega) hrg.2.1 hh.1 hh.2 hN hr hw.1 hw.2.1
      obtain ⟨d1, d2, d3⟩ := b2 c d
      exact ⟨ν', b1, (e2 ν).trans d1, d2, d3⟩
  refine Or.inr ⟨fn N T (tok T L M p), tE (tok T L M p), by omega, by omega, hrg.2.1, fun ν hr hw => ?_, fun ν hr hw => ?_⟩
  · obtain ⟨ν', b1, b2, _, _, b3⟩ := q_cnd (x1 := 3) hT hM p0 p1 (Or.inl rfl) hN hw.1 hw.2.1 hr
    obtain ⟨d1, d2, d3, d4⟩ := b3 c d
    refine ⟨ν', b1, b2, ?_, d2, d3⟩
    rw [e1, d1, z_b1]
  · obtain ⟨ν', b1, b1a, b1b, _, _, b2⟩ := q_rnd hT hM (by omega) hrg.2.1 hh.1 hh.2 hN hr hw.1 hw.2.1
    obtain ⟨d1, d2, d3, d4⟩ := b2 c d
    exact ⟨ν', b1, (e2 ν).trans d1, d2, wM_e b1a b1b hw, d3, d4⟩
