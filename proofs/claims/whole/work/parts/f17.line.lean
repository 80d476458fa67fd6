/-! o: a line of a network's text -/
theorem e4_w {f : Nat → Nat → Int32} {p q r : Nat} {x y w v : Int32} (hp : 2 ≤ p ∧ p < 32) (hq : 32 ≤ q ∧ q < 62) : (ax_up (ax_up (ax_up (ax_up f 210 p x) 210 q y) 219 r w) 210 1 v 210 0 = f 210 0) ∧ (ax_up (ax_up (ax_up (ax_up f 210 p x) 210 q y) 219 r w) 210 1 v 210 1 = v) ∧ (ax_up (ax_up (ax_up (ax_up f 210 p x) 210 q y) 219 r w) 210 1 v 210 p = x) ∧ (ax_up (ax_up (ax_up (ax_up f 210 p x) 210 q y) 219 r w) 210 1 v 210 q = y) ∧ (∀ j, 2 ≤ j → j ≠ p → j ≠ q → ax_up (ax_up (ax_up (ax_up f 210 p x) 210 q y) 219 r w) 210 1 v 210 j = f 210 j) ∧ (ax_up (ax_up (ax_up (ax_up f 210 p x) 210 q y) 219 r w) 210 1 v 219 r = w) ∧ (∀ j, j ≠ r → ax_up (ax_up (ax_up (ax_up f 210 p x) 210 q y) 219 r w) 210 1 v 219 j = f 219 j) ∧ (∀ a, a ≠ 210 → a ≠ 219 → ∀ j, ax_up (ax_up (ax_up (ax_up f 210 p x) 210 q y) 219 r w) 210 1 v a j = f a j) ∧ ax_up (ax_up (ax_up f 210 p x) 210 q y) 219 r w 210 1 = f 210 1 := by
  unfold ax_up
  refine ⟨?_, ?_, ?_, ?_, fun j h1 h2 h3 => ?_, ?_, fun j h => ?_, fun a h1 h2 j => ?_, ?_⟩
  · rw [if_neg (by omega), if_neg (by omega), if_neg (by omega), if_neg (by omega)]
  · rw [if_pos (by omega)]
  · rw [if_neg (by omega), if_neg (by omega), if_neg (by omega), if_pos (by omega)]
  · rw [if_neg (by omega), if_neg (by omega), if_pos (by omega)]
  · rw [if_neg (by omega), if_neg (by omega), if_neg (by omega), if_neg (by omega)]
  · rw [if_neg (by omega), if_pos (by omega)]
  · rw [if_neg (by omega), if_neg (by omega), if_neg (by omega), if_neg (by omega)]
  · rw [if_neg (by omega), if_neg (by omega), if_neg (by omega), if_neg (by omega)]
  · rw [if_neg (by omega), if_neg (by omega), if_neg (by omega)]
theorem l_ed {T : Int → Int} {L M : Int} {t : Int × Int × Int} {N : qNm} {G : gG} (hT : tBy T L) (hM : 0 ≤ M ∧ M ≤ 1000) (h4 : 0 ≤ tK t ∧ tK t ≤ 4) (htw : tWd T t) (hk : tK t = 1) (hkw : kw T t = 20) (ht : 0 ≤ tS t ∧ tS t ≤ L ∧ 0 ≤ tE t ∧ tE t ≤ L) (hd : dOK N G) : lRes T L M t N G := by
  have hN := hd.1
  have hg := hd.2.2.1
  have hE := hg.2.2.2.1
  have hE0 := hg.2.2.1
  have h00 := hN.1
  have h012 := hN.2.1
  obtain ⟨r2, r3, r4, r0, r1, rl, ru⟩ := rk_w (L := L) (M := M) h4
  have ld1 : ∀ ν, dM N G ν → ax_ld ax_sh ν 210 1 = some (zI (gE G)) := fun ν hm => by
    rw [show (1 : Int32) = zI 1 from rfl, z_ld (len := 173) (by decide) (by omega) (by decide) (by decide)]
    exact congrArg some hm.2.1
  have ld0 : ∀ ν, dM N G ν → ax_ld ax_sh ν 210 0 = some (zI N.1) := fun ν hm => by
    rw [show (0 : Int32) = zI 0 from rfl, z_ld (len := 173) (by decide) (by omega) (by decide) (by decide)]
    exact congrArg some hm.1
  have hC : ∀ ν (i : Int32), rdT T L M t ν → aJ 964 [.ref 2, .ref 8, .int i] [] ν = ax_b1 (aJ 988 [.ref 2, .ref 8] [] ν) fun v4 μ3 => aJ 967 [.ref 2, .ref 8, .int i] [.int v4] μ3 := by
    intro ν i hr
    have q1 := q_iwd (w := 19) h4 hr (by omega) (by omega)
    have q2 := q_iwd (w := 20) h4 hr (by omega) (by omega)
    rw [jl_964, show (19 : Int32) = zI 19 from rfl, q1, z_b1, show decide (tK t = 1 ∧ kw T t = 19) = false from decide_eq_false (by omega), if_pos (by decide), jl_965, show (20 : Int32) = zI 20 from rfl, q2, z_b1, decide_eq_true ⟨hk, hkw⟩, if_neg zB_t]
  have hR : ∀ ν (x : Int32), rtM T L M t ν → aJ 125 [.ref 207, .int x] [] ν = ax_b1 (aJ 114 [.ref 207] [] ν) fun v4 μ3 => aJ 128 [.ref 207, .int x] [.int v4] μ3 := by
    intro ν x hr
    have q1 := q_rwd (k := 8) h4 htw hr (by omega)
    have q2 := q_rwd (k := 9) h4 htw hr (by omega)
    have n8 : ¬ (tK t = 1 ∧ kw T t = crw 8) := by
      rintro ⟨_, z⟩
      rw [hkw] at z
      exact absurd z (by decide)
    rw [jl_125, hr.2.2.1, show (8 : Int32) = zI ((8 : Nat) : Int) from rfl, q1, z_b1, decide_eq_false n8, if_pos (show zB false = 0 by decide), jl_126, show (9 : Int32) = zI ((9 : Nat) : Int) from rfl, q2, z_b1, decide_eq_true (⟨hk, hkw⟩ : tK t = 1 ∧ kw T t = crw 9), if_neg zB_t]
    simp (disch := omega) only [zI_lit, p_eq]
    rw [if_neg (by omega)]
  by_cases c1 : 30 ≤ gE G
  · refine Or.inl ⟨4, tS t, by omega, ⟨ht.1, ht.2.1⟩, fun ν i hr hm => ?_, fun ν x hr hm => ?_⟩
    · refine ⟨cRf 4 (tS t) ν, frm cRf_fr (by simp), cRf_7.1, ?_, cRf_7.2.1, cRf_7.2.2⟩
      rw [hC ν i hr, jl_988, hm.2.2.1]
      simp (disch := omega) only [zI_lit, p_lt]
      rw [if_neg (by omega)]
      have := q_ref (k := 4) hr
      rw [this, z_b1, if_pos (by decide), z_b1, jl_967, if_pos rfl] <;> rfl
    · refine ⟨mBad L M t 4 ν, nfb, ?_, ?_, mBad_9.2⟩
      · have := q_bad (k := 4) h4 hr
        rw [hR ν x hr, jl_114, ld1 ν hm, z_bo]
        simp (disch := omega) only [p_eq, show (30 : Int32) = zI 30 from rfl]
        rw [if_pos (by omega), show (4 : Int32) = zI 4 from rfl, this, z_b1, if_pos (by decide), z_b1, jl_128, if_pos rfl] <;> rfl
      · rw [mBad_9.1, if_neg (by omega)]
  have hh := tok_h (T := T) (L := L) (M := M) ht.2.2.1 ht.2.2.2 hM.1
  have hrg := tok_r (T := T) (L := L) (M := M) ht.2.2.1 ht.2.2.2 hM.1
  have hC1 : ∀ ν (i : Int32), rdT T L M t ν → dC N G ν → aJ 964 [.ref 2, .ref 8, .int i] [] ν = ax_b1 (aJ 989 [.ref 2, .ref 8] [] ν) fun v4 μ3 => aJ 967 [.ref 2, .ref 8, .int i] [.int v4] μ3 := by
    intro ν i hr hm
    rw [hC ν i hr, jl_988, hm.2.2.1]
    simp (disch := omega) only [zI_lit, p_lt]
    rw [if_pos (by omega)]
  have hR1 : ∀ ν (x : Int32), rtM T L M t ν → dM N G ν → aJ 125 [.ref 207, .int x] [] ν = ax_b1 (aJ 115 [.ref 207, .int (zI (gE G))] [] ν) fun v4 μ3 => aJ 128 [.ref 207, .int x] [.int v4] μ3 := by
    intro ν x hr hm
    rw [hR ν x hr, jl_114, ld1 ν hm, z_bo]
    simp (disch := omega) only [p_eq, show (30 : Int32) = zI 30 from rfl]
    rw [if_neg (by omega)]
  generalize htt : tok T L M (tE t) = t1 at *
  -- the first node
  have hnd1 : ∀ ν, rdT T L M t ν → dC N G ν → _ := fun ν hr hm => q_cnd (x1 := 8) hT hM ht.2.2.1 ht.2.2.2 (Or.inr rfl) hN hm.1 hm.2.1 hr.1
  have m991 : ∀ (v : Int32) (ν : ax_M), aJ 991 [.ref 2, .ref 8, .int v] [.int (-1)] ν = some (some (.int 0), ν) := fun v ν => by rw [jl_991, if_pos rfl]
  by_cases c2 : tK t1 = 1 ∧ kw T t1 = -1
  case neg =>
    refine Or.inl ⟨1, tS t1, by omega, ⟨hrg.2.2.1, hrg.2.2.2.1⟩, fun ν i hr hm => ?_, fun ν x hr hm => ?_⟩
    · obtain ⟨ν1, a1, a2, a3, _, _⟩ := hnd1 ν hr hm
      rw [htt] at a3
      obtain ⟨b1, b2, b3⟩ := a3 c2
      refine ⟨ν1, frm a1 (by simp), a2, ?_, b2, b3⟩
      rw [hC1 ν i hr hm, jl_989, b1, z_b1, if_pos (by decide), m991, z_b1, jl_967, if_pos rfl]
    · obtain ⟨ν1, a1, a2, a3⟩ := q_gon hT hM ht.2.2.1 ht.2.2.2 (Or.inl hk) hr
      rw [htt] at a2
      refine ⟨mBad L M t1 1 ν1, nft (nfg a3) nfb, ?_, ?_, mBad_9.2⟩
      · have := q_bad (k := 1) hh.1 a2
        rw [hR1 ν x hr hm, jl_115, a1, z_b0, q_rnmd hh.1 hh.2 a2, z_b1, decide_eq_false c2, if_pos (by decide), show (1 : Int32) = zI 1 from rfl, this, z_b1, if_pos (by decide), z_b1, jl_128, if_pos rfl] <;> rfl
      · rw [mBad_9.1]
        split <;> rfl
  have hk1 := rk_w (L := L) (M := M) hh.1
  have hfr1 := fn_r (N := N) (T := T) (t := t1) h00
  have hR2 : ∀ ν (x : Int32), rtM T L M t ν → dM N G ν → ∃ ν1, aJ 125 [.ref 207, .int x] [] ν = (ax_b1 (aJ 116 [.ref 207, .int (zI (gE G))] [] ν1) fun v4 μ3 => aJ 128 [.ref 207, .int x] [.int v4] μ3) ∧ rtM T L M t1 ν1 ∧ dM N G ν1 ∧ gf ν ν1 ∧ aJ 100 [.ref 216, .int (zI N.1), .long (ν1.2 207 12)] [] ν1 = some (some (.int (zI (fn N T t1))), ν1) := by
    intro ν x hr hm
    obtain ⟨ν1, a1, a2, a3⟩ := q_gon hT hM ht.2.2.1 ht.2.2.2 (Or.inl hk) hr
    rw [htt] at a2
    have hm1 := dM_e a3.1 a3.2.2 hm
    refine ⟨ν1, ?_, a2, hm1, a3, ?_⟩
    · rw [hR1 ν x hr hm, jl_115, a1, z_b0, q_rnmd hh.1 hh.2 a2, z_b1, decide_eq_true c2, if_neg zB_t]
    · rw [a2.2.2.2.2.1 c2.1]
      exact q_fni hh.2 c2.1 (Or.inr rfl) hN hm1.2.2.2.2.1
  by_cases c3 : fn N T t1 = -1
  · refine Or.inl ⟨3, tS t1, by omega, ⟨hrg.2.2.1, hrg.2.2.2.1⟩, fun ν i hr hm => ?_, fun ν x hr hm => ?_⟩
    · obtain ⟨ν1, a1, a2, _, a3, _⟩ := hnd1 ν hr hm
      rw [htt] at a3
      obtain ⟨b1, b2, b3⟩ := a3 c2 c3
      refine ⟨ν1, frm a1 (by simp), a2, ?_, b2, b3⟩
      rw [hC1 ν i hr hm, jl_989, b1, z_b1, if_pos (by decide), m991, z_b1, jl_967, if_pos rfl]
    · obtain ⟨ν1, a1, a2, a3, a4, a5⟩ := hR2 ν x hr hm
      refine ⟨mBad L M t1 3 ν1, nft (nfg a4) nfb, ?_, ?_, mBad_9.2⟩
      · have := q_bad (k := 3) hh.1 a2
        rw [a1, jl_116, ld0 ν1 a3, z_bo, a5, z_b1]
        simp (disch := omega) only [p_eq, show (-1 : Int32) = zI (-1) from rfl]
        rw [if_pos c3, show (3 : Int32) = zI 3 from rfl, this, z_b1, if_pos (by decide), z_b1, jl_128, if_pos rfl] <;> rfl
      · rw [mBad_9.1, if_neg (by omega)]
  have ha : 0 ≤ fn N T t1 ∧ fn N T t1 < N.1 := by omega
  have hC3 : ∀ ν (i : Int32), rdT T L M t ν → dC N G ν → ∃ ν1, aJ 964 [.ref 2, .ref 8, .int i] [] ν = (ax_b1 (aJ 990 [.ref 2, .ref 8, .int (zI (fn N T t1))] [] ν1) fun v4 μ3 => aJ 967 [.ref 2, .ref 8, .int i] [.int v4] μ3) ∧ rdC T L M (tE t1) ν1 ∧ dC N G ν1 ∧ fr [2] ν ν1 ∧ ν1.1 2 7 = ν.1 2 7 ∧ ν1.1 2 8 = ν.1 2 8 ∧ ν1.1 2 9 = ν.1 2 9 := by
    intro ν i hr hm
    obtain ⟨ν1, a1, a2, _, _, a3⟩ := hnd1 ν hr hm
    rw [htt] at a3
    obtain ⟨b1, b2, b3, b4⟩ := a3 c2 c3
    refine ⟨ν1, ?_, b2, dC_fr a1 (by simp) hm, a1, a2, b3, b4⟩
    rw [hC1 ν i hr hm, jl_989, b1, z_b1]
    simp (disch := omega) only [p_eq, show (-1 : Int32) = zI (-1) from rfl]
    rw [if_neg c3]
  -- the second node
  have hh2 := tok_h (T := T) (L := L) (M := M) (p := tE t1) (by omega) (by omega) hM.1
  have hrg2 := tok_r (T := T) (L := L) (M := M) (p := tE t1) (by omega) (by omega) hM.1
  have hR3 : ∀ ν (x : Int32), rtM T L M t ν → dM N G ν → ∃ ν1, aJ 125 [.ref 207, .int x] [] ν = (ax_b1 (ax_b1 (aJ 80 [.ref 207] [] ν1) fun v3 μ2 => if v3 = 0 then ax_b1 (aJ 83 [.ref 207, .int 1] [] μ2) fun v5 μ4 => if v5 = 0 ∨ v5 = 1 then some (some (Value.int v5), μ4) else none else aJ 118 [.ref 207, .int (zI (gE G)), .int (zI (fn N T t1))] [] μ2) fun v4 μ3 => aJ 128 [.ref 207, .int x] [.int v4] μ3) ∧ rtM T L M (tok T L M (tE t1)) ν1 ∧ dM N G ν1 ∧ gf ν ν1 := by
    intro ν x hr hm
    obtain ⟨ν1, a1, a2, a3, a4, a5⟩ := hR2 ν x hr hm
    obtain ⟨ν2, b1, b2, b3⟩ := q_gon hT hM (by omega) hrg.2.1 (Or.inl c2.1) a2
    refine ⟨ν2, ?_, b2, dM_e b3.1 b3.2.2 a3, gft a4 b3⟩
    rw [a1, jl_116, ld0 ν1 a3, z_bo, a5, z_b1]
    simp (disch := omega) only [p_eq, show (-1 : Int32) = zI (-1) from rfl]
    rw [if_neg c3, jl_117, b1, z_b0]
  have hnd2 : ∀ ν1, rdC T L M (tE t1) ν1 → dC N G ν1 → _ := fun ν1 hr hm => q_cnd (x1 := 8) hT hM (by omega) hrg.2.1 (Or.inr rfl) hN hm.1 hm.2.1 hr
  generalize htt2 : tok T L M (tE t1) = t2 at *
  have hfr2 := fn_r (N := N) (T := T) (t := t2) h00
  have hk2 := rk_w (L := L) (M := M) hh2.1
  by_cases c4 : tK t2 = 1 ∧ kw T t2 = -1
  case neg =>
    refine Or.inl ⟨1, tS t2, by omega, ⟨hrg2.2.2.1, hrg2.2.2.2.1⟩, fun ν i hr hm => ?_, fun ν x hr hm => ?_⟩
    · obtain ⟨ν1, a1, a2, a3, a4, a5, _, _⟩ := hC3 ν i hr hm
      obtain ⟨ν2, b1, b2, b3, _, _⟩ := hnd2 ν1 a2 a3
      obtain ⟨d1, d2, d3⟩ := b3 c4
      refine ⟨ν2, frt (frm a4 (by simp)) (frm b1 (by simp)), b2.trans a5, ?_, d2, d3⟩
      rw [a1, jl_990, d1, z_b1, show zI (-1) = (-1 : Int32) from rfl, m991, z_b1, jl_967, if_pos rfl]
    · obtain ⟨ν1, a1, a2, a3, a4⟩ := hR3 ν x hr hm
      refine ⟨mBad L M t2 1 ν1, nft (nfg a4) nfb, ?_, ?_, mBad_9.2⟩
      · have := q_bad (k := 1) hh2.1 a2
        rw [a1, q_rnmd hh2.1 hh2.2 a2, z_b1, decide_eq_false c4, if_pos (by decide), show (1 : Int32) = zI 1 from rfl, this, z_b1, if_pos (by decide), z_b1, jl_128, if_pos rfl] <;> rfl
      · rw [mBad_9.1]
        split <;> rfl
  have hR4 : ∀ ν (x : Int32), rtM T L M t ν → dM N G ν → ∃ ν1, aJ 125 [.ref 207, .int x] [] ν = (ax_b1 (if fn N T t2 = -1 then aJ 119 [.ref 207] [] ν1 else if fn N T t2 = fn N T t1 then aJ 119 [.ref 207] [] ν1 else ax_b1 (aJ 108 [.ref 210, .int (zI (fn N T t1)), .int (zI (fn N T t2))] [] ν1) fun v5 μ4 => if v5 = (-1) then aJ 120 [.ref 207, .int (zI (gE G)), .int (zI (fn N T t1)), .int (zI (fn N T t2))] [] μ4 else aJ 119 [.ref 207] [] μ4) fun v4 μ3 => aJ 128 [.ref 207, .int x] [.int v4] μ3) ∧ rtM T L M t2 ν1 ∧ dM N G ν1 ∧ gf ν ν1 := by
    intro ν x hr hm
    obtain ⟨ν1, a1, a2, a3, a4⟩ := hR3 ν x hr hm
    refine ⟨ν1, ?_, a2, a3, a4⟩
    have hf : aJ 100 [.ref 216, .int (zI N.1), .long (ν1.2 207 12)] [] ν1 = some (some (.int (zI (fn N T t2))), ν1) := by
      rw [a2.2.2.2.2.1 c4.1]
      exact q_fni hh2.2 c4.1 (Or.inr rfl) hN a3.2.2.2.2.1
    rw [a1, q_rnmd hh2.1 hh2.2 a2, z_b1, decide_eq_true c4, if_neg zB_t, jl_118, ld0 ν1 a3, z_bo, hf, z_b1]
    congr 1
    rw [j_eq rfl (show (-1 : Int32) = zI (-1) from rfl) (zR_of (by omega)) (zR_of (by omega)), i_eq (zR_of (by omega)) (zR_of (by omega))]
  have hbad : ∀ ν1, rtM T L M t2 ν1 → aJ 119 [.ref 207] [] ν1 = some (some (.int 0), mBad L M t2 3 ν1) := fun ν1 hr => by
    have := q_bad (k := 3) hh2.1 hr
    rw [jl_119, show (3 : Int32) = zI 3 from rfl, this, z_b1, if_pos (by decide)]
  have hb9 : ∀ ν1, (mBad L M t2 3 ν1).1 207 9 = zI 3 := fun ν1 => by rw [mBad_9.1, if_neg (by omega)]
  by_cases c5 : fn N T t2 = -1
  · refine Or.inl ⟨3, tS t2, by omega, ⟨hrg2.2.2.1, hrg2.2.2.2.1⟩, fun ν i hr hm => ?_, fun ν x hr hm => ?_⟩
    · obtain ⟨ν1, a1, a2, a3, a4, a5, _, _⟩ := hC3 ν i hr hm
      obtain ⟨ν2, b1, b2, _, b3, _⟩ := hnd2 ν1 a2 a3
      obtain ⟨d1, d2, d3⟩ := b3 c4 c5
      refine ⟨ν2, frt (frm a4 (by simp)) (frm b1 (by simp)), b2.trans a5, ?_, d2, d3⟩
      rw [a1, jl_990, d1, z_b1, show zI (-1) = (-1 : Int32) from rfl, m991, z_b1, jl_967, if_pos rfl]
    · obtain ⟨ν1, a1, a2, a3, a4⟩ := hR4 ν x hr hm
      refine ⟨mBad L M t2 3 ν1, nft (nfg a4) nfb, ?_, hb9 ν1, mBad_9.2⟩
      rw [a1, if_pos c5, hbad ν1 a2, z_b1, jl_128, if_pos rfl]
  have hb : 0 ≤ fn N T t2 ∧ fn N T t2 < N.1 := by omega
  have h7 : 1 ≤ tE t2 - tS t2 := (hh2.2 c4.1).1
  -- the class stands behind both names; its start is the second name's
  have hC5 : ∀ ν (i : Int32), rdT T L M t ν → dC N G ν → ∃ ν1, aJ 964 [.ref 2, .ref 8, .int i] [] ν = (ax_b1 (aJ 992 [.ref 2, .ref 8, .int (zI (fn N T t1)), .int (zI (fn N T t2))] [] ν1) fun v4 μ3 => aJ 967 [.ref 2, .ref 8, .int i] [.int v4] μ3) ∧ rdC T L M (tE t2) ν1 ∧ ν1.1 2 5 = zI (tS t2) ∧ dC N G ν1 ∧ fr [2] ν ν1 ∧ ν1.1 2 7 = ν.1 2 7 ∧ ν1.1 2 8 = ν.1 2 8 ∧ ν1.1 2 9 = ν.1 2 9 := by
    intro ν i hr hm
    obtain ⟨ν1, a1, a2, a3, a4, a5, a6, a7⟩ := hC3 ν i hr hm
    obtain ⟨ν2, b1, b2, b3, b4, b5, b6⟩ := q_tk hT hM (by omega) hrg.2.1 a2
    rw [htt2] at b2
    have hnm := q_nmd hT ⟨hrg2.2.2.1, by omega, hrg2.2.1⟩ (hh2.2 c4.1).2.2 b2 (Or.inr rfl) hN (dC_fr b3 (by simp) a3).1 (dC_fr b3 (by simp) a3).2.1
    refine ⟨ν2, ?_, b2.1, b2.2.2.1, dC_fr b3 (by simp) a3, frt a4 b3, b4.trans a5, b5.trans a6, b6.trans a7⟩
    rw [a1, jl_990, jl_1016, b1, z_b0, q_inm hh2.1 b2, z_b1, decide_eq_true c4, if_neg zB_t, jl_1017, hnm, z_b1]
    have hne : ¬ zI (fn N T t2) = (-1 : Int32) := fun z => c5 ((zI_eq (b := -1) (zR_of (by omega)) (zR_of (by omega))).mp z)
    rw [if_neg hne, jl_1018, z_b1, jl_991, if_neg hne]
  have h981 : ∀ ν1, ν1.1 2 5 = zI (tS t2) → aJ 993 [.ref 2] [] ν1 = some (some (.int 0), cRf 3 (tS t2) ν1) := fun ν1 h5 => by
    rw [jl_993, jl_981, uD_nk (by decide), h5, z_b1, if_pos (Or.inl rfl)]
    rfl
  by_cases c6 : fn N T t1 = fn N T t2 ∨ jn G (fn N T t1) (fn N T t2)
  · refine Or.inl ⟨3, tS t2, by omega, ⟨hrg2.2.2.1, hrg2.2.2.2.1⟩, fun ν i hr hm => ?_, fun ν x hr hm => ?_⟩
    · obtain ⟨ν1, a1, a2, a3, a4, a5, a6, _, _⟩ := hC5 ν i hr hm
      refine ⟨cRf 3 (tS t2) ν1, frt (frm a5 (by simp)) (frm cRf_fr (by simp)), cRf_7.1.trans a6, ?_, cRf_7.2.1, cRf_7.2.2⟩
      have h992 : aJ 992 [.ref 2, .ref 8, .int (zI (fn N T t1)), .int (zI (fn N T t2))] [] ν1 = some (some (.int 0), cRf 3 (tS t2) ν1) := by
        rw [jl_992, i_eq (zR_of (by omega)) (zR_of (by omega))]
        by_cases z : fn N T t1 = fn N T t2
        · rw [if_pos z, h981 ν1 a3]
        · rcases c6 with q | q
          · exact absurd q z
          · rw [if_neg z, (q_joi hg a4 ⟨by omega, by omega⟩ ⟨by omega, by omega⟩).1 q, z_b1, if_neg (by decide), h981 ν1 a3]
      rw [a1, h992, z_b1, jl_967, if_pos rfl]
    · obtain ⟨ν1, a1, a2, a3, a4⟩ := hR4 ν x hr hm
      refine ⟨mBad L M t2 3 ν1, nft (nfg a4) nfb, ?_, hb9 ν1, mBad_9.2⟩
      rw [a1, if_neg c5]
      by_cases z : fn N T t2 = fn N T t1
      · rw [if_pos z, hbad ν1 a2, z_b1, jl_128, if_pos rfl]
      · rcases c6 with q | q
        · exact absurd q.symm z
        · obtain ⟨e, e0, e1, h108⟩ := (q_edi hg a3 ⟨by omega, by omega⟩ ⟨by omega, by omega⟩).1 q
          rw [if_neg z, h108, z_b1, j_eq rfl (show (-1 : Int32) = zI (-1) from rfl) (zR_of (by omega)) (zR_of (by omega)), if_neg (by omega), hbad ν1 a2, z_b1, jl_128, if_pos rfl]
  have hne : fn N T t1 ≠ fn N T t2 := fun z => c6 (Or.inl z)
  have hnj : ¬ jn G (fn N T t1) (fn N T t2) := fun z => c6 (Or.inr z)
  -- the weight
  have hh3 := tok_h (T := T) (L := L) (M := M) (p := tE t2) (by omega) (by omega) hM.1
  have hrg3 := tok_r (T := T) (L := L) (M := M) (p := tE t2) (by omega) (by omega) hM.1
  have hv3 : tK (tok T L M (tE t2)) = 2 → -3000 ≤ nv T (tok T L M (tE t2)) ∧ nv T (tok T L M (tE t2)) ≤ 3000 := fun z => nv_r hT (by omega) hrg2.2.1 hM.1 z
  have hC6 : ∀ ν (i : Int32), rdT T L M t ν → dC N G ν → ∃ ν1, aJ 964 [.ref 2, .ref 8, .int i] [] ν = (ax_b1 (aJ 994 [.ref 2, .ref 8, .int (zI (fn N T t1)), .int (zI (fn N T t2))] [] ν1) fun v4 μ3 => aJ 967 [.ref 2, .ref 8, .int i] [.int v4] μ3) ∧ rdC T L M (tE t2) ν1 ∧ dC N G ν1 ∧ fr [2] ν ν1 ∧ ν1.1 2 7 = ν.1 2 7 ∧ ν1.1 2 8 = ν.1 2 8 ∧ ν1.1 2 9 = ν.1 2 9 := by
    intro ν i hr hm
    obtain ⟨ν1, a1, a2, a3, a4, a5, a6, a7, a8⟩ := hC5 ν i hr hm
    refine ⟨ν1, ?_, a2, a4, a5, a6, a7, a8⟩
    rw [a1, jl_992, i_eq (zR_of (by omega)) (zR_of (by omega)), if_neg hne, (q_joi hg a4 ⟨by omega, by omega⟩ ⟨by omega, by omega⟩).2 hnj, z_b1, if_pos rfl]
  have hR6 : ∀ ν (x : Int32), rtM T L M t ν → dM N G ν → ∃ ν1, aJ 125 [.ref 207, .int x] [] ν = (ax_b1 (ax_b1 (aJ 86 [.ref 207, .int (zI 1), .int (zI 99)] [] ν1) fun v3 μ2 => if v3 = 0 then some (some (Value.int 0), μ2) else aJ 121 [.ref 207, .int (zI (gE G)), .int (zI (fn N T t1)), .int (zI (fn N T t2))] [] μ2) fun v4 μ3 => aJ 128 [.ref 207, .int x] [.int v4] μ3) ∧ rtM T L M (tok T L M (tE t2)) ν1 ∧ dM N G ν1 ∧ gf ν ν1 := by
    intro ν x hr hm
    obtain ⟨ν1, a1, a2, a3, a4⟩ := hR4 ν x hr hm
    obtain ⟨ν2, b1, b2, b3⟩ := q_gon hT hM (by omega) hrg2.2.1 (Or.inl c4.1) a2
    refine ⟨ν2, ?_, b2, dM_e b3.1 b3.2.2 a3, gft a4 b3⟩
    rw [a1, if_neg c5, if_neg (fun z => hne z.symm), (q_edi hg a3 ⟨by omega, by omega⟩ ⟨by omega, by omega⟩).2 hnj, z_b1, if_pos (by decide), jl_120, b1, z_b0]
    rfl
  by_cases c7 : tK (tok T L M (tE t2)) = 2
  case neg =>
    refine Or.inl ⟨1, tS (tok T L M (tE t2)), by omega, ⟨hrg3.2.2.1, hrg3.2.2.2.1⟩, fun ν i hr hm => ?_, fun ν x hr hm => ?_⟩
    · obtain ⟨ν1, a1, a2, a3, a4, a5, _, _⟩ := hC6 ν i hr hm
      obtain ⟨ν2, b1, b2, b3, _, _⟩ := q_cnu (a := 1) (b := 99) hT hM (by omega) hrg2.2.1 (by omega) (by omega) a2
      obtain ⟨d1, d2, d3⟩ := b3 c7
      refine ⟨ν2, frt (frm a4 (by simp)) (frm b1 (by simp)), b2.trans a5, ?_, d2, d3⟩
      rw [a1, jl_994, show aJ 1019 [.ref 2, .int 1, .int 99] [] ν1 = _ from d1, z_b1, if_pos (by decide), z_b1, jl_967, if_pos rfl]
    · obtain ⟨ν1, a1, a2, a3, a4⟩ := hR6 ν x hr hm
      obtain ⟨ν2, b1, _, _, b2, _, _⟩ := q_rnu (a := 1) (b := 99) hT hM (by omega) hrg3.2.1 hh3.1 (by omega) (by omega) hv3 a2
      obtain ⟨d1, d2, d3⟩ := b2 c7
      refine ⟨ν2, nft (nfg a4) b1, ?_, d2, d3⟩
      rw [a1, d1, z_b1, if_pos rfl, z_b1, jl_128, if_pos rfl]
  by_cases c8 : 1 ≤ nv T (tok T L M (tE t2)) ∧ nv T (tok T L M (tE t2)) ≤ 99
  case neg =>
    refine Or.inl ⟨2, tS (tok T L M (tE t2)), by omega, ⟨hrg3.2.2.1, hrg3.2.2.2.1⟩, fun ν i hr hm => ?_, fun ν x hr hm => ?_⟩
    · obtain ⟨ν1, a1, a2, a3, a4, a5, _, _⟩ := hC6 ν i hr hm
      obtain ⟨ν2, b1, b2, _, b3, _⟩ := q_cnu (a := 1) (b := 99) hT hM (by omega) hrg2.2.1 (by omega) (by omega) a2
      obtain ⟨d1, d2, d3⟩ := b3 c7 c8
      refine ⟨ν2, frt (frm a4 (by simp)) (frm b1 (by simp)), b2.trans a5, ?_, d2, d3⟩
      rw [a1, jl_994, show aJ 1019 [.ref 2, .int 1, .int 99] [] ν1 = _ from d1, z_b1, if_pos (by decide), z_b1, jl_967, if_pos rfl]
    · obtain ⟨ν1, a1, a2, a3, a4⟩ := hR6 ν x hr hm
      obtain ⟨ν2, b1, _, _, _, b2, _⟩ := q_rnu (a := 1) (b := 99) hT hM (by omega) hrg3.2.1 hh3.1 (by omega) (by omega) hv3 a2
      obtain ⟨d1, d2, d3⟩ := b2 c7 c8
      refine ⟨ν2, nft (nfg a4) b1, ?_, d2, d3⟩
      rw [a1, d1, z_b1, if_pos rfl, z_b1, jl_128, if_pos rfl]
  have hse3 := hrg3.2.2.2.2.2.2 (by omega)
  have hh4 := tok_h (T := T) (L := L) (M := M) (p := tE (tok T L M (tE t2))) (by omega) hrg3.2.1 hM.1
  have hrg4 := tok_r (T := T) (L := L) (M := M) (p := tE (tok T L M (tE t2))) (by omega) hrg3.2.1 hM.1
  have hC7 : ∀ ν (i : Int32), rdT T L M t ν → dC N G ν → ∃ ν1, aJ 964 [.ref 2, .ref 8, .int i] [] ν = (ax_b1 (ax_b1 (aJ 1012 [.ref 2] [] ν1) fun v3 μ2 => if v3 = 0 ∨ v3 = 1 then some (some (Value.int v3), μ2) else none) fun v4 μ3 => aJ 967 [.ref 2, .ref 8, .int i] [.int v4] μ3) ∧ rdC T L M (tE (tok T L M (tE t2))) ν1 ∧ dC N (eadd G (fn N T t1) (fn N T t2) (nv T (tok T L M (tE t2)))) ν1 ∧ fr [2, 8, 9, 10, 11, 12] ν ν1 ∧ ν1.1 2 7 = ν.1 2 7 ∧ ν1.1 2 8 = ν.1 2 8 ∧ ν1.1 2 9 = ν.1 2 9 := by
    intro ν i hr hm
    obtain ⟨ν1, a1, a2, a3, a4, a5, a6, a7⟩ := hC6 ν i hr hm
    obtain ⟨ν2, b1, b2, _, _, b3⟩ := q_cnu (a := 1) (b := 99) hT hM (by omega) hrg2.2.1 (by omega) (by omega) a2
    obtain ⟨d1, d2, d3, d4⟩ := b3 c7 c8
    obtain ⟨ν3, e1, e2, e3⟩ := q_aed (a := fn N T t1) (b := fn N T t2) (w := nv T (tok T L M (tE t2))) ⟨hE0, by omega⟩ (dC_fr b1 (by simp) a3)
    refine ⟨ν3, ?_, rdC_fr e3 (by decide) (by decide) d2, e2, frt (frm a4 (by simp)) (frt (frm b1 (by simp)) (frm e3 (by simp))), (fr_at e3 (by decide) 7).trans (b2.trans a5), (fr_at e3 (by decide) 8).trans (d3.trans a6), (fr_at e3 (by decide) 9).trans (d4.trans a7)⟩
    rw [a1, jl_994, show aJ 1019 [.ref 2, .int 1, .int 99] [] ν1 = _ from d1, z_b1, j_eq rfl (show (-1 : Int32) = zI (-1) from rfl) (zR_of (by omega)) (zR_of (by omega)), if_neg (by omega), jl_995, e1, z_b0]
  have hR7 : ∀ ν (x : Int32), rtM T L M t ν → dM N G ν → ∃ ν1, aJ 125 [.ref 207, .int x] [] ν = aJ 128 [.ref 207, .int x] [.int 1] ν1 ∧ rtM T L M (tok T L M (tE (tok T L M (tE t2)))) ν1 ∧ dM N (eadd G (fn N T t1) (fn N T t2) (nv T (tok T L M (tE t2)))) ν1 ∧ nfr ν ν1 ∧ ν1.1 207 9 = ν.1 207 9 := by
    intro ν x hr hm
    obtain ⟨ν1, a1, a2, a3, a4⟩ := hR6 ν x hr hm
    obtain ⟨ν2, b1, b1a, b1b, _, _, b2⟩ := q_rnu (a := 1) (b := 99) hT hM (by omega) hrg3.2.1 hh3.1 (by omega) (by omega) hv3 a2
    obtain ⟨d1, d2, d3, d4⟩ := b2 c7 c8
    have hm2 := dM_e b1a b1b a3
    obtain ⟨m1, m2, m3, m4, m5, m6, m7⟩ := hm2
    generalize hA : fn N T t1 = a at *
    generalize hB : fn N T t2 = b at *
    generalize hW : nv T (tok T L M (tE t2)) = w at *
    have s1 : ∀ μ : ax_M, ax_st ax_sh μ 210 (zI (2 + gE G)) (zI a) = some (ax_up μ.1 210 (2 + gE G).toNat (zI a), μ.2) := fun μ => z_st (len := 173) (by decide) (by omega) (by omega) (by decide)
    have s2 : ∀ μ : ax_M, ax_st ax_sh μ 210 (zI (32 + gE G)) (zI b) = some (ax_up μ.1 210 (32 + gE G).toNat (zI b), μ.2) := fun μ => z_st (len := 173) (by decide) (by omega) (by omega) (by decide)
    have s3 : ∀ μ : ax_M, ax_st ax_sh μ 219 (zI (gE G)) (zI w) = some (ax_up μ.1 219 (gE G).toNat (zI w), μ.2) := fun μ => z_st (len := 30) (by decide) (by omega) (by omega) (by decide)
    have s4 : ∀ μ : ax_M, ∀ y, ax_st ax_sh μ 210 (zI 1) y = some (ax_up μ.1 210 (1 : Int).toNat y, μ.2) := fun μ y => z_st (len := 173) (by decide) (by omega) (by omega) (by decide)
    have E := e4_w (f := ν2.1) (p := (2 + gE G).toNat) (q := (32 + gE G).toNat) (r := (gE G).toNat) (x := zI a) (y := zI b) (w := zI w) (v := zI (gE G + 1)) (by omega) (by omega)
    generalize hF : ax_up (ax_up (ax_up (ax_up ν2.1 210 (2 + gE G).toNat (zI a)) 210 (32 + gE G).toNat (zI b)) 219 (gE G).toNat (zI w)) 210 1 (zI (gE G + 1)) = F at E
    obtain ⟨E0, E1, E2, E3, E4, E5, E6, E7, E8⟩ := E
    refine ⟨(F, ν2.2), ?_, ?_, ⟨E0.trans m1, E1, fun e e0 e1 => ?_, fun e e0 e1 => ?_, ?_, fun e e0 e1 => ?_, fun j h1 h2 => (E4 j (by omega) (by omega) (by omega)).trans (m7 j h1 h2)⟩, ?_, ?_⟩
    · have l1 : ax_ld ax_sh ((ax_up (ax_up (ax_up ν2.1 210 (2 + gE G).toNat (zI a)) 210 (32 + gE G).toNat (zI b)) 219 (gE G).toNat (zI w), ν2.2) : ax_M) 210 (zI 1) = some (zI (gE G)) := by
        rw [z_ld (len := 173) (by decide) (by omega) (by decide) (by decide)]
        exact congrArg some (E8.trans m2)
      have e13 : (ax_up (ax_up ν2.1 210 (2 + gE G).toNat (zI a)) 210 (32 + gE G).toNat (zI b)) 207 13 = zI w := (up_ne (show 207 ≠ 210 by decide)).trans ((up_ne (show 207 ≠ 210 by decide)).trans d4)
      rw [a1, d1, z_b1, if_neg (by decide), jl_121]
      simp only [zI_lit, zI_add]
      rw [s1, z_bo, s2, z_bo]
      rw [show ((ax_up (ax_up ν2.1 210 (2 + gE G).toNat (zI a)) 210 (32 + gE G).toNat (zI b), ν2.2) : ax_M).1 207 13 = zI w from e13, s3, z_bo, l1, z_bo]
      simp only [zI_add]
      rw [s4, z_bo, z_b1, ← hF]
      rfl
    · obtain ⟨⟨q1, q2, q3⟩, q4, q5, q6, q7, q8⟩ := d2
      have e207 := fun j => E7 207 (by decide) (by decide) j
      exact ⟨⟨(e207 3).trans q1, (e207 4).trans q2, rP_e (funext fun j => E7 208 (by decide) (by decide) j) q3⟩, (e207 6).trans q4, (e207 7).trans q5, fun z => (e207 5).trans (q6 z), q7, fun z => (e207 8).trans (q8 z)⟩
    · show F 210 (2 + e).toNat = zI (pu (gfr G) (gE G) a e)
      by_cases q : e = gE G
      · rw [q, pu_at]
        exact E2
      · rw [pu_ne q]
        exact (E4 _ (by omega) (by omega) (by omega)).trans (m3 e e0 e1)
    · show F 210 (32 + e).toNat = zI (pu (gsc G) (gE G) b e)
      by_cases q : e = gE G
      · rw [q, pu_at]
        exact E3
      · rw [pu_ne q]
        exact (E4 _ (by omega) (by omega) (by omega)).trans (m4 e e0 e1)
    · exact m5
    · have e1' : e < gE G + 1 := e1
      show F 219 _ = zI (pu (gwt G) (gE G) w e)
      by_cases q : e = gE G
      · rw [q, pu_at]
        exact E5
      · rw [pu_ne q]
        exact (E6 _ (by omega)).trans (m6 e e0 (by omega))
    · exact nft (nfg a4) (nft b1 ⟨fun x h1 h2 h3 => funext fun j => E7 x h2 h3 j, fun k _ _ _ _ _ _ _ => E7 207 (by decide) (by decide) k, fun _ _ _ => rfl⟩)
    · exact (E7 207 (by decide) (by decide) 9).trans (d3.trans (a4.2.1 9 (by decide) (by decide) (by decide) (by decide)))
  by_cases c9 : tK (tok T L M (tE (tok T L M (tE t2)))) = 3
  · refine Or.inr ⟨N, eadd G (fn N T t1) (fn N T t2) (nv T (tok T L M (tE t2))), tE (tok T L M (tE (tok T L M (tE t2)))), dOK_ed hd (by omega) ha hb hne c8, by omega, hrg4.2.1, fun ν i hr hm => ?_, fun ν x hr hm => ?_⟩
    · obtain ⟨ν1, a1, a2, a3, a4, a5, a6, a7⟩ := hC7 ν i hr hm
      obtain ⟨ν2, b1, b2, b3, _⟩ := q_clo hT hM (by omega) hrg3.2.1 a2
      obtain ⟨b4, b5, b6, b7⟩ := b3 c9
      have f7 : fr [2] ν2 (ax_uD ν2 2 7 (ν2.1 2 7 + 1)) := fr_uD (by simp)
      refine ⟨ax_uD ν2 2 7 (ν2.1 2 7 + 1), frt a4 (frt (frm b1 (by simp)) (frm f7 (by simp))), ?_, ?_, ?_, ?_, rdC_k (by decide) b5, dC_fr f7 (by simp) (dC_fr b1 (by simp) a3)⟩
      · rw [a1, b4, z_b1, if_pos (Or.inr rfl), z_b1, jl_967, if_neg (by decide), jl_968]
      · rw [uD_at, b2, a5]
      · rw [uD_nk (by decide), b6, a6]
      · rw [uD_nk (by decide), b7, a7]
    · obtain ⟨ν1, a1, a2, a3, a4, a5⟩ := hR7 ν x hr hm
      obtain ⟨ν2, b1, b2, b3, b4, _⟩ := q_rne hT hM (by omega) hrg4.2.1 hh4.1 a2
      obtain ⟨b5, b6, b7⟩ := b4 c9
      refine ⟨ν2, nft a4 b1, ?_, b7.trans a5, b6, dM_e b2 b3 a3⟩
      rw [a1, jl_128, if_neg (by decide), b5, z_b1, if_neg (by decide)]
  · refine Or.inl ⟨1, tS (tok T L M (tE (tok T L M (tE t2)))), by omega, ⟨hrg4.2.2.1, hrg4.2.2.2.1⟩, fun ν i hr hm => ?_, fun ν x hr hm => ?_⟩
    · obtain ⟨ν1, a1, a2, a3, a4, a5, a6, a7⟩ := hC7 ν i hr hm
      obtain ⟨ν2, b1, b2, _, b3⟩ := q_clo hT hM (by omega) hrg3.2.1 a2
      obtain ⟨b4, b5, b6⟩ := b3 c9
      refine ⟨ν2, frt a4 (frm b1 (by simp)), b2.trans a5, ?_, b5, b6⟩
      rw [a1, b4, z_b1, if_pos (Or.inl rfl), z_b1, jl_967, if_pos rfl]
    · obtain ⟨ν1, a1, a2, a3, a4, a5⟩ := hR7 ν x hr hm
      obtain ⟨ν2, b1, b2, b3, _, b4⟩ := q_rne hT hM (by omega) hrg4.2.1 hh4.1 a2
      obtain ⟨b5, b6, b7⟩ := b4 c9
      refine ⟨ν2, nft a4 b1, ?_, b6, b7⟩
      rw [a1, jl_128, if_neg (by decide), b5, z_b1, if_pos rfl]
/-- a line that begins with neither word -/
theorem l_bd {T : Int → Int} {L M : Int} {t : Int × Int × Int} {N : qNm} {G : gG} (h4 : 0 ≤ tK t ∧ tK t ≤ 4) (htw : tWd T t) (hk : tK t ≠ 0) (c : ¬ (tK t = 1 ∧ kw T t = 19)) (d : ¬ (tK t = 1 ∧ kw T t = 20)) : CF T L M t N G 1 (tS t) ∧ RF T L M t N G 1 (tS t) := by
  obtain ⟨r2, r3, r4, r0, r1, rl, ru⟩ := rk_w (L := L) (M := M) h4
  refine ⟨fun ν i hr hm => ?_, fun ν x hr hm => ?_⟩
  · have q1 := q_iwd (w := 19) h4 hr (by omega) (by omega)
    have q2 := q_iwd (w := 20) h4 hr (by omega) (by omega)
    refine ⟨cRf 1 (tS t) ν, frm cRf_fr (by simp), cRf_7.1, ?_, cRf_7.2.1, cRf_7.2.2⟩
    rw [jl_964, show (19 : Int32) = zI 19 from rfl, q1, z_b1, decide_eq_false c, if_pos (by decide), jl_965, show (20 : Int32) = zI 20 from rfl, q2, z_b1, decide_eq_false d, if_pos (by decide), jl_966, show (1 : Int32) = zI 1 from rfl, q_ref hr, z_b1, jl_967, if_pos rfl]
  · have q1 := q_rwd (k := 8) h4 htw hr (by omega)
    have q2 := q_rwd (k := 9) h4 htw hr (by omega)
    refine ⟨mBad L M t 1 ν, nfb, ?_, ?_, mBad_9.2⟩
    · have h7 : ¬ zI (rkd L M t) = (0 : Int32) := fun z => by
        have := (zI_eq (b := 0) (zR_of (by omega)) (zR_of (by omega))).mp z
        exact hk (r0.mp this).1
      rw [jl_125, hr.2.2.1, if_neg h7, show (8 : Int32) = zI ((8 : Nat) : Int) from rfl, q1, z_b1, decide_eq_false (show ¬ (tK t = 1 ∧ kw T t = crw 8) from c), if_pos (show zB false = 0 by decide), jl_126, show (9 : Int32) = zI ((9 : Nat) : Int) from rfl, q2, z_b1, decide_eq_false (show ¬ (tK t = 1 ∧ kw T t = crw 9) from d), if_pos (show zB false = 0 by decide), jl_127, show (1 : Int32) = zI 1 from rfl, q_bad h4 hr, z_b1, jl_128, if_pos rfl]
    · rw [mBad_9.1]
      split <;> rfl
