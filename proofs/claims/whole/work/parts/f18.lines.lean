/-! o: a network's text, line by line -/
def nfS (ν ν' : ax_M) : Prop := (∀ a, a ≠ 207 → a ≠ 210 → a ≠ 219 → ν'.1 a = ν.1 a) ∧ (∀ k, k ≠ 5 → k ≠ 6 → k ≠ 7 → k ≠ 8 → k ≠ 9 → k ≠ 10 → k ≠ 11 → k ≠ 13 → ν'.1 207 k = ν.1 207 k) ∧ ∀ a, a ≠ 207 → a ≠ 216 → ν'.2 a = ν.2 a
theorem nfS_n {ν ν' : ax_M} (h : nfr ν ν') : nfS ν ν' := ⟨h.1, fun k a b c d e _ g i => h.2.1 k a b c d e g i, h.2.2⟩
theorem nfS_t {ν ν' ν'' : ax_M} (h : nfS ν ν') (h' : nfS ν' ν'') : nfS ν ν'' := ⟨fun a x y z => (h'.1 a x y z).trans (h.1 a x y z), fun k a b c d e f g i => (h'.2.1 k a b c d e f g i).trans (h.2.1 k a b c d e f g i), fun a x y => (h'.2.2 a x y).trans (h.2.2 a x y)⟩
theorem nfS_k {ν : ax_M} {x : Int32} : nfS ν (ax_uD ν 207 10 x) := ⟨fun a q _ _ => funext fun j => uD_ne q, fun j a b c d e f g i => uD_nk (by omega) 207, fun _ _ _ => rfl⟩
def nFail (T : Int → Int) (L M p i : Int) (N : qNm) (G : gG) (k pl n : Int) : Prop := (∀ ν, rdC T L M p ν → dC N G ν → ν.1 2 7 = zI i → ∃ ν', fr [2, 8, 9, 10, 11, 12] ν ν' ∧ aJ 960 [.ref 2, .ref 8, .int (zI i)] [] ν = some (some (.int 0), ν') ∧ ν'.1 2 7 = zI n ∧ ν'.1 2 8 = zI k ∧ ν'.1 2 9 = zI pl) ∧ (∀ ν, rtM T L M (tok T L M p) ν → dM N G ν → ∃ ν', nfS ν ν' ∧ aJ 125 [.ref 207, .int (zI i)] [] ν = some (some (.int (zI (-1 - pl))), ν') ∧ ν'.1 207 9 = zI k ∧ ν'.1 207 10 = zI n)
def nGood (T : Int → Int) (L M p i : Int) (N : qNm) (G : gG) (N' : qNm) (G' : gG) (n : Int) : Prop := (∀ ν, rdC T L M p ν → dC N G ν → ν.1 2 7 = zI i → ∃ ν', fr [2, 8, 9, 10, 11, 12] ν ν' ∧ aJ 960 [.ref 2, .ref 8, .int (zI i)] [] ν = some (some (.int 1), ν') ∧ ν'.1 2 7 = zI n ∧ ν'.1 2 8 = ν.1 2 8 ∧ dC N' G' ν') ∧ (∀ ν, rtM T L M (tok T L M p) ν → dM N G ν → ∃ ν', nfr ν ν' ∧ aJ 125 [.ref 207, .int (zI i)] [] ν = aJ 131 [.ref 207, .int (zI n)] [] ν' ∧ ν'.1 207 9 = ν.1 207 9 ∧ dM N' G' ν')
theorem q_flt {x pl : Int} {ν : ax_M} (h : ν.1 207 11 = zI pl) : aJ 129 [.ref 207, .int (zI x)] [] ν = some (some (.int (zI (-1 - pl))), ax_uD ν 207 10 (zI x)) := by
  rw [jl_129, jl_92, uD_nk (by decide), h, z_b1]
  simp only [show (-1 : Int32) = zI (-1) from rfl, zI_sub]
theorem l_all {T : Int → Int} {L M : Int} (hT : tBy T L) (hM : 0 ≤ M ∧ M ≤ 1000) : ∀ (m : Nat) (p i : Int) (N : qNm) (G : gG), 0 ≤ p → p ≤ L → L - p ≤ m → 0 ≤ i → i ≤ p → dOK N G → (∃ k pl n, (1 ≤ k ∧ k ≤ 4) ∧ (0 ≤ pl ∧ pl ≤ L) ∧ (0 ≤ n ∧ n ≤ 940) ∧ nFail T L M p i N G k pl n) ∨ ∃ N' G' n, dOK N' G' ∧ (0 ≤ n ∧ n ≤ 940) ∧ nGood T L M p i N G N' G' n := by
  intro m
  have hL := hT.2.1
  induction m with
  | zero =>
    intro p i N G p0 p1 pm i0 i1 hd
    have hh := tok_h (T := T) (L := L) (M := M) p0 p1 hM.1
    have hrg := tok_r (T := T) (L := L) (M := M) p0 p1 hM.1
    have h0 : tK (tok T L M p) = 0 := by
      have hs := sk_r (T := T) (L := L) (L - p).toNat p (by omega)
      unfold tok
      rw [if_pos (by rw [Int.min_def]; split <;> omega)]
      rfl
    obtain ⟨r2, r3, r4, r0, r1, rl, ru⟩ := rk_w (L := L) (M := M) hh.1
    by_cases c : L ≤ M
    · refine Or.inr ⟨N, G, i, hd, by omega, fun ν hr hm h7 => ?_, fun ν hr hm => ⟨ν, nfz, ?_, rfl, hm⟩⟩
      · obtain ⟨ν1, a1, a2, a3, a4, a5, a6⟩ := q_tk hT hM p0 p1 hr
        refine ⟨ν1, frm a3 (by simp), ?_, a4.trans h7, a5, dC_fr a3 (by simp) hm⟩
        rw [jl_960, a1, z_b0, a2.2.1, a2.1.1, a2.1.2.1]
        simp (disch := omega) only [zI_lit, p_lt, p_le, p_eq]
        rw [if_neg (by omega), if_pos h0, if_pos c, jl_961, jl_963, if_pos (Or.inr rfl)]
        simp only [zI_lit]
      · rw [jl_125, hr.2.2.1, if_pos (by rw [r0.mpr ⟨h0, c⟩]; rfl)]
    · refine Or.inl ⟨1, tS (tok T L M p), i, by omega, ⟨hrg.2.2.1, hrg.2.2.2.1⟩, by omega, fun ν hr hm h7 => ?_, fun ν hr hm => ?_⟩
      · obtain ⟨ν1, a1, a2, a3, a4, a5, a6⟩ := q_tk hT hM p0 p1 hr
        refine ⟨cRf 1 (tS (tok T L M p)) ν1, frt (frm a3 (by simp)) (frm cRf_fr (by simp)), ?_, cRf_7.1.trans (a4.trans h7), cRf_7.2.1, cRf_7.2.2⟩
        rw [jl_960, a1, z_b0, a2.2.1, a2.1.1, a2.1.2.1, show (1 : Int32) = zI 1 from rfl, q_ref a2, z_b1]
        simp (disch := omega) only [zI_lit, p_lt, p_le, p_eq]
        rw [if_neg (by omega), if_pos h0, if_neg c, if_pos trivial, jl_962, jl_963, if_pos (Or.inl rfl)]
        simp only [zI_lit]
      · have q1 := q_rwd (k := 8) hh.1 hh.2 hr (by omega)
        have q2 := q_rwd (k := 9) hh.1 hh.2 hr (by omega)
        have nk : ∀ w : Int, ¬ (tK (tok T L M p) = 1 ∧ kw T (tok T L M p) = w) := fun w z => by have := z.1; omega
        refine ⟨ax_uD (mBad L M (tok T L M p) 1 ν) 207 10 (zI i), nfS_t (nfS_n nfb) nfS_k, ?_, ?_, uD_at⟩
        · have h7 : ¬ zI (rkd L M (tok T L M p)) = (0 : Int32) := fun z => by
            have := (zI_eq (b := 0) (zR_of (by omega)) (zR_of (by omega))).mp z
            exact c (r0.mp this).2
          rw [jl_125, hr.2.2.1, if_neg h7, show (8 : Int32) = zI ((8 : Nat) : Int) from rfl, q1, z_b1, decide_eq_false (nk _), if_pos (show zB false = 0 by decide), jl_126, show (9 : Int32) = zI ((9 : Nat) : Int) from rfl, q2, z_b1, decide_eq_false (nk _), if_pos (show zB false = 0 by decide), jl_127, show (1 : Int32) = zI 1 from rfl, q_bad hh.1 hr, z_b1, jl_128, if_pos rfl, q_flt mBad_9.2]
        · rw [uD_nk (by decide), mBad_9.1]
          split <;> rfl
  | succ m ih =>
    intro p i N G p0 p1 pm i0 i1 hd
    have hh := tok_h (T := T) (L := L) (M := M) p0 p1 hM.1
    have hrg := tok_r (T := T) (L := L) (M := M) p0 p1 hM.1
    obtain ⟨r2, r3, r4, r0, r1, rl, ru⟩ := rk_w (L := L) (M := M) hh.1
    by_cases h0 : tK (tok T L M p) = 0
    · by_cases c : L ≤ M
      · refine Or.inr ⟨N, G, i, hd, by omega, fun ν hr hm h7 => ?_, fun ν hr hm => ⟨ν, nfz, ?_, rfl, hm⟩⟩
        · obtain ⟨ν1, a1, a2, a3, a4, a5, a6⟩ := q_tk hT hM p0 p1 hr
          refine ⟨ν1, frm a3 (by simp), ?_, a4.trans h7, a5, dC_fr a3 (by simp) hm⟩
          rw [jl_960, a1, z_b0, a2.2.1, a2.1.1, a2.1.2.1]
          simp (disch := omega) only [zI_lit, p_lt, p_le, p_eq]
          rw [if_neg (by omega), if_pos h0, if_pos c, jl_961, jl_963, if_pos (Or.inr rfl)]
          simp only [zI_lit]
        · rw [jl_125, hr.2.2.1, if_pos (by rw [r0.mpr ⟨h0, c⟩]; rfl)]
      · refine Or.inl ⟨1, tS (tok T L M p), i, by omega, ⟨hrg.2.2.1, hrg.2.2.2.1⟩, by omega, fun ν hr hm h7 => ?_, fun ν hr hm => ?_⟩
        · obtain ⟨ν1, a1, a2, a3, a4, a5, a6⟩ := q_tk hT hM p0 p1 hr
          refine ⟨cRf 1 (tS (tok T L M p)) ν1, frt (frm a3 (by simp)) (frm cRf_fr (by simp)), ?_, cRf_7.1.trans (a4.trans h7), cRf_7.2.1, cRf_7.2.2⟩
          rw [jl_960, a1, z_b0, a2.2.1, a2.1.1, a2.1.2.1, show (1 : Int32) = zI 1 from rfl, q_ref a2, z_b1]
          simp (disch := omega) only [zI_lit, p_lt, p_le, p_eq]
          rw [if_neg (by omega), if_pos h0, if_neg c, if_pos trivial, jl_962, jl_963, if_pos (Or.inl rfl)]
          simp only [zI_lit]
        · have q1 := q_rwd (k := 8) hh.1 hh.2 hr (by omega)
          have q2 := q_rwd (k := 9) hh.1 hh.2 hr (by omega)
          have nk : ∀ w : Int, ¬ (tK (tok T L M p) = 1 ∧ kw T (tok T L M p) = w) := fun w z => by have := z.1; omega
          refine ⟨ax_uD (mBad L M (tok T L M p) 1 ν) 207 10 (zI i), nfS_t (nfS_n nfb) nfS_k, ?_, ?_, uD_at⟩
          · have h7 : ¬ zI (rkd L M (tok T L M p)) = (0 : Int32) := fun z => by
              have := (zI_eq (b := 0) (zR_of (by omega)) (zR_of (by omega))).mp z
              exact c (r0.mp this).2
            rw [jl_125, hr.2.2.1, if_neg h7, show (8 : Int32) = zI ((8 : Nat) : Int) from rfl, q1, z_b1, decide_eq_false (nk _), if_pos (show zB false = 0 by decide), jl_126, show (9 : Int32) = zI ((9 : Nat) : Int) from rfl, q2, z_b1, decide_eq_false (nk _), if_pos (show zB false = 0 by decide), jl_127, show (1 : Int32) = zI 1 from rfl, q_bad hh.1 hr, z_b1, jl_128, if_pos rfl, q_flt mBad_9.2]
          · rw [uD_nk (by decide), mBad_9.1]
            split <;> rfl
    have hC : ∀ ν, rdC T L M p ν → dC N G ν → ν.1 2 7 = zI i → ∃ ν1, aJ 960 [.ref 2, .ref 8, .int (zI i)] [] ν = aJ 964 [.ref 2, .ref 8, .int (zI i)] [] ν1 ∧ rdT T L M (tok T L M p) ν1 ∧ dC N G ν1 ∧ fr [2, 8, 9, 10, 11, 12] ν ν1 ∧ ν1.1 2 7 = zI i ∧ ν1.1 2 8 = ν.1 2 8 := by
      intro ν hr hm h7
      obtain ⟨ν1, a1, a2, a3, a4, a5, a6⟩ := q_tk hT hM p0 p1 hr
      refine ⟨ν1, ?_, a2, dC_fr a3 (by simp) hm, frm a3 (by simp), a4.trans h7, a5⟩
      rw [jl_960, a1, z_b0, a2.2.1]
      simp (disch := omega) only [zI_lit, p_lt, p_le, p_eq]
      rw [if_neg (by omega), if_neg h0]
    have fail : ∀ k pl, (1 ≤ k ∧ k ≤ 4) → (0 ≤ pl ∧ pl ≤ L) → CF T L M (tok T L M p) N G k pl → RF T L M (tok T L M p) N G k pl → ∃ k pl n, (1 ≤ k ∧ k ≤ 4) ∧ (0 ≤ pl ∧ pl ≤ L) ∧ (0 ≤ n ∧ n ≤ 940) ∧ nFail T L M p i N G k pl n := by
      intro k pl hk hpl hc hr'
      refine ⟨k, pl, i, hk, hpl, by omega, fun ν hr hm h7 => ?_, fun ν hr hm => ?_⟩
      · obtain ⟨ν1, a1, a2, a3, a4, a5, a6⟩ := hC ν hr hm h7
        obtain ⟨ν2, b1, b2, b3, b4, b5⟩ := hc ν1 (zI i) a2 a3
        exact ⟨ν2, frt a4 b1, a1.trans b3, b2.trans a5, b4, b5⟩
      · obtain ⟨ν2, b1, b2, b3, b4⟩ := hr' ν (zI i) hr hm
        exact ⟨ax_uD ν2 207 10 (zI i), nfS_t (nfS_n b1) nfS_k, b2.trans (q_flt b4), (uD_nk (by decide) 207).trans b3, uD_at⟩
    have hrest : lRes T L M (tok T L M p) N G → tK (tok T L M p) = 1 → (∃ k pl n, (1 ≤ k ∧ k ≤ 4) ∧ (0 ≤ pl ∧ pl ≤ L) ∧ (0 ≤ n ∧ n ≤ 940) ∧ nFail T L M p i N G k pl n) ∨ ∃ N' G' n, dOK N' G' ∧ (0 ≤ n ∧ n ≤ 940) ∧ nGood T L M p i N G N' G' n := by
      intro hl hk1
      have h6 := hrg.2.2.2.2.2.1 h0
      have h7' := hrg.2.2.2.2.2.2 (Or.inl hk1)
      rcases hl with ⟨k, pl, hk, hpl, hc, hr'⟩ | ⟨N1, G1, p', hd1, hp1, hp2, hc, hr'⟩
      · exact Or.inl (fail k pl hk hpl hc hr')
      · rcases ih p' (i + 1) N1 G1 (by omega) hp2 (by omega) (by omega) (by omega) hd1 with ⟨k, pl, n, hk, hpl, hn, h1, h2⟩ | ⟨N2, G2, n, hd2, hn, h1, h2⟩
        · refine Or.inl ⟨k, pl, n, hk, hpl, hn, fun ν hr hm h7 => ?_, fun ν hr hm => ?_⟩
          · obtain ⟨ν1, a1, a2, a3, a4, a5, a6⟩ := hC ν hr hm h7
            obtain ⟨ν2, b1, b2, b3, b4, b5, b6, b7⟩ := hc ν1 (zI i) a2 a3
            obtain ⟨ν3, c1, c2, c3, c4, c5⟩ := h1 ν2 b6 b7 (by rw [b3, a5, zI_a1])
            refine ⟨ν3, frt a4 (frt b1 c1), ?_, c3, c4, c5⟩
            rw [a1, b2, zI_a1, c2]
          · obtain ⟨ν2, b1, b2, b3, b4, b5⟩ := hr' ν (zI i) hr hm
            obtain ⟨ν3, c1, c2, c3, c4⟩ := h2 ν2 b4 b5
            refine ⟨ν3, nfS_t (nfS_n b1) c1, ?_, c3, c4⟩
            rw [b2, jl_130, show zI i + 1 = zI (i + 1) from zI_a1 i, c2]
        · refine Or.inr ⟨N2, G2, n, hd2, hn, fun ν hr hm h7 => ?_, fun ν hr hm => ?_⟩
          · obtain ⟨ν1, a1, a2, a3, a4, a5, a6⟩ := hC ν hr hm h7
            obtain ⟨ν2, b1, b2, b3, b4, b5, b6, b7⟩ := hc ν1 (zI i) a2 a3
            obtain ⟨ν3, c1, c2, c3, c4, c5⟩ := h1 ν2 b6 b7 (by rw [b3, a5, zI_a1])
            refine ⟨ν3, frt a4 (frt b1 c1), ?_, c3, c4.trans (b4.trans a6), c5⟩
            rw [a1, b2, zI_a1, c2]
          · obtain ⟨ν2, b1, b2, b3, b4, b5⟩ := hr' ν (zI i) hr hm
            obtain ⟨ν3, c1, c2, c3, c4⟩ := h2 ν2 b4 b5
            refine ⟨ν3, nft b1 c1, ?_, c3.trans b3, c4⟩
            rw [b2, jl_130, show zI i + 1 = zI (i + 1) from zI_a1 i, c2]
    have htb : 0 ≤ tS (tok T L M p) ∧ tS (tok T L M p) ≤ L ∧ 0 ≤ tE (tok T L M p) ∧ tE (tok T L M p) ≤ L := by omega
    by_cases c : tK (tok T L M p) = 1 ∧ kw T (tok T L M p) = 19
    · exact hrest (l_nd hT hM hh.1 hh.2 c.1 c.2 htb hd) c.1
    by_cases d : tK (tok T L M p) = 1 ∧ kw T (tok T L M p) = 20
    · exact hrest (l_ed hT hM hh.1 hh.2 d.1 d.2 htb hd) d.1
    obtain ⟨f1, f2⟩ := l_bd (N := N) (G := G) hh.1 hh.2 h0 c d
    exact Or.inl (fail 1 _ (by omega) ⟨htb.1, htb.2.1⟩ f1 f2)
