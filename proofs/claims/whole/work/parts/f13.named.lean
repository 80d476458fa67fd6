/-! o: which node a token names -/
def nmE (N : qNm) (T : Int → Int) (t : Int × Int × Int) (n : Int) : Prop := N.2.1 n = tE t - tS t ∧ ∀ i : Int, 0 ≤ i → i < tE t - tS t → N.2.2 n i = T (tS t + i)
noncomputable def fnR (N : qNm) (T : Int → Int) (t : Int × Int × Int) : Nat → Int
  | 0 => -1
  | m + 1 => @ite Int (nmE N T t (N.1 - (m + 1 : Nat))) (Classical.propDecidable _) (N.1 - (m + 1 : Nat)) (fnR N T t m)
noncomputable def fn (N : qNm) (T : Int → Int) (t : Int × Int × Int) : Int := fnR N T t N.1.toNat
theorem fnR_r {N : qNm} {T : Int → Int} {t : Int × Int × Int} : ∀ m : Nat, (m : Int) ≤ N.1 → -1 ≤ fnR N T t m ∧ (fnR N T t m < N.1 ∨ fnR N T t m = -1) := by
  intro m
  induction m with
  | zero => exact fun _ => ⟨Int.le_refl _, Or.inr rfl⟩
  | succ m ih =>
    intro hm
    have e : fnR N T t (m + 1) = @ite Int (nmE N T t (N.1 - (m + 1 : Nat))) (Classical.propDecidable _) (N.1 - (m + 1 : Nat)) (fnR N T t m) := rfl
    by_cases c : nmE N T t (N.1 - (m + 1 : Nat))
    · rw [if_pos c] at e
      rw [e]
      omega
    · rw [if_neg c] at e
      rw [e]
      exact ih (by omega)
theorem fn_r {N : qNm} {T : Int → Int} {t : Int × Int × Int} (h : 0 ≤ N.1) : -1 ≤ fn N T t ∧ (fn N T t < N.1 ∨ fn N T t = -1) := fnR_r _ (by omega)
/-- the class has read a token -/
def rdT (T : Int → Int) (L M : Int) (t : Int × Int × Int) (ν : ax_M) : Prop := rdC T L M (tE t) ν ∧ ν.1 2 4 = zI (tK t) ∧ ν.1 2 5 = zI (tS t) ∧ (tK t = 1 → ν.1 2 6 = zI (kw T t)) ∧ (tK t = 2 → ν.1 2 6 = zI (nv T t))
theorem rdT_fr {T : Int → Int} {L M : Int} {t : Int × Int × Int} {l : List Nat} {ν ν' : ax_M} (h : fr l ν ν') (h1 : 1 ∉ l) (h2 : 2 ∉ l) (hr : rdT T L M t ν) : rdT T L M t ν' := by
  obtain ⟨⟨a, b, c, d⟩, e, f, g, i⟩ := hr
  have k := fr_at h h2
  exact ⟨⟨(k 1).trans a, (k 2).trans b, (k 3).trans c, rP_e (h.2 1 h1) d⟩, (k 4).trans e, (k 5).trans f, fun q => (k 6).trans (g q), fun q => (k 6).trans (i q)⟩
theorem q_at5 {x1 : Nat} {N : qNm} {n : Int} {ν : ax_M} (hx : x1 = 3 ∨ x1 = 8) (hN : nOK N) (hc : cNm x1 N ν) (n0 : 0 ≤ n) (n1 : n < N.1) : aJ 846 [.ref (x1 + 2), .int (zI n)] [] ν = some (some (.int (zI (N.2.1 n))), ν) := by
  have hs : (ax_sh (x1 + 2)).1 = 1 ∧ (ax_sh (x1 + 2)).2.1 = 12 := by rcases hx with rfl | rfl <;> decide
  have := hN.2.1
  rw [c_at hs (by omega) n0 (by omega), (hc n n0 n1).1]
theorem q_949g {x1 : Nat} {N : qNm} {n i : Int} {ν : ax_M} (hx : x1 = 3 ∨ x1 = 8) (hN : nOK N) (hc : cNm x1 N ν) (n0 : 0 ≤ n) (n1 : n < N.1) (i0 : 0 ≤ i) (i1 : i < N.2.1 n) : aJ 949 [.ref x1, .int (zI n), .int (zI i)] [] ν = some (some (.int (zI (N.2.2 n i))), ν) := by
  have hs : (ax_sh (x1 + 1)).1 = 2 ∧ (ax_sh (x1 + 1)).2.1 = 84 := by rcases hx with rfl | rfl <;> decide
  have hl : Int32.ofNat (ax_sh (x1 + 1)).2.1 = zI 84 := by rw [hs.2]; decide
  have h12 := hN.2.1
  have h7 := (hN.2.2 n n0 n1).1
  have h8 : ax_ld8 ax_sh ν (x1 + 1) (zI (n * 7 + i)) = some (ν.1 (x1 + 1) (n * 7 + i).toNat) := ld8_at (len := 84) ⟨Or.inl hs.1, hs.2⟩ (by omega) (by omega) (by decide)
  rw [jl_949 x1 _ _ _ hx, hl, if_pos (show 1 ≤ (ax_sh (x1 + 1)).1 ∧ (ax_sh (x1 + 1)).1 ≤ 6 by rw [hs.1]; decide)]
  simp only [zI_lit, zI_mul, zI_add]
  rw [if_neg (fun q => by
    have := (zI_lt (zR_of (by omega)) (zR_of (by omega))).mp q
    omega), if_neg (fun q => by
    have := (zI_le (zR_of (by omega)) (zR_of (by omega))).mp q
    omega), h8, z_bo, jl_951, (hc n n0 n1).2 i i0 i1]
theorem q_nmi {T : Int → Int} {L M : Int} {t : Int × Int × Int} {x1 : Nat} {N : qNm} {n : Int} {ν : ax_M} (hT : tBy T L) (ht : 0 ≤ tS t ∧ tS t ≤ tE t ∧ tE t ≤ L) (htl : ∀ i : Int, 0 ≤ i → i < tE t - tS t → 97 ≤ T (tS t + i) ∧ T (tS t + i) ≤ 122) (hr : rdT T L M t ν) (hx : x1 = 3 ∨ x1 = 8) (hN : nOK N) (hc : cNm x1 N ν) (n0 : 0 ≤ n) (n1 : n < N.1) (hn : N.2.1 n = tE t - tS t) : ∀ (m : Nat) (j : Int), 0 ≤ j → j + m = tE t - tS t → ((∀ i, j ≤ i → i < tE t - tS t → N.2.2 n i = T (tS t + i)) → aJ 1039 [.ref 2, .ref x1, .int (zI n), .int 1, .int (zI j)] [] ν = some (some (.int (zI n)), ν)) ∧ (¬ (∀ i, j ≤ i → i < tE t - tS t → N.2.2 n i = T (tS t + i)) → aJ 1039 [.ref 2, .ref x1, .int (zI n), .int 1, .int (zI j)] [] ν = aJ 1036 [.ref 2, .ref x1, .int (zI (n + 1))] [] ν) := by
  have hL := hT.2.1
  have hne : (1 : Int32) ≠ 0 := by decide
  intro m
  induction m with
  | zero =>
    intro j j0 jm
    constructor
    · intro _
      rw [jl_1039 _ _ _ _ _ hx, if_neg hne, hr.1.2.2.1, hr.2.2.1, zI_sub]
      simp (disch := omega) only [p_le]
      rw [if_pos (by omega), jl_1042, if_neg hne]
    · intro q
      exact absurd (fun i i0 i1 => by omega) q
  | succ m ih =>
    intro j j0 jm
    obtain ⟨ih1, ih2⟩ := ih (j + 1) (by omega) (by omega)
    have hlj := htl j j0 (by omega)
    have hsig := q_sig hT hr.1 (i := tS t + j) (by omega) (by omega)
    have hsb : sby (T (tS t + j)) = T (tS t + j) := by
      unfold sby
      rw [if_pos (by omega)]
    have hwj := (hN.2.2 n n0 n1).2 j j0 (by omega)
    have step : aJ 1039 [.ref 2, .ref x1, .int (zI n), .int 1, .int (zI j)] [] ν = if N.2.2 n j = T (tS t + j) then aJ 1039 [.ref 2, .ref x1, .int (zI n), .int 1, .int (zI (j + 1))] [] ν else aJ 1036 [.ref 2, .ref x1, .int (zI (n + 1))] [] ν := by
      rw [jl_1039 _ _ _ _ _ hx, if_neg hne, hr.1.2.2.1, hr.2.2.1, zI_sub, q_949g hx hN hc n0 n1 j0 (by omega), z_b1, hr.2.2.1, zI_add, hsig, z_b1, hsb]
      simp (disch := omega) only [p_le, p_eq]
      rw [if_neg (by omega)]
      by_cases c : N.2.2 n j = T (tS t + j)
      · rw [if_pos c, if_pos c, jl_1041, show zI j + 1 = zI (j + 1) from zI_a1 j]
      · rw [if_neg c, if_neg c, jl_1040, jl_1041, jl_1039 _ _ _ _ _ hx, if_pos rfl, jl_1042, if_pos rfl, jl_1043, show zI n + 1 = zI (n + 1) from zI_a1 n]
    constructor
    · intro q
      rw [step, if_pos (q j (by omega) (by omega))]
      exact ih1 (fun i i0 i1 => q i (by omega) i1)
    · intro q
      rw [step]
      by_cases c : N.2.2 n j = T (tS t + j)
      · rw [if_pos c]
        refine ih2 (fun z => q (fun i i0 i1 => ?_))
        by_cases d : i = j
        · rw [d]; exact c
        · exact z i (by omega) i1
      · rw [if_neg c]
/-- the class looks a name up -/
theorem q_nmd {T : Int → Int} {L M : Int} {t : Int × Int × Int} {x1 : Nat} {N : qNm} {ν : ax_M} (hT : tBy T L) (ht : 0 ≤ tS t ∧ tS t ≤ tE t ∧ tE t ≤ L) (htl : ∀ i : Int, 0 ≤ i → i < tE t - tS t → 97 ≤ T (tS t + i) ∧ T (tS t + i) ≤ 122) (hr : rdT T L M t ν) (hx : x1 = 3 ∨ x1 = 8) (hN : nOK N) (hc : cNm x1 N ν) (h0 : ν.1 x1 0 = zI N.1) : aJ 1035 [.ref 2, .ref x1] [] ν = some (some (.int (zI (fn N T t))), ν) := by
  have h12 := hN.2.1
  have h00 := hN.1
  have hL := hT.2.1
  have key : ∀ m : Nat, (m : Int) ≤ N.1 → aJ 1036 [.ref 2, .ref x1, .int (zI (N.1 - m))] [] ν = some (some (.int (zI (fnR N T t m))), ν) := by
    intro m
    induction m with
    | zero =>
      intro _
      rw [jl_1036 _ _ _ hx, h0]
      simp (disch := omega) only [p_le]
      rw [if_pos (by omega), jl_1044]
      rfl
    | succ m ih =>
      intro hm
      have ih' := ih (by omega)
      have e : fnR N T t (m + 1) = @ite Int (nmE N T t (N.1 - (m + 1 : Nat))) (Classical.propDecidable _) (N.1 - (m + 1 : Nat)) (fnR N T t m) := rfl
      have n0 : 0 ≤ N.1 - (m + 1 : Nat) := by omega
      have n1 : N.1 - (m + 1 : Nat) < N.1 := by omega
      have es : N.1 - ((m + 1 : Nat) : Int) + 1 = N.1 - m := by omega
      have h7 := (hN.2.2 _ n0 n1).1
      generalize hn : N.1 - ((m + 1 : Nat) : Int) = n at *
      rw [jl_1036 _ _ _ hx, h0, q_at5 hx hN hc n0 n1, z_b1, hr.1.2.2.1, hr.2.2.1, zI_sub]
      simp (disch := omega) only [p_le, p_eq]
      rw [if_neg (by omega)]
      by_cases c : N.2.1 n = tE t - tS t
      · rw [if_pos c, jl_1038]
        obtain ⟨a, b⟩ := q_nmi hT ht htl hr hx hN hc n0 n1 c (tE t - tS t).toNat 0 (by omega) (by omega)
        by_cases d : nmE N T t n
        · rw [if_pos d] at e
          rw [e]
          exact a (fun i i0 i1 => d.2 i i0 i1)
        · rw [if_neg d] at e
          rw [e, ← ih', ← es]
          exact b (fun z => d ⟨c, fun i i0 i1 => z i i0 i1⟩)
      · have d : ¬ nmE N T t n := fun z => c z.1
        rw [if_neg d] at e
        rw [if_neg c, jl_1037, jl_1038, jl_1039 _ _ _ _ _ hx, if_pos rfl, jl_1042, if_pos rfl, jl_1043, show zI n + 1 = zI (n + 1) from zI_a1 n, es, e, ih']
  have h := key N.1.toNat (by omega)
  rw [show N.1 - (N.1.toNat : Int) = 0 by omega] at h
  rw [jl_1035]
  exact h
/-- the reference does -/
theorem q_fni {T : Int → Int} {t : Int × Int × Int} {x0 : Nat} {N : qNm} {ν : ax_M} (ht : tWd T t) (hk : tK t = 1) (hx : x0 = 215 ∨ x0 = 216) (hN : nOK N) (hc : rNm x0 0 N ν) : aJ 100 [.ref x0, .int (zI N.1), .long (tcd T t)] [] ν = some (some (.int (zI (fn N T t))), ν) := by
  have h12 := hN.2.1
  have h00 := hN.1
  have hs : (ax_sh x0).1 = 4 ∧ (ax_sh x0).2.1 = 12 := by rcases hx with rfl | rfl <;> decide
  have key : ∀ m : Nat, (m : Int) ≤ N.1 → aJ 101 [.ref x0, .int (zI N.1), .long (tcd T t), .int (zI (N.1 - m))] [] ν = some (some (.int (zI (fnR N T t m))), ν) := by
    intro m
    induction m with
    | zero =>
      intro _
      rw [jl_101]
      simp (disch := omega) only [p_le]
      rw [if_pos (by omega), jl_103]
      rfl
    | succ m ih =>
      intro hm
      have ih' := ih (by omega)
      have e : fnR N T t (m + 1) = @ite Int (nmE N T t (N.1 - (m + 1 : Nat))) (Classical.propDecidable _) (N.1 - (m + 1 : Nat)) (fnR N T t m) := rfl
      have n0 : 0 ≤ N.1 - (m + 1 : Nat) := by omega
      have n1 : N.1 - (m + 1 : Nat) < N.1 := by omega
      have es : N.1 - ((m + 1 : Nat) : Int) + 1 = N.1 - m := by omega
      have h7 := hN.2.2 _ n0 n1
      generalize hn : N.1 - ((m + 1 : Nat) : Int) = n at *
      have hl := hc n n0 n1
      rw [show (0 : Int) + n = n by omega] at hl
      have hq : lg_cmp (zL (qen (N.2.2 n) (N.2.1 n).toNat)) (tcd T t) = 0 ↔ nmE N T t n := by
        rw [cmp0, eq_comm, cd_eq ht hk (by omega) (fun i i0 i1 => h7.2 i i0 (by omega))]
        unfold nmE
        constructor
        · rintro ⟨a, b⟩
          exact ⟨by omega, b⟩
        · rintro ⟨a, b⟩
          exact ⟨by omega, b⟩
      rw [jl_101, z_ldl hs n0 (by omega) (by decide), z_bo, hl, show Int64.ofInt (qen (N.2.2 n) (N.2.1 n).toNat) = zL (qen (N.2.2 n) (N.2.1 n).toNat) from rfl]
      simp (disch := omega) only [p_le]
      rw [if_neg (by omega)]
      by_cases d : nmE N T t n
      · rw [if_pos d] at e
        rw [if_pos (hq.mpr d), e]
      · rw [if_neg d] at e
        rw [if_neg (fun z => d (hq.mp z)), jl_102, show zI n + 1 = zI (n + 1) from zI_a1 n, es, e, ih']
  have h := key N.1.toNat (by omega)
  rw [show N.1 - (N.1.toNat : Int) = 0 by omega] at h
  rw [jl_100]
  exact h
/-! o: the class's small methods -/
def cRf (k pl : Int) (ν : ax_M) : ax_M := ax_uD (ax_uD ν 2 8 (zI k)) 2 9 (zI pl)
theorem q_ref {T : Int → Int} {L M k : Int} {t : Int × Int × Int} {ν : ax_M} (hr : rdT T L M t ν) : aJ 981 [.ref 2, .int (zI k)] [] ν = some (some (.int 0), cRf k (tS t) ν) := by
  rw [jl_981, uD_nk (by decide), hr.2.2.1]
  rfl
theorem q_ref' {T : Int → Int} {L M k : Int} {t : Int × Int × Int} {ν : ax_M} (hr : rdT T L M t ν) : (ax_b1 (aJ 981 [.ref 2, .int (zI k)] [] ν) fun v2 μ1 => if v2 = 0 ∨ v2 = 1 then some (some (Value.int v2), μ1) else none) = some (some (.int 0), cRf k (tS t) ν) := by
  rw [q_ref hr, z_b1, if_pos (Or.inl rfl)]
theorem q_iwd {T : Int → Int} {L M w : Int} {t : Int × Int × Int} {ν : ax_M} (h4 : 0 ≤ tK t ∧ tK t ≤ 4) (hr : rdT T L M t ν) (w0 : -1 ≤ w) (w1 : w ≤ 100) : aJ 1023 [.ref 2, .int (zI w)] [] ν = some (some (.int (zB (decide (tK t = 1 ∧ kw T t = w)))), ν) := by
  have hkr := kw_r (T := T) (t := t)
  rw [jl_1023, hr.2.1]
  simp (disch := omega) only [zI_lit, p_eq]
  by_cases c : tK t = 1
  · rw [if_pos c, hr.2.2.2.1 c]
    simp (disch := omega) only [p_eq]
    by_cases d : kw T t = w
    · rw [if_pos d, jl_1025, if_pos (by decide), decide_eq_true ⟨c, d⟩]
      rfl
    · rw [if_neg d, jl_1024, jl_1025, if_pos (Or.inl rfl), decide_eq_false (fun z => d z.2)]
      rfl
  · rw [if_neg c, jl_1024, jl_1025, if_pos (Or.inl rfl), decide_eq_false (fun z => c z.1)]
    rfl
theorem q_inm {T : Int → Int} {L M : Int} {t : Int × Int × Int} {ν : ax_M} (h4 : 0 ≤ tK t ∧ tK t ≤ 4) (hr : rdT T L M t ν) : aJ 1026 [.ref 2] [] ν = some (some (.int (zB (decide (tK t = 1 ∧ kw T t = -1)))), ν) := by
  have hkr := kw_r (T := T) (t := t)
  rw [jl_1026, hr.2.1]
  simp (disch := omega) only [zI_lit, p_eq]
  by_cases c : tK t = 1
  · rw [if_pos c, hr.2.2.2.1 c]
    simp (disch := omega) only [zI_neg, p_eq]
    by_cases d : kw T t = -1
    · rw [if_pos d, jl_1028, if_pos (by decide), decide_eq_true ⟨c, d⟩]
      rfl
    · rw [if_neg d, jl_1027, jl_1028, if_pos (Or.inl rfl), decide_eq_false (fun z => d z.2)]
      rfl
  · rw [if_neg c, jl_1027, jl_1028, if_pos (Or.inl rfl), decide_eq_false (fun z => c z.1)]
    rfl
theorem q_ipt {T : Int → Int} {L M : Int} {t : Int × Int × Int} {ν : ax_M} (h4 : 0 ≤ tK t ∧ tK t ≤ 4) (hr : rdT T L M t ν) : aJ 1029 [.ref 2] [] ν = some (some (.int (zB (decide (tK t = 1 ∧ 0 ≤ kw T t ∧ kw T t ≤ 7)))), ν) := by
  have hkr := kw_r (T := T) (t := t)
  rw [jl_1029, hr.2.1]
  simp (disch := omega) only [zI_lit, p_eq]
  by_cases c : tK t = 1
  · rw [if_pos c, hr.2.2.2.1 c]
    simp (disch := omega) only [p_lt]
    by_cases d : kw T t < 0
    · rw [if_pos d, jl_1030, jl_1031, if_pos (Or.inl rfl), decide_eq_false (fun z => by omega)]
      rfl
    · rw [if_neg d]
      by_cases e : 7 < kw T t
      · rw [if_pos e, jl_1030, jl_1031, if_pos (Or.inl rfl), decide_eq_false (fun z => by omega)]
        rfl
      · rw [if_neg e, jl_1031, if_pos (by decide), decide_eq_true (by omega)]
        rfl
  · rw [if_neg c, jl_1030, jl_1031, if_pos (Or.inl rfl), decide_eq_false (fun z => c z.1)]
    rfl
theorem q_isr {T : Int → Int} {L M : Int} {t : Int × Int × Int} {ν : ax_M} (h4 : 0 ≤ tK t ∧ tK t ≤ 4) (hr : rdT T L M t ν) : aJ 1032 [.ref 2] [] ν = some (some (.int (zB (decide (tK t = 1 ∧ 8 ≤ kw T t ∧ kw T t ≤ 13)))), ν) := by
  have hkr := kw_r (T := T) (t := t)
  rw [jl_1032, hr.2.1]
  simp (disch := omega) only [zI_lit, p_eq]
  by_cases c : tK t = 1
  · rw [if_pos c, hr.2.2.2.1 c]
    simp (disch := omega) only [p_lt]
    by_cases d : kw T t < 8
    · rw [if_pos d, jl_1033, jl_1034, if_pos (Or.inl rfl), decide_eq_false (fun z => by omega)]
      rfl
    · rw [if_neg d]
      by_cases e : 13 < kw T t
      · rw [if_pos e, jl_1033, jl_1034, if_pos (Or.inl rfl), decide_eq_false (fun z => by omega)]
        rfl
      · rw [if_neg e, jl_1034, if_pos (by decide), decide_eq_true (by omega)]
        rfl
  · rw [if_neg c, jl_1033, jl_1034, if_pos (Or.inl rfl), decide_eq_false (fun z => c z.1)]
    rfl
