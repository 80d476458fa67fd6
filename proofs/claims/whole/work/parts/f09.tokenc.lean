/-! o: the class reads a token -/
def tBy (T : Int → Int) (L : Int) : Prop := 0 ≤ L ∧ L ≤ 940 ∧ ∀ i, 0 ≤ i → i < L → 0 ≤ T i ∧ T i ≤ 255
theorem sby_r {b : Int} (h : 0 ≤ b ∧ b ≤ 255) : -128 ≤ sby b ∧ sby b ≤ 127 := by
  unfold sby
  split <;> omega
theorem sby_e {b k : Int} (h : 0 ≤ b ∧ b ≤ 255) (h0 : 0 ≤ k) (h1 : k < 128) : sby b = k ↔ b = k := by
  unfold sby
  split <;> omega
def rdC (T : Int → Int) (L M p : Int) (ν : ax_M) : Prop := ν.1 2 1 = zI L ∧ ν.1 2 2 = zI M ∧ ν.1 2 3 = zI p ∧ rP ν 1 L (fun i => sby (T i))
theorem q_sig {T : Int → Int} {L M p i : Int} {ν : ax_M} (hT : tBy T L) (hr : rdC T L M p ν) (i0 : 0 ≤ i) (i1 : i < L) : aJ 1045 [.ref 2, .int (zI i)] [] ν = some (some (.int (zI (sby (T i)))), ν) := by
  obtain ⟨a, b, c, d⟩ := hr
  have hL := hT.2.1
  have hd := d i i0 i1
  rw [jl_1045, a]
  simp (disch := omega) only [zI_lit, p_lt, p_le]
  rw [if_neg (by omega), if_neg (by omega), if_neg (by omega), ld8_at (len := 940) (by decide) i0 (by omega) (by decide), z_bo, hd, jl_1047]
theorem q_sm {c : Int} {ν : ax_M} (h : -128 ≤ c ∧ c ≤ 255) : aJ 1074 [.int (zI c)] [] ν = some (some (.int (zB (decide (97 ≤ c ∧ c ≤ 122)))), ν) := by
  rw [jl_1074]
  simp (disch := omega) only [zI_lit, p_lt]
  by_cases a : c < 97
  · rw [if_pos a, jl_1075, jl_1076, if_pos (Or.inl rfl), show decide (97 ≤ c ∧ c ≤ 122) = false from decide_eq_false (by omega)]
    rfl
  · rw [if_neg a]
    by_cases b : 122 < c
    · rw [if_pos b, jl_1075, jl_1076, if_pos (Or.inl rfl), show decide (97 ≤ c ∧ c ≤ 122) = false from decide_eq_false (by omega)]
      rfl
    · rw [if_neg b, jl_1076, if_pos (by decide), show decide (97 ≤ c ∧ c ≤ 122) = true from decide_eq_true (by omega)]
      rfl
theorem q_dg {c : Int} {ν : ax_M} (h : -128 ≤ c ∧ c ≤ 255) : aJ 1077 [.int (zI c)] [] ν = some (some (.int (zB (decide (48 ≤ c ∧ c ≤ 57)))), ν) := by
  rw [jl_1077]
  simp (disch := omega) only [zI_lit, p_lt]
  by_cases a : c < 48
  · rw [if_pos a, jl_1078, jl_1079, if_pos (Or.inl rfl), show decide (48 ≤ c ∧ c ≤ 57) = false from decide_eq_false (by omega)]
    rfl
  · rw [if_neg a]
    by_cases b : 57 < c
    · rw [if_pos b, jl_1078, jl_1079, if_pos (Or.inl rfl), show decide (48 ≤ c ∧ c ≤ 57) = false from decide_eq_false (by omega)]
      rfl
    · rw [if_neg b, jl_1079, if_pos (by decide), show decide (48 ≤ c ∧ c ≤ 57) = true from decide_eq_true (by omega)]
      rfl
theorem sby_l {b : Int} (h : 0 ≤ b ∧ b ≤ 255) : decide (97 ≤ sby b ∧ sby b ≤ 122) = decide (97 ≤ b ∧ b ≤ 122) := by
  apply decide_eq_decide.mpr
  unfold sby
  split <;> omega
theorem sby_d {b : Int} (h : 0 ≤ b ∧ b ≤ 255) : decide (48 ≤ sby b ∧ sby b ≤ 57) = decide (48 ≤ b ∧ b ≤ 57) := by
  apply decide_eq_decide.mpr
  unfold sby
  split <;> omega
theorem rdC_3 {T : Int → Int} {L M p p' : Int} {ν : ax_M} (hr : rdC T L M p ν) : rdC T L M p' (ax_uD ν 2 3 (zI p')) := by
  obtain ⟨a, b, c, d⟩ := hr
  exact ⟨(uD_nk (by decide) 2).trans a, (uD_nk (by decide) 2).trans b, uD_at, fun i i0 i1 => (uD_ne (by decide)).trans (d i i0 i1)⟩
theorem rdC_k {T : Int → Int} {L M p : Int} {k : Nat} {x : Int32} {ν : ax_M} (h : 3 < k) (hr : rdC T L M p ν) : rdC T L M p (ax_uD ν 2 k x) := by
  obtain ⟨a, b, c, d⟩ := hr
  exact ⟨(uD_nk (by omega) 2).trans a, (uD_nk (by omega) 2).trans b, (uD_nk (by omega) 2).trans c, fun i i0 i1 => (uD_ne (by decide)).trans (d i i0 i1)⟩
theorem q_skp {T : Int → Int} {L M : Int} (hT : tBy T L) : ∀ (m : Nat) (p : Int) (ν : ax_M), 0 ≤ p → p + m = L → rdC T L M p ν → ∃ ν', aJ 1049 [.ref 2] [] ν = aJ 1051 [.ref 2] [] ν' ∧ rdC T L M (sk T L p) ν' ∧ fr [2] ν ν' ∧ ∀ k, k ≠ 3 → ν'.1 2 k = ν.1 2 k := by
  intro m
  have hL := hT.2.1
  induction m with
  | zero =>
    intro p ν p0 p1 hr
    refine ⟨ν, ?_, ?_, frz, fun _ _ => rfl⟩
    · rw [jl_1049, hr.1, hr.2.2.1]
      simp (disch := omega) only [p_le]
      rw [if_pos (by omega)]
    · rw [sk_n (by omega)]
      exact hr
  | succ m ih =>
    intro p ν p0 p1 hr
    have hb := hT.2.2 p p0 (by omega)
    have hbr := sby_r hb
    have e32 := sby_e hb (k := 32) (by omega) (by omega)
    have e10 := sby_e hb (k := 10) (by omega) (by omega)
    have hgo : (T p = 32 ∨ T p = 10) → aJ 1049 [.ref 2] [] ν = aJ 1050 [.ref 2] [] ν ∧ True := by
      intro q
      refine ⟨?_, trivial⟩
      rw [jl_1049, hr.1, hr.2.2.1, q_sig hT hr p0 (by omega), z_b1, hr.2.2.1, q_sig hT hr p0 (by omega), z_b1]
      simp (disch := omega) only [zI_lit, p_le, p_eq]
      rw [if_neg (by omega)]
      by_cases c : sby (T p) = 32
      · rw [if_pos c]
      · rw [if_neg c, if_pos (by omega)]
    by_cases c : T p = 32 ∨ T p = 10
    · obtain ⟨ν', a1, a2, a3, a4⟩ := ih (p + 1) (ax_uD ν 2 3 (zI (p + 1))) (by omega) (by omega) (rdC_3 hr)
      refine ⟨ν', ?_, ?_, frt (fr_uD (by simp)) a3, fun k hk => (a4 k hk).trans (uD_nk hk 2)⟩
      · rw [(hgo c).1, jl_1050, hr.2.2.1, zI_a1]
        exact a1
      · rw [sk_s (by omega) c]
        exact a2
    · refine ⟨ν, ?_, ?_, frz, fun _ _ => rfl⟩
      · rw [jl_1049, hr.1, hr.2.2.1, q_sig hT hr p0 (by omega), z_b1, hr.2.2.1, q_sig hT hr p0 (by omega), z_b1]
        simp (disch := omega) only [zI_lit, p_le, p_eq]
        rw [if_neg (by omega), if_neg (by omega), if_neg (by omega)]
      · rw [sk_n (fun q => c q.2)]
        exact hr
/-- what the number says so far -/
def nvI (T : Int → Int) (s : Int) (n : Nat) (x : Int32) : Prop := (n = 0 → x = zI 0) ∧ (n = 1 → nW T s 1 = 0 → x = zI (T s - 48)) ∧ (n = 2 → nW T s 2 = 0 → x = zI (10 * (T s - 48) + (T (s + 1) - 48)))
theorem q_rnl {T : Int → Int} {L M s : Int} (hT : tBy T L) (s0 : 0 ≤ s) : ∀ (m n : Nat) (x : Int32) (ν : ax_M), s + n + m = L → rdC T L M (s + n) ν → nvI T s n x → (∀ i, s ≤ i → i < s + n → (97 ≤ T i ∧ T i ≤ 122) ∨ (48 ≤ T i ∧ T i ≤ 57)) → ∃ (ν' : ax_M) (e : Nat) (x' : Int32), aJ 1056 [.ref 2, .int (zI (nW T s n)), .int (zI (n - nW T s n)), .int x] [] ν = aJ 1060 [.ref 2, .int (zI (nW T s e)), .int (zI (e - nW T s e)), .int x'] [] ν' ∧ s + e = rn T L (s + n) ∧ nvI T s e x' ∧ rdC T L M (s + e) ν' ∧ fr [2] ν ν' ∧ ∀ k, k ≠ 3 → ν'.1 2 k = ν.1 2 k := by
  intro m
  have hL := hT.2.1
  induction m with
  | zero =>
    intro n x ν hm hr hn hin
    refine ⟨ν, n, x, ?_, ?_, hn, hr, frz, fun _ _ => rfl⟩
    · rw [jl_1056, hr.1, hr.2.2.1]
      simp (disch := omega) only [p_le]
      rw [if_pos (by omega)]
    · rw [rn_n (by omega)]
  | succ m ih =>
    intro n x ν hm hr hn hin
    have hb := hT.2.2 (s + n) (by omega) (by omega)
    have hbr := sby_r hb
    have hsig := q_sig hT hr (i := s + n) (by omega) (by omega)
    have hnw := nW_b (T := T) (s := s) n
    have e1 : nW T s (n + 1) = nW T s n + (if 97 ≤ T (s + n) ∧ T (s + n) ≤ 122 then 1 else 0) := rfl
    have start : aJ 1056 [.ref 2, .int (zI (nW T s n)), .int (zI (n - nW T s n)), .int x] [] ν = if 97 ≤ T (s + n) ∧ T (s + n) ≤ 122 then aJ 1057 [.ref 2, .int (zI (nW T s n)), .int (zI (n - nW T s n)), .int x] [] ν else if 48 ≤ T (s + n) ∧ T (s + n) ≤ 57 then aJ 1057 [.ref 2, .int (zI (nW T s n)), .int (zI (n - nW T s n)), .int x] [] ν else aJ 1060 [.ref 2, .int (zI (nW T s n)), .int (zI (n - nW T s n)), .int x] [] ν := by
      rw [jl_1056, hr.1, hr.2.2.1, hsig, z_b1, q_sm ⟨hbr.1, by omega⟩, z_b1, sby_l hb, hr.2.2.1, hsig, z_b1, q_dg ⟨hbr.1, by omega⟩, z_b1, sby_d hb]
      simp (disch := omega) only [p_le]
      rw [if_neg (by omega)]
      by_cases c : 97 ≤ T (s + n) ∧ T (s + n) ≤ 122
      · rw [if_pos c, decide_eq_true c, if_neg zB_t]
      · rw [if_neg c, decide_eq_false c, if_pos (by decide)]
        by_cases d : 48 ≤ T (s + n) ∧ T (s + n) ≤ 57
        · rw [if_pos d, decide_eq_true d, if_neg zB_t]
        · rw [if_neg d, decide_eq_false d, if_pos (by decide)]
    have cast : ((n + 1 : Nat) : Int) = (n : Int) + 1 := by omega
    by_cases c : 97 ≤ T (s + n) ∧ T (s + n) ≤ 122
    · rw [if_pos c] at e1
      have hr1 : rdC T L M (s + (n + 1 : Nat)) (ax_uD ν 2 3 (zI (s + n + 1))) := by
        have := rdC_3 (p' := s + n + 1) hr
        rwa [show s + ((n + 1 : Nat) : Int) = s + n + 1 by omega]
      obtain ⟨ν', e, x', a1, a2, a3, a4, a5, a6⟩ := ih (n + 1) x (ax_uD ν 2 3 (zI (s + n + 1))) (by omega) hr1 ⟨fun q => by omega, fun q z => by
        have hn0 : n = 0 := by omega
        rw [show (1 : Nat) = n + 1 by omega, e1] at z
        omega, fun q z => by
        rw [show (2 : Nat) = n + 1 by omega, e1] at z
        omega⟩ (fun i i0 i1 => by
        by_cases q : i = s + n
        · rw [q]; exact Or.inl c
        · exact hin i i0 (by omega))
      refine ⟨ν', e, x', ?_, ?_, a3, a4, frt (fr_uD (by simp)) a5, fun k hk => (a6 k hk).trans (uD_nk hk 2)⟩
      · rw [start, if_pos c, jl_1057, hr.2.2.1, hsig, z_b1, q_sm ⟨hbr.1, by omega⟩, z_b1, sby_l hb, decide_eq_true c, if_neg zB_t, jl_1059, hr.2.2.1, zI_a1, zI_a1]
        rw [e1, show ((n + 1 : Nat) : Int) - (nW T s n + 1) = n - nW T s n by omega] at a1
        exact a1
      · rw [a2, show s + ((n + 1 : Nat) : Int) = s + n + 1 by omega, ← rn_s (by omega) (Or.inl c)]
    · rw [if_neg c] at e1
      by_cases d : 48 ≤ T (s + n) ∧ T (s + n) ≤ 57
      · have hsb : sby (T (s + n)) = T (s + n) := by
          unfold sby
          rw [if_pos (by omega)]
        have hr1 : rdC T L M (s + (n + 1 : Nat)) (ax_uD ν 2 3 (zI (s + n + 1))) := by
          have := rdC_3 (p' := s + n + 1) hr
          rwa [show s + ((n + 1 : Nat) : Int) = s + n + 1 by omega]
        obtain ⟨ν', e, x', a1, a2, a3, a4, a5, a6⟩ := ih (n + 1) ((((x * (10 : Int32)) + zI (T (s + n))) - (48 : Int32)) - ((((x * (10 : Int32)) + zI (T (s + n))) - (48 : Int32)) / 1000) * 1000) (ax_uD ν 2 3 (zI (s + n + 1))) (by omega) hr1 ⟨fun q => by omega, fun q z => by
          have hn0 : n = 0 := by omega
          subst hn0
          have hT0 : T (s + ((0 : Nat) : Int)) = T s := by rw [show s + ((0 : Nat) : Int) = s by omega]
          rw [hT0] at d ⊢
          rw [hn.1 rfl]
          simp only [zI_lit, zI_mul, zI_add, zI_sub]
          rw [zI_dv (by omega) (by omega) (by omega) (by omega)]
          simp only [zI_mul, zI_sub]
          exact congrArg zI (by omega), fun q z => by
          have hn0 : n = 1 := by omega
          subst hn0
          have z1 : nW T s 1 = 0 := by
            have z' : nW T s (1 + 1) = 0 := z
            rw [e1] at z'
            omega
          have h1 := hn.2.1 rfl z1
          have hd0 : 48 ≤ T s ∧ T s ≤ 57 := by
            have hw : nW T s 1 = 0 + (if 97 ≤ T (s + ((0 : Nat) : Int)) ∧ T (s + ((0 : Nat) : Int)) ≤ 122 then 1 else 0) := rfl
            have hT0 : T (s + ((0 : Nat) : Int)) = T s := by rw [show s + ((0 : Nat) : Int) = s by omega]
            rw [hT0, z1] at hw
            rcases hin s (by omega) (by omega) with q | q
            · rw [if_pos q] at hw
              omega
            · exact q
          have hT1 : T (s + ((1 : Nat) : Int)) = T (s + 1) := rfl
          rw [hT1] at d ⊢
          rw [h1]
          simp only [zI_lit, zI_mul, zI_add, zI_sub]
          rw [zI_dv (by omega) (by omega) (by omega) (by omega)]
          simp only [zI_mul, zI_sub]
          exact congrArg zI (by omega)⟩ (fun i i0 i1 => by
          by_cases q : i = s + n
          · rw [q]; exact Or.inr d
          · exact hin i i0 (by omega))
        refine ⟨ν', e, x', ?_, ?_, a3, a4, frt (fr_uD (by simp)) a5, fun k hk => (a6 k hk).trans (uD_nk hk 2)⟩
        · rw [start, if_neg c, if_pos d, jl_1057, hr.2.2.1, hsig, z_b1, q_sm ⟨hbr.1, by omega⟩, z_b1, sby_l hb, decide_eq_false c, if_pos (by decide), jl_1058, hr.2.2.1, hsig, z_b1, hsb, jl_1059, hr.2.2.1, zI_a1, zI_a1]
          rw [e1, show ((n + 1 : Nat) : Int) - (nW T s n + 0) = n - nW T s n + 1 by omega, show nW T s n + 0 = nW T s n by omega] at a1
          exact a1
        · rw [a2, show s + ((n + 1 : Nat) : Int) = s + n + 1 by omega, ← rn_s (by omega) (Or.inr d)]
      · refine ⟨ν, n, x, ?_, ?_, hn, hr, frz, fun _ _ => rfl⟩
        · rw [start, if_neg c, if_neg d]
        · rw [rn_n (by rintro ⟨_, q | q⟩; exact c q; exact d q)]
/-- the kinds -/
theorem q_kd {T : Int → Int} {s : Int} {e : Nat} {x : Int32} {ν : ax_M} (he : e ≤ 1000) (hn : nvI T s e x) : ∃ ν', aJ 1060 [.ref 2, .int (zI (nW T s e)), .int (zI (e - nW T s e)), .int x] [] ν = some (none, ν') ∧ ν'.1 2 4 = zI (tkd T s (s + e)) ∧ (tkd T s (s + e) = 2 → ν'.1 2 6 = zI (nv T (2, s, s + e))) ∧ fr [2] ν ν' ∧ ∀ k, k ≠ 4 → k ≠ 6 → ν'.1 2 k = ν.1 2 k := by
  have hb := nW_b (T := T) (s := s) e
  have ht : tkd T s (s + e) = if (e : Int) ≤ 0 then 4 else if nW T s e = e then (if (e : Int) ≤ 7 then 1 else 4) else if nW T s e = 0 then (if (e : Int) ≤ 2 then 2 else 4) else 4 := by
    unfold tkd
    rw [show s + (e : Int) - s = e by omega, Int.toNat_natCast]
    by_cases c : (e : Int) ≤ 0
    · rw [if_pos c, if_pos (by omega)]
    · rw [if_neg c, if_neg (by omega)]
  have h1062 : tkd T s (s + e) = 4 → ∃ ν', aJ 1062 [.ref 2] [] ν = some (none, ν') ∧ ν'.1 2 4 = zI (tkd T s (s + e)) ∧ (tkd T s (s + e) = 2 → ν'.1 2 6 = zI (nv T (2, s, s + e))) ∧ fr [2] ν ν' ∧ ∀ k, k ≠ 4 → k ≠ 6 → ν'.1 2 k = ν.1 2 k := by
    intro q
    refine ⟨ax_uD ν 2 4 4, by rw [jl_1062, jl_1063], ?_, fun z => by omega, fr_uD (by simp), fun k k4 _ => uD_nk k4 2⟩
    rw [uD_at, q]
    rfl
  have h1061 : tkd T s (s + e) ≠ 1 → ∃ ν', aJ 1061 [.ref 2, .int (zI (nW T s e)), .int (zI (e - nW T s e)), .int x] [] ν = some (none, ν') ∧ ν'.1 2 4 = zI (tkd T s (s + e)) ∧ (tkd T s (s + e) = 2 → ν'.1 2 6 = zI (nv T (2, s, s + e))) ∧ fr [2] ν ν' ∧ ∀ k, k ≠ 4 → k ≠ 6 → ν'.1 2 k = ν.1 2 k := by
    intro hne
    by_cases c : nW T s e = 0 ∧ 1 ≤ (e : Int) ∧ (e : Int) ≤ 2
    · have h2 : tkd T s (s + e) = 2 := by
        rw [ht, if_neg (by omega), if_neg (by omega), if_pos c.1, if_pos c.2.2]
      refine ⟨ax_uD (ax_uD ν 2 4 2) 2 6 x, ?_, ?_, fun _ => ?_, frt (fr_uD (by simp)) (fr_uD (by simp)), fun k k4 k6 => (uD_nk k6 2).trans (uD_nk k4 2)⟩
      · rw [jl_1061]
        simp (disch := omega) only [zI_lit, p_eq, p_lt]
        rw [if_pos c.1, if_neg (by omega), if_neg (by omega), jl_1063]
      · rw [uD_nk (by decide), uD_at, h2]
        rfl
      · rw [uD_at]
        unfold nv tE tS
        show x = zI (if s + (e : Int) - s = 1 then T s - 48 else 10 * (T s - 48) + (T (s + 1) - 48))
        by_cases q : e = 1
        · subst q
          rw [if_pos (by omega)]
          exact hn.2.1 rfl c.1
        · have q2 : e = 2 := by omega
          subst q2
          rw [if_neg (by omega)]
          exact hn.2.2 rfl c.1
    · have h4 : tkd T s (s + e) = 4 := by
        rw [ht] at hne ⊢
        by_cases c0 : (e : Int) ≤ 0
        · rw [if_pos c0]
        · rw [if_neg c0] at hne ⊢
          by_cases c1 : nW T s e = e
          · rw [if_pos c1] at hne ⊢
            by_cases c2 : (e : Int) ≤ 7
            · rw [if_pos c2] at hne
              exact absurd rfl hne
            · rw [if_neg c2]
          · rw [if_neg c1] at hne ⊢
            by_cases c2 : nW T s e = 0
            · rw [if_pos c2, if_neg (by omega)]
            · rw [if_neg c2]
      obtain ⟨ν', a1, a2⟩ := h1062 h4
      refine ⟨ν', ?_, a2⟩
      rw [jl_1061]
      simp (disch := omega) only [zI_lit, p_eq, p_lt]
      by_cases d : nW T s e = 0
      · rw [if_pos d]
        by_cases d1 : (e : Int) - nW T s e < 1
        · rw [if_pos d1, a1]
        · rw [if_neg d1, if_pos (by omega), a1]
      · rw [if_neg d, a1]
  by_cases c : nW T s e = e ∧ 1 ≤ (e : Int) ∧ (e : Int) ≤ 7
  · have h1 : tkd T s (s + e) = 1 := by
      rw [ht, if_neg (by omega), if_pos c.1, if_pos c.2.2]
    refine ⟨ax_uD ν 2 4 1, ?_, ?_, fun z => by omega, fr_uD (by simp), fun k k4 _ => uD_nk k4 2⟩
    · rw [jl_1060]
      simp (disch := omega) only [zI_lit, p_eq, p_lt]
      rw [if_pos (by omega), if_neg (by omega), if_neg (by omega), jl_1063]
    · rw [uD_at, h1]
      rfl
  · have hne : tkd T s (s + e) ≠ 1 := by
      rw [ht]
      by_cases c0 : (e : Int) ≤ 0
      · rw [if_pos c0]
        omega
      · rw [if_neg c0]
        by_cases c1 : nW T s e = e
        · rw [if_pos c1, if_neg (by omega)]
          omega
        · rw [if_neg c1]
          split
          · split <;> omega
          · omega
    obtain ⟨ν', a1, a2⟩ := h1061 hne
    refine ⟨ν', ?_, a2⟩
    rw [jl_1060]
    simp (disch := omega) only [zI_lit, p_eq, p_lt]
    by_cases d : (e : Int) - nW T s e = 0
    · rw [if_pos d]
      by_cases d1 : nW T s e < 1
      · rw [if_pos d1, a1]
      · rw [if_neg d1, if_pos (by omega), a1]
    · rw [if_neg d, a1]
