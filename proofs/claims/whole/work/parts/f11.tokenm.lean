/-! o: the reference reads a token -/
def rkd (L M : Int) (t : Int × Int × Int) : Int := if tK t = 0 then (if M < L then 1 else 0) else if tK t = 1 then 2 else if tK t = 2 then 3 else if tK t = 3 then 4 else 1
def rtI (T : Int → Int) (L M : Int) (ν : ax_M) : Prop := ν.1 207 3 = zI L ∧ ν.1 207 4 = zI M ∧ rP ν 208 L T
def tcd (T : Int → Int) (t : Int × Int × Int) : Int64 := zL (qen (fun i => T (tS t + i)) (tE t - tS t).toNat)
def rtM (T : Int → Int) (L M : Int) (t : Int × Int × Int) (ν : ax_M) : Prop := rtI T L M ν ∧ ν.1 207 6 = zI (tS t) ∧ ν.1 207 7 = zI (rkd L M t) ∧ ((tK t = 1 ∨ tK t = 2 ∨ tK t = 3) → ν.1 207 5 = zI (tE t)) ∧ (tK t = 1 → ν.2 207 12 = tcd T t) ∧ (tK t = 2 → ν.1 207 8 = zI (nv T t))
/-- what reading a token leaves -/
def gf (ν ν' : ax_M) : Prop := (∀ a, a ≠ 207 → ν'.1 a = ν.1 a) ∧ (∀ k, k ≠ 5 → k ≠ 6 → k ≠ 7 → k ≠ 8 → ν'.1 207 k = ν.1 207 k) ∧ ∀ a, a ≠ 207 → ν'.2 a = ν.2 a
theorem gfz {ν : ax_M} : gf ν ν := ⟨fun _ _ => rfl, fun _ _ _ _ _ => rfl, fun _ _ => rfl⟩
theorem gft {ν ν' ν'' : ax_M} (h : gf ν ν') (h' : gf ν' ν'') : gf ν ν'' := ⟨fun a q => (h'.1 a q).trans (h.1 a q), fun k a b c d => (h'.2.1 k a b c d).trans (h.2.1 k a b c d), fun a q => (h'.2.2 a q).trans (h.2.2 a q)⟩
theorem gfk {ν : ax_M} {k : Nat} {x : Int32} (h : k = 5 ∨ k = 6 ∨ k = 7 ∨ k = 8) : gf ν (ax_uD ν 207 k x) := ⟨fun a q => funext fun j => uD_ne q, fun j a b c d => uD_nk (by omega) 207, fun _ _ => rfl⟩
theorem gfL {ν : ax_M} {x : Int64} : gf ν (ax_uL ν 207 12 x) := ⟨fun _ _ => rfl, fun _ _ _ _ _ => rfl, fun a q => by
  funext j
  show ax_up ν.2 207 12 x a j = _
  unfold ax_up
  rw [if_neg (fun z => q z.1)]⟩
theorem uL_at {μ : ax_M} {o k : Nat} {v : Int64} : (ax_uL μ o k v).2 o k = v := by
  show (if o = o ∧ k = k then v else μ.2 o k) = v
  rw [if_pos ⟨rfl, rfl⟩]
theorem rtI_g {T : Int → Int} {L M : Int} {ν ν' : ax_M} (h : gf ν ν') (hr : rtI T L M ν) : rtI T L M ν' := ⟨(h.2.1 3 (by decide) (by decide) (by decide) (by decide)).trans hr.1, (h.2.1 4 (by decide) (by decide) (by decide) (by decide)).trans hr.2.1, rP_e (h.1 208 (by decide)) hr.2.2⟩
theorem zI_64 {d : Int} (h : zR d) : (zI d).toInt64 = zL d := by
  obtain ⟨h1, h2⟩ := id h
  rw [← Int64.toInt_inj, Int32.toInt_toInt64, zI_toInt h]
  exact (Int64.toInt_ofInt_of_le (by omega) (by omega)).symm
theorem zL_add (a b : Int) : zL a + zL b = zL (a + b) := by simp [zL, Int64.ofInt_add]
theorem zL_sub (a b : Int) : zL a - zL b = zL (a - b) := by simp [zL, Int64.ofInt_sub]
theorem zL_mul (a b : Int) : zL a * zL b = zL (a * b) := by simp [zL, Int64.ofInt_mul]
theorem q_rsm {c : Int} {ν : ax_M} (h : -128 ≤ c ∧ c ≤ 255) : aJ 20 [.int (zI c)] [] ν = some (some (.int (zB (decide (97 ≤ c ∧ c ≤ 122)))), ν) := by
  rw [jl_20]
  simp (disch := omega) only [zI_lit, p_lt]
  by_cases a : c < 97
  · rw [if_pos a, jl_21, jl_22, if_pos (Or.inl rfl), show decide (97 ≤ c ∧ c ≤ 122) = false from decide_eq_false (by omega)]
    rfl
  · rw [if_neg a]
    by_cases b : 122 < c
    · rw [if_pos b, jl_21, jl_22, if_pos (Or.inl rfl), show decide (97 ≤ c ∧ c ≤ 122) = false from decide_eq_false (by omega)]
      rfl
    · rw [if_neg b, jl_22, if_pos (by decide), show decide (97 ≤ c ∧ c ≤ 122) = true from decide_eq_true (by omega)]
      rfl
theorem q_rdg {c : Int} {ν : ax_M} (h : -128 ≤ c ∧ c ≤ 255) : aJ 17 [.int (zI c)] [] ν = some (some (.int (zB (decide (48 ≤ c ∧ c ≤ 57)))), ν) := by
  rw [jl_17]
  simp (disch := omega) only [zI_lit, p_lt]
  by_cases a : c < 48
  · rw [if_pos a, jl_18, jl_19, if_pos (Or.inl rfl), show decide (48 ≤ c ∧ c ≤ 57) = false from decide_eq_false (by omega)]
    rfl
  · rw [if_neg a]
    by_cases b : 57 < c
    · rw [if_pos b, jl_18, jl_19, if_pos (Or.inl rfl), show decide (48 ≤ c ∧ c ≤ 57) = false from decide_eq_false (by omega)]
      rfl
    · rw [if_neg b, jl_19, if_pos (by decide), show decide (48 ≤ c ∧ c ≤ 57) = true from decide_eq_true (by omega)]
      rfl
theorem ld_t {T : Int → Int} {L M i : Int} {ν : ax_M} (hT : tBy T L) (hr : rtI T L M ν) (i0 : 0 ≤ i) (i1 : i < L) : ax_ld ax_sh ν 208 (zI i) = some (zI (T i)) := by
  have hL := hT.2.1
  rw [z_ld (len := 940) (by decide) i0 (by omega) (by decide), hr.2.2 i i0 i1]
theorem q_tat {T : Int → Int} {L M i : Int} {ν : ax_M} (hT : tBy T L) (hr : rtI T L M ν) (i0 : 0 ≤ i) (i1 : i < L) : aJ 14 [.ref 207, .int (zI i)] [] ν = some (some (.int (zI (T i))), ν) := by
  have hL := hT.2.1
  rw [jl_14, hr.1, ld_t hT hr i0 i1, z_bo, jl_16]
  simp (disch := omega) only [p_le]
  rw [if_neg (by omega)]
theorem q_tat0 {T : Int → Int} {L M i : Int} {ν : ax_M} (hT : tBy T L) (hr : rtI T L M ν) (i0 : 0 ≤ i) (i1 : L ≤ i) (i2 : i ≤ 2000) : aJ 14 [.ref 207, .int (zI i)] [] ν = some (some (.int (zI 0)), ν) := by
  have hL := hT.2.1
  have hL0 := hT.1
  rw [jl_14, hr.1]
  simp (disch := omega) only [p_le]
  rw [if_pos (by omega), jl_15, jl_16]
  rfl
theorem q_rsk {T : Int → Int} {L M : Int} (hT : tBy T L) : ∀ (m : Nat) (p : Int) (ν : ax_M), 0 ≤ p → p + m = L → rtI T L M ν → ν.1 207 5 = zI p → ∃ ν', aJ 24 [.ref 207] [] ν = aJ 26 [.ref 207] [] ν' ∧ rtI T L M ν' ∧ ν'.1 207 5 = zI (sk T L p) ∧ gf ν ν' := by
  intro m
  have hL := hT.2.1
  induction m with
  | zero =>
    intro p ν p0 p1 hr h5
    refine ⟨ν, ?_, hr, ?_, gfz⟩
    · rw [jl_24, hr.1, h5]
      simp (disch := omega) only [p_le]
      rw [if_pos (by omega)]
    · rw [sk_n (by omega)]
      exact h5
  | succ m ih =>
    intro p ν p0 p1 hr h5
    have hb := hT.2.2 p p0 (by omega)
    have hgo : aJ 24 [.ref 207] [] ν = if T p = 32 ∨ T p = 10 then aJ 25 [.ref 207] [] ν else aJ 26 [.ref 207] [] ν := by
      rw [jl_24, hr.1, h5, ld_t hT hr p0 (by omega), z_bo, z_bo]
      simp (disch := omega) only [zI_lit, p_le, p_eq]
      rw [if_neg (by omega)]
      by_cases c : T p = 32
      · rw [if_pos c, if_pos (Or.inl c)]
      · rw [if_neg c]
        by_cases d : T p = 10
        · rw [if_pos d, if_pos (Or.inr d)]
        · rw [if_neg d, if_neg (by rintro (q | q); exact c q; exact d q)]
    by_cases c : T p = 32 ∨ T p = 10
    · have g1 : gf ν (ax_uD ν 207 5 (zI (p + 1))) := gfk (Or.inl rfl)
      obtain ⟨ν', a1, a2, a3, a4⟩ := ih (p + 1) (ax_uD ν 207 5 (zI (p + 1))) (by omega) (by omega) (rtI_g g1 hr) uD_at
      refine ⟨ν', ?_, a2, ?_, gft g1 a4⟩
      · rw [hgo, if_pos c, jl_25, h5, zI_a1]
        exact a1
      · rw [sk_s (by omega) c]
        exact a3
    · refine ⟨ν, ?_, hr, ?_, gfz⟩
      · rw [hgo, if_neg c]
      · rw [sk_n (fun q => c q.2)]
        exact h5
theorem nW_1 {T : Int → Int} {s : Int} : ∀ e : Nat, 1 ≤ e → (97 ≤ T s ∧ T s ≤ 122 → 1 ≤ nW T s e) ∧ (¬ (97 ≤ T s ∧ T s ≤ 122) → nW T s e + 1 ≤ e) := by
  intro e
  induction e with
  | zero => exact fun h => by omega
  | succ e ih =>
    intro _
    have e1 : nW T s (e + 1) = nW T s e + (if 97 ≤ T (s + e) ∧ T (s + e) ≤ 122 then 1 else 0) := rfl
    have hb := nW_b (T := T) (s := s) e
    by_cases q : e = 0
    · subst q
      rw [show s + ((0 : Nat) : Int) = s by omega] at e1
      rw [e1]
      constructor
      · intro c
        rw [if_pos c]
        omega
      · intro c
        rw [if_neg c]
        omega
    · obtain ⟨i1, i2⟩ := ih (by omega)
      rw [e1]
      constructor
      · intro c
        have := i1 c
        split <;> omega
      · intro c
        have := i2 c
        split <;> omega
/-- the first n signs are of one sort -/
def gd (T : Int → Int) (s : Int) (n : Nat) : Prop := nW T s n = if 97 ≤ T s ∧ T s ≤ 122 then (n : Int) else 0
theorem gd_dec {T : Int → Int} {s : Int} {n : Nat} : (nW T s n = if 97 ≤ T s ∧ T s ≤ 122 then (n : Int) else 0) ↔ gd T s n := Iff.rfl
def nvJ (T : Int → Int) (s : Int) (n : Nat) (ν : ax_M) : Prop := (n ≤ 7 → ν.2 207 12 = zL (qen (fun i => T (s + i)) n)) ∧ (n = 0 → ν.1 207 8 = zI 0) ∧ (n = 1 → ν.1 207 8 = zI (T s - 48)) ∧ (2 ≤ n → ν.1 207 8 = zI (10 * (T s - 48) + (T (s + 1) - 48)))
theorem q_rrl {T : Int → Int} {L M s : Int} (hT : tBy T L) (s0 : 0 ≤ s) : ∀ (m n : Nat) (ν : ax_M), s + n + m = L → 1 ≤ n + m → rtI T L M ν → ν.1 207 5 = zI (s + n) → ν.1 207 6 = zI s → nvJ T s n ν → ∃ (ν' : ax_M) (e : Nat), aJ 32 [.ref 207, .int (zB (decide (97 ≤ T s ∧ T s ≤ 122))), .int (zB (decide (nW T s n = if 97 ≤ T s ∧ T s ≤ 122 then (n : Int) else 0)))] [] ν = aJ 38 [.ref 207, .int (zB (decide (97 ≤ T s ∧ T s ≤ 122))), .int (zB (decide (nW T s e = if 97 ≤ T s ∧ T s ≤ 122 then (e : Int) else 0)))] [] ν' ∧ s + e = rn T L (s + n) ∧ rtI T L M ν' ∧ ν'.1 207 5 = zI (s + e) ∧ ν'.1 207 6 = zI s ∧ nvJ T s e ν' ∧ gf ν ν' := by
  intro m
  have hL := hT.2.1
  induction m with
  | zero =>
    intro n ν hm hnm hr h5 h6 hn
    have z : aJ 14 [.ref 207, .int (ν.1 207 5)] [] ν = some (some (.int (zI 0)), ν) := by
      rw [h5]
      exact q_tat0 hT hr (by omega) (by omega) (by omega)
    refine ⟨ν, n, ?_, ?_, hr, h5, h6, hn, gfz⟩
    · rw [jl_32, z, z_b1, q_rsm (by omega), z_b1, show decide (97 ≤ (0 : Int) ∧ (0 : Int) ≤ 122) = false by decide, if_pos (by decide), z, z_b1, q_rdg (by omega), z_b1, show decide (48 ≤ (0 : Int) ∧ (0 : Int) ≤ 57) = false by decide, if_pos (by decide)]
    · rw [rn_n (by omega)]
  | succ m ih =>
    intro n ν hm hnm hr h5 h6 hn
    have hb := hT.2.2 (s + n) (by omega) (by omega)
    have hnw := nW_b (T := T) (s := s) n
    have e1 : nW T s (n + 1) = nW T s n + (if 97 ≤ T (s + n) ∧ T (s + n) ≤ 122 then 1 else 0) := rfl
    have hta : aJ 14 [.ref 207, .int (ν.1 207 5)] [] ν = some (some (.int (zI (T (s + n)))), ν) := by
      rw [h5]
      exact q_tat hT hr (by omega) (by omega)
    by_cases c : (97 ≤ T (s + n) ∧ T (s + n) ≤ 122) ∨ (48 ≤ T (s + n) ∧ T (s + n) ≤ 57)
    · have start : ∀ g : Int32, aJ 32 [.ref 207, .int (zB (decide (97 ≤ T s ∧ T s ≤ 122))), .int g] [] ν = aJ 33 [.ref 207, .int (zB (decide (97 ≤ T s ∧ T s ≤ 122))), .int g] [] ν := by
        intro g
        rw [jl_32, hta, z_b1, q_rsm (by omega), z_b1]
        by_cases d : 97 ≤ T (s + n) ∧ T (s + n) ≤ 122
        · rw [decide_eq_true d, if_neg zB_t]
        · rw [decide_eq_false d, if_pos (by decide), hta, z_b1, q_rdg (by omega), z_b1, show decide (48 ≤ T (s + n) ∧ T (s + n) ≤ 57) = true from decide_eq_true (by omega), if_neg zB_t]
      have mid : aJ 33 [.ref 207, .int (zB (decide (97 ≤ T s ∧ T s ≤ 122))), .int (zB (decide (nW T s n = if 97 ≤ T s ∧ T s ≤ 122 then (n : Int) else 0)))] [] ν = aJ 35 [.ref 207, .int (zB (decide (97 ≤ T s ∧ T s ≤ 122))), .int (zI (T (s + n)))] [.int (zB (decide (nW T s (n + 1) = if 97 ≤ T s ∧ T s ≤ 122 then ((n + 1 : Nat) : Int) else 0)))] ν := by
        have hld : ax_ld ax_sh ν 208 (ν.1 207 5) = some (zI (T (s + n))) := by
          rw [h5]
          exact ld_t hT hr (by omega) (by omega)
        rw [jl_33, hld, z_bo, q_rsm (by omega), z_b1]
        by_cases lf : 97 ≤ T s ∧ T s ≤ 122
        · rw [if_pos lf, if_pos lf, decide_eq_true lf]
          by_cases g : nW T s n = n
          · rw [decide_eq_true g, if_neg zB_t]
            by_cases d : 97 ≤ T (s + n) ∧ T (s + n) ≤ 122
            · rw [if_pos d] at e1
              rw [decide_eq_true d, if_pos rfl, show decide (nW T s (n + 1) = ((n + 1 : Nat) : Int)) = true from decide_eq_true (by omega)]
              rfl
            · rw [if_neg d] at e1
              rw [decide_eq_false d, if_neg (by decide), jl_34, show decide (nW T s (n + 1) = ((n + 1 : Nat) : Int)) = false from decide_eq_false (by omega)]
              rfl
          · have hg1 : ¬ nW T s (n + 1) = ((n + 1 : Nat) : Int) := by
              rw [e1]
              split <;> omega
            rw [decide_eq_false g, if_pos (by decide), jl_34, decide_eq_false hg1]
            rfl
        · rw [if_neg lf, if_neg lf, decide_eq_false lf]
          by_cases g : nW T s n = 0
          · rw [decide_eq_true g, if_neg zB_t]
            by_cases d : 97 ≤ T (s + n) ∧ T (s + n) ≤ 122
            · rw [if_pos d] at e1
              rw [decide_eq_true d, if_neg (by decide), jl_34, show decide (nW T s (n + 1) = 0) = false from decide_eq_false (by omega)]
              rfl
            · rw [if_neg d] at e1
              rw [decide_eq_false d, if_pos rfl, show decide (nW T s (n + 1) = 0) = true from decide_eq_true (by omega)]
              rfl
          · have hg1 : ¬ nW T s (n + 1) = 0 := by
              rw [e1]
              split <;> omega
            rw [decide_eq_false g, if_pos (by decide), jl_34, decide_eq_false hg1]
            rfl
      -- the code and the number
      have h56 : ∀ ν1 : ax_M, ν1.1 207 5 = zI (s + n) → ν1.1 207 6 = zI s → ν1.1 207 5 - ν1.1 207 6 = zI n := by
        intro ν1 a b
        rw [a, b, zI_sub]
        exact congrArg zI (by omega)
      have hw : ∃ ν1, (∀ x y : Int32, aJ 35 [.ref 207, .int x, .int (zI (T (s + n)))] [.int y] ν = aJ 36 [.ref 207, .int x, .int y, .int (zI (T (s + n)))] [] ν1) ∧ gf ν ν1 ∧ ν1.1 = ν.1 ∧ (n + 1 ≤ 7 → ν1.2 207 12 = zL (qen (fun i => T (s + i)) (n + 1))) := by
        by_cases q : n < 7
        · refine ⟨ax_uL ν 207 12 (zL (qen (fun i => T (s + i)) (n + 1))), fun x y => ?_, gfL, rfl, fun _ => ?_⟩
          · rw [jl_35, h56 ν h5 h6]
            simp (disch := omega) only [zI_lit, p_le]
            rw [if_neg (by omega), hn.1 (by omega), zI_64 (zR_of (by omega)), show (27 : Int64) = zL 27 from rfl, show (96 : Int64) = zL 96 from rfl, zL_mul, zL_add, zL_sub, qen_s]
          · exact uL_at
        · refine ⟨ν, fun x y => ?_, gfz, rfl, fun z => by omega⟩
          rw [jl_35, h56 ν h5 h6]
          simp (disch := omega) only [zI_lit, p_le]
          rw [if_pos (by omega)]
      obtain ⟨ν1, w1, w2, w3, w4⟩ := hw
      have hv : ∃ ν2, (∀ x y : Int32, aJ 36 [.ref 207, .int x, .int y, .int (zI (T (s + n)))] [] ν1 = aJ 37 [.ref 207, .int x, .int y] [] ν2) ∧ gf ν1 ν2 ∧ ν2.2 = ν1.2 ∧ (∀ k, k ≠ 8 → ν2.1 207 k = ν1.1 207 k) ∧ (n + 1 = 1 → ν2.1 207 8 = zI (T s - 48)) ∧ (2 ≤ n + 1 → ν2.1 207 8 = zI (10 * (T s - 48) + (T (s + 1) - 48))) := by
        have h8 : ν1.1 207 8 = ν.1 207 8 := by rw [w3]
        have hd : ν1.1 207 5 - ν1.1 207 6 = zI n := h56 ν1 (by rw [w3]; exact h5) (by rw [w3]; exact h6)
        by_cases q : n = 0
        · subst q
          have hT0 : T (s + ((0 : Nat) : Int)) = T s := by rw [show s + ((0 : Nat) : Int) = s by omega]
          refine ⟨ax_uD ν1 207 8 (zI (T s - 48)), fun x y => ?_, gfk (Or.inr (Or.inr (Or.inr rfl))), rfl, fun k hk => uD_nk hk 207, fun _ => uD_at, fun z => by omega⟩
          rw [jl_36, hd, h8, hn.2.1 rfl, hT0]
          simp (disch := omega) only [zI_lit, p_le, zI_mul, zI_add, zI_sub]
          rw [if_neg (by omega), show 10 * 0 + T s - 48 = T s - 48 by omega]
        · by_cases q1 : n = 1
          · subst q1
            have hT1 : T (s + ((1 : Nat) : Int)) = T (s + 1) := rfl
            refine ⟨ax_uD ν1 207 8 (zI (10 * (T s - 48) + (T (s + 1) - 48))), fun x y => ?_, gfk (Or.inr (Or.inr (Or.inr rfl))), rfl, fun k hk => uD_nk hk 207, fun z => by omega, fun _ => uD_at⟩
            rw [jl_36, hd, h8, hn.2.2.1 rfl, hT1]
            simp (disch := omega) only [zI_lit, p_le, zI_mul, zI_add, zI_sub]
            rw [if_neg (by omega), show 10 * (T s - 48) + T (s + 1) - 48 = 10 * (T s - 48) + (T (s + 1) - 48) by omega]
          · refine ⟨ν1, fun x y => ?_, gfz, rfl, fun _ _ => rfl, fun z => by omega, fun _ => h8.trans (hn.2.2.2 (by omega))⟩
            rw [jl_36, hd]
            simp (disch := omega) only [zI_lit, p_le]
            rw [if_pos (by omega)]
      obtain ⟨ν2, v1, v2, v3, v4, v5, v6⟩ := hv
      have h52 : ν2.1 207 5 = zI (s + n) := (v4 5 (by decide)).trans (by rw [w3]; exact h5)
      have g3 : gf ν2 (ax_uD ν2 207 5 (zI (s + n + 1))) := gfk (Or.inl rfl)
      have gall := gft w2 (gft v2 g3)
      obtain ⟨ν', e, a1, a2, a3, a4, a5, a6, a7⟩ := ih (n + 1) (ax_uD ν2 207 5 (zI (s + n + 1))) (by omega) (by omega) (rtI_g gall hr) (by rw [uD_at]; exact congrArg zI (by omega)) ((uD_nk (by decide) 207).trans ((v4 6 (by decide)).trans (by rw [w3]; exact h6))) ⟨fun q => by
        show ν2.2 207 12 = _
        rw [v3]
        exact w4 q, fun q => by omega, fun q => (uD_nk (by decide) 207).trans (v5 q), fun q => (uD_nk (by decide) 207).trans (v6 q)⟩
      refine ⟨ν', e, ?_, ?_, a3, a4, a5, a6, gft gall a7⟩
      · rw [start, mid, w1, v1, jl_37, h52, zI_a1]
        exact a1
      · rw [a2, show s + ((n + 1 : Nat) : Int) = s + n + 1 by omega, ← rn_s (by omega) c]
    · refine ⟨ν, n, ?_, ?_, hr, h5, h6, hn, gfz⟩
      · rw [jl_32, hta, z_b1, q_rsm (by omega), z_b1, show decide (97 ≤ T (s + n) ∧ T (s + n) ≤ 122) = false from decide_eq_false (by omega), if_pos (by decide), hta, z_b1, q_rdg (by omega), z_b1, show decide (48 ≤ T (s + n) ∧ T (s + n) ≤ 57) = false from decide_eq_false (by omega), if_pos (by decide)]
      · rw [rn_n (by omega)]
/-- the reference reads the next token -/
theorem q_go {T : Int → Int} {L M p : Int} {ν : ax_M} (hT : tBy T L) (hM : 0 ≤ M ∧ M ≤ 1000) (p0 : 0 ≤ p) (p1 : p ≤ L) (hr : rtI T L M ν) (h5 : ν.1 207 5 = zI p) : ∃ ν', aJ 23 [.ref 207] [] ν = some (none, ν') ∧ rtM T L M (tok T L M p) ν' ∧ gf ν ν' := by
  have hL := hT.2.1
  have hL0 := hT.1
  obtain ⟨ν1, a1, a2, a3, a4⟩ := q_rsk hT (L - p).toNat p ν p0 (by omega) hr h5
  have hs := sk_r (T := T) (L := L) (L - p).toNat p (by omega)
  have hrn := rn_r (T := T) (L := L) (L - sk T L p).toNat (sk T L p) (by omega)
  have ht : tok T L M p = if min L M ≤ sk T L p then (0, min L M, sk T L p) else if T (sk T L p) = 59 then (3, sk T L p, sk T L p + 1) else (tkd T (sk T L p) (rn T L (sk T L p)), sk T L p, rn T L (sk T L p)) := rfl
  generalize hsv : sk T L p = s at *
  have g6 : gf ν1 (ax_uD ν1 207 6 (zI s)) := gfk (Or.inr (Or.inl rfl))
  have r6 := rtI_g g6 a2
  have h56 : (ax_uD ν1 207 6 (zI s)).1 207 5 = zI s := (uD_nk (by decide) 207).trans a3
  have h66 : (ax_uD ν1 207 6 (zI s)).1 207 6 = zI s := uD_at
  have h1 : aJ 23 [.ref 207] [] ν = if L ≤ M ∨ s < M then aJ 27 [.ref 207] [] (ax_uD ν1 207 6 (zI s)) else some (none, ax_uD (ax_uD (ax_uD ν1 207 6 (zI s)) 207 6 (zI M)) 207 7 1) := by
    rw [jl_23, a1, jl_26, a3, r6.1, r6.2.1, h66]
    simp (disch := omega) only [p_le, p_lt]
    by_cases c : L ≤ M
    · rw [if_pos c, if_pos (Or.inl c)]
    · rw [if_neg c]
      by_cases d : s < M
      · rw [if_pos d, if_pos (Or.inr d)]
      · rw [if_neg d, if_neg (by omega)]
  by_cases c : min L M ≤ s
  · rw [if_pos c] at ht
    rw [ht]
    by_cases q : L ≤ M
    · have hm : min L M = L := Int.min_eq_left q
      rw [hm] at c ⊢
      have hsL : s = L := by omega
      have g7 : gf (ax_uD ν1 207 6 (zI s)) (ax_uD (ax_uD ν1 207 6 (zI s)) 207 7 0) := gfk (Or.inr (Or.inr (Or.inl rfl)))
      refine ⟨ax_uD (ax_uD ν1 207 6 (zI s)) 207 7 0, ?_, ⟨rtI_g g7 r6, ?_, ?_, fun z => ?_, fun z => ?_, fun z => ?_⟩, gft a4 (gft g6 g7)⟩
      · rw [h1, if_pos (Or.inl q), jl_27, h56, r6.1]
        simp (disch := omega) only [p_lt]
        rw [if_neg (by omega)]
      · rw [uD_nk (by decide), h66, hsL]
        rfl
      · rw [uD_at]
        show (0 : Int32) = zI (if (0 : Int) = 0 then (if M < L then 1 else 0) else _)
        rw [if_pos rfl, if_neg (by omega)]
        rfl
      · exact absurd z (by show ¬ ((0 : Int) = 1 ∨ (0 : Int) = 2 ∨ (0 : Int) = 3); omega)
      · exact absurd z (by show ¬ (0 : Int) = 1; omega)
      · exact absurd z (by show ¬ (0 : Int) = 2; omega)
    · have hm : min L M = M := Int.min_eq_right (by omega)
      rw [hm] at c ⊢
      have g7 : gf (ax_uD ν1 207 6 (zI s)) (ax_uD (ax_uD (ax_uD ν1 207 6 (zI s)) 207 6 (zI M)) 207 7 1) := gft (gfk (Or.inr (Or.inl rfl))) (gfk (Or.inr (Or.inr (Or.inl rfl))))
      refine ⟨ax_uD (ax_uD (ax_uD ν1 207 6 (zI s)) 207 6 (zI M)) 207 7 1, ?_, ⟨rtI_g g7 r6, ?_, ?_, fun z => ?_, fun z => ?_, fun z => ?_⟩, gft a4 (gft g6 g7)⟩
      · rw [h1, if_neg (by omega)]
      · rw [uD_nk (by decide), uD_at]
        rfl
      · rw [uD_at]
        show (1 : Int32) = zI (if (0 : Int) = 0 then (if M < L then 1 else 0) else _)
        rw [if_pos rfl, if_pos (by omega)]
        rfl
      · exact absurd z (by show ¬ ((0 : Int) = 1 ∨ (0 : Int) = 2 ∨ (0 : Int) = 3); omega)
      · exact absurd z (by show ¬ (0 : Int) = 1; omega)
      · exact absurd z (by show ¬ (0 : Int) = 2; omega)
  · rw [if_neg c] at ht
    have hmin : s < L ∧ s < M := by
      by_cases q : L ≤ M
      · rw [Int.min_eq_left q] at c
        omega
      · rw [Int.min_eq_right (by omega)] at c
        omega
    have hb := hT.2.2 s (by omega) (by omega)
    have h2 : aJ 23 [.ref 207] [] ν = if (97 ≤ T s ∧ T s ≤ 122) ∨ (48 ≤ T s ∧ T s ≤ 57) then aJ 31 [.ref 207, .int (zI (T s))] [] (ax_uD ν1 207 6 (zI s)) else if T s = 59 then aJ 30 [.ref 207] [.int 4, .ref 207] (ax_uD ν1 207 6 (zI s)) else aJ 30 [.ref 207] [.int 1, .ref 207] (ax_uD ν1 207 6 (zI s)) := by
      rw [h1, if_pos (Or.inr hmin.2), jl_27, h56, r6.1]
      simp (disch := omega) only [p_lt]
      rw [if_pos hmin.1, jl_28, h56, ld_t hT r6 (by omega) hmin.1, z_bo, q_rsm (by omega), z_b1]
      by_cases d : 97 ≤ T s ∧ T s ≤ 122
      · rw [decide_eq_true d, if_neg zB_t, if_pos (Or.inl d)]
      · rw [decide_eq_false d, if_pos (by decide), q_rdg (by omega), z_b1]
        by_cases e : 48 ≤ T s ∧ T s ≤ 57
        · rw [decide_eq_true e, if_neg zB_t, if_pos (Or.inr e)]
        · rw [decide_eq_false e, if_pos (by decide), if_neg (show ¬ ((97 ≤ T s ∧ T s ≤ 122) ∨ (48 ≤ T s ∧ T s ≤ 57)) from by
            rintro (z | z)
            · exact d z
            · exact e z)]
          simp (disch := omega) only [zI_lit, p_eq]
          by_cases f : T s = 59
          · rw [if_pos f, if_pos f]
          · rw [if_neg f, if_neg f, jl_29]
            rfl
    by_cases d : (97 ≤ T s ∧ T s ≤ 122) ∨ (48 ≤ T s ∧ T s ≤ 57)
    · rw [if_neg (show ¬ T s = 59 by omega)] at ht
      have g12 : gf (ax_uD ν1 207 6 (zI s)) (ax_uD (ax_uL (ax_uD ν1 207 6 (zI s)) 207 12 0) 207 8 0) := gft gfL (gfk (Or.inr (Or.inr (Or.inr rfl))))
      have n0 : nW T s 0 = 0 := rfl
      obtain ⟨ν2, e, b1, b2, b3, b4, b5, b6, b7⟩ := q_rrl (s := s) hT (by omega) (L - s).toNat 0 (ax_uD (ax_uL (ax_uD ν1 207 6 (zI s)) 207 12 0) 207 8 0) (by omega) (by omega) (rtI_g g12 r6) (by
        rw [uD_nk (by decide), show s + ((0 : Nat) : Int) = s by omega]
        exact h56) (by
        rw [uD_nk (by decide)]
        exact h66) ⟨fun _ => by
        show ax_up (ax_uD ν1 207 6 (zI s)).2 207 12 0 207 12 = _
        unfold ax_up
        rw [if_pos ⟨rfl, rfl⟩]
        rfl, fun _ => uD_at, fun q => by omega, fun q => by omega⟩
      rw [show s + ((0 : Nat) : Int) = s by omega] at b2
      have he1 : 1 ≤ e := by
        have := rn_s hmin.1 d
        have h' := rn_r (T := T) (L := L) (L - (s + 1)).toNat (s + 1) (by omega)
        omega
      have hbb := nW_b (T := T) (s := s) e
      obtain ⟨w1, w2⟩ := nW_1 (T := T) (s := s) e he1
      have hkd : rkd L M (tkd T s (s + e), s, s + (e : Int)) = if nW T s e = (if 97 ≤ T s ∧ T s ≤ 122 then (e : Int) else 0) then (if 97 ≤ T s ∧ T s ≤ 122 then (if (e : Int) ≤ 7 then 2 else 1) else (if (e : Int) ≤ 2 then 3 else 1)) else 1 := by
        have htk : tkd T s (s + e) = if nW T s e = e then (if (e : Int) ≤ 7 then 1 else 4) else if nW T s e = 0 then (if (e : Int) ≤ 2 then 2 else 4) else 4 := by
          unfold tkd
          rw [show s + (e : Int) - s = e by omega, Int.toNat_natCast, if_neg (by omega)]
        unfold rkd
        show (if tkd T s (s + e) = 0 then _ else if tkd T s (s + e) = 1 then 2 else if tkd T s (s + e) = 2 then 3 else if tkd T s (s + e) = 3 then 4 else 1) = _
        rw [htk]
        by_cases lf : 97 ≤ T s ∧ T s ≤ 122
        · have w1' := w1 lf
          simp only [if_pos lf]
          by_cases g : nW T s e = e
          · simp only [if_pos g]
            by_cases k : (e : Int) ≤ 7
            · simp only [if_pos k]
              rfl
            · simp only [if_neg k]
              rfl
          · simp only [if_neg g, if_neg (show ¬ nW T s e = 0 by omega)]
            rfl
        · have w2' := w2 lf
          simp only [if_neg lf, if_neg (show ¬ nW T s e = (e : Int) by omega)]
          by_cases g : nW T s e = 0
          · simp only [if_pos g]
            by_cases k : (e : Int) ≤ 2
            · simp only [if_pos k]
              rfl
            · simp only [if_neg k]
              rfl
          · simp only [if_neg g]
            rfl
      have h57 : ν2.1 207 5 - ν2.1 207 6 = zI e := by
        rw [b4, b5, zI_sub]
        exact congrArg zI (by omega)
      have h3 : aJ 23 [.ref 207] [] ν = some (none, ax_uD ν2 207 7 (zI (rkd L M (tkd T s (s + e), s, s + (e : Int))))) := by
        have b1' : aJ 32 [.ref 207, .int (zB (decide (97 ≤ T s ∧ T s ≤ 122))), .int 1] [] (ax_uD (ax_uL (ax_uD ν1 207 6 (zI s)) 207 12 0) 207 8 0) = aJ 38 [.ref 207, .int (zB (decide (97 ≤ T s ∧ T s ≤ 122))), .int (zB (decide (nW T s e = if 97 ≤ T s ∧ T s ≤ 122 then (e : Int) else 0)))] [] ν2 := by
          have : (1 : Int32) = zB (decide (nW T s 0 = if 97 ≤ T s ∧ T s ≤ 122 then ((0 : Nat) : Int) else 0)) := by
            rw [show decide (nW T s 0 = if 97 ≤ T s ∧ T s ≤ 122 then ((0 : Nat) : Int) else 0) = true from decide_eq_true (by rw [n0]; split <;> rfl)]
            rfl
          rw [this]
          exact b1
        rw [h2, if_pos d, jl_31, q_rsm (by omega), z_b1, b1', jl_38, h57, hkd]
        by_cases g : nW T s e = (if 97 ≤ T s ∧ T s ≤ 122 then (e : Int) else 0)
        · rw [decide_eq_true g, if_neg zB_t, if_pos g]
          by_cases lf : 97 ≤ T s ∧ T s ≤ 122
          · rw [decide_eq_true lf, if_neg zB_t, if_pos lf, jl_40]
            simp (disch := omega) only [zI_lit, p_le]
            by_cases k : (e : Int) ≤ 7
            · rw [if_pos k, if_pos k, jl_42, if_neg zB_t, jl_44]
              rfl
            · rw [if_neg k, if_neg k, jl_41, jl_44]
              rfl
          · rw [decide_eq_false lf, if_pos (show zB false = 0 by decide), if_neg lf, jl_39, jl_40]
            simp (disch := omega) only [zI_lit, p_le]
            by_cases k : (e : Int) ≤ 2
            · rw [if_pos k, if_pos k, jl_42, if_pos (show zB false = 0 by decide), jl_43, jl_44]
              rfl
            · rw [if_neg k, if_neg k, jl_41, jl_44]
              rfl
        · rw [decide_eq_false g, if_pos (show zB false = 0 by decide), if_neg g, jl_41, jl_44]
          rfl
      have g7 : gf ν2 (ax_uD ν2 207 7 (zI (rkd L M (tkd T s (s + e), s, s + (e : Int))))) := gfk (Or.inr (Or.inr (Or.inl rfl)))
      have htw := tok_w (T := T) (L := L) (M := M) p0 p1
      rw [ht, ← b2] at htw ⊢
      refine ⟨_, h3, ⟨rtI_g g7 b3, (uD_nk (by decide) 207).trans b5, uD_at, fun _ => (uD_nk (by decide) 207).trans b4, fun q => ?_, fun q => ?_⟩, gft a4 (gft g6 (gft g12 (gft b7 g7)))⟩
      · have h7 : s + (e : Int) - s ≤ 7 := (htw q).2.1
        unfold tcd tE tS
        show ν2.2 207 12 = zL (qen (fun i => T (s + i)) (s + (e : Int) - s).toNat)
        rw [show (s + (e : Int) - s).toNat = e by omega]
        exact b6.1 (by omega)
      · rw [uD_nk (by decide)]
        unfold nv tE tS
        show ν2.1 207 8 = zI (if s + (e : Int) - s = 1 then T s - 48 else 10 * (T s - 48) + (T (s + 1) - 48))
        by_cases k : e = 1
        · rw [if_pos (by omega)]
          exact b6.2.2.1 k
        · rw [if_neg (by omega)]
          exact b6.2.2.2 (by omega)
    · have hrs : rn T L s = s := rn_n (fun z => d z.2)
      have h5s : ∀ x : Int32, (ax_uD (ax_uD ν1 207 6 (zI s)) 207 7 x).1 207 5 = zI s := fun x => (uD_nk (by decide) 207).trans h56
      have g30 : ∀ x : Int32, gf (ax_uD ν1 207 6 (zI s)) (ax_uD (ax_uD (ax_uD ν1 207 6 (zI s)) 207 7 x) 207 5 (zI (s + 1))) := fun x => gft (gfk (Or.inr (Or.inr (Or.inl rfl)))) (gfk (Or.inl rfl))
      by_cases f : T s = 59
      · rw [if_pos f] at ht
        rw [ht]
        refine ⟨ax_uD (ax_uD (ax_uD ν1 207 6 (zI s)) 207 7 4) 207 5 (zI (s + 1)), ?_, ⟨rtI_g (g30 4) r6, ?_, ?_, fun _ => uD_at, fun z => ?_, fun z => ?_⟩, gft a4 (gft g6 (g30 4))⟩
        · rw [h2, if_neg d, if_pos f, jl_30, h5s, zI_a1]
        · rw [uD_nk (by decide), uD_nk (by decide), h66]
          rfl
        · rw [uD_nk (by decide), uD_at]
          rfl
        · exact absurd z (by show ¬ (3 : Int) = 1; omega)
        · exact absurd z (by show ¬ (3 : Int) = 2; omega)
      · rw [if_neg f, hrs] at ht
        have hk4 : tkd T s s = 4 := by
          unfold tkd
          rw [if_pos (Int.le_refl s)]
        rw [hk4] at ht
        rw [ht]
        refine ⟨ax_uD (ax_uD (ax_uD ν1 207 6 (zI s)) 207 7 1) 207 5 (zI (s + 1)), ?_, ⟨rtI_g (g30 1) r6, ?_, ?_, fun z => ?_, fun z => ?_, fun z => ?_⟩, gft a4 (gft g6 (g30 1))⟩
        · rw [h2, if_neg d, if_neg f, jl_30, h5s, zI_a1]
        · rw [uD_nk (by decide), uD_nk (by decide), h66]
          rfl
        · rw [uD_nk (by decide), uD_at]
          rfl
        · exact absurd z (by show ¬ ((4 : Int) = 1 ∨ (4 : Int) = 2 ∨ (4 : Int) = 3); omega)
        · exact absurd z (by show ¬ (4 : Int) = 1; omega)
        · exact absurd z (by show ¬ (4 : Int) = 2; omega)
