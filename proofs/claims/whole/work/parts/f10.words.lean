/-! o: the words -/
def wA (k : Nat) (i : Int) : Int := ((((ax_sh (1000 + k)).2.2).getD i.toNat (0, 0)).1 : Nat)
def wAn (k : Nat) : Nat := (ax_sh (1000 + k)).2.1
theorem wA_ok : ∀ k : Nat, k < 21 → (ax_sh (1000 + k)).1 = 8 ∧ 2 ≤ wAn k ∧ wAn k ≤ 7 ∧ ∀ i : Nat, i < wAn k → 97 ≤ wA k i ∧ wA k i ≤ 122 := by decide +kernel
theorem wA_inj : ∀ k : Nat, k < 21 → ∀ j : Nat, j < 21 → wAn k = wAn j → (∀ i : Nat, i < wAn k → wA k i = wA j i) → k = j := by decide +kernel
def kwM (T : Int → Int) (s n : Int) (k : Nat) : Prop := (wAn k : Int) = n ∧ ∀ i : Int, 0 ≤ i → i < n → wA k i = T (s + i)
noncomputable def kwR (T : Int → Int) (s n : Int) : Nat → Int
  | 0 => -1
  | m + 1 => @ite Int (kwM T s n (20 - m)) (Classical.propDecidable _) ((20 - m : Nat) : Int) (kwR T s n m)
/-- which word a token is, none -/
noncomputable def kw (T : Int → Int) (t : Int × Int × Int) : Int := kwR T (tS t) (tE t - tS t) 21
theorem kwR_sp {T : Int → Int} {s n : Int} : ∀ m : Nat, m ≤ 21 → (kwR T s n m = -1 ∧ ∀ k : Nat, 21 - m ≤ k → k < 21 → ¬ kwM T s n k) ∨ ∃ k : Nat, kwR T s n m = k ∧ k < 21 ∧ kwM T s n k := by
  intro m
  induction m with
  | zero => exact fun _ => Or.inl ⟨rfl, fun k a b => by omega⟩
  | succ m ih =>
    intro hm
    have e : kwR T s n (m + 1) = @ite Int (kwM T s n (20 - m)) (Classical.propDecidable _) ((20 - m : Nat) : Int) (kwR T s n m) := rfl
    by_cases c : kwM T s n (20 - m)
    · rw [if_pos c] at e
      exact Or.inr ⟨20 - m, e, by omega, c⟩
    · rw [if_neg c] at e
      rcases ih (by omega) with ⟨a, b⟩ | ⟨k, a, b, d⟩
      · refine Or.inl ⟨e.trans a, fun k k0 k1 => ?_⟩
        by_cases q : k = 20 - m
        · rw [q]; exact c
        · exact b k (by omega) k1
      · exact Or.inr ⟨k, e.trans a, b, d⟩
theorem kwM_u {T : Int → Int} {s n : Int} {k j : Nat} (hk : k < 21) (hj : j < 21) (h : kwM T s n k) (h' : kwM T s n j) : k = j := by
  refine wA_inj k hk j hj (by have := h.1; have := h'.1; omega) (fun i hi => ?_)
  have a := h.2 i (by omega) (by have := h.1; omega)
  have b := h'.2 i (by omega) (by have := h.1; omega)
  rw [a, b]
theorem kw_r {T : Int → Int} {t : Int × Int × Int} : -1 ≤ kw T t ∧ kw T t ≤ 20 := by
  rcases kwR_sp (T := T) (s := tS t) (n := tE t - tS t) 21 (by omega) with ⟨a, _⟩ | ⟨k, a, b, _⟩
  · unfold kw
    omega
  · unfold kw
    omega
theorem kw_iff {T : Int → Int} {t : Int × Int × Int} {k : Nat} (hk : k < 21) : kw T t = k ↔ kwM T (tS t) (tE t - tS t) k := by
  rcases kwR_sp (T := T) (s := tS t) (n := tE t - tS t) 21 (by omega) with ⟨a, b⟩ | ⟨j, a, b, c⟩
  · unfold kw
    rw [a]
    constructor
    · intro q
      omega
    · intro q
      exact absurd q (b k (by omega) hk)
  · unfold kw
    rw [a]
    constructor
    · intro q
      have : j = k := by omega
      subst this
      exact c
    · intro q
      rw [kwM_u hk b q c]
theorem w_clA {ν : ax_M} : ∀ k : Nat, k < 21 → aJ 856 [.int (zI k)] [] ν = some (some (.ref (1000 + k)), ν) := by
  intro k hk
  have hh : k = 0 ∨ k = 1 ∨ k = 2 ∨ k = 3 ∨ k = 4 ∨ k = 5 ∨ k = 6 ∨ k = 7 ∨ k = 8 ∨ k = 9 ∨ k = 10 ∨ k = 11 ∨ k = 12 ∨ k = 13 ∨ k = 14 ∨ k = 15 ∨ k = 16 ∨ k = 17 ∨ k = 18 ∨ k = 19 ∨ k = 20 := by omega
  rcases hh with rfl | rfl | rfl | rfl | rfl | rfl | rfl | rfl | rfl | rfl | rfl | rfl | rfl | rfl | rfl | rfl | rfl | rfl | rfl | rfl | rfl
  · rw [jl_856, if_pos (by decide), jl_857]
  · rw [jl_856, if_neg (by decide), if_pos (by decide), jl_858]
  · rw [jl_856, if_neg (by decide), if_neg (by decide), if_pos (by decide), jl_859]
  · rw [jl_856, if_neg (by decide), if_neg (by decide), if_neg (by decide), if_pos (by decide), jl_860]
  · rw [jl_856, if_neg (by decide), if_neg (by decide), if_neg (by decide), if_neg (by decide), if_pos (by decide), jl_861]
  · rw [jl_856, if_neg (by decide), if_neg (by decide), if_neg (by decide), if_neg (by decide), if_neg (by decide), if_pos (by decide), jl_862]
  · rw [jl_856, if_neg (by decide), if_neg (by decide), if_neg (by decide), if_neg (by decide), if_neg (by decide), if_neg (by decide), if_pos (by decide), jl_863]
  · rw [jl_856, if_neg (by decide), if_neg (by decide), if_neg (by decide), if_neg (by decide), if_neg (by decide), if_neg (by decide), if_neg (by decide), if_pos (by decide), jl_864]
  · rw [jl_856, if_neg (by decide), if_neg (by decide), if_neg (by decide), if_neg (by decide), if_neg (by decide), if_neg (by decide), if_neg (by decide), if_neg (by decide), if_pos (by decide), jl_865]
  · rw [jl_856, if_neg (by decide), if_neg (by decide), if_neg (by decide), if_neg (by decide), if_neg (by decide), if_neg (by decide), if_neg (by decide), if_neg (by decide), if_neg (by decide), if_pos (by decide), jl_866]
  · rw [jl_856, if_neg (by decide), if_neg (by decide), if_neg (by decide), if_neg (by decide), if_neg (by decide), if_neg (by decide), if_neg (by decide), if_neg (by decide), if_neg (by decide), if_neg (by decide), if_pos (by decide), jl_867]
  · rw [jl_856, if_neg (by decide), if_neg (by decide), if_neg (by decide), if_neg (by decide), if_neg (by decide), if_neg (by decide), if_neg (by decide), if_neg (by decide), if_neg (by decide), if_neg (by decide), if_neg (by decide), if_pos (by decide), jl_868]
  · rw [jl_856, if_neg (by decide), if_neg (by decide), if_neg (by decide), if_neg (by decide), if_neg (by decide), if_neg (by decide), if_neg (by decide), if_neg (by decide), if_neg (by decide), if_neg (by decide), if_neg (by decide), if_neg (by decide), if_pos (by decide), jl_869]
  · rw [jl_856, if_neg (by decide), if_neg (by decide), if_neg (by decide), if_neg (by decide), if_neg (by decide), if_neg (by decide), if_neg (by decide), if_neg (by decide), if_neg (by decide), if_neg (by decide), if_neg (by decide), if_neg (by decide), if_neg (by decide), if_pos (by decide), jl_870]
  · rw [jl_856, if_neg (by decide), if_neg (by decide), if_neg (by decide), if_neg (by decide), if_neg (by decide), if_neg (by decide), if_neg (by decide), if_neg (by decide), if_neg (by decide), if_neg (by decide), if_neg (by decide), if_neg (by decide), if_neg (by decide), if_neg (by decide), if_pos (by decide), jl_871]
  · rw [jl_856, if_neg (by decide), if_neg (by decide), if_neg (by decide), if_neg (by decide), if_neg (by decide), if_neg (by decide), if_neg (by decide), if_neg (by decide), if_neg (by decide), if_neg (by decide), if_neg (by decide), if_neg (by decide), if_neg (by decide), if_neg (by decide), if_neg (by decide), if_pos (by decide), jl_872]
  · rw [jl_856, if_neg (by decide), if_neg (by decide), if_neg (by decide), if_neg (by decide), if_neg (by decide), if_neg (by decide), if_neg (by decide), if_neg (by decide), if_neg (by decide), if_neg (by decide), if_neg (by decide), if_neg (by decide), if_neg (by decide), if_neg (by decide), if_neg (by decide), if_neg (by decide), if_pos (by decide), jl_873]
  · rw [jl_856, if_neg (by decide), if_neg (by decide), if_neg (by decide), if_neg (by decide), if_neg (by decide), if_neg (by decide), if_neg (by decide), if_neg (by decide), if_neg (by decide), if_neg (by decide), if_neg (by decide), if_neg (by decide), if_neg (by decide), if_neg (by decide), if_neg (by decide), if_neg (by decide), if_neg (by decide), if_pos (by decide), jl_874]
  · rw [jl_856, if_neg (by decide), if_neg (by decide), if_neg (by decide), if_neg (by decide), if_neg (by decide), if_neg (by decide), if_neg (by decide), if_neg (by decide), if_neg (by decide), if_neg (by decide), if_neg (by decide), if_neg (by decide), if_neg (by decide), if_neg (by decide), if_neg (by decide), if_neg (by decide), if_neg (by decide), if_neg (by decide), if_pos (by decide), jl_875]
  · rw [jl_856, if_neg (by decide), if_neg (by decide), if_neg (by decide), if_neg (by decide), if_neg (by decide), if_neg (by decide), if_neg (by decide), if_neg (by decide), if_neg (by decide), if_neg (by decide), if_neg (by decide), if_neg (by decide), if_neg (by decide), if_neg (by decide), if_neg (by decide), if_neg (by decide), if_neg (by decide), if_neg (by decide), if_neg (by decide), if_pos (by decide), jl_876]
  · rw [jl_856, if_neg (by decide), if_neg (by decide), if_neg (by decide), if_neg (by decide), if_neg (by decide), if_neg (by decide), if_neg (by decide), if_neg (by decide), if_neg (by decide), if_neg (by decide), if_neg (by decide), if_neg (by decide), if_neg (by decide), if_neg (by decide), if_neg (by decide), if_neg (by decide), if_neg (by decide), if_neg (by decide), if_neg (by decide), if_neg (by decide), if_pos (by decide), jl_877]
theorem q_kwi {T : Int → Int} {L M s n : Int} {k : Nat} {ν : ax_M} (hT : tBy T L) (hr : rdC T L M (s + n) ν) (h5 : ν.1 2 5 = zI s) (s0 : 0 ≤ s) (n0 : 0 ≤ n) (sn : s + n ≤ L) (hl : ∀ i : Int, 0 ≤ i → i < n → 97 ≤ T (s + i) ∧ T (s + i) ≤ 122) (hk : k < 21) (hn : (wAn k : Int) = n) : ∀ (m : Nat) (j : Int), 0 ≤ j → j + m = n → ((∀ i, j ≤ i → i < n → wA k i = T (s + i)) → aJ 1068 [.ref 2, .int (zI k), .ref (1000 + k), .int 1, .int (zI j)] [] ν = some (some (.int (zI k)), ν)) ∧ (¬ (∀ i, j ≤ i → i < n → wA k i = T (s + i)) → aJ 1068 [.ref 2, .int (zI k), .ref (1000 + k), .int 1, .int (zI j)] [] ν = aJ 1065 [.ref 2, .int (zI (k + 1))] [] ν) := by
  have hL := hT.2.1
  have hx : 1000 + k = 1000 ∨ 1000 + k = 1001 ∨ 1000 + k = 1002 ∨ 1000 + k = 1003 ∨ 1000 + k = 1004 ∨ 1000 + k = 1005 ∨ 1000 + k = 1006 ∨ 1000 + k = 1007 ∨ 1000 + k = 1008 ∨ 1000 + k = 1009 ∨ 1000 + k = 1010 ∨ 1000 + k = 1011 ∨ 1000 + k = 1012 ∨ 1000 + k = 1013 ∨ 1000 + k = 1014 ∨ 1000 + k = 1015 ∨ 1000 + k = 1016 ∨ 1000 + k = 1017 ∨ 1000 + k = 1018 ∨ 1000 + k = 1019 ∨ 1000 + k = 1020 ∨ 1000 + k = 1021 := by omega
  obtain ⟨w8, w2, w7, wl⟩ := wA_ok k hk
  have e1293 : ∀ ν : ax_M, aJ 1293 [.ref (1000 + k)] [] ν = some (some (.int (zI n)), ν) := fun ν => by
    rw [jw_1293, if_pos w8, show Int32.ofNat (ax_sh (1000 + k)).2.1 = zI (wAn k) from zI_ofn _, hn]
  intro m
  induction m with
  | zero =>
    intro j j0 jm
    constructor
    · intro _
      rw [jl_1068 _ _ _ _ _ hx, if_neg (by decide), e1293, z_b1]
      simp (disch := omega) only [p_le]
      rw [if_pos (by omega), jl_1071, if_neg (by decide)]
    · intro q
      exact absurd (fun i i0 i1 => by omega) q
  | succ m ih =>
    intro j j0 jm
    obtain ⟨ih1, ih2⟩ := ih (j + 1) (by omega) (by omega)
    have hlj := hl j j0 (by omega)
    have hsig := q_sig hT hr (i := s + j) (by omega) (by omega)
    have hsb : sby (T (s + j)) = T (s + j) := by
      unfold sby
      rw [if_pos (by omega)]
    have hwj := wl j.toNat (by omega)
    rw [show ((j.toNat : Nat) : Int) = j by omega] at hwj
    have e1294 : aJ 1294 [.ref (1000 + k), .int (zI j)] [] ν = some (some (.int (zI (wA k j))), ν) := by
      rw [jw_1294, zI_nat (zR_of (by omega)), if_pos ⟨w8, fun q => by
        rcases q with q | q
        · rw [show (0 : Int32) = zI 0 from rfl, zI_lt (zR_of (by omega)) (zR_of (by omega))] at q
          omega
        · have : (ax_sh (1000 + k)).2.1 = wAn k := rfl
          omega⟩, zI_ofn]
      rfl
    have step : aJ 1068 [.ref 2, .int (zI k), .ref (1000 + k), .int 1, .int (zI j)] [] ν = if wA k j = T (s + j) then aJ 1068 [.ref 2, .int (zI k), .ref (1000 + k), .int 1, .int (zI (j + 1))] [] ν else aJ 1065 [.ref 2, .int (zI (k + 1))] [] ν := by
      rw [jl_1068 _ _ _ _ _ hx, if_neg (by decide), e1293, z_b1, e1294, z_b1, h5, zI_add, hsig, z_b1, hsb]
      simp (disch := omega) only [p_le, p_eq]
      rw [if_neg (by omega)]
      by_cases c : wA k j = T (s + j)
      · rw [if_pos c, if_pos c, jl_1070, show zI j + 1 = zI (j + 1) from zI_a1 j]
      · rw [if_neg c, if_neg c, jl_1069, jl_1070, jl_1068 _ _ _ _ _ hx, if_pos rfl, jl_1071, if_pos rfl, jl_1072, show zI (k : Int) + 1 = zI (k + 1) from zI_a1 _]
    constructor
    · intro q
      rw [step, if_pos (q j (by omega) (by omega))]
      exact ih1 (fun i i0 i1 => q i (by omega) i1)
    · intro q
      rw [step]
      by_cases c : wA k j = T (s + j)
      · rw [if_pos c]
        refine ih2 (fun z => q (fun i i0 i1 => ?_))
        by_cases d : i = j
        · rw [d]; exact c
        · exact z i (by omega) i1
      · rw [if_neg c]
theorem q_kwl {T : Int → Int} {L M s n : Int} {ν : ax_M} (hT : tBy T L) (hr : rdC T L M (s + n) ν) (h5 : ν.1 2 5 = zI s) (s0 : 0 ≤ s) (n0 : 0 ≤ n) (sn : s + n ≤ L) (hl : ∀ i : Int, 0 ≤ i → i < n → 97 ≤ T (s + i) ∧ T (s + i) ≤ 122) : ∀ m : Nat, m ≤ 21 → aJ 1065 [.ref 2, .int (zI (21 - m : Nat))] [] ν = some (some (.int (zI (kwR T s n m))), ν) := by
  have hL := hT.2.1
  intro m
  induction m with
  | zero =>
    intro _
    rw [jl_1065, if_pos (by decide), jl_1073]
    rfl
  | succ m ih =>
    intro hm
    have hk : 20 - m < 21 := by omega
    have ek : 21 - (m + 1) = 20 - m := by omega
    have ek' : (((20 - m : Nat) : Int)) + 1 = ((21 - m : Nat) : Int) := by omega
    obtain ⟨w8, w2, w7, wl⟩ := wA_ok (20 - m) hk
    have e : kwR T s n (m + 1) = @ite Int (kwM T s n (20 - m)) (Classical.propDecidable _) ((20 - m : Nat) : Int) (kwR T s n m) := rfl
    have hx : 1000 + (20 - m) = 1000 ∨ 1000 + (20 - m) = 1001 ∨ 1000 + (20 - m) = 1002 ∨ 1000 + (20 - m) = 1003 ∨ 1000 + (20 - m) = 1004 ∨ 1000 + (20 - m) = 1005 ∨ 1000 + (20 - m) = 1006 ∨ 1000 + (20 - m) = 1007 ∨ 1000 + (20 - m) = 1008 ∨ 1000 + (20 - m) = 1009 ∨ 1000 + (20 - m) = 1010 ∨ 1000 + (20 - m) = 1011 ∨ 1000 + (20 - m) = 1012 ∨ 1000 + (20 - m) = 1013 ∨ 1000 + (20 - m) = 1014 ∨ 1000 + (20 - m) = 1015 ∨ 1000 + (20 - m) = 1016 ∨ 1000 + (20 - m) = 1017 ∨ 1000 + (20 - m) = 1018 ∨ 1000 + (20 - m) = 1019 ∨ 1000 + (20 - m) = 1020 ∨ 1000 + (20 - m) = 1021 := by omega
    rw [ek, jl_1065]
    simp (disch := omega) only [zI_lit, p_le]
    rw [if_neg (by omega), w_clA (20 - m) hk, z_b3, if_pos (Or.inr ⟨w8, trivial⟩), jw_1293, if_pos w8, z_b1, show Int32.ofNat (ax_sh (1000 + (20 - m))).2.1 = zI (wAn (20 - m)) from zI_ofn _, hr.2.2.1, h5, zI_sub]
    simp (disch := omega) only [p_eq]
    by_cases c : (wAn (20 - m) : Int) = s + n - s
    · have hq := q_kwi hT hr h5 s0 n0 sn hl hk (by omega) n.toNat 0 (by omega) (by omega)
      rw [if_pos c, jl_1067]
      by_cases d : kwM T s n (20 - m)
      · rw [if_pos d] at e
        rw [e]
        exact hq.1 (fun i i0 i1 => d.2 i i0 i1)
      · rw [if_neg d] at e
        rw [e, ← ih (by omega), ← ek']
        exact hq.2 (fun z => d ⟨by omega, fun i i0 i1 => z i i0 i1⟩)
    · have d : ¬ kwM T s n (20 - m) := fun z => c (by have := z.1; omega)
      rw [if_neg d] at e
      rw [if_neg c, e, ← ih (by omega), jl_1066, jl_1067, jl_1068 _ _ _ _ _ hx, if_pos rfl, jl_1071, if_pos rfl, jl_1072, ← ek', show zI ((20 - m : Nat) : Int) + 1 = zI (((20 - m : Nat) : Int) + 1) from zI_a1 _]
/-- the class reads the next token -/
theorem q_tok {T : Int → Int} {L M p : Int} {ν : ax_M} (hT : tBy T L) (hM : 0 ≤ M ∧ M ≤ 1000) (p0 : 0 ≤ p) (p1 : p ≤ L) (hr : rdC T L M p ν) : ∃ ν', aJ 1048 [.ref 2] [] ν = some (none, ν') ∧ rdC T L M (tE (tok T L M p)) ν' ∧ ν'.1 2 4 = zI (tK (tok T L M p)) ∧ ν'.1 2 5 = zI (tS (tok T L M p)) ∧ (tK (tok T L M p) = 1 → ν'.1 2 6 = zI (kw T (tok T L M p))) ∧ (tK (tok T L M p) = 2 → ν'.1 2 6 = zI (nv T (tok T L M p))) ∧ fr [2] ν ν' ∧ ∀ k, 6 < k → ν'.1 2 k = ν.1 2 k := by
  have hL := hT.2.1
  obtain ⟨ν1, a1, a2, a3, a4⟩ := q_skp hT (L - p).toNat p ν p0 (by omega) hr
  have hs := sk_r (T := T) (L := L) (L - p).toNat p (by omega)
  have hrn := rn_r (T := T) (L := L) (L - sk T L p).toNat (sk T L p) (by omega)
  generalize hsv : sk T L p = s at *
  have r5 := rdC_k (k := 5) (x := zI s) (by decide) a2
  have hmin : (if zI M < zI L then zI M else zI L) = zI (min L M) := by
    simp (disch := omega) only [p_lt]
    by_cases c : M < L
    · rw [if_pos c, Int.min_eq_right (by omega)]
    · rw [if_neg c, Int.min_eq_left (by omega)]
  have h1 : aJ 1048 [.ref 2] [] ν = if s < min L M then aJ 1052 [.ref 2] [] (ax_uD ν1 2 5 (zI s)) else aJ 1054 [] [] (ax_uD (ax_uD (ax_uD ν1 2 5 (zI s)) 2 4 0) 2 5 (zI (min L M))) := by
    have r4 := rdC_k (k := 4) (x := 0) (by decide) r5
    rw [jl_1048, a1, jl_1051, a2.2.2.1, r5.1, r5.2.1, r5.2.2.1, r4.1, r4.2.1, hmin]
    simp (disch := omega) only [p_lt]
  have ht : tok T L M p = if min L M ≤ s then (0, min L M, s) else if T s = 59 then (3, s, s + 1) else (tkd T s (rn T L s), s, rn T L s) := by
    unfold tok
    rw [hsv]
  by_cases c : min L M ≤ s
  · rw [if_pos c] at ht
    rw [ht]
    have r4 := rdC_k (k := 5) (x := zI (min L M)) (by decide) (rdC_k (k := 4) (x := 0) (by decide) r5)
    refine ⟨ax_uD (ax_uD (ax_uD ν1 2 5 (zI s)) 2 4 0) 2 5 (zI (min L M)), ?_, r4, ?_, uD_at, fun q => ?_, fun q => ?_, frt a3 (frt (fr_uD (by simp)) (frt (fr_uD (by simp)) (fr_uD (by simp)))), fun k hk => ?_⟩
    · rw [h1, if_neg (by omega), jl_1054]
    · rw [uD_nk (by decide), uD_at]
      rfl
    · exact absurd q (by show ¬ (0 : Int) = 1; omega)
    · exact absurd q (by show ¬ (0 : Int) = 2; omega)
    · rw [uD_nk (by omega), uD_nk (by omega), uD_nk (by omega), a4 k (by omega)]
  · rw [if_neg c] at ht
    have hb := hT.2.2 s (by omega) (by omega)
    have hbr := sby_r hb
    have e59 := sby_e hb (k := 59) (by omega) (by omega)
    have hsig := q_sig hT r5 (i := s) (by omega) (by omega)
    have h2 : aJ 1048 [.ref 2] [] ν = if T s = 59 then aJ 1054 [] [] (ax_uD (ax_uD (ax_uD ν1 2 5 (zI s)) 2 4 3) 2 3 (zI (s + 1))) else aJ 1053 [.ref 2] [] (ax_uD ν1 2 5 (zI s)) := by
      rw [h1, if_pos (by omega), jl_1052, r5.2.2.1, hsig, z_b1, (rdC_k (k := 4) (x := 3) (by decide) r5).2.2.1, zI_a1]
      simp (disch := omega) only [zI_lit, p_eq]
      by_cases d : T s = 59
      · rw [if_pos d, if_pos (by omega)]
      · rw [if_neg d, if_neg (by omega)]
    by_cases d : T s = 59
    · rw [if_pos d] at ht
      rw [ht]
      have r3 := rdC_3 (p' := s + 1) (rdC_k (k := 4) (x := 3) (by decide) r5)
      refine ⟨ax_uD (ax_uD (ax_uD ν1 2 5 (zI s)) 2 4 3) 2 3 (zI (s + 1)), ?_, r3, ?_, ?_, fun q => ?_, fun q => ?_, frt a3 (frt (fr_uD (by simp)) (frt (fr_uD (by simp)) (fr_uD (by simp)))), fun k hk => ?_⟩
      · rw [h2, if_pos d, jl_1054]
      · rw [uD_nk (by decide), uD_at]
        rfl
      · rw [uD_nk (by decide), uD_nk (by decide), uD_at]
        rfl
      · exact absurd q (by show ¬ (3 : Int) = 1; omega)
      · exact absurd q (by show ¬ (3 : Int) = 2; omega)
      · rw [uD_nk (by omega), uD_nk (by omega), uD_nk (by omega), a4 k (by omega)]
    · rw [if_neg d] at ht
      have htw := tok_w (T := T) (L := L) (M := M) p0 p1
      rw [ht] at htw ⊢
      have hr0 : rdC T L M (s + ((0 : Nat) : Int)) (ax_uD ν1 2 5 (zI s)) := by
        rw [show s + ((0 : Nat) : Int) = s by omega]
        exact r5
      obtain ⟨ν2, e, x', b1, b2, b3, b4, b5, b6⟩ := q_rnl hT (by omega) (L - s).toNat 0 (zI 0) (ax_uD ν1 2 5 (zI s)) (by omega) hr0 ⟨fun _ => rfl, fun q => by omega, fun q => by omega⟩ (fun i i0 i1 => by omega)
      rw [show s + ((0 : Nat) : Int) = s by omega] at b2
      obtain ⟨ν3, c1, c2, c3, c4, c5⟩ := q_kd (T := T) (s := s) (e := e) (ν := ν2) (by omega) b3
      rw [b2] at b4 c2 c3
      have n0 : nW T s 0 = 0 := rfl
      have h3 : aJ 1055 [.ref 2] [] (ax_uD ν1 2 5 (zI s)) = some (none, ν3) := by
        rw [jl_1055, show (0 : Int32) = zI 0 from rfl]
        rw [n0, show ((0 : Nat) : Int) - 0 = 0 by omega] at b1
        rw [b1]
        exact c1
      have r3 : rdC T L M (rn T L s) ν3 := by
        obtain ⟨q1, q2, q3, q4⟩ := b4
        exact ⟨(c5 1 (by decide) (by decide)).trans q1, (c5 2 (by decide) (by decide)).trans q2, (c5 3 (by decide) (by decide)).trans q3, rP_e (c4.2 1 (by decide)) q4⟩
      have h5 : ν3.1 2 5 = zI s := (c5 5 (by decide) (by decide)).trans ((b6 5 (by decide)).trans uD_at)
      have g7 : ∀ k, 6 < k → ν3.1 2 k = ν.1 2 k := fun k hk => (c5 k (by omega) (by omega)).trans ((b6 k (by omega)).trans ((uD_nk (by omega) 2).trans (a4 k (by omega))))
      have f3 : fr [2] ν ν3 := frt a3 (frt (fr_uD (by simp)) (frt b5 c4))
      show ∃ ν', aJ 1048 [.ref 2] [] ν = some (none, ν') ∧ rdC T L M (rn T L s) ν' ∧ ν'.1 2 4 = zI (tkd T s (rn T L s)) ∧ ν'.1 2 5 = zI s ∧ (tkd T s (rn T L s) = 1 → ν'.1 2 6 = zI (kw T (tkd T s (rn T L s), s, rn T L s))) ∧ (tkd T s (rn T L s) = 2 → ν'.1 2 6 = zI (nv T (tkd T s (rn T L s), s, rn T L s))) ∧ fr [2] ν ν' ∧ ∀ k, 6 < k → ν'.1 2 k = ν.1 2 k
      have hkr : 0 ≤ tkd T s (rn T L s) ∧ tkd T s (rn T L s) ≤ 4 := by
        have := (tok_r (T := T) (L := L) (M := M) p0 p1 hM.1).2.2.2.2.1
        rw [ht] at this
        exact this
      by_cases k1 : tkd T s (rn T L s) = 1
      · obtain ⟨w1, w2, w3⟩ := htw k1
        have w1' : 1 ≤ rn T L s - s := w1
        have w3' : ∀ i : Int, 0 ≤ i → i < rn T L s - s → 97 ≤ T (s + i) ∧ T (s + i) ≤ 122 := w3
        have hk := q_kwl (n := rn T L s - s) hT (by rw [show s + (rn T L s - s) = rn T L s by omega]; exact r3) h5 (by omega) (by omega) (by omega) w3' 21 (by omega)
        refine ⟨ax_uD ν3 2 6 (zI (kw T (tkd T s (rn T L s), s, rn T L s))), ?_, rdC_k (by decide) r3, ?_, ?_, fun _ => uD_at, fun q => by omega, frt f3 (fr_uD (by simp)), fun k hk => (uD_nk (by omega) 2).trans (g7 k hk)⟩
        · rw [h2, if_neg d, jl_1053, h3, z_b0, c2]
          simp (disch := omega) only [zI_lit, p_eq]
          rw [if_pos k1, jl_1064, show (0 : Int32) = zI ((21 - 21 : Nat) : Int) from rfl, hk, z_b1, jl_1054]
          rfl
        · rw [uD_nk (by decide)]
          exact c2
        · rw [uD_nk (by decide)]
          exact h5
      · refine ⟨ν3, ?_, r3, c2, h5, fun q => absurd q k1, fun q => ?_, f3, g7⟩
        · rw [h2, if_neg d, jl_1053, h3, z_b0, c2]
          simp (disch := omega) only [zI_lit, p_eq]
          rw [if_neg k1, jl_1054]
        · rw [c3 q]
          rfl
