/-! o: the words on the reference's side -/
/-- the reference's number of a word of the class, and back -/
def cwr (c : Int) : Int := if c < 8 then c else if c ≤ 13 then c + 7 else if c = 14 then 10 else if c ≤ 18 then c - 4 else if c = 19 then 8 else 9
def crw (k : Nat) : Nat := if k < 8 then k else if k = 8 then 19 else if k = 9 then 20 else if k = 10 then 14 else if k ≤ 14 then k + 4 else k - 7
theorem crw_l {k : Nat} (h : k < 21) : crw k < 21 ∧ cwr (crw k) = k := (by decide : ∀ k : Nat, k < 21 → crw k < 21 ∧ cwr (crw k) = k) k h
theorem cwr_r {c : Int} (h0 : 0 ≤ c) (h1 : c ≤ 20) : 0 ≤ cwr c ∧ cwr c ≤ 20 ∧ (crw (cwr c).toNat : Int) = c := by
  have h := (by decide : ∀ k : Nat, k < 21 → 0 ≤ cwr k ∧ cwr k ≤ 20 ∧ (crw (cwr k).toNat : Int) = k) c.toNat (by omega)
  rwa [show ((c.toNat : Nat) : Int) = c by omega] at h
theorem w_rfA {ν : ax_M} : ∀ k : Nat, k < 21 → aJ 51 [.int (zI k)] [] ν = some (some (.long (zL (qen (wA (crw k)) (wAn (crw k))))), ν) := by
  intro k hk
  have hh : k = 0 ∨ k = 1 ∨ k = 2 ∨ k = 3 ∨ k = 4 ∨ k = 5 ∨ k = 6 ∨ k = 7 ∨ k = 8 ∨ k = 9 ∨ k = 10 ∨ k = 11 ∨ k = 12 ∨ k = 13 ∨ k = 14 ∨ k = 15 ∨ k = 16 ∨ k = 17 ∨ k = 18 ∨ k = 19 ∨ k = 20 := by omega
  rcases hh with rfl | rfl | rfl | rfl | rfl | rfl | rfl | rfl | rfl | rfl | rfl | rfl | rfl | rfl | rfl | rfl | rfl | rfl | rfl | rfl | rfl
  · rw [jl_51, if_pos (by decide), jl_52, jl_45, if_neg (by decide), jl_46, if_neg (by decide), jl_47, if_neg (by decide), jl_48, if_neg (by decide), jl_49, if_neg (by decide), jl_50, z_b2]
    exact congrArg (fun x => some (some (Value.long x), ν)) (by decide +kernel)
  · rw [jl_51, if_neg (by decide), if_pos (by decide), jl_53, jl_45, if_neg (by decide), jl_46, if_neg (by decide), jl_47, if_neg (by decide), jl_48, if_pos (by decide), jl_49, if_pos (by decide), jl_50, z_b2]
    exact congrArg (fun x => some (some (Value.long x), ν)) (by decide +kernel)
  · rw [jl_51, if_neg (by decide), if_neg (by decide), if_pos (by decide), jl_54, jl_45, if_neg (by decide), jl_46, if_neg (by decide), jl_47, if_pos (by decide), jl_48, if_pos (by decide), jl_49, if_pos (by decide), jl_50, z_b2]
    exact congrArg (fun x => some (some (Value.long x), ν)) (by decide +kernel)
  · rw [jl_51, if_neg (by decide), if_neg (by decide), if_neg (by decide), if_pos (by decide), jl_55, jl_45, if_neg (by decide), jl_46, if_neg (by decide), jl_47, if_neg (by decide), jl_48, if_neg (by decide), jl_49, if_pos (by decide), jl_50, z_b2]
    exact congrArg (fun x => some (some (Value.long x), ν)) (by decide +kernel)
  · rw [jl_51, if_neg (by decide), if_neg (by decide), if_neg (by decide), if_neg (by decide), if_pos (by decide), jl_56, jl_45, if_neg (by decide), jl_46, if_neg (by decide), jl_47, if_neg (by decide), jl_48, if_neg (by decide), jl_49, if_pos (by decide), jl_50, z_b2]
    exact congrArg (fun x => some (some (Value.long x), ν)) (by decide +kernel)
  · rw [jl_51, if_neg (by decide), if_neg (by decide), if_neg (by decide), if_neg (by decide), if_neg (by decide), if_pos (by decide), jl_57, jl_45, if_neg (by decide), jl_46, if_neg (by decide), jl_47, if_neg (by decide), jl_48, if_neg (by decide), jl_49, if_pos (by decide), jl_50, z_b2]
    exact congrArg (fun x => some (some (Value.long x), ν)) (by decide +kernel)
  · rw [jl_51, if_neg (by decide), if_neg (by decide), if_neg (by decide), if_neg (by decide), if_neg (by decide), if_neg (by decide), if_pos (by decide), jl_58, jl_45, if_neg (by decide), jl_46, if_neg (by decide), jl_47, if_neg (by decide), jl_48, if_neg (by decide), jl_49, if_pos (by decide), jl_50, z_b2]
    exact congrArg (fun x => some (some (Value.long x), ν)) (by decide +kernel)
  · rw [jl_51, if_neg (by decide), if_neg (by decide), if_neg (by decide), if_neg (by decide), if_neg (by decide), if_neg (by decide), if_neg (by decide), if_pos (by decide), jl_59, jl_45, if_neg (by decide), jl_46, if_pos (by decide), jl_47, if_pos (by decide), jl_48, if_pos (by decide), jl_49, if_pos (by decide), jl_50, z_b2]
    exact congrArg (fun x => some (some (Value.long x), ν)) (by decide +kernel)
  · rw [jl_51, if_neg (by decide), if_neg (by decide), if_neg (by decide), if_neg (by decide), if_neg (by decide), if_neg (by decide), if_neg (by decide), if_neg (by decide), if_pos (by decide), jl_60, jl_45, if_neg (by decide), jl_46, if_neg (by decide), jl_47, if_pos (by decide), jl_48, if_pos (by decide), jl_49, if_pos (by decide), jl_50, z_b2]
    exact congrArg (fun x => some (some (Value.long x), ν)) (by decide +kernel)
  · rw [jl_51, if_neg (by decide), if_neg (by decide), if_neg (by decide), if_neg (by decide), if_neg (by decide), if_neg (by decide), if_neg (by decide), if_neg (by decide), if_neg (by decide), if_pos (by decide), jl_61, jl_45, if_neg (by decide), jl_46, if_neg (by decide), jl_47, if_pos (by decide), jl_48, if_pos (by decide), jl_49, if_pos (by decide), jl_50, z_b2]
    exact congrArg (fun x => some (some (Value.long x), ν)) (by decide +kernel)
  · rw [jl_51, if_neg (by decide), if_neg (by decide), if_neg (by decide), if_neg (by decide), if_neg (by decide), if_neg (by decide), if_neg (by decide), if_neg (by decide), if_neg (by decide), if_neg (by decide), if_pos (by decide), jl_62, jl_45, if_neg (by decide), jl_46, if_neg (by decide), jl_47, if_pos (by decide), jl_48, if_pos (by decide), jl_49, if_pos (by decide), jl_50, z_b2]
    exact congrArg (fun x => some (some (Value.long x), ν)) (by decide +kernel)
  · rw [jl_51, if_neg (by decide), if_neg (by decide), if_neg (by decide), if_neg (by decide), if_neg (by decide), if_neg (by decide), if_neg (by decide), if_neg (by decide), if_neg (by decide), if_neg (by decide), if_neg (by decide), if_pos (by decide), jl_63, jl_45, if_neg (by decide), jl_46, if_neg (by decide), jl_47, if_pos (by decide), jl_48, if_pos (by decide), jl_49, if_pos (by decide), jl_50, z_b2]
    exact congrArg (fun x => some (some (Value.long x), ν)) (by decide +kernel)
  · rw [jl_51, if_neg (by decide), if_neg (by decide), if_neg (by decide), if_neg (by decide), if_neg (by decide), if_neg (by decide), if_neg (by decide), if_neg (by decide), if_neg (by decide), if_neg (by decide), if_neg (by decide), if_neg (by decide), if_pos (by decide), jl_64, jl_45, if_pos (by decide), jl_46, if_pos (by decide), jl_47, if_pos (by decide), jl_48, if_pos (by decide), jl_49, if_pos (by decide), jl_50, z_b2]
    exact congrArg (fun x => some (some (Value.long x), ν)) (by decide +kernel)
  · rw [jl_51, if_neg (by decide), if_neg (by decide), if_neg (by decide), if_neg (by decide), if_neg (by decide), if_neg (by decide), if_neg (by decide), if_neg (by decide), if_neg (by decide), if_neg (by decide), if_neg (by decide), if_neg (by decide), if_neg (by decide), if_pos (by decide), jl_65, jl_45, if_neg (by decide), jl_46, if_neg (by decide), jl_47, if_neg (by decide), jl_48, if_pos (by decide), jl_49, if_pos (by decide), jl_50, z_b2]
    exact congrArg (fun x => some (some (Value.long x), ν)) (by decide +kernel)
  · rw [jl_51, if_neg (by decide), if_neg (by decide), if_neg (by decide), if_neg (by decide), if_neg (by decide), if_neg (by decide), if_neg (by decide), if_neg (by decide), if_neg (by decide), if_neg (by decide), if_neg (by decide), if_neg (by decide), if_neg (by decide), if_neg (by decide), if_pos (by decide), jl_66, jl_45, if_neg (by decide), jl_46, if_neg (by decide), jl_47, if_pos (by decide), jl_48, if_pos (by decide), jl_49, if_pos (by decide), jl_50, z_b2]
    exact congrArg (fun x => some (some (Value.long x), ν)) (by decide +kernel)
  · rw [jl_51, if_neg (by decide), if_neg (by decide), if_neg (by decide), if_neg (by decide), if_neg (by decide), if_neg (by decide), if_neg (by decide), if_neg (by decide), if_neg (by decide), if_neg (by decide), if_neg (by decide), if_neg (by decide), if_neg (by decide), if_neg (by decide), if_neg (by decide), if_pos (by decide), jl_67, jl_45, if_neg (by decide), jl_46, if_pos (by decide), jl_47, if_pos (by decide), jl_48, if_pos (by decide), jl_49, if_pos (by decide), jl_50, z_b2]
    exact congrArg (fun x => some (some (Value.long x), ν)) (by decide +kernel)
  · rw [jl_51, if_neg (by decide), if_neg (by decide), if_neg (by decide), if_neg (by decide), if_neg (by decide), if_neg (by decide), if_neg (by decide), if_neg (by decide), if_neg (by decide), if_neg (by decide), if_neg (by decide), if_neg (by decide), if_neg (by decide), if_neg (by decide), if_neg (by decide), if_neg (by decide), if_pos (by decide), jl_68, jl_45, if_neg (by decide), jl_46, if_pos (by decide), jl_47, if_pos (by decide), jl_48, if_pos (by decide), jl_49, if_pos (by decide), jl_50, z_b2]
    exact congrArg (fun x => some (some (Value.long x), ν)) (by decide +kernel)
  · rw [jl_51, if_neg (by decide), if_neg (by decide), if_neg (by decide), if_neg (by decide), if_neg (by decide), if_neg (by decide), if_neg (by decide), if_neg (by decide), if_neg (by decide), if_neg (by decide), if_neg (by decide), if_neg (by decide), if_neg (by decide), if_neg (by decide), if_neg (by decide), if_neg (by decide), if_neg (by decide), if_pos (by decide), jl_69, jl_45, if_neg (by decide), jl_46, if_neg (by decide), jl_47, if_neg (by decide), jl_48, if_pos (by decide), jl_49, if_pos (by decide), jl_50, z_b2]
    exact congrArg (fun x => some (some (Value.long x), ν)) (by decide +kernel)
  · rw [jl_51, if_neg (by decide), if_neg (by decide), if_neg (by decide), if_neg (by decide), if_neg (by decide), if_neg (by decide), if_neg (by decide), if_neg (by decide), if_neg (by decide), if_neg (by decide), if_neg (by decide), if_neg (by decide), if_neg (by decide), if_neg (by decide), if_neg (by decide), if_neg (by decide), if_neg (by decide), if_neg (by decide), if_pos (by decide), jl_70, jl_45, if_neg (by decide), jl_46, if_neg (by decide), jl_47, if_neg (by decide), jl_48, if_pos (by decide), jl_49, if_pos (by decide), jl_50, z_b2]
    exact congrArg (fun x => some (some (Value.long x), ν)) (by decide +kernel)
  · rw [jl_51, if_neg (by decide), if_neg (by decide), if_neg (by decide), if_neg (by decide), if_neg (by decide), if_neg (by decide), if_neg (by decide), if_neg (by decide), if_neg (by decide), if_neg (by decide), if_neg (by decide), if_neg (by decide), if_neg (by decide), if_neg (by decide), if_neg (by decide), if_neg (by decide), if_neg (by decide), if_neg (by decide), if_neg (by decide), if_pos (by decide), jl_71, jl_45, if_neg (by decide), jl_46, if_pos (by decide), jl_47, if_pos (by decide), jl_48, if_pos (by decide), jl_49, if_pos (by decide), jl_50, z_b2]
    exact congrArg (fun x => some (some (Value.long x), ν)) (by decide +kernel)
  · rw [jl_51, if_neg (by decide), if_neg (by decide), if_neg (by decide), if_neg (by decide), if_neg (by decide), if_neg (by decide), if_neg (by decide), if_neg (by decide), if_neg (by decide), if_neg (by decide), if_neg (by decide), if_neg (by decide), if_neg (by decide), if_neg (by decide), if_neg (by decide), if_neg (by decide), if_neg (by decide), if_neg (by decide), if_neg (by decide), if_neg (by decide), jl_72, jl_45, if_neg (by decide), jl_46, if_neg (by decide), jl_47, if_pos (by decide), jl_48, if_pos (by decide), jl_49, if_pos (by decide), jl_50, z_b2]
    exact congrArg (fun x => some (some (Value.long x), ν)) (by decide +kernel)
theorem cmp0 {x y : Int64} : lg_cmp x y = 0 ↔ x = y := by
  unfold lg_cmp
  by_cases h : y < x
  · rw [if_pos h]
    constructor
    · intro q
      exact absurd q (by decide)
    · intro q
      subst q
      exact absurd h Int64.lt_irrefl
  · rw [if_neg h]
    by_cases e : x = y
    · rw [if_pos e]
      exact ⟨fun _ => e, fun _ => rfl⟩
    · rw [if_neg e]
      exact ⟨fun q => absurd q (by decide), fun q => absurd q e⟩
/-- what a token must be: a word's signs are letters -/
def tWd (T : Int → Int) (t : Int × Int × Int) : Prop := tK t = 1 → 1 ≤ tE t - tS t ∧ tE t - tS t ≤ 7 ∧ ∀ i : Int, 0 ≤ i → i < tE t - tS t → 97 ≤ T (tS t + i) ∧ T (tS t + i) ≤ 122
theorem cd_eq {T : Int → Int} {t : Int × Int × Int} {s : Int → Int} {n : Nat} (ht : tWd T t) (hk : tK t = 1) (hn : n ≤ 7) (hs : ∀ i : Int, 0 ≤ i → i < n → 97 ≤ s i ∧ s i ≤ 122) : tcd T t = zL (qen s n) ↔ ((n : Int) = tE t - tS t ∧ ∀ i : Int, 0 ≤ i → i < tE t - tS t → s i = T (tS t + i)) := by
  obtain ⟨h1, h2, h3⟩ := ht hk
  unfold tcd
  rw [zL_inj (fun i i0 i1 => h3 i i0 (by omega)) hs (by omega) hn]
  constructor
  · rintro ⟨a, b⟩
    exact ⟨by omega, fun i i0 i1 => (b i i0 (by omega)).symm⟩
  · rintro ⟨a, b⟩
    exact ⟨by omega, fun i i0 i1 => (b i i0 (by omega)).symm⟩
theorem q_isk {T : Int → Int} {L M : Int} {t : Int × Int × Int} {ν : ax_M} {k : Nat} (ht : tWd T t) (hr : rtM T L M t ν) (hk : tK t = 1) (k1 : k < 21) : lg_cmp (ν.2 207 12) (zL (qen (wA (crw k)) (wAn (crw k)))) = 0 ↔ kw T t = crw k := by
  obtain ⟨c1, c2⟩ := crw_l k1
  obtain ⟨w8, w2, w7, wl⟩ := wA_ok (crw k) c1
  rw [cmp0, hr.2.2.2.2.1 hk, cd_eq ht hk w7 (fun i i0 i1 => by
    have := wl i.toNat (by omega)
    rwa [show ((i.toNat : Nat) : Int) = i by omega] at this), kw_iff c1]
  exact Iff.rfl
theorem q_isz {T : Int → Int} {L M : Int} {t : Int × Int × Int} {ν : ax_M} {k : Nat} (ht : tWd T t) (hr : rtM T L M t ν) (hk : tK t = 1) (k1 : k < 21) : lg_cmp (ν.2 207 12) (zL (qen (wA (crw k)) (wAn (crw k)))) = zI 0 ↔ kw T t = crw k := q_isk ht hr hk k1
theorem rk_w {L M : Int} {t : Int × Int × Int} (h : 0 ≤ tK t ∧ tK t ≤ 4) : (rkd L M t = 2 ↔ tK t = 1) ∧ (rkd L M t = 3 ↔ tK t = 2) ∧ (rkd L M t = 4 ↔ tK t = 3) ∧ (rkd L M t = 0 ↔ tK t = 0 ∧ L ≤ M) ∧ (rkd L M t = 1 ↔ tK t = 4 ∨ (tK t = 0 ∧ M < L)) ∧ 0 ≤ rkd L M t ∧ rkd L M t ≤ 4 := by
  unfold rkd
  by_cases h0 : tK t = 0
  · rw [if_pos h0]
    split <;> omega
  rw [if_neg h0]
  by_cases h1 : tK t = 1
  · rw [if_pos h1]
    omega
  rw [if_neg h1]
  by_cases h2 : tK t = 2
  · rw [if_pos h2]
    omega
  rw [if_neg h2]
  by_cases h3 : tK t = 3
  · rw [if_pos h3]
    omega
  rw [if_neg h3]
  omega
theorem q_whl {T : Int → Int} {L M b : Int} {t : Int × Int × Int} {ν : ax_M} (h4 : 0 ≤ tK t ∧ tK t ≤ 4) (ht : tWd T t) (hr : rtM T L M t ν) (b1 : b ≤ 20) : ∀ (m : Nat) (k : Nat), (k : Int) + m = b + 1 → aJ 74 [.ref 207, .int (zI b), .int (zI k)] [] ν = some (some (.int (zI (if tK t = 1 ∧ kw T t ≠ -1 ∧ k ≤ cwr (kw T t) ∧ cwr (kw T t) ≤ b then cwr (kw T t) else -1))), ν) := by
  obtain ⟨r2, r3, r4, r0, r1, rl, ru⟩ := rk_w (L := L) (M := M) h4
  have hkr := kw_r (T := T) (t := t)
  intro m
  induction m with
  | zero =>
    intro k hk
    rw [jl_74]
    simp (disch := omega) only [p_lt]
    rw [if_pos (by omega), jl_76, if_neg (by omega)]
    rfl
  | succ m ih =>
    intro k hk
    have k1 : k < 21 := by omega
    obtain ⟨c1, c2⟩ := crw_l k1
    have ih' := ih (k + 1) (by omega)
    have hn : ((k + 1 : Nat) : Int) = (k : Int) + 1 := by omega
    rw [jl_74, hr.2.2.1, w_rfA k k1, z_b2]
    simp (disch := omega) only [zI_lit, p_lt, p_eq]
    rw [if_neg (by omega)]
    by_cases c : tK t = 1
    · rw [if_pos (r2.mpr c)]
      by_cases d : kw T t = crw k
      · rw [if_pos ((q_isz ht hr c k1).mpr d), if_pos ⟨c, by omega, by rw [d, c2]; omega, by rw [d, c2]; omega⟩, d, c2]
      · rw [if_neg (fun z => d ((q_isz ht hr c k1).mp z)), jl_75, show zI (k : Int) + 1 = zI ((k + 1 : Nat) : Int) by rw [zI_a1, hn], ih']
        have hne : kw T t ≠ -1 → cwr (kw T t) ≠ k := by
          intro z q
          have := (cwr_r (c := kw T t) (by omega) (by omega)).2.2
          rw [q, Int.toNat_natCast] at this
          exact d this.symm
        by_cases e : tK t = 1 ∧ kw T t ≠ -1 ∧ ((k + 1 : Nat) : Int) ≤ cwr (kw T t) ∧ cwr (kw T t) ≤ b
        · rw [if_pos e, if_pos ⟨e.1, e.2.1, by omega, e.2.2.2⟩]
        · rw [if_neg e, if_neg (fun z => e ⟨z.1, z.2.1, by have := hne z.2.1; omega, z.2.2.2⟩)]
    · rw [if_neg (fun z => c (r2.mp z)), jl_75, show zI (k : Int) + 1 = zI ((k + 1 : Nat) : Int) by rw [zI_a1, hn], ih', if_neg (fun z => c z.1), if_neg (fun z => c z.1)]
theorem q_wh {T : Int → Int} {L M a b : Int} {t : Int × Int × Int} {ν : ax_M} (h4 : 0 ≤ tK t ∧ tK t ≤ 4) (ht : tWd T t) (hr : rtM T L M t ν) (a0 : 0 ≤ a) (ab : a ≤ b + 1) (b1 : b ≤ 20) : aJ 73 [.ref 207, .int (zI a), .int (zI b)] [] ν = some (some (.int (zI (if tK t = 1 ∧ kw T t ≠ -1 ∧ a ≤ cwr (kw T t) ∧ cwr (kw T t) ≤ b then cwr (kw T t) else -1))), ν) := by
  have h := q_whl h4 ht hr b1 (b + 1 - a).toNat a.toNat (by omega)
  rw [show ((a.toNat : Nat) : Int) = a by omega] at h
  rw [jl_73, h]
theorem q_rwd {T : Int → Int} {L M : Int} {t : Int × Int × Int} {ν : ax_M} {k : Nat} (h4 : 0 ≤ tK t ∧ tK t ≤ 4) (ht : tWd T t) (hr : rtM T L M t ν) (k1 : k < 21) : aJ 77 [.ref 207, .int (zI k)] [] ν = some (some (.int (zB (decide (tK t = 1 ∧ kw T t = crw k)))), ν) := by
  obtain ⟨r2, r3, r4, r0, r1, rl, ru⟩ := rk_w (L := L) (M := M) h4
  rw [jl_77, hr.2.2.1, w_rfA k k1, z_b2]
  simp (disch := omega) only [zI_lit, p_eq]
  by_cases c : tK t = 1
  · rw [if_pos (r2.mpr c)]
    by_cases d : kw T t = crw k
    · rw [if_pos ((q_isz ht hr c k1).mpr d), jl_79, if_pos (by decide), decide_eq_true ⟨c, d⟩]
      rfl
    · rw [if_neg (fun z => d ((q_isz ht hr c k1).mp z)), jl_78, jl_79, if_pos (Or.inl rfl), decide_eq_false (fun z => d z.2)]
      rfl
  · rw [if_neg (fun z => c (r2.mp z)), jl_78, jl_79, if_pos (Or.inl rfl), decide_eq_false (fun z => c z.1)]
    rfl
theorem q_rnmd {T : Int → Int} {L M : Int} {t : Int × Int × Int} {ν : ax_M} (h4 : 0 ≤ tK t ∧ tK t ≤ 4) (ht : tWd T t) (hr : rtM T L M t ν) : aJ 80 [.ref 207] [] ν = some (some (.int (zB (decide (tK t = 1 ∧ kw T t = -1)))), ν) := by
  obtain ⟨r2, r3, r4, r0, r1, rl, ru⟩ := rk_w (L := L) (M := M) h4
  have hkr := kw_r (T := T) (t := t)
  have h := q_wh (a := 0) (b := 20) h4 ht hr (by omega) (by omega) (by omega)
  rw [jl_80, hr.2.2.1, show (0 : Int32) = zI 0 from rfl, show (20 : Int32) = zI 20 from rfl, h, z_b1]
  simp (disch := omega) only [zI_lit, p_eq]
  by_cases c : tK t = 1
  · rw [if_pos (r2.mpr c)]
    by_cases d : kw T t = -1
    · rw [if_neg (show ¬ (tK t = 1 ∧ kw T t ≠ -1 ∧ 0 ≤ cwr (kw T t) ∧ cwr (kw T t) ≤ 20) from fun z => z.2.1 d), if_pos (by decide), jl_82, if_pos (by decide), decide_eq_true ⟨c, d⟩]
      rfl
    · have hc := cwr_r (c := kw T t) (by omega) (by omega)
      rw [if_pos (show tK t = 1 ∧ kw T t ≠ -1 ∧ 0 ≤ cwr (kw T t) ∧ cwr (kw T t) ≤ 20 from ⟨c, d, hc.1, hc.2.1⟩), if_neg (fun z => by
        have := (zI_eq (b := -1) (zR_of (by omega)) (zR_of (by omega))).mp z
        omega), jl_81, jl_82, if_pos (Or.inl rfl), decide_eq_false (fun z => d z.2)]
      rfl
  · rw [if_neg (fun z => c (r2.mp z)), jl_81, jl_82, if_pos (Or.inl rfl), decide_eq_false (fun z => c z.1)]
    rfl
/-- a fault is noted -/
def mBad (L M : Int) (t : Int × Int × Int) (k : Int) (ν : ax_M) : ax_M := ax_uD (ax_uD ν 207 9 (zI (if rkd L M t = 1 then 1 else k))) 207 11 (zI (tS t))
theorem q_bad {T : Int → Int} {L M k : Int} {t : Int × Int × Int} {ν : ax_M} (h4 : 0 ≤ tK t ∧ tK t ≤ 4) (hr : rtM T L M t ν) : aJ 83 [.ref 207, .int (zI k)] [] ν = some (some (.int 0), mBad L M t k ν) := by
  obtain ⟨r2, r3, r4, r0, r1, rl, ru⟩ := rk_w (L := L) (M := M) h4
  have e6 : ∀ x : Int32, (ax_uD ν 207 9 x).1 207 6 = zI (tS t) := fun x => (uD_nk (by decide) 207).trans hr.2.1
  unfold mBad
  rw [jl_83, hr.2.2.1]
  simp (disch := omega) only [zI_lit, p_eq]
  by_cases c : rkd L M t = 1
  · rw [if_pos c, if_pos c, jl_85, e6]
    simp only [zI_lit]
  · rw [if_neg c, if_neg c, jl_84, jl_85, e6]
    simp only [zI_lit]
theorem q_bad' {T : Int → Int} {L M k : Int} {t : Int × Int × Int} {ν : ax_M} (h4 : 0 ≤ tK t ∧ tK t ≤ 4) (hr : rtM T L M t ν) : (ax_b1 (aJ 83 [.ref 207, .int (zI k)] [] ν) fun v2 μ1 => if v2 = 0 ∨ v2 = 1 then some (some (Value.int v2), μ1) else none) = some (some (.int 0), mBad L M t k ν) := by
  rw [q_bad h4 hr, z_b1, if_pos (Or.inl rfl)]
