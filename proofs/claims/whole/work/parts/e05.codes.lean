/-! l: names on the reference's side -/
def zL (a : Int) : Int64 := Int64.ofInt a
def zLR (a : Int) : Prop := 0 ≤ a ∧ a < 4000000000000000000
theorem zL_to {a : Int} (h : zLR a) : (zL a).toInt = a := by
  obtain ⟨h1, h2⟩ := h
  exact Int64.toInt_ofInt_of_le (by omega) (by omega)
theorem zL_lt {a b : Int} (ha : zLR a) (hb : zLR b) : zL a < zL b ↔ a < b := by rw [Int64.lt_iff_toInt_lt, zL_to ha, zL_to hb]
theorem zL_eq {a b : Int} (ha : zLR a) (hb : zLR b) : zL a = zL b ↔ a = b := by rw [← Int64.toInt_inj, zL_to ha, zL_to hb]
theorem zL_27 {a : Int} (ha : zLR a) : zL a / 27 = zL (a / 27) := by
  obtain ⟨h1, h2⟩ := ha
  rw [← Int64.toInt_inj]
  have e2 : (27 : Int64).toInt = 27 := by decide
  rw [Int64.toInt_div_of_ne_right _ _ (by decide), zL_to ⟨h1, h2⟩, e2, zL_to (by unfold zLR; omega), Int.tdiv_eq_ediv_of_nonneg h1]
theorem zL_cmp {a : Int} (ha : zLR a) : (lg_cmp (zL a) 27 < 0) ↔ a < 27 := by
  have e : (27 : Int64) = zL 27 := by decide
  unfold lg_cmp
  rw [e]
  by_cases c : a < 27
  · rw [if_neg (fun q => by
      have := (zL_lt (by unfold zLR; omega) ha).mp q
      omega), if_neg (fun q => by
      have := (zL_eq ha (by unfold zLR; omega)).mp q
      omega)]
    exact ⟨fun _ => c, fun _ => by decide⟩
  · by_cases d : a = 27
    · rw [d, if_neg (by decide), if_pos rfl]
      exact ⟨fun q => absurd q (by decide), fun q => by omega⟩
    · rw [if_pos ((zL_lt (by unfold zLR; omega) ha).mpr (by omega))]
      exact ⟨fun q => absurd q (by decide), fun q => by omega⟩
theorem zL_mod {a : Int} (ha : zLR a) : (96 : Int32) + (zL a - (zL a / 27) * 27).toInt32 = zI (96 + a % 27) := by
  have e : (27 : Int64) = zL 27 := by decide
  have h1 : (zL a - (zL a / 27) * 27).toInt = a % 27 := by
    rw [zL_27 ha, e]
    have : zL a - zL (a / 27) * zL 27 = zL (a - a / 27 * 27) := by
      unfold zL
      rw [← Int64.ofInt_mul, ← Int64.ofInt_sub]
    rw [this, show a - a / 27 * 27 = a % 27 by omega, zL_to (by unfold zLR; omega)]
  have h2 : (zL a - (zL a / 27) * 27).toInt32 = zI (a % 27) := by
    apply Int32.toInt_inj.mp
    rw [Int64.toInt_toInt32, h1, zI_toInt (by unfold zR; omega)]
    rw [Int.bmod_def]
    split <;> omega
  rw [h2, show (96 : Int32) = zI 96 from rfl, zI_add]
def p27 : Nat → Int
  | 0 => 1
  | n + 1 => 27 * p27 n
theorem p27_7 : ∀ m : Nat, m < 8 → 1 ≤ p27 m ∧ p27 m ≤ 10460353203 := by decide +kernel
theorem qen_s {s : Int → Int} {m : Nat} : qen s (m + 1) = 27 * qen s m + s m - 96 := rfl
theorem qen_b {s : Int → Int} : ∀ m : Nat, (∀ i : Int, 0 ≤ i → i < m → 97 ≤ s i ∧ s i ≤ 122) → 0 ≤ qen s m ∧ qen s m < p27 m ∧ (1 ≤ m → 1 ≤ qen s m) := by
  intro m
  induction m with
  | zero => exact fun _ => ⟨Int.le_refl _, by show (0 : Int) < 1; omega, fun h => by omega⟩
  | succ m ih =>
    intro h
    obtain ⟨a, b, c⟩ := ih (fun i i0 i1 => h i i0 (by omega))
    have hm := h m (by omega) (by omega)
    rw [qen_s, show p27 (m + 1) = 27 * p27 m from rfl]
    exact ⟨by omega, by omega, fun _ => by omega⟩
theorem ww_eq (d : Nat) (hd : d < 7) : ∀ (x : Int64) (μ : ax_M), aJ (603 + 2 * (d + 1)) [.ref 207, .long x] [] μ = if (lg_cmp x 27) < 0 then ax_b0 (aJ 602 [.ref 207, .int ((96 : Int32) + ((x - (x / 27) * 27).toInt32))] [] μ) fun μ1 => some (none, μ1) else ax_b0 (aJ (603 + 2 * d) [.ref 207, .long (x / 27)] [] μ) fun μ1 => ax_b0 (aJ 602 [.ref 207, .int ((96 : Int32) + ((x - (x / 27) * 27).toInt32))] [] μ1) fun μ2 => some (none, μ2) := by
  intro x μ
  have hh : d = 0 ∨ d = 1 ∨ d = 2 ∨ d = 3 ∨ d = 4 ∨ d = 5 ∨ d = 6 := by omega
  rcases hh with rfl | rfl | rfl | rfl | rfl | rfl | rfl
  · show aJ 605 [.ref 207, .long x] [] μ = _
    rw [jl_605]
    simp only [jl_606]
  · show aJ 607 [.ref 207, .long x] [] μ = _
    rw [jl_607]
    simp only [jl_608]
  · show aJ 609 [.ref 207, .long x] [] μ = _
    rw [jl_609]
    simp only [jl_610]
  · show aJ 611 [.ref 207, .long x] [] μ = _
    rw [jl_611]
    simp only [jl_612]
  · show aJ 613 [.ref 207, .long x] [] μ = _
    rw [jl_613]
    simp only [jl_614]
  · show aJ 615 [.ref 207, .long x] [] μ = _
    rw [jl_615]
    simp only [jl_616]
  · show aJ 617 [.ref 207, .long x] [] μ = _
    rw [jl_617]
    simp only [jl_618]
theorem q_ww {s : Int → Int} : ∀ d : Nat, d ≤ 7 → ∀ (m : Nat) (l : List Int) (ν : ax_M), 1 ≤ m → m ≤ d + 1 → m ≤ 7 → (∀ i : Int, 0 ≤ i → i < m → 97 ≤ s i ∧ s i ≤ 122) → tXm l ν → l.length + m ≤ 47 → ∃ ν', aJ (603 + 2 * d) [.ref 207, .long (zL (qen s m))] [] ν = some (none, ν') ∧ tXm (l ++ tNm s m) ν' ∧ fr [207, 224] ν ν' ∧ ∀ k, k ≠ 34 → ν'.1 207 k = ν.1 207 k := by
  intro d
  have one : ∀ (l : List Int) (ν : ax_M), (∀ i : Int, 0 ≤ i → i < (1 : Nat) → 97 ≤ s i ∧ s i ≤ 122) → tXm l ν → l.length + 1 ≤ 47 → ∃ ν', (ax_b0 (aJ 602 [.ref 207, .int ((96 : Int32) + ((zL (qen s 1) - (zL (qen s 1) / 27) * 27).toInt32))] [] ν) fun μ1 => some (none, μ1)) = some (none, ν') ∧ tXm (l ++ tNm s 1) ν' ∧ fr [207, 224] ν ν' ∧ ∀ k, k ≠ 34 → ν'.1 207 k = ν.1 207 k := by
    intro l ν hs ht hl
    have h0 := hs 0 (by omega) (by omega)
    have e : qen s 1 = s 0 - 96 := by
      show 27 * 0 + s ((0 : Nat) : Int) - 96 = _
      rw [show ((0 : Nat) : Int) = 0 from rfl]
      omega
    obtain ⟨ν', a1, a2, a3, a4⟩ := q_rsg (b := s 0) ht (by omega)
    refine ⟨ν', ?_, a2, a3, a4⟩
    rw [zL_mod (by unfold zLR; omega), e, show 96 + (s 0 - 96) % 27 = s 0 by omega, a1, z_b0]
  induction d with
  | zero =>
    intro _ m l ν m0 m1 m7 hs ht hl
    have hm : m = 1 := by omega
    subst hm
    obtain ⟨ν', a1, a2, a3, a4⟩ := one l ν hs ht hl
    refine ⟨ν', ?_, a2, a3, a4⟩
    have hb := qen_b 1 hs
    have h0 := hs 0 (by omega) (by omega)
    have hp : p27 1 = 27 := rfl
    show aJ 603 [.ref 207, .long (zL (qen s 1))] [] ν = _
    rw [jl_603, if_pos ((zL_cmp (by unfold zLR; omega)).mpr (by omega)), jl_604, a1]
  | succ d ih =>
    intro hd m l ν m0 m1 m7 hs ht hl
    rw [ww_eq d (by omega)]
    have hb := qen_b m hs
    have hp := p27_7 m (by omega)
    have hz : zLR (qen s m) := by unfold zLR; omega
    by_cases c : m = 1
    · subst c
      have hp1 : p27 1 = 27 := rfl
      obtain ⟨ν', a1, a2, a3, a4⟩ := one l ν hs ht hl
      refine ⟨ν', ?_, a2, a3, a4⟩
      rw [if_pos ((zL_cmp hz).mpr (by omega)), a1]
    · obtain ⟨k, hk⟩ : ∃ k, m = k + 1 := ⟨m - 1, by omega⟩
      subst hk
      have hb2 := qen_b k (fun i i0 i1 => hs i i0 (by omega))
      have hsk := hs k (by omega) (by omega)
      have hq := qen_s (s := s) (m := k)
      have k1 : 1 ≤ qen s k := hb2.2.2 (by omega)
      obtain ⟨ν1, a1, a2, a3, a4⟩ := ih (by omega) k l ν (by omega) (by omega) (by omega) (fun i i0 i1 => hs i i0 (by omega)) ht (by omega)
      have nl : (l ++ tNm s k).length = l.length + k := by rw [List.length_append, tNm_l]
      obtain ⟨ν2, b1, b2, b3, b4⟩ := q_rsg (b := s k) a2 (by omega)
      refine ⟨ν2, ?_, ?_, frt a3 b3, fun j hj => (b4 j hj).trans (a4 j hj)⟩
      · rw [if_neg (fun q => by
          have := (zL_cmp hz).mp q
          omega), zL_mod hz, zL_27 hz, show qen s (k + 1) / 27 = qen s k by omega, a1, z_b0, show 96 + qen s (k + 1) % 27 = s k by omega, b1, z_b0]
      · show tXm (l ++ (tNm s k ++ [s k])) ν2
        rw [← List.append_assoc]
        exact b2
