/-! the machine's meaning of every method of the program is the real one's -/
theorem ax_cat_pos (v : Value) : 1 ≤ v.category := by rcases lv_cat v with h | h <;> omega
theorem ax_sum0 {t : List Value} (h : (t.map fun v => v.category).sum = 0) : t = [] := by
  cases t with
  | nil => rfl
  | cons v t =>
    have := ax_cat_pos v
    simp only [List.map_cons, List.sum_cons] at h
    omega
theorem ax_prim {l : Launch} {Dg : va_G} {A : Nat → Prop} {cA : Nat → ClassId} {ad adV : Nat → Nat} {vF : Value} : ∀ z, ax_NP ≤ z → z < ax_NM → ∀ n as μ r μ', ax_ev ax_sh ax_BL ax_EN n (ax_EN z) as [] μ = some (r, μ') → ax_Met l Dg ax_cl A cA ad ax_sh ax_NC (ax_X ad adV A vF) ax_Ts (ax_MT z) as μ r μ' := by
  intro z h1 h2 n as μ r μ' h
  have hz : z = 291 ∨ z = 292 := by
    have e1 : ax_NP = 291 := rfl
    have e2 : ax_NM = 293 := rfl
    omega
  cases n with
  | zero => simp [ax_ev] at h
  | succ n =>
    rcases hz with rfl | rfl
    · rw [ax_ev] at h
      have hk : (ax_BL (ax_EN 291)).2.2.1 = [999, 1] := rfl
      have hc : (ax_BL (ax_EN 291)).2.2.2 = [(0, .nop, [[], [103]])] := rfl
      rw [hk, hc] at h
      have e0 : ax_l0 [999, 1] as = if (as.map fun v => v.category).sum ≤ 1 then some (lv_args 0 as) else none := rfl
      rw [e0] at h
      split at h
      case h_2 => cases h
      next lv hlv =>
      split at hlv
      case isFalse => cases hlv
      next hsum =>
      cases hlv
      cases as with
      | nil => simp [ax_ex, ax_step, lv_args, ax_lk] at h
      | cons v t =>
        have hv : ∃ a, v = .ref a ∧ (ax_sh a).1 = 8 ∧ r = some (.int (Int32.ofNat (ax_sh a).2.1)) ∧ μ' = μ := by
          cases v <;> simp [ax_ex, ax_step, lv_args, ax_lk] at h
          obtain ⟨a1, a2, a3⟩ := h
          exact ⟨_, rfl, a1, a2.symm, a3.symm⟩
        obtain ⟨a, rfl, ha, rfl, rfl⟩ := hv
        have ht : t = [] := ax_sum0 (by
          simp only [List.map_cons, List.sum_cons] at hsum
          have : (Value.ref a).category = 1 := rfl
          omega)
        subst ht
        obtain ⟨i, hi, rfl⟩ := ax_tx_kind ha
        have e1 : (ax_sh (1000 + i)).2.1 = ax_len i := (by decide +kernel : ∀ i, i < 22 → (ax_sh (1000 + i)).2.1 = ax_len i) i hi
        rw [e1]
        exact ac_len l ad adV A vF hi Dg cA μ'
    · rw [ax_ev] at h
      have hk : (ax_BL (ax_EN 292)).2.2.1 = [999, 2] := rfl
      have hc : (ax_BL (ax_EN 292)).2.2.2 = [(0, .nop, [[], [104]])] := rfl
      rw [hk, hc] at h
      have e0 : ax_l0 [999, 2] as = if (as.map fun v => v.category).sum ≤ 2 then some (lv_args 0 as) else none := rfl
      rw [e0] at h
      split at h
      case h_2 => cases h
      next lv hlv =>
      split at hlv
      case isFalse => cases hlv
      next hsum =>
      cases hlv
      cases as with
      | nil => simp [ax_ex, ax_step, lv_args, ax_lk] at h
      | cons v t =>
        cases v <;> try (simp [ax_ex, ax_step, lv_args, ax_lk] at h; done)
        case ref a =>
        cases t with
        | nil => simp [ax_ex, ax_step, lv_args, ax_lk] at h
        | cons w t =>
          have hw : ∃ i, w = .int i ∧ ((ax_sh a).1 = 8 ∧ ¬ (i < 0 ∨ (ax_sh a).2.1 ≤ i.toNatClampNeg)) ∧ r = some (.int (Int32.ofNat ((ax_sh a).2.2.getD i.toNatClampNeg (0, 0)).1)) ∧ μ' = μ := by
            have hcat : (if (Value.ref a).category = 2 then 0 + 2 else 0 + 1) = 1 := rfl
            have hla : lv_args 0 (.ref a :: w :: t) = (0, .ref a) :: (1, w) :: lv_args (if w.category = 2 then 1 + 2 else 1 + 1) t := rfl
            rw [hla] at h
            have hex : ax_ex ax_sh (ax_ev ax_sh ax_BL ax_EN n) ax_EN [(0, .nop, [[], [104]])] ((0, .ref a) :: (1, w) :: lv_args (if w.category = 2 then 1 + 2 else 1 + 1) t) [] μ = (match some w with
              | some (.int i) => if (ax_sh a).1 = 8 ∧ ¬ (i < 0 ∨ (ax_sh a).2.1 ≤ i.toNatClampNeg) then some (some (.int (Int32.ofNat ((ax_sh a).2.2.getD i.toNatClampNeg (0, 0)).1)), μ) else none
              | _ => none) := by
              cases w <;> rfl
            rw [hex] at h
            cases w with
            | int i =>
              simp only [] at h
              split at h
              case isFalse => cases h
              next hcnd =>
              cases h
              exact ⟨i, rfl, hcnd, rfl, rfl⟩
            | _ => simp at h
          obtain ⟨i, rfl, ⟨ha, hi⟩, rfl, rfl⟩ := hw
          have ht : t = [] := ax_sum0 (by
            simp only [List.map_cons, List.sum_cons] at hsum
            have : (Value.ref a).category = 1 := rfl
            have : (Value.int i).category = 1 := rfl
            omega)
          subst ht
          obtain ⟨j, hj, rfl⟩ := ax_tx_kind ha
          have e1 : (ax_sh (1000 + j)).2.1 = ax_len j := (by decide +kernel : ∀ i, i < 22 → (ax_sh (1000 + i)).2.1 = ax_len i) j hj
          have e2 : (ax_sh (1000 + j)).2.2 = (ax_tx j).2.2 := (by decide +kernel : ∀ i, i < 22 → (ax_sh (1000 + i)).2.2 = (ax_tx i).2.2) j hj
          rw [e1] at hi
          rw [e2]
          exact ac_sch l ad adV A vF hj (fun q => hi (Or.inl q)) (by
            rcases Nat.lt_or_ge i.toNatClampNeg (ax_len j) with q | q
            · exact q
            · exact absurd (Or.inr q) hi) Dg cA μ'
theorem ax_run {l : Launch} {Dg : va_G} {A : Nat → Prop} {cA : Nat → ClassId} {ad adV : Nat → Nat} {vF : Value} {z : Nat} (hz : z < ax_NM) {as : List Value} {μ μ' : ax_M} {r : Option Value} (h : aJ (ax_EN z) as [] μ = some (r, μ')) : ax_Met l Dg ax_cl A cA ad ax_sh ax_NC (ax_X ad adV A vF) ax_Ts (ax_MT z) as μ r μ' := by
  obtain ⟨n, hn⟩ := ax_at_iff.mp h
  exact ax_snd ax_ok ax_Xf ax_Xc ax_Xn (fun s h => h.2.1) ax_Xr (by decide) ax_prim ax_bl_ok ax_en_ok n z hz as μ r μ' hn
