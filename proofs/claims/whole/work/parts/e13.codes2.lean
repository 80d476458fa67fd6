/-! l: a name's code says the name -/
theorem qen_inj {s t : Int → Int} : ∀ m k : Nat, (∀ i : Int, 0 ≤ i → i < m → 97 ≤ s i ∧ s i ≤ 122) → (∀ i : Int, 0 ≤ i → i < k → 97 ≤ t i ∧ t i ≤ 122) → qen s m = qen t k → m = k ∧ ∀ i : Int, 0 ≤ i → i < m → s i = t i := by
  intro m
  induction m with
  | zero =>
    intro k _ ht h
    have hb := qen_b k ht
    have h0 : qen s 0 = 0 := rfl
    by_cases c : k = 0
    · exact ⟨c.symm, fun i i0 i1 => by omega⟩
    · have := hb.2.2 (by omega)
      omega
  | succ m ih =>
    intro k hs ht h
    have hb := qen_b (m + 1) hs
    cases k with
    | zero =>
      have h0 : qen t 0 = 0 := rfl
      have := hb.2.2 (by omega)
      omega
    | succ k =>
      have e1 := qen_s (s := s) (m := m)
      have e2 := qen_s (s := t) (m := k)
      have d1 := hs m (by omega) (by omega)
      have d2 := ht k (by omega) (by omega)
      have hq : qen s m = qen t k := by omega
      have hd : s m = t k := by omega
      obtain ⟨a, b⟩ := ih k (fun i i0 i1 => hs i i0 (by omega)) (fun i i0 i1 => ht i i0 (by omega)) hq
      refine ⟨by omega, fun i i0 i1 => ?_⟩
      by_cases c : i = m
      · rw [c, hd, a]
      · exact b i i0 (by omega)
theorem zL_inj {s t : Int → Int} {m k : Nat} (hs : ∀ i : Int, 0 ≤ i → i < m → 97 ≤ s i ∧ s i ≤ 122) (ht : ∀ i : Int, 0 ≤ i → i < k → 97 ≤ t i ∧ t i ≤ 122) (hm : m ≤ 7) (hk : k ≤ 7) : zL (qen s m) = zL (qen t k) ↔ (m = k ∧ ∀ i : Int, 0 ≤ i → i < m → s i = t i) := by
  have h1 := qen_b m hs
  have h2 := qen_b k ht
  have p1 := p27_7 m (by omega)
  have p2 := p27_7 k (by omega)
  rw [zL_eq (by unfold zLR; omega) (by unfold zLR; omega)]
  constructor
  · exact qen_inj m k hs ht
  · rintro ⟨a, b⟩
    subst a
    have : ∀ j : Nat, j ≤ m → qen s j = qen t j := by
      intro j
      induction j with
      | zero => exact fun _ => rfl
      | succ j ih =>
        intro hj
        rw [qen_s, qen_s, ih (by omega), b j (by omega) (by omega)]
    exact this m (Nat.le_refl _)
