/-! l: levels are at most the number of edges -/
theorem lev_le {G : gG} {S : gS} {c : Int} (hg : hGok G) (h : hI G S c) (n : Int) : gnd S n 1 ≤ gE G := by
  have hE0 := hg.2.2.1
  obtain ⟨om, ps, dl, dn, af, c0, pd, rp, rv, fw, cl, cw, tk, fl, fc, hk⟩ := h
  have hj := hk.1
  by_cases q : 1 ≤ gnd S n 1
  · have hc : cl (hN S 2 n) = gnd S n 1 := pg_C1 hj n q
    have ex : ∀ (m : Nat) (j : Int), 1 ≤ j → j + m = gnd S n 1 → ∃ e, 0 ≤ e ∧ e < gE G ∧ cl e = j := by
      intro m
      induction m with
      | zero =>
        intro j j0 jm
        have hne : cl (hN S 2 n) ≠ 0 := by omega
        obtain ⟨w, w1, w2⟩ := pg_CR hj (hN S 2 n) hne
        have a := w1.1
        have b := w1.2
        have e2 : hed w = w / 2 := rfl
        refine ⟨hN S 2 n, by omega, by omega, by omega⟩
      | succ m ih =>
        intro j j0 jm
        obtain ⟨e, e0, e1, e2⟩ := ih (j + 1) (by omega) (by omega)
        have hw : hW G (2 * e) := ⟨by omega, by omega⟩
        have he : hed (2 * e) = e := by
          show 2 * e / 2 = e
          omega
        obtain ⟨d, d1, d2⟩ := pg_Z1 hj (2 * e) hw (by rw [he]; omega)
        rw [he, e2] at d1
        have hne : cl d ≠ 0 := by omega
        obtain ⟨w, w1, w2⟩ := pg_CR hj d hne
        have a := w1.1
        have b := w1.2
        have e3 : hed w = w / 2 := rfl
        exact ⟨d, by omega, by omega, by omega⟩
    have hp := pct_rel (m := (gnd S n 1).toNat) (k := (gE G).toNat) (P := fun _ => True) (Q := fun _ => True) (D := fun _ => inferInstance) (D2 := fun _ => inferInstance) (fun i e => cl e = i + 1) (fun i i0 i1 _ => by
      obtain ⟨e, e0, e1, e2⟩ := ex (gnd S n 1 - (i + 1)).toNat (i + 1) (by omega) (by omega)
      exact ⟨e, e0, by omega, trivial, e2⟩) (fun i i' j _ _ _ _ _ _ r r' => by omega)
    have e2 : ∀ m : Nat, pct (fun _ => True) (fun _ => inferInstance) m = m := by
      intro m
      induction m with
      | zero => rfl
      | succ m ih =>
        unfold pct
        rw [ih, if_pos trivial]
    rw [e2, e2] at hp
    omega
  · omega
