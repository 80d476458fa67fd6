/-! k: class Forest: join -/
theorem cc_in {G : gG} {P : Int → Prop} {e : Int} (h : gcc G P (gfr G e) (gsc G e)) (n k : Int) : gcc G P n k ↔ gcc G (fun f => P f ∨ f = e) n k := by
  constructor
  · exact fun q => cc_mono (fun f _ _ p => Or.inl p) q
  · refine fun q => cc_sub (fun f f0 f1 p => ?_) q
    rcases p with p | p
    · exact cc_edge f0 f1 p
    · rw [p]
      exact h
theorem le_c {G : gG} {P Q : Int → Prop} (h : ∀ n k, gcc G P n k ↔ gcc G Q n k) {n k : Int} : gLe G P n k ↔ gLe G Q n k := by
  unfold gLe
  simp only [h]
theorem fP_c {G : gG} {P Q : Int → Prop} {p : Int → Int} {ν : ax_M} (h : ∀ n k, gcc G P n k ↔ gcc G Q n k) (hp : fP G P p ν) : fP G Q p ν := ⟨hp.1, fun n n0 n1 => (le_c h).mp (hp.2.1 n n0 n1), by rw [← nRo_c h]; exact hp.2.2⟩
theorem q_jo0 {G : gG} {P : Int → Prop} {p : Int → Int} {ν : ax_M} (hg : hGok G) (ht : tI G ν) (hp : fP G P p ν) {e : Int} (e0 : 0 ≤ e) (e1 : e < gE G) (h : gcc G P (gfr G e) (gsc G e)) : aJ 882 [.ref 202, .int (zI e)] [] ν = some (some (.int (zI 0)), ν) ∧ fP G (fun f => P f ∨ f = e) p ν := by
  have hE := hg.2.2.2.1
  have hN := hg.2.1
  obtain ⟨a0, a1, c0, c1, ac⟩ := hg.2.2.2.2 e e0 e1
  have l1 := hp.2.1 _ a0 (by omega)
  have l2 := hp.2.1 _ c0 (by omega)
  refine ⟨?_, fP_c (cc_in h) hp⟩
  rw [jl_882, q_942 ht e0 (by omega), z_b1, q_part hp a0 (by omega), z_b1, q_943 ht e0 (by omega), z_b1, q_part hp c0 (by omega), z_b1, if_pos (congrArg zI ((le_cc c0 l1 l2).mpr h))]
  rfl
theorem q_jl {x y : Int} (x0 : 0 ≤ x) (y1 : y < 12) (hxy : x < y) {p : Int → Int} (hp : ∀ n, 0 ≤ n → n < 12 → 0 ≤ p n ∧ p n < 12) : ∀ (m : Nat) (i : Int) (ν : ax_M), 0 ≤ i → i + m = 12 → rP ν 204 12 (fun j => if j < i ∧ p j = y then x else p j) → ∃ ν', aJ 884 [.ref 202, .int (zI x), .int (zI y), .int (zI i)] [] ν = aJ 886 [.ref 202] [] ν' ∧ rP ν' 204 12 (fun j => if p j = y then x else p j) ∧ fr [204] ν ν' := by
  intro m
  induction m with
  | zero =>
    intro i ν i0 i1 hr
    rw [jl_884]
    simp (disch := omega) only [zI_lit, p_le]
    rw [if_pos (by omega)]
    refine ⟨ν, rfl, ?_, frz⟩
    intro j j0 j1
    have h := hr j j0 j1
    simp only [show j < i by omega, true_and] at h
    exact h
  | succ m ih =>
    intro i ν i0 i1 hr
    have hi := hr i i0 (by omega)
    simp only [Int.lt_irrefl, false_and, if_false] at hi
    have hpi := hp i i0 (by omega)
    rw [jl_884]
    simp (disch := omega) only [zI_lit, p_le, ld_204, st_204, z_bo, zI_add, hi, p_eq, jl_885]
    rw [if_neg (by omega)]
    by_cases c : p i = y
    · rw [if_pos c]
      have hf : fr [204] ν (ax_up ν.1 204 i.toNat (zI x), ν.2) := fru (by simp)
      obtain ⟨ν', h1, h2, h3⟩ := ih (i + 1) (ax_up ν.1 204 i.toNat (zI x), ν.2) (by omega) (by omega) (by
        intro j j0 j1
        show ax_up ν.1 204 i.toNat (zI x) 204 j.toNat = _
        by_cases q : j = i
        · rw [q, up_at]
          show _ = zI (if i < i + 1 ∧ p i = y then x else p i)
          rw [if_pos ⟨by omega, c⟩]
        · rw [up_nk (by omega), hr j j0 j1]
          show zI (if j < i ∧ p j = y then x else p j) = zI (if j < i + 1 ∧ p j = y then x else p j)
          have : (j < i ∧ p j = y) = (j < i + 1 ∧ p j = y) := propext ⟨fun w => ⟨by omega, w.2⟩, fun w => ⟨by omega, w.2⟩⟩
          simp only [this])
      exact ⟨ν', h1, h2, frt hf h3⟩
    · rw [if_neg c]
      obtain ⟨ν', h1, h2, h3⟩ := ih (i + 1) ν (by omega) (by omega) (by
        intro j j0 j1
        rw [hr j j0 j1]
        show zI (if j < i ∧ p j = y then x else p j) = zI (if j < i + 1 ∧ p j = y then x else p j)
        have : (j < i ∧ p j = y) = (j < i + 1 ∧ p j = y) := propext ⟨fun w => ⟨by omega, w.2⟩, fun w => ⟨by
          have hne : j ≠ i := fun q => c (q ▸ w.2)
          omega, w.2⟩⟩
        simp only [this])
      exact ⟨ν', h1, h2, h3⟩
theorem q_jo1 {G : gG} {P : Int → Prop} {p : Int → Int} {ν : ax_M} (hg : hGok G) (ht : tI G ν) (hp : fP G P p ν) {e : Int} (e0 : 0 ≤ e) (e1 : e < gE G) (h : ¬ gcc G P (gfr G e) (gsc G e)) : ∃ ν' p', aJ 882 [.ref 202, .int (zI e)] [] ν = some (some (.int (zI 1)), ν') ∧ fP G (fun f => P f ∨ f = e) p' ν' ∧ fr [202, 204] ν ν' ∧ ν'.1 202 3 = ν.1 202 3 ∧ ν'.1 202 4 = ν.1 202 4 ∧ nRo G P = nRo G (fun f => P f ∨ f = e) + 1 := by
  have hE := hg.2.2.2.1
  have hN := hg.2.1
  obtain ⟨a0, a1, c0, c1, ac⟩ := hg.2.2.2.2 e e0 e1
  have l1 := hp.2.1 _ a0 (by omega)
  have l2 := hp.2.1 _ c0 (by omega)
  have hne : p (gfr G e) ≠ p (gsc G e) := fun q => h ((le_cc c0 l1 l2).mp q)
  have r1 := l1.1
  have r2 := l1.2.1
  have r3 := l2.1
  have r4 := l2.2.1
  have hpr : ∀ n, 0 ≤ n → n < 12 → 0 ≤ p n ∧ p n < 12 := fun n n0 n1 => ⟨(hp.2.1 n n0 n1).1, by have := (hp.2.1 n n0 n1).2.1; omega⟩
  have main : ∀ x y, ((x = p (gfr G e) ∧ y = p (gsc G e)) ∨ (x = p (gsc G e) ∧ y = p (gfr G e))) → x < y → ∃ ν' p', aJ 884 [.ref 202, .int (zI x), .int (zI y), .int (zI 0)] [] ν = some (some (.int (zI 1)), ν') ∧ fP G (fun f => P f ∨ f = e) p' ν' ∧ fr [202, 204] ν ν' ∧ ν'.1 202 3 = ν.1 202 3 ∧ ν'.1 202 4 = ν.1 202 4 ∧ nRo G P = nRo G (fun f => P f ∨ f = e) + 1 := by
    intro x y hxy hlt
    obtain ⟨ν', h1, h2, h3⟩ := q_jl (x := x) (y := y) (by omega) (by omega) hlt hpr 12 0 ν (by omega) (by omega) (by
      intro j j0 j1
      rw [hp.1 j j0 j1]
      show _ = zI (if j < 0 ∧ p j = y then x else p j)
      rw [if_neg (fun q => by omega)])
    have hro := nRo_add e0 e1 a0 a1 c0 c1 l1 l2 hxy hlt
    have h5 : ν'.1 202 5 = zI (nRo G P) := by rw [fr_at h3 (by decide)]; exact hp.2.2
    have hf : fr [202, 204] ν' (ax_up ν'.1 202 5 (zI ((nRo G P : Int) - 1)), ν'.2) := fru (by simp)
    refine ⟨(ax_up ν'.1 202 5 (zI ((nRo G P : Int) - 1)), ν'.2), fun j => if p j = y then x else p j, ?_, ⟨?_, ?_, ?_⟩, frt (frm h3 (by simp)) hf, ?_, ?_, hro⟩
    · rw [h1, jl_886, uD_def]
      simp only [h5, zI_lit, zI_sub]
    · exact fr_rP (l := [202]) (fru (by simp)) (by decide) h2
    · intro n n0 n1
      exact le_add e0 e1 a0 c0 l1 l2 hxy hlt n0 (hp.2.1 n n0 n1)
    · show ax_up ν'.1 202 5 (zI ((nRo G P : Int) - 1)) 202 5 = _
      rw [up_at, hro, show (((nRo G (fun f => P f ∨ f = e) + 1 : Nat) : Int) - 1) = (nRo G (fun f => P f ∨ f = e) : Int) by omega]
    · show ax_up ν'.1 202 5 (zI ((nRo G P : Int) - 1)) 202 3 = _
      rw [up_nk (by decide), fr_at h3 (by decide)]
    · show ax_up ν'.1 202 5 (zI ((nRo G P : Int) - 1)) 202 4 = _
      rw [up_nk (by decide), fr_at h3 (by decide)]
  rw [jl_882, q_942 ht e0 (by omega), z_b1, q_part hp a0 (by omega), z_b1, q_943 ht e0 (by omega), z_b1, q_part hp c0 (by omega), z_b1, if_neg (fun q => hne ((zI_eq (zR_of (by omega)) (zR_of (by omega))).mp q)), jl_883]
  simp (disch := omega) only [zI_lit, p_lt]
  by_cases c : p (gfr G e) < p (gsc G e)
  · rw [if_neg (by omega), if_pos c]
    exact main _ _ (Or.inl ⟨rfl, rfl⟩) c
  · rw [if_pos (by omega), if_neg c]
    exact main _ _ (Or.inr ⟨rfl, rfl⟩) (by omega)
