/-! k: parts and their least nodes -/
theorem le_of {G : gG} {P : Int → Prop} {n a k : Int} (h : gLe G P n k) (a0 : 0 ≤ a) (ha : gcc G P n a) : gLe G P a k := by
  obtain ⟨k0, k1, k2, k3⟩ := h
  have hk : gcc G P a k := cc_trans (cc_symm ha) k2
  have hl : ∀ j, 0 ≤ j → j < k → ¬ gcc G P a j := fun j j0 j1 q => k3 j j0 j1 (cc_trans ha q)
  refine ⟨k0, ?_, hk, hl⟩
  by_cases c : k ≤ a
  · exact c
  · exact absurd cc_refl (hl a a0 (by omega))
theorem le_self {G : gG} {P : Int → Prop} {n k : Int} (h : gLe G P n k) : gLe G P k k := le_of h h.1 h.2.2.1
/-- an edge joins two parts -/
theorem le_add {G : gG} {P : Int → Prop} {e ka kb x y : Int} (e0 : 0 ≤ e) (e1 : e < gE G) (a0 : 0 ≤ gfr G e) (b0 : 0 ≤ gsc G e) (ha : gLe G P (gfr G e) ka) (hb : gLe G P (gsc G e) kb) (hxy : (x = ka ∧ y = kb) ∨ (x = kb ∧ y = ka)) (hlt : x < y) {n k : Int} (n0 : 0 ≤ n) (h : gLe G P n k) : gLe G (fun f => P f ∨ f = e) n (if k = y then x else k) := by
  have mono : ∀ {c d}, gcc G P c d → gcc G (fun f => P f ∨ f = e) c d := fun q => cc_mono (fun f _ _ p => Or.inl p) q
  obtain ⟨h0, h1, h2, h3⟩ := id h
  have hx0 : 0 ≤ x := by
    rcases hxy with c | c
    · rw [c.1]
      exact ha.1
    · rw [c.1]
      exact hb.1
  have hxy2 : gcc G (fun f => P f ∨ f = e) y x := by
    have q : gcc G (fun f => P f ∨ f = e) (gfr G e) (gsc G e) := cc_edge e0 e1 (Or.inr rfl)
    have q1 := mono ha.2.2.1
    have q2 := mono hb.2.2.1
    rcases hxy with ⟨c1, c2⟩ | ⟨c1, c2⟩
    · rw [c1, c2]
      exact cc_trans (cc_symm q2) (cc_trans (cc_symm q) q1)
    · rw [c1, c2]
      exact cc_trans (cc_symm q1) (cc_trans q q2)
  have low : ∀ j, 0 ≤ j → gcc G (fun f => P f ∨ f = e) n j → k ≤ j ∨ (k = ka ∧ kb ≤ j) ∨ (k = kb ∧ ka ≤ j) := by
    intro j j0 q
    rcases (cc_add e0 e1).mp q with q | q | q
    · refine Or.inl ?_
      by_cases c : k ≤ j
      · exact c
      · exact absurd q (h3 j j0 (by omega))
    · refine Or.inr (Or.inl ⟨le_uni (le_of h a0 q.1) ha, ?_⟩)
      by_cases c : kb ≤ j
      · exact c
      · exact absurd q.2 (hb.2.2.2 j j0 (by omega))
    · refine Or.inr (Or.inr ⟨le_uni (le_of h b0 q.1) hb, ?_⟩)
      by_cases c : ka ≤ j
      · exact c
      · exact absurd q.2 (ha.2.2.2 j j0 (by omega))
  by_cases c : k = y
  · rw [if_pos c]
    refine ⟨hx0, by omega, cc_trans (mono h2) (by rw [c]; exact hxy2), fun j j0 j1 q => ?_⟩
    have := low j j0 q
    omega
  · rw [if_neg c]
    refine ⟨h0, h1, mono h2, fun j j0 j1 q => ?_⟩
    have := low j j0 q
    omega
noncomputable def nRo (G : gG) (P : Int → Prop) : Nat := pct (fun n => gLe G P n n) (fun _ => Classical.propDecidable _) (gN G).toNat
theorem nRo_c {G : gG} {P Q : Int → Prop} (h : ∀ n k, gcc G P n k ↔ gcc G Q n k) : nRo G P = nRo G Q := pct_congr (fun i _ _ => by unfold gLe; simp only [h])
theorem nRo_add {G : gG} {P : Int → Prop} {e ka kb x y : Int} (e0 : 0 ≤ e) (e1 : e < gE G) (a0 : 0 ≤ gfr G e) (a1 : gfr G e < gN G) (b0 : 0 ≤ gsc G e) (b1 : gsc G e < gN G) (ha : gLe G P (gfr G e) ka) (hb : gLe G P (gsc G e) kb) (hxy : (x = ka ∧ y = kb) ∨ (x = kb ∧ y = ka)) (hlt : x < y) : nRo G P = nRo G (fun f => P f ∨ f = e) + 1 := by
  have hy : 0 ≤ y ∧ y < gN G ∧ gLe G P y y := by
    have h1 := ha.2.1
    have h2 := hb.2.1
    have h3 := ha.1
    have h4 := hb.1
    rcases hxy with ⟨c1, c2⟩ | ⟨c1, c2⟩
    · rw [c2]
      exact ⟨h4, by omega, le_self hb⟩
    · rw [c2]
      exact ⟨h3, by omega, le_self ha⟩
  refine pct_rem (a := y) hy.1 (by omega) hy.2.2 ?_
  intro i
  constructor
  · intro q
    have q0 := q.1
    obtain ⟨k, hk⟩ := le_ex (G := G) (P := P) q0
    have h2 := le_add e0 e1 a0 b0 ha hb hxy hlt q0 hk
    have h3 := le_uni q h2
    have h4 := hk.2.1
    by_cases c : k = y
    · rw [if_pos c] at h3
      omega
    · rw [if_neg c] at h3
      rw [← h3] at hk
      exact ⟨hk, by omega⟩
  · rintro ⟨q, c⟩
    have h2 := le_add e0 e1 a0 b0 ha hb hxy hlt q.1 q
    rwa [if_neg c] at h2
theorem le_cc {G : gG} {P : Int → Prop} {a b ka kb : Int} (b0 : 0 ≤ b) (ha : gLe G P a ka) (hb : gLe G P b kb) : ka = kb ↔ gcc G P a b := by
  constructor
  · rintro rfl
    exact cc_trans ha.2.2.1 (cc_symm hb.2.2.1)
  · intro h
    exact le_uni (le_of ha b0 h) hb
/-! k: class Forest -/
def fP (G : gG) (P : Int → Prop) (p : Int → Int) (ν : ax_M) : Prop := rP ν 204 12 p ∧ (∀ n, 0 ≤ n → n < 12 → gLe G P n (p n)) ∧ ν.1 202 5 = zI (nRo G P)
theorem q_942 {G : gG} {ν : ax_M} (ht : tI G ν) {e : Int} (e0 : 0 ≤ e) (e1 : e < gE G ∧ e < 30) : aJ 942 [.ref 3, .int (zI e)] [] ν = some (some (.int (zI (gfr G e))), ν) := by
  have h := ht.2.2 (2 * e) (by omega) (by omega)
  rw [jl_942]
  simp (disch := omega) only [zI_lit, zI_mul, at_6, z_b1]
  rw [h]
  unfold gsd
  rw [if_pos (by omega), show 2 * e / 2 = e by omega]
theorem q_943 {G : gG} {ν : ax_M} (ht : tI G ν) {e : Int} (e0 : 0 ≤ e) (e1 : e < gE G ∧ e < 30) : aJ 943 [.ref 3, .int (zI e)] [] ν = some (some (.int (zI (gsc G e))), ν) := by
  have h := ht.2.2 (2 * e + 1) (by omega) (by omega)
  rw [jl_943]
  simp (disch := omega) only [zI_lit, zI_mul, zI_add, at_6, z_b1]
  rw [h]
  unfold gsd
  rw [if_neg (by omega), show (2 * e + 1) / 2 = e by omega]
theorem q_part {G : gG} {P : Int → Prop} {p : Int → Int} {ν : ax_M} (h : fP G P p ν) {n : Int} (n0 : 0 ≤ n) (n1 : n < 12) : aJ 887 [.ref 202, .int (zI n)] [] ν = some (some (.int (zI (p n))), ν) := by
  have e := h.1 n n0 n1
  rw [jl_887]
  simp (disch := omega) only [at_204, z_b1]
  rw [e]
theorem tI_F {G : gG} {l : List Nat} {ν ν' : ax_M} (h : fr l ν ν') (h3 : 3 ∉ l) (h6 : 6 ∉ l) (ht : tI G ν) : tI G ν' := tI_fr h h3 h6 ht
theorem q_scat {G : gG} {ν : ax_M} (hg : hGok G) (ht : tI G ν) : ∃ ν' p, aJ 879 [.ref 202] [] ν = some (none, ν') ∧ fP G (fun _ => False) p ν' ∧ fr [202, 204] ν ν' ∧ ν'.1 202 3 = ν.1 202 3 ∧ ν'.1 202 4 = ν.1 202 4 := by
  have key : ∀ (m : Nat) (i : Int) (ν : ax_M), tI G ν → 0 ≤ i → i + m = 12 → rP ν 204 i (fun j => j) → ∃ ν', aJ 880 [.ref 202, .int (zI i)] [] ν = some (none, ν') ∧ rP ν' 204 12 (fun j => j) ∧ ν'.1 202 5 = zI (gN G) ∧ fr [202, 204] ν ν' ∧ ν'.1 202 3 = ν.1 202 3 ∧ ν'.1 202 4 = ν.1 202 4 := by
    intro m
    induction m with
    | zero =>
      intro i ν ht i0 i1 hr
      rw [jl_880]
      simp (disch := omega) only [zI_lit, p_le]
      rw [if_pos (by omega), jl_881]
      refine ⟨_, rfl, ?_, ?_, fru (by simp), ?_, ?_⟩
      · intro j j0 j1
        rw [uD_def]
        exact (up_ne (f := ν.1) (a := 202) (b := 204) (k := 5) (x := ν.1 3 0) (by decide)).trans (hr j j0 (by omega))
      · rw [uD_def]
        exact (up_at (f := ν.1) (a := 202) (k := 5) (x := ν.1 3 0)).trans ht.1
      · rw [uD_def]
        exact up_nk (f := ν.1) (a := 202) (b := 202) (k := 5) (j := 3) (x := ν.1 3 0) (by decide)
      · rw [uD_def]
        exact up_nk (f := ν.1) (a := 202) (b := 202) (k := 5) (j := 4) (x := ν.1 3 0) (by decide)
    | succ m ih =>
      intro i ν ht i0 i1 hr
      have hf : fr [202, 204] ν (ax_up ν.1 204 i.toNat (zI i), ν.2) := fru (by simp)
      obtain ⟨ν', h1, h2, h3, h4, h5, h6⟩ := ih (i + 1) (ax_up ν.1 204 i.toNat (zI i), ν.2) (tI_fr hf (by decide) (by decide) ht) (by omega) (by omega) (by
        intro j j0 j1
        show ax_up ν.1 204 i.toNat (zI i) 204 j.toNat = zI j
        by_cases c : j = i
        · rw [c, up_at]
        · rw [up_nk (by omega)]
          exact hr j j0 (by omega))
      refine ⟨ν', ?_, h2, h3, frt hf h4, h5.trans (show ax_up ν.1 204 i.toNat (zI i) 202 3 = ν.1 202 3 from up_ne (by decide)), h6.trans (show ax_up ν.1 204 i.toNat (zI i) 202 4 = ν.1 202 4 from up_ne (by decide))⟩
      rw [jl_880]
      simp (disch := omega) only [zI_lit, p_le, st_204, z_bo, zI_add]
      rw [if_neg (by omega)]
      exact h1
  obtain ⟨ν', h1, h2, h3, h4, h5, h6⟩ := key 12 0 ν ht (by omega) (by omega) (fun j j0 j1 => by omega)
  have hid : ∀ n, 0 ≤ n → gLe G (fun _ => False) n n := fun n n0 => ⟨n0, Int.le_refl _, cc_refl, fun j j0 j1 q => by
    have := cc_no (P := fun _ => False) (fun e _ _ => id) q
    omega⟩
  refine ⟨ν', fun j => j, ?_, ⟨h2, fun n n0 n1 => hid n n0, ?_⟩, h4, h5, h6⟩
  · rw [jl_879]
    simp only [zI_lit]
    exact h1
  · rw [h3]
    have e := pct_congr (P := fun n => gLe G (fun _ => False) n n) (Q := fun _ => True) (D := fun _ => Classical.propDecidable _) (D2 := fun _ => inferInstance) (m := (gN G).toNat) (fun i i0 i1 => ⟨fun _ => trivial, fun _ => hid i i0⟩)
    have e2 : ∀ m : Nat, pct (fun _ => True) (fun _ => inferInstance) m = m := by
      intro m
      induction m with
      | zero => rfl
      | succ m ih =>
        unfold pct
        rw [ih, if_pos trivial]
    have hN := hg.1
    unfold nRo
    rw [e, e2, show (((gN G).toNat : Nat) : Int) = gN G by omega]
