/-! k: the next tree -/
theorem cc_rng {G : gG} (hg : hGok G) {P : Int → Prop} {a b : Int} (h : gcc G P a b) : a = b ∨ ((0 ≤ a ∧ a < gN G) ∧ 0 ≤ b ∧ b < gN G) := by
  refine h (fun x => a = x ∨ ((0 ≤ a ∧ a < gN G) ∧ 0 ≤ x ∧ x < gN G)) ?_ (Or.inl rfl)
  intro e e0 e1 _
  obtain ⟨a0, a1, c0, c1, ac⟩ := hg.2.2.2.2 e e0 e1
  constructor
  · rintro (q | q)
    · rw [← q] at a0 a1
      exact Or.inr ⟨⟨a0, a1⟩, c0, c1⟩
    · exact Or.inr ⟨q.1, c0, c1⟩
  · rintro (q | q)
    · rw [← q] at c0 c1
      exact Or.inr ⟨⟨c0, c1⟩, a0, a1⟩
    · exact Or.inr ⟨q.1, a0, a1⟩
theorem cc_sp {G : gG} (hg : hGok G) {P Q : Int → Prop} : (∀ n, 0 ≤ n → n < gN G → ibS (gcc G P n) = ibS (gcc G Q n)) ↔ ∀ a b, gcc G P a b ↔ gcc G Q a b := by
  have hN := hg.2.1
  constructor
  · intro h a b
    by_cases c : (0 ≤ a ∧ a < gN G) ∧ 0 ≤ b ∧ b < gN G
    · exact ibS_ne (h a c.1.1 c.1.2) c.2.1 (by omega)
    · constructor
      · intro q
        rcases cc_rng hg q with z | z
        · rw [z]
          exact cc_refl
        · exact absurd z c
      · intro q
        rcases cc_rng hg q with z | z
        · rw [z]
          exact cc_refl
        · exact absurd z c
  · intro h n _ _
    exact ibS_c (fun i _ _ => h n i)
theorem q_span {G : gG} {S : gS} {ν : ax_M} (hg : hGok G) (hm : mI G S ν) {P Q : Int → Prop} : ((∀ a b, gcc G P a b ↔ gcc G Q a b) → aJ 554 [.ref 207, .int (ibS P), .int (ibS Q)] [] ν = some (some (.int (zI 1)), ν)) ∧ (¬ (∀ a b, gcc G P a b ↔ gcc G Q a b) → aJ 554 [.ref 207, .int (ibS P), .int (ibS Q)] [] ν = some (some (.int (zI 0)), ν)) := by
  have hN0 := hg.1
  have hN := hg.2.1
  rw [← cc_sp hg]
  have key : ∀ (m : Nat) (i : Int), 0 ≤ i → i + m = gN G → ((∀ n, i ≤ n → n < gN G → ibS (gcc G P n) = ibS (gcc G Q n)) → aJ 555 [.ref 207, .int (ibS P), .int (ibS Q), .int (zI i)] [] ν = some (some (.int (zI 1)), ν)) ∧ (¬ (∀ n, i ≤ n → n < gN G → ibS (gcc G P n) = ibS (gcc G Q n)) → aJ 555 [.ref 207, .int (ibS P), .int (ibS Q), .int (zI i)] [] ν = some (some (.int (zI 0)), ν)) := by
    intro m
    induction m with
    | zero =>
      intro i i0 i1
      refine ⟨fun _ => ?_, fun q => absurd (fun n n0 n1 => by omega) q⟩
      rw [jl_555]
      simp (disch := omega) only [zI_lit, q_rN hm, z_bo, p_le]
      rw [if_pos (by omega), jl_557]
      rfl
    | succ m ih =>
      intro i i0 i1
      have ih' := ih (i + 1) (by omega) (by omega)
      have e : aJ 555 [.ref 207, .int (ibS P), .int (ibS Q), .int (zI i)] [] ν = if ibS (gcc G P i) = ibS (gcc G Q i) then aJ 555 [.ref 207, .int (ibS P), .int (ibS Q), .int (zI (i + 1))] [] ν else some (some (.int (zI 0)), ν) := by
        rw [jl_555]
        simp (disch := omega) only [zI_lit, q_rN hm, z_bo, p_le, q_joinP hg hm, z_b1, jl_556, zI_add]
        rw [if_neg (by omega)]
      by_cases c : ibS (gcc G P i) = ibS (gcc G Q i)
      · rw [e, if_pos c]
        refine ⟨fun q => ih'.1 (fun n n0 n1 => q n (by omega) n1), fun q => ih'.2 (fun z => q (fun n n0 n1 => ?_))⟩
        by_cases d : n = i
        · rw [d]
          exact c
        · exact z n (by omega) n1
      · rw [e, if_neg c]
        exact ⟨fun q => absurd (q i (Int.le_refl _) (by omega)) c, fun _ => rfl⟩
  rw [jl_554]
  simp only [zI_lit]
  exact key (gN G).toNat 0 (by omega) (by omega)
theorem gTo_rng {G : gG} (hx : hGx G) {P : Int → Prop} : ∀ n : Nat, (n : Int) ≤ gE G → 0 ≤ gTo G P n ∧ gTo G P n ≤ 99 * n := by
  intro n
  induction n with
  | zero => exact fun _ => ⟨Int.le_refl _, Int.le_refl _⟩
  | succ n ih =>
    intro hn
    have ih' := ih (by omega)
    have h := hx n (by omega) (by omega)
    have e : gTo G P (n + 1) = gTo G P n + @ite _ (P n) (Classical.propDecidable _) (gwt G n) 0 := rfl
    rw [e]
    by_cases c : P n
    · rw [if_pos c]
      omega
    · rw [if_neg c]
      omega
noncomputable def gMo (G : gG) (e : Int) : Int := @dite _ (∃ m, gJ G gAll (gfr G e) (gsc G e) m) (Classical.propDecidable _) (fun h => Classical.choose h) (fun _ => -1)
theorem gMo_s {G : gG} (hg : hGok G) (hw : hGw G) {e : Int} (e0 : 0 ≤ e) (e1 : e < gE G) : gJ G gAll (gfr G e) (gsc G e) (gMo G e) := by
  have h := J_of hg.2.2.2.1 hw (B := gAll) (hnl hg e e0 e1) (cc_edge e0 e1 trivial)
  unfold gMo
  rw [dif_pos h]
  exact Classical.choose_spec h
abbrev gSx : Type := Int × Int × Int
def gNw (G : gG) (T e x : Int) : Int := T - gwt G x + gwt G e
/-- a swap e for x is taken if it's lighter than the best -/
def gTk (G : gG) (T e x : Int) (σ : gSx) : gSx := if σ.1 = -1 ∨ gNw G T e x < σ.1 then (gNw G T e x, x, e) else σ
noncomputable def gNx (G : gG) (T e : Int) (σ : gSx) : gSx := @ite _ (gT G e) (Classical.propDecidable _) σ (gTk G T e (gMo G e) σ)
noncomputable def gNr (G : gG) (T : Int) (σ : gSx) : Nat → gSx
  | 0 => σ
  | n + 1 => gNx G T n (gNr G T σ n)
/-- what holds of the best so far -/
def gSk (e : Int) (σ : gSx) : Prop := (-1 ≤ σ.1 ∧ σ.1 ≤ 10000) ∧ (-1 ≤ σ.2.1 ∧ σ.2.1 ≤ 30) ∧ (-1 ≤ σ.2.2 ∧ σ.2.2 ≤ 30) ∧ (σ.1 ≠ -1 → σ.2.2 < e)
/-- the total of all, and that of the tree but an edge of it -/
theorem gNw_r {G : gG} (hg : hGok G) (hx : hGx G) {e x : Int} (e0 : 0 ≤ e) (e1 : e < gE G) (hT : gTr G x) : 1 ≤ gNw G (gTo G (gTr G) (gE G).toNat) e x ∧ gNw G (gTo G (gTr G) (gE G).toNat) e x ≤ 5000 := by
  have hE := hg.2.2.2.1
  have h1 := gTo_rng hx (P := fun f => gTr G f ∧ f ≠ x) (gE G).toNat (by have := hg.2.2.1; omega)
  have h2 := gTo_rng hx (P := gTr G) (gE G).toNat (by have := hg.2.2.1; omega)
  have h3 := gTo_add (G := G) (P := fun f => gTr G f ∧ f ≠ x) (Q := gTr G) (n := (gE G).toNat) hT.1 (by have := hT.2.1; omega) (fun q => q.2 rfl) (fun i => by
    constructor
    · intro q
      by_cases c : i = x
      · exact Or.inr c
      · exact Or.inl ⟨q, c⟩
    · rintro (q | q)
      · exact q.1
      · rw [q]
        exact hT)
  have h4 := hx e e0 e1
  have h5 := hx x hT.1 hT.2.1
  unfold gNw
  omega
theorem gTk_k {G : gG} (hg : hGok G) (hx : hGx G) {e x : Int} {σ : gSx} (e0 : 0 ≤ e) (e1 : e < gE G) (hT : gTr G x) (h : gSk e σ) : gSk (e + 1) (gTk G (gTo G (gTr G) (gE G).toNat) e x σ) := by
  have hE := hg.2.2.2.1
  have hr := gNw_r hg hx e0 e1 hT
  have h1 := hT.1
  have h2 := hT.2.1
  obtain ⟨a1, a2, a3, a4⟩ := h
  unfold gTk
  by_cases c : σ.1 = -1 ∨ gNw G (gTo G (gTr G) (gE G).toNat) e x < σ.1
  · rw [if_pos c]
    exact ⟨⟨by show -1 ≤ gNw G _ e x; omega, by show gNw G _ e x ≤ 10000; omega⟩, ⟨by show -1 ≤ x; omega, by show x ≤ 30; omega⟩, ⟨by show -1 ≤ e; omega, by show e ≤ 30; omega⟩, fun _ => by show e < e + 1; omega⟩
  · rw [if_neg c]
    exact ⟨a1, a2, a3, fun q => by have := a4 q; omega⟩
theorem gSk_m {e : Int} {σ : gSx} (h : gSk e σ) : gSk (e + 1) σ := ⟨h.1, h.2.1, h.2.2.1, fun q => by have := h.2.2.2 q; omega⟩
theorem gMo_T {G : gG} (hg : hGok G) (hw : hGw G) {e : Int} (e0 : 0 ≤ e) (e1 : e < gE G) : gTr G (gMo G e) := ⟨(gMo_s hg hw e0 e1).1, (gMo_s hg hw e0 e1).2.1, J_T (gMo_s hg hw e0 e1)⟩
theorem gNx_k {G : gG} (hg : hGok G) (hx : hGx G) {e : Int} {σ : gSx} (e0 : 0 ≤ e) (e1 : e < gE G) (h : gSk e σ) : gSk (e + 1) (gNx G (gTo G (gTr G) (gE G).toNat) e σ) := by
  unfold gNx
  by_cases c : gT G e
  · rw [if_pos c]
    exact gSk_m h
  · rw [if_neg c]
    exact gTk_k hg hx e0 e1 (gMo_T hg (hGx_w hx) e0 e1) h
theorem gNr_k {G : gG} (hg : hGok G) (hx : hGx G) {σ : gSx} (h : gSk 0 σ) : ∀ n : Nat, (n : Int) ≤ gE G → gSk n (gNr G (gTo G (gTr G) (gE G).toNat) σ n) := by
  intro n
  induction n with
  | zero => exact fun _ => h
  | succ n ih =>
    intro hn
    have := gNx_k hg hx (show (0 : Int) ≤ (n : Int) by omega) (by omega) (ih (by omega))
    exact this
/-! k: next, on the class's side -/
theorem q_nx1 {G : gG} {S : gS} {X : cX} (hg : hGok G) (hx : hGx G) (σ0 : gSx) (h0 : gSk 0 σ0) : ∀ (m e : Nat) (ν : ax_M), cI 29 G S X ν → (e : Int) + m = gE G → ν.1 0 15 = zI (gNr G (gTo G (gTr G) (gE G).toNat) σ0 e).2.1 → ν.1 0 16 = zI (gNr G (gTo G (gTr G) (gE G).toNat) σ0 e).2.2 → ∃ ν', aJ 757 [.ref 0, .int (zI (gTo G (gTr G) (gE G).toNat)), .int (zI (gNr G (gTo G (gTr G) (gE G).toNat) σ0 e).1), .int (zI e)] [] ν = some (some (.int (zI (gNr G (gTo G (gTr G) (gE G).toNat) σ0 (gE G).toNat).1)), ν') ∧ fr [0, 202, 203, 204] ν ν' ∧ (∀ k, k ≠ 15 → k ≠ 16 → ν'.1 0 k = ν.1 0 k) ∧ ν'.1 0 15 = zI (gNr G (gTo G (gTr G) (gE G).toNat) σ0 (gE G).toNat).2.1 ∧ ν'.1 0 16 = zI (gNr G (gTo G (gTr G) (gE G).toNat) σ0 (gE G).toNat).2.2 := by
  have hE := hg.2.2.2.1
  have hN := hg.2.1
  have hw := hGx_w hx
  intro m
  induction m with
  | zero =>
    intro e ν hc he h15 h16
    have hEE := q_E hc (Or.inl rfl)
    have he' : e = (gE G).toNat := by omega
    subst he'
    refine ⟨ν, ?_, frz, fun _ _ _ => rfl, h15, h16⟩
    rw [jl_757, hEE, if_pos (by rw [zI_le (zR_of (by omega)) (zR_of (by omega))]; omega), jl_760]
  | succ m ih =>
    intro e ν hc he h15 h16
    have hEE := q_E hc (Or.inl rfl)
    have e0 : (0 : Int) ≤ (e : Int) := by omega
    have e1 : (e : Int) < gE G := by omega
    obtain ⟨a0, a1, c0, c1, ac⟩ := hg.2.2.2.2 e e0 e1
    obtain ⟨t1, t2⟩ := cI_cP (Or.inl rfl) hc
    have hm := gMo_s hg hw e0 e1
    have hmT := gMo_T hg hw e0 e1
    have hkk := gNr_k hg hx h0 e (by omega)
    obtain ⟨ν1, h1, h2⟩ := q_joinA hg hw hc a0 (by omega) c0 (by omega) ac
    have hc1 : cI 29 G S X ν1 := cI_fr (Or.inl rfl) h1 (fun a ha => by simp at ha; omega) hc
    have hj : aJ 897 [.ref 202, .ref 29, .int (zI (gfr G e)), .int (zI (gsc G e)), .int (zI (-1))] [] ν = some (some (.int (zI (gMo G e))), ν1) := by
      rcases h2 with ⟨x, h2, h3⟩ | ⟨h2, h3⟩
      · rwa [J_uni h2 hm] at h3
      · exact absurd (cc_edge e0 e1 trivial) h2
    have hm0 := hmT.1
    have hm1 := hmT.2.1
    have hr := gNw_r hg hx e0 e1 hmT
    have hr' := hr
    unfold gNw at hr'
    have hk1 := hkk.1
    have f1 : fr [0, 202, 203, 204] ν ν1 := frm h1 (by simp)
    have g0 : ∀ k, ν1.1 0 k = ν.1 0 k := fun k => fr_at h1 (by decide) k
    have hsk : gNr G (gTo G (gTr G) (gE G).toNat) σ0 (e + 1) = gNr G (gTo G (gTr G) (gE G).toNat) σ0 e → ∃ ν', aJ 757 [.ref 0, .int (zI (gTo G (gTr G) (gE G).toNat)), .int (zI (gNr G (gTo G (gTr G) (gE G).toNat) σ0 e).1), .int (zI (e + 1))] [] ν1 = some (some (.int (zI (gNr G (gTo G (gTr G) (gE G).toNat) σ0 (gE G).toNat).1)), ν') ∧ fr [0, 202, 203, 204] ν ν' ∧ (∀ k, k ≠ 15 → k ≠ 16 → ν'.1 0 k = ν.1 0 k) ∧ ν'.1 0 15 = zI (gNr G (gTo G (gTr G) (gE G).toNat) σ0 (gE G).toNat).2.1 ∧ ν'.1 0 16 = zI (gNr G (gTo G (gTr G) (gE G).toNat) σ0 (gE G).toNat).2.2 := by
      intro hs
      obtain ⟨ν', k1, k2, k3, k4, k5⟩ := ih (e + 1) ν1 hc1 (by omega) (by rw [hs, g0]; exact h15) (by rw [hs, g0]; exact h16)
      rw [hs] at k1
      exact ⟨ν', k1, frt f1 k2, fun k x y => (k3 k x y).trans (g0 k), k4, k5⟩
    rw [jl_757, hEE, if_neg (by rw [zI_le (zR_of (by omega)) (zR_of (by omega))]; omega), q_942 t2 e0 (by omega), z_b1, q_943 t2 e0 (by omega), z_b1, show (-1 : Int32) = zI (-1) from rfl, hj, z_b1, q_wO hc1 (Or.inl rfl) hm0 ⟨by omega, wt_ne hw hm0 hm1⟩, z_b1, q_wO hc1 (Or.inl rfl) e0 ⟨by omega, wt_ne hw e0 e1⟩, z_b1]
    simp (disch := omega) only [zI_sub, zI_add, p_eq, p_le, jl_759, zI_lit]
    by_cases t : gT G e
    · rw [if_pos ((J_self e0 e1 hm).mpr t)]
      refine hsk ?_
      show gNx G _ e _ = _
      unfold gNx
      rw [if_pos t]
    · rw [if_neg (fun q => t ((J_self e0 e1 hm).mp q))]
      have hs : gNr G (gTo G (gTr G) (gE G).toNat) σ0 (e + 1) = gTk G (gTo G (gTr G) (gE G).toNat) e (gMo G e) (gNr G (gTo G (gTr G) (gE G).toNat) σ0 e) := by
        show gNx G _ e _ = _
        unfold gNx
        rw [if_neg t]
      have take : gNr G (gTo G (gTr G) (gE G).toNat) σ0 (e + 1) = (gNw G (gTo G (gTr G) (gE G).toNat) e (gMo G e), gMo G e, (e : Int)) → ∃ ν', aJ 758 [.ref 0, .int (zI (gTo G (gTr G) (gE G).toNat)), .int (zI e), .int (zI (gMo G e)), .int (zI (gNw G (gTo G (gTr G) (gE G).toNat) e (gMo G e)))] [] ν1 = some (some (.int (zI (gNr G (gTo G (gTr G) (gE G).toNat) σ0 (gE G).toNat).1)), ν') ∧ fr [0, 202, 203, 204] ν ν' ∧ (∀ k, k ≠ 15 → k ≠ 16 → ν'.1 0 k = ν.1 0 k) ∧ ν'.1 0 15 = zI (gNr G (gTo G (gTr G) (gE G).toNat) σ0 (gE G).toNat).2.1 ∧ ν'.1 0 16 = zI (gNr G (gTo G (gTr G) (gE G).toNat) σ0 (gE G).toNat).2.2 := by
        intro hs
        have f2 : fr [0, 202, 203, 204] ν1 (ax_uD (ax_uD ν1 0 15 (zI (gMo G e))) 0 16 (zI e)) := frt (fr_uD (by simp)) (fr_uD (by simp))
        obtain ⟨ν', k1, k2, k3, k4, k5⟩ := ih (e + 1) (ax_uD (ax_uD ν1 0 15 (zI (gMo G e))) 0 16 (zI e)) (cI_fr (Or.inl rfl) (frt (ν' := ax_uD ν1 0 15 (zI (gMo G e))) (fr_uD (l := [0]) (by simp)) (fr_uD (by simp))) (fun a ha => by simp at ha; omega) hc1) (by omega) (by
          rw [hs]
          show (ax_uD (ax_uD ν1 0 15 (zI (gMo G e))) 0 16 (zI e)).1 0 15 = _
          rw [uD_nk (by decide), uD_at]) (by
          rw [hs]
          exact uD_at)
        rw [hs] at k1
        refine ⟨ν', ?_, frt f1 (frt f2 k2), fun k x y => ?_, k4, k5⟩
        · rw [jl_758, jl_759]
          simp only [zI_lit, zI_add]
          exact k1
        · rw [k3 k x y, uD_nk y, uD_nk x]
          exact g0 k
      unfold gTk at hs
      by_cases b : (gNr G (gTo G (gTr G) (gE G).toNat) σ0 e).1 = -1
      · rw [if_pos b]
        rw [if_pos (Or.inl b)] at hs
        exact take hs
      · rw [if_neg b]
        by_cases d : gNw G (gTo G (gTr G) (gE G).toNat) e (gMo G e) < (gNr G (gTo G (gTr G) (gE G).toNat) σ0 e).1
        · rw [if_pos (Or.inr d)] at hs
          unfold gNw at d take
          unfold gNw at hs
          rw [if_neg (by omega)]
          exact take hs
        · rw [if_neg (by omega)] at hs
          unfold gNw at d
          rw [if_pos (by omega)]
          exact hsk hs
