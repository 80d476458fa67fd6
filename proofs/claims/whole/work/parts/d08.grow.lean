/-! k: class Forest: the tree; the edge that joins -/
def pO (o : Int → Int) (i e : Int) : Prop := ∃ j, 0 ≤ j ∧ j < i ∧ o j = e
theorem pO_s {o : Int → Int} {i e : Int} (i0 : 0 ≤ i) : pO o (i + 1) e ↔ (pO o i e ∨ e = o i) := by
  constructor
  · rintro ⟨j, j0, j1, j2⟩
    by_cases c : j = i
    · rw [c] at j2
      exact Or.inr j2.symm
    · exact Or.inl ⟨j, j0, by omega, j2⟩
  · rintro (⟨j, j0, j1, j2⟩ | h)
    · exact ⟨j, j0, by omega, j2⟩
    · exact ⟨i, i0, by omega, h.symm⟩
theorem pO_lo {G : gG} {o : Int → Int} (h : sO G (gE G) o) {i : Int} (i0 : 0 ≤ i) (i1 : i < gE G) {f : Int} (f0 : 0 ≤ f) (f1 : f < gE G) : pO o i f ↔ glo G f (o i) := by
  obtain ⟨h1, h2, h3⟩ := h
  constructor
  · rintro ⟨j, j0, j1, rfl⟩
    exact h2 j i j0 j1 i1
  · intro q
    obtain ⟨j, j0, j1, rfl⟩ := h3 f f0 f1
    rcases Int.lt_trichotomy j i with c | c | c
    · exact ⟨j, j0, c, rfl⟩
    · rw [c] at q
      exact absurd q lo_irr
    · exact absurd q (lo_as (h2 i j i0 c j1))
theorem pO_all {G : gG} {o : Int → Int} (h : sO G (gE G) o) {f : Int} (f0 : 0 ≤ f) (f1 : f < gE G) : pO o (gE G) f := by
  obtain ⟨j, j0, j1, j2⟩ := h.2.2 f f0 f1
  exact ⟨j, j0, j1, j2⟩
theorem pO_no {G : gG} {o : Int → Int} (h : sO G (gE G) o) {i : Int} (i0 : 0 ≤ i) (i1 : i < gE G) : ¬ pO o i (o i) := by
  have := h.1 i i0 i1
  rw [pO_lo h i0 i1 this.1 this.2]
  exact lo_irr
theorem gTo_c {G : gG} {P Q : Int → Prop} {n : Nat} (h : ∀ i : Int, 0 ≤ i → i < n → (P i ↔ Q i)) : gTo G P n = gTo G Q n := psm_eq (fun i i0 i1 => by
  have := h i i0 i1
  by_cases c : P i
  · rw [if_pos c, if_pos (this.mp c)]
  · rw [if_neg c, if_neg (fun q => c (this.mpr q))])
theorem gTo_add {G : gG} {P Q : Int → Prop} {n : Nat} {e : Int} (e0 : 0 ≤ e) (e1 : e < n) (hn : ¬ P e) (h : ∀ i, Q i ↔ (P i ∨ i = e)) : gTo G Q n = gTo G P n + gwt G e := by
  have hq : Q e := (h e).mpr (Or.inr rfl)
  have := psm_at (f := fun e => @ite _ (P e) (Classical.propDecidable _) (gwt G e) 0) (g := fun e => @ite _ (Q e) (Classical.propDecidable _) (gwt G e) 0) (m := n) (a := e) (fun i hi => by
    by_cases c : P i
    · rw [if_pos c, if_pos ((h i).mpr (Or.inl c))]
    · rw [if_neg c, if_neg (fun q => by
        rcases (h i).mp q with w | w
        · exact c w
        · exact hi w)]) e0 e1
  unfold gTo
  rw [this]
  simp only [if_neg hn, if_pos hq]
  omega
theorem gTo_0 {G : gG} {P : Int → Prop} (h : ∀ i, ¬ P i) : ∀ n : Nat, gTo G P n = 0 := by
  intro n
  induction n with
  | zero => rfl
  | succ n ih =>
    show gTo G P n + @ite _ (P n) (Classical.propDecidable _) (gwt G n) 0 = 0
    rw [ih, if_neg (h _)]
    rfl
theorem ibN_0 {P : Int → Prop} (h : ∀ i, ¬ P i) : ibN P = 0 := by
  unfold ibN
  rw [pct_congr (Q := fun _ => False) (D2 := fun _ => inferInstance) (fun i _ _ => ⟨fun q => h i q, fun q => q.elim⟩)]
  decide
def gTp (G : gG) (o : Int → Int) (i e : Int) : Prop := gTr G e ∧ pO o i e
theorem q_gt1 {G : gG} {S : gS} {X : cX} (hg : hGok G) (hw : hGw G) {o : Int → Int} (ho : sO G (gE G) o) : ∀ (m : Nat) (i : Int) (p : Int → Int) (ν : ax_M), cI 29 G S X ν → rP ν 203 (gE G) o → 0 ≤ i → i + m = gE G → fP G (pO o i) p ν → ν.1 202 3 = zI (gTo G (gTp G o i) (gE G).toNat) → ν.1 202 4 = ibS (gTp G o i) → ((nRo G (pO o i) + ibN (gTp G o i) : Nat) : Int) = gN G → ∃ ν', aJ 894 [.ref 202, .ref 29, .int (zI i)] [] ν = some (none, ν') ∧ fr [202, 204] ν ν' ∧ ν'.1 202 3 = zI (gTo G (gTr G) (gE G).toNat) ∧ ν'.1 202 4 = ibS (gTr G) ∧ ν'.1 202 5 = zI (gN G - ibN (gTr G)) := by
  have hE := hg.2.2.2.1
  have hN := hg.2.1
  intro m
  induction m with
  | zero =>
    intro i p ν hc hr i0 i1 hp h3 h4 h5
    have hEE := q_E hc (Or.inl rfl)
    have hi : i = gE G := by omega
    subst hi
    have hT : ∀ e, gTp G o (gE G) e ↔ gTr G e := fun e => ⟨fun q => q.1, fun q => ⟨q, pO_all ho q.1 q.2.1⟩⟩
    have e5 : ibN (gTp G o (gE G)) = ibN (gTr G) := pct_congr (fun i _ _ => hT i)
    refine ⟨ν, ?_, frz, ?_, ?_, ?_⟩
    · rw [jl_894, hEE, if_pos (by rw [zI_le (zR_of (by omega)) (zR_of (by omega))]; omega), jl_896]
    · rw [h3, gTo_c (fun i _ _ => hT i)]
    · rw [h4, ibS_c (fun i _ _ => hT i)]
    · rw [hp.2.2, ← e5, show gN G - (ibN (gTp G o (gE G)) : Int) = (nRo G (pO o (gE G)) : Int) by omega]
  | succ m ih =>
    intro i p ν hc hr i0 i1 hp h3 h4 h5
    have hEE := q_E hc (Or.inl rfl)
    have hoi := ho.1 i i0 (by omega)
    have hri := hr i i0 (by omega)
    obtain ⟨c1, c2⟩ := cI_cP (Or.inl rfl) hc
    have hlo : ∀ n k, gcc G (pO o i) n k ↔ gcc G (fun f => glo G f (o i)) n k := fun n k => cc_congr (fun f f0 f1 => pO_lo ho i0 (by omega) f0 f1)
    have hst : ∀ n k, gcc G (fun f => pO o i f ∨ f = o i) n k ↔ gcc G (pO o (i + 1)) n k := fun n k => cc_congr (fun f f0 f1 => (pO_s i0).symm)
    rw [jl_894, hEE, if_neg (by rw [zI_le (zR_of (by omega)) (zR_of (by omega))]; omega)]
    simp (disch := omega) only [at_203, z_b1, hri]
    by_cases q : gcc G (pO o i) (gfr G (o i)) (gsc G (o i))
    · obtain ⟨g1, g2⟩ := q_jo0 hg c2 hp hoi.1 hoi.2 q
      have hnT : ¬ gTr G (o i) := fun w => w.2.2 ((hlo _ _).mp q)
      have hT : ∀ e, gTp G o i e ↔ gTp G o (i + 1) e := fun e => ⟨fun w => ⟨w.1, (pO_s i0).mpr (Or.inl w.2)⟩, fun w => ⟨w.1, by
        rcases (pO_s i0).mp w.2 with z | z
        · exact z
        · exact absurd (z ▸ w.1) hnT⟩⟩
      have e5 : ibN (gTp G o i) = ibN (gTp G o (i + 1)) := pct_congr (fun i _ _ => hT i)
      have e6 : nRo G (pO o i) = nRo G (pO o (i + 1)) := nRo_c (fun n k => (cc_in q n k).trans (hst n k))
      rw [g1, z_b1]
      simp only [zI_lit]
      rw [if_pos trivial, jl_895]
      simp only [zI_lit, zI_add]
      exact ih (i + 1) p ν hc hr (by omega) (by omega) (fP_c hst g2) (by rw [h3, gTo_c (fun i _ _ => hT i)]) (by rw [h4, ibS_c (fun i _ _ => hT i)]) (by rw [← e5, ← e6]; exact h5)
    · obtain ⟨ν1, p', g1, g2, g3, g4, g5, g6⟩ := q_jo1 hg c2 hp hoi.1 hoi.2 q
      have hT1 : gTr G (o i) := ⟨hoi.1, hoi.2, fun w => q ((hlo _ _).mpr w)⟩
      have hnP : ¬ gTp G o i (o i) := fun w => pO_no ho i0 (by omega) w.2
      have hT : ∀ e, gTp G o (i + 1) e ↔ (gTp G o i e ∨ e = o i) := fun e => ⟨fun w => by
        rcases (pO_s i0).mp w.2 with z | z
        · exact Or.inl ⟨w.1, z⟩
        · exact Or.inr z, fun w => by
        rcases w with w | w
        · exact ⟨w.1, (pO_s i0).mpr (Or.inl w.2)⟩
        · rw [w]
          exact ⟨hT1, (pO_s i0).mpr (Or.inr rfl)⟩⟩
      have e5 : ibN (gTp G o (i + 1)) = ibN (gTp G o i) + 1 := pct_rem hoi.1 (by omega) ((hT _).mpr (Or.inr rfl)) (fun j => by
        rw [hT]
        constructor
        · intro w
          exact ⟨Or.inl w, fun z => hnP (z ▸ w)⟩
        · rintro ⟨w | w, z⟩
          · exact w
          · exact absurd w z)
      have e6 := nRo_c hst
      have hc1 : cI 29 G S X ν1 := cI_fr (Or.inl rfl) g3 (fun a ha => by simp at ha; omega) hc
      have hw1 := q_wO hc1 (Or.inl rfl) hoi.1 ⟨by omega, wt_ne hw hoi.1 hoi.2⟩
      have hf : fr [202, 204] ν1 (ax_up (ax_up ν1.1 202 3 (zI (gTo G (gTp G o (i + 1)) (gE G).toNat))) 202 4 (ibS (gTp G o (i + 1))), ν1.2) := frt (ν' := (ax_up ν1.1 202 3 (zI (gTo G (gTp G o (i + 1)) (gE G).toNat)), ν1.2)) (fru (by simp)) (fru (ν := (ax_up ν1.1 202 3 (zI (gTo G (gTp G o (i + 1)) (gE G).toNat)), ν1.2)) (by simp))
      have hto := gTo_add (G := G) (n := (gE G).toNat) hoi.1 (by omega) hnP hT
      have hbs := ibS_add (P := gTp G o i) (Q := gTp G o (i + 1)) hoi.1 (by omega) (fun j _ _ => hT j)
      obtain ⟨ν', k1, k2, k3, k4, k5⟩ := ih (i + 1) p' _ (cI_fr (Or.inl rfl) hf (fun a ha => by simp at ha; omega) hc1) (fr_rP hf (by decide) (fr_rP g3 (by decide) hr)) (by omega) (by omega) (by
        have g7 := fP_c hst g2
        refine ⟨fr_rP (l := [202]) (frt (ν' := (ax_up ν1.1 202 3 (zI (gTo G (gTp G o (i + 1)) (gE G).toNat)), ν1.2)) (fru (by simp)) (fru (ν := (ax_up ν1.1 202 3 (zI (gTo G (gTp G o (i + 1)) (gE G).toNat)), ν1.2)) (by simp))) (by decide) g7.1, g7.2.1, ?_⟩
        show ax_up (ax_up ν1.1 202 3 (zI (gTo G (gTp G o (i + 1)) (gE G).toNat))) 202 4 (ibS (gTp G o (i + 1))) 202 5 = _
        rw [up_nk (by decide), up_nk (by decide)]
        exact g7.2.2) (by
        show ax_up (ax_up ν1.1 202 3 (zI (gTo G (gTp G o (i + 1)) (gE G).toNat))) 202 4 (ibS (gTp G o (i + 1))) 202 3 = _
        rw [up_nk (by decide), up_at]) (by
        show ax_up (ax_up ν1.1 202 3 (zI (gTo G (gTp G o (i + 1)) (gE G).toNat))) 202 4 (ibS (gTp G o (i + 1))) 202 4 = _
        rw [up_at]) (by omega)
      refine ⟨ν', ?_, frt g3 (frt hf k2), k3, k4, k5⟩
      rw [g1, z_b1]
      simp only [zI_lit]
      rw [if_neg (fun w => ibs_01 w.symm), hw1, z_b1, jl_895]
      have u4 : (ax_uD ν1 202 3 (ν1.1 202 3 + zI (gwt G (o i)))).1 202 4 = ν1.1 202 4 := by
        rw [uD_def]
        exact up_nk (f := ν1.1) (a := 202) (b := 202) (k := 3) (j := 4) (x := ν1.1 202 3 + zI (gwt G (o i))) (by decide)
      rw [u4, g4, g5, h3, h4, zI_add, ← hto]
      simp only [ibo_d, zI_lit, zI_add]
      rw [hbs]
      exact k1
theorem q_grow {G : gG} {S : gS} {X : cX} {ν : ax_M} (hg : hGok G) (hw : hGw G) (hc : cI 29 G S X ν) : ∃ ν', aJ 893 [.ref 202, .ref 29] [] ν = some (none, ν') ∧ fr [202, 203, 204] ν ν' ∧ ν'.1 202 3 = zI (gTo G (gTr G) (gE G).toNat) ∧ ν'.1 202 4 = ibS (gTr G) ∧ ν'.1 202 5 = zI (gN G - ibN (gTr G)) := by
  have hN := hg.1
  have hE0 := hg.2.2.1
  obtain ⟨ν1, o, a1, a2, a3, a4⟩ := q_sort hg hw hc
  have hc1 : cI 29 G S X ν1 := cI_fr (Or.inl rfl) a4 (fun a ha => by simp at ha; omega) hc
  obtain ⟨ν2, p, b1, b2, b3, b4, b5⟩ := q_scat hg (cI_cP (Or.inl rfl) hc1).2
  have hc2 : cI 29 G S X ν2 := cI_fr (Or.inl rfl) b3 (fun a ha => by simp at ha; omega) hc1
  have hf : fr [202] ν2 (ax_up (ax_up ν2.1 202 3 (zI 0)) 202 4 (zI 0), ν2.2) := frt (ν' := (ax_up ν2.1 202 3 (zI 0), ν2.2)) (fru (by simp)) (fru (ν := (ax_up ν2.1 202 3 (zI 0), ν2.2)) (by simp))
  have hno : ∀ e, ¬ pO o 0 e := by
    rintro e ⟨j, j0, j1, _⟩
    omega
  have hno2 : ∀ e, ¬ gTp G o 0 e := fun e q => hno e q.2
  have hcc : ∀ n k, gcc G (fun _ => False) n k ↔ gcc G (pO o 0) n k := fun n k => cc_congr (fun f _ _ => ⟨fun q => q.elim, fun q => hno f q⟩)
  have g7 := fP_c hcc b2
  have hro : ((nRo G (pO o 0) : Nat) : Int) = gN G := by
    have h1 := b2.2.2
    have hid : ∀ n, 0 ≤ n → gLe G (pO o 0) n n := fun n n0 => ⟨n0, Int.le_refl _, cc_refl, fun j j0 j1 q => by
      have := cc_no (P := pO o 0) (fun e _ _ => hno e) q
      omega⟩
    have e := pct_congr (P := fun n => gLe G (pO o 0) n n) (Q := fun _ => True) (D := fun _ => Classical.propDecidable _) (D2 := fun _ => inferInstance) (m := (gN G).toNat) (fun i i0 i1 => ⟨fun _ => trivial, fun _ => hid i i0⟩)
    have e2 : ∀ m : Nat, pct (fun _ => True) (fun _ => inferInstance) m = m := by
      intro m
      induction m with
      | zero => rfl
      | succ m ih =>
        unfold pct
        rw [ih, if_pos trivial]
    unfold nRo
    rw [e, e2]
    omega
  obtain ⟨ν', k1, k2, k3, k4, k5⟩ := q_gt1 hg hw a3 (gE G).toNat 0 p _ (cI_fr (Or.inl rfl) hf (fun a ha => by simp at ha; omega) hc2) (fr_rP hf (by decide) (fr_rP b3 (by decide) a2)) (by omega) (by omega) (by
    refine ⟨fr_rP hf (by decide) g7.1, g7.2.1, ?_⟩
    show ax_up (ax_up ν2.1 202 3 (zI 0)) 202 4 (zI 0) 202 5 = _
    rw [up_nk (by decide), up_nk (by decide)]
    exact g7.2.2) (by
    show ax_up (ax_up ν2.1 202 3 (zI 0)) 202 4 (zI 0) 202 3 = _
    rw [up_nk (by decide), up_at, gTo_0 hno2]) (by
    show ax_up (ax_up ν2.1 202 3 (zI 0)) 202 4 (zI 0) 202 4 = _
    rw [up_at, ibS_0 (fun i _ _ => hno2 i)]) (by
    rw [ibN_0 hno2]
    exact hro)
  refine ⟨ν', ?_, frt (frm a4 (by simp)) (frt (frm b3 (by simp)) (frt (frm hf (by simp)) (frm k2 (by simp)))), k3, k4, k5⟩
  rw [jl_893, a1, z_b0, b1, z_b0]
  simp only [zI_lit]
  exact k1
