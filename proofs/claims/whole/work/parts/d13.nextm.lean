/-! k: next, on the reference's side -/
def nxm (ν : ax_M) (a b : Int) : ax_M := (ax_up (ax_up ν.1 207 30 (zI a)) 207 31 (zI b), ν.2)
theorem nxm_30 {ν : ax_M} {a b : Int} : (nxm ν a b).1 207 30 = zI a := by
  show ax_up (ax_up ν.1 207 30 (zI a)) 207 31 (zI b) 207 30 = _
  rw [up_nk (by decide), up_at]
theorem nxm_31 {ν : ax_M} {a b : Int} : (nxm ν a b).1 207 31 = zI b := by
  show ax_up (ax_up ν.1 207 30 (zI a)) 207 31 (zI b) 207 31 = _
  rw [up_at]
theorem nxm_k {ν : ax_M} {a b : Int} {k : Nat} (h : k ≠ 30) (h' : k ≠ 31) : (nxm ν a b).1 207 k = ν.1 207 k := by
  show ax_up (ax_up ν.1 207 30 (zI a)) 207 31 (zI b) 207 k = _
  rw [up_nk h', up_nk h]
theorem nxm_fr {ν : ax_M} {a b : Int} : fr [207] ν (nxm ν a b) := frt (ν' := (ax_up ν.1 207 30 (zI a), ν.2)) (fru (by simp)) (fru (ν := (ax_up ν.1 207 30 (zI a), ν.2)) (by simp))
theorem nxm_u {ν : ax_M} {a b c d : Int} : ax_uD (ax_uD (nxm ν a b) 207 30 (zI c)) 207 31 (zI d) = nxm ν c d := by
  refine ax_ext ?_ rfl
  intro o k
  by_cases c0 : o = 207
  · subst c0
    by_cases c1 : k = 31
    · subst c1
      rw [uD_at, nxm_31]
    · by_cases c2 : k = 30
      · subst c2
        rw [uD_nk (by decide), uD_at, nxm_30]
      · rw [uD_nk c1, uD_nk c2, nxm_k c2 c1, nxm_k c2 c1]
  · rw [uD_ne c0, uD_ne c0, fr_at nxm_fr (by simp [c0]), fr_at nxm_fr (by simp [c0])]
theorem nxm_id {ν : ax_M} {a b : Int} (h0 : ν.1 207 30 = zI a) (h1 : ν.1 207 31 = zI b) : nxm ν a b = ν := by
  refine ax_ext ?_ rfl
  intro o k
  by_cases c0 : o = 207
  · subst c0
    by_cases c1 : k = 31
    · subst c1
      rw [nxm_31, h1]
    · by_cases c2 : k = 30
      · subst c2
        rw [nxm_30, h0]
      · rw [nxm_k c2 c1]
  · rw [fr_at nxm_fr (by simp [c0])]
/-- the state when x is the best edge out so far -/
def gSt (G : gG) (T e x : Int) (σ : gSx) : gSx := if x = -1 then σ else gTk G T e x σ
theorem gBe_no {G : gG} {a b i x : Int} (h : gBe G a b i x) (hn : ¬ gCd G a b i) : gBe G a b (i + 1) x := by
  rcases h with ⟨h1, h2⟩ | ⟨h1, h2, h3⟩
  · refine Or.inl ⟨h1, fun e he => ?_⟩
    by_cases c : e = i
    · rw [c]
      exact hn
    · exact h2 e (by omega)
  · refine Or.inr ⟨h1, by omega, fun e he hi => ?_⟩
    by_cases c : e = i
    · exact absurd (c ▸ he) hn
    · exact h3 e he (by omega)
theorem gBe_f {G : gG} {a b i x : Int} (h : gBe G a b i x) (hc : gCd G a b i) (hl : x = -1 ∨ glo G x i) : gBe G a b (i + 1) i := by
  refine Or.inr ⟨hc, by omega, fun e he hi => ?_⟩
  by_cases c : e = i
  · exact Or.inl c
  · rcases h with ⟨h1, h2⟩ | ⟨h1, h2, h3⟩
    · exact absurd he (h2 e (by omega))
    · have x0 := h1.1
      have l : glo G x i := by
        rcases hl with q | q
        · omega
        · exact q
      rcases h3 e he (by omega) with w | w
      · rw [w]
        exact Or.inr l
      · exact Or.inr (lo_tr w l)
theorem gBe_x {G : gG} {a b i x : Int} (h : gBe G a b i x) (hn : x ≠ -1) (hl : ¬ glo G x i) : gBe G a b (i + 1) x := by
  rcases h with ⟨h1, h2⟩ | ⟨h1, h2, h3⟩
  · exact absurd h1 hn
  · refine Or.inr ⟨h1, by omega, fun e he hi => ?_⟩
    by_cases c : e = i
    · rw [c]
      rcases lo_tri (G := G) x i with w | w | w
      · exact absurd w hl
      · omega
      · exact Or.inr w
    · exact h3 e he (by omega)
def gUp (G : gG) (T e f : Int) (s : gSx) : Prop := s.1 = -1 ∨ gNw G T e f < s.1 ∨ (gNw G T e f = s.1 ∧ s.2.2 = e ∧ glo G s.2.1 f)
theorem gSt_step {G : gG} (hg : hGok G) (hx : hGx G) {e f x : Int} {σ : gSx} (e0 : 0 ≤ e) (e1 : e < gE G) (h : gSk e σ) (hb : gBe G (gfr G e) (gsc G e) f x) (hc : gCd G (gfr G e) (gsc G e) f) : ∃ x', gBe G (gfr G e) (gsc G e) (f + 1) x' ∧ (gUp G (gTo G (gTr G) (gE G).toNat) e f (gSt G (gTo G (gTr G) (gE G).toNat) e x σ) → gSt G (gTo G (gTr G) (gE G).toNat) e x' σ = (gNw G (gTo G (gTr G) (gE G).toNat) e f, f, e)) ∧ (¬ gUp G (gTo G (gTr G) (gE G).toNat) e f (gSt G (gTo G (gTr G) (gE G).toNat) e x σ) → gSt G (gTo G (gTr G) (gE G).toNat) e x' σ = gSt G (gTo G (gTr G) (gE G).toNat) e x σ) := by
  have rf := gNw_r hg hx e0 e1 (x := f) ⟨hc.1, hc.2.1, hc.2.2.1⟩
  obtain ⟨a1, a2, a3, a4⟩ := h
  generalize hT : gTo G (gTr G) (gE G).toNat = T at *
  have f0 := hc.1
  have sf : gSt G T e f σ = gTk G T e f σ := if_neg (by omega)
  rcases hb with ⟨h1, h2⟩ | ⟨h1, h2, h3⟩
  · refine ⟨f, gBe_f (Or.inl ⟨h1, h2⟩) hc (Or.inl h1), ?_, ?_⟩
    · rw [sf]
      unfold gSt
      rw [if_pos h1]
      rintro (q | q | q)
      · unfold gTk
        rw [if_pos (Or.inl q)]
      · unfold gTk
        rw [if_pos (Or.inr q)]
      · have := a4 (by omega)
        omega
    · rw [sf]
      unfold gSt
      rw [if_pos h1]
      intro q
      unfold gTk
      rw [if_neg (fun z => q (by
        rcases z with z | z
        · exact Or.inl z
        · exact Or.inr (Or.inl z)))]
  · have x0 := h1.1
    have sx : gSt G T e x σ = gTk G T e x σ := if_neg (by omega)
    have rx := gNw_r hg hx e0 e1 (x := x) ⟨h1.1, h1.2.1, h1.2.2.1⟩
    rw [hT] at rx
    have hwx : gNw G T e f < gNw G T e x ↔ gwt G x < gwt G f := by unfold gNw; omega
    have hwe : gNw G T e f = gNw G T e x ↔ gwt G x = gwt G f := by unfold gNw; omega
    have hlo : glo G x f ↔ gwt G x ≤ gwt G f := by unfold glo; omega
    by_cases l : glo G x f
    · refine ⟨f, gBe_f (Or.inr ⟨h1, h2, h3⟩) hc (Or.inr l), ?_, ?_⟩
      · rw [sf, sx]
        intro q
        unfold gTk at q ⊢
        by_cases c : σ.1 = -1 ∨ gNw G T e x < σ.1
        · rw [if_pos c] at q
          have : σ.1 = -1 ∨ gNw G T e f < σ.1 := by
            have := hlo.mp l
            rcases c with c | c
            · exact Or.inl c
            · right
              unfold gNw at c ⊢
              omega
          rw [if_pos this]
        · rw [if_neg c] at q
          rcases q with q | q | q
          · exact absurd (Or.inl q) c
          · rw [if_pos (Or.inr q)]
          · have := a4 (fun z => c (Or.inl z))
            omega
      · rw [sf, sx]
        intro q
        unfold gTk at q ⊢
        by_cases c : σ.1 = -1 ∨ gNw G T e x < σ.1
        · rw [if_pos c] at q
          refine absurd ?_ q
          by_cases d : gNw G T e f < gNw G T e x
          · exact Or.inr (Or.inl d)
          · have := hlo.mp l
            exact Or.inr (Or.inr ⟨by show gNw G T e f = gNw G T e x; rw [hwe]; have := mt hwx.mpr d; omega, rfl, l⟩)
        · rw [if_neg c] at q
          rw [if_neg c, if_neg (fun z => q (by
            rcases z with z | z
            · exact Or.inl z
            · exact Or.inr (Or.inl z)))]
    · have hnl2 : gNw G T e x < gNw G T e f := by
        have := mt hlo.mpr l
        unfold gNw
        omega
      refine ⟨x, gBe_x (Or.inr ⟨h1, h2, h3⟩) (by omega) l, ?_, fun _ => rfl⟩
      rw [sx]
      intro q
      unfold gTk at q ⊢
      by_cases c : σ.1 = -1 ∨ gNw G T e x < σ.1
      · rw [if_pos c] at q
        rcases q with q | q | q
        · have q' : gNw G T e x = -1 := q
          omega
        · have q' : gNw G T e f < gNw G T e x := q
          omega
        · exact absurd q.2.2 l
      · rw [if_neg c] at q
        rcases q with q | q | q
        · exact absurd (Or.inl q) c
        · omega
        · have := a4 (fun z => c (Or.inl z))
          omega
/-- the edge noted as out when the best is e's -/
theorem gSt_out {G : gG} (hg : hGok G) {T e f x : Int} {σ : gSx} (h : gSk e σ) (hb : gBe G (gfr G e) (gsc G e) f x) (h1 : (gSt G T e x σ).1 ≠ -1) (h2 : (gSt G T e x σ).2.2 = e) : 0 ≤ (gSt G T e x σ).2.1 ∧ (gSt G T e x σ).2.1 < gE G := by
  unfold gSt at *
  by_cases c : x = -1
  · rw [if_pos c] at h1 h2
    have := h.2.2.2 h1
    omega
  · rw [if_neg c] at h1 h2 ⊢
    unfold gTk at *
    by_cases d : σ.1 = -1 ∨ gNw G T e x < σ.1
    · rw [if_pos d]
      rcases hb with w | w
      · exact absurd w.1 c
      · exact ⟨w.1.1, w.1.2.1⟩
    · rw [if_neg d] at h1 h2
      have := h.2.2.2 h1
      omega
theorem gSt_k {G : gG} (hg : hGok G) (hx : hGx G) {e f x : Int} {σ : gSx} (e0 : 0 ≤ e) (e1 : e < gE G) (h : gSk e σ) (hb : gBe G (gfr G e) (gsc G e) f x) : gSk (e + 1) (gSt G (gTo G (gTr G) (gE G).toNat) e x σ) := by
  unfold gSt
  by_cases c : x = -1
  · rw [if_pos c]
    exact gSk_m h
  · rw [if_neg c]
    rcases hb with w | w
    · exact absurd w.1 c
    · exact gTk_k hg hx e0 e1 ⟨w.1.1, w.1.2.1, w.1.2.2.1⟩ h
