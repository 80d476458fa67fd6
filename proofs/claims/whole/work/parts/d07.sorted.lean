/-! k: class Forest: the edges in order -/
def sO (G : gG) (m : Int) (o : Int → Int) : Prop := (∀ i, 0 ≤ i → i < m → 0 ≤ o i ∧ o i < m) ∧ (∀ i j, 0 ≤ i → i < j → j < m → glo G (o i) (o j)) ∧ ∀ e, 0 ≤ e → e < m → ∃ i, 0 ≤ i ∧ i < m ∧ o i = e
theorem sO_ins {G : gG} {e t : Int} {o : Int → Int} (t0 : 0 ≤ t) (t1 : t ≤ e) (h : sO G e o) (hu : ∀ i, t ≤ i → i < e → glo G e (o i)) (hl : ∀ i, 0 ≤ i → i < t → glo G (o i) e) : sO G (e + 1) (fun i => if i < t then o i else if i = t then e else o (i - 1)) := by
  obtain ⟨h1, h2, h3⟩ := h
  have v1 : ∀ i, i < t → (if i < t then o i else if i = t then e else o (i - 1)) = o i := fun i c => if_pos c
  have v2 : (if t < t then o t else if t = t then e else o (t - 1)) = e := by rw [if_neg (by omega), if_pos rfl]
  have v3 : ∀ i, t < i → (if i < t then o i else if i = t then e else o (i - 1)) = o (i - 1) := fun i c => by rw [if_neg (by omega), if_neg (by omega)]
  refine ⟨?_, ?_, ?_⟩
  · intro i i0 i1
    show 0 ≤ (if i < t then o i else if i = t then e else o (i - 1)) ∧ (if i < t then o i else if i = t then e else o (i - 1)) < e + 1
    rcases Int.lt_trichotomy i t with c | c | c
    · rw [v1 i c]
      have := h1 i i0 (by omega)
      omega
    · rw [c, v2]
      omega
    · rw [v3 i c]
      have := h1 (i - 1) (by omega) (by omega)
      omega
  · intro i j i0 ij j1
    show glo G (if i < t then o i else if i = t then e else o (i - 1)) (if j < t then o j else if j = t then e else o (j - 1))
    rcases Int.lt_trichotomy i t with c | c | c
    · rw [v1 i c]
      rcases Int.lt_trichotomy j t with d | d | d
      · rw [v1 j d]
        exact h2 i j i0 ij (by omega)
      · rw [d, v2]
        exact hl i i0 c
      · rw [v3 j d]
        exact h2 i (j - 1) i0 (by omega) (by omega)
    · rw [c, v2, v3 j (by omega)]
      exact hu (j - 1) (by omega) (by omega)
    · rw [v3 i c, v3 j (by omega)]
      exact h2 (i - 1) (j - 1) (by omega) (by omega) (by omega)
  · intro f f0 f1
    by_cases c : f = e
    · exact ⟨t, t0, by omega, by rw [c]; exact v2⟩
    · obtain ⟨i, i0, i1, i2⟩ := h3 f f0 (by omega)
      by_cases d : i < t
      · exact ⟨i, i0, by omega, (v1 i d).trans i2⟩
      · exact ⟨i + 1, by omega, by omega, (v3 (i + 1) (by omega)).trans (by rw [show i + 1 - 1 = i by omega]; exact i2)⟩
theorem q_cl {G : gG} {S : gS} {X : cX} {ν : ax_M} (hg : hGok G) (hw : hGw G) (hν : cI 29 G S X ν) {e f : Int} (h0 : -1 ≤ e) (h1 : e < gE G) (h2 : -1 ≤ f) (h3 : f < gE G) : aJ 1145 [.ref 29, .int (zI e), .int (zI f)] [] ν = some (some (.int (zB (gli G e f))), ν) := by
  have h := c_li (Or.inl rfl) (G := G) (S := S) (X := X) (μ := ν) hg.2.2.2.1 hw h0 h1 h2 h3
  rwa [show cM 29 G S X ν = ν from hν] at h
theorem zB_f : zB false = zI 0 := rfl
theorem zB_t' : ¬ zB true = zI 0 := zB_t
theorem q_so1 {G : gG} {S : gS} {X : cX} (hg : hGok G) (hw : hGw G) {e : Int} {o : Int → Int} (e0 : 0 ≤ e) (e1 : e < gE G) (ho : sO G e o) : ∀ (m : Nat) (t : Int) (ν : ax_M), cI 29 G S X ν → t = m → t ≤ e → (∀ i, 0 ≤ i → i < t → ν.1 203 i.toNat = zI (o i)) → (∀ i, t < i → i ≤ e → ν.1 203 i.toNat = zI (o (i - 1))) → (∀ i, t ≤ i → i < e → glo G e (o i)) → ∃ ν' o', aJ 890 [.ref 202, .ref 29, .int (zI e), .int (zI t)] [] ν = aJ 889 [.ref 202, .ref 29, .int (zI (e + 1))] [] ν' ∧ rP ν' 203 (e + 1) o' ∧ sO G (e + 1) o' ∧ fr [203] ν ν' := by
  have hE := hg.2.2.2.1
  intro m
  induction m with
  | zero =>
    intro t ν hc tm te hlo hup hu
    have t0 : t = 0 := tm
    subst t0
    have hi := sO_ins (Int.le_refl 0) te ho hu (fun i i0 i1 => by omega)
    refine ⟨(ax_up ν.1 203 (0 : Int).toNat (zI e), ν.2), _, ?_, ?_, hi, fru (by simp)⟩
    · rw [jl_890]
      simp (disch := omega) only [zI_lit, p_le]
      rw [if_pos (by omega), jl_891]
      simp (disch := omega) only [zI_lit, pt_203, z_b0, zI_add]
    · intro i i0 i1
      show ax_up ν.1 203 (0 : Int).toNat (zI e) 203 i.toNat = zI (if i < 0 then o i else if i = 0 then e else o (i - 1))
      by_cases c : i = 0
      · rw [c, up_at, if_neg (by omega), if_pos rfl]
      · rw [up_nk (by omega), if_neg (by omega), if_neg c]
        exact hup i (by omega) (by omega)
  | succ m ih =>
    intro t ν hc tm te hlo hup hu
    have hlt := hlo (t - 1) (by omega) (by omega)
    have hot := ho.1 (t - 1) (by omega) (by omega)
    by_cases c : glo G e (o (t - 1))
    · have hli : gli G e (o (t - 1)) = true := (gli_lo e0 (by omega)).mpr c
      have hf : fr [203] ν (ax_up ν.1 203 t.toNat (zI (o (t - 1))), ν.2) := fru (by simp)
      obtain ⟨ν', o', h1, h2, h3, h4⟩ := ih (t - 1) (ax_up ν.1 203 t.toNat (zI (o (t - 1))), ν.2) (cI_fr (Or.inl rfl) hf (fun a ha => by simp at ha; omega) hc) (by omega) (by omega) (by
        intro i i0 i1
        show ax_up ν.1 203 t.toNat (zI (o (t - 1))) 203 i.toNat = zI (o i)
        rw [up_nk (by omega)]
        exact hlo i i0 (by omega)) (by
        intro i i0 i1
        show ax_up ν.1 203 t.toNat (zI (o (t - 1))) 203 i.toNat = zI (o (i - 1))
        by_cases q : i = t
        · rw [q, up_at]
        · rw [up_nk (by omega)]
          exact hup i (by omega) i1) (by
        intro i i0 i1
        by_cases q : i = t - 1
        · rw [q]
          exact c
        · exact hu i (by omega) i1)
      refine ⟨ν', o', ?_, h2, h3, frt hf h4⟩
      rw [jl_890]
      simp (disch := omega) only [zI_lit, p_le, zI_sub, at_203, z_b1, hlt, zI_add, zI_neg]
      rw [if_neg (by omega), q_cl hg hw hc (by omega) e1 (by omega) (by omega), z_b1, hli]
      simp (disch := omega) only [at_203, z_b1, hlt, pt_203, z_b0, zI_lit, zI_neg, zI_add]
      rw [if_neg zB_t', show t + -1 = t - 1 by omega]
      exact h1
    · have hli : gli G e (o (t - 1)) = false := Bool.eq_false_iff.mpr (fun q => c ((gli_lo e0 (by omega)).mp q))
      have hlo2 : glo G (o (t - 1)) e := by
        rcases lo_tri (G := G) e (o (t - 1)) with q | q | q
        · exact absurd q c
        · omega
        · exact q
      have hi := sO_ins (by omega) te ho hu (fun i i0 i1 => by
        by_cases q : i = t - 1
        · rw [q]
          exact hlo2
        · exact lo_tr (ho.2.1 i (t - 1) i0 (by omega) (by omega)) hlo2)
      refine ⟨(ax_up ν.1 203 t.toNat (zI e), ν.2), _, ?_, ?_, hi, fru (by simp)⟩
      · rw [jl_890]
        simp (disch := omega) only [zI_lit, p_le, zI_sub, at_203, z_b1, hlt]
        rw [if_neg (by omega), q_cl hg hw hc (by omega) e1 (by omega) (by omega), z_b1, hli, zB_f, if_pos rfl, jl_891]
        simp (disch := omega) only [zI_lit, pt_203, z_b0, zI_add]
      · intro i i0 i1
        show ax_up ν.1 203 t.toNat (zI e) 203 i.toNat = zI (if i < t then o i else if i = t then e else o (i - 1))
        rcases Int.lt_trichotomy i t with d | d | d
        · rw [up_nk (by omega), if_pos d]
          exact hlo i i0 d
        · rw [d, up_at, if_neg (by omega), if_pos rfl]
        · rw [up_nk (by omega), if_neg (by omega), if_neg (by omega)]
          exact hup i d (by omega)
theorem q_sort {G : gG} {S : gS} {X : cX} {ν : ax_M} (hg : hGok G) (hw : hGw G) (hc : cI 29 G S X ν) : ∃ ν' o, aJ 888 [.ref 202, .ref 29] [] ν = some (none, ν') ∧ rP ν' 203 (gE G) o ∧ sO G (gE G) o ∧ fr [203] ν ν' := by
  have hE0 := hg.2.2.1
  have hE := hg.2.2.2.1
  have key : ∀ (m : Nat) (e : Int) (o : Int → Int) (ν : ax_M), cI 29 G S X ν → 0 ≤ e → e + m = gE G → rP ν 203 e o → sO G e o → ∃ ν' o, aJ 889 [.ref 202, .ref 29, .int (zI e)] [] ν = some (none, ν') ∧ rP ν' 203 (gE G) o ∧ sO G (gE G) o ∧ fr [203] ν ν' := by
    intro m
    induction m with
    | zero =>
      intro e o ν hc e0 e1 hr hs
      have hEE := q_E hc (Or.inl rfl)
      have he : e = gE G := by omega
      subst he
      refine ⟨ν, o, ?_, hr, hs, frz⟩
      rw [jl_889, hEE, if_pos (by rw [zI_le (zR_of (by omega)) (zR_of (by omega))]; omega), jl_892]
    | succ m ih =>
      intro e o ν hc e0 e1 hr hs
      have hEE := q_E hc (Or.inl rfl)
      obtain ⟨ν1, o1, h1, h2, h3, h4⟩ := q_so1 hg hw e0 (by omega) hs e.toNat e ν hc (by omega) (Int.le_refl _) (fun i i0 i1 => hr i i0 i1) (fun i i0 i1 => by omega) (fun i i0 i1 => by omega)
      obtain ⟨ν', o', g1, g2, g3, g4⟩ := ih (e + 1) o1 ν1 (cI_fr (Or.inl rfl) h4 (fun a ha => by simp at ha; omega) hc) (by omega) (by omega) h2 h3
      refine ⟨ν', o', ?_, g2, g3, frt h4 g4⟩
      rw [jl_889, hEE, if_neg (by rw [zI_le (zR_of (by omega)) (zR_of (by omega))]; omega), h1, g1]
  rw [jl_888]
  simp only [zI_lit]
  exact key (gE G).toNat 0 (fun i => i) ν hc (by omega) (by omega) (fun i i0 i1 => by omega) ⟨fun i i0 i1 => by omega, fun i j i0 i1 i2 => by omega, fun e e0 e1 => by omega⟩
