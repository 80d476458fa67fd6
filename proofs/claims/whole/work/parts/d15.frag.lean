/-! k: fragments -/
theorem q_isb {G : gG} {S : gS} {X : cX} {ν : ax_M} (hr : hRs G S) (hc : cI 29 G S X ν) {e : Int} (e0 : 0 ≤ e) (e1 : e < gE G) (hE : gE G ≤ 30) : (gBr G S e → aJ 910 [.ref 202, .ref 29, .int (zI e)] [] ν = some (some (.int (zI 1)), ν)) ∧ (¬ gBr G S e → aJ 910 [.ref 202, .ref 29, .int (zI e)] [] ν = some (some (.int (zI 0)), ν)) := by
  have n1 := q_en hc (Or.inl rfl) (show 0 ≤ 2 * e by omega) (show 2 * e < 60 by omega)
  have n2 := q_en hc (Or.inl rfl) (show 0 ≤ 2 * e + 1 by omega) (show 2 * e + 1 < 60 by omega)
  have b1 := hr.1 (2 * e)
  have b2 := hr.1 (2 * e + 1)
  have h912 : ∀ s : Int, s = 0 ∨ s = 1 → aJ 912 [] [.int (zI s)] ν = some (some (.int (zI s)), ν) := by
    intro s hs
    rw [jl_912, if_pos (by
      rcases hs with rfl | rfl
      · exact Or.inl rfl
      · exact Or.inr rfl)]
  have he' : aJ 910 [.ref 202, .ref 29, .int (zI e)] [] ν = if gen S (2 * e) = 1 then (if gen S (2 * e + 1) = 1 then some (some (.int (zI 1)), ν) else some (some (.int (zI 0)), ν)) else some (some (.int (zI 0)), ν) := by
    rw [jl_910]
    simp only [zI_lit, zI_mul, zI_add]
    rw [n1, z_b1, n2, z_b1, jl_911]
    simp (disch := omega) only [zI_lit, p_eq]
    rw [h912 1 (Or.inr rfl), h912 0 (Or.inl rfl)]
  rw [he']
  constructor
  · intro h
    rw [if_pos h.2.2.1, if_pos h.2.2.2]
  · intro h
    by_cases c : gen S (2 * e) = 1
    · rw [if_pos c, if_neg (fun q => h ⟨e0, e1, c, q⟩)]
    · rw [if_neg c]
theorem q_frag {G : gG} {S : gS} {X : cX} {ν : ax_M} (hg : hGok G) (hr : hRs G S) (hc : cI 29 G S X ν) : ∃ ν' p, aJ 913 [.ref 202, .ref 29] [] ν = some (some (.int (zI (nRo G (gBr G S)))), ν') ∧ fP G (gBr G S) p ν' ∧ fr [202, 204] ν ν' := by
  have hE := hg.2.2.2.1
  have hE0 := hg.2.2.1
  have key : ∀ (m : Nat) (e : Int) (p : Int → Int) (ν : ax_M), cI 29 G S X ν → 0 ≤ e → e + m = gE G → fP G (fun f => gBr G S f ∧ f < e) p ν → ∃ ν' p, aJ 914 [.ref 202, .ref 29, .int (zI e)] [] ν = some (some (.int (zI (nRo G (gBr G S)))), ν') ∧ fP G (gBr G S) p ν' ∧ fr [202, 204] ν ν' := by
    intro m
    induction m with
    | zero =>
      intro e p ν hc e0 em hp
      have hEE := q_E hc (Or.inl rfl)
      have hp' := fP_c (Q := gBr G S) (fun n k => cc_congr (fun f f0 f1 => ⟨fun q => q.1, fun q => ⟨q, by omega⟩⟩)) hp
      refine ⟨ν, p, ?_, hp', frz⟩
      rw [jl_914, hEE, if_pos (by rw [zI_le (zR_of (by omega)) (zR_of (by omega))]; omega), jl_916, hp'.2.2]
    | succ m ih =>
      intro e p ν hc e0 em hp
      have hEE := q_E hc (Or.inl rfl)
      obtain ⟨t1, t2⟩ := cI_cP (Or.inl rfl) hc
      have hb := q_isb hr hc e0 (by omega) hE
      rw [jl_914, hEE, if_neg (by rw [zI_le (zR_of (by omega)) (zR_of (by omega))]; omega)]
      by_cases b : gBr G S e
      · have hcc : ∀ n k, gcc G (fun f => (gBr G S f ∧ f < e) ∨ f = e) n k ↔ gcc G (fun f => gBr G S f ∧ f < e + 1) n k := fun n k => cc_congr (fun f f0 f1 => by
          constructor
          · rintro (q | q)
            · exact ⟨q.1, by omega⟩
            · rw [q]
              exact ⟨b, by omega⟩
          · intro q
            by_cases c : f = e
            · exact Or.inr c
            · exact Or.inl ⟨q.1, by omega⟩)
        rw [hb.1 b, z_b1, if_neg (by decide)]
        by_cases q : gcc G (fun f => gBr G S f ∧ f < e) (gfr G e) (gsc G e)
        · obtain ⟨g1, g2⟩ := q_jo0 hg t2 hp e0 (by omega) q
          rw [g1, z_b1, jl_915]
          simp only [zI_lit, zI_add]
          exact ih (e + 1) p ν hc (by omega) (by omega) (fP_c hcc g2)
        · obtain ⟨ν1, p', g1, g2, g3, g4, g5, g6⟩ := q_jo1 hg t2 hp e0 (by omega) q
          rw [g1, z_b1, jl_915]
          simp only [zI_lit, zI_add]
          obtain ⟨ν', p2, k1, k2, k3⟩ := ih (e + 1) p' ν1 (cI_fr (Or.inl rfl) g3 (fun a ha => by simp at ha; omega) hc) (by omega) (by omega) (fP_c hcc g2)
          exact ⟨ν', p2, k1, k2, frt g3 k3⟩
      · have hcc : ∀ n k, gcc G (fun f => gBr G S f ∧ f < e) n k ↔ gcc G (fun f => gBr G S f ∧ f < e + 1) n k := fun n k => cc_congr (fun f f0 f1 => by
          constructor
          · exact fun q => ⟨q.1, by omega⟩
          · intro q
            have hne : f ≠ e := fun z => b (z ▸ q.1)
            exact ⟨q.1, by omega⟩)
        rw [hb.2 b, z_b1, if_pos (by decide), jl_915]
        simp only [zI_lit, zI_add]
        exact ih (e + 1) p ν hc (by omega) (by omega) (fP_c hcc hp)
  obtain ⟨ν1, p, b1, b2, b3, b4, b5⟩ := q_scat hg (cI_cP (Or.inl rfl) hc).2
  have hcc : ∀ n k, gcc G (fun _ => False) n k ↔ gcc G (fun f => gBr G S f ∧ f < 0) n k := fun n k => cc_congr (fun f f0 _ => ⟨fun q => q.elim, fun q => by omega⟩)
  obtain ⟨ν', p2, k1, k2, k3⟩ := key (gE G).toNat 0 p ν1 (cI_fr (Or.inl rfl) b3 (fun a ha => by simp at ha; omega) hc) (by omega) (by omega) (fP_c hcc b2)
  refine ⟨ν', p2, ?_, k2, frt b3 k3⟩
  rw [jl_913, b1, z_b0]
  simp only [zI_lit]
  exact k1
/-! k: folds -/
noncomputable def gFo (C : Int → Int → Prop) (v : Int → Int) (b : Int) : Nat → Int
  | 0 => b
  | n + 1 => @ite _ (C n (gFo C v b n)) (Classical.propDecidable _) (v n) (gFo C v b n)
theorem gFo_p {C : Int → Int → Prop} {v : Int → Int} {b : Int} {n : Nat} (h : C n (gFo C v b n)) : gFo C v b (n + 1) = v n := if_pos h
theorem gFo_n {C : Int → Int → Prop} {v : Int → Int} {b : Int} {n : Nat} (h : ¬ C n (gFo C v b n)) : gFo C v b (n + 1) = gFo C v b n := if_neg h
theorem gFo_r {C : Int → Int → Prop} {v : Int → Int} {b lo hi' : Int} (hb : lo ≤ b ∧ b ≤ hi') {m : Nat} (hv : ∀ i : Int, 0 ≤ i → i < m → lo ≤ v i ∧ v i ≤ hi') : ∀ n : Nat, n ≤ m → lo ≤ gFo C v b n ∧ gFo C v b n ≤ hi' := by
  intro n
  induction n with
  | zero => exact fun _ => hb
  | succ n ih =>
    intro hn
    by_cases c : C n (gFo C v b n)
    · rw [gFo_p c]
      exact hv n (by omega) (by omega)
    · rw [gFo_n c]
      exact ih (by omega)
/-- the greatest, or 0 -/
noncomputable def gMx (f : Int → Int) : Nat → Int := gFo (fun i b => b < f i) f 0
theorem gMx_s {f : Int → Int} : ∀ n : Nat, (0 ≤ gMx f n) ∧ (∀ i : Int, 0 ≤ i → i < n → f i ≤ gMx f n) ∧ (gMx f n = 0 ∨ ∃ i : Int, 0 ≤ i ∧ i < n ∧ f i = gMx f n) := by
  intro n
  induction n with
  | zero => exact ⟨Int.le_refl _, fun i i0 i1 => by omega, Or.inl rfl⟩
  | succ n ih =>
    obtain ⟨h0, h1, h2⟩ := ih
    by_cases c : gMx f n < f n
    · have e : gMx f (n + 1) = f n := gFo_p c
      rw [e]
      refine ⟨by omega, fun i i0 i1 => ?_, Or.inr ⟨n, by omega, by omega, rfl⟩⟩
      by_cases d : i = n
      · rw [d]
        exact Int.le_refl _
      · have := h1 i i0 (by omega)
        omega
    · have e : gMx f (n + 1) = gMx f n := gFo_n c
      rw [e]
      refine ⟨h0, fun i i0 i1 => ?_, ?_⟩
      · by_cases d : i = n
        · rw [d]
          omega
        · exact h1 i i0 (by omega)
      · rcases h2 with h2 | ⟨i, i0, i1, i2⟩
        · exact Or.inl h2
        · exact Or.inr ⟨i, i0, by omega, i2⟩
theorem q_hil {G : gG} {S : gS} {X : cX} {ν : ax_M} (hg : hGok G) (hL : 0 ≤ gnL S ∧ gnL S ≤ 252) (hr : hRs G S) (hc : cI 29 G S X ν) : aJ 1161 [.ref 29] [] ν = some (some (.int (zI (gMx (fun n => gnd S n 1) (gN G).toNat))), ν) := by
  have hN0 := hg.1
  have hN := hg.2.1
  have hNN := q_N hc (Or.inl rfl)
  have key : ∀ (m n : Nat), (n : Int) + m = gN G → aJ 1162 [.ref 29, .int (zI (gMx (fun n => gnd S n 1) n)), .int (zI n)] [] ν = some (some (.int (zI (gMx (fun n => gnd S n 1) (gN G).toNat))), ν) := by
    intro m
    induction m with
    | zero =>
      intro n hn
      rw [jl_1162, hNN, if_pos (by rw [zI_le (zR_of (by omega)) (zR_of (by omega))]; omega), jl_1163, show n = (gN G).toNat by omega]
    | succ m ih =>
      intro n hn
      have ih' := ih (n + 1) (by omega)
      have b1 := hr.2.1 n
      have rg := gFo_r (C := fun i b => b < gnd S i 1) (v := fun n => gnd S n 1) (b := 0) (lo := 0) (hi' := 252) (by omega) (m := 12) (fun i i0 i1 => by have := hr.2.1 i; exact ⟨this.2.1.1, by have := this.2.1.2; omega⟩) n (by omega)
      have rg' : 0 ≤ gMx (fun n => gnd S n 1) n ∧ gMx (fun n => gnd S n 1) n ≤ 252 := rg
      rw [jl_1162, hNN, if_neg (by rw [zI_le (zR_of (by omega)) (zR_of (by omega))]; omega)]
      simp only [zI_lit, zI_add]
      rw [q_of hc (Or.inl rfl) (by omega) (by omega) (by omega) (by omega), z_b1]
      have b2 := b1.2.1
      simp (disch := omega) only [p_lt]
      by_cases c : gMx (fun n => gnd S n 1) n < gnd S n 1
      · rw [if_pos c]
        rw [show gMx (fun n => gnd S n 1) (n + 1) = gnd S n 1 from gFo_p c] at ih'
        exact ih'
      · rw [if_neg c]
        rw [show gMx (fun n => gnd S n 1) (n + 1) = gMx (fun n => gnd S n 1) n from gFo_n c] at ih'
        exact ih'
  rw [jl_1161]
  simp only [zI_lit]
  exact key (gN G).toNat 0 (by omega)
theorem q_rhil {G : gG} {S : gS} {ν : ax_M} (hg : hGok G) (hL : 0 ≤ gnL S ∧ gnL S ≤ 252) (hr : hRs G S) (hm : mI G S ν) : aJ 445 [.ref 207, .int (zI 0)] [] ν = some (some (.int (zI (gMx (fun n => gnd S n 1) (gN G).toNat))), ν) := by
  have hN0 := hg.1
  have hN := hg.2.1
  have key : ∀ (m n : Nat), (n : Int) + m = gN G → aJ 446 [.ref 207, .int (zI (gMx (fun n => gnd S n 1) n)), .int (zI n)] [] ν = some (some (.int (zI (gMx (fun n => gnd S n 1) (gN G).toNat))), ν) := by
    intro m
    induction m with
    | zero =>
      intro n hn
      rw [jl_446]
      simp (disch := omega) only [zI_lit, q_rN hm, z_bo, p_le]
      rw [if_pos (by omega), jl_448, show n = (gN G).toNat by omega]
    | succ m ih =>
      intro n hn
      have ih' := ih (n + 1) (by omega)
      have b1 := hr.2.1 n
      have b2 := b1.2.1
      have rg := gFo_r (C := fun i b => b < gnd S i 1) (v := fun n => gnd S n 1) (b := 0) (lo := 0) (hi' := 252) (by omega) (m := 12) (fun i i0 i1 => by have := hr.2.1 i; exact ⟨this.2.1.1, by have := this.2.1.2; omega⟩) n (by omega)
      have rg' : 0 ≤ gMx (fun n => gnd S n 1) n ∧ gMx (fun n => gnd S n 1) n ≤ 252 := rg
      rw [jl_446]
      simp (disch := omega) only [zI_lit, q_rN hm, z_bo, p_le, q_nd hm, z_b1, jl_447, zI_add]
      rw [if_neg (by omega)]
      by_cases c : gMx (fun n => gnd S n 1) n < gnd S n 1
      · rw [if_neg (by omega)]
        rw [show gMx (fun n => gnd S n 1) (n + 1) = gnd S n 1 from gFo_p c] at ih'
        exact ih'
      · rw [if_pos (by omega)]
        rw [show gMx (fun n => gnd S n 1) (n + 1) = gMx (fun n => gnd S n 1) n from gFo_n c] at ih'
        exact ih'
  rw [jl_445]
  simp only [zI_lit]
  exact key (gN G).toNat 0 (by omega)
