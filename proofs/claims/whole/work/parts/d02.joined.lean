/-! k: what is joined, on the reference's side -/
theorem ibo_d (i : Int) : zI 1 <<< (zI i &&& zI 31) = ibo i := by
  have h : ibo i = zI 1 <<< (zI i &&& zI 31) := rfl
  rw [h]
noncomputable def ibM (r : Int32) : Nat := pct (fun i => ¬ ibt r i) (fun _ => Classical.propDecidable _) 32
theorem ibM_lt {r r' : Int32} (h : ∀ b, 0 ≤ b → ibt r b → ibt r' b) (hn : r' ≠ r) : ibM r' < ibM r := by
  have hx : ∃ b : Int, 0 ≤ b ∧ b < 32 ∧ ibt r' b ∧ ¬ ibt r b := by
    apply Classical.byContradiction
    intro hc
    apply hn
    refine ibt_ext (fun b b0 b1 => ⟨fun q => ?_, h b b0⟩)
    apply Classical.byContradiction
    intro q2
    exact hc ⟨b, b0, b1, q, q2⟩
  obtain ⟨b, b0, b1, b2, b3⟩ := hx
  unfold ibM
  have h1 := pct_rem (P := fun i => ¬ ibt r i) (Q := fun i => ¬ ibt r i ∧ i ≠ b) (D := fun _ => Classical.propDecidable _) (D2 := fun _ => Classical.propDecidable _) (m := 32) b0 (by omega) b3 (fun i => Iff.rfl)
  have h2 := pct_sub (P := fun i => ¬ ibt r i ∧ i ≠ b) (Q := fun i => ¬ ibt r' i) (D := fun _ => Classical.propDecidable _) (D2 := fun _ => Classical.propDecidable _) (m := 32) (m' := 32) (fun i i0 i1 i2 => ⟨i1, fun q => i2 (h i i0 q), fun q => i2 (by rw [q]; exact b2)⟩)
  omega
theorem q_jp {G : gG} {S : gS} {ν : ax_M} (hg : hGok G) (hm : mI G S ν) {s was : Int32} {n : Int} : ∀ (m : Nat) (e : Int) (r : Int32), 0 ≤ e → e + m = gE G → (∀ b, 0 ≤ b → b < 32 → ibt r b → gcc G (ibt s) n b) → ∃ r', aJ 473 [.ref 207, .int s, .int r, .int was, .int (zI e)] [] ν = aJ 472 [.ref 207, .int s, .int r', .int was] [] ν ∧ (∀ b, 0 ≤ b → ibt r b → ibt r' b) ∧ (∀ b, 0 ≤ b → b < 32 → ibt r' b → gcc G (ibt s) n b) ∧ (r' = r → ∀ f, e ≤ f → f < gE G → ibt s f → (ibt r (gfr G f) ↔ ibt r (gsc G f))) := by
  have hE := hg.2.2.2.1
  have hN := hg.2.1
  intro m
  induction m with
  | zero =>
    intro e r e0 e1 hr
    refine ⟨r, ?_, fun b _ h => h, hr, fun _ f f0 f1 => by omega⟩
    rw [jl_473]
    simp (disch := omega) only [zI_lit, q_rE hm, z_bo, p_le]
    rw [if_pos (by omega), jl_475]
  | succ m ih =>
    intro e r e0 e1 hr
    obtain ⟨a0, a1, c0, c1, ac⟩ := hg.2.2.2.2 e e0 (by omega)
    rw [jl_473]
    simp (disch := omega) only [zI_lit, q_rE hm, z_bo, p_le, zI_add, ld_209, q_fr hm, q_sc hm, ibo_d, jl_474]
    rw [if_neg (by omega)]
    by_cases q : ibt s e
    · rw [if_pos (ibs_p e0 (by omega) q)]
      by_cases c : r &&& (ibo (gfr G e) ||| ibo (gsc G e)) = zI 0
      · rw [if_pos c]
        obtain ⟨r', h1, h2, h3, h4⟩ := ih (e + 1) r (by omega) (by omega) hr
        refine ⟨r', h1, h2, h3, fun hrr f f0 f1 p => ?_⟩
        by_cases cf : f = e
        · subst cf
          have na : ¬ ibt r (gfr G f) := fun w => ibt_z a0 (by rw [← c, ibt_and, ibt_or, ibt_o a0 (by omega) a0]; exact ⟨w, Or.inl rfl⟩)
          have nc : ¬ ibt r (gsc G f) := fun w => ibt_z c0 (by rw [← c, ibt_and, ibt_or, ibt_o c0 (by omega) c0]; exact ⟨w, Or.inr rfl⟩)
          exact ⟨fun w => absurd w na, fun w => absurd w nc⟩
        · exact h4 hrr f (by omega) f1 p
      · rw [if_neg c]
        have hx : ibt r (gfr G e) ∨ ibt r (gsc G e) := by
          apply Classical.byContradiction
          intro hc
          apply c
          refine ibt_ext (fun b b0 b1 => ⟨fun w => ?_, fun w => absurd w (ibt_z b0)⟩)
          rw [ibt_and, ibt_or, ibt_o a0 (by omega) b0, ibt_o c0 (by omega) b0] at w
          rcases w with ⟨w1, w2 | w2⟩
          · exact absurd (Or.inl (by rw [w2]; exact w1)) hc
          · exact absurd (Or.inr (by rw [w2]; exact w1)) hc
        have he := cc_edge (G := G) (P := ibt s) e0 (by omega) q
        have hab : gcc G (ibt s) n (gfr G e) ∧ gcc G (ibt s) n (gsc G e) := by
          rcases hx with w | w
          · have := hr _ a0 (by omega) w
            exact ⟨this, cc_trans this he⟩
          · have := hr _ c0 (by omega) w
            exact ⟨cc_trans this (cc_symm he), this⟩
        have hr2 : ∀ b, 0 ≤ b → b < 32 → ibt (r ||| (ibo (gfr G e) ||| ibo (gsc G e))) b → gcc G (ibt s) n b := by
          intro b b0 b1 w
          rw [ibt_or, ibt_or, ibt_o a0 (by omega) b0, ibt_o c0 (by omega) b0] at w
          rcases w with w | w | w
          · exact hr b b0 b1 w
          · rw [← w]
            exact hab.1
          · rw [← w]
            exact hab.2
        obtain ⟨r', h1, h2, h3, h4⟩ := ih (e + 1) _ (by omega) (by omega) hr2
        have hsub : ∀ b, 0 ≤ b → ibt r b → ibt (r ||| (ibo (gfr G e) ||| ibo (gsc G e))) b := fun b _ w => by
          rw [ibt_or]
          exact Or.inl w
        refine ⟨r', h1, fun b b0 w => h2 b b0 (hsub b b0 w), h3, fun hrr f f0 f1 p => ?_⟩
        have heq : r ||| (ibo (gfr G e) ||| ibo (gsc G e)) = r := ibt_ext (fun b b0 b1 => ⟨fun w => by have := h2 b b0 w; rwa [hrr] at this, hsub b b0⟩)
        by_cases cf : f = e
        · subst cf
          have wa : ibt r (gfr G f) := by
            rw [← heq, ibt_or, ibt_or, ibt_o a0 (by omega) a0]
            exact Or.inr (Or.inl rfl)
          have wc : ibt r (gsc G f) := by
            rw [← heq, ibt_or, ibt_or, ibt_o c0 (by omega) c0]
            exact Or.inr (Or.inr rfl)
          exact ⟨fun _ => wc, fun _ => wa⟩
        · rw [heq] at h4
          exact h4 hrr f (by omega) f1 p
    · rw [if_neg (by rw [ibs_n e0 (by omega) q]; exact ibs_01)]
      obtain ⟨r', h1, h2, h3, h4⟩ := ih (e + 1) r (by omega) (by omega) hr
      refine ⟨r', h1, h2, h3, fun hrr f f0 f1 p => ?_⟩
      by_cases cf : f = e
      · subst cf
        exact absurd p q
      · exact h4 hrr f (by omega) f1 p
theorem q_jd {G : gG} {ν : ax_M} (hg : hGok G) {s r : Int32} {n : Int} (n0 : 0 ≤ n) (n1 : n < 12) (hn : ibt r n) (hr : ∀ b, 0 ≤ b → b < 32 → ibt r b → gcc G (ibt s) n b) (hc : ∀ f, 0 ≤ f → f < gE G → ibt s f → (ibt r (gfr G f) ↔ ibt r (gsc G f))) : aJ 472 [.ref 207, .int s, .int r, .int r] [] ν = some (some (.int (ibS (gcc G (ibt s) n))), ν) := by
  have e : r = ibS (gcc G (ibt s) n) := by
    refine ibS_eq (fun i i0 i1 => ⟨hr i i0 i1, fun h => ?_⟩)
    refine (h (fun c => ibt r c) (fun e e0 e1 p => hc e e0 e1 p) hn)
  rw [jl_472, if_pos rfl, jl_476]
  exact congrArg (fun x => some (some (Value.int x), ν)) e
theorem q_joined {G : gG} {S : gS} {ν : ax_M} (hg : hGok G) (hm : mI G S ν) {s : Int32} {n : Int} (n0 : 0 ≤ n) (n1 : n < 12) : aJ 471 [.ref 207, .int (zI n), .int s] [] ν = some (some (.int (ibS (gcc G (ibt s) n))), ν) := by
  have key : ∀ (k : Nat) (r was : Int32), ibM r < k → r ≠ was → ibt r n → (∀ b, 0 ≤ b → b < 32 → ibt r b → gcc G (ibt s) n b) → aJ 472 [.ref 207, .int s, .int r, .int was] [] ν = some (some (.int (ibS (gcc G (ibt s) n))), ν) := by
    intro k
    induction k with
    | zero =>
      intro r was h
      omega
    | succ k ih =>
      intro r was hk hne hn hr
      have hE0 := hg.2.2.1
      obtain ⟨r', h1, h2, h3, h4⟩ := q_jp hg hm (was := r) (gE G).toNat 0 r (by omega) (by omega) hr
      rw [jl_472, if_neg hne]
      simp only [zI_lit]
      rw [h1]
      by_cases c : r' = r
      · rw [c]
        exact q_jd hg n0 n1 hn hr (fun f f0 f1 => h4 c f f0 f1)
      · have := ibM_lt h2 c
        exact ih r' r (by omega) c (h2 n n0 hn) h3
  rw [jl_471]
  simp only [zI_lit, ibo_d]
  have hn : ibt (ibo n) n := (ibt_o n0 (by omega) n0).mpr rfl
  refine key _ _ _ (Nat.lt_succ_self _) (fun q => ibt_z n0 (by rw [← q]; exact hn)) hn ?_
  intro b b0 b1 h
  rw [ibt_o n0 (by omega) b0] at h
  rw [h]
  exact cc_refl
