/-! k: heaviest, edge, slack -/
theorem Tr_cc {G : gG} {a b : Int} : gcc G (gTr G) a b ↔ gcc G (gT G) a b := cc_congr (fun f f0 f1 => ⟨fun q => q.2.2, fun q => ⟨f0, f1, q⟩⟩)
theorem Tr_cx {G : gG} {e a b : Int} : gcc G (fun f => gTr G f ∧ f ≠ e) a b ↔ gcc G (fun f => gT G f ∧ f ≠ e) a b := cc_congr (fun f f0 f1 => ⟨fun q => ⟨q.1.2.2, q.2⟩, fun q => ⟨⟨f0, f1, q.1⟩, q.2⟩⟩)
def gCd (G : gG) (a b e : Int) : Prop := 0 ≤ e ∧ e < gE G ∧ gT G e ∧ ¬ gcc G (fun f => gT G f ∧ f ≠ e) a b
def gBe (G : gG) (a b i x : Int) : Prop := (x = -1 ∧ ∀ e, e < i → ¬ gCd G a b e) ∨ (gCd G a b x ∧ x < i ∧ ∀ e, gCd G a b e → e < i → e = x ∨ glo G e x)
theorem q_hv {G : gG} {S : gS} {ν : ax_M} (hg : hGok G) (hw : hGw G) (hm : mI G S ν) {a b : Int} (a0 : 0 ≤ a) (a1 : a < 12) (b0 : 0 ≤ b) (b1 : b < 12) : ∀ (m : Nat) (i x : Int), 0 ≤ i → i + m = gE G → gBe G a b i x → ∃ x', gBe G a b (gE G) x' ∧ aJ 531 [.ref 207, .int (zI a), .int (zI b), .int (ibS (gTr G)), .int (zI x), .int (zI i)] [] ν = some (some (.int (zI x')), ν) := by
  have hE := hg.2.2.2.1
  intro m
  induction m with
  | zero =>
    intro i x i0 i1 h
    have hi : i = gE G := by omega
    subst hi
    refine ⟨x, h, ?_⟩
    rw [jl_531]
    simp (disch := omega) only [zI_lit, q_rE hm, z_bo, p_le]
    rw [if_pos (by omega), jl_534]
  | succ m ih =>
    intro i x i0 i1 h
    have hx : -1 ≤ x ∧ x < 30 := by
      rcases h with h | h
      · omega
      · have := h.1.1
        have := h.1.2.1
        omega
    have no : ¬ gCd G a b i → gBe G a b (i + 1) x := by
      intro hn
      rcases h with ⟨h1, h2⟩ | ⟨h1, h2, h3⟩
      · refine Or.inl ⟨h1, fun e he => ?_⟩
        by_cases c : e = i
        · rw [c]
          exact hn
        · exact h2 e (by omega)
      · refine Or.inr ⟨h1, by omega, fun e he hi => ?_⟩
        by_cases c : e = i
        · exact absurd (c ▸ he) hn
        · exact h3 e he (by omega)
    rw [jl_531]
    simp (disch := omega) only [zI_lit, q_rE hm, z_bo, p_le, ibo_d, zI_neg, jl_532, jl_533, zI_add]
    rw [if_neg (by omega)]
    by_cases t : gTr G i
    · have hrem : ibS (gTr G) &&& (ibo i ^^^ zI (-1)) = ibS (fun f => gTr G f ∧ f ≠ i) := ibS_rem i0 (by omega) (fun j _ _ => Iff.rfl)
      rw [if_pos (ibs_p i0 (by omega) ((ibS_b i0 (by omega)).mpr t)), hrem, q_joinP hg hm a0 a1, z_b1]
      by_cases q : gcc G (fun f => gT G f ∧ f ≠ i) a b
      · rw [if_neg (by rw [ibs_p b0 (by omega) ((ibS_b b0 (by omega)).mpr (Tr_cx.mpr q))]; exact fun w => ibs_01 w.symm)]
        exact ih (i + 1) x (by omega) (by omega) (no (fun w => w.2.2.2 q))
      · have hc : gCd G a b i := ⟨t.1, t.2.1, t.2.2, q⟩
        rw [if_pos (ibs_n b0 (by omega) (fun w => q (Tr_cx.mp ((ibS_b b0 (by omega)).mp w))))]
        simp (disch := omega) only [p_eq]
        rcases h with ⟨h1, h2⟩ | ⟨h1, h2, h3⟩
        · rw [if_pos h1]
          refine ih (i + 1) i (by omega) (by omega) (Or.inr ⟨hc, by omega, fun e he hi => ?_⟩)
          by_cases c : e = i
          · exact Or.inl c
          · exact absurd he (h2 e (by omega))
        · have x0 := h1.1
          rw [if_neg (by omega), q_li hg hw hm x0 (by omega) i0 (by omega), z_b1]
          by_cases l : glo G x i
          · have hli : gli G x i = true := (gli_lo x0 i0).mpr l
            rw [hli, if_neg zB_t']
            refine ih (i + 1) i (by omega) (by omega) (Or.inr ⟨hc, by omega, fun e he hi => ?_⟩)
            by_cases c : e = i
            · exact Or.inl c
            · rcases h3 e he (by omega) with w | w
              · rw [w]
                exact Or.inr l
              · exact Or.inr (lo_tr w l)
          · have hli : gli G x i = false := Bool.eq_false_iff.mpr (fun w => l ((gli_lo x0 i0).mp w))
            rw [hli, zB_f, if_pos rfl]
            have l2 : glo G i x := by
              rcases lo_tri (G := G) x i with w | w | w
              · exact absurd w l
              · omega
              · exact w
            refine ih (i + 1) x (by omega) (by omega) (Or.inr ⟨h1, by omega, fun e he hi => ?_⟩)
            by_cases c : e = i
            · rw [c]
              exact Or.inr l2
            · exact h3 e he (by omega)
    · rw [if_neg (by rw [ibs_n i0 (by omega) (fun w => t ((ibS_b i0 (by omega)).mp w))]; exact ibs_01)]
      exact ih (i + 1) x (by omega) (by omega) (no (fun w => t ⟨w.1, w.2.1, w.2.2.1⟩))
theorem q_heaviest {G : gG} {S : gS} {U : List gU} {K : qK} (hp : pOK G S U K) (a b : Int32) : qCl G S U K 750 527 [.ref 0, .int a, .int b] [.ref 207, .int a, .int b] := by
  obtain ⟨a, ha, rfl⟩ := zI_of a
  obtain ⟨b, hb, rfl⟩ := zI_of b
  have hg := hp.1
  have hw := pOK_w hp
  have hN := hg.2.1
  have hE := hg.2.2.2.1
  have hnl : ∀ e, 0 ≤ e → e < gE G → gfr G e ≠ gsc G e := fun e e0 e1 => (hg.2.2.2.2 e e0 e1).2.2.2.2
  have bad : ¬ ((0 ≤ a ∧ a < gN G) ∧ (0 ≤ b ∧ b < gN G) ∧ a ≠ b) → qCl G S U K 750 527 [.ref 0, .int (zI a), .int (zI b)] [.ref 207, .int (zI a), .int (zI b)] := by
    intro hc
    refine qCl_same hp (zI (-1)) ?_ ?_
    · intro ν hi
      obtain ⟨⟨X, x1, x2⟩, _, _⟩ := iC_R hp.2.2.1 hi
      have h751 : aJ 751 [] [] ν = some (some (.int (zI (-1))), ν) := by
        rw [jl_751, jl_752]
        rfl
      rw [jl_750, q_in hg x1 ha, z_b1]
      by_cases ca : 0 ≤ a ∧ a < gN G
      · rw [show decide (0 ≤ a ∧ a < gN G) = true by simp [ca], if_neg zB_t, q_in hg x1 hb, z_b1]
        by_cases cb : 0 ≤ b ∧ b < gN G
        · rw [show decide (0 ≤ b ∧ b < gN G) = true by simp [cb], if_neg zB_t, if_pos (congrArg zI (show a = b by omega)), h751]
        · rw [show decide (0 ≤ b ∧ b < gN G) = false by simp; omega, if_pos (by decide), h751]
      · rw [show decide (0 ≤ a ∧ a < gN G) = false by simp; omega, if_pos (by decide), h751]
    · intro ν ν0 e0 hi0
      have m1 := hi0.1
      have h528 : aJ 528 [] [] ν0 = some (some (.int (zI (-1))), ν0) := by
        rw [jl_528]
        rfl
      rw [jl_527, ← e0, q_rin hg m1 ha, z_b1]
      by_cases ca : 0 ≤ a ∧ a < gN G
      · rw [show decide (0 ≤ a ∧ a < gN G) = true by simp [ca], if_neg zB_t, q_rin hg m1 hb, z_b1]
        by_cases cb : 0 ≤ b ∧ b < gN G
        · rw [show decide (0 ≤ b ∧ b < gN G) = true by simp [cb], if_neg zB_t, if_pos (congrArg zI (show a = b by omega)), h528]
        · rw [show decide (0 ≤ b ∧ b < gN G) = false by simp; omega, if_pos (by decide), h528]
      · rw [show decide (0 ≤ a ∧ a < gN G) = false by simp; omega, if_pos (by decide), h528]
  by_cases hc : (0 ≤ a ∧ a < gN G) ∧ (0 ≤ b ∧ b < gN G) ∧ a ≠ b
  · obtain ⟨ca, cb, cn⟩ := hc
    have hda : decide (0 ≤ a ∧ a < gN G) = true := by simp [ca]
    have hdb : decide (0 ≤ b ∧ b < gN G) = true := by simp [cb]
    have hne : ¬ zI a = zI b := fun q => cn ((zI_eq ha hb).mp q)
    by_cases q : gcc G gAll a b
    · obtain ⟨x, hx⟩ := J_of hE hw cn q
      refine qCl_F hp (zI x) ?_ ?_
      · intro ν hi
        obtain ⟨⟨X, x1, x2⟩, _, _⟩ := iC_R hp.2.2.1 hi
        obtain ⟨ν', h1, h2⟩ := q_joinA hg hw x1 ca.1 (by omega) cb.1 (by omega) cn
        refine ⟨ν', ?_, h1⟩
        rcases h2 with ⟨y, h2, h3⟩ | ⟨h2, h3⟩
        · rw [J_uni h2 hx] at h3
          rw [jl_750, q_in hg x1 ha, z_b1, hda, if_neg zB_t, q_in hg x1 hb, z_b1, hdb, if_neg zB_t, if_neg hne, show (-1 : Int32) = zI (-1) from rfl, h3, z_b1, jl_752]
        · exact absurd q h2
      · intro ν ν0 e0 hi0
        have m1 := hi0.1
        have hE0 := hg.2.2.1
        have hgr : (0 : Int) < gE G := by
          have := hx.1
          have := hx.2.1
          omega
        obtain ⟨x', k1, k2⟩ := q_hv hg hw m1 ca.1 (show a < 12 by omega) cb.1 (show b < 12 by omega) (gE G).toNat 0 (-1) (by omega) (by omega) (Or.inl ⟨rfl, fun e he w => by have := w.1; omega⟩)
        have hh := J_heavy hE hw hnl hx
        have hcx : gCd G a b x := ⟨hx.1, hx.2.1, J_T hx, hh.1⟩
        have hxx : x' = x := by
          rcases k1 with ⟨w1, w2⟩ | ⟨w1, w2, w3⟩
          · exact absurd hcx (w2 x hx.2.1)
          · rcases hh.2 x' w1.1 w1.2.1 w1.2.2.1 w1.2.2.2 with z | z
            · exact z
            · rcases w3 x hcx hx.2.1 with y | y
              · exact y.symm
              · exact absurd y (lo_as z)
        rw [hxx] at k2
        have hb2 : ibt (ibS (gcc G (gTr G) a)) b := (ibS_b cb.1 (by omega)).mpr (Tr_cc.mpr ((T_all hE hw).mp q))
        rw [jl_527, ← e0, q_rin hg m1 ha, z_b1, hda, if_neg zB_t, q_rin hg m1 hb, z_b1, hdb, if_neg zB_t, if_neg hne, jl_529, q_tree hg hw m1, z_b1, q_joinP hg m1 ca.1 (by omega), z_b1]
        simp only [zI_lit]
        rw [if_neg (by rw [ibs_p cb.1 (by omega) hb2]; exact fun w => ibs_01 w.symm), jl_530]
        simp only [zI_lit, zI_neg]
        exact k2
    · refine qCl_F hp (zI (-1)) ?_ ?_
      · intro ν hi
        obtain ⟨⟨X, x1, x2⟩, _, _⟩ := iC_R hp.2.2.1 hi
        obtain ⟨ν', h1, h2⟩ := q_joinA hg hw x1 ca.1 (by omega) cb.1 (by omega) cn
        refine ⟨ν', ?_, h1⟩
        rcases h2 with ⟨y, h2, h3⟩ | ⟨h2, h3⟩
        · exact absurd (cc_mono (fun f _ _ _ => trivial) h2.2.2.2.1) q
        · rw [jl_750, q_in hg x1 ha, z_b1, hda, if_neg zB_t, q_in hg x1 hb, z_b1, hdb, if_neg zB_t, if_neg hne, show (-1 : Int32) = zI (-1) from rfl, h3, z_b1, jl_752]
      · intro ν ν0 e0 hi0
        have m1 := hi0.1
        have hb2 : ¬ ibt (ibS (gcc G (gTr G) a)) b := fun w => q ((T_all hE hw).mpr (Tr_cc.mp ((ibS_b cb.1 (by omega)).mp w)))
        rw [jl_527, ← e0, q_rin hg m1 ha, z_b1, hda, if_neg zB_t, q_rin hg m1 hb, z_b1, hdb, if_neg zB_t, if_neg hne, jl_529, q_tree hg hw m1, z_b1, q_joinP hg m1 ca.1 (by omega), z_b1]
        simp only [zI_lit, zI_neg]
        rw [if_pos (ibs_n cb.1 (by omega) hb2)]
  · exact bad hc
