/-! k: class Forest: the edge that joins two nodes -/
theorem J_c {G : gG} {B B' : Int → Prop} {a b m : Int} (h : ∀ f, 0 ≤ f → f < gE G → (B f ↔ B' f)) (hj : gJ G B a b m) : gJ G B' a b m := by
  obtain ⟨h1, h2, h3, h4, h5⟩ := hj
  refine ⟨h1, h2, (h m h1 h2).mp h3, (cc_congr (fun f f0 f1 => ?_)).mp h4, fun q => h5 ((cc_congr (fun f f0 f1 => ?_)).mp q)⟩
  · rw [h f f0 f1]
  · rw [h f f0 f1]
def gAx (c : Int) (f : Int) : Prop := f ≠ c
theorem q_jn1 {G : gG} {S : gS} {X : cX} (hg : hGok G) {o : Int → Int} (ho : sO G (gE G) o) {a b c : Int} (a0 : 0 ≤ a) (a1 : a < 12) (b0 : 0 ≤ b) (b1 : b < 12) (c0 : -1 ≤ c) (c1 : c < 30) : ∀ (m : Nat) (i : Int) (p : Int → Int) (ν : ax_M), cI 29 G S X ν → rP ν 203 (gE G) o → 0 ≤ i → i + m = gE G → fP G (fun f => pO o i f ∧ f ≠ c) p ν → ¬ gcc G (fun f => pO o i f ∧ f ≠ c) a b → ∃ ν', fr [202, 204] ν ν' ∧ ((∃ x, gJ G (gAx c) a b x ∧ aJ 898 [.ref 202, .int (zI a), .int (zI b), .int (zI c), .int (zI i)] [] ν = some (some (.int (zI x)), ν')) ∨ (¬ gcc G (gAx c) a b ∧ aJ 898 [.ref 202, .int (zI a), .int (zI b), .int (zI c), .int (zI i)] [] ν = some (some (.int (zI (-1))), ν'))) := by
  have hE := hg.2.2.2.1
  have hN := hg.2.1
  intro m
  induction m with
  | zero =>
    intro i p ν hc hr i0 i1 hp hn
    have hEE := q_E hc (Or.inl rfl)
    have hi : i = gE G := by omega
    subst hi
    refine ⟨ν, frz, Or.inr ⟨fun q => hn (cc_mono (fun f f0 f1 w => ⟨pO_all ho f0 f1, w⟩) q), ?_⟩⟩
    rw [jl_898, hEE, if_pos (by rw [zI_le (zR_of (by omega)) (zR_of (by omega))]; omega), jl_900]
    rfl
  | succ m ih =>
    intro i p ν hc hr i0 i1 hp hn
    have hEE := q_E hc (Or.inl rfl)
    have hoi := ho.1 i i0 (by omega)
    have hri := hr i i0 (by omega)
    obtain ⟨t1, t2⟩ := cI_cP (Or.inl rfl) hc
    rw [jl_898, hEE, if_neg (by rw [zI_le (zR_of (by omega)) (zR_of (by omega))]; omega)]
    simp (disch := omega) only [at_203, z_b1, hri, p_eq, jl_899, zI_lit, zI_add]
    by_cases q : o i = c
    · have hcc : ∀ n k, gcc G (fun f => pO o i f ∧ f ≠ c) n k ↔ gcc G (fun f => pO o (i + 1) f ∧ f ≠ c) n k := fun n k => cc_congr (fun f f0 f1 => by
        rw [pO_s i0]
        constructor
        · rintro ⟨w1, w2⟩
          exact ⟨Or.inl w1, w2⟩
        · rintro ⟨w1 | w1, w2⟩
          · exact ⟨w1, w2⟩
          · exact absurd (w1.trans q) w2)
      rw [if_pos q]
      exact ih (i + 1) p ν hc hr (by omega) (by omega) (fP_c hcc hp) (fun w => hn ((hcc _ _).mpr w))
    rw [if_neg q]
    have hcc : ∀ n k, gcc G (fun f => (pO o i f ∧ f ≠ c) ∨ f = o i) n k ↔ gcc G (fun f => pO o (i + 1) f ∧ f ≠ c) n k := fun n k => cc_congr (fun f f0 f1 => by
        rw [pO_s i0]
        constructor
        · rintro (⟨w1, w2⟩ | w1)
          · exact ⟨Or.inl w1, w2⟩
          · exact ⟨Or.inr w1, by rw [w1]; exact q⟩
        · rintro ⟨w1 | w1, w2⟩
          · exact Or.inl ⟨w1, w2⟩
          · exact Or.inr w1)
    by_cases j : gcc G (fun f => pO o i f ∧ f ≠ c) (gfr G (o i)) (gsc G (o i))
    · obtain ⟨g1, g2⟩ := q_jo0 hg t2 hp hoi.1 hoi.2 j
      rw [g1, z_b1, if_pos rfl]
      exact ih (i + 1) p ν hc hr (by omega) (by omega) (fP_c hcc g2) (fun w => hn ((cc_in j a b).mpr ((hcc _ _).mpr w)))
    · obtain ⟨ν1, p', g1, g2, g3, g4, g5, g6⟩ := q_jo1 hg t2 hp hoi.1 hoi.2 j
      have g7 := fP_c hcc g2
      have hc1 : cI 29 G S X ν1 := cI_fr (Or.inl rfl) g3 (fun a ha => by simp at ha; omega) hc
      have la := g7.2.1 a a0 a1
      have lb := g7.2.1 b b0 b1
      have ra := la.1
      have rb := lb.1
      have ra' := la.2.1
      have rb' := lb.2.1
      rw [g1, z_b1, if_neg (fun w => ibs_01 w.symm), q_part g7 a0 a1, z_b1, q_part g7 b0 b1, z_b1]
      simp (disch := omega) only [p_eq]
      by_cases k : p' a = p' b
      · rw [if_pos k]
        have hj := (le_cc b0 la lb).mp k
        refine ⟨ν1, g3, Or.inl ⟨o i, ⟨hoi.1, hoi.2, q, ?_, ?_⟩, rfl⟩⟩
        · refine (cc_congr (fun f f0 f1 => ?_)).mp hj
          rw [pO_s i0, pO_lo ho i0 (by omega) f0 f1]
          unfold gAx
          constructor
          · rintro ⟨w1 | w1, w2⟩
            · exact ⟨w2, Or.inr w1⟩
            · exact ⟨w2, Or.inl w1⟩
          · rintro ⟨w2, w1 | w1⟩
            · exact ⟨Or.inr w1, w2⟩
            · exact ⟨Or.inl w1, w2⟩
        · refine fun w => hn ((cc_congr (fun f f0 f1 => ?_)).mp w)
          rw [pO_lo ho i0 (by omega) f0 f1]
          unfold gAx
          exact ⟨fun z => ⟨z.2, z.1⟩, fun z => ⟨z.2, z.1⟩⟩
      · rw [if_neg k]
        obtain ⟨ν', k1, k2⟩ := ih (i + 1) p' ν1 hc1 (fr_rP g3 (by decide) hr) (by omega) (by omega) g7 (fun w => k ((le_cc b0 la lb).mpr w))
        exact ⟨ν', frt g3 k1, k2⟩
theorem q_joiner {G : gG} {S : gS} {X : cX} {ν : ax_M} (hg : hGok G) (hw : hGw G) (hc : cI 29 G S X ν) {a b c : Int} (a0 : 0 ≤ a) (a1 : a < 12) (b0 : 0 ≤ b) (b1 : b < 12) (c0 : -1 ≤ c) (c1 : c < 30) (hab : a ≠ b) : ∃ ν', fr [202, 203, 204] ν ν' ∧ ((∃ x, gJ G (gAx c) a b x ∧ aJ 897 [.ref 202, .ref 29, .int (zI a), .int (zI b), .int (zI c)] [] ν = some (some (.int (zI x)), ν')) ∨ (¬ gcc G (gAx c) a b ∧ aJ 897 [.ref 202, .ref 29, .int (zI a), .int (zI b), .int (zI c)] [] ν = some (some (.int (zI (-1))), ν'))) := by
  have hE0 := hg.2.2.1
  obtain ⟨ν1, o, h1, h2, h3, h4⟩ := q_sort hg hw hc
  have hc1 : cI 29 G S X ν1 := cI_fr (Or.inl rfl) h4 (fun a ha => by simp at ha; omega) hc
  obtain ⟨ν2, p, g1, g2, g3, g4, g5⟩ := q_scat hg (cI_cP (Or.inl rfl) hc1).2
  have hc2 : cI 29 G S X ν2 := cI_fr (Or.inl rfl) g3 (fun a ha => by simp at ha; omega) hc1
  have hno : ∀ e, ¬ (pO o 0 e ∧ e ≠ c) := by
    rintro e ⟨⟨j, j0, j1, _⟩, _⟩
    omega
  have hcc : ∀ n k, gcc G (fun _ => False) n k ↔ gcc G (fun e => pO o 0 e ∧ e ≠ c) n k := fun n k => cc_congr (fun f _ _ => ⟨fun q => q.elim, fun q => hno f q⟩)
  obtain ⟨ν', k1, k2⟩ := q_jn1 hg h3 a0 a1 b0 b1 c0 c1 (gE G).toNat 0 p ν2 hc2 (fr_rP g3 (by decide) h2) (by omega) (by omega) (fP_c hcc g2) (fun w => hab (cc_no (fun e _ _ => hno e) w))
  refine ⟨ν', frt (frm h4 (by simp)) (frt (frm g3 (by simp)) (frm k1 (by simp))), ?_⟩
  rw [jl_897, h1, z_b0, g1, z_b0]
  simp only [zI_lit]
  exact k2
theorem gAx_all {G : gG} (f : Int) (f0 : 0 ≤ f) (_ : f < gE G) : gAx (-1) f ↔ gAll f := ⟨fun _ => trivial, fun _ => by unfold gAx; omega⟩
theorem q_joinA {G : gG} {S : gS} {X : cX} {ν : ax_M} (hg : hGok G) (hw : hGw G) (hc : cI 29 G S X ν) {a b : Int} (a0 : 0 ≤ a) (a1 : a < 12) (b0 : 0 ≤ b) (b1 : b < 12) (hab : a ≠ b) : ∃ ν', fr [202, 203, 204] ν ν' ∧ ((∃ x, gJ G gAll a b x ∧ aJ 897 [.ref 202, .ref 29, .int (zI a), .int (zI b), .int (zI (-1))] [] ν = some (some (.int (zI x)), ν')) ∨ (¬ gcc G gAll a b ∧ aJ 897 [.ref 202, .ref 29, .int (zI a), .int (zI b), .int (zI (-1))] [] ν = some (some (.int (zI (-1))), ν'))) := by
  obtain ⟨ν', h1, h2⟩ := q_joiner hg hw hc a0 a1 b0 b1 (c := -1) (by omega) (by omega) hab
  refine ⟨ν', h1, ?_⟩
  rcases h2 with ⟨x, h2, h3⟩ | ⟨h2, h3⟩
  · exact Or.inl ⟨x, J_c gAx_all h2, h3⟩
  · exact Or.inr ⟨fun q => h2 ((cc_congr gAx_all).mpr q), h3⟩
/-! k: calls -/
theorem fT_ok : ∀ a, a ∈ [202, 203, 204] → (13 = a ∨ a = 19 ∨ a = 20 ∨ (40 ≤ a ∧ a ≤ 50) ∨ (202 ≤ a ∧ a ≤ 204)) := by
  intro a ha
  simp at ha
  omega
theorem iC_F {G : gG} {S : gS} {U : List gU} {K : qK} {ν ν' : ax_M} (hf : fr [202, 203, 204] ν ν') (hi : iC G S U K ν) : iC G S U K ν' := iC_tr hf fT_ok (fr_at hf (by decide) 0) hi
theorem frC_F {ν ν' : ax_M} (hf : fr [202, 203, 204] ν ν') : frC ν ν' := frC_of hf (fun a ha => by simp at ha; omega)
theorem qCl_F {G : gG} {S : gS} {U : List gU} {K : qK} {fC fM : Nat} {aC aM : List Value} (hp : pOK G S U K) (r : Int32) (h1 : ∀ ν, iC G S U K ν → ∃ ν', aJ fC aC [] ν = some (some (.int r), ν') ∧ fr [202, 203, 204] ν ν') (h2 : ∀ ν ν0, ν0 = ax_uD ν 207 0 0 → iM G S U K ν0 → aJ fM aM [] ν = some (some (.int r), ν0)) : qCl G S U K fC fM aC aM :=
  ⟨r, G, S, U, K, hp, fun ν hi => by
    obtain ⟨ν', a1, a2⟩ := h1 ν hi
    exact ⟨ν', a1, iC_F a2 hi, frC_F a2⟩, fun ν hi => by
    obtain ⟨ν0, e0, hi0, f0⟩ := iM_th hp.2.2.2.2.2.2.1.1 hi
    exact ⟨ν0, h2 ν ν0 e0 hi0, hi0, f0⟩⟩
theorem pOK_w {G : gG} {S : gS} {U : List gU} {K : qK} (hp : pOK G S U K) : hGw G := hGx_w hp.2.1
theorem q_least {G : gG} {S : gS} {U : List gU} {K : qK} (hp : pOK G S U K) (a : Int32) : qCl G S U K 744 522 [.ref 0, .int a] [.ref 207, .int a] := by
  obtain ⟨w, ⟨w1, w2⟩, rfl⟩ := zI_of a
  have hg := hp.1
  have hw := pOK_w hp
  by_cases c : 0 ≤ w ∧ w ≤ 2
  · refine qCl_F hp (if w = 0 then zI (gTo G (gTr G) (gE G).toNat) else if w = 1 then ibS (gTr G) else zI (gN G - ibN (gTr G))) ?_ ?_
    · intro ν hi
      obtain ⟨⟨X, x1, x2⟩, _, _⟩ := iC_R hp.2.2.1 hi
      obtain ⟨ν', h1, h2, h3, h4, h5⟩ := q_grow hg hw x1
      refine ⟨ν', ?_, h2⟩
      rw [jl_744]
      simp (disch := omega) only [zI_lit, p_lt, p_le]
      rw [if_neg (by omega), if_pos (by omega), jl_746, h1, z_b0]
      simp (disch := omega) only [zI_lit, p_eq, jl_747, jl_748, jl_749, h3, h4, h5]
      by_cases c0 : w = 0
      · rw [if_pos c0, if_pos c0]
      rw [if_neg c0, if_neg c0]
      by_cases c1 : w = 1
      · rw [if_pos c1, if_pos c1]
      · rw [if_neg c1, if_neg c1]
    · intro ν ν0 e0 hi0
      have m1 := hi0.1
      rw [jl_522, ← e0]
      simp (disch := omega) only [zI_lit, p_eq, jl_523, jl_524, jl_525, q_tree hg hw m1, z_b1, q_total hg m1, q_rN m1, z_bo, q_bits, zI_sub]
      by_cases c0 : w = 0
      · rw [if_pos c0, if_pos c0]
      rw [if_neg c0, if_neg c0]
      by_cases c1 : w = 1
      · rw [if_pos c1, if_pos c1]
      rw [if_neg c1, if_neg c1, if_pos (by omega)]
  · refine qCl_same hp (zI (-1)) ?_ ?_
    · intro ν hi
      rw [jl_744]
      simp (disch := omega) only [zI_lit, p_lt, p_le, jl_745, zI_neg]
      by_cases c0 : w < 0
      · rw [if_pos c0]
      · rw [if_neg c0, if_neg (by omega)]
    · intro ν ν0 e0 hi0
      rw [jl_522, ← e0]
      simp (disch := omega) only [zI_lit, p_eq, jl_526, zI_neg]
      rw [if_neg (by omega), if_neg (by omega), if_neg (by omega)]
