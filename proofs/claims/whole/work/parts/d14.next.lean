/-! k: next -/
theorem swap_set {G : gG} {e f : Int} (e0 : 0 ≤ e) (e1 : e < 32) (f0 : 0 ≤ f) (f1 : f < 32) : (ibS (gTr G) &&& (ibo f ^^^ zI (-1))) ||| ibo e = ibS (fun y => (gTr G y ∧ y ≠ f) ∨ y = e) := by
  rw [ibS_rem (P := gTr G) (Q := fun y => gTr G y ∧ y ≠ f) f0 f1 (fun i _ _ => Iff.rfl), ibS_add (P := fun y => gTr G y ∧ y ≠ f) (Q := fun y => (gTr G y ∧ y ≠ f) ∨ y = e) e0 e1 (fun i _ _ => Iff.rfl)]
theorem swap_tot {G : gG} (hg : hGok G) {e f : Int} (e0 : 0 ≤ e) (e1 : e < gE G) (he : ¬ gT G e) (hf : gTr G f) : gTo G (fun y => (gTr G y ∧ y ≠ f) ∨ y = e) (gE G).toNat = gNw G (gTo G (gTr G) (gE G).toNat) e f := by
  have h3 := gTo_add (G := G) (P := fun y => gTr G y ∧ y ≠ f) (Q := gTr G) (n := (gE G).toNat) hf.1 (by have := hf.2.1; omega) (fun q => q.2 rfl) (fun i => by
    constructor
    · intro q
      by_cases c : i = f
      · exact Or.inr c
      · exact Or.inl ⟨q, c⟩
    · rintro (q | q)
      · exact q.1
      · rw [q]
        exact hf)
  have h4 := gTo_add (G := G) (P := fun y => gTr G y ∧ y ≠ f) (Q := fun y => (gTr G y ∧ y ≠ f) ∨ y = e) (n := (gE G).toNat) e0 (by omega) (fun q => he q.1.2.2) (fun i => Iff.rfl)
  unfold gNw
  omega
theorem swap_ok {G : gG} (hg : hGok G) (hw : hGw G) {e f : Int} (e0 : 0 ≤ e) (e1 : e < gE G) (he : ¬ gT G e) (hf : gTr G f) : (∀ a b, gcc G (fun y => (gTr G y ∧ y ≠ f) ∨ y = e) a b ↔ gcc G (gTr G) a b) ↔ gCd G (gfr G e) (gsc G e) f := by
  have h := T_swap hg.2.2.2.1 hw (hnl hg) e0 e1 hf.1 hf.2.1 he hf.2.2
  have hh : (∀ a b, gcc G (fun y => (gTr G y ∧ y ≠ f) ∨ y = e) a b ↔ gcc G (gTr G) a b) ↔ ∀ a b, gcc G (fun x => (gT G x ∧ x ≠ f) ∨ x = e) a b ↔ gcc G (gT G) a b := by
    refine forall_congr' (fun a => forall_congr' (fun b => ?_))
    rw [Tr_cc, cc_congr (Q := fun x => (gT G x ∧ x ≠ f) ∨ x = e) (fun i i0 i1 => ?_)]
    constructor
    · rintro (q | q)
      · exact Or.inl ⟨q.1.2.2, q.2⟩
      · exact Or.inr q
    · rintro (q | q)
      · exact Or.inl ⟨⟨i0, i1, q.1⟩, q.2⟩
      · exact Or.inr q
  rw [hh, h]
  unfold gCd
  exact ⟨fun q => ⟨hf.1, hf.2.1, hf.2.2, q⟩, fun q => q.2.2.2⟩
theorem q_nf {G : gG} {S : gS} {ν : ax_M} (hg : hGok G) (hx : hGx G) (hm : mI G S ν) {e : Int} {σ : gSx} (e0 : 0 ≤ e) (e1 : e < gE G) (he : ¬ gT G e) (hk : gSk e σ) : ∀ (m : Nat) (f x : Int), 0 ≤ f → f + m = gE G → gBe G (gfr G e) (gsc G e) f x → ∃ x', gBe G (gfr G e) (gsc G e) (gE G) x' ∧ aJ 545 [.ref 207, .int (ibS (gTr G)), .int (zI (gSt G (gTo G (gTr G) (gE G).toNat) e x σ).1), .int (zI e), .int (zI f)] [] (nxm ν (gSt G (gTo G (gTr G) (gE G).toNat) e x σ).2.1 (gSt G (gTo G (gTr G) (gE G).toNat) e x σ).2.2) = aJ 552 [.ref 207, .int (ibS (gTr G)), .int (zI (gSt G (gTo G (gTr G) (gE G).toNat) e x' σ).1), .int (zI e)] [] (nxm ν (gSt G (gTo G (gTr G) (gE G).toNat) e x' σ).2.1 (gSt G (gTo G (gTr G) (gE G).toNat) e x' σ).2.2) := by
  have hE := hg.2.2.2.1
  have hw := hGx_w hx
  have hM : ∀ a b, mI G S (nxm ν a b) := fun a b => mI_fr nxm_fr (by decide) hm
  intro m
  induction m with
  | zero =>
    intro f x f0 fm hb
    have hf : f = gE G := by omega
    subst hf
    refine ⟨x, hb, ?_⟩
    rw [jl_545]
    simp (disch := omega) only [zI_lit, q_rE (hM _ _), z_bo, p_le]
    rw [if_pos (by omega)]
  | succ m ih =>
    intro f x f0 fm hb
    have hsk := gSt_k hg hx e0 e1 hk hb
    have hno : ¬ gCd G (gfr G e) (gsc G e) f → ∃ x', gBe G (gfr G e) (gsc G e) (gE G) x' ∧ aJ 551 [.ref 207, .int (ibS (gTr G)), .int (zI (gSt G (gTo G (gTr G) (gE G).toNat) e x σ).1), .int (zI e), .int (zI f)] [] (nxm ν (gSt G (gTo G (gTr G) (gE G).toNat) e x σ).2.1 (gSt G (gTo G (gTr G) (gE G).toNat) e x σ).2.2) = aJ 552 [.ref 207, .int (ibS (gTr G)), .int (zI (gSt G (gTo G (gTr G) (gE G).toNat) e x' σ).1), .int (zI e)] [] (nxm ν (gSt G (gTo G (gTr G) (gE G).toNat) e x' σ).2.1 (gSt G (gTo G (gTr G) (gE G).toNat) e x' σ).2.2) := by
      intro hn
      obtain ⟨x', k1, k2⟩ := ih (f + 1) x (by omega) (by omega) (gBe_no hb hn)
      refine ⟨x', k1, ?_⟩
      rw [jl_551]
      simp only [zI_lit, zI_add]
      exact k2
    rw [jl_545]
    simp (disch := omega) only [zI_lit, q_rE (hM _ _), z_bo, p_le, ibo_d, zI_neg]
    rw [if_neg (by omega)]
    by_cases t : gTr G f
    · rw [if_neg (by rw [ibs_p f0 (by omega) ((ibS_b f0 (by omega)).mpr t)]; exact fun z => ibs_01 z.symm), swap_set e0 (by omega) f0 (by omega)]
      have hsp := swap_ok hg hw e0 e1 he t
      by_cases c : gCd G (gfr G e) (gsc G e) f
      · rw [(q_span hg (hM _ _)).1 (hsp.mpr c), z_b1, if_neg (fun z => ibs_01 z.symm), jl_546, q_total hg (hM _ _), z_b1, swap_tot hg e0 e1 he t]
        obtain ⟨x', s1, s2, s3⟩ := gSt_step hg hx e0 e1 hk hb c
        obtain ⟨y, k1, k2⟩ := ih (f + 1) x' (by omega) (by omega) s1
        have hwf := gNw_r hg hx e0 e1 t
        have hout := gSt_out hg (T := gTo G (gTr G) (gE G).toNat) hk hb
        generalize hs : gSt G (gTo G (gTr G) (gE G).toNat) e x σ = s at *
        generalize gTo G (gTr G) (gE G).toNat = T at *
        have yes : gUp G T e f s → ∃ x', gBe G (gfr G e) (gsc G e) (gE G) x' ∧ aJ 547 [.ref 207, .int (ibS (gTr G)), .int (zI s.1), .int (zI e), .int (zI f), .int (zI (gNw G T e f))] [] (nxm ν s.2.1 s.2.2) = aJ 552 [.ref 207, .int (ibS (gTr G)), .int (zI (gSt G T e x' σ).1), .int (zI e)] [] (nxm ν (gSt G T e x' σ).2.1 (gSt G T e x' σ).2.2) := by
          intro hu
          rw [s2 hu] at k2
          refine ⟨y, k1, ?_⟩
          rw [jl_547, jl_549, if_neg (by decide), jl_550, nxm_u, jl_551]
          simp only [zI_lit, zI_add]
          exact k2
        have no : ¬ gUp G T e f s → ∃ x', gBe G (gfr G e) (gsc G e) (gE G) x' ∧ aJ 548 [.ref 207, .int (ibS (gTr G)), .int (zI s.1), .int (zI e), .int (zI f), .int (zI (gNw G T e f))] [] (nxm ν s.2.1 s.2.2) = aJ 552 [.ref 207, .int (ibS (gTr G)), .int (zI (gSt G T e x' σ).1), .int (zI e)] [] (nxm ν (gSt G T e x' σ).2.1 (gSt G T e x' σ).2.2) := by
          intro hu
          rw [s3 hu] at k2
          refine ⟨y, k1, ?_⟩
          rw [jl_548, jl_549, if_pos rfl, jl_551]
          simp only [zI_lit, zI_add]
          exact k2
        have g1 := hsk.1
        have g2 := hsk.2.1
        have g3 := hsk.2.2.1
        rw [nxm_30, nxm_31]
        have neg1 : (-1 : Int32) = zI (-1) := rfl
        rw [neg1]
        simp (disch := omega) only [p_eq, p_lt]
        by_cases c1 : s.1 = -1
        · rw [if_pos c1]
          exact yes (Or.inl c1)
        rw [if_neg c1]
        by_cases c2 : gNw G T e f < s.1
        · rw [if_pos c2]
          exact yes (Or.inr (Or.inl c2))
        rw [if_neg c2]
        by_cases c3 : gNw G T e f = s.1
        · rw [if_pos c3]
          by_cases c4 : s.2.2 = e
          · have ho := hout c1 c4
            rw [if_pos c4, q_li hg hw (hM _ _) ho.1 ho.2 f0 (by omega), z_b1]
            by_cases l : glo G s.2.1 f
            · rw [(gli_lo ho.1 f0).mpr l, if_neg zB_t]
              exact yes (Or.inr (Or.inr ⟨c3, c4, l⟩))
            · rw [Bool.eq_false_iff.mpr (fun z => l ((gli_lo ho.1 f0).mp z)), if_pos (by decide)]
              exact no (fun z => by
                rcases z with z | z | z
                · exact c1 z
                · exact c2 z
                · exact l z.2.2)
          · rw [if_neg c4]
            exact no (fun z => by
                rcases z with z | z | z
                · exact c1 z
                · exact c2 z
                · exact c4 z.2.1)
        · rw [if_neg c3]
          exact no (fun z => by
                rcases z with z | z | z
                · exact c1 z
                · exact c2 z
                · exact c3 z.1)
      · rw [(q_span hg (hM _ _)).2 (fun z => c (hsp.mp z)), z_b1, if_pos rfl]
        exact hno c
    · rw [if_pos (ibs_n f0 (by omega) (fun z => t ((ibS_b f0 (by omega)).mp z)))]
      exact hno (fun z => t ⟨z.1, z.2.1, z.2.2.1⟩)
theorem q_ne {G : gG} {S : gS} {ν : ax_M} (hg : hGok G) (hx : hGx G) (hm : mI G S ν) {σ0 : gSx} (h0 : gSk 0 σ0) : ∀ (m e : Nat), (e : Int) + m = gE G → aJ 543 [.ref 207, .int (ibS (gTr G)), .int (zI (gNr G (gTo G (gTr G) (gE G).toNat) σ0 e).1), .int (zI e)] [] (nxm ν (gNr G (gTo G (gTr G) (gE G).toNat) σ0 e).2.1 (gNr G (gTo G (gTr G) (gE G).toNat) σ0 e).2.2) = some (some (.int (zI (gNr G (gTo G (gTr G) (gE G).toNat) σ0 (gE G).toNat).1)), nxm ν (gNr G (gTo G (gTr G) (gE G).toNat) σ0 (gE G).toNat).2.1 (gNr G (gTo G (gTr G) (gE G).toNat) σ0 (gE G).toNat).2.2) := by
  have hE := hg.2.2.2.1
  have hw := hGx_w hx
  have hM : ∀ a b, mI G S (nxm ν a b) := fun a b => mI_fr nxm_fr (by decide) hm
  intro m
  induction m with
  | zero =>
    intro e em
    have he : e = (gE G).toNat := by omega
    subst he
    rw [jl_543]
    simp (disch := omega) only [zI_lit, q_rE (hM _ _), z_bo, p_le]
    rw [if_pos (by omega), jl_553]
  | succ m ih =>
    intro e em
    have ih' := ih (e + 1) (by omega)
    have e0 : (0 : Int) ≤ (e : Int) := by omega
    have e1 : (e : Int) < gE G := by omega
    have hk := gNr_k hg hx h0 e (by omega)
    rw [jl_543]
    simp (disch := omega) only [zI_lit, q_rE (hM _ _), z_bo, p_le]
    rw [if_neg (by omega)]
    by_cases t : gT G e
    · have hs : gNr G (gTo G (gTr G) (gE G).toNat) σ0 (e + 1) = gNr G (gTo G (gTr G) (gE G).toNat) σ0 e := by
        show gNx G _ e _ = _
        unfold gNx
        rw [if_pos t]
      rw [if_pos (ibs_p e0 (by omega) ((ibS_b e0 (by omega)).mpr ⟨e0, e1, t⟩)), jl_552]
      rw [hs] at ih'
      simp only [zI_lit, zI_add]
      exact ih'
    · rw [if_neg (by rw [ibs_n e0 (by omega) (fun z => t ((ibS_b e0 (by omega)).mp z).2.2)]; exact ibs_01), jl_544]
      simp only [zI_lit]
      obtain ⟨x', k1, k2⟩ := q_nf hg hx hm e0 e1 t hk (gE G).toNat 0 (-1) (by omega) (by omega) (Or.inl ⟨rfl, fun f hf z => by have := z.1; omega⟩)
      have hmo := gMo_s hg hw e0 e1
      have hh := J_heavy hE hw (hnl hg) hmo
      have hcx : gCd G (gfr G e) (gsc G e) (gMo G e) := ⟨hmo.1, hmo.2.1, J_T hmo, hh.1⟩
      have hxx : x' = gMo G e := by
        rcases k1 with ⟨w1, w2⟩ | ⟨w1, w2, w3⟩
        · exact absurd hcx (w2 _ hmo.2.1)
        · rcases hh.2 x' w1.1 w1.2.1 w1.2.2.1 w1.2.2.2 with z | z
          · exact z
          · rcases w3 _ hcx hmo.2.1 with y | y
            · exact y.symm
            · exact absurd y (lo_as z)
      have hs0 : gSt G (gTo G (gTr G) (gE G).toNat) e (-1) (gNr G (gTo G (gTr G) (gE G).toNat) σ0 e) = gNr G (gTo G (gTr G) (gE G).toNat) σ0 e := if_pos rfl
      have hs1 : gSt G (gTo G (gTr G) (gE G).toNat) e x' (gNr G (gTo G (gTr G) (gE G).toNat) σ0 e) = gNr G (gTo G (gTr G) (gE G).toNat) σ0 (e + 1) := by
        have hm0 := hmo.1
        rw [hxx]
        unfold gSt
        rw [if_neg (by omega)]
        show _ = gNx G _ e _
        unfold gNx
        rw [if_neg t]
      rw [hs0, hs1] at k2
      rw [k2, jl_552]
      simp only [zI_lit, zI_add]
      exact ih'
def kOs (K : qK) (o : Int × Int) : qK := (kR K, kN K, kT K, kI0 K, kI1 K, kF K, o, kX K)
theorem q_next {G : gG} {S : gS} {U : List gU} {K : qK} (hp : pOK G S U K) : qCl G S U K 756 542 [.ref 0] [.ref 207] := by
  have hg := hp.1
  have hx := hp.2.1
  have hw := pOK_w hp
  have hE0 := hg.2.2.1
  have hKK := hp.2.2.2.2.2.2.1
  have hK := hKK.1
  obtain ⟨p1, p2, p3, p4, p5, p6, p7, p9⟩ := hp
  obtain ⟨q1, q2, q3, q4, q5, q6, q7, q8, q9, q10⟩ := p7
  have hσ : gSk 0 ((-1, kO K) : gSx) := ⟨⟨by show (-1 : Int) ≤ -1; omega, by show (-1 : Int) ≤ 10000; omega⟩, q8, q9, fun z => absurd rfl z⟩
  have hfin := gNr_k hg hx hσ (gE G).toNat (by omega)
  generalize hfi : gNr G (gTo G (gTr G) (gE G).toNat) (-1, kO K) (gE G).toNat = fi at *
  refine ⟨zI fi.1, G, S, U, kOs K fi.2, ⟨p1, p2, p3, p4, p5, p6, ⟨q1, q2, q3, q4, q5, q6, q7, hfin.2.1, hfin.2.2.1, q10⟩, p9⟩, ?_, ?_⟩
  · intro ν hi
    obtain ⟨⟨X, x1, x2⟩, u, j⟩ := id hi
    obtain ⟨ν1, h1, h2, h3, h4, h5⟩ := q_grow hg hw x1
    have hc1 : cI 29 G S X ν1 := cI_fr (Or.inl rfl) h2 (fun a ha => by simp at ha; omega) x1
    obtain ⟨j1, j2, j3, j4, j5, j6, j7, j8, j9, j10, j11, j12⟩ := id j
    have g0 : ∀ k, ν1.1 0 k = ν.1 0 k := fun k => fr_at h2 (by decide) k
    obtain ⟨ν', k1, k2, k3, k4, k5⟩ := q_nx1 hg hx (-1, kO K) hσ (gE G).toNat 0 ν1 hc1 (by omega) (by rw [g0]; exact j9) (by rw [g0]; exact j10)
    rw [hfi] at k1 k4 k5
    have hf : fr [0, 202, 203, 204] ν ν' := frt (frm h2 (by simp)) k2
    have k3' : ∀ k, k ≠ 15 → k ≠ 16 → ν'.1 0 k = ν.1 0 k := fun k a b => (k3 k a b).trans (g0 k)
    have hcell : ∀ a, a ≠ 0 → a ≠ 202 → a ≠ 203 → a ≠ 204 → ν'.1 a = ν.1 a := fun a a0 a1 a2 a3 => hf.2 a (by simp [a0, a1, a2, a3])
    refine ⟨ν', ?_, ⟨⟨X, cI_fr (Or.inl rfl) hf (fun a ha => by simp at ha; omega) x1, x2⟩, ?_, ?_⟩, frC_of hf (fun a ha => by simp at ha; omega)⟩
    · rw [jl_756, h1, z_b0, h3]
      simp only [zI_lit, zI_neg]
      exact k1
    · obtain ⟨top, b1, b2, b3, b4, b5⟩ := u
      refine ⟨top, b1, b2, by rw [k3' 10 (by decide) (by decide)]; exact b3, by rw [k3' 11 (by decide) (by decide)]; exact b4, fun j e he => ?_⟩
      obtain ⟨X', r1, r2⟩ := b5 j e he
      exact ⟨X', cP_e (fun a ha => hcell a (by have := cOL_pc ha; omega) (by have := cOL_pc ha; omega) (by have := cOL_pc ha; omega) (by have := cOL_pc ha; omega)) r1, r2⟩
    · have e2 := hcell 2 (by decide) (by decide) (by decide) (by decide)
      have e205 := hcell 205 (by decide) (by decide) (by decide) (by decide)
      refine ⟨kP_e (by rw [hcell 13 (by decide) (by decide) (by decide) (by decide)]) (fun a z1 z2 => hcell a (by omega) (by omega) (by omega) (by omega)) j1, ?_, (k3' 1 (by decide) (by decide)).trans j3, rP_e (hcell 1 (by decide) (by decide) (by decide) (by decide)) j4, cIm_e (fun a z1 z2 => hcell a (by omega) (by omega) (by omega) (by omega)) j5, cIm_e (fun a z1 z2 => hcell a (by omega) (by omega) (by omega) (by omega)) j6, by rw [e2]; exact j7, by rw [e2]; exact j8, k4, k5, by rw [e205]; exact j11, rP_e (hcell 206 (by decide) (by decide) (by decide) (by decide)) j12⟩
      unfold cNm at *
      rw [hcell (3 + 2) (by decide) (by decide) (by decide) (by decide), hcell (3 + 1) (by decide) (by decide) (by decide) (by decide)]
      exact j2
  · intro ν hi
    obtain ⟨ν0, e0, hi0, f0⟩ := iM_th hK hi
    obtain ⟨m1, u, j⟩ := id hi0
    obtain ⟨j1, j2, j3, j4, j5, j6, j7, j8, j9, j10, j11, j12⟩ := id j
    have hid : nxm ν0 (kO K).1 (kO K).2 = ν0 := nxm_id j9 j10
    have k1 := q_ne hg hx m1 hσ (gE G).toNat 0 (by omega)
    rw [hfi] at k1
    have hf : fr [207] ν0 (nxm ν0 fi.2.1 fi.2.2) := nxm_fr
    refine ⟨nxm ν0 fi.2.1 fi.2.2, ?_, ⟨mI_fr hf (by decide) m1, uM_fr hf (by decide) (nxm_k (by decide) (by decide)) u, ?_⟩, frM_t f0 (frM_of hf (by simp))⟩
    · rw [jl_542, ← e0, q_tree hg hw m1, z_b1]
      simp only [zI_lit, zI_neg]
      have k2 : aJ 543 [.ref 207, .int (ibS (gTr G)), .int (zI (-1)), .int (zI 0)] [] (nxm ν0 (kO K).1 (kO K).2) = some (some (.int (zI fi.1)), nxm ν0 fi.2.1 fi.2.2) := k1
      rw [hid] at k2
      exact k2
    · refine ⟨oP_bg q1 (bgf hf (by decide)) j1, ?_, (nxm_k (by decide) (by decide)).trans j3, rP_e (hf.2 208 (by decide)) j4, rIm_e (hf.2 211 (by decide)) (hf.2 218 (by decide)) rfl j5, rIm_e (hf.2 211 (by decide)) (hf.2 218 (by decide)) rfl j6, (nxm_k (by decide) (by decide)).trans j7, (nxm_k (by decide) (by decide)).trans j8, nxm_30, nxm_31, (nxm_k (by decide) (by decide)).trans j11, rP_e (hf.2 224 (by decide)) j12⟩
      exact j2
