/-! j: what is tried in a second run: until, starts, starter, cores -/
theorem iC_tr {G : gG} {S : gS} {U : List gU} {K : qK} {l : List Nat} {ν ν' : ax_M} (hf : fr l ν ν') (hl : ∀ a, a ∈ l → (13 = a ∨ a = 19 ∨ a = 20 ∨ (40 ≤ a ∧ a ≤ 50) ∨ (202 ≤ a ∧ a ≤ 204))) (h13 : ν'.1 13 0 = ν.1 13 0) (hi : iC G S U K ν) : iC G S U K ν' := by
  obtain ⟨⟨X, x1, x2⟩, b, c⟩ := hi
  have n0 : 0 ∉ l := fun q => by have := hl 0 q; omega
  exact ⟨⟨X, cI_fr (Or.inl rfl) hf (fun a ha => by have := hl a ha; omega) x1, x2⟩, uC_fr hf (fun a ha => by have := hl a ha; omega) (fr_at hf n0 10) (fr_at hf n0 11) b, jC_fr hf (fun a ha => by have := hl a ha; unfold jCs; omega) h13 (fr_at hf n0 1) (fr_at hf n0 15) (fr_at hf n0 16) c⟩
theorem q_tc {G : gG} {S : gS} {U : List gU} {K : qK} {ν : ax_M} (hp : pOK G S U K) (hi : iC G S U K ν) : ∃ ν' X, aJ 1132 [.ref 40, .ref 29] [] ν = some (none, ν') ∧ cI 40 G S X ν' ∧ XR G S X ∧ iC G S U K ν' ∧ fr (cOL 40) ν ν' := by
  have hL := pOK_L hp
  obtain ⟨⟨X, x1, x2⟩, _, _⟩ := iC_R hp.2.2.1 hi
  obtain ⟨p1, p2⟩ := cI_cP (Or.inl rfl) x1
  have hxw := x2.2.2.2.2.1.1
  obtain ⟨ν', a1, a2, a3⟩ := q_cf (x0 := 40) (x1 := 29) (by decide) (by decide) (by decide) (by decide) p1 hL.1 (by omega) hxw.1 (by omega)
  have hc := cP_cI (Or.inr rfl) a2 (tI_fr a3 (by decide) (by decide) p2)
  exact ⟨ν', X, a1, hc, x2, iC_tr a3 (by intro a ha; simp [cOL] at ha; omega) (fr_at a3 (by decide) 0) hi, a3⟩
theorem q_tly {G : gG} {S S' : gS} {U : List gU} {K : qK} {X : cX} {ν : ax_M} (hc : cI 40 G S' X ν) (hi : iC G S U K ν) : ∃ ν', aJ 1134 [.ref 40] [] ν = some (none, ν') ∧ cI 40 G gas gaX ν' ∧ iC G S U K ν' ∧ fr (cOL 40) ν ν' := by
  obtain ⟨p1, p2⟩ := cI_cP (Or.inr rfl) hc
  obtain ⟨ν', a1, a2, a3⟩ := q_lay (o := 40) (Or.inr rfl) p1.1
  exact ⟨ν', a1, cP_cI (Or.inr rfl) a2 (tI_fr a3 (by decide) (by decide) p2), iC_tr a3 (by intro a ha; simp [cOL] at ha; omega) (fr_at a3 (by decide) 0) hi, a3⟩
theorem q_ttb {G : gG} {S S' : gS} {U : List gU} {K : qK} {X : cX} {ν : ax_M} (hp : pOK G S U K) (hv : hV G S') (hx : XR G S' X) (hc : cI 40 G S' X ν) (hi : iC G S U K ν) : ∃ ν' X', aJ 829 [.ref 0, .ref 40, .int (zI 256)] [] ν = some (some (.int (zI (hrN G (kR K) 256 S'))), ν') ∧ cI 40 G (hrS G (kR K) 256 S') X' ν' ∧ iC G S U K ν' ∧ frC ν ν' := by
  have hK := hp.2.2.2.2.2.2.1.1
  obtain ⟨X', ν', d1, d2, d3, d5, d4⟩ := q_tb (o := 40) (most := 256) (Or.inr rfl) hp.1 (hGx_w hp.2.1) hK (by omega) (by omega) hv hx hc hi.2.2.1
  exact ⟨ν', X', d1, d2, iC_tr d4 (by intro a ha; simp [cOL, chL] at ha; omega) (d5.1.trans hi.2.2.1.1.symm) hi, frC_of d4 (by decide)⟩
theorem q_until {G : gG} {S : gS} {U : List gU} {K : qK} (hp : pOK G S U K) : qCl G S U K 765 563 [.ref 0] [.ref 207] := by
  have hg := hp.1
  have hw := hGx_w hp.2.1
  have hK := hp.2.2.2.2.2.2.1.1
  have hv := hp.2.2.1
  have hL := pOK_L hp
  refine ⟨zI (hrN G (kR K) 256 S), G, S, U, K, hp, ?_, ?_⟩
  · intro ν hi
    obtain ⟨ν1, X, a1, a2, a3, a4, a5⟩ := q_tc hp hi
    obtain ⟨ν2, X2, b1, b2, b3, b4⟩ := q_ttb hp hv a3 a2 a4
    refine ⟨ν2, ?_, b3, frC_t (frC_of a5 (by decide)) b4⟩
    rw [jl_765, a1, z_b0, show (256 : Int32) = zI 256 from rfl, b1, z_b1]
  · intro ν hi
    obtain ⟨ν0, e0, hi0, f0⟩ := iM_th hK hi
    obtain ⟨ν1, b1, b2, b3, b4, b5⟩ := svT_ok hp hi0
    obtain ⟨ν2, d1, d2, d6, d3, d4⟩ := q_rru (most := 1000) hg hw hK (by omega) (by omega) hv b3.1 b3.2.2.1
    have b3' := iM_st d3 (by intro a ha; simp [crL] at ha; omega) (fun k _ _ => fr_at d3 (by decide) k) d4 hK d2 b3
    obtain ⟨ν3, e1, e2, e3, e4⟩ := q_cbT (by omega) d2 (tP_fr d3 (by decide) b2)
    rw [GW_id] at e2
    have hge := rS_ge (R := kR K) hg hw hv 744
    refine ⟨ν3, ?_, iM_st e3 (by simp) (fun k _ _ => fr_at e3 (by decide) k) e4 hK e2 b3', frM_t f0 (frM_t b4 (frM_t (frM_of d3 (by intro a ha; simp [crL] at ha; omega)) (frM_of e3 (by simp))))⟩
    rw [jl_563, ← e0]
    simp only [zI_lit]
    rw [b1, z_b0, d1, z_b1, e1, z_b0]
    have e := hge.2
    rw [show (256 + 744 : Nat) = (1000 : Int).toNat from rfl] at e
    rw [e]
/-- how many letters, if one node alone is woken -/
noncomputable def glf (G : gG) (R : gR) (n : Int) : Int := gnL (hrS G R 256 (gwk G gas n))
theorem glf_ok {G : gG} {R : gR} (hg : hGok G) (hw : hGw G) {n : Int} (h0 : 0 ≤ n) (h1 : n < gN G) : hV G (gwk G gas n) ∧ hV G (hrS G R 256 (gwk G gas n)) ∧ 0 ≤ glf G R n ∧ glf G R n ≤ 252 := by
  have hv := hV_wk hg (hV_gas hg) h0 h1 (rfl : gnd gas n 0 = 0)
  have hv2 := (rS_ok (R := R) hg hw 256 _ hv).1
  have hc := h_cnt hg hv2.1 (by omega)
  exact ⟨hv, hv2, hc.1, by unfold glf; omega⟩
theorem q_lf {G : gG} {S : gS} {U : List gU} {K : qK} {ν : ax_M} {n : Int} (hp : pOK G S U K) (h0 : 0 ≤ n) (h1 : n < gN G) (hi : iC G S U K ν) : ∃ ν', aJ 832 [.ref 0, .int (zI n)] [] ν = some (some (.int (zI (glf G (kR K) n))), ν') ∧ iC G S U K ν' ∧ frC ν ν' := by
  have hg := hp.1
  have hw := hGx_w hp.2.1
  obtain ⟨ν1, X1, a1, a2, a3, a4, a5⟩ := q_tc hp hi
  obtain ⟨ν2, b1, b2, b3, b4⟩ := q_tly a2 a4
  obtain ⟨X3, ν3, c1, c2, c3, c4⟩ := q_rouse (o := 40) (Or.inr rfl) hg hw (hV_gas hg) XR_gas b2 h0 h1
  have g0 : gnd gas n 0 = 0 := rfl
  rw [if_pos g0] at c2 c3
  have hi3 := iC_tr c4 (by intro a ha; simp [cOL] at ha; omega) (fr_at c4 (by decide) 0) b3
  obtain ⟨ν4, X4, d1, d2, d3, d4⟩ := q_ttb hp (glf_ok (R := kR K) hg hw h0 h1).1 c3 c2 hi3
  refine ⟨ν4, ?_, d3, frC_t (frC_of a5 (by decide)) (frC_t (frC_of b4 (by decide)) (frC_t (frC_of c4 (by decide)) d4))⟩
  rw [jl_832, a1, z_b0, b1, z_b0, c1, z_b1, show (256 : Int32) = zI 256 from rfl, d1, z_b1, q_fL d2 (Or.inr rfl)]
  rfl
theorem q_sb {G : gG} {S : gS} {U : List gU} {K : qK} {ν : ax_M} {n : Int} (hp : pOK G S U K) (h0 : 0 ≤ n) (h1 : n < gN G) (ht : tP (gwt G) S ν) (hi : iM G S U K ν) : ∃ ν', aJ 564 [.ref 207, .int (zI n)] [] ν = some (some (.int (zI (glf G (kR K) n))), ν') ∧ iM G S U K ν' ∧ tP (gwt G) S ν' ∧ frM ν ν' := by
  have hg := hp.1
  have hw := hGx_w hp.2.1
  have hK := hp.2.2.2.2.2.2.1.1
  have hL := pOK_L hp
  obtain ⟨o1, o2, o3, o4⟩ := glf_ok (R := kR K) hg hw h0 h1
  obtain ⟨ν1, a1, a2, a3, a4⟩ := q_sto hi.1
  have hi1 := iM_st a3 (by simp) (fun k _ _ => fr_at a3 (by decide) k) a4 hK a2 hi
  obtain ⟨ν2, b1, b2, b3, b4⟩ := q_rwk hg hw (hV_gas hg) a2 h0 h1
  have hi2 := iM_st b3 (by simp) (fun k _ _ => fr_at b3 (by decide) k) b4 hK b2 hi1
  obtain ⟨ν3, c1, c2, c6, c3, c4⟩ := q_rru (most := 1000) hg hw hK (by omega) (by omega) o1 b2 hi2.2.2.1
  have hi3 := iM_st c3 (by intro a ha; simp [crL] at ha; omega) (fun k _ _ => fr_at c3 (by decide) k) c4 hK c2 hi2
  obtain ⟨ν4, d1, d2, d3, d4⟩ := q_cbT (by omega) c2 (tP_fr c3 (by decide) (tP_fr b3 (by decide) (tP_fr a3 (by decide) ht)))
  rw [GW_id] at d2
  have hge := (rS_ge (R := kR K) hg hw o1 744).1
  rw [show (256 + 744 : Nat) = (1000 : Int).toNat from rfl] at hge
  refine ⟨ν4, ?_, iM_st d3 (by simp) (fun k _ _ => fr_at d3 (by decide) k) d4 hK d2 hi3, tP_fr d3 (by decide) (tP_fr c3 (by decide) (tP_fr b3 (by decide) (tP_fr a3 (by decide) ht))), frM_t (frM_of a3 (by simp)) (frM_t (frM_of b3 (by simp)) (frM_t (frM_of c3 (by intro a ha; simp [crL] at ha; omega)) (frM_of d3 (by simp))))⟩
  rw [jl_564, a1, z_b0, b1, z_b0, jl_562]
  simp only [zI_lit]
  rw [c1, z_b1, q_rL c2, z_bo, z_b1, d1, z_b0, hge]
  rfl
theorem q_starts {G : gG} {S : gS} {U : List gU} {K : qK} (hp : pOK G S U K) (a : Int32) : qCl G S U K 766 565 [.ref 0, .int a] [.ref 207, .int a] := by
  obtain ⟨n, hn, rfl⟩ := zI_of a
  have hg := hp.1
  have hK := hp.2.2.2.2.2.2.1.1
  by_cases c : 0 ≤ n ∧ n < gN G
  · have hd : decide (0 ≤ n ∧ n < gN G) = true := by simp [c]
    refine ⟨zI (glf G (kR K) n), G, S, U, K, hp, ?_, ?_⟩
    · intro ν hi
      obtain ⟨⟨X, x1, x2⟩, _, _⟩ := iC_R hp.2.2.1 hi
      obtain ⟨ν1, a1, a2, a3⟩ := q_lf hp c.1 c.2 hi
      refine ⟨ν1, ?_, a2, a3⟩
      rw [jl_766, q_in hg x1 hn, z_b1, hd, if_neg (by decide), a1, z_b1, jl_768]
    · intro ν hi
      obtain ⟨ν0, e0, hi0, f0⟩ := iM_th hK hi
      obtain ⟨m1, _, _⟩ := id hi0
      obtain ⟨ν1, b1, b2, b3, b4, b5⟩ := svT_ok hp hi0
      obtain ⟨ν2, c1, c2, c3, c4⟩ := q_sb hp c.1 c.2 b2 b3
      refine ⟨ν2, ?_, c2, frM_t f0 (frM_t b4 c4)⟩
      rw [jl_565, ← e0, q_rin hg m1 hn, z_b1, hd, if_neg (by decide), jl_566, show (0 : Int32) = zI 0 from rfl, b1, z_b0, c1, z_b1]
  · have hd : decide (0 ≤ n ∧ n < gN G) = false := by simp; omega
    refine ⟨zI (-1), G, S, U, K, hp, ?_, ?_⟩
    · intro ν hi
      obtain ⟨⟨X, x1, x2⟩, _, _⟩ := iC_R hp.2.2.1 hi
      refine ⟨ν, ?_, hi, frC_z⟩
      rw [jl_766, q_in hg x1 hn, z_b1, hd, if_pos (by decide), jl_767, jl_768]
      rfl
    · intro ν hi
      obtain ⟨ν0, e0, hi0, f0⟩ := iM_th hK hi
      obtain ⟨m1, _, _⟩ := id hi0
      refine ⟨ν0, ?_, hi0, f0⟩
      rw [jl_565, ← e0, q_rin hg m1 hn, z_b1, hd, if_pos (by decide)]
      rfl
noncomputable def gstr (G : gG) (R : gR) : Nat → Int → Int → Int → Int
  | 0, _, b, _ => b
  | m + 1, n, b, f => if b = -1 ∨ glf G R n < f then gstr G R m (n + 1) n (glf G R n) else gstr G R m (n + 1) b f
theorem q_starter {G : gG} {S : gS} {U : List gU} {K : qK} (hp : pOK G S U K) : qCl G S U K 769 567 [.ref 0] [.ref 207] := by
  have hg := hp.1
  have hw := hGx_w hp.2.1
  have hK := hp.2.2.2.2.2.2.1.1
  have hN := hg.2.1
  have hN0 := hg.1
  refine ⟨zI (gstr G (kR K) (gN G).toNat 0 (-1) 0), G, S, U, K, hp, ?_, ?_⟩
  · intro ν hi
    have loop : ∀ (m : Nat) (n b f : Int) (ν : ax_M), 0 ≤ n → n + m = gN G → -1 ≤ b → b ≤ 12 → 0 ≤ f → f ≤ 252 → iC G S U K ν → ∃ ν', aJ 770 [.ref 0, .int (zI b), .int (zI f), .int (zI n)] [] ν = some (some (.int (zI (gstr G (kR K) m n b f))), ν') ∧ iC G S U K ν' ∧ frC ν ν' := by
      intro m
      induction m with
      | zero =>
        intro n b f ν n0 n1 b0 b1 f0 f1 hi
        obtain ⟨⟨X, x1, x2⟩, _, _⟩ := iC_R hp.2.2.1 hi
        refine ⟨ν, ?_, hi, frC_z⟩
        rw [jl_770, q_N x1 (Or.inl rfl)]
        simp (disch := omega) only [p_le]
        rw [if_pos (by omega), jl_773]
        rfl
      | succ m ih =>
        intro n b f ν n0 n1 b0 b1 f0 f1 hi
        obtain ⟨⟨X, x1, x2⟩, _, _⟩ := iC_R hp.2.2.1 hi
        obtain ⟨ν1, a1, a2, a3⟩ := q_lf hp n0 (by omega) hi
        obtain ⟨_, _, o3, o4⟩ := glf_ok (R := kR K) hg hw n0 (show n < gN G by omega)
        rw [jl_770, q_N x1 (Or.inl rfl)]
        simp (disch := omega) only [zI_lit, zI_neg, p_le, p_eq, a1, z_b1]
        rw [if_neg (by omega)]
        unfold gstr
        by_cases q : b = -1
        · obtain ⟨ν2, c1, c2, c3⟩ := ih (n + 1) n (glf G (kR K) n) ν1 (by omega) (by omega) (by omega) (by omega) o3 o4 a2
          refine ⟨ν2, ?_, c2, frC_t a3 c3⟩
          rw [if_pos q, if_pos (Or.inl q), jl_771, jl_772]
          simp only [zI_lit, zI_add]
          exact c1
        · by_cases p : f ≤ glf G (kR K) n
          · obtain ⟨ν2, c1, c2, c3⟩ := ih (n + 1) b f ν1 (by omega) (by omega) (by omega) (by omega) f0 f1 a2
            refine ⟨ν2, ?_, c2, frC_t a3 c3⟩
            rw [if_neg q, if_pos p, if_neg (by rintro (z | z); exact q z; omega), jl_772]
            simp only [zI_lit, zI_add]
            exact c1
          · obtain ⟨ν2, c1, c2, c3⟩ := ih (n + 1) n (glf G (kR K) n) ν1 (by omega) (by omega) (by omega) (by omega) o3 o4 a2
            refine ⟨ν2, ?_, c2, frC_t a3 c3⟩
            rw [if_neg q, if_neg p, if_pos (Or.inr (by omega)), jl_771, jl_772]
            simp only [zI_lit, zI_add]
            exact c1
    obtain ⟨ν', a1, a2, a3⟩ := loop (gN G).toNat 0 (-1) 0 ν (by omega) (by omega) (by omega) (by omega) (by omega) (by omega) hi
    refine ⟨ν', ?_, a2, a3⟩
    rw [jl_769]
    exact a1
  · intro ν hi
    obtain ⟨ν0, e0, hi0, f0⟩ := iM_th hK hi
    obtain ⟨ν1, s1, s2, s3, s4, s5⟩ := svT_ok hp hi0
    have loop : ∀ (m : Nat) (n b f : Int) (ν : ax_M), 0 ≤ n → n + m = gN G → -1 ≤ b → b ≤ 12 → 0 ≤ f → f ≤ 252 → iM G S U K ν → tP (gwt G) S ν → ∃ ν', aJ 568 [.ref 207, .int (zI b), .int (zI f), .int (zI n)] [] ν = some (some (.int (zI (gstr G (kR K) m n b f))), ν') ∧ iM G S U K ν' ∧ frM ν ν' := by
      intro m
      induction m with
      | zero =>
        intro n b f ν n0 n1 b0 b1 f0 f1 hi ht
        refine ⟨ν, ?_, hi, frM_z⟩
        rw [jl_568]
        simp (disch := omega) only [zI_lit, q_rN hi.1, z_bo, p_le]
        rw [if_pos (by omega), jl_571]
        rfl
      | succ m ih =>
        intro n b f ν n0 n1 b0 b1 f0 f1 hi ht
        obtain ⟨ν1, a1, a2, a4, a3⟩ := q_sb hp n0 (by omega) ht hi
        obtain ⟨_, _, o3, o4⟩ := glf_ok (R := kR K) hg hw n0 (show n < gN G by omega)
        rw [jl_568]
        simp (disch := omega) only [zI_lit, zI_neg, q_rN hi.1, z_bo, p_le, p_lt, p_eq, a1, z_b1]
        rw [if_neg (by omega)]
        unfold gstr
        by_cases q : b = -1
        · obtain ⟨ν2, c1, c2, c3⟩ := ih (n + 1) n (glf G (kR K) n) ν1 (by omega) (by omega) (by omega) (by omega) o3 o4 a2 a4
          refine ⟨ν2, ?_, c2, frM_t a3 c3⟩
          rw [if_pos q, if_pos (Or.inl q), jl_569, jl_570]
          simp only [zI_lit, zI_add]
          exact c1
        · by_cases p : glf G (kR K) n < f
          · obtain ⟨ν2, c1, c2, c3⟩ := ih (n + 1) n (glf G (kR K) n) ν1 (by omega) (by omega) (by omega) (by omega) o3 o4 a2 a4
            refine ⟨ν2, ?_, c2, frM_t a3 c3⟩
            rw [if_neg q, if_pos p, if_pos (Or.inr p), jl_569, jl_570]
            simp only [zI_lit, zI_add]
            exact c1
          · obtain ⟨ν2, c1, c2, c3⟩ := ih (n + 1) b f ν1 (by omega) (by omega) (by omega) (by omega) f0 f1 a2 a4
            refine ⟨ν2, ?_, c2, frM_t a3 c3⟩
            rw [if_neg q, if_neg p, if_neg (by rintro (z | z); exact q z; exact p z), jl_570]
            simp only [zI_lit, zI_add]
            exact c1
    obtain ⟨ν', a1, a2, a3⟩ := loop (gN G).toNat 0 (-1) 0 ν1 (by omega) (by omega) (by omega) (by omega) (by omega) (by omega) s3 s2
    refine ⟨ν', ?_, a2, frM_t f0 (frM_t s4 a3)⟩
    rw [jl_567, ← e0, show (0 : Int32) = zI 0 from rfl, s1, z_b0]
    exact a1
/-! cores -/
noncomputable def gal (G : gG) : Nat → Int → gS → gS
  | 0, _, S => S
  | m + 1, n, S => gal G m (n + 1) (gwk G S n)
noncomputable def gce (G : gG) (x : Int32) : gS := hcr G 256 x (gal G (gN G).toNat 0 gas)
theorem gal_ok {G : gG} (hg : hGok G) : ∀ (m : Nat) (n : Int) (S : gS), 0 ≤ n → n + m = gN G → hV G S → (∀ k, n ≤ k → gnd S k 0 = 0) → hV G (gal G m n S) := by
  intro m
  induction m with
  | zero => exact fun n S _ _ hv _ => hv
  | succ m ih =>
    intro n S n0 n1 hv hs
    have h1 := h_wk hg hv.1 n0 (by omega) (hs n (Int.le_refl _))
    exact ih (n + 1) (gwk G S n) (by omega) (by omega) (hV_wk hg hv n0 (by omega) (hs n (Int.le_refl _))) (fun k k0 => by rw [h1.2.1.1 k 0 (by omega)]; exact hs k (by omega))
theorem gce_ok {G : gG} (hg : hGok G) (hw : hGw G) (x : Int32) : hV G (gal G (gN G).toNat 0 gas) ∧ hV G (gce G x) := by
  have h := gal_ok hg (gN G).toNat 0 gas (by omega) (by have := hg.1; omega) (hV_gas hg) (fun _ _ => rfl)
  exact ⟨h, (cr_st hg hw 256 x _ h (by unfold hrs; omega)).2.2⟩
noncomputable def gcc' (G : gG) (e : Int) (s : Int32) : Nat → Int → Int
  | 0, _ => 0
  | m + 1, i => (if gnd (gce G (s + zI i)) (gfr G e) 2 = e then 1 else 0) + gcc' G e s m (i + 1)
theorem gcc_r {G : gG} {e : Int} {s : Int32} : ∀ (m : Nat) (i : Int), 0 ≤ gcc' G e s m i ∧ gcc' G e s m i ≤ m := by
  intro m
  induction m with
  | zero => intro i; unfold gcc'; omega
  | succ m ih =>
    intro i
    have := ih (i + 1)
    unfold gcc'
    split <;> omega
theorem q_rd {G : gG} {S : gS} {U : List gU} {K : qK} {ν : ax_M} (x : Int32) (hp : pOK G S U K) (hi : iC G S U K ν) : ∃ ν' X', aJ 833 [.ref 0, .int x] [] ν = some (none, ν') ∧ cI 40 G (gce G x) X' ν' ∧ iC G S U K ν' ∧ frC ν ν' := by
  have hg := hp.1
  have hw := hGx_w hp.2.1
  have hN0 := hg.1
  have hN := hg.2.1
  have ho : cO 40 := Or.inr rfl
  obtain ⟨ν1, X1, a1, a2, a3, a4, a5⟩ := q_tc hp hi
  obtain ⟨ν2, b1, b2, b3, b4⟩ := q_tly a2 a4
  have loop : ∀ (m : Nat) (n : Int) (T : gS) (X : cX) (ν : ax_M), 0 ≤ n → n + m = gN G → hV G T → (∀ k, n ≤ k → gnd T k 0 = 0) → XR G T X → cI 40 G T X ν → ∃ X' ν', aJ 834 [.ref 0, .int x, .int (zI n)] [] ν = aJ 835 [.ref 0, .int x] [] ν' ∧ cI 40 G (gal G m n T) X' ν' ∧ XR G (gal G m n T) X' ∧ fr (cOL 40) ν ν' := by
    intro m
    induction m with
    | zero =>
      intro n T X ν n0 n1 hv hs hx hc
      refine ⟨X, ν, ?_, hc, hx, frz⟩
      rw [jl_834, q_N hc ho]
      simp (disch := omega) only [p_le]
      rw [if_pos (by omega)]
    | succ m ih =>
      intro n T X ν n0 n1 hv hs hx hc
      have hs0 := hs n (Int.le_refl _)
      have h1 := h_wk hg hv.1 n0 (by omega) hs0
      obtain ⟨X3, ν3, c1, c2, c3, c4⟩ := q_rouse ho hg hw hv hx hc n0 (by omega)
      rw [if_pos hs0] at c2 c3
      obtain ⟨X4, ν4, d1, d2, d3, d4⟩ := ih (n + 1) (gwk G T n) X3 ν3 (by omega) (by omega) (hV_wk hg hv n0 (by omega) hs0) (fun k k0 => by rw [h1.2.1.1 k 0 (by omega)]; exact hs k (by omega)) c3 c2
      refine ⟨X4, ν4, ?_, d2, d3, frt c4 d4⟩
      rw [jl_834, q_N hc ho]
      simp (disch := omega) only [p_le]
      rw [if_neg (by omega), c1, z_b1, show zI n + 1 = zI (n + 1) from zI_a1 n]
      exact d1
  obtain ⟨X3, ν3, c1, c2, c3, c4⟩ := loop (gN G).toNat 0 gas gaX ν2 (by omega) (by omega) (hV_gas hg) (fun _ _ => rfl) XR_gas b2
  have h1 := (gce_ok hg hw x).1
  obtain ⟨X4, ν4, d1, d2, d3, d4⟩ := q_dr1 (R := kR K) hg hw 256 _ X3 ν3 x 0 h1 c3 c2 (by omega) (by omega)
  refine ⟨ν4, X4, ?_, d2, iC_tr (frt c4 d4) (by intro a ha; simp [cOL] at ha; omega) (fr_at (frt c4 d4) (by decide) 0) b3, frC_t (frC_of a5 (by decide)) (frC_t (frC_of b4 (by decide)) (frC_of (frt c4 d4) (by decide)))⟩
  rw [jl_833, a1, z_b0, b1, z_b0]
  simp only [zI_lit]
  rw [c1, jl_835]
  simp only [zI_lit]
  exact d1
theorem q_cores {G : gG} {S : gS} {U : List gU} {K : qK} (hp : pOK G S U K) (a b s : Int32) : qCl G S U K 774 582 [.ref 0, .int a, .int b, .int s] [.ref 207, .int a, .int b, .int s] := by
  obtain ⟨e, he, rfl⟩ := zI_of a
  obtain ⟨n, hn, rfl⟩ := zI_of b
  have hg := hp.1
  have hw := hGx_w hp.2.1
  have hK := hp.2.2.2.2.2.2.1.1
  have hN := hg.2.1
  have hN0 := hg.1
  have hE := hg.2.2.2.1
  have hL := pOK_L hp
  obtain ⟨n1, n2⟩ := hn
  by_cases c : (0 ≤ e ∧ e < gE G) ∧ 1 ≤ n ∧ n ≤ 10
  · obtain ⟨ce, cn⟩ := c
    have hd : decide (0 ≤ e ∧ e < gE G) = true := by simp [ce]
    have hdn : decide (1 ≤ n ∧ n ≤ 10) = true := by simp [cn]
    have hend := hg.2.2.2.2 e ce.1 ce.2
    refine ⟨zI (gcc' G e s n.toNat 0), G, S, U, K, hp, ?_, ?_⟩
    · intro ν hi
      have loop : ∀ (m : Nat) (i t : Int) (ν : ax_M), 0 ≤ i → i + m = n → 0 ≤ t → t ≤ i → iC G S U K ν → ∃ ν', aJ 777 [.ref 0, .int (zI e), .int (zI n), .int s, .int (zI t), .int (zI i)] [] ν = some (some (.int (zI (t + gcc' G e s m i))), ν') ∧ iC G S U K ν' ∧ frC ν ν' := by
        intro m
        induction m with
        | zero =>
          intro i t ν i0 i1 t0 t1 hi
          refine ⟨ν, ?_, hi, frC_z⟩
          rw [jl_777]
          simp (disch := omega) only [p_le]
          rw [if_pos (by omega), jl_779]
          unfold gcc'
          rw [show t + 0 = t by omega]
        | succ m ih =>
          intro i t ν i0 i1 t0 t1 hi
          obtain ⟨ν1, X1, a1, a2, a3, a4⟩ := q_rd (s + zI i) hp hi
          have hr := (gce_ok hg hw (s + zI i)).2.2.2.1.2.1 (gfr G e)
          have h942 : aJ 942 [.ref 3, .int (zI e)] [] ν1 = some (some (.int (zI (gfr G e))), ν1) := by
            rw [jl_942, show (2 : Int32) * zI e = zI (2 * e) from zI_mul 2 e, q_sd a2 (Or.inr rfl) (by omega) (by omega), z_b1, gsd_2]
          rw [jl_777]
          simp (disch := omega) only [p_le, a1, z_b0, h942, z_b1, zI_lit, q_of a2 (Or.inr rfl), p_eq, zI_add]
          rw [if_neg (by omega)]
          unfold gcc'
          by_cases q : gnd (gce G (s + zI i)) (gfr G e) 2 = e
          · obtain ⟨ν2, b1, b2, b3⟩ := ih (i + 1) (t + 1) ν1 (by omega) (by omega) (by omega) (by omega) a3
            refine ⟨ν2, ?_, b2, frC_t a4 b3⟩
            rw [if_pos q, if_pos q, jl_778]
            simp only [zI_lit, zI_add]
            rw [b1, show t + 1 + gcc' G e s m (i + 1) = t + (1 + gcc' G e s m (i + 1)) by omega]
          · obtain ⟨ν2, b1, b2, b3⟩ := ih (i + 1) t ν1 (by omega) (by omega) (by omega) (by omega) a3
            refine ⟨ν2, ?_, b2, frC_t a4 b3⟩
            rw [if_neg q, if_neg q, jl_778]
            simp only [zI_lit, zI_add]
            rw [b1, show t + gcc' G e s m (i + 1) = t + (0 + gcc' G e s m (i + 1)) by omega]
      obtain ⟨⟨X, x1, x2⟩, _, _⟩ := iC_R hp.2.2.1 hi
      obtain ⟨ν', a1, a2, a3⟩ := loop n.toNat 0 0 ν (by omega) (by omega) (by omega) (by omega) hi
      refine ⟨ν', ?_, a2, a3⟩
      rw [jl_774, q_ie hg x1 he, z_b1, hd, if_neg (by decide)]
      simp (disch := omega) only [zI_lit, p_lt, p_le]
      rw [if_neg (by omega), if_pos (by omega), jl_776]
      simp only [zI_lit]
      rw [a1, show (0 : Int) + gcc' G e s n.toNat 0 = gcc' G e s n.toNat 0 by omega]
    · intro ν hi
      obtain ⟨ν0, e0, hi0, f0⟩ := iM_th hK hi
      obtain ⟨ν1, s1, s2, s3, s4, s5⟩ := svT_ok hp hi0
      have wall : ∀ (m : Nat) (k : Int) (T : gS) (ν : ax_M) (t i : Int), 0 ≤ k → k + m = gN G → hV G T → (∀ j, k ≤ j → gnd T j 0 = 0) → mI G T ν → ∃ ν', aJ 586 [.ref 207, .int (zI e), .int (zI n), .int s, .int (zI t), .int (zI i), .int (zI k)] [] ν = aJ 587 [.ref 207, .int (zI e), .int (zI n), .int s, .int (zI t), .int (zI i)] [] ν' ∧ mI G (gal G m k T) ν' ∧ fr [209] ν ν' ∧ bgR ν ν' := by
        intro m
        induction m with
        | zero =>
          intro k T ν t i k0 k1 hv hs hm
          refine ⟨ν, ?_, hm, frz, bgz⟩
          rw [jl_586]
          simp (disch := omega) only [zI_lit, q_rN hm, z_bo, p_le]
          rw [if_pos (by omega)]
        | succ m ih =>
          intro k T ν t i k0 k1 hv hs hm
          have hs0 := hs k (Int.le_refl _)
          have h1 := h_wk hg hv.1 k0 (by omega) hs0
          obtain ⟨ν1, b1, b2, b3, b4⟩ := q_rwk hg hw hv hm k0 (by omega)
          obtain ⟨ν2, c1, c2, c3, c4⟩ := ih (k + 1) (gwk G T k) ν1 t i (by omega) (by omega) (hV_wk hg hv k0 (by omega) hs0) (fun j j0 => by rw [h1.2.1.1 j 0 (by omega)]; exact hs j (by omega)) b2
          refine ⟨ν2, ?_, c2, frt b3 c3, bgt b4 c4⟩
          rw [jl_586]
          simp (disch := omega) only [zI_lit, q_rN hm, z_bo, p_le]
          rw [if_neg (by omega), b1, z_b0]
          simp only [zI_add]
          exact c1
      have loop : ∀ (m : Nat) (i t : Int) (ν : ax_M), 0 ≤ i → i + m = n → 0 ≤ t → t ≤ i → iM G S U K ν → tP (gwt G) S ν → ∃ ν', aJ 585 [.ref 207, .int (zI e), .int (zI n), .int s, .int (zI t), .int (zI i)] [] ν = some (some (.int (zI (t + gcc' G e s m i))), ν') ∧ iM G S U K ν' ∧ frM ν ν' := by
        intro m
        induction m with
        | zero =>
          intro i t ν i0 i1 t0 t1 hi ht
          refine ⟨ν, ?_, hi, frM_z⟩
          rw [jl_585]
          simp (disch := omega) only [p_le]
          rw [if_pos (by omega), jl_590]
          unfold gcc'
          rw [show t + 0 = t by omega]
        | succ m ih =>
          intro i t ν i0 i1 t0 t1 hi ht
          have ho1 := (gce_ok hg hw (s + zI i)).1
          have hr := (gce_ok hg hw (s + zI i)).2.2.2.1.2.1 (gfr G e)
          obtain ⟨ν1, a1, a2, a3, a4⟩ := q_sto hi.1
          have hi1 := iM_st a3 (by simp) (fun k _ _ => fr_at a3 (by decide) k) a4 hK a2 hi
          have f2 : fr [207] ν1 (ax_uD ν1 207 32 (s + zI i)) := fr_uD (by decide)
          have hi2 := iM_st f2 (by simp) (fun k _ k2 => uD_nk k2 207) (bgf f2 (by decide)) hK (mI_fr f2 (by decide) a2) hi1
          obtain ⟨ν3, b1, b2, b3, b4⟩ := wall (gN G).toNat 0 gas _ t i (by omega) (by omega) (hV_gas hg) (fun _ _ => rfl) hi2.1
          have hi3 := iM_st b3 (by simp) (fun k _ _ => fr_at b3 (by decide) k) b4 hK b2 hi2
          have h32 : ν3.1 207 32 = s + zI i := (fr_at b3 (by decide) 32).trans uD_at
          obtain ⟨ν4, c1, c2, c3, c4, c5⟩ := q_rdr (a1 := zI e) (a2 := zI n) (a3 := s) (a4 := zI t) (a5 := zI i) hg hw 256 _ ν3 ho1 b2 (by unfold hrs; omega)
          rw [h32] at c2
          have c2' : mI G (gce G (s + zI i)) ν4 := c2
          have hi4 := iM_st c3 (by intro a ha; simp at ha; omega) (fun k _ k2 => c5 k k2) c4 hK c2' hi3
          have ht4 : tP (gwt G) S ν4 := tP_fr c3 (by decide) (tP_fr b3 (by decide) (tP_fr f2 (by decide) (tP_fr a3 (by decide) ht)))
          obtain ⟨ν5, d1, d2, d3, d4⟩ := q_cbT (by omega) c2' ht4
          rw [GW_id] at d2
          have hi5 := iM_st d3 (by simp) (fun k _ _ => fr_at d3 (by decide) k) d4 hK d2 hi4
          have fM : frM ν ν5 := frM_t (frM_of a3 (by simp)) (frM_t (frM_of f2 (by simp)) (frM_t (frM_of b3 (by simp)) (frM_t (frM_of c3 (by intro a ha; simp at ha; omega)) (frM_of d3 (by simp)))))
          have hst : aJ 585 [.ref 207, .int (zI e), .int (zI n), .int s, .int (zI t), .int (zI i)] [] ν = aJ 588 [.ref 207, .int (zI e), .int (zI n), .int s, .int (zI t), .int (zI i)] [] ν4 := by
            rw [jl_585]
            simp (disch := omega) only [p_le]
            rw [if_neg (by omega), a1, z_b0]
            simp only [zI_lit]
            rw [b1, c1]
          rw [hst, jl_588]
          simp (disch := omega) only [zI_lit, zI_add, ld_209, q_fr c2', z_bo, q_nd c2', z_b1, p_eq]
          unfold gcc'
          by_cases q : gnd (gce G (s + zI i)) (gfr G e) 2 = e
          · obtain ⟨ν6, e1, e2, e3⟩ := ih (i + 1) (t + 1) ν5 (by omega) (by omega) (by omega) (by omega) hi5 (tP_fr d3 (by decide) ht4)
            refine ⟨ν6, ?_, e2, frM_t fM e3⟩
            rw [if_pos q, if_pos q, jl_589]
            simp only [zI_lit, zI_add]
            rw [d1, z_b0, e1, show t + 1 + gcc' G e s m (i + 1) = t + (1 + gcc' G e s m (i + 1)) by omega]
          · obtain ⟨ν6, e1, e2, e3⟩ := ih (i + 1) t ν5 (by omega) (by omega) (by omega) (by omega) hi5 (tP_fr d3 (by decide) ht4)
            refine ⟨ν6, ?_, e2, frM_t fM e3⟩
            rw [if_neg q, if_neg q, jl_589]
            simp only [zI_lit, zI_add]
            rw [d1, z_b0, e1, show t + gcc' G e s m (i + 1) = t + (0 + gcc' G e s m (i + 1)) by omega]
      obtain ⟨ν', a1, a2, a3⟩ := loop n.toNat 0 0 ν1 (by omega) (by omega) (by omega) (by omega) s3 s2
      refine ⟨ν', ?_, a2, frM_t f0 (frM_t s4 a3)⟩
      rw [jl_582, ← e0, q_rie hg hi0.1 he, z_b1, hd, if_neg (by decide), show (1 : Int32) = zI 1 from rfl, show (10 : Int32) = zI 10 from rfl, mz_isIn ⟨n1, n2⟩ (zR_of (by omega)) (zR_of (by omega)), z_b1, hdn, if_neg (by decide), jl_584, show (0 : Int32) = zI 0 from rfl, s1, z_b0, a1, show (0 : Int) + gcc' G e s n.toNat 0 = gcc' G e s n.toNat 0 by omega]
  · refine ⟨zI (-1), G, S, U, K, hp, ?_, ?_⟩
    · intro ν hi
      obtain ⟨⟨X, x1, x2⟩, _, _⟩ := iC_R hp.2.2.1 hi
      refine ⟨ν, ?_, hi, frC_z⟩
      rw [jl_774, q_ie hg x1 he, z_b1]
      by_cases ce : 0 ≤ e ∧ e < gE G
      · rw [show decide (0 ≤ e ∧ e < gE G) = true by simp [ce], if_neg (by decide)]
        simp (disch := omega) only [zI_lit, p_lt, p_le]
        by_cases d : n < 1
        · rw [if_pos d, jl_775]
          rfl
        · rw [if_neg d, if_neg (by omega), jl_775]
          rfl
      · rw [show decide (0 ≤ e ∧ e < gE G) = false by simp; omega, if_pos (by decide), jl_775]
        rfl
    · intro ν hi
      obtain ⟨ν0, e0, hi0, f0⟩ := iM_th hK hi
      obtain ⟨m1, _, _⟩ := id hi0
      refine ⟨ν0, ?_, hi0, f0⟩
      rw [jl_582, ← e0, q_rie hg m1 he, z_b1]
      by_cases ce : 0 ≤ e ∧ e < gE G
      · rw [show decide (0 ≤ e ∧ e < gE G) = true by simp [ce], if_neg (by decide), show (1 : Int32) = zI 1 from rfl, show (10 : Int32) = zI 10 from rfl, mz_isIn ⟨n1, n2⟩ (zR_of (by omega)) (zR_of (by omega)), z_b1, show decide (1 ≤ n ∧ n ≤ 10) = false by simp; omega, if_pos (by decide), jl_583]
        rfl
      · rw [show decide (0 ≤ e ∧ e < gE G) = false by simp; omega, if_pos (by decide), jl_583]
        rfl
