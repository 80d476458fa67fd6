/-! o: net, put together -/
theorem dC_0 {ν : ax_M} (h0 : ν.1 8 0 = zI 0) (h1 : ν.1 8 1 = zI 0) : dC N00 G00 ν := by
  refine ⟨fun n n0 n1 => ?_, h0, h1, fun i i0 i1 => ?_, fun i i0 i1 => ?_⟩
  · have : n < 0 := n1
    omega
  · have : i < 2 * 0 := i1
    omega
  · have : i < 0 := i1
    omega
theorem dM_0 {ν : ax_M} (h : ∀ j : Nat, j < 173 → ν.1 210 j = zI 0) : dM N00 G00 ν := by
  refine ⟨h 0 (by decide), h 1 (by decide), fun e e0 e1 => h _ (by omega), fun e e0 e1 => h _ (by omega), fun n n0 n1 => ?_, fun i i0 i1 => ?_, fun j _ h1 => h j h1⟩
  · have : n < 0 := n1
    omega
  · have : i < 0 := i1
    omega
theorem tBy_K {K : qK} (h : kOK K) : tBy (kT K).2 (kT K).1 := ⟨h.2.2.1.1, h.2.2.1.2.1, h.2.2.1.2.2⟩
theorem q_net {G : gG} {S : gS} {U : List gU} {K : qK} (hp : pQ G S U K) : qF G S U K 656 122 [.ref 0] [.ref 207] := by
  have hKK := pQ_K hp
  have hT := tBy_K hKK
  have hL := pQ_L hp
  generalize hTT : (kT K).2 = T at *
  generalize hLL : (kT K).1 = L at *
  have hL0 := hT.1
  have hL9 := hT.2.1
  -- the class begins
  have hC : ∀ ν, iC G S U K ν → ∃ ν1, aJ 656 [.ref 0] [] ν = (ax_b1 (aJ 960 [.ref 2, .ref 8, .int (zI 0)] [] ν1) fun v3 μ2 => if v3 = 0 then some (some (.int ((-1 : Int32) - ((ax_uD μ2 0 1 0).1 2 9))), (ax_uD μ2 0 1 0)) else aJ 657 [.ref 0] [] (ax_uD μ2 0 1 0)) ∧ rdC T L 900 0 ν1 ∧ dC N00 G00 ν1 ∧ ν1.1 2 7 = zI 0 ∧ ν1.1 2 8 = zI 0 ∧ fr [2, 8] ν ν1 := by
    intro ν hi
    obtain ⟨_, _, j⟩ := id hi
    obtain ⟨j1, j2, j3, j4, _⟩ := j
    rw [hLL] at j3 j4
    rw [hTT] at j4
    have f1 : fr [8] ν (ax_uD (ax_uD ν 8 0 0) 8 1 0) := frt (fr_uD (by simp)) (fr_uD (by simp))
    obtain ⟨ν1, a1, a2, a3, a4, a5⟩ := q_opn (M := 900) (rP_e (f1.2 1 (by decide)) j4)
    refine ⟨ν1, ?_, a2, dC_0 ?_ ?_, a3, a4, frt (frm f1 (by simp)) (frm a5 (by simp))⟩
    · rw [jl_656, jl_938, z_b0, fr_at f1 (by decide), j3, jl_959, show (900 : Int32) = zI 900 from rfl, a1, z_b0]
      rfl
    · rw [fr_at a5 (by decide), uD_nk (by decide), uD_at]
      rfl
    · rw [fr_at a5 (by decide), uD_at]
      rfl
  -- the reference begins
  have hR : ∀ ν ν0, ν0 = ax_uD ν 207 0 0 → iM G S U K ν0 → ∃ ν1, aJ 122 [.ref 207] [] ν = aJ 125 [.ref 207, .int (zI 0)] [] ν1 ∧ rtM T L 900 (tok T L 900 0) ν1 ∧ (∀ j : Nat, j < 173 → ν1.1 210 j = zI 0) ∧ ν1.1 207 2 = zI 0 ∧ ν1.1 207 9 = zI 0 ∧ ν1.1 207 10 = zI (-1) ∧ (∀ a, a ≠ 207 → a ≠ 210 → ν1.1 a = ν0.1 a) ∧ (∀ j, 14 ≤ j → ν1.1 207 j = ν0.1 207 j) ∧ ∀ a, a ≠ 207 → ν1.2 a = ν0.2 a := by
    intro ν ν0 e0 hi0
    obtain ⟨_, _, j⟩ := id hi0
    obtain ⟨j1, j2, j3, j4, _⟩ := j
    rw [hLL] at j3 j4
    rw [hTT] at j4
    obtain ⟨ν1, a1, a2, a3, a4, a5, a6, a7, a8⟩ := q_beg (M := 900) hT (by omega) e0 j3 j4
    obtain ⟨ν2, b1, b2, b3⟩ := q_z210 jl_123 ν1
    refine ⟨ν2, ?_, rtM_e (b3.2 207 (by decide)) (b3.2 208 (by decide)) (by rw [b3.1]) a2, b2, (fr_at b3 (by decide) 2).trans a3, (fr_at b3 (by decide) 9).trans a4, (fr_at b3 (by decide) 10).trans a5, fun a x y => (b3.2 a (by simpa using y)).trans (a6 a x), fun j hj => (fr_at b3 (by decide) j).trans (a7 j hj), fun a x => (congrFun b3.1 a).trans (a8 a x)⟩
    rw [jl_122, show (900 : Int32) = zI 900 from rfl, a1, z_b0]
    simp only [zI_lit] at b1 ⊢
    rw [b1, jl_124]
    simp only [zI_lit]
  rcases l_all hT (M := 900) (by omega) L.toNat 0 0 N00 G00 (by omega) hL0 (by omega) (by omega) (by omega) dOK_0 with ⟨k, pl, n, hk, hpl, hn, h1, h2⟩ | ⟨N', G', n, hd, hn, h1, h2⟩
  · refine ⟨zI (-1 - pl), G, S, U, kFa K k n, pQ_r hp (kFa_OK hKK (by omega) (by omega)) rfl, ?_, ?_⟩
    · intro ν hi
      obtain ⟨ν1, a1, a2, a3, a4, a5, a6⟩ := hC ν hi
      obtain ⟨ν2, b1, b2, b3, b4, b5⟩ := h1 ν1 a2 a3 a4
      have f3 : fr [0] ν2 (ax_uD ν2 0 1 0) := fr_uD (by simp)
      have fa : fr fLn ν (ax_uD ν2 0 1 0) := frt (frm a6 (by simp [fLn])) (frt (frm b1 (by simp [fLn])) (frm f3 (by simp [fLn])))
      refine ⟨ax_uD ν2 0 1 0, ?_, iC_fa fa (fun j hj => (uD_nk hj 0).trans ((fr_at b1 (by decide) j).trans (fr_at a6 (by decide) j))) uD_at ((uD_ne (by decide)).trans b4) (fun _ => (uD_ne (by decide)).trans b3) hi, frC_of fa (fun a ha => by have := fLn_m ha; omega)⟩
      rw [a1, b2, z_b1, if_pos rfl, uD_ne (by decide), b5]
      simp only [show (-1 : Int32) = zI (-1) from rfl, zI_sub]
    · intro ν hi
      obtain ⟨ν0, e0, hi0, f0⟩ := iM_th hKK.1 hi
      obtain ⟨ν1, a1, a2, a3, a4, a5, a6, a7, a8, a9⟩ := hR ν ν0 e0 hi0
      obtain ⟨ν2, b1, b2, b3, b4⟩ := h2 ν1 a2 (dM_0 a3)
      refine ⟨ν2, a1.trans b2, iM_fa hKK.1 (fun a x y z => (b1.1 a (by omega) y z).trans (a7 a (by omega) y)) (fun j hj => (b1.2.1 j (by omega) (by omega) (by omega) (by omega) (by omega) (by omega) (by omega) (by omega)).trans (a8 j hj)) (fun a x y => (b1.2.2 a x y).trans (a9 a x)) ((b1.2.1 2 (by decide) (by decide) (by decide) (by decide) (by decide) (by decide) (by decide) (by decide)).trans a4) b3 (by rw [if_neg (by omega)]; exact b4) hi0, frM_t f0 (fun a ha => (b1.1 a (by omega) (by omega) (by omega)).trans (a7 a (by omega) (by omega)))⟩
  · refine ⟨zI n, G', gas, [], kNe K N', pQ_ne hp hd, ?_, ?_⟩
    · intro ν hi
      obtain ⟨ν1, a1, a2, a3, a4, a5, a6⟩ := hC ν hi
      obtain ⟨ν2, b1, b2, b3, b4, b5⟩ := h1 ν1 a2 a3 a4
      have f3 : fr [0] ν2 (ax_uD ν2 0 1 0) := fr_uD (by simp)
      have fa : fr fLn ν (ax_uD ν2 0 1 0) := frt (frm a6 (by simp [fLn])) (frt (frm b1 (by simp [fLn])) (frm f3 (by simp [fLn])))
      have hi2 : iC G S U (kFa K 0 0) (ax_uD ν2 0 1 0) := iC_fa fa (fun j hj => (uD_nk hj 0).trans ((fr_at b1 (by decide) j).trans (fr_at a6 (by decide) j))) uD_at ((uD_ne (by decide)).trans (b4.trans a5)) (fun z => absurd rfl z) hi
      have hd2 : dC N' G' (ax_uD ν2 0 1 0) := dC_fr f3 (by simp) b5
      obtain ⟨ν3, c1, c2, c3⟩ := q_cne hd hi2 hd2 ((uD_ne (by decide)).trans b3)
      refine ⟨ν3, ?_, ?_, frC_t (frC_of fa (fun a ha => by have := fLn_m ha; omega)) c3⟩
      · rw [a1, b2, z_b1, if_neg (by decide), c1]
      · exact c2
    · intro ν hi
      obtain ⟨ν0, e0, hi0, f0⟩ := iM_th hKK.1 hi
      obtain ⟨ν1, a1, a2, a3, a4, a5, a6, a7, a8, a9⟩ := hR ν ν0 e0 hi0
      obtain ⟨ν2, b1, b2, b3, b4⟩ := h2 ν1 a2 (dM_0 a3)
      have hi2 : iM G S U (kFa K 0 0) ν2 := iM_fa hKK.1 (fun a x y z => (b1.1 a (by omega) y z).trans (a7 a (by omega) y)) (fun j hj => (b1.2.1 j (by omega) (by omega) (by omega) (by omega) (by omega) (by omega) (by omega)).trans (a8 j hj)) (fun a x y => (b1.2.2 a x y).trans (a9 a x)) ((b1.2.1 2 (by decide) (by decide) (by decide) (by decide) (by decide) (by decide) (by decide)).trans a4) (b3.trans a5) (by rw [if_pos rfl]; exact (b1.2.1 10 (by decide) (by decide) (by decide) (by decide) (by decide) (by decide) (by decide)).trans a6) hi0
      obtain ⟨ν3, c1, c2, c3⟩ := q_mne (n := n) hd hi2 b4
      exact ⟨ν3, a1.trans (b2.trans c1), c2, frM_t f0 (frM_t (fun a ha => (b1.1 a (by omega) (by omega) (by omega)).trans (a7 a (by omega) (by omega))) c3)⟩
