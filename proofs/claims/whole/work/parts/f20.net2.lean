/-! o: net -/
def N00 : qNm := (0, fun _ => 0, fun _ _ => 0)
def R00 : gR := (0, fun _ => 0, fun _ => 0, fun _ => 0, fun _ _ => 0, fun _ _ => 0)
theorem dOK_0 : dOK N00 G00 := ⟨⟨Int.le_refl _, by show (0 : Int) ≤ 12; omega, fun n n0 n1 => by have : n < 0 := n1; omega⟩, rfl, G00_ok, G00_x, fun _ _ => rfl⟩
theorem R00_ok : rok R00 := ⟨⟨Int.le_refl _, by show (0 : Int) ≤ 10; omega⟩, fun i i0 i1 => by have : i < 0 := i1; omega⟩
def kNe (K : qK) (N : qNm) : qK := (R00, N, (0, (kT K).2), kI0 K, kI1 K, (0, 0), kO K, kX K)
theorem pQ_ne {G G' : gG} {S : gS} {U : List gU} {K : qK} {N' : qNm} (hp : pQ G S U K) (hd : dOK N' G') : pQ G' gas [] (kNe K N') := by
  obtain ⟨d1, d2, d3, d4, d5⟩ := hd
  obtain ⟨q1, q2, q3, q4, q5, q6, q7, q8, q9, q10⟩ := pQ_K hp
  exact Or.inl ⟨d3, d4, hV_gas d3, Or.inl rfl, ⟨by decide, (fun e he => by cases he)⟩, (fun e he => by cases he), ⟨R00_ok, d1, ⟨Int.le_refl _, by show (0 : Int) ≤ 940; omega, fun i i0 i1 => by have : i < 0 := i1; omega⟩, q4, q5, ⟨Int.le_refl _, by show (0 : Int) ≤ 4; omega⟩, ⟨Int.le_refl _, by show (0 : Int) ≤ 1000; omega⟩, q8, q9, q10⟩, d2⟩
/-- the class takes the network over -/
theorem q_cne {G G' : gG} {S : gS} {U : List gU} {K : qK} {N' : qNm} {n : Int} {ν : ax_M} (hd : dOK N' G') (hi : iC G S U (kFa K 0 0) ν) (hm : dC N' G' ν) (h7 : ν.1 2 7 = zI n) : ∃ ν', aJ 657 [.ref 0] [] ν = some (some (.int (zI n)), ν') ∧ iC G' gas [] (kNe K N') ν' ∧ frC ν ν' := by
  obtain ⟨d1, d2, d3, d4, d5⟩ := hd
  obtain ⟨c1, c2, c3, c4, c5⟩ := hm
  obtain ⟨_, ⟨top, u1, u2, u3, u4, u5⟩, j⟩ := hi
  obtain ⟨j1, j2, j3, j4, j5, j6, j7, j8, j9, j10, j11, j12⟩ := j
  have hE := d3.2.2.2.1
  obtain ⟨ν1, b1, b2, b3, b4, b5, b6⟩ := q_ncp (x0 := 3) (x1 := 8) (Or.inl rfl) (Or.inr (Or.inl rfl)) (by omega) shN_3.1 shN_3.2.1 d1 hE (show cNt 8 G' ν from ⟨by rw [c2, d2], c3, c4⟩) c1
  have f13 : fr [13] ν1 (ax_uD ν1 13 0 0) := fr_uD (by simp)
  obtain ⟨ν3, e1, e2, e3, e4⟩ := q_cp (a := 7) (b := 30) (la := 30) (lb := 30) (n := 30) (by decide) (by decide) (by decide) (by decide) (by decide) (by decide) (by decide) (ax_uD ν1 13 0 0)
  have hw : wP ν3 (29 + 1) (gwt G') := by
    intro i i0 i1 i2
    have hie : i < gE G' := by
      by_cases q : i < gE G'
      · exact q
      · exact absurd (d5 i (by omega)) i2
    rw [show (29 + 1 : Nat) = 30 from rfl, e3 i.toNat (by omega), fr_at f13 (by decide), show (7 : Nat) = 3 + 4 from rfl, b6 i.toNat (by omega), show (8 + 4 : Nat) = 12 from rfl]
    exact c5 i i0 hie
  obtain ⟨ν4, g1, g2, g3⟩ := q_lay (o := 29) (Or.inl rfl) hw
  have n0 : ∀ a, (a < 3 ∨ (7 < a ∧ a < 13) ∨ (13 < a ∧ a < 29) ∨ 39 < a) → ν4.1 a = ν.1 a := fun a ha => (g3.2 a (by simp [cOL]; omega)).trans ((e2.2 a (by simp; omega)).trans ((f13.2 a (by simp; omega)).trans (b4.2 a (by simp; omega))))
  have n1 : ∀ a, a ≠ 0 → (a < 3 ∨ (7 < a ∧ a < 13) ∨ (13 < a ∧ a < 29) ∨ 39 < a) → (ax_uD ν4 0 11 0).1 a = ν.1 a := fun a h0 ha => (funext fun k => uD_ne h0).trans (n0 a ha)
  have n3 : ∀ a, 3 ≤ a → a ≤ 7 → (ax_uD ν4 0 11 0).1 a = ν1.1 a := fun a h1 h2 => (funext fun k => uD_ne (by omega)).trans ((g3.2 a (by simp [cOL]; omega)).trans ((e2.2 a (by simp; omega)).trans (f13.2 a (by simp; omega))))
  have n00 : ∀ k, k ≠ 11 → (ax_uD ν4 0 11 0).1 0 k = ν.1 0 k := fun k hk => (uD_nk hk 0).trans (congrFun (n0 0 (by omega)) k)
  have e13 : (ax_uD ν4 0 11 0).1 13 0 = zI 0 := by
    rw [uD_ne (by decide), fr_at g3 (by decide), fr_at e2 (by decide), uD_at]
    rfl
  have hp : cP 29 (gwt G') gas gaX (ax_uD ν4 0 11 0) := cP_e (fun a ha => funext fun k => uD_ne (by simp [cOL] at ha; omega)) g2
  have ht : tI G' (ax_uD ν4 0 11 0) := cNt_e (b := 3) (n3 3 (by omega) (by omega)) (n3 6 (by omega) (by omega)) b2
  have hI := cP_cI (Or.inl rfl) hp ht
  rw [GW_id] at hI
  have e2' := n1 2 (by omega) (by omega)
  have e205 := n1 205 (by omega) (by omega)
  refine ⟨ax_uD ν4 0 11 0, ?_, ⟨⟨gaX, hI, Or.inl XR_gas⟩, ⟨top, u1, u2, (n00 10 (by decide)).trans u3, uD_at, fun j e he => by cases j <;> cases he⟩, ?_⟩, ?_⟩
  · have h27 : (ax_uD ν4 0 11 0).1 2 7 = zI n := by rw [e2']; exact h7
    rw [jl_657, b1, z_b0, jl_1080 13 _ (Or.inl rfl), z_b0, jl_1133, show (30 : Int32) = zI 30 from rfl, e1, z_b0, g1, z_b0, z_b0, h27]
  · refine ⟨⟨e13, fun i i0 i1 => ?_, fun i i0 i1 => ?_, fun i i0 i1 => ?_, fun i c i0 i1 => ?_, fun i c i0 i1 => ?_⟩, cNm_e (n3 4 (by omega) (by omega)) (n3 5 (by omega) (by omega)) b3, (n00 1 (by decide)).trans j3, fun i i0 i1 => ?_, cIm_e (fun a z1 z2 => n1 a (by omega) (by omega)) j5, cIm_e (fun a z1 z2 => n1 a (by omega) (by omega)) j6, by rw [e2']; exact j7, fun z => absurd rfl z, (n00 15 (by decide)).trans j9, (n00 16 (by decide)).trans j10, by rw [e205]; exact j11, rP_e (n1 206 (by omega) (by omega)) j12⟩
    · have : i < 0 := i1
      omega
    · have : i < 0 := i1
      omega
    · have : i < 0 := i1
      omega
    · have : i < 0 := i1
      omega
    · have : i < 0 := i1
      omega
    · have : i < 0 := i1
      omega
  · refine ⟨?_, fun a ha => n1 a (by omega) (by omega)⟩
    exact g3.1.trans (e2.1.trans (f13.1.trans b4.1))
/-- the reference takes it over -/
theorem q_mne {G G' : gG} {S : gS} {U : List gU} {K : qK} {N' : qNm} {n : Int} {ν : ax_M} (hd : dOK N' G') (hi : iM G S U (kFa K 0 0) ν) (hm : dM N' G' ν) : ∃ ν', aJ 131 [.ref 207, .int (zI n)] [] ν = some (some (.int (zI n)), ν') ∧ iM G' gas [] (kNe K N') ν' ∧ frM ν ν' := by
  obtain ⟨d1, d2, d3, d4, d5⟩ := hd
  obtain ⟨c1, c2, c3, c4, c5, c6, hz⟩ := hm
  obtain ⟨m1, ⟨u1, u2⟩, j⟩ := hi
  obtain ⟨j1, j2, j3, j4, j5, j6, j7, j8, j9, j10, j11, j12⟩ := j
  have hE := d3.2.2.2.1
  have hE0 := d3.2.2.1
  have h12 := d1.2.1
  have hs := mI_sP m1
  have loop1 : ∀ (m : Nat) (i : Int) (ν1 : ax_M), 0 ≤ i → i + m = 173 → (∀ q : Nat, (q : Int) < i → ν1.1 209 q = ν.1 210 q) → (∀ q : Nat, i ≤ q → ν1.1 209 q = ν.1 209 q) → fr [209] ν ν1 → ∃ ν', aJ 132 [.ref 207, .int (zI n), .int (zI i)] [] ν1 = aJ 133 [.ref 207, .int (zI n)] [] ν' ∧ (∀ q : Nat, q < 173 → ν'.1 209 q = ν.1 210 q) ∧ (∀ q : Nat, 173 ≤ q → ν'.1 209 q = ν.1 209 q) ∧ fr [209] ν ν' := by
    intro m
    induction m with
    | zero =>
      intro i ν1 i0 i1 h1 h2 h3
      refine ⟨ν1, ?_, fun q hq => h1 q (by omega), fun q hq => h2 q (by omega), h3⟩
      rw [jl_132]
      simp (disch := omega) only [zI_lit, p_le]
      rw [if_pos (by omega)]
    | succ m ih =>
      intro i ν1 i0 i1 h1 h2 h3
      have f1 : fr [209] ν1 (ax_up ν1.1 209 i.toNat (ν1.1 210 i.toNat), ν1.2) := fru (by simp)
      obtain ⟨ν', e1, e2⟩ := ih (i + 1) (ax_up ν1.1 209 i.toNat (ν1.1 210 i.toNat), ν1.2) (by omega) (by omega) (fun q hq => by
        by_cases c : q = i.toNat
        · rw [c, ← fr_at h3 (by decide : 210 ∉ [209])]
          exact up_at
        · exact (up_nk c).trans (h1 q (by omega))) (fun q hq => (up_nk (by omega)).trans (h2 q (by omega))) (frt h3 f1)
      refine ⟨ν', ?_, e2⟩
      rw [jl_132]
      simp (disch := omega) only [zI_lit, p_le, zI_add]
      rw [z_ld (len := 173) (by decide) i0 (by omega) (by decide), z_bo, st_209 i0 (by omega), z_bo, if_neg (by omega)]
      exact e1
  obtain ⟨ν1, a1, a2, a3, a4⟩ := loop1 173 0 ν (by omega) (by omega) (fun q hq => by omega) (fun _ _ => rfl) frz
  have c2' : ∀ ν2 : ax_M, fr [209] ν ν2 → ax_ld ax_sh ν2 210 (zI 1) = some (zI (gE G')) := fun ν2 h => by
    rw [z_ld (len := 173) (by decide) (by omega) (by decide) (by decide)]
    exact congrArg some ((fr_at h (by decide) _).trans c2)
  have loop2 : ∀ (m : Nat) (e : Int) (ν2 : ax_M), 0 ≤ e → e + m = 30 → (∀ q : Int, 0 ≤ q → q < e → ν2.1 209 (173 + q).toNat = zI (gwt G' q)) → (∀ q : Nat, (q < 173 ∨ 203 ≤ q) → ν2.1 209 q = ν1.1 209 q) → fr [209] ν ν2 → ∃ ν', aJ 134 [.ref 207, .int (zI n), .int (zI e)] [] ν2 = aJ 137 [.ref 207, .int (zI n)] [] ν' ∧ (∀ q : Int, 0 ≤ q → q < 30 → ν'.1 209 (173 + q).toNat = zI (gwt G' q)) ∧ (∀ q : Nat, (q < 173 ∨ 203 ≤ q) → ν'.1 209 q = ν1.1 209 q) ∧ fr [209] ν ν' := by
    intro m
    induction m with
    | zero =>
      intro e ν2 i0 i1 h1 h2 h3
      refine ⟨ν2, ?_, fun q q0 hq => h1 q q0 (by omega), h2, h3⟩
      rw [jl_134]
      simp (disch := omega) only [zI_lit, p_le]
      rw [if_pos (by omega)]
    | succ m ih =>
      intro e ν2 i0 i1 h1 h2 h3
      have f1 : fr [209] ν2 (ax_up ν2.1 209 (173 + e).toNat (zI (gwt G' e)), ν2.2) := fru (by simp)
      obtain ⟨ν', e1, e2⟩ := ih (e + 1) (ax_up ν2.1 209 (173 + e).toNat (zI (gwt G' e)), ν2.2) (by omega) (by omega) (fun q q0 hq => by
        by_cases c : q = e
        · rw [c]
          exact up_at
        · exact (up_nk (by omega)).trans (h1 q q0 (by omega))) (fun q hq => (up_nk (by omega)).trans (h2 q hq)) (frt h3 f1)
      refine ⟨ν', ?_, e2⟩
      have hgo : aJ 134 [.ref 207, .int (zI n), .int (zI e)] [] ν2 = aJ 136 [.ref 207, .int (zI n), .int (zI e)] [.int (zI (gwt G' e)), .int (zI (173 + e)), .ref 209] ν2 := by
        rw [jl_134]
        simp (disch := omega) only [zI_lit, p_le, zI_add, c2' ν2 h3, z_bo]
        rw [if_neg (by omega)]
        by_cases c : gE G' ≤ e
        · rw [if_pos c, jl_135, d5 e c]
          rfl
        · rw [if_neg c, z_ld (len := 30) (by decide) i0 (by omega) (by decide), z_bo, fr_at h3 (by decide), c6 e i0 (by omega)]
      rw [hgo, jl_136, st_209 (by omega) (by omega), z_bo]
      simp only [zI_lit, zI_add]
      exact e1
  obtain ⟨ν2, b1, b2, b3, b4⟩ := loop2 30 0 ν1 (by omega) (by omega) (fun q q0 hq => by omega) (fun _ _ => rfl) a4
  have loop3 : ∀ (m : Nat) (i : Int) (ν3 : ax_M), 0 ≤ i → i + m = 12 → ν3.1 = ν2.1 → (∀ a, a ≠ 215 → ν3.2 a = ν2.2 a) → (∀ q : Int, 0 ≤ q → q < i → ν3.2 215 q.toNat = ν2.2 216 q.toNat) → ∃ ν', aJ 138 [.ref 207, .int (zI n), .int (zI i)] [] ν3 = aJ 139 [.ref 207, .int (zI n)] [] ν' ∧ ν'.1 = ν2.1 ∧ (∀ a, a ≠ 215 → ν'.2 a = ν2.2 a) ∧ (∀ q : Int, 0 ≤ q → q < 12 → ν'.2 215 q.toNat = ν2.2 216 q.toNat) := by
    intro m
    induction m with
    | zero =>
      intro i ν3 i0 i1 g1 g2 h1
      refine ⟨ν3, ?_, g1, g2, fun q q0 hq => h1 q q0 (by omega)⟩
      rw [jl_138]
      simp (disch := omega) only [zI_lit, p_le]
      rw [if_pos (by omega)]
    | succ m ih =>
      intro i ν3 i0 i1 g1 g2 h1
      have u : ∀ (a j : Nat), (a ≠ 215 ∨ j ≠ i.toNat) → ax_up ν3.2 215 i.toNat (ν3.2 216 i.toNat) a j = ν3.2 a j := fun a j hh => by
        unfold ax_up
        rw [if_neg (by omega)]
      have ua : ax_up ν3.2 215 i.toNat (ν3.2 216 i.toNat) 215 i.toNat = ν3.2 216 i.toNat := by
        unfold ax_up
        rw [if_pos ⟨rfl, rfl⟩]
      obtain ⟨ν', e1, e2⟩ := ih (i + 1) (ν3.1, ax_up ν3.2 215 i.toNat (ν3.2 216 i.toNat)) (by omega) (by omega) g1 (fun a ha => (funext fun j => u a j (Or.inl ha)).trans (g2 a ha)) (fun q q0 hq => by
        by_cases c : q = i
        · rw [c, ← g2 216 (by decide)]
          exact ua
        · exact (u _ _ (Or.inr (by omega))).trans (h1 q q0 (by omega)))
      refine ⟨ν', ?_, e2⟩
      rw [jl_138]
      simp (disch := omega) only [zI_lit, p_le, zI_add, ld_216, z_bo, st_215]
      rw [if_neg (by omega)]
      exact e1
  obtain ⟨ν3, g1, g2, g3, g4⟩ := loop3 12 0 ν2 (by omega) (by omega) rfl (fun _ _ => rfl) (fun q q0 hq => by omega)
  have r209 : ∀ q : Nat, q < 173 → ν3.1 209 q = ν.1 210 q := fun q hq => by rw [g2, b3 q (Or.inl hq), a2 q hq]
  have hmI : mI G' S ν3 := by
    have := sP_mI (G := G') (W := gwt G') (S := S) (ν := ν3) ⟨by rw [r209 0 (by decide), c1, d2], by rw [r209 1 (by decide)]; exact c2, fun e e0 e1 => by rw [r209 _ (by omega)]; exact c3 e e0 e1, fun e e0 e1 => by rw [r209 _ (by omega)]; exact c4 e e0 e1⟩ (by
      obtain ⟨s1, s2, s3, s4, s5, s6, s7⟩ := hs.1
      have r203 : ∀ i : Int, 203 ≤ i → ν3.1 209 i.toNat = ν.1 209 i.toNat := fun i hi => by rw [g2, b3 _ (Or.inr (by omega)), a3 _ (by omega)]
      exact ⟨fun e e0 e1 => by rw [g2]; exact b2 e e0 e1, fun w w0 w1 => (r203 _ (by omega)).trans (s2 w w0 w1), fun n f n0 n1 f0 f1 => (r203 _ (by omega)).trans (s3 n f n0 n1 f0 f1), (r203 383 (by omega)).trans s4, (r203 384 (by omega)).trans s5, (r203 385 (by omega)).trans s6, fun k f k0 k1 f0 f1 => (r203 _ (by omega)).trans (s7 k f k0 k1 f0 f1)⟩)
    rwa [GW_id] at this
  obtain ⟨ν4, p1, p2, p3, p4⟩ := q_sto hmI
  have f5 : fr [207] ν4 (ax_uD ν4 207 24 0) := fr_uD (by simp)
  have off : ∀ a, a ≠ 207 → a ≠ 209 → (ax_uD ν4 207 24 0).1 a = ν.1 a := fun a x y => (f5.2 a (by simpa using x)).trans ((p3.2 a (by simpa using y)).trans ((congrFun g2 a).trans (b4.2 a (by simpa using y))))
  have o7 : ∀ k, k ≠ 24 → (ax_uD ν4 207 24 0).1 207 k = ν.1 207 k := fun k hk => (uD_nk hk 207).trans ((fr_at p3 (by decide) k).trans ((congrFun (congrFun g2 207) k).trans (fr_at b4 (by decide) k)))
  have l2 : ∀ a, a ≠ 215 → (ax_uD ν4 207 24 0).2 a = ν.2 a := fun a ha => (congrFun p3.1 a).trans ((g3 a ha).trans (congrFun b4.1 a))
  refine ⟨ax_uD ν4 207 24 0, ?_, ⟨mI_fr f5 (by decide) p2, ⟨uD_at, fun j e he => by cases j <;> cases he⟩, ?_⟩, ?_⟩
  · rw [jl_131]
    simp only [zI_lit] at a1 b1 g1 ⊢
    rw [a1, jl_133]
    simp only [zI_lit] at b1 ⊢
    rw [b1, jl_137]
    simp only [zI_lit] at g1 ⊢
    rw [g1, jl_139, p1, z_b0]
    simp only [zI_lit]
  · refine ⟨⟨?_, fun i i0 i1 => ?_⟩, fun k k0 k1 => ?_, (o7 2 (by decide)).trans j3, fun i i0 i1 => ?_, rIm_e (off 211 (by decide) (by decide)) (off 218 (by decide) (by decide)) (l2 217 (by decide)) j5, rIm_e (off 211 (by decide) (by decide)) (off 218 (by decide) (by decide)) (l2 217 (by decide)) j6, (o7 9 (by decide)).trans j7, (o7 10 (by decide)).trans j8, (o7 30 (by decide)).trans j9, (o7 31 (by decide)).trans j10, (o7 34 (by decide)).trans j11, rP_e (off 224 (by decide) (by decide)) j12⟩
    · rw [uD_ne (by decide), p4 62 (by decide) (by decide), r209 62 (by decide), hz 62 (by decide) (by decide)]
      rfl
    · have : i < 0 := i1
      omega
    · have k1' : k < N'.1 := k1
      show ν4.2 215 (0 + k).toNat = _
      rw [show (0 : Int) + k = k by omega, congrFun p3.1 215, g4 k k0 (by omega), congrFun b4.1 216]
      have := c5 k k0 k1'
      rwa [show (0 : Int) + k = k by omega] at this
    · have : i < 0 := i1
      omega
  · exact fun a ha => off a (by omega) (by omega)
