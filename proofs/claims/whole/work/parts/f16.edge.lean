/-! o: a line of a network's text: an edge -/
def jn (G : gG) (a b : Int) : Prop := ∃ e, 0 ≤ e ∧ e < gE G ∧ ((gfr G e = a ∧ gsc G e = b) ∨ (gfr G e = b ∧ gsc G e = a))
theorem q_joi {N : qNm} {G : gG} {a b : Int} {ν : ax_M} (hg : hGok G) (hd : dC N G ν) (ha : 0 ≤ a ∧ a ≤ 100) (hb : 0 ≤ b ∧ b ≤ 100) : (jn G a b → aJ 955 [.ref 8, .int (zI a), .int (zI b)] [] ν = some (some (.int 1), ν)) ∧ (¬ jn G a b → aJ 955 [.ref 8, .int (zI a), .int (zI b)] [] ν = some (some (.int 0), ν)) := by
  obtain ⟨d1, d2, d3, d4, d5⟩ := hd
  have hE := hg.2.2.2.1
  have hE0 := hg.2.2.1
  have at11 : ∀ w, 0 ≤ w → w < 2 * gE G → aJ 846 [.ref 11, .int (zI w)] [] ν = some (some (.int (zI (gsd G w))), ν) := fun w w0 w1 => by
    rw [c_at (len := 60) (by decide) (by decide) w0 (by omega), d4 w w0 w1]
  have key : ∀ (m : Nat) (w : Int), 0 ≤ w → w + m = 2 * gE G → ((∃ v, w ≤ v ∧ v < 2 * gE G ∧ gsd G v = a ∧ gsd G (gop v) = b) → aJ 956 [.ref 8, .int (zI a), .int (zI b), .int (zI w)] [] ν = some (some (.int 1), ν)) ∧ (¬ (∃ v, w ≤ v ∧ v < 2 * gE G ∧ gsd G v = a ∧ gsd G (gop v) = b) → aJ 956 [.ref 8, .int (zI a), .int (zI b), .int (zI w)] [] ν = some (some (.int 0), ν)) := by
    intro m
    induction m with
    | zero =>
      intro w w0 w1
      constructor
      · rintro ⟨v, v0, v1, _⟩
        omega
      · intro _
        rw [jl_956, d3]
        simp (disch := omega) only [zI_lit, zI_mul, p_le]
        rw [if_pos (by omega), jl_958]
        simp only [zI_lit]
    | succ m ih =>
      intro w w0 w1
      obtain ⟨i1, i2⟩ := ih (w + 1) (by omega) (by omega)
      have hs := h_sdr hg (show hW G w from ⟨w0, by omega⟩)
      have ho : 0 ≤ gop w ∧ gop w < 2 * gE G := by unfold gop; split <;> omega
      have hs2 := h_sdr hg (show hW G (gop w) from ho)
      have hN := hg.2.1
      have step : aJ 956 [.ref 8, .int (zI a), .int (zI b), .int (zI w)] [] ν = if gsd G w = a ∧ gsd G (gop w) = b then some (some (.int 1), ν) else aJ 956 [.ref 8, .int (zI a), .int (zI b), .int (zI (w + 1))] [] ν := by
        rw [jl_956, d3, jl_944 8 _ _ (Or.inr rfl), show (8 + 3 : Nat) = 11 from rfl, at11 w w0 (by omega), z_b1, z_b1, jl_945 8 _ _ (Or.inr rfl), show (8 + 3 : Nat) = 11 from rfl, show zI w ^^^ (1 : Int32) = zI (gop w) from zI_xor1 w0 (by omega), at11 _ ho.1 ho.2, z_b1, z_b1]
        simp (disch := omega) only [zI_lit, zI_mul, p_le, p_eq]
        rw [if_neg (by omega)]
        by_cases c : gsd G w = a
        · rw [if_pos c]
          by_cases d : gsd G (gop w) = b
          · rw [if_pos d, if_pos ⟨c, d⟩]
          · rw [if_neg d, if_neg (fun z => d z.2), jl_957]
            simp only [zI_lit, zI_add]
        · rw [if_neg c, if_neg (fun z => c z.1), jl_957]
          simp only [zI_lit, zI_add]
      by_cases c : gsd G w = a ∧ gsd G (gop w) = b
      · refine ⟨fun _ => by rw [step, if_pos c], fun q => absurd ⟨w, by omega, by omega, c⟩ q⟩
      · constructor
        · rintro ⟨v, v0, v1, v2⟩
          rw [step, if_neg c]
          refine i1 ⟨v, ?_, v1, v2⟩
          by_cases q : v = w
          · rw [q] at v2
            exact absurd v2 c
          · omega
        · intro q
          rw [step, if_neg c]
          exact i2 (fun ⟨v, v0, v1, v2⟩ => q ⟨v, by omega, v1, v2⟩)
  obtain ⟨k1, k2⟩ := key (2 * gE G).toNat 0 (by omega) (by omega)
  have hiff : jn G a b ↔ ∃ v, 0 ≤ v ∧ v < 2 * gE G ∧ gsd G v = a ∧ gsd G (gop v) = b := by
    constructor
    · rintro ⟨e, e0, e1, h | h⟩
      · refine ⟨2 * e, by omega, by omega, by rw [gsd_2]; exact h.1, ?_⟩
        rw [show gop (2 * e) = 2 * e + 1 by unfold gop; rw [if_pos (by omega)], gsd_21]
        exact h.2
      · refine ⟨2 * e + 1, by omega, by omega, by rw [gsd_21]; exact h.2, ?_⟩
        rw [show gop (2 * e + 1) = 2 * e by unfold gop; rw [if_neg (by omega)]; omega, gsd_2]
        exact h.1
    · rintro ⟨v, v0, v1, h1, h2⟩
      refine ⟨v / 2, by omega, by omega, ?_⟩
      by_cases c : v % 2 = 0
      · left
        rw [show gop v = 2 * (v / 2) + 1 by unfold gop; rw [if_pos c]; omega, gsd_21] at h2
        rw [show v = 2 * (v / 2) by omega, gsd_2] at h1
        exact ⟨h1, h2⟩
      · right
        rw [show gop v = 2 * (v / 2) by unfold gop; rw [if_neg c]; omega, gsd_2] at h2
        rw [show v = 2 * (v / 2) + 1 by omega, gsd_21] at h1
        exact ⟨h2, h1⟩
  rw [jl_955, hiff]
  simp only [zI_lit] at k1 k2 ⊢
  exact ⟨k1, k2⟩
theorem q_edi {N : qNm} {G : gG} {a b : Int} {ν : ax_M} (hg : hGok G) (hd : dM N G ν) (ha : 0 ≤ a ∧ a ≤ 100) (hb : 0 ≤ b ∧ b ≤ 100) : (jn G a b → ∃ e, 0 ≤ e ∧ e < 30 ∧ aJ 108 [.ref 210, .int (zI a), .int (zI b)] [] ν = some (some (.int (zI e)), ν)) ∧ (¬ jn G a b → aJ 108 [.ref 210, .int (zI a), .int (zI b)] [] ν = some (some (.int (zI (-1))), ν)) := by
  obtain ⟨m1, m2, m3, m4, m5, m6⟩ := hd
  have hE := hg.2.2.2.1
  have hE0 := hg.2.2.1
  have hN := hg.2.1
  have l1 : ax_ld ax_sh ν 210 1 = some (zI (gE G)) := by
    rw [show (1 : Int32) = zI 1 from rfl, z_ld (len := 173) (by decide) (by omega) (by decide) (by decide)]
    exact congrArg some m2
  have key : ∀ (m : Nat) (e : Int), 0 ≤ e → e + m = gE G → ((∃ v, e ≤ v ∧ v < gE G ∧ ((gfr G v = a ∧ gsc G v = b) ∨ (gfr G v = b ∧ gsc G v = a))) → ∃ e', 0 ≤ e' ∧ e' < 30 ∧ aJ 109 [.ref 210, .int (zI a), .int (zI b), .int (zI e)] [] ν = some (some (.int (zI e')), ν)) ∧ (¬ (∃ v, e ≤ v ∧ v < gE G ∧ ((gfr G v = a ∧ gsc G v = b) ∨ (gfr G v = b ∧ gsc G v = a))) → aJ 109 [.ref 210, .int (zI a), .int (zI b), .int (zI e)] [] ν = some (some (.int (zI (-1))), ν)) := by
    intro m
    induction m with
    | zero =>
      intro e e0 e1
      constructor
      · rintro ⟨v, v0, v1, _⟩
        omega
      · intro _
        rw [jl_109, l1, z_bo]
        simp (disch := omega) only [p_le]
        rw [if_pos (by omega), jl_113]
        rfl
    | succ m ih =>
      intro e e0 e1
      obtain ⟨i1, i2⟩ := ih (e + 1) (by omega) (by omega)
      obtain ⟨a0, a1, c0, c1, ac⟩ := hg.2.2.2.2 e e0 (by omega)
      have lf : ax_ld ax_sh ν 210 (zI (2 + e)) = some (zI (gfr G e)) := by
        rw [z_ld (len := 173) (by decide) (by omega) (by omega) (by decide), m3 e e0 (by omega)]
      have ls : ax_ld ax_sh ν 210 (zI (32 + e)) = some (zI (gsc G e)) := by
        rw [z_ld (len := 173) (by decide) (by omega) (by omega) (by decide), m4 e e0 (by omega)]
      have step : aJ 109 [.ref 210, .int (zI a), .int (zI b), .int (zI e)] [] ν = if (gfr G e = a ∧ gsc G e = b) ∨ (gfr G e = b ∧ gsc G e = a) then some (some (.int (zI e)), ν) else aJ 109 [.ref 210, .int (zI a), .int (zI b), .int (zI (e + 1))] [] ν := by
        have h110 : aJ 110 [.ref 210, .int (zI a), .int (zI b), .int (zI e)] [] ν = if gfr G e = b ∧ gsc G e = a then some (some (.int (zI e)), ν) else aJ 109 [.ref 210, .int (zI a), .int (zI b), .int (zI (e + 1))] [] ν := by
          rw [jl_110]
          simp (disch := omega) only [zI_lit, zI_add, lf, ls, z_bo, p_eq]
          by_cases c : gfr G e = b
          · rw [if_pos c]
            by_cases d : gsc G e = a
            · rw [if_pos d, if_pos ⟨c, d⟩, jl_111]
            · rw [if_neg d, if_neg (fun z => d z.2), jl_112]
              simp only [zI_lit, zI_add]
          · rw [if_neg c, if_neg (fun z => c z.1), jl_112]
            simp only [zI_lit, zI_add]
        rw [jl_109, l1, z_bo]
        simp (disch := omega) only [zI_lit, zI_add, lf, ls, z_bo, p_eq, p_le]
        rw [if_neg (by omega), h110]
        by_cases c : gfr G e = a
        · rw [if_pos c]
          by_cases d : gsc G e = b
          · rw [if_pos d, if_pos (Or.inl ⟨c, d⟩), jl_111]
          · rw [if_neg d]
            by_cases f : gfr G e = b ∧ gsc G e = a
            · rw [if_pos f, if_pos (Or.inr f)]
            · rw [if_neg f, if_neg (by rintro (z | z); exact d z.2; exact f z)]
        · rw [if_neg c]
          by_cases f : gfr G e = b ∧ gsc G e = a
          · rw [if_pos f, if_pos (Or.inr f)]
          · rw [if_neg f, if_neg (by rintro (z | z); exact c z.1; exact f z)]
      by_cases c : (gfr G e = a ∧ gsc G e = b) ∨ (gfr G e = b ∧ gsc G e = a)
      · refine ⟨fun _ => ⟨e, e0, by omega, by rw [step, if_pos c]⟩, fun q => absurd ⟨e, by omega, by omega, c⟩ q⟩
      · constructor
        · rintro ⟨v, v0, v1, v2⟩
          rw [step, if_neg c]
          refine i1 ⟨v, ?_, v1, v2⟩
          by_cases q : v = e
          · rw [q] at v2
            exact absurd v2 c
          · omega
        · intro q
          rw [step, if_neg c]
          exact i2 (fun ⟨v, v0, v1, v2⟩ => q ⟨v, by omega, v1, v2⟩)
  obtain ⟨k1, k2⟩ := key (gE G).toNat 0 (by omega) (by omega)
  rw [jl_108]
  simp only [zI_lit] at k1 k2 ⊢
  exact ⟨fun ⟨e, h⟩ => k1 ⟨e, h⟩, fun q => k2 (fun ⟨e, h⟩ => q ⟨e, h⟩)⟩
def eadd (G : gG) (a b w : Int) : gG := (gN G, gE G + 1, pu (gfr G) (gE G) a, pu (gsc G) (gE G) b, pu (gwt G) (gE G) w)
theorem dOK_ed {N : qNm} {G : gG} {a b w : Int} (hd : dOK N G) (h30 : gE G < 30) (ha : 0 ≤ a ∧ a < N.1) (hb : 0 ≤ b ∧ b < N.1) (hab : a ≠ b) (hw : 1 ≤ w ∧ w ≤ 99) : dOK N (eadd G a b w) := by
  obtain ⟨d1, d2, ⟨g1, g2, g3, g4, g5⟩, d4, d5⟩ := hd
  refine ⟨d1, d2, ⟨g1, g2, by show 0 ≤ gE G + 1; omega, by show gE G + 1 ≤ 30; omega, fun e e0 e1 => ?_⟩, fun e e0 e1 => ?_, fun e he => ?_⟩
  · have e1' : e < gE G + 1 := e1
    show 0 ≤ pu (gfr G) (gE G) a e ∧ pu (gfr G) (gE G) a e < gN G ∧ 0 ≤ pu (gsc G) (gE G) b e ∧ pu (gsc G) (gE G) b e < gN G ∧ pu (gfr G) (gE G) a e ≠ pu (gsc G) (gE G) b e
    by_cases q : e = gE G
    · rw [q, pu_at, pu_at]
      exact ⟨by omega, by omega, by omega, by omega, hab⟩
    · rw [pu_ne q, pu_ne q]
      exact g5 e e0 (by omega)
  · have e1' : e < gE G + 1 := e1
    show 1 ≤ pu (gwt G) (gE G) w e ∧ pu (gwt G) (gE G) w e ≤ 99
    by_cases q : e = gE G
    · rw [q, pu_at]
      exact hw
    · rw [pu_ne q]
      exact d4 e e0 (by omega)
  · have he' : gE G + 1 ≤ e := he
    show pu (gwt G) (gE G) w e = 0
    rw [pu_ne (by omega)]
    exact d5 e (by omega)
theorem q_aed {N : qNm} {G : gG} {a b w : Int} {ν : ax_M} (h30 : 0 ≤ gE G ∧ gE G < 30) (hd : dC N G ν) : ∃ ν', aJ 954 [.ref 8, .int (zI a), .int (zI b), .int (zI w)] [] ν = some (none, ν') ∧ dC N (eadd G a b w) ν' ∧ fr [8, 11, 12] ν ν' := by
  obtain ⟨d1, d2, d3, d4, d5⟩ := hd
  have f1 : fr [11] ν (ax_up ν.1 11 (2 * gE G).toNat (zI a), ν.2) := fru (by simp)
  have f2 : fr [11] (ax_up ν.1 11 (2 * gE G).toNat (zI a), ν.2) (ax_up (ax_up ν.1 11 (2 * gE G).toNat (zI a)) 11 (2 * gE G + 1).toNat (zI b), ν.2) := fru (ν := (ax_up ν.1 11 (2 * gE G).toNat (zI a), ν.2)) (by simp)
  have f3 : fr [12] (ax_up (ax_up ν.1 11 (2 * gE G).toNat (zI a)) 11 (2 * gE G + 1).toNat (zI b), ν.2) (ax_up (ax_up (ax_up ν.1 11 (2 * gE G).toNat (zI a)) 11 (2 * gE G + 1).toNat (zI b)) 12 (gE G).toNat (zI w), ν.2) := fru (ν := (ax_up (ax_up ν.1 11 (2 * gE G).toNat (zI a)) 11 (2 * gE G + 1).toNat (zI b), ν.2)) (by simp)
  generalize h1 : ((ax_up ν.1 11 (2 * gE G).toNat (zI a), ν.2) : ax_M) = ν1 at *
  generalize h2 : ((ax_up (ax_up ν.1 11 (2 * gE G).toNat (zI a)) 11 (2 * gE G + 1).toNat (zI b), ν.2) : ax_M) = ν2 at *
  generalize h3 : ((ax_up (ax_up (ax_up ν.1 11 (2 * gE G).toNat (zI a)) 11 (2 * gE G + 1).toNat (zI b)) 12 (gE G).toNat (zI w), ν.2) : ax_M) = ν3 at *
  have e1 : ν1.1 8 1 = zI (gE G) := (fr_at f1 (by decide) 1).trans d3
  have e2 : ν2.1 8 1 = zI (gE G) := (fr_at f2 (by decide) 1).trans e1
  have e3 : ν3.1 8 1 = zI (gE G) := (fr_at f3 (by decide) 1).trans e2
  have f4 : fr [8] ν3 (ax_uD ν3 8 1 (zI (gE G + 1))) := fr_uD (by simp)
  have fa : fr [8, 11, 12] ν (ax_uD ν3 8 1 (zI (gE G + 1))) := frt (frm f1 (by simp)) (frt (frm f2 (by simp)) (frt (frm f3 (by simp)) (frm f4 (by simp))))
  refine ⟨ax_uD ν3 8 1 (zI (gE G + 1)), ?_, ⟨cNm_e (fa.2 _ (by decide)) (fa.2 _ (by decide)) d1, ?_, uD_at, fun v v0 v1 => ?_, fun e e0 e1' => ?_⟩, fa⟩
  · have p1 : aJ 849 [.ref 11, .int (zI (2 * gE G)), .int (zI a)] [] ν = some (none, ν1) := by
      rw [c_put (len := 60) (by decide) (by decide) (by omega) (by omega), h1]
    have p2 : aJ 849 [.ref 11, .int (zI (2 * gE G + 1)), .int (zI b)] [] ν1 = some (none, ν2) := by
      rw [c_put (len := 60) (by decide) (by decide) (by omega) (by omega), ← h1, ← h2]
    have p3 : aJ 849 [.ref 12, .int (zI (gE G)), .int (zI w)] [] ν2 = some (none, ν3) := by
      rw [c_put (len := 30) (by decide) (by decide) h30.1 (by omega), ← h2, ← h3]
    rw [jl_954, d3]
    simp only [zI_lit, zI_mul]
    rw [p1, z_b0, e1]
    simp only [zI_lit, zI_mul, zI_add]
    rw [p2, z_b0, e2, p3, z_b0, e3]
    simp only [zI_lit, zI_add]
  · rw [uD_nk (by decide), fr_at f3 (by decide), fr_at f2 (by decide), fr_at f1 (by decide)]
    exact d2
  · have v1' : v < 2 * (gE G + 1) := v1
    rw [uD_ne (by decide), fr_at f3 (by decide)]
    have hgs : gsd (eadd G a b w) v = if v % 2 = 0 then pu (gfr G) (gE G) a (v / 2) else pu (gsc G) (gE G) b (v / 2) := rfl
    rw [hgs]
    by_cases q0 : v = 2 * gE G
    · rw [if_pos (by omega), show v / 2 = gE G by omega, pu_at, ← h2, q0]
      exact (up_nk (by omega)).trans up_at
    · by_cases q1 : v = 2 * gE G + 1
      · rw [if_neg (by omega), show v / 2 = gE G by omega, pu_at, ← h2, q1]
        exact up_at
      · rw [pu_ne (by omega), pu_ne (by omega), ← h2]
        exact (up_nk (by omega)).trans ((up_nk (by omega)).trans (d4 v v0 (by omega)))
  · have e1'' : e < gE G + 1 := e1'
    rw [uD_ne (by decide)]
    show _ = zI (pu (gwt G) (gE G) w e)
    by_cases q : e = gE G
    · rw [q, pu_at, ← h3]
      exact up_at
    · rw [pu_ne q, ← h3]
      exact (up_nk (by omega)).trans ((up_ne (by decide)).trans ((up_ne (by decide)).trans (d5 e e0 (by omega))))
