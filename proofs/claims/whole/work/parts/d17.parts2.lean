/-! k: fragment -/
theorem qCt_mk {c : Prop} {G : gG} {S : gS} {U : List gU} {K : qK} {fC fM : Nat} {aC aM : List Value} (hp : pOK G S U K) (h1 : c → ∃ r : Int32, (∀ ν, iC G S U K ν → ∃ ν', aJ fC aC [] ν = some (some (.int r), ν') ∧ fr [202, 203, 204] ν ν') ∧ (∀ ν ν0, ν0 = ax_uD ν 207 0 0 → iM G S U K ν0 → aJ fM aM [] ν = some (some (.int r), ν0))) (h2 : ¬ c → ∀ ν ν0, ν0 = ax_uD ν 207 0 0 → iM G S U K ν0 → aJ fM aM [] ν = some (some (.int 0), ax_uD ν0 207 0 1)) : qCt c G S U K fC fM aC aM := by
  have hK := hp.2.2.2.2.2.2.1.1
  constructor
  · intro hc
    obtain ⟨r, a1, a2⟩ := h1 hc
    refine ⟨r, fun ν hi => ?_, fun ν hi => ?_⟩
    · obtain ⟨ν', k1, k2⟩ := a1 ν hi
      exact ⟨ν', k1, iC_F k2 hi, frC_F k2⟩
    · obtain ⟨ν0, e0, hi0, f0⟩ := iM_th hK hi
      exact ⟨ν0, a2 ν ν0 e0 hi0, hi0, f0, by rw [e0]; exact uD_at⟩
  · intro hc ν hi
    obtain ⟨ν0, e0, hi0, f0⟩ := iM_th hK hi
    exact ⟨ax_uD ν0 207 0 1, 0, h2 hc ν ν0 e0 hi0, iM_u0 hK hi0, frM_t f0 frM_u0, uD_at⟩
theorem ib_or0 {s : Int32} : s ||| zI 0 = s := ibt_ext (fun j j0 _ => by
  rw [ibt_or]
  exact ⟨fun q => by
    rcases q with q | q
    · exact q
    · exact absurd q (ibt_z j0), Or.inl⟩)
/-- the set of n's part -/
def gPt (G : gG) (S : gS) (n i : Int) : Prop := gcc G (gBr G S) n i
theorem pt_p {G : gG} {S : gS} {p : Int → Int} {ν : ax_M} (hp : fP G (gBr G S) p ν) {n i : Int} (n0 : 0 ≤ n) (n1 : n < 12) (i0 : 0 ≤ i) (i1 : i < 12) : p i = p n ↔ gPt G S n i := by
  rw [eq_comm]
  exact le_cc i0 (hp.2.1 n n0 n1) (hp.2.1 i i0 i1)
theorem p_rng {G : gG} {P : Int → Prop} {p : Int → Int} {ν : ax_M} (hp : fP G P p ν) {i : Int} (i0 : 0 ≤ i) (i1 : i < 12) : 0 ≤ p i ∧ p i < 12 := ⟨(hp.2.1 i i0 i1).1, by have := (hp.2.1 i i0 i1).2.1; omega⟩
theorem q_nbits {G : gG} {S : gS} {X : cX} {ν : ax_M} {p : Int → Int} (hg : hGok G) (hc : cI 29 G S X ν) (hp : fP G (gBr G S) p ν) {n : Int} (n0 : 0 ≤ n) (n1 : n < gN G) : aJ 917 [.ref 202, .int (zI (p n))] [] ν = some (some (.int (ibS (gPt G S n))), ν) := by
  have hN := hg.2.1
  have hN0 := hg.1
  have hNN := q_N hc (Or.inl rfl)
  have rn := p_rng hp n0 (show n < 12 by omega)
  have key : ∀ (m : Nat) (i : Int), 0 ≤ i → i + m = gN G → aJ 918 [.ref 202, .int (zI (p n)), .int (ibS (fun j => gPt G S n j ∧ j < i)), .int (zI i)] [] ν = some (some (.int (ibS (gPt G S n))), ν) := by
    intro m
    induction m with
    | zero =>
      intro i i0 im
      rw [jl_918, hNN, if_pos (by rw [zI_le (zR_of (by omega)) (zR_of (by omega))]; omega), jl_921, ibS_fu (Q := gPt G S n) (fun j q => by
        rcases cc_rng hg q with z | z
        · omega
        · omega)]
    | succ m ih =>
      intro i i0 im
      have ih' := ih (i + 1) (by omega) (by omega)
      have ri := p_rng hp i0 (show i < 12 by omega)
      have hq := pt_p hp n0 (show n < 12 by omega) i0 (show i < 12 by omega)
      rw [jl_918, hNN, if_neg (by rw [zI_le (zR_of (by omega)) (zR_of (by omega))]; omega), q_part hp i0 (by omega), z_b1]
      simp (disch := omega) only [zI_lit, p_eq, jl_919, jl_920, ibo_d, zI_add]
      by_cases c : p i = p n
      · rw [if_pos c, ibS_pt i0 (by omega) (hq.mp c)]
        exact ih'
      · rw [if_neg c, ib_or0, ibS_sk (fun z => c (hq.mpr z))]
        exact ih'
  have k0 := key (gN G).toNat 0 (by omega) (by omega)
  rw [← ibS_0 (fun i i0 i1 h => by omega)] at k0
  rw [jl_917]
  simp only [zI_lit]
  exact k0
def gPb (G : gG) (S : gS) (n e : Int) : Prop := gBr G S e ∧ gPt G S n (gfr G e)
theorem q_bbits {G : gG} {S : gS} {X : cX} {ν : ax_M} {p : Int → Int} (hg : hGok G) (hr : hRs G S) (hc : cI 29 G S X ν) (hp : fP G (gBr G S) p ν) {n : Int} (n0 : 0 ≤ n) (n1 : n < gN G) : aJ 922 [.ref 202, .ref 29, .int (zI (p n))] [] ν = some (some (.int (ibS (gPb G S n))), ν) := by
  have hN := hg.2.1
  have hE := hg.2.2.2.1
  have hE0 := hg.2.2.1
  have hEE := q_E hc (Or.inl rfl)
  obtain ⟨t1, t2⟩ := cI_cP (Or.inl rfl) hc
  have rn := p_rng hp n0 (show n < 12 by omega)
  have key : ∀ (m : Nat) (i : Int), 0 ≤ i → i + m = gE G → aJ 923 [.ref 202, .ref 29, .int (zI (p n)), .int (ibS (fun j => gPb G S n j ∧ j < i)), .int (zI i)] [] ν = some (some (.int (ibS (gPb G S n))), ν) := by
    intro m
    induction m with
    | zero =>
      intro i i0 im
      rw [jl_923, hEE, if_pos (by rw [zI_le (zR_of (by omega)) (zR_of (by omega))]; omega), jl_925, ibS_fu (Q := gPb G S n) (fun j q => by have := q.1.2.1; omega)]
    | succ m ih =>
      intro i i0 im
      have ih' := ih (i + 1) (by omega) (by omega)
      obtain ⟨a0, a1, c0, c1, ac⟩ := hg.2.2.2.2 i i0 (by omega)
      have ri := p_rng hp a0 (show gfr G i < 12 by omega)
      have hq := pt_p hp n0 (show n < 12 by omega) a0 (show gfr G i < 12 by omega)
      have hb := q_isb hr hc i0 (by omega) hE
      rw [jl_923, hEE, if_neg (by rw [zI_le (zR_of (by omega)) (zR_of (by omega))]; omega)]
      by_cases b : gBr G S i
      · rw [hb.1 b, z_b1, if_neg (by decide), q_942 t2 i0 (by omega), z_b1, q_part hp a0 (by omega), z_b1]
        simp (disch := omega) only [zI_lit, p_eq, jl_924, ibo_d, zI_add]
        by_cases c : p (gfr G i) = p n
        · rw [if_pos c, ibS_pt i0 (by omega) (show gPb G S n i from ⟨b, hq.mp c⟩)]
          exact ih'
        · rw [if_neg c, ibS_sk (fun z => c (hq.mpr z.2))]
          exact ih'
      · rw [hb.2 b, z_b1, if_pos (by decide), jl_924]
        simp only [zI_lit, zI_add]
        rw [ibS_sk (fun z => b z.1)]
        exact ih'
  have k0 := key (gE G).toNat 0 (by omega) (by omega)
  rw [← ibS_0 (fun i i0 i1 h => by omega)] at k0
  rw [jl_922]
  simp only [zI_lit]
  exact k0
noncomputable def gPl (G : gG) (S : gS) (n : Int) : Nat → Int := gFo (fun i b => gPt G S n i ∧ b < gnd S i 1) (fun i => gnd S i 1) 0
theorem gPl_r {G : gG} {S : gS} (hL : 0 ≤ gnL S ∧ gnL S ≤ 252) (hr : hRs G S) {n : Int} (k : Nat) : 0 ≤ gPl G S n k ∧ gPl G S n k ≤ 252 := gFo_r (C := fun i b => gPt G S n i ∧ b < gnd S i 1) (v := fun i => gnd S i 1) (b := 0) (lo := 0) (hi' := 252) (by omega) (m := k) (fun i i0 i1 => by have := hr.2.1 i; exact ⟨this.2.1.1, by have := this.2.1.2; omega⟩) k (Nat.le_refl _)
theorem q_plev {G : gG} {S : gS} {X : cX} {ν : ax_M} {p : Int → Int} (hg : hGok G) (hL : 0 ≤ gnL S ∧ gnL S ≤ 252) (hr : hRs G S) (hc : cI 29 G S X ν) (hp : fP G (gBr G S) p ν) {n : Int} (n0 : 0 ≤ n) (n1 : n < gN G) : aJ 926 [.ref 202, .ref 29, .int (zI (p n))] [] ν = some (some (.int (zI (gPl G S n (gN G).toNat))), ν) := by
  have hN := hg.2.1
  have hN0 := hg.1
  have hNN := q_N hc (Or.inl rfl)
  have rn := p_rng hp n0 (show n < 12 by omega)
  have key : ∀ (m i : Nat), (i : Int) + m = gN G → aJ 927 [.ref 202, .ref 29, .int (zI (p n)), .int (zI (gPl G S n i)), .int (zI i)] [] ν = some (some (.int (zI (gPl G S n (gN G).toNat))), ν) := by
    intro m
    induction m with
    | zero =>
      intro i im
      rw [jl_927, hNN, if_pos (by rw [zI_le (zR_of (by omega)) (zR_of (by omega))]; omega), jl_929, show i = (gN G).toNat by omega]
    | succ m ih =>
      intro i im
      have ih' := ih (i + 1) (by omega)
      have i0 : (0 : Int) ≤ (i : Int) := by omega
      have ri := p_rng hp i0 (show (i : Int) < 12 by omega)
      have hq := pt_p hp n0 (show n < 12 by omega) i0 (show (i : Int) < 12 by omega)
      have b1 := (hr.2.1 i).2.1
      have rg := gPl_r hL hr (G := G) (n := n) i
      rw [jl_927, hNN, if_neg (by rw [zI_le (zR_of (by omega)) (zR_of (by omega))]; omega), q_part hp i0 (by omega), z_b1, show (1 : Int32) = zI 1 from rfl, q_of hc (Or.inl rfl) i0 (by omega) (by omega) (by omega), z_b1]
      simp (disch := omega) only [zI_lit, p_eq, p_lt, jl_928, zI_add]
      by_cases c : p i = p n
      · rw [if_pos c]
        by_cases d : gPl G S n i < gnd S i 1
        · rw [if_pos d]
          rw [show gPl G S n (i + 1) = gnd S i 1 from gFo_p ⟨hq.mp c, d⟩] at ih'
          exact ih'
        · rw [if_neg d]
          rw [show gPl G S n (i + 1) = gPl G S n i from gFo_n (fun z => d z.2)] at ih'
          exact ih'
      · rw [if_neg c]
        rw [show gPl G S n (i + 1) = gPl G S n i from gFo_n (fun z => c (hq.mpr z.1))] at ih'
        exact ih'
  rw [jl_926]
  simp only [zI_lit]
  exact key (gN G).toNat 0 (by omega)
def gOu (G : gG) (S : gS) (n e : Int) : Prop := ¬ (gPt G S n (gfr G e) ↔ gPt G S n (gsc G e))
noncomputable def gPo (G : gG) (S : gS) (n : Int) : Nat → Int := gFo (fun e b => gOu G S n e ∧ gli G e b = true) (fun e => e) (-1)
theorem gPo_r {G : gG} {S : gS} {n : Int} (k : Nat) : -1 ≤ gPo G S n k ∧ gPo G S n k < k := by
  induction k with
  | zero => exact ⟨Int.le_refl _, by show (-1 : Int) < 0; omega⟩
  | succ k ih =>
    by_cases c : gOu G S n k ∧ gli G k (gPo G S n k) = true
    · rw [show gPo G S n (k + 1) = k from gFo_p c]
      omega
    · rw [show gPo G S n (k + 1) = gPo G S n k from gFo_n c]
      omega
theorem q_lout {G : gG} {S : gS} {X : cX} {ν : ax_M} {p : Int → Int} (hg : hGok G) (hw : hGw G) (hc : cI 29 G S X ν) (hp : fP G (gBr G S) p ν) {n : Int} (n0 : 0 ≤ n) (n1 : n < gN G) : aJ 930 [.ref 202, .ref 29, .int (zI (p n))] [] ν = some (some (.int (zI (gPo G S n (gE G).toNat))), ν) := by
  have hN := hg.2.1
  have hE := hg.2.2.2.1
  have hE0 := hg.2.2.1
  have hEE := q_E hc (Or.inl rfl)
  obtain ⟨t1, t2⟩ := cI_cP (Or.inl rfl) hc
  have rn := p_rng hp n0 (show n < 12 by omega)
  have key : ∀ (m i : Nat), (i : Int) + m = gE G → aJ 931 [.ref 202, .ref 29, .int (zI (p n)), .int (zI (gPo G S n i)), .int (zI i)] [] ν = some (some (.int (zI (gPo G S n (gE G).toNat))), ν) := by
    intro m
    induction m with
    | zero =>
      intro i im
      rw [jl_931, hEE, if_pos (by rw [zI_le (zR_of (by omega)) (zR_of (by omega))]; omega), jl_937, show i = (gE G).toNat by omega]
    | succ m ih =>
      intro i im
      have ih' := ih (i + 1) (by omega)
      have i0 : (0 : Int) ≤ (i : Int) := by omega
      have i1 : (i : Int) < gE G := by omega
      obtain ⟨a0, a1, c0, c1, ac⟩ := hg.2.2.2.2 i i0 i1
      have ra := p_rng hp a0 (show gfr G i < 12 by omega)
      have rc := p_rng hp c0 (show gsc G i < 12 by omega)
      have ha := pt_p hp n0 (show n < 12 by omega) a0 (show gfr G i < 12 by omega)
      have hcc := pt_p hp n0 (show n < 12 by omega) c0 (show gsc G i < 12 by omega)
      have rg := gPo_r (G := G) (S := S) (n := n) i
      have l935 : ∀ s t : Int, (0 ≤ s ∧ s ≤ 1) → (0 ≤ t ∧ t ≤ 1) → (s = t ↔ ¬ gOu G S n i) → aJ 935 [.ref 202, .ref 29, .int (zI (p n)), .int (zI (gPo G S n i)), .int (zI i), .int (zI s)] [.int (zI t)] ν = some (some (.int (zI (gPo G S n (gE G).toNat))), ν) := by
        intro s t hs ht hst
        rw [jl_935, q_cl hg hw hc (by omega) i1 (by omega) (by omega), z_b1]
        simp (disch := omega) only [zI_lit, p_eq, jl_936, zI_add]
        by_cases c : s = t
        · rw [if_pos c]
          rw [show gPo G S n (i + 1) = gPo G S n i from gFo_n (fun z => (hst.mp c) z.1)] at ih'
          exact ih'
        · rw [if_neg c]
          have ho : gOu G S n i := Classical.byContradiction (fun z => c (hst.mpr z))
          cases hl : gli G i (gPo G S n i) with
          | true =>
            rw [if_neg zB_t']
            rw [show gPo G S n (i + 1) = i from gFo_p ⟨ho, hl⟩] at ih'
            exact ih'
          | false =>
            rw [if_pos (by decide)]
            rw [show gPo G S n (i + 1) = gPo G S n i from gFo_n (fun z => by have hz : gli G i (gPo G S n i) = true := z.2; rw [hl] at hz; exact absurd hz (by decide))] at ih'
            exact ih'
      have l933 : ∀ s : Int, (s = 0 ∧ ¬ gPt G S n (gfr G i)) ∨ (s = 1 ∧ gPt G S n (gfr G i)) → aJ 933 [.ref 202, .ref 29, .int (zI (p n)), .int (zI (gPo G S n i)), .int (zI i)] [.int (zI s)] ν = some (some (.int (zI (gPo G S n (gE G).toNat))), ν) := by
        intro s hs
        rw [jl_933, q_943 t2 i0 (by omega), z_b1, q_part hp c0 (by omega), z_b1]
        simp (disch := omega) only [zI_lit, p_eq, jl_934]
        by_cases c : p (gsc G i) = p n
        · rw [if_pos c]
          have hcm := hcc.mp c
          refine l935 s 1 (by omega) (by omega) ?_
          unfold gOu
          rcases hs with ⟨e, h⟩ | ⟨e, h⟩
          · exact ⟨fun z => by omega, fun z => absurd ((Classical.not_not.mp z).mpr hcm) h⟩
          · exact ⟨fun _ z => z ⟨fun _ => hcm, fun _ => h⟩, fun _ => e⟩
        · rw [if_neg c]
          have hcm : ¬ gPt G S n (gsc G i) := fun z => c (hcc.mpr z)
          refine l935 s 0 (by omega) (by omega) ?_
          unfold gOu
          rcases hs with ⟨e, h⟩ | ⟨e, h⟩
          · exact ⟨fun _ z => z ⟨fun y => absurd y h, fun y => absurd y hcm⟩, fun _ => e⟩
          · exact ⟨fun z => by omega, fun z => absurd ((Classical.not_not.mp z).mp h) hcm⟩
      rw [jl_931, hEE, if_neg (by rw [zI_le (zR_of (by omega)) (zR_of (by omega))]; omega), q_942 t2 i0 (by omega), z_b1, q_part hp a0 (by omega), z_b1]
      simp (disch := omega) only [zI_lit, p_eq, jl_932]
      by_cases c : p (gfr G i) = p n
      · rw [if_pos c]
        exact l933 1 (Or.inr ⟨rfl, ha.mp c⟩)
      · rw [if_neg c]
        exact l933 0 (Or.inl ⟨rfl, fun z => c (ha.mpr z)⟩)
  rw [jl_930]
  simp only [zI_lit, zI_neg]
  exact key (gE G).toNat 0 (by omega)
