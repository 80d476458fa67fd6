/-! l: bytes -/
def bby (x : Int32) (s : Nat) : Int := ((x.toBitVec.extractLsb' s 8).toNat : Int)
theorem bby_r {x : Int32} {s : Nat} : 0 ≤ bby x s ∧ bby x s ≤ 255 := by
  unfold bby
  have := (x.toBitVec.extractLsb' s 8).isLt
  omega
theorem zI_bv {n : Nat} : (zI n).toBitVec = BitVec.ofNat 32 n := by
  show (Int32.ofInt (n : Int)).toBitVec = _
  rw [Int32.toBitVec_ofInt, BitVec.ofInt_natCast]
theorem bby_m {x : Int32} {s : Nat} (hs : s = 24 ∨ s = 16 ∨ s = 8 ∨ s = 0) : (((x.toUInt32 >>> ((zI s).toUInt32 &&& Int32.toUInt32 31)).toInt32) &&& (255 : Int32)) = zI (bby x s) := by
  apply Int32.toBitVec_inj.mp
  have e1 : ((zI s).toUInt32 &&& Int32.toUInt32 31) = UInt32.ofNat s := by
    rcases hs with rfl | rfl | rfl | rfl <;> decide
  have e2 : (bby x s) = ((x.toBitVec.extractLsb' s 8).toNat : Int) := rfl
  rw [e1, e2, zI_bv, Int32.toBitVec_and]
  have e3 : ((x.toUInt32 >>> UInt32.ofNat s).toInt32).toBitVec = x.toBitVec >>> s := by
    show (x.toUInt32 >>> UInt32.ofNat s).toBitVec = _
    rw [UInt32.toBitVec_shiftRight]
    rcases hs with rfl | rfl | rfl | rfl <;> rfl
  rw [e3]
  apply BitVec.eq_of_getLsbD_eq
  intro i hi
  have e4 : BitVec.ofNat 32 (x.toBitVec.extractLsb' s 8).toNat = (x.toBitVec.extractLsb' s 8).setWidth 32 := by
    apply BitVec.eq_of_toNat_eq
    rw [BitVec.toNat_ofNat, BitVec.toNat_setWidth]
  have e5 : ∀ i : Nat, i < 32 → ((255 : Int32).toBitVec.getLsbD i = decide (i < 8)) := by decide
  rw [e4, BitVec.getLsbD_and, BitVec.getLsbD_ushiftRight, BitVec.getLsbD_setWidth, BitVec.getLsbD_extractLsb', e5 i hi]
  by_cases c : i < 8
  · simp [c, hi]
  · simp [c]
theorem bby_c {x : Int32} {s : Nat} (hs : s = 24 ∨ s = 16 ∨ s = 8 ∨ s = 0) : ((x >>> (zI s &&& zI 31)).toInt8.toInt32) = zI (sby (bby x s)) := by
  have e0 : (x >>> (zI s &&& zI 31)).toInt8.toBitVec = x.toBitVec.extractLsb' s 8 := by
    have e1 : ((zI s &&& zI 31).toBitVec.smod 32) = BitVec.ofNat 32 s := ibs_b s (by omega)
    show (x >>> (zI s &&& zI 31)).toBitVec.signExtend 8 = _
    rw [Int32.toBitVec_shiftRight, e1, BitVec.sshiftRight_eq']
    have e2 : (BitVec.ofNat 32 s).toNat = s := by
      rw [BitVec.toNat_ofNat]
      omega
    rw [e2]
    apply BitVec.eq_of_getLsbD_eq
    intro i hi
    rw [BitVec.getLsbD_signExtend, BitVec.getLsbD_sshiftRight, BitVec.getLsbD_extractLsb']
    have h1 : s + i < 32 := by omega
    simp [hi, h1, show i < 32 by omega, show ¬ 32 ≤ i by omega]
  have e3 : (x >>> (zI s &&& zI 31)).toInt8.toInt = sby (bby x s) := by
    show (x >>> (zI s &&& zI 31)).toInt8.toBitVec.toInt = _
    rw [e0, BitVec.toInt_eq_toNat_cond]
    unfold sby bby
    split <;> split <;> omega
  apply Int32.toInt_inj.mp
  have hb := bby_r (x := x) (s := s)
  rw [Int8.toInt_toInt32, e3, zI_toInt (by unfold zR sby; split <;> omega)]
theorem vby_id : ∀ n : Nat, n < 256 → vp_nar .byte (zI (sby n)) = zI (sby n) := by decide +kernel
theorem st8_1 {μ : ax_M} {z b : Int} (h0 : 0 ≤ z) (h1 : z < 940) (b0 : 0 ≤ b) (b1 : b ≤ 255) : ax_st8 ax_sh μ 1 (zI z) (zI (sby b)) = some (ax_up μ.1 1 z.toNat (zI (sby b)), μ.2) := by
  have hz : zR z := by unfold zR; omega
  have e0 : (0 : Int32) = zI 0 := rfl
  obtain ⟨n, rfl⟩ := Int.eq_ofNat_of_zero_le b0
  unfold ax_st8
  rw [zI_nat hz, if_pos, vby_id n (by omega)]
  refine ⟨by decide, ?_⟩
  rintro (q | q)
  · rw [e0, zI_lt hz (by unfold zR; omega)] at q
    omega
  · have : (ax_sh 1).2.1 = 940 := by decide
    rw [this] at q
    omega
/-- four bytes more -/
def tEx (t : Int × (Int → Int)) (x : Int32) : Int × (Int → Int) := (t.1 + 4, fun i => if i < t.1 then t.2 i else if i = t.1 then bby x 24 else if i = t.1 + 1 then bby x 16 else if i = t.1 + 2 then bby x 8 else bby x 0)
def tOK (t : Int × (Int → Int)) : Prop := 0 ≤ t.1 ∧ t.1 ≤ 940 ∧ ∀ i, 0 ≤ i → i < t.1 → 0 ≤ t.2 i ∧ t.2 i ≤ 255
theorem tEx_ok {t : Int × (Int → Int)} {x : Int32} (h : tOK t) (h4 : t.1 + 4 ≤ 940) : tOK (tEx t x) := by
  obtain ⟨a, b, c⟩ := h
  refine ⟨by show 0 ≤ t.1 + 4; omega, h4, fun i i0 i1 => ?_⟩
  show 0 ≤ (if i < t.1 then t.2 i else if i = t.1 then bby x 24 else if i = t.1 + 1 then bby x 16 else if i = t.1 + 2 then bby x 8 else bby x 0) ∧ (if i < t.1 then t.2 i else if i = t.1 then bby x 24 else if i = t.1 + 1 then bby x 16 else if i = t.1 + 2 then bby x 8 else bby x 0) ≤ 255
  by_cases q : i < t.1
  · rw [if_pos q]
    exact c i i0 q
  rw [if_neg q]
  by_cases q1 : i = t.1
  · rw [if_pos q1]
    exact bby_r
  rw [if_neg q1]
  by_cases q2 : i = t.1 + 1
  · rw [if_pos q2]
    exact bby_r
  rw [if_neg q2]
  by_cases q3 : i = t.1 + 2
  · rw [if_pos q3]
    exact bby_r
  rw [if_neg q3]
  exact bby_r
/-- a byte is put on the class's tape -/
def cW1 (ν : ax_M) (n b : Int) : ax_M := ax_uD (ax_up ν.1 1 n.toNat (zI (sby b)), ν.2) 0 1 (zI (n + 1))
theorem cW1_e {ν : ax_M} {n : Int} {x : Int32} {s : Nat} (hs : s = 24 ∨ s = 16 ∨ s = 8 ∨ s = 0) (h : ν.1 0 1 = zI n) (n0 : 0 ≤ n) (n1 : n < 940) : aJ 805 [.ref 0, .int x, .int (zI s)] [] ν = aJ 805 [.ref 0, .int x, .int (zI ((s : Int) - 8))] [] (cW1 ν n (bby x s)) := by
  have hb := bby_r (x := x) (s := s)
  have hs2 : (0 : Int) ≤ (s : Int) ∧ (s : Int) ≤ 24 := by omega
  rw [jl_805, h]
  simp only [zI_lit, zI_neg]
  rw [bby_c hs]
  simp (disch := omega) only [p_lt, p_le, st8_1, z_bo]
  rw [if_neg (by omega), if_neg (by omega), if_neg (by omega), jl_806]
  have e1 : (ax_up ν.1 1 n.toNat (zI (sby (bby x s))) 0 1) = zI n := by
    rw [up_ne (by decide)]
    exact h
  rw [e1, zI_add]
  simp only [zI_lit, zI_neg, zI_add]
  rfl
theorem cW1_f {ν : ax_M} {n b : Int} : fr [0, 1] ν (cW1 ν n b) := frt (ν' := (ax_up ν.1 1 n.toNat (zI (sby b)), ν.2)) (fru (by simp)) (fr_uD (by simp))
theorem cW1_k {ν : ax_M} {n b : Int} {k : Nat} (h : k ≠ 1) : (cW1 ν n b).1 0 k = ν.1 0 k := by
  unfold cW1
  rw [uD_nk h]
  show ax_up ν.1 1 n.toNat (zI (sby b)) 0 k = _
  exact up_ne (by decide)
theorem cW1_1 {ν : ax_M} {n b : Int} : (cW1 ν n b).1 0 1 = zI (n + 1) := uD_at
theorem cW1_r {ν : ax_M} {n b : Int} {f g : Int → Int} (n0 : 0 ≤ n) (hr : rP ν 1 n (fun i => sby (f i))) (hg : ∀ i, 0 ≤ i → i < n → g i = f i) (hb : g n = b) : rP (cW1 ν n b) 1 (n + 1) (fun i => sby (g i)) := by
  intro i i0 i1
  unfold cW1
  rw [uD_ne (by decide)]
  show ax_up ν.1 1 n.toNat (zI (sby b)) 1 i.toNat = zI (sby (g i))
  by_cases c : i = n
  · rw [c, up_at, hb]
  · rw [up_nk (by omega), hr i i0 (by omega), hg i i0 (by omega)]
theorem q_put {ν : ax_M} {t : Int × (Int → Int)} {x : Int32} (ht : tOK t) (h4 : t.1 + 4 ≤ 940) (h : ν.1 0 1 = zI t.1) (hr : rP ν 1 t.1 (fun i => sby (t.2 i))) : ∃ ν', aJ 804 [.ref 0, .int x] [] ν = some (none, ν') ∧ ν'.1 0 1 = zI (tEx t x).1 ∧ rP ν' 1 (tEx t x).1 (fun i => sby ((tEx t x).2 i)) ∧ fr [0, 1] ν ν' ∧ ∀ k, k ≠ 1 → ν'.1 0 k = ν.1 0 k := by
  have n0 := ht.1
  have g0 : ∀ i, 0 ≤ i → i < t.1 → (tEx t x).2 i = t.2 i := fun i _ i1 => if_pos i1
  have g1 : (tEx t x).2 t.1 = bby x 24 := by
    show (if t.1 < t.1 then _ else if t.1 = t.1 then bby x 24 else _) = _
    rw [if_neg (by omega), if_pos rfl]
  have g2 : (tEx t x).2 (t.1 + 1) = bby x 16 := by
    show (if t.1 + 1 < t.1 then _ else if t.1 + 1 = t.1 then bby x 24 else if t.1 + 1 = t.1 + 1 then bby x 16 else _) = _
    rw [if_neg (by omega), if_neg (by omega), if_pos rfl]
  have g3 : (tEx t x).2 (t.1 + 1 + 1) = bby x 8 := by
    show (if t.1 + 1 + 1 < t.1 then _ else if t.1 + 1 + 1 = t.1 then bby x 24 else if t.1 + 1 + 1 = t.1 + 1 then bby x 16 else if t.1 + 1 + 1 = t.1 + 2 then bby x 8 else _) = _
    rw [if_neg (by omega), if_neg (by omega), if_neg (by omega), if_pos (by omega)]
  have g4 : (tEx t x).2 (t.1 + 1 + 1 + 1) = bby x 0 := by
    show (if t.1 + 1 + 1 + 1 < t.1 then _ else if t.1 + 1 + 1 + 1 = t.1 then bby x 24 else if t.1 + 1 + 1 + 1 = t.1 + 1 then bby x 16 else if t.1 + 1 + 1 + 1 = t.1 + 2 then bby x 8 else bby x 0) = _
    rw [if_neg (by omega), if_neg (by omega), if_neg (by omega), if_neg (by omega)]
  have r1 := cW1_r (ν := ν) (b := bby x 24) n0 hr (g := (tEx t x).2) (fun i i0 i1 => g0 i i0 i1) g1
  have r2 := cW1_r (b := bby x 16) (show 0 ≤ t.1 + 1 by omega) r1 (g := (tEx t x).2) (fun i i0 i1 => rfl) g2
  have r3 := cW1_r (b := bby x 8) (show 0 ≤ t.1 + 1 + 1 by omega) r2 (g := (tEx t x).2) (fun i i0 i1 => rfl) g3
  have r4 := cW1_r (b := bby x 0) (show 0 ≤ t.1 + 1 + 1 + 1 by omega) r3 (g := (tEx t x).2) (fun i i0 i1 => rfl) g4
  have e4 : t.1 + 1 + 1 + 1 + 1 = (tEx t x).1 := by
    show _ = t.1 + 4
    omega
  rw [e4] at r4
  refine ⟨_, ?_, ?_, r4, frt cW1_f (frt cW1_f (frt cW1_f cW1_f)), fun k hk => ((cW1_k hk).trans (cW1_k hk)).trans ((cW1_k hk).trans (cW1_k hk))⟩
  · rw [jl_804, show (24 : Int32) = zI ((24 : Nat) : Int) from rfl, cW1_e (Or.inl rfl) h n0 (by omega), show (((24 : Nat) : Int) - 8) = ((16 : Nat) : Int) from rfl, cW1_e (Or.inr (Or.inl rfl)) cW1_1 (by omega) (by omega), show (((16 : Nat) : Int) - 8) = ((8 : Nat) : Int) from rfl, cW1_e (Or.inr (Or.inr (Or.inl rfl))) cW1_1 (by omega) (by omega), show (((8 : Nat) : Int) - 8) = ((0 : Nat) : Int) from rfl, cW1_e (Or.inr (Or.inr (Or.inr rfl))) cW1_1 (by omega) (by omega), jl_805]
    simp (disch := omega) only [zI_lit, p_lt]
    rw [if_pos (by omega), jl_807]
  · rw [← e4]
    exact cW1_1
/-- a byte is put on the reference's tape -/
def mW1 (ν : ax_M) (n b : Int) : ax_M := ax_uD (ax_up ν.1 208 n.toNat (zI b), ν.2) 207 2 (zI (n + 1))
theorem mW1_e {ν : ax_M} {n : Int} {x : Int32} {s : Nat} (hs : s = 24 ∨ s = 16 ∨ s = 8 ∨ s = 0) (h : ν.1 207 2 = zI n) (n0 : 0 ≤ n) (n1 : n < 940) : aJ 6 [.ref 207, .int x, .int (zI s)] [] ν = aJ 6 [.ref 207, .int x, .int (zI ((s : Int) - 8))] [] (mW1 ν n (bby x s)) := by
  have hs2 : (0 : Int) ≤ (s : Int) ∧ (s : Int) ≤ 24 := by omega
  have st : ∀ y, ax_st ax_sh ν 208 (zI n) y = some (ax_up ν.1 208 n.toNat y, ν.2) := fun y => z_st (len := 940) (by decide) n0 (by omega) (by decide)
  rw [jl_6, h, bby_m hs, st, z_bo]
  rw [if_neg (show ¬ zI s < (0 : Int32) from fun q => by
    have := (zI_lt (b := 0) (zR_of (by omega)) (zR_of (by omega))).mp q
    omega)]
  have e1 : ((ax_up ν.1 208 n.toNat (zI (bby x s)), ν.2) : ax_M).1 207 2 = zI n := by
    show ax_up ν.1 208 n.toNat (zI (bby x s)) 207 2 = zI n
    rw [up_ne (by decide)]
    exact h
  rw [e1, show (1 : Int32) = zI 1 from rfl, show (-8 : Int32) = zI (-8) from rfl, zI_add, zI_add]
  rfl
theorem mW1_f {ν : ax_M} {n b : Int} : fr [207, 208] ν (mW1 ν n b) := frt (ν' := (ax_up ν.1 208 n.toNat (zI b), ν.2)) (fru (by simp)) (fr_uD (by simp))
theorem mW1_k {ν : ax_M} {n b : Int} {k : Nat} (h : k ≠ 2) : (mW1 ν n b).1 207 k = ν.1 207 k := by
  unfold mW1
  rw [uD_nk h]
  show ax_up ν.1 208 n.toNat (zI b) 207 k = _
  exact up_ne (by decide)
theorem mW1_1 {ν : ax_M} {n b : Int} : (mW1 ν n b).1 207 2 = zI (n + 1) := uD_at
theorem mW1_r {ν : ax_M} {n b : Int} {f g : Int → Int} (n0 : 0 ≤ n) (hr : rP ν 208 n f) (hg : ∀ i, 0 ≤ i → i < n → g i = f i) (hb : g n = b) : rP (mW1 ν n b) 208 (n + 1) g := by
  intro i i0 i1
  unfold mW1
  rw [uD_ne (by decide)]
  show ax_up ν.1 208 n.toNat (zI b) 208 i.toNat = zI (g i)
  by_cases c : i = n
  · rw [c, up_at, hb]
  · rw [up_nk (by omega), hr i i0 (by omega), hg i i0 (by omega)]
theorem tEx_g {t : Int × (Int → Int)} {x : Int32} : (∀ i, 0 ≤ i → i < t.1 → (tEx t x).2 i = t.2 i) ∧ (tEx t x).2 t.1 = bby x 24 ∧ (tEx t x).2 (t.1 + 1) = bby x 16 ∧ (tEx t x).2 (t.1 + 1 + 1) = bby x 8 ∧ (tEx t x).2 (t.1 + 1 + 1 + 1) = bby x 0 := by
  refine ⟨fun i _ i1 => if_pos i1, ?_, ?_, ?_, ?_⟩
  · show (if t.1 < t.1 then _ else if t.1 = t.1 then bby x 24 else _) = _
    rw [if_neg (by omega), if_pos rfl]
  · show (if t.1 + 1 < t.1 then _ else if t.1 + 1 = t.1 then bby x 24 else if t.1 + 1 = t.1 + 1 then bby x 16 else _) = _
    rw [if_neg (by omega), if_neg (by omega), if_pos rfl]
  · show (if t.1 + 1 + 1 < t.1 then _ else if t.1 + 1 + 1 = t.1 then bby x 24 else if t.1 + 1 + 1 = t.1 + 1 then bby x 16 else if t.1 + 1 + 1 = t.1 + 2 then bby x 8 else _) = _
    rw [if_neg (by omega), if_neg (by omega), if_neg (by omega), if_pos (by omega)]
  · show (if t.1 + 1 + 1 + 1 < t.1 then _ else if t.1 + 1 + 1 + 1 = t.1 then bby x 24 else if t.1 + 1 + 1 + 1 = t.1 + 1 then bby x 16 else if t.1 + 1 + 1 + 1 = t.1 + 2 then bby x 8 else bby x 0) = _
    rw [if_neg (by omega), if_neg (by omega), if_neg (by omega), if_neg (by omega)]
theorem q_come {ν : ax_M} {t : Int × (Int → Int)} {x : Int32} (ht : tOK t) (h4 : t.1 + 4 ≤ 940) (h : ν.1 207 2 = zI t.1) (hr : rP ν 208 t.1 t.2) : ∃ ν', aJ 5 [.ref 207, .int x] [] ν = some (none, ν') ∧ ν'.1 207 2 = zI (tEx t x).1 ∧ rP ν' 208 (tEx t x).1 (tEx t x).2 ∧ fr [207, 208] ν ν' ∧ ∀ k, k ≠ 2 → ν'.1 207 k = ν.1 207 k := by
  have n0 := ht.1
  obtain ⟨g0, g1, g2, g3, g4⟩ := tEx_g (t := t) (x := x)
  have r1 := mW1_r (ν := ν) (b := bby x 24) n0 hr (g := (tEx t x).2) (fun i i0 i1 => g0 i i0 i1) g1
  have r2 := mW1_r (b := bby x 16) (show 0 ≤ t.1 + 1 by omega) r1 (g := (tEx t x).2) (fun i i0 i1 => rfl) g2
  have r3 := mW1_r (b := bby x 8) (show 0 ≤ t.1 + 1 + 1 by omega) r2 (g := (tEx t x).2) (fun i i0 i1 => rfl) g3
  have r4 := mW1_r (b := bby x 0) (show 0 ≤ t.1 + 1 + 1 + 1 by omega) r3 (g := (tEx t x).2) (fun i i0 i1 => rfl) g4
  have e4 : t.1 + 1 + 1 + 1 + 1 = (tEx t x).1 := by
    show _ = t.1 + 4
    omega
  rw [e4] at r4
  refine ⟨_, ?_, ?_, r4, frt mW1_f (frt mW1_f (frt mW1_f mW1_f)), fun k hk => ((mW1_k hk).trans (mW1_k hk)).trans ((mW1_k hk).trans (mW1_k hk))⟩
  · rw [jl_5, show (24 : Int32) = zI ((24 : Nat) : Int) from rfl, mW1_e (Or.inl rfl) h n0 (by omega), show (((24 : Nat) : Int) - 8) = ((16 : Nat) : Int) from rfl, mW1_e (Or.inr (Or.inl rfl)) mW1_1 (by omega) (by omega), show (((16 : Nat) : Int) - 8) = ((8 : Nat) : Int) from rfl, mW1_e (Or.inr (Or.inr (Or.inl rfl))) mW1_1 (by omega) (by omega), show (((8 : Nat) : Int) - 8) = ((0 : Nat) : Int) from rfl, mW1_e (Or.inr (Or.inr (Or.inr rfl))) mW1_1 (by omega) (by omega), jl_6]
    rw [if_pos (show zI (((0 : Nat) : Int) - 8) < (0 : Int32) by decide), jl_7]
  · rw [← e4]
    exact mW1_1
theorem q_feed {G : gG} {S : gS} {U : List gU} {K : qK} (hp : pOK G S U K) (a b c d e : Int32) : qCl G S U K 651 8 [.ref 0, .int a, .int b, .int c, .int d, .int e] [.ref 207, .int a, .int b, .int c, .int d, .int e] := by
  have hK := hp.2.2.2.2.2.2.1.1
  have hT : tOK (kT K) := hp.2.2.2.2.2.2.1.2.2.1
  have hn := hT.1
  have hn2 := hT.2.1
  by_cases q : (kT K).1 + 20 ≤ 940
  · have o1 := tEx_ok (x := a) hT (by omega)
    have l1 : (tEx (kT K) a).1 = (kT K).1 + 4 := rfl
    have o2 := tEx_ok (x := b) o1 (by omega)
    have l2 : (tEx (tEx (kT K) a) b).1 = (kT K).1 + 4 + 4 := rfl
    have o3 := tEx_ok (x := c) o2 (by omega)
    have l3 : (tEx (tEx (tEx (kT K) a) b) c).1 = (kT K).1 + 4 + 4 + 4 := rfl
    have o4 := tEx_ok (x := d) o3 (by omega)
    have l4 : (tEx (tEx (tEx (tEx (kT K) a) b) c) d).1 = (kT K).1 + 4 + 4 + 4 + 4 := rfl
    have o5 := tEx_ok (x := e) o4 (by omega)
    refine ⟨zI (tEx (tEx (tEx (tEx (tEx (kT K) a) b) c) d) e).1, G, S, U, kTs K (tEx (tEx (tEx (tEx (tEx (kT K) a) b) c) d) e), pOK_T hp o5, ?_, ?_⟩
    · intro ν hi
      obtain ⟨_, _, j⟩ := id hi
      obtain ⟨_, _, j3, j4, _⟩ := j
      obtain ⟨ν1, a1, a2, a3, a4, a5⟩ := q_put (x := a) hT (by omega) j3 j4
      obtain ⟨ν2, b1, b2, b3, b4, b5⟩ := q_put (x := b) o1 (by omega) a2 a3
      obtain ⟨ν3, c1, c2, c3, c4, c5⟩ := q_put (x := c) o2 (by omega) b2 b3
      obtain ⟨ν4, d1, d2, d3, d4, d5⟩ := q_put (x := d) o3 (by omega) c2 c3
      obtain ⟨ν5, e1, e2, e3, e4, e5⟩ := q_put (x := e) o4 (by omega) d2 d3
      have hf := frt a4 (frt b4 (frt c4 (frt d4 e4)))
      refine ⟨ν5, ?_, iC_T hf (fun k hk => ((e5 k hk).trans (d5 k hk)).trans ((c5 k hk).trans ((b5 k hk).trans (a5 k hk)))) e2 e3 hi, frC_of hf (fun a ha => by simp at ha; omega)⟩
      rw [jl_651, j3, show (20 : Int32) = zI 20 from rfl, show (940 : Int32) = zI 940 from rfl, zI_add, if_pos ((zI_le (zR_of (by omega)) (zR_of (by omega))).mpr q), jl_652, a1, z_b0, b1, z_b0, c1, z_b0, d1, z_b0, e1, z_b0, e2]
    · intro ν hi
      obtain ⟨ν0, e0, hi0, f0⟩ := iM_th hK hi
      obtain ⟨_, _, j⟩ := id hi0
      obtain ⟨_, _, j3, j4, _⟩ := j
      obtain ⟨ν1, a1, a2, a3, a4, a5⟩ := q_come (x := a) hT (by omega) j3 j4
      obtain ⟨ν2, b1, b2, b3, b4, b5⟩ := q_come (x := b) o1 (by omega) a2 a3
      obtain ⟨ν3, c1, c2, c3, c4, c5⟩ := q_come (x := c) o2 (by omega) b2 b3
      obtain ⟨ν4, d1, d2, d3, d4, d5⟩ := q_come (x := d) o3 (by omega) c2 c3
      obtain ⟨ν5, e1, e2, e3, e4, e5⟩ := q_come (x := e) o4 (by omega) d2 d3
      have hf := frt a4 (frt b4 (frt c4 (frt d4 e4)))
      refine ⟨ν5, ?_, iM_T hK hf (fun k hk => ((e5 k hk).trans (d5 k hk)).trans ((c5 k hk).trans ((b5 k hk).trans (a5 k hk)))) e2 e3 hi0, frM_t f0 (frM_of hf (by simp))⟩
      rw [jl_8, ← e0, j3, show (20 : Int32) = zI 20 from rfl, show (940 : Int32) = zI 940 from rfl, zI_add, if_pos ((zI_le (zR_of (by omega)) (zR_of (by omega))).mpr q), jl_9, a1, z_b0, b1, z_b0, c1, z_b0, d1, z_b0, e1, z_b0, e2]
  · refine qCl_same hp (-1) ?_ ?_
    · intro ν hi
      obtain ⟨_, _, j⟩ := id hi
      obtain ⟨_, _, j3, j4, _⟩ := j
      rw [jl_651, j3, show (20 : Int32) = zI 20 from rfl, show (940 : Int32) = zI 940 from rfl, zI_add, if_neg (fun z => q ((zI_le (zR_of (by omega)) (zR_of (by omega))).mp z))]
    · intro ν ν0 e0 hi0
      obtain ⟨_, _, j⟩ := id hi0
      obtain ⟨_, _, j3, j4, _⟩ := j
      rw [jl_8, ← e0, j3, show (20 : Int32) = zI 20 from rfl, show (940 : Int32) = zI 940 from rfl, zI_add, if_neg (fun z => q ((zI_le (zR_of (by omega)) (zR_of (by omega))).mp z))]
