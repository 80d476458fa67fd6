/-! h: the network's steps with guards (where a step has nowhere to go, the count of letters says so); what a state is seen as -/
def hbr (S : gS) : gS := (S.1, S.2.1, S.2.2.1, gnL S + 1000, S.2.2.2.2.1, S.2.2.2.2.2)
def hsu (G : gG) (S : gS) (n : Int) : gS := if gnd S n 7 ≠ 0 ∨ gnd S n 6 ≠ -1 then S else if gnd S n 3 = -1 then hbr S else gse G (gsN S n 0 2) n (gnd S n 3) 5 (-1) (gnd S n 5) (-1)
def hte (G : gG) (S : gS) (n : Int) : gS := if glb G S n = -1 then hsu G (gsN S n 6 (-1)) n else gse G (gsN S n 6 (glb G S n)) n (glb G S n) 2 (gnd S n 1) (gnd S n 2) (-1)
def hch (G : gG) (S : gS) (n : Int) : gS := if gnd S n 4 = -1 then hbr S else if gen S (gwy G n (gnd S n 4)) = 1 then gse G S n (gnd S n 4) 6 (-1) (-1) (-1) else gsE (gse G S n (gnd S n 4) 0 (gnd S n 1) (-1) (-1)) (gwy G n (gnd S n 4)) 1
def hbs (S : gS) (n e k : Int) : gS := gsN (gsN (gsN (gsN (gsN (gsN S n 1 (glt S k 2)) n 2 (glt S k 3)) n 0 (glt S k 4)) n 3 e) n 4 (-1)) n 5 (-1)
def hbg (G : gG) (S : gS) (n e k : Int) : gS :=
  let S2 := gbgR G n e (glt S k 2) (glt S k 3) (glt S k 4) (hbs S n e k) (gE G).toNat
  if glt S k 4 = 1 then hte G S2 n else S2
def han (G : gG) (S : gS) (n e by_ : Int) : gS :=
  if by_ ≠ gnd S n 2 then gse G S n e 3 (-1) (-1) (-1)
  else if gnd S n 6 = e then hte G (grj G S n e) n else gse G (grj G S n e) n e 4 (-1) (-1) (-1)
def hhe (G : gG) (S : gS) (n e by_ : Int) : gS :=
  if e ≠ gnd S n 3 then hsu G (gbt G (gsN S n 7 (gnd S n 7 - 1)) n by_ e) n
  else if gli G (gnd S n 5) by_ = true then hch G S n
  else if gnd S n 5 = -1 ∧ by_ = -1 then gsN S n 8 1 else S
def hcl (S : gS) (n d : Int) : gS := if gnd S n 9 < d then gsN S n 9 d else S
def hhk (G : gG) (S : gS) (n e k : Int) : gS :=
  if glt S k 0 = 0 then gcn G S n e (glt S k 2)
  else if glt S k 0 = 1 then hbg G S n e k
  else if glt S k 0 = 2 then han G S n e (glt S k 3)
  else if glt S k 0 = 3 then hsu G (gbt G (gsN S n 6 (-1)) n e e) n
  else if glt S k 0 = 4 then hte G (grj G S n e) n
  else if glt S k 0 = 5 then hhe G S n e (glt S k 3)
  else hch G S n
/-- a letter is handled -/
def hha (G : gG) (S : gS) (k : Int) : gS := hhk G (hcl (gsL S k 5 2) (grc G (glt S k 1)) (glt S k 6)) (grc G (glt S k 1)) (glt S k 1 / 2) k
def hdr (G : gG) (n : Int) : Nat → gS → gS
  | 0, S => S
  | f + 1, S => if gra G S n = -1 then S else hdr G n f (hha G S (gra G S n))
/-- a way's first letter is taken: why it is deferred (0: handled), and the state behind -/
def hta (G : gG) (S : gS) (w : Int) : Int × gS :=
  let k := gfi S w
  let n := grc G w
  let S1 := if (glt S k 0 = 0 ∨ glt S k 0 = 2) ∧ gnd S n 0 = 0 then gwk G S n else S
  if gwh G S1 k ≠ 0 then (gwh G S1 k, gdef S1 k) else (0, hdr G n 256 (hha G S1 k))
/-! the graph's ways -/
def hW (G : gG) (w : Int) : Prop := 0 ≤ w ∧ w < 2 * gE G
def hed (w : Int) : Int := w / 2
def hli (G : gG) (e f : Int) : Prop := gli G e f = true
def hGok (G : gG) : Prop := 0 ≤ gN G ∧ gN G ≤ 12 ∧ 0 ≤ gE G ∧ gE G ≤ 30 ∧ ∀ e, 0 ≤ e → e < gE G → 0 ≤ gfr G e ∧ gfr G e < gN G ∧ 0 ≤ gsc G e ∧ gsc G e < gN G ∧ gfr G e ≠ gsc G e
theorem h_sdr {G : gG} (hg : hGok G) {w : Int} (hw : hW G w) : 0 ≤ gsd G w ∧ gsd G w < gN G := by
  have h := hg.2.2.2.2 (w / 2) (by have := hw.1; omega) (by have := hw.2; omega)
  unfold gsd
  split
  · exact ⟨h.1, h.2.1⟩
  · exact ⟨h.2.2.1, h.2.2.2.1⟩
theorem h_opW {G : gG} {w : Int} (hw : hW G w) : hW G (gop w) ∧ gop (gop w) = w ∧ hed (gop w) = hed w ∧ gop w ≠ w := by
  unfold hW at *
  unfold gop hed
  by_cases h : w % 2 = 0
  · simp only [if_pos h]
    rw [if_neg (by omega)]
    omega
  · simp only [if_neg h]
    rw [if_pos (by omega)]
    omega
theorem h_G {G : gG} (hg : hGok G) : pj_G (hW G) (gsd G) gop hed := by
  constructor
  · intro w hw
    have h1 := h_opW hw
    refine ⟨h1.1, h1.2.1, h1.2.2.1, ?_, ?_, h1.2.2.2, ?_⟩
    · have h := hg.2.2.2.2 (w / 2) (by have := hw.1; omega) (by have := hw.2; omega)
      have h2 : gop w / 2 = w / 2 := h1.2.2.1
      unfold gsd
      rw [h2]
      unfold gop
      by_cases h3 : w % 2 = 0
      · rw [if_pos h3, if_neg (by omega), if_pos h3]
        exact fun e => h.2.2.2.2 e.symm
      · rw [if_neg h3, if_pos (by omega), if_neg h3]
        exact h.2.2.2.2
    · have := hw.1
      unfold hed
      omega
    · have := hw.1
      omega
  · intro w v hw hv h
    unfold hed at h
    unfold gop
    have := hw.1
    split <;> omega
theorem h_wy {G : gG} (hg : hGok G) {b : Int} (hb : hW G b) : gwy G (gsd G b) (hed b) = b := by
  have h := hg.2.2.2.2 (b / 2) (by have := hb.1; omega) (by have := hb.2; omega)
  unfold gwy gsd hed
  by_cases h3 : b % 2 = 0
  · rw [if_pos h3, if_pos rfl]
    omega
  · rw [if_neg h3, if_neg h.2.2.2.2]
    omega
theorem h_inc {G : gG} {n e : Int} (h0 : 0 ≤ e) (h1 : e < gE G) (hi : gfr G e = n ∨ gsc G e = n) : hW G (gwy G n e) ∧ gsd G (gwy G n e) = n ∧ hed (gwy G n e) = e := by
  unfold gwy hW gsd hed
  by_cases h : gfr G e = n
  · simp only [if_pos h]
    rw [if_pos (by omega)]
    refine ⟨by omega, ?_, by omega⟩
    rw [show 2 * e / 2 = e by omega]
    exact h
  · simp only [if_neg h]
    rw [if_neg (by omega)]
    refine ⟨by omega, ?_, by omega⟩
    rw [show (2 * e + 1) / 2 = e by omega]
    exact hi.resolve_left h
theorem h_li {G : gG} : ∀ x y, hli G x y → x ≠ -1 ∧ ¬ hli G y x := by
  intro x y h
  unfold hli gli at *
  split at h
  · simp at h
    refine ⟨h, ?_⟩
    rw [if_pos (by omega)]
    simp
    omega
  · next h1 =>
    simp at h
    refine ⟨by omega, ?_⟩
    rw [if_neg (by omega)]
    simp
    omega
theorem h_glbR {G : gG} (hg : hGok G) (S : gS) (n : Int) : ∀ m : Nat, (m : Int) ≤ gE G → (glbR G S n m = -1 ∧ ∀ w, hW G w → gsd G w = n → hed w < m → gen S w ≠ 0) ∨ ∃ b, hW G b ∧ gsd G b = n ∧ hed b = glbR G S n m ∧ gen S b = 0 := by
  intro m
  induction m with
  | zero =>
    intro _
    left
    refine ⟨rfl, ?_⟩
    intro w hw _ h
    have := hw.1
    unfold hed at h
    omega
  | succ m ih =>
    intro hm
    unfold glbR
    by_cases hc : (gfr G m = n ∨ gsc G m = n) ∧ gen S (gwy G n m) = 0 ∧ gli G m (glbR G S n m) = true
    · rw [if_pos hc]
      right
      have h := h_inc (G := G) (n := n) (e := m) (by omega) (by omega) hc.1
      exact ⟨gwy G n m, h.1, h.2.1, h.2.2, hc.2.1⟩
    · rw [if_neg hc]
      rcases ih (by omega) with h | h
      · left
        refine ⟨h.1, ?_⟩
        intro w hw hs he
        by_cases h2 : hed w = m
        · intro h3
          apply hc
          have h4 : gwy G n m = w := by rw [← hs, ← h2]; exact h_wy hg hw
          refine ⟨?_, by rw [h4]; exact h3, ?_⟩
          · rw [← h2, ← hs]
            unfold gsd hed
            split
            · exact Or.inl rfl
            · exact Or.inr rfl
          · rw [h.1]
            unfold gli
            rw [if_pos (Or.inr rfl)]
            simp
        · exact h.2 w hw hs (by omega)
      · exact Or.inr h
theorem h_glb {G : gG} (hg : hGok G) (S : gS) (n : Int) : (glb G S n = -1 ∧ ∀ w, hW G w → gsd G w = n → gen S w ≠ 0) ∨ (glb G S n ≠ -1 ∧ ∃ b, hW G b ∧ gsd G b = n ∧ hed b = glb G S n ∧ gen S b = 0) := by
  have hE := hg.2.2.1
  rcases h_glbR hg S n (gE G).toNat (by omega) with h | h
  · left
    refine ⟨h.1, ?_⟩
    intro w hw hs
    exact h.2 w hw hs (by have := hw.2; unfold hed; omega)
  · right
    obtain ⟨b, h1, h2, h3, h4⟩ := h
    refine ⟨?_, b, h1, h2, h3, h4⟩
    have := h1.1
    unfold glb
    rw [← h3]
    unfold hed
    omega
/-! what a state is seen as -/
def hN (S : gS) (i : Int) : Int → Int := fun n => gnd S n i
def hL (S : gS) (i : Int) : Int → Int := fun k => glt S k i
theorem hN_gsN {S : gS} {n j v i : Int} : hN (gsN S n j v) i = if i = j then pu (hN S i) n v else hN S i := by
  by_cases h : i = j
  · rw [if_pos h]; funext a; simp [hN, gnd, gsN, pu, h]
  · rw [if_neg h]; funext a; simp [hN, gnd, gsN, h]
theorem hN_gsE {S : gS} {w v i : Int} : hN (gsE S w v) i = hN S i := rfl
theorem hN_gsL {S : gS} {k j v i : Int} : hN (gsL S k j v) i = hN S i := rfl
theorem hN_gsD {S : gS} {v i : Int} : hN (gsD S v) i = hN S i := rfl
theorem hN_gse {G : gG} {S : gS} {n e kd lv td st i : Int} : hN (gse G S n e kd lv td st) i = hN S i := rfl
theorem hN_hcl {S : gS} {n d i : Int} (h : i ≠ 9) : hN (hcl S n d) i = hN S i := by
  unfold hcl
  split
  · rw [hN_gsN, if_neg h]
  · rfl
theorem hE_gsN {S : gS} {n j v : Int} : gen (gsN S n j v) = gen S := rfl
theorem hE_gsE {S : gS} {w v : Int} : gen (gsE S w v) = pu (gen S) w v := rfl
theorem hE_gsL {S : gS} {k j v : Int} : gen (gsL S k j v) = gen S := rfl
theorem hE_gsD {S : gS} {v : Int} : gen (gsD S v) = gen S := rfl
theorem hE_gse {G : gG} {S : gS} {n e kd lv td st : Int} : gen (gse G S n e kd lv td st) = gen S := rfl
theorem hE_hcl {S : gS} {n d : Int} : gen (hcl S n d) = gen S := by unfold hcl; split <;> rfl
theorem hL_gsN {S : gS} {n j v i : Int} : hL (gsN S n j v) i = hL S i := rfl
theorem hL_gsE {S : gS} {w v i : Int} : hL (gsE S w v) i = hL S i := rfl
theorem hL_gsL {S : gS} {k j v i : Int} : hL (gsL S k j v) i = if i = j then pu (hL S i) k v else hL S i := by
  by_cases h : i = j
  · rw [if_pos h]; funext a; simp [hL, glt, gsL, pu, h]
  · rw [if_neg h]; funext a; simp [hL, glt, gsL, h]
theorem hL_gsD {S : gS} {v i : Int} : hL (gsD S v) i = hL S i := rfl
theorem hL_hcl {S : gS} {n d i : Int} : hL (hcl S n d) i = hL S i := by unfold hcl; split <;> rfl
theorem hL_gse0 {G : gG} {S : gS} {n e kd lv td st : Int} : hL (gse G S n e kd lv td st) 0 = pu (hL S 0) (gnL S) kd := by funext k; simp [hL, glt, gse, pu]
theorem hL_gse1 {G : gG} {S : gS} {n e kd lv td st : Int} : hL (gse G S n e kd lv td st) 1 = pu (hL S 1) (gnL S) (gwy G n e) := by funext k; simp [hL, glt, gse, pu]
theorem hL_gse2 {G : gG} {S : gS} {n e kd lv td st : Int} : hL (gse G S n e kd lv td st) 2 = pu (hL S 2) (gnL S) lv := by funext k; simp [hL, glt, gse, pu]
theorem hL_gse3 {G : gG} {S : gS} {n e kd lv td st : Int} : hL (gse G S n e kd lv td st) 3 = pu (hL S 3) (gnL S) td := by funext k; simp [hL, glt, gse, pu]
theorem hL_gse4 {G : gG} {S : gS} {n e kd lv td st : Int} : hL (gse G S n e kd lv td st) 4 = pu (hL S 4) (gnL S) st := by funext k; simp [hL, glt, gse, pu]
theorem hL_gse5 {G : gG} {S : gS} {n e kd lv td st : Int} : hL (gse G S n e kd lv td st) 5 = pu (hL S 5) (gnL S) 0 := by funext k; simp [hL, glt, gse, pu]
theorem hk_gsN {S : gS} {n j v : Int} : gnL (gsN S n j v) = gnL S := rfl
theorem hk_gsE {S : gS} {w v : Int} : gnL (gsE S w v) = gnL S := rfl
theorem hk_gsL {S : gS} {k j v : Int} : gnL (gsL S k j v) = gnL S := rfl
theorem hk_gsD {S : gS} {v : Int} : gnL (gsD S v) = gnL S := rfl
theorem hk_gse {G : gG} {S : gS} {n e kd lv td st : Int} : gnL (gse G S n e kd lv td st) = gnL S + 1 := rfl
theorem hk_hcl {S : gS} {n d : Int} : gnL (hcl S n d) = gnL S := by unfold hcl; split <;> rfl
theorem pu_self {f : Int → Int} {a v : Int} (h : f a = v) : pu f a v = f := by
  funext x
  unfold pu
  split
  · next e => rw [e, h]
  · rfl
theorem pu_pu {f : Int → Int} {a v u : Int} : pu (pu f a v) a u = pu f a u := by
  funext x
  unfold pu
  split <;> rfl
theorem pu_at {f : Int → Int} {a v : Int} : pu f a v a = v := by simp [pu]
theorem pu_ne {f : Int → Int} {a v x : Int} (h : x ≠ a) : pu f a v x = f x := by simp [pu, h]
/-- the invariant's clauses of a state with its ghosts -/
def hJ (G : gG) (S : gS) (om ps dl dn af c0 pd rp rv fw cl cw tk : Int → Int) (F : Int → Prop) (fl fc : Int) : Prop := pj_J (hW G) (gsd G) gop hed (hli G) (hN S 0) (hN S 1) (hN S 2) (hN S 3) (hN S 4) (hN S 5) (hN S 6) (hN S 7) om ps dl dn af c0 (gen S) pd rp rv fw cl cw tk (gnL S) (hL S 0) (hL S 1) (hL S 2) (hL S 3) (hL S 4) (hL S 5) F fl fc
/-- reports that are expected; the potential pays for the letters, c over -/
def hX (G : gG) (S : gS) (pd : Int → Int) : Prop := ∀ n, hN S 7 n = psm (fun w => if gsd G w = n then pd w else 0) (2 * gE G).toNat
def hP (G : gG) (S : gS) (ps dl af fw : Int → Int) (c : Int) : Prop := 0 ≤ gnL S ∧ gnL S + c ≤ psm (pfi (hN S 0) (hN S 1) ps dl af) (gN G).toNat + psm fw (2 * gE G).toNat
def hK (G : gG) (S : gS) (om ps dl dn af c0 pd rp rv fw cl cw tk : Int → Int) (F : Int → Prop) (fl fc c : Int) : Prop := hJ G S om ps dl dn af c0 pd rp rv fw cl cw tk F fl fc ∧ hX G S pd ∧ hP G S ps dl af fw c
def hNo : Int → Prop := fun _ => False
def hI (G : gG) (S : gS) (c : Int) : Prop := ∃ om ps dl dn af c0 pd rp rv fw cl cw tk fl fc, hK G S om ps dl dn af c0 pd rp rv fw cl cw tk hNo fl fc c
theorem hNo_no : ∀ v, ¬ hNo v := fun _ h => h
/-! sums under a change at one place -/
theorem h_psm {f g : Int → Int} {m : Nat} {a d : Int} (h : ∀ i : Int, i ≠ a → f i = g i) (ha : 0 ≤ a) (ha2 : a < m) (hd : f a + d ≤ g a) : psm f m + d ≤ psm g m := by
  have h1 := psm_at h ha ha2
  omega
theorem h_fw {fw : Int → Int} {b v : Int} {m : Nat} (ha : 0 ≤ b) (ha2 : b < m) (h : fw b + 1 ≤ v) : psm fw m + 1 ≤ psm (pu fw b v) m := h_psm (a := b) (fun i hi => (pu_ne hi).symm) ha ha2 (by rw [pu_at]; exact h)
theorem h_pd {sd pd : Int → Int} {b v n : Int} {m : Nat} (ha : 0 ≤ b) (ha2 : b < m) : psm (fun w => if sd w = n then pu pd b v w else 0) m = psm (fun w => if sd w = n then pd w else 0) m + (if sd b = n then v - pd b else 0) := by
  rw [psm_at (f := fun w => if sd w = n then pd w else 0) (a := b) (fun i hi => by simp only [pu_ne hi]) ha ha2]
  simp only [pu_at]
  split <;> omega
