/-! l: levels of letters -/
def hLW (S : gS) : Prop := (∀ n, gnd S n 1 ≤ 31) ∧ ∀ k, glt S k 2 ≤ 31
theorem lw_gsN {S : gS} {n i v : Int} (h : hLW S) (hv : i = 1 → v ≤ 31) : hLW (gsN S n i v) := by
  refine ⟨fun m => ?_, h.2⟩
  have e : gnd (gsN S n i v) m 1 = if m = n ∧ (1 : Int) = i then v else gnd S m 1 := rfl
  rw [e]
  split
  · next q => exact hv q.2.symm
  · exact h.1 m
theorem lw_gsE {S : gS} {w v : Int} (h : hLW S) : hLW (gsE S w v) := ⟨h.1, h.2⟩
theorem lw_gse {G : gG} {S : gS} {n e kd lv td st : Int} (h : hLW S) (hl : lv ≤ 31) : hLW (gse G S n e kd lv td st) := by
  refine ⟨h.1, fun k => ?_⟩
  have e2 : glt (gse G S n e kd lv td st) k 2 = pu (hL S 2) (gnL S) lv k := congrFun (hL_gse2 (G := G) (S := S) (n := n) (e := e) (kd := kd) (lv := lv) (td := td) (st := st)) k
  rw [e2]
  unfold pu
  split
  · exact hl
  · exact h.2 k
theorem lw_hbr {S : gS} (h : hLW S) : hLW (hbr S) := ⟨h.1, h.2⟩
theorem lw_hsu {G : gG} {S : gS} {n : Int} (h : hLW S) : hLW (hsu G S n) := by
  unfold hsu
  split
  · exact h
  · split
    · exact lw_hbr h
    · exact lw_gse (lw_gsN h (fun q => by omega)) (by omega)
theorem lw_hte {G : gG} {S : gS} {n : Int} (h : hLW S) : hLW (hte G S n) := by
  unfold hte
  split
  · exact lw_hsu (lw_gsN h (fun q => by omega))
  · exact lw_gse (lw_gsN h (fun q => by omega)) (h.1 n)
theorem lw_hch {G : gG} {S : gS} {n : Int} (h : hLW S) : hLW (hch G S n) := by
  unfold hch
  split
  · exact lw_hbr h
  · split
    · exact lw_gse h (by omega)
    · exact lw_gsE (lw_gse h (h.1 n))
theorem lw_grj {G : gG} {S : gS} {n e : Int} (h : hLW S) : hLW (grj G S n e) := by
  unfold grj
  split
  · exact lw_gsE h
  · exact h
theorem lw_gbt {G : gG} {S : gS} {n x y : Int} (h : hLW S) : hLW (gbt G S n x y) := by
  unfold gbt
  split
  · exact lw_gsN (lw_gsN h (fun q => by omega)) (fun q => by omega)
  · exact h
theorem lw_gcn {G : gG} {S : gS} {n e lv : Int} (h : hLW S) (hn : gnd S n 1 ≤ 30) : hLW (gcn G S n e lv) := by
  unfold gcn
  split
  · exact lw_gse h (by omega)
  · simp only
    have h1 : hLW (gse G (gsE S (gwy G n e) 1) n e 1 (gnd S n 1) (gnd S n 2) (gnd S n 0)) := lw_gse (lw_gsE h) (h.1 n)
    split
    · exact lw_gsN h1 (fun q => by omega)
    · exact h1
theorem lw_gbgR {G : gG} {n e lv td st : Int} {S : gS} (h : hLW S) (hl : lv ≤ 31) : ∀ m : Nat, hLW (gbgR G n e lv td st S m) := by
  intro m
  induction m with
  | zero => exact h
  | succ m ih =>
    unfold gbgR
    simp only
    split
    · exact ih
    · split
      · exact lw_gsN (lw_gse ih hl) (fun q => by omega)
      · exact lw_gse ih hl
theorem lw_hbg {G : gG} {S : gS} {n e k : Int} (h : hLW S) : hLW (hbg G S n e k) := by
  have hb : hLW (hbs S n e k) := by
    unfold hbs
    exact lw_gsN (lw_gsN (lw_gsN (lw_gsN (lw_gsN (lw_gsN h (fun _ => h.2 k)) (fun q => by omega)) (fun q => by omega)) (fun q => by omega)) (fun q => by omega)) (fun q => by omega)
  have h1 := lw_gbgR (G := G) (n := n) (e := e) (lv := glt S k 2) (td := glt S k 3) (st := glt S k 4) hb (h.2 k) (gE G).toNat
  unfold hbg
  simp only
  split
  · exact lw_hte h1
  · exact h1
theorem lw_hhk {G : gG} {S : gS} {n e k : Int} (h : hLW S) (hn : gnd S n 1 ≤ 30) : hLW (hhk G S n e k) := by
  unfold hhk
  split
  · exact lw_gcn h hn
  split
  · exact lw_hbg h
  split
  · unfold han
    split
    · exact lw_gse h (by omega)
    · split
      · exact lw_hte (lw_grj h)
      · exact lw_gse (lw_grj h) (by omega)
  split
  · exact lw_hsu (lw_gbt (lw_gsN h (fun q => by omega)))
  split
  · exact lw_hte (lw_grj h)
  split
  · unfold hhe
    split
    · exact lw_hsu (lw_gbt (lw_gsN h (fun q => by omega)))
    · split
      · exact lw_hch h
      · split
        · exact lw_gsN h (fun q => by omega)
        · exact h
  · exact lw_hch h
theorem lw_gsL {S : gS} {k f v : Int} (h : hLW S) (hf : f ≠ 2) : hLW (gsL S k f v) := by
  refine ⟨h.1, fun j => ?_⟩
  have e2 : glt (gsL S k f v) j 2 = glt S j 2 := by
    simp [glt, gsL, Ne.symm hf]
  rw [e2]
  exact h.2 j
theorem lw_hha {G : gG} {S : gS} {k : Int} (h : hLW S) (hn : ∀ n, gnd S n 1 ≤ 30) : hLW (hha G S k) := by
  have h1 : hLW (hcl (gsL S k 5 2) (grc G (glt S k 1)) (glt S k 6)) := by
    unfold hcl
    split
    · exact lw_gsN (lw_gsL h (by decide)) (fun q => by omega)
    · exact lw_gsL h (by decide)
  have h2 : gnd (hcl (gsL S k 5 2) (grc G (glt S k 1)) (glt S k 6)) (grc G (glt S k 1)) 1 ≤ 30 := by
    unfold hcl
    split
    · show (if grc G (glt S k 1) = grc G (glt S k 1) ∧ (1 : Int) = 9 then glt S k 6 else gnd (gsL S k 5 2) (grc G (glt S k 1)) 1) ≤ 30
      rw [if_neg (fun q => by omega)]
      exact hn _
    · exact hn _
  unfold hha
  exact lw_hhk h1 h2
theorem lw_gwk {G : gG} {S : gS} {n : Int} (h : hLW S) : hLW (gwk G S n) := by
  unfold gwk
  simp only
  split
  · exact lw_gsN (lw_gsN h (fun q => by omega)) (fun q => by omega)
  · exact lw_gse (lw_gsE (lw_gsN h (fun q => by omega))) (by omega)
theorem lw_gdef {S : gS} {k : Int} (h : hLW S) : hLW (gdef S k) := by
  refine ⟨h.1, fun j => ?_⟩
  have e2 : glt (gdef S k) j 2 = glt S j 2 := by
    simp [gdef, glt, gsL, gsD]
  rw [e2]
  exact h.2 j
theorem lw_gas : hLW gas := ⟨fun n => by show (0 : Int) ≤ 31; omega, fun k => by show (0 : Int) ≤ 31; omega⟩
