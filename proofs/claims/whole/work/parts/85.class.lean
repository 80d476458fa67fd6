/-! x: what goes with a state in the class: counts, queues, those that wait -/
theorem pct_upd {P Q : Int → Prop} {D : ∀ i, Decidable (P i)} {D2 : ∀ i, Decidable (Q i)} {m : Nat} {a : Int} (h0 : 0 ≤ a) (h1 : a < m) (h : ∀ i, i ≠ a → (P i ↔ Q i)) : pct Q D2 m + @ite _ (P a) (D a) 1 0 = pct P D m + @ite _ (Q a) (D2 a) 1 0 := by
  induction m with
  | zero => omega
  | succ m ih =>
    simp only [pct]
    by_cases e : a = m
    · subst e
      have h2 : pct Q D2 m = pct P D m := pct_congr (fun i i0 i1 => (h i (by omega)).symm)
      omega
    · have h2 := ih (by omega)
      have h3 := h m (fun q => e q.symm)
      by_cases p : P m
      · rw [if_pos p, if_pos (h3.mp p)]
        omega
      · rw [if_neg p, if_neg (fun q => p (h3.mpr q))]
        omega
def nOn (S : gS) (w : Int) : Nat := pct (fun k => glt S k 5 = 0 ∧ glt S k 1 = w) (fun _ => inferInstance) (gnL S).toNat
def nWh (S : gS) (x : Int) : Nat := pct (fun k => glt S k 5 = x) (fun _ => inferInstance) (gnL S).toNat
def nKd (S : gS) (x : Int) : Nat := pct (fun k => glt S k 0 = x) (fun _ => inferInstance) (gnL S).toNat
def nDf (G : gG) (S : gS) (n : Int) : Nat := pct (fun k => glt S k 5 = 1 ∧ grc G (glt S k 1) = n) (fun _ => inferInstance) (gnL S).toNat
/-- on its way, on that one -/
def onW (S : gS) (w k : Int) : Prop := glt S k 5 = 0 ∧ glt S k 1 = w
def XR1 (S : gS) (X : cX) : Prop := ∀ w, 0 ≤ w → w < 60 → xoe X w = nOn S w
def XR2 (S : gS) (X : cX) : Prop := ∀ w, 0 ≤ w → w < 60 → xfo X w = gfi S w
def XR3 (S : gS) (X : cX) : Prop := ∀ w, 0 ≤ w → w < 60 → gfi S w ≠ -1 → 0 ≤ xlo X w ∧ xlo X w < gnL S ∧ onW S w (xlo X w) ∧ ∀ k, 0 ≤ k → k < gnL S → onW S w k → k ≤ xlo X w
def XR4 (S : gS) (X : cX) : Prop := ∀ k, 0 ≤ k → k < gnL S → glt S k 5 = 0 → (xaf X k = -1 ∧ ∀ j, k < j → j < gnL S → ¬ onW S (glt S k 1) j) ∨ (k < xaf X k ∧ xaf X k < gnL S ∧ onW S (glt S k 1) (xaf X k) ∧ ∀ j, k < j → j < xaf X k → ¬ onW S (glt S k 1) j)
def XR5 (S : gS) (X : cX) : Prop := (0 ≤ xwc X ∧ xwc X ≤ gnL S) ∧ (∀ i, 0 ≤ i → i < xwc X → 0 ≤ xwl X i ∧ xwl X i < gnL S ∧ glt S (xwl X i) 5 = 1) ∧ (∀ i j, 0 ≤ i → i < j → j < xwc X → glt S (xwl X i) 7 < glt S (xwl X j) 7) ∧ (∀ k, 0 ≤ k → k < gnL S → glt S k 5 = 1 → ∃ i, 0 ≤ i ∧ i < xwc X ∧ xwl X i = k)
def XR6 (S : gS) (X : cX) : Prop := ∀ x, 0 ≤ x → x < 7 → xso X x = nKd S x
def XR7 (G : gG) (S : gS) (X : cX) : Prop := ∀ n, 0 ≤ n → n < 12 → xwn X n = nDf G S n
def XR8 (S : gS) (X : cX) : Prop := xow X = nWh S 0 ∧ xwc X = nWh S 1 ∧ xhd X = nWh S 2
def XR9 (S : gS) (X : cX) : Prop := 0 ≤ xdp X ∧ (∀ k, 0 ≤ k → k < gnL S → glt S k 6 ≤ xdp X) ∧ (xdp X = 0 ∨ ∃ k, 0 ≤ k ∧ k < gnL S ∧ glt S k 6 = xdp X)
def XR (G : gG) (S : gS) (X : cX) : Prop := XR1 S X ∧ XR2 S X ∧ XR3 S X ∧ XR4 S X ∧ XR5 S X ∧ XR6 S X ∧ XR7 G S X ∧ XR8 S X ∧ XR9 S X
theorem gfiR_congr {S S' : gS} {w : Int} : ∀ m : Nat, (∀ j : Int, 0 ≤ j → j < m → (onW S' w j ↔ onW S w j)) → gfiR S' w m = gfiR S w m := by
  intro m
  induction m with
  | zero => intro _; rfl
  | succ m ih =>
    intro h
    have h1 := ih (fun j h0 h2 => h j h0 (by omega))
    have h2 := h m (by omega) (by omega)
    unfold onW at h2
    unfold gfiR
    rw [h1]
    by_cases q : gfiR S w m ≠ -1
    · rw [if_pos q, if_pos q]
    · rw [if_neg q, if_neg q]
      by_cases c : glt S m 5 = 0 ∧ glt S m 1 = w
      · rw [if_pos c, if_pos (h2.mpr c)]
      · rw [if_neg c, if_neg (fun x => c (h2.mp x))]
theorem XR_same {G : gG} {S S' : gS} {X : cX} (hL : gnL S' = gnL S) (hl : ∀ k f, glt S' k f = glt S k f) (h : XR G S X) : XR G S' X := by
  have e : glt S' = glt S := funext (fun k => funext (fun f => hl k f))
  have h1 : ∀ w, nOn S' w = nOn S w := fun w => by unfold nOn; rw [e, hL]
  have h2 : ∀ w, gfi S' w = gfi S w := by
    intro w
    unfold gfi
    rw [hL]
    exact gfiR_congr _ (fun j _ _ => by unfold onW; rw [e])
  have h3 : onW S' = onW S := by unfold onW; rw [e]
  have h4 : ∀ x, nWh S' x = nWh S x := fun x => by unfold nWh; rw [e, hL]
  have h5 : ∀ x, nKd S' x = nKd S x := fun x => by unfold nKd; rw [e, hL]
  have h6 : ∀ x, nDf G S' x = nDf G S x := fun x => by unfold nDf; rw [e, hL]
  unfold XR XR1 XR2 XR3 XR4 XR5 XR6 XR7 XR8 XR9 at *
  simp only [h1, h2, h3, h4, h5, h6, e, hL]
  exact h
theorem gfi_no {S : gS} {w : Int} (h0 : 0 ≤ gnL S) : nOn S w = 0 ↔ gfi S w = -1 := by
  constructor
  · intro h
    rcases h_gfi (S := S) (w := w) h0 with h1 | h1
    · exact h1.1
    · have h2 := pct_pos (P := fun k => glt S k 5 = 0 ∧ glt S k 1 = w) (D := fun _ => inferInstance) (m := (gnL S).toNat) h1.1 (by omega) ⟨h1.2.2.1, h1.2.2.2.1⟩
      unfold nOn at h
      omega
  · intro h
    rcases h_gfi (S := S) (w := w) h0 with h1 | h1
    · have h2 := pct_sub (P := fun _ => False) (Q := fun k => glt S k 5 = 0 ∧ glt S k 1 = w) (D := fun _ => inferInstance) (D2 := fun _ => inferInstance) (m := 0) (m' := (gnL S).toNat) (fun i i0 i1 i2 => absurd i2 (h1.2 i i0 (by omega)))
      unfold nOn
      simp only [pct] at h2
      omega
    · omega
theorem XR_send {G : gG} {S : gS} {X : cX} {n e kd lv td st : Int} (h0 : 0 ≤ gnL S) (hw : 0 ≤ gwy G n e ∧ gwy G n e < 60) (h9 : 0 ≤ gnd S n 9) (h : XR G S X) : XR G (gse G S n e kd lv td st) (cSX G S X (gwy G n e) kd (gnd S n 9 + 1)) := by
  obtain ⟨x1, x2, x3, x4, x5, x6, x7, x8, x9⟩ := h
  have eL : gnL (gse G S n e kd lv td st) = gnL S + 1 := rfl
  have eT : (gnL S + 1).toNat = (gnL S).toNat + 1 := by omega
  have eC : (((gnL S).toNat : Nat) : Int) = gnL S := by omega
  have o : ∀ j f, j < gnL S → glt (gse G S n e kd lv td st) j f = glt S j f := fun j f hj => (fr_gse (n := n)).2.2.2.1 j f hj
  have n0 : glt (gse G S n e kd lv td st) (gnL S) 0 = kd := by simp [glt, gse]
  have n1 : glt (gse G S n e kd lv td st) (gnL S) 1 = gwy G n e := by simp [glt, gse]
  have n5 : glt (gse G S n e kd lv td st) (gnL S) 5 = 0 := by simp [glt, gse]
  have n6 : glt (gse G S n e kd lv td st) (gnL S) 6 = gnd S n 9 + 1 := by simp [glt, gse]
  generalize gse G S n e kd lv td st = S' at *
  generalize gwy G n e = w at *
  have on : ∀ v j, j < gnL S → (onW S' v j ↔ onW S v j) := by
    intro v j hj
    unfold onW
    rw [o j 5 hj, o j 1 hj]
  have onN : ∀ v, onW S' v (gnL S) ↔ v = w := by
    intro v
    unfold onW
    rw [n5, n1]
    constructor
    · exact fun q => q.2.symm
    · exact fun q => ⟨rfl, q.symm⟩
  have cnt : ∀ (P P' : Int → Prop) (D : ∀ i, Decidable (P i)) (D' : ∀ i, Decidable (P' i)), (∀ j, 0 ≤ j → j < gnL S → (P' j ↔ P j)) → pct P' D' (gnL S').toNat = pct P D (gnL S).toNat + @ite _ (P' (gnL S)) (D' (gnL S)) 1 0 := by
    intro P P' D D' hP
    rw [eL, eT]
    simp only [pct]
    rw [pct_congr (D2 := D) (fun i i0 i1 => hP i i0 (by omega)), eC]
  have fi : ∀ v, gfi S' v = if gfi S v ≠ -1 then gfi S v else if v = w then gnL S else -1 := by
    intro v
    unfold gfi
    rw [eL, eT, gfiR, gfiR_congr _ (fun j _ hj => on v j (by omega))]
    by_cases q : gfiR S v (gnL S).toNat ≠ -1
    · rw [if_pos q, if_pos q]
    · rw [if_neg q, if_neg q, eC]
      have h2 := onN v
      unfold onW at h2
      by_cases c : v = w
      · rw [if_pos (h2.mpr c), if_pos c]
      · rw [if_neg (fun x => c (h2.mp x)), if_neg c]
  have hno := gfi_no (S := S) (w := w) h0
  have x1w := x1 w hw.1 hw.2
  have hq : xoe X w = 0 ↔ gfi S w = -1 := by
    rw [← hno, x1w]
    omega
  refine ⟨?_, ?_, ?_, ?_, ?_, ?_, ?_, ?_, ?_⟩
  · intro v v0 v1
    have h2 := cnt (fun k => glt S k 5 = 0 ∧ glt S k 1 = v) (fun k => glt S' k 5 = 0 ∧ glt S' k 1 = v) (fun _ => inferInstance) (fun _ => inferInstance) (fun j _ j1 => by rw [o j 5 j1, o j 1 j1])
    have h3 : nOn S' v = nOn S v + if v = w then 1 else 0 := by
      unfold nOn
      rw [h2]
      by_cases c : v = w
      · rw [if_pos c, if_pos ⟨n5, by rw [n1]; exact c.symm⟩]
      · rw [if_neg c, if_neg (fun x => c (by rw [← n1]; exact x.2.symm))]
    rw [h3]
    show pu (xoe X) w (xoe X w + 1) v = _
    unfold pu
    by_cases c : v = w
    · rw [if_pos c, if_pos c, x1w, c]
      omega
    · rw [if_neg c, if_neg c, x1 v v0 v1]
      omega
  · intro v v0 v1
    rw [fi]
    show (if xoe X w = 0 then pu (xfo X) w (gnL S) else xfo X) v = _
    by_cases q : xoe X w = 0
    · rw [if_pos q]
      unfold pu
      by_cases c : v = w
      · rw [if_pos c, c, if_neg (fun x => x (hq.mp q)), if_pos rfl]
      · rw [if_neg c, if_neg c, x2 v v0 v1]
        by_cases r : gfi S v ≠ -1
        · rw [if_pos r]
        · rw [if_neg r]
          omega
    · rw [if_neg q, x2 v v0 v1]
      by_cases r : gfi S v ≠ -1
      · rw [if_pos r]
      · rw [if_neg r]
        have hc : v ≠ w := by
          intro c
          rw [c] at r
          exact q (hq.mpr (by omega))
        rw [if_neg hc]
        omega
  · intro v v0 v1 hv
    rw [fi] at hv
    show 0 ≤ pu (xlo X) w (gnL S) v ∧ pu (xlo X) w (gnL S) v < gnL S' ∧ onW S' v (pu (xlo X) w (gnL S) v) ∧ _
    rw [eL]
    by_cases c : v = w
    · rw [c, pu_at]
      refine ⟨h0, by omega, (onN w).mpr rfl, ?_⟩
      intro k k0 k1 _
      show k ≤ pu (xlo X) w (gnL S) w
      rw [pu_at]
      omega
    · rw [if_neg c] at hv
      have hv2 : gfi S v ≠ -1 := by
        intro q
        rw [if_neg (fun x => x q)] at hv
        exact hv rfl
      obtain ⟨y1, y2, y3, y4⟩ := x3 v v0 v1 hv2
      rw [pu_ne c]
      refine ⟨y1, by omega, (on v _ y2).mpr y3, ?_⟩
      intro k k0 k1 k2
      show k ≤ pu (xlo X) w (gnL S) v
      rw [pu_ne c]
      by_cases r : k < gnL S
      · exact y4 k k0 r ((on v k r).mp k2)
      · have : k = gnL S := by omega
        rw [this] at k2
        exact absurd ((onN v).mp k2) c
  · intro k k0 k1 k5
    rw [eL] at k1 ⊢
    show (pu (if xoe X w = 0 then xaf X else pu (xaf X) (xlo X w) (gnL S)) (gnL S) (-1) k = -1 ∧ _) ∨ (k < pu (if xoe X w = 0 then xaf X else pu (xaf X) (xlo X w) (gnL S)) (gnL S) (-1) k ∧ pu (if xoe X w = 0 then xaf X else pu (xaf X) (xlo X w) (gnL S)) (gnL S) (-1) k < gnL S + 1 ∧ onW S' (glt S' k 1) (pu (if xoe X w = 0 then xaf X else pu (xaf X) (xlo X w) (gnL S)) (gnL S) (-1) k) ∧ ∀ j, k < j → j < pu (if xoe X w = 0 then xaf X else pu (xaf X) (xlo X w) (gnL S)) (gnL S) (-1) k → ¬ onW S' (glt S' k 1) j)
    by_cases r : k < gnL S
    · rw [pu_ne (show k ≠ gnL S by omega)]
      rw [o k 5 r] at k5
      rw [o k 1 r]
      have y := x4 k k0 r k5
      by_cases c : glt S k 1 = w
      · -- on the way that the letter goes
        have hgf : gfi S w ≠ -1 := by
          rcases h_gfi (S := S) (w := w) h0 with z | z
          · exact absurd ⟨k5, c⟩ (z.2 k k0 r)
          · omega
        have hoe : ¬ xoe X w = 0 := fun q => hgf (hq.mp q)
        rw [if_neg hoe]
        obtain ⟨z1, z2, z3, z4⟩ := x3 w hw.1 hw.2 hgf
        have hk := z4 k k0 r ⟨k5, c⟩
        by_cases d : k = xlo X w
        · right
          rw [d, pu_at, ← d, c]
          refine ⟨by omega, by omega, (onN w).mpr rfl, ?_⟩
          intro j j0 j1 j2
          have := z4 j (by omega) j1 ((on w j j1).mp j2)
          omega
        · rw [pu_ne d]
          rcases y with y | y
          · exfalso
            exact y.2 (xlo X w) (by omega) z2 (by rw [c]; exact z3)
          · right
            refine ⟨y.1, by omega, (on _ _ y.2.1).mpr y.2.2.1, ?_⟩
            intro j j0 j1 j2
            exact y.2.2.2 j j0 j1 ((on _ j (by omega)).mp j2)
      · have hsame : (if xoe X w = 0 then xaf X else pu (xaf X) (xlo X w) (gnL S)) k = xaf X k := by
          by_cases q : xoe X w = 0
          · rw [if_pos q]
          · rw [if_neg q]
            refine pu_ne ?_
            intro d
            obtain ⟨z1, z2, z3, z4⟩ := x3 w hw.1 hw.2 (fun z => q (hq.mpr z))
            rw [← d] at z3
            exact c z3.2
        rw [hsame]
        rcases y with y | y
        · left
          refine ⟨y.1, ?_⟩
          intro j j0 j1 j2
          by_cases s : j < gnL S
          · exact y.2 j j0 s ((on _ j s).mp j2)
          · have : j = gnL S := by omega
            rw [this] at j2
            exact c ((onN _).mp j2)
        · right
          refine ⟨y.1, by omega, (on _ _ y.2.1).mpr y.2.2.1, ?_⟩
          intro j j0 j1 j2
          exact y.2.2.2 j j0 j1 ((on _ j (by omega)).mp j2)
    · have hk : k = gnL S := by omega
      left
      rw [hk, pu_at]
      exact ⟨rfl, fun j j0 j1 _ => by omega⟩
  · obtain ⟨y0, y1, y2, y3⟩ := x5
    refine ⟨⟨y0.1, ?_⟩, ?_, ?_, ?_⟩
    · show xwc X ≤ gnL S'
      omega
    · intro i i0 i1
      obtain ⟨z1, z2, z3⟩ := y1 i i0 i1
      show 0 ≤ xwl X i ∧ xwl X i < gnL S' ∧ glt S' (xwl X i) 5 = 1
      rw [o _ 5 z2]
      exact ⟨z1, by omega, z3⟩
    · intro i j i0 i1 i2
      have i2' : j < xwc X := i2
      show glt S' (xwl X i) 7 < glt S' (xwl X j) 7
      rw [o _ 7 (y1 i i0 (by omega)).2.1, o _ 7 (y1 j (by omega) i2').2.1]
      exact y2 i j i0 i1 i2'
    · intro k k0 k1 k5
      by_cases r : k < gnL S
      · rw [o k 5 r] at k5
        exact y3 k k0 r k5
      · have : k = gnL S := by omega
        rw [this, n5] at k5
        omega
  · intro x h2 h3
    have h4 := cnt (fun k => glt S k 0 = x) (fun k => glt S' k 0 = x) (fun _ => inferInstance) (fun _ => inferInstance) (fun j _ j1 => by rw [o j 0 j1])
    show pu (xso X) kd (xso X kd + 1) x = _
    have h5 : nKd S' x = nKd S x + if x = kd then 1 else 0 := by
      unfold nKd
      rw [h4, n0]
      by_cases c : x = kd
      · rw [if_pos c, if_pos c.symm]
      · rw [if_neg c, if_neg (fun q => c q.symm)]
    rw [h5]
    unfold pu
    by_cases c : x = kd
    · rw [if_pos c, if_pos c, ← c, x6 x h2 h3]
      omega
    · rw [if_neg c, if_neg c, x6 x h2 h3]
      omega
  · intro m m0 m1
    have h4 := cnt (fun k => glt S k 5 = 1 ∧ grc G (glt S k 1) = m) (fun k => glt S' k 5 = 1 ∧ grc G (glt S' k 1) = m) (fun _ => inferInstance) (fun _ => inferInstance) (fun j _ j1 => by rw [o j 5 j1, o j 1 j1])
    show xwn X m = _
    have h5 : nDf G S' m = nDf G S m := by
      unfold nDf
      rw [h4, if_neg (by rw [n5]; omega)]
      rfl
    rw [h5, x7 m m0 m1]
  · obtain ⟨y1, y2, y3⟩ := x8
    have h4 : ∀ x, nWh S' x = nWh S x + if x = 0 then 1 else 0 := by
      intro x
      have h4 := cnt (fun k => glt S k 5 = x) (fun k => glt S' k 5 = x) (fun _ => inferInstance) (fun _ => inferInstance) (fun j _ j1 => by rw [o j 5 j1])
      unfold nWh
      rw [h4, n5]
      by_cases c : x = 0
      · rw [if_pos c, if_pos c.symm]
      · rw [if_neg c, if_neg (fun q => c q.symm)]
    refine ⟨?_, ?_, ?_⟩
    · show xow X + 1 = _
      rw [h4, if_pos rfl, y1]
      omega
    · show xwc X = _
      rw [h4, if_neg (by decide), y2]
      rfl
    · show xhd X = _
      rw [h4, if_neg (by decide), y3]
      rfl
  · obtain ⟨y0, y1, y2⟩ := x9
    show 0 ≤ (if xdp X < gnd S n 9 + 1 then gnd S n 9 + 1 else xdp X) ∧ (∀ k, 0 ≤ k → k < gnL S' → glt S' k 6 ≤ (if xdp X < gnd S n 9 + 1 then gnd S n 9 + 1 else xdp X)) ∧ ((if xdp X < gnd S n 9 + 1 then gnd S n 9 + 1 else xdp X) = 0 ∨ ∃ k, 0 ≤ k ∧ k < gnL S' ∧ glt S' k 6 = (if xdp X < gnd S n 9 + 1 then gnd S n 9 + 1 else xdp X))
    refine ⟨by split <;> omega, ?_, ?_⟩
    · intro k k0 k1
      by_cases r : k < gnL S
      · rw [o k 6 r]
        have := y1 k k0 r
        split <;> omega
      · have : k = gnL S := by omega
        rw [this, n6]
        split <;> omega
    · right
      by_cases r : xdp X < gnd S n 9 + 1
      · rw [if_pos r]
        exact ⟨gnL S, h0, by omega, n6⟩
      · rw [if_neg r]
        rcases y2 with y2 | ⟨k, k0, k1, k2⟩
        · omega
        · exact ⟨k, k0, by omega, by rw [o k 6 k1]; exact k2⟩
