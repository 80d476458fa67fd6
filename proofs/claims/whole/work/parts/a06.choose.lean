/-! k: the class chooses by the RULE -/
/-- what changes: the ways that are left, their grades -/
def chL : List Nat := [13, 19, 20]
theorem fr13 {l : List Nat} {ν ν' : ax_M} (h : fr l ν ν') (hl : 13 ∉ l) (k : Nat) : ν'.1 13 k = ν.1 13 k := fr_at h hl k
theorem q_ch0 {o : Nat} (h : cO o) {G : gG} {S : gS} {X : cX} {R : gR} (hg : hGok G) (hv : hV G S) (hx : XR G S X) : ∀ (m : Nat) (w n : Int) (f : Int → Int) (ν : ax_M), 0 ≤ w → w + m = 2 * gE G → cI o G S X ν → kP 13 R ν → ν.1 13 8 = zI n → rP ν 19 n f → gEn (fun v => gLf G S R 0 v ∧ v < w) n f → n ≤ w → ∃ ν' n' f', aJ 1087 [.ref 13, .ref o, .int (zI w)] [] ν = aJ 1089 [.ref 13, .ref o] [] ν' ∧ cI o G S X ν' ∧ kP 13 R ν' ∧ ν'.1 13 8 = zI n' ∧ rP ν' 19 n' f' ∧ gEn (gLf G S R 0) n' f' ∧ fr chL ν ν' ∧ (∀ k, k ≠ 8 → ν'.1 13 k = ν.1 13 k) := by
  have hE := hg.2.2.2.1
  have hcn := h_cnt hg hv.1 (by omega)
  intro m
  induction m with
  | zero =>
    intro w n f ν w0 w1 hν hk h8 h19 hen hnw
    refine ⟨ν, n, f, ?_, hν, hk, h8, h19, en_congr hen (fun v => ⟨fun q => ⟨q, by have := q.2.1; omega⟩, fun q => q.1⟩), frz, fun _ _ => rfl⟩
    rw [jl_1087 _ _ _ h]
    simp (disch := omega) only [q_wcnt hν h, z_b1, p_le]
    rw [if_pos (by omega)]
  | succ m ih =>
    intro w n f ν w0 w1 hν hk h8 h19 hen hnw
    have hn0 := hen.1
    have h1 := hx.1 w (by omega) (by omega)
    have h2 := gfi_no (S := S) (w := w) hcn.1
    have h3 := nOn_le (S := S) (w := w)
    by_cases q : gfi S w = -1
    · have h4 := h2.mpr q
      obtain ⟨ν', n', f', e1, e2, e3, e4, e5, e6, e7, e8'⟩ := ih (w + 1) n f ν (by omega) (by omega) hν hk h8 h19 (en_congr hen (fun v => by
        constructor
        · intro z
          refine ⟨z.1, ?_⟩
          by_cases c : v = w
          · rw [c] at z
            exact absurd q z.1.2.2
          · have := z.2
            omega
        · exact fun z => ⟨z.1, by have := z.2; omega⟩)) (by omega)
      refine ⟨ν', n', f', ?_, e2, e3, e4, e5, e6, e7, e8'⟩
      rw [jl_1087 _ _ _ h]
      simp (disch := omega) only [q_wcnt hν h, z_b1, p_le, q_oe hν h]
      rw [if_neg (by omega), h1, j_le rfl zl0 (zR_of (by omega)) (zR_of (by omega)), if_pos (by omega), jl_1088, show zI w + 1 = zI (w + 1) from zI_a1 w]
      exact e1
    · have h4 : ¬ nOn S w = 0 := fun z => q (h2.mp z)
      have f0 : fr [19] ν (ax_up ν.1 19 n.toNat (zI w), ν.2) := fru (by decide)
      have f1 : fr chL ν (ax_up ν.1 19 n.toNat (zI w), ν.2) := fru (by decide)
      have f2 : fr chL (ax_up ν.1 19 n.toNat (zI w), ν.2) (ax_uD (ax_up ν.1 19 n.toNat (zI w), ν.2) 13 8 (zI (n + 1))) := fr_uD (by decide)
      have f3 := frt f1 f2
      have hll : ∀ a, a ∈ chL → a ≠ 3 ∧ a ≠ 6 ∧ (a < o ∨ o + 10 < a ∨ a = o + 8) := by
        intro a ha
        simp [chL] at ha
        rcases h with rfl | rfl <;> omega
      have e8 : (ax_up ν.1 19 n.toNat (zI w), ν.2).1 13 8 + (1 : Int32) = zI (n + 1) := by
        show ax_up ν.1 19 n.toNat (zI w) 13 8 + (1 : Int32) = _
        rw [up_ne (by decide), h8]
        exact zI_a1 n
      have k8 : (ax_uD (ax_up ν.1 19 n.toNat (zI w), ν.2) 13 8 (zI (n + 1))).1 13 0 = ν.1 13 0 := by
        rw [uD_nk (by decide)]
        exact fr_at f0 (by decide) 0
      have h19' : rP (ax_uD (ax_up ν.1 19 n.toNat (zI w), ν.2) 13 8 (zI (n + 1))) 19 (n + 1) (pu f n w) := rP_ne (rP_push h19 hn0) (by decide)
      have hk2 : kP 13 R (ax_uD (ax_up ν.1 19 n.toNat (zI w), ν.2) 13 8 (zI (n + 1))) := kP_fr f3 k8 (by intro a ha; simp [chL] at ha; omega) hk
      obtain ⟨ν', n', f', e1, e2, e3, e4, e5, e6, e7, e8'⟩ := ih (w + 1) (n + 1) (pu f n w) _ (by omega) (by omega) (cI_fr h f3 hll hν) hk2 uD_at h19' (en_push hen (fun v => by
        constructor
        · intro z
          by_cases c : v = w
          · exact Or.inr c
          · exact Or.inl ⟨z.1, by have := z.2; omega⟩
        · rintro (z | z)
          · exact ⟨z.1, by have := z.2; omega⟩
          · rw [z]
            exact ⟨⟨w0, by omega, q⟩, by omega⟩) (fun v z => z.2)) (by omega)
      refine ⟨ν', n', f', ?_, e2, e3, e4, e5, e6, frt f3 e7, fun k q => (e8' k q).trans ((uD_nk q 13).trans (fr_at f0 (by decide) k))⟩
      rw [jl_1087 _ _ _ h]
      simp (disch := omega) only [q_wcnt hν h, z_b1, p_le, q_oe hν h]
      rw [if_neg (by omega), h1, j_le rfl zl0 (zR_of (by omega)) (zR_of (by omega)), if_neg (by omega), h8, pt_19 (by omega) (by omega), z_b0, e8, jl_1088, show zI w + 1 = zI (w + 1) from zI_a1 w]
      exact e1
/-- the grades of all that are left -/
theorem q_ch1 {o : Nat} (h : cO o) {G : gG} {S : gS} {X : cX} {R : gR} {i n : Int} {f : Int → Int} (hg : hGok G) (hw : hGw G) (hv : hV G S) (hx : XR G S X) (hR : rok R) (i0 : 0 ≤ i) (i1 : i < rLn R) (hn : n ≤ 60) (hf : ∀ j, 0 ≤ j → j < n → 0 ≤ f j ∧ f j < 2 * gE G ∧ gfi S (f j) ≠ -1) : ∀ (m : Nat) (j : Int) (ν : ax_M), 0 ≤ j → j + m = n → cI o G S X ν → kP 13 R ν → ν.1 13 8 = zI n → rP ν 19 n f → rP ν 20 j (fun x => ggr G S R i (f x)) → ∃ ν', aJ 1091 [.ref 13, .ref o, .int (zI i), .int (zI j)] [] ν = aJ 1092 [.ref 13, .ref o, .int (zI i)] [] ν' ∧ cI o G S X ν' ∧ kP 13 R ν' ∧ ν'.1 13 8 = zI n ∧ rP ν' 19 n f ∧ rP ν' 20 n (fun x => ggr G S R i (f x)) ∧ fr [20] ν ν' := by
  have hE := hg.2.2.2.1
  intro m
  induction m with
  | zero =>
    intro j ν j0 j1 hν hk h8 h19 h20
    refine ⟨ν, ?_, hν, hk, h8, h19, by rw [show n = j by omega]; exact h20, frz⟩
    rw [jl_1091, h8]
    simp (disch := omega) only [p_le]
    rw [if_pos (by omega)]
  | succ m ih =>
    intro j ν j0 j1 hν hk h8 h19 h20
    obtain ⟨w0, w1, w2⟩ := hf j j0 (by omega)
    have hgr := (q_gr h hg hw hv hx hR hν hk i0 i1 w0 w1 w2).1
    have f1 : fr [20] ν (ax_up ν.1 20 j.toNat (zI (ggr G S R i (f j))), ν.2) := fru (by decide)
    have hll : ∀ a, a ∈ [20] → a ≠ 3 ∧ a ≠ 6 ∧ (a < o ∨ o + 10 < a ∨ a = o + 8) := by
      intro a ha
      simp at ha
      rcases h with rfl | rfl <;> omega
    have hp := rP_push (v := ggr G S R i (f j)) h20 j0
    rw [pu_self (f := fun x => ggr G S R i (f x)) rfl] at hp
    obtain ⟨ν', e1, e2, e3, e4, e5, e6, e7⟩ := ih (j + 1) _ (by omega) (by omega) (cI_fr h f1 hll hν) (kP_fr f1 (fr_at f1 (by decide) 0) (by intro a ha; simp at ha; omega) hk) ((fr_at f1 (by decide) 8).trans h8) (fr_rP f1 (by decide) h19) hp
    refine ⟨ν', ?_, e2, e3, e4, e5, e6, frt f1 e7⟩
    rw [jl_1091, h8]
    simp (disch := omega) only [p_le, at_19, rP_at h19, z_b1, hgr, pt_20, z_b0]
    rw [if_neg (by omega), show zI j + 1 = zI (j + 1) from zI_a1 j]
    exact e1
/-- those of the least grade stay -/
theorem q_kb {n : Int} {f g : Int → Int} {ν : ax_M} (n1 : 1 ≤ n) (n2 : n ≤ 60) (hgr : ∀ j, 0 ≤ j → j < n → -100000 ≤ g j ∧ g j ≤ 100000) (hfr : ∀ j, 0 ≤ j → j < n → 0 ≤ f j ∧ f j ≤ 60) (h8 : ν.1 13 8 = zI n) (h19 : rP ν 19 n f) (h20 : rP ν 20 n g) {P : Int → Prop} (hen : gEn P n f) {d : Int → Int} (hd : ∀ j, 0 ≤ j → j < n → g j = d (f j)) : ∃ ν' n' f', aJ 1096 [.ref 13] [] ν = some (none, ν') ∧ ν'.1 13 8 = zI n' ∧ (∀ k, k ≠ 8 → ν'.1 13 k = ν.1 13 k) ∧ rP ν' 19 n' f' ∧ gEn (fun w => P w ∧ ∀ v, P v → d w ≤ d v) n' f' ∧ fr [13, 19] ν ν' := by
  have least : ∀ (m : Nat) (j b : Int), 1 ≤ j → j + m = n → (∃ x, 0 ≤ x ∧ x < j ∧ g x = b) → (∀ x, 0 ≤ x → x < j → b ≤ g x) → ∃ b', aJ 1097 [.ref 13, .int (zI b), .int (zI j)] [] ν = aJ 1098 [.ref 13, .int (zI b')] [] ν ∧ (∃ x, 0 ≤ x ∧ x < n ∧ g x = b') ∧ (∀ x, 0 ≤ x → x < n → b' ≤ g x) := by
    intro m
    induction m with
    | zero =>
      intro j b j0 j1 hx hb
      refine ⟨b, ?_, by rw [show n = j by omega]; exact hx, by rw [show n = j by omega]; exact hb⟩
      rw [jl_1097, h8]
      simp (disch := omega) only [p_le]
      rw [if_pos (by omega)]
    | succ m ih =>
      intro j b j0 j1 hx hb
      have hbr : -100000 ≤ b ∧ b ≤ 100000 := by
        obtain ⟨x, x0, x1, x2⟩ := hx
        have := hgr x x0 (by omega)
        omega
      have hgj := hgr j (by omega) (by omega)
      by_cases q : g j < b
      · obtain ⟨b', e1, e2, e3⟩ := ih (j + 1) (g j) (by omega) (by omega) ⟨j, by omega, by omega, rfl⟩ (fun x x0 x1 => by
          by_cases c : x = j
          · rw [c]; exact Int.le_refl _
          · have := hb x x0 (by omega)
            omega)
        refine ⟨b', ?_, e2, e3⟩
        rw [jl_1097, h8]
        simp (disch := omega) only [p_le, at_20, rP_at h20, z_b1, p_lt]
        rw [if_neg (by omega), if_pos q, show zI j + 1 = zI (j + 1) from zI_a1 j]
        exact e1
      · obtain ⟨b', e1, e2, e3⟩ := ih (j + 1) b (by omega) (by omega) (by obtain ⟨x, x0, x1, x2⟩ := hx; exact ⟨x, x0, by omega, x2⟩) (fun x x0 x1 => by
          by_cases c : x = j
          · rw [c]; omega
          · exact hb x x0 (by omega))
        refine ⟨b', ?_, e2, e3⟩
        rw [jl_1097, h8]
        simp (disch := omega) only [p_le, at_20, rP_at h20, z_b1, p_lt]
        rw [if_neg (by omega), if_neg q, show zI j + 1 = zI (j + 1) from zI_a1 j]
        exact e1
  obtain ⟨b, b1, b2, b3⟩ := least (n - 1).toNat 1 (g 0) (by omega) (by omega) ⟨0, by omega, by omega, rfl⟩ (fun x x0 x1 => by rw [show x = 0 by omega]; exact Int.le_refl _)
  have hbr : -100000 ≤ b ∧ b ≤ 100000 := by
    obtain ⟨x, x0, x1, x2⟩ := b2
    have := hgr x x0 (by omega)
    omega
  obtain ⟨en0, en1, en2, en3⟩ := hen
  have pack : ∀ (m : Nat) (s j : Int) (f1 : Int → Int) (ν1 : ax_M), 0 ≤ j → j + m = n → 0 ≤ s → s ≤ j → ν1.1 13 8 = zI n → rP ν1 19 n f1 → rP ν1 20 n g → (∀ x, j ≤ x → x < n → f1 x = f x) → gEn (fun w => (∃ x, 0 ≤ x ∧ x < j ∧ f x = w) ∧ d w = b) s f1 → ∃ ν' s' f', aJ 1099 [.ref 13, .int (zI b), .int (zI s), .int (zI j)] [] ν1 = aJ 1101 [.ref 13, .int (zI s')] [] ν' ∧ rP ν' 19 s' f' ∧ gEn (fun w => (∃ x, 0 ≤ x ∧ x < n ∧ f x = w) ∧ d w = b) s' f' ∧ fr [19] ν1 ν' := by
    intro m
    induction m with
    | zero =>
      intro s j f1 ν1 j0 j1 s0 s1 h8 h19 h20 hf1 he
      refine ⟨ν1, s, f1, ?_, rP_mono h19 (by omega) (fun _ _ _ => rfl), by rw [show n = j by omega]; exact he, frz⟩
      rw [jl_1099, h8]
      simp (disch := omega) only [p_le]
      rw [if_pos (by omega)]
    | succ m ih =>
      intro s j f1 ν1 j0 j1 s0 s1 h8 h19 h20 hf1 he
      have hgj := hgr j (by omega) (by omega)
      have hdj := hd j j0 (by omega)
      have hfj := hf1 j (Int.le_refl _) (by omega)
      by_cases q : g j = b
      · have f3 : fr [19] ν1 (ax_up ν1.1 19 s.toNat (zI (f j)), ν1.2) := fru (by decide)
        obtain ⟨ν', s', f', e1, e2, e3, e4⟩ := ih (s + 1) (j + 1) (pu f1 s (f j)) _ (by omega) (by omega) (by omega) (by omega) ((fr_at f3 (by decide) 8).trans h8) (rP_up h19 s0) (fr_rP f3 (by decide) h20) (fun x x0 x1 => by
          rw [pu_ne (by omega)]
          exact hf1 x (by omega) x1) (en_push he (fun v => by
          constructor
          · rintro ⟨⟨x, x0, x1, x2⟩, z⟩
            by_cases c : x = j
            · exact Or.inr (by rw [← x2, c])
            · exact Or.inl ⟨⟨x, x0, by omega, x2⟩, z⟩
          · rintro (⟨⟨x, x0, x1, x2⟩, z⟩ | z)
            · exact ⟨⟨x, x0, by omega, x2⟩, z⟩
            · exact ⟨⟨j, j0, by omega, z.symm⟩, by rw [z, ← hdj]; exact q⟩) (fun v z => by
          obtain ⟨⟨x, x0, x1, x2⟩, _⟩ := z
          rw [← x2]
          exact en2 x j x0 x1 (by omega)))
        refine ⟨ν', s', f', ?_, e2, e3, frt f3 e4⟩
        rw [jl_1099, h8]
        simp (disch := omega) only [p_le, at_20, rP_at h20, z_b1, p_eq, at_19, rP_at h19, hfj, pt_19, z_b0, jl_1100]
        rw [if_neg (by omega), if_pos q, show zI j + 1 = zI (j + 1) from zI_a1 j, show zI s + 1 = zI (s + 1) from zI_a1 s]
        exact e1
      · obtain ⟨ν', s', f', e1, e2, e3, e4⟩ := ih s (j + 1) f1 ν1 (by omega) (by omega) s0 (by omega) h8 h19 h20 (fun x x0 x1 => hf1 x (by omega) x1) (en_congr he (fun v => by
          constructor
          · rintro ⟨⟨x, x0, x1, x2⟩, z⟩
            by_cases c : x = j
            · exfalso
              rw [c] at x2
              rw [← x2, ← hdj] at z
              exact q z
            · exact ⟨⟨x, x0, by omega, x2⟩, z⟩
          · rintro ⟨⟨x, x0, x1, x2⟩, z⟩
            exact ⟨⟨x, x0, by omega, x2⟩, z⟩))
        refine ⟨ν', s', f', ?_, e2, e3, e4⟩
        rw [jl_1099, h8]
        simp (disch := omega) only [p_le, at_20, rP_at h20, z_b1, p_eq, jl_1100]
        rw [if_neg (by omega), if_neg q, show zI j + 1 = zI (j + 1) from zI_a1 j]
        exact e1
  obtain ⟨ν', s', f', e1, e2, e3, e4⟩ := pack n.toNat 0 0 f ν (by omega) (by omega) (by omega) (by omega) h8 h19 h20 (fun x _ _ => rfl) (en_nil (by
    rintro w ⟨⟨x, x0, x1, _⟩, _⟩
    omega))
  refine ⟨_, s', f', ?_, uD_at, fun k q => (uD_nk q 13).trans (fr_at e4 (by decide) k), rP_ne e2 (by decide), en_congr e3 (fun w => ?_), frt (frm e4 (by simp)) (fr_uD (by decide))⟩
  · rw [jl_1096]
    simp (disch := omega) only [zI_lit, at_20, rP_at h20, z_b1]
    rw [b1, jl_1098]
    simp only [zI_lit]
    rw [e1, jl_1101]
  · constructor
    · rintro ⟨hp, hmin⟩
      obtain ⟨x, x0, x1, x2⟩ := en3 w hp
      refine ⟨⟨x, x0, x1, x2⟩, ?_⟩
      obtain ⟨y, y0, y1, y2⟩ := b2
      have a := hmin (f y) (en1 y y0 y1)
      rw [← hd y y0 y1, y2] at a
      have c := b3 x x0 x1
      rw [hd x x0 x1, x2] at c
      omega
    · rintro ⟨⟨x, x0, x1, x2⟩, z⟩
      rw [← x2] at z ⊢
      refine ⟨en1 x x0 x1, ?_⟩
      intro v hv
      obtain ⟨y, y0, y1, y2⟩ := en3 v hv
      rw [z, ← y2, ← hd y y0 y1]
      exact b3 y y0 y1
/-- the class's choice -/
theorem lf_one {G : gG} {S : gS} {R : gR} {i : Nat} {n : Int} {f : Int → Int} (h : gEn (gLf G S R i) n f) (hn : n ≤ 1) : ∀ j : Nat, ∀ w, gLf G S R (i + j) w ↔ gLf G S R i w := by
  intro j
  induction j with
  | zero => exact fun w => Iff.rfl
  | succ j ih =>
    intro w
    show gLf G S R (i + j) w ∧ _ ↔ _
    constructor
    · exact fun z => (ih w).mp z.1
    · intro z
      refine ⟨(ih w).mpr z, ?_⟩
      intro v hv
      obtain ⟨x, x0, x1, x2⟩ := h.2.2.2 v ((ih v).mp hv)
      obtain ⟨y, y0, y1, y2⟩ := h.2.2.2 w z
      rw [← x2, ← y2, show x = 0 by omega, show y = 0 by omega]
      exact Int.le_refl _
theorem q_ch {o : Nat} (h : cO o) {G : gG} {S : gS} {X : cX} {R : gR} {ν : ax_M} (hg : hGok G) (hw : hGw G) (hv : hV G S) (hx : XR G S X) (hR : rok R) (hν : cI o G S X ν) (hk : kP 13 R ν) : ∃ ν', aJ 1086 [.ref 13, .ref o] [] ν = some (some (.int (zI (gch' G S R))), ν') ∧ isCh G S R (gch' G S R) ∧ cI o G S X ν' ∧ kP 13 R ν' ∧ fr chL ν ν' ∧ (∀ k, k ≠ 8 → ν'.1 13 k = ν.1 13 k) := by
  have hE := hg.2.2.1
  have hE2 := hg.2.2.2.1
  have hR0 := hR.1
  have hll : ∀ a, a ∈ chL → a ≠ 3 ∧ a ≠ 6 ∧ (a < o ∨ o + 10 < a ∨ a = o + 8) := by
    intro a ha
    simp [chL] at ha
    rcases h with rfl | rfl <;> omega
  have hb : ∀ i n f, gEn (gLf G S R i) n f → n ≤ 60 := fun i n f q => en_le q (fun w z => ⟨(lf_r i z).1, by have := (lf_r i z).2.1; omega⟩) (by omega)
  have lines : ∀ (m i : Nat) (n : Int) (f : Int → Int) (ν : ax_M), i + m = (rLn R).toNat → cI o G S X ν → kP 13 R ν → ν.1 13 8 = zI n → rP ν 19 n f → gEn (gLf G S R i) n f → ∃ ν' n' f', aJ 1090 [.ref 13, .ref o, .int (zI i)] [] ν = aJ 1093 [.ref 13] [] ν' ∧ cI o G S X ν' ∧ kP 13 R ν' ∧ ν'.1 13 8 = zI n' ∧ rP ν' 19 n' f' ∧ gEn (gLf G S R (rLn R).toNat) n' f' ∧ fr chL ν ν' ∧ (∀ k, k ≠ 8 → ν'.1 13 k = ν.1 13 k) := by
    intro m
    induction m with
    | zero =>
      intro i n f ν hi hν hk h8 h19 he
      refine ⟨ν, n, f, ?_, hν, hk, h8, h19, by rw [show (rLn R).toNat = i by omega]; exact he, frz, fun _ _ => rfl⟩
      rw [jl_1090, hk.1]
      simp (disch := omega) only [p_le]
      rw [if_pos (by omega)]
    | succ m ih =>
      intro i n f ν hi hν hk h8 h19 he
      have hn0 := he.1
      have hn60 := hb i n f he
      by_cases q : n ≤ 1
      · refine ⟨ν, n, f, ?_, hν, hk, h8, h19, ?_, frz, fun _ _ => rfl⟩
        · rw [jl_1090, hk.1, h8]
          simp (disch := omega) only [zI_lit, p_le]
          rw [if_neg (by omega), if_pos q]
        · rw [show (rLn R).toNat = i + (m + 1) by omega]
          exact en_congr he (lf_one he q (m + 1))
      · have hf : ∀ j, 0 ≤ j → j < n → 0 ≤ f j ∧ f j < 2 * gE G ∧ gfi S (f j) ≠ -1 := fun j j0 j1 => lf_r i (he.2.1 j j0 j1)
        obtain ⟨ν1, a1, a2, a3, a4, a5, a6, a7⟩ := q_ch1 h (i := (i : Int)) (n := n) (f := f) hg hw hv hx hR (by omega) (by omega) hn60 hf n.toNat 0 ν (by omega) (by omega) hν hk h8 h19 (fun x x0 x1 => by omega)
        obtain ⟨ν2, n2, f2, b1, b2, b2', b3, b4, b5⟩ := q_kb (n := n) (f := f) (g := fun x => ggr G S R i (f x)) (by omega) hn60 (fun j j0 j1 => (q_gr h hg hw hv hx hR hν hk (i := (i : Int)) (by omega) (by omega) (hf j j0 j1).1 (hf j j0 j1).2.1 (hf j j0 j1).2.2).2) (fun j j0 j1 => ⟨(hf j j0 j1).1, by have := (hf j j0 j1).2.1; omega⟩) a4 a5 a6 he (d := ggr G S R i) (fun j _ _ => rfl)
        have f12 : fr chL ν1 ν2 := frm b5 (by simp [chL])
        obtain ⟨ν3, n3, f3, c1, c2, c3, c4, c5, c6, c7, c8⟩ := ih (i + 1) n2 f2 ν2 (by omega) (cI_fr h f12 hll a2) (kP_fr f12 (b2' 0 (by decide)) (by intro a ha; simp [chL] at ha; omega) a3) b2 b3 b4
        refine ⟨ν3, n3, f3, ?_, c2, c3, c4, c5, c6, frt (frm a7 (by simp [chL])) (frt f12 c7), fun k q => (c8 k q).trans ((b2' k q).trans (fr_at a7 (by decide) k))⟩
        rw [jl_1090, hk.1, h8]
        simp (disch := omega) only [zI_lit, p_le]
        rw [if_neg (by omega), if_neg q, a1, jl_1092, b1, z_b0, show zI (i : Int) + 1 = zI ((i + 1 : Nat) : Int) from zI_a1 i]
        exact c1
  have f0 : fr chL ν (ax_uD ν 13 8 0) := fr_uD (by decide)
  have hν0 := cI_fr h f0 hll hν
  have hk0 : kP 13 R (ax_uD ν 13 8 0) := kP_fr f0 (uD_nk (by decide) 13) (by intro a ha; simp [chL] at ha; omega) hk
  obtain ⟨ν1, n1, f1, a1, a2, a3, a4, a5, a6, a7, a8⟩ := q_ch0 h (R := R) hg hv hx (2 * gE G).toNat 0 0 (fun _ => 0) (ax_uD ν 13 8 0) (by omega) (by omega) hν0 hk0 uD_at (fun i i0 i1 => by omega) (en_nil (fun w z => by have := z.1.1; have := z.2; omega)) (by omega)
  obtain ⟨ν2, n2, f2, b1, b2, b3, b4, b5, b6, b7, b8⟩ := lines (rLn R).toNat 0 n1 f1 ν1 (by omega) a2 a3 a4 a5 a6
  have hn0 := b6.1
  have hn60 := hb _ n2 f2 b6
  have hfr := frt f0 (frt a7 b7)
  have h13 : ∀ k, k ≠ 8 → ν2.1 13 k = ν.1 13 k := fun k q => (b8 k q).trans ((a8 k q).trans (uD_nk q 13))
  have hst : aJ 1086 [.ref 13, .ref o] [] ν = aJ 1093 [.ref 13] [] ν2 := by
    rw [jl_1086, show (0 : Int32) = zI 0 from rfl, show aJ 1087 [.ref 13, .ref o, .int (zI 0)] [] (ax_uD ν 13 8 (zI 0)) = _ from a1, jl_1089]
    exact b1
  by_cases q : n2 ≤ 0
  · have hc : isCh G S R (-1) := Or.inl ⟨rfl, fun v hv => by
      obtain ⟨x, x0, x1, _⟩ := b6.2.2.2 v hv
      omega⟩
    rw [ch_of hc]
    refine ⟨ν2, ?_, hc, b2, b3, hfr, h13⟩
    rw [hst, jl_1093, b4]
    simp (disch := omega) only [zI_lit, p_le]
    rw [if_pos q, jl_1094, jl_1095]
    rfl
  · have hc : isCh G S R (f2 0) := Or.inr ⟨b6.2.1 0 (by omega) (by omega), fun v hv => by
      obtain ⟨x, x0, x1, x2⟩ := b6.2.2.2 v hv
      by_cases c : x = 0
      · rw [← x2, c]; exact Int.le_refl _
      · have := b6.2.2.1 0 x (by omega) (by omega) x1
        omega⟩
    rw [ch_of hc]
    refine ⟨ν2, ?_, hc, b2, b3, hfr, h13⟩
    rw [hst, jl_1093, b4]
    simp (disch := omega) only [zI_lit, p_le, at_19, rP_at b5, z_b1]
    rw [if_neg q, jl_1095]
