/-! q: tools for walks by simp: numbers, rows, frames (printed by wip/gen/gena00.py) -/
theorem p_lt {a b : Int} (h0 : -2147483648 ≤ a) (h1 : a < 2147483648) (h2 : -2147483648 ≤ b) (h3 : b < 2147483648) : (zI a < zI b) = (a < b) := propext (zI_lt ⟨h0, h1⟩ ⟨h2, h3⟩)
theorem p_le {a b : Int} (h0 : -2147483648 ≤ a) (h1 : a < 2147483648) (h2 : -2147483648 ≤ b) (h3 : b < 2147483648) : (zI a ≤ zI b) = (a ≤ b) := propext (zI_le ⟨h0, h1⟩ ⟨h2, h3⟩)
theorem p_eq {a b : Int} (h0 : -2147483648 ≤ a) (h1 : a < 2147483648) (h2 : -2147483648 ≤ b) (h3 : b < 2147483648) : (zI a = zI b) = (a = b) := propext (zI_eq ⟨h0, h1⟩ ⟨h2, h3⟩)
theorem zI_hlf {a : Int} (h0 : 0 ≤ a) (h1 : a < 2147483648) : zI a / zI 2 = zI (a / 2) := zI_div2 h0 ⟨by omega, h1⟩
def rP (ν : ax_M) (a : Nat) (n : Int) (f : Int → Int) : Prop := ∀ i, 0 ≤ i → i < n → ν.1 a i.toNat = zI (f i)
theorem rP_at {ν : ax_M} {a : Nat} {n : Int} {f : Int → Int} (h : rP ν a n f) {i : Int} (h0 : 0 ≤ i) (h1 : i < n) : ν.1 a i.toNat = zI (f i) := h i h0 h1
theorem rP_up {ν : ax_M} {a : Nat} {n z v : Int} {f : Int → Int} (h : rP ν a n f) (h0 : 0 ≤ z) : rP (ax_up ν.1 a z.toNat (zI v), ν.2) a n (pu f z v) := by
  intro i i0 i1
  show ax_up ν.1 a z.toNat (zI v) a i.toNat = _
  unfold ax_up
  by_cases q : i = z
  · rw [if_pos ⟨rfl, by rw [q]⟩, q, pu_at]
  · rw [if_neg (fun c => q (by have := c.2; omega)), pu_ne q]
    exact h i i0 i1
theorem rP_ne {ν : ax_M} {a b k : Nat} {n : Int} {x : Int32} {f : Int → Int} (h : rP ν b n f) (hab : b ≠ a) : rP (ax_up ν.1 a k x, ν.2) b n f := by
  intro i i0 i1
  show ax_up ν.1 a k x b i.toNat = _
  unfold ax_up
  rw [if_neg (fun c => hab c.1)]
  exact h i i0 i1
theorem rP_mono {ν : ax_M} {a : Nat} {n m : Int} {f g : Int → Int} (h : rP ν a n f) (hm : m ≤ n) (hf : ∀ i, 0 ≤ i → i < m → f i = g i) : rP ν a m g := by
  intro i i0 i1
  rw [h i i0 (by omega), hf i i0 i1]
theorem rP_push {ν : ax_M} {a : Nat} {n v : Int} {f : Int → Int} (h : rP ν a n f) (h0 : 0 ≤ n) : rP (ax_up ν.1 a n.toNat (zI v), ν.2) a (n + 1) (pu f n v) := by
  intro i i0 i1
  show ax_up ν.1 a n.toNat (zI v) a i.toNat = _
  unfold ax_up
  by_cases q : i = n
  · rw [if_pos ⟨rfl, by rw [q]⟩, q, pu_at]
  · rw [if_neg (fun c => q (by have := c.2; omega)), pu_ne q]
    exact h i i0 (by omega)
theorem up_at {f : Nat → Nat → Int32} {a k : Nat} {x : Int32} : ax_up f a k x a k = x := by unfold ax_up; rw [if_pos ⟨rfl, rfl⟩]
theorem up_ne {f : Nat → Nat → Int32} {a b k j : Nat} {x : Int32} (h : b ≠ a) : ax_up f a k x b j = f b j := by unfold ax_up; rw [if_neg (fun c => h c.1)]
theorem up_nk {f : Nat → Nat → Int32} {a b k j : Nat} {x : Int32} (h : j ≠ k) : ax_up f a k x b j = f b j := by unfold ax_up; rw [if_neg (fun c => h c.2)]
theorem uD_def (μ : ax_M) (o k : Nat) (v : Int32) : ax_uD μ o k v = (ax_up μ.1 o k v, μ.2) := rfl
/-- all cells but those of a list are as they were -/
def fr (l : List Nat) (ν ν' : ax_M) : Prop := ν'.2 = ν.2 ∧ ∀ a, a ∉ l → ν'.1 a = ν.1 a
theorem frz {l : List Nat} {ν : ax_M} : fr l ν ν := ⟨rfl, fun _ _ => rfl⟩
theorem frt {l : List Nat} {ν ν' ν'' : ax_M} (h : fr l ν ν') (h' : fr l ν' ν'') : fr l ν ν'' := ⟨h'.1.trans h.1, fun a q => (h'.2 a q).trans (h.2 a q)⟩
theorem fru {l : List Nat} {ν : ax_M} {a k : Nat} {x : Int32} (h : a ∈ l) : fr l ν (ax_up ν.1 a k x, ν.2) := by
  refine ⟨rfl, ?_⟩
  intro b q
  funext j
  show ax_up ν.1 a k x b j = _
  exact up_ne (fun c => q (c ▸ h))
theorem frm {l l' : List Nat} {ν ν' : ax_M} (h : fr l ν ν') (hs : ∀ a, a ∈ l → a ∈ l') : fr l' ν ν' := ⟨h.1, fun a q => h.2 a (fun c => q (hs a c))⟩
theorem fr_rP {l : List Nat} {ν ν' : ax_M} {a : Nat} {n : Int} {f : Int → Int} (h : fr l ν ν') (hl : a ∉ l) (hr : rP ν a n f) : rP ν' a n f := by
  intro i i0 i1
  rw [h.2 a hl]
  exact hr i i0 i1
theorem fr_at {l : List Nat} {ν ν' : ax_M} {a : Nat} (h : fr l ν ν') (hl : a ∉ l) (k : Nat) : ν'.1 a k = ν.1 a k := by rw [h.2 a hl]
/-! the memory is the picture -/
def mI (G : gG) (S : gS) (ν : ax_M) : Prop := mM G S ν = ν
def cI (o : Nat) (G : gG) (S : gS) (X : cX) (ν : ax_M) : Prop := cM o G S X ν = ν
theorem ax_ext {ν ν' : ax_M} (h : ∀ a k, ν.1 a k = ν'.1 a k) (h2 : ν.2 = ν'.2) : ν = ν' := Prod.ext (funext fun a => funext fun k => h a k) h2
theorem ite_els {α : Type} {c : Prop} [Decidable c] {x y z : α} (h : ¬ c → y = z) : (if c then x else y) = (if c then x else z) := by
  by_cases q : c
  · rw [if_pos q, if_pos q]
  · rw [if_neg q, if_neg q, h q]
theorem rrow_dep {G : gG} {S : gS} {b b' : Nat → Int32} {i : Nat} (h1 : 62 ≤ (i : Int) → (i : Int) < 173 → b' i = b i) (h2 : 386 ≤ (i : Int) → ¬ ((i : Int) - 386) / 8 < gnL S → b' i = b i) : rrow G S b' i = rrow G S b i := by
  unfold rrow
  refine ite_els (fun c1 => ?_)
  refine ite_els (fun c2 => ?_)
  refine ite_els (fun c3 => ?_)
  refine ite_els (fun c4 => ?_)
  by_cases c5 : (i : Int) < 173
  · rw [if_pos c5, if_pos c5]
    exact h1 (by omega) c5
  rw [if_neg c5, if_neg c5]
  refine ite_els (fun c6 => ?_)
  refine ite_els (fun c7 => ?_)
  refine ite_els (fun c8 => ?_)
  refine ite_els (fun c9 => ?_)
  refine ite_els (fun c10 => ?_)
  refine ite_els (fun c11 => ?_)
  refine ite_els (fun c12 => ?_)
  exact h2 (by omega) c12
theorem rrow_rrow {G : gG} {S : gS} {b : Nat → Int32} {i : Nat} : rrow G S (rrow G S b) i = rrow G S b i := by
  refine rrow_dep ?_ ?_
  · intro h1 h2
    unfold rrow
    rw [if_neg (by omega), if_neg (by omega), if_neg (by omega), if_neg (by omega), if_pos (by omega)]
  · intro h1 h2
    unfold rrow
    rw [if_neg (by omega), if_neg (by omega), if_neg (by omega), if_neg (by omega), if_neg (by omega), if_neg (by omega), if_neg (by omega), if_neg (by omega), if_neg (by omega), if_neg (by omega), if_neg (by omega), if_neg h2]
theorem mI_of {G : gG} {S : gS} {μ : ax_M} : mI G S (mM G S μ) := by
  refine ax_ext ?_ rfl
  intro a k
  by_cases h : a = 209
  · subst h
    rw [mM_209, mM_209]
    exact rrow_rrow
  · rw [mM_ne h]
theorem mI_fr {G : gG} {S : gS} {l : List Nat} {ν ν' : ax_M} (h : fr l ν ν') (hl : 209 ∉ l) (hm : mI G S ν) : mI G S ν' := by
  refine ax_ext ?_ rfl
  intro a k
  by_cases q : a = 209
  · subst q
    rw [mM_209, h.2 209 hl]
    exact congrFun (congrFun (congrArg Prod.fst hm) 209) k
  · rw [mM_ne q]
theorem mM_fr {G : gG} {S : gS} {μ : ax_M} : fr [209] μ (mM G S μ) := by
  refine ⟨rfl, ?_⟩
  intro a q
  funext k
  exact mM_ne (by simpa using q)
theorem cM_idem {o : Nat} (h : cO o) {G : gG} {S : gS} {X : cX} {μ : ax_M} : cI o G S X (cM o G S X μ) := by
  refine ax_ext ?_ rfl
  intro a k
  have r1 : ∀ f n b, cR f n (cR f n b) k = cR f n b k := by
    intro f n b
    unfold cR
    split <;> rfl
  by_cases q3 : a = 3
  · subst q3
    rw [cM_3 h]
    unfold cG
    split
    · rw [cM_3 h]; unfold cG; rw [if_pos (by assumption)]
    · split
      · rw [cM_3 h]; unfold cG; rw [if_neg (by assumption), if_pos (by assumption)]
      · rfl
  by_cases q6 : a = 6
  · subst q6
    rw [cM_6 h]
    unfold cR
    split
    · rw [cM_6 h]; unfold cR; rw [if_pos (by assumption)]
    · rfl
  have idm : ∀ g : (Nat → Int32) → Nat → Int32, (∀ b, g (g b) k = g b k) → (∀ j, (cM o G S X μ).1 a j = g (μ.1 a) j) → (∀ j, (cM o G S X (cM o G S X μ)).1 a j = g ((cM o G S X μ).1 a) j) → (cM o G S X (cM o G S X μ)).1 a k = (cM o G S X μ).1 a k := by
    intro g g1 g2 g3
    rw [g3, g2, show (cM o G S X μ).1 a = g (μ.1 a) from funext g2]
    exact g1 _
  by_cases q : a = o
  · subst q
    refine idm (cF S X) ?_ (fun j => cM_o h) (fun j => cM_o h)
    intro b
    unfold cF
    by_cases hk : k = 11 ∨ k = 12 ∨ k = 13 ∨ k = 14 ∨ k = 15 ∨ k = 16 ∨ k = 17
    · rcases hk with rfl | rfl | rfl | rfl | rfl | rfl | rfl <;> rfl
    · simp only [not_or] at hk
      simp only [hk, if_false]
  by_cases q : a = o + 1
  · subst q
    refine idm (cW G) ?_ (fun j => cM_1 h) (fun j => cM_1 h)
    intro b
    unfold cW
    split <;> rfl
  by_cases q : a = o + 2
  · subst q
    refine idm (cN S X) ?_ (fun j => cM_2 h) (fun j => cM_2 h)
    intro b
    unfold cN
    repeat' split
    all_goals first | rfl | omega
  by_cases q : a = o + 3
  · subst q
    exact idm (cR (gen S) 60) (fun b => r1 _ _ _) (fun j => cM_e h) (fun j => cM_e h)
  by_cases q : a = o + 4
  · subst q
    refine idm (cL S X) ?_ (fun j => cM_4 h) (fun j => cM_4 h)
    intro b
    unfold cL
    repeat' split
    all_goals first | rfl | omega
  by_cases q : a = o + 5
  · subst q
    exact idm (cR (xfo X) 60) (fun b => r1 _ _ _) (fun j => cM_5 h) (fun j => cM_5 h)
  by_cases q : a = o + 6
  · subst q
    exact idm (cR (xlo X) 60) (fun b => r1 _ _ _) (fun j => cM_l h) (fun j => cM_l h)
  by_cases q : a = o + 7
  · subst q
    exact idm (cR (xoe X) 60) (fun b => r1 _ _ _) (fun j => cM_7 h) (fun j => cM_7 h)
  by_cases q : a = o + 9
  · subst q
    exact idm (cR (xwl X) (xwc X)) (fun b => r1 _ _ _) (fun j => cM_9 h) (fun j => cM_9 h)
  by_cases q : a = o + 10
  · subst q
    exact idm (cR (xso X) 7) (fun b => r1 _ _ _) (fun j => cM_10 h) (fun j => cM_10 h)
  simp [cM, *]
def cOL (o : Nat) : List Nat := [o, o + 1, o + 2, o + 3, o + 4, o + 5, o + 6, o + 7, o + 9, o + 10]
theorem cM_off {o : Nat} {G : gG} {S : gS} {X : cX} {μ : ax_M} {a : Nat} (h3 : a ≠ 3) (h6 : a ≠ 6) (hl : a ∉ cOL o) : (cM o G S X μ).1 a = μ.1 a := by
  funext k
  simp [cOL] at hl
  simp [cM, *]
theorem cM_fr {o : Nat} (h : cO o) {G : gG} {S S' : gS} {X X' : cX} {μ μ' : ax_M} (hb : cB o μ μ') : fr (cOL o) (cM o G S X μ) (cM o G S' X' μ') := by
  refine ⟨hb.1, ?_⟩
  intro a q
  have q' := q
  simp [cOL] at q'
  by_cases h3 : a = 3
  · subst h3
    funext k
    rw [cM_3 h, cM_3 h, hb.2 3 (by omega)]
  by_cases h6 : a = 6
  · subst h6
    funext k
    rw [cM_6 h, cM_6 h, hb.2 6 (by omega)]
  rw [cM_off h3 h6 q, cM_off h3 h6 q, hb.2 a (by omega)]
theorem cI_fr {o : Nat} (h : cO o) {G : gG} {S : gS} {X : cX} {l : List Nat} {ν ν' : ax_M} (hf : fr l ν ν') (hl : ∀ a, a ∈ l → a ≠ 3 ∧ a ≠ 6 ∧ (a < o ∨ o + 10 < a ∨ a = o + 8)) (hc : cI o G S X ν) : cI o G S X ν' := by
  have hn : ∀ a, (a = 3 ∨ a = 6 ∨ (o ≤ a ∧ a ≤ o + 10 ∧ a ≠ o + 8)) → a ∉ l := by
    intro a ha q
    have := hl a q
    omega
  have hx : ∀ a k, (cM o G S X ν).1 a k = ν.1 a k := fun a k => congrFun (congrFun (congrArg Prod.fst hc) a) k
  refine ax_ext ?_ rfl
  intro a k
  by_cases q : a = 3
  · subst q
    have e := hf.2 3 (hn _ (by omega))
    rw [cM_3 h, e, ← cM_3 h (S := S) (X := X)]
    exact hx _ _
  by_cases q : a = 6
  · subst q
    have e := hf.2 6 (hn _ (by omega))
    rw [cM_6 h, e, ← cM_6 h (S := S) (X := X)]
    exact hx _ _
  by_cases q : a = o
  · subst q
    have e := hf.2 a (hn _ (by omega))
    rw [cM_o h, e, ← cM_o h (G := G)]
    exact hx _ _
  by_cases q : a = o + 1
  · subst q
    have e := hf.2 (o + 1) (hn _ (by omega))
    rw [cM_1 h, e, ← cM_1 h (S := S) (X := X)]
    exact hx _ _
  by_cases q : a = o + 2
  · subst q
    have e := hf.2 (o + 2) (hn _ (by omega))
    rw [cM_2 h, e, ← cM_2 h (G := G)]
    exact hx _ _
  by_cases q : a = o + 3
  · subst q
    have e := hf.2 (o + 3) (hn _ (by omega))
    rw [cM_e h, e, ← cM_e h (G := G) (X := X)]
    exact hx _ _
  by_cases q : a = o + 4
  · subst q
    have e := hf.2 (o + 4) (hn _ (by omega))
    rw [cM_4 h, e, ← cM_4 h (G := G)]
    exact hx _ _
  by_cases q : a = o + 5
  · subst q
    have e := hf.2 (o + 5) (hn _ (by omega))
    rw [cM_5 h, e, ← cM_5 h (G := G) (S := S)]
    exact hx _ _
  by_cases q : a = o + 6
  · subst q
    have e := hf.2 (o + 6) (hn _ (by omega))
    rw [cM_l h, e, ← cM_l h (G := G) (S := S)]
    exact hx _ _
  by_cases q : a = o + 7
  · subst q
    have e := hf.2 (o + 7) (hn _ (by omega))
    rw [cM_7 h, e, ← cM_7 h (G := G) (S := S)]
    exact hx _ _
  by_cases q : a = o + 9
  · subst q
    have e := hf.2 (o + 9) (hn _ (by omega))
    rw [cM_9 h, e, ← cM_9 h (G := G) (S := S)]
    exact hx _ _
  by_cases q : a = o + 10
  · subst q
    have e := hf.2 (o + 10) (hn _ (by omega))
    rw [cM_10 h, e, ← cM_10 h (G := G) (S := S)]
    exact hx _ _
  simp [cM, *]
/-! a run's rows, read -/
theorem q_of {o : Nat} {G : gG} {S : gS} {X : cX} {ν : ax_M} (hν : cI o G S X ν) (h : cO o) {n f : Int} (h0 : 0 ≤ n) (h1 : n < 12) (h2 : 0 ≤ f) (h3 : f < 9) : aJ 1139 [.ref o, .int (zI n), .int (zI f)] [] ν = some (some (.int (zI (gnd S n f))), ν) := by
  rw [jl_1139 _ _ _ _ h]
  simp only [zI_lit, zI_mul, zI_add]
  rw [c_at (sh_2 h) (by omega) (by omega) (by omega), z_b1]
  have e := c_nd h (G := G) (S := S) (X := X) (μ := ν) h0 h1 h2 h3
  rw [show cM o G S X ν = ν from hν] at e
  rw [show n * 11 + f = 11 * n + f by omega, e]
theorem q_of10 {o : Nat} {G : gG} {S : gS} {X : cX} {ν : ax_M} (hν : cI o G S X ν) (h : cO o) {n : Int} (h0 : 0 ≤ n) (h1 : n < 12) : aJ 1139 [.ref o, .int (zI n), .int (zI 10)] [] ν = some (some (.int (zI (gnd S n 9))), ν) := by
  rw [jl_1139 _ _ _ _ h]
  simp only [zI_lit, zI_mul, zI_add]
  rw [c_at (sh_2 h) (by omega) (by omega) (by omega), z_b1]
  have e := c_ndc h (G := G) (S := S) (X := X) (μ := ν) h0 h1
  rw [show cM o G S X ν = ν from hν] at e
  rw [show n * 11 + 10 = 11 * n + 10 by omega, e]
theorem q_of9 {o : Nat} {G : gG} {S : gS} {X : cX} {ν : ax_M} (hν : cI o G S X ν) (h : cO o) {n : Int} (h0 : 0 ≤ n) (h1 : n < 12) : aJ 1139 [.ref o, .int (zI n), .int (zI 9)] [] ν = some (some (.int (zI (xwn X n))), ν) := by
  rw [jl_1139 _ _ _ _ h]
  simp only [zI_lit, zI_mul, zI_add]
  rw [c_at (sh_2 h) (by omega) (by omega) (by omega), z_b1]
  have e := c_ndw h (G := G) (S := S) (X := X) (μ := ν) h0 h1
  rw [show cM o G S X ν = ν from hν] at e
  rw [show n * 11 + 9 = 11 * n + 9 by omega, e]
theorem q_tl {o : Nat} {G : gG} {S : gS} {X : cX} {ν : ax_M} (hν : cI o G S X ν) (h : cO o) (hL : gnL S ≤ 256) {k f : Int} (h0 : 0 ≤ k) (h1 : k < gnL S) (h2 : 0 ≤ f) (h3 : f < 7) : aJ 1141 [.ref o, .int (zI k), .int (zI f)] [] ν = some (some (.int (zI (glt S k f))), ν) := by
  rw [jl_1141 _ _ _ _ h]
  simp only [zI_lit, zI_mul, zI_add]
  rw [c_at (sh_4 h) (by omega) (by omega) (by omega), z_b1]
  have e := c_lt h (G := G) (S := S) (X := X) (μ := ν) h0 h1 h2 h3
  rw [show cM o G S X ν = ν from hν] at e
  rw [show k * 8 + f = 8 * k + f by omega, e]
theorem q_en {o : Nat} {G : gG} {S : gS} {X : cX} {ν : ax_M} (hν : cI o G S X ν) (h : cO o) {w : Int} (h0 : 0 ≤ w) (h1 : w < 60) : aJ 846 [.ref (o + 3), .int (zI w)] [] ν = some (some (.int (zI (gen S w))), ν) := by
  have e := cM_e h (G := G) (S := S) (X := X) (μ := ν) (k := w.toNat)
  rw [cR_at h0 h1, show cM o G S X ν = ν from hν] at e
  rw [c_at (sh_3 h) (by omega) h0 (by omega), e]
theorem q_fo {o : Nat} {G : gG} {S : gS} {X : cX} {ν : ax_M} (hν : cI o G S X ν) (h : cO o) {w : Int} (h0 : 0 ≤ w) (h1 : w < 60) : aJ 846 [.ref (o + 5), .int (zI w)] [] ν = some (some (.int (zI (xfo X w))), ν) := by
  have e := cM_5 h (G := G) (S := S) (X := X) (μ := ν) (k := w.toNat)
  rw [cR_at h0 h1, show cM o G S X ν = ν from hν] at e
  rw [c_at (sh_5 h) (by omega) h0 (by omega), e]
theorem q_lo {o : Nat} {G : gG} {S : gS} {X : cX} {ν : ax_M} (hν : cI o G S X ν) (h : cO o) {w : Int} (h0 : 0 ≤ w) (h1 : w < 60) : aJ 846 [.ref (o + 6), .int (zI w)] [] ν = some (some (.int (zI (xlo X w))), ν) := by
  have e := cM_l h (G := G) (S := S) (X := X) (μ := ν) (k := w.toNat)
  rw [cR_at h0 h1, show cM o G S X ν = ν from hν] at e
  rw [c_at (sh_6 h) (by omega) h0 (by omega), e]
theorem q_oe {o : Nat} {G : gG} {S : gS} {X : cX} {ν : ax_M} (hν : cI o G S X ν) (h : cO o) {w : Int} (h0 : 0 ≤ w) (h1 : w < 60) : aJ 846 [.ref (o + 7), .int (zI w)] [] ν = some (some (.int (zI (xoe X w))), ν) := by
  have e := cM_7 h (G := G) (S := S) (X := X) (μ := ν) (k := w.toNat)
  rw [cR_at h0 h1, show cM o G S X ν = ν from hν] at e
  rw [c_at (sh_7 h) (by omega) h0 (by omega), e]
theorem q_so {o : Nat} {G : gG} {S : gS} {X : cX} {ν : ax_M} (hν : cI o G S X ν) (h : cO o) {w : Int} (h0 : 0 ≤ w) (h1 : w < 7) : aJ 846 [.ref (o + 10), .int (zI w)] [] ν = some (some (.int (zI (xso X w))), ν) := by
  have e := cM_10 h (G := G) (S := S) (X := X) (μ := ν) (k := w.toNat)
  rw [cR_at h0 h1, show cM o G S X ν = ν from hν] at e
  rw [c_at (sh_10 h) (by omega) h0 (by omega), e]
theorem q_wt {o : Nat} {G : gG} {S : gS} {X : cX} {ν : ax_M} (hν : cI o G S X ν) (h : cO o) {e : Int} (h0 : 0 ≤ e) (h1 : e < 30 ∧ gwt G e ≠ 0) : aJ 846 [.ref (o + 1), .int (zI e)] [] ν = some (some (.int (zI (gwt G e))), ν) := by
  have e1 := cM_1 h (G := G) (S := S) (X := X) (μ := ν) (k := e.toNat)
  unfold cW at e1
  rw [show ((e.toNat : Nat) : Int) = e by omega, if_pos h1, show cM o G S X ν = ν from hν] at e1
  rw [c_at (sh_1 h) (by omega) h0 (by omega), e1]
theorem wt_ne {G : gG} (hw : hGw G) {e : Int} (e0 : 0 ≤ e) (e1 : e < gE G) : gwt G e ≠ 0 := by
  have := hw e e0 e1
  omega
theorem q_wO {o : Nat} {G : gG} {S : gS} {X : cX} {ν : ax_M} (hν : cI o G S X ν) (h : cO o) {e : Int} (h0 : 0 ≤ e) (h1 : e < 30 ∧ gwt G e ≠ 0) : aJ 1143 [.ref o, .int (zI e)] [] ν = some (some (.int (zI (gwt G e))), ν) := by
  rw [jl_1143 _ _ _ h, q_wt hν h h0 h1, z_b1]
theorem q_sd {o : Nat} {G : gG} {S : gS} {X : cX} {ν : ax_M} (hν : cI o G S X ν) (h : cO o) {w : Int} (h0 : 0 ≤ w) (h1 : w < 2 * gE G ∧ w < 60) : aJ 846 [.ref 6, .int (zI w)] [] ν = some (some (.int (zI (gsd G w))), ν) := by
  have e := c_sd h (G := G) (S := S) (X := X) (μ := ν) h0 h1
  rwa [show cM o G S X ν = ν from hν] at e
theorem q_rc {o : Nat} {G : gG} {S : gS} {X : cX} {ν : ax_M} (hν : cI o G S X ν) (h : cO o) {w : Int} (h0 : 0 ≤ w) (h1 : w < 2 * gE G ∧ w < 60) : aJ 945 [.ref 3, .int (zI w)] [] ν = some (some (.int (zI (grc G w))), ν) := by
  have e := c_rc h (G := G) (S := S) (X := X) (μ := ν) h0 h1
  rwa [show cM o G S X ν = ν from hν] at e
theorem q_wcnt {o : Nat} {G : gG} {S : gS} {X : cX} {ν : ax_M} (hν : cI o G S X ν) (h : cO o) : aJ 1144 [.ref o] [] ν = some (some (.int (zI (2 * gE G))), ν) := by
  have e := c_wcnt h (G := G) (S := S) (X := X) (μ := ν)
  rwa [show cM o G S X ν = ν from hν] at e
theorem q_N {o : Nat} {G : gG} {S : gS} {X : cX} {ν : ax_M} (hν : cI o G S X ν) (h : cO o) : ν.1 3 0 = zI (gN G) := by
  have e := c_N h (G := G) (S := S) (X := X) (μ := ν)
  rwa [show cM o G S X ν = ν from hν] at e
theorem q_E {o : Nat} {G : gG} {S : gS} {X : cX} {ν : ax_M} (hν : cI o G S X ν) (h : cO o) : ν.1 3 1 = zI (gE G) := by
  have e := c_E h (G := G) (S := S) (X := X) (μ := ν)
  rwa [show cM o G S X ν = ν from hν] at e
theorem q_fL {o : Nat} {G : gG} {S : gS} {X : cX} {ν : ax_M} (hν : cI o G S X ν) (h : cO o) : ν.1 o 11 = zI (gnL S) := by
  have e := cM_o h (G := G) (S := S) (X := X) (μ := ν) (k := 11)
  rwa [show cM o G S X ν = ν from hν] at e
theorem q_fow {o : Nat} {G : gG} {S : gS} {X : cX} {ν : ax_M} (hν : cI o G S X ν) (h : cO o) : ν.1 o 12 = zI (xow X) := by
  have e := cM_o h (G := G) (S := S) (X := X) (μ := ν) (k := 12)
  rwa [show cM o G S X ν = ν from hν] at e
theorem q_fwc {o : Nat} {G : gG} {S : gS} {X : cX} {ν : ax_M} (hν : cI o G S X ν) (h : cO o) : ν.1 o 13 = zI (xwc X) := by
  have e := cM_o h (G := G) (S := S) (X := X) (μ := ν) (k := 13)
  rwa [show cM o G S X ν = ν from hν] at e
theorem q_fhd {o : Nat} {G : gG} {S : gS} {X : cX} {ν : ax_M} (hν : cI o G S X ν) (h : cO o) : ν.1 o 14 = zI (xhd X) := by
  have e := cM_o h (G := G) (S := S) (X := X) (μ := ν) (k := 14)
  rwa [show cM o G S X ν = ν from hν] at e
theorem q_fdf {o : Nat} {G : gG} {S : gS} {X : cX} {ν : ax_M} (hν : cI o G S X ν) (h : cO o) : ν.1 o 15 = zI (gdf S) := by
  have e := cM_o h (G := G) (S := S) (X := X) (μ := ν) (k := 15)
  rwa [show cM o G S X ν = ν from hν] at e
theorem q_fdp {o : Nat} {G : gG} {S : gS} {X : cX} {ν : ax_M} (hν : cI o G S X ν) (h : cO o) : ν.1 o 16 = zI (xdp X) := by
  have e := cM_o h (G := G) (S := S) (X := X) (μ := ν) (k := 16)
  rwa [show cM o G S X ν = ν from hν] at e
theorem q_frd {o : Nat} {G : gG} {S : gS} {X : cX} {ν : ax_M} (hν : cI o G S X ν) (h : cO o) : ν.1 o 17 = zI (grd S) := by
  have e := cM_o h (G := G) (S := S) (X := X) (μ := ν) (k := 17)
  rwa [show cM o G S X ν = ν from hν] at e
theorem q_wl {o : Nat} {G : gG} {S : gS} {X : cX} {ν : ax_M} (hν : cI o G S X ν) (h : cO o) (h2 : xwc X ≤ 256) {i : Int} (h0 : 0 ≤ i) (h1 : i < xwc X) : aJ 846 [.ref (o + 9), .int (zI i)] [] ν = some (some (.int (zI (xwl X i))), ν) := by
  have e := c_wlr h (G := G) (S := S) (X := X) (μ := ν) h0 h1 h2
  rwa [show cM o G S X ν = ν from hν] at e
theorem q_nodeOf {o : Nat} {G : gG} {S : gS} {X : cX} {ν : ax_M} (hν : cI o G S X ν) (h : cO o) (hr : hRs G S) (hE : gE G ≤ 30) (hLS : gnL S ≤ 256) {k : Int} (k0 : 0 ≤ k) (k1 : k < gnL S) : aJ 1179 [.ref o, .int (zI k)] [] ν = some (some (.int (zI (grc G (glt S k 1)))), ν) := by
  have e := c_nodeOf h (G := G) (S := S) (X := X) (μ := ν) hr hE k0 k1 hLS
  rwa [show cM o G S X ν = ν from hν] at e
theorem q_ta {o : Nat} (h : cO o) {G : gG} {S : gS} {X : cX} {ν : ax_M} {w : Int} (hg : hGok G) (hw : hGw G) (hv : hV G S) (hx : XR G S X) (hν : cI o G S X ν) (hk : gfi S w ≠ -1) : ∃ X' ν', aJ 1201 [.ref o, .int (zI w)] [] ν = some (some (.int (zI (hta G S w).1)), ν') ∧ cI o G (hta G S w).2 X' ν' ∧ XR G (hta G S w).2 X' ∧ fr (cOL o) ν ν' := by
  obtain ⟨X', μ', h1, h2, h3⟩ := c_ta h (μ := ν) hg hw hv hx hk
  rw [show cM o G S X ν = ν from hν] at h1
  refine ⟨X', _, h1, cM_idem h, h2, ?_⟩
  have hf := cM_fr h (G := G) (S := S) (S' := (hta G S w).2) (X := X) (X' := X') h3
  rwa [show cM o G S X ν = ν from hν] at hf
theorem q_rouse {o : Nat} (h : cO o) {G : gG} {S : gS} {X : cX} {ν : ax_M} {n : Int} (hg : hGok G) (hw : hGw G) (hv : hV G S) (hx : XR G S X) (hν : cI o G S X ν) (h0 : 0 ≤ n) (h1 : n < gN G) : ∃ X' ν', aJ 1185 [.ref o, .int (zI n)] [] ν = some (some (.int (zB (decide (gnd S n 0 = 0)))), ν') ∧ cI o G (if gnd S n 0 = 0 then gwk G S n else S) X' ν' ∧ XR G (if gnd S n 0 = 0 then gwk G S n else S) X' ∧ fr (cOL o) ν ν' := by
  have hc := h_cnt hg hv.1 (by omega)
  have hl := gwk_L (G := G) (S := S) (n := n)
  have hN := hg.2.1
  obtain ⟨X', h3, h4⟩ := c_rouse h (μ := ν) hg hw hv.2.2.1 hx h0 (by omega) (by omega)
  rw [show cM o G S X ν = ν from hν] at h3
  refine ⟨X', _, h3, cM_idem h, h4, ?_⟩
  have hf := cM_fr h (G := G) (S := S) (S' := if gnd S n 0 = 0 then gwk G S n else S) (X := X) (X' := X') (cB_refl (o := o) (μ := ν))
  rwa [show cM o G S X ν = ν from hν] at hf
/-! the reference's row, read -/
theorem q_nd {G : gG} {S : gS} {ν : ax_M} (hm : mI G S ν) {n f : Int} (h0 : 0 ≤ n) (h1 : n < 12) (h2 : 0 ≤ f) (h3 : f < 10) : aJ 203 [.ref 207, .int (zI n), .int (zI f)] [] ν = some (some (.int (zI (gnd S n f))), ν) := by
  have e := r_nd (G := G) (S := S) (μ := ν) h0 h1 h2 h3
  rw [show mM G S ν = ν from hm] at e
  rw [mz_nodeIs h0 h1 h2 h3, e]
theorem q_lt {G : gG} {S : gS} {ν : ax_M} (hm : mI G S ν) (hL : gnL S ≤ 256) {k f : Int} (h0 : 0 ≤ k) (h1 : k < gnL S) (h2 : 0 ≤ f) (h3 : f < 8) : aJ 205 [.ref 207, .int (zI k), .int (zI f)] [] ν = some (some (.int (zI (glt S k f))), ν) := by
  have e := r_lt (G := G) (S := S) (μ := ν) h0 h1 h2 h3
  rw [show mM G S ν = ν from hm] at e
  rw [mz_letterIs h0 (by omega) h2 h3, e]
theorem q_fr {G : gG} {S : gS} {ν : ax_M} (hm : mI G S ν) {i : Int} (h0 : 0 ≤ i) (h1 : i < 30) : ν.1 209 (2 + i).toNat = zI (gfr G i) := by
  have e := r_fr (G := G) (S := S) (μ := ν) h0 h1
  rwa [show mM G S ν = ν from hm] at e
theorem q_sc {G : gG} {S : gS} {ν : ax_M} (hm : mI G S ν) {i : Int} (h0 : 0 ≤ i) (h1 : i < 30) : ν.1 209 (32 + i).toNat = zI (gsc G i) := by
  have e := r_sc (G := G) (S := S) (μ := ν) h0 h1
  rwa [show mM G S ν = ν from hm] at e
theorem q_rwt {G : gG} {S : gS} {ν : ax_M} (hm : mI G S ν) {i : Int} (h0 : 0 ≤ i) (h1 : i < 30) : ν.1 209 (173 + i).toNat = zI (gwt G i) := by
  have e := r_wt (G := G) (S := S) (μ := ν) h0 h1
  rwa [show mM G S ν = ν from hm] at e
theorem q_ren {G : gG} {S : gS} {ν : ax_M} (hm : mI G S ν) {i : Int} (h0 : 0 ≤ i) (h1 : i < 60) : ν.1 209 (203 + i).toNat = zI (gen S i) := by
  have e := r_en (G := G) (S := S) (μ := ν) h0 h1
  rwa [show mM G S ν = ν from hm] at e
theorem q_rN {G : gG} {S : gS} {ν : ax_M} (hm : mI G S ν) : ax_ld ax_sh ν 209 (zI 0) = some (zI (gN G)) := by
  have e : (mM G S ν).1 209 0 = zI (gN G) := rfl
  rw [show mM G S ν = ν from hm] at e
  rw [z_ld209 (z := 0) (by omega) (by omega)]
  exact congrArg some e
theorem q_rE {G : gG} {S : gS} {ν : ax_M} (hm : mI G S ν) : ax_ld ax_sh ν 209 (zI 1) = some (zI (gE G)) := by
  have e : (mM G S ν).1 209 1 = zI (gE G) := rfl
  rw [show mM G S ν = ν from hm] at e
  rw [z_ld209 (z := 1) (by omega) (by omega)]
  exact congrArg some e
theorem q_rL {G : gG} {S : gS} {ν : ax_M} (hm : mI G S ν) : ax_ld ax_sh ν 209 (zI 383) = some (zI (gnL S)) := by
  have e : (mM G S ν).1 209 383 = zI (gnL S) := rfl
  rw [show mM G S ν = ν from hm] at e
  rw [z_ld209 (z := 383) (by omega) (by omega)]
  exact congrArg some e
theorem q_rD {G : gG} {S : gS} {ν : ax_M} (hm : mI G S ν) : ax_ld ax_sh ν 209 (zI 384) = some (zI (gdf S)) := by
  have e : (mM G S ν).1 209 384 = zI (gdf S) := rfl
  rw [show mM G S ν = ν from hm] at e
  rw [z_ld209 (z := 384) (by omega) (by omega)]
  exact congrArg some e
theorem q_rR {G : gG} {S : gS} {ν : ax_M} (hm : mI G S ν) : ax_ld ax_sh ν 209 (zI 385) = some (zI (grd S)) := by
  have e : (mM G S ν).1 209 385 = zI (grd S) := rfl
  rw [show mM G S ν = ν from hm] at e
  rw [z_ld209 (z := 385) (by omega) (by omega)]
  exact congrArg some e
theorem q_rsd {G : gG} {S : gS} {ν : ax_M} (hm : mI G S ν) {w : Int} (h0 : 0 ≤ w) (h1 : w < 60) : aJ 185 [.ref 207, .int (zI w)] [] ν = some (some (.int (zI (gsd G w))), ν) := by
  rw [mz_sender h0 h1]
  unfold gsd
  by_cases q : w % 2 = 0
  · rw [if_pos q, if_pos q, q_fr hm (by omega) (by omega)]
  · rw [if_neg q, if_neg q, q_sc hm (by omega) (by omega)]
theorem q_rrc {G : gG} {S : gS} {ν : ax_M} (hm : mI G S ν) {w : Int} (h0 : 0 ≤ w) (h1 : w < 60) : aJ 188 [.ref 207, .int (zI w)] [] ν = some (some (.int (zI (grc G w))), ν) := by
  have e := m_rc (G := G) (S := S) (μ := ν) h0 h1
  rwa [show mM G S ν = ν from hm] at e
/-- the rule's row stays -/
def bgR (ν ν' : ax_M) : Prop := ∀ k, 62 ≤ k → k < 173 → ν'.1 209 k = ν.1 209 k
theorem bgz {ν : ax_M} : bgR ν ν := fun _ _ _ => rfl
theorem bgt {ν ν' ν'' : ax_M} (h : bgR ν ν') (h' : bgR ν' ν'') : bgR ν ν'' := fun k a b => (h' k a b).trans (h k a b)
theorem bgf {l : List Nat} {ν ν' : ax_M} (h : fr l ν ν') (hl : 209 ∉ l) : bgR ν ν' := fun k _ _ => by rw [h.2 209 hl]
theorem bgm {G : gG} {S : gS} {ν : ax_M} : bgR ν (mM G S ν) := by
  intro k h1 h2
  rw [mM_209]
  unfold rrow
  rw [if_neg (by omega), if_neg (by omega), if_neg (by omega), if_neg (by omega), if_pos (by omega)]
theorem q_rta {G : gG} {S : gS} {ν : ax_M} {w : Int} (hg : hGok G) (hw : hGw G) (h : hV G S) (hm : mI G S ν) (hk : gfi S w ≠ -1) : ∃ ν', aJ 285 [.ref 207, .int (zI w)] [] ν = some (some (.int (zI (hta G S w).1)), ν') ∧ mI G (hta G S w).2 ν' ∧ fr [209] ν ν' ∧ bgR ν ν' := by
  have e := (m_ta (μ := ν) hg hw h hk).1
  rw [show mM G S ν = ν from hm] at e
  exact ⟨_, e, mI_of, mM_fr, bgm⟩
theorem q_rwk {G : gG} {S : gS} {ν : ax_M} {n : Int} (hg : hGok G) (hw : hGw G) (hv : hV G S) (hm : mI G S ν) (h0 : 0 ≤ n) (h1 : n < gN G) : ∃ ν', aJ 219 [.ref 207, .int (zI n)] [] ν = some (none, ν') ∧ mI G (gwk G S n) ν' ∧ fr [209] ν ν' ∧ bgR ν ν' := by
  have hc := h_cnt hg hv.1 (by omega)
  have hl := gwk_L (G := G) (S := S) (n := n)
  have hN := hg.2.1
  have e := m_wk (μ := ν) hg hw hv.2.2.1.1 h0 (by omega) hc.1 (by omega)
  rw [show mM G S ν = ν from hm] at e
  exact ⟨_, e, mI_of, mM_fr, bgm⟩
theorem q_rfi {G : gG} {S : gS} {ν : ax_M} {w : Int} (hg : hGok G) (hv : hV G S) (hm : mI G S ν) (h0 : 0 ≤ w) (h1 : w < 60) : aJ 207 [.ref 207, .int (zI w)] [] ν = some (some (.int (zI (gfi S w))), ν) := by
  have hc := h_cnt hg hv.1 (by omega)
  have e := m_fi (μ := ν) hg hv.2.2.1 (by omega) h0 h1
  rwa [show mM G S ν = ν from hm] at e
/-! one row a cell -/
theorem z_ld8 {μ : ax_M} {a len : Nat} {z : Int} (h : ((ax_sh a).1 = 2 ∨ (ax_sh a).1 = 3) ∧ (ax_sh a).2.1 = len) (h0 : 0 ≤ z) (h1 : z < len) (h2 : len < 2147483648) : ax_ld8 ax_sh μ a (zI z) = some (μ.1 a z.toNat) := by
  have hz : zR z := by unfold zR; omega
  unfold ax_ld8
  rw [zI_nat hz, if_pos]
  refine ⟨h.1, ?_⟩
  rintro (q | q)
  · have e0 : (0 : Int32) = zI 0 := rfl
    rw [e0, zI_lt hz (by unfold zR; omega)] at q
    omega
  · rw [h.2] at q
    omega
theorem z_st8y {μ : ax_M} {a len : Nat} {z : Int} {x : Int32} (h : (ax_sh a).1 = 2 ∧ (ax_sh a).2.1 = len) (h0 : 0 ≤ z) (h1 : z < len) (h2 : len < 2147483648) : ax_st8 ax_sh μ a (zI z) x = some (ax_up μ.1 a z.toNat (vp_nar .byte x), μ.2) := by
  have hz : zR z := by unfold zR; omega
  unfold ax_st8
  rw [zI_nat hz, if_pos]
  refine ⟨h.1, ?_⟩
  rintro (q | q)
  · have e0 : (0 : Int32) = zI 0 := rfl
    rw [e0, zI_lt hz (by unfold zR; omega)] at q
    omega
  · rw [h.2] at q
    omega
theorem z_st8b {μ : ax_M} {a len : Nat} {z : Int} {x : Int32} (h : (ax_sh a).1 = 3 ∧ (ax_sh a).2.1 = len) (h0 : 0 ≤ z) (h1 : z < len) (h2 : len < 2147483648) : ax_st8 ax_sh μ a (zI z) x = some (ax_up μ.1 a z.toNat (vp_nar .boolean x), μ.2) := by
  have hz : zR z := by unfold zR; omega
  unfold ax_st8
  rw [zI_nat hz, if_neg (by omega), if_pos]
  refine ⟨h.1, ?_⟩
  rintro (q | q)
  · have e0 : (0 : Int32) = zI 0 := rfl
    rw [e0, zI_lt hz (by unfold zR; omega)] at q
    omega
  · rw [h.2] at q
    omega
theorem z_ldl {μ : ax_M} {a len : Nat} {z : Int} (h : (ax_sh a).1 = 4 ∧ (ax_sh a).2.1 = len) (h0 : 0 ≤ z) (h1 : z < len) (h2 : len < 2147483648) : ax_ldl ax_sh μ a (zI z) = some (μ.2 a z.toNat) := by
  have hz : zR z := by unfold zR; omega
  unfold ax_ldl
  rw [zI_nat hz, if_pos]
  refine ⟨h.1, ?_⟩
  rintro (q | q)
  · have e0 : (0 : Int32) = zI 0 := rfl
    rw [e0, zI_lt hz (by unfold zR; omega)] at q
    omega
  · rw [h.2] at q
    omega
theorem z_stl {μ : ax_M} {a len : Nat} {z : Int} {x : Int64} (h : (ax_sh a).1 = 4 ∧ (ax_sh a).2.1 = len) (h0 : 0 ≤ z) (h1 : z < len) (h2 : len < 2147483648) : ax_stl ax_sh μ a (zI z) x = some (μ.1, ax_up μ.2 a z.toNat x) := by
  have hz : zR z := by unfold zR; omega
  unfold ax_stl
  rw [zI_nat hz, if_pos]
  refine ⟨h.1, ?_⟩
  rintro (q | q)
  · have e0 : (0 : Int32) = zI 0 := rfl
    rw [e0, zI_lt hz (by unfold zR; omega)] at q
    omega
  · rw [h.2] at q
    omega
theorem ld_1 {μ : ax_M} {z : Int} (h0 : 0 ≤ z) (h1 : z < 940) : ax_ld8 ax_sh μ 1 (zI z) = some (μ.1 1 z.toNat) := z_ld8 (len := 940) (by decide) h0 h1 (by decide)
theorem st_1 {μ : ax_M} {z : Int} {x : Int32} (h0 : 0 ≤ z) (h1 : z < 940) : ax_st8 ax_sh μ 1 (zI z) x = some (ax_up μ.1 1 z.toNat (vp_nar .byte x), μ.2) := z_st8y (len := 940) (by decide) h0 h1 (by decide)
theorem ld_4 {μ : ax_M} {z : Int} (h0 : 0 ≤ z) (h1 : z < 84) : ax_ld8 ax_sh μ 4 (zI z) = some (μ.1 4 z.toNat) := z_ld8 (len := 84) (by decide) h0 h1 (by decide)
theorem st_4 {μ : ax_M} {z : Int} {x : Int32} (h0 : 0 ≤ z) (h1 : z < 84) : ax_st8 ax_sh μ 4 (zI z) x = some (ax_up μ.1 4 z.toNat (vp_nar .byte x), μ.2) := z_st8y (len := 84) (by decide) h0 h1 (by decide)
theorem ld_5 {μ : ax_M} {z : Int} (h0 : 0 ≤ z) (h1 : z < 12) : ax_ld ax_sh μ 5 (zI z) = some (μ.1 5 z.toNat) := z_ld (len := 12) (by decide) h0 h1 (by decide)
theorem st_5 {μ : ax_M} {z : Int} {x : Int32} (h0 : 0 ≤ z) (h1 : z < 12) : ax_st ax_sh μ 5 (zI z) x = some (ax_up μ.1 5 z.toNat x, μ.2) := z_st (len := 12) (by decide) h0 h1 (by decide)
theorem at_5 {μ : ax_M} {z : Int} (h0 : 0 ≤ z) (h1 : z < 12) : aJ 846 [.ref 5, .int (zI z)] [] μ = some (some (.int (μ.1 5 z.toNat)), μ) := c_at (len := 12) (by decide) (by decide) h0 h1
theorem pt_5 {μ : ax_M} {z : Int} {x : Int32} (h0 : 0 ≤ z) (h1 : z < 12) : aJ 849 [.ref 5, .int (zI z), .int x] [] μ = some (none, (ax_up μ.1 5 z.toNat x, μ.2)) := c_put (len := 12) (by decide) (by decide) h0 h1
theorem ld_6 {μ : ax_M} {z : Int} (h0 : 0 ≤ z) (h1 : z < 60) : ax_ld ax_sh μ 6 (zI z) = some (μ.1 6 z.toNat) := z_ld (len := 60) (by decide) h0 h1 (by decide)
theorem st_6 {μ : ax_M} {z : Int} {x : Int32} (h0 : 0 ≤ z) (h1 : z < 60) : ax_st ax_sh μ 6 (zI z) x = some (ax_up μ.1 6 z.toNat x, μ.2) := z_st (len := 60) (by decide) h0 h1 (by decide)
theorem at_6 {μ : ax_M} {z : Int} (h0 : 0 ≤ z) (h1 : z < 60) : aJ 846 [.ref 6, .int (zI z)] [] μ = some (some (.int (μ.1 6 z.toNat)), μ) := c_at (len := 60) (by decide) (by decide) h0 h1
theorem pt_6 {μ : ax_M} {z : Int} {x : Int32} (h0 : 0 ≤ z) (h1 : z < 60) : aJ 849 [.ref 6, .int (zI z), .int x] [] μ = some (none, (ax_up μ.1 6 z.toNat x, μ.2)) := c_put (len := 60) (by decide) (by decide) h0 h1
theorem ld_7 {μ : ax_M} {z : Int} (h0 : 0 ≤ z) (h1 : z < 30) : ax_ld ax_sh μ 7 (zI z) = some (μ.1 7 z.toNat) := z_ld (len := 30) (by decide) h0 h1 (by decide)
theorem st_7 {μ : ax_M} {z : Int} {x : Int32} (h0 : 0 ≤ z) (h1 : z < 30) : ax_st ax_sh μ 7 (zI z) x = some (ax_up μ.1 7 z.toNat x, μ.2) := z_st (len := 30) (by decide) h0 h1 (by decide)
theorem at_7 {μ : ax_M} {z : Int} (h0 : 0 ≤ z) (h1 : z < 30) : aJ 846 [.ref 7, .int (zI z)] [] μ = some (some (.int (μ.1 7 z.toNat)), μ) := c_at (len := 30) (by decide) (by decide) h0 h1
theorem pt_7 {μ : ax_M} {z : Int} {x : Int32} (h0 : 0 ≤ z) (h1 : z < 30) : aJ 849 [.ref 7, .int (zI z), .int x] [] μ = some (none, (ax_up μ.1 7 z.toNat x, μ.2)) := c_put (len := 30) (by decide) (by decide) h0 h1
theorem ld_9 {μ : ax_M} {z : Int} (h0 : 0 ≤ z) (h1 : z < 84) : ax_ld8 ax_sh μ 9 (zI z) = some (μ.1 9 z.toNat) := z_ld8 (len := 84) (by decide) h0 h1 (by decide)
theorem st_9 {μ : ax_M} {z : Int} {x : Int32} (h0 : 0 ≤ z) (h1 : z < 84) : ax_st8 ax_sh μ 9 (zI z) x = some (ax_up μ.1 9 z.toNat (vp_nar .byte x), μ.2) := z_st8y (len := 84) (by decide) h0 h1 (by decide)
theorem ld_10 {μ : ax_M} {z : Int} (h0 : 0 ≤ z) (h1 : z < 12) : ax_ld ax_sh μ 10 (zI z) = some (μ.1 10 z.toNat) := z_ld (len := 12) (by decide) h0 h1 (by decide)
theorem st_10 {μ : ax_M} {z : Int} {x : Int32} (h0 : 0 ≤ z) (h1 : z < 12) : ax_st ax_sh μ 10 (zI z) x = some (ax_up μ.1 10 z.toNat x, μ.2) := z_st (len := 12) (by decide) h0 h1 (by decide)
theorem at_10 {μ : ax_M} {z : Int} (h0 : 0 ≤ z) (h1 : z < 12) : aJ 846 [.ref 10, .int (zI z)] [] μ = some (some (.int (μ.1 10 z.toNat)), μ) := c_at (len := 12) (by decide) (by decide) h0 h1
theorem pt_10 {μ : ax_M} {z : Int} {x : Int32} (h0 : 0 ≤ z) (h1 : z < 12) : aJ 849 [.ref 10, .int (zI z), .int x] [] μ = some (none, (ax_up μ.1 10 z.toNat x, μ.2)) := c_put (len := 12) (by decide) (by decide) h0 h1
theorem ld_11 {μ : ax_M} {z : Int} (h0 : 0 ≤ z) (h1 : z < 60) : ax_ld ax_sh μ 11 (zI z) = some (μ.1 11 z.toNat) := z_ld (len := 60) (by decide) h0 h1 (by decide)
theorem st_11 {μ : ax_M} {z : Int} {x : Int32} (h0 : 0 ≤ z) (h1 : z < 60) : ax_st ax_sh μ 11 (zI z) x = some (ax_up μ.1 11 z.toNat x, μ.2) := z_st (len := 60) (by decide) h0 h1 (by decide)
theorem at_11 {μ : ax_M} {z : Int} (h0 : 0 ≤ z) (h1 : z < 60) : aJ 846 [.ref 11, .int (zI z)] [] μ = some (some (.int (μ.1 11 z.toNat)), μ) := c_at (len := 60) (by decide) (by decide) h0 h1
theorem pt_11 {μ : ax_M} {z : Int} {x : Int32} (h0 : 0 ≤ z) (h1 : z < 60) : aJ 849 [.ref 11, .int (zI z), .int x] [] μ = some (none, (ax_up μ.1 11 z.toNat x, μ.2)) := c_put (len := 60) (by decide) (by decide) h0 h1
theorem ld_12 {μ : ax_M} {z : Int} (h0 : 0 ≤ z) (h1 : z < 30) : ax_ld ax_sh μ 12 (zI z) = some (μ.1 12 z.toNat) := z_ld (len := 30) (by decide) h0 h1 (by decide)
theorem st_12 {μ : ax_M} {z : Int} {x : Int32} (h0 : 0 ≤ z) (h1 : z < 30) : ax_st ax_sh μ 12 (zI z) x = some (ax_up μ.1 12 z.toNat x, μ.2) := z_st (len := 30) (by decide) h0 h1 (by decide)
theorem at_12 {μ : ax_M} {z : Int} (h0 : 0 ≤ z) (h1 : z < 30) : aJ 846 [.ref 12, .int (zI z)] [] μ = some (some (.int (μ.1 12 z.toNat)), μ) := c_at (len := 30) (by decide) (by decide) h0 h1
theorem pt_12 {μ : ax_M} {z : Int} {x : Int32} (h0 : 0 ≤ z) (h1 : z < 30) : aJ 849 [.ref 12, .int (zI z), .int x] [] μ = some (none, (ax_up μ.1 12 z.toNat x, μ.2)) := c_put (len := 30) (by decide) (by decide) h0 h1
theorem ld_14 {μ : ax_M} {z : Int} (h0 : 0 ≤ z) (h1 : z < 10) : ax_ld ax_sh μ 14 (zI z) = some (μ.1 14 z.toNat) := z_ld (len := 10) (by decide) h0 h1 (by decide)
theorem st_14 {μ : ax_M} {z : Int} {x : Int32} (h0 : 0 ≤ z) (h1 : z < 10) : ax_st ax_sh μ 14 (zI z) x = some (ax_up μ.1 14 z.toNat x, μ.2) := z_st (len := 10) (by decide) h0 h1 (by decide)
theorem at_14 {μ : ax_M} {z : Int} (h0 : 0 ≤ z) (h1 : z < 10) : aJ 846 [.ref 14, .int (zI z)] [] μ = some (some (.int (μ.1 14 z.toNat)), μ) := c_at (len := 10) (by decide) (by decide) h0 h1
theorem pt_14 {μ : ax_M} {z : Int} {x : Int32} (h0 : 0 ≤ z) (h1 : z < 10) : aJ 849 [.ref 14, .int (zI z), .int x] [] μ = some (none, (ax_up μ.1 14 z.toNat x, μ.2)) := c_put (len := 10) (by decide) (by decide) h0 h1
theorem ld_15 {μ : ax_M} {z : Int} (h0 : 0 ≤ z) (h1 : z < 10) : ax_ld ax_sh μ 15 (zI z) = some (μ.1 15 z.toNat) := z_ld (len := 10) (by decide) h0 h1 (by decide)
theorem st_15 {μ : ax_M} {z : Int} {x : Int32} (h0 : 0 ≤ z) (h1 : z < 10) : ax_st ax_sh μ 15 (zI z) x = some (ax_up μ.1 15 z.toNat x, μ.2) := z_st (len := 10) (by decide) h0 h1 (by decide)
theorem at_15 {μ : ax_M} {z : Int} (h0 : 0 ≤ z) (h1 : z < 10) : aJ 846 [.ref 15, .int (zI z)] [] μ = some (some (.int (μ.1 15 z.toNat)), μ) := c_at (len := 10) (by decide) (by decide) h0 h1
theorem pt_15 {μ : ax_M} {z : Int} {x : Int32} (h0 : 0 ≤ z) (h1 : z < 10) : aJ 849 [.ref 15, .int (zI z), .int x] [] μ = some (none, (ax_up μ.1 15 z.toNat x, μ.2)) := c_put (len := 10) (by decide) (by decide) h0 h1
theorem ld_16 {μ : ax_M} {z : Int} (h0 : 0 ≤ z) (h1 : z < 10) : ax_ld ax_sh μ 16 (zI z) = some (μ.1 16 z.toNat) := z_ld (len := 10) (by decide) h0 h1 (by decide)
theorem st_16 {μ : ax_M} {z : Int} {x : Int32} (h0 : 0 ≤ z) (h1 : z < 10) : ax_st ax_sh μ 16 (zI z) x = some (ax_up μ.1 16 z.toNat x, μ.2) := z_st (len := 10) (by decide) h0 h1 (by decide)
theorem at_16 {μ : ax_M} {z : Int} (h0 : 0 ≤ z) (h1 : z < 10) : aJ 846 [.ref 16, .int (zI z)] [] μ = some (some (.int (μ.1 16 z.toNat)), μ) := c_at (len := 10) (by decide) (by decide) h0 h1
theorem pt_16 {μ : ax_M} {z : Int} {x : Int32} (h0 : 0 ≤ z) (h1 : z < 10) : aJ 849 [.ref 16, .int (zI z), .int x] [] μ = some (none, (ax_up μ.1 16 z.toNat x, μ.2)) := c_put (len := 10) (by decide) (by decide) h0 h1
theorem ld_17 {μ : ax_M} {z : Int} (h0 : 0 ≤ z) (h1 : z < 40) : ax_ld ax_sh μ 17 (zI z) = some (μ.1 17 z.toNat) := z_ld (len := 40) (by decide) h0 h1 (by decide)
theorem st_17 {μ : ax_M} {z : Int} {x : Int32} (h0 : 0 ≤ z) (h1 : z < 40) : ax_st ax_sh μ 17 (zI z) x = some (ax_up μ.1 17 z.toNat x, μ.2) := z_st (len := 40) (by decide) h0 h1 (by decide)
theorem at_17 {μ : ax_M} {z : Int} (h0 : 0 ≤ z) (h1 : z < 40) : aJ 846 [.ref 17, .int (zI z)] [] μ = some (some (.int (μ.1 17 z.toNat)), μ) := c_at (len := 40) (by decide) (by decide) h0 h1
theorem pt_17 {μ : ax_M} {z : Int} {x : Int32} (h0 : 0 ≤ z) (h1 : z < 40) : aJ 849 [.ref 17, .int (zI z), .int x] [] μ = some (none, (ax_up μ.1 17 z.toNat x, μ.2)) := c_put (len := 40) (by decide) (by decide) h0 h1
theorem ld_18 {μ : ax_M} {z : Int} (h0 : 0 ≤ z) (h1 : z < 40) : ax_ld ax_sh μ 18 (zI z) = some (μ.1 18 z.toNat) := z_ld (len := 40) (by decide) h0 h1 (by decide)
theorem st_18 {μ : ax_M} {z : Int} {x : Int32} (h0 : 0 ≤ z) (h1 : z < 40) : ax_st ax_sh μ 18 (zI z) x = some (ax_up μ.1 18 z.toNat x, μ.2) := z_st (len := 40) (by decide) h0 h1 (by decide)
theorem at_18 {μ : ax_M} {z : Int} (h0 : 0 ≤ z) (h1 : z < 40) : aJ 846 [.ref 18, .int (zI z)] [] μ = some (some (.int (μ.1 18 z.toNat)), μ) := c_at (len := 40) (by decide) (by decide) h0 h1
theorem pt_18 {μ : ax_M} {z : Int} {x : Int32} (h0 : 0 ≤ z) (h1 : z < 40) : aJ 849 [.ref 18, .int (zI z), .int x] [] μ = some (none, (ax_up μ.1 18 z.toNat x, μ.2)) := c_put (len := 40) (by decide) (by decide) h0 h1
theorem ld_19 {μ : ax_M} {z : Int} (h0 : 0 ≤ z) (h1 : z < 60) : ax_ld ax_sh μ 19 (zI z) = some (μ.1 19 z.toNat) := z_ld (len := 60) (by decide) h0 h1 (by decide)
theorem st_19 {μ : ax_M} {z : Int} {x : Int32} (h0 : 0 ≤ z) (h1 : z < 60) : ax_st ax_sh μ 19 (zI z) x = some (ax_up μ.1 19 z.toNat x, μ.2) := z_st (len := 60) (by decide) h0 h1 (by decide)
theorem at_19 {μ : ax_M} {z : Int} (h0 : 0 ≤ z) (h1 : z < 60) : aJ 846 [.ref 19, .int (zI z)] [] μ = some (some (.int (μ.1 19 z.toNat)), μ) := c_at (len := 60) (by decide) (by decide) h0 h1
theorem pt_19 {μ : ax_M} {z : Int} {x : Int32} (h0 : 0 ≤ z) (h1 : z < 60) : aJ 849 [.ref 19, .int (zI z), .int x] [] μ = some (none, (ax_up μ.1 19 z.toNat x, μ.2)) := c_put (len := 60) (by decide) (by decide) h0 h1
theorem ld_20 {μ : ax_M} {z : Int} (h0 : 0 ≤ z) (h1 : z < 60) : ax_ld ax_sh μ 20 (zI z) = some (μ.1 20 z.toNat) := z_ld (len := 60) (by decide) h0 h1 (by decide)
theorem st_20 {μ : ax_M} {z : Int} {x : Int32} (h0 : 0 ≤ z) (h1 : z < 60) : ax_st ax_sh μ 20 (zI z) x = some (ax_up μ.1 20 z.toNat x, μ.2) := z_st (len := 60) (by decide) h0 h1 (by decide)
theorem at_20 {μ : ax_M} {z : Int} (h0 : 0 ≤ z) (h1 : z < 60) : aJ 846 [.ref 20, .int (zI z)] [] μ = some (some (.int (μ.1 20 z.toNat)), μ) := c_at (len := 60) (by decide) (by decide) h0 h1
theorem pt_20 {μ : ax_M} {z : Int} {x : Int32} (h0 : 0 ≤ z) (h1 : z < 60) : aJ 849 [.ref 20, .int (zI z), .int x] [] μ = some (none, (ax_up μ.1 20 z.toNat x, μ.2)) := c_put (len := 60) (by decide) (by decide) h0 h1
theorem ld_22 {μ : ax_M} {z : Int} (h0 : 0 ≤ z) (h1 : z < 10) : ax_ld ax_sh μ 22 (zI z) = some (μ.1 22 z.toNat) := z_ld (len := 10) (by decide) h0 h1 (by decide)
theorem st_22 {μ : ax_M} {z : Int} {x : Int32} (h0 : 0 ≤ z) (h1 : z < 10) : ax_st ax_sh μ 22 (zI z) x = some (ax_up μ.1 22 z.toNat x, μ.2) := z_st (len := 10) (by decide) h0 h1 (by decide)
theorem at_22 {μ : ax_M} {z : Int} (h0 : 0 ≤ z) (h1 : z < 10) : aJ 846 [.ref 22, .int (zI z)] [] μ = some (some (.int (μ.1 22 z.toNat)), μ) := c_at (len := 10) (by decide) (by decide) h0 h1
theorem pt_22 {μ : ax_M} {z : Int} {x : Int32} (h0 : 0 ≤ z) (h1 : z < 10) : aJ 849 [.ref 22, .int (zI z), .int x] [] μ = some (none, (ax_up μ.1 22 z.toNat x, μ.2)) := c_put (len := 10) (by decide) (by decide) h0 h1
theorem ld_23 {μ : ax_M} {z : Int} (h0 : 0 ≤ z) (h1 : z < 10) : ax_ld ax_sh μ 23 (zI z) = some (μ.1 23 z.toNat) := z_ld (len := 10) (by decide) h0 h1 (by decide)
theorem st_23 {μ : ax_M} {z : Int} {x : Int32} (h0 : 0 ≤ z) (h1 : z < 10) : ax_st ax_sh μ 23 (zI z) x = some (ax_up μ.1 23 z.toNat x, μ.2) := z_st (len := 10) (by decide) h0 h1 (by decide)
theorem at_23 {μ : ax_M} {z : Int} (h0 : 0 ≤ z) (h1 : z < 10) : aJ 846 [.ref 23, .int (zI z)] [] μ = some (some (.int (μ.1 23 z.toNat)), μ) := c_at (len := 10) (by decide) (by decide) h0 h1
theorem pt_23 {μ : ax_M} {z : Int} {x : Int32} (h0 : 0 ≤ z) (h1 : z < 10) : aJ 849 [.ref 23, .int (zI z), .int x] [] μ = some (none, (ax_up μ.1 23 z.toNat x, μ.2)) := c_put (len := 10) (by decide) (by decide) h0 h1
theorem ld_24 {μ : ax_M} {z : Int} (h0 : 0 ≤ z) (h1 : z < 10) : ax_ld ax_sh μ 24 (zI z) = some (μ.1 24 z.toNat) := z_ld (len := 10) (by decide) h0 h1 (by decide)
theorem st_24 {μ : ax_M} {z : Int} {x : Int32} (h0 : 0 ≤ z) (h1 : z < 10) : ax_st ax_sh μ 24 (zI z) x = some (ax_up μ.1 24 z.toNat x, μ.2) := z_st (len := 10) (by decide) h0 h1 (by decide)
theorem at_24 {μ : ax_M} {z : Int} (h0 : 0 ≤ z) (h1 : z < 10) : aJ 846 [.ref 24, .int (zI z)] [] μ = some (some (.int (μ.1 24 z.toNat)), μ) := c_at (len := 10) (by decide) (by decide) h0 h1
theorem pt_24 {μ : ax_M} {z : Int} {x : Int32} (h0 : 0 ≤ z) (h1 : z < 10) : aJ 849 [.ref 24, .int (zI z), .int x] [] μ = some (none, (ax_up μ.1 24 z.toNat x, μ.2)) := c_put (len := 10) (by decide) (by decide) h0 h1
theorem ld_25 {μ : ax_M} {z : Int} (h0 : 0 ≤ z) (h1 : z < 40) : ax_ld ax_sh μ 25 (zI z) = some (μ.1 25 z.toNat) := z_ld (len := 40) (by decide) h0 h1 (by decide)
theorem st_25 {μ : ax_M} {z : Int} {x : Int32} (h0 : 0 ≤ z) (h1 : z < 40) : ax_st ax_sh μ 25 (zI z) x = some (ax_up μ.1 25 z.toNat x, μ.2) := z_st (len := 40) (by decide) h0 h1 (by decide)
theorem at_25 {μ : ax_M} {z : Int} (h0 : 0 ≤ z) (h1 : z < 40) : aJ 846 [.ref 25, .int (zI z)] [] μ = some (some (.int (μ.1 25 z.toNat)), μ) := c_at (len := 40) (by decide) (by decide) h0 h1
theorem pt_25 {μ : ax_M} {z : Int} {x : Int32} (h0 : 0 ≤ z) (h1 : z < 40) : aJ 849 [.ref 25, .int (zI z), .int x] [] μ = some (none, (ax_up μ.1 25 z.toNat x, μ.2)) := c_put (len := 40) (by decide) (by decide) h0 h1
theorem ld_26 {μ : ax_M} {z : Int} (h0 : 0 ≤ z) (h1 : z < 40) : ax_ld ax_sh μ 26 (zI z) = some (μ.1 26 z.toNat) := z_ld (len := 40) (by decide) h0 h1 (by decide)
theorem st_26 {μ : ax_M} {z : Int} {x : Int32} (h0 : 0 ≤ z) (h1 : z < 40) : ax_st ax_sh μ 26 (zI z) x = some (ax_up μ.1 26 z.toNat x, μ.2) := z_st (len := 40) (by decide) h0 h1 (by decide)
theorem at_26 {μ : ax_M} {z : Int} (h0 : 0 ≤ z) (h1 : z < 40) : aJ 846 [.ref 26, .int (zI z)] [] μ = some (some (.int (μ.1 26 z.toNat)), μ) := c_at (len := 40) (by decide) (by decide) h0 h1
theorem pt_26 {μ : ax_M} {z : Int} {x : Int32} (h0 : 0 ≤ z) (h1 : z < 40) : aJ 849 [.ref 26, .int (zI z), .int x] [] μ = some (none, (ax_up μ.1 26 z.toNat x, μ.2)) := c_put (len := 40) (by decide) (by decide) h0 h1
theorem ld_27 {μ : ax_M} {z : Int} (h0 : 0 ≤ z) (h1 : z < 60) : ax_ld ax_sh μ 27 (zI z) = some (μ.1 27 z.toNat) := z_ld (len := 60) (by decide) h0 h1 (by decide)
theorem st_27 {μ : ax_M} {z : Int} {x : Int32} (h0 : 0 ≤ z) (h1 : z < 60) : ax_st ax_sh μ 27 (zI z) x = some (ax_up μ.1 27 z.toNat x, μ.2) := z_st (len := 60) (by decide) h0 h1 (by decide)
theorem at_27 {μ : ax_M} {z : Int} (h0 : 0 ≤ z) (h1 : z < 60) : aJ 846 [.ref 27, .int (zI z)] [] μ = some (some (.int (μ.1 27 z.toNat)), μ) := c_at (len := 60) (by decide) (by decide) h0 h1
theorem pt_27 {μ : ax_M} {z : Int} {x : Int32} (h0 : 0 ≤ z) (h1 : z < 60) : aJ 849 [.ref 27, .int (zI z), .int x] [] μ = some (none, (ax_up μ.1 27 z.toNat x, μ.2)) := c_put (len := 60) (by decide) (by decide) h0 h1
theorem ld_28 {μ : ax_M} {z : Int} (h0 : 0 ≤ z) (h1 : z < 60) : ax_ld ax_sh μ 28 (zI z) = some (μ.1 28 z.toNat) := z_ld (len := 60) (by decide) h0 h1 (by decide)
theorem st_28 {μ : ax_M} {z : Int} {x : Int32} (h0 : 0 ≤ z) (h1 : z < 60) : ax_st ax_sh μ 28 (zI z) x = some (ax_up μ.1 28 z.toNat x, μ.2) := z_st (len := 60) (by decide) h0 h1 (by decide)
theorem at_28 {μ : ax_M} {z : Int} (h0 : 0 ≤ z) (h1 : z < 60) : aJ 846 [.ref 28, .int (zI z)] [] μ = some (some (.int (μ.1 28 z.toNat)), μ) := c_at (len := 60) (by decide) (by decide) h0 h1
theorem pt_28 {μ : ax_M} {z : Int} {x : Int32} (h0 : 0 ≤ z) (h1 : z < 60) : aJ 849 [.ref 28, .int (zI z), .int x] [] μ = some (none, (ax_up μ.1 28 z.toNat x, μ.2)) := c_put (len := 60) (by decide) (by decide) h0 h1
theorem ld_30 {μ : ax_M} {z : Int} (h0 : 0 ≤ z) (h1 : z < 30) : ax_ld ax_sh μ 30 (zI z) = some (μ.1 30 z.toNat) := z_ld (len := 30) (by decide) h0 h1 (by decide)
theorem st_30 {μ : ax_M} {z : Int} {x : Int32} (h0 : 0 ≤ z) (h1 : z < 30) : ax_st ax_sh μ 30 (zI z) x = some (ax_up μ.1 30 z.toNat x, μ.2) := z_st (len := 30) (by decide) h0 h1 (by decide)
theorem at_30 {μ : ax_M} {z : Int} (h0 : 0 ≤ z) (h1 : z < 30) : aJ 846 [.ref 30, .int (zI z)] [] μ = some (some (.int (μ.1 30 z.toNat)), μ) := c_at (len := 30) (by decide) (by decide) h0 h1
theorem pt_30 {μ : ax_M} {z : Int} {x : Int32} (h0 : 0 ≤ z) (h1 : z < 30) : aJ 849 [.ref 30, .int (zI z), .int x] [] μ = some (none, (ax_up μ.1 30 z.toNat x, μ.2)) := c_put (len := 30) (by decide) (by decide) h0 h1
theorem ld_31 {μ : ax_M} {z : Int} (h0 : 0 ≤ z) (h1 : z < 132) : ax_ld ax_sh μ 31 (zI z) = some (μ.1 31 z.toNat) := z_ld (len := 132) (by decide) h0 h1 (by decide)
theorem st_31 {μ : ax_M} {z : Int} {x : Int32} (h0 : 0 ≤ z) (h1 : z < 132) : ax_st ax_sh μ 31 (zI z) x = some (ax_up μ.1 31 z.toNat x, μ.2) := z_st (len := 132) (by decide) h0 h1 (by decide)
theorem at_31 {μ : ax_M} {z : Int} (h0 : 0 ≤ z) (h1 : z < 132) : aJ 846 [.ref 31, .int (zI z)] [] μ = some (some (.int (μ.1 31 z.toNat)), μ) := c_at (len := 132) (by decide) (by decide) h0 h1
theorem pt_31 {μ : ax_M} {z : Int} {x : Int32} (h0 : 0 ≤ z) (h1 : z < 132) : aJ 849 [.ref 31, .int (zI z), .int x] [] μ = some (none, (ax_up μ.1 31 z.toNat x, μ.2)) := c_put (len := 132) (by decide) (by decide) h0 h1
theorem ld_32 {μ : ax_M} {z : Int} (h0 : 0 ≤ z) (h1 : z < 60) : ax_ld ax_sh μ 32 (zI z) = some (μ.1 32 z.toNat) := z_ld (len := 60) (by decide) h0 h1 (by decide)
theorem st_32 {μ : ax_M} {z : Int} {x : Int32} (h0 : 0 ≤ z) (h1 : z < 60) : ax_st ax_sh μ 32 (zI z) x = some (ax_up μ.1 32 z.toNat x, μ.2) := z_st (len := 60) (by decide) h0 h1 (by decide)
theorem at_32 {μ : ax_M} {z : Int} (h0 : 0 ≤ z) (h1 : z < 60) : aJ 846 [.ref 32, .int (zI z)] [] μ = some (some (.int (μ.1 32 z.toNat)), μ) := c_at (len := 60) (by decide) (by decide) h0 h1
theorem pt_32 {μ : ax_M} {z : Int} {x : Int32} (h0 : 0 ≤ z) (h1 : z < 60) : aJ 849 [.ref 32, .int (zI z), .int x] [] μ = some (none, (ax_up μ.1 32 z.toNat x, μ.2)) := c_put (len := 60) (by decide) (by decide) h0 h1
theorem ld_33 {μ : ax_M} {z : Int} (h0 : 0 ≤ z) (h1 : z < 2048) : ax_ld ax_sh μ 33 (zI z) = some (μ.1 33 z.toNat) := z_ld (len := 2048) (by decide) h0 h1 (by decide)
theorem st_33 {μ : ax_M} {z : Int} {x : Int32} (h0 : 0 ≤ z) (h1 : z < 2048) : ax_st ax_sh μ 33 (zI z) x = some (ax_up μ.1 33 z.toNat x, μ.2) := z_st (len := 2048) (by decide) h0 h1 (by decide)
theorem at_33 {μ : ax_M} {z : Int} (h0 : 0 ≤ z) (h1 : z < 2048) : aJ 846 [.ref 33, .int (zI z)] [] μ = some (some (.int (μ.1 33 z.toNat)), μ) := c_at (len := 2048) (by decide) (by decide) h0 h1
theorem pt_33 {μ : ax_M} {z : Int} {x : Int32} (h0 : 0 ≤ z) (h1 : z < 2048) : aJ 849 [.ref 33, .int (zI z), .int x] [] μ = some (none, (ax_up μ.1 33 z.toNat x, μ.2)) := c_put (len := 2048) (by decide) (by decide) h0 h1
theorem ld_34 {μ : ax_M} {z : Int} (h0 : 0 ≤ z) (h1 : z < 60) : ax_ld ax_sh μ 34 (zI z) = some (μ.1 34 z.toNat) := z_ld (len := 60) (by decide) h0 h1 (by decide)
theorem st_34 {μ : ax_M} {z : Int} {x : Int32} (h0 : 0 ≤ z) (h1 : z < 60) : ax_st ax_sh μ 34 (zI z) x = some (ax_up μ.1 34 z.toNat x, μ.2) := z_st (len := 60) (by decide) h0 h1 (by decide)
theorem at_34 {μ : ax_M} {z : Int} (h0 : 0 ≤ z) (h1 : z < 60) : aJ 846 [.ref 34, .int (zI z)] [] μ = some (some (.int (μ.1 34 z.toNat)), μ) := c_at (len := 60) (by decide) (by decide) h0 h1
theorem pt_34 {μ : ax_M} {z : Int} {x : Int32} (h0 : 0 ≤ z) (h1 : z < 60) : aJ 849 [.ref 34, .int (zI z), .int x] [] μ = some (none, (ax_up μ.1 34 z.toNat x, μ.2)) := c_put (len := 60) (by decide) (by decide) h0 h1
theorem ld_35 {μ : ax_M} {z : Int} (h0 : 0 ≤ z) (h1 : z < 60) : ax_ld ax_sh μ 35 (zI z) = some (μ.1 35 z.toNat) := z_ld (len := 60) (by decide) h0 h1 (by decide)
theorem st_35 {μ : ax_M} {z : Int} {x : Int32} (h0 : 0 ≤ z) (h1 : z < 60) : ax_st ax_sh μ 35 (zI z) x = some (ax_up μ.1 35 z.toNat x, μ.2) := z_st (len := 60) (by decide) h0 h1 (by decide)
theorem at_35 {μ : ax_M} {z : Int} (h0 : 0 ≤ z) (h1 : z < 60) : aJ 846 [.ref 35, .int (zI z)] [] μ = some (some (.int (μ.1 35 z.toNat)), μ) := c_at (len := 60) (by decide) (by decide) h0 h1
theorem pt_35 {μ : ax_M} {z : Int} {x : Int32} (h0 : 0 ≤ z) (h1 : z < 60) : aJ 849 [.ref 35, .int (zI z), .int x] [] μ = some (none, (ax_up μ.1 35 z.toNat x, μ.2)) := c_put (len := 60) (by decide) (by decide) h0 h1
theorem ld_36 {μ : ax_M} {z : Int} (h0 : 0 ≤ z) (h1 : z < 60) : ax_ld ax_sh μ 36 (zI z) = some (μ.1 36 z.toNat) := z_ld (len := 60) (by decide) h0 h1 (by decide)
theorem st_36 {μ : ax_M} {z : Int} {x : Int32} (h0 : 0 ≤ z) (h1 : z < 60) : ax_st ax_sh μ 36 (zI z) x = some (ax_up μ.1 36 z.toNat x, μ.2) := z_st (len := 60) (by decide) h0 h1 (by decide)
theorem at_36 {μ : ax_M} {z : Int} (h0 : 0 ≤ z) (h1 : z < 60) : aJ 846 [.ref 36, .int (zI z)] [] μ = some (some (.int (μ.1 36 z.toNat)), μ) := c_at (len := 60) (by decide) (by decide) h0 h1
theorem pt_36 {μ : ax_M} {z : Int} {x : Int32} (h0 : 0 ≤ z) (h1 : z < 60) : aJ 849 [.ref 36, .int (zI z), .int x] [] μ = some (none, (ax_up μ.1 36 z.toNat x, μ.2)) := c_put (len := 60) (by decide) (by decide) h0 h1
theorem ld_37 {μ : ax_M} {z : Int} (h0 : 0 ≤ z) (h1 : z < 60) : ax_ld ax_sh μ 37 (zI z) = some (μ.1 37 z.toNat) := z_ld (len := 60) (by decide) h0 h1 (by decide)
theorem st_37 {μ : ax_M} {z : Int} {x : Int32} (h0 : 0 ≤ z) (h1 : z < 60) : ax_st ax_sh μ 37 (zI z) x = some (ax_up μ.1 37 z.toNat x, μ.2) := z_st (len := 60) (by decide) h0 h1 (by decide)
theorem at_37 {μ : ax_M} {z : Int} (h0 : 0 ≤ z) (h1 : z < 60) : aJ 846 [.ref 37, .int (zI z)] [] μ = some (some (.int (μ.1 37 z.toNat)), μ) := c_at (len := 60) (by decide) (by decide) h0 h1
theorem pt_37 {μ : ax_M} {z : Int} {x : Int32} (h0 : 0 ≤ z) (h1 : z < 60) : aJ 849 [.ref 37, .int (zI z), .int x] [] μ = some (none, (ax_up μ.1 37 z.toNat x, μ.2)) := c_put (len := 60) (by decide) (by decide) h0 h1
theorem ld_38 {μ : ax_M} {z : Int} (h0 : 0 ≤ z) (h1 : z < 256) : ax_ld ax_sh μ 38 (zI z) = some (μ.1 38 z.toNat) := z_ld (len := 256) (by decide) h0 h1 (by decide)
theorem st_38 {μ : ax_M} {z : Int} {x : Int32} (h0 : 0 ≤ z) (h1 : z < 256) : ax_st ax_sh μ 38 (zI z) x = some (ax_up μ.1 38 z.toNat x, μ.2) := z_st (len := 256) (by decide) h0 h1 (by decide)
theorem at_38 {μ : ax_M} {z : Int} (h0 : 0 ≤ z) (h1 : z < 256) : aJ 846 [.ref 38, .int (zI z)] [] μ = some (some (.int (μ.1 38 z.toNat)), μ) := c_at (len := 256) (by decide) (by decide) h0 h1
theorem pt_38 {μ : ax_M} {z : Int} {x : Int32} (h0 : 0 ≤ z) (h1 : z < 256) : aJ 849 [.ref 38, .int (zI z), .int x] [] μ = some (none, (ax_up μ.1 38 z.toNat x, μ.2)) := c_put (len := 256) (by decide) (by decide) h0 h1
theorem ld_39 {μ : ax_M} {z : Int} (h0 : 0 ≤ z) (h1 : z < 7) : ax_ld ax_sh μ 39 (zI z) = some (μ.1 39 z.toNat) := z_ld (len := 7) (by decide) h0 h1 (by decide)
theorem st_39 {μ : ax_M} {z : Int} {x : Int32} (h0 : 0 ≤ z) (h1 : z < 7) : ax_st ax_sh μ 39 (zI z) x = some (ax_up μ.1 39 z.toNat x, μ.2) := z_st (len := 7) (by decide) h0 h1 (by decide)
theorem at_39 {μ : ax_M} {z : Int} (h0 : 0 ≤ z) (h1 : z < 7) : aJ 846 [.ref 39, .int (zI z)] [] μ = some (some (.int (μ.1 39 z.toNat)), μ) := c_at (len := 7) (by decide) (by decide) h0 h1
theorem pt_39 {μ : ax_M} {z : Int} {x : Int32} (h0 : 0 ≤ z) (h1 : z < 7) : aJ 849 [.ref 39, .int (zI z), .int x] [] μ = some (none, (ax_up μ.1 39 z.toNat x, μ.2)) := c_put (len := 7) (by decide) (by decide) h0 h1
theorem ld_41 {μ : ax_M} {z : Int} (h0 : 0 ≤ z) (h1 : z < 30) : ax_ld ax_sh μ 41 (zI z) = some (μ.1 41 z.toNat) := z_ld (len := 30) (by decide) h0 h1 (by decide)
theorem st_41 {μ : ax_M} {z : Int} {x : Int32} (h0 : 0 ≤ z) (h1 : z < 30) : ax_st ax_sh μ 41 (zI z) x = some (ax_up μ.1 41 z.toNat x, μ.2) := z_st (len := 30) (by decide) h0 h1 (by decide)
theorem at_41 {μ : ax_M} {z : Int} (h0 : 0 ≤ z) (h1 : z < 30) : aJ 846 [.ref 41, .int (zI z)] [] μ = some (some (.int (μ.1 41 z.toNat)), μ) := c_at (len := 30) (by decide) (by decide) h0 h1
theorem pt_41 {μ : ax_M} {z : Int} {x : Int32} (h0 : 0 ≤ z) (h1 : z < 30) : aJ 849 [.ref 41, .int (zI z), .int x] [] μ = some (none, (ax_up μ.1 41 z.toNat x, μ.2)) := c_put (len := 30) (by decide) (by decide) h0 h1
theorem ld_42 {μ : ax_M} {z : Int} (h0 : 0 ≤ z) (h1 : z < 132) : ax_ld ax_sh μ 42 (zI z) = some (μ.1 42 z.toNat) := z_ld (len := 132) (by decide) h0 h1 (by decide)
theorem st_42 {μ : ax_M} {z : Int} {x : Int32} (h0 : 0 ≤ z) (h1 : z < 132) : ax_st ax_sh μ 42 (zI z) x = some (ax_up μ.1 42 z.toNat x, μ.2) := z_st (len := 132) (by decide) h0 h1 (by decide)
theorem at_42 {μ : ax_M} {z : Int} (h0 : 0 ≤ z) (h1 : z < 132) : aJ 846 [.ref 42, .int (zI z)] [] μ = some (some (.int (μ.1 42 z.toNat)), μ) := c_at (len := 132) (by decide) (by decide) h0 h1
theorem pt_42 {μ : ax_M} {z : Int} {x : Int32} (h0 : 0 ≤ z) (h1 : z < 132) : aJ 849 [.ref 42, .int (zI z), .int x] [] μ = some (none, (ax_up μ.1 42 z.toNat x, μ.2)) := c_put (len := 132) (by decide) (by decide) h0 h1
theorem ld_43 {μ : ax_M} {z : Int} (h0 : 0 ≤ z) (h1 : z < 60) : ax_ld ax_sh μ 43 (zI z) = some (μ.1 43 z.toNat) := z_ld (len := 60) (by decide) h0 h1 (by decide)
theorem st_43 {μ : ax_M} {z : Int} {x : Int32} (h0 : 0 ≤ z) (h1 : z < 60) : ax_st ax_sh μ 43 (zI z) x = some (ax_up μ.1 43 z.toNat x, μ.2) := z_st (len := 60) (by decide) h0 h1 (by decide)
theorem at_43 {μ : ax_M} {z : Int} (h0 : 0 ≤ z) (h1 : z < 60) : aJ 846 [.ref 43, .int (zI z)] [] μ = some (some (.int (μ.1 43 z.toNat)), μ) := c_at (len := 60) (by decide) (by decide) h0 h1
theorem pt_43 {μ : ax_M} {z : Int} {x : Int32} (h0 : 0 ≤ z) (h1 : z < 60) : aJ 849 [.ref 43, .int (zI z), .int x] [] μ = some (none, (ax_up μ.1 43 z.toNat x, μ.2)) := c_put (len := 60) (by decide) (by decide) h0 h1
theorem ld_44 {μ : ax_M} {z : Int} (h0 : 0 ≤ z) (h1 : z < 2048) : ax_ld ax_sh μ 44 (zI z) = some (μ.1 44 z.toNat) := z_ld (len := 2048) (by decide) h0 h1 (by decide)
theorem st_44 {μ : ax_M} {z : Int} {x : Int32} (h0 : 0 ≤ z) (h1 : z < 2048) : ax_st ax_sh μ 44 (zI z) x = some (ax_up μ.1 44 z.toNat x, μ.2) := z_st (len := 2048) (by decide) h0 h1 (by decide)
theorem at_44 {μ : ax_M} {z : Int} (h0 : 0 ≤ z) (h1 : z < 2048) : aJ 846 [.ref 44, .int (zI z)] [] μ = some (some (.int (μ.1 44 z.toNat)), μ) := c_at (len := 2048) (by decide) (by decide) h0 h1
theorem pt_44 {μ : ax_M} {z : Int} {x : Int32} (h0 : 0 ≤ z) (h1 : z < 2048) : aJ 849 [.ref 44, .int (zI z), .int x] [] μ = some (none, (ax_up μ.1 44 z.toNat x, μ.2)) := c_put (len := 2048) (by decide) (by decide) h0 h1
theorem ld_45 {μ : ax_M} {z : Int} (h0 : 0 ≤ z) (h1 : z < 60) : ax_ld ax_sh μ 45 (zI z) = some (μ.1 45 z.toNat) := z_ld (len := 60) (by decide) h0 h1 (by decide)
theorem st_45 {μ : ax_M} {z : Int} {x : Int32} (h0 : 0 ≤ z) (h1 : z < 60) : ax_st ax_sh μ 45 (zI z) x = some (ax_up μ.1 45 z.toNat x, μ.2) := z_st (len := 60) (by decide) h0 h1 (by decide)
theorem at_45 {μ : ax_M} {z : Int} (h0 : 0 ≤ z) (h1 : z < 60) : aJ 846 [.ref 45, .int (zI z)] [] μ = some (some (.int (μ.1 45 z.toNat)), μ) := c_at (len := 60) (by decide) (by decide) h0 h1
theorem pt_45 {μ : ax_M} {z : Int} {x : Int32} (h0 : 0 ≤ z) (h1 : z < 60) : aJ 849 [.ref 45, .int (zI z), .int x] [] μ = some (none, (ax_up μ.1 45 z.toNat x, μ.2)) := c_put (len := 60) (by decide) (by decide) h0 h1
theorem ld_46 {μ : ax_M} {z : Int} (h0 : 0 ≤ z) (h1 : z < 60) : ax_ld ax_sh μ 46 (zI z) = some (μ.1 46 z.toNat) := z_ld (len := 60) (by decide) h0 h1 (by decide)
theorem st_46 {μ : ax_M} {z : Int} {x : Int32} (h0 : 0 ≤ z) (h1 : z < 60) : ax_st ax_sh μ 46 (zI z) x = some (ax_up μ.1 46 z.toNat x, μ.2) := z_st (len := 60) (by decide) h0 h1 (by decide)
theorem at_46 {μ : ax_M} {z : Int} (h0 : 0 ≤ z) (h1 : z < 60) : aJ 846 [.ref 46, .int (zI z)] [] μ = some (some (.int (μ.1 46 z.toNat)), μ) := c_at (len := 60) (by decide) (by decide) h0 h1
theorem pt_46 {μ : ax_M} {z : Int} {x : Int32} (h0 : 0 ≤ z) (h1 : z < 60) : aJ 849 [.ref 46, .int (zI z), .int x] [] μ = some (none, (ax_up μ.1 46 z.toNat x, μ.2)) := c_put (len := 60) (by decide) (by decide) h0 h1
theorem ld_47 {μ : ax_M} {z : Int} (h0 : 0 ≤ z) (h1 : z < 60) : ax_ld ax_sh μ 47 (zI z) = some (μ.1 47 z.toNat) := z_ld (len := 60) (by decide) h0 h1 (by decide)
theorem st_47 {μ : ax_M} {z : Int} {x : Int32} (h0 : 0 ≤ z) (h1 : z < 60) : ax_st ax_sh μ 47 (zI z) x = some (ax_up μ.1 47 z.toNat x, μ.2) := z_st (len := 60) (by decide) h0 h1 (by decide)
theorem at_47 {μ : ax_M} {z : Int} (h0 : 0 ≤ z) (h1 : z < 60) : aJ 846 [.ref 47, .int (zI z)] [] μ = some (some (.int (μ.1 47 z.toNat)), μ) := c_at (len := 60) (by decide) (by decide) h0 h1
theorem pt_47 {μ : ax_M} {z : Int} {x : Int32} (h0 : 0 ≤ z) (h1 : z < 60) : aJ 849 [.ref 47, .int (zI z), .int x] [] μ = some (none, (ax_up μ.1 47 z.toNat x, μ.2)) := c_put (len := 60) (by decide) (by decide) h0 h1
theorem ld_48 {μ : ax_M} {z : Int} (h0 : 0 ≤ z) (h1 : z < 60) : ax_ld ax_sh μ 48 (zI z) = some (μ.1 48 z.toNat) := z_ld (len := 60) (by decide) h0 h1 (by decide)
theorem st_48 {μ : ax_M} {z : Int} {x : Int32} (h0 : 0 ≤ z) (h1 : z < 60) : ax_st ax_sh μ 48 (zI z) x = some (ax_up μ.1 48 z.toNat x, μ.2) := z_st (len := 60) (by decide) h0 h1 (by decide)
theorem at_48 {μ : ax_M} {z : Int} (h0 : 0 ≤ z) (h1 : z < 60) : aJ 846 [.ref 48, .int (zI z)] [] μ = some (some (.int (μ.1 48 z.toNat)), μ) := c_at (len := 60) (by decide) (by decide) h0 h1
theorem pt_48 {μ : ax_M} {z : Int} {x : Int32} (h0 : 0 ≤ z) (h1 : z < 60) : aJ 849 [.ref 48, .int (zI z), .int x] [] μ = some (none, (ax_up μ.1 48 z.toNat x, μ.2)) := c_put (len := 60) (by decide) (by decide) h0 h1
theorem ld_49 {μ : ax_M} {z : Int} (h0 : 0 ≤ z) (h1 : z < 256) : ax_ld ax_sh μ 49 (zI z) = some (μ.1 49 z.toNat) := z_ld (len := 256) (by decide) h0 h1 (by decide)
theorem st_49 {μ : ax_M} {z : Int} {x : Int32} (h0 : 0 ≤ z) (h1 : z < 256) : ax_st ax_sh μ 49 (zI z) x = some (ax_up μ.1 49 z.toNat x, μ.2) := z_st (len := 256) (by decide) h0 h1 (by decide)
theorem at_49 {μ : ax_M} {z : Int} (h0 : 0 ≤ z) (h1 : z < 256) : aJ 846 [.ref 49, .int (zI z)] [] μ = some (some (.int (μ.1 49 z.toNat)), μ) := c_at (len := 256) (by decide) (by decide) h0 h1
theorem pt_49 {μ : ax_M} {z : Int} {x : Int32} (h0 : 0 ≤ z) (h1 : z < 256) : aJ 849 [.ref 49, .int (zI z), .int x] [] μ = some (none, (ax_up μ.1 49 z.toNat x, μ.2)) := c_put (len := 256) (by decide) (by decide) h0 h1
theorem ld_50 {μ : ax_M} {z : Int} (h0 : 0 ≤ z) (h1 : z < 7) : ax_ld ax_sh μ 50 (zI z) = some (μ.1 50 z.toNat) := z_ld (len := 7) (by decide) h0 h1 (by decide)
theorem st_50 {μ : ax_M} {z : Int} {x : Int32} (h0 : 0 ≤ z) (h1 : z < 7) : ax_st ax_sh μ 50 (zI z) x = some (ax_up μ.1 50 z.toNat x, μ.2) := z_st (len := 7) (by decide) h0 h1 (by decide)
theorem at_50 {μ : ax_M} {z : Int} (h0 : 0 ≤ z) (h1 : z < 7) : aJ 846 [.ref 50, .int (zI z)] [] μ = some (some (.int (μ.1 50 z.toNat)), μ) := c_at (len := 7) (by decide) (by decide) h0 h1
theorem pt_50 {μ : ax_M} {z : Int} {x : Int32} (h0 : 0 ≤ z) (h1 : z < 7) : aJ 849 [.ref 50, .int (zI z), .int x] [] μ = some (none, (ax_up μ.1 50 z.toNat x, μ.2)) := c_put (len := 7) (by decide) (by decide) h0 h1
theorem ld_154 {μ : ax_M} {z : Int} (h0 : 0 ≤ z) (h1 : z < 84) : ax_ld8 ax_sh μ 154 (zI z) = some (μ.1 154 z.toNat) := z_ld8 (len := 84) (by decide) h0 h1 (by decide)
theorem st_154 {μ : ax_M} {z : Int} {x : Int32} (h0 : 0 ≤ z) (h1 : z < 84) : ax_st8 ax_sh μ 154 (zI z) x = some (ax_up μ.1 154 z.toNat (vp_nar .byte x), μ.2) := z_st8y (len := 84) (by decide) h0 h1 (by decide)
theorem ld_155 {μ : ax_M} {z : Int} (h0 : 0 ≤ z) (h1 : z < 12) : ax_ld ax_sh μ 155 (zI z) = some (μ.1 155 z.toNat) := z_ld (len := 12) (by decide) h0 h1 (by decide)
theorem st_155 {μ : ax_M} {z : Int} {x : Int32} (h0 : 0 ≤ z) (h1 : z < 12) : ax_st ax_sh μ 155 (zI z) x = some (ax_up μ.1 155 z.toNat x, μ.2) := z_st (len := 12) (by decide) h0 h1 (by decide)
theorem at_155 {μ : ax_M} {z : Int} (h0 : 0 ≤ z) (h1 : z < 12) : aJ 846 [.ref 155, .int (zI z)] [] μ = some (some (.int (μ.1 155 z.toNat)), μ) := c_at (len := 12) (by decide) (by decide) h0 h1
theorem pt_155 {μ : ax_M} {z : Int} {x : Int32} (h0 : 0 ≤ z) (h1 : z < 12) : aJ 849 [.ref 155, .int (zI z), .int x] [] μ = some (none, (ax_up μ.1 155 z.toNat x, μ.2)) := c_put (len := 12) (by decide) (by decide) h0 h1
theorem ld_156 {μ : ax_M} {z : Int} (h0 : 0 ≤ z) (h1 : z < 60) : ax_ld ax_sh μ 156 (zI z) = some (μ.1 156 z.toNat) := z_ld (len := 60) (by decide) h0 h1 (by decide)
theorem st_156 {μ : ax_M} {z : Int} {x : Int32} (h0 : 0 ≤ z) (h1 : z < 60) : ax_st ax_sh μ 156 (zI z) x = some (ax_up μ.1 156 z.toNat x, μ.2) := z_st (len := 60) (by decide) h0 h1 (by decide)
theorem at_156 {μ : ax_M} {z : Int} (h0 : 0 ≤ z) (h1 : z < 60) : aJ 846 [.ref 156, .int (zI z)] [] μ = some (some (.int (μ.1 156 z.toNat)), μ) := c_at (len := 60) (by decide) (by decide) h0 h1
theorem pt_156 {μ : ax_M} {z : Int} {x : Int32} (h0 : 0 ≤ z) (h1 : z < 60) : aJ 849 [.ref 156, .int (zI z), .int x] [] μ = some (none, (ax_up μ.1 156 z.toNat x, μ.2)) := c_put (len := 60) (by decide) (by decide) h0 h1
theorem ld_157 {μ : ax_M} {z : Int} (h0 : 0 ≤ z) (h1 : z < 30) : ax_ld ax_sh μ 157 (zI z) = some (μ.1 157 z.toNat) := z_ld (len := 30) (by decide) h0 h1 (by decide)
theorem st_157 {μ : ax_M} {z : Int} {x : Int32} (h0 : 0 ≤ z) (h1 : z < 30) : ax_st ax_sh μ 157 (zI z) x = some (ax_up μ.1 157 z.toNat x, μ.2) := z_st (len := 30) (by decide) h0 h1 (by decide)
theorem at_157 {μ : ax_M} {z : Int} (h0 : 0 ≤ z) (h1 : z < 30) : aJ 846 [.ref 157, .int (zI z)] [] μ = some (some (.int (μ.1 157 z.toNat)), μ) := c_at (len := 30) (by decide) (by decide) h0 h1
theorem pt_157 {μ : ax_M} {z : Int} {x : Int32} (h0 : 0 ≤ z) (h1 : z < 30) : aJ 849 [.ref 157, .int (zI z), .int x] [] μ = some (none, (ax_up μ.1 157 z.toNat x, μ.2)) := c_put (len := 30) (by decide) (by decide) h0 h1
theorem ld_159 {μ : ax_M} {z : Int} (h0 : 0 ≤ z) (h1 : z < 10) : ax_ld ax_sh μ 159 (zI z) = some (μ.1 159 z.toNat) := z_ld (len := 10) (by decide) h0 h1 (by decide)
theorem st_159 {μ : ax_M} {z : Int} {x : Int32} (h0 : 0 ≤ z) (h1 : z < 10) : ax_st ax_sh μ 159 (zI z) x = some (ax_up μ.1 159 z.toNat x, μ.2) := z_st (len := 10) (by decide) h0 h1 (by decide)
theorem at_159 {μ : ax_M} {z : Int} (h0 : 0 ≤ z) (h1 : z < 10) : aJ 846 [.ref 159, .int (zI z)] [] μ = some (some (.int (μ.1 159 z.toNat)), μ) := c_at (len := 10) (by decide) (by decide) h0 h1
theorem pt_159 {μ : ax_M} {z : Int} {x : Int32} (h0 : 0 ≤ z) (h1 : z < 10) : aJ 849 [.ref 159, .int (zI z), .int x] [] μ = some (none, (ax_up μ.1 159 z.toNat x, μ.2)) := c_put (len := 10) (by decide) (by decide) h0 h1
theorem ld_160 {μ : ax_M} {z : Int} (h0 : 0 ≤ z) (h1 : z < 10) : ax_ld ax_sh μ 160 (zI z) = some (μ.1 160 z.toNat) := z_ld (len := 10) (by decide) h0 h1 (by decide)
theorem st_160 {μ : ax_M} {z : Int} {x : Int32} (h0 : 0 ≤ z) (h1 : z < 10) : ax_st ax_sh μ 160 (zI z) x = some (ax_up μ.1 160 z.toNat x, μ.2) := z_st (len := 10) (by decide) h0 h1 (by decide)
theorem at_160 {μ : ax_M} {z : Int} (h0 : 0 ≤ z) (h1 : z < 10) : aJ 846 [.ref 160, .int (zI z)] [] μ = some (some (.int (μ.1 160 z.toNat)), μ) := c_at (len := 10) (by decide) (by decide) h0 h1
theorem pt_160 {μ : ax_M} {z : Int} {x : Int32} (h0 : 0 ≤ z) (h1 : z < 10) : aJ 849 [.ref 160, .int (zI z), .int x] [] μ = some (none, (ax_up μ.1 160 z.toNat x, μ.2)) := c_put (len := 10) (by decide) (by decide) h0 h1
theorem ld_161 {μ : ax_M} {z : Int} (h0 : 0 ≤ z) (h1 : z < 10) : ax_ld ax_sh μ 161 (zI z) = some (μ.1 161 z.toNat) := z_ld (len := 10) (by decide) h0 h1 (by decide)
theorem st_161 {μ : ax_M} {z : Int} {x : Int32} (h0 : 0 ≤ z) (h1 : z < 10) : ax_st ax_sh μ 161 (zI z) x = some (ax_up μ.1 161 z.toNat x, μ.2) := z_st (len := 10) (by decide) h0 h1 (by decide)
theorem at_161 {μ : ax_M} {z : Int} (h0 : 0 ≤ z) (h1 : z < 10) : aJ 846 [.ref 161, .int (zI z)] [] μ = some (some (.int (μ.1 161 z.toNat)), μ) := c_at (len := 10) (by decide) (by decide) h0 h1
theorem pt_161 {μ : ax_M} {z : Int} {x : Int32} (h0 : 0 ≤ z) (h1 : z < 10) : aJ 849 [.ref 161, .int (zI z), .int x] [] μ = some (none, (ax_up μ.1 161 z.toNat x, μ.2)) := c_put (len := 10) (by decide) (by decide) h0 h1
theorem ld_162 {μ : ax_M} {z : Int} (h0 : 0 ≤ z) (h1 : z < 40) : ax_ld ax_sh μ 162 (zI z) = some (μ.1 162 z.toNat) := z_ld (len := 40) (by decide) h0 h1 (by decide)
theorem st_162 {μ : ax_M} {z : Int} {x : Int32} (h0 : 0 ≤ z) (h1 : z < 40) : ax_st ax_sh μ 162 (zI z) x = some (ax_up μ.1 162 z.toNat x, μ.2) := z_st (len := 40) (by decide) h0 h1 (by decide)
theorem at_162 {μ : ax_M} {z : Int} (h0 : 0 ≤ z) (h1 : z < 40) : aJ 846 [.ref 162, .int (zI z)] [] μ = some (some (.int (μ.1 162 z.toNat)), μ) := c_at (len := 40) (by decide) (by decide) h0 h1
theorem pt_162 {μ : ax_M} {z : Int} {x : Int32} (h0 : 0 ≤ z) (h1 : z < 40) : aJ 849 [.ref 162, .int (zI z), .int x] [] μ = some (none, (ax_up μ.1 162 z.toNat x, μ.2)) := c_put (len := 40) (by decide) (by decide) h0 h1
theorem ld_163 {μ : ax_M} {z : Int} (h0 : 0 ≤ z) (h1 : z < 40) : ax_ld ax_sh μ 163 (zI z) = some (μ.1 163 z.toNat) := z_ld (len := 40) (by decide) h0 h1 (by decide)
theorem st_163 {μ : ax_M} {z : Int} {x : Int32} (h0 : 0 ≤ z) (h1 : z < 40) : ax_st ax_sh μ 163 (zI z) x = some (ax_up μ.1 163 z.toNat x, μ.2) := z_st (len := 40) (by decide) h0 h1 (by decide)
theorem at_163 {μ : ax_M} {z : Int} (h0 : 0 ≤ z) (h1 : z < 40) : aJ 846 [.ref 163, .int (zI z)] [] μ = some (some (.int (μ.1 163 z.toNat)), μ) := c_at (len := 40) (by decide) (by decide) h0 h1
theorem pt_163 {μ : ax_M} {z : Int} {x : Int32} (h0 : 0 ≤ z) (h1 : z < 40) : aJ 849 [.ref 163, .int (zI z), .int x] [] μ = some (none, (ax_up μ.1 163 z.toNat x, μ.2)) := c_put (len := 40) (by decide) (by decide) h0 h1
theorem ld_164 {μ : ax_M} {z : Int} (h0 : 0 ≤ z) (h1 : z < 60) : ax_ld ax_sh μ 164 (zI z) = some (μ.1 164 z.toNat) := z_ld (len := 60) (by decide) h0 h1 (by decide)
theorem st_164 {μ : ax_M} {z : Int} {x : Int32} (h0 : 0 ≤ z) (h1 : z < 60) : ax_st ax_sh μ 164 (zI z) x = some (ax_up μ.1 164 z.toNat x, μ.2) := z_st (len := 60) (by decide) h0 h1 (by decide)
theorem at_164 {μ : ax_M} {z : Int} (h0 : 0 ≤ z) (h1 : z < 60) : aJ 846 [.ref 164, .int (zI z)] [] μ = some (some (.int (μ.1 164 z.toNat)), μ) := c_at (len := 60) (by decide) (by decide) h0 h1
theorem pt_164 {μ : ax_M} {z : Int} {x : Int32} (h0 : 0 ≤ z) (h1 : z < 60) : aJ 849 [.ref 164, .int (zI z), .int x] [] μ = some (none, (ax_up μ.1 164 z.toNat x, μ.2)) := c_put (len := 60) (by decide) (by decide) h0 h1
theorem ld_165 {μ : ax_M} {z : Int} (h0 : 0 ≤ z) (h1 : z < 60) : ax_ld ax_sh μ 165 (zI z) = some (μ.1 165 z.toNat) := z_ld (len := 60) (by decide) h0 h1 (by decide)
theorem st_165 {μ : ax_M} {z : Int} {x : Int32} (h0 : 0 ≤ z) (h1 : z < 60) : ax_st ax_sh μ 165 (zI z) x = some (ax_up μ.1 165 z.toNat x, μ.2) := z_st (len := 60) (by decide) h0 h1 (by decide)
theorem at_165 {μ : ax_M} {z : Int} (h0 : 0 ≤ z) (h1 : z < 60) : aJ 846 [.ref 165, .int (zI z)] [] μ = some (some (.int (μ.1 165 z.toNat)), μ) := c_at (len := 60) (by decide) (by decide) h0 h1
theorem pt_165 {μ : ax_M} {z : Int} {x : Int32} (h0 : 0 ≤ z) (h1 : z < 60) : aJ 849 [.ref 165, .int (zI z), .int x] [] μ = some (none, (ax_up μ.1 165 z.toNat x, μ.2)) := c_put (len := 60) (by decide) (by decide) h0 h1
theorem ld_167 {μ : ax_M} {z : Int} (h0 : 0 ≤ z) (h1 : z < 30) : ax_ld ax_sh μ 167 (zI z) = some (μ.1 167 z.toNat) := z_ld (len := 30) (by decide) h0 h1 (by decide)
theorem st_167 {μ : ax_M} {z : Int} {x : Int32} (h0 : 0 ≤ z) (h1 : z < 30) : ax_st ax_sh μ 167 (zI z) x = some (ax_up μ.1 167 z.toNat x, μ.2) := z_st (len := 30) (by decide) h0 h1 (by decide)
theorem at_167 {μ : ax_M} {z : Int} (h0 : 0 ≤ z) (h1 : z < 30) : aJ 846 [.ref 167, .int (zI z)] [] μ = some (some (.int (μ.1 167 z.toNat)), μ) := c_at (len := 30) (by decide) (by decide) h0 h1
theorem pt_167 {μ : ax_M} {z : Int} {x : Int32} (h0 : 0 ≤ z) (h1 : z < 30) : aJ 849 [.ref 167, .int (zI z), .int x] [] μ = some (none, (ax_up μ.1 167 z.toNat x, μ.2)) := c_put (len := 30) (by decide) (by decide) h0 h1
theorem ld_168 {μ : ax_M} {z : Int} (h0 : 0 ≤ z) (h1 : z < 132) : ax_ld ax_sh μ 168 (zI z) = some (μ.1 168 z.toNat) := z_ld (len := 132) (by decide) h0 h1 (by decide)
theorem st_168 {μ : ax_M} {z : Int} {x : Int32} (h0 : 0 ≤ z) (h1 : z < 132) : ax_st ax_sh μ 168 (zI z) x = some (ax_up μ.1 168 z.toNat x, μ.2) := z_st (len := 132) (by decide) h0 h1 (by decide)
theorem at_168 {μ : ax_M} {z : Int} (h0 : 0 ≤ z) (h1 : z < 132) : aJ 846 [.ref 168, .int (zI z)] [] μ = some (some (.int (μ.1 168 z.toNat)), μ) := c_at (len := 132) (by decide) (by decide) h0 h1
theorem pt_168 {μ : ax_M} {z : Int} {x : Int32} (h0 : 0 ≤ z) (h1 : z < 132) : aJ 849 [.ref 168, .int (zI z), .int x] [] μ = some (none, (ax_up μ.1 168 z.toNat x, μ.2)) := c_put (len := 132) (by decide) (by decide) h0 h1
theorem ld_169 {μ : ax_M} {z : Int} (h0 : 0 ≤ z) (h1 : z < 60) : ax_ld ax_sh μ 169 (zI z) = some (μ.1 169 z.toNat) := z_ld (len := 60) (by decide) h0 h1 (by decide)
theorem st_169 {μ : ax_M} {z : Int} {x : Int32} (h0 : 0 ≤ z) (h1 : z < 60) : ax_st ax_sh μ 169 (zI z) x = some (ax_up μ.1 169 z.toNat x, μ.2) := z_st (len := 60) (by decide) h0 h1 (by decide)
theorem at_169 {μ : ax_M} {z : Int} (h0 : 0 ≤ z) (h1 : z < 60) : aJ 846 [.ref 169, .int (zI z)] [] μ = some (some (.int (μ.1 169 z.toNat)), μ) := c_at (len := 60) (by decide) (by decide) h0 h1
theorem pt_169 {μ : ax_M} {z : Int} {x : Int32} (h0 : 0 ≤ z) (h1 : z < 60) : aJ 849 [.ref 169, .int (zI z), .int x] [] μ = some (none, (ax_up μ.1 169 z.toNat x, μ.2)) := c_put (len := 60) (by decide) (by decide) h0 h1
theorem ld_170 {μ : ax_M} {z : Int} (h0 : 0 ≤ z) (h1 : z < 2048) : ax_ld ax_sh μ 170 (zI z) = some (μ.1 170 z.toNat) := z_ld (len := 2048) (by decide) h0 h1 (by decide)
theorem st_170 {μ : ax_M} {z : Int} {x : Int32} (h0 : 0 ≤ z) (h1 : z < 2048) : ax_st ax_sh μ 170 (zI z) x = some (ax_up μ.1 170 z.toNat x, μ.2) := z_st (len := 2048) (by decide) h0 h1 (by decide)
theorem at_170 {μ : ax_M} {z : Int} (h0 : 0 ≤ z) (h1 : z < 2048) : aJ 846 [.ref 170, .int (zI z)] [] μ = some (some (.int (μ.1 170 z.toNat)), μ) := c_at (len := 2048) (by decide) (by decide) h0 h1
theorem pt_170 {μ : ax_M} {z : Int} {x : Int32} (h0 : 0 ≤ z) (h1 : z < 2048) : aJ 849 [.ref 170, .int (zI z), .int x] [] μ = some (none, (ax_up μ.1 170 z.toNat x, μ.2)) := c_put (len := 2048) (by decide) (by decide) h0 h1
theorem ld_171 {μ : ax_M} {z : Int} (h0 : 0 ≤ z) (h1 : z < 60) : ax_ld ax_sh μ 171 (zI z) = some (μ.1 171 z.toNat) := z_ld (len := 60) (by decide) h0 h1 (by decide)
theorem st_171 {μ : ax_M} {z : Int} {x : Int32} (h0 : 0 ≤ z) (h1 : z < 60) : ax_st ax_sh μ 171 (zI z) x = some (ax_up μ.1 171 z.toNat x, μ.2) := z_st (len := 60) (by decide) h0 h1 (by decide)
theorem at_171 {μ : ax_M} {z : Int} (h0 : 0 ≤ z) (h1 : z < 60) : aJ 846 [.ref 171, .int (zI z)] [] μ = some (some (.int (μ.1 171 z.toNat)), μ) := c_at (len := 60) (by decide) (by decide) h0 h1
theorem pt_171 {μ : ax_M} {z : Int} {x : Int32} (h0 : 0 ≤ z) (h1 : z < 60) : aJ 849 [.ref 171, .int (zI z), .int x] [] μ = some (none, (ax_up μ.1 171 z.toNat x, μ.2)) := c_put (len := 60) (by decide) (by decide) h0 h1
theorem ld_172 {μ : ax_M} {z : Int} (h0 : 0 ≤ z) (h1 : z < 60) : ax_ld ax_sh μ 172 (zI z) = some (μ.1 172 z.toNat) := z_ld (len := 60) (by decide) h0 h1 (by decide)
theorem st_172 {μ : ax_M} {z : Int} {x : Int32} (h0 : 0 ≤ z) (h1 : z < 60) : ax_st ax_sh μ 172 (zI z) x = some (ax_up μ.1 172 z.toNat x, μ.2) := z_st (len := 60) (by decide) h0 h1 (by decide)
theorem at_172 {μ : ax_M} {z : Int} (h0 : 0 ≤ z) (h1 : z < 60) : aJ 846 [.ref 172, .int (zI z)] [] μ = some (some (.int (μ.1 172 z.toNat)), μ) := c_at (len := 60) (by decide) (by decide) h0 h1
theorem pt_172 {μ : ax_M} {z : Int} {x : Int32} (h0 : 0 ≤ z) (h1 : z < 60) : aJ 849 [.ref 172, .int (zI z), .int x] [] μ = some (none, (ax_up μ.1 172 z.toNat x, μ.2)) := c_put (len := 60) (by decide) (by decide) h0 h1
theorem ld_173 {μ : ax_M} {z : Int} (h0 : 0 ≤ z) (h1 : z < 60) : ax_ld ax_sh μ 173 (zI z) = some (μ.1 173 z.toNat) := z_ld (len := 60) (by decide) h0 h1 (by decide)
theorem st_173 {μ : ax_M} {z : Int} {x : Int32} (h0 : 0 ≤ z) (h1 : z < 60) : ax_st ax_sh μ 173 (zI z) x = some (ax_up μ.1 173 z.toNat x, μ.2) := z_st (len := 60) (by decide) h0 h1 (by decide)
theorem at_173 {μ : ax_M} {z : Int} (h0 : 0 ≤ z) (h1 : z < 60) : aJ 846 [.ref 173, .int (zI z)] [] μ = some (some (.int (μ.1 173 z.toNat)), μ) := c_at (len := 60) (by decide) (by decide) h0 h1
theorem pt_173 {μ : ax_M} {z : Int} {x : Int32} (h0 : 0 ≤ z) (h1 : z < 60) : aJ 849 [.ref 173, .int (zI z), .int x] [] μ = some (none, (ax_up μ.1 173 z.toNat x, μ.2)) := c_put (len := 60) (by decide) (by decide) h0 h1
theorem ld_174 {μ : ax_M} {z : Int} (h0 : 0 ≤ z) (h1 : z < 60) : ax_ld ax_sh μ 174 (zI z) = some (μ.1 174 z.toNat) := z_ld (len := 60) (by decide) h0 h1 (by decide)
theorem st_174 {μ : ax_M} {z : Int} {x : Int32} (h0 : 0 ≤ z) (h1 : z < 60) : ax_st ax_sh μ 174 (zI z) x = some (ax_up μ.1 174 z.toNat x, μ.2) := z_st (len := 60) (by decide) h0 h1 (by decide)
theorem at_174 {μ : ax_M} {z : Int} (h0 : 0 ≤ z) (h1 : z < 60) : aJ 846 [.ref 174, .int (zI z)] [] μ = some (some (.int (μ.1 174 z.toNat)), μ) := c_at (len := 60) (by decide) (by decide) h0 h1
theorem pt_174 {μ : ax_M} {z : Int} {x : Int32} (h0 : 0 ≤ z) (h1 : z < 60) : aJ 849 [.ref 174, .int (zI z), .int x] [] μ = some (none, (ax_up μ.1 174 z.toNat x, μ.2)) := c_put (len := 60) (by decide) (by decide) h0 h1
theorem ld_175 {μ : ax_M} {z : Int} (h0 : 0 ≤ z) (h1 : z < 256) : ax_ld ax_sh μ 175 (zI z) = some (μ.1 175 z.toNat) := z_ld (len := 256) (by decide) h0 h1 (by decide)
theorem st_175 {μ : ax_M} {z : Int} {x : Int32} (h0 : 0 ≤ z) (h1 : z < 256) : ax_st ax_sh μ 175 (zI z) x = some (ax_up μ.1 175 z.toNat x, μ.2) := z_st (len := 256) (by decide) h0 h1 (by decide)
theorem at_175 {μ : ax_M} {z : Int} (h0 : 0 ≤ z) (h1 : z < 256) : aJ 846 [.ref 175, .int (zI z)] [] μ = some (some (.int (μ.1 175 z.toNat)), μ) := c_at (len := 256) (by decide) (by decide) h0 h1
theorem pt_175 {μ : ax_M} {z : Int} {x : Int32} (h0 : 0 ≤ z) (h1 : z < 256) : aJ 849 [.ref 175, .int (zI z), .int x] [] μ = some (none, (ax_up μ.1 175 z.toNat x, μ.2)) := c_put (len := 256) (by decide) (by decide) h0 h1
theorem ld_176 {μ : ax_M} {z : Int} (h0 : 0 ≤ z) (h1 : z < 7) : ax_ld ax_sh μ 176 (zI z) = some (μ.1 176 z.toNat) := z_ld (len := 7) (by decide) h0 h1 (by decide)
theorem st_176 {μ : ax_M} {z : Int} {x : Int32} (h0 : 0 ≤ z) (h1 : z < 7) : ax_st ax_sh μ 176 (zI z) x = some (ax_up μ.1 176 z.toNat x, μ.2) := z_st (len := 7) (by decide) h0 h1 (by decide)
theorem at_176 {μ : ax_M} {z : Int} (h0 : 0 ≤ z) (h1 : z < 7) : aJ 846 [.ref 176, .int (zI z)] [] μ = some (some (.int (μ.1 176 z.toNat)), μ) := c_at (len := 7) (by decide) (by decide) h0 h1
theorem pt_176 {μ : ax_M} {z : Int} {x : Int32} (h0 : 0 ≤ z) (h1 : z < 7) : aJ 849 [.ref 176, .int (zI z), .int x] [] μ = some (none, (ax_up μ.1 176 z.toNat x, μ.2)) := c_put (len := 7) (by decide) (by decide) h0 h1
theorem ld_179 {μ : ax_M} {z : Int} (h0 : 0 ≤ z) (h1 : z < 84) : ax_ld8 ax_sh μ 179 (zI z) = some (μ.1 179 z.toNat) := z_ld8 (len := 84) (by decide) h0 h1 (by decide)
theorem st_179 {μ : ax_M} {z : Int} {x : Int32} (h0 : 0 ≤ z) (h1 : z < 84) : ax_st8 ax_sh μ 179 (zI z) x = some (ax_up μ.1 179 z.toNat (vp_nar .byte x), μ.2) := z_st8y (len := 84) (by decide) h0 h1 (by decide)
theorem ld_180 {μ : ax_M} {z : Int} (h0 : 0 ≤ z) (h1 : z < 12) : ax_ld ax_sh μ 180 (zI z) = some (μ.1 180 z.toNat) := z_ld (len := 12) (by decide) h0 h1 (by decide)
theorem st_180 {μ : ax_M} {z : Int} {x : Int32} (h0 : 0 ≤ z) (h1 : z < 12) : ax_st ax_sh μ 180 (zI z) x = some (ax_up μ.1 180 z.toNat x, μ.2) := z_st (len := 12) (by decide) h0 h1 (by decide)
theorem at_180 {μ : ax_M} {z : Int} (h0 : 0 ≤ z) (h1 : z < 12) : aJ 846 [.ref 180, .int (zI z)] [] μ = some (some (.int (μ.1 180 z.toNat)), μ) := c_at (len := 12) (by decide) (by decide) h0 h1
theorem pt_180 {μ : ax_M} {z : Int} {x : Int32} (h0 : 0 ≤ z) (h1 : z < 12) : aJ 849 [.ref 180, .int (zI z), .int x] [] μ = some (none, (ax_up μ.1 180 z.toNat x, μ.2)) := c_put (len := 12) (by decide) (by decide) h0 h1
theorem ld_181 {μ : ax_M} {z : Int} (h0 : 0 ≤ z) (h1 : z < 60) : ax_ld ax_sh μ 181 (zI z) = some (μ.1 181 z.toNat) := z_ld (len := 60) (by decide) h0 h1 (by decide)
theorem st_181 {μ : ax_M} {z : Int} {x : Int32} (h0 : 0 ≤ z) (h1 : z < 60) : ax_st ax_sh μ 181 (zI z) x = some (ax_up μ.1 181 z.toNat x, μ.2) := z_st (len := 60) (by decide) h0 h1 (by decide)
theorem at_181 {μ : ax_M} {z : Int} (h0 : 0 ≤ z) (h1 : z < 60) : aJ 846 [.ref 181, .int (zI z)] [] μ = some (some (.int (μ.1 181 z.toNat)), μ) := c_at (len := 60) (by decide) (by decide) h0 h1
theorem pt_181 {μ : ax_M} {z : Int} {x : Int32} (h0 : 0 ≤ z) (h1 : z < 60) : aJ 849 [.ref 181, .int (zI z), .int x] [] μ = some (none, (ax_up μ.1 181 z.toNat x, μ.2)) := c_put (len := 60) (by decide) (by decide) h0 h1
theorem ld_182 {μ : ax_M} {z : Int} (h0 : 0 ≤ z) (h1 : z < 30) : ax_ld ax_sh μ 182 (zI z) = some (μ.1 182 z.toNat) := z_ld (len := 30) (by decide) h0 h1 (by decide)
theorem st_182 {μ : ax_M} {z : Int} {x : Int32} (h0 : 0 ≤ z) (h1 : z < 30) : ax_st ax_sh μ 182 (zI z) x = some (ax_up μ.1 182 z.toNat x, μ.2) := z_st (len := 30) (by decide) h0 h1 (by decide)
theorem at_182 {μ : ax_M} {z : Int} (h0 : 0 ≤ z) (h1 : z < 30) : aJ 846 [.ref 182, .int (zI z)] [] μ = some (some (.int (μ.1 182 z.toNat)), μ) := c_at (len := 30) (by decide) (by decide) h0 h1
theorem pt_182 {μ : ax_M} {z : Int} {x : Int32} (h0 : 0 ≤ z) (h1 : z < 30) : aJ 849 [.ref 182, .int (zI z), .int x] [] μ = some (none, (ax_up μ.1 182 z.toNat x, μ.2)) := c_put (len := 30) (by decide) (by decide) h0 h1
theorem ld_184 {μ : ax_M} {z : Int} (h0 : 0 ≤ z) (h1 : z < 10) : ax_ld ax_sh μ 184 (zI z) = some (μ.1 184 z.toNat) := z_ld (len := 10) (by decide) h0 h1 (by decide)
theorem st_184 {μ : ax_M} {z : Int} {x : Int32} (h0 : 0 ≤ z) (h1 : z < 10) : ax_st ax_sh μ 184 (zI z) x = some (ax_up μ.1 184 z.toNat x, μ.2) := z_st (len := 10) (by decide) h0 h1 (by decide)
theorem at_184 {μ : ax_M} {z : Int} (h0 : 0 ≤ z) (h1 : z < 10) : aJ 846 [.ref 184, .int (zI z)] [] μ = some (some (.int (μ.1 184 z.toNat)), μ) := c_at (len := 10) (by decide) (by decide) h0 h1
theorem pt_184 {μ : ax_M} {z : Int} {x : Int32} (h0 : 0 ≤ z) (h1 : z < 10) : aJ 849 [.ref 184, .int (zI z), .int x] [] μ = some (none, (ax_up μ.1 184 z.toNat x, μ.2)) := c_put (len := 10) (by decide) (by decide) h0 h1
theorem ld_185 {μ : ax_M} {z : Int} (h0 : 0 ≤ z) (h1 : z < 10) : ax_ld ax_sh μ 185 (zI z) = some (μ.1 185 z.toNat) := z_ld (len := 10) (by decide) h0 h1 (by decide)
theorem st_185 {μ : ax_M} {z : Int} {x : Int32} (h0 : 0 ≤ z) (h1 : z < 10) : ax_st ax_sh μ 185 (zI z) x = some (ax_up μ.1 185 z.toNat x, μ.2) := z_st (len := 10) (by decide) h0 h1 (by decide)
theorem at_185 {μ : ax_M} {z : Int} (h0 : 0 ≤ z) (h1 : z < 10) : aJ 846 [.ref 185, .int (zI z)] [] μ = some (some (.int (μ.1 185 z.toNat)), μ) := c_at (len := 10) (by decide) (by decide) h0 h1
theorem pt_185 {μ : ax_M} {z : Int} {x : Int32} (h0 : 0 ≤ z) (h1 : z < 10) : aJ 849 [.ref 185, .int (zI z), .int x] [] μ = some (none, (ax_up μ.1 185 z.toNat x, μ.2)) := c_put (len := 10) (by decide) (by decide) h0 h1
theorem ld_186 {μ : ax_M} {z : Int} (h0 : 0 ≤ z) (h1 : z < 10) : ax_ld ax_sh μ 186 (zI z) = some (μ.1 186 z.toNat) := z_ld (len := 10) (by decide) h0 h1 (by decide)
theorem st_186 {μ : ax_M} {z : Int} {x : Int32} (h0 : 0 ≤ z) (h1 : z < 10) : ax_st ax_sh μ 186 (zI z) x = some (ax_up μ.1 186 z.toNat x, μ.2) := z_st (len := 10) (by decide) h0 h1 (by decide)
theorem at_186 {μ : ax_M} {z : Int} (h0 : 0 ≤ z) (h1 : z < 10) : aJ 846 [.ref 186, .int (zI z)] [] μ = some (some (.int (μ.1 186 z.toNat)), μ) := c_at (len := 10) (by decide) (by decide) h0 h1
theorem pt_186 {μ : ax_M} {z : Int} {x : Int32} (h0 : 0 ≤ z) (h1 : z < 10) : aJ 849 [.ref 186, .int (zI z), .int x] [] μ = some (none, (ax_up μ.1 186 z.toNat x, μ.2)) := c_put (len := 10) (by decide) (by decide) h0 h1
theorem ld_187 {μ : ax_M} {z : Int} (h0 : 0 ≤ z) (h1 : z < 40) : ax_ld ax_sh μ 187 (zI z) = some (μ.1 187 z.toNat) := z_ld (len := 40) (by decide) h0 h1 (by decide)
theorem st_187 {μ : ax_M} {z : Int} {x : Int32} (h0 : 0 ≤ z) (h1 : z < 40) : ax_st ax_sh μ 187 (zI z) x = some (ax_up μ.1 187 z.toNat x, μ.2) := z_st (len := 40) (by decide) h0 h1 (by decide)
theorem at_187 {μ : ax_M} {z : Int} (h0 : 0 ≤ z) (h1 : z < 40) : aJ 846 [.ref 187, .int (zI z)] [] μ = some (some (.int (μ.1 187 z.toNat)), μ) := c_at (len := 40) (by decide) (by decide) h0 h1
theorem pt_187 {μ : ax_M} {z : Int} {x : Int32} (h0 : 0 ≤ z) (h1 : z < 40) : aJ 849 [.ref 187, .int (zI z), .int x] [] μ = some (none, (ax_up μ.1 187 z.toNat x, μ.2)) := c_put (len := 40) (by decide) (by decide) h0 h1
theorem ld_188 {μ : ax_M} {z : Int} (h0 : 0 ≤ z) (h1 : z < 40) : ax_ld ax_sh μ 188 (zI z) = some (μ.1 188 z.toNat) := z_ld (len := 40) (by decide) h0 h1 (by decide)
theorem st_188 {μ : ax_M} {z : Int} {x : Int32} (h0 : 0 ≤ z) (h1 : z < 40) : ax_st ax_sh μ 188 (zI z) x = some (ax_up μ.1 188 z.toNat x, μ.2) := z_st (len := 40) (by decide) h0 h1 (by decide)
theorem at_188 {μ : ax_M} {z : Int} (h0 : 0 ≤ z) (h1 : z < 40) : aJ 846 [.ref 188, .int (zI z)] [] μ = some (some (.int (μ.1 188 z.toNat)), μ) := c_at (len := 40) (by decide) (by decide) h0 h1
theorem pt_188 {μ : ax_M} {z : Int} {x : Int32} (h0 : 0 ≤ z) (h1 : z < 40) : aJ 849 [.ref 188, .int (zI z), .int x] [] μ = some (none, (ax_up μ.1 188 z.toNat x, μ.2)) := c_put (len := 40) (by decide) (by decide) h0 h1
theorem ld_189 {μ : ax_M} {z : Int} (h0 : 0 ≤ z) (h1 : z < 60) : ax_ld ax_sh μ 189 (zI z) = some (μ.1 189 z.toNat) := z_ld (len := 60) (by decide) h0 h1 (by decide)
theorem st_189 {μ : ax_M} {z : Int} {x : Int32} (h0 : 0 ≤ z) (h1 : z < 60) : ax_st ax_sh μ 189 (zI z) x = some (ax_up μ.1 189 z.toNat x, μ.2) := z_st (len := 60) (by decide) h0 h1 (by decide)
theorem at_189 {μ : ax_M} {z : Int} (h0 : 0 ≤ z) (h1 : z < 60) : aJ 846 [.ref 189, .int (zI z)] [] μ = some (some (.int (μ.1 189 z.toNat)), μ) := c_at (len := 60) (by decide) (by decide) h0 h1
theorem pt_189 {μ : ax_M} {z : Int} {x : Int32} (h0 : 0 ≤ z) (h1 : z < 60) : aJ 849 [.ref 189, .int (zI z), .int x] [] μ = some (none, (ax_up μ.1 189 z.toNat x, μ.2)) := c_put (len := 60) (by decide) (by decide) h0 h1
theorem ld_190 {μ : ax_M} {z : Int} (h0 : 0 ≤ z) (h1 : z < 60) : ax_ld ax_sh μ 190 (zI z) = some (μ.1 190 z.toNat) := z_ld (len := 60) (by decide) h0 h1 (by decide)
theorem st_190 {μ : ax_M} {z : Int} {x : Int32} (h0 : 0 ≤ z) (h1 : z < 60) : ax_st ax_sh μ 190 (zI z) x = some (ax_up μ.1 190 z.toNat x, μ.2) := z_st (len := 60) (by decide) h0 h1 (by decide)
theorem at_190 {μ : ax_M} {z : Int} (h0 : 0 ≤ z) (h1 : z < 60) : aJ 846 [.ref 190, .int (zI z)] [] μ = some (some (.int (μ.1 190 z.toNat)), μ) := c_at (len := 60) (by decide) (by decide) h0 h1
theorem pt_190 {μ : ax_M} {z : Int} {x : Int32} (h0 : 0 ≤ z) (h1 : z < 60) : aJ 849 [.ref 190, .int (zI z), .int x] [] μ = some (none, (ax_up μ.1 190 z.toNat x, μ.2)) := c_put (len := 60) (by decide) (by decide) h0 h1
theorem ld_192 {μ : ax_M} {z : Int} (h0 : 0 ≤ z) (h1 : z < 30) : ax_ld ax_sh μ 192 (zI z) = some (μ.1 192 z.toNat) := z_ld (len := 30) (by decide) h0 h1 (by decide)
theorem st_192 {μ : ax_M} {z : Int} {x : Int32} (h0 : 0 ≤ z) (h1 : z < 30) : ax_st ax_sh μ 192 (zI z) x = some (ax_up μ.1 192 z.toNat x, μ.2) := z_st (len := 30) (by decide) h0 h1 (by decide)
theorem at_192 {μ : ax_M} {z : Int} (h0 : 0 ≤ z) (h1 : z < 30) : aJ 846 [.ref 192, .int (zI z)] [] μ = some (some (.int (μ.1 192 z.toNat)), μ) := c_at (len := 30) (by decide) (by decide) h0 h1
theorem pt_192 {μ : ax_M} {z : Int} {x : Int32} (h0 : 0 ≤ z) (h1 : z < 30) : aJ 849 [.ref 192, .int (zI z), .int x] [] μ = some (none, (ax_up μ.1 192 z.toNat x, μ.2)) := c_put (len := 30) (by decide) (by decide) h0 h1
theorem ld_193 {μ : ax_M} {z : Int} (h0 : 0 ≤ z) (h1 : z < 132) : ax_ld ax_sh μ 193 (zI z) = some (μ.1 193 z.toNat) := z_ld (len := 132) (by decide) h0 h1 (by decide)
theorem st_193 {μ : ax_M} {z : Int} {x : Int32} (h0 : 0 ≤ z) (h1 : z < 132) : ax_st ax_sh μ 193 (zI z) x = some (ax_up μ.1 193 z.toNat x, μ.2) := z_st (len := 132) (by decide) h0 h1 (by decide)
theorem at_193 {μ : ax_M} {z : Int} (h0 : 0 ≤ z) (h1 : z < 132) : aJ 846 [.ref 193, .int (zI z)] [] μ = some (some (.int (μ.1 193 z.toNat)), μ) := c_at (len := 132) (by decide) (by decide) h0 h1
theorem pt_193 {μ : ax_M} {z : Int} {x : Int32} (h0 : 0 ≤ z) (h1 : z < 132) : aJ 849 [.ref 193, .int (zI z), .int x] [] μ = some (none, (ax_up μ.1 193 z.toNat x, μ.2)) := c_put (len := 132) (by decide) (by decide) h0 h1
theorem ld_194 {μ : ax_M} {z : Int} (h0 : 0 ≤ z) (h1 : z < 60) : ax_ld ax_sh μ 194 (zI z) = some (μ.1 194 z.toNat) := z_ld (len := 60) (by decide) h0 h1 (by decide)
theorem st_194 {μ : ax_M} {z : Int} {x : Int32} (h0 : 0 ≤ z) (h1 : z < 60) : ax_st ax_sh μ 194 (zI z) x = some (ax_up μ.1 194 z.toNat x, μ.2) := z_st (len := 60) (by decide) h0 h1 (by decide)
theorem at_194 {μ : ax_M} {z : Int} (h0 : 0 ≤ z) (h1 : z < 60) : aJ 846 [.ref 194, .int (zI z)] [] μ = some (some (.int (μ.1 194 z.toNat)), μ) := c_at (len := 60) (by decide) (by decide) h0 h1
theorem pt_194 {μ : ax_M} {z : Int} {x : Int32} (h0 : 0 ≤ z) (h1 : z < 60) : aJ 849 [.ref 194, .int (zI z), .int x] [] μ = some (none, (ax_up μ.1 194 z.toNat x, μ.2)) := c_put (len := 60) (by decide) (by decide) h0 h1
theorem ld_195 {μ : ax_M} {z : Int} (h0 : 0 ≤ z) (h1 : z < 2048) : ax_ld ax_sh μ 195 (zI z) = some (μ.1 195 z.toNat) := z_ld (len := 2048) (by decide) h0 h1 (by decide)
theorem st_195 {μ : ax_M} {z : Int} {x : Int32} (h0 : 0 ≤ z) (h1 : z < 2048) : ax_st ax_sh μ 195 (zI z) x = some (ax_up μ.1 195 z.toNat x, μ.2) := z_st (len := 2048) (by decide) h0 h1 (by decide)
theorem at_195 {μ : ax_M} {z : Int} (h0 : 0 ≤ z) (h1 : z < 2048) : aJ 846 [.ref 195, .int (zI z)] [] μ = some (some (.int (μ.1 195 z.toNat)), μ) := c_at (len := 2048) (by decide) (by decide) h0 h1
theorem pt_195 {μ : ax_M} {z : Int} {x : Int32} (h0 : 0 ≤ z) (h1 : z < 2048) : aJ 849 [.ref 195, .int (zI z), .int x] [] μ = some (none, (ax_up μ.1 195 z.toNat x, μ.2)) := c_put (len := 2048) (by decide) (by decide) h0 h1
theorem ld_196 {μ : ax_M} {z : Int} (h0 : 0 ≤ z) (h1 : z < 60) : ax_ld ax_sh μ 196 (zI z) = some (μ.1 196 z.toNat) := z_ld (len := 60) (by decide) h0 h1 (by decide)
theorem st_196 {μ : ax_M} {z : Int} {x : Int32} (h0 : 0 ≤ z) (h1 : z < 60) : ax_st ax_sh μ 196 (zI z) x = some (ax_up μ.1 196 z.toNat x, μ.2) := z_st (len := 60) (by decide) h0 h1 (by decide)
theorem at_196 {μ : ax_M} {z : Int} (h0 : 0 ≤ z) (h1 : z < 60) : aJ 846 [.ref 196, .int (zI z)] [] μ = some (some (.int (μ.1 196 z.toNat)), μ) := c_at (len := 60) (by decide) (by decide) h0 h1
theorem pt_196 {μ : ax_M} {z : Int} {x : Int32} (h0 : 0 ≤ z) (h1 : z < 60) : aJ 849 [.ref 196, .int (zI z), .int x] [] μ = some (none, (ax_up μ.1 196 z.toNat x, μ.2)) := c_put (len := 60) (by decide) (by decide) h0 h1
theorem ld_197 {μ : ax_M} {z : Int} (h0 : 0 ≤ z) (h1 : z < 60) : ax_ld ax_sh μ 197 (zI z) = some (μ.1 197 z.toNat) := z_ld (len := 60) (by decide) h0 h1 (by decide)
theorem st_197 {μ : ax_M} {z : Int} {x : Int32} (h0 : 0 ≤ z) (h1 : z < 60) : ax_st ax_sh μ 197 (zI z) x = some (ax_up μ.1 197 z.toNat x, μ.2) := z_st (len := 60) (by decide) h0 h1 (by decide)
theorem at_197 {μ : ax_M} {z : Int} (h0 : 0 ≤ z) (h1 : z < 60) : aJ 846 [.ref 197, .int (zI z)] [] μ = some (some (.int (μ.1 197 z.toNat)), μ) := c_at (len := 60) (by decide) (by decide) h0 h1
theorem pt_197 {μ : ax_M} {z : Int} {x : Int32} (h0 : 0 ≤ z) (h1 : z < 60) : aJ 849 [.ref 197, .int (zI z), .int x] [] μ = some (none, (ax_up μ.1 197 z.toNat x, μ.2)) := c_put (len := 60) (by decide) (by decide) h0 h1
theorem ld_198 {μ : ax_M} {z : Int} (h0 : 0 ≤ z) (h1 : z < 60) : ax_ld ax_sh μ 198 (zI z) = some (μ.1 198 z.toNat) := z_ld (len := 60) (by decide) h0 h1 (by decide)
theorem st_198 {μ : ax_M} {z : Int} {x : Int32} (h0 : 0 ≤ z) (h1 : z < 60) : ax_st ax_sh μ 198 (zI z) x = some (ax_up μ.1 198 z.toNat x, μ.2) := z_st (len := 60) (by decide) h0 h1 (by decide)
theorem at_198 {μ : ax_M} {z : Int} (h0 : 0 ≤ z) (h1 : z < 60) : aJ 846 [.ref 198, .int (zI z)] [] μ = some (some (.int (μ.1 198 z.toNat)), μ) := c_at (len := 60) (by decide) (by decide) h0 h1
theorem pt_198 {μ : ax_M} {z : Int} {x : Int32} (h0 : 0 ≤ z) (h1 : z < 60) : aJ 849 [.ref 198, .int (zI z), .int x] [] μ = some (none, (ax_up μ.1 198 z.toNat x, μ.2)) := c_put (len := 60) (by decide) (by decide) h0 h1
theorem ld_199 {μ : ax_M} {z : Int} (h0 : 0 ≤ z) (h1 : z < 60) : ax_ld ax_sh μ 199 (zI z) = some (μ.1 199 z.toNat) := z_ld (len := 60) (by decide) h0 h1 (by decide)
theorem st_199 {μ : ax_M} {z : Int} {x : Int32} (h0 : 0 ≤ z) (h1 : z < 60) : ax_st ax_sh μ 199 (zI z) x = some (ax_up μ.1 199 z.toNat x, μ.2) := z_st (len := 60) (by decide) h0 h1 (by decide)
theorem at_199 {μ : ax_M} {z : Int} (h0 : 0 ≤ z) (h1 : z < 60) : aJ 846 [.ref 199, .int (zI z)] [] μ = some (some (.int (μ.1 199 z.toNat)), μ) := c_at (len := 60) (by decide) (by decide) h0 h1
theorem pt_199 {μ : ax_M} {z : Int} {x : Int32} (h0 : 0 ≤ z) (h1 : z < 60) : aJ 849 [.ref 199, .int (zI z), .int x] [] μ = some (none, (ax_up μ.1 199 z.toNat x, μ.2)) := c_put (len := 60) (by decide) (by decide) h0 h1
theorem ld_200 {μ : ax_M} {z : Int} (h0 : 0 ≤ z) (h1 : z < 256) : ax_ld ax_sh μ 200 (zI z) = some (μ.1 200 z.toNat) := z_ld (len := 256) (by decide) h0 h1 (by decide)
theorem st_200 {μ : ax_M} {z : Int} {x : Int32} (h0 : 0 ≤ z) (h1 : z < 256) : ax_st ax_sh μ 200 (zI z) x = some (ax_up μ.1 200 z.toNat x, μ.2) := z_st (len := 256) (by decide) h0 h1 (by decide)
theorem at_200 {μ : ax_M} {z : Int} (h0 : 0 ≤ z) (h1 : z < 256) : aJ 846 [.ref 200, .int (zI z)] [] μ = some (some (.int (μ.1 200 z.toNat)), μ) := c_at (len := 256) (by decide) (by decide) h0 h1
theorem pt_200 {μ : ax_M} {z : Int} {x : Int32} (h0 : 0 ≤ z) (h1 : z < 256) : aJ 849 [.ref 200, .int (zI z), .int x] [] μ = some (none, (ax_up μ.1 200 z.toNat x, μ.2)) := c_put (len := 256) (by decide) (by decide) h0 h1
theorem ld_201 {μ : ax_M} {z : Int} (h0 : 0 ≤ z) (h1 : z < 7) : ax_ld ax_sh μ 201 (zI z) = some (μ.1 201 z.toNat) := z_ld (len := 7) (by decide) h0 h1 (by decide)
theorem st_201 {μ : ax_M} {z : Int} {x : Int32} (h0 : 0 ≤ z) (h1 : z < 7) : ax_st ax_sh μ 201 (zI z) x = some (ax_up μ.1 201 z.toNat x, μ.2) := z_st (len := 7) (by decide) h0 h1 (by decide)
theorem at_201 {μ : ax_M} {z : Int} (h0 : 0 ≤ z) (h1 : z < 7) : aJ 846 [.ref 201, .int (zI z)] [] μ = some (some (.int (μ.1 201 z.toNat)), μ) := c_at (len := 7) (by decide) (by decide) h0 h1
theorem pt_201 {μ : ax_M} {z : Int} {x : Int32} (h0 : 0 ≤ z) (h1 : z < 7) : aJ 849 [.ref 201, .int (zI z), .int x] [] μ = some (none, (ax_up μ.1 201 z.toNat x, μ.2)) := c_put (len := 7) (by decide) (by decide) h0 h1
theorem ld_203 {μ : ax_M} {z : Int} (h0 : 0 ≤ z) (h1 : z < 30) : ax_ld ax_sh μ 203 (zI z) = some (μ.1 203 z.toNat) := z_ld (len := 30) (by decide) h0 h1 (by decide)
theorem st_203 {μ : ax_M} {z : Int} {x : Int32} (h0 : 0 ≤ z) (h1 : z < 30) : ax_st ax_sh μ 203 (zI z) x = some (ax_up μ.1 203 z.toNat x, μ.2) := z_st (len := 30) (by decide) h0 h1 (by decide)
theorem at_203 {μ : ax_M} {z : Int} (h0 : 0 ≤ z) (h1 : z < 30) : aJ 846 [.ref 203, .int (zI z)] [] μ = some (some (.int (μ.1 203 z.toNat)), μ) := c_at (len := 30) (by decide) (by decide) h0 h1
theorem pt_203 {μ : ax_M} {z : Int} {x : Int32} (h0 : 0 ≤ z) (h1 : z < 30) : aJ 849 [.ref 203, .int (zI z), .int x] [] μ = some (none, (ax_up μ.1 203 z.toNat x, μ.2)) := c_put (len := 30) (by decide) (by decide) h0 h1
theorem ld_204 {μ : ax_M} {z : Int} (h0 : 0 ≤ z) (h1 : z < 12) : ax_ld ax_sh μ 204 (zI z) = some (μ.1 204 z.toNat) := z_ld (len := 12) (by decide) h0 h1 (by decide)
theorem st_204 {μ : ax_M} {z : Int} {x : Int32} (h0 : 0 ≤ z) (h1 : z < 12) : ax_st ax_sh μ 204 (zI z) x = some (ax_up μ.1 204 z.toNat x, μ.2) := z_st (len := 12) (by decide) h0 h1 (by decide)
theorem at_204 {μ : ax_M} {z : Int} (h0 : 0 ≤ z) (h1 : z < 12) : aJ 846 [.ref 204, .int (zI z)] [] μ = some (some (.int (μ.1 204 z.toNat)), μ) := c_at (len := 12) (by decide) (by decide) h0 h1
theorem pt_204 {μ : ax_M} {z : Int} {x : Int32} (h0 : 0 ≤ z) (h1 : z < 12) : aJ 849 [.ref 204, .int (zI z), .int x] [] μ = some (none, (ax_up μ.1 204 z.toNat x, μ.2)) := c_put (len := 12) (by decide) (by decide) h0 h1
theorem ld_206 {μ : ax_M} {z : Int} (h0 : 0 ≤ z) (h1 : z < 64) : ax_ld8 ax_sh μ 206 (zI z) = some (μ.1 206 z.toNat) := z_ld8 (len := 64) (by decide) h0 h1 (by decide)
theorem st_206 {μ : ax_M} {z : Int} {x : Int32} (h0 : 0 ≤ z) (h1 : z < 64) : ax_st8 ax_sh μ 206 (zI z) x = some (ax_up μ.1 206 z.toNat (vp_nar .byte x), μ.2) := z_st8y (len := 64) (by decide) h0 h1 (by decide)
theorem ld_208 {μ : ax_M} {z : Int} (h0 : 0 ≤ z) (h1 : z < 940) : ax_ld ax_sh μ 208 (zI z) = some (μ.1 208 z.toNat) := z_ld (len := 940) (by decide) h0 h1 (by decide)
theorem st_208 {μ : ax_M} {z : Int} {x : Int32} (h0 : 0 ≤ z) (h1 : z < 940) : ax_st ax_sh μ 208 (zI z) x = some (ax_up μ.1 208 z.toNat x, μ.2) := z_st (len := 940) (by decide) h0 h1 (by decide)
theorem ld_209 {μ : ax_M} {z : Int} (h0 : 0 ≤ z) (h1 : z < 2466) : ax_ld ax_sh μ 209 (zI z) = some (μ.1 209 z.toNat) := z_ld (len := 2466) (by decide) h0 h1 (by decide)
theorem st_209 {μ : ax_M} {z : Int} {x : Int32} (h0 : 0 ≤ z) (h1 : z < 2466) : ax_st ax_sh μ 209 (zI z) x = some (ax_up μ.1 209 z.toNat x, μ.2) := z_st (len := 2466) (by decide) h0 h1 (by decide)
theorem ld_210 {μ : ax_M} {z : Int} (h0 : 0 ≤ z) (h1 : z < 173) : ax_ld ax_sh μ 210 (zI z) = some (μ.1 210 z.toNat) := z_ld (len := 173) (by decide) h0 h1 (by decide)
theorem st_210 {μ : ax_M} {z : Int} {x : Int32} (h0 : 0 ≤ z) (h1 : z < 173) : ax_st ax_sh μ 210 (zI z) x = some (ax_up μ.1 210 z.toNat x, μ.2) := z_st (len := 173) (by decide) h0 h1 (by decide)
theorem ld_211 {μ : ax_M} {z : Int} (h0 : 0 ≤ z) (h1 : z < 4932) : ax_ld ax_sh μ 211 (zI z) = some (μ.1 211 z.toNat) := z_ld (len := 4932) (by decide) h0 h1 (by decide)
theorem st_211 {μ : ax_M} {z : Int} {x : Int32} (h0 : 0 ≤ z) (h1 : z < 4932) : ax_st ax_sh μ 211 (zI z) x = some (ax_up μ.1 211 z.toNat x, μ.2) := z_st (len := 4932) (by decide) h0 h1 (by decide)
theorem ld_212 {μ : ax_M} {z : Int} (h0 : 0 ≤ z) (h1 : z < 18344) : ax_ld ax_sh μ 212 (zI z) = some (μ.1 212 z.toNat) := z_ld (len := 18344) (by decide) h0 h1 (by decide)
theorem st_212 {μ : ax_M} {z : Int} {x : Int32} (h0 : 0 ≤ z) (h1 : z < 18344) : ax_st ax_sh μ 212 (zI z) x = some (ax_up μ.1 212 z.toNat x, μ.2) := z_st (len := 18344) (by decide) h0 h1 (by decide)
theorem ld_213 {μ : ax_M} {z : Int} (h0 : 0 ≤ z) (h1 : z < 2293) : ax_ld ax_sh μ 213 (zI z) = some (μ.1 213 z.toNat) := z_ld (len := 2293) (by decide) h0 h1 (by decide)
theorem st_213 {μ : ax_M} {z : Int} {x : Int32} (h0 : 0 ≤ z) (h1 : z < 2293) : ax_st ax_sh μ 213 (zI z) x = some (ax_up μ.1 213 z.toNat x, μ.2) := z_st (len := 2293) (by decide) h0 h1 (by decide)
theorem ld_214 {μ : ax_M} {z : Int} (h0 : 0 ≤ z) (h1 : z < 2293) : ax_ld ax_sh μ 214 (zI z) = some (μ.1 214 z.toNat) := z_ld (len := 2293) (by decide) h0 h1 (by decide)
theorem st_214 {μ : ax_M} {z : Int} {x : Int32} (h0 : 0 ≤ z) (h1 : z < 2293) : ax_st ax_sh μ 214 (zI z) x = some (ax_up μ.1 214 z.toNat x, μ.2) := z_st (len := 2293) (by decide) h0 h1 (by decide)
theorem ld_215 {μ : ax_M} {z : Int} (h0 : 0 ≤ z) (h1 : z < 12) : ax_ldl ax_sh μ 215 (zI z) = some (μ.2 215 z.toNat) := z_ldl (len := 12) (by decide) h0 h1 (by decide)
theorem st_215 {μ : ax_M} {z : Int} {x : Int64} (h0 : 0 ≤ z) (h1 : z < 12) : ax_stl ax_sh μ 215 (zI z) x = some (μ.1, ax_up μ.2 215 z.toNat x) := z_stl (len := 12) (by decide) h0 h1 (by decide)
theorem ld_216 {μ : ax_M} {z : Int} (h0 : 0 ≤ z) (h1 : z < 12) : ax_ldl ax_sh μ 216 (zI z) = some (μ.2 216 z.toNat) := z_ldl (len := 12) (by decide) h0 h1 (by decide)
theorem st_216 {μ : ax_M} {z : Int} {x : Int64} (h0 : 0 ≤ z) (h1 : z < 12) : ax_stl ax_sh μ 216 (zI z) x = some (μ.1, ax_up μ.2 216 z.toNat x) := z_stl (len := 12) (by decide) h0 h1 (by decide)
theorem ld_217 {μ : ax_M} {z : Int} (h0 : 0 ≤ z) (h1 : z < 24) : ax_ldl ax_sh μ 217 (zI z) = some (μ.2 217 z.toNat) := z_ldl (len := 24) (by decide) h0 h1 (by decide)
theorem st_217 {μ : ax_M} {z : Int} {x : Int64} (h0 : 0 ≤ z) (h1 : z < 24) : ax_stl ax_sh μ 217 (zI z) x = some (μ.1, ax_up μ.2 217 z.toNat x) := z_stl (len := 24) (by decide) h0 h1 (by decide)
theorem ld_218 {μ : ax_M} {z : Int} (h0 : 0 ≤ z) (h1 : z < 2) : ax_ld8 ax_sh μ 218 (zI z) = some (μ.1 218 z.toNat) := z_ld8 (len := 2) (by decide) h0 h1 (by decide)
theorem st_218 {μ : ax_M} {z : Int} {x : Int32} (h0 : 0 ≤ z) (h1 : z < 2) : ax_st8 ax_sh μ 218 (zI z) x = some (ax_up μ.1 218 z.toNat (vp_nar .boolean x), μ.2) := z_st8b (len := 2) (by decide) h0 h1 (by decide)
theorem ld_219 {μ : ax_M} {z : Int} (h0 : 0 ≤ z) (h1 : z < 30) : ax_ld ax_sh μ 219 (zI z) = some (μ.1 219 z.toNat) := z_ld (len := 30) (by decide) h0 h1 (by decide)
theorem st_219 {μ : ax_M} {z : Int} {x : Int32} (h0 : 0 ≤ z) (h1 : z < 30) : ax_st ax_sh μ 219 (zI z) x = some (ax_up μ.1 219 z.toNat x, μ.2) := z_st (len := 30) (by decide) h0 h1 (by decide)
theorem ld_220 {μ : ax_M} {z : Int} (h0 : 0 ≤ z) (h1 : z < 60) : ax_ld ax_sh μ 220 (zI z) = some (μ.1 220 z.toNat) := z_ld (len := 60) (by decide) h0 h1 (by decide)
theorem st_220 {μ : ax_M} {z : Int} {x : Int32} (h0 : 0 ≤ z) (h1 : z < 60) : ax_st ax_sh μ 220 (zI z) x = some (ax_up μ.1 220 z.toNat x, μ.2) := z_st (len := 60) (by decide) h0 h1 (by decide)
theorem ld_221 {μ : ax_M} {z : Int} (h0 : 0 ≤ z) (h1 : z < 60) : ax_ld8 ax_sh μ 221 (zI z) = some (μ.1 221 z.toNat) := z_ld8 (len := 60) (by decide) h0 h1 (by decide)
theorem st_221 {μ : ax_M} {z : Int} {x : Int32} (h0 : 0 ≤ z) (h1 : z < 60) : ax_st8 ax_sh μ 221 (zI z) x = some (ax_up μ.1 221 z.toNat (vp_nar .boolean x), μ.2) := z_st8b (len := 60) (by decide) h0 h1 (by decide)
theorem ld_222 {μ : ax_M} {z : Int} (h0 : 0 ≤ z) (h1 : z < 60) : ax_ld8 ax_sh μ 222 (zI z) = some (μ.1 222 z.toNat) := z_ld8 (len := 60) (by decide) h0 h1 (by decide)
theorem st_222 {μ : ax_M} {z : Int} {x : Int32} (h0 : 0 ≤ z) (h1 : z < 60) : ax_st8 ax_sh μ 222 (zI z) x = some (ax_up μ.1 222 z.toNat (vp_nar .boolean x), μ.2) := z_st8b (len := 60) (by decide) h0 h1 (by decide)
theorem ld_223 {μ : ax_M} {z : Int} (h0 : 0 ≤ z) (h1 : z < 60) : ax_ld ax_sh μ 223 (zI z) = some (μ.1 223 z.toNat) := z_ld (len := 60) (by decide) h0 h1 (by decide)
theorem st_223 {μ : ax_M} {z : Int} {x : Int32} (h0 : 0 ≤ z) (h1 : z < 60) : ax_st ax_sh μ 223 (zI z) x = some (ax_up μ.1 223 z.toNat x, μ.2) := z_st (len := 60) (by decide) h0 h1 (by decide)
theorem ld_224 {μ : ax_M} {z : Int} (h0 : 0 ≤ z) (h1 : z < 48) : ax_ld ax_sh μ 224 (zI z) = some (μ.1 224 z.toNat) := z_ld (len := 48) (by decide) h0 h1 (by decide)
theorem st_224 {μ : ax_M} {z : Int} {x : Int32} (h0 : 0 ≤ z) (h1 : z < 48) : ax_st ax_sh μ 224 (zI z) x = some (ax_up μ.1 224 z.toNat x, μ.2) := z_st (len := 48) (by decide) h0 h1 (by decide)
