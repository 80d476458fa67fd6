/-! n: phases: fresh, or with a network -/
def pQ (G : gG) (S : gS) (U : List gU) (K : qK) : Prop := pOK G S U K ∨ (G = G00 ∧ S = S00 ∧ U = [] ∧ kOK K ∧ (kN K).1 = 0)
theorem G00_ok : hGok G00 := ⟨Int.le_refl 0, by show (0 : Int) ≤ 12; omega, Int.le_refl 0, by show (0 : Int) ≤ 30; omega, fun e e0 e1 => by
  have : gE G00 = 0 := rfl
  omega⟩
theorem G00_x : hGx G00 := fun e e0 e1 => by
  have : gE G00 = 0 := rfl
  omega
theorem pQ_g {G : gG} {S : gS} {U : List gU} {K : qK} (h : pQ G S U K) : hGok G := by
  rcases h with h | ⟨rfl, _⟩
  · exact h.1
  · exact G00_ok
theorem pQ_x {G : gG} {S : gS} {U : List gU} {K : qK} (h : pQ G S U K) : hGx G := by
  rcases h with h | ⟨rfl, _⟩
  · exact h.2.1
  · exact G00_x
theorem pQ_K {G : gG} {S : gS} {U : List gU} {K : qK} (h : pQ G S U K) : kOK K := by
  rcases h with h | ⟨_, _, _, h, _⟩
  · exact h.2.2.2.2.2.2.1
  · exact h
theorem pQ_n {G : gG} {S : gS} {U : List gU} {K : qK} (h : pQ G S U K) : (kN K).1 = gN G := by
  rcases h with h | ⟨rfl, _, _, _, h⟩
  · exact h.2.2.2.2.2.2.2
  · exact h
theorem pQ_L {G : gG} {S : gS} {U : List gU} {K : qK} (h : pQ G S U K) : 0 ≤ gnL S ∧ gnL S ≤ 252 := by
  rcases h with h | ⟨_, rfl, _⟩
  · exact pOK_L h
  · have : gnL S00 = 0 := rfl
    omega
/-- the rest changes, the network and its state do not -/
theorem pQ_r {G : gG} {S : gS} {U : List gU} {K K' : qK} (h : pQ G S U K) (hK : kOK K') (hN : kN K' = kN K) : pQ G S U K' := by
  rcases h with ⟨p1, p2, p3, p4, p5, p6, p7, p8⟩ | ⟨p1, p2, p3, p4, p5⟩
  · exact Or.inl ⟨p1, p2, p3, p4, p5, p6, hK, by rw [hN]; exact p8⟩
  · exact Or.inr ⟨p1, p2, p3, hK, by rw [hN]; exact p5⟩
/-- a call, in either phase -/
def qF (G : gG) (S : gS) (U : List gU) (K : qK) (fC fM : Nat) (aC aM : List Value) : Prop := ∃ (r : Int32) (G' : gG) (S' : gS) (U' : List gU) (K' : qK), pQ G' S' U' K' ∧ (∀ ν, iC G S U K ν → ∃ ν', aJ fC aC [] ν = some (some (.int r), ν') ∧ iC G' S' U' K' ν' ∧ frC ν ν') ∧ (∀ ν, iM G S U K ν → ∃ ν', aJ fM aM [] ν = some (some (.int r), ν') ∧ iM G' S' U' K' ν' ∧ frM ν ν')
theorem qF_1 {G : gG} {S : gS} {U : List gU} {K : qK} {fC fM : Nat} {aC aM : List Value} (h : qCl G S U K fC fM aC aM) : qF G S U K fC fM aC aM := by
  obtain ⟨r, G', S', U', K', h1, h2, h3⟩ := h
  exact ⟨r, G', S', U', K', Or.inl h1, h2, h3⟩
theorem qF_same {G : gG} {S : gS} {U : List gU} {K : qK} {fC fM : Nat} {aC aM : List Value} (hp : pQ G S U K) (r : Int32) (h1 : ∀ ν, iC G S U K ν → aJ fC aC [] ν = some (some (.int r), ν)) (h2 : ∀ ν ν0, ν0 = ax_uD ν 207 0 0 → iM G S U K ν0 → aJ fM aM [] ν = some (some (.int r), ν0)) : qF G S U K fC fM aC aM :=
  ⟨r, G, S, U, K, hp, fun ν hi => ⟨ν, h1 ν hi, hi, frC_z⟩, fun ν hi => by
    obtain ⟨ν0, e0, hi0, f0⟩ := iM_th (pQ_K hp).1 hi
    exact ⟨ν0, h2 ν ν0 e0 hi0, hi0, f0⟩⟩
/-- the fresh phase: cells that it doesn't speak of -/
def fC (a : Nat) : Prop := a = 13 ∨ a = 19 ∨ a = 20 ∨ (40 ≤ a ∧ a ≤ 50) ∨ (52 ≤ a ∧ a ≤ 150) ∨ (202 ≤ a ∧ a ≤ 204)
theorem iC0_fr {K : qK} {l : List Nat} {ν ν' : ax_M} (hf : fr l ν ν') (hl : ∀ a, a ∈ l → fC a) (h13 : ν'.1 13 0 = ν.1 13 0) (hi : iC G00 S00 [] K ν) : iC G00 S00 [] K ν' := by
  unfold fC at hl
  obtain ⟨⟨X, x1, x2⟩, ⟨top, u1, u2, u3, u4, u5⟩, j⟩ := hi
  have n0 : 0 ∉ l := fun q => by have := hl 0 q; omega
  refine ⟨⟨X, cI_fr (Or.inl rfl) hf (fun a ha => by have := hl a ha; omega) x1, x2⟩, ⟨top, u1, u2, (fr_at hf n0 10).trans u3, (fr_at hf n0 11).trans u4, fun j e he => by cases j <;> cases he⟩, ?_⟩
  exact jC_fr hf (fun a ha => by have := hl a ha; unfold jCs; omega) h13 (fr_at hf n0 1) (fr_at hf n0 15) (fr_at hf n0 16) j
/-- what a run holds there -/
theorem xx0 {X : cX} (h : XX G00 S00 X) : xow X = 0 ∧ xwc X = 0 ∧ xhd X = 0 ∧ xdp X = 0 ∧ ∀ x, 0 ≤ x → x < 7 → xso X x = 0 := by
  rcases h with h | ⟨_, _, rfl⟩
  · obtain ⟨_, _, _, _, h5, h6, _, ⟨h81, h82, h83⟩, h9⟩ := h
    have hL : gnL S00 = 0 := rfl
    have z : ∀ w, nWh S00 w = 0 := fun _ => rfl
    refine ⟨by rw [h81, z]; rfl, by rw [h82, z]; rfl, by rw [h83, z]; rfl, ?_, fun x x0 x1 => by rw [h6 x x0 x1]; rfl⟩
    rcases h9.2.2 with q | ⟨k, k0, k1, _⟩
    · exact q
    · omega
  · exact ⟨rfl, rfl, rfl, rfl, fun _ _ _ => rfl⟩
/-- a call in the fresh phase that leaves all as it is -/
theorem qF_0 {K : qK} {fC' fM : Nat} {aC aM : List Value} (hK : kOK K) (hN : (kN K).1 = 0) (r : Int32) (h1 : ∀ ν X, cI 29 G00 S00 X ν → XX G00 S00 X → iC G00 S00 [] K ν → ∃ ν' l, aJ fC' aC [] ν = some (some (.int r), ν') ∧ fr l ν ν' ∧ (∀ a, a ∈ l → fC a) ∧ ν'.1 13 0 = ν.1 13 0) (h2 : ∀ ν ν0, ν0 = ax_uD ν 207 0 0 → mI G00 S00 ν0 → iM G00 S00 [] K ν0 → ∃ ν', aJ fM aM [] ν = some (some (.int r), ν') ∧ iM G00 S00 [] K ν' ∧ frM ν0 ν') : qF G00 S00 [] K fC' fM aC aM :=
  ⟨r, G00, S00, [], K, Or.inr ⟨rfl, rfl, rfl, hK, hN⟩, fun ν hi => by
    obtain ⟨⟨X, x1, x2⟩, _, _⟩ := id hi
    obtain ⟨ν', l, a, b, c, d⟩ := h1 ν X x1 x2 hi
    exact ⟨ν', a, iC0_fr b c d hi, frC_of b (fun a ha => by have := c a ha; unfold fC at this; omega)⟩, fun ν hi => by
    obtain ⟨ν0, e0, hi0, f0⟩ := iM_th hK.1 hi
    obtain ⟨ν', a, b, c⟩ := h2 ν ν0 e0 hi0.1 hi0
    exact ⟨ν', a, b, frM_t f0 c⟩⟩
/-- and one that does nothing -/
theorem qF_0n {K : qK} {fC' fM : Nat} {aC aM : List Value} (hK : kOK K) (hN : (kN K).1 = 0) (r : Int32) (h1 : ∀ ν X, cI 29 G00 S00 X ν → XX G00 S00 X → iC G00 S00 [] K ν → aJ fC' aC [] ν = some (some (.int r), ν)) (h2 : ∀ ν0, mI G00 S00 ν0 → iM G00 S00 [] K ν0 → ∀ ν, ν0 = ax_uD ν 207 0 0 → aJ fM aM [] ν = some (some (.int r), ν0)) : qF G00 S00 [] K fC' fM aC aM :=
  qF_0 hK hN r (fun ν X x xx hi => ⟨ν, [], h1 ν X x xx hi, frz, fun a ha => by simp at ha, rfl⟩) (fun ν ν0 e0 m hi0 => ⟨ν0, h2 ν0 m hi0 ν e0, hi0, frM_z⟩)
/-- the fresh phase: nothing is a node, an edge, a way, a letter -/
theorem d0N (n : Int) : decide (0 ≤ n ∧ n < gN G00) = false := decide_eq_false (by
  rintro ⟨a, b⟩
  have : gN G00 = 0 := rfl
  omega)
theorem d0E (n : Int) : decide (0 ≤ n ∧ n < gE G00) = false := decide_eq_false (by
  rintro ⟨a, b⟩
  have : gE G00 = 0 := rfl
  omega)
theorem d0W (n : Int) : decide (0 ≤ n ∧ n < 2 * gE G00) = false := decide_eq_false (by
  rintro ⟨a, b⟩
  have : gE G00 = 0 := rfl
  omega)
theorem d0L (n : Int) : decide (0 ≤ n ∧ n < gnL S00) = false := decide_eq_false (by
  rintro ⟨a, b⟩
  have : gnL S00 = 0 := rfl
  omega)
theorem e0N : gN G00 = 0 := rfl
theorem e0E : gE G00 = 0 := rfl
theorem e0L : gnL S00 = 0 := rfl
