/-! cx: the constructors' world: cells are made one by one; a field of kind 4 is null yet -/
def cx_fv (ad : Nat → Nat) (μ : ax_M) (o : Nat) (q : Nat × Nat) (k : Nat) : Value := match q.1 with
  | 1 => .long (μ.2 o k)
  | 2 => .ref (ad q.2)
  | 4 => .null
  | _ => .int (μ.1 o k)
def cx_en (cA : Nat → ClassId) (ad : Nat → Nat) (c : ax_C) (o : Nat) (μ : ax_M) : va_E := match c.1 with
  | 0 => .inr (c.2.1, c.2.2.mapIdx fun k q => cx_fv ad μ o q k)
  | 4 => .inl (cA 4, c.2.1, .inr (.inl (μ.2 o)))
  | 5 => .inl (cA 5, c.2.1, .inr (.inr (.inr (.inr fun j => (c.2.2[j]?).map fun q => ad q.2))))
  | 6 => .inl (cA 6, c.2.1, .inr (.inr (.inr (.inr fun j => (c.2.2[j]?).map fun q => ad q.2))))
  | t => .inl (cA t, c.2.1, .inl (μ.1 o))
def cx_w (cA : Nat → ClassId) (ad : Nat → Nat) (sh : Nat → ax_C) (N : Nat) (μ : ax_M) : va_W := (List.range N).map fun o => (ad o, cx_en cA ad (sh o) o μ)
def cx_ext (ad : Nat → Nat) (N q : Nat) : Nat → Nat := fun o => if o = N then q else ad o
def cx_set (sh : Nat → ax_C) (o : Nat) (c : ax_C) : Nat → ax_C := fun b => if b = o then c else sh b
/-- what cells point at is there -/
def cx_cl (sh : Nat → ax_C) (N : Nat) : Prop := ∀ o, o < N → ∀ q ∈ (sh o).2.2, q.2 < N
def cx_W (Dg : va_G) (cl : List vw_C) (A : Nat → Prop) (cA : Nat → ClassId) (ad : Nat → Nat) (sh : Nat → ax_C) (N : Nat) (μ : ax_M) (H : Heap) : Prop := va_P Dg cl (cx_w cA ad sh N μ) H ∧ va_D A (cx_w cA ad sh N μ) ∧ cx_cl sh N
theorem cx_w_at {cA : Nat → ClassId} {ad : Nat → Nat} {sh : Nat → ax_C} {N : Nat} {μ : ax_M} {o : Nat} (h : o < N) : (cx_w cA ad sh N μ)[o]? = some (ad o, cx_en cA ad (sh o) o μ) := by
  simp [cx_w, List.getElem?_range h]
theorem cx_en_ad {cA : Nat → ClassId} {ad ad' : Nat → Nat} {c : ax_C} {o : Nat} {μ μ' : ax_M} (h : ∀ q ∈ c.2.2, ad' q.2 = ad q.2) (h1 : μ'.1 o = μ.1 o) (h2 : μ'.2 o = μ.2 o) : cx_en cA ad' c o μ' = cx_en cA ad c o μ := by
  have hf : (c.2.2.mapIdx fun k q => cx_fv ad' μ' o q k) = (c.2.2.mapIdx fun k q => cx_fv ad μ o q k) := by
    apply List.ext_getElem?
    intro i
    rw [List.getElem?_mapIdx, List.getElem?_mapIdx]
    cases hq : c.2.2[i]? with
    | none => rfl
    | some q =>
      have := h q (List.mem_of_getElem? hq)
      simp only [Option.map_some, cx_fv, this, h1, h2]
  have hg : (fun j : Nat => (c.2.2[j]?).map fun q => ad' q.2) = (fun j : Nat => (c.2.2[j]?).map fun q => ad q.2) := by
    funext j
    cases hq : c.2.2[j]? with
    | none => rfl
    | some q => simp only [Option.map_some, h q (List.mem_of_getElem? hq)]
  unfold cx_en
  split <;> simp only [h1, h2, hf, hg]
/-- a new cell -/
theorem cx_w_push {cA : Nat → ClassId} {ad : Nat → Nat} {sh : Nat → ax_C} {N q : Nat} {μ : ax_M} {c : ax_C} {x : va_E} (hcl : cx_cl sh N) (hc : ∀ q ∈ c.2.2, q.2 ≤ N) (hx : x = cx_en cA (cx_ext ad N q) c N μ) : cx_w cA ad sh N μ ++ [(q, x)] = cx_w cA (cx_ext ad N q) (cx_set sh N c) (N + 1) μ := by
  unfold cx_w
  rw [List.range_succ, List.map_append]
  congr 1
  · apply List.map_congr_left
    intro o ho
    have hoN : o < N := List.mem_range.mp ho
    have e1 : cx_ext ad N q o = ad o := if_neg (by omega)
    have e2 : cx_set sh N c o = sh o := if_neg (by omega)
    rw [e1, e2, cx_en_ad (ad := ad) (ad' := cx_ext ad N q) (fun r hr => if_neg (by have := hcl o hoN r hr; omega)) rfl rfl]
  · have e1 : cx_ext ad N q N = q := if_pos rfl
    have e2 : cx_set sh N c N = c := if_pos rfl
    simp only [List.map_cons, List.map_nil, e1, e2, hx]
theorem cx_cl_push {sh : Nat → ax_C} {N : Nat} {c : ax_C} (hcl : cx_cl sh N) (hc : ∀ q ∈ c.2.2, q.2 ≤ N) : cx_cl (cx_set sh N c) (N + 1) := by
  intro o ho q hq
  by_cases h : o = N
  · subst h
    have e : cx_set sh o c o = c := if_pos rfl
    rw [e] at hq
    have := hc q hq
    omega
  · have e : cx_set sh N c o = sh o := if_neg h
    rw [e] at hq
    have := hcl o (by omega) q hq
    omega
/-- a cell changes -/
theorem cx_w_set {cA : Nat → ClassId} {ad : Nat → Nat} {sh : Nat → ax_C} {N : Nat} {μ μ' : ax_M} {o : Nat} {c : ax_C} {x : va_E} (h1 : ∀ a, a ≠ o → μ'.1 a = μ.1 a ∧ μ'.2 a = μ.2 a) (h2 : o < N) (hx : x = cx_en cA ad c o μ') : (cx_w cA ad sh N μ).set o (ad o, x) = cx_w cA ad (cx_set sh o c) N μ' := by
  subst hx
  apply List.ext_getElem?
  intro i
  by_cases hi : i = o
  · subst hi
    have e : cx_set sh i c i = c := if_pos rfl
    rw [List.getElem?_set_self (by simp [cx_w, h2]), cx_w_at h2, e]
  · rw [List.getElem?_set_ne (Ne.symm hi)]
    by_cases hN : i < N
    · have e : cx_set sh o c i = sh i := if_neg hi
      rw [cx_w_at hN, cx_w_at hN, e, cx_en_ad (ad := ad) (ad' := ad) (μ := μ) (μ' := μ') (fun _ _ => rfl) (h1 i hi).1 (h1 i hi).2]
    · rw [List.getElem?_eq_none (by simp [cx_w]; omega), List.getElem?_eq_none (by simp [cx_w]; omega)]
theorem cx_cl_set {sh : Nat → ax_C} {N o : Nat} {c : ax_C} (hcl : cx_cl sh N) (hc : ∀ q ∈ c.2.2, q.2 < N) : cx_cl (cx_set sh o c) N := by
  intro b hb q hq
  by_cases h : b = o
  · subst h
    have e : cx_set sh b c b = c := if_pos rfl
    rw [e] at hq
    exact hc q hq
  · have e : cx_set sh o c b = sh b := if_neg h
    rw [e] at hq
    exact hcl b hb q hq
theorem cx_en0 {cA : Nat → ClassId} {ad : Nat → Nat} {c : ax_C} {a : Nat} {μ : ax_M} (h : c.1 = 0) : cx_en cA ad c a μ = .inr (c.2.1, c.2.2.mapIdx fun k q => cx_fv ad μ a q k) := by
  unfold cx_en
  rw [h]
  rfl
/-- without null fields it is the machine's world -/
theorem cx_ax {Dg : va_G} {cl : List vw_C} {A : Nat → Prop} {cA : Nat → ClassId} {ad : Nat → Nat} {sh sh' : Nat → ax_C} {N N' : Nat} {μ μ' : ax_M} {H : Heap} (h : cx_W Dg cl A cA ad sh N μ H) (hN : N' ≤ N) (hs : ∀ o, o < N' → sh o = sh' o) (hn : ∀ o, o < N' → ∀ q ∈ (sh' o).2.2, q.1 ≠ 4) (hμ : ∀ o, o < N' → μ.1 o = μ'.1 o ∧ μ.2 o = μ'.2 o) : ax_W Dg cl A cA ad sh' N' μ' H := by
  have key : ∀ o, o < N' → (cx_w cA ad sh N μ)[o]? = (ax_w cA ad sh' N' μ')[o]? := by
    intro o ho
    rw [cx_w_at (by omega), ax_w_at ho, hs o ho]
    congr 2
    have hf : ((sh' o).2.2.mapIdx fun k q => cx_fv ad μ o q k) = ((sh' o).2.2.mapIdx fun k q => ax_fv ad μ' o q k) := by
      apply List.ext_getElem?
      intro i
      rw [List.getElem?_mapIdx, List.getElem?_mapIdx]
      cases hq : (sh' o).2.2[i]? with
      | none => rfl
      | some q =>
        have h4 := hn o ho q (List.mem_of_getElem? hq)
        obtain ⟨k, t⟩ := q
        simp only [Option.map_some, cx_fv, ax_fv]
        rw [(hμ o ho).1, (hμ o ho).2]
        split
        · rfl
        · rfl
        · exact absurd rfl h4
        · next a1 a2 a3 =>
          split
          · exact absurd rfl a1
          · exact absurd rfl a2
          · rfl
    unfold cx_en ax_en
    rw [hf, (hμ o ho).1, (hμ o ho).2]
    generalize (sh' o).1 = t
    match t with
    | 0 => rfl
    | 1 => rfl
    | 2 => rfl
    | 3 => rfl
    | 4 => rfl
    | 5 => rfl
    | 6 => rfl
    | t + 7 => rfl
  have hl : ∀ (k : Nat) (q : Nat × va_E), (ax_w cA ad sh' N' μ')[k]? = some q → k < N' := by
    intro k q hk
    have := (List.getElem?_eq_some_iff.mp hk).1
    simpa [ax_w] using this
  refine ⟨fun k q hk => h.1 k q (by rw [key k (hl k q hk)]; exact hk), fun i j p q hi hj hpq => h.2.1.1 i j p q (by rw [key i (hl i p hi)]; exact hi) (by rw [key j (hl j q hj)]; exact hj) hpq, fun k q hk => h.2.1.2 k q (by rw [key k (hl k q hk)]; exact hk)⟩
