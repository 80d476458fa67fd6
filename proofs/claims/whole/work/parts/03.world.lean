/-! ax: the machine is sound. First what the world of cells is, and its single steps. -/
def ax_rv (ad : Nat → Nat) (v : Value) : Value := match v with
  | .ref a => .ref (ad a)
  | v => v
def ax_ml (ad : Nat → Nat) (lv : ax_L) : ax_L := lv.map fun q => (q.1, ax_rv ad q.2)
theorem ax_rv_cat (ad : Nat → Nat) (v : Value) : (ax_rv ad v).category = v.category := by cases v <;> rfl
theorem ax_s1_ml (ad : Nat → Nat) (lv : ax_L) (i : Nat) (v : Value) : (i, ax_rv ad v) :: (ax_ml ad lv).filter (fun q => !(q.1 == i) && !(q.1 + 1 == i && q.2.category == 2)) = ax_ml ad (ax_s1 lv i v) := by
  simp [ax_ml, ax_s1, List.filter_map, Function.comp_def, ax_rv_cat]
theorem ax_s2_ml (ad : Nat → Nat) (lv : ax_L) (i : Nat) (v : Value) : (i, ax_rv ad v) :: (ax_ml ad lv).filter (fun q => !(q.1 == i) && (!(q.1 == i + 1) && !(q.1 + 1 == i && q.2.category == 2))) = ax_ml ad (ax_s2 lv i v) := by
  simp [ax_ml, ax_s2, List.filter_map, Function.comp_def, ax_rv_cat]
theorem ax_lk_mem : ∀ (lv : ax_L) (i : Nat) (v : Value), ax_lk lv i = some v → (i, v) ∈ lv
  | [], _, _, h => by simp [ax_lk] at h
  | (j, w) :: t, i, v, h => by
    rw [ax_lk] at h
    split at h
    · next q => subst q; cases h; exact List.mem_cons_self
    · exact List.mem_cons_of_mem _ (ax_lk_mem t i v h)
theorem ax_lk_at {ad : Nat → Nat} {lv : ax_L} {ls : Array Slot} {nL i : Nat} {v : Value} (h : lv_has ls nL (ax_ml ad lv)) (hv : ax_lk lv i = some v) : ls[i]? = some (.val (ax_rv ad v)) :=
  h.2.2 (i, ax_rv ad v) (List.mem_map.mpr ⟨(i, v), ax_lk_mem _ _ _ hv, rfl⟩)
theorem ax_lk_pl {ad : Nat → Nat} {lv : ax_L} {i : Nat} {v : Value} (hv : ax_lk lv i = some v) : ∃ k : Nat, (ax_ml ad lv)[k]? = some (i, ax_rv ad v) :=
  List.getElem?_of_mem (List.mem_map.mpr ⟨(i, v), ax_lk_mem _ _ _ hv, rfl⟩)
theorem ax_pick_mem (lv : ax_L) : ∀ (ks : List Nat) (vs : List Value), ax_pick lv ks = some vs → ∀ q ∈ ks.zip vs, ax_lk lv q.1 = some q.2
  | [], vs, h => by intro q hq; simp at hq
  | k :: ks, vs, h => by
    rw [ax_pick] at h
    split at h
    · next v hv =>
      split at h
      · next ws hw =>
        cases h
        intro q hq
        rw [List.zip_cons_cons] at hq
        rcases List.mem_cons.mp hq with rfl | hq
        · exact hv
        · exact ax_pick_mem lv ks ws hw q hq
      · cases h
    · cases h
theorem ax_pick_has {ad : Nat → Nat} {lv : ax_L} {ls : Array Slot} {nL : Nat} {ks : List Nat} {vs : List Value} (h : lv_has ls nL (ax_ml ad lv)) (hp : ax_pick lv ks = some vs) : lv_has ls nL (ax_ml ad (ks.zip vs)) := by
  refine ⟨h.1, h.2.1, fun q hq => ?_⟩
  obtain ⟨z, hz, rfl⟩ := List.mem_map.mp hq
  exact ax_lk_at h (ax_pick_mem lv ks vs hp z hz)
def ax_fv (ad : Nat → Nat) (μ : ax_M) (o : Nat) (q : Nat × Nat) (k : Nat) : Value := match q.1 with
  | 1 => .long (μ.2 o k)
  | 2 => .ref (ad q.2)
  | _ => .int (μ.1 o k)
def ax_en (cA : Nat → ClassId) (ad : Nat → Nat) (c : ax_C) (o : Nat) (μ : ax_M) : va_E := match c.1 with
  | 0 => .inr (c.2.1, c.2.2.mapIdx fun k q => ax_fv ad μ o q k)
  | 4 => .inl (cA 4, c.2.1, .inr (.inl (μ.2 o)))
  | 5 => .inl (cA 5, c.2.1, .inr (.inr (.inr (.inr fun j => (c.2.2[j]?).map fun q => ad q.2))))
  | 6 => .inl (cA 6, c.2.1, .inr (.inr (.inr (.inr fun j => (c.2.2[j]?).map fun q => ad q.2))))
  | t => .inl (cA t, c.2.1, .inl (μ.1 o))
def ax_w (cA : Nat → ClassId) (ad : Nat → Nat) (sh : Nat → ax_C) (N : Nat) (μ : ax_M) : va_W := (List.range N).map fun o => (ad o, ax_en cA ad (sh o) o μ)
def ax_ty (cA : Nat → ClassId) : List (ClassId × FieldType) := [(cA 1, .int), (cA 2, .byte), (cA 3, .boolean), (cA 4, .long), (cA 5, .object "AskingFragments$Run"), (cA 6, .object "AskingFragments$Image")]
theorem ax_w_at {cA : Nat → ClassId} {ad : Nat → Nat} {sh : Nat → ax_C} {N : Nat} {μ : ax_M} {o : Nat} (h : o < N) : (ax_w cA ad sh N μ)[o]? = some (ad o, ax_en cA ad (sh o) o μ) := by
  simp [ax_w, List.getElem?_range h]
theorem ax_w_set {cA : Nat → ClassId} {ad : Nat → Nat} {sh : Nat → ax_C} {N : Nat} {μ μ' : ax_M} {o : Nat} {x : va_E} (h1 : ∀ a, a ≠ o → ax_en cA ad (sh a) a μ' = ax_en cA ad (sh a) a μ) (h2 : o < N) (hx : x = ax_en cA ad (sh o) o μ') : (ax_w cA ad sh N μ).set o (ad o, x) = ax_w cA ad sh N μ' := by
  subst hx
  apply List.ext_getElem?
  intro i
  by_cases hi : i = o
  · subst hi
    rw [List.getElem?_set_self (by simp [ax_w, h2]), ax_w_at h2]
  · rw [List.getElem?_set_ne (Ne.symm hi)]
    by_cases hN : i < N
    · rw [ax_w_at hN, ax_w_at hN, h1 i hi]
    · rw [List.getElem?_eq_none (by simp [ax_w]; omega), List.getElem?_eq_none (by simp [ax_w]; omega)]
theorem ax_up_ne {α : Type} {f : Nat → Nat → α} {o k : Nat} {v : α} {a : Nat} (h : a ≠ o) : ax_up f o k v a = f a := by
  funext b
  simp [ax_up, h]
theorem ax_up_row {f : Nat → Nat → Int32} {o k : Nat} {v : Int32} : ax_up f o k v o = upd (f o) k v := by
  funext b
  simp [ax_up, upd]
theorem ax_up_rowL {f : Nat → Nat → Int64} {o k : Nat} {v : Int64} : ax_up f o k v o = vp_updL (f o) k v := by
  funext b
  simp [ax_up, vp_updL]
theorem ax_en_ne1 {cA : Nat → ClassId} {ad : Nat → Nat} {c : ax_C} {μ μ' : ax_M} {a : Nat} (h1 : μ'.1 a = μ.1 a) (h2 : μ'.2 a = μ.2 a) : ax_en cA ad c a μ' = ax_en cA ad c a μ := by
  have hf : ∀ (q : Nat × Nat) (k : Nat), ax_fv ad μ' a q k = ax_fv ad μ a q k := by
    intro q k
    simp only [ax_fv, h1, h2]
  unfold ax_en
  split <;> simp only [h1, h2, hf]
theorem ax_en_kind {cA : Nat → ClassId} {ad : Nat → Nat} {c : ax_C} {a : Nat} {μ : ax_M} {t : Nat} (h : c.1 = t) (ht : t = 1 ∨ t = 2 ∨ t = 3) : ax_en cA ad c a μ = .inl (cA t, c.2.1, .inl (μ.1 a)) := by
  unfold ax_en
  rw [h]
  rcases ht with rfl | rfl | rfl <;> rfl
theorem ax_en_kind4 {cA : Nat → ClassId} {ad : Nat → Nat} {c : ax_C} {a : Nat} {μ : ax_M} (h : c.1 = 4) : ax_en cA ad c a μ = .inl (cA 4, c.2.1, .inr (.inl (μ.2 a))) := by
  unfold ax_en
  rw [h]
  rfl
theorem ax_en_kind56 {cA : Nat → ClassId} {ad : Nat → Nat} {c : ax_C} {a : Nat} {μ : ax_M} {t : Nat} (h : c.1 = t) (ht : t = 5 ∨ t = 6) : ax_en cA ad c a μ = .inl (cA t, c.2.1, .inr (.inr (.inr (.inr fun j => (c.2.2[j]?).map fun q => ad q.2)))) := by
  unfold ax_en
  rw [h]
  rcases ht with rfl | rfl <;> rfl
theorem ax_en_kind0 {cA : Nat → ClassId} {ad : Nat → Nat} {c : ax_C} {a : Nat} {μ : ax_M} (h : c.1 = 0) : ax_en cA ad c a μ = .inr (c.2.1, c.2.2.mapIdx fun k q => ax_fv ad μ a q k) := by
  unfold ax_en
  rw [h]
  rfl
theorem ax_ty_at {cA : Nat → ClassId} {t : Nat} (h : t = 1 ∨ t = 2 ∨ t = 3 ∨ t = 4 ∨ t = 5 ∨ t = 6) : ∃ ty, (ax_ty cA)[t - 1]? = some (cA t, ty) := by
  rcases h with rfl | rfl | rfl | rfl | rfl | rfl <;> exact ⟨_, rfl⟩
theorem ax_pop_eq : ∀ (n : Nat) (acc st as st' : List Value), ax_pop n acc st = some (as, st') → ∃ xs : List Value, xs.length = n ∧ st = xs ++ st' ∧ as = xs.reverse ++ acc
  | 0, acc, st, as, st', h => by
    simp only [ax_pop, Option.some.injEq, Prod.mk.injEq] at h
    exact ⟨[], rfl, by simp [h.2], by simp [h.1]⟩
  | n + 1, acc, [], as, st', h => by simp [ax_pop] at h
  | n + 1, acc, v :: st, as, st', h => by
    rw [ax_pop] at h
    obtain ⟨xs, h1, h2, h3⟩ := ax_pop_eq n (v :: acc) st as st' h
    exact ⟨v :: xs, by simp [h1], by simp [h2], by simp [h3]⟩
theorem ax_bo_some {α : Type} {r : Option α} {f : α → ax_R} {z : Option Value × ax_M} (h : ax_bo r f = some z) : ∃ v, r = some v ∧ f v = some z := by
  cases r with
  | none => simp [ax_bo] at h
  | some v => exact ⟨v, rfl, h⟩
theorem ax_b0_some {r : ax_R} {f : ax_M → ax_R} {z : Option Value × ax_M} (h : ax_b0 r f = some z) : ∃ μ, r = some (none, μ) ∧ f μ = some z := by
  unfold ax_b0 at h
  split at h
  · exact ⟨_, rfl, h⟩
  · cases h
theorem ax_b1_some {r : ax_R} {f : Int32 → ax_M → ax_R} {z : Option Value × ax_M} (h : ax_b1 r f = some z) : ∃ v μ, r = some (some (.int v), μ) ∧ f v μ = some z := by
  unfold ax_b1 at h
  split at h
  · exact ⟨_, _, rfl, h⟩
  · cases h
theorem ax_b2_some {r : ax_R} {f : Int64 → ax_M → ax_R} {z : Option Value × ax_M} (h : ax_b2 r f = some z) : ∃ v μ, r = some (some (.long v), μ) ∧ f v μ = some z := by
  unfold ax_b2 at h
  split at h
  · exact ⟨_, _, rfl, h⟩
  · cases h
theorem ax_b3_some {r : ax_R} {f : Nat → ax_M → ax_R} {g : ax_M → ax_R} {z : Option Value × ax_M} (h : ax_b3 r f g = some z) : (∃ v μ, r = some (some (.ref v), μ) ∧ f v μ = some z) ∨ ∃ μ, r = some (some .null, μ) ∧ g μ = some z := by
  unfold ax_b3 at h
  split at h
  · exact Or.inl ⟨_, _, rfl, h⟩
  · exact Or.inr ⟨_, rfl, h⟩
  · cases h
theorem ax_fit_some {st : List Value} {r : ax_R} {z : Option Value × ax_M} (h : ax_fit st r = some z) : (st.map fun v => v.category).sum ≤ 8 ∧ r = some z := by
  unfold ax_fit at h
  split at h
  · next q => exact ⟨q, h⟩
  · cases h
theorem ax_fit_map {ad : Nat → Nat} {st : List Value} (h : (st.map fun v => v.category).sum ≤ 8) : ((st.map (ax_rv ad)).map fun v => v.category).sum ≤ 8 := by
  simpa [List.map_map, Function.comp_def, ax_rv_cat] using h
/-- what a method is given, and what it leaves -/
def ax_W (Dg : va_G) (cl : List vw_C) (A : Nat → Prop) (cA : Nat → ClassId) (ad : Nat → Nat) (sh : Nat → ax_C) (N : Nat) (μ : ax_M) (H : Heap) : Prop := va_P Dg cl (ax_w cA ad sh N μ) H ∧ va_D A (ax_w cA ad sh N μ)
def ax_P (Dg : va_G) (cl : List vw_C) (A : Nat → Prop) (cA : Nat → ClassId) (ad : Nat → Nat) (sh : Nat → ax_C) (N : Nat) (X : State → Prop) (as : List Value) (μ : ax_M) : Array Value → State → Prop := fun v U => v = (as.map (ax_rv ad)).toArray ∧ ax_W Dg cl A cA ad sh N μ U.heap ∧ va_K Dg cl (ax_ty cA) U ∧ X U
def ax_Q (Dg : va_G) (cl : List vw_C) (A : Nat → Prop) (cA : Nat → ClassId) (ad : Nat → Nat) (sh : Nat → ax_C) (N : Nat) (r : Option Value) (μ : ax_M) : Array Value → State → Outcome → State → Prop := fun _ st o t => o = .returned (r.map (ax_rv ad)) ∧ ax_W Dg cl A cA ad sh N μ t.heap ∧ va_F A st t
def ax_rm (k : Nat) : Room := { frames := k, cells := 0, slots := 0, locals := 60 * k }
def ax_ws (Ts : List Cond) (d : ax_D) : List Cond := .code d.1 d.2.1 d.2.2.1 d.2.2.2.1 :: Ts
def ax_Met (l : Launch) (Dg : va_G) (cl : List vw_C) (A : Nat → Prop) (cA : Nat → ClassId) (ad : Nat → Nat) (sh : Nat → ax_C) (N : Nat) (X : State → Prop) (Ts : List Cond) (d : ax_D) (as : List Value) (μ : ax_M) (r : Option Value) (μ' : ax_M) : Prop :=
  Met l d.1 (ax_ws Ts d) (ax_rm d.2.2.2.2.1) (ax_P Dg cl A cA ad sh N X as μ) (ax_Q Dg cl A cA ad sh N r μ') 0 0 A
section AXB
variable {p : Program} {l : Launch} {e : Env} {R : Room} {s : State} {m : MethodId} {args : Array Value} {below : List Frame} {meth : Method} {c : Code} {H : Heap} {locs : List Loc} {Q : State → Prop}
variable {pc : Nat} {ls : Array Slot} {rest : List Value} {g : JFrame}
/-- behind a call: any answer -/
theorem ax_back {A : Nat → Prop} {Dg : va_G} {cl : List vw_C} {cA : Nat → ClassId} {ad : Nat → Nat} {sh : Nat → ax_C} {N : Nat} {r : Option Value} {μ' : ax_M} {a : Array Value} {st0 : List Value} (hr : va_Run p l e R s m args below meth c H locs 0 0 0 0 (F0 m pc ls st0) rest (ax_Q Dg cl A cA ad sh N r μ' a) A) (hS : va_S A s.heap H locs)
    (kk : ∀ (H1 : Heap) (locs1 : List Loc), ax_W Dg cl A cA ad sh N μ' H1 → va_S A s.heap H1 locs1 → W p l e R s m args below meth c H1 locs1 0 0 Q (F0 m (pc + 3) ls ((r.map (ax_rv ad)).toList ++ rest))) : W p l e R s m args below meth c H locs 0 0 Q (F0 m pc ls st0) := by
  intro T hT X
  obtain ⟨v, st₀, t, T', L, h0, X', hL, e1, e2, ⟨hv, hw, hz, hk⟩, st⟩ := hr T hT X
  cases hv
  rw [h0] at hz hk
  obtain ⟨t2, a1, b1⟩ := kk T'.heap (locs ++ L) (by rw [e1]; exact hw)
    ⟨Nat.le_trans hS.1 (by rw [e1]; exact hz), fun q h1 h2 => by rw [e1, hk q (Nat.lt_of_lt_of_le h1 hS.1) h2]; exact hS.2.1 q h1 h2, fun q hq => by
      rcases List.mem_append.mp hq with h | h
      · exact hS.2.2 q h
      · exact hL q h⟩ T' rfl X'
  exact ⟨t2, st t2 a1, b1⟩
theorem ax_blind {A : Nat → Prop} {Dg : va_G} {cl : List vw_C} {cA : Nat → ClassId} {ad : Nat → Nat} {sh : Nat → ax_C} {N : Nat} {X : State → Prop} (hXf : ∀ (U : State) (g : JFrame) (mk : MethodId) (a : Array Value), X U → X (U.calling g mk a)) {as : List Value} {μ : ax_M} : FrameBlind (ax_P Dg cl A cA ad sh N X as μ) :=
  fun a U g mk h => ⟨h.1, h.2.1, va_K.moved (u := U) (U := U.calling g mk a) (Vm.Alike.refl U.vm) h.2.2.1, hXf _ _ _ _ h.2.2.2⟩
end AXB
