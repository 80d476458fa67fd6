/-! cx: the constructors' rows -/
def cx_dv (q : Nat × Nat) : Value := match q.1 with
  | 1 => .long 0
  | 4 => .null
  | _ => .int 0
theorem cx_RA_eq {U : State} {c1 c2 : ClassId} {ty : FieldType} (h1 : va_RA U c1 ty) (h2 : va_RA U c2 ty) : c1 = c2 := by
  cases ty with
  | object C =>
    obtain ⟨-, -, -, -, -, a⟩ := h1
    obtain ⟨-, -, -, -, -, b⟩ := h2
    exact Option.some.inj (a.symm.trans b)
  | _ =>
    have a : U.vm.findClass _ = some c1 := h1
    have b : U.vm.findClass _ = some c2 := h2
    exact Option.some.inj (a.symm.trans b)
section CXR
variable {p : Program} {l : Launch} {e : Env} {R : Room} {s : State} {m : MethodId} {args : Array Value} {below : List Frame} {meth : Method} {c : Code} {H : Heap} {locs : List Loc} {cells slots : Nat} {Q : State → Prop}
variable {cc : ByteArray} {pc : Nat} {ls : Array Slot} {rest : List Value} {Dg : va_G} {cl : List vw_C} {A : Nat → Prop} {cA : Nat → ClassId} {ad : Nat → Nat} {sh : Nat → ax_C} {N : Nat} {μ : ax_M} {Ts : List Jvm.Cond}
theorem cx_new (hexec : p.tables.exec = Jvm.exec) (hb : c.code = cc) {own : String} {index ci n : Nat} {C : String} {T : u_T} (hts : ∀ w ∈ Ts, w.before args s = true) (hin : ∀ w ∈ u_ws C T n, w ∈ Ts) (ty : Nat → FieldType) (hty : ∀ k, k < n → parseFieldDescriptor (T k).2.2.1 = some (ty k)) (hown : s.vm.findClass own = some m.cls) (hlk : (Jvm.Cond.classLink own index C).before args s = true) (hinst : (Jvm.Cond.instantiable C n).before args s = true) (hini : (Jvm.Cond.initialized C).before args s = true)
    (hK : va_K Dg cl (ax_ty cA) s) (hc : cl[ci]? = some (C, T, n)) (hW : cx_W Dg cl A cA ad sh N μ H) (hS : va_S A s.heap H locs) (hA : ∀ q, s.heap.size ≤ q → A q) (hμ : ∀ k, μ.1 N k = 0 ∧ μ.2 N k = 0) {fs : List (Nat × Nat)} (hf0 : ∀ q ∈ fs, q.2 = 0 ∧ q.1 ≠ 2) (hfs : ∀ j, j < n → defaultValue (ty j) = vp_V (fs.map cx_dv) j) (hcells : cells + 1 ≤ R.cells) (hslots : slots + n ≤ R.slots) (hdg : decode cc pc = .ok (.new index, 3))
    (kk : ∀ (q : Nat) (H1 : Heap), cx_W Dg cl A cA (cx_ext ad N q) (cx_set sh N (0, ci, fs)) (N + 1) μ H1 → va_S A s.heap H1 locs → W p l e R s m args below meth c H1 locs (cells + 1) (slots + n) Q (F0 m (pc + 3) ls (.ref q :: rest))) : W p l e R s m args below meth c H locs cells slots Q (F0 m pc ls rest) := by
  have hle : ∀ q ∈ fs, q.2 ≤ N := fun q hq => by rw [(hf0 q hq).1]; exact Nat.zero_le N
  refine va_new hexec hb hts hin ty hty hown hlk hinst hini hK hW.1 hW.2.1 hS hA hc hfs hcells hslots hdg (fun q H1 hP1 hD1 hS1 => ?_)
  have hx : (Sum.inr (ci, fs.map cx_dv) : va_E) = cx_en cA (cx_ext ad N q) (0, ci, fs) N μ := by
    rw [cx_en0 rfl]
    congr 2
    apply List.ext_getElem?
    intro i
    rw [List.getElem?_mapIdx, List.getElem?_map]
    cases hq : fs[i]? with
    | none => rfl
    | some r =>
      obtain ⟨kd, t⟩ := r
      have h2 := (hf0 _ (List.mem_of_getElem? hq)).2
      simp only [Option.map_some, cx_dv, cx_fv, (hμ i).1, (hμ i).2]
      match kd, h2 with
      | 0, _ => rfl
      | 1, _ => rfl
      | 2, h2 => exact absurd rfl h2
      | 3, _ => rfl
      | 4, _ => rfl
      | k + 5, _ => rfl
  rw [cx_w_push hW.2.2 hle hx] at hP1 hD1
  exact kk q H1 ⟨hP1, hD1, cx_cl_push hW.2.2 hle⟩ hS1
theorem cx_newa (hexec : p.tables.exec = Jvm.exec) (hb : c.code = cc) {atype : ArrayType} (harr : (Jvm.Cond.arrayClass (newarray.typeOf atype)).before args s = true) (t : Nat) (ht : t = 1 ∨ t = 2 ∨ t = 3 ∨ t = 4) (hty : (ax_ty cA)[t - 1]? = some (cA t, newarray.typeOf atype)) (hd : defaultValue (newarray.typeOf atype) = if t = 4 then .long 0 else .int 0)
    (hK : va_K Dg cl (ax_ty cA) s) (hW : cx_W Dg cl A cA ad sh N μ H) (hS : va_S A s.heap H locs) (hA : ∀ q, s.heap.size ≤ q → A q) (hμ : μ.1 N = (fun _ => 0) ∧ μ.2 N = (fun _ => 0)) {n : Int32} {len : Nat} (hn : ¬ n < 0) (hN : n.toNatClampNeg = len) (hbytes : len * componentBytes (newarray.typeOf atype) ≤ 536870912) (hcells : cells + 1 ≤ R.cells) (hslots : slots + len ≤ R.slots) (hdg : decode cc pc = .ok (.newarray atype, 2))
    (kk : ∀ (q : Nat) (H1 : Heap), cx_W Dg cl A cA (cx_ext ad N q) (cx_set sh N (t, len, [])) (N + 1) μ H1 → va_S A s.heap H1 locs → W p l e R s m args below meth c H1 locs (cells + 1) (slots + len) Q (F0 m (pc + 2) ls (.ref q :: rest))) : W p l e R s m args below meth c H locs cells slots Q (F0 m pc ls (.int n :: rest)) := by
  have hle : ∀ q ∈ ([] : List (Nat × Nat)), q.2 ≤ N := fun q hq => by cases hq
  have ha : ∀ c9 : ClassId, vp_cell c9 (len, if t = 4 then .inr (.inl (μ.2 N)) else .inl (μ.1 N)) = arrV c9 len (fun _ => defaultValue (newarray.typeOf atype)) := by
    intro c9
    rw [hd, hμ.1, hμ.2]
    by_cases h4 : t = 4
    · rw [if_pos h4, if_pos h4]; rfl
    · rw [if_neg h4, if_neg h4]; rfl
  refine va_newa hexec hb harr rfl hK hW.1 hW.2.1 hS hA ha hn hN hbytes hcells hslots hdg (fun q c9 H1 hK1 hP1 hD1 hS1 => ?_)
  have h9 : c9 = cA t := by
    have a1 := (hK1.2 (ax_ty cA).length (c9, newarray.typeOf atype) (by simp)).2
    have a2 := (hK.2 _ _ hty).2
    exact cx_RA_eq a1 a2
  subst h9
  have hx : (Sum.inl (cA t, (len, if t = 4 then .inr (.inl (μ.2 N)) else .inl (μ.1 N))) : va_E) = cx_en cA (cx_ext ad N q) (t, len, []) N μ := by
    rcases ht with rfl | rfl | rfl | rfl <;> rfl
  rw [cx_w_push hW.2.2 hle hx] at hP1 hD1
  exact kk q H1 ⟨hP1, hD1, cx_cl_push hW.2.2 hle⟩ hS1
theorem cx_newq (hexec : p.tables.exec = Jvm.exec) (hb : c.code = cc) {own C : String} {index : Nat} (hown : s.vm.findClass own = some m.cls) (hlk : (Jvm.Cond.classLink own index C).before args s = true) (hover : va_AO C s) (t : Nat) (ht : t = 5 ∨ t = 6) (hty : (ax_ty cA)[t - 1]? = some (cA t, .object C))
    (hK : va_K Dg cl (ax_ty cA) s) (hW : cx_W Dg cl A cA ad sh N μ H) (hS : va_S A s.heap H locs) (hA : ∀ q, s.heap.size ≤ q → A q) {n : Int32} {len : Nat} (hn : ¬ n < 0) (hN : n.toNatClampNeg = len) (hbytes : len * 4 ≤ 536870912) (hcells : cells + 1 ≤ R.cells) (hslots : slots + len ≤ R.slots) (hdg : decode cc pc = .ok (.anewarray index, 3))
    (kk : ∀ (q : Nat) (H1 : Heap), cx_W Dg cl A cA (cx_ext ad N q) (cx_set sh N (t, len, [])) (N + 1) μ H1 → va_S A s.heap H1 locs → W p l e R s m args below meth c H1 locs (cells + 1) (slots + len) Q (F0 m (pc + 3) ls (.ref q :: rest))) : W p l e R s m args below meth c H locs cells slots Q (F0 m pc ls (.int n :: rest)) := by
  have hle : ∀ q ∈ ([] : List (Nat × Nat)), q.2 ≤ N := fun q hq => by cases hq
  refine va_newq hexec hb hown hlk hover hK hW.1 hW.2.1 hS hA hn hN hbytes hcells hslots hdg (fun q c9 H1 hK1 hP1 hD1 hS1 => ?_)
  have h9 : c9 = cA t := by
    have a1 := (hK1.2 (ax_ty cA).length (c9, .object C) (by simp)).2
    have a2 := (hK.2 _ _ hty).2
    exact cx_RA_eq a1 a2
  subst h9
  have hx : (Sum.inl (cA t, len, .inr (.inr (.inr (.inr (fun _ => none))))) : va_E) = cx_en cA (cx_ext ad N q) (t, len, []) N μ := by
    rcases ht with rfl | rfl <;> rfl
  rw [cx_w_push hW.2.2 hle hx] at hP1 hD1
  exact kk q H1 ⟨hP1, hD1, cx_cl_push hW.2.2 hle⟩ hS1
theorem cx_fs_set {l : List (Nat × Nat)} {o k : Nat} {q : Nat × Nat} {v : Value} (hk : k < l.length) (h2 : cx_fv ad μ o q k = v) : (l.mapIdx fun j q => cx_fv ad μ o q j).set k v = (l.set k q).mapIdx fun j q => cx_fv ad μ o q j := by
  apply List.ext_getElem?
  intro i
  by_cases hi : i = k
  · subst hi
    rw [List.getElem?_set_self (by simpa using hk), List.getElem?_mapIdx, List.getElem?_set_self hk, ← h2]
    rfl
  · rw [List.getElem?_set_ne (Ne.symm hi), List.getElem?_mapIdx, List.getElem?_mapIdx, List.getElem?_set_ne (Ne.symm hi)]
/-- a final field of references is set -/
theorem cx_putq (hexec : p.tables.exec = Jvm.exec) (hb : c.code = cc) {own C : String} {T : u_T} {n index ci o k t : Nat} {fs : List (Nat × Nat)} (hts : ∀ w ∈ Ts, w.before args s = true) (hin : ∀ w ∈ u_ws C T n, w ∈ Ts) (ty0 : Nat → FieldType) (hty : ∀ k, k < n → parseFieldDescriptor (T k).2.2.1 = some (ty0 k)) (hnm : ∀ a, a < n → ∀ b, b < n → a ≠ b → (T a).2.1 ≠ (T b).2.1) (hown : s.vm.findClass own = some m.cls) (hK : va_K Dg cl (ax_ty cA) s) (hc : cl[ci]? = some (C, T, n)) (hW : cx_W Dg cl A cA ad sh N μ H) (hS : va_S A s.heap H locs)
    (ho : o < N) (hso : sh o = (0, ci, fs)) (hk : k < n) (hlen : fs.length = n) (ht : t < N) (hlink : (Jvm.Cond.fieldLink own index (T k).1 (T k).2.1 (T k).2.2.1).before args s = true) (hfin : (T k).2.2.2 = true) (hin2 : meth.name = "<init>") (hdecl : (T k).1 = own) {ty : FieldType} (hd : parseFieldDescriptor (T k).2.2.1 = some ty) (hn : narrow ty (.ref (ad t)) = .ref (ad t)) (hfit : fits ty (.ref (ad t)) = true) (hdg : decode cc pc = .ok (.putfield index, 3))
    (kk : ∀ (H1 : Heap) (locs1 : List Loc), cx_W Dg cl A cA ad (cx_set sh o (0, ci, fs.set k (2, t))) N μ H1 → va_S A s.heap H1 locs1 → W p l e R s m args below meth c H1 locs1 cells slots Q (F0 m (pc + 3) ls rest)) : W p l e R s m args below meth c H locs cells slots Q (F0 m pc ls (.ref (ad t) :: .ref (ad o) :: rest)) := by
  have he : (cx_w cA ad sh N μ)[o]? = some (ad o, .inr (ci, fs.mapIdx fun j q => cx_fv ad μ o q j)) := by
    rw [cx_w_at ho, hso, cx_en0 rfl]
  refine va_putF (v := .ref (ad t)) (ty := ty) hexec hb hts hin ty0 hty hnm hown hK hW.1 hW.2.1 hS o he hc k hk hlink (fun _ h => h) hfin hin2 hdecl hd hn hfit (by simpa [hlen] using hk) hdg (fun H1 locs1 hP1 hD1 hS1 => ?_)
  have hx : (Sum.inr (ci, (fs.mapIdx fun j q => cx_fv ad μ o q j).set k (.ref (ad t))) : va_E) = cx_en cA ad (0, ci, fs.set k (2, t)) o μ := by
    rw [cx_en0 rfl, cx_fs_set (l := fs) (o := o) (k := k) (q := (2, t)) (v := .ref (ad t)) (by omega) rfl]
  rw [cx_w_set (fun a _ => ⟨rfl, rfl⟩) ho hx] at hP1 hD1
  refine kk H1 locs1 ⟨hP1, hD1, cx_cl_set hW.2.2 (fun q hq => ?_)⟩ hS1
  rcases List.mem_or_eq_of_mem_set hq with h | h
  · exact hW.2.2 o ho q (by rw [hso]; exact h)
  · rw [h]; exact ht
/-- a field of ints, not final -/
theorem cx_puti (hexec : p.tables.exec = Jvm.exec) (hb : c.code = cc) {own C : String} {T : u_T} {n index ci o k : Nat} {fs : List (Nat × Nat)} {v : Int32} (hts : ∀ w ∈ Ts, w.before args s = true) (hin : ∀ w ∈ u_ws C T n, w ∈ Ts) (ty0 : Nat → FieldType) (hty : ∀ k, k < n → parseFieldDescriptor (T k).2.2.1 = some (ty0 k)) (hnm : ∀ a, a < n → ∀ b, b < n → a ≠ b → (T a).2.1 ≠ (T b).2.1) (hown : s.vm.findClass own = some m.cls) (hK : va_K Dg cl (ax_ty cA) s) (hc : cl[ci]? = some (C, T, n)) (hW : cx_W Dg cl A cA ad sh N μ H) (hS : va_S A s.heap H locs)
    (ho : o < N) (hso : sh o = (0, ci, fs)) (hk : k < n) (hlen : fs.length = n) (hkd : fs[k]? = some (0, 0)) (hlink : (Jvm.Cond.fieldLink own index (T k).1 (T k).2.1 (T k).2.2.1).before args s = true) (hfin : (T k).2.2.2 = false) (hd : parseFieldDescriptor (T k).2.2.1 = some .int) (hdg : decode cc pc = .ok (.putfield index, 3))
    (kk : ∀ (H1 : Heap) (locs1 : List Loc), cx_W Dg cl A cA ad sh N (ax_up μ.1 o k v, μ.2) H1 → va_S A s.heap H1 locs1 → W p l e R s m args below meth c H1 locs1 cells slots Q (F0 m (pc + 3) ls rest)) : W p l e R s m args below meth c H locs cells slots Q (F0 m pc ls (.int v :: .ref (ad o) :: rest)) := by
  have he : (cx_w cA ad sh N μ)[o]? = some (ad o, .inr (ci, fs.mapIdx fun j q => cx_fv ad μ o q j)) := by
    rw [cx_w_at ho, hso, cx_en0 rfl]
  refine va_put (v := .int v) (ty := .int) hexec hb hts hin ty0 hty hnm hown hK hW.1 hW.2.1 hS o he hc k hk hlink (fun _ h => h) hfin hd rfl rfl (by simpa [hlen] using hk) hdg (fun H1 locs1 hP1 hD1 hS1 => ?_)
  have hx : (Sum.inr (ci, (fs.mapIdx fun j q => cx_fv ad μ o q j).set k (.int v)) : va_E) = cx_en cA ad (sh o) o (ax_up μ.1 o k v, μ.2) := by
    rw [hso, cx_en0 rfl]
    congr 2
    apply List.ext_getElem?
    intro i
    by_cases hi : i = k
    · subst hi
      rw [List.getElem?_set_self (by simpa [hlen] using hk), List.getElem?_mapIdx, hkd]
      simp [cx_fv, ax_up]
    · rw [List.getElem?_set_ne (Ne.symm hi), List.getElem?_mapIdx, List.getElem?_mapIdx]
      cases fs[i]? with
      | none => rfl
      | some r =>
        simp only [Option.map_some, cx_fv, ax_up]
        simp [hi]
  have hse : cx_set sh o (sh o) = sh := by
    funext b
    by_cases h : b = o
    · subst h; exact if_pos rfl
    · exact if_neg h
  rw [cx_w_set (μ' := (ax_up μ.1 o k v, μ.2)) (fun a ha => ⟨ax_up_ne ha, rfl⟩) ho hx, hse] at hP1 hD1
  exact kk H1 locs1 ⟨hP1, hD1, hW.2.2⟩ hS1
/-- a reference is put behind those that are there -/
theorem cx_astq (hexec : p.tables.exec = Jvm.exec) (hb : c.code = cc) (hK : va_K Dg cl (ax_ty cA) s) (hW : cx_W Dg cl A cA ad sh N μ H) (hS : va_S A s.heap H locs) {o t ty len ci : Nat} {fs : List (Nat × Nat)} {C : String} {T : u_T} {n : Nat} {ts : List (Nat × Nat)} (hty : ty = 5 ∨ ty = 6) (hty2 : (ax_ty cA)[ty - 1]? = some (cA ty, .object C)) (ho : o < N) (hso : sh o = (ty, len, ts)) (ht : t < N) (hst : sh t = (0, ci, fs)) (hc : cl[ci]? = some (C, T, n)) {i : Int32} (hi : i.toNatClampNeg = ts.length) (h0 : ¬ i < 0) (hlt : ts.length < len) (hdg : decode cc pc = .ok (.aastore, 1))
    (kk : ∀ (H1 : Heap) (locs1 : List Loc), cx_W Dg cl A cA ad (cx_set sh o (ty, len, ts ++ [(2, t)])) N μ H1 → va_S A s.heap H1 locs1 → W p l e R s m args below meth c H1 locs1 cells slots Q (F0 m (pc + 1) ls rest)) : W p l e R s m args below meth c H locs cells slots Q (F0 m pc ls (.ref (ad t) :: .int i :: .ref (ad o) :: rest)) := by
  have he : (cx_w cA ad sh N μ)[o]? = some (ad o, .inl (cA ty, len, .inr (.inr (.inr (.inr fun j => (ts[j]?).map fun q => ad q.2))))) := by
    rw [cx_w_at ho, hso]
    rcases hty with rfl | rfl <;> rfl
  have hv : (cx_w cA ad sh N μ)[t]? = some (ad t, .inr (ci, fs.mapIdx fun j q => cx_fv ad μ t q j)) := by
    rw [cx_w_at ht, hst, cx_en0 rfl]
  refine va_astq hexec hb hK hW.1 hW.2.1 hS o (ty - 1) t ci (r := (C, T, n)) he hty2 hv hc (by rintro (q | q); exact h0 q; omega) hdg (fun H1 locs1 hP1 hD1 hS1 => ?_)
  have hf : va_up (fun j : Nat => (ts[j]?).map fun q => ad q.2) i.toNatClampNeg (some (ad t)) = (fun j : Nat => ((ts ++ [(2, t)])[j]?).map fun q => ad q.2) := by
    funext j
    unfold va_up
    rw [hi]
    by_cases hj : j = ts.length
    · subst hj; simp
    · rw [if_neg hj]
      dsimp only
      by_cases hj2 : j < ts.length
      · rw [List.getElem?_append_left hj2]
      · rw [List.getElem?_eq_none (show ts.length ≤ j by omega), List.getElem?_eq_none (l := ts ++ [(2, t)]) (by simp; omega)]
  have hx : (Sum.inl (cA ty, len, .inr (.inr (.inr (.inr (va_up (fun j : Nat => (ts[j]?).map fun q => ad q.2) i.toNatClampNeg (some (ad t))))))) : va_E) = cx_en cA ad (ty, len, ts ++ [(2, t)]) o μ := by
    rw [hf]
    rcases hty with rfl | rfl <;> rfl
  rw [cx_w_set (fun a _ => ⟨rfl, rfl⟩) ho hx] at hP1 hD1
  refine kk H1 locs1 ⟨hP1, hD1, cx_cl_set hW.2.2 (fun q hq => ?_)⟩ hS1
  rcases List.mem_append.mp hq with h | h
  · exact hW.2.2 o ho q (by rw [hso]; exact h)
  · rw [List.mem_singleton.mp h]; exact ht
/-- a reference is read -/
theorem cx_getq (hexec : p.tables.exec = Jvm.exec) (hb : c.code = cc) {own C : String} {T : u_T} {n index ci o k t : Nat} {fs : List (Nat × Nat)} (hts : ∀ w ∈ Ts, w.before args s = true) (hin : ∀ w ∈ u_ws C T n, w ∈ Ts) (hown : s.vm.findClass own = some m.cls) (hK : va_K Dg cl (ax_ty cA) s) (hc : cl[ci]? = some (C, T, n)) (hW : cx_W Dg cl A cA ad sh N μ H) (ho : o < N) (hso : sh o = (0, ci, fs)) (hk : k < n) (hkd : fs[k]? = some (2, t)) (hlink : (Jvm.Cond.fieldLink own index (T k).1 (T k).2.1 (T k).2.2.1).before args s = true) (hdg : decode cc pc = .ok (.getfield index, 3))
    (kk : W p l e R s m args below meth c H locs cells slots Q (F0 m (pc + 3) ls (.ref (ad t) :: rest))) : W p l e R s m args below meth c H locs cells slots Q (F0 m pc ls (.ref (ad o) :: rest)) := by
  have he : (cx_w cA ad sh N μ)[o]? = some (ad o, .inr (ci, fs.mapIdx fun j q => cx_fv ad μ o q j)) := by
    rw [cx_w_at ho, hso, cx_en0 rfl]
  refine va_get hexec hb hts hin hown hK hW.1 o he hc k hk hlink (fun _ h => h) (v := .ref (ad t)) ?_ hdg kk
  rw [List.getElem?_mapIdx, hkd]
  rfl
theorem cx_alen (hexec : p.tables.exec = Jvm.exec) (hb : c.code = cc) (hK : va_K Dg cl (ax_ty cA) s) (hW : cx_W Dg cl A cA ad sh N μ H) {o ty len : Nat} {ts : List (Nat × Nat)} (hty : ty = 5 ∨ ty = 6) (ho : o < N) (hso : sh o = (ty, len, ts)) {v : Int32} (hv : Int32.ofNat len = v) (hdg : decode cc pc = .ok (.arraylength, 1))
    (kk : W p l e R s m args below meth c H locs cells slots Q (F0 m (pc + 1) ls (.int v :: rest))) : W p l e R s m args below meth c H locs cells slots Q (F0 m pc ls (.ref (ad o) :: rest)) := by
  obtain ⟨ty', ht⟩ := ax_ty_at (cA := cA) (t := ty) (by omega)
  refine va_alen hexec hb hK hW.1 o (ty - 1) (cA := cA ty) (x := (len, .inr (.inr (.inr (.inr fun j => (ts[j]?).map fun q => ad q.2))))) ?_ ht hv hdg kk
  rw [cx_w_at ho, hso]
  rcases hty with rfl | rfl <;> rfl
end CXR
