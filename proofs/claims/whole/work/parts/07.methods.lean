/-! ax: the machine's meaning is the real one's: methods -/
theorem ax_sl_len (vs : List Value) : (lg_sl vs).length = (vs.map fun v => v.category).sum := by
  induction vs with
  | nil => rfl
  | cons v t ih =>
    have e : lg_sl (v :: t) = (if v.category = 2 then [.val v, .second] else [.val v]) ++ lg_sl t := rfl
    rw [e, List.length_append, ih, List.map_cons, List.sum_cons]
    rcases lv_cat v with h | h <;> simp [h]
theorem ax_args_ml (ad : Nat → Nat) : ∀ (vs : List Value) (i : Nat), lv_args i (vs.map (ax_rv ad)) = ax_ml ad (lv_args i vs)
  | [], _ => rfl
  | v :: t, i => by
    rw [List.map_cons, lv_args, lv_args, ax_rv_cat, ax_args_ml ad t]
    rfl
section AXG
variable {l : Launch}
variable {Dg : va_G} {cl : List vw_C} {A : Nat → Prop} {cA : Nat → ClassId} {ad : Nat → Nat} {sh : Nat → ax_C} {N : Nat} {X : State → Prop} {Ts : List Jvm.Cond} {wd : Nat → Nat → Option Jvm.Cond} {NM : Nat} {MT : Nat → ax_D} {BL : Nat → ax_B} {EN : Nat → Nat} {SL : List (Nat × String)} {NP : Nat}
theorem ax_snd_lab {p : Program} {e : Env} {s : State} {m : MethodId} {args : Array Value} {below : List Frame} {meth : Method} {c : Code} {y : Nat} (hOK : ax_OK cl sh N Ts wd NM MT) (hx : p.tables.exec = Jvm.exec) (hb : c.code = (MT y).2.1) (hml : c.maxLocals = (MT y).2.2.1) (hown : s.vm.findClass (MT y).1.cls = some m.cls) (hts : ∀ w ∈ Ts, w.before args s = true) (hK : va_K Dg cl (ax_ty cA) s) (hr : meth.sig.returnType = (MT y).2.2.2.1) (hlocks : meth.locks = false) (hrk1 : 1 ≤ (MT y).2.2.2.2.1)
    (hXf : ∀ (U : State) (g : JFrame) (mk : MethodId) (a : Array Value), X U → X (U.calling g mk a)) (hXc : ∀ (H : Heap) (locs : List Loc), va_S A s.heap H locs → ∀ U : State, U.heap = H → s.WarmedH U.vm → X U)
    (hXn : ∀ k j o i x h, wd k j = some (.methodLinkNest o i x h) → va_Nw (.methodLinkNest o i x h) s) (hXs : ∀ (j ix : Nat) (tx : String), SL[j]? = some (ix, tx) → vk_R "AskingFragments" ix tx (ad (1000 + j)) s) (hXr : ∀ a, (sh a).1 = 8 → ∀ (H : Heap) (locs : List Loc), va_S A s.heap H locs → ∃ cellB : Cell, H[ad a]? = some cellB ∧ cellB.vm.isStatics = false ∧ s.vm.findClass "java/lang/String" = some cellB.cls) (hNP : NP ≤ NM) (hBL : ∀ lb, (BL lb).1 < NP → ax_vb cl wd NM MT BL SL (BL lb).1 (BL lb).2.1 (BL lb).2.2.2 = true) (hy : y < NP) (n : Nat)
    (hC : ∀ k, k < n → ∀ z, z < NM → ∀ as μ r μ', ax_ev sh BL EN k (EN z) as [] μ = some (r, μ') → ax_Met l Dg cl A cA ad sh N X Ts (MT z) as μ r μ') :
    ∀ k, k ≤ n → ∀ lb vs st μ z, (BL lb).1 = y → ax_ev sh BL EN k lb vs st μ = some z → ∃ lv0, ax_l0 (BL lb).2.2.1 vs = some lv0 ∧ ax_Z p l e (ax_rm (MT y).2.2.2.2.1) s m args below meth c Dg cl A cA ad sh N (MT y).2.2.1 z (BL lb).2.1 lv0 st μ := by
  intro k
  induction k with
  | zero => intro _ lb vs st μ z _ h; simp [ax_ev] at h
  | succ k ih =>
    intro hk lb vs st μ z hlb h
    rw [ax_ev] at h
    split at h
    case h_2 => cases h
    next lv hlv =>
    refine ⟨lv, hlv, ?_⟩
    have hvb := hBL lb (by omega)
    rw [hlb] at hvb
    exact ax_snd_ex hOK hx hb hml hown hts hK hr hlocks (fun _ _ => trivial) hrk1 hXf hXc (ih (by omega)) hXn hXs hXr (hC k (by omega)) _ _ hvb _ _ _ _ h
theorem ax_snd (hOK : ax_OK cl sh N Ts wd NM MT)
    (hXf : ∀ (U : State) (g : JFrame) (mk : MethodId) (a : Array Value), X U → X (U.calling g mk a)) (hXc : ∀ (s : State) (H : Heap) (locs : List Loc), X s → va_S A s.heap H locs → ∀ U : State, U.heap = H → s.WarmedH U.vm → X U)
    (hXn : ∀ s : State, X s → ∀ k j o i x h, wd k j = some (.methodLinkNest o i x h) → va_Nw (.methodLinkNest o i x h) s) (hXs : ∀ s : State, X s → ∀ (j ix : Nat) (tx : String), SL[j]? = some (ix, tx) → vk_R "AskingFragments" ix tx (ad (1000 + j)) s) (hXr : ∀ s : State, X s → ∀ a, (sh a).1 = 8 → ∀ (H : Heap) (locs : List Loc), va_S A s.heap H locs → ∃ cellB : Cell, H[ad a]? = some cellB ∧ cellB.vm.isStatics = false ∧ s.vm.findClass "java/lang/String" = some cellB.cls)
    (hNP : NP ≤ NM) (hprim : ∀ z, NP ≤ z → z < NM → ∀ n as μ r μ', ax_ev sh BL EN n (EN z) as [] μ = some (r, μ') → ax_Met l Dg cl A cA ad sh N X Ts (MT z) as μ r μ') (hBL : ∀ lb, (BL lb).1 < NP → ax_vb cl wd NM MT BL SL (BL lb).1 (BL lb).2.1 (BL lb).2.2.2 = true)
    (hEN : ∀ z, z < NM → (BL (EN z)).1 = z ∧ (BL (EN z)).2.1 = 0 ∧ (BL (EN z)).2.2.1 = [999, (MT z).2.2.1] ∧ 1 ≤ (MT z).2.2.2.2.1) :
    ∀ n z, z < NM → ∀ as μ r μ', ax_ev sh BL EN n (EN z) as [] μ = some (r, μ') → ax_Met l Dg cl A cA ad sh N X Ts (MT z) as μ r μ' := by
  intro n
  induction n using Nat.strongRecOn with
  | _ n ih =>
    intro z hz as μ r μ' h
    rcases Nat.lt_or_ge z NP with hzp | hzp
    case inr => exact hprim z hzp hz n as μ r μ' h
    obtain ⟨hmt1, hmt2, hmt3, hpl, -, -⟩ := hOK.2.2.2.2.2.1 z hz
    obtain ⟨e1, e2, e3, e4⟩ := hEN z hz
    refine Met.ofW (cc := (MT z).2.1) (maxL := (MT z).2.2.1) (ret := (MT z).2.2.2.1) hpl rfl ?_
    intro p e s m args below meth c s₁ B hml hv
    obtain ⟨rfl, hW, hK, hX⟩ := hv
    have hts0 := atoms_spec (ws := ax_ws Ts (MT z)) B.pre
    have hts : ∀ w ∈ Ts, w.before (as.map (ax_rv ad)).toArray s = true := fun w hw => hts0 w (List.mem_cons_of_mem _ hw)
    obtain ⟨lv0, h0, hZ⟩ := ax_snd_lab (l := l) (p := p) (e := e) (s := s) (m := m) (args := (as.map (ax_rv ad)).toArray) (below := below) (meth := meth) (c := c) (y := z) hOK B.exec B.bytes hml (findClass_of_methodNamed B.named) hts hK B.returns B.notSynchronized e4 hXf (fun H locs hS U hU hw => hXc s H locs hX hS U hU hw) (hXn s hX) (hXs s hX) (hXr s hX) hNP hBL hzp n (fun k hk => ih k hk) n (Nat.le_refl n) (EN z) as [] μ (r, μ') e1 h
    rw [e3, ax_l0] at h0
    split at h0
    case isFalse => cases h0
    next hsum =>
    cases h0
    rw [e2] at hZ
    have hl := lv_entry (as.map (ax_rv ad)) (n := (MT z).2.2.1) (by rw [ax_sl_len]; simpa [List.map_map, Function.comp_def, ax_rv_cat] using hsum)
    rw [ax_args_ml] at hl
    rw [lg_entry_eq]
    exact hZ s.heap [] _ hW va_S.rf hl
end AXG
