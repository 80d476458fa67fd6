/-! r: the law calls -/
theorem la_ts {s : State} {b : Nat} (hts : ∀ w ∈ lw_tbl, w.before #[Value.ref b] s = true) : ∀ w ∈ ax_Ts, w.before #[Value.ref b] s = true := fun w hw => hts w (List.mem_filter.mp hw).1
section LAW
variable {p : Program} {l : Launch} {e : Env} {s : State} {m : MethodId} {below : List Frame} {meth : Method} {c : Code} {b L : Nat} {xs : Nat → Int32} {Dg : va_G} {cA : Nat → ClassId} {ad adV : Nat → Nat} {vF : Value} {H : Heap} {locs : List Loc} {cells slots : Nat} {Q : State → Prop} {ls : Array Slot} {pc : Nat} {μ μ1 : ax_M}
/-- the law's own array `out` is none of the calls' cells -/
def la_A (s : State) (oa : Nat) : Nat → Prop := fun q => s.heap.size ≤ q ∧ q ≠ oa
/-- behind a call -/
theorem la_back {A A1 : Nat → Prop} (hA : ∀ q, A1 q → A q) {R : Room} {args : Array Value} {r : Option Value} {a : Array Value} {st0 rest : List Value} {μ' : ax_M} (hr : va_Run p l e R s m args below meth c H locs cells slots 0 0 (F0 m pc ls st0) rest (ax_Q Dg ax_cl A1 cA ad ax_sh ax_NC r μ' a) A1) (hS : va_S A s.heap H locs)
    (kk : ∀ (H1 : Heap) (locs1 : List Loc), ax_W Dg ax_cl A1 cA ad ax_sh ax_NC μ' H1 → va_S A s.heap H1 locs1 → (∀ q, q < H.size → ¬ A1 q → H1[q]? = H[q]?) → W p l e R s m args below meth c H1 locs1 cells slots Q (F0 m (pc + 3) ls ((r.map (ax_rv ad)).toList ++ rest))) : W p l e R s m args below meth c H locs cells slots Q (F0 m pc ls st0) := by
  intro T hT X
  obtain ⟨v, st₀, t, T', L, h0, X', hL, e1, e2, ⟨hv, hw, hz, hk⟩, st⟩ := hr T hT X
  cases hv
  rw [h0] at hz hk
  obtain ⟨t2, a1, b1⟩ := kk T'.heap (locs ++ L) (by rw [e1]; exact hw)
    ⟨Nat.le_trans hS.1 (by rw [e1]; exact hz), fun q h1 h2 => by rw [e1, hk q (Nat.lt_of_lt_of_le h1 hS.1) (fun z => h2 (hA q z))]; exact hS.2.1 q h1 h2, fun q hq => by
      rcases List.mem_append.mp hq with h | h
      · exact hS.2.2 q h
      · exact hA _ (hL q h)⟩ (fun q h1 h2 => by rw [e1]; exact hk q h1 h2) T' rfl X'
  exact ⟨t2, st t2 a1, b1⟩
/-- what holds all along the law: the classes are known, the texts are there -/
def la_K (s : State) (oa : Nat) (Dg : va_G) (cA : Nat → ClassId) (ad adV : Nat → Nat) (vF : Value) : Prop := va_K Dg ax_cl (ax_ty cA) s ∧ ax_X ad adV (la_A s oa) vF s
theorem la_call {oa : Nat} (C0 : lw_At p s m meth c b L xs) (hK0 : la_K s oa Dg cA ad adV vF) {z o index : Nat} {r : Int32} {As rest st0 : List Value} (hz : z < ax_NM) (h : aJ (ax_EN z) (.ref o :: As) [] μ = some (some (.int r), μ1)) (ho0 : (ax_sh o).1 = 0) (hoN : o < ax_NC) (hcl : (ax_cl[(ax_sh o).2.1]?).map (fun q => q.1) = some (ax_MT z).1.cls)
    (hlk : Jvm.Cond.methodLink R_law index (ax_MT z).1 ∈ lw_tbl) (hin : Jvm.Cond.instanceMethod (ax_MT z).1 ∈ lw_tbl) (hse : Jvm.Cond.selects (ax_MT z).1.cls (ax_MT z).1 (ax_MT z).1 ∈ lw_tbl) (hnp : (parseMethodDescriptor (ax_MT z).1.desc).map (fun d => d.parameters.length) = some As.length) (hrk : (ax_MT z).2.2.2.2.1 ≤ 100)
    (hW : ax_W Dg ax_cl (la_A s oa) cA ad ax_sh ax_NC μ H) (hS : va_S (fun q : Nat => s.heap.size ≤ q) s.heap H locs) (hst : st0 = (As.map (ax_rv ad)).reverse ++ .ref (ad o) :: rest) (hls : ls.size = 7) (hfit : (rest.map fun v => v.category).sum ≤ 8) (hdg : decode code pc = .ok (.invokevirtual index, 3)) (hcs : cells ≤ 601024 ∧ slots ≤ 7293034)
    (kk : ∀ (H1 : Heap) (locs1 : List Loc), ax_W Dg ax_cl (la_A s oa) cA ad ax_sh ax_NC μ1 H1 → va_S (fun q : Nat => s.heap.size ≤ q) s.heap H1 locs1 → (∀ q, q < H.size → ¬ la_A s oa q → H1[q]? = H[q]?) → W p l e room_1 s m #[Value.ref b] below meth c H1 locs1 cells slots Q (F0 m (pc + 3) ls (.int r :: rest))) : W p l e room_1 s m #[Value.ref b] below meth c H locs cells slots Q (F0 m pc ls st0) := by
  obtain ⟨hx, hb, hr, hml, hown, hts, hX, hbl, hlocks, hgv⟩ := C0
  obtain ⟨hK, hXX⟩ := hK0
  have htx := la_ts hts
  have hS1 : va_S (la_A s oa) s.heap H [] := ⟨hS.1, fun q h1 _ => hS.2.1 q h1 (by show ¬ s.heap.size ≤ q; omega), fun q hq => by cases hq⟩
  obtain ⟨hcode, hini, hmL, hpl, hy1, hy2⟩ := ax_mt_ok z hz
  have hrec : ∃ cellB : Cell, H[ad o]? = some cellB ∧ cellB.vm.isStatics = false ∧ s.vm.findClass (ax_MT z).1.cls = some cellB.cls := by
    obtain ⟨r0, hr0, hr1⟩ := Option.map_eq_some_iff.mp hcl
    rw [← hr1]
    exact va_recv hK hW.1 hr0 ((ax_w_at hoN).trans (by rw [ax_en_kind0 ho0]))
  have hG : GoodIn ax_Ts (ax_ws ax_Ts (ax_MT z)) := fun w hw => by
    rcases List.mem_cons.mp hw with rfl | hw
    · exact ⟨hcode, Or.inl (List.mem_filter.mp hcode).2⟩
    · exact ⟨hw, Or.inl (List.mem_filter.mp hw).2⟩
  have hR : (ax_rm (ax_MT z).2.2.2.2.1).frames + 1 ≤ room_1.frames ∧ 8 + ((ax_MT z).2.2.1 + 11) + (ax_rm (ax_MT z).2.2.2.2.1).locals ≤ room_1.locals := by
    refine ⟨?_, ?_⟩
    · show (ax_MT z).2.2.2.2.1 + 1 ≤ 2048
      omega
    · show 8 + ((ax_MT z).2.2.1 + 11) + 60 * (ax_MT z).2.2.2.2.1 ≤ 84000
      omega
  have hM := ax_run (l := l) (Dg := Dg) (A := la_A s oa) (cA := cA) (ad := ad) (adV := adV) (vF := vF) hz h
  have hp : PreV s H (ax_MT z).1.cls (ad o) (ax_P Dg ax_cl (la_A s oa) cA ad ax_sh ax_NC (ax_X ad adV (la_A s oa) vF) (.ref o :: As) μ) (As.map (ax_rv ad)) :=
    ⟨ax_blind ax_Xf, hrec, fun U hU hWm => ⟨rfl, by rw [hU]; exact hW, va_K.moved hWm.alike hK, ax_Xc s H [] hXX hS1 U hU hWm⟩⟩
  have hnp' : (parseMethodDescriptor (ax_MT z).1.desc).map (fun d => d.parameters.length) = some (As.map (ax_rv ad)).length := by rw [List.length_map]; exact hnp
  refine la_back (fun q h => h.1) (a := (Value.ref (ad o) :: As.map (ax_rv ad)).toArray) (va_runV (y := (ax_MT z).1) (bytes := (ax_MT z).2.1) (maxL := (ax_MT z).2.2.1) (ret := (ax_MT z).2.2.2.1) (ws := ax_ws ax_Ts (ax_MT z)) ⟨hx, hb, hml, hown, htx⟩ hM ⟨callB_of (As.map (ax_rv ad)).length htx hG rfl rfl rfl (htx _ hini) (hts _ hlk) ⟨hy1, hy2, hnp'⟩ hR, hts _ hin, hts _ hse⟩ hp rfl rfl hls hst (by simpa [JFrame.monitorRoom] using hfit) hdg ⟨hcs.1, hcs.2⟩) hS (fun H1 locs1 hW1 hS1 hk1 => kk H1 locs1 hW1 hS1 hk1)
end LAW
