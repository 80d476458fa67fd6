/-! u: the law's entry -/
theorem la_noTrace {l : Launch} (h : l.flags = flags0) : l.stackTraces = false := by
  unfold Launch.stackTraces
  rw [h]
  decide +kernel
theorem whole_start {p : Program} {e : Env} {s : State} {m : MethodId} {below : List Frame} {meth : Method} {c : Code} (l : Launch) (hflags : l.flags = flags0) {b L : Nat} {xs : Nat → Int32} (hL : L ≤ 3072) (C0 : lw_At p s m meth c b L xs) : W p l e room_1 s m #[Value.ref b] below meth c s.heap [] 0 0 (lw_Z below #[Value.ref b] s) (entryFrame m ([Value.ref b] : List Value).toArray 7) := by
  have hlt := la_noTrace hflags
  obtain ⟨hx, hb, hr, hml, hown, hts, hX, hbl, hlocks, hgv⟩ := id C0
  obtain ⟨Dg, cA, hK⟩ := la_Kof hts
  obtain ⟨adT, adV, vF, hAX⟩ := la_AX hts hgv
  exact la_pro hL C0 hK (la_cnX hts) (la_cnTs hts) hAX (fun ad oa hoa hK0 => ⟨lt_node hlt hoa C0 hK0, lt_edge hlt hoa C0 hK0, lt_letter hlt hoa C0 hK0, lt_fragment hlt hoa C0 hK0⟩)
