/-! r: what holds where the law starts: classes, arrays, the constructors' words -/
theorem la_ap {s : State} {args : Array Value} {ty : FieldType} (h : (Jvm.Cond.arrayClass ty).before args s = true) : ∃ cA, ArrOfT s cA ty ∧ s.vm.findClass ("[" ++ ty.toString) = some cA := by
  obtain ⟨cA, kA, comp, hfind, hk, hkind⟩ := Cond.arrayClass_spec h
  exact ⟨cA, fun n z => ⟨fun k h => (by cases h), kA, hk, comp, hkind⟩, hfind⟩
theorem la_ao {s : State} {args : Array Value} {C : String} (h : (Jvm.Cond.arrayOver (.object C)).before args s = true) : ∃ cA, ArrOfT s cA (.object C) ∧ va_RA s cA (.object C) := by
  obtain ⟨comp, cA, kA, hcomp, hidx, hkA, hkindA, hnameA⟩ := Cond.arrayOver_spec h
  exact ⟨cA, fun n z => ⟨fun k h => (by cases h), kA, hkA, comp, hkindA⟩, kA, comp, hkA, hkindA, hcomp, by first | exact hidx | exact hnameA⟩
theorem la_cnX {s : State} {b : Nat} (hts : ∀ w ∈ lw_tbl, w.before #[Value.ref b] s = true) : cn_X s := by
  refine ⟨fun w hw => ?_, va_AO.of (hts _ (ax_wl_at (k := 1) (j := 222) rfl)), va_AO.of (hts _ (ax_wl_at (k := 1) (j := 224) rfl))⟩
  simp only [cn_nl, List.mem_cons, List.not_mem_nil, or_false] at hw
  rcases hw with rfl | rfl | rfl | rfl | rfl
  · exact va_Nw.of rfl (hts _ (ax_wl_at (k := 1) (j := 71) rfl))
  · exact va_Nw.of rfl (hts _ (ax_wl_at (k := 1) (j := 110) rfl))
  · exact va_Nw.of rfl (hts _ (ax_wl_at (k := 1) (j := 231) rfl))
  · exact va_Nw.of rfl (hts _ (ax_wl_at (k := 1) (j := 233) rfl))
  · exact va_Nw.of rfl (hts _ (ax_wl_at (k := 2) (j := 42) rfl))
theorem la_cnTs {s : State} {b : Nat} (hts : ∀ w ∈ lw_tbl, w.before #[Value.ref b] s = true) : ∀ w ∈ cn_Ts, w.before #[Value.ref b] s = true := by
  intro w hw
  simp only [cn_Ts, List.mem_cons] at hw
  rcases hw with rfl | rfl | rfl | rfl | hw
  · exact hts _ (ax_wl_at (k := 1) (j := 68) rfl)
  · exact hts _ (ax_wl_at (k := 1) (j := 107) rfl)
  · exact hts _ (ax_wl_at (k := 6) (j := 83) rfl)
  · exact hts _ (ax_wl_at (k := 6) (j := 84) rfl)
  · exact la_ts hts w hw
theorem la_Kof {s : State} {b : Nat} (hts : ∀ w ∈ lw_tbl, w.before #[Value.ref b] s = true) : ∃ (Dg : va_G) (cA : Nat → ClassId), va_K Dg ax_cl (ax_ty cA) s := by
  have htx := la_ts hts
  obtain ⟨c0, i0, h0⟩ := u_known (C := "AskingFragments") (T := aT_F) (N := 17) (n := 17) htx aU_F (htx _ (ax_in (ax_wl_at (k := 1) (j := 21) rfl) rfl))
  obtain ⟨c1, i1, h1⟩ := u_known (C := "AskingFragments$Forest") (T := aT_Forest) (N := 6) (n := 6) htx aU_Forest (htx _ (ax_in (ax_wl_at (k := 2) (j := 13) rfl) rfl))
  obtain ⟨c2, i2, h2⟩ := u_known (C := "AskingFragments$Image") (T := aT_Image) (N := 4) (n := 4) htx aU_Image (htx _ (ax_in (ax_wl_at (k := 1) (j := 225) rfl) rfl))
  obtain ⟨c3, i3, h3⟩ := u_known (C := "AskingFragments$Net") (T := aT_Net) (N := 6) (n := 6) htx aU_Net (htx _ (ax_in (ax_wl_at (k := 1) (j := 70) rfl) rfl))
  obtain ⟨c4, i4, h4⟩ := u_known (C := "AskingFragments$Reader") (T := aT_Reader) (N := 10) (n := 10) htx aU_Reader (htx _ (ax_in (ax_wl_at (k := 1) (j := 29) rfl) rfl))
  obtain ⟨c5, i5, h5⟩ := u_known (C := "AskingFragments$Rule") (T := aT_Rule) (N := 9) (n := 9) htx aU_Rule (htx _ (ax_in (ax_wl_at (k := 1) (j := 109) rfl) rfl))
  obtain ⟨c6, i6, h6⟩ := u_known (C := "AskingFragments$Run") (T := aT_Run) (N := 18) (n := 18) htx aU_Run (htx _ (ax_in (ax_wl_at (k := 1) (j := 145) rfl) rfl))
  obtain ⟨c7, i7, h7⟩ := u_known (C := "AskingFragments$Spelling") (T := aT_Spell) (N := 2) (n := 2) htx aU_Spell (htx _ (ax_in (ax_wl_at (k := 2) (j := 41) rfl) rfl))
  obtain ⟨c8, i8, h8⟩ := u_known (C := "AskingFragmentsModel") (T := aT_M) (N := 35) (n := 35) htx aU_M (htx _ (ax_in (ax_wl_at (k := 5) (j := 206) rfl) rfl))
  have key : ∀ k : Nat, ∃ d : ClassId × (Nat → Nat), ∀ q : vw_C, ax_cl[k]? = some q → u_Kn s q.1 q.2.1 q.2.2 d.1 d.2 := by
    intro k
    match k with
    | 0 => exact ⟨(c0, i0), fun q hq => by cases hq; exact h0⟩
    | 1 => exact ⟨(c1, i1), fun q hq => by cases hq; exact h1⟩
    | 2 => exact ⟨(c2, i2), fun q hq => by cases hq; exact h2⟩
    | 3 => exact ⟨(c3, i3), fun q hq => by cases hq; exact h3⟩
    | 4 => exact ⟨(c4, i4), fun q hq => by cases hq; exact h4⟩
    | 5 => exact ⟨(c5, i5), fun q hq => by cases hq; exact h5⟩
    | 6 => exact ⟨(c6, i6), fun q hq => by cases hq; exact h6⟩
    | 7 => exact ⟨(c7, i7), fun q hq => by cases hq; exact h7⟩
    | 8 => exact ⟨(c8, i8), fun q hq => by cases hq; exact h8⟩
    | k + 9 => exact ⟨(c0, i0), fun q hq => by simp [ax_cl] at hq⟩
  obtain ⟨a1, x1, y1⟩ := la_ap (hts _ (ax_wl_at (k := 1) (j := 107) rfl))
  obtain ⟨a2, x2, y2⟩ := la_ap (hts _ (ax_wl_at (k := 1) (j := 68) rfl))
  obtain ⟨a3, x3, y3⟩ := la_ap (hts _ (ax_wl_at (k := 6) (j := 84) rfl))
  obtain ⟨a4, x4, y4⟩ := la_ap (hts _ (ax_wl_at (k := 6) (j := 83) rfl))
  obtain ⟨a5, x5, y5⟩ := la_ao (hts _ (ax_wl_at (k := 1) (j := 222) rfl))
  obtain ⟨a6, x6, y6⟩ := la_ao (hts _ (ax_wl_at (k := 1) (j := 224) rfl))
  refine ⟨(fun k => (Classical.choose (key k)).1, fun k => (Classical.choose (key k)).2), fun k => if k = 1 then a1 else if k = 2 then a2 else if k = 3 then a3 else if k = 4 then a4 else if k = 5 then a5 else a6, fun k q hq => Classical.choose_spec (key k) q hq, fun k q hq => ?_⟩
  match k, hq with
  | 0, hq => cases hq; exact ⟨x1, y1⟩
  | 1, hq => cases hq; exact ⟨x2, y2⟩
  | 2, hq => cases hq; exact ⟨x3, y3⟩
  | 3, hq => cases hq; exact ⟨x4, y4⟩
  | 4, hq => cases hq; exact ⟨x5, y5⟩
  | 5, hq => cases hq; exact ⟨x6, y6⟩
  | k + 6, hq => simp [ax_ty] at hq
