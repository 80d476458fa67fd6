/-! r: what holds where the law starts: nest mates, a static that is there -/
theorem la_nl {s : State} {b : Nat} (hts : ∀ w ∈ lw_tbl, w.before #[Value.ref b] s = true) : ∀ w ∈ ax_nl, va_Nw w s := by
  intro w hw
  simp only [ax_nl, List.mem_cons, List.not_mem_nil, or_false] at hw
  rcases hw with rfl | rfl | rfl | rfl | rfl | rfl | rfl | rfl | rfl | rfl | rfl | rfl | rfl | rfl | rfl | rfl | rfl | rfl
  · exact va_Nw.of rfl (hts _ (ax_wl_at (k := 4) (j := 147) rfl))
  · exact va_Nw.of rfl (hts _ (ax_wl_at (k := 4) (j := 191) rfl))
  · exact va_Nw.of rfl (hts _ (ax_wl_at (k := 3) (j := 64) rfl))
  · exact va_Nw.of rfl (hts _ (ax_wl_at (k := 3) (j := 46) rfl))
  · exact va_Nw.of rfl (hts _ (ax_wl_at (k := 3) (j := 59) rfl))
  · exact va_Nw.of rfl (hts _ (ax_wl_at (k := 3) (j := 23) rfl))
  · exact va_Nw.of rfl (hts _ (ax_wl_at (k := 3) (j := 12) rfl))
  · exact va_Nw.of rfl (hts _ (ax_wl_at (k := 2) (j := 159) rfl))
  · exact va_Nw.of rfl (hts _ (ax_wl_at (k := 3) (j := 134) rfl))
  · exact va_Nw.of rfl (hts _ (ax_wl_at (k := 3) (j := 116) rfl))
  · exact va_Nw.of rfl (hts _ (ax_wl_at (k := 3) (j := 129) rfl))
  · exact va_Nw.of rfl (hts _ (ax_wl_at (k := 3) (j := 79) rfl))
  · exact va_Nw.of rfl (hts _ (ax_wl_at (k := 3) (j := 84) rfl))
  · exact va_Nw.of rfl (hts _ (ax_wl_at (k := 3) (j := 160) rfl))
  · exact va_Nw.of rfl (hts _ (ax_wl_at (k := 3) (j := 91) rfl))
  · exact va_Nw.of rfl (hts _ (ax_wl_at (k := 4) (j := 11) rfl))
  · exact va_Nw.of rfl (hts _ (ax_wl_at (k := 5) (j := 48) rfl))
  · exact va_Nw.of rfl (hts _ (ax_wl_at (k := 5) (j := 41) rfl))
theorem la_sio {s : State} {b : Nat} {A : Nat → Prop} (hts : ∀ w ∈ lw_tbl, w.before #[Value.ref b] s = true) (hgv : (Jvm.Cond.and given_1 narrow_1).before #[Value.ref b] s = true) (hA : ∀ a : Nat, a < s.heap.size → ¬ A a) : va_Zq "jdk/internal/util/Preconditions" "SIOOBE_FORMATTER" "Ljava/util/function/BiFunction;" A s s.heap :=
  va_Zqof (hts _ (ax_wl_at (k := 2) (j := 209) rfl)) (hts _ (ax_wl_at (k := 1) (j := 13) rfl)) (flat_of_before _ hgv _ (by decide +kernel)) hA
theorem la_eq {s : State} {args : Array Value} {t : Jvm.Term} {x : Int32} (h : (Jvm.Cond.eq t (.int x)).before args s = true) : t.eval args s none [] s = some (.int x) := by
  cases he : t.eval args s none [] s with
  | none => simp [Cond.before, Cond.holds, Cond.value, he] at h
  | some v =>
    simp [Cond.before, Cond.holds, Cond.value, he, Term.eval] at h
    first
      | (rw [h]; done)
      | (cases v <;> simp_all)
theorem la_cmp {s : State} {b : Nat} {A : Nat → Prop} (hts : ∀ w ∈ lw_tbl, w.before #[Value.ref b] s = true) (hgv : (Jvm.Cond.and given_1 narrow_1).before #[Value.ref b] s = true) (hA : ∀ a : Nat, a < s.heap.size → ¬ A a) : va_Z "java/lang/String" "COMPACT_STRINGS" "Z" (.int 1) A s s.heap :=
  va_Zof (hts _ (ax_wl_at (k := 2) (j := 193) rfl)) (hts _ (ax_wl_at (k := 1) (j := 11) rfl)) (la_eq (flat_of_before _ hgv (Jvm.Cond.eq (Jvm.Term.static "java/lang/String" "COMPACT_STRINGS" "Z") (Jvm.Term.int (1 : Int32))) (by decide +kernel))) hA
