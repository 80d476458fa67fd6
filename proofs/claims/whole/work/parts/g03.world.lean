/-! q: the world behind both constructors -/
def la_z : Nat → ax_C := fun _ => (0, 0, [])
def la_1 : Nat → ax_C := cx_set la_z 0 (0, 0, [(4, 0), (0, 0), (4, 0), (4, 0), (4, 0), (4, 0), (4, 0), (4, 0), (4, 0), (4, 0), (0, 0), (0, 0), (4, 0), (4, 0), (4, 0), (0, 0), (0, 0)])
def la_2 : Nat → ax_C := cn_s_F la_1 1 0
def la_3 : Nat → ax_C := cx_set la_2 207 (0, 8, [(0, 0), (4, 0), (0, 0), (0, 0), (0, 0), (0, 0), (0, 0), (0, 0), (0, 0), (0, 0), (0, 0), (0, 0), (1, 0), (0, 0), (4, 0), (4, 0), (4, 0), (4, 0), (4, 0), (4, 0), (4, 0), (4, 0), (4, 0), (4, 0), (0, 0), (4, 0), (4, 0), (4, 0), (4, 0), (4, 0), (0, 0), (0, 0), (0, 0), (4, 0), (0, 0)])
def la_4 : Nat → ax_C := cn_s_M la_3 208 207
theorem la_sh : ∀ o, o < 225 → la_4 o = ax_sh o := by decide +kernel
theorem la_nn : ∀ o, o < 225 → ∀ q ∈ (ax_sh o).2.2, q.1 ≠ 4 := by decide +kernel
theorem la_NC : ax_NC = 225 := rfl
def la_m0 : ax_M := (fun _ _ => 0, fun _ _ => 0)
def la_m2 : ax_M := (ax_up ((ax_up (la_m0).1 0 15 (-1), (la_m0).2)).1 0 16 (-1), ((ax_up (la_m0).1 0 15 (-1), (la_m0).2)).2)
def la_m4 : ax_M := (ax_up ((ax_up ((ax_up (la_m2).1 207 10 (-1), (la_m2).2)).1 207 30 (-1), ((ax_up (la_m2).1 207 10 (-1), (la_m2).2)).2)).1 207 31 (-1), ((ax_up ((ax_up (la_m2).1 207 10 (-1), (la_m2).2)).1 207 30 (-1), ((ax_up (la_m2).1 207 10 (-1), (la_m2).2)).2)).2)
theorem la_m0z : ∀ o, 1 ≤ o → la_m0.1 o = (fun _ => 0) ∧ la_m0.2 o = (fun _ => 0) := fun _ _ => ⟨rfl, rfl⟩
theorem la_m2z : ∀ o, 208 ≤ o → la_m2.1 o = (fun _ => 0) ∧ la_m2.2 o = (fun _ => 0) := fun o ho => ⟨by
  show ax_up (ax_up (la_m0).1 0 15 (-1)) 0 16 (-1) o = _
  rw [ax_up_ne (by omega), ax_up_ne (by omega)]
  rfl, rfl⟩
theorem la_at (a k : Nat) : la_m4.1 a k = if a = 207 ∧ k = 31 then -1 else if a = 207 ∧ k = 30 then -1 else if a = 207 ∧ k = 10 then -1 else if a = 0 ∧ k = 16 then -1 else if a = 0 ∧ k = 15 then -1 else 0 := rfl
theorem la_iC : iC G00 S00 [] K00 la_m4 := by
  refine st_C (fun a k h1 h2 => ?_) ?_ ?_
  · rw [la_at, if_neg (by omega), if_neg (by omega), if_neg (by omega), if_neg (by omega), if_neg (by omega)]
    rfl
  · rw [la_at, if_neg (by omega), if_neg (by omega), if_neg (by omega), if_neg (by omega), if_pos (by omega)]
    rfl
  · rw [la_at, if_neg (by omega), if_neg (by omega), if_neg (by omega), if_pos (by omega)]
    rfl
theorem la_iM : iM G00 S00 [] K00 la_m4 := by
  refine st_M (fun a k h1 h2 => ?_) ?_ ?_ ?_
  · rw [la_at, if_neg (by omega), if_neg (by omega), if_neg (by omega), if_neg (by omega), if_neg (by omega)]
    rfl
  · rw [la_at, if_neg (by omega), if_neg (by omega), if_pos (by omega)]
    rfl
  · rw [la_at, if_neg (by omega), if_pos (by omega)]
    rfl
  · rw [la_at, if_pos (by omega)]
    rfl
/-- what holds between two calls of the law -/
def laI (ν : ax_M) : Prop := ∃ G S U K, pQ G S U K ∧ iC G S U K ν ∧ iM G S U K ν
theorem laI_0 : laI la_m4 := ⟨G00, S00, [], K00, pQ_00, la_iC, la_iM⟩
theorem la_W {Dg : va_G} {A : Nat → Prop} {cA : Nat → ClassId} {ad : Nat → Nat} {H : Heap} (h : cx_W Dg ax_cl A cA ad la_4 225 la_m4 H) : ax_W Dg ax_cl A cA ad ax_sh ax_NC la_m4 H := by
  rw [la_NC]
  exact cx_ax h (Nat.le_refl _) la_sh la_nn (fun _ _ => ⟨rfl, rfl⟩)
