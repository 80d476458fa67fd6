/-! c: a letter is sent while one is between its way and its handling -/
def cHd (X : cX) (d : Int) : cX := (xfo X, xlo X, xoe X, xaf X, xwl X, xso X, xwn X, xow X, xwc X, xhd X + d, xdp X)
theorem gse_gsL {G : gG} {S : gS} {n e kd lv td st k f v : Int} (hk : k ≠ gnL S) : gse G (gsL S k f v) n e kd lv td st = gsL (gse G S n e kd lv td st) k f v := by
  refine Prod.ext rfl (Prod.ext rfl (Prod.ext ?_ rfl))
  funext x y
  have e1 : gnL (gsL S k f v) = gnL S := rfl
  have e9 : gnd (gsL S k f v) n 9 = gnd S n 9 := rfl
  show glt (gse G (gsL S k f v) n e kd lv td st) x y = glt (gsL (gse G S n e kd lv td st) k f v) x y
  by_cases q : x = gnL S
  · have hx : ¬ (x = k ∧ y = f) := fun z => hk (z.1.symm.trans q)
    have hk2 : ¬ (gnL S = k) := fun z => hk z.symm
    subst q
    simp [gse, gsL, glt, gnL, gnd] at hx hk2 ⊢
    simp [hk2]
  · have q2 : ¬ (x = S.2.2.2.1) := q
    simp [gse, gsL, glt, gnL, q2]
