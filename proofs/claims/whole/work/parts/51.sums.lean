/-! ps: sums and counts over the numbers below one -/
def psm (f : Int → Int) : Nat → Int
  | 0 => 0
  | m + 1 => psm f m + f m
theorem psm_le {f g : Int → Int} {m : Nat} (h : ∀ i : Int, 0 ≤ i → i < m → f i ≤ g i) : psm f m ≤ psm g m := by
  induction m with
  | zero => simp [psm]
  | succ m ih =>
    simp only [psm]
    have h1 := ih (fun i h1 h2 => h i h1 (by omega))
    have h2 := h m (by omega) (by omega)
    omega
theorem psm_eq {f g : Int → Int} {m : Nat} (h : ∀ i : Int, 0 ≤ i → i < m → f i = g i) : psm f m = psm g m := by
  have h1 := psm_le (fun i h1 h2 => Int.le_of_eq (h i h1 h2)) (m := m)
  have h2 := psm_le (fun i h1 h2 => Int.le_of_eq (h i h1 h2).symm) (m := m)
  omega
theorem psm_lt {f g : Int → Int} {m : Nat} {a d : Int} (h : ∀ i : Int, 0 ≤ i → i < m → f i ≤ g i) (ha : 0 ≤ a) (ha2 : a < m) (hd : f a + d ≤ g a) : psm f m + d ≤ psm g m := by
  induction m with
  | zero => omega
  | succ m ih =>
    simp only [psm]
    by_cases e : a = m
    · subst e
      have h1 := psm_le (f := f) (g := g) (m := m) (fun i h1 h2 => h i h1 (by omega))
      omega
    · have h1 := ih (fun i h1 h2 => h i h1 (by omega)) (by omega)
      have h2 := h m (by omega) (by omega)
      omega
theorem psm_at {f g : Int → Int} {m : Nat} {a : Int} (h : ∀ i : Int, i ≠ a → f i = g i) (ha : 0 ≤ a) (ha2 : a < m) : psm g m = psm f m + (g a - f a) := by
  induction m with
  | zero => omega
  | succ m ih =>
    simp only [psm]
    by_cases e : a = m
    · subst e
      have h1 := psm_eq (f := f) (g := g) (m := m) (fun i h1 h2 => h i (by omega))
      omega
    · have h1 := ih (by omega)
      have h2 := h m (by omega)
      omega
theorem psm_const {c : Int} {m : Nat} : psm (fun _ => c) m = c * m := by
  induction m with
  | zero => simp [psm]
  | succ m ih =>
    simp only [psm, ih]
    rw [Int.natCast_add, Int.mul_add]
    simp
theorem psm_zero {f : Int → Int} {m : Nat} (h0 : ∀ i : Int, 0 ≤ i → i < m → 0 ≤ f i) (h : psm f m = 0) : ∀ i : Int, 0 ≤ i → i < m → f i = 0 := by
  intro i h1 h2
  have h3 := h0 i h1 h2
  have h4 := psm_lt (f := fun _ => 0) (g := f) (m := m) (a := i) (d := f i) h0 h1 h2 (by simp)
  rw [psm_const] at h4
  omega
def pct (P : Int → Prop) (D : ∀ i, Decidable (P i)) : Nat → Nat
  | 0 => 0
  | m + 1 => pct P D m + @ite _ (P m) (D m) 1 0
theorem pct_le {P : Int → Prop} {D : ∀ i, Decidable (P i)} {m : Nat} : pct P D m ≤ m := by
  induction m with
  | zero => simp [pct]
  | succ m ih =>
    simp only [pct]
    split <;> omega
theorem pct_congr {P Q : Int → Prop} {D : ∀ i, Decidable (P i)} {D2 : ∀ i, Decidable (Q i)} {m : Nat} (h : ∀ i : Int, 0 ≤ i → i < m → (P i ↔ Q i)) : pct P D m = pct Q D2 m := by
  induction m with
  | zero => simp [pct]
  | succ m ih =>
    simp only [pct]
    rw [ih (fun i h1 h2 => h i h1 (by omega))]
    have h1 := h m (by omega) (by omega)
    by_cases hp : P m
    · rw [if_pos hp, if_pos (h1.mp hp)]
    · rw [if_neg hp, if_neg (fun q => hp (h1.mpr q))]
theorem pct_rem {P Q : Int → Prop} {D : ∀ i, Decidable (P i)} {D2 : ∀ i, Decidable (Q i)} {m : Nat} {a : Int} (ha : 0 ≤ a) (ha2 : a < m) (hp : P a) (hq : ∀ i, Q i ↔ (P i ∧ i ≠ a)) : pct P D m = pct Q D2 m + 1 := by
  induction m with
  | zero => omega
  | succ m ih =>
    simp only [pct]
    by_cases e : a = m
    · subst e
      have h1 : pct P D m = pct Q D2 m := pct_congr (fun i h1 h2 => ⟨fun h => (hq i).mpr ⟨h, by omega⟩, fun h => ((hq i).mp h).1⟩)
      rw [h1, if_pos hp, if_neg (fun q => ((hq _).mp q).2 rfl)]
    · rw [ih (by omega)]
      by_cases hpm : P m
      · rw [if_pos hpm, if_pos ((hq _).mpr ⟨hpm, fun q => e q.symm⟩)]
      · rw [if_neg hpm, if_neg (fun q => hpm ((hq _).mp q).1)]
theorem pct_rel {m : Nat} : ∀ {P Q : Int → Prop} {D : ∀ i, Decidable (P i)} {D2 : ∀ i, Decidable (Q i)} {k : Nat} (r : Int → Int → Prop) (_ : ∀ i : Int, 0 ≤ i → i < m → P i → ∃ j : Int, 0 ≤ j ∧ j < k ∧ Q j ∧ r i j) (_ : ∀ i i' j : Int, 0 ≤ i → i < m → P i → 0 ≤ i' → i' < m → P i' → r i j → r i' j → i = i'), pct P D m ≤ pct Q D2 k := by
  induction m with
  | zero => intros; simp [pct]
  | succ m ih =>
    intro P Q D D2 k r h hi
    simp only [pct]
    by_cases hp : P m
    · obtain ⟨j, j0, j1, j2, j3⟩ := h m (by omega) (by omega) hp
      have h1 := ih (P := P) (Q := fun i => Q i ∧ i ≠ j) (D := D) (D2 := fun i => @instDecidableAnd _ _ (D2 i) _) (k := k) r
        (fun i h1 h2 h3 => by
          obtain ⟨j', a0, a1, a2, a3⟩ := h i h1 (by omega) h3
          refine ⟨j', a0, a1, ⟨a2, ?_⟩, a3⟩
          intro e
          subst e
          have := hi i m j' h1 (by omega) h3 (by omega) (by omega) hp a3 j3
          omega)
        (fun i i' j' a1 a2 a3 a4 a5 a6 a7 a8 => hi i i' j' a1 (by omega) a3 a4 (by omega) a6 a7 a8)
      have h2 := pct_rem (P := Q) (Q := fun i => Q i ∧ i ≠ j) (D := D2) (D2 := fun i => @instDecidableAnd _ _ (D2 i) _) j0 j1 j2 (fun i => Iff.rfl)
      rw [if_pos hp]
      omega
    · have h1 := ih (P := P) (Q := Q) (D := D) (D2 := D2) (k := k) r (fun i h1 h2 h3 => h i h1 (by omega) h3) (fun i i' j' a1 a2 a3 a4 a5 a6 a7 a8 => hi i i' j' a1 (by omega) a3 a4 (by omega) a6 a7 a8)
      rw [if_neg hp]
      omega
theorem pct_two {P : Int → Prop} {D : ∀ i, Decidable (P i)} {m : Nat} : pct (fun w => P (w / 2)) (fun w => D (w / 2)) (2 * m) = 2 * pct P D m := by
  induction m with
  | zero => simp [pct]
  | succ m ih =>
    have e : 2 * (m + 1) = 2 * m + 1 + 1 := by omega
    rw [e]
    simp only [pct]
    rw [ih]
    have e1 : ((2 * m + 1 : Nat) : Int) / 2 = m := by omega
    have e2 : ((2 * m : Nat) : Int) / 2 = m := by omega
    by_cases hp : P m
    · rw [if_pos (by rw [e2]; exact hp), if_pos (by rw [e1]; exact hp), if_pos hp]
      omega
    · rw [if_neg (by rw [e2]; exact hp), if_neg (by rw [e1]; exact hp), if_neg hp]
      omega
theorem pct_pos {P : Int → Prop} {D : ∀ i, Decidable (P i)} {m : Nat} {a : Int} (ha : 0 ≤ a) (ha2 : a < m) (hp : P a) : 1 ≤ pct P D m := by
  have := pct_rem (P := P) (Q := fun i => P i ∧ i ≠ a) (D := D) (D2 := fun i => @instDecidableAnd _ _ (D i) _) ha ha2 hp (fun i => Iff.rfl)
  omega
/-! no edge is a core of a level above 3 -/
theorem p_lev {W : Int → Prop} {sd op : Int → Int} {cl cw c0 : Int → Int} {E N : Nat} (hW : ∀ w, W w ↔ 0 ≤ w ∧ w < 2 * E) (hN : N ≤ 12) (hsd : ∀ w, W w → 0 ≤ sd w ∧ sd w < N) (hG : pj_G W sd op (fun w => w / 2)) (cCR : pj_CR W (fun w => w / 2) cl) (cZ1 : pj_Z1 W (fun w => w / 2) cl cw) (cZ0 : pj_Z0 W sd (fun w => w / 2) c0 cl) : ∀ c, cl c ≤ 3 := by
  obtain ⟨hop, hed⟩ := hG
  unfold pj_CR at cCR
  unfold pj_Z1 at cZ1
  unfold pj_Z0 at cZ0
  have hr : ∀ c, cl c ≠ 0 → 0 ≤ c ∧ c < E := by
    intro c hc
    obtain ⟨w, hw, e⟩ := cCR c hc
    have := (hW w).mp hw
    simp only at e
    omega
  have b1 : 2 * pct (fun c => cl c = 1) (fun _ => inferInstance) E ≤ N := by
    rw [← pct_two]
    refine Nat.le_trans (pct_rel (Q := fun _ => True) (D2 := fun _ => inferInstance) (k := N) (fun w n => sd w = n) ?_ ?_) pct_le
    · intro i h1 h2 h3
      have := hsd i ((hW i).mpr ⟨h1, by omega⟩)
      exact ⟨sd i, this.1, this.2, trivial, rfl⟩
    · intro i i' j h1 h2 h3 h4 h5 h6 h7 h8
      have w1 := (hW i).mpr ⟨h1, by omega⟩
      have w2 := (hW i').mpr ⟨h4, by omega⟩
      have a1 := cZ0 i w1 h3
      have a2 := cZ0 i' w2 h6
      rw [h7] at a1
      rw [h8] at a2
      rcases hed i i' w1 w2 (by rw [← a1, ← a2]) with h | h
      · exact h.symm
      · rw [h] at h8
        exact absurd (h8.trans h7.symm) (hop i w1).2.2.2.1
  have b2 : ∀ l : Int, 1 ≤ l → 2 * pct (fun c => cl c = l + 1) (fun _ => inferInstance) E ≤ pct (fun c => cl c = l) (fun _ => inferInstance) E := by
    intro l hl
    rw [← pct_two]
    refine pct_rel (fun w c => cw c = w) ?_ ?_
    · intro i h1 h2 h3
      have w1 := (hW i).mpr ⟨h1, by omega⟩
      obtain ⟨c, e1, e2⟩ := cZ1 i w1 (by show 2 ≤ cl (i / 2); omega)
      simp only at e1
      have := hr c (by omega)
      exact ⟨c, this.1, this.2, by omega, e2⟩
    · intro i i' j _ _ _ _ _ _ h7 h8
      omega
  have c1 := b2 1 (by omega)
  have c2 := b2 2 (by omega)
  have c3 := b2 3 (by omega)
  have e2 : (1 : Int) + 1 = 2 := rfl
  have e3 : (2 : Int) + 1 = 3 := rfl
  have e4 : (3 : Int) + 1 = 4 := rfl
  rw [e2] at c1
  rw [e3] at c2
  rw [e4] at c3
  have n4 : ∀ c, cl c ≠ 4 := by
    intro c hc
    have := hr c (by omega)
    have h := pct_pos (P := fun c => cl c = 4) (D := fun _ => inferInstance) (m := E) this.1 this.2 hc
    omega
  have n5 : ∀ k : Nat, ∀ c, cl c ≠ 4 + k := by
    intro k
    induction k with
    | zero => intro c; simpa using n4 c
    | succ k ih =>
      intro c hc
      obtain ⟨w, hw, e⟩ := cCR c (by omega)
      obtain ⟨c', e1, _⟩ := cZ1 w hw (by rw [e]; omega)
      rw [e] at e1
      exact ih c' (by omega)
  intro c
  by_cases h : cl c ≤ 3
  · exact h
  · exact absurd (show cl c = 4 + ((cl c - 4).toNat : Int) by omega) (n5 _ c)
/-! the potential that pays for the letters -/
def pfi (st lv ps dl af : Int → Int) : Int → Int := fun n => dl n + 4 * lv n + ps n + af n - 1 - (if st n = 1 then 1 else 0)
theorem p_cnt {st lv ps dl af fw : Int → Int} {N M : Nat} (hN : N ≤ 12) (hM : M ≤ 60) (h : ∀ n, dl n ≤ 3 ∧ lv n ≤ 3 ∧ ps n ≤ 1 ∧ af n ≤ 1) (hf : ∀ w : Int, 0 ≤ w → w < M → fw w ≤ 1) : psm (pfi st lv ps dl af) N + psm fw M ≤ 252 := by
  have h1 : psm (pfi st lv ps dl af) N ≤ psm (fun _ => 16) N := psm_le (fun i _ _ => by
    have := h i
    unfold pfi
    split <;> omega)
  have h2 : psm fw M ≤ psm (fun _ => 1) M := psm_le hf
  rw [psm_const] at h1 h2
  omega
