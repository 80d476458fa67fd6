/-! f: what is joined by edges; the least tree -/
def gcl (G : gG) (P C : Int → Prop) : Prop := ∀ e, 0 ≤ e → e < gE G → P e → (C (gfr G e) ↔ C (gsc G e))
def gcc (G : gG) (P : Int → Prop) (a b : Int) : Prop := ∀ C : Int → Prop, gcl G P C → C a → C b
theorem cc_refl {G : gG} {P : Int → Prop} {a : Int} : gcc G P a a := fun _ _ h => h
theorem cc_trans {G : gG} {P : Int → Prop} {a b c : Int} (h : gcc G P a b) (h' : gcc G P b c) : gcc G P a c := fun C hC ha => h' C hC (h C hC ha)
theorem cc_symm {G : gG} {P : Int → Prop} {a b : Int} (h : gcc G P a b) : gcc G P b a := by
  intro C hC hb
  by_cases q : C a
  · exact q
  · exact absurd hb (h (fun x => ¬ C x) (fun e e0 e1 p => not_congr (hC e e0 e1 p)) q)
theorem cc_mono {G : gG} {P Q : Int → Prop} {a b : Int} (hs : ∀ e, 0 ≤ e → e < gE G → P e → Q e) (h : gcc G P a b) : gcc G Q a b := fun C hC ha => h C (fun e e0 e1 p => hC e e0 e1 (hs e e0 e1 p)) ha
theorem cc_edge {G : gG} {P : Int → Prop} {e : Int} (h0 : 0 ≤ e) (h1 : e < gE G) (h : P e) : gcc G P (gfr G e) (gsc G e) := fun C hC ha => (hC e h0 h1 h).mp ha
theorem cc_sub {G : gG} {P Q : Int → Prop} {a b : Int} (hs : ∀ e, 0 ≤ e → e < gE G → P e → gcc G Q (gfr G e) (gsc G e)) (h : gcc G P a b) : gcc G Q a b :=
  fun C hC ha => h C (fun e e0 e1 p => ⟨hs e e0 e1 p C hC, cc_symm (hs e e0 e1 p) C hC⟩) ha
theorem cc_congr {G : gG} {P Q : Int → Prop} {a b : Int} (hs : ∀ e, 0 ≤ e → e < gE G → (P e ↔ Q e)) : gcc G P a b ↔ gcc G Q a b := ⟨cc_mono (fun e e0 e1 => (hs e e0 e1).mp), cc_mono (fun e e0 e1 => (hs e e0 e1).mpr)⟩
/-- one edge more -/
theorem cc_add {G : gG} {P : Int → Prop} {x a b : Int} (x0 : 0 ≤ x) (x1 : x < gE G) : gcc G (fun e => P e ∨ e = x) a b ↔ (gcc G P a b ∨ (gcc G P a (gfr G x) ∧ gcc G P (gsc G x) b) ∨ (gcc G P a (gsc G x) ∧ gcc G P (gfr G x) b)) := by
  constructor
  · intro h
    refine h (fun b => gcc G P a b ∨ (gcc G P a (gfr G x) ∧ gcc G P (gsc G x) b) ∨ (gcc G P a (gsc G x) ∧ gcc G P (gfr G x) b)) ?_ (Or.inl cc_refl)
    intro e e0 e1 p
    rcases p with p | p
    · have he := cc_edge (P := P) e0 e1 p
      constructor
      · rintro (q | q | q)
        · exact Or.inl (cc_trans q he)
        · exact Or.inr (Or.inl ⟨q.1, cc_trans q.2 he⟩)
        · exact Or.inr (Or.inr ⟨q.1, cc_trans q.2 he⟩)
      · rintro (q | q | q)
        · exact Or.inl (cc_trans q (cc_symm he))
        · exact Or.inr (Or.inl ⟨q.1, cc_trans q.2 (cc_symm he)⟩)
        · exact Or.inr (Or.inr ⟨q.1, cc_trans q.2 (cc_symm he)⟩)
    · subst p
      constructor
      · rintro (q | q | q)
        · exact Or.inr (Or.inl ⟨q, cc_refl⟩)
        · exact Or.inr (Or.inl ⟨q.1, cc_refl⟩)
        · exact Or.inl q.1
      · rintro (q | q | q)
        · exact Or.inr (Or.inr ⟨q, cc_refl⟩)
        · exact Or.inl q.1
        · exact Or.inr (Or.inr ⟨q.1, cc_refl⟩)
  · have he := cc_edge (P := fun e => P e ∨ e = x) x0 x1 (Or.inr rfl)
    have hm : ∀ {c d}, gcc G P c d → gcc G (fun e => P e ∨ e = x) c d := fun h => cc_mono (fun e _ _ p => Or.inl p) h
    rintro (q | q | q)
    · exact hm q
    · exact cc_trans (hm q.1) (cc_trans he (hm q.2))
    · exact cc_trans (hm q.1) (cc_trans (cc_symm he) (hm q.2))
/-- the order of the edges -/
def glo (G : gG) (e f : Int) : Prop := gwt G e < gwt G f ∨ (gwt G e = gwt G f ∧ e < f)
theorem lo_tri {G : gG} (e f : Int) : glo G e f ∨ e = f ∨ glo G f e := by unfold glo; omega
theorem lo_irr {G : gG} {e : Int} : ¬ glo G e e := by unfold glo; omega
theorem lo_tr {G : gG} {e f g : Int} (h : glo G e f) (h' : glo G f g) : glo G e g := by unfold glo at *; omega
theorem lo_as {G : gG} {e f : Int} (h : glo G e f) : ¬ glo G f e := by unfold glo at *; omega
theorem gli_lo {G : gG} {e f : Int} (he : 0 ≤ e) (hf : 0 ≤ f) : gli G e f = true ↔ glo G e f := by
  unfold gli glo
  rw [if_neg (by omega)]
  simp
theorem lo_key {G : gG} {e f : Int} (e0 : 0 ≤ e) (e1 : e < 30) (f0 : 0 ≤ f) (f1 : f < 30) : glo G e f ↔ gwt G e * 30 + e < gwt G f * 30 + f := by unfold glo; omega
/-- e is in the least tree -/
def gT (G : gG) (e : Int) : Prop := ¬ gcc G (fun f => glo G f e) (gfr G e) (gsc G e)
theorem T_down {G : gG} (hE : gE G ≤ 30) (hw : hGw G) {D : Int → Prop} (hD : ∀ e f, 0 ≤ f → f < gE G → 0 ≤ e → e < gE G → D e → glo G f e → D f) : ∀ (n : Nat) (e : Int), 0 ≤ e → e < gE G → gwt G e * 30 + e < n → D e → gcc G (fun f => D f ∧ gT G f) (gfr G e) (gsc G e) := by
  intro n
  induction n with
  | zero =>
    intro e e0 e1 hn _
    have := hw e e0 e1
    omega
  | succ n ih =>
    intro e e0 e1 hn hd
    by_cases q : gT G e
    · exact cc_edge (P := fun f => D f ∧ gT G f) e0 e1 ⟨hd, q⟩
    · have hc : gcc G (fun f => glo G f e) (gfr G e) (gsc G e) := by
        unfold gT at q
        exact Classical.not_not.mp q
      refine cc_sub ?_ hc
      intro f f0 f1 hf
      have hk := (lo_key f0 (by omega) e0 (by omega)).mp hf
      exact ih f f0 f1 (by omega) (hD e f f0 f1 e0 e1 hd hf)
theorem T_suff {G : gG} (hE : gE G ≤ 30) (hw : hGw G) {D : Int → Prop} (hD : ∀ e f, 0 ≤ f → f < gE G → 0 ≤ e → e < gE G → D e → glo G f e → D f) {a b : Int} : gcc G D a b ↔ gcc G (fun f => D f ∧ gT G f) a b := by
  constructor
  · intro h
    refine cc_sub ?_ h
    intro e e0 e1 hd
    have := hw e e0 e1
    exact T_down hE hw hD (gwt G e * 30 + e + 1).toNat e e0 e1 (by omega) hd
  · exact cc_mono (fun e _ _ p => p.1)
/-- of the edges of B the one in order by which a and b come together -/
def gJ (G : gG) (B : Int → Prop) (a b m : Int) : Prop := 0 ≤ m ∧ m < gE G ∧ B m ∧ gcc G (fun f => B f ∧ (f = m ∨ glo G f m)) a b ∧ ¬ gcc G (fun f => B f ∧ glo G f m) a b
/-- some edge is the last that's needed -/
theorem J_ex {G : gG} (hE : gE G ≤ 30) (hw : hGw G) {B : Int → Prop} {a b : Int} : ∀ (n : Nat), gcc G (fun f => B f ∧ gwt G f * 30 + f < n) a b → gcc G (fun _ => False) a b ∨ ∃ m, gJ G B a b m := by
  intro n
  induction n with
  | zero =>
    intro h
    left
    refine cc_mono ?_ h
    intro e e0 e1 p
    have := hw e e0 e1
    have := p.2
    omega
  | succ n ih =>
    intro h
    by_cases q : gcc G (fun f => B f ∧ gwt G f * 30 + f < n) a b
    · exact ih q
    · right
      by_cases qm : ∃ m, 0 ≤ m ∧ m < gE G ∧ B m ∧ gwt G m * 30 + m = n
      · obtain ⟨m, m0, m1, m2, m3⟩ := qm
        refine ⟨m, m0, m1, m2, ?_, ?_⟩
        · refine cc_mono ?_ h
          intro e e0 e1 p
          refine ⟨p.1, ?_⟩
          rcases lo_tri (G := G) e m with c | c | c
          · exact Or.inr c
          · exact Or.inl c
          · have := (lo_key m0 (by omega) e0 (by omega)).mp c
            have := p.2
            omega
        · intro c
          refine q (cc_mono ?_ c)
          intro e e0 e1 p
          have := (lo_key e0 (by omega) m0 (by omega)).mp p.2
          exact ⟨p.1, by omega⟩
      · exfalso
        refine q (cc_mono ?_ h)
        intro e e0 e1 p
        refine ⟨p.1, ?_⟩
        by_cases c : gwt G e * 30 + e = n
        · exact absurd ⟨e, e0, e1, p.1, c⟩ qm
        · have := p.2
          omega
theorem cc_no {G : gG} {P : Int → Prop} {a b : Int} (hP : ∀ e, 0 ≤ e → e < gE G → ¬ P e) (h : gcc G P a b) : a = b := h (fun x => a = x) (fun e e0 e1 p => absurd p (hP e e0 e1)) rfl
theorem J_of {G : gG} (hE : gE G ≤ 30) (hw : hGw G) {B : Int → Prop} {a b : Int} (hab : a ≠ b) (h : gcc G B a b) : ∃ m, gJ G B a b m := by
  rcases J_ex hE hw (B := B) (a := a) (b := b) 40000 (cc_mono (fun e e0 e1 p => ⟨p, by have := hw e e0 e1; omega⟩) h) with q | q
  · exact absurd (cc_no (fun _ _ _ => id) q) hab
  · exact q
theorem J_uni {G : gG} {B : Int → Prop} {a b m m' : Int} (h : gJ G B a b m) (h' : gJ G B a b m') : m = m' := by
  obtain ⟨a0, a1, a2, a3, a4⟩ := h
  obtain ⟨b0, b1, b2, b3, b4⟩ := h'
  rcases lo_tri (G := G) m m' with q | q | q
  · exfalso
    refine b4 (cc_mono ?_ a3)
    intro e _ _ p
    exact ⟨p.1, by rcases p.2 with c | c; rw [c]; exact q; exact lo_tr c q⟩
  · exact q
  · exfalso
    refine a4 (cc_mono ?_ b3)
    intro e _ _ p
    exact ⟨p.1, by rcases p.2 with c | c; rw [c]; exact q; exact lo_tr c q⟩
/-- removing an edge of the tree parts its nodes -/
theorem T_acyc {G : gG} (hE : gE G ≤ 30) (hw : hGw G) {e : Int} (e0 : 0 ≤ e) (e1 : e < gE G) (hn : gfr G e ≠ gsc G e) (h : gT G e) : ¬ gcc G (fun f => gT G f ∧ f ≠ e) (gfr G e) (gsc G e) := by
  intro hc
  obtain ⟨x, x0, x1, x2, x3, x4⟩ := J_of hE hw hn hc
  have hxe : x ≠ e := x2.2
  rcases lo_tri (G := G) x e with q | q | q
  · refine h (cc_mono ?_ x3)
    intro f _ _ p
    rcases p.2 with c | c
    · rw [c]
      exact q
    · exact lo_tr c q
  · exact hxe q
  · have h1 : gcc G (fun f => ((gT G f ∧ f ≠ e) ∧ glo G f x) ∨ f = x) (gfr G e) (gsc G e) := cc_mono (fun f _ _ p => by
      rcases p.2 with c | c
      · exact Or.inr c
      · exact Or.inl ⟨p.1, c⟩) x3
    have he : gcc G (fun f => glo G f x) (gfr G e) (gsc G e) := cc_edge e0 e1 q
    have hm : ∀ {c d}, gcc G (fun f => (gT G f ∧ f ≠ e) ∧ glo G f x) c d → gcc G (fun f => glo G f x) c d := fun z => cc_mono (fun f _ _ p => p.2) z
    rcases (cc_add x0 x1).mp h1 with c | c | c
    · exact x4 c
    · exact x2.1 (cc_trans (cc_symm (hm c.1)) (cc_trans he (cc_symm (hm c.2))))
    · exact x2.1 (cc_trans (hm c.2) (cc_trans (cc_symm he) (hm c.1)))
def gAll : Int → Prop := fun _ => True
theorem T_all {G : gG} (hE : gE G ≤ 30) (hw : hGw G) {a b : Int} : gcc G gAll a b ↔ gcc G (gT G) a b := by
  rw [T_suff hE hw (D := gAll) (fun _ _ _ _ _ _ _ _ => trivial)]
  exact cc_congr (fun e _ _ => ⟨fun p => p.2, fun p => ⟨trivial, p⟩⟩)
theorem J_T {G : gG} {a b m : Int} (h : gJ G gAll a b m) : gT G m := by
  obtain ⟨m0, m1, m2, m3, m4⟩ := h
  intro c
  refine m4 ?_
  have h1 : gcc G (fun f => glo G f m ∨ f = m) a b := cc_mono (fun f _ _ p => by rcases p.2 with z | z; exact Or.inr z; exact Or.inl z) m3
  have hm : ∀ {c d}, gcc G (fun f => glo G f m) c d → gcc G (fun f => gAll f ∧ glo G f m) c d := fun z => cc_mono (fun f _ _ p => ⟨trivial, p⟩) z
  rcases (cc_add m0 m1).mp h1 with q | q | q
  · exact hm q
  · exact hm (cc_trans q.1 (cc_trans c q.2))
  · exact hm (cc_trans q.1 (cc_trans (cc_symm c) q.2))
/-- the heaviest edge between two nodes in the tree -/
theorem J_heavy {G : gG} (hE : gE G ≤ 30) (hw : hGw G) (hn : ∀ e, 0 ≤ e → e < gE G → gfr G e ≠ gsc G e) {a b m : Int} (h : gJ G gAll a b m) : ¬ gcc G (fun f => gT G f ∧ f ≠ m) a b ∧ ∀ e, 0 ≤ e → e < gE G → gT G e → ¬ gcc G (fun f => gT G f ∧ f ≠ e) a b → e = m ∨ glo G e m := by
  have hT := J_T h
  obtain ⟨m0, m1, m2, m3, m4⟩ := h
  have hd : gcc G (fun f => (f = m ∨ glo G f m) ∧ gT G f) a b := by
    refine (T_suff hE hw (D := fun f => f = m ∨ glo G f m) ?_).mp (cc_mono (fun f _ _ p => p.2) m3)
    intro e f _ _ _ _ he hf
    rcases he with c | c
    · exact Or.inr (c ▸ hf)
    · exact Or.inr (lo_tr hf c)
  constructor
  · intro c
    have h1 : gcc G (fun f => (glo G f m ∧ gT G f) ∨ f = m) a b := cc_mono (fun f _ _ p => by
      rcases p.1 with z | z
      · exact Or.inr z
      · exact Or.inl ⟨z, p.2⟩) hd
    have hm : ∀ {c d}, gcc G (fun f => glo G f m ∧ gT G f) c d → gcc G (fun f => gT G f ∧ f ≠ m) c d := fun z => cc_mono (fun f _ _ p => ⟨p.2, fun e => lo_irr (G := G) (e := m) (by have p1 := p.1; rw [e] at p1; exact p1)⟩) z
    rcases (cc_add m0 m1).mp h1 with q | q | q
    · exact m4 (cc_mono (fun f _ _ p => ⟨trivial, p.1⟩) q)
    · exact T_acyc hE hw m0 m1 (hn m m0 m1) hT (cc_trans (cc_symm (hm q.1)) (cc_trans c (cc_symm (hm q.2))))
    · exact T_acyc hE hw m0 m1 (hn m m0 m1) hT (cc_trans (hm q.2) (cc_trans (cc_symm c) (hm q.1)))
  · intro e e0 e1 he hc
    rcases lo_tri (G := G) e m with q | q | q
    · exact Or.inr q
    · exact Or.inl q
    · exfalso
      refine hc (cc_mono ?_ hd)
      intro f _ _ p
      refine ⟨p.2, ?_⟩
      intro z
      rcases p.1 with y | y
      · rw [z] at y
        exact lo_irr (G := G) (e := m) (y ▸ q)
      · rw [z] at y
        exact lo_as q y
/-- an edge out, another one in -/
theorem T_swap {G : gG} (hE : gE G ≤ 30) (hw : hGw G) (hn : ∀ e, 0 ≤ e → e < gE G → gfr G e ≠ gsc G e) {e f : Int} (e0 : 0 ≤ e) (e1 : e < gE G) (f0 : 0 ≤ f) (f1 : f < gE G) (he : ¬ gT G e) (hf : gT G f) : (∀ a b, gcc G (fun x => (gT G x ∧ x ≠ f) ∨ x = e) a b ↔ gcc G (gT G) a b) ↔ ¬ gcc G (fun x => gT G x ∧ x ≠ f) (gfr G e) (gsc G e) := by
  have heT : gcc G (gT G) (gfr G e) (gsc G e) := (T_all hE hw).mp (cc_mono (fun _ _ _ _ => trivial) (Classical.not_not.mp he))
  have hTf : ∀ a b, gcc G (gT G) a b ↔ gcc G (fun x => (gT G x ∧ x ≠ f) ∨ x = f) a b := by
    intro a b
    refine cc_congr ?_
    intro x _ _
    constructor
    · intro p
      by_cases q : x = f
      · exact Or.inr q
      · exact Or.inl ⟨p, q⟩
    · rintro (p | p)
      · exact p.1
      · rw [p]
        exact hf
  have hup : ∀ {c d}, gcc G (fun x => gT G x ∧ x ≠ f) c d → gcc G (fun x => (gT G x ∧ x ≠ f) ∨ x = e) c d := fun z => cc_mono (fun x _ _ p => Or.inl p) z
  constructor
  · intro h c
    refine T_acyc hE hw f0 f1 (hn f f0 f1) hf ?_
    have h1 := (h (gfr G f) (gsc G f)).mpr (cc_edge f0 f1 hf)
    refine cc_sub ?_ h1
    intro x x0 x1 p
    rcases p with p | p
    · exact cc_edge (P := fun x => gT G x ∧ x ≠ f) x0 x1 p
    · rw [p]
      exact c
  · intro h a b
    constructor
    · refine cc_sub ?_
      intro x x0 x1 p
      rcases p with p | p
      · exact cc_edge x0 x1 p.1
      · rw [p]
        exact heT
    · refine cc_sub ?_
      intro x x0 x1 p
      by_cases q : x = f
      · rw [q]
        have hee : gcc G (fun x => (gT G x ∧ x ≠ f) ∨ x = e) (gfr G e) (gsc G e) := cc_edge (P := fun x => (gT G x ∧ x ≠ f) ∨ x = e) e0 e1 (Or.inr rfl)
        rcases (cc_add f0 f1).mp ((hTf _ _).mp heT) with c | c | c
        · exact absurd c h
        · exact cc_trans (cc_symm (hup c.1)) (cc_trans hee (cc_symm (hup c.2)))
        · exact cc_trans (hup c.2) (cc_trans (cc_symm hee) (hup c.1))
      · exact cc_edge (P := fun x => (gT G x ∧ x ≠ f) ∨ x = e) x0 x1 (Or.inl ⟨p, q⟩)
/-- with what weight an edge is in the tree -/
theorem J_slack {G : gG} {e m w : Int} (h : gJ G (fun f => f ≠ e) (gfr G e) (gsc G e) m) : ¬ gcc G (fun f => f ≠ e ∧ (gwt G f < w ∨ (gwt G f = w ∧ f < e))) (gfr G e) (gsc G e) ↔ (w < gwt G m ∨ (w = gwt G m ∧ e < m)) := by
  obtain ⟨m0, m1, m2, m3, m4⟩ := h
  by_cases q : gwt G m < w ∨ (gwt G m = w ∧ m < e)
  · constructor
    · intro c
      exfalso
      refine c (cc_mono ?_ m3)
      intro f _ _ p
      refine ⟨p.1, ?_⟩
      rcases p.2 with z | z
      · rw [z]
        exact q
      · unfold glo at z
        omega
    · intro c
      have : m ≠ e := m2
      omega
  · constructor
    · intro _
      have : m ≠ e := m2
      omega
    · intro _ c
      refine m4 (cc_mono ?_ c)
      intro f _ _ p
      refine ⟨p.1, ?_⟩
      have := p.2
      unfold glo
      omega
/-- e itself joins its nodes, or it isn't in the tree -/
theorem J_self {G : gG} {e m : Int} (e0 : 0 ≤ e) (e1 : e < gE G) (h : gJ G gAll (gfr G e) (gsc G e) m) : m = e ↔ gT G e := by
  have hJ := J_T h
  constructor
  · intro q
    rw [← q]
    exact hJ
  · intro q
    obtain ⟨m0, m1, m2, m3, m4⟩ := h
    rcases lo_tri (G := G) m e with c | c | c
    · exfalso
      refine q (cc_mono ?_ m3)
      intro f _ _ p
      rcases p.2 with z | z
      · rw [z]; exact c
      · exact lo_tr z c
    · exact c
    · exfalso
      exact m4 (cc_edge (P := fun f => gAll f ∧ glo G f m) e0 e1 ⟨trivial, c⟩)
