/-! ax: the meaning without a bound on steps: one equation a label -/
abbrev ax_K : Type := Nat × List Value × List Value × ax_M × (Option Value × ax_M)
/-- it holds of all that answer as J does at some places, finitely many -/
def ax_Sup (J : ax_J) (P : ax_J → Prop) : Prop := ∃ S : List ax_K, (∀ q ∈ S, J q.1 q.2.1 q.2.2.1 q.2.2.2.1 = some q.2.2.2.2) ∧ ∀ J' : ax_J, (∀ q ∈ S, J' q.1 q.2.1 q.2.2.1 q.2.2.2.1 = some q.2.2.2.2) → P J'
theorem ax_Sup.pure {J : ax_J} {P : ax_J → Prop} (h : ∀ J', P J') : ax_Sup J P := ⟨[], fun q hq => by simp at hq, fun J' _ => h J'⟩
theorem ax_Sup.mono {J : ax_J} {P Q : ax_J → Prop} (h : ax_Sup J P) (hPQ : ∀ J', P J' → Q J') : ax_Sup J Q := by
  obtain ⟨S, h1, h2⟩ := h
  exact ⟨S, h1, fun J' hJ => hPQ J' (h2 J' hJ)⟩
theorem ax_Sup.one {J : ax_J} {l : Nat} {vs st : List Value} {μ : ax_M} {z : Option Value × ax_M} (h : J l vs st μ = some z) : ax_Sup J (fun J' => J' l vs st μ = some z) :=
  ⟨[(l, vs, st, μ, z)], fun q hq => by rw [List.mem_singleton.mp hq]; exact h, fun J' hJ => hJ _ List.mem_cons_self⟩
theorem ax_Sup.and {J : ax_J} {P Q : ax_J → Prop} (h1 : ax_Sup J P) (h2 : ax_Sup J Q) : ax_Sup J (fun J' => P J' ∧ Q J') := by
  obtain ⟨S, a1, a2⟩ := h1
  obtain ⟨T, b1, b2⟩ := h2
  refine ⟨S ++ T, fun q hq => ?_, fun J' hJ => ⟨a2 J' fun q hq => hJ q (List.mem_append_left _ hq), b2 J' fun q hq => hJ q (List.mem_append_right _ hq)⟩⟩
  rcases List.mem_append.mp hq with h | h
  · exact a1 q h
  · exact b1 q h
theorem ax_go_sup {J : ax_J} {lv : ax_L} {st : List Value} {μ : ax_M} {x : List Nat} {z : Option Value × ax_M} (h : ax_go J lv st μ x = some z) : ax_Sup J (fun J' => ax_go J' lv st μ x = some z) := by
  cases x with
  | nil => simp [ax_go] at h
  | cons l ks =>
    simp only [ax_go] at h ⊢
    cases hp : ax_pick lv ks with
    | none => rw [hp] at h; cases h
    | some vs => rw [hp] at h; exact ax_Sup.one h
theorem ax_sw_sup {J : ax_J} {lv : ax_L} {st : List Value} {μ : ax_M} {a : Int32} {d : List Nat} {z : Option Value × ax_M} : ∀ (ys : List (List Nat)), ax_sw J lv st μ a d ys = some z → ax_Sup J (fun J' => ax_sw J' lv st μ a d ys = some z)
  | [], h => ax_go_sup h
  | [] :: _, h => by simp [ax_sw] at h
  | (k :: y) :: ys, h => by
    rw [ax_sw] at h
    by_cases hk : a = Int32.ofNat k
    · rw [if_pos hk] at h
      exact (ax_go_sup h).mono fun J' h' => by rw [ax_sw, if_pos hk]; exact h'
    · rw [if_neg hk] at h
      exact (ax_sw_sup ys h).mono fun J' h' => by rw [ax_sw, if_neg hk]; exact h'
theorem ax_fit_eq {st : List Value} {r : ax_R} (h : (st.map fun v => v.category).sum ≤ 8) : ax_fit st r = r := if_pos h
theorem ax_call_sup {J : ax_J} {EN : Nat → Nat} {k : ax_J → List Value → ax_M → ax_R} {zn n rk : Nat} {g : List Value → ax_R → ax_R} {st : List Value} {μ : ax_M} {z : Option Value × ax_M} (hg : ∀ as r z, g as r = some z → r = some z ∧ ∀ r', r' = some z → g as r' = some z) (hk : ∀ st μ, k J st μ = some z → ax_Sup J (fun J' => k J' st μ = some z)) (h : ax_call J EN (k J) zn n rk g st μ = some z) : ax_Sup J (fun J' => ax_call J' EN (k J') zn n rk g st μ = some z) := by
  unfold ax_call at h
  cases hp : ax_pop n [] st with
  | none => rw [hp] at h; cases h
  | some q =>
    obtain ⟨as, st'⟩ := q
    rw [hp] at h
    obtain ⟨h1, hg2⟩ := hg _ _ _ h
    obtain ⟨hf, h2⟩ := ax_fit_some h1
    match rk, h2 with
    | 0, h2 =>
      obtain ⟨μ1, e1, e2⟩ := ax_b0_some h2
      exact ((ax_Sup.one e1).and (hk _ _ e2)).mono fun J' h' => by unfold ax_call; rw [hp]; exact hg2 _ (by rw [ax_fit_eq hf]; show ax_b0 _ _ = _; rw [h'.1]; exact h'.2)
    | 1, h2 =>
      obtain ⟨v, μ1, e1, e2⟩ := ax_b1_some h2
      exact ((ax_Sup.one e1).and (hk _ _ e2)).mono fun J' h' => by unfold ax_call; rw [hp]; exact hg2 _ (by rw [ax_fit_eq hf]; show ax_b1 _ _ = _; rw [h'.1]; exact h'.2)
    | 2, h2 =>
      obtain ⟨v, μ1, e1, e2⟩ := ax_b2_some h2
      exact ((ax_Sup.one e1).and (hk _ _ e2)).mono fun J' h' => by unfold ax_call; rw [hp]; exact hg2 _ (by rw [ax_fit_eq hf]; show ax_b2 _ _ = _; rw [h'.1]; exact h'.2)
    | 3, h2 =>
      rcases ax_b3_some h2 with ⟨v, μ1, e1, e2⟩ | ⟨μ1, e1, e2⟩
      · exact ((ax_Sup.one e1).and (hk _ _ e2)).mono fun J' h' => by unfold ax_call; rw [hp]; exact hg2 _ (by rw [ax_fit_eq hf]; show ax_b3 _ _ _ = _; rw [h'.1]; exact h'.2)
      · exact ((ax_Sup.one e1).and (hk _ _ e2)).mono fun J' h' => by unfold ax_call; rw [hp]; exact hg2 _ (by rw [ax_fit_eq hf]; show ax_b3 _ _ _ = _; rw [h'.1]; exact h'.2)
    | k + 4, h2 => cases h2
theorem ax_rc_g (sh : Nat → ax_C) (ci : Nat) : ∀ as r z, ax_rc sh ci as r = some z → r = some z ∧ ∀ r', r' = some z → ax_rc sh ci as r' = some z := by
  intro as r z h
  unfold ax_rc at h
  split at h
  case h_2 => cases h
  next a tl =>
  split at h
  case isFalse => cases h
  next hc => exact ⟨h, fun r' h' => by rw [ax_rc, if_pos hc]; exact h'⟩
set_option maxHeartbeats 4000000 in
theorem ax_ex_sup {sh : Nat → ax_C} {J : ax_J} {EN : Nat → Nat} : ∀ (is : List ax_I) (lv : ax_L) (st : List Value) (μ : ax_M) (z : Option Value × ax_M), ax_ex sh J EN is lv st μ = some z → ax_Sup J (fun J' => ax_ex sh J' EN is lv st μ = some z) := by
  intro is
  induction is with
  | nil => intro lv st μ z h; simp [ax_ex] at h
  | cons q is ih =>
    intro lv st μ z h
    obtain ⟨pc0, i, x⟩ := q
    rw [ax_ex] at h
    simp only [] at h
    cases i
    case iconst v =>
      simp only [ax_step] at h
      exact ih _ _ _ _ h
    case bipush v =>
      simp only [ax_step] at h
      exact ih _ _ _ _ h
    case sipush v =>
      simp only [ax_step] at h
      exact ih _ _ _ _ h
    case lconst v =>
      simp only [ax_step] at h
      exact ih _ _ _ _ h
    case aconst_null =>
      simp only [ax_step] at h
      exact ih _ _ _ _ h
    case ldc2_w v =>
      simp only [ax_step] at h
      split at h
      · exact ih _ _ _ _ h
      · cases h
    case ldc_w v =>
      simp only [ax_step] at h
      split at h
      · exact ih _ _ _ _ h
      · exact ih _ _ _ _ h
      · cases h
    case iload v =>
      simp only [ax_step] at h
      split at h
      · next hv => exact (ih _ _ _ _ h).mono fun J' h' => by simp only [ax_ex, ax_step, hv]; exact h'
      · cases h
    case iload_n v =>
      simp only [ax_step] at h
      split at h
      · next hv => exact (ih _ _ _ _ h).mono fun J' h' => by simp only [ax_ex, ax_step, hv]; exact h'
      · cases h
    case lload v =>
      simp only [ax_step] at h
      split at h
      · next hv => exact (ih _ _ _ _ h).mono fun J' h' => by simp only [ax_ex, ax_step, hv]; exact h'
      · cases h
    case lload_n v =>
      simp only [ax_step] at h
      split at h
      · next hv => exact (ih _ _ _ _ h).mono fun J' h' => by simp only [ax_ex, ax_step, hv]; exact h'
      · cases h
    case iinc v w =>
      simp only [ax_step] at h
      split at h
      · next hv => exact (ih _ _ _ _ h).mono fun J' h' => by simp only [ax_ex, ax_step, hv]; exact h'
      · cases h
    case aload v =>
      simp only [ax_step] at h
      split at h
      · next hv => exact (ih _ _ _ _ h).mono fun J' h' => by simp only [ax_ex, ax_step, hv]; exact h'
      · next hv => exact (ih _ _ _ _ h).mono fun J' h' => by simp only [ax_ex, ax_step, hv]; exact h'
      · cases h
    case aload_n v =>
      simp only [ax_step] at h
      split at h
      · next hv => exact (ih _ _ _ _ h).mono fun J' h' => by simp only [ax_ex, ax_step, hv]; exact h'
      · next hv => exact (ih _ _ _ _ h).mono fun J' h' => by simp only [ax_ex, ax_step, hv]; exact h'
      · cases h
    case istore v =>
      simp only [ax_step] at h
      split at h
      · exact ih _ _ _ _ h
      · cases h
    case istore_n v =>
      simp only [ax_step] at h
      split at h
      · exact ih _ _ _ _ h
      · cases h
    case lstore v =>
      simp only [ax_step] at h
      split at h
      · exact ih _ _ _ _ h
      · cases h
    case lstore_n v =>
      simp only [ax_step] at h
      split at h
      · exact ih _ _ _ _ h
      · cases h
    case iadd =>
      simp only [ax_step] at h
      split at h
      · exact ih _ _ _ _ h
      · cases h
    case isub =>
      simp only [ax_step] at h
      split at h
      · exact ih _ _ _ _ h
      · cases h
    case imul =>
      simp only [ax_step] at h
      split at h
      · exact ih _ _ _ _ h
      · cases h
    case iand =>
      simp only [ax_step] at h
      split at h
      · exact ih _ _ _ _ h
      · cases h
    case ior =>
      simp only [ax_step] at h
      split at h
      · exact ih _ _ _ _ h
      · cases h
    case ixor =>
      simp only [ax_step] at h
      split at h
      · exact ih _ _ _ _ h
      · cases h
    case ishl =>
      simp only [ax_step] at h
      split at h
      · exact ih _ _ _ _ h
      · cases h
    case ishr =>
      simp only [ax_step] at h
      split at h
      · exact ih _ _ _ _ h
      · cases h
    case iushr =>
      simp only [ax_step] at h
      split at h
      · exact ih _ _ _ _ h
      · cases h
    case ineg =>
      simp only [ax_step] at h
      split at h
      · exact ih _ _ _ _ h
      · cases h
    case ladd =>
      simp only [ax_step] at h
      split at h
      · exact ih _ _ _ _ h
      · cases h
    case lsub =>
      simp only [ax_step] at h
      split at h
      · exact ih _ _ _ _ h
      · cases h
    case lmul =>
      simp only [ax_step] at h
      split at h
      · exact ih _ _ _ _ h
      · cases h
    case lcmp =>
      simp only [ax_step] at h
      split at h
      · exact ih _ _ _ _ h
      · cases h
    case i2l =>
      simp only [ax_step] at h
      split at h
      · exact ih _ _ _ _ h
      · cases h
    case l2i =>
      simp only [ax_step] at h
      split at h
      · exact ih _ _ _ _ h
      · cases h
    case i2b =>
      simp only [ax_step] at h
      split at h
      · exact ih _ _ _ _ h
      · cases h
    case astore v =>
      simp only [ax_step] at h
      split at h
      · exact ih _ _ _ _ h
      · exact ih _ _ _ _ h
      · cases h
    case astore_n v =>
      simp only [ax_step] at h
      split at h
      · exact ih _ _ _ _ h
      · exact ih _ _ _ _ h
      · cases h
    case dup =>
      simp only [ax_step] at h
      split at h
      · split at h
        · next hc => exact (ih _ _ _ _ h).mono fun J' h' => by simp only [ax_ex, ax_step]; rw [if_pos hc]; exact h'
        · cases h
      · cases h
    case dup2 =>
      simp only [ax_step] at h
      split at h
      · split at h
        · next hc => exact (ih _ _ _ _ h).mono fun J' h' => by simp only [ax_ex, ax_step]; rw [if_pos hc]; exact h'
        · cases h
      · cases h
    case pop =>
      simp only [ax_step] at h
      split at h
      · split at h
        · next hc => exact (ih _ _ _ _ h).mono fun J' h' => by simp only [ax_ex, ax_step]; rw [if_pos hc]; exact h'
        · cases h
      · cases h
    case arraylength =>
      simp only [ax_step] at h
      split at h
      · split at h
        · next hc => exact (ih _ _ _ _ h).mono fun J' h' => by simp only [ax_ex, ax_step]; rw [if_pos hc]; exact h'
        · cases h
      · cases h
    case idiv =>
      simp only [ax_step] at h
      split at h
      · split at h
        · cases h
        · next hc => exact (ih _ _ _ _ h).mono fun J' h' => by simp only [ax_ex, ax_step]; rw [if_neg hc]; exact h'
      · cases h
    case irem =>
      simp only [ax_step] at h
      split at h
      · split at h
        · cases h
        · next hc => exact (ih _ _ _ _ h).mono fun J' h' => by simp only [ax_ex, ax_step]; rw [if_neg hc]; exact h'
      · cases h
    case ldiv =>
      simp only [ax_step] at h
      split at h
      · split at h
        · cases h
        · next hc => exact (ih _ _ _ _ h).mono fun J' h' => by simp only [ax_ex, ax_step]; rw [if_neg hc]; exact h'
      · cases h
    case lrem =>
      simp only [ax_step] at h
      split at h
      · split at h
        · cases h
        · next hc => exact (ih _ _ _ _ h).mono fun J' h' => by simp only [ax_ex, ax_step]; rw [if_neg hc]; exact h'
      · cases h
    case ifCond c off =>
      simp only [ax_step] at h
      split at h
      · split at h
        · split at h
          · next hc => exact (ax_go_sup h).mono fun J' h' => by simp only [ax_ex, ax_step]; rw [if_pos hc]; exact h'
          · next hc => exact (ih _ _ _ _ h).mono fun J' h' => by simp only [ax_ex, ax_step]; rw [if_neg hc]; exact h'
        · split at h
          · next hc => exact (ih _ _ _ _ h).mono fun J' h' => by simp only [ax_ex, ax_step]; rw [if_pos hc]; exact h'
          · next hc => exact (ax_go_sup h).mono fun J' h' => by simp only [ax_ex, ax_step]; rw [if_neg hc]; exact h'
        · split at h
          · next hc => exact (ax_go_sup h).mono fun J' h' => by simp only [ax_ex, ax_step]; rw [if_pos hc]; exact h'
          · next hc => exact (ih _ _ _ _ h).mono fun J' h' => by simp only [ax_ex, ax_step]; rw [if_neg hc]; exact h'
        · split at h
          · next hc => exact (ax_go_sup h).mono fun J' h' => by simp only [ax_ex, ax_step]; rw [if_pos hc]; exact h'
          · next hc => exact (ih _ _ _ _ h).mono fun J' h' => by simp only [ax_ex, ax_step]; rw [if_neg hc]; exact h'
        · split at h
          · next hc => exact (ax_go_sup h).mono fun J' h' => by simp only [ax_ex, ax_step]; rw [if_pos hc]; exact h'
          · next hc => exact (ih _ _ _ _ h).mono fun J' h' => by simp only [ax_ex, ax_step]; rw [if_neg hc]; exact h'
        · split at h
          · next hc => exact (ax_go_sup h).mono fun J' h' => by simp only [ax_ex, ax_step]; rw [if_pos hc]; exact h'
          · next hc => exact (ih _ _ _ _ h).mono fun J' h' => by simp only [ax_ex, ax_step]; rw [if_neg hc]; exact h'
      · cases h
    case if_icmp c off =>
      simp only [ax_step] at h
      split at h
      · split at h
        · split at h
          · next hc => exact (ax_go_sup h).mono fun J' h' => by simp only [ax_ex, ax_step]; rw [if_pos hc]; exact h'
          · next hc => exact (ih _ _ _ _ h).mono fun J' h' => by simp only [ax_ex, ax_step]; rw [if_neg hc]; exact h'
        · split at h
          · next hc => exact (ih _ _ _ _ h).mono fun J' h' => by simp only [ax_ex, ax_step]; rw [if_pos hc]; exact h'
          · next hc => exact (ax_go_sup h).mono fun J' h' => by simp only [ax_ex, ax_step]; rw [if_neg hc]; exact h'
        · split at h
          · next hc => exact (ax_go_sup h).mono fun J' h' => by simp only [ax_ex, ax_step]; rw [if_pos hc]; exact h'
          · next hc => exact (ih _ _ _ _ h).mono fun J' h' => by simp only [ax_ex, ax_step]; rw [if_neg hc]; exact h'
        · split at h
          · next hc => exact (ax_go_sup h).mono fun J' h' => by simp only [ax_ex, ax_step]; rw [if_pos hc]; exact h'
          · next hc => exact (ih _ _ _ _ h).mono fun J' h' => by simp only [ax_ex, ax_step]; rw [if_neg hc]; exact h'
        · split at h
          · next hc => exact (ax_go_sup h).mono fun J' h' => by simp only [ax_ex, ax_step]; rw [if_pos hc]; exact h'
          · next hc => exact (ih _ _ _ _ h).mono fun J' h' => by simp only [ax_ex, ax_step]; rw [if_neg hc]; exact h'
        · split at h
          · next hc => exact (ax_go_sup h).mono fun J' h' => by simp only [ax_ex, ax_step]; rw [if_pos hc]; exact h'
          · next hc => exact (ih _ _ _ _ h).mono fun J' h' => by simp only [ax_ex, ax_step]; rw [if_neg hc]; exact h'
      · cases h
    case ifnull off =>
      simp only [ax_step] at h
      split at h
      · exact ih _ _ _ _ h
      · exact ax_go_sup h
      · cases h
    case ifnonnull off =>
      simp only [ax_step] at h
      split at h
      · exact ax_go_sup h
      · exact ih _ _ _ _ h
      · cases h
    case goto off =>
      simp only [ax_step] at h
      split at h
      · exact ax_go_sup h
      · cases h
    case nop =>
      simp only [ax_step] at h
      split at h
      · exact ax_go_sup h
      · exact ax_Sup.pure fun J' => h
      · exact ax_Sup.pure fun J' => h
      · cases h
    case tableswitch a b c d =>
      simp only [ax_step] at h
      split at h
      · exact ax_sw_sup _ h
      · cases h
    case lookupswitch a b =>
      simp only [ax_step] at h
      split at h
      · exact ax_sw_sup _ h
      · cases h
    case getfield a =>
      simp only [ax_step] at h
      split at h
      · obtain ⟨v, h1, h2⟩ := ax_bo_some h
        exact (ih _ _ _ _ h2).mono fun J' h' => by simp only [ax_ex, ax_step, h1]; exact h'
      · cases h
    case putfield a =>
      simp only [ax_step] at h
      split at h
      · obtain ⟨v, h1, h2⟩ := ax_bo_some h
        exact (ih _ _ _ _ h2).mono fun J' h' => by simp only [ax_ex, ax_step, h1]; exact h'
      · cases h
    case iaload =>
      simp only [ax_step] at h
      split at h
      · obtain ⟨v, h1, h2⟩ := ax_bo_some h
        exact (ih _ _ _ _ h2).mono fun J' h' => by simp only [ax_ex, ax_step, h1]; exact h'
      · cases h
    case baload =>
      simp only [ax_step] at h
      split at h
      · obtain ⟨v, h1, h2⟩ := ax_bo_some h
        exact (ih _ _ _ _ h2).mono fun J' h' => by simp only [ax_ex, ax_step, h1]; exact h'
      · cases h
    case laload =>
      simp only [ax_step] at h
      split at h
      · obtain ⟨v, h1, h2⟩ := ax_bo_some h
        exact (ih _ _ _ _ h2).mono fun J' h' => by simp only [ax_ex, ax_step, h1]; exact h'
      · cases h
    case aaload =>
      simp only [ax_step] at h
      split at h
      · obtain ⟨v, h1, h2⟩ := ax_bo_some h
        exact (ih _ _ _ _ h2).mono fun J' h' => by simp only [ax_ex, ax_step, h1]; exact h'
      · cases h
    case iastore =>
      simp only [ax_step] at h
      split at h
      · obtain ⟨v, h1, h2⟩ := ax_bo_some h
        exact (ih _ _ _ _ h2).mono fun J' h' => by simp only [ax_ex, ax_step, h1]; exact h'
      · cases h
    case bastore =>
      simp only [ax_step] at h
      split at h
      · obtain ⟨v, h1, h2⟩ := ax_bo_some h
        exact (ih _ _ _ _ h2).mono fun J' h' => by simp only [ax_ex, ax_step, h1]; exact h'
      · cases h
    case lastore =>
      simp only [ax_step] at h
      split at h
      · obtain ⟨v, h1, h2⟩ := ax_bo_some h
        exact (ih _ _ _ _ h2).mono fun J' h' => by simp only [ax_ex, ax_step, h1]; exact h'
      · cases h
    case invokevirtual a =>
      simp only [ax_step] at h
      split at h
      · exact ax_call_sup (k := fun J st μ => ax_ex sh J EN is lv st μ) (ax_rc_g sh _) (fun st μ h => ih _ _ _ _ h) h
      · cases h
    case invokestatic a =>
      simp only [ax_step] at h
      split at h
      · obtain ⟨h1, h2⟩ := ax_fit_some h
        exact (ih _ _ _ _ h2).mono fun J' h' => by simp only [ax_ex, ax_step]; rw [ax_fit_eq h1]; exact h'
      · obtain ⟨h1, h2⟩ := ax_fit_some h
        exact (ih _ _ _ _ h2).mono fun J' h' => by simp only [ax_ex, ax_step]; rw [ax_fit_eq h1]; exact h'
      · obtain ⟨h1, h2⟩ := ax_fit_some h
        obtain ⟨v, h3, h4⟩ := ax_bo_some h2
        exact (ih _ _ _ _ h4).mono fun J' h' => by simp only [ax_ex, ax_step]; rw [ax_fit_eq h1, h3]; exact h'
      · next hn1 hn2 hn3 =>
        refine (ax_call_sup (k := fun J st μ => ax_ex sh J EN is lv st μ) (fun _ _ _ h => ⟨h, fun _ h => h⟩) (fun st μ h => ih _ _ _ _ h) h).mono fun J' h' => ?_
        simp only [ax_ex, ax_step]
        exact h'
      · cases h
    case ireturn =>
      simp only [ax_step] at h
      exact ax_Sup.pure fun J' => h
    case lreturn =>
      simp only [ax_step] at h
      exact ax_Sup.pure fun J' => h
    case areturn =>
      simp only [ax_step] at h
      exact ax_Sup.pure fun J' => h
    case return_ =>
      simp only [ax_step] at h
      exact ax_Sup.pure fun J' => h
    all_goals (exfalso; simp [ax_step] at h)
theorem ax_ex_mono {sh : Nat → ax_C} {J J' : ax_J} {EN : Nat → Nat} (hJ : ∀ l vs st μ z, J l vs st μ = some z → J' l vs st μ = some z) {is : List ax_I} {lv : ax_L} {st : List Value} {μ : ax_M} {z : Option Value × ax_M} (h : ax_ex sh J EN is lv st μ = some z) : ax_ex sh J' EN is lv st μ = some z := by
  obtain ⟨S, h1, h2⟩ := ax_ex_sup is lv st μ z h
  exact h2 J' fun q hq => hJ _ _ _ _ _ (h1 q hq)
theorem ax_ev_mono {sh : Nat → ax_C} {BL : Nat → ax_B} {EN : Nat → Nat} : ∀ (n : Nat) l vs st μ z, ax_ev sh BL EN n l vs st μ = some z → ax_ev sh BL EN (n + 1) l vs st μ = some z
  | 0, l, vs, st, μ, z, h => by simp [ax_ev] at h
  | n + 1, l, vs, st, μ, z, h => by
    rw [ax_ev] at h ⊢
    cases hl : ax_l0 (BL l).2.2.1 vs with
    | none => rw [hl] at h; cases h
    | some lv =>
      rw [hl] at h
      exact ax_ex_mono (ax_ev_mono n) h
theorem ax_ev_le {sh : Nat → ax_C} {BL : Nat → ax_B} {EN : Nat → Nat} {n m : Nat} (h : n ≤ m) {l : Nat} {vs st : List Value} {μ : ax_M} {z : Option Value × ax_M} (hz : ax_ev sh BL EN n l vs st μ = some z) : ax_ev sh BL EN m l vs st μ = some z := by
  induction h with
  | refl => exact hz
  | step _ ih => exact ax_ev_mono _ _ _ _ _ _ ih
/-- the meaning of a label -/
noncomputable def ax_at (sh : Nat → ax_C) (BL : Nat → ax_B) (EN : Nat → Nat) : ax_J := fun l vs st μ => Classical.epsilon (fun r : ax_R => (∃ n z, ax_ev sh BL EN n l vs st μ = some z ∧ r = some z) ∨ ((∀ n, ax_ev sh BL EN n l vs st μ = none) ∧ r = none))
theorem ax_at_iff {sh : Nat → ax_C} {BL : Nat → ax_B} {EN : Nat → Nat} {l : Nat} {vs st : List Value} {μ : ax_M} {z : Option Value × ax_M} : ax_at sh BL EN l vs st μ = some z ↔ ∃ n, ax_ev sh BL EN n l vs st μ = some z := by
  have hex : ∃ r : ax_R, (∃ n z, ax_ev sh BL EN n l vs st μ = some z ∧ r = some z) ∨ ((∀ n, ax_ev sh BL EN n l vs st μ = none) ∧ r = none) := by
    by_cases h : ∃ n z, ax_ev sh BL EN n l vs st μ = some z
    · obtain ⟨n, z, h⟩ := h
      exact ⟨some z, Or.inl ⟨n, z, h, rfl⟩⟩
    · refine ⟨none, Or.inr ⟨fun n => ?_, rfl⟩⟩
      cases hn : ax_ev sh BL EN n l vs st μ with
      | none => rfl
      | some z => exact absurd ⟨n, z, hn⟩ h
  have hs := Classical.epsilon_spec hex
  have he : ax_at sh BL EN l vs st μ = Classical.epsilon (fun r : ax_R => (∃ n z, ax_ev sh BL EN n l vs st μ = some z ∧ r = some z) ∨ ((∀ n, ax_ev sh BL EN n l vs st μ = none) ∧ r = none)) := rfl
  rw [← he] at hs
  constructor
  · intro h
    rcases hs with ⟨n, w, h1, h2⟩ | ⟨-, h2⟩
    · rw [h] at h2
      cases h2
      exact ⟨n, h1⟩
    · rw [h] at h2; cases h2
  · rintro ⟨n, h⟩
    rcases hs with ⟨m, w, h1, h2⟩ | ⟨h1, -⟩
    · have a := ax_ev_le (Nat.le_max_left n m) h
      have b := ax_ev_le (Nat.le_max_right n m) h1
      rw [a] at b
      rw [h2, ← b]
    · rw [h1 n] at h; cases h
theorem ax_at_eq (sh : Nat → ax_C) (BL : Nat → ax_B) (EN : Nat → Nat) (l : Nat) (vs st : List Value) (μ : ax_M) : ax_at sh BL EN l vs st μ = match ax_l0 (BL l).2.2.1 vs with
    | some lv => ax_ex sh (ax_at sh BL EN) EN (BL l).2.2.2 lv st μ
    | none => none := by
  apply Option.ext
  intro z
  rw [ax_at_iff]
  cases hl : ax_l0 (BL l).2.2.1 vs with
  | none =>
    constructor
    · rintro ⟨n, h⟩
      cases n with
      | zero => simp [ax_ev] at h
      | succ n => rw [ax_ev, hl] at h; cases h
    · intro h; cases h
  | some lv =>
    constructor
    · rintro ⟨n, h⟩
      cases n with
      | zero => simp [ax_ev] at h
      | succ n =>
        rw [ax_ev, hl] at h
        exact ax_ex_mono (fun l vs st μ z h => ax_at_iff.mpr ⟨n, h⟩) h
    · intro h
      obtain ⟨S, h1, h2⟩ := ax_ex_sup _ _ _ _ _ h
      have key : ∀ S : List ax_K, (∀ q ∈ S, ax_at sh BL EN q.1 q.2.1 q.2.2.1 q.2.2.2.1 = some q.2.2.2.2) → ∃ n, ∀ q ∈ S, ax_ev sh BL EN n q.1 q.2.1 q.2.2.1 q.2.2.2.1 = some q.2.2.2.2 := by
        intro S
        induction S with
        | nil => intro _; exact ⟨0, fun q hq => by simp at hq⟩
        | cons q S ih =>
          intro hq
          obtain ⟨n, hn⟩ := ih fun r hr => hq r (List.mem_cons_of_mem _ hr)
          obtain ⟨m, hm⟩ := ax_at_iff.mp (hq q List.mem_cons_self)
          refine ⟨max n m, fun r hr => ?_⟩
          rcases List.mem_cons.mp hr with rfl | hr
          · exact ax_ev_le (Nat.le_max_right n m) hm
          · exact ax_ev_le (Nat.le_max_left n m) (hn r hr)
      obtain ⟨n, hn⟩ := key S h1
      refine ⟨n + 1, ?_⟩
      rw [ax_ev, hl]
      exact h2 _ hn
