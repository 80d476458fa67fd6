/-! q: the law's pairs of calls -/
def laP (fC fM : Nat) (aC aM : List Value) (ν : ax_M) : Prop := ∃ r ν1 ν2, aJ fC aC [] ν = some (some (.int r), ν1) ∧ aJ fM aM [] ν1 = some (some (.int r), ν2) ∧ laI ν2
theorem la_pair {G : gG} {S : gS} {U : List gU} {K : qK} {fC fM : Nat} {aC aM : List Value} {ν : ax_M} (hp : pQ G S U K) (h : qF G S U K fC fM aC aM) (hC : iC G S U K ν) (hM : iM G S U K ν) : laP fC fM aC aM ν := by
  obtain ⟨r, G', S', U', K', hp', h1, h2⟩ := h
  obtain ⟨ν1, a1, a2, a3⟩ := h1 ν hC
  obtain ⟨ν2, b1, b2, b3⟩ := h2 ν1 (iM_e (pQ_K hp).1 a3.2 a3.1 hM)
  exact ⟨r, ν1, ν2, a1, b1, G', S', U', K', hp', iC_e b3 a2, b2⟩
/-- a pair that may throw: q says what the class sees before it throws -/
def laT (fC fM : Nat) (aC aM : List Value) (q : Prop) (ν : ax_M) : Prop := (∃ r ν1 ν2, aJ fC aC [] ν = some (some (.int r), ν1) ∧ aJ fM aM [] ν1 = some (some (.int r), ν2) ∧ ν2.1 207 0 = 0 ∧ laI ν2) ∨ (q ∧ ∃ r ν2, aJ fM aM [] ν = some (some (.int r), ν2) ∧ ν2.1 207 0 = 1 ∧ laI ν2)
theorem la_pairT {c q : Prop} {G : gG} {S : gS} {U : List gU} {K : qK} {fC fM : Nat} {aC aM : List Value} {ν : ax_M} (hp : pQ G S U K) (h : qCt c G S U K fC fM aC aM) (hC : iC G S U K ν) (hM : iM G S U K ν) (hq : ¬ c → q) : laT fC fM aC aM q ν := by
  by_cases hc : c
  · obtain ⟨r, h1, h2⟩ := h.1 hc
    obtain ⟨ν1, a1, a2, a3⟩ := h1 ν hC
    obtain ⟨ν2, b1, b2, b3, b4⟩ := h2 ν1 (iM_e (pQ_K hp).1 a3.2 a3.1 hM)
    exact Or.inl ⟨r, ν1, ν2, a1, b1, b4, G, S, U, K, hp, iC_e b3 a2, b2⟩
  · obtain ⟨ν2, r, b1, b2, b3, b4⟩ := h.2 hc ν hM
    exact Or.inr ⟨hq hc, r, ν2, b1, b4, G, S, U, K, hp, iC_e b3 hC, b2⟩
theorem la_zI (x : Int32) : ∃ a : Int, zR a ∧ x = zI a := zI_of x
theorem LP_wake {ν : ax_M} (h : laI ν) (a : Int32) : laP 692 411 [.ref 0, .int a] [.ref 207, .int a] ν := by
  obtain ⟨G, S, U, K, hp, hC, hM⟩ := h
  exact la_pair hp (L_wake hp a) hC hM
theorem LP_take {ν : ax_M} (h : laI ν) (a : Int32) : laP 695 414 [.ref 0, .int a] [.ref 207, .int a] ν := by
  obtain ⟨G, S, U, K, hp, hC, hM⟩ := h
  exact la_pair hp (L_take hp a) hC hM
theorem LP_choice {ν : ax_M} (h : laI ν) : laP 708 427 [.ref 0] [.ref 207] ν := by
  obtain ⟨G, S, U, K, hp, hC, hM⟩ := h
  exact la_pair hp (L_choice hp) hC hM
theorem LP_weigh {ν : ax_M} (h : laI ν) (a : Int32) (b : Int32) : laP 709 432 [.ref 0, .int a, .int b] [.ref 207, .int a, .int b] ν := by
  obtain ⟨G, S, U, K, hp, hC, hM⟩ := h
  exact la_pair hp (L_weigh hp a b) hC hM
theorem LP_again {ν : ax_M} (h : laI ν) : laP 714 437 [.ref 0] [.ref 207] ν := by
  obtain ⟨G, S, U, K, hp, hC, hM⟩ := h
  exact la_pair hp (L_again hp) hC hM
theorem LP_undo {ν : ax_M} (h : laI ν) : laP 716 439 [.ref 0] [.ref 207] ν := by
  obtain ⟨G, S, U, K, hp, hC, hM⟩ := h
  exact la_pair hp (L_undo hp) hC hM
theorem LP_rounds {ν : ax_M} (h : laI ν) (a : Int32) : laP 698 417 [.ref 0, .int a] [.ref 207, .int a] ν := by
  obtain ⟨G, S, U, K, hp, hC, hM⟩ := h
  exact la_pair hp (L_rounds hp a) hC hM
theorem LP_steps {ν : ax_M} (h : laI ν) (a : Int32) : laP 704 423 [.ref 0, .int a] [.ref 207, .int a] ν := by
  obtain ⟨G, S, U, K, hp, hC, hM⟩ := h
  exact la_pair hp (L_steps hp a) hC hM
theorem LP_until {ν : ax_M} (h : laI ν) : laP 765 563 [.ref 0] [.ref 207] ν := by
  obtain ⟨G, S, U, K, hp, hC, hM⟩ := h
  exact la_pair hp (L_until hp) hC hM
theorem LP_starts {ν : ax_M} (h : laI ν) (a : Int32) : laP 766 565 [.ref 0, .int a] [.ref 207, .int a] ν := by
  obtain ⟨G, S, U, K, hp, hC, hM⟩ := h
  exact la_pair hp (L_starts hp a) hC hM
theorem LP_starter {ν : ax_M} (h : laI ν) : laP 769 567 [.ref 0] [.ref 207] ν := by
  obtain ⟨G, S, U, K, hp, hC, hM⟩ := h
  exact la_pair hp (L_starter hp) hC hM
theorem LP_cores {ν : ax_M} (h : laI ν) (a : Int32) (b : Int32) (c : Int32) : laP 774 582 [.ref 0, .int a, .int b, .int c] [.ref 207, .int a, .int b, .int c] ν := by
  obtain ⟨G, S, U, K, hp, hC, hM⟩ := h
  exact la_pair hp (L_cores hp a b c) hC hM
theorem LP_drawn {ν : ax_M} (h : laI ν) (a : Int32) (b : Int32) : laP 780 595 [.ref 0, .int a, .int b] [.ref 207, .int a, .int b] ν := by
  obtain ⟨G, S, U, K, hp, hC, hM⟩ := h
  exact la_pair hp (L_drawn hp a b) hC hM
theorem LP_onWay {ν : ax_M} (h : laI ν) (a : Int32) : laP 683 388 [.ref 0, .int a] [.ref 207, .int a] ν := by
  obtain ⟨G, S, U, K, hp, hC, hM⟩ := h
  exact la_pair hp (L_onWay hp a) hC hM
theorem LP_waits {ν : ax_M} (h : laI ν) (a : Int32) (b : Int32) (c : Int32) : laP 686 391 [.ref 0, .int a, .int b, .int c] [.ref 207, .int a, .int b, .int c] ν := by
  obtain ⟨G, S, U, K, hp, hC, hM⟩ := h
  exact la_pair hp (L_waits hp a b c) hC hM
theorem LP_sent {ν : ax_M} (h : laI ν) (a : Int32) : laP 732 463 [.ref 0, .int a] [.ref 207, .int a] ν := by
  obtain ⟨G, S, U, K, hp, hC, hM⟩ := h
  exact la_pair hp (L_sent hp a) hC hM
theorem LP_limit {ν : ax_M} (h : laI ν) : laP 733 468 [.ref 0] [.ref 207] ν := by
  obtain ⟨G, S, U, K, hp, hC, hM⟩ := h
  exact la_pair hp (L_limit hp) hC hM
theorem LP_least {ν : ax_M} (h : laI ν) (a : Int32) : laP 744 522 [.ref 0, .int a] [.ref 207, .int a] ν := by
  obtain ⟨G, S, U, K, hp, hC, hM⟩ := h
  exact la_pair hp (L_least hp a) hC hM
theorem LP_heaviest {ν : ax_M} (h : laI ν) (a : Int32) (b : Int32) : laP 750 527 [.ref 0, .int a, .int b] [.ref 207, .int a, .int b] ν := by
  obtain ⟨G, S, U, K, hp, hC, hM⟩ := h
  exact la_pair hp (L_heaviest hp a b) hC hM
theorem LP_slack {ν : ax_M} (h : laI ν) (a : Int32) : laP 753 535 [.ref 0, .int a] [.ref 207, .int a] ν := by
  obtain ⟨G, S, U, K, hp, hC, hM⟩ := h
  exact la_pair hp (L_slack hp a) hC hM
theorem LP_next {ν : ax_M} (h : laI ν) : laP 756 542 [.ref 0] [.ref 207] ν := by
  obtain ⟨G, S, U, K, hp, hC, hM⟩ := h
  exact la_pair hp (L_next hp) hC hM
theorem LP_now {ν : ax_M} (h : laI ν) (a : Int32) : laP 719 441 [.ref 0, .int a] [.ref 207, .int a] ν := by
  obtain ⟨G, S, U, K, hp, hC, hM⟩ := h
  exact la_pair hp (L_now hp a) hC hM
theorem LP_spell {ν : ax_M} (h : laI ν) (a : Int32) : laP 790 623 [.ref 0, .int a] [.ref 207, .int a] ν := by
  obtain ⟨G, S, U, K, hp, hC, hM⟩ := h
  exact la_pair hp (L_spell hp a) hC hM
theorem LP_fault {ν : ax_M} (h : laI ν) (a : Int32) : laP 660 172 [.ref 0, .int a] [.ref 207, .int a] ν := by
  obtain ⟨G, S, U, K, hp, hC, hM⟩ := h
  exact la_pair hp (f_fault hp a) hC hM
theorem LP_nextBy {ν : ax_M} (h : laI ν) (a : Int32) : laP 761 558 [.ref 0, .int a] [.ref 207, .int a] ν := by
  obtain ⟨G, S, U, K, hp, hC, hM⟩ := h
  exact la_pair hp (f_nextBy hp a) hC hM
theorem LP_count {ν : ax_M} (h : laI ν) (a : Int32) : laP 798 645 [.ref 0, .int a] [.ref 207, .int a] ν := by
  obtain ⟨G, S, U, K, hp, hC, hM⟩ := h
  exact la_pair hp (f_count hp a) hC hM
theorem LP_byteAt {ν : ax_M} (h : laI ν) (a : Int32) : laP 792 629 [.ref 0, .int a] [.ref 207, .int a] ν := by
  obtain ⟨G, S, U, K, hp, hC, hM⟩ := h
  exact la_pair hp (f_byteAt hp a) hC hM
theorem LP_end {ν : ax_M} (h : laI ν) (a : Int32) : laP 653 10 [.ref 0, .int a] [.ref 207, .int a] ν := by
  obtain ⟨G, S, U, K, hp, hC, hM⟩ := h
  exact la_pair hp (f_end hp a) hC hM
theorem LP_feed {ν : ax_M} (h : laI ν) (a : Int32) (b : Int32) (c : Int32) (d : Int32) (e : Int32) : laP 651 8 [.ref 0, .int a, .int b, .int c, .int d, .int e] [.ref 207, .int a, .int b, .int c, .int d, .int e] ν := by
  obtain ⟨G, S, U, K, hp, hC, hM⟩ := h
  exact la_pair hp (f_feed hp a b c d e) hC hM
theorem LP_image {ν : ax_M} (h : laI ν) (a : Int32) : laP 793 632 [.ref 0, .int a] [.ref 207, .int a] ν := by
  obtain ⟨G, S, U, K, hp, hC, hM⟩ := h
  exact la_pair hp (q_image hp a) hC hM
theorem LP_restore {ν : ax_M} (h : laI ν) (a : Int32) : laP 795 638 [.ref 0, .int a] [.ref 207, .int a] ν := by
  obtain ⟨G, S, U, K, hp, hC, hM⟩ := h
  exact la_pair hp (q_restore hp a) hC hM
theorem LP_net {ν : ax_M} (h : laI ν) : laP 656 122 [.ref 0] [.ref 207] ν := by
  obtain ⟨G, S, U, K, hp, hC, hM⟩ := h
  exact la_pair hp (q_net hp) hC hM
theorem LP_rule {ν : ax_M} (h : laI ν) : laP 658 163 [.ref 0] [.ref 207] ν := by
  obtain ⟨G, S, U, K, hp, hC, hM⟩ := h
  exact la_pair hp (q_rule hp) hC hM
theorem LP_node {ν : ax_M} (h : laI ν) (a b : Int32) : laT 666 365 [.ref 0, .int a, .int b] [.ref 207, .int a, .int b] (aJ 808 [.ref 0, .int a] [] ν = some (some (.int 0), ν) ∨ (aJ 808 [.ref 0, .int a] [] ν = some (some (.int 1), ν) ∧ (b < 0 ∨ 11 ≤ b))) ν := by
  obtain ⟨G, S, U, K, hp, hC, hM⟩ := h
  obtain ⟨x, hx, rfl⟩ := la_zI a
  obtain ⟨y, hy, rfl⟩ := la_zI b
  refine la_pairT hp (L_node hp hC hx hy) hC hM (fun hc => ?_)
  have hk := L_isNode hp hC hx
  by_cases q : 0 ≤ x ∧ x < gN G
  · rw [decide_eq_true q] at hk
    refine Or.inr ⟨hk, ?_⟩
    by_cases y0 : y < 0
    · exact Or.inl ((zI_lt (b := 0) hy (zR_of (by omega))).mpr y0)
    · exact Or.inr ((zI_le (a := 11) (zR_of (by omega)) hy).mpr (by omega))
  · rw [decide_eq_false q] at hk
    exact Or.inl hk
theorem LP_edge {ν : ax_M} (h : laI ν) (a b : Int32) : laT 669 373 [.ref 0, .int a, .int b] [.ref 207, .int a, .int b] (aJ 811 [.ref 0, .int a] [] ν = some (some (.int 0), ν) ∨ (aJ 811 [.ref 0, .int a] [] ν = some (some (.int 1), ν) ∧ (b < 0 ∨ 6 ≤ b))) ν := by
  obtain ⟨G, S, U, K, hp, hC, hM⟩ := h
  obtain ⟨x, hx, rfl⟩ := la_zI a
  obtain ⟨y, hy, rfl⟩ := la_zI b
  refine la_pairT hp (L_edge hp hx hy) hC hM (fun hc => ?_)
  have hk := L_isEdge hp hC hx
  by_cases q : 0 ≤ x ∧ x < gE G
  · rw [decide_eq_true q] at hk
    refine Or.inr ⟨hk, ?_⟩
    by_cases y0 : y < 0
    · exact Or.inl ((zI_lt (b := 0) hy (zR_of (by omega))).mpr y0)
    · exact Or.inr ((zI_le (a := 6) (zR_of (by omega)) hy).mpr (by omega))
  · rw [decide_eq_false q] at hk
    exact Or.inl hk
theorem LP_letter {ν : ax_M} (h : laI ν) (a b : Int32) : laT 680 384 [.ref 0, .int a, .int b] [.ref 207, .int a, .int b] (aJ 817 [.ref 0, .int a] [] ν = some (some (.int 0), ν) ∨ (aJ 817 [.ref 0, .int a] [] ν = some (some (.int 1), ν) ∧ (b < 0 ∨ 7 ≤ b))) ν := by
  obtain ⟨G, S, U, K, hp, hC, hM⟩ := h
  obtain ⟨x, hx, rfl⟩ := la_zI a
  obtain ⟨y, hy, rfl⟩ := la_zI b
  refine la_pairT hp (L_letter hp hx hy) hC hM (fun hc => ?_)
  have hk := L_isLetter hp hC hx
  by_cases q : 0 ≤ x ∧ x < gnL S
  · rw [decide_eq_true q] at hk
    refine Or.inr ⟨hk, ?_⟩
    by_cases y0 : y < 0
    · exact Or.inl ((zI_lt (b := 0) hy (zR_of (by omega))).mpr y0)
    · exact Or.inr ((zI_le (a := 7) (zR_of (by omega)) hy).mpr (by omega))
  · rw [decide_eq_false q] at hk
    exact Or.inl hk
theorem LP_fragment {ν : ax_M} (h : laI ν) (a b : Int32) : laT 736 488 [.ref 0, .int a, .int b] [.ref 207, .int a, .int b] (aJ 808 [.ref 0, .int a] [] ν = some (some (.int 0), ν) ∨ (aJ 808 [.ref 0, .int a] [] ν = some (some (.int 1), ν) ∧ (b < 0 ∨ 5 ≤ b))) ν := by
  obtain ⟨G, S, U, K, hp, hC, hM⟩ := h
  obtain ⟨x, hx, rfl⟩ := la_zI a
  obtain ⟨y, hy, rfl⟩ := la_zI b
  refine la_pairT hp (L_fragment hp hx hy) hC hM (fun hc => ?_)
  have hk := L_isNode hp hC hx
  by_cases q : 0 ≤ x ∧ x < gN G
  · rw [decide_eq_true q] at hk
    refine Or.inr ⟨hk, ?_⟩
    by_cases y0 : y < 0
    · exact Or.inl ((zI_lt (b := 0) hy (zR_of (by omega))).mpr y0)
    · exact Or.inr ((zI_le (a := 5) (zR_of (by omega)) hy).mpr (by omega))
  · rw [decide_eq_false q] at hk
    exact Or.inl hk
