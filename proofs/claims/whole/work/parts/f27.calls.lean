/-! p: every call of the law, in either phase -/
theorem qCt_0 {c : Prop} {G : gG} {S : gS} {U : List gU} {K : qK} {fC fM : Nat} {aC aM : List Value} (hK : rok (kR K)) (hc : ¬ c) (h2 : ∀ ν ν0, ν0 = ax_uD ν 207 0 0 → iM G S U K ν0 → aJ fM aM [] ν = some (some (.int 0), ax_uD ν0 207 0 1)) : qCt c G S U K fC fM aC aM := by
  refine ⟨fun h => absurd h hc, fun _ ν hi => ?_⟩
  obtain ⟨ν0, e0, hi0, f0⟩ := iM_th hK hi
  exact ⟨ax_uD ν0 207 0 1, 0, h2 ν ν0 e0 hi0, iM_u0 hK hi0, frM_t f0 frM_u0, uD_at⟩
theorem f0_node {K : qK} (hK : kOK K) {n w : Int} (hn : zR n) : qCt ((0 ≤ n ∧ n < gN G00) ∧ 0 ≤ w ∧ w < 11) G00 S00 [] K 666 365 [.ref 0, .int (zI n), .int (zI w)] [.ref 207, .int (zI n), .int (zI w)] := by
  have h0 : gN G00 = 0 := rfl
  refine qCt_0 hK.1 (fun h => by omega) (fun ν ν0 e0 hi0 => ?_)
  rw [jl_365, ← e0, q_rin G00_ok hi0.1 hn, z_b1, show decide (0 ≤ n ∧ n < gN G00) = false from decide_eq_false (by omega), if_pos (by decide), jl_366, q_rf, z_b1]
theorem f0_edge {K : qK} (hK : kOK K) {e w : Int} (he : zR e) : qCt ((0 ≤ e ∧ e < gE G00) ∧ 0 ≤ w ∧ w < 6) G00 S00 [] K 669 373 [.ref 0, .int (zI e), .int (zI w)] [.ref 207, .int (zI e), .int (zI w)] := by
  have h0 : gE G00 = 0 := rfl
  refine qCt_0 hK.1 (fun h => by omega) (fun ν ν0 e0 hi0 => ?_)
  rw [jl_373, ← e0, q_rie G00_ok hi0.1 he, z_b1, show decide (0 ≤ e ∧ e < gE G00) = false from decide_eq_false (by omega), if_pos (by decide), q_rf, z_b1]
theorem f0_letter {K : qK} (hK : kOK K) {k w : Int} (hk : zR k) : qCt ((0 ≤ k ∧ k < gnL S00) ∧ 0 ≤ w ∧ w < 7) G00 S00 [] K 680 384 [.ref 0, .int (zI k), .int (zI w)] [.ref 207, .int (zI k), .int (zI w)] := by
  have h0 : gnL S00 = 0 := rfl
  refine qCt_0 hK.1 (fun h => by omega) (fun ν ν0 e0 hi0 => ?_)
  rw [jl_384, ← e0]
  simp only [zI_lit, q_rL hi0.1, z_bo, zI_sub]
  rw [mz_isIn hk (zR_of (by omega)) (zR_of (by omega)), z_b1, show decide (0 ≤ k ∧ k ≤ gnL S00 - 1) = false from decide_eq_false (by omega), if_pos (by decide), jl_385, q_rf, z_b1, jl_386]
  rfl
theorem f0_fragment {K : qK} (hK : kOK K) {n w : Int} (hn : zR n) : qCt ((0 ≤ n ∧ n < gN G00) ∧ 0 ≤ w ∧ w < 5) G00 S00 [] K 736 488 [.ref 0, .int (zI n), .int (zI w)] [.ref 207, .int (zI n), .int (zI w)] := by
  have h0 : gN G00 = 0 := rfl
  refine qCt_0 hK.1 (fun h => by omega) (fun ν ν0 e0 hi0 => ?_)
  rw [jl_488, ← e0, q_rin G00_ok hi0.1 hn, z_b1, show decide (0 ≤ n ∧ n < gN G00) = false from decide_eq_false (by omega), if_pos (by decide), jl_489, q_rf, z_b1]
theorem L_node {G : gG} {S : gS} {U : List gU} {K : qK} {ν : ax_M} (hp : pQ G S U K) (hi : iC G S U K ν) {n w : Int} (hn : zR n) (hw : zR w) : qCt ((0 ≤ n ∧ n < gN G) ∧ 0 ≤ w ∧ w < 11) G S U K 666 365 [.ref 0, .int (zI n), .int (zI w)] [.ref 207, .int (zI n), .int (zI w)] := by
  rcases hp with h | ⟨rfl, rfl, rfl, hK, hN⟩
  · obtain ⟨⟨X, _, x⟩, _⟩ := iC_R h.2.2.1 hi
    exact q_nodeC h ⟨X, x⟩ hn hw
  · exact f0_node hK hn
theorem L_edge {G : gG} {S : gS} {U : List gU} {K : qK} (hp : pQ G S U K) {e w : Int} (he : zR e) (hw : zR w) : qCt ((0 ≤ e ∧ e < gE G) ∧ 0 ≤ w ∧ w < 6) G S U K 669 373 [.ref 0, .int (zI e), .int (zI w)] [.ref 207, .int (zI e), .int (zI w)] := by
  rcases hp with h | ⟨rfl, rfl, rfl, hK, hN⟩
  · exact q_edgeC h he hw
  · exact f0_edge hK he
theorem L_letter {G : gG} {S : gS} {U : List gU} {K : qK} (hp : pQ G S U K) {k w : Int} (hk : zR k) (hw : zR w) : qCt ((0 ≤ k ∧ k < gnL S) ∧ 0 ≤ w ∧ w < 7) G S U K 680 384 [.ref 0, .int (zI k), .int (zI w)] [.ref 207, .int (zI k), .int (zI w)] := by
  rcases hp with h | ⟨rfl, rfl, rfl, hK, hN⟩
  · exact q_letterC h hk hw
  · exact f0_letter hK hk
theorem L_fragment {G : gG} {S : gS} {U : List gU} {K : qK} (hp : pQ G S U K) {n w : Int} (hn : zR n) (hw : zR w) : qCt ((0 ≤ n ∧ n < gN G) ∧ 0 ≤ w ∧ w < 5) G S U K 736 488 [.ref 0, .int (zI n), .int (zI w)] [.ref 207, .int (zI n), .int (zI w)] := by
  rcases hp with h | ⟨rfl, rfl, rfl, hK, hN⟩
  · exact q_fragC h hn hw
  · exact f0_fragment hK hn
/-- what the class asks before it throws -/
theorem L_isNode {G : gG} {S : gS} {U : List gU} {K : qK} {ν : ax_M} (hp : pQ G S U K) (hi : iC G S U K ν) {n : Int} (hn : zR n) : aJ 808 [.ref 0, .int (zI n)] [] ν = some (some (.int (zB (decide (0 ≤ n ∧ n < gN G)))), ν) := by
  obtain ⟨⟨X, x1, _⟩, _, _⟩ := hi
  exact q_in (pQ_g hp) x1 hn
theorem L_isEdge {G : gG} {S : gS} {U : List gU} {K : qK} {ν : ax_M} (hp : pQ G S U K) (hi : iC G S U K ν) {e : Int} (he : zR e) : aJ 811 [.ref 0, .int (zI e)] [] ν = some (some (.int (zB (decide (0 ≤ e ∧ e < gE G)))), ν) := by
  obtain ⟨⟨X, x1, _⟩, _, _⟩ := hi
  exact q_ie (pQ_g hp) x1 he
theorem L_isLetter {G : gG} {S : gS} {U : List gU} {K : qK} {ν : ax_M} (hp : pQ G S U K) (hi : iC G S U K ν) {k : Int} (hk : zR k) : aJ 817 [.ref 0, .int (zI k)] [] ν = some (some (.int (zB (decide (0 ≤ k ∧ k < gnL S)))), ν) := by
  obtain ⟨⟨X, x1, _⟩, _, _⟩ := hi
  have := pQ_L hp
  exact q_il this.1 (by omega) x1 hk
theorem L_wake {G : gG} {S : gS} {U : List gU} {K : qK} (hp : pQ G S U K) (a : Int32) : qF G S U K 692 411 [.ref 0, .int a] [.ref 207, .int a] := by
  rcases hp with h | ⟨rfl, rfl, rfl, hK, hN⟩
  · exact qF_1 (q_wake h a)
  · exact f0_wake hK hN a
theorem L_take {G : gG} {S : gS} {U : List gU} {K : qK} (hp : pQ G S U K) (a : Int32) : qF G S U K 695 414 [.ref 0, .int a] [.ref 207, .int a] := by
  rcases hp with h | ⟨rfl, rfl, rfl, hK, hN⟩
  · exact qF_1 (q_take h a)
  · exact f0_take hK hN a
theorem L_choice {G : gG} {S : gS} {U : List gU} {K : qK} (hp : pQ G S U K) : qF G S U K 708 427 [.ref 0] [.ref 207] := by
  rcases hp with h | ⟨rfl, rfl, rfl, hK, hN⟩
  · exact qF_1 (q_choice h)
  · exact f0_choice hK hN
theorem L_weigh {G : gG} {S : gS} {U : List gU} {K : qK} (hp : pQ G S U K) (a : Int32) (b : Int32) : qF G S U K 709 432 [.ref 0, .int a, .int b] [.ref 207, .int a, .int b] := by
  rcases hp with h | ⟨rfl, rfl, rfl, hK, hN⟩
  · exact qF_1 (q_weigh h a b)
  · exact f0_weigh hK hN a b
theorem L_again {G : gG} {S : gS} {U : List gU} {K : qK} (hp : pQ G S U K) : qF G S U K 714 437 [.ref 0] [.ref 207] := by
  rcases hp with h | ⟨rfl, rfl, rfl, hK, hN⟩
  · exact qF_1 (q_again h)
  · exact f0_again hK hN
theorem L_undo {G : gG} {S : gS} {U : List gU} {K : qK} (hp : pQ G S U K) : qF G S U K 716 439 [.ref 0] [.ref 207] := by
  rcases hp with h | ⟨rfl, rfl, rfl, hK, hN⟩
  · exact qF_1 (q_undo h)
  · exact f0_undo hK hN
theorem L_rounds {G : gG} {S : gS} {U : List gU} {K : qK} (hp : pQ G S U K) (a : Int32) : qF G S U K 698 417 [.ref 0, .int a] [.ref 207, .int a] := by
  rcases hp with h | ⟨rfl, rfl, rfl, hK, hN⟩
  · exact qF_1 (q_rounds h a)
  · exact f0_rounds hK hN a
theorem L_steps {G : gG} {S : gS} {U : List gU} {K : qK} (hp : pQ G S U K) (a : Int32) : qF G S U K 704 423 [.ref 0, .int a] [.ref 207, .int a] := by
  rcases hp with h | ⟨rfl, rfl, rfl, hK, hN⟩
  · exact qF_1 (q_steps h a)
  · exact f0_steps hK hN a
theorem L_until {G : gG} {S : gS} {U : List gU} {K : qK} (hp : pQ G S U K) : qF G S U K 765 563 [.ref 0] [.ref 207] := by
  rcases hp with h | ⟨rfl, rfl, rfl, hK, hN⟩
  · exact qF_1 (q_until h)
  · exact f0_until hK hN
theorem L_starts {G : gG} {S : gS} {U : List gU} {K : qK} (hp : pQ G S U K) (a : Int32) : qF G S U K 766 565 [.ref 0, .int a] [.ref 207, .int a] := by
  rcases hp with h | ⟨rfl, rfl, rfl, hK, hN⟩
  · exact qF_1 (q_starts h a)
  · exact f0_starts hK hN a
theorem L_starter {G : gG} {S : gS} {U : List gU} {K : qK} (hp : pQ G S U K) : qF G S U K 769 567 [.ref 0] [.ref 207] := by
  rcases hp with h | ⟨rfl, rfl, rfl, hK, hN⟩
  · exact qF_1 (q_starter h)
  · exact f0_starter hK hN
theorem L_cores {G : gG} {S : gS} {U : List gU} {K : qK} (hp : pQ G S U K) (a : Int32) (b : Int32) (c : Int32) : qF G S U K 774 582 [.ref 0, .int a, .int b, .int c] [.ref 207, .int a, .int b, .int c] := by
  rcases hp with h | ⟨rfl, rfl, rfl, hK, hN⟩
  · exact qF_1 (q_cores h a b c)
  · exact f0_cores hK hN a b c
theorem L_drawn {G : gG} {S : gS} {U : List gU} {K : qK} (hp : pQ G S U K) (a : Int32) (b : Int32) : qF G S U K 780 595 [.ref 0, .int a, .int b] [.ref 207, .int a, .int b] := by
  rcases hp with h | ⟨rfl, rfl, rfl, hK, hN⟩
  · exact qF_1 (q_drawn h a b)
  · exact f0_drawn hK hN a b
theorem L_onWay {G : gG} {S : gS} {U : List gU} {K : qK} (hp : pQ G S U K) (a : Int32) : qF G S U K 683 388 [.ref 0, .int a] [.ref 207, .int a] := by
  rcases hp with h | ⟨rfl, rfl, rfl, hK, hN⟩
  · exact qF_1 (q_onWay h a)
  · exact f0_onWay hK hN a
theorem L_waits {G : gG} {S : gS} {U : List gU} {K : qK} (hp : pQ G S U K) (a : Int32) (b : Int32) (c : Int32) : qF G S U K 686 391 [.ref 0, .int a, .int b, .int c] [.ref 207, .int a, .int b, .int c] := by
  rcases hp with h | ⟨rfl, rfl, rfl, hK, hN⟩
  · exact qF_1 (q_waits h a b c)
  · exact f0_waits hK hN a b c
theorem L_sent {G : gG} {S : gS} {U : List gU} {K : qK} (hp : pQ G S U K) (a : Int32) : qF G S U K 732 463 [.ref 0, .int a] [.ref 207, .int a] := by
  rcases hp with h | ⟨rfl, rfl, rfl, hK, hN⟩
  · exact qF_1 (q_sent h a)
  · exact f0_sent hK hN a
theorem L_limit {G : gG} {S : gS} {U : List gU} {K : qK} (hp : pQ G S U K) : qF G S U K 733 468 [.ref 0] [.ref 207] := by
  rcases hp with h | ⟨rfl, rfl, rfl, hK, hN⟩
  · exact qF_1 (q_limit h)
  · exact f0_limit hK hN
theorem L_least {G : gG} {S : gS} {U : List gU} {K : qK} (hp : pQ G S U K) (a : Int32) : qF G S U K 744 522 [.ref 0, .int a] [.ref 207, .int a] := by
  rcases hp with h | ⟨rfl, rfl, rfl, hK, hN⟩
  · exact qF_1 (q_least h a)
  · exact f0_least hK hN a
theorem L_heaviest {G : gG} {S : gS} {U : List gU} {K : qK} (hp : pQ G S U K) (a : Int32) (b : Int32) : qF G S U K 750 527 [.ref 0, .int a, .int b] [.ref 207, .int a, .int b] := by
  rcases hp with h | ⟨rfl, rfl, rfl, hK, hN⟩
  · exact qF_1 (q_heaviest h a b)
  · exact f0_heaviest hK hN a b
theorem L_slack {G : gG} {S : gS} {U : List gU} {K : qK} (hp : pQ G S U K) (a : Int32) : qF G S U K 753 535 [.ref 0, .int a] [.ref 207, .int a] := by
  rcases hp with h | ⟨rfl, rfl, rfl, hK, hN⟩
  · exact qF_1 (q_slack h a)
  · exact f0_slack hK hN a
theorem L_next {G : gG} {S : gS} {U : List gU} {K : qK} (hp : pQ G S U K) : qF G S U K 756 542 [.ref 0] [.ref 207] := by
  rcases hp with h | ⟨rfl, rfl, rfl, hK, hN⟩
  · exact qF_1 (q_next h)
  · exact f0_next hK hN
theorem L_now {G : gG} {S : gS} {U : List gU} {K : qK} (hp : pQ G S U K) (a : Int32) : qF G S U K 719 441 [.ref 0, .int a] [.ref 207, .int a] := by
  rcases hp with h | ⟨rfl, rfl, rfl, hK, hN⟩
  · exact qF_1 (q_now h a)
  · exact f0_now hK hN a
theorem L_spell {G : gG} {S : gS} {U : List gU} {K : qK} (hp : pQ G S U K) (a : Int32) : qF G S U K 790 623 [.ref 0, .int a] [.ref 207, .int a] := by
  rcases hp with h | ⟨rfl, rfl, rfl, hK, hN⟩
  · exact qF_1 (q_spell h a)
  · exact f0_spell hK hN a
