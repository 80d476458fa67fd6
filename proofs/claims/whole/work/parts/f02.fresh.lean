/-! n: the fresh phase: calls that find nothing -/
theorem f0_wake {K : qK} (hK : kOK K) (hN : (kN K).1 = 0) (a : Int32) : qF G00 S00 [] K 692 411 [.ref 0, .int a] [.ref 207, .int a] := by
  obtain ⟨n, hn, rfl⟩ := zI_of a
  refine qF_0n hK hN (zI (-1)) (fun ν X x xx _ => ?_) (fun ν0 m hi0 ν e0 => ?_)
  · rw [jl_692, q_in G00_ok x hn, z_b1, d0N, if_pos (by decide)]
    rfl
  · rw [jl_411, ← e0, q_rin G00_ok m hn, z_b1, d0N, if_pos (by decide)]
    rfl
theorem f0_take {K : qK} (hK : kOK K) (hN : (kN K).1 = 0) (a : Int32) : qF G00 S00 [] K 695 414 [.ref 0, .int a] [.ref 207, .int a] := by
  obtain ⟨n, hn, rfl⟩ := zI_of a
  refine qF_0n hK hN (zI (-1)) (fun ν X x xx _ => ?_) (fun ν0 m hi0 ν e0 => ?_)
  · rw [jl_695, q_iw G00_ok x hn, z_b1, d0W, if_pos (by decide), jl_696]
    rfl
  · rw [jl_414, ← e0, q_riw G00_ok m hn, z_b1, d0W, if_pos (by decide), jl_415]
    rfl
theorem f0_onWay {K : qK} (hK : kOK K) (hN : (kN K).1 = 0) (a : Int32) : qF G00 S00 [] K 683 388 [.ref 0, .int a] [.ref 207, .int a] := by
  obtain ⟨n, hn, rfl⟩ := zI_of a
  refine qF_0n hK hN (zI (-1)) (fun ν X x xx _ => ?_) (fun ν0 m hi0 ν e0 => ?_)
  · rw [jl_683, q_iw G00_ok x hn, z_b1, d0W, if_pos (by decide), jl_684, jl_685]
    rfl
  · rw [jl_388, ← e0, q_riw G00_ok m hn, z_b1, d0W, if_pos (by decide), jl_389, jl_390]
    rfl
theorem f0_waits {K : qK} (hK : kOK K) (hN : (kN K).1 = 0) (a b c : Int32) : qF G00 S00 [] K 686 391 [.ref 0, .int a, .int b, .int c] [.ref 207, .int a, .int b, .int c] := by
  obtain ⟨n, hn, rfl⟩ := zI_of a
  refine qF_0n hK hN (zI (-1)) (fun ν X x xx _ => ?_) (fun ν0 m hi0 ν e0 => ?_)
  · rw [jl_686, q_in G00_ok x hn, z_b1, d0N, if_pos (by decide), jl_687]
    rfl
  · rw [jl_391, ← e0, q_rin G00_ok m hn, z_b1, d0N, if_pos (by decide), jl_392]
    rfl
theorem f0_weigh {K : qK} (hK : kOK K) (hN : (kN K).1 = 0) (a b : Int32) : qF G00 S00 [] K 709 432 [.ref 0, .int a, .int b] [.ref 207, .int a, .int b] := by
  obtain ⟨n, hn, rfl⟩ := zI_of a
  refine qF_0n hK hN (zI (-1)) (fun ν X x xx _ => ?_) (fun ν0 m hi0 ν e0 => ?_)
  · rw [jl_709, q_ie G00_ok x hn, z_b1, d0E, if_pos (by decide), jl_710]
    rfl
  · rw [jl_432, ← e0, q_rie G00_ok m hn, z_b1, d0E, if_pos (by decide), jl_433]
    rfl
theorem f0_starts {K : qK} (hK : kOK K) (hN : (kN K).1 = 0) (a : Int32) : qF G00 S00 [] K 766 565 [.ref 0, .int a] [.ref 207, .int a] := by
  obtain ⟨n, hn, rfl⟩ := zI_of a
  refine qF_0n hK hN (zI (-1)) (fun ν X x xx _ => ?_) (fun ν0 m hi0 ν e0 => ?_)
  · rw [jl_766, q_in G00_ok x hn, z_b1, d0N, if_pos (by decide), jl_767, jl_768]
    rfl
  · rw [jl_565, ← e0, q_rin G00_ok m hn, z_b1, d0N, if_pos (by decide)]
    rfl
theorem f0_cores {K : qK} (hK : kOK K) (hN : (kN K).1 = 0) (a b c : Int32) : qF G00 S00 [] K 774 582 [.ref 0, .int a, .int b, .int c] [.ref 207, .int a, .int b, .int c] := by
  obtain ⟨n, hn, rfl⟩ := zI_of a
  refine qF_0n hK hN (zI (-1)) (fun ν X x xx _ => ?_) (fun ν0 m hi0 ν e0 => ?_)
  · rw [jl_774, q_ie G00_ok x hn, z_b1, d0E, if_pos (by decide), jl_775]
    rfl
  · rw [jl_582, ← e0, q_rie G00_ok m hn, z_b1, d0E, if_pos (by decide), jl_583]
    rfl
theorem f0_heaviest {K : qK} (hK : kOK K) (hN : (kN K).1 = 0) (a b : Int32) : qF G00 S00 [] K 750 527 [.ref 0, .int a, .int b] [.ref 207, .int a, .int b] := by
  obtain ⟨n, hn, rfl⟩ := zI_of a
  refine qF_0n hK hN (zI (-1)) (fun ν X x xx _ => ?_) (fun ν0 m hi0 ν e0 => ?_)
  · rw [jl_750, q_in G00_ok x hn, z_b1, d0N, if_pos (by decide), jl_751, jl_752]
    rfl
  · rw [jl_527, ← e0, q_rin G00_ok m hn, z_b1, d0N, if_pos (by decide), jl_528]
    rfl
theorem f0_slack {K : qK} (hK : kOK K) (hN : (kN K).1 = 0) (a : Int32) : qF G00 S00 [] K 753 535 [.ref 0, .int a] [.ref 207, .int a] := by
  obtain ⟨n, hn, rfl⟩ := zI_of a
  refine qF_0n hK hN (zI (-1)) (fun ν X x xx _ => ?_) (fun ν0 m hi0 ν e0 => ?_)
  · rw [jl_753, q_ie G00_ok x hn, z_b1, d0E, if_pos (by decide), jl_754, jl_755]
    rfl
  · rw [jl_535, ← e0, q_rie G00_ok m hn, z_b1, d0E, if_pos (by decide)]
    rfl
theorem f0_spell {K : qK} (hK : kOK K) (hN : (kN K).1 = 0) (a : Int32) : qF G00 S00 [] K 790 623 [.ref 0, .int a] [.ref 207, .int a] := by
  obtain ⟨n, hn, rfl⟩ := zI_of a
  refine qF_0n hK hN (zI (-1)) (fun ν X x xx _ => ?_) (fun ν0 m hi0 ν e0 => ?_)
  · rw [jl_790, q_il (by decide) (by decide) x hn, z_b1, d0L, if_pos (by decide)]
    rfl
  · rw [jl_623, ← e0, show (383 : Int32) = zI 383 from rfl, q_rL m, z_bo, show (1 : Int32) = zI 1 from rfl, show (0 : Int32) = zI 0 from rfl, zI_sub, mz_isIn hn (zR_of (by omega)) (zR_of (by rw [e0L]; omega)), z_b1, show decide (0 ≤ n ∧ n ≤ gnL S00 - 1) = false from decide_eq_false (by rw [e0L]; omega), if_pos (by decide)]
    rfl
theorem f0_undo {K : qK} (hK : kOK K) (hN : (kN K).1 = 0) : qF G00 S00 [] K 716 439 [.ref 0] [.ref 207] := by
  refine qF_0n hK hN (zI (-1)) (fun ν X x xx hi => ?_) (fun ν0 m hi0 ν e0 => ?_)
  · obtain ⟨_, ⟨top, u1, u2, u3, u4, u5⟩, _⟩ := hi
    have u4' : ν.1 0 11 = zI 0 := u4
    rw [jl_716, u4']
    rfl
  · obtain ⟨_, ⟨u1, u2⟩, _⟩ := hi0
    have u1' : ν0.1 207 24 = 0 := u1
    rw [jl_439, ← e0, if_pos u1']
    rfl
theorem f0_again {K : qK} (hK : kOK K) (hN : (kN K).1 = 0) : qF G00 S00 [] K 714 437 [.ref 0] [.ref 207] := by
  refine qF_0n hK hN (zI 1) (fun ν X x xx hi => ?_) (fun ν0 m hi0 ν e0 => ?_)
  · rw [jl_714, jl_1153, jl_1154, q_N x (Or.inl rfl), if_pos (show zI (gN G00) ≤ 0 by decide), jl_1157, z_b1, if_pos rfl]
    rfl
  · rw [jl_437, ← e0, jl_428, jl_429, show (0 : Int32) = zI 0 from rfl, q_rN m, z_bo, if_pos (show zI (gN G00) ≤ zI 0 by decide), jl_431, z_b1, if_pos rfl]
    rfl
theorem f0_sent {K : qK} (hK : kOK K) (hN : (kN K).1 = 0) (a : Int32) : qF G00 S00 [] K 732 463 [.ref 0, .int a] [.ref 207, .int a] := by
  obtain ⟨n, hn, rfl⟩ := zI_of a
  have hn2 := hn
  obtain ⟨n1, n2⟩ := hn2
  refine qF_0n hK hN (zI (if 0 ≤ n ∧ n ≤ 6 then 0 else -1)) (fun ν X x xx hi => ?_) (fun ν0 m hi0 ν e0 => ?_)
  · obtain ⟨_, _, _, _, x5⟩ := xx0 xx
    by_cases c : 0 ≤ n ∧ n ≤ 6
    · have hs := q_so x (Or.inl rfl) c.1 (show n < 7 by omega)
      rw [jl_732, show (39 : Nat) = 29 + 10 from rfl, hs, z_b1, x5 n c.1 (by omega), if_pos c]
    · rw [jl_732, c_at_out (len := 7) (by decide) (by decide) hn (by omega), z_b1, if_neg c]
      rfl
  · rw [jl_463, ← e0, show (0 : Int32) = zI 0 from rfl, show (6 : Int32) = zI 6 from rfl, mz_isIn hn (zR_of (by omega)) (zR_of (by omega)), z_b1]
    by_cases c : 0 ≤ n ∧ n ≤ 6
    · rw [show decide (0 ≤ n ∧ n ≤ 6) = true by simp [c], if_neg (by decide), jl_464, jl_465, show (383 : Int32) = zI 383 from rfl, q_rL m, z_bo, if_pos (show zI (gnL S00) ≤ 0 by decide), jl_467, if_pos c]
      rfl
    · rw [show decide (0 ≤ n ∧ n ≤ 6) = false from decide_eq_false c, if_pos (by decide), if_neg c]
      rfl
theorem f0_limit {K : qK} (hK : kOK K) (hN : (kN K).1 = 0) : qF G00 S00 [] K 733 468 [.ref 0] [.ref 207] := by
  refine qF_0n hK hN (zI 0) (fun ν X x xx hi => ?_) (fun ν0 m hi0 ν e0 => ?_)
  · rw [jl_733, jl_734, q_N x (Or.inl rfl), if_neg (by decide), if_pos (by decide), jl_735, q_N x (Or.inl rfl), q_E x (Or.inl rfl)]
    rfl
  · rw [jl_468, ← e0, show (0 : Int32) = zI 0 from rfl, q_rN m, z_bo, jl_469, if_pos (by decide), jl_470, show (1 : Int32) = zI 1 from rfl, show (0 : Int32) = zI 0 from rfl, q_rE m, z_bo, q_rN m, z_bo]
    rfl
theorem f0_starter {K : qK} (hK : kOK K) (hN : (kN K).1 = 0) : qF G00 S00 [] K 769 567 [.ref 0] [.ref 207] := by
  refine qF_0 hK hN (zI (-1)) (fun ν X x xx hi => ⟨ν, [], ?_, frz, fun a ha => by simp at ha, rfl⟩) (fun ν ν0 e0 m hi0 => ?_)
  · rw [jl_769, jl_770, q_N x (Or.inl rfl), if_pos (by decide), jl_773]
    rfl
  · obtain ⟨ν1, a1, a2, a3⟩ := q_svT (by decide) m
    have m1 := mI_fr a3 (by decide) m
    refine ⟨ν1, ?_, iM_st a3 (by simp) (fun k _ _ => fr_at a3 (by decide) k) (bgf a3 (by decide)) hK.1 m1 hi0, frM_of a3 (by simp)⟩
    rw [jl_567, ← e0, show (0 : Int32) = zI 0 from rfl, a1, z_b0, jl_568, show (0 : Int32) = zI 0 from rfl, q_rN m1, z_bo, if_pos (by decide), jl_571]
    rfl
