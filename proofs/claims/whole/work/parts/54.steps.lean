/-! pt: each step keeps each clause of the invariant (printed by wip/gen/gen50w.py) -/
set_option maxHeartbeats 1000000 in
theorem pt_rja_R {W : Int → Prop} {sd : Int → Int} {op : Int → Int} {ed : Int → Int} {st : Int → Int} {tst : Int → Int} {om : Int → Int} {en : Int → Int} {fw : Int → Int} {nL : Int} {kd : Int → Int} {wy : Int → Int} {wh : Int → Int} {b k : Int} (hG : pj_G W sd op ed) (p0_ : W b) (p1_ : 0 ≤ k) (p2_ : k < nL) (p3_ : wh k ≠ 2) (p4_ : kd k = 4) (p5_ : wy k = op b) (p6_ : ∀ j, 0 ≤ j → j < k → wy j = wy k → wh j ≠ 0) (p7_ : en b = 0) (p8_ : tst (sd b) = (ed b)) (p9_ : st (sd b) = 1) (p10_ : en (op b) ≠ 0) (p11_ : fw b = 0) (p12_ : om (sd (op b)) ≠ (ed b)) (p13_ : 0 ≤ nL) (cR : pj_R W nL kd wy wh) : pj_R W nL kd wy (pu wh k 2) := by
  obtain ⟨hop, hed⟩ := hG
  unfold pj_R at *
  intro k0
  simp only [pu]
  have g0 := hop b
  have g1 := hop (wy k0)
  have g2 := hed b (wy k0)
  have cR_0 := cR k
  have cR_1 := cR k0
  have f0 := p6_ k
  have f1 := p6_ k0
  clear p6_
  clear hop hed cR
  grind (splits := 24)

set_option maxHeartbeats 1000000 in
theorem pt_rja_N1w {W : Int → Prop} {sd : Int → Int} {op : Int → Int} {ed : Int → Int} {st : Int → Int} {tst : Int → Int} {om : Int → Int} {en : Int → Int} {fw : Int → Int} {nL : Int} {kd : Int → Int} {wy : Int → Int} {wh : Int → Int} {b k : Int} (hG : pj_G W sd op ed) (p0_ : W b) (p1_ : 0 ≤ k) (p2_ : k < nL) (p3_ : wh k ≠ 2) (p4_ : kd k = 4) (p5_ : wy k = op b) (p6_ : ∀ j, 0 ≤ j → j < k → wy j = wy k → wh j ≠ 0) (p7_ : en b = 0) (p8_ : tst (sd b) = (ed b)) (p9_ : st (sd b) = 1) (p10_ : en (op b) ≠ 0) (p11_ : fw b = 0) (p12_ : om (sd (op b)) ≠ (ed b)) (p13_ : 0 ≤ nL) (cN1w : pj_N1w W sd st en) : pj_N1w W sd st (pu en b 2) := by
  obtain ⟨hop, hed⟩ := hG
  unfold pj_N1w at *
  intro w0
  simp only [pu]
  have g0 := hop b
  have g1 := hop w0
  have g2 := hed b w0
  have cN1w_0 := cN1w b
  have cN1w_1 := cN1w w0
  have cN1w_2 := cN1w (op w0)
  have f0 := p6_ k
  clear p6_
  clear hop hed cN1w
  grind (splits := 24)

set_option maxHeartbeats 1000000 in
theorem pt_rja_ER {W : Int → Prop} {sd : Int → Int} {op : Int → Int} {ed : Int → Int} {st : Int → Int} {tst : Int → Int} {om : Int → Int} {en : Int → Int} {fw : Int → Int} {nL : Int} {kd : Int → Int} {wy : Int → Int} {wh : Int → Int} {b k : Int} (hG : pj_G W sd op ed) (p0_ : W b) (p1_ : 0 ≤ k) (p2_ : k < nL) (p3_ : wh k ≠ 2) (p4_ : kd k = 4) (p5_ : wy k = op b) (p6_ : ∀ j, 0 ≤ j → j < k → wy j = wy k → wh j ≠ 0) (p7_ : en b = 0) (p8_ : tst (sd b) = (ed b)) (p9_ : st (sd b) = 1) (p10_ : en (op b) ≠ 0) (p11_ : fw b = 0) (p12_ : om (sd (op b)) ≠ (ed b)) (p13_ : 0 ≤ nL) (cER : pj_ER W en) : pj_ER W (pu en b 2) := by
  obtain ⟨hop, hed⟩ := hG
  unfold pj_ER at *
  intro w0
  simp only [pu]
  have g0 := hop b
  have g1 := hop w0
  have g2 := hed b w0
  have cER_0 := cER b
  have cER_1 := cER w0
  have cER_2 := cER (op w0)
  have f0 := p6_ k
  clear p6_
  clear hop hed cER
  grind (splits := 24)

set_option maxHeartbeats 1000000 in
theorem pt_rja_N1c {W : Int → Prop} {sd : Int → Int} {op : Int → Int} {ed : Int → Int} {st : Int → Int} {tst : Int → Int} {om : Int → Int} {en : Int → Int} {fw : Int → Int} {nL : Int} {kd : Int → Int} {wy : Int → Int} {wh : Int → Int} {b k : Int} (hG : pj_G W sd op ed) (p0_ : W b) (p1_ : 0 ≤ k) (p2_ : k < nL) (p3_ : wh k ≠ 2) (p4_ : kd k = 4) (p5_ : wy k = op b) (p6_ : ∀ j, 0 ≤ j → j < k → wy j = wy k → wh j ≠ 0) (p7_ : en b = 0) (p8_ : tst (sd b) = (ed b)) (p9_ : st (sd b) = 1) (p10_ : en (op b) ≠ 0) (p11_ : fw b = 0) (p12_ : om (sd (op b)) ≠ (ed b)) (p13_ : 0 ≤ nL) (cN1c : pj_N1c sd op st nL wy wh) (cR : pj_R W nL kd wy wh) : pj_N1c sd op st nL wy (pu wh k 2) := by
  obtain ⟨hop, hed⟩ := hG
  unfold pj_N1c pj_R at *
  intro k0
  simp only [pu]
  have g0 := hop b
  have g1 := hop (wy k0)
  have g2 := hed b (wy k0)
  have cN1c_0 := cN1c k
  have cN1c_1 := cN1c k0
  have cR_0 := cR k0
  have f0 := p6_ k
  have f1 := p6_ k0
  clear p6_
  clear hop hed cN1c cR
  grind (splits := 24)

set_option maxHeartbeats 1000000 in
theorem pt_rja_N2 {W : Int → Prop} {sd : Int → Int} {op : Int → Int} {ed : Int → Int} {st : Int → Int} {tst : Int → Int} {om : Int → Int} {en : Int → Int} {fw : Int → Int} {nL : Int} {kd : Int → Int} {wy : Int → Int} {wh : Int → Int} {b k : Int} (hG : pj_G W sd op ed) (p0_ : W b) (p1_ : 0 ≤ k) (p2_ : k < nL) (p3_ : wh k ≠ 2) (p4_ : kd k = 4) (p5_ : wy k = op b) (p6_ : ∀ j, 0 ≤ j → j < k → wy j = wy k → wh j ≠ 0) (p7_ : en b = 0) (p8_ : tst (sd b) = (ed b)) (p9_ : st (sd b) = 1) (p10_ : en (op b) ≠ 0) (p11_ : fw b = 0) (p12_ : om (sd (op b)) ≠ (ed b)) (p13_ : 0 ≤ nL) (cN2 : pj_N2 W sd ed om en) : pj_N2 W sd ed om (pu en b 2) := by
  obtain ⟨hop, hed⟩ := hG
  unfold pj_N2 at *
  intro w0
  simp only [pu]
  have g0 := hop b
  have g1 := hop w0
  have g2 := hed b w0
  have cN2_0 := cN2 b
  have cN2_1 := cN2 w0
  have cN2_2 := cN2 (op w0)
  have f0 := p6_ k
  clear p6_
  clear hop hed cN2
  grind (splits := 24)

set_option maxHeartbeats 1000000 in
theorem pt_rja_N7 {W : Int → Prop} {sd : Int → Int} {op : Int → Int} {ed : Int → Int} {st : Int → Int} {tst : Int → Int} {exp : Int → Int} {om : Int → Int} {en : Int → Int} {fw : Int → Int} {nL : Int} {kd : Int → Int} {wy : Int → Int} {wh : Int → Int} {b k : Int} (hG : pj_G W sd op ed) (p0_ : W b) (p1_ : 0 ≤ k) (p2_ : k < nL) (p3_ : wh k ≠ 2) (p4_ : kd k = 4) (p5_ : wy k = op b) (p6_ : ∀ j, 0 ≤ j → j < k → wy j = wy k → wh j ≠ 0) (p7_ : en b = 0) (p8_ : tst (sd b) = (ed b)) (p9_ : st (sd b) = 1) (p10_ : en (op b) ≠ 0) (p11_ : fw b = 0) (p12_ : om (sd (op b)) ≠ (ed b)) (p13_ : 0 ≤ nL) (cN7 : pj_N7 st tst exp) : pj_N7 st (pu tst (sd b) (-1)) exp := by
  obtain ⟨hop, hed⟩ := hG
  unfold pj_N7 at *
  intro n0
  simp only [pu]
  have g0 := hop b
  have cN7_0 := cN7 (sd (op b))
  have cN7_1 := cN7 n0
  have cN7_2 := cN7 (sd b)
  have f0 := p6_ k
  clear p6_
  clear hop hed cN7
  grind (splits := 24)

set_option maxHeartbeats 1000000 in
theorem pt_rja_E1 {W : Int → Prop} {sd : Int → Int} {op : Int → Int} {ed : Int → Int} {st : Int → Int} {lv : Int → Int} {tst : Int → Int} {om : Int → Int} {dl : Int → Int} {en : Int → Int} {fw : Int → Int} {nL : Int} {kd : Int → Int} {wy : Int → Int} {ll : Int → Int} {wh : Int → Int} {b k : Int} (hG : pj_G W sd op ed) (p0_ : W b) (p1_ : 0 ≤ k) (p2_ : k < nL) (p3_ : wh k ≠ 2) (p4_ : kd k = 4) (p5_ : wy k = op b) (p6_ : ∀ j, 0 ≤ j → j < k → wy j = wy k → wh j ≠ 0) (p7_ : en b = 0) (p8_ : tst (sd b) = (ed b)) (p9_ : st (sd b) = 1) (p10_ : en (op b) ≠ 0) (p11_ : fw b = 0) (p12_ : om (sd (op b)) ≠ (ed b)) (p13_ : 0 ≤ nL) (cE1 : pj_E1 sd op lv dl nL kd wy ll wh) : pj_E1 sd op lv dl nL kd wy ll (pu wh k 2) := by
  obtain ⟨hop, hed⟩ := hG
  unfold pj_E1 at *
  intro n0
  simp only [pu]
  have g0 := hop b
  have cE1_0 := cE1 (sd (op b))
  have cE1_1 := cE1 n0
  have cE1_2 := cE1 (sd b)
  have f0 := p6_ k
  clear p6_
  clear hop hed cE1
  grind (splits := 24)

set_option maxHeartbeats 1000000 in
theorem pt_rja_U {W : Int → Prop} {sd : Int → Int} {op : Int → Int} {ed : Int → Int} {st : Int → Int} {lv : Int → Int} {nm : Int → Int} {tst : Int → Int} {om : Int → Int} {ps : Int → Int} {dl : Int → Int} {en : Int → Int} {fw : Int → Int} {cl : Int → Int} {nL : Int} {kd : Int → Int} {wy : Int → Int} {wh : Int → Int} {b k : Int} (hG : pj_G W sd op ed) (p0_ : W b) (p1_ : 0 ≤ k) (p2_ : k < nL) (p3_ : wh k ≠ 2) (p4_ : kd k = 4) (p5_ : wy k = op b) (p6_ : ∀ j, 0 ≤ j → j < k → wy j = wy k → wh j ≠ 0) (p7_ : en b = 0) (p8_ : tst (sd b) = (ed b)) (p9_ : st (sd b) = 1) (p10_ : en (op b) ≠ 0) (p11_ : fw b = 0) (p12_ : om (sd (op b)) ≠ (ed b)) (p13_ : 0 ≤ nL) (cU : pj_U W sd op ed lv nm om ps dl en cl) : pj_U W sd op ed lv nm om ps dl (pu en b 2) cl := by
  obtain ⟨hop, hed⟩ := hG
  unfold pj_U at *
  intro w0
  simp only [pu]
  have g0 := hop b
  have g1 := hop w0
  have g2 := hed b w0
  have cU_0 := cU b
  have cU_1 := cU w0
  have cU_2 := cU (op w0)
  have f0 := p6_ k
  clear p6_
  clear hop hed cU
  grind (splits := 24)

set_option maxHeartbeats 1000000 in
theorem pt_rja_A1 {W : Int → Prop} {sd : Int → Int} {op : Int → Int} {ed : Int → Int} {st : Int → Int} {lv : Int → Int} {nm : Int → Int} {tst : Int → Int} {om : Int → Int} {dl : Int → Int} {dn : Int → Int} {en : Int → Int} {fw : Int → Int} {nL : Int} {kd : Int → Int} {wy : Int → Int} {wh : Int → Int} {F : Int → Prop} {fl : Int} {fc : Int} {b k : Int} (hG : pj_G W sd op ed) (p0_ : W b) (p1_ : 0 ≤ k) (p2_ : k < nL) (p3_ : wh k ≠ 2) (p4_ : kd k = 4) (p5_ : wy k = op b) (p6_ : ∀ j, 0 ≤ j → j < k → wy j = wy k → wh j ≠ 0) (p7_ : en b = 0) (p8_ : tst (sd b) = (ed b)) (p9_ : st (sd b) = 1) (p10_ : en (op b) ≠ 0) (p11_ : fw b = 0) (p12_ : om (sd (op b)) ≠ (ed b)) (p13_ : 0 ≤ nL) (cA1 : pj_A1 W sd op ed lv nm om dl dn en F fl fc) : pj_A1 W sd op ed lv nm om dl dn (pu en b 2) F fl fc := by
  obtain ⟨hop, hed⟩ := hG
  unfold pj_A1 at *
  intro w0
  simp only [pu]
  have g0 := hop b
  have g1 := hop w0
  have g2 := hed b w0
  have cA1_0 := cA1 b
  have cA1_1 := cA1 w0
  have cA1_2 := cA1 (op w0)
  have f0 := p6_ k
  clear p6_
  clear hop hed cA1
  grind (splits := 24)

set_option maxHeartbeats 1000000 in
theorem pt_rja_EC {W : Int → Prop} {sd : Int → Int} {op : Int → Int} {ed : Int → Int} {st : Int → Int} {lv : Int → Int} {nm : Int → Int} {tst : Int → Int} {om : Int → Int} {ps : Int → Int} {dl : Int → Int} {en : Int → Int} {fw : Int → Int} {nL : Int} {kd : Int → Int} {wy : Int → Int} {wh : Int → Int} {F : Int → Prop} {b k : Int} (hG : pj_G W sd op ed) (p0_ : W b) (p1_ : 0 ≤ k) (p2_ : k < nL) (p3_ : wh k ≠ 2) (p4_ : kd k = 4) (p5_ : wy k = op b) (p6_ : ∀ j, 0 ≤ j → j < k → wy j = wy k → wh j ≠ 0) (p7_ : en b = 0) (p8_ : tst (sd b) = (ed b)) (p9_ : st (sd b) = 1) (p10_ : en (op b) ≠ 0) (p11_ : fw b = 0) (p12_ : om (sd (op b)) ≠ (ed b)) (p13_ : 0 ≤ nL) (cEC : pj_EC W sd op ed lv nm om ps dl nL kd wy wh F) : pj_EC W sd op ed lv nm om ps dl nL kd wy (pu wh k 2) F := by
  obtain ⟨hop, hed⟩ := hG
  unfold pj_EC at *
  intro w0
  simp only [pu]
  have g0 := hop b
  have g1 := hop w0
  have g2 := hed b w0
  have cEC_0 := cEC b
  have cEC_1 := cEC w0
  have cEC_2 := cEC (op w0)
  have f0 := p6_ k
  clear p6_
  clear hop hed cEC
  grind (splits := 24)

set_option maxHeartbeats 1000000 in
theorem pt_rja_N11 {W : Int → Prop} {sd : Int → Int} {op : Int → Int} {ed : Int → Int} {st : Int → Int} {lv : Int → Int} {nm : Int → Int} {tow : Int → Int} {tst : Int → Int} {om : Int → Int} {ps : Int → Int} {en : Int → Int} {fw : Int → Int} {nL : Int} {kd : Int → Int} {wy : Int → Int} {wh : Int → Int} {b k : Int} (hG : pj_G W sd op ed) (p0_ : W b) (p1_ : 0 ≤ k) (p2_ : k < nL) (p3_ : wh k ≠ 2) (p4_ : kd k = 4) (p5_ : wy k = op b) (p6_ : ∀ j, 0 ≤ j → j < k → wy j = wy k → wh j ≠ 0) (p7_ : en b = 0) (p8_ : tst (sd b) = (ed b)) (p9_ : st (sd b) = 1) (p10_ : en (op b) ≠ 0) (p11_ : fw b = 0) (p12_ : om (sd (op b)) ≠ (ed b)) (p13_ : 0 ≤ nL) (cN11 : pj_N11 W sd op ed lv nm tow tst ps en) : pj_N11 W sd op ed lv nm tow (pu tst (sd b) (-1)) ps (pu en b 2) := by
  obtain ⟨hop, hed⟩ := hG
  unfold pj_N11 at *
  intro w0
  simp only [pu]
  have g0 := hop b
  have g1 := hop w0
  have g2 := hed b w0
  have cN11_0 := cN11 b
  have cN11_1 := cN11 w0
  have cN11_2 := cN11 (op w0)
  have f0 := p6_ k
  clear p6_
  clear hop hed cN11
  grind (splits := 24)

set_option maxHeartbeats 1000000 in
theorem pt_rja_N12 {W : Int → Prop} {sd : Int → Int} {op : Int → Int} {ed : Int → Int} {st : Int → Int} {lv : Int → Int} {nm : Int → Int} {inw : Int → Int} {tow : Int → Int} {tst : Int → Int} {om : Int → Int} {ps : Int → Int} {dl : Int → Int} {en : Int → Int} {fw : Int → Int} {nL : Int} {kd : Int → Int} {wy : Int → Int} {wh : Int → Int} {b k : Int} (hG : pj_G W sd op ed) (p0_ : W b) (p1_ : 0 ≤ k) (p2_ : k < nL) (p3_ : wh k ≠ 2) (p4_ : kd k = 4) (p5_ : wy k = op b) (p6_ : ∀ j, 0 ≤ j → j < k → wy j = wy k → wh j ≠ 0) (p7_ : en b = 0) (p8_ : tst (sd b) = (ed b)) (p9_ : st (sd b) = 1) (p10_ : en (op b) ≠ 0) (p11_ : fw b = 0) (p12_ : om (sd (op b)) ≠ (ed b)) (p13_ : 0 ≤ nL) (cN12 : pj_N12 W sd op ed st lv nm inw tow om ps dl en) : pj_N12 W sd op ed st lv nm inw tow om ps dl (pu en b 2) := by
  obtain ⟨hop, hed⟩ := hG
  unfold pj_N12 at *
  intro w0
  simp only [pu]
  have g0 := hop b
  have g1 := hop w0
  have g2 := hed b w0
  have cN12_0 := cN12 b
  have cN12_1 := cN12 w0
  have cN12_2 := cN12 (op w0)
  have f0 := p6_ k
  clear p6_
  clear hop hed cN12
  grind (splits := 24)

set_option maxHeartbeats 1000000 in
theorem pt_rja_N3 {W : Int → Prop} {sd : Int → Int} {op : Int → Int} {ed : Int → Int} {st : Int → Int} {tst : Int → Int} {om : Int → Int} {en : Int → Int} {fw : Int → Int} {nL : Int} {kd : Int → Int} {wy : Int → Int} {wh : Int → Int} {b k : Int} (hG : pj_G W sd op ed) (p0_ : W b) (p1_ : 0 ≤ k) (p2_ : k < nL) (p3_ : wh k ≠ 2) (p4_ : kd k = 4) (p5_ : wy k = op b) (p6_ : ∀ j, 0 ≤ j → j < k → wy j = wy k → wh j ≠ 0) (p7_ : en b = 0) (p8_ : tst (sd b) = (ed b)) (p9_ : st (sd b) = 1) (p10_ : en (op b) ≠ 0) (p11_ : fw b = 0) (p12_ : om (sd (op b)) ≠ (ed b)) (p13_ : 0 ≤ nL) (cN3 : pj_N3 W sd op ed om en) : pj_N3 W sd op ed om (pu en b 2) := by
  obtain ⟨hop, hed⟩ := hG
  unfold pj_N3 at *
  intro w0
  simp only [pu]
  have g0 := hop b
  have g1 := hop w0
  have g2 := hed b w0
  have cN3_0 := cN3 b
  have cN3_1 := cN3 w0
  have cN3_2 := cN3 (op w0)
  have f0 := p6_ k
  clear p6_
  clear hop hed cN3
  grind (splits := 24)

set_option maxHeartbeats 1000000 in
theorem pt_rja_RJ {W : Int → Prop} {sd : Int → Int} {op : Int → Int} {ed : Int → Int} {st : Int → Int} {tst : Int → Int} {om : Int → Int} {en : Int → Int} {fw : Int → Int} {nL : Int} {kd : Int → Int} {wy : Int → Int} {wh : Int → Int} {b k : Int} (hG : pj_G W sd op ed) (p0_ : W b) (p1_ : 0 ≤ k) (p2_ : k < nL) (p3_ : wh k ≠ 2) (p4_ : kd k = 4) (p5_ : wy k = op b) (p6_ : ∀ j, 0 ≤ j → j < k → wy j = wy k → wh j ≠ 0) (p7_ : en b = 0) (p8_ : tst (sd b) = (ed b)) (p9_ : st (sd b) = 1) (p10_ : en (op b) ≠ 0) (p11_ : fw b = 0) (p12_ : om (sd (op b)) ≠ (ed b)) (p13_ : 0 ≤ nL) (cRJ : pj_RJ W sd op ed tst en fw) : pj_RJ W sd op ed (pu tst (sd b) (-1)) (pu en b 2) (pu fw b 1) := by
  obtain ⟨hop, hed⟩ := hG
  unfold pj_RJ at *
  intro w0
  simp only [pu]
  have g0 := hop b
  have g1 := hop w0
  have g2 := hed b w0
  have cRJ_0 := cRJ b
  have cRJ_1 := cRJ w0
  have cRJ_2 := cRJ (op w0)
  have f0 := p6_ k
  clear p6_
  clear hop hed cRJ
  grind (splits := 24)

set_option maxHeartbeats 1000000 in
theorem pt_rja_FW {W : Int → Prop} {sd : Int → Int} {op : Int → Int} {ed : Int → Int} {st : Int → Int} {tst : Int → Int} {om : Int → Int} {en : Int → Int} {fw : Int → Int} {nL : Int} {kd : Int → Int} {wy : Int → Int} {wh : Int → Int} {b k : Int} (hG : pj_G W sd op ed) (p0_ : W b) (p1_ : 0 ≤ k) (p2_ : k < nL) (p3_ : wh k ≠ 2) (p4_ : kd k = 4) (p5_ : wy k = op b) (p6_ : ∀ j, 0 ≤ j → j < k → wy j = wy k → wh j ≠ 0) (p7_ : en b = 0) (p8_ : tst (sd b) = (ed b)) (p9_ : st (sd b) = 1) (p10_ : en (op b) ≠ 0) (p11_ : fw b = 0) (p12_ : om (sd (op b)) ≠ (ed b)) (p13_ : 0 ≤ nL) (cFW : pj_FW W sd ed tst en fw) : pj_FW W sd ed (pu tst (sd b) (-1)) (pu en b 2) (pu fw b 1) := by
  obtain ⟨hop, hed⟩ := hG
  unfold pj_FW at *
  intro w0
  simp only [pu]
  have g0 := hop b
  have g1 := hop w0
  have g2 := hed b w0
  have cFW_0 := cFW b
  have cFW_1 := cFW w0
  have cFW_2 := cFW (op w0)
  have f0 := p6_ k
  clear p6_
  clear hop hed cFW
  grind (splits := 24)

set_option maxHeartbeats 1000000 in
theorem pt_rja_PD {W : Int → Prop} {sd : Int → Int} {op : Int → Int} {ed : Int → Int} {st : Int → Int} {tst : Int → Int} {om : Int → Int} {en : Int → Int} {pd : Int → Int} {fw : Int → Int} {nL : Int} {kd : Int → Int} {wy : Int → Int} {wh : Int → Int} {b k : Int} (hG : pj_G W sd op ed) (p0_ : W b) (p1_ : 0 ≤ k) (p2_ : k < nL) (p3_ : wh k ≠ 2) (p4_ : kd k = 4) (p5_ : wy k = op b) (p6_ : ∀ j, 0 ≤ j → j < k → wy j = wy k → wh j ≠ 0) (p7_ : en b = 0) (p8_ : tst (sd b) = (ed b)) (p9_ : st (sd b) = 1) (p10_ : en (op b) ≠ 0) (p11_ : fw b = 0) (p12_ : om (sd (op b)) ≠ (ed b)) (p13_ : 0 ≤ nL) (cPD : pj_PD W sd op ed st om en pd) : pj_PD W sd op ed st om (pu en b 2) pd := by
  obtain ⟨hop, hed⟩ := hG
  unfold pj_PD at *
  intro w0
  simp only [pu]
  have g0 := hop b
  have g1 := hop w0
  have g2 := hed b w0
  have cPD_0 := cPD b
  have cPD_1 := cPD w0
  have cPD_2 := cPD (op w0)
  have f0 := p6_ k
  clear p6_
  clear hop hed cPD
  grind (splits := 24)

set_option maxHeartbeats 1000000 in
theorem pt_rja_CC {W : Int → Prop} {sd : Int → Int} {op : Int → Int} {ed : Int → Int} {st : Int → Int} {tst : Int → Int} {om : Int → Int} {en : Int → Int} {fw : Int → Int} {cl : Int → Int} {nL : Int} {kd : Int → Int} {wy : Int → Int} {wh : Int → Int} {b k : Int} (hG : pj_G W sd op ed) (p0_ : W b) (p1_ : 0 ≤ k) (p2_ : k < nL) (p3_ : wh k ≠ 2) (p4_ : kd k = 4) (p5_ : wy k = op b) (p6_ : ∀ j, 0 ≤ j → j < k → wy j = wy k → wh j ≠ 0) (p7_ : en b = 0) (p8_ : tst (sd b) = (ed b)) (p9_ : st (sd b) = 1) (p10_ : en (op b) ≠ 0) (p11_ : fw b = 0) (p12_ : om (sd (op b)) ≠ (ed b)) (p13_ : 0 ≤ nL) (cCC : pj_CC W ed en cl) : pj_CC W ed (pu en b 2) cl := by
  obtain ⟨hop, hed⟩ := hG
  unfold pj_CC at *
  intro w0
  simp only [pu]
  have g0 := hop b
  have g1 := hop w0
  have g2 := hed b w0
  have cCC_0 := cCC b
  have cCC_1 := cCC w0
  have cCC_2 := cCC (op w0)
  have f0 := p6_ k
  clear p6_
  clear hop hed cCC
  grind (splits := 24)

set_option maxHeartbeats 1000000 in
theorem pt_rja_WH {W : Int → Prop} {sd : Int → Int} {op : Int → Int} {ed : Int → Int} {st : Int → Int} {tst : Int → Int} {om : Int → Int} {en : Int → Int} {fw : Int → Int} {nL : Int} {kd : Int → Int} {wy : Int → Int} {wh : Int → Int} {b k : Int} (hG : pj_G W sd op ed) (p0_ : W b) (p1_ : 0 ≤ k) (p2_ : k < nL) (p3_ : wh k ≠ 2) (p4_ : kd k = 4) (p5_ : wy k = op b) (p6_ : ∀ j, 0 ≤ j → j < k → wy j = wy k → wh j ≠ 0) (p7_ : en b = 0) (p8_ : tst (sd b) = (ed b)) (p9_ : st (sd b) = 1) (p10_ : en (op b) ≠ 0) (p11_ : fw b = 0) (p12_ : om (sd (op b)) ≠ (ed b)) (p13_ : 0 ≤ nL) (cWH : pj_WH nL kd wh) (cR : pj_R W nL kd wy wh) : pj_WH nL kd (pu wh k 2) := by
  obtain ⟨hop, hed⟩ := hG
  unfold pj_WH pj_R at *
  intro k0
  simp only [pu]
  have g0 := hop b
  have g1 := hop (wy k0)
  have g2 := hed b (wy k0)
  have cWH_0 := cWH k
  have cWH_1 := cWH k0
  have cR_0 := cR k0
  have f0 := p6_ k
  have f1 := p6_ k0
  clear p6_
  clear hop hed cWH cR
  grind (splits := 24)

set_option maxHeartbeats 1000000 in
theorem pt_rja_FI {W : Int → Prop} {sd : Int → Int} {op : Int → Int} {ed : Int → Int} {st : Int → Int} {tst : Int → Int} {om : Int → Int} {en : Int → Int} {fw : Int → Int} {nL : Int} {kd : Int → Int} {wy : Int → Int} {wh : Int → Int} {b k : Int} (hG : pj_G W sd op ed) (p0_ : W b) (p1_ : 0 ≤ k) (p2_ : k < nL) (p3_ : wh k ≠ 2) (p4_ : kd k = 4) (p5_ : wy k = op b) (p6_ : ∀ j, 0 ≤ j → j < k → wy j = wy k → wh j ≠ 0) (p7_ : en b = 0) (p8_ : tst (sd b) = (ed b)) (p9_ : st (sd b) = 1) (p10_ : en (op b) ≠ 0) (p11_ : fw b = 0) (p12_ : om (sd (op b)) ≠ (ed b)) (p13_ : 0 ≤ nL) (cFI : pj_FI nL wy wh) (cR : pj_R W nL kd wy wh) : pj_FI nL wy (pu wh k 2) := by
  obtain ⟨hop, hed⟩ := hG
  unfold pj_FI pj_R at *
  intro j0 k0
  simp only [pu]
  have g0 := hop b
  have g1 := hop (wy j0)
  have g2 := hop (wy k0)
  have g3 := hed b (wy j0)
  have g4 := hed b (wy k0)
  have g5 := hed (wy j0) (wy k0)
  have cFI_0 := cFI k k
  have cFI_1 := cFI k j0
  have cFI_2 := cFI k k0
  have cFI_3 := cFI j0 k
  have cFI_4 := cFI j0 j0
  have cFI_5 := cFI j0 k0
  have cFI_6 := cFI k0 k
  have cFI_7 := cFI k0 j0
  have cFI_8 := cFI k0 k0
  have cR_0 := cR j0
  have cR_1 := cR k0
  have f0 := p6_ k
  have f1 := p6_ j0
  have f2 := p6_ k0
  clear p6_
  clear hop hed cFI cR
  grind (splits := 24)

set_option maxHeartbeats 1000000 in
theorem pt_rja_L0 {W : Int → Prop} {sd : Int → Int} {op : Int → Int} {ed : Int → Int} {st : Int → Int} {lv : Int → Int} {nm : Int → Int} {tst : Int → Int} {om : Int → Int} {ps : Int → Int} {dl : Int → Int} {c0 : Int → Int} {en : Int → Int} {fw : Int → Int} {cw : Int → Int} {nL : Int} {kd : Int → Int} {wy : Int → Int} {ll : Int → Int} {wh : Int → Int} {b k : Int} (hG : pj_G W sd op ed) (p0_ : W b) (p1_ : 0 ≤ k) (p2_ : k < nL) (p3_ : wh k ≠ 2) (p4_ : kd k = 4) (p5_ : wy k = op b) (p6_ : ∀ j, 0 ≤ j → j < k → wy j = wy k → wh j ≠ 0) (p7_ : en b = 0) (p8_ : tst (sd b) = (ed b)) (p9_ : st (sd b) = 1) (p10_ : en (op b) ≠ 0) (p11_ : fw b = 0) (p12_ : om (sd (op b)) ≠ (ed b)) (p13_ : 0 ≤ nL) (cL0 : pj_L0 sd op ed lv nm om ps dl c0 en cw nL kd wy ll wh) (cR : pj_R W nL kd wy wh) : pj_L0 sd op ed lv nm om ps dl c0 (pu en b 2) cw nL kd wy ll (pu wh k 2) := by
  obtain ⟨hop, hed⟩ := hG
  unfold pj_L0 pj_R at *
  intro k0
  simp only [pu]
  have g0 := hop b
  have g1 := hop (wy k0)
  have g2 := hed b (wy k0)
  have cL0_0 := cL0 k
  have cL0_1 := cL0 k0
  have cR_0 := cR k0
  have f0 := p6_ k
  have f1 := p6_ k0
  clear p6_
  clear hop hed cL0 cR
  grind (splits := 24)

set_option maxHeartbeats 1000000 in
theorem pt_rja_FC {W : Int → Prop} {sd : Int → Int} {op : Int → Int} {ed : Int → Int} {st : Int → Int} {tst : Int → Int} {om : Int → Int} {en : Int → Int} {fw : Int → Int} {nL : Int} {kd : Int → Int} {wy : Int → Int} {wh : Int → Int} {F : Int → Prop} {b k : Int} (hG : pj_G W sd op ed) (p0_ : W b) (p1_ : 0 ≤ k) (p2_ : k < nL) (p3_ : wh k ≠ 2) (p4_ : kd k = 4) (p5_ : wy k = op b) (p6_ : ∀ j, 0 ≤ j → j < k → wy j = wy k → wh j ≠ 0) (p7_ : en b = 0) (p8_ : tst (sd b) = (ed b)) (p9_ : st (sd b) = 1) (p10_ : en (op b) ≠ 0) (p11_ : fw b = 0) (p12_ : om (sd (op b)) ≠ (ed b)) (p13_ : 0 ≤ nL) (cFC : pj_FC op nL kd wy wh F) (cR : pj_R W nL kd wy wh) : pj_FC op nL kd wy (pu wh k 2) F := by
  obtain ⟨hop, hed⟩ := hG
  unfold pj_FC pj_R at *
  intro k0
  simp only [pu]
  have g0 := hop b
  have g1 := hop (wy k0)
  have g2 := hed b (wy k0)
  have cFC_0 := cFC k
  have cFC_1 := cFC k0
  have cR_0 := cR k0
  have f0 := p6_ k
  have f1 := p6_ k0
  clear p6_
  clear hop hed cFC cR
  grind (splits := 24)

set_option maxHeartbeats 1000000 in
theorem pt_rja_L0u {W : Int → Prop} {sd : Int → Int} {op : Int → Int} {ed : Int → Int} {st : Int → Int} {tst : Int → Int} {om : Int → Int} {en : Int → Int} {fw : Int → Int} {nL : Int} {kd : Int → Int} {wy : Int → Int} {wh : Int → Int} {b k : Int} (hG : pj_G W sd op ed) (p0_ : W b) (p1_ : 0 ≤ k) (p2_ : k < nL) (p3_ : wh k ≠ 2) (p4_ : kd k = 4) (p5_ : wy k = op b) (p6_ : ∀ j, 0 ≤ j → j < k → wy j = wy k → wh j ≠ 0) (p7_ : en b = 0) (p8_ : tst (sd b) = (ed b)) (p9_ : st (sd b) = 1) (p10_ : en (op b) ≠ 0) (p11_ : fw b = 0) (p12_ : om (sd (op b)) ≠ (ed b)) (p13_ : 0 ≤ nL) (cL0u : pj_L0u nL kd wy wh) (cR : pj_R W nL kd wy wh) : pj_L0u nL kd wy (pu wh k 2) := by
  obtain ⟨hop, hed⟩ := hG
  unfold pj_L0u pj_R at *
  intro j0 k0
  simp only [pu]
  have g0 := hop b
  have g1 := hop (wy j0)
  have g2 := hop (wy k0)
  have g3 := hed b (wy j0)
  have g4 := hed b (wy k0)
  have g5 := hed (wy j0) (wy k0)
  have cL0u_0 := cL0u k k
  have cL0u_1 := cL0u k j0
  have cL0u_2 := cL0u k k0
  have cL0u_3 := cL0u j0 k
  have cL0u_4 := cL0u j0 j0
  have cL0u_5 := cL0u j0 k0
  have cL0u_6 := cL0u k0 k
  have cL0u_7 := cL0u k0 j0
  have cL0u_8 := cL0u k0 k0
  have cR_0 := cR j0
  have cR_1 := cR k0
  have f0 := p6_ k
  have f1 := p6_ j0
  have f2 := p6_ k0
  clear p6_
  clear hop hed cL0u cR
  grind (splits := 24)

set_option maxHeartbeats 1000000 in
theorem pt_rja_OC {W : Int → Prop} {sd : Int → Int} {op : Int → Int} {ed : Int → Int} {st : Int → Int} {tst : Int → Int} {om : Int → Int} {en : Int → Int} {fw : Int → Int} {nL : Int} {kd : Int → Int} {wy : Int → Int} {wh : Int → Int} {b k : Int} (hG : pj_G W sd op ed) (p0_ : W b) (p1_ : 0 ≤ k) (p2_ : k < nL) (p3_ : wh k ≠ 2) (p4_ : kd k = 4) (p5_ : wy k = op b) (p6_ : ∀ j, 0 ≤ j → j < k → wy j = wy k → wh j ≠ 0) (p7_ : en b = 0) (p8_ : tst (sd b) = (ed b)) (p9_ : st (sd b) = 1) (p10_ : en (op b) ≠ 0) (p11_ : fw b = 0) (p12_ : om (sd (op b)) ≠ (ed b)) (p13_ : 0 ≤ nL) (cOC : pj_OC nL kd wy wh) (cR : pj_R W nL kd wy wh) : pj_OC nL kd wy (pu wh k 2) := by
  obtain ⟨hop, hed⟩ := hG
  unfold pj_OC pj_R at *
  intro j0 k0
  simp only [pu]
  have g0 := hop b
  have g1 := hop (wy j0)
  have g2 := hop (wy k0)
  have g3 := hed b (wy j0)
  have g4 := hed b (wy k0)
  have g5 := hed (wy j0) (wy k0)
  have cOC_0 := cOC k k
  have cOC_1 := cOC k j0
  have cOC_2 := cOC k k0
  have cOC_3 := cOC j0 k
  have cOC_4 := cOC j0 j0
  have cOC_5 := cOC j0 k0
  have cOC_6 := cOC k0 k
  have cOC_7 := cOC k0 j0
  have cOC_8 := cOC k0 k0
  have cR_0 := cR j0
  have cR_1 := cR k0
  have f0 := p6_ k
  have f1 := p6_ j0
  have f2 := p6_ k0
  clear p6_
  clear hop hed cOC cR
  grind (splits := 24)

set_option maxHeartbeats 1000000 in
theorem pt_rja_CT {W : Int → Prop} {sd : Int → Int} {op : Int → Int} {ed : Int → Int} {st : Int → Int} {tst : Int → Int} {om : Int → Int} {en : Int → Int} {fw : Int → Int} {nL : Int} {kd : Int → Int} {wy : Int → Int} {wh : Int → Int} {b k : Int} (hG : pj_G W sd op ed) (p0_ : W b) (p1_ : 0 ≤ k) (p2_ : k < nL) (p3_ : wh k ≠ 2) (p4_ : kd k = 4) (p5_ : wy k = op b) (p6_ : ∀ j, 0 ≤ j → j < k → wy j = wy k → wh j ≠ 0) (p7_ : en b = 0) (p8_ : tst (sd b) = (ed b)) (p9_ : st (sd b) = 1) (p10_ : en (op b) ≠ 0) (p11_ : fw b = 0) (p12_ : om (sd (op b)) ≠ (ed b)) (p13_ : 0 ≤ nL) (cCT : pj_CT nL kd wy wh) (cR : pj_R W nL kd wy wh) : pj_CT nL kd wy (pu wh k 2) := by
  obtain ⟨hop, hed⟩ := hG
  unfold pj_CT pj_R at *
  intro j0 k0
  simp only [pu]
  have g0 := hop b
  have g1 := hop (wy j0)
  have g2 := hop (wy k0)
  have g3 := hed b (wy j0)
  have g4 := hed b (wy k0)
  have g5 := hed (wy j0) (wy k0)
  have cCT_0 := cCT k k
  have cCT_1 := cCT k j0
  have cCT_2 := cCT k k0
  have cCT_3 := cCT j0 k
  have cCT_4 := cCT j0 j0
  have cCT_5 := cCT j0 k0
  have cCT_6 := cCT k0 k
  have cCT_7 := cCT k0 j0
  have cCT_8 := cCT k0 k0
  have cR_0 := cR j0
  have cR_1 := cR k0
  have f0 := p6_ k
  have f1 := p6_ j0
  have f2 := p6_ k0
  clear p6_
  clear hop hed cCT cR
  grind (splits := 24)

set_option maxHeartbeats 1000000 in
theorem pt_rja_L1 {W : Int → Prop} {sd : Int → Int} {op : Int → Int} {ed : Int → Int} {st : Int → Int} {lv : Int → Int} {tst : Int → Int} {om : Int → Int} {dl : Int → Int} {en : Int → Int} {fw : Int → Int} {cl : Int → Int} {nL : Int} {kd : Int → Int} {wy : Int → Int} {ll : Int → Int} {td : Int → Int} {ls : Int → Int} {wh : Int → Int} {b k : Int} (hG : pj_G W sd op ed) (p0_ : W b) (p1_ : 0 ≤ k) (p2_ : k < nL) (p3_ : wh k ≠ 2) (p4_ : kd k = 4) (p5_ : wy k = op b) (p6_ : ∀ j, 0 ≤ j → j < k → wy j = wy k → wh j ≠ 0) (p7_ : en b = 0) (p8_ : tst (sd b) = (ed b)) (p9_ : st (sd b) = 1) (p10_ : en (op b) ≠ 0) (p11_ : fw b = 0) (p12_ : om (sd (op b)) ≠ (ed b)) (p13_ : 0 ≤ nL) (cL1 : pj_L1 sd op ed st lv om dl en cl nL kd wy ll td ls wh) (cR : pj_R W nL kd wy wh) : pj_L1 sd op ed st lv om dl (pu en b 2) cl nL kd wy ll td ls (pu wh k 2) := by
  obtain ⟨hop, hed⟩ := hG
  unfold pj_L1 pj_R at *
  intro k0
  simp only [pu]
  have g0 := hop b
  have g1 := hop (wy k0)
  have g2 := hed b (wy k0)
  have cL1_0 := cL1 k
  have cL1_1 := cL1 k0
  have cR_0 := cR k0
  have f0 := p6_ k
  have f1 := p6_ k0
  clear p6_
  clear hop hed cL1 cR
  grind (splits := 24)

set_option maxHeartbeats 1000000 in
theorem pt_rja_L1e {W : Int → Prop} {sd : Int → Int} {op : Int → Int} {ed : Int → Int} {st : Int → Int} {tst : Int → Int} {om : Int → Int} {dl : Int → Int} {dn : Int → Int} {en : Int → Int} {fw : Int → Int} {nL : Int} {kd : Int → Int} {wy : Int → Int} {ll : Int → Int} {td : Int → Int} {ls : Int → Int} {wh : Int → Int} {b k : Int} (hG : pj_G W sd op ed) (p0_ : W b) (p1_ : 0 ≤ k) (p2_ : k < nL) (p3_ : wh k ≠ 2) (p4_ : kd k = 4) (p5_ : wy k = op b) (p6_ : ∀ j, 0 ≤ j → j < k → wy j = wy k → wh j ≠ 0) (p7_ : en b = 0) (p8_ : tst (sd b) = (ed b)) (p9_ : st (sd b) = 1) (p10_ : en (op b) ≠ 0) (p11_ : fw b = 0) (p12_ : om (sd (op b)) ≠ (ed b)) (p13_ : 0 ≤ nL) (cL1e : pj_L1e sd op dl dn nL kd wy ll td ls wh) (cR : pj_R W nL kd wy wh) : pj_L1e sd op dl dn nL kd wy ll td ls (pu wh k 2) := by
  obtain ⟨hop, hed⟩ := hG
  unfold pj_L1e pj_R at *
  intro k0
  simp only [pu]
  have g0 := hop b
  have g1 := hop (wy k0)
  have g2 := hed b (wy k0)
  have cL1e_0 := cL1e k
  have cL1e_1 := cL1e k0
  have cR_0 := cR k0
  have f0 := p6_ k
  have f1 := p6_ k0
  clear p6_
  clear hop hed cL1e cR
  grind (splits := 24)

set_option maxHeartbeats 1000000 in
theorem pt_rja_L1o {W : Int → Prop} {sd : Int → Int} {op : Int → Int} {ed : Int → Int} {st : Int → Int} {tst : Int → Int} {om : Int → Int} {en : Int → Int} {fw : Int → Int} {nL : Int} {kd : Int → Int} {wy : Int → Int} {ll : Int → Int} {wh : Int → Int} {b k : Int} (hG : pj_G W sd op ed) (p0_ : W b) (p1_ : 0 ≤ k) (p2_ : k < nL) (p3_ : wh k ≠ 2) (p4_ : kd k = 4) (p5_ : wy k = op b) (p6_ : ∀ j, 0 ≤ j → j < k → wy j = wy k → wh j ≠ 0) (p7_ : en b = 0) (p8_ : tst (sd b) = (ed b)) (p9_ : st (sd b) = 1) (p10_ : en (op b) ≠ 0) (p11_ : fw b = 0) (p12_ : om (sd (op b)) ≠ (ed b)) (p13_ : 0 ≤ nL) (cL1o : pj_L1o nL kd wy ll wh) (cR : pj_R W nL kd wy wh) : pj_L1o nL kd wy ll (pu wh k 2) := by
  obtain ⟨hop, hed⟩ := hG
  unfold pj_L1o pj_R at *
  intro j0 k0
  simp only [pu]
  have g0 := hop b
  have g1 := hop (wy j0)
  have g2 := hop (wy k0)
  have g3 := hed b (wy j0)
  have g4 := hed b (wy k0)
  have g5 := hed (wy j0) (wy k0)
  have cL1o_0 := cL1o k k
  have cL1o_1 := cL1o k j0
  have cL1o_2 := cL1o k k0
  have cL1o_3 := cL1o j0 k
  have cL1o_4 := cL1o j0 j0
  have cL1o_5 := cL1o j0 k0
  have cL1o_6 := cL1o k0 k
  have cL1o_7 := cL1o k0 j0
  have cL1o_8 := cL1o k0 k0
  have cR_0 := cR j0
  have cR_1 := cR k0
  have f0 := p6_ k
  have f1 := p6_ j0
  have f2 := p6_ k0
  clear p6_
  clear hop hed cL1o cR
  grind (splits := 24)

set_option maxHeartbeats 1000000 in
theorem pt_rja_L1b {W : Int → Prop} {sd : Int → Int} {op : Int → Int} {ed : Int → Int} {st : Int → Int} {tst : Int → Int} {om : Int → Int} {en : Int → Int} {pd : Int → Int} {fw : Int → Int} {nL : Int} {kd : Int → Int} {wy : Int → Int} {td : Int → Int} {ls : Int → Int} {wh : Int → Int} {b k : Int} (hG : pj_G W sd op ed) (p0_ : W b) (p1_ : 0 ≤ k) (p2_ : k < nL) (p3_ : wh k ≠ 2) (p4_ : kd k = 4) (p5_ : wy k = op b) (p6_ : ∀ j, 0 ≤ j → j < k → wy j = wy k → wh j ≠ 0) (p7_ : en b = 0) (p8_ : tst (sd b) = (ed b)) (p9_ : st (sd b) = 1) (p10_ : en (op b) ≠ 0) (p11_ : fw b = 0) (p12_ : om (sd (op b)) ≠ (ed b)) (p13_ : 0 ≤ nL) (cL1b : pj_L1b sd ed st om pd nL kd wy td ls wh) (cR : pj_R W nL kd wy wh) : pj_L1b sd ed st om pd nL kd wy td ls (pu wh k 2) := by
  obtain ⟨hop, hed⟩ := hG
  unfold pj_L1b pj_R at *
  intro k0
  simp only [pu]
  have g0 := hop b
  have g1 := hop (wy k0)
  have g2 := hed b (wy k0)
  have cL1b_0 := cL1b k
  have cL1b_1 := cL1b k0
  have cR_0 := cR k0
  have f0 := p6_ k
  have f1 := p6_ k0
  clear p6_
  clear hop hed cL1b cR
  grind (splits := 24)

set_option maxHeartbeats 1000000 in
theorem pt_rja_L1g {W : Int → Prop} {sd : Int → Int} {op : Int → Int} {ed : Int → Int} {st : Int → Int} {tst : Int → Int} {om : Int → Int} {en : Int → Int} {fw : Int → Int} {nL : Int} {kd : Int → Int} {wy : Int → Int} {td : Int → Int} {ls : Int → Int} {wh : Int → Int} {b k : Int} (hG : pj_G W sd op ed) (p0_ : W b) (p1_ : 0 ≤ k) (p2_ : k < nL) (p3_ : wh k ≠ 2) (p4_ : kd k = 4) (p5_ : wy k = op b) (p6_ : ∀ j, 0 ≤ j → j < k → wy j = wy k → wh j ≠ 0) (p7_ : en b = 0) (p8_ : tst (sd b) = (ed b)) (p9_ : st (sd b) = 1) (p10_ : en (op b) ≠ 0) (p11_ : fw b = 0) (p12_ : om (sd (op b)) ≠ (ed b)) (p13_ : 0 ≤ nL) (cL1g : pj_L1g W sd op ed nL kd wy td ls wh) (cR : pj_R W nL kd wy wh) : pj_L1g W sd op ed nL kd wy td ls (pu wh k 2) := by
  obtain ⟨hop, hed⟩ := hG
  unfold pj_L1g pj_R at *
  intro k0 v0
  simp only [pu]
  have g0 := hop b
  have g1 := hop (wy k0)
  have g2 := hop v0
  have g3 := hed b (wy k0)
  have g4 := hed b v0
  have g5 := hed (wy k0) v0
  have cL1g_0 := cL1g k b
  have cL1g_1 := cL1g k (wy k0)
  have cL1g_2 := cL1g k (op (wy k0))
  have cL1g_3 := cL1g k v0
  have cL1g_4 := cL1g k (op v0)
  have cL1g_5 := cL1g k0 b
  have cL1g_6 := cL1g k0 (wy k0)
  have cL1g_7 := cL1g k0 (op (wy k0))
  have cL1g_8 := cL1g k0 v0
  have cL1g_9 := cL1g k0 (op v0)
  have cR_0 := cR k0
  have f0 := p6_ k
  have f1 := p6_ k0
  clear p6_
  clear hop hed cL1g cR
  grind (splits := 24)

set_option maxHeartbeats 1000000 in
theorem pt_rja_L2 {W : Int → Prop} {sd : Int → Int} {op : Int → Int} {ed : Int → Int} {st : Int → Int} {lv : Int → Int} {nm : Int → Int} {tst : Int → Int} {om : Int → Int} {en : Int → Int} {fw : Int → Int} {nL : Int} {kd : Int → Int} {wy : Int → Int} {ll : Int → Int} {td : Int → Int} {wh : Int → Int} {b k : Int} (hG : pj_G W sd op ed) (p0_ : W b) (p1_ : 0 ≤ k) (p2_ : k < nL) (p3_ : wh k ≠ 2) (p4_ : kd k = 4) (p5_ : wy k = op b) (p6_ : ∀ j, 0 ≤ j → j < k → wy j = wy k → wh j ≠ 0) (p7_ : en b = 0) (p8_ : tst (sd b) = (ed b)) (p9_ : st (sd b) = 1) (p10_ : en (op b) ≠ 0) (p11_ : fw b = 0) (p12_ : om (sd (op b)) ≠ (ed b)) (p13_ : 0 ≤ nL) (cR : pj_R W nL kd wy wh) (cCV : pj_CV W sd op ed tst nL kd wy wh) (cL3 : pj_L3 sd op ed st lv nm tst en fw nL kd wy wh) (cL4 : pj_L4 sd op ed st tst en nL kd wy wh) (cL2 : pj_L2 sd op ed st lv nm tst en fw nL kd wy ll td wh) (cRT : pj_RT sd ed tst nL kd wy wh) : pj_L2 sd op ed st lv nm (pu tst (sd b) (-1)) (pu en b 2) (pu fw b 1) nL kd wy ll td (pu wh k 2) := by
  obtain ⟨hop, hed⟩ := hG
  unfold pj_R pj_CV pj_L3 pj_L4 pj_L2 pj_RT at *
  intro k0
  simp only [pu]
  have g0 := hop b
  have g1 := hop (wy k0)
  have g2 := hed b (wy k0)
  have cR_0 := cR k0
  have cCV_0 := cCV b k0 k
  have cCV_1 := cCV (op b) k0 k
  have cL3_0 := cL3 k0
  have cL4_0 := cL4 k0
  have cL2_0 := cL2 k0
  have cRT_0 := cRT k0 k
  have cRT_1 := cRT k k0
  have f0 := p6_ k
  have f1 := p6_ k0
  clear p6_
  clear hop hed cR cCV cL3 cL4 cL2 cRT
  grind (splits := 24)

set_option maxHeartbeats 1000000 in
theorem pt_rja_L3 {W : Int → Prop} {sd : Int → Int} {op : Int → Int} {ed : Int → Int} {st : Int → Int} {lv : Int → Int} {nm : Int → Int} {tst : Int → Int} {om : Int → Int} {en : Int → Int} {fw : Int → Int} {nL : Int} {kd : Int → Int} {wy : Int → Int} {ll : Int → Int} {td : Int → Int} {wh : Int → Int} {b k : Int} (hG : pj_G W sd op ed) (p0_ : W b) (p1_ : 0 ≤ k) (p2_ : k < nL) (p3_ : wh k ≠ 2) (p4_ : kd k = 4) (p5_ : wy k = op b) (p6_ : ∀ j, 0 ≤ j → j < k → wy j = wy k → wh j ≠ 0) (p7_ : en b = 0) (p8_ : tst (sd b) = (ed b)) (p9_ : st (sd b) = 1) (p10_ : en (op b) ≠ 0) (p11_ : fw b = 0) (p12_ : om (sd (op b)) ≠ (ed b)) (p13_ : 0 ≤ nL) (cR : pj_R W nL kd wy wh) (cCV : pj_CV W sd op ed tst nL kd wy wh) (cL3 : pj_L3 sd op ed st lv nm tst en fw nL kd wy wh) (cL4 : pj_L4 sd op ed st tst en nL kd wy wh) (cL2 : pj_L2 sd op ed st lv nm tst en fw nL kd wy ll td wh) (cRT : pj_RT sd ed tst nL kd wy wh) : pj_L3 sd op ed st lv nm (pu tst (sd b) (-1)) (pu en b 2) (pu fw b 1) nL kd wy (pu wh k 2) := by
  obtain ⟨hop, hed⟩ := hG
  unfold pj_R pj_CV pj_L3 pj_L4 pj_L2 pj_RT at *
  intro k0
  simp only [pu]
  have g0 := hop b
  have g1 := hop (wy k0)
  have g2 := hed b (wy k0)
  have cR_0 := cR k0
  have cCV_0 := cCV b k0 k
  have cCV_1 := cCV (op b) k0 k
  have cL3_0 := cL3 k0
  have cL4_0 := cL4 k0
  have cL2_0 := cL2 k0
  have cRT_0 := cRT k0 k
  have cRT_1 := cRT k k0
  have f0 := p6_ k
  have f1 := p6_ k0
  clear p6_
  clear hop hed cR cCV cL3 cL4 cL2 cRT
  grind (splits := 24)

set_option maxHeartbeats 1000000 in
theorem pt_rja_L4 {W : Int → Prop} {sd : Int → Int} {op : Int → Int} {ed : Int → Int} {st : Int → Int} {lv : Int → Int} {nm : Int → Int} {tst : Int → Int} {om : Int → Int} {en : Int → Int} {fw : Int → Int} {nL : Int} {kd : Int → Int} {wy : Int → Int} {ll : Int → Int} {td : Int → Int} {wh : Int → Int} {b k : Int} (hG : pj_G W sd op ed) (p0_ : W b) (p1_ : 0 ≤ k) (p2_ : k < nL) (p3_ : wh k ≠ 2) (p4_ : kd k = 4) (p5_ : wy k = op b) (p6_ : ∀ j, 0 ≤ j → j < k → wy j = wy k → wh j ≠ 0) (p7_ : en b = 0) (p8_ : tst (sd b) = (ed b)) (p9_ : st (sd b) = 1) (p10_ : en (op b) ≠ 0) (p11_ : fw b = 0) (p12_ : om (sd (op b)) ≠ (ed b)) (p13_ : 0 ≤ nL) (cR : pj_R W nL kd wy wh) (cCV : pj_CV W sd op ed tst nL kd wy wh) (cL3 : pj_L3 sd op ed st lv nm tst en fw nL kd wy wh) (cL4 : pj_L4 sd op ed st tst en nL kd wy wh) (cL2 : pj_L2 sd op ed st lv nm tst en fw nL kd wy ll td wh) (cRT : pj_RT sd ed tst nL kd wy wh) : pj_L4 sd op ed st (pu tst (sd b) (-1)) (pu en b 2) nL kd wy (pu wh k 2) := by
  obtain ⟨hop, hed⟩ := hG
  unfold pj_R pj_CV pj_L3 pj_L4 pj_L2 pj_RT at *
  intro k0
  simp only [pu]
  have g0 := hop b
  have g1 := hop (wy k0)
  have g2 := hed b (wy k0)
  have cR_0 := cR k0
  have cCV_0 := cCV b k0 k
  have cCV_1 := cCV (op b) k0 k
  have cL3_0 := cL3 k0
  have cL4_0 := cL4 k0
  have cL2_0 := cL2 k0
  have cRT_0 := cRT k0 k
  have cRT_1 := cRT k k0
  have f0 := p6_ k
  have f1 := p6_ k0
  clear p6_
  clear hop hed cR cCV cL3 cL4 cL2 cRT
  grind (splits := 24)

set_option maxHeartbeats 1000000 in
theorem pt_rja_AF {W : Int → Prop} {sd : Int → Int} {op : Int → Int} {ed : Int → Int} {st : Int → Int} {tst : Int → Int} {om : Int → Int} {af : Int → Int} {en : Int → Int} {fw : Int → Int} {nL : Int} {kd : Int → Int} {wy : Int → Int} {wh : Int → Int} {b k : Int} (hG : pj_G W sd op ed) (p0_ : W b) (p1_ : 0 ≤ k) (p2_ : k < nL) (p3_ : wh k ≠ 2) (p4_ : kd k = 4) (p5_ : wy k = op b) (p6_ : ∀ j, 0 ≤ j → j < k → wy j = wy k → wh j ≠ 0) (p7_ : en b = 0) (p8_ : tst (sd b) = (ed b)) (p9_ : st (sd b) = 1) (p10_ : en (op b) ≠ 0) (p11_ : fw b = 0) (p12_ : om (sd (op b)) ≠ (ed b)) (p13_ : 0 ≤ nL) (cAF : pj_AF W sd op ed tst af nL kd wy wh) : pj_AF W sd op ed (pu tst (sd b) (-1)) af nL kd wy (pu wh k 2) := by
  obtain ⟨hop, hed⟩ := hG
  unfold pj_AF at *
  intro v0
  simp only [pu]
  have g0 := hop b
  have g1 := hop v0
  have g2 := hed b v0
  have cAF_0 := cAF b
  have cAF_1 := cAF v0
  have cAF_2 := cAF (op v0)
  have f0 := p6_ k
  clear p6_
  clear hop hed cAF
  grind (splits := 24)

set_option maxHeartbeats 1000000 in
theorem pt_rja_RT {W : Int → Prop} {sd : Int → Int} {op : Int → Int} {ed : Int → Int} {st : Int → Int} {lv : Int → Int} {nm : Int → Int} {tst : Int → Int} {om : Int → Int} {en : Int → Int} {fw : Int → Int} {nL : Int} {kd : Int → Int} {wy : Int → Int} {ll : Int → Int} {td : Int → Int} {wh : Int → Int} {b k : Int} (hG : pj_G W sd op ed) (p0_ : W b) (p1_ : 0 ≤ k) (p2_ : k < nL) (p3_ : wh k ≠ 2) (p4_ : kd k = 4) (p5_ : wy k = op b) (p6_ : ∀ j, 0 ≤ j → j < k → wy j = wy k → wh j ≠ 0) (p7_ : en b = 0) (p8_ : tst (sd b) = (ed b)) (p9_ : st (sd b) = 1) (p10_ : en (op b) ≠ 0) (p11_ : fw b = 0) (p12_ : om (sd (op b)) ≠ (ed b)) (p13_ : 0 ≤ nL) (cRT : pj_RT sd ed tst nL kd wy wh) (cR : pj_R W nL kd wy wh) (cCV : pj_CV W sd op ed tst nL kd wy wh) (cL2 : pj_L2 sd op ed st lv nm tst en fw nL kd wy ll td wh) (cL4 : pj_L4 sd op ed st tst en nL kd wy wh) : pj_RT sd ed (pu tst (sd b) (-1)) nL kd wy (pu wh k 2) := by
  obtain ⟨hop, hed⟩ := hG
  unfold pj_RT pj_R pj_CV pj_L2 pj_L4 at *
  intro j0 k0
  simp only [pu]
  have g0 := hop b
  have g1 := hop (wy j0)
  have g2 := hop (wy k0)
  have g3 := hed b (wy j0)
  have g4 := hed b (wy k0)
  have g5 := hed (wy j0) (wy k0)
  have cRT_0 := cRT k k
  have cRT_1 := cRT k j0
  have cRT_2 := cRT k k0
  have cRT_3 := cRT j0 k
  have cRT_4 := cRT j0 j0
  have cRT_5 := cRT j0 k0
  have cRT_6 := cRT k0 k
  have cRT_7 := cRT k0 j0
  have cRT_8 := cRT k0 k0
  have cR_0 := cR j0
  have cR_1 := cR k0
  have cCV_0 := cCV b j0 k
  have cCV_1 := cCV (op b) j0 k
  have cCV_2 := cCV b k0 k
  have cCV_3 := cCV (op b) k0 k
  have cL2_0 := cL2 k
  have cL2_1 := cL2 j0
  have cL2_2 := cL2 k0
  have cL4_0 := cL4 k
  have cL4_1 := cL4 j0
  have cL4_2 := cL4 k0
  have f0 := p6_ k
  have f1 := p6_ j0
  have f2 := p6_ k0
  clear p6_
  clear hop hed cRT cR cCV cL2 cL4
  grind (splits := 24)

set_option maxHeartbeats 1000000 in
theorem pt_rja_CV {W : Int → Prop} {sd : Int → Int} {op : Int → Int} {ed : Int → Int} {st : Int → Int} {tst : Int → Int} {om : Int → Int} {en : Int → Int} {fw : Int → Int} {nL : Int} {kd : Int → Int} {wy : Int → Int} {wh : Int → Int} {b k : Int} (hG : pj_G W sd op ed) (p0_ : W b) (p1_ : 0 ≤ k) (p2_ : k < nL) (p3_ : wh k ≠ 2) (p4_ : kd k = 4) (p5_ : wy k = op b) (p6_ : ∀ j, 0 ≤ j → j < k → wy j = wy k → wh j ≠ 0) (p7_ : en b = 0) (p8_ : tst (sd b) = (ed b)) (p9_ : st (sd b) = 1) (p10_ : en (op b) ≠ 0) (p11_ : fw b = 0) (p12_ : om (sd (op b)) ≠ (ed b)) (p13_ : 0 ≤ nL) (cR : pj_R W nL kd wy wh) (cCV : pj_CV W sd op ed tst nL kd wy wh) : pj_CV W sd op ed (pu tst (sd b) (-1)) nL kd wy (pu wh k 2) := by
  obtain ⟨hop, hed⟩ := hG
  unfold pj_R pj_CV at *
  intro v0 j0 k0
  simp only [pu]
  have g0 := hop b
  have g1 := hop v0
  have g2 := hop (wy j0)
  have g3 := hop (wy k0)
  have g4 := hed b v0
  have g5 := hed b (wy j0)
  have g6 := hed b (wy k0)
  have g7 := hed v0 (wy j0)
  have g8 := hed v0 (wy k0)
  have g9 := hed (wy j0) (wy k0)
  have cR_0 := cR j0
  have cR_1 := cR k0
  have cCV_0 := cCV v0 j0 k0
  have cCV_1 := cCV b j0 k
  have cCV_2 := cCV b k0 k
  have cCV_3 := cCV (op b) j0 k
  have cCV_4 := cCV (op b) k0 k
  have f0 := p6_ k
  have f1 := p6_ j0
  have f2 := p6_ k0
  clear p6_
  clear hop hed cR cCV
  grind (splits := 24)

set_option maxHeartbeats 1000000 in
theorem pt_rja_L5 {W : Int → Prop} {sd : Int → Int} {op : Int → Int} {ed : Int → Int} {st : Int → Int} {lv : Int → Int} {nm : Int → Int} {inw : Int → Int} {bst : Int → Int} {tst : Int → Int} {om : Int → Int} {ps : Int → Int} {dl : Int → Int} {en : Int → Int} {pd : Int → Int} {rp : Int → Int} {rv : Int → Int} {fw : Int → Int} {cl : Int → Int} {tk : Int → Int} {nL : Int} {kd : Int → Int} {wy : Int → Int} {td : Int → Int} {wh : Int → Int} {b k : Int} (hG : pj_G W sd op ed) (p0_ : W b) (p1_ : 0 ≤ k) (p2_ : k < nL) (p3_ : wh k ≠ 2) (p4_ : kd k = 4) (p5_ : wy k = op b) (p6_ : ∀ j, 0 ≤ j → j < k → wy j = wy k → wh j ≠ 0) (p7_ : en b = 0) (p8_ : tst (sd b) = (ed b)) (p9_ : st (sd b) = 1) (p10_ : en (op b) ≠ 0) (p11_ : fw b = 0) (p12_ : om (sd (op b)) ≠ (ed b)) (p13_ : 0 ≤ nL) (cL5 : pj_L5 sd op ed st lv nm inw bst om ps dl pd rp rv cl tk nL kd wy td wh) (cR : pj_R W nL kd wy wh) : pj_L5 sd op ed st lv nm inw bst om ps dl pd rp rv cl tk nL kd wy td (pu wh k 2) := by
  obtain ⟨hop, hed⟩ := hG
  unfold pj_L5 pj_R at *
  intro k0
  simp only [pu]
  have g0 := hop b
  have g1 := hop (wy k0)
  have g2 := hed b (wy k0)
  have cL5_0 := cL5 k
  have cL5_1 := cL5 k0
  have cR_0 := cR k0
  have f0 := p6_ k
  have f1 := p6_ k0
  clear p6_
  clear hop hed cL5 cR
  grind (splits := 24)

set_option maxHeartbeats 1000000 in
theorem pt_rja_L5o {W : Int → Prop} {sd : Int → Int} {op : Int → Int} {ed : Int → Int} {st : Int → Int} {lv : Int → Int} {tst : Int → Int} {om : Int → Int} {en : Int → Int} {fw : Int → Int} {cl : Int → Int} {nL : Int} {kd : Int → Int} {wy : Int → Int} {wh : Int → Int} {b k : Int} (hG : pj_G W sd op ed) (p0_ : W b) (p1_ : 0 ≤ k) (p2_ : k < nL) (p3_ : wh k ≠ 2) (p4_ : kd k = 4) (p5_ : wy k = op b) (p6_ : ∀ j, 0 ≤ j → j < k → wy j = wy k → wh j ≠ 0) (p7_ : en b = 0) (p8_ : tst (sd b) = (ed b)) (p9_ : st (sd b) = 1) (p10_ : en (op b) ≠ 0) (p11_ : fw b = 0) (p12_ : om (sd (op b)) ≠ (ed b)) (p13_ : 0 ≤ nL) (cL5o : pj_L5o sd op ed lv cl nL kd wy wh) (cR : pj_R W nL kd wy wh) : pj_L5o sd op ed lv cl nL kd wy (pu wh k 2) := by
  obtain ⟨hop, hed⟩ := hG
  unfold pj_L5o pj_R at *
  intro j0 k0
  simp only [pu]
  have g0 := hop b
  have g1 := hop (wy j0)
  have g2 := hop (wy k0)
  have g3 := hed b (wy j0)
  have g4 := hed b (wy k0)
  have g5 := hed (wy j0) (wy k0)
  have cL5o_0 := cL5o k k
  have cL5o_1 := cL5o k j0
  have cL5o_2 := cL5o k k0
  have cL5o_3 := cL5o j0 k
  have cL5o_4 := cL5o j0 j0
  have cL5o_5 := cL5o j0 k0
  have cL5o_6 := cL5o k0 k
  have cL5o_7 := cL5o k0 j0
  have cL5o_8 := cL5o k0 k0
  have cR_0 := cR j0
  have cR_1 := cR k0
  have f0 := p6_ k
  have f1 := p6_ j0
  have f2 := p6_ k0
  clear p6_
  clear hop hed cL5o cR
  grind (splits := 24)

set_option maxHeartbeats 1000000 in
theorem pt_rja_L5u {W : Int → Prop} {sd : Int → Int} {op : Int → Int} {ed : Int → Int} {st : Int → Int} {tst : Int → Int} {om : Int → Int} {en : Int → Int} {fw : Int → Int} {nL : Int} {kd : Int → Int} {wy : Int → Int} {wh : Int → Int} {b k : Int} (hG : pj_G W sd op ed) (p0_ : W b) (p1_ : 0 ≤ k) (p2_ : k < nL) (p3_ : wh k ≠ 2) (p4_ : kd k = 4) (p5_ : wy k = op b) (p6_ : ∀ j, 0 ≤ j → j < k → wy j = wy k → wh j ≠ 0) (p7_ : en b = 0) (p8_ : tst (sd b) = (ed b)) (p9_ : st (sd b) = 1) (p10_ : en (op b) ≠ 0) (p11_ : fw b = 0) (p12_ : om (sd (op b)) ≠ (ed b)) (p13_ : 0 ≤ nL) (cL5u : pj_L5u nL kd wy wh) (cR : pj_R W nL kd wy wh) : pj_L5u nL kd wy (pu wh k 2) := by
  obtain ⟨hop, hed⟩ := hG
  unfold pj_L5u pj_R at *
  intro j0 k0
  simp only [pu]
  have g0 := hop b
  have g1 := hop (wy j0)
  have g2 := hop (wy k0)
  have g3 := hed b (wy j0)
  have g4 := hed b (wy k0)
  have g5 := hed (wy j0) (wy k0)
  have cL5u_0 := cL5u k k
  have cL5u_1 := cL5u k j0
  have cL5u_2 := cL5u k k0
  have cL5u_3 := cL5u j0 k
  have cL5u_4 := cL5u j0 j0
  have cL5u_5 := cL5u j0 k0
  have cL5u_6 := cL5u k0 k
  have cL5u_7 := cL5u k0 j0
  have cL5u_8 := cL5u k0 k0
  have cR_0 := cR j0
  have cR_1 := cR k0
  have f0 := p6_ k
  have f1 := p6_ j0
  have f2 := p6_ k0
  clear p6_
  clear hop hed cL5u cR
  grind (splits := 24)

set_option maxHeartbeats 1000000 in
theorem pt_rja_L6 {W : Int → Prop} {sd : Int → Int} {op : Int → Int} {ed : Int → Int} {st : Int → Int} {lv : Int → Int} {nm : Int → Int} {tow : Int → Int} {tst : Int → Int} {om : Int → Int} {ps : Int → Int} {dl : Int → Int} {en : Int → Int} {fw : Int → Int} {cw : Int → Int} {tk : Int → Int} {nL : Int} {kd : Int → Int} {wy : Int → Int} {wh : Int → Int} {b k : Int} (hG : pj_G W sd op ed) (p0_ : W b) (p1_ : 0 ≤ k) (p2_ : k < nL) (p3_ : wh k ≠ 2) (p4_ : kd k = 4) (p5_ : wy k = op b) (p6_ : ∀ j, 0 ≤ j → j < k → wy j = wy k → wh j ≠ 0) (p7_ : en b = 0) (p8_ : tst (sd b) = (ed b)) (p9_ : st (sd b) = 1) (p10_ : en (op b) ≠ 0) (p11_ : fw b = 0) (p12_ : om (sd (op b)) ≠ (ed b)) (p13_ : 0 ≤ nL) (cL6 : pj_L6 sd op ed st lv nm tow om ps dl cw tk nL kd wy wh) (cR : pj_R W nL kd wy wh) : pj_L6 sd op ed st lv nm tow om ps dl cw tk nL kd wy (pu wh k 2) := by
  obtain ⟨hop, hed⟩ := hG
  unfold pj_L6 pj_R at *
  intro k0
  simp only [pu]
  have g0 := hop b
  have g1 := hop (wy k0)
  have g2 := hed b (wy k0)
  have cL6_0 := cL6 k
  have cL6_1 := cL6 k0
  have cR_0 := cR k0
  have f0 := p6_ k
  have f1 := p6_ k0
  clear p6_
  clear hop hed cL6 cR
  grind (splits := 24)

set_option maxHeartbeats 1000000 in
theorem pt_rja_L6u {W : Int → Prop} {sd : Int → Int} {op : Int → Int} {ed : Int → Int} {st : Int → Int} {nm : Int → Int} {tst : Int → Int} {om : Int → Int} {en : Int → Int} {fw : Int → Int} {nL : Int} {kd : Int → Int} {wy : Int → Int} {wh : Int → Int} {b k : Int} (hG : pj_G W sd op ed) (p0_ : W b) (p1_ : 0 ≤ k) (p2_ : k < nL) (p3_ : wh k ≠ 2) (p4_ : kd k = 4) (p5_ : wy k = op b) (p6_ : ∀ j, 0 ≤ j → j < k → wy j = wy k → wh j ≠ 0) (p7_ : en b = 0) (p8_ : tst (sd b) = (ed b)) (p9_ : st (sd b) = 1) (p10_ : en (op b) ≠ 0) (p11_ : fw b = 0) (p12_ : om (sd (op b)) ≠ (ed b)) (p13_ : 0 ≤ nL) (cL6u : pj_L6u sd op nm nL kd wy wh) (cR : pj_R W nL kd wy wh) : pj_L6u sd op nm nL kd wy (pu wh k 2) := by
  obtain ⟨hop, hed⟩ := hG
  unfold pj_L6u pj_R at *
  intro j0 k0
  simp only [pu]
  have g0 := hop b
  have g1 := hop (wy j0)
  have g2 := hop (wy k0)
  have g3 := hed b (wy j0)
  have g4 := hed b (wy k0)
  have g5 := hed (wy j0) (wy k0)
  have cL6u_0 := cL6u k k
  have cL6u_1 := cL6u k j0
  have cL6u_2 := cL6u k k0
  have cL6u_3 := cL6u j0 k
  have cL6u_4 := cL6u j0 j0
  have cL6u_5 := cL6u j0 k0
  have cL6u_6 := cL6u k0 k
  have cL6u_7 := cL6u k0 j0
  have cL6u_8 := cL6u k0 k0
  have cR_0 := cR j0
  have cR_1 := cR k0
  have f0 := p6_ k
  have f1 := p6_ j0
  have f2 := p6_ k0
  clear p6_
  clear hop hed cL6u cR
  grind (splits := 24)

theorem pj_rja {W : Int → Prop} {sd op ed : Int → Int} {li : Int → Int → Prop} {st lv nm inw tow bst tst exp om ps dl dn af c0 en pd rp rv fw cl cw tk kd wy ll td ls wh : Int → Int} {nL : Int} {F F2 : Int → Prop} {fl fc : Int} {b k : Int} (hG : pj_G W sd op ed) (p0_ : W b) (p1_ : 0 ≤ k) (p2_ : k < nL) (p3_ : wh k ≠ 2) (p4_ : kd k = 4) (p5_ : wy k = op b) (p6_ : ∀ j, 0 ≤ j → j < k → wy j = wy k → wh j ≠ 0) (p7_ : en b = 0) (p8_ : tst (sd b) = (ed b)) (p9_ : st (sd b) = 1) (p10_ : en (op b) ≠ 0) (p11_ : fw b = 0) (p12_ : om (sd (op b)) ≠ (ed b)) (p13_ : 0 ≤ nL) (h : pj_J W sd op ed li st lv nm inw tow bst tst exp om ps dl dn af c0 en pd rp rv fw cl cw tk nL kd wy ll td ls wh F fl fc) : pj_J W sd op ed li st lv nm inw tow bst (pu tst (sd b) (-1)) exp om ps dl dn af c0 (pu en b 2) pd rp rv (pu fw b 1) cl cw tk nL kd wy ll td ls (pu wh k 2) F fl fc := by
  obtain ⟨cR, cN0, cN1, cN1w, cER, cN1c, cN2, cN2e, cN2b, cN4e, cN4b, cN5, cN7, cN10, cN10e, cN13, cC1, cC2, cR3a, cE1, cU, cA1, cA2, cEC, cR3, cN11, cN12, cN3, cRJ, cFW, cPD, cCC, cCD, cRP, cRP1, cCR, cZ1, cZ0, cTK, cK2, cWH, cFI, cL0, cFC, cL0u, cOC, cCT, cL1, cL1e, cL1o, cL1b, cL1g, cL2, cL3, cL4, cAF, cRT, cCV, cL5, cL5o, cL5u, cL6, cL6u⟩ := h
  exact ⟨pt_rja_R hG p0_ p1_ p2_ p3_ p4_ p5_ p6_ p7_ p8_ p9_ p10_ p11_ p12_ p13_ cR, cN0, cN1, pt_rja_N1w hG p0_ p1_ p2_ p3_ p4_ p5_ p6_ p7_ p8_ p9_ p10_ p11_ p12_ p13_ cN1w, pt_rja_ER hG p0_ p1_ p2_ p3_ p4_ p5_ p6_ p7_ p8_ p9_ p10_ p11_ p12_ p13_ cER, pt_rja_N1c hG p0_ p1_ p2_ p3_ p4_ p5_ p6_ p7_ p8_ p9_ p10_ p11_ p12_ p13_ cN1c cR, pt_rja_N2 hG p0_ p1_ p2_ p3_ p4_ p5_ p6_ p7_ p8_ p9_ p10_ p11_ p12_ p13_ cN2, cN2e, cN2b, cN4e, cN4b, cN5, pt_rja_N7 hG p0_ p1_ p2_ p3_ p4_ p5_ p6_ p7_ p8_ p9_ p10_ p11_ p12_ p13_ cN7, cN10, cN10e, cN13, cC1, cC2, cR3a, pt_rja_E1 hG p0_ p1_ p2_ p3_ p4_ p5_ p6_ p7_ p8_ p9_ p10_ p11_ p12_ p13_ cE1, pt_rja_U hG p0_ p1_ p2_ p3_ p4_ p5_ p6_ p7_ p8_ p9_ p10_ p11_ p12_ p13_ cU, pt_rja_A1 hG p0_ p1_ p2_ p3_ p4_ p5_ p6_ p7_ p8_ p9_ p10_ p11_ p12_ p13_ cA1, cA2, pt_rja_EC hG p0_ p1_ p2_ p3_ p4_ p5_ p6_ p7_ p8_ p9_ p10_ p11_ p12_ p13_ cEC, cR3, pt_rja_N11 hG p0_ p1_ p2_ p3_ p4_ p5_ p6_ p7_ p8_ p9_ p10_ p11_ p12_ p13_ cN11, pt_rja_N12 hG p0_ p1_ p2_ p3_ p4_ p5_ p6_ p7_ p8_ p9_ p10_ p11_ p12_ p13_ cN12, pt_rja_N3 hG p0_ p1_ p2_ p3_ p4_ p5_ p6_ p7_ p8_ p9_ p10_ p11_ p12_ p13_ cN3, pt_rja_RJ hG p0_ p1_ p2_ p3_ p4_ p5_ p6_ p7_ p8_ p9_ p10_ p11_ p12_ p13_ cRJ, pt_rja_FW hG p0_ p1_ p2_ p3_ p4_ p5_ p6_ p7_ p8_ p9_ p10_ p11_ p12_ p13_ cFW, pt_rja_PD hG p0_ p1_ p2_ p3_ p4_ p5_ p6_ p7_ p8_ p9_ p10_ p11_ p12_ p13_ cPD, pt_rja_CC hG p0_ p1_ p2_ p3_ p4_ p5_ p6_ p7_ p8_ p9_ p10_ p11_ p12_ p13_ cCC, cCD, cRP, cRP1, cCR, cZ1, cZ0, cTK, cK2, pt_rja_WH hG p0_ p1_ p2_ p3_ p4_ p5_ p6_ p7_ p8_ p9_ p10_ p11_ p12_ p13_ cWH cR, pt_rja_FI hG p0_ p1_ p2_ p3_ p4_ p5_ p6_ p7_ p8_ p9_ p10_ p11_ p12_ p13_ cFI cR, pt_rja_L0 hG p0_ p1_ p2_ p3_ p4_ p5_ p6_ p7_ p8_ p9_ p10_ p11_ p12_ p13_ cL0 cR, pt_rja_FC hG p0_ p1_ p2_ p3_ p4_ p5_ p6_ p7_ p8_ p9_ p10_ p11_ p12_ p13_ cFC cR, pt_rja_L0u hG p0_ p1_ p2_ p3_ p4_ p5_ p6_ p7_ p8_ p9_ p10_ p11_ p12_ p13_ cL0u cR, pt_rja_OC hG p0_ p1_ p2_ p3_ p4_ p5_ p6_ p7_ p8_ p9_ p10_ p11_ p12_ p13_ cOC cR, pt_rja_CT hG p0_ p1_ p2_ p3_ p4_ p5_ p6_ p7_ p8_ p9_ p10_ p11_ p12_ p13_ cCT cR, pt_rja_L1 hG p0_ p1_ p2_ p3_ p4_ p5_ p6_ p7_ p8_ p9_ p10_ p11_ p12_ p13_ cL1 cR, pt_rja_L1e hG p0_ p1_ p2_ p3_ p4_ p5_ p6_ p7_ p8_ p9_ p10_ p11_ p12_ p13_ cL1e cR, pt_rja_L1o hG p0_ p1_ p2_ p3_ p4_ p5_ p6_ p7_ p8_ p9_ p10_ p11_ p12_ p13_ cL1o cR, pt_rja_L1b hG p0_ p1_ p2_ p3_ p4_ p5_ p6_ p7_ p8_ p9_ p10_ p11_ p12_ p13_ cL1b cR, pt_rja_L1g hG p0_ p1_ p2_ p3_ p4_ p5_ p6_ p7_ p8_ p9_ p10_ p11_ p12_ p13_ cL1g cR, pt_rja_L2 hG p0_ p1_ p2_ p3_ p4_ p5_ p6_ p7_ p8_ p9_ p10_ p11_ p12_ p13_ cR cCV cL3 cL4 cL2 cRT, pt_rja_L3 hG p0_ p1_ p2_ p3_ p4_ p5_ p6_ p7_ p8_ p9_ p10_ p11_ p12_ p13_ cR cCV cL3 cL4 cL2 cRT, pt_rja_L4 hG p0_ p1_ p2_ p3_ p4_ p5_ p6_ p7_ p8_ p9_ p10_ p11_ p12_ p13_ cR cCV cL3 cL4 cL2 cRT, pt_rja_AF hG p0_ p1_ p2_ p3_ p4_ p5_ p6_ p7_ p8_ p9_ p10_ p11_ p12_ p13_ cAF, pt_rja_RT hG p0_ p1_ p2_ p3_ p4_ p5_ p6_ p7_ p8_ p9_ p10_ p11_ p12_ p13_ cRT cR cCV cL2 cL4, pt_rja_CV hG p0_ p1_ p2_ p3_ p4_ p5_ p6_ p7_ p8_ p9_ p10_ p11_ p12_ p13_ cR cCV, pt_rja_L5 hG p0_ p1_ p2_ p3_ p4_ p5_ p6_ p7_ p8_ p9_ p10_ p11_ p12_ p13_ cL5 cR, pt_rja_L5o hG p0_ p1_ p2_ p3_ p4_ p5_ p6_ p7_ p8_ p9_ p10_ p11_ p12_ p13_ cL5o cR, pt_rja_L5u hG p0_ p1_ p2_ p3_ p4_ p5_ p6_ p7_ p8_ p9_ p10_ p11_ p12_ p13_ cL5u cR, pt_rja_L6 hG p0_ p1_ p2_ p3_ p4_ p5_ p6_ p7_ p8_ p9_ p10_ p11_ p12_ p13_ cL6 cR, pt_rja_L6u hG p0_ p1_ p2_ p3_ p4_ p5_ p6_ p7_ p8_ p9_ p10_ p11_ p12_ p13_ cL6u cR⟩

set_option maxHeartbeats 1000000 in
theorem pt_rjb_R {W : Int → Prop} {sd : Int → Int} {op : Int → Int} {ed : Int → Int} {st : Int → Int} {tst : Int → Int} {en : Int → Int} {fw : Int → Int} {nL : Int} {kd : Int → Int} {wy : Int → Int} {wh : Int → Int} {b k : Int} (hG : pj_G W sd op ed) (p0_ : W b) (p1_ : 0 ≤ k) (p2_ : k < nL) (p3_ : wh k ≠ 2) (p4_ : kd k = 4) (p5_ : wy k = op b) (p6_ : ∀ j, 0 ≤ j → j < k → wy j = wy k → wh j ≠ 0) (p7_ : en b ≠ 0) (p8_ : tst (sd b) = (ed b)) (p9_ : st (sd b) = 1) (p10_ : en (op b) ≠ 0) (p11_ : fw b = 0) (p12_ : 0 ≤ nL) (cR : pj_R W nL kd wy wh) : pj_R W nL kd wy (pu wh k 2) := by
  obtain ⟨hop, hed⟩ := hG
  unfold pj_R at *
  intro k0
  simp only [pu]
  have g0 := hop b
  have g1 := hop (wy k0)
  have g2 := hed b (wy k0)
  have cR_0 := cR k
  have cR_1 := cR k0
  have f0 := p6_ k
  have f1 := p6_ k0
  clear p6_
  clear hop hed cR
  grind (splits := 24)

set_option maxHeartbeats 1000000 in
theorem pt_rjb_N1c {W : Int → Prop} {sd : Int → Int} {op : Int → Int} {ed : Int → Int} {st : Int → Int} {tst : Int → Int} {en : Int → Int} {fw : Int → Int} {nL : Int} {kd : Int → Int} {wy : Int → Int} {wh : Int → Int} {b k : Int} (hG : pj_G W sd op ed) (p0_ : W b) (p1_ : 0 ≤ k) (p2_ : k < nL) (p3_ : wh k ≠ 2) (p4_ : kd k = 4) (p5_ : wy k = op b) (p6_ : ∀ j, 0 ≤ j → j < k → wy j = wy k → wh j ≠ 0) (p7_ : en b ≠ 0) (p8_ : tst (sd b) = (ed b)) (p9_ : st (sd b) = 1) (p10_ : en (op b) ≠ 0) (p11_ : fw b = 0) (p12_ : 0 ≤ nL) (cN1c : pj_N1c sd op st nL wy wh) (cR : pj_R W nL kd wy wh) : pj_N1c sd op st nL wy (pu wh k 2) := by
  obtain ⟨hop, hed⟩ := hG
  unfold pj_N1c pj_R at *
  intro k0
  simp only [pu]
  have g0 := hop b
  have g1 := hop (wy k0)
  have g2 := hed b (wy k0)
  have cN1c_0 := cN1c k
  have cN1c_1 := cN1c k0
  have cR_0 := cR k0
  have f0 := p6_ k
  have f1 := p6_ k0
  clear p6_
  clear hop hed cN1c cR
  grind (splits := 24)

set_option maxHeartbeats 1000000 in
theorem pt_rjb_N7 {W : Int → Prop} {sd : Int → Int} {op : Int → Int} {ed : Int → Int} {st : Int → Int} {tst : Int → Int} {exp : Int → Int} {en : Int → Int} {fw : Int → Int} {nL : Int} {kd : Int → Int} {wy : Int → Int} {wh : Int → Int} {b k : Int} (hG : pj_G W sd op ed) (p0_ : W b) (p1_ : 0 ≤ k) (p2_ : k < nL) (p3_ : wh k ≠ 2) (p4_ : kd k = 4) (p5_ : wy k = op b) (p6_ : ∀ j, 0 ≤ j → j < k → wy j = wy k → wh j ≠ 0) (p7_ : en b ≠ 0) (p8_ : tst (sd b) = (ed b)) (p9_ : st (sd b) = 1) (p10_ : en (op b) ≠ 0) (p11_ : fw b = 0) (p12_ : 0 ≤ nL) (cN7 : pj_N7 st tst exp) : pj_N7 st (pu tst (sd b) (-1)) exp := by
  obtain ⟨hop, hed⟩ := hG
  unfold pj_N7 at *
  intro n0
  simp only [pu]
  have g0 := hop b
  have cN7_0 := cN7 (sd (op b))
  have cN7_1 := cN7 n0
  have cN7_2 := cN7 (sd b)
  have f0 := p6_ k
  clear p6_
  clear hop hed cN7
  grind (splits := 24)

set_option maxHeartbeats 1000000 in
theorem pt_rjb_E1 {W : Int → Prop} {sd : Int → Int} {op : Int → Int} {ed : Int → Int} {st : Int → Int} {lv : Int → Int} {tst : Int → Int} {dl : Int → Int} {en : Int → Int} {fw : Int → Int} {nL : Int} {kd : Int → Int} {wy : Int → Int} {ll : Int → Int} {wh : Int → Int} {b k : Int} (hG : pj_G W sd op ed) (p0_ : W b) (p1_ : 0 ≤ k) (p2_ : k < nL) (p3_ : wh k ≠ 2) (p4_ : kd k = 4) (p5_ : wy k = op b) (p6_ : ∀ j, 0 ≤ j → j < k → wy j = wy k → wh j ≠ 0) (p7_ : en b ≠ 0) (p8_ : tst (sd b) = (ed b)) (p9_ : st (sd b) = 1) (p10_ : en (op b) ≠ 0) (p11_ : fw b = 0) (p12_ : 0 ≤ nL) (cE1 : pj_E1 sd op lv dl nL kd wy ll wh) : pj_E1 sd op lv dl nL kd wy ll (pu wh k 2) := by
  obtain ⟨hop, hed⟩ := hG
  unfold pj_E1 at *
  intro n0
  simp only [pu]
  have g0 := hop b
  have cE1_0 := cE1 (sd (op b))
  have cE1_1 := cE1 n0
  have cE1_2 := cE1 (sd b)
  have f0 := p6_ k
  clear p6_
  clear hop hed cE1
  grind (splits := 24)

set_option maxHeartbeats 1000000 in
theorem pt_rjb_EC {W : Int → Prop} {sd : Int → Int} {op : Int → Int} {ed : Int → Int} {st : Int → Int} {lv : Int → Int} {nm : Int → Int} {tst : Int → Int} {om : Int → Int} {ps : Int → Int} {dl : Int → Int} {en : Int → Int} {fw : Int → Int} {nL : Int} {kd : Int → Int} {wy : Int → Int} {wh : Int → Int} {F : Int → Prop} {b k : Int} (hG : pj_G W sd op ed) (p0_ : W b) (p1_ : 0 ≤ k) (p2_ : k < nL) (p3_ : wh k ≠ 2) (p4_ : kd k = 4) (p5_ : wy k = op b) (p6_ : ∀ j, 0 ≤ j → j < k → wy j = wy k → wh j ≠ 0) (p7_ : en b ≠ 0) (p8_ : tst (sd b) = (ed b)) (p9_ : st (sd b) = 1) (p10_ : en (op b) ≠ 0) (p11_ : fw b = 0) (p12_ : 0 ≤ nL) (cEC : pj_EC W sd op ed lv nm om ps dl nL kd wy wh F) : pj_EC W sd op ed lv nm om ps dl nL kd wy (pu wh k 2) F := by
  obtain ⟨hop, hed⟩ := hG
  unfold pj_EC at *
  intro w0
  simp only [pu]
  have g0 := hop b
  have g1 := hop w0
  have g2 := hed b w0
  have cEC_0 := cEC b
  have cEC_1 := cEC w0
  have cEC_2 := cEC (op w0)
  have f0 := p6_ k
  clear p6_
  clear hop hed cEC
  grind (splits := 24)

set_option maxHeartbeats 1000000 in
theorem pt_rjb_N11 {W : Int → Prop} {sd : Int → Int} {op : Int → Int} {ed : Int → Int} {st : Int → Int} {lv : Int → Int} {nm : Int → Int} {tow : Int → Int} {tst : Int → Int} {ps : Int → Int} {en : Int → Int} {fw : Int → Int} {nL : Int} {kd : Int → Int} {wy : Int → Int} {wh : Int → Int} {b k : Int} (hG : pj_G W sd op ed) (p0_ : W b) (p1_ : 0 ≤ k) (p2_ : k < nL) (p3_ : wh k ≠ 2) (p4_ : kd k = 4) (p5_ : wy k = op b) (p6_ : ∀ j, 0 ≤ j → j < k → wy j = wy k → wh j ≠ 0) (p7_ : en b ≠ 0) (p8_ : tst (sd b) = (ed b)) (p9_ : st (sd b) = 1) (p10_ : en (op b) ≠ 0) (p11_ : fw b = 0) (p12_ : 0 ≤ nL) (cN11 : pj_N11 W sd op ed lv nm tow tst ps en) : pj_N11 W sd op ed lv nm tow (pu tst (sd b) (-1)) ps en := by
  obtain ⟨hop, hed⟩ := hG
  unfold pj_N11 at *
  intro w0
  simp only [pu]
  have g0 := hop b
  have g1 := hop w0
  have g2 := hed b w0
  have cN11_0 := cN11 b
  have cN11_1 := cN11 w0
  have cN11_2 := cN11 (op w0)
  have f0 := p6_ k
  clear p6_
  clear hop hed cN11
  grind (splits := 24)

set_option maxHeartbeats 1000000 in
theorem pt_rjb_RJ {W : Int → Prop} {sd : Int → Int} {op : Int → Int} {ed : Int → Int} {st : Int → Int} {tst : Int → Int} {en : Int → Int} {fw : Int → Int} {nL : Int} {kd : Int → Int} {wy : Int → Int} {wh : Int → Int} {b k : Int} (hG : pj_G W sd op ed) (p0_ : W b) (p1_ : 0 ≤ k) (p2_ : k < nL) (p3_ : wh k ≠ 2) (p4_ : kd k = 4) (p5_ : wy k = op b) (p6_ : ∀ j, 0 ≤ j → j < k → wy j = wy k → wh j ≠ 0) (p7_ : en b ≠ 0) (p8_ : tst (sd b) = (ed b)) (p9_ : st (sd b) = 1) (p10_ : en (op b) ≠ 0) (p11_ : fw b = 0) (p12_ : 0 ≤ nL) (cRJ : pj_RJ W sd op ed tst en fw) : pj_RJ W sd op ed (pu tst (sd b) (-1)) en (pu fw b 1) := by
  obtain ⟨hop, hed⟩ := hG
  unfold pj_RJ at *
  intro w0
  simp only [pu]
  have g0 := hop b
  have g1 := hop w0
  have g2 := hed b w0
  have cRJ_0 := cRJ b
  have cRJ_1 := cRJ w0
  have cRJ_2 := cRJ (op w0)
  have f0 := p6_ k
  clear p6_
  clear hop hed cRJ
  grind (splits := 24)

set_option maxHeartbeats 1000000 in
theorem pt_rjb_FW {W : Int → Prop} {sd : Int → Int} {op : Int → Int} {ed : Int → Int} {st : Int → Int} {tst : Int → Int} {en : Int → Int} {fw : Int → Int} {nL : Int} {kd : Int → Int} {wy : Int → Int} {wh : Int → Int} {b k : Int} (hG : pj_G W sd op ed) (p0_ : W b) (p1_ : 0 ≤ k) (p2_ : k < nL) (p3_ : wh k ≠ 2) (p4_ : kd k = 4) (p5_ : wy k = op b) (p6_ : ∀ j, 0 ≤ j → j < k → wy j = wy k → wh j ≠ 0) (p7_ : en b ≠ 0) (p8_ : tst (sd b) = (ed b)) (p9_ : st (sd b) = 1) (p10_ : en (op b) ≠ 0) (p11_ : fw b = 0) (p12_ : 0 ≤ nL) (cFW : pj_FW W sd ed tst en fw) : pj_FW W sd ed (pu tst (sd b) (-1)) en (pu fw b 1) := by
  obtain ⟨hop, hed⟩ := hG
  unfold pj_FW at *
  intro w0
  simp only [pu]
  have g0 := hop b
  have g1 := hop w0
  have g2 := hed b w0
  have cFW_0 := cFW b
  have cFW_1 := cFW w0
  have cFW_2 := cFW (op w0)
  have f0 := p6_ k
  clear p6_
  clear hop hed cFW
  grind (splits := 24)

set_option maxHeartbeats 1000000 in
theorem pt_rjb_WH {W : Int → Prop} {sd : Int → Int} {op : Int → Int} {ed : Int → Int} {st : Int → Int} {tst : Int → Int} {en : Int → Int} {fw : Int → Int} {nL : Int} {kd : Int → Int} {wy : Int → Int} {wh : Int → Int} {b k : Int} (hG : pj_G W sd op ed) (p0_ : W b) (p1_ : 0 ≤ k) (p2_ : k < nL) (p3_ : wh k ≠ 2) (p4_ : kd k = 4) (p5_ : wy k = op b) (p6_ : ∀ j, 0 ≤ j → j < k → wy j = wy k → wh j ≠ 0) (p7_ : en b ≠ 0) (p8_ : tst (sd b) = (ed b)) (p9_ : st (sd b) = 1) (p10_ : en (op b) ≠ 0) (p11_ : fw b = 0) (p12_ : 0 ≤ nL) (cWH : pj_WH nL kd wh) (cR : pj_R W nL kd wy wh) : pj_WH nL kd (pu wh k 2) := by
  obtain ⟨hop, hed⟩ := hG
  unfold pj_WH pj_R at *
  intro k0
  simp only [pu]
  have g0 := hop b
  have g1 := hop (wy k0)
  have g2 := hed b (wy k0)
  have cWH_0 := cWH k
  have cWH_1 := cWH k0
  have cR_0 := cR k0
  have f0 := p6_ k
  have f1 := p6_ k0
  clear p6_
  clear hop hed cWH cR
  grind (splits := 24)

set_option maxHeartbeats 1000000 in
theorem pt_rjb_FI {W : Int → Prop} {sd : Int → Int} {op : Int → Int} {ed : Int → Int} {st : Int → Int} {tst : Int → Int} {en : Int → Int} {fw : Int → Int} {nL : Int} {kd : Int → Int} {wy : Int → Int} {wh : Int → Int} {b k : Int} (hG : pj_G W sd op ed) (p0_ : W b) (p1_ : 0 ≤ k) (p2_ : k < nL) (p3_ : wh k ≠ 2) (p4_ : kd k = 4) (p5_ : wy k = op b) (p6_ : ∀ j, 0 ≤ j → j < k → wy j = wy k → wh j ≠ 0) (p7_ : en b ≠ 0) (p8_ : tst (sd b) = (ed b)) (p9_ : st (sd b) = 1) (p10_ : en (op b) ≠ 0) (p11_ : fw b = 0) (p12_ : 0 ≤ nL) (cFI : pj_FI nL wy wh) (cR : pj_R W nL kd wy wh) : pj_FI nL wy (pu wh k 2) := by
  obtain ⟨hop, hed⟩ := hG
  unfold pj_FI pj_R at *
  intro j0 k0
  simp only [pu]
  have g0 := hop b
  have g1 := hop (wy j0)
  have g2 := hop (wy k0)
  have g3 := hed b (wy j0)
  have g4 := hed b (wy k0)
  have g5 := hed (wy j0) (wy k0)
  have cFI_0 := cFI k k
  have cFI_1 := cFI k j0
  have cFI_2 := cFI k k0
  have cFI_3 := cFI j0 k
  have cFI_4 := cFI j0 j0
  have cFI_5 := cFI j0 k0
  have cFI_6 := cFI k0 k
  have cFI_7 := cFI k0 j0
  have cFI_8 := cFI k0 k0
  have cR_0 := cR j0
  have cR_1 := cR k0
  have f0 := p6_ k
  have f1 := p6_ j0
  have f2 := p6_ k0
  clear p6_
  clear hop hed cFI cR
  grind (splits := 24)

set_option maxHeartbeats 1000000 in
theorem pt_rjb_L0 {W : Int → Prop} {sd : Int → Int} {op : Int → Int} {ed : Int → Int} {st : Int → Int} {lv : Int → Int} {nm : Int → Int} {tst : Int → Int} {om : Int → Int} {ps : Int → Int} {dl : Int → Int} {c0 : Int → Int} {en : Int → Int} {fw : Int → Int} {cw : Int → Int} {nL : Int} {kd : Int → Int} {wy : Int → Int} {ll : Int → Int} {wh : Int → Int} {b k : Int} (hG : pj_G W sd op ed) (p0_ : W b) (p1_ : 0 ≤ k) (p2_ : k < nL) (p3_ : wh k ≠ 2) (p4_ : kd k = 4) (p5_ : wy k = op b) (p6_ : ∀ j, 0 ≤ j → j < k → wy j = wy k → wh j ≠ 0) (p7_ : en b ≠ 0) (p8_ : tst (sd b) = (ed b)) (p9_ : st (sd b) = 1) (p10_ : en (op b) ≠ 0) (p11_ : fw b = 0) (p12_ : 0 ≤ nL) (cL0 : pj_L0 sd op ed lv nm om ps dl c0 en cw nL kd wy ll wh) (cR : pj_R W nL kd wy wh) : pj_L0 sd op ed lv nm om ps dl c0 en cw nL kd wy ll (pu wh k 2) := by
  obtain ⟨hop, hed⟩ := hG
  unfold pj_L0 pj_R at *
  intro k0
  simp only [pu]
  have g0 := hop b
  have g1 := hop (wy k0)
  have g2 := hed b (wy k0)
  have cL0_0 := cL0 k
  have cL0_1 := cL0 k0
  have cR_0 := cR k0
  have f0 := p6_ k
  have f1 := p6_ k0
  clear p6_
  clear hop hed cL0 cR
  grind (splits := 24)

set_option maxHeartbeats 1000000 in
theorem pt_rjb_FC {W : Int → Prop} {sd : Int → Int} {op : Int → Int} {ed : Int → Int} {st : Int → Int} {tst : Int → Int} {en : Int → Int} {fw : Int → Int} {nL : Int} {kd : Int → Int} {wy : Int → Int} {wh : Int → Int} {F : Int → Prop} {b k : Int} (hG : pj_G W sd op ed) (p0_ : W b) (p1_ : 0 ≤ k) (p2_ : k < nL) (p3_ : wh k ≠ 2) (p4_ : kd k = 4) (p5_ : wy k = op b) (p6_ : ∀ j, 0 ≤ j → j < k → wy j = wy k → wh j ≠ 0) (p7_ : en b ≠ 0) (p8_ : tst (sd b) = (ed b)) (p9_ : st (sd b) = 1) (p10_ : en (op b) ≠ 0) (p11_ : fw b = 0) (p12_ : 0 ≤ nL) (cFC : pj_FC op nL kd wy wh F) (cR : pj_R W nL kd wy wh) : pj_FC op nL kd wy (pu wh k 2) F := by
  obtain ⟨hop, hed⟩ := hG
  unfold pj_FC pj_R at *
  intro k0
  simp only [pu]
  have g0 := hop b
  have g1 := hop (wy k0)
  have g2 := hed b (wy k0)
  have cFC_0 := cFC k
  have cFC_1 := cFC k0
  have cR_0 := cR k0
  have f0 := p6_ k
  have f1 := p6_ k0
  clear p6_
  clear hop hed cFC cR
  grind (splits := 24)

set_option maxHeartbeats 1000000 in
theorem pt_rjb_L0u {W : Int → Prop} {sd : Int → Int} {op : Int → Int} {ed : Int → Int} {st : Int → Int} {tst : Int → Int} {en : Int → Int} {fw : Int → Int} {nL : Int} {kd : Int → Int} {wy : Int → Int} {wh : Int → Int} {b k : Int} (hG : pj_G W sd op ed) (p0_ : W b) (p1_ : 0 ≤ k) (p2_ : k < nL) (p3_ : wh k ≠ 2) (p4_ : kd k = 4) (p5_ : wy k = op b) (p6_ : ∀ j, 0 ≤ j → j < k → wy j = wy k → wh j ≠ 0) (p7_ : en b ≠ 0) (p8_ : tst (sd b) = (ed b)) (p9_ : st (sd b) = 1) (p10_ : en (op b) ≠ 0) (p11_ : fw b = 0) (p12_ : 0 ≤ nL) (cL0u : pj_L0u nL kd wy wh) (cR : pj_R W nL kd wy wh) : pj_L0u nL kd wy (pu wh k 2) := by
  obtain ⟨hop, hed⟩ := hG
  unfold pj_L0u pj_R at *
  intro j0 k0
  simp only [pu]
  have g0 := hop b
  have g1 := hop (wy j0)
  have g2 := hop (wy k0)
  have g3 := hed b (wy j0)
  have g4 := hed b (wy k0)
  have g5 := hed (wy j0) (wy k0)
  have cL0u_0 := cL0u k k
  have cL0u_1 := cL0u k j0
  have cL0u_2 := cL0u k k0
  have cL0u_3 := cL0u j0 k
  have cL0u_4 := cL0u j0 j0
  have cL0u_5 := cL0u j0 k0
  have cL0u_6 := cL0u k0 k
  have cL0u_7 := cL0u k0 j0
  have cL0u_8 := cL0u k0 k0
  have cR_0 := cR j0
  have cR_1 := cR k0
  have f0 := p6_ k
  have f1 := p6_ j0
  have f2 := p6_ k0
  clear p6_
  clear hop hed cL0u cR
  grind (splits := 24)

set_option maxHeartbeats 1000000 in
theorem pt_rjb_OC {W : Int → Prop} {sd : Int → Int} {op : Int → Int} {ed : Int → Int} {st : Int → Int} {tst : Int → Int} {en : Int → Int} {fw : Int → Int} {nL : Int} {kd : Int → Int} {wy : Int → Int} {wh : Int → Int} {b k : Int} (hG : pj_G W sd op ed) (p0_ : W b) (p1_ : 0 ≤ k) (p2_ : k < nL) (p3_ : wh k ≠ 2) (p4_ : kd k = 4) (p5_ : wy k = op b) (p6_ : ∀ j, 0 ≤ j → j < k → wy j = wy k → wh j ≠ 0) (p7_ : en b ≠ 0) (p8_ : tst (sd b) = (ed b)) (p9_ : st (sd b) = 1) (p10_ : en (op b) ≠ 0) (p11_ : fw b = 0) (p12_ : 0 ≤ nL) (cOC : pj_OC nL kd wy wh) (cR : pj_R W nL kd wy wh) : pj_OC nL kd wy (pu wh k 2) := by
  obtain ⟨hop, hed⟩ := hG
  unfold pj_OC pj_R at *
  intro j0 k0
  simp only [pu]
  have g0 := hop b
  have g1 := hop (wy j0)
  have g2 := hop (wy k0)
  have g3 := hed b (wy j0)
  have g4 := hed b (wy k0)
  have g5 := hed (wy j0) (wy k0)
  have cOC_0 := cOC k k
  have cOC_1 := cOC k j0
  have cOC_2 := cOC k k0
  have cOC_3 := cOC j0 k
  have cOC_4 := cOC j0 j0
  have cOC_5 := cOC j0 k0
  have cOC_6 := cOC k0 k
  have cOC_7 := cOC k0 j0
  have cOC_8 := cOC k0 k0
  have cR_0 := cR j0
  have cR_1 := cR k0
  have f0 := p6_ k
  have f1 := p6_ j0
  have f2 := p6_ k0
  clear p6_
  clear hop hed cOC cR
  grind (splits := 24)

set_option maxHeartbeats 1000000 in
theorem pt_rjb_CT {W : Int → Prop} {sd : Int → Int} {op : Int → Int} {ed : Int → Int} {st : Int → Int} {tst : Int → Int} {en : Int → Int} {fw : Int → Int} {nL : Int} {kd : Int → Int} {wy : Int → Int} {wh : Int → Int} {b k : Int} (hG : pj_G W sd op ed) (p0_ : W b) (p1_ : 0 ≤ k) (p2_ : k < nL) (p3_ : wh k ≠ 2) (p4_ : kd k = 4) (p5_ : wy k = op b) (p6_ : ∀ j, 0 ≤ j → j < k → wy j = wy k → wh j ≠ 0) (p7_ : en b ≠ 0) (p8_ : tst (sd b) = (ed b)) (p9_ : st (sd b) = 1) (p10_ : en (op b) ≠ 0) (p11_ : fw b = 0) (p12_ : 0 ≤ nL) (cCT : pj_CT nL kd wy wh) (cR : pj_R W nL kd wy wh) : pj_CT nL kd wy (pu wh k 2) := by
  obtain ⟨hop, hed⟩ := hG
  unfold pj_CT pj_R at *
  intro j0 k0
  simp only [pu]
  have g0 := hop b
  have g1 := hop (wy j0)
  have g2 := hop (wy k0)
  have g3 := hed b (wy j0)
  have g4 := hed b (wy k0)
  have g5 := hed (wy j0) (wy k0)
  have cCT_0 := cCT k k
  have cCT_1 := cCT k j0
  have cCT_2 := cCT k k0
  have cCT_3 := cCT j0 k
  have cCT_4 := cCT j0 j0
  have cCT_5 := cCT j0 k0
  have cCT_6 := cCT k0 k
  have cCT_7 := cCT k0 j0
  have cCT_8 := cCT k0 k0
  have cR_0 := cR j0
  have cR_1 := cR k0
  have f0 := p6_ k
  have f1 := p6_ j0
  have f2 := p6_ k0
  clear p6_
  clear hop hed cCT cR
  grind (splits := 24)

set_option maxHeartbeats 1000000 in
theorem pt_rjb_L1 {W : Int → Prop} {sd : Int → Int} {op : Int → Int} {ed : Int → Int} {st : Int → Int} {lv : Int → Int} {tst : Int → Int} {om : Int → Int} {dl : Int → Int} {en : Int → Int} {fw : Int → Int} {cl : Int → Int} {nL : Int} {kd : Int → Int} {wy : Int → Int} {ll : Int → Int} {td : Int → Int} {ls : Int → Int} {wh : Int → Int} {b k : Int} (hG : pj_G W sd op ed) (p0_ : W b) (p1_ : 0 ≤ k) (p2_ : k < nL) (p3_ : wh k ≠ 2) (p4_ : kd k = 4) (p5_ : wy k = op b) (p6_ : ∀ j, 0 ≤ j → j < k → wy j = wy k → wh j ≠ 0) (p7_ : en b ≠ 0) (p8_ : tst (sd b) = (ed b)) (p9_ : st (sd b) = 1) (p10_ : en (op b) ≠ 0) (p11_ : fw b = 0) (p12_ : 0 ≤ nL) (cL1 : pj_L1 sd op ed st lv om dl en cl nL kd wy ll td ls wh) (cR : pj_R W nL kd wy wh) : pj_L1 sd op ed st lv om dl en cl nL kd wy ll td ls (pu wh k 2) := by
  obtain ⟨hop, hed⟩ := hG
  unfold pj_L1 pj_R at *
  intro k0
  simp only [pu]
  have g0 := hop b
  have g1 := hop (wy k0)
  have g2 := hed b (wy k0)
  have cL1_0 := cL1 k
  have cL1_1 := cL1 k0
  have cR_0 := cR k0
  have f0 := p6_ k
  have f1 := p6_ k0
  clear p6_
  clear hop hed cL1 cR
  grind (splits := 24)

set_option maxHeartbeats 1000000 in
theorem pt_rjb_L1e {W : Int → Prop} {sd : Int → Int} {op : Int → Int} {ed : Int → Int} {st : Int → Int} {tst : Int → Int} {dl : Int → Int} {dn : Int → Int} {en : Int → Int} {fw : Int → Int} {nL : Int} {kd : Int → Int} {wy : Int → Int} {ll : Int → Int} {td : Int → Int} {ls : Int → Int} {wh : Int → Int} {b k : Int} (hG : pj_G W sd op ed) (p0_ : W b) (p1_ : 0 ≤ k) (p2_ : k < nL) (p3_ : wh k ≠ 2) (p4_ : kd k = 4) (p5_ : wy k = op b) (p6_ : ∀ j, 0 ≤ j → j < k → wy j = wy k → wh j ≠ 0) (p7_ : en b ≠ 0) (p8_ : tst (sd b) = (ed b)) (p9_ : st (sd b) = 1) (p10_ : en (op b) ≠ 0) (p11_ : fw b = 0) (p12_ : 0 ≤ nL) (cL1e : pj_L1e sd op dl dn nL kd wy ll td ls wh) (cR : pj_R W nL kd wy wh) : pj_L1e sd op dl dn nL kd wy ll td ls (pu wh k 2) := by
  obtain ⟨hop, hed⟩ := hG
  unfold pj_L1e pj_R at *
  intro k0
  simp only [pu]
  have g0 := hop b
  have g1 := hop (wy k0)
  have g2 := hed b (wy k0)
  have cL1e_0 := cL1e k
  have cL1e_1 := cL1e k0
  have cR_0 := cR k0
  have f0 := p6_ k
  have f1 := p6_ k0
  clear p6_
  clear hop hed cL1e cR
  grind (splits := 24)

set_option maxHeartbeats 1000000 in
theorem pt_rjb_L1o {W : Int → Prop} {sd : Int → Int} {op : Int → Int} {ed : Int → Int} {st : Int → Int} {tst : Int → Int} {en : Int → Int} {fw : Int → Int} {nL : Int} {kd : Int → Int} {wy : Int → Int} {ll : Int → Int} {wh : Int → Int} {b k : Int} (hG : pj_G W sd op ed) (p0_ : W b) (p1_ : 0 ≤ k) (p2_ : k < nL) (p3_ : wh k ≠ 2) (p4_ : kd k = 4) (p5_ : wy k = op b) (p6_ : ∀ j, 0 ≤ j → j < k → wy j = wy k → wh j ≠ 0) (p7_ : en b ≠ 0) (p8_ : tst (sd b) = (ed b)) (p9_ : st (sd b) = 1) (p10_ : en (op b) ≠ 0) (p11_ : fw b = 0) (p12_ : 0 ≤ nL) (cL1o : pj_L1o nL kd wy ll wh) (cR : pj_R W nL kd wy wh) : pj_L1o nL kd wy ll (pu wh k 2) := by
  obtain ⟨hop, hed⟩ := hG
  unfold pj_L1o pj_R at *
  intro j0 k0
  simp only [pu]
  have g0 := hop b
  have g1 := hop (wy j0)
  have g2 := hop (wy k0)
  have g3 := hed b (wy j0)
  have g4 := hed b (wy k0)
  have g5 := hed (wy j0) (wy k0)
  have cL1o_0 := cL1o k k
  have cL1o_1 := cL1o k j0
  have cL1o_2 := cL1o k k0
  have cL1o_3 := cL1o j0 k
  have cL1o_4 := cL1o j0 j0
  have cL1o_5 := cL1o j0 k0
  have cL1o_6 := cL1o k0 k
  have cL1o_7 := cL1o k0 j0
  have cL1o_8 := cL1o k0 k0
  have cR_0 := cR j0
  have cR_1 := cR k0
  have f0 := p6_ k
  have f1 := p6_ j0
  have f2 := p6_ k0
  clear p6_
  clear hop hed cL1o cR
  grind (splits := 24)

set_option maxHeartbeats 1000000 in
theorem pt_rjb_L1b {W : Int → Prop} {sd : Int → Int} {op : Int → Int} {ed : Int → Int} {st : Int → Int} {tst : Int → Int} {om : Int → Int} {en : Int → Int} {pd : Int → Int} {fw : Int → Int} {nL : Int} {kd : Int → Int} {wy : Int → Int} {td : Int → Int} {ls : Int → Int} {wh : Int → Int} {b k : Int} (hG : pj_G W sd op ed) (p0_ : W b) (p1_ : 0 ≤ k) (p2_ : k < nL) (p3_ : wh k ≠ 2) (p4_ : kd k = 4) (p5_ : wy k = op b) (p6_ : ∀ j, 0 ≤ j → j < k → wy j = wy k → wh j ≠ 0) (p7_ : en b ≠ 0) (p8_ : tst (sd b) = (ed b)) (p9_ : st (sd b) = 1) (p10_ : en (op b) ≠ 0) (p11_ : fw b = 0) (p12_ : 0 ≤ nL) (cL1b : pj_L1b sd ed st om pd nL kd wy td ls wh) (cR : pj_R W nL kd wy wh) : pj_L1b sd ed st om pd nL kd wy td ls (pu wh k 2) := by
  obtain ⟨hop, hed⟩ := hG
  unfold pj_L1b pj_R at *
  intro k0
  simp only [pu]
  have g0 := hop b
  have g1 := hop (wy k0)
  have g2 := hed b (wy k0)
  have cL1b_0 := cL1b k
  have cL1b_1 := cL1b k0
  have cR_0 := cR k0
  have f0 := p6_ k
  have f1 := p6_ k0
  clear p6_
  clear hop hed cL1b cR
  grind (splits := 24)

set_option maxHeartbeats 1000000 in
theorem pt_rjb_L1g {W : Int → Prop} {sd : Int → Int} {op : Int → Int} {ed : Int → Int} {st : Int → Int} {tst : Int → Int} {en : Int → Int} {fw : Int → Int} {nL : Int} {kd : Int → Int} {wy : Int → Int} {td : Int → Int} {ls : Int → Int} {wh : Int → Int} {b k : Int} (hG : pj_G W sd op ed) (p0_ : W b) (p1_ : 0 ≤ k) (p2_ : k < nL) (p3_ : wh k ≠ 2) (p4_ : kd k = 4) (p5_ : wy k = op b) (p6_ : ∀ j, 0 ≤ j → j < k → wy j = wy k → wh j ≠ 0) (p7_ : en b ≠ 0) (p8_ : tst (sd b) = (ed b)) (p9_ : st (sd b) = 1) (p10_ : en (op b) ≠ 0) (p11_ : fw b = 0) (p12_ : 0 ≤ nL) (cL1g : pj_L1g W sd op ed nL kd wy td ls wh) (cR : pj_R W nL kd wy wh) : pj_L1g W sd op ed nL kd wy td ls (pu wh k 2) := by
  obtain ⟨hop, hed⟩ := hG
  unfold pj_L1g pj_R at *
  intro k0 v0
  simp only [pu]
  have g0 := hop b
  have g1 := hop (wy k0)
  have g2 := hop v0
  have g3 := hed b (wy k0)
  have g4 := hed b v0
  have g5 := hed (wy k0) v0
  have cL1g_0 := cL1g k b
  have cL1g_1 := cL1g k (wy k0)
  have cL1g_2 := cL1g k (op (wy k0))
  have cL1g_3 := cL1g k v0
  have cL1g_4 := cL1g k (op v0)
  have cL1g_5 := cL1g k0 b
  have cL1g_6 := cL1g k0 (wy k0)
  have cL1g_7 := cL1g k0 (op (wy k0))
  have cL1g_8 := cL1g k0 v0
  have cL1g_9 := cL1g k0 (op v0)
  have cR_0 := cR k0
  have f0 := p6_ k
  have f1 := p6_ k0
  clear p6_
  clear hop hed cL1g cR
  grind (splits := 24)

set_option maxHeartbeats 1000000 in
theorem pt_rjb_L2 {W : Int → Prop} {sd : Int → Int} {op : Int → Int} {ed : Int → Int} {st : Int → Int} {lv : Int → Int} {nm : Int → Int} {tst : Int → Int} {en : Int → Int} {fw : Int → Int} {nL : Int} {kd : Int → Int} {wy : Int → Int} {ll : Int → Int} {td : Int → Int} {wh : Int → Int} {b k : Int} (hG : pj_G W sd op ed) (p0_ : W b) (p1_ : 0 ≤ k) (p2_ : k < nL) (p3_ : wh k ≠ 2) (p4_ : kd k = 4) (p5_ : wy k = op b) (p6_ : ∀ j, 0 ≤ j → j < k → wy j = wy k → wh j ≠ 0) (p7_ : en b ≠ 0) (p8_ : tst (sd b) = (ed b)) (p9_ : st (sd b) = 1) (p10_ : en (op b) ≠ 0) (p11_ : fw b = 0) (p12_ : 0 ≤ nL) (cR : pj_R W nL kd wy wh) (cCV : pj_CV W sd op ed tst nL kd wy wh) (cL3 : pj_L3 sd op ed st lv nm tst en fw nL kd wy wh) (cL4 : pj_L4 sd op ed st tst en nL kd wy wh) (cL2 : pj_L2 sd op ed st lv nm tst en fw nL kd wy ll td wh) (cRT : pj_RT sd ed tst nL kd wy wh) : pj_L2 sd op ed st lv nm (pu tst (sd b) (-1)) en (pu fw b 1) nL kd wy ll td (pu wh k 2) := by
  obtain ⟨hop, hed⟩ := hG
  unfold pj_R pj_CV pj_L3 pj_L4 pj_L2 pj_RT at *
  intro k0
  simp only [pu]
  have g0 := hop b
  have g1 := hop (wy k0)
  have g2 := hed b (wy k0)
  have cR_0 := cR k0
  have cCV_0 := cCV b k0 k
  have cCV_1 := cCV (op b) k0 k
  have cL3_0 := cL3 k0
  have cL4_0 := cL4 k0
  have cL2_0 := cL2 k0
  have cRT_0 := cRT k0 k
  have cRT_1 := cRT k k0
  have f0 := p6_ k
  have f1 := p6_ k0
  clear p6_
  clear hop hed cR cCV cL3 cL4 cL2 cRT
  grind (splits := 24)

set_option maxHeartbeats 1000000 in
theorem pt_rjb_L3 {W : Int → Prop} {sd : Int → Int} {op : Int → Int} {ed : Int → Int} {st : Int → Int} {lv : Int → Int} {nm : Int → Int} {tst : Int → Int} {en : Int → Int} {fw : Int → Int} {nL : Int} {kd : Int → Int} {wy : Int → Int} {ll : Int → Int} {td : Int → Int} {wh : Int → Int} {b k : Int} (hG : pj_G W sd op ed) (p0_ : W b) (p1_ : 0 ≤ k) (p2_ : k < nL) (p3_ : wh k ≠ 2) (p4_ : kd k = 4) (p5_ : wy k = op b) (p6_ : ∀ j, 0 ≤ j → j < k → wy j = wy k → wh j ≠ 0) (p7_ : en b ≠ 0) (p8_ : tst (sd b) = (ed b)) (p9_ : st (sd b) = 1) (p10_ : en (op b) ≠ 0) (p11_ : fw b = 0) (p12_ : 0 ≤ nL) (cR : pj_R W nL kd wy wh) (cCV : pj_CV W sd op ed tst nL kd wy wh) (cL3 : pj_L3 sd op ed st lv nm tst en fw nL kd wy wh) (cL4 : pj_L4 sd op ed st tst en nL kd wy wh) (cL2 : pj_L2 sd op ed st lv nm tst en fw nL kd wy ll td wh) (cRT : pj_RT sd ed tst nL kd wy wh) : pj_L3 sd op ed st lv nm (pu tst (sd b) (-1)) en (pu fw b 1) nL kd wy (pu wh k 2) := by
  obtain ⟨hop, hed⟩ := hG
  unfold pj_R pj_CV pj_L3 pj_L4 pj_L2 pj_RT at *
  intro k0
  simp only [pu]
  have g0 := hop b
  have g1 := hop (wy k0)
  have g2 := hed b (wy k0)
  have cR_0 := cR k0
  have cCV_0 := cCV b k0 k
  have cCV_1 := cCV (op b) k0 k
  have cL3_0 := cL3 k0
  have cL4_0 := cL4 k0
  have cL2_0 := cL2 k0
  have cRT_0 := cRT k0 k
  have cRT_1 := cRT k k0
  have f0 := p6_ k
  have f1 := p6_ k0
  clear p6_
  clear hop hed cR cCV cL3 cL4 cL2 cRT
  grind (splits := 24)

set_option maxHeartbeats 1000000 in
theorem pt_rjb_L4 {W : Int → Prop} {sd : Int → Int} {op : Int → Int} {ed : Int → Int} {st : Int → Int} {lv : Int → Int} {nm : Int → Int} {tst : Int → Int} {en : Int → Int} {fw : Int → Int} {nL : Int} {kd : Int → Int} {wy : Int → Int} {ll : Int → Int} {td : Int → Int} {wh : Int → Int} {b k : Int} (hG : pj_G W sd op ed) (p0_ : W b) (p1_ : 0 ≤ k) (p2_ : k < nL) (p3_ : wh k ≠ 2) (p4_ : kd k = 4) (p5_ : wy k = op b) (p6_ : ∀ j, 0 ≤ j → j < k → wy j = wy k → wh j ≠ 0) (p7_ : en b ≠ 0) (p8_ : tst (sd b) = (ed b)) (p9_ : st (sd b) = 1) (p10_ : en (op b) ≠ 0) (p11_ : fw b = 0) (p12_ : 0 ≤ nL) (cR : pj_R W nL kd wy wh) (cCV : pj_CV W sd op ed tst nL kd wy wh) (cL3 : pj_L3 sd op ed st lv nm tst en fw nL kd wy wh) (cL4 : pj_L4 sd op ed st tst en nL kd wy wh) (cL2 : pj_L2 sd op ed st lv nm tst en fw nL kd wy ll td wh) (cRT : pj_RT sd ed tst nL kd wy wh) : pj_L4 sd op ed st (pu tst (sd b) (-1)) en nL kd wy (pu wh k 2) := by
  obtain ⟨hop, hed⟩ := hG
  unfold pj_R pj_CV pj_L3 pj_L4 pj_L2 pj_RT at *
  intro k0
  simp only [pu]
  have g0 := hop b
  have g1 := hop (wy k0)
  have g2 := hed b (wy k0)
  have cR_0 := cR k0
  have cCV_0 := cCV b k0 k
  have cCV_1 := cCV (op b) k0 k
  have cL3_0 := cL3 k0
  have cL4_0 := cL4 k0
  have cL2_0 := cL2 k0
  have cRT_0 := cRT k0 k
  have cRT_1 := cRT k k0
  have f0 := p6_ k
  have f1 := p6_ k0
  clear p6_
  clear hop hed cR cCV cL3 cL4 cL2 cRT
  grind (splits := 24)

set_option maxHeartbeats 1000000 in
theorem pt_rjb_AF {W : Int → Prop} {sd : Int → Int} {op : Int → Int} {ed : Int → Int} {st : Int → Int} {tst : Int → Int} {af : Int → Int} {en : Int → Int} {fw : Int → Int} {nL : Int} {kd : Int → Int} {wy : Int → Int} {wh : Int → Int} {b k : Int} (hG : pj_G W sd op ed) (p0_ : W b) (p1_ : 0 ≤ k) (p2_ : k < nL) (p3_ : wh k ≠ 2) (p4_ : kd k = 4) (p5_ : wy k = op b) (p6_ : ∀ j, 0 ≤ j → j < k → wy j = wy k → wh j ≠ 0) (p7_ : en b ≠ 0) (p8_ : tst (sd b) = (ed b)) (p9_ : st (sd b) = 1) (p10_ : en (op b) ≠ 0) (p11_ : fw b = 0) (p12_ : 0 ≤ nL) (cAF : pj_AF W sd op ed tst af nL kd wy wh) : pj_AF W sd op ed (pu tst (sd b) (-1)) af nL kd wy (pu wh k 2) := by
  obtain ⟨hop, hed⟩ := hG
  unfold pj_AF at *
  intro v0
  simp only [pu]
  have g0 := hop b
  have g1 := hop v0
  have g2 := hed b v0
  have cAF_0 := cAF b
  have cAF_1 := cAF v0
  have cAF_2 := cAF (op v0)
  have f0 := p6_ k
  clear p6_
  clear hop hed cAF
  grind (splits := 24)

set_option maxHeartbeats 1000000 in
theorem pt_rjb_RT {W : Int → Prop} {sd : Int → Int} {op : Int → Int} {ed : Int → Int} {st : Int → Int} {lv : Int → Int} {nm : Int → Int} {tst : Int → Int} {en : Int → Int} {fw : Int → Int} {nL : Int} {kd : Int → Int} {wy : Int → Int} {ll : Int → Int} {td : Int → Int} {wh : Int → Int} {b k : Int} (hG : pj_G W sd op ed) (p0_ : W b) (p1_ : 0 ≤ k) (p2_ : k < nL) (p3_ : wh k ≠ 2) (p4_ : kd k = 4) (p5_ : wy k = op b) (p6_ : ∀ j, 0 ≤ j → j < k → wy j = wy k → wh j ≠ 0) (p7_ : en b ≠ 0) (p8_ : tst (sd b) = (ed b)) (p9_ : st (sd b) = 1) (p10_ : en (op b) ≠ 0) (p11_ : fw b = 0) (p12_ : 0 ≤ nL) (cRT : pj_RT sd ed tst nL kd wy wh) (cR : pj_R W nL kd wy wh) (cCV : pj_CV W sd op ed tst nL kd wy wh) (cL2 : pj_L2 sd op ed st lv nm tst en fw nL kd wy ll td wh) (cL4 : pj_L4 sd op ed st tst en nL kd wy wh) : pj_RT sd ed (pu tst (sd b) (-1)) nL kd wy (pu wh k 2) := by
  obtain ⟨hop, hed⟩ := hG
  unfold pj_RT pj_R pj_CV pj_L2 pj_L4 at *
  intro j0 k0
  simp only [pu]
  have g0 := hop b
  have g1 := hop (wy j0)
  have g2 := hop (wy k0)
  have g3 := hed b (wy j0)
  have g4 := hed b (wy k0)
  have g5 := hed (wy j0) (wy k0)
  have cRT_0 := cRT k k
  have cRT_1 := cRT k j0
  have cRT_2 := cRT k k0
  have cRT_3 := cRT j0 k
  have cRT_4 := cRT j0 j0
  have cRT_5 := cRT j0 k0
  have cRT_6 := cRT k0 k
  have cRT_7 := cRT k0 j0
  have cRT_8 := cRT k0 k0
  have cR_0 := cR j0
  have cR_1 := cR k0
  have cCV_0 := cCV b j0 k
  have cCV_1 := cCV (op b) j0 k
  have cCV_2 := cCV b k0 k
  have cCV_3 := cCV (op b) k0 k
  have cL2_0 := cL2 k
  have cL2_1 := cL2 j0
  have cL2_2 := cL2 k0
  have cL4_0 := cL4 k
  have cL4_1 := cL4 j0
  have cL4_2 := cL4 k0
  have f0 := p6_ k
  have f1 := p6_ j0
  have f2 := p6_ k0
  clear p6_
  clear hop hed cRT cR cCV cL2 cL4
  grind (splits := 24)

set_option maxHeartbeats 1000000 in
theorem pt_rjb_CV {W : Int → Prop} {sd : Int → Int} {op : Int → Int} {ed : Int → Int} {st : Int → Int} {tst : Int → Int} {en : Int → Int} {fw : Int → Int} {nL : Int} {kd : Int → Int} {wy : Int → Int} {wh : Int → Int} {b k : Int} (hG : pj_G W sd op ed) (p0_ : W b) (p1_ : 0 ≤ k) (p2_ : k < nL) (p3_ : wh k ≠ 2) (p4_ : kd k = 4) (p5_ : wy k = op b) (p6_ : ∀ j, 0 ≤ j → j < k → wy j = wy k → wh j ≠ 0) (p7_ : en b ≠ 0) (p8_ : tst (sd b) = (ed b)) (p9_ : st (sd b) = 1) (p10_ : en (op b) ≠ 0) (p11_ : fw b = 0) (p12_ : 0 ≤ nL) (cR : pj_R W nL kd wy wh) (cCV : pj_CV W sd op ed tst nL kd wy wh) : pj_CV W sd op ed (pu tst (sd b) (-1)) nL kd wy (pu wh k 2) := by
  obtain ⟨hop, hed⟩ := hG
  unfold pj_R pj_CV at *
  intro v0 j0 k0
  simp only [pu]
  have g0 := hop b
  have g1 := hop v0
  have g2 := hop (wy j0)
  have g3 := hop (wy k0)
  have g4 := hed b v0
  have g5 := hed b (wy j0)
  have g6 := hed b (wy k0)
  have g7 := hed v0 (wy j0)
  have g8 := hed v0 (wy k0)
  have g9 := hed (wy j0) (wy k0)
  have cR_0 := cR j0
  have cR_1 := cR k0
  have cCV_0 := cCV v0 j0 k0
  have cCV_1 := cCV b j0 k
  have cCV_2 := cCV b k0 k
  have cCV_3 := cCV (op b) j0 k
  have cCV_4 := cCV (op b) k0 k
  have f0 := p6_ k
  have f1 := p6_ j0
  have f2 := p6_ k0
  clear p6_
  clear hop hed cR cCV
  grind (splits := 24)

set_option maxHeartbeats 1000000 in
theorem pt_rjb_L5 {W : Int → Prop} {sd : Int → Int} {op : Int → Int} {ed : Int → Int} {st : Int → Int} {lv : Int → Int} {nm : Int → Int} {inw : Int → Int} {bst : Int → Int} {tst : Int → Int} {om : Int → Int} {ps : Int → Int} {dl : Int → Int} {en : Int → Int} {pd : Int → Int} {rp : Int → Int} {rv : Int → Int} {fw : Int → Int} {cl : Int → Int} {tk : Int → Int} {nL : Int} {kd : Int → Int} {wy : Int → Int} {td : Int → Int} {wh : Int → Int} {b k : Int} (hG : pj_G W sd op ed) (p0_ : W b) (p1_ : 0 ≤ k) (p2_ : k < nL) (p3_ : wh k ≠ 2) (p4_ : kd k = 4) (p5_ : wy k = op b) (p6_ : ∀ j, 0 ≤ j → j < k → wy j = wy k → wh j ≠ 0) (p7_ : en b ≠ 0) (p8_ : tst (sd b) = (ed b)) (p9_ : st (sd b) = 1) (p10_ : en (op b) ≠ 0) (p11_ : fw b = 0) (p12_ : 0 ≤ nL) (cL5 : pj_L5 sd op ed st lv nm inw bst om ps dl pd rp rv cl tk nL kd wy td wh) (cR : pj_R W nL kd wy wh) : pj_L5 sd op ed st lv nm inw bst om ps dl pd rp rv cl tk nL kd wy td (pu wh k 2) := by
  obtain ⟨hop, hed⟩ := hG
  unfold pj_L5 pj_R at *
  intro k0
  simp only [pu]
  have g0 := hop b
  have g1 := hop (wy k0)
  have g2 := hed b (wy k0)
  have cL5_0 := cL5 k
  have cL5_1 := cL5 k0
  have cR_0 := cR k0
  have f0 := p6_ k
  have f1 := p6_ k0
  clear p6_
  clear hop hed cL5 cR
  grind (splits := 24)

set_option maxHeartbeats 1000000 in
theorem pt_rjb_L5o {W : Int → Prop} {sd : Int → Int} {op : Int → Int} {ed : Int → Int} {st : Int → Int} {lv : Int → Int} {tst : Int → Int} {en : Int → Int} {fw : Int → Int} {cl : Int → Int} {nL : Int} {kd : Int → Int} {wy : Int → Int} {wh : Int → Int} {b k : Int} (hG : pj_G W sd op ed) (p0_ : W b) (p1_ : 0 ≤ k) (p2_ : k < nL) (p3_ : wh k ≠ 2) (p4_ : kd k = 4) (p5_ : wy k = op b) (p6_ : ∀ j, 0 ≤ j → j < k → wy j = wy k → wh j ≠ 0) (p7_ : en b ≠ 0) (p8_ : tst (sd b) = (ed b)) (p9_ : st (sd b) = 1) (p10_ : en (op b) ≠ 0) (p11_ : fw b = 0) (p12_ : 0 ≤ nL) (cL5o : pj_L5o sd op ed lv cl nL kd wy wh) (cR : pj_R W nL kd wy wh) : pj_L5o sd op ed lv cl nL kd wy (pu wh k 2) := by
  obtain ⟨hop, hed⟩ := hG
  unfold pj_L5o pj_R at *
  intro j0 k0
  simp only [pu]
  have g0 := hop b
  have g1 := hop (wy j0)
  have g2 := hop (wy k0)
  have g3 := hed b (wy j0)
  have g4 := hed b (wy k0)
  have g5 := hed (wy j0) (wy k0)
  have cL5o_0 := cL5o k k
  have cL5o_1 := cL5o k j0
  have cL5o_2 := cL5o k k0
  have cL5o_3 := cL5o j0 k
  have cL5o_4 := cL5o j0 j0
  have cL5o_5 := cL5o j0 k0
  have cL5o_6 := cL5o k0 k
  have cL5o_7 := cL5o k0 j0
  have cL5o_8 := cL5o k0 k0
  have cR_0 := cR j0
  have cR_1 := cR k0
  have f0 := p6_ k
  have f1 := p6_ j0
  have f2 := p6_ k0
  clear p6_
  clear hop hed cL5o cR
  grind (splits := 24)

set_option maxHeartbeats 1000000 in
theorem pt_rjb_L5u {W : Int → Prop} {sd : Int → Int} {op : Int → Int} {ed : Int → Int} {st : Int → Int} {tst : Int → Int} {en : Int → Int} {fw : Int → Int} {nL : Int} {kd : Int → Int} {wy : Int → Int} {wh : Int → Int} {b k : Int} (hG : pj_G W sd op ed) (p0_ : W b) (p1_ : 0 ≤ k) (p2_ : k < nL) (p3_ : wh k ≠ 2) (p4_ : kd k = 4) (p5_ : wy k = op b) (p6_ : ∀ j, 0 ≤ j → j < k → wy j = wy k → wh j ≠ 0) (p7_ : en b ≠ 0) (p8_ : tst (sd b) = (ed b)) (p9_ : st (sd b) = 1) (p10_ : en (op b) ≠ 0) (p11_ : fw b = 0) (p12_ : 0 ≤ nL) (cL5u : pj_L5u nL kd wy wh) (cR : pj_R W nL kd wy wh) : pj_L5u nL kd wy (pu wh k 2) := by
  obtain ⟨hop, hed⟩ := hG
  unfold pj_L5u pj_R at *
  intro j0 k0
  simp only [pu]
  have g0 := hop b
  have g1 := hop (wy j0)
  have g2 := hop (wy k0)
  have g3 := hed b (wy j0)
  have g4 := hed b (wy k0)
  have g5 := hed (wy j0) (wy k0)
  have cL5u_0 := cL5u k k
  have cL5u_1 := cL5u k j0
  have cL5u_2 := cL5u k k0
  have cL5u_3 := cL5u j0 k
  have cL5u_4 := cL5u j0 j0
  have cL5u_5 := cL5u j0 k0
  have cL5u_6 := cL5u k0 k
  have cL5u_7 := cL5u k0 j0
  have cL5u_8 := cL5u k0 k0
  have cR_0 := cR j0
  have cR_1 := cR k0
  have f0 := p6_ k
  have f1 := p6_ j0
  have f2 := p6_ k0
  clear p6_
  clear hop hed cL5u cR
  grind (splits := 24)

set_option maxHeartbeats 1000000 in
theorem pt_rjb_L6 {W : Int → Prop} {sd : Int → Int} {op : Int → Int} {ed : Int → Int} {st : Int → Int} {lv : Int → Int} {nm : Int → Int} {tow : Int → Int} {tst : Int → Int} {om : Int → Int} {ps : Int → Int} {dl : Int → Int} {en : Int → Int} {fw : Int → Int} {cw : Int → Int} {tk : Int → Int} {nL : Int} {kd : Int → Int} {wy : Int → Int} {wh : Int → Int} {b k : Int} (hG : pj_G W sd op ed) (p0_ : W b) (p1_ : 0 ≤ k) (p2_ : k < nL) (p3_ : wh k ≠ 2) (p4_ : kd k = 4) (p5_ : wy k = op b) (p6_ : ∀ j, 0 ≤ j → j < k → wy j = wy k → wh j ≠ 0) (p7_ : en b ≠ 0) (p8_ : tst (sd b) = (ed b)) (p9_ : st (sd b) = 1) (p10_ : en (op b) ≠ 0) (p11_ : fw b = 0) (p12_ : 0 ≤ nL) (cL6 : pj_L6 sd op ed st lv nm tow om ps dl cw tk nL kd wy wh) (cR : pj_R W nL kd wy wh) : pj_L6 sd op ed st lv nm tow om ps dl cw tk nL kd wy (pu wh k 2) := by
  obtain ⟨hop, hed⟩ := hG
  unfold pj_L6 pj_R at *
  intro k0
  simp only [pu]
  have g0 := hop b
  have g1 := hop (wy k0)
  have g2 := hed b (wy k0)
  have cL6_0 := cL6 k
  have cL6_1 := cL6 k0
  have cR_0 := cR k0
  have f0 := p6_ k
  have f1 := p6_ k0
  clear p6_
  clear hop hed cL6 cR
  grind (splits := 24)

set_option maxHeartbeats 1000000 in
theorem pt_rjb_L6u {W : Int → Prop} {sd : Int → Int} {op : Int → Int} {ed : Int → Int} {st : Int → Int} {nm : Int → Int} {tst : Int → Int} {en : Int → Int} {fw : Int → Int} {nL : Int} {kd : Int → Int} {wy : Int → Int} {wh : Int → Int} {b k : Int} (hG : pj_G W sd op ed) (p0_ : W b) (p1_ : 0 ≤ k) (p2_ : k < nL) (p3_ : wh k ≠ 2) (p4_ : kd k = 4) (p5_ : wy k = op b) (p6_ : ∀ j, 0 ≤ j → j < k → wy j = wy k → wh j ≠ 0) (p7_ : en b ≠ 0) (p8_ : tst (sd b) = (ed b)) (p9_ : st (sd b) = 1) (p10_ : en (op b) ≠ 0) (p11_ : fw b = 0) (p12_ : 0 ≤ nL) (cL6u : pj_L6u sd op nm nL kd wy wh) (cR : pj_R W nL kd wy wh) : pj_L6u sd op nm nL kd wy (pu wh k 2) := by
  obtain ⟨hop, hed⟩ := hG
  unfold pj_L6u pj_R at *
  intro j0 k0
  simp only [pu]
  have g0 := hop b
  have g1 := hop (wy j0)
  have g2 := hop (wy k0)
  have g3 := hed b (wy j0)
  have g4 := hed b (wy k0)
  have g5 := hed (wy j0) (wy k0)
  have cL6u_0 := cL6u k k
  have cL6u_1 := cL6u k j0
  have cL6u_2 := cL6u k k0
  have cL6u_3 := cL6u j0 k
  have cL6u_4 := cL6u j0 j0
  have cL6u_5 := cL6u j0 k0
  have cL6u_6 := cL6u k0 k
  have cL6u_7 := cL6u k0 j0
  have cL6u_8 := cL6u k0 k0
  have cR_0 := cR j0
  have cR_1 := cR k0
  have f0 := p6_ k
  have f1 := p6_ j0
  have f2 := p6_ k0
  clear p6_
  clear hop hed cL6u cR
  grind (splits := 24)

theorem pj_rjb {W : Int → Prop} {sd op ed : Int → Int} {li : Int → Int → Prop} {st lv nm inw tow bst tst exp om ps dl dn af c0 en pd rp rv fw cl cw tk kd wy ll td ls wh : Int → Int} {nL : Int} {F F2 : Int → Prop} {fl fc : Int} {b k : Int} (hG : pj_G W sd op ed) (p0_ : W b) (p1_ : 0 ≤ k) (p2_ : k < nL) (p3_ : wh k ≠ 2) (p4_ : kd k = 4) (p5_ : wy k = op b) (p6_ : ∀ j, 0 ≤ j → j < k → wy j = wy k → wh j ≠ 0) (p7_ : en b ≠ 0) (p8_ : tst (sd b) = (ed b)) (p9_ : st (sd b) = 1) (p10_ : en (op b) ≠ 0) (p11_ : fw b = 0) (p12_ : 0 ≤ nL) (h : pj_J W sd op ed li st lv nm inw tow bst tst exp om ps dl dn af c0 en pd rp rv fw cl cw tk nL kd wy ll td ls wh F fl fc) : pj_J W sd op ed li st lv nm inw tow bst (pu tst (sd b) (-1)) exp om ps dl dn af c0 en pd rp rv (pu fw b 1) cl cw tk nL kd wy ll td ls (pu wh k 2) F fl fc := by
  obtain ⟨cR, cN0, cN1, cN1w, cER, cN1c, cN2, cN2e, cN2b, cN4e, cN4b, cN5, cN7, cN10, cN10e, cN13, cC1, cC2, cR3a, cE1, cU, cA1, cA2, cEC, cR3, cN11, cN12, cN3, cRJ, cFW, cPD, cCC, cCD, cRP, cRP1, cCR, cZ1, cZ0, cTK, cK2, cWH, cFI, cL0, cFC, cL0u, cOC, cCT, cL1, cL1e, cL1o, cL1b, cL1g, cL2, cL3, cL4, cAF, cRT, cCV, cL5, cL5o, cL5u, cL6, cL6u⟩ := h
  exact ⟨pt_rjb_R hG p0_ p1_ p2_ p3_ p4_ p5_ p6_ p7_ p8_ p9_ p10_ p11_ p12_ cR, cN0, cN1, cN1w, cER, pt_rjb_N1c hG p0_ p1_ p2_ p3_ p4_ p5_ p6_ p7_ p8_ p9_ p10_ p11_ p12_ cN1c cR, cN2, cN2e, cN2b, cN4e, cN4b, cN5, pt_rjb_N7 hG p0_ p1_ p2_ p3_ p4_ p5_ p6_ p7_ p8_ p9_ p10_ p11_ p12_ cN7, cN10, cN10e, cN13, cC1, cC2, cR3a, pt_rjb_E1 hG p0_ p1_ p2_ p3_ p4_ p5_ p6_ p7_ p8_ p9_ p10_ p11_ p12_ cE1, cU, cA1, cA2, pt_rjb_EC hG p0_ p1_ p2_ p3_ p4_ p5_ p6_ p7_ p8_ p9_ p10_ p11_ p12_ cEC, cR3, pt_rjb_N11 hG p0_ p1_ p2_ p3_ p4_ p5_ p6_ p7_ p8_ p9_ p10_ p11_ p12_ cN11, cN12, cN3, pt_rjb_RJ hG p0_ p1_ p2_ p3_ p4_ p5_ p6_ p7_ p8_ p9_ p10_ p11_ p12_ cRJ, pt_rjb_FW hG p0_ p1_ p2_ p3_ p4_ p5_ p6_ p7_ p8_ p9_ p10_ p11_ p12_ cFW, cPD, cCC, cCD, cRP, cRP1, cCR, cZ1, cZ0, cTK, cK2, pt_rjb_WH hG p0_ p1_ p2_ p3_ p4_ p5_ p6_ p7_ p8_ p9_ p10_ p11_ p12_ cWH cR, pt_rjb_FI hG p0_ p1_ p2_ p3_ p4_ p5_ p6_ p7_ p8_ p9_ p10_ p11_ p12_ cFI cR, pt_rjb_L0 hG p0_ p1_ p2_ p3_ p4_ p5_ p6_ p7_ p8_ p9_ p10_ p11_ p12_ cL0 cR, pt_rjb_FC hG p0_ p1_ p2_ p3_ p4_ p5_ p6_ p7_ p8_ p9_ p10_ p11_ p12_ cFC cR, pt_rjb_L0u hG p0_ p1_ p2_ p3_ p4_ p5_ p6_ p7_ p8_ p9_ p10_ p11_ p12_ cL0u cR, pt_rjb_OC hG p0_ p1_ p2_ p3_ p4_ p5_ p6_ p7_ p8_ p9_ p10_ p11_ p12_ cOC cR, pt_rjb_CT hG p0_ p1_ p2_ p3_ p4_ p5_ p6_ p7_ p8_ p9_ p10_ p11_ p12_ cCT cR, pt_rjb_L1 hG p0_ p1_ p2_ p3_ p4_ p5_ p6_ p7_ p8_ p9_ p10_ p11_ p12_ cL1 cR, pt_rjb_L1e hG p0_ p1_ p2_ p3_ p4_ p5_ p6_ p7_ p8_ p9_ p10_ p11_ p12_ cL1e cR, pt_rjb_L1o hG p0_ p1_ p2_ p3_ p4_ p5_ p6_ p7_ p8_ p9_ p10_ p11_ p12_ cL1o cR, pt_rjb_L1b hG p0_ p1_ p2_ p3_ p4_ p5_ p6_ p7_ p8_ p9_ p10_ p11_ p12_ cL1b cR, pt_rjb_L1g hG p0_ p1_ p2_ p3_ p4_ p5_ p6_ p7_ p8_ p9_ p10_ p11_ p12_ cL1g cR, pt_rjb_L2 hG p0_ p1_ p2_ p3_ p4_ p5_ p6_ p7_ p8_ p9_ p10_ p11_ p12_ cR cCV cL3 cL4 cL2 cRT, pt_rjb_L3 hG p0_ p1_ p2_ p3_ p4_ p5_ p6_ p7_ p8_ p9_ p10_ p11_ p12_ cR cCV cL3 cL4 cL2 cRT, pt_rjb_L4 hG p0_ p1_ p2_ p3_ p4_ p5_ p6_ p7_ p8_ p9_ p10_ p11_ p12_ cR cCV cL3 cL4 cL2 cRT, pt_rjb_AF hG p0_ p1_ p2_ p3_ p4_ p5_ p6_ p7_ p8_ p9_ p10_ p11_ p12_ cAF, pt_rjb_RT hG p0_ p1_ p2_ p3_ p4_ p5_ p6_ p7_ p8_ p9_ p10_ p11_ p12_ cRT cR cCV cL2 cL4, pt_rjb_CV hG p0_ p1_ p2_ p3_ p4_ p5_ p6_ p7_ p8_ p9_ p10_ p11_ p12_ cR cCV, pt_rjb_L5 hG p0_ p1_ p2_ p3_ p4_ p5_ p6_ p7_ p8_ p9_ p10_ p11_ p12_ cL5 cR, pt_rjb_L5o hG p0_ p1_ p2_ p3_ p4_ p5_ p6_ p7_ p8_ p9_ p10_ p11_ p12_ cL5o cR, pt_rjb_L5u hG p0_ p1_ p2_ p3_ p4_ p5_ p6_ p7_ p8_ p9_ p10_ p11_ p12_ cL5u cR, pt_rjb_L6 hG p0_ p1_ p2_ p3_ p4_ p5_ p6_ p7_ p8_ p9_ p10_ p11_ p12_ cL6 cR, pt_rjb_L6u hG p0_ p1_ p2_ p3_ p4_ p5_ p6_ p7_ p8_ p9_ p10_ p11_ p12_ cL6u cR⟩

set_option maxHeartbeats 1000000 in
theorem pt_aca_R {W : Int → Prop} {sd : Int → Int} {op : Int → Int} {ed : Int → Int} {st : Int → Int} {lv : Int → Int} {nm : Int → Int} {tst : Int → Int} {ps : Int → Int} {en : Int → Int} {fw : Int → Int} {nL : Int} {kd : Int → Int} {wy : Int → Int} {wh : Int → Int} {b k : Int} (hG : pj_G W sd op ed) (p0_ : W b) (p1_ : 0 ≤ k) (p2_ : k < nL) (p3_ : wh k ≠ 2) (p4_ : kd k = 3) (p5_ : wy k = op b) (p6_ : ∀ j, 0 ≤ j → j < k → wy j = wy k → wh j ≠ 0) (p7_ : tst (sd b) = (ed b)) (p8_ : st (sd b) = 1) (p9_ : nm (sd (op b)) ≠ nm (sd b)) (p10_ : lv (sd b) ≤ lv (sd (op b))) (p11_ : en b = 0) (p12_ : en (op b) ≠ 2) (p13_ : fw (op b) = 0) (p14_ : ps (sd b) = 0) (p15_ : 1 ≤ lv (sd b)) (p16_ : 0 ≤ nL) (cR : pj_R W nL kd wy wh) : pj_R W nL kd wy (pu wh k 2) := by
  obtain ⟨hop, hed⟩ := hG
  unfold pj_R at *
  intro k0
  simp only [pu]
  have g0 := hop b
  have g1 := hop (wy k0)
  have g2 := hed b (wy k0)
  have cR_0 := cR k
  have cR_1 := cR k0
  have f0 := p6_ k
  have f1 := p6_ k0
  clear p6_
  clear hop hed cR
  grind (splits := 24)

set_option maxHeartbeats 1000000 in
theorem pt_aca_N1c {W : Int → Prop} {sd : Int → Int} {op : Int → Int} {ed : Int → Int} {st : Int → Int} {lv : Int → Int} {nm : Int → Int} {tst : Int → Int} {ps : Int → Int} {en : Int → Int} {fw : Int → Int} {nL : Int} {kd : Int → Int} {wy : Int → Int} {wh : Int → Int} {b k : Int} (hG : pj_G W sd op ed) (p0_ : W b) (p1_ : 0 ≤ k) (p2_ : k < nL) (p3_ : wh k ≠ 2) (p4_ : kd k = 3) (p5_ : wy k = op b) (p6_ : ∀ j, 0 ≤ j → j < k → wy j = wy k → wh j ≠ 0) (p7_ : tst (sd b) = (ed b)) (p8_ : st (sd b) = 1) (p9_ : nm (sd (op b)) ≠ nm (sd b)) (p10_ : lv (sd b) ≤ lv (sd (op b))) (p11_ : en b = 0) (p12_ : en (op b) ≠ 2) (p13_ : fw (op b) = 0) (p14_ : ps (sd b) = 0) (p15_ : 1 ≤ lv (sd b)) (p16_ : 0 ≤ nL) (cN1c : pj_N1c sd op st nL wy wh) (cR : pj_R W nL kd wy wh) : pj_N1c sd op st nL wy (pu wh k 2) := by
  obtain ⟨hop, hed⟩ := hG
  unfold pj_N1c pj_R at *
  intro k0
  simp only [pu]
  have g0 := hop b
  have g1 := hop (wy k0)
  have g2 := hed b (wy k0)
  have cN1c_0 := cN1c k
  have cN1c_1 := cN1c k0
  have cR_0 := cR k0
  have f0 := p6_ k
  have f1 := p6_ k0
  clear p6_
  clear hop hed cN1c cR
  grind (splits := 24)

set_option maxHeartbeats 1000000 in
theorem pt_aca_N4b {W : Int → Prop} {sd : Int → Int} {op : Int → Int} {ed : Int → Int} {st : Int → Int} {lv : Int → Int} {nm : Int → Int} {inw : Int → Int} {tow : Int → Int} {bst : Int → Int} {tst : Int → Int} {om : Int → Int} {ps : Int → Int} {en : Int → Int} {fw : Int → Int} {nL : Int} {kd : Int → Int} {wy : Int → Int} {wh : Int → Int} {b k : Int} (hG : pj_G W sd op ed) (p0_ : W b) (p1_ : 0 ≤ k) (p2_ : k < nL) (p3_ : wh k ≠ 2) (p4_ : kd k = 3) (p5_ : wy k = op b) (p6_ : ∀ j, 0 ≤ j → j < k → wy j = wy k → wh j ≠ 0) (p7_ : tst (sd b) = (ed b)) (p8_ : st (sd b) = 1) (p9_ : nm (sd (op b)) ≠ nm (sd b)) (p10_ : lv (sd b) ≤ lv (sd (op b))) (p11_ : en b = 0) (p12_ : en (op b) ≠ 2) (p13_ : fw (op b) = 0) (p14_ : ps (sd b) = 0) (p15_ : 1 ≤ lv (sd b)) (p16_ : 0 ≤ nL) (cN4b : pj_N4b st lv nm inw tow bst om ps) : pj_N4b st lv nm inw (pu tow (sd b) (ed b)) (pu bst (sd b) (ed b)) om ps := by
  obtain ⟨hop, hed⟩ := hG
  unfold pj_N4b at *
  intro n0
  simp only [pu]
  have g0 := hop b
  have cN4b_0 := cN4b (sd (op b))
  have cN4b_1 := cN4b n0
  have cN4b_2 := cN4b (sd b)
  have f0 := p6_ k
  clear p6_
  clear hop hed cN4b
  grind (splits := 24)

set_option maxHeartbeats 1000000 in
theorem pt_aca_N7 {W : Int → Prop} {sd : Int → Int} {op : Int → Int} {ed : Int → Int} {st : Int → Int} {lv : Int → Int} {nm : Int → Int} {tst : Int → Int} {exp : Int → Int} {ps : Int → Int} {en : Int → Int} {fw : Int → Int} {nL : Int} {kd : Int → Int} {wy : Int → Int} {wh : Int → Int} {b k : Int} (hG : pj_G W sd op ed) (p0_ : W b) (p1_ : 0 ≤ k) (p2_ : k < nL) (p3_ : wh k ≠ 2) (p4_ : kd k = 3) (p5_ : wy k = op b) (p6_ : ∀ j, 0 ≤ j → j < k → wy j = wy k → wh j ≠ 0) (p7_ : tst (sd b) = (ed b)) (p8_ : st (sd b) = 1) (p9_ : nm (sd (op b)) ≠ nm (sd b)) (p10_ : lv (sd b) ≤ lv (sd (op b))) (p11_ : en b = 0) (p12_ : en (op b) ≠ 2) (p13_ : fw (op b) = 0) (p14_ : ps (sd b) = 0) (p15_ : 1 ≤ lv (sd b)) (p16_ : 0 ≤ nL) (cN7 : pj_N7 st tst exp) : pj_N7 st (pu tst (sd b) (-1)) exp := by
  obtain ⟨hop, hed⟩ := hG
  unfold pj_N7 at *
  intro n0
  simp only [pu]
  have g0 := hop b
  have cN7_0 := cN7 (sd (op b))
  have cN7_1 := cN7 n0
  have cN7_2 := cN7 (sd b)
  have f0 := p6_ k
  clear p6_
  clear hop hed cN7
  grind (splits := 24)

set_option maxHeartbeats 1000000 in
theorem pt_aca_N10 {W : Int → Prop} {sd : Int → Int} {op : Int → Int} {ed : Int → Int} {st : Int → Int} {lv : Int → Int} {nm : Int → Int} {tow : Int → Int} {bst : Int → Int} {tst : Int → Int} {ps : Int → Int} {en : Int → Int} {fw : Int → Int} {nL : Int} {kd : Int → Int} {wy : Int → Int} {wh : Int → Int} {b k : Int} (hG : pj_G W sd op ed) (p0_ : W b) (p1_ : 0 ≤ k) (p2_ : k < nL) (p3_ : wh k ≠ 2) (p4_ : kd k = 3) (p5_ : wy k = op b) (p6_ : ∀ j, 0 ≤ j → j < k → wy j = wy k → wh j ≠ 0) (p7_ : tst (sd b) = (ed b)) (p8_ : st (sd b) = 1) (p9_ : nm (sd (op b)) ≠ nm (sd b)) (p10_ : lv (sd b) ≤ lv (sd (op b))) (p11_ : en b = 0) (p12_ : en (op b) ≠ 2) (p13_ : fw (op b) = 0) (p14_ : ps (sd b) = 0) (p15_ : 1 ≤ lv (sd b)) (p16_ : 0 ≤ nL) (cN10 : pj_N10 tow bst) : pj_N10 (pu tow (sd b) (ed b)) (pu bst (sd b) (ed b)) := by
  obtain ⟨hop, hed⟩ := hG
  unfold pj_N10 at *
  intro n0
  simp only [pu]
  have g0 := hop b
  have cN10_0 := cN10 (sd (op b))
  have cN10_1 := cN10 n0
  have cN10_2 := cN10 (sd b)
  have f0 := p6_ k
  clear p6_
  clear hop hed cN10
  grind (splits := 24)

set_option maxHeartbeats 1000000 in
theorem pt_aca_N10e {W : Int → Prop} {sd : Int → Int} {op : Int → Int} {ed : Int → Int} {st : Int → Int} {lv : Int → Int} {nm : Int → Int} {tow : Int → Int} {tst : Int → Int} {ps : Int → Int} {en : Int → Int} {fw : Int → Int} {nL : Int} {kd : Int → Int} {wy : Int → Int} {wh : Int → Int} {b k : Int} (hG : pj_G W sd op ed) (p0_ : W b) (p1_ : 0 ≤ k) (p2_ : k < nL) (p3_ : wh k ≠ 2) (p4_ : kd k = 3) (p5_ : wy k = op b) (p6_ : ∀ j, 0 ≤ j → j < k → wy j = wy k → wh j ≠ 0) (p7_ : tst (sd b) = (ed b)) (p8_ : st (sd b) = 1) (p9_ : nm (sd (op b)) ≠ nm (sd b)) (p10_ : lv (sd b) ≤ lv (sd (op b))) (p11_ : en b = 0) (p12_ : en (op b) ≠ 2) (p13_ : fw (op b) = 0) (p14_ : ps (sd b) = 0) (p15_ : 1 ≤ lv (sd b)) (p16_ : 0 ≤ nL) (cN10e : pj_N10e W sd ed tow) : pj_N10e W sd ed (pu tow (sd b) (ed b)) := by
  obtain ⟨hop, hed⟩ := hG
  unfold pj_N10e at *
  intro n0
  simp only [pu]
  have g0 := hop b
  have cN10e_0 := cN10e (sd (op b))
  have cN10e_1 := cN10e n0
  have cN10e_2 := cN10e (sd b)
  have f0 := p6_ k
  clear p6_
  clear hop hed cN10e
  grind (splits := 24)

set_option maxHeartbeats 1000000 in
theorem pt_aca_E1 {W : Int → Prop} {sd : Int → Int} {op : Int → Int} {ed : Int → Int} {st : Int → Int} {lv : Int → Int} {nm : Int → Int} {tst : Int → Int} {ps : Int → Int} {dl : Int → Int} {en : Int → Int} {fw : Int → Int} {nL : Int} {kd : Int → Int} {wy : Int → Int} {ll : Int → Int} {wh : Int → Int} {b k : Int} (hG : pj_G W sd op ed) (p0_ : W b) (p1_ : 0 ≤ k) (p2_ : k < nL) (p3_ : wh k ≠ 2) (p4_ : kd k = 3) (p5_ : wy k = op b) (p6_ : ∀ j, 0 ≤ j → j < k → wy j = wy k → wh j ≠ 0) (p7_ : tst (sd b) = (ed b)) (p8_ : st (sd b) = 1) (p9_ : nm (sd (op b)) ≠ nm (sd b)) (p10_ : lv (sd b) ≤ lv (sd (op b))) (p11_ : en b = 0) (p12_ : en (op b) ≠ 2) (p13_ : fw (op b) = 0) (p14_ : ps (sd b) = 0) (p15_ : 1 ≤ lv (sd b)) (p16_ : 0 ≤ nL) (cE1 : pj_E1 sd op lv dl nL kd wy ll wh) : pj_E1 sd op lv dl nL kd wy ll (pu wh k 2) := by
  obtain ⟨hop, hed⟩ := hG
  unfold pj_E1 at *
  intro n0
  simp only [pu]
  have g0 := hop b
  have cE1_0 := cE1 (sd (op b))
  have cE1_1 := cE1 n0
  have cE1_2 := cE1 (sd b)
  have f0 := p6_ k
  clear p6_
  clear hop hed cE1
  grind (splits := 24)

set_option maxHeartbeats 1000000 in
theorem pt_aca_EC {W : Int → Prop} {sd : Int → Int} {op : Int → Int} {ed : Int → Int} {st : Int → Int} {lv : Int → Int} {nm : Int → Int} {tst : Int → Int} {om : Int → Int} {ps : Int → Int} {dl : Int → Int} {en : Int → Int} {fw : Int → Int} {nL : Int} {kd : Int → Int} {wy : Int → Int} {wh : Int → Int} {F : Int → Prop} {b k : Int} (hG : pj_G W sd op ed) (p0_ : W b) (p1_ : 0 ≤ k) (p2_ : k < nL) (p3_ : wh k ≠ 2) (p4_ : kd k = 3) (p5_ : wy k = op b) (p6_ : ∀ j, 0 ≤ j → j < k → wy j = wy k → wh j ≠ 0) (p7_ : tst (sd b) = (ed b)) (p8_ : st (sd b) = 1) (p9_ : nm (sd (op b)) ≠ nm (sd b)) (p10_ : lv (sd b) ≤ lv (sd (op b))) (p11_ : en b = 0) (p12_ : en (op b) ≠ 2) (p13_ : fw (op b) = 0) (p14_ : ps (sd b) = 0) (p15_ : 1 ≤ lv (sd b)) (p16_ : 0 ≤ nL) (cEC : pj_EC W sd op ed lv nm om ps dl nL kd wy wh F) : pj_EC W sd op ed lv nm om ps dl nL kd wy (pu wh k 2) F := by
  obtain ⟨hop, hed⟩ := hG
  unfold pj_EC at *
  intro w0
  simp only [pu]
  have g0 := hop b
  have g1 := hop w0
  have g2 := hed b w0
  have cEC_0 := cEC b
  have cEC_1 := cEC w0
  have cEC_2 := cEC (op w0)
  have f0 := p6_ k
  clear p6_
  clear hop hed cEC
  grind (splits := 24)

set_option maxHeartbeats 1000000 in
theorem pt_aca_N11 {W : Int → Prop} {sd : Int → Int} {op : Int → Int} {ed : Int → Int} {st : Int → Int} {lv : Int → Int} {nm : Int → Int} {tow : Int → Int} {tst : Int → Int} {ps : Int → Int} {en : Int → Int} {fw : Int → Int} {nL : Int} {kd : Int → Int} {wy : Int → Int} {wh : Int → Int} {b k : Int} (hG : pj_G W sd op ed) (p0_ : W b) (p1_ : 0 ≤ k) (p2_ : k < nL) (p3_ : wh k ≠ 2) (p4_ : kd k = 3) (p5_ : wy k = op b) (p6_ : ∀ j, 0 ≤ j → j < k → wy j = wy k → wh j ≠ 0) (p7_ : tst (sd b) = (ed b)) (p8_ : st (sd b) = 1) (p9_ : nm (sd (op b)) ≠ nm (sd b)) (p10_ : lv (sd b) ≤ lv (sd (op b))) (p11_ : en b = 0) (p12_ : en (op b) ≠ 2) (p13_ : fw (op b) = 0) (p14_ : ps (sd b) = 0) (p15_ : 1 ≤ lv (sd b)) (p16_ : 0 ≤ nL) (cN11 : pj_N11 W sd op ed lv nm tow tst ps en) : pj_N11 W sd op ed lv nm (pu tow (sd b) (ed b)) (pu tst (sd b) (-1)) ps en := by
  obtain ⟨hop, hed⟩ := hG
  unfold pj_N11 at *
  intro w0
  simp only [pu]
  have g0 := hop b
  have g1 := hop w0
  have g2 := hed b w0
  have cN11_0 := cN11 b
  have cN11_1 := cN11 w0
  have cN11_2 := cN11 (op w0)
  have f0 := p6_ k
  clear p6_
  clear hop hed cN11
  grind (splits := 24)

set_option maxHeartbeats 1000000 in
theorem pt_aca_N12 {W : Int → Prop} {sd : Int → Int} {op : Int → Int} {ed : Int → Int} {st : Int → Int} {lv : Int → Int} {nm : Int → Int} {inw : Int → Int} {tow : Int → Int} {tst : Int → Int} {om : Int → Int} {ps : Int → Int} {dl : Int → Int} {en : Int → Int} {fw : Int → Int} {nL : Int} {kd : Int → Int} {wy : Int → Int} {wh : Int → Int} {b k : Int} (hG : pj_G W sd op ed) (p0_ : W b) (p1_ : 0 ≤ k) (p2_ : k < nL) (p3_ : wh k ≠ 2) (p4_ : kd k = 3) (p5_ : wy k = op b) (p6_ : ∀ j, 0 ≤ j → j < k → wy j = wy k → wh j ≠ 0) (p7_ : tst (sd b) = (ed b)) (p8_ : st (sd b) = 1) (p9_ : nm (sd (op b)) ≠ nm (sd b)) (p10_ : lv (sd b) ≤ lv (sd (op b))) (p11_ : en b = 0) (p12_ : en (op b) ≠ 2) (p13_ : fw (op b) = 0) (p14_ : ps (sd b) = 0) (p15_ : 1 ≤ lv (sd b)) (p16_ : 0 ≤ nL) (cN12 : pj_N12 W sd op ed st lv nm inw tow om ps dl en) : pj_N12 W sd op ed st lv nm inw (pu tow (sd b) (ed b)) om ps dl en := by
  obtain ⟨hop, hed⟩ := hG
  unfold pj_N12 at *
  intro w0
  simp only [pu]
  have g0 := hop b
  have g1 := hop w0
  have g2 := hed b w0
  have cN12_0 := cN12 b
  have cN12_1 := cN12 w0
  have cN12_2 := cN12 (op w0)
  have f0 := p6_ k
  clear p6_
  clear hop hed cN12
  grind (splits := 24)

set_option maxHeartbeats 1000000 in
theorem pt_aca_RJ {W : Int → Prop} {sd : Int → Int} {op : Int → Int} {ed : Int → Int} {st : Int → Int} {lv : Int → Int} {nm : Int → Int} {tst : Int → Int} {ps : Int → Int} {en : Int → Int} {fw : Int → Int} {nL : Int} {kd : Int → Int} {wy : Int → Int} {wh : Int → Int} {b k : Int} (hG : pj_G W sd op ed) (p0_ : W b) (p1_ : 0 ≤ k) (p2_ : k < nL) (p3_ : wh k ≠ 2) (p4_ : kd k = 3) (p5_ : wy k = op b) (p6_ : ∀ j, 0 ≤ j → j < k → wy j = wy k → wh j ≠ 0) (p7_ : tst (sd b) = (ed b)) (p8_ : st (sd b) = 1) (p9_ : nm (sd (op b)) ≠ nm (sd b)) (p10_ : lv (sd b) ≤ lv (sd (op b))) (p11_ : en b = 0) (p12_ : en (op b) ≠ 2) (p13_ : fw (op b) = 0) (p14_ : ps (sd b) = 0) (p15_ : 1 ≤ lv (sd b)) (p16_ : 0 ≤ nL) (cRJ : pj_RJ W sd op ed tst en fw) : pj_RJ W sd op ed (pu tst (sd b) (-1)) en fw := by
  obtain ⟨hop, hed⟩ := hG
  unfold pj_RJ at *
  intro w0
  simp only [pu]
  have g0 := hop b
  have g1 := hop w0
  have g2 := hed b w0
  have cRJ_0 := cRJ b
  have cRJ_1 := cRJ w0
  have cRJ_2 := cRJ (op w0)
  have f0 := p6_ k
  clear p6_
  clear hop hed cRJ
  grind (splits := 24)

set_option maxHeartbeats 1000000 in
theorem pt_aca_FW {W : Int → Prop} {sd : Int → Int} {op : Int → Int} {ed : Int → Int} {st : Int → Int} {lv : Int → Int} {nm : Int → Int} {tst : Int → Int} {ps : Int → Int} {en : Int → Int} {fw : Int → Int} {nL : Int} {kd : Int → Int} {wy : Int → Int} {wh : Int → Int} {b k : Int} (hG : pj_G W sd op ed) (p0_ : W b) (p1_ : 0 ≤ k) (p2_ : k < nL) (p3_ : wh k ≠ 2) (p4_ : kd k = 3) (p5_ : wy k = op b) (p6_ : ∀ j, 0 ≤ j → j < k → wy j = wy k → wh j ≠ 0) (p7_ : tst (sd b) = (ed b)) (p8_ : st (sd b) = 1) (p9_ : nm (sd (op b)) ≠ nm (sd b)) (p10_ : lv (sd b) ≤ lv (sd (op b))) (p11_ : en b = 0) (p12_ : en (op b) ≠ 2) (p13_ : fw (op b) = 0) (p14_ : ps (sd b) = 0) (p15_ : 1 ≤ lv (sd b)) (p16_ : 0 ≤ nL) (cFW : pj_FW W sd ed tst en fw) : pj_FW W sd ed (pu tst (sd b) (-1)) en fw := by
  obtain ⟨hop, hed⟩ := hG
  unfold pj_FW at *
  intro w0
  simp only [pu]
  have g0 := hop b
  have g1 := hop w0
  have g2 := hed b w0
  have cFW_0 := cFW b
  have cFW_1 := cFW w0
  have cFW_2 := cFW (op w0)
  have f0 := p6_ k
  clear p6_
  clear hop hed cFW
  grind (splits := 24)

set_option maxHeartbeats 1000000 in
theorem pt_aca_RP {W : Int → Prop} {sd : Int → Int} {op : Int → Int} {ed : Int → Int} {st : Int → Int} {lv : Int → Int} {nm : Int → Int} {bst : Int → Int} {tst : Int → Int} {ps : Int → Int} {en : Int → Int} {rp : Int → Int} {rv : Int → Int} {fw : Int → Int} {nL : Int} {kd : Int → Int} {wy : Int → Int} {wh : Int → Int} {b k : Int} (hG : pj_G W sd op ed) (p0_ : W b) (p1_ : 0 ≤ k) (p2_ : k < nL) (p3_ : wh k ≠ 2) (p4_ : kd k = 3) (p5_ : wy k = op b) (p6_ : ∀ j, 0 ≤ j → j < k → wy j = wy k → wh j ≠ 0) (p7_ : tst (sd b) = (ed b)) (p8_ : st (sd b) = 1) (p9_ : nm (sd (op b)) ≠ nm (sd b)) (p10_ : lv (sd b) ≤ lv (sd (op b))) (p11_ : en b = 0) (p12_ : en (op b) ≠ 2) (p13_ : fw (op b) = 0) (p14_ : ps (sd b) = 0) (p15_ : 1 ≤ lv (sd b)) (p16_ : 0 ≤ nL) (cRP : pj_RP W sd ed st lv nm bst rp rv) : pj_RP W sd ed st lv nm (pu bst (sd b) (ed b)) rp rv := by
  obtain ⟨hop, hed⟩ := hG
  unfold pj_RP at *
  intro w0
  simp only [pu]
  have g0 := hop b
  have g1 := hop w0
  have g2 := hed b w0
  have cRP_0 := cRP b
  have cRP_1 := cRP w0
  have cRP_2 := cRP (op w0)
  have f0 := p6_ k
  clear p6_
  clear hop hed cRP
  grind (splits := 24)

set_option maxHeartbeats 1000000 in
theorem pt_aca_WH {W : Int → Prop} {sd : Int → Int} {op : Int → Int} {ed : Int → Int} {st : Int → Int} {lv : Int → Int} {nm : Int → Int} {tst : Int → Int} {ps : Int → Int} {en : Int → Int} {fw : Int → Int} {nL : Int} {kd : Int → Int} {wy : Int → Int} {wh : Int → Int} {b k : Int} (hG : pj_G W sd op ed) (p0_ : W b) (p1_ : 0 ≤ k) (p2_ : k < nL) (p3_ : wh k ≠ 2) (p4_ : kd k = 3) (p5_ : wy k = op b) (p6_ : ∀ j, 0 ≤ j → j < k → wy j = wy k → wh j ≠ 0) (p7_ : tst (sd b) = (ed b)) (p8_ : st (sd b) = 1) (p9_ : nm (sd (op b)) ≠ nm (sd b)) (p10_ : lv (sd b) ≤ lv (sd (op b))) (p11_ : en b = 0) (p12_ : en (op b) ≠ 2) (p13_ : fw (op b) = 0) (p14_ : ps (sd b) = 0) (p15_ : 1 ≤ lv (sd b)) (p16_ : 0 ≤ nL) (cWH : pj_WH nL kd wh) (cR : pj_R W nL kd wy wh) : pj_WH nL kd (pu wh k 2) := by
  obtain ⟨hop, hed⟩ := hG
  unfold pj_WH pj_R at *
  intro k0
  simp only [pu]
  have g0 := hop b
  have g1 := hop (wy k0)
  have g2 := hed b (wy k0)
  have cWH_0 := cWH k
  have cWH_1 := cWH k0
  have cR_0 := cR k0
  have f0 := p6_ k
  have f1 := p6_ k0
  clear p6_
  clear hop hed cWH cR
  grind (splits := 24)

set_option maxHeartbeats 1000000 in
theorem pt_aca_FI {W : Int → Prop} {sd : Int → Int} {op : Int → Int} {ed : Int → Int} {st : Int → Int} {lv : Int → Int} {nm : Int → Int} {tst : Int → Int} {ps : Int → Int} {en : Int → Int} {fw : Int → Int} {nL : Int} {kd : Int → Int} {wy : Int → Int} {wh : Int → Int} {b k : Int} (hG : pj_G W sd op ed) (p0_ : W b) (p1_ : 0 ≤ k) (p2_ : k < nL) (p3_ : wh k ≠ 2) (p4_ : kd k = 3) (p5_ : wy k = op b) (p6_ : ∀ j, 0 ≤ j → j < k → wy j = wy k → wh j ≠ 0) (p7_ : tst (sd b) = (ed b)) (p8_ : st (sd b) = 1) (p9_ : nm (sd (op b)) ≠ nm (sd b)) (p10_ : lv (sd b) ≤ lv (sd (op b))) (p11_ : en b = 0) (p12_ : en (op b) ≠ 2) (p13_ : fw (op b) = 0) (p14_ : ps (sd b) = 0) (p15_ : 1 ≤ lv (sd b)) (p16_ : 0 ≤ nL) (cFI : pj_FI nL wy wh) (cR : pj_R W nL kd wy wh) : pj_FI nL wy (pu wh k 2) := by
  obtain ⟨hop, hed⟩ := hG
  unfold pj_FI pj_R at *
  intro j0 k0
  simp only [pu]
  have g0 := hop b
  have g1 := hop (wy j0)
  have g2 := hop (wy k0)
  have g3 := hed b (wy j0)
  have g4 := hed b (wy k0)
  have g5 := hed (wy j0) (wy k0)
  have cFI_0 := cFI k k
  have cFI_1 := cFI k j0
  have cFI_2 := cFI k k0
  have cFI_3 := cFI j0 k
  have cFI_4 := cFI j0 j0
  have cFI_5 := cFI j0 k0
  have cFI_6 := cFI k0 k
  have cFI_7 := cFI k0 j0
  have cFI_8 := cFI k0 k0
  have cR_0 := cR j0
  have cR_1 := cR k0
  have f0 := p6_ k
  have f1 := p6_ j0
  have f2 := p6_ k0
  clear p6_
  clear hop hed cFI cR
  grind (splits := 24)

set_option maxHeartbeats 1000000 in
theorem pt_aca_L0 {W : Int → Prop} {sd : Int → Int} {op : Int → Int} {ed : Int → Int} {st : Int → Int} {lv : Int → Int} {nm : Int → Int} {tst : Int → Int} {om : Int → Int} {ps : Int → Int} {dl : Int → Int} {c0 : Int → Int} {en : Int → Int} {fw : Int → Int} {cw : Int → Int} {nL : Int} {kd : Int → Int} {wy : Int → Int} {ll : Int → Int} {wh : Int → Int} {b k : Int} (hG : pj_G W sd op ed) (p0_ : W b) (p1_ : 0 ≤ k) (p2_ : k < nL) (p3_ : wh k ≠ 2) (p4_ : kd k = 3) (p5_ : wy k = op b) (p6_ : ∀ j, 0 ≤ j → j < k → wy j = wy k → wh j ≠ 0) (p7_ : tst (sd b) = (ed b)) (p8_ : st (sd b) = 1) (p9_ : nm (sd (op b)) ≠ nm (sd b)) (p10_ : lv (sd b) ≤ lv (sd (op b))) (p11_ : en b = 0) (p12_ : en (op b) ≠ 2) (p13_ : fw (op b) = 0) (p14_ : ps (sd b) = 0) (p15_ : 1 ≤ lv (sd b)) (p16_ : 0 ≤ nL) (cL0 : pj_L0 sd op ed lv nm om ps dl c0 en cw nL kd wy ll wh) (cR : pj_R W nL kd wy wh) : pj_L0 sd op ed lv nm om ps dl c0 en cw nL kd wy ll (pu wh k 2) := by
  obtain ⟨hop, hed⟩ := hG
  unfold pj_L0 pj_R at *
  intro k0
  simp only [pu]
  have g0 := hop b
  have g1 := hop (wy k0)
  have g2 := hed b (wy k0)
  have cL0_0 := cL0 k
  have cL0_1 := cL0 k0
  have cR_0 := cR k0
  have f0 := p6_ k
  have f1 := p6_ k0
  clear p6_
  clear hop hed cL0 cR
  grind (splits := 24)

set_option maxHeartbeats 1000000 in
theorem pt_aca_FC {W : Int → Prop} {sd : Int → Int} {op : Int → Int} {ed : Int → Int} {st : Int → Int} {lv : Int → Int} {nm : Int → Int} {tst : Int → Int} {ps : Int → Int} {en : Int → Int} {fw : Int → Int} {nL : Int} {kd : Int → Int} {wy : Int → Int} {wh : Int → Int} {F : Int → Prop} {b k : Int} (hG : pj_G W sd op ed) (p0_ : W b) (p1_ : 0 ≤ k) (p2_ : k < nL) (p3_ : wh k ≠ 2) (p4_ : kd k = 3) (p5_ : wy k = op b) (p6_ : ∀ j, 0 ≤ j → j < k → wy j = wy k → wh j ≠ 0) (p7_ : tst (sd b) = (ed b)) (p8_ : st (sd b) = 1) (p9_ : nm (sd (op b)) ≠ nm (sd b)) (p10_ : lv (sd b) ≤ lv (sd (op b))) (p11_ : en b = 0) (p12_ : en (op b) ≠ 2) (p13_ : fw (op b) = 0) (p14_ : ps (sd b) = 0) (p15_ : 1 ≤ lv (sd b)) (p16_ : 0 ≤ nL) (cFC : pj_FC op nL kd wy wh F) (cR : pj_R W nL kd wy wh) : pj_FC op nL kd wy (pu wh k 2) F := by
  obtain ⟨hop, hed⟩ := hG
  unfold pj_FC pj_R at *
  intro k0
  simp only [pu]
  have g0 := hop b
  have g1 := hop (wy k0)
  have g2 := hed b (wy k0)
  have cFC_0 := cFC k
  have cFC_1 := cFC k0
  have cR_0 := cR k0
  have f0 := p6_ k
  have f1 := p6_ k0
  clear p6_
  clear hop hed cFC cR
  grind (splits := 24)

set_option maxHeartbeats 1000000 in
theorem pt_aca_L0u {W : Int → Prop} {sd : Int → Int} {op : Int → Int} {ed : Int → Int} {st : Int → Int} {lv : Int → Int} {nm : Int → Int} {tst : Int → Int} {ps : Int → Int} {en : Int → Int} {fw : Int → Int} {nL : Int} {kd : Int → Int} {wy : Int → Int} {wh : Int → Int} {b k : Int} (hG : pj_G W sd op ed) (p0_ : W b) (p1_ : 0 ≤ k) (p2_ : k < nL) (p3_ : wh k ≠ 2) (p4_ : kd k = 3) (p5_ : wy k = op b) (p6_ : ∀ j, 0 ≤ j → j < k → wy j = wy k → wh j ≠ 0) (p7_ : tst (sd b) = (ed b)) (p8_ : st (sd b) = 1) (p9_ : nm (sd (op b)) ≠ nm (sd b)) (p10_ : lv (sd b) ≤ lv (sd (op b))) (p11_ : en b = 0) (p12_ : en (op b) ≠ 2) (p13_ : fw (op b) = 0) (p14_ : ps (sd b) = 0) (p15_ : 1 ≤ lv (sd b)) (p16_ : 0 ≤ nL) (cL0u : pj_L0u nL kd wy wh) (cR : pj_R W nL kd wy wh) : pj_L0u nL kd wy (pu wh k 2) := by
  obtain ⟨hop, hed⟩ := hG
  unfold pj_L0u pj_R at *
  intro j0 k0
  simp only [pu]
  have g0 := hop b
  have g1 := hop (wy j0)
  have g2 := hop (wy k0)
  have g3 := hed b (wy j0)
  have g4 := hed b (wy k0)
  have g5 := hed (wy j0) (wy k0)
  have cL0u_0 := cL0u k k
  have cL0u_1 := cL0u k j0
  have cL0u_2 := cL0u k k0
  have cL0u_3 := cL0u j0 k
  have cL0u_4 := cL0u j0 j0
  have cL0u_5 := cL0u j0 k0
  have cL0u_6 := cL0u k0 k
  have cL0u_7 := cL0u k0 j0
  have cL0u_8 := cL0u k0 k0
  have cR_0 := cR j0
  have cR_1 := cR k0
  have f0 := p6_ k
  have f1 := p6_ j0
  have f2 := p6_ k0
  clear p6_
  clear hop hed cL0u cR
  grind (splits := 24)

set_option maxHeartbeats 1000000 in
theorem pt_aca_OC {W : Int → Prop} {sd : Int → Int} {op : Int → Int} {ed : Int → Int} {st : Int → Int} {lv : Int → Int} {nm : Int → Int} {tst : Int → Int} {ps : Int → Int} {en : Int → Int} {fw : Int → Int} {nL : Int} {kd : Int → Int} {wy : Int → Int} {wh : Int → Int} {b k : Int} (hG : pj_G W sd op ed) (p0_ : W b) (p1_ : 0 ≤ k) (p2_ : k < nL) (p3_ : wh k ≠ 2) (p4_ : kd k = 3) (p5_ : wy k = op b) (p6_ : ∀ j, 0 ≤ j → j < k → wy j = wy k → wh j ≠ 0) (p7_ : tst (sd b) = (ed b)) (p8_ : st (sd b) = 1) (p9_ : nm (sd (op b)) ≠ nm (sd b)) (p10_ : lv (sd b) ≤ lv (sd (op b))) (p11_ : en b = 0) (p12_ : en (op b) ≠ 2) (p13_ : fw (op b) = 0) (p14_ : ps (sd b) = 0) (p15_ : 1 ≤ lv (sd b)) (p16_ : 0 ≤ nL) (cOC : pj_OC nL kd wy wh) (cR : pj_R W nL kd wy wh) : pj_OC nL kd wy (pu wh k 2) := by
  obtain ⟨hop, hed⟩ := hG
  unfold pj_OC pj_R at *
  intro j0 k0
  simp only [pu]
  have g0 := hop b
  have g1 := hop (wy j0)
  have g2 := hop (wy k0)
  have g3 := hed b (wy j0)
  have g4 := hed b (wy k0)
  have g5 := hed (wy j0) (wy k0)
  have cOC_0 := cOC k k
  have cOC_1 := cOC k j0
  have cOC_2 := cOC k k0
  have cOC_3 := cOC j0 k
  have cOC_4 := cOC j0 j0
  have cOC_5 := cOC j0 k0
  have cOC_6 := cOC k0 k
  have cOC_7 := cOC k0 j0
  have cOC_8 := cOC k0 k0
  have cR_0 := cR j0
  have cR_1 := cR k0
  have f0 := p6_ k
  have f1 := p6_ j0
  have f2 := p6_ k0
  clear p6_
  clear hop hed cOC cR
  grind (splits := 24)

set_option maxHeartbeats 1000000 in
theorem pt_aca_CT {W : Int → Prop} {sd : Int → Int} {op : Int → Int} {ed : Int → Int} {st : Int → Int} {lv : Int → Int} {nm : Int → Int} {tst : Int → Int} {ps : Int → Int} {en : Int → Int} {fw : Int → Int} {nL : Int} {kd : Int → Int} {wy : Int → Int} {wh : Int → Int} {b k : Int} (hG : pj_G W sd op ed) (p0_ : W b) (p1_ : 0 ≤ k) (p2_ : k < nL) (p3_ : wh k ≠ 2) (p4_ : kd k = 3) (p5_ : wy k = op b) (p6_ : ∀ j, 0 ≤ j → j < k → wy j = wy k → wh j ≠ 0) (p7_ : tst (sd b) = (ed b)) (p8_ : st (sd b) = 1) (p9_ : nm (sd (op b)) ≠ nm (sd b)) (p10_ : lv (sd b) ≤ lv (sd (op b))) (p11_ : en b = 0) (p12_ : en (op b) ≠ 2) (p13_ : fw (op b) = 0) (p14_ : ps (sd b) = 0) (p15_ : 1 ≤ lv (sd b)) (p16_ : 0 ≤ nL) (cCT : pj_CT nL kd wy wh) (cR : pj_R W nL kd wy wh) : pj_CT nL kd wy (pu wh k 2) := by
  obtain ⟨hop, hed⟩ := hG
  unfold pj_CT pj_R at *
  intro j0 k0
  simp only [pu]
  have g0 := hop b
  have g1 := hop (wy j0)
  have g2 := hop (wy k0)
  have g3 := hed b (wy j0)
  have g4 := hed b (wy k0)
  have g5 := hed (wy j0) (wy k0)
  have cCT_0 := cCT k k
  have cCT_1 := cCT k j0
  have cCT_2 := cCT k k0
  have cCT_3 := cCT j0 k
  have cCT_4 := cCT j0 j0
  have cCT_5 := cCT j0 k0
  have cCT_6 := cCT k0 k
  have cCT_7 := cCT k0 j0
  have cCT_8 := cCT k0 k0
  have cR_0 := cR j0
  have cR_1 := cR k0
  have f0 := p6_ k
  have f1 := p6_ j0
  have f2 := p6_ k0
  clear p6_
  clear hop hed cCT cR
  grind (splits := 24)

set_option maxHeartbeats 1000000 in
theorem pt_aca_L1 {W : Int → Prop} {sd : Int → Int} {op : Int → Int} {ed : Int → Int} {st : Int → Int} {lv : Int → Int} {nm : Int → Int} {tst : Int → Int} {om : Int → Int} {ps : Int → Int} {dl : Int → Int} {en : Int → Int} {fw : Int → Int} {cl : Int → Int} {nL : Int} {kd : Int → Int} {wy : Int → Int} {ll : Int → Int} {td : Int → Int} {ls : Int → Int} {wh : Int → Int} {b k : Int} (hG : pj_G W sd op ed) (p0_ : W b) (p1_ : 0 ≤ k) (p2_ : k < nL) (p3_ : wh k ≠ 2) (p4_ : kd k = 3) (p5_ : wy k = op b) (p6_ : ∀ j, 0 ≤ j → j < k → wy j = wy k → wh j ≠ 0) (p7_ : tst (sd b) = (ed b)) (p8_ : st (sd b) = 1) (p9_ : nm (sd (op b)) ≠ nm (sd b)) (p10_ : lv (sd b) ≤ lv (sd (op b))) (p11_ : en b = 0) (p12_ : en (op b) ≠ 2) (p13_ : fw (op b) = 0) (p14_ : ps (sd b) = 0) (p15_ : 1 ≤ lv (sd b)) (p16_ : 0 ≤ nL) (cL1 : pj_L1 sd op ed st lv om dl en cl nL kd wy ll td ls wh) (cR : pj_R W nL kd wy wh) : pj_L1 sd op ed st lv om dl en cl nL kd wy ll td ls (pu wh k 2) := by
  obtain ⟨hop, hed⟩ := hG
  unfold pj_L1 pj_R at *
  intro k0
  simp only [pu]
  have g0 := hop b
  have g1 := hop (wy k0)
  have g2 := hed b (wy k0)
  have cL1_0 := cL1 k
  have cL1_1 := cL1 k0
  have cR_0 := cR k0
  have f0 := p6_ k
  have f1 := p6_ k0
  clear p6_
  clear hop hed cL1 cR
  grind (splits := 24)

set_option maxHeartbeats 1000000 in
theorem pt_aca_L1e {W : Int → Prop} {sd : Int → Int} {op : Int → Int} {ed : Int → Int} {st : Int → Int} {lv : Int → Int} {nm : Int → Int} {tst : Int → Int} {ps : Int → Int} {dl : Int → Int} {dn : Int → Int} {en : Int → Int} {fw : Int → Int} {nL : Int} {kd : Int → Int} {wy : Int → Int} {ll : Int → Int} {td : Int → Int} {ls : Int → Int} {wh : Int → Int} {b k : Int} (hG : pj_G W sd op ed) (p0_ : W b) (p1_ : 0 ≤ k) (p2_ : k < nL) (p3_ : wh k ≠ 2) (p4_ : kd k = 3) (p5_ : wy k = op b) (p6_ : ∀ j, 0 ≤ j → j < k → wy j = wy k → wh j ≠ 0) (p7_ : tst (sd b) = (ed b)) (p8_ : st (sd b) = 1) (p9_ : nm (sd (op b)) ≠ nm (sd b)) (p10_ : lv (sd b) ≤ lv (sd (op b))) (p11_ : en b = 0) (p12_ : en (op b) ≠ 2) (p13_ : fw (op b) = 0) (p14_ : ps (sd b) = 0) (p15_ : 1 ≤ lv (sd b)) (p16_ : 0 ≤ nL) (cL1e : pj_L1e sd op dl dn nL kd wy ll td ls wh) (cR : pj_R W nL kd wy wh) : pj_L1e sd op dl dn nL kd wy ll td ls (pu wh k 2) := by
  obtain ⟨hop, hed⟩ := hG
  unfold pj_L1e pj_R at *
  intro k0
  simp only [pu]
  have g0 := hop b
  have g1 := hop (wy k0)
  have g2 := hed b (wy k0)
  have cL1e_0 := cL1e k
  have cL1e_1 := cL1e k0
  have cR_0 := cR k0
  have f0 := p6_ k
  have f1 := p6_ k0
  clear p6_
  clear hop hed cL1e cR
  grind (splits := 24)

set_option maxHeartbeats 1000000 in
theorem pt_aca_L1o {W : Int → Prop} {sd : Int → Int} {op : Int → Int} {ed : Int → Int} {st : Int → Int} {lv : Int → Int} {nm : Int → Int} {tst : Int → Int} {ps : Int → Int} {en : Int → Int} {fw : Int → Int} {nL : Int} {kd : Int → Int} {wy : Int → Int} {ll : Int → Int} {wh : Int → Int} {b k : Int} (hG : pj_G W sd op ed) (p0_ : W b) (p1_ : 0 ≤ k) (p2_ : k < nL) (p3_ : wh k ≠ 2) (p4_ : kd k = 3) (p5_ : wy k = op b) (p6_ : ∀ j, 0 ≤ j → j < k → wy j = wy k → wh j ≠ 0) (p7_ : tst (sd b) = (ed b)) (p8_ : st (sd b) = 1) (p9_ : nm (sd (op b)) ≠ nm (sd b)) (p10_ : lv (sd b) ≤ lv (sd (op b))) (p11_ : en b = 0) (p12_ : en (op b) ≠ 2) (p13_ : fw (op b) = 0) (p14_ : ps (sd b) = 0) (p15_ : 1 ≤ lv (sd b)) (p16_ : 0 ≤ nL) (cL1o : pj_L1o nL kd wy ll wh) (cR : pj_R W nL kd wy wh) : pj_L1o nL kd wy ll (pu wh k 2) := by
  obtain ⟨hop, hed⟩ := hG
  unfold pj_L1o pj_R at *
  intro j0 k0
  simp only [pu]
  have g0 := hop b
  have g1 := hop (wy j0)
  have g2 := hop (wy k0)
  have g3 := hed b (wy j0)
  have g4 := hed b (wy k0)
  have g5 := hed (wy j0) (wy k0)
  have cL1o_0 := cL1o k k
  have cL1o_1 := cL1o k j0
  have cL1o_2 := cL1o k k0
  have cL1o_3 := cL1o j0 k
  have cL1o_4 := cL1o j0 j0
  have cL1o_5 := cL1o j0 k0
  have cL1o_6 := cL1o k0 k
  have cL1o_7 := cL1o k0 j0
  have cL1o_8 := cL1o k0 k0
  have cR_0 := cR j0
  have cR_1 := cR k0
  have f0 := p6_ k
  have f1 := p6_ j0
  have f2 := p6_ k0
  clear p6_
  clear hop hed cL1o cR
  grind (splits := 24)

set_option maxHeartbeats 1000000 in
theorem pt_aca_L1b {W : Int → Prop} {sd : Int → Int} {op : Int → Int} {ed : Int → Int} {st : Int → Int} {lv : Int → Int} {nm : Int → Int} {tst : Int → Int} {om : Int → Int} {ps : Int → Int} {en : Int → Int} {pd : Int → Int} {fw : Int → Int} {nL : Int} {kd : Int → Int} {wy : Int → Int} {td : Int → Int} {ls : Int → Int} {wh : Int → Int} {b k : Int} (hG : pj_G W sd op ed) (p0_ : W b) (p1_ : 0 ≤ k) (p2_ : k < nL) (p3_ : wh k ≠ 2) (p4_ : kd k = 3) (p5_ : wy k = op b) (p6_ : ∀ j, 0 ≤ j → j < k → wy j = wy k → wh j ≠ 0) (p7_ : tst (sd b) = (ed b)) (p8_ : st (sd b) = 1) (p9_ : nm (sd (op b)) ≠ nm (sd b)) (p10_ : lv (sd b) ≤ lv (sd (op b))) (p11_ : en b = 0) (p12_ : en (op b) ≠ 2) (p13_ : fw (op b) = 0) (p14_ : ps (sd b) = 0) (p15_ : 1 ≤ lv (sd b)) (p16_ : 0 ≤ nL) (cL1b : pj_L1b sd ed st om pd nL kd wy td ls wh) (cR : pj_R W nL kd wy wh) : pj_L1b sd ed st om pd nL kd wy td ls (pu wh k 2) := by
  obtain ⟨hop, hed⟩ := hG
  unfold pj_L1b pj_R at *
  intro k0
  simp only [pu]
  have g0 := hop b
  have g1 := hop (wy k0)
  have g2 := hed b (wy k0)
  have cL1b_0 := cL1b k
  have cL1b_1 := cL1b k0
  have cR_0 := cR k0
  have f0 := p6_ k
  have f1 := p6_ k0
  clear p6_
  clear hop hed cL1b cR
  grind (splits := 24)

set_option maxHeartbeats 1000000 in
theorem pt_aca_L1g {W : Int → Prop} {sd : Int → Int} {op : Int → Int} {ed : Int → Int} {st : Int → Int} {lv : Int → Int} {nm : Int → Int} {tst : Int → Int} {ps : Int → Int} {en : Int → Int} {fw : Int → Int} {nL : Int} {kd : Int → Int} {wy : Int → Int} {td : Int → Int} {ls : Int → Int} {wh : Int → Int} {b k : Int} (hG : pj_G W sd op ed) (p0_ : W b) (p1_ : 0 ≤ k) (p2_ : k < nL) (p3_ : wh k ≠ 2) (p4_ : kd k = 3) (p5_ : wy k = op b) (p6_ : ∀ j, 0 ≤ j → j < k → wy j = wy k → wh j ≠ 0) (p7_ : tst (sd b) = (ed b)) (p8_ : st (sd b) = 1) (p9_ : nm (sd (op b)) ≠ nm (sd b)) (p10_ : lv (sd b) ≤ lv (sd (op b))) (p11_ : en b = 0) (p12_ : en (op b) ≠ 2) (p13_ : fw (op b) = 0) (p14_ : ps (sd b) = 0) (p15_ : 1 ≤ lv (sd b)) (p16_ : 0 ≤ nL) (cL1g : pj_L1g W sd op ed nL kd wy td ls wh) (cR : pj_R W nL kd wy wh) : pj_L1g W sd op ed nL kd wy td ls (pu wh k 2) := by
  obtain ⟨hop, hed⟩ := hG
  unfold pj_L1g pj_R at *
  intro k0 v0
  simp only [pu]
  have g0 := hop b
  have g1 := hop (wy k0)
  have g2 := hop v0
  have g3 := hed b (wy k0)
  have g4 := hed b v0
  have g5 := hed (wy k0) v0
  have cL1g_0 := cL1g k b
  have cL1g_1 := cL1g k (wy k0)
  have cL1g_2 := cL1g k (op (wy k0))
  have cL1g_3 := cL1g k v0
  have cL1g_4 := cL1g k (op v0)
  have cL1g_5 := cL1g k0 b
  have cL1g_6 := cL1g k0 (wy k0)
  have cL1g_7 := cL1g k0 (op (wy k0))
  have cL1g_8 := cL1g k0 v0
  have cL1g_9 := cL1g k0 (op v0)
  have cR_0 := cR k0
  have f0 := p6_ k
  have f1 := p6_ k0
  clear p6_
  clear hop hed cL1g cR
  grind (splits := 24)

set_option maxHeartbeats 1000000 in
theorem pt_aca_L2 {W : Int → Prop} {sd : Int → Int} {op : Int → Int} {ed : Int → Int} {st : Int → Int} {lv : Int → Int} {nm : Int → Int} {tst : Int → Int} {ps : Int → Int} {en : Int → Int} {fw : Int → Int} {nL : Int} {kd : Int → Int} {wy : Int → Int} {ll : Int → Int} {td : Int → Int} {wh : Int → Int} {b k : Int} (hG : pj_G W sd op ed) (p0_ : W b) (p1_ : 0 ≤ k) (p2_ : k < nL) (p3_ : wh k ≠ 2) (p4_ : kd k = 3) (p5_ : wy k = op b) (p6_ : ∀ j, 0 ≤ j → j < k → wy j = wy k → wh j ≠ 0) (p7_ : tst (sd b) = (ed b)) (p8_ : st (sd b) = 1) (p9_ : nm (sd (op b)) ≠ nm (sd b)) (p10_ : lv (sd b) ≤ lv (sd (op b))) (p11_ : en b = 0) (p12_ : en (op b) ≠ 2) (p13_ : fw (op b) = 0) (p14_ : ps (sd b) = 0) (p15_ : 1 ≤ lv (sd b)) (p16_ : 0 ≤ nL) (cR : pj_R W nL kd wy wh) (cCV : pj_CV W sd op ed tst nL kd wy wh) (cL3 : pj_L3 sd op ed st lv nm tst en fw nL kd wy wh) (cL4 : pj_L4 sd op ed st tst en nL kd wy wh) (cL2 : pj_L2 sd op ed st lv nm tst en fw nL kd wy ll td wh) : pj_L2 sd op ed st lv nm (pu tst (sd b) (-1)) en fw nL kd wy ll td (pu wh k 2) := by
  obtain ⟨hop, hed⟩ := hG
  unfold pj_R pj_CV pj_L3 pj_L4 pj_L2 at *
  intro k0
  simp only [pu]
  have g0 := hop b
  have g1 := hop (wy k0)
  have g2 := hed b (wy k0)
  have cR_0 := cR k0
  have cCV_0 := cCV b k0 k
  have cCV_1 := cCV (op b) k0 k
  have cL3_0 := cL3 k0
  have cL4_0 := cL4 k0
  have cL2_0 := cL2 k0
  have f0 := p6_ k
  have f1 := p6_ k0
  clear p6_
  clear hop hed cR cCV cL3 cL4 cL2
  grind (splits := 24)

set_option maxHeartbeats 1000000 in
theorem pt_aca_L3 {W : Int → Prop} {sd : Int → Int} {op : Int → Int} {ed : Int → Int} {st : Int → Int} {lv : Int → Int} {nm : Int → Int} {tst : Int → Int} {ps : Int → Int} {en : Int → Int} {fw : Int → Int} {nL : Int} {kd : Int → Int} {wy : Int → Int} {ll : Int → Int} {td : Int → Int} {wh : Int → Int} {b k : Int} (hG : pj_G W sd op ed) (p0_ : W b) (p1_ : 0 ≤ k) (p2_ : k < nL) (p3_ : wh k ≠ 2) (p4_ : kd k = 3) (p5_ : wy k = op b) (p6_ : ∀ j, 0 ≤ j → j < k → wy j = wy k → wh j ≠ 0) (p7_ : tst (sd b) = (ed b)) (p8_ : st (sd b) = 1) (p9_ : nm (sd (op b)) ≠ nm (sd b)) (p10_ : lv (sd b) ≤ lv (sd (op b))) (p11_ : en b = 0) (p12_ : en (op b) ≠ 2) (p13_ : fw (op b) = 0) (p14_ : ps (sd b) = 0) (p15_ : 1 ≤ lv (sd b)) (p16_ : 0 ≤ nL) (cR : pj_R W nL kd wy wh) (cCV : pj_CV W sd op ed tst nL kd wy wh) (cL3 : pj_L3 sd op ed st lv nm tst en fw nL kd wy wh) (cL4 : pj_L4 sd op ed st tst en nL kd wy wh) (cL2 : pj_L2 sd op ed st lv nm tst en fw nL kd wy ll td wh) : pj_L3 sd op ed st lv nm (pu tst (sd b) (-1)) en fw nL kd wy (pu wh k 2) := by
  obtain ⟨hop, hed⟩ := hG
  unfold pj_R pj_CV pj_L3 pj_L4 pj_L2 at *
  intro k0
  simp only [pu]
  have g0 := hop b
  have g1 := hop (wy k0)
  have g2 := hed b (wy k0)
  have cR_0 := cR k0
  have cCV_0 := cCV b k0 k
  have cCV_1 := cCV (op b) k0 k
  have cL3_0 := cL3 k0
  have cL4_0 := cL4 k0
  have cL2_0 := cL2 k0
  have f0 := p6_ k
  have f1 := p6_ k0
  clear p6_
  clear hop hed cR cCV cL3 cL4 cL2
  grind (splits := 24)

set_option maxHeartbeats 1000000 in
theorem pt_aca_L4 {W : Int → Prop} {sd : Int → Int} {op : Int → Int} {ed : Int → Int} {st : Int → Int} {lv : Int → Int} {nm : Int → Int} {tst : Int → Int} {ps : Int → Int} {en : Int → Int} {fw : Int → Int} {nL : Int} {kd : Int → Int} {wy : Int → Int} {ll : Int → Int} {td : Int → Int} {wh : Int → Int} {b k : Int} (hG : pj_G W sd op ed) (p0_ : W b) (p1_ : 0 ≤ k) (p2_ : k < nL) (p3_ : wh k ≠ 2) (p4_ : kd k = 3) (p5_ : wy k = op b) (p6_ : ∀ j, 0 ≤ j → j < k → wy j = wy k → wh j ≠ 0) (p7_ : tst (sd b) = (ed b)) (p8_ : st (sd b) = 1) (p9_ : nm (sd (op b)) ≠ nm (sd b)) (p10_ : lv (sd b) ≤ lv (sd (op b))) (p11_ : en b = 0) (p12_ : en (op b) ≠ 2) (p13_ : fw (op b) = 0) (p14_ : ps (sd b) = 0) (p15_ : 1 ≤ lv (sd b)) (p16_ : 0 ≤ nL) (cR : pj_R W nL kd wy wh) (cCV : pj_CV W sd op ed tst nL kd wy wh) (cL3 : pj_L3 sd op ed st lv nm tst en fw nL kd wy wh) (cL4 : pj_L4 sd op ed st tst en nL kd wy wh) (cL2 : pj_L2 sd op ed st lv nm tst en fw nL kd wy ll td wh) : pj_L4 sd op ed st (pu tst (sd b) (-1)) en nL kd wy (pu wh k 2) := by
  obtain ⟨hop, hed⟩ := hG
  unfold pj_R pj_CV pj_L3 pj_L4 pj_L2 at *
  intro k0
  simp only [pu]
  have g0 := hop b
  have g1 := hop (wy k0)
  have g2 := hed b (wy k0)
  have cR_0 := cR k0
  have cCV_0 := cCV b k0 k
  have cCV_1 := cCV (op b) k0 k
  have cL3_0 := cL3 k0
  have cL4_0 := cL4 k0
  have cL2_0 := cL2 k0
  have f0 := p6_ k
  have f1 := p6_ k0
  clear p6_
  clear hop hed cR cCV cL3 cL4 cL2
  grind (splits := 24)

set_option maxHeartbeats 1000000 in
theorem pt_aca_AF {W : Int → Prop} {sd : Int → Int} {op : Int → Int} {ed : Int → Int} {st : Int → Int} {lv : Int → Int} {nm : Int → Int} {tst : Int → Int} {ps : Int → Int} {af : Int → Int} {en : Int → Int} {fw : Int → Int} {nL : Int} {kd : Int → Int} {wy : Int → Int} {wh : Int → Int} {b k : Int} (hG : pj_G W sd op ed) (p0_ : W b) (p1_ : 0 ≤ k) (p2_ : k < nL) (p3_ : wh k ≠ 2) (p4_ : kd k = 3) (p5_ : wy k = op b) (p6_ : ∀ j, 0 ≤ j → j < k → wy j = wy k → wh j ≠ 0) (p7_ : tst (sd b) = (ed b)) (p8_ : st (sd b) = 1) (p9_ : nm (sd (op b)) ≠ nm (sd b)) (p10_ : lv (sd b) ≤ lv (sd (op b))) (p11_ : en b = 0) (p12_ : en (op b) ≠ 2) (p13_ : fw (op b) = 0) (p14_ : ps (sd b) = 0) (p15_ : 1 ≤ lv (sd b)) (p16_ : 0 ≤ nL) (cAF : pj_AF W sd op ed tst af nL kd wy wh) : pj_AF W sd op ed (pu tst (sd b) (-1)) af nL kd wy (pu wh k 2) := by
  obtain ⟨hop, hed⟩ := hG
  unfold pj_AF at *
  intro v0
  simp only [pu]
  have g0 := hop b
  have g1 := hop v0
  have g2 := hed b v0
  have cAF_0 := cAF b
  have cAF_1 := cAF v0
  have cAF_2 := cAF (op v0)
  have f0 := p6_ k
  clear p6_
  clear hop hed cAF
  grind (splits := 24)

set_option maxHeartbeats 1000000 in
theorem pt_aca_RT {W : Int → Prop} {sd : Int → Int} {op : Int → Int} {ed : Int → Int} {st : Int → Int} {lv : Int → Int} {nm : Int → Int} {tst : Int → Int} {ps : Int → Int} {en : Int → Int} {fw : Int → Int} {nL : Int} {kd : Int → Int} {wy : Int → Int} {ll : Int → Int} {td : Int → Int} {wh : Int → Int} {b k : Int} (hG : pj_G W sd op ed) (p0_ : W b) (p1_ : 0 ≤ k) (p2_ : k < nL) (p3_ : wh k ≠ 2) (p4_ : kd k = 3) (p5_ : wy k = op b) (p6_ : ∀ j, 0 ≤ j → j < k → wy j = wy k → wh j ≠ 0) (p7_ : tst (sd b) = (ed b)) (p8_ : st (sd b) = 1) (p9_ : nm (sd (op b)) ≠ nm (sd b)) (p10_ : lv (sd b) ≤ lv (sd (op b))) (p11_ : en b = 0) (p12_ : en (op b) ≠ 2) (p13_ : fw (op b) = 0) (p14_ : ps (sd b) = 0) (p15_ : 1 ≤ lv (sd b)) (p16_ : 0 ≤ nL) (cRT : pj_RT sd ed tst nL kd wy wh) (cR : pj_R W nL kd wy wh) (cCV : pj_CV W sd op ed tst nL kd wy wh) (cL2 : pj_L2 sd op ed st lv nm tst en fw nL kd wy ll td wh) (cL4 : pj_L4 sd op ed st tst en nL kd wy wh) : pj_RT sd ed (pu tst (sd b) (-1)) nL kd wy (pu wh k 2) := by
  obtain ⟨hop, hed⟩ := hG
  unfold pj_RT pj_R pj_CV pj_L2 pj_L4 at *
  intro j0 k0
  simp only [pu]
  have g0 := hop b
  have g1 := hop (wy j0)
  have g2 := hop (wy k0)
  have g3 := hed b (wy j0)
  have g4 := hed b (wy k0)
  have g5 := hed (wy j0) (wy k0)
  have cRT_0 := cRT k k
  have cRT_1 := cRT k j0
  have cRT_2 := cRT k k0
  have cRT_3 := cRT j0 k
  have cRT_4 := cRT j0 j0
  have cRT_5 := cRT j0 k0
  have cRT_6 := cRT k0 k
  have cRT_7 := cRT k0 j0
  have cRT_8 := cRT k0 k0
  have cR_0 := cR j0
  have cR_1 := cR k0
  have cCV_0 := cCV b j0 k
  have cCV_1 := cCV (op b) j0 k
  have cCV_2 := cCV b k0 k
  have cCV_3 := cCV (op b) k0 k
  have cL2_0 := cL2 k
  have cL2_1 := cL2 j0
  have cL2_2 := cL2 k0
  have cL4_0 := cL4 k
  have cL4_1 := cL4 j0
  have cL4_2 := cL4 k0
  have f0 := p6_ k
  have f1 := p6_ j0
  have f2 := p6_ k0
  clear p6_
  clear hop hed cRT cR cCV cL2 cL4
  grind (splits := 24)

set_option maxHeartbeats 1000000 in
theorem pt_aca_CV {W : Int → Prop} {sd : Int → Int} {op : Int → Int} {ed : Int → Int} {st : Int → Int} {lv : Int → Int} {nm : Int → Int} {tst : Int → Int} {ps : Int → Int} {en : Int → Int} {fw : Int → Int} {nL : Int} {kd : Int → Int} {wy : Int → Int} {wh : Int → Int} {b k : Int} (hG : pj_G W sd op ed) (p0_ : W b) (p1_ : 0 ≤ k) (p2_ : k < nL) (p3_ : wh k ≠ 2) (p4_ : kd k = 3) (p5_ : wy k = op b) (p6_ : ∀ j, 0 ≤ j → j < k → wy j = wy k → wh j ≠ 0) (p7_ : tst (sd b) = (ed b)) (p8_ : st (sd b) = 1) (p9_ : nm (sd (op b)) ≠ nm (sd b)) (p10_ : lv (sd b) ≤ lv (sd (op b))) (p11_ : en b = 0) (p12_ : en (op b) ≠ 2) (p13_ : fw (op b) = 0) (p14_ : ps (sd b) = 0) (p15_ : 1 ≤ lv (sd b)) (p16_ : 0 ≤ nL) (cR : pj_R W nL kd wy wh) (cCV : pj_CV W sd op ed tst nL kd wy wh) : pj_CV W sd op ed (pu tst (sd b) (-1)) nL kd wy (pu wh k 2) := by
  obtain ⟨hop, hed⟩ := hG
  unfold pj_R pj_CV at *
  intro v0 j0 k0
  simp only [pu]
  have g0 := hop b
  have g1 := hop v0
  have g2 := hop (wy j0)
  have g3 := hop (wy k0)
  have g4 := hed b v0
  have g5 := hed b (wy j0)
  have g6 := hed b (wy k0)
  have g7 := hed v0 (wy j0)
  have g8 := hed v0 (wy k0)
  have g9 := hed (wy j0) (wy k0)
  have cR_0 := cR j0
  have cR_1 := cR k0
  have cCV_0 := cCV v0 j0 k0
  have cCV_1 := cCV b j0 k
  have cCV_2 := cCV b k0 k
  have cCV_3 := cCV (op b) j0 k
  have cCV_4 := cCV (op b) k0 k
  have f0 := p6_ k
  have f1 := p6_ j0
  have f2 := p6_ k0
  clear p6_
  clear hop hed cR cCV
  grind (splits := 24)

set_option maxHeartbeats 1000000 in
theorem pt_aca_L5 {W : Int → Prop} {sd : Int → Int} {op : Int → Int} {ed : Int → Int} {st : Int → Int} {lv : Int → Int} {nm : Int → Int} {inw : Int → Int} {bst : Int → Int} {tst : Int → Int} {om : Int → Int} {ps : Int → Int} {dl : Int → Int} {en : Int → Int} {pd : Int → Int} {rp : Int → Int} {rv : Int → Int} {fw : Int → Int} {cl : Int → Int} {tk : Int → Int} {nL : Int} {kd : Int → Int} {wy : Int → Int} {td : Int → Int} {wh : Int → Int} {b k : Int} (hG : pj_G W sd op ed) (p0_ : W b) (p1_ : 0 ≤ k) (p2_ : k < nL) (p3_ : wh k ≠ 2) (p4_ : kd k = 3) (p5_ : wy k = op b) (p6_ : ∀ j, 0 ≤ j → j < k → wy j = wy k → wh j ≠ 0) (p7_ : tst (sd b) = (ed b)) (p8_ : st (sd b) = 1) (p9_ : nm (sd (op b)) ≠ nm (sd b)) (p10_ : lv (sd b) ≤ lv (sd (op b))) (p11_ : en b = 0) (p12_ : en (op b) ≠ 2) (p13_ : fw (op b) = 0) (p14_ : ps (sd b) = 0) (p15_ : 1 ≤ lv (sd b)) (p16_ : 0 ≤ nL) (cL5 : pj_L5 sd op ed st lv nm inw bst om ps dl pd rp rv cl tk nL kd wy td wh) (cR : pj_R W nL kd wy wh) : pj_L5 sd op ed st lv nm inw (pu bst (sd b) (ed b)) om ps dl pd rp rv cl tk nL kd wy td (pu wh k 2) := by
  obtain ⟨hop, hed⟩ := hG
  unfold pj_L5 pj_R at *
  intro k0
  simp only [pu]
  have g0 := hop b
  have g1 := hop (wy k0)
  have g2 := hed b (wy k0)
  have cL5_0 := cL5 k
  have cL5_1 := cL5 k0
  have cR_0 := cR k0
  have f0 := p6_ k
  have f1 := p6_ k0
  clear p6_
  clear hop hed cL5 cR
  grind (splits := 24)

set_option maxHeartbeats 1000000 in
theorem pt_aca_L5o {W : Int → Prop} {sd : Int → Int} {op : Int → Int} {ed : Int → Int} {st : Int → Int} {lv : Int → Int} {nm : Int → Int} {tst : Int → Int} {ps : Int → Int} {en : Int → Int} {fw : Int → Int} {cl : Int → Int} {nL : Int} {kd : Int → Int} {wy : Int → Int} {wh : Int → Int} {b k : Int} (hG : pj_G W sd op ed) (p0_ : W b) (p1_ : 0 ≤ k) (p2_ : k < nL) (p3_ : wh k ≠ 2) (p4_ : kd k = 3) (p5_ : wy k = op b) (p6_ : ∀ j, 0 ≤ j → j < k → wy j = wy k → wh j ≠ 0) (p7_ : tst (sd b) = (ed b)) (p8_ : st (sd b) = 1) (p9_ : nm (sd (op b)) ≠ nm (sd b)) (p10_ : lv (sd b) ≤ lv (sd (op b))) (p11_ : en b = 0) (p12_ : en (op b) ≠ 2) (p13_ : fw (op b) = 0) (p14_ : ps (sd b) = 0) (p15_ : 1 ≤ lv (sd b)) (p16_ : 0 ≤ nL) (cL5o : pj_L5o sd op ed lv cl nL kd wy wh) (cR : pj_R W nL kd wy wh) : pj_L5o sd op ed lv cl nL kd wy (pu wh k 2) := by
  obtain ⟨hop, hed⟩ := hG
  unfold pj_L5o pj_R at *
  intro j0 k0
  simp only [pu]
  have g0 := hop b
  have g1 := hop (wy j0)
  have g2 := hop (wy k0)
  have g3 := hed b (wy j0)
  have g4 := hed b (wy k0)
  have g5 := hed (wy j0) (wy k0)
  have cL5o_0 := cL5o k k
  have cL5o_1 := cL5o k j0
  have cL5o_2 := cL5o k k0
  have cL5o_3 := cL5o j0 k
  have cL5o_4 := cL5o j0 j0
  have cL5o_5 := cL5o j0 k0
  have cL5o_6 := cL5o k0 k
  have cL5o_7 := cL5o k0 j0
  have cL5o_8 := cL5o k0 k0
  have cR_0 := cR j0
  have cR_1 := cR k0
  have f0 := p6_ k
  have f1 := p6_ j0
  have f2 := p6_ k0
  clear p6_
  clear hop hed cL5o cR
  grind (splits := 24)

set_option maxHeartbeats 1000000 in
theorem pt_aca_L5u {W : Int → Prop} {sd : Int → Int} {op : Int → Int} {ed : Int → Int} {st : Int → Int} {lv : Int → Int} {nm : Int → Int} {tst : Int → Int} {ps : Int → Int} {en : Int → Int} {fw : Int → Int} {nL : Int} {kd : Int → Int} {wy : Int → Int} {wh : Int → Int} {b k : Int} (hG : pj_G W sd op ed) (p0_ : W b) (p1_ : 0 ≤ k) (p2_ : k < nL) (p3_ : wh k ≠ 2) (p4_ : kd k = 3) (p5_ : wy k = op b) (p6_ : ∀ j, 0 ≤ j → j < k → wy j = wy k → wh j ≠ 0) (p7_ : tst (sd b) = (ed b)) (p8_ : st (sd b) = 1) (p9_ : nm (sd (op b)) ≠ nm (sd b)) (p10_ : lv (sd b) ≤ lv (sd (op b))) (p11_ : en b = 0) (p12_ : en (op b) ≠ 2) (p13_ : fw (op b) = 0) (p14_ : ps (sd b) = 0) (p15_ : 1 ≤ lv (sd b)) (p16_ : 0 ≤ nL) (cL5u : pj_L5u nL kd wy wh) (cR : pj_R W nL kd wy wh) : pj_L5u nL kd wy (pu wh k 2) := by
  obtain ⟨hop, hed⟩ := hG
  unfold pj_L5u pj_R at *
  intro j0 k0
  simp only [pu]
  have g0 := hop b
  have g1 := hop (wy j0)
  have g2 := hop (wy k0)
  have g3 := hed b (wy j0)
  have g4 := hed b (wy k0)
  have g5 := hed (wy j0) (wy k0)
  have cL5u_0 := cL5u k k
  have cL5u_1 := cL5u k j0
  have cL5u_2 := cL5u k k0
  have cL5u_3 := cL5u j0 k
  have cL5u_4 := cL5u j0 j0
  have cL5u_5 := cL5u j0 k0
  have cL5u_6 := cL5u k0 k
  have cL5u_7 := cL5u k0 j0
  have cL5u_8 := cL5u k0 k0
  have cR_0 := cR j0
  have cR_1 := cR k0
  have f0 := p6_ k
  have f1 := p6_ j0
  have f2 := p6_ k0
  clear p6_
  clear hop hed cL5u cR
  grind (splits := 24)

set_option maxHeartbeats 1000000 in
theorem pt_aca_L6 {W : Int → Prop} {sd : Int → Int} {op : Int → Int} {ed : Int → Int} {st : Int → Int} {lv : Int → Int} {nm : Int → Int} {tow : Int → Int} {tst : Int → Int} {om : Int → Int} {ps : Int → Int} {dl : Int → Int} {en : Int → Int} {fw : Int → Int} {cw : Int → Int} {tk : Int → Int} {nL : Int} {kd : Int → Int} {wy : Int → Int} {wh : Int → Int} {b k : Int} (hG : pj_G W sd op ed) (p0_ : W b) (p1_ : 0 ≤ k) (p2_ : k < nL) (p3_ : wh k ≠ 2) (p4_ : kd k = 3) (p5_ : wy k = op b) (p6_ : ∀ j, 0 ≤ j → j < k → wy j = wy k → wh j ≠ 0) (p7_ : tst (sd b) = (ed b)) (p8_ : st (sd b) = 1) (p9_ : nm (sd (op b)) ≠ nm (sd b)) (p10_ : lv (sd b) ≤ lv (sd (op b))) (p11_ : en b = 0) (p12_ : en (op b) ≠ 2) (p13_ : fw (op b) = 0) (p14_ : ps (sd b) = 0) (p15_ : 1 ≤ lv (sd b)) (p16_ : 0 ≤ nL) (cL6 : pj_L6 sd op ed st lv nm tow om ps dl cw tk nL kd wy wh) (cR : pj_R W nL kd wy wh) : pj_L6 sd op ed st lv nm (pu tow (sd b) (ed b)) om ps dl cw tk nL kd wy (pu wh k 2) := by
  obtain ⟨hop, hed⟩ := hG
  unfold pj_L6 pj_R at *
  intro k0
  simp only [pu]
  have g0 := hop b
  have g1 := hop (wy k0)
  have g2 := hed b (wy k0)
  have cL6_0 := cL6 k
  have cL6_1 := cL6 k0
  have cR_0 := cR k0
  have f0 := p6_ k
  have f1 := p6_ k0
  clear p6_
  clear hop hed cL6 cR
  grind (splits := 24)

set_option maxHeartbeats 1000000 in
theorem pt_aca_L6u {W : Int → Prop} {sd : Int → Int} {op : Int → Int} {ed : Int → Int} {st : Int → Int} {lv : Int → Int} {nm : Int → Int} {tst : Int → Int} {ps : Int → Int} {en : Int → Int} {fw : Int → Int} {nL : Int} {kd : Int → Int} {wy : Int → Int} {wh : Int → Int} {b k : Int} (hG : pj_G W sd op ed) (p0_ : W b) (p1_ : 0 ≤ k) (p2_ : k < nL) (p3_ : wh k ≠ 2) (p4_ : kd k = 3) (p5_ : wy k = op b) (p6_ : ∀ j, 0 ≤ j → j < k → wy j = wy k → wh j ≠ 0) (p7_ : tst (sd b) = (ed b)) (p8_ : st (sd b) = 1) (p9_ : nm (sd (op b)) ≠ nm (sd b)) (p10_ : lv (sd b) ≤ lv (sd (op b))) (p11_ : en b = 0) (p12_ : en (op b) ≠ 2) (p13_ : fw (op b) = 0) (p14_ : ps (sd b) = 0) (p15_ : 1 ≤ lv (sd b)) (p16_ : 0 ≤ nL) (cL6u : pj_L6u sd op nm nL kd wy wh) (cR : pj_R W nL kd wy wh) : pj_L6u sd op nm nL kd wy (pu wh k 2) := by
  obtain ⟨hop, hed⟩ := hG
  unfold pj_L6u pj_R at *
  intro j0 k0
  simp only [pu]
  have g0 := hop b
  have g1 := hop (wy j0)
  have g2 := hop (wy k0)
  have g3 := hed b (wy j0)
  have g4 := hed b (wy k0)
  have g5 := hed (wy j0) (wy k0)
  have cL6u_0 := cL6u k k
  have cL6u_1 := cL6u k j0
  have cL6u_2 := cL6u k k0
  have cL6u_3 := cL6u j0 k
  have cL6u_4 := cL6u j0 j0
  have cL6u_5 := cL6u j0 k0
  have cL6u_6 := cL6u k0 k
  have cL6u_7 := cL6u k0 j0
  have cL6u_8 := cL6u k0 k0
  have cR_0 := cR j0
  have cR_1 := cR k0
  have f0 := p6_ k
  have f1 := p6_ j0
  have f2 := p6_ k0
  clear p6_
  clear hop hed cL6u cR
  grind (splits := 24)

theorem pj_aca {W : Int → Prop} {sd op ed : Int → Int} {li : Int → Int → Prop} {st lv nm inw tow bst tst exp om ps dl dn af c0 en pd rp rv fw cl cw tk kd wy ll td ls wh : Int → Int} {nL : Int} {F F2 : Int → Prop} {fl fc : Int} {b k : Int} (hG : pj_G W sd op ed) (p0_ : W b) (p1_ : 0 ≤ k) (p2_ : k < nL) (p3_ : wh k ≠ 2) (p4_ : kd k = 3) (p5_ : wy k = op b) (p6_ : ∀ j, 0 ≤ j → j < k → wy j = wy k → wh j ≠ 0) (p7_ : tst (sd b) = (ed b)) (p8_ : st (sd b) = 1) (p9_ : nm (sd (op b)) ≠ nm (sd b)) (p10_ : lv (sd b) ≤ lv (sd (op b))) (p11_ : en b = 0) (p12_ : en (op b) ≠ 2) (p13_ : fw (op b) = 0) (p14_ : ps (sd b) = 0) (p15_ : 1 ≤ lv (sd b)) (p16_ : 0 ≤ nL) (h : pj_J W sd op ed li st lv nm inw tow bst tst exp om ps dl dn af c0 en pd rp rv fw cl cw tk nL kd wy ll td ls wh F fl fc) : pj_J W sd op ed li st lv nm inw (pu tow (sd b) (ed b)) (pu bst (sd b) (ed b)) (pu tst (sd b) (-1)) exp om ps dl dn af c0 en pd rp rv fw cl cw tk nL kd wy ll td ls (pu wh k 2) F fl fc := by
  obtain ⟨cR, cN0, cN1, cN1w, cER, cN1c, cN2, cN2e, cN2b, cN4e, cN4b, cN5, cN7, cN10, cN10e, cN13, cC1, cC2, cR3a, cE1, cU, cA1, cA2, cEC, cR3, cN11, cN12, cN3, cRJ, cFW, cPD, cCC, cCD, cRP, cRP1, cCR, cZ1, cZ0, cTK, cK2, cWH, cFI, cL0, cFC, cL0u, cOC, cCT, cL1, cL1e, cL1o, cL1b, cL1g, cL2, cL3, cL4, cAF, cRT, cCV, cL5, cL5o, cL5u, cL6, cL6u⟩ := h
  exact ⟨pt_aca_R hG p0_ p1_ p2_ p3_ p4_ p5_ p6_ p7_ p8_ p9_ p10_ p11_ p12_ p13_ p14_ p15_ p16_ cR, cN0, cN1, cN1w, cER, pt_aca_N1c hG p0_ p1_ p2_ p3_ p4_ p5_ p6_ p7_ p8_ p9_ p10_ p11_ p12_ p13_ p14_ p15_ p16_ cN1c cR, cN2, cN2e, cN2b, cN4e, pt_aca_N4b hG p0_ p1_ p2_ p3_ p4_ p5_ p6_ p7_ p8_ p9_ p10_ p11_ p12_ p13_ p14_ p15_ p16_ cN4b, cN5, pt_aca_N7 hG p0_ p1_ p2_ p3_ p4_ p5_ p6_ p7_ p8_ p9_ p10_ p11_ p12_ p13_ p14_ p15_ p16_ cN7, pt_aca_N10 hG p0_ p1_ p2_ p3_ p4_ p5_ p6_ p7_ p8_ p9_ p10_ p11_ p12_ p13_ p14_ p15_ p16_ cN10, pt_aca_N10e hG p0_ p1_ p2_ p3_ p4_ p5_ p6_ p7_ p8_ p9_ p10_ p11_ p12_ p13_ p14_ p15_ p16_ cN10e, cN13, cC1, cC2, cR3a, pt_aca_E1 hG p0_ p1_ p2_ p3_ p4_ p5_ p6_ p7_ p8_ p9_ p10_ p11_ p12_ p13_ p14_ p15_ p16_ cE1, cU, cA1, cA2, pt_aca_EC hG p0_ p1_ p2_ p3_ p4_ p5_ p6_ p7_ p8_ p9_ p10_ p11_ p12_ p13_ p14_ p15_ p16_ cEC, cR3, pt_aca_N11 hG p0_ p1_ p2_ p3_ p4_ p5_ p6_ p7_ p8_ p9_ p10_ p11_ p12_ p13_ p14_ p15_ p16_ cN11, pt_aca_N12 hG p0_ p1_ p2_ p3_ p4_ p5_ p6_ p7_ p8_ p9_ p10_ p11_ p12_ p13_ p14_ p15_ p16_ cN12, cN3, pt_aca_RJ hG p0_ p1_ p2_ p3_ p4_ p5_ p6_ p7_ p8_ p9_ p10_ p11_ p12_ p13_ p14_ p15_ p16_ cRJ, pt_aca_FW hG p0_ p1_ p2_ p3_ p4_ p5_ p6_ p7_ p8_ p9_ p10_ p11_ p12_ p13_ p14_ p15_ p16_ cFW, cPD, cCC, cCD, pt_aca_RP hG p0_ p1_ p2_ p3_ p4_ p5_ p6_ p7_ p8_ p9_ p10_ p11_ p12_ p13_ p14_ p15_ p16_ cRP, cRP1, cCR, cZ1, cZ0, cTK, cK2, pt_aca_WH hG p0_ p1_ p2_ p3_ p4_ p5_ p6_ p7_ p8_ p9_ p10_ p11_ p12_ p13_ p14_ p15_ p16_ cWH cR, pt_aca_FI hG p0_ p1_ p2_ p3_ p4_ p5_ p6_ p7_ p8_ p9_ p10_ p11_ p12_ p13_ p14_ p15_ p16_ cFI cR, pt_aca_L0 hG p0_ p1_ p2_ p3_ p4_ p5_ p6_ p7_ p8_ p9_ p10_ p11_ p12_ p13_ p14_ p15_ p16_ cL0 cR, pt_aca_FC hG p0_ p1_ p2_ p3_ p4_ p5_ p6_ p7_ p8_ p9_ p10_ p11_ p12_ p13_ p14_ p15_ p16_ cFC cR, pt_aca_L0u hG p0_ p1_ p2_ p3_ p4_ p5_ p6_ p7_ p8_ p9_ p10_ p11_ p12_ p13_ p14_ p15_ p16_ cL0u cR, pt_aca_OC hG p0_ p1_ p2_ p3_ p4_ p5_ p6_ p7_ p8_ p9_ p10_ p11_ p12_ p13_ p14_ p15_ p16_ cOC cR, pt_aca_CT hG p0_ p1_ p2_ p3_ p4_ p5_ p6_ p7_ p8_ p9_ p10_ p11_ p12_ p13_ p14_ p15_ p16_ cCT cR, pt_aca_L1 hG p0_ p1_ p2_ p3_ p4_ p5_ p6_ p7_ p8_ p9_ p10_ p11_ p12_ p13_ p14_ p15_ p16_ cL1 cR, pt_aca_L1e hG p0_ p1_ p2_ p3_ p4_ p5_ p6_ p7_ p8_ p9_ p10_ p11_ p12_ p13_ p14_ p15_ p16_ cL1e cR, pt_aca_L1o hG p0_ p1_ p2_ p3_ p4_ p5_ p6_ p7_ p8_ p9_ p10_ p11_ p12_ p13_ p14_ p15_ p16_ cL1o cR, pt_aca_L1b hG p0_ p1_ p2_ p3_ p4_ p5_ p6_ p7_ p8_ p9_ p10_ p11_ p12_ p13_ p14_ p15_ p16_ cL1b cR, pt_aca_L1g hG p0_ p1_ p2_ p3_ p4_ p5_ p6_ p7_ p8_ p9_ p10_ p11_ p12_ p13_ p14_ p15_ p16_ cL1g cR, pt_aca_L2 hG p0_ p1_ p2_ p3_ p4_ p5_ p6_ p7_ p8_ p9_ p10_ p11_ p12_ p13_ p14_ p15_ p16_ cR cCV cL3 cL4 cL2, pt_aca_L3 hG p0_ p1_ p2_ p3_ p4_ p5_ p6_ p7_ p8_ p9_ p10_ p11_ p12_ p13_ p14_ p15_ p16_ cR cCV cL3 cL4 cL2, pt_aca_L4 hG p0_ p1_ p2_ p3_ p4_ p5_ p6_ p7_ p8_ p9_ p10_ p11_ p12_ p13_ p14_ p15_ p16_ cR cCV cL3 cL4 cL2, pt_aca_AF hG p0_ p1_ p2_ p3_ p4_ p5_ p6_ p7_ p8_ p9_ p10_ p11_ p12_ p13_ p14_ p15_ p16_ cAF, pt_aca_RT hG p0_ p1_ p2_ p3_ p4_ p5_ p6_ p7_ p8_ p9_ p10_ p11_ p12_ p13_ p14_ p15_ p16_ cRT cR cCV cL2 cL4, pt_aca_CV hG p0_ p1_ p2_ p3_ p4_ p5_ p6_ p7_ p8_ p9_ p10_ p11_ p12_ p13_ p14_ p15_ p16_ cR cCV, pt_aca_L5 hG p0_ p1_ p2_ p3_ p4_ p5_ p6_ p7_ p8_ p9_ p10_ p11_ p12_ p13_ p14_ p15_ p16_ cL5 cR, pt_aca_L5o hG p0_ p1_ p2_ p3_ p4_ p5_ p6_ p7_ p8_ p9_ p10_ p11_ p12_ p13_ p14_ p15_ p16_ cL5o cR, pt_aca_L5u hG p0_ p1_ p2_ p3_ p4_ p5_ p6_ p7_ p8_ p9_ p10_ p11_ p12_ p13_ p14_ p15_ p16_ cL5u cR, pt_aca_L6 hG p0_ p1_ p2_ p3_ p4_ p5_ p6_ p7_ p8_ p9_ p10_ p11_ p12_ p13_ p14_ p15_ p16_ cL6 cR, pt_aca_L6u hG p0_ p1_ p2_ p3_ p4_ p5_ p6_ p7_ p8_ p9_ p10_ p11_ p12_ p13_ p14_ p15_ p16_ cL6u cR⟩

set_option maxHeartbeats 1000000 in
theorem pt_acb_R {W : Int → Prop} {sd : Int → Int} {op : Int → Int} {ed : Int → Int} {st : Int → Int} {lv : Int → Int} {nm : Int → Int} {tst : Int → Int} {ps : Int → Int} {en : Int → Int} {fw : Int → Int} {nL : Int} {kd : Int → Int} {wy : Int → Int} {wh : Int → Int} {b k : Int} (hG : pj_G W sd op ed) (p0_ : W b) (p1_ : 0 ≤ k) (p2_ : k < nL) (p3_ : wh k ≠ 2) (p4_ : kd k = 3) (p5_ : wy k = op b) (p6_ : ∀ j, 0 ≤ j → j < k → wy j = wy k → wh j ≠ 0) (p7_ : tst (sd b) = (ed b)) (p8_ : st (sd b) = 1) (p9_ : nm (sd (op b)) ≠ nm (sd b)) (p10_ : lv (sd b) ≤ lv (sd (op b))) (p11_ : en b = 0) (p12_ : en (op b) ≠ 2) (p13_ : fw (op b) = 0) (p14_ : ps (sd b) = 0) (p15_ : 1 ≤ lv (sd b)) (p16_ : 0 ≤ nL) (cR : pj_R W nL kd wy wh) : pj_R W nL kd wy (pu wh k 2) := by
  obtain ⟨hop, hed⟩ := hG
  unfold pj_R at *
  intro k0
  simp only [pu]
  have g0 := hop b
  have g1 := hop (wy k0)
  have g2 := hed b (wy k0)
  have cR_0 := cR k
  have cR_1 := cR k0
  have f0 := p6_ k
  have f1 := p6_ k0
  clear p6_
  clear hop hed cR
  grind (splits := 24)

set_option maxHeartbeats 1000000 in
theorem pt_acb_N1c {W : Int → Prop} {sd : Int → Int} {op : Int → Int} {ed : Int → Int} {st : Int → Int} {lv : Int → Int} {nm : Int → Int} {tst : Int → Int} {ps : Int → Int} {en : Int → Int} {fw : Int → Int} {nL : Int} {kd : Int → Int} {wy : Int → Int} {wh : Int → Int} {b k : Int} (hG : pj_G W sd op ed) (p0_ : W b) (p1_ : 0 ≤ k) (p2_ : k < nL) (p3_ : wh k ≠ 2) (p4_ : kd k = 3) (p5_ : wy k = op b) (p6_ : ∀ j, 0 ≤ j → j < k → wy j = wy k → wh j ≠ 0) (p7_ : tst (sd b) = (ed b)) (p8_ : st (sd b) = 1) (p9_ : nm (sd (op b)) ≠ nm (sd b)) (p10_ : lv (sd b) ≤ lv (sd (op b))) (p11_ : en b = 0) (p12_ : en (op b) ≠ 2) (p13_ : fw (op b) = 0) (p14_ : ps (sd b) = 0) (p15_ : 1 ≤ lv (sd b)) (p16_ : 0 ≤ nL) (cN1c : pj_N1c sd op st nL wy wh) (cR : pj_R W nL kd wy wh) : pj_N1c sd op st nL wy (pu wh k 2) := by
  obtain ⟨hop, hed⟩ := hG
  unfold pj_N1c pj_R at *
  intro k0
  simp only [pu]
  have g0 := hop b
  have g1 := hop (wy k0)
  have g2 := hed b (wy k0)
  have cN1c_0 := cN1c k
  have cN1c_1 := cN1c k0
  have cR_0 := cR k0
  have f0 := p6_ k
  have f1 := p6_ k0
  clear p6_
  clear hop hed cN1c cR
  grind (splits := 24)

set_option maxHeartbeats 1000000 in
theorem pt_acb_N7 {W : Int → Prop} {sd : Int → Int} {op : Int → Int} {ed : Int → Int} {st : Int → Int} {lv : Int → Int} {nm : Int → Int} {tst : Int → Int} {exp : Int → Int} {ps : Int → Int} {en : Int → Int} {fw : Int → Int} {nL : Int} {kd : Int → Int} {wy : Int → Int} {wh : Int → Int} {b k : Int} (hG : pj_G W sd op ed) (p0_ : W b) (p1_ : 0 ≤ k) (p2_ : k < nL) (p3_ : wh k ≠ 2) (p4_ : kd k = 3) (p5_ : wy k = op b) (p6_ : ∀ j, 0 ≤ j → j < k → wy j = wy k → wh j ≠ 0) (p7_ : tst (sd b) = (ed b)) (p8_ : st (sd b) = 1) (p9_ : nm (sd (op b)) ≠ nm (sd b)) (p10_ : lv (sd b) ≤ lv (sd (op b))) (p11_ : en b = 0) (p12_ : en (op b) ≠ 2) (p13_ : fw (op b) = 0) (p14_ : ps (sd b) = 0) (p15_ : 1 ≤ lv (sd b)) (p16_ : 0 ≤ nL) (cN7 : pj_N7 st tst exp) : pj_N7 st (pu tst (sd b) (-1)) exp := by
  obtain ⟨hop, hed⟩ := hG
  unfold pj_N7 at *
  intro n0
  simp only [pu]
  have g0 := hop b
  have cN7_0 := cN7 (sd (op b))
  have cN7_1 := cN7 n0
  have cN7_2 := cN7 (sd b)
  have f0 := p6_ k
  clear p6_
  clear hop hed cN7
  grind (splits := 24)

set_option maxHeartbeats 1000000 in
theorem pt_acb_E1 {W : Int → Prop} {sd : Int → Int} {op : Int → Int} {ed : Int → Int} {st : Int → Int} {lv : Int → Int} {nm : Int → Int} {tst : Int → Int} {ps : Int → Int} {dl : Int → Int} {en : Int → Int} {fw : Int → Int} {nL : Int} {kd : Int → Int} {wy : Int → Int} {ll : Int → Int} {wh : Int → Int} {b k : Int} (hG : pj_G W sd op ed) (p0_ : W b) (p1_ : 0 ≤ k) (p2_ : k < nL) (p3_ : wh k ≠ 2) (p4_ : kd k = 3) (p5_ : wy k = op b) (p6_ : ∀ j, 0 ≤ j → j < k → wy j = wy k → wh j ≠ 0) (p7_ : tst (sd b) = (ed b)) (p8_ : st (sd b) = 1) (p9_ : nm (sd (op b)) ≠ nm (sd b)) (p10_ : lv (sd b) ≤ lv (sd (op b))) (p11_ : en b = 0) (p12_ : en (op b) ≠ 2) (p13_ : fw (op b) = 0) (p14_ : ps (sd b) = 0) (p15_ : 1 ≤ lv (sd b)) (p16_ : 0 ≤ nL) (cE1 : pj_E1 sd op lv dl nL kd wy ll wh) : pj_E1 sd op lv dl nL kd wy ll (pu wh k 2) := by
  obtain ⟨hop, hed⟩ := hG
  unfold pj_E1 at *
  intro n0
  simp only [pu]
  have g0 := hop b
  have cE1_0 := cE1 (sd (op b))
  have cE1_1 := cE1 n0
  have cE1_2 := cE1 (sd b)
  have f0 := p6_ k
  clear p6_
  clear hop hed cE1
  grind (splits := 24)

set_option maxHeartbeats 1000000 in
theorem pt_acb_EC {W : Int → Prop} {sd : Int → Int} {op : Int → Int} {ed : Int → Int} {st : Int → Int} {lv : Int → Int} {nm : Int → Int} {tst : Int → Int} {om : Int → Int} {ps : Int → Int} {dl : Int → Int} {en : Int → Int} {fw : Int → Int} {nL : Int} {kd : Int → Int} {wy : Int → Int} {wh : Int → Int} {F : Int → Prop} {b k : Int} (hG : pj_G W sd op ed) (p0_ : W b) (p1_ : 0 ≤ k) (p2_ : k < nL) (p3_ : wh k ≠ 2) (p4_ : kd k = 3) (p5_ : wy k = op b) (p6_ : ∀ j, 0 ≤ j → j < k → wy j = wy k → wh j ≠ 0) (p7_ : tst (sd b) = (ed b)) (p8_ : st (sd b) = 1) (p9_ : nm (sd (op b)) ≠ nm (sd b)) (p10_ : lv (sd b) ≤ lv (sd (op b))) (p11_ : en b = 0) (p12_ : en (op b) ≠ 2) (p13_ : fw (op b) = 0) (p14_ : ps (sd b) = 0) (p15_ : 1 ≤ lv (sd b)) (p16_ : 0 ≤ nL) (cEC : pj_EC W sd op ed lv nm om ps dl nL kd wy wh F) : pj_EC W sd op ed lv nm om ps dl nL kd wy (pu wh k 2) F := by
  obtain ⟨hop, hed⟩ := hG
  unfold pj_EC at *
  intro w0
  simp only [pu]
  have g0 := hop b
  have g1 := hop w0
  have g2 := hed b w0
  have cEC_0 := cEC b
  have cEC_1 := cEC w0
  have cEC_2 := cEC (op w0)
  have f0 := p6_ k
  clear p6_
  clear hop hed cEC
  grind (splits := 24)

set_option maxHeartbeats 1000000 in
theorem pt_acb_N11 {W : Int → Prop} {sd : Int → Int} {op : Int → Int} {ed : Int → Int} {st : Int → Int} {lv : Int → Int} {nm : Int → Int} {tow : Int → Int} {tst : Int → Int} {ps : Int → Int} {en : Int → Int} {fw : Int → Int} {nL : Int} {kd : Int → Int} {wy : Int → Int} {wh : Int → Int} {b k : Int} (hG : pj_G W sd op ed) (p0_ : W b) (p1_ : 0 ≤ k) (p2_ : k < nL) (p3_ : wh k ≠ 2) (p4_ : kd k = 3) (p5_ : wy k = op b) (p6_ : ∀ j, 0 ≤ j → j < k → wy j = wy k → wh j ≠ 0) (p7_ : tst (sd b) = (ed b)) (p8_ : st (sd b) = 1) (p9_ : nm (sd (op b)) ≠ nm (sd b)) (p10_ : lv (sd b) ≤ lv (sd (op b))) (p11_ : en b = 0) (p12_ : en (op b) ≠ 2) (p13_ : fw (op b) = 0) (p14_ : ps (sd b) = 0) (p15_ : 1 ≤ lv (sd b)) (p16_ : 0 ≤ nL) (cN11 : pj_N11 W sd op ed lv nm tow tst ps en) : pj_N11 W sd op ed lv nm tow (pu tst (sd b) (-1)) ps en := by
  obtain ⟨hop, hed⟩ := hG
  unfold pj_N11 at *
  intro w0
  simp only [pu]
  have g0 := hop b
  have g1 := hop w0
  have g2 := hed b w0
  have cN11_0 := cN11 b
  have cN11_1 := cN11 w0
  have cN11_2 := cN11 (op w0)
  have f0 := p6_ k
  clear p6_
  clear hop hed cN11
  grind (splits := 24)

set_option maxHeartbeats 1000000 in
theorem pt_acb_RJ {W : Int → Prop} {sd : Int → Int} {op : Int → Int} {ed : Int → Int} {st : Int → Int} {lv : Int → Int} {nm : Int → Int} {tst : Int → Int} {ps : Int → Int} {en : Int → Int} {fw : Int → Int} {nL : Int} {kd : Int → Int} {wy : Int → Int} {wh : Int → Int} {b k : Int} (hG : pj_G W sd op ed) (p0_ : W b) (p1_ : 0 ≤ k) (p2_ : k < nL) (p3_ : wh k ≠ 2) (p4_ : kd k = 3) (p5_ : wy k = op b) (p6_ : ∀ j, 0 ≤ j → j < k → wy j = wy k → wh j ≠ 0) (p7_ : tst (sd b) = (ed b)) (p8_ : st (sd b) = 1) (p9_ : nm (sd (op b)) ≠ nm (sd b)) (p10_ : lv (sd b) ≤ lv (sd (op b))) (p11_ : en b = 0) (p12_ : en (op b) ≠ 2) (p13_ : fw (op b) = 0) (p14_ : ps (sd b) = 0) (p15_ : 1 ≤ lv (sd b)) (p16_ : 0 ≤ nL) (cRJ : pj_RJ W sd op ed tst en fw) : pj_RJ W sd op ed (pu tst (sd b) (-1)) en fw := by
  obtain ⟨hop, hed⟩ := hG
  unfold pj_RJ at *
  intro w0
  simp only [pu]
  have g0 := hop b
  have g1 := hop w0
  have g2 := hed b w0
  have cRJ_0 := cRJ b
  have cRJ_1 := cRJ w0
  have cRJ_2 := cRJ (op w0)
  have f0 := p6_ k
  clear p6_
  clear hop hed cRJ
  grind (splits := 24)

set_option maxHeartbeats 1000000 in
theorem pt_acb_FW {W : Int → Prop} {sd : Int → Int} {op : Int → Int} {ed : Int → Int} {st : Int → Int} {lv : Int → Int} {nm : Int → Int} {tst : Int → Int} {ps : Int → Int} {en : Int → Int} {fw : Int → Int} {nL : Int} {kd : Int → Int} {wy : Int → Int} {wh : Int → Int} {b k : Int} (hG : pj_G W sd op ed) (p0_ : W b) (p1_ : 0 ≤ k) (p2_ : k < nL) (p3_ : wh k ≠ 2) (p4_ : kd k = 3) (p5_ : wy k = op b) (p6_ : ∀ j, 0 ≤ j → j < k → wy j = wy k → wh j ≠ 0) (p7_ : tst (sd b) = (ed b)) (p8_ : st (sd b) = 1) (p9_ : nm (sd (op b)) ≠ nm (sd b)) (p10_ : lv (sd b) ≤ lv (sd (op b))) (p11_ : en b = 0) (p12_ : en (op b) ≠ 2) (p13_ : fw (op b) = 0) (p14_ : ps (sd b) = 0) (p15_ : 1 ≤ lv (sd b)) (p16_ : 0 ≤ nL) (cFW : pj_FW W sd ed tst en fw) : pj_FW W sd ed (pu tst (sd b) (-1)) en fw := by
  obtain ⟨hop, hed⟩ := hG
  unfold pj_FW at *
  intro w0
  simp only [pu]
  have g0 := hop b
  have g1 := hop w0
  have g2 := hed b w0
  have cFW_0 := cFW b
  have cFW_1 := cFW w0
  have cFW_2 := cFW (op w0)
  have f0 := p6_ k
  clear p6_
  clear hop hed cFW
  grind (splits := 24)

set_option maxHeartbeats 1000000 in
theorem pt_acb_WH {W : Int → Prop} {sd : Int → Int} {op : Int → Int} {ed : Int → Int} {st : Int → Int} {lv : Int → Int} {nm : Int → Int} {tst : Int → Int} {ps : Int → Int} {en : Int → Int} {fw : Int → Int} {nL : Int} {kd : Int → Int} {wy : Int → Int} {wh : Int → Int} {b k : Int} (hG : pj_G W sd op ed) (p0_ : W b) (p1_ : 0 ≤ k) (p2_ : k < nL) (p3_ : wh k ≠ 2) (p4_ : kd k = 3) (p5_ : wy k = op b) (p6_ : ∀ j, 0 ≤ j → j < k → wy j = wy k → wh j ≠ 0) (p7_ : tst (sd b) = (ed b)) (p8_ : st (sd b) = 1) (p9_ : nm (sd (op b)) ≠ nm (sd b)) (p10_ : lv (sd b) ≤ lv (sd (op b))) (p11_ : en b = 0) (p12_ : en (op b) ≠ 2) (p13_ : fw (op b) = 0) (p14_ : ps (sd b) = 0) (p15_ : 1 ≤ lv (sd b)) (p16_ : 0 ≤ nL) (cWH : pj_WH nL kd wh) (cR : pj_R W nL kd wy wh) : pj_WH nL kd (pu wh k 2) := by
  obtain ⟨hop, hed⟩ := hG
  unfold pj_WH pj_R at *
  intro k0
  simp only [pu]
  have g0 := hop b
  have g1 := hop (wy k0)
  have g2 := hed b (wy k0)
  have cWH_0 := cWH k
  have cWH_1 := cWH k0
  have cR_0 := cR k0
  have f0 := p6_ k
  have f1 := p6_ k0
  clear p6_
  clear hop hed cWH cR
  grind (splits := 24)

set_option maxHeartbeats 1000000 in
theorem pt_acb_FI {W : Int → Prop} {sd : Int → Int} {op : Int → Int} {ed : Int → Int} {st : Int → Int} {lv : Int → Int} {nm : Int → Int} {tst : Int → Int} {ps : Int → Int} {en : Int → Int} {fw : Int → Int} {nL : Int} {kd : Int → Int} {wy : Int → Int} {wh : Int → Int} {b k : Int} (hG : pj_G W sd op ed) (p0_ : W b) (p1_ : 0 ≤ k) (p2_ : k < nL) (p3_ : wh k ≠ 2) (p4_ : kd k = 3) (p5_ : wy k = op b) (p6_ : ∀ j, 0 ≤ j → j < k → wy j = wy k → wh j ≠ 0) (p7_ : tst (sd b) = (ed b)) (p8_ : st (sd b) = 1) (p9_ : nm (sd (op b)) ≠ nm (sd b)) (p10_ : lv (sd b) ≤ lv (sd (op b))) (p11_ : en b = 0) (p12_ : en (op b) ≠ 2) (p13_ : fw (op b) = 0) (p14_ : ps (sd b) = 0) (p15_ : 1 ≤ lv (sd b)) (p16_ : 0 ≤ nL) (cFI : pj_FI nL wy wh) (cR : pj_R W nL kd wy wh) : pj_FI nL wy (pu wh k 2) := by
  obtain ⟨hop, hed⟩ := hG
  unfold pj_FI pj_R at *
  intro j0 k0
  simp only [pu]
  have g0 := hop b
  have g1 := hop (wy j0)
  have g2 := hop (wy k0)
  have g3 := hed b (wy j0)
  have g4 := hed b (wy k0)
  have g5 := hed (wy j0) (wy k0)
  have cFI_0 := cFI k k
  have cFI_1 := cFI k j0
  have cFI_2 := cFI k k0
  have cFI_3 := cFI j0 k
  have cFI_4 := cFI j0 j0
  have cFI_5 := cFI j0 k0
  have cFI_6 := cFI k0 k
  have cFI_7 := cFI k0 j0
  have cFI_8 := cFI k0 k0
  have cR_0 := cR j0
  have cR_1 := cR k0
  have f0 := p6_ k
  have f1 := p6_ j0
  have f2 := p6_ k0
  clear p6_
  clear hop hed cFI cR
  grind (splits := 24)

set_option maxHeartbeats 1000000 in
theorem pt_acb_L0 {W : Int → Prop} {sd : Int → Int} {op : Int → Int} {ed : Int → Int} {st : Int → Int} {lv : Int → Int} {nm : Int → Int} {tst : Int → Int} {om : Int → Int} {ps : Int → Int} {dl : Int → Int} {c0 : Int → Int} {en : Int → Int} {fw : Int → Int} {cw : Int → Int} {nL : Int} {kd : Int → Int} {wy : Int → Int} {ll : Int → Int} {wh : Int → Int} {b k : Int} (hG : pj_G W sd op ed) (p0_ : W b) (p1_ : 0 ≤ k) (p2_ : k < nL) (p3_ : wh k ≠ 2) (p4_ : kd k = 3) (p5_ : wy k = op b) (p6_ : ∀ j, 0 ≤ j → j < k → wy j = wy k → wh j ≠ 0) (p7_ : tst (sd b) = (ed b)) (p8_ : st (sd b) = 1) (p9_ : nm (sd (op b)) ≠ nm (sd b)) (p10_ : lv (sd b) ≤ lv (sd (op b))) (p11_ : en b = 0) (p12_ : en (op b) ≠ 2) (p13_ : fw (op b) = 0) (p14_ : ps (sd b) = 0) (p15_ : 1 ≤ lv (sd b)) (p16_ : 0 ≤ nL) (cL0 : pj_L0 sd op ed lv nm om ps dl c0 en cw nL kd wy ll wh) (cR : pj_R W nL kd wy wh) : pj_L0 sd op ed lv nm om ps dl c0 en cw nL kd wy ll (pu wh k 2) := by
  obtain ⟨hop, hed⟩ := hG
  unfold pj_L0 pj_R at *
  intro k0
  simp only [pu]
  have g0 := hop b
  have g1 := hop (wy k0)
  have g2 := hed b (wy k0)
  have cL0_0 := cL0 k
  have cL0_1 := cL0 k0
  have cR_0 := cR k0
  have f0 := p6_ k
  have f1 := p6_ k0
  clear p6_
  clear hop hed cL0 cR
  grind (splits := 24)

set_option maxHeartbeats 1000000 in
theorem pt_acb_FC {W : Int → Prop} {sd : Int → Int} {op : Int → Int} {ed : Int → Int} {st : Int → Int} {lv : Int → Int} {nm : Int → Int} {tst : Int → Int} {ps : Int → Int} {en : Int → Int} {fw : Int → Int} {nL : Int} {kd : Int → Int} {wy : Int → Int} {wh : Int → Int} {F : Int → Prop} {b k : Int} (hG : pj_G W sd op ed) (p0_ : W b) (p1_ : 0 ≤ k) (p2_ : k < nL) (p3_ : wh k ≠ 2) (p4_ : kd k = 3) (p5_ : wy k = op b) (p6_ : ∀ j, 0 ≤ j → j < k → wy j = wy k → wh j ≠ 0) (p7_ : tst (sd b) = (ed b)) (p8_ : st (sd b) = 1) (p9_ : nm (sd (op b)) ≠ nm (sd b)) (p10_ : lv (sd b) ≤ lv (sd (op b))) (p11_ : en b = 0) (p12_ : en (op b) ≠ 2) (p13_ : fw (op b) = 0) (p14_ : ps (sd b) = 0) (p15_ : 1 ≤ lv (sd b)) (p16_ : 0 ≤ nL) (cFC : pj_FC op nL kd wy wh F) (cR : pj_R W nL kd wy wh) : pj_FC op nL kd wy (pu wh k 2) F := by
  obtain ⟨hop, hed⟩ := hG
  unfold pj_FC pj_R at *
  intro k0
  simp only [pu]
  have g0 := hop b
  have g1 := hop (wy k0)
  have g2 := hed b (wy k0)
  have cFC_0 := cFC k
  have cFC_1 := cFC k0
  have cR_0 := cR k0
  have f0 := p6_ k
  have f1 := p6_ k0
  clear p6_
  clear hop hed cFC cR
  grind (splits := 24)

set_option maxHeartbeats 1000000 in
theorem pt_acb_L0u {W : Int → Prop} {sd : Int → Int} {op : Int → Int} {ed : Int → Int} {st : Int → Int} {lv : Int → Int} {nm : Int → Int} {tst : Int → Int} {ps : Int → Int} {en : Int → Int} {fw : Int → Int} {nL : Int} {kd : Int → Int} {wy : Int → Int} {wh : Int → Int} {b k : Int} (hG : pj_G W sd op ed) (p0_ : W b) (p1_ : 0 ≤ k) (p2_ : k < nL) (p3_ : wh k ≠ 2) (p4_ : kd k = 3) (p5_ : wy k = op b) (p6_ : ∀ j, 0 ≤ j → j < k → wy j = wy k → wh j ≠ 0) (p7_ : tst (sd b) = (ed b)) (p8_ : st (sd b) = 1) (p9_ : nm (sd (op b)) ≠ nm (sd b)) (p10_ : lv (sd b) ≤ lv (sd (op b))) (p11_ : en b = 0) (p12_ : en (op b) ≠ 2) (p13_ : fw (op b) = 0) (p14_ : ps (sd b) = 0) (p15_ : 1 ≤ lv (sd b)) (p16_ : 0 ≤ nL) (cL0u : pj_L0u nL kd wy wh) (cR : pj_R W nL kd wy wh) : pj_L0u nL kd wy (pu wh k 2) := by
  obtain ⟨hop, hed⟩ := hG
  unfold pj_L0u pj_R at *
  intro j0 k0
  simp only [pu]
  have g0 := hop b
  have g1 := hop (wy j0)
  have g2 := hop (wy k0)
  have g3 := hed b (wy j0)
  have g4 := hed b (wy k0)
  have g5 := hed (wy j0) (wy k0)
  have cL0u_0 := cL0u k k
  have cL0u_1 := cL0u k j0
  have cL0u_2 := cL0u k k0
  have cL0u_3 := cL0u j0 k
  have cL0u_4 := cL0u j0 j0
  have cL0u_5 := cL0u j0 k0
  have cL0u_6 := cL0u k0 k
  have cL0u_7 := cL0u k0 j0
  have cL0u_8 := cL0u k0 k0
  have cR_0 := cR j0
  have cR_1 := cR k0
  have f0 := p6_ k
  have f1 := p6_ j0
  have f2 := p6_ k0
  clear p6_
  clear hop hed cL0u cR
  grind (splits := 24)

set_option maxHeartbeats 1000000 in
theorem pt_acb_OC {W : Int → Prop} {sd : Int → Int} {op : Int → Int} {ed : Int → Int} {st : Int → Int} {lv : Int → Int} {nm : Int → Int} {tst : Int → Int} {ps : Int → Int} {en : Int → Int} {fw : Int → Int} {nL : Int} {kd : Int → Int} {wy : Int → Int} {wh : Int → Int} {b k : Int} (hG : pj_G W sd op ed) (p0_ : W b) (p1_ : 0 ≤ k) (p2_ : k < nL) (p3_ : wh k ≠ 2) (p4_ : kd k = 3) (p5_ : wy k = op b) (p6_ : ∀ j, 0 ≤ j → j < k → wy j = wy k → wh j ≠ 0) (p7_ : tst (sd b) = (ed b)) (p8_ : st (sd b) = 1) (p9_ : nm (sd (op b)) ≠ nm (sd b)) (p10_ : lv (sd b) ≤ lv (sd (op b))) (p11_ : en b = 0) (p12_ : en (op b) ≠ 2) (p13_ : fw (op b) = 0) (p14_ : ps (sd b) = 0) (p15_ : 1 ≤ lv (sd b)) (p16_ : 0 ≤ nL) (cOC : pj_OC nL kd wy wh) (cR : pj_R W nL kd wy wh) : pj_OC nL kd wy (pu wh k 2) := by
  obtain ⟨hop, hed⟩ := hG
  unfold pj_OC pj_R at *
  intro j0 k0
  simp only [pu]
  have g0 := hop b
  have g1 := hop (wy j0)
  have g2 := hop (wy k0)
  have g3 := hed b (wy j0)
  have g4 := hed b (wy k0)
  have g5 := hed (wy j0) (wy k0)
  have cOC_0 := cOC k k
  have cOC_1 := cOC k j0
  have cOC_2 := cOC k k0
  have cOC_3 := cOC j0 k
  have cOC_4 := cOC j0 j0
  have cOC_5 := cOC j0 k0
  have cOC_6 := cOC k0 k
  have cOC_7 := cOC k0 j0
  have cOC_8 := cOC k0 k0
  have cR_0 := cR j0
  have cR_1 := cR k0
  have f0 := p6_ k
  have f1 := p6_ j0
  have f2 := p6_ k0
  clear p6_
  clear hop hed cOC cR
  grind (splits := 24)

set_option maxHeartbeats 1000000 in
theorem pt_acb_CT {W : Int → Prop} {sd : Int → Int} {op : Int → Int} {ed : Int → Int} {st : Int → Int} {lv : Int → Int} {nm : Int → Int} {tst : Int → Int} {ps : Int → Int} {en : Int → Int} {fw : Int → Int} {nL : Int} {kd : Int → Int} {wy : Int → Int} {wh : Int → Int} {b k : Int} (hG : pj_G W sd op ed) (p0_ : W b) (p1_ : 0 ≤ k) (p2_ : k < nL) (p3_ : wh k ≠ 2) (p4_ : kd k = 3) (p5_ : wy k = op b) (p6_ : ∀ j, 0 ≤ j → j < k → wy j = wy k → wh j ≠ 0) (p7_ : tst (sd b) = (ed b)) (p8_ : st (sd b) = 1) (p9_ : nm (sd (op b)) ≠ nm (sd b)) (p10_ : lv (sd b) ≤ lv (sd (op b))) (p11_ : en b = 0) (p12_ : en (op b) ≠ 2) (p13_ : fw (op b) = 0) (p14_ : ps (sd b) = 0) (p15_ : 1 ≤ lv (sd b)) (p16_ : 0 ≤ nL) (cCT : pj_CT nL kd wy wh) (cR : pj_R W nL kd wy wh) : pj_CT nL kd wy (pu wh k 2) := by
  obtain ⟨hop, hed⟩ := hG
  unfold pj_CT pj_R at *
  intro j0 k0
  simp only [pu]
  have g0 := hop b
  have g1 := hop (wy j0)
  have g2 := hop (wy k0)
  have g3 := hed b (wy j0)
  have g4 := hed b (wy k0)
  have g5 := hed (wy j0) (wy k0)
  have cCT_0 := cCT k k
  have cCT_1 := cCT k j0
  have cCT_2 := cCT k k0
  have cCT_3 := cCT j0 k
  have cCT_4 := cCT j0 j0
  have cCT_5 := cCT j0 k0
  have cCT_6 := cCT k0 k
  have cCT_7 := cCT k0 j0
  have cCT_8 := cCT k0 k0
  have cR_0 := cR j0
  have cR_1 := cR k0
  have f0 := p6_ k
  have f1 := p6_ j0
  have f2 := p6_ k0
  clear p6_
  clear hop hed cCT cR
  grind (splits := 24)

set_option maxHeartbeats 1000000 in
theorem pt_acb_L1 {W : Int → Prop} {sd : Int → Int} {op : Int → Int} {ed : Int → Int} {st : Int → Int} {lv : Int → Int} {nm : Int → Int} {tst : Int → Int} {om : Int → Int} {ps : Int → Int} {dl : Int → Int} {en : Int → Int} {fw : Int → Int} {cl : Int → Int} {nL : Int} {kd : Int → Int} {wy : Int → Int} {ll : Int → Int} {td : Int → Int} {ls : Int → Int} {wh : Int → Int} {b k : Int} (hG : pj_G W sd op ed) (p0_ : W b) (p1_ : 0 ≤ k) (p2_ : k < nL) (p3_ : wh k ≠ 2) (p4_ : kd k = 3) (p5_ : wy k = op b) (p6_ : ∀ j, 0 ≤ j → j < k → wy j = wy k → wh j ≠ 0) (p7_ : tst (sd b) = (ed b)) (p8_ : st (sd b) = 1) (p9_ : nm (sd (op b)) ≠ nm (sd b)) (p10_ : lv (sd b) ≤ lv (sd (op b))) (p11_ : en b = 0) (p12_ : en (op b) ≠ 2) (p13_ : fw (op b) = 0) (p14_ : ps (sd b) = 0) (p15_ : 1 ≤ lv (sd b)) (p16_ : 0 ≤ nL) (cL1 : pj_L1 sd op ed st lv om dl en cl nL kd wy ll td ls wh) (cR : pj_R W nL kd wy wh) : pj_L1 sd op ed st lv om dl en cl nL kd wy ll td ls (pu wh k 2) := by
  obtain ⟨hop, hed⟩ := hG
  unfold pj_L1 pj_R at *
  intro k0
  simp only [pu]
  have g0 := hop b
  have g1 := hop (wy k0)
  have g2 := hed b (wy k0)
  have cL1_0 := cL1 k
  have cL1_1 := cL1 k0
  have cR_0 := cR k0
  have f0 := p6_ k
  have f1 := p6_ k0
  clear p6_
  clear hop hed cL1 cR
  grind (splits := 24)

set_option maxHeartbeats 1000000 in
theorem pt_acb_L1e {W : Int → Prop} {sd : Int → Int} {op : Int → Int} {ed : Int → Int} {st : Int → Int} {lv : Int → Int} {nm : Int → Int} {tst : Int → Int} {ps : Int → Int} {dl : Int → Int} {dn : Int → Int} {en : Int → Int} {fw : Int → Int} {nL : Int} {kd : Int → Int} {wy : Int → Int} {ll : Int → Int} {td : Int → Int} {ls : Int → Int} {wh : Int → Int} {b k : Int} (hG : pj_G W sd op ed) (p0_ : W b) (p1_ : 0 ≤ k) (p2_ : k < nL) (p3_ : wh k ≠ 2) (p4_ : kd k = 3) (p5_ : wy k = op b) (p6_ : ∀ j, 0 ≤ j → j < k → wy j = wy k → wh j ≠ 0) (p7_ : tst (sd b) = (ed b)) (p8_ : st (sd b) = 1) (p9_ : nm (sd (op b)) ≠ nm (sd b)) (p10_ : lv (sd b) ≤ lv (sd (op b))) (p11_ : en b = 0) (p12_ : en (op b) ≠ 2) (p13_ : fw (op b) = 0) (p14_ : ps (sd b) = 0) (p15_ : 1 ≤ lv (sd b)) (p16_ : 0 ≤ nL) (cL1e : pj_L1e sd op dl dn nL kd wy ll td ls wh) (cR : pj_R W nL kd wy wh) : pj_L1e sd op dl dn nL kd wy ll td ls (pu wh k 2) := by
  obtain ⟨hop, hed⟩ := hG
  unfold pj_L1e pj_R at *
  intro k0
  simp only [pu]
  have g0 := hop b
  have g1 := hop (wy k0)
  have g2 := hed b (wy k0)
  have cL1e_0 := cL1e k
  have cL1e_1 := cL1e k0
  have cR_0 := cR k0
  have f0 := p6_ k
  have f1 := p6_ k0
  clear p6_
  clear hop hed cL1e cR
  grind (splits := 24)

set_option maxHeartbeats 1000000 in
theorem pt_acb_L1o {W : Int → Prop} {sd : Int → Int} {op : Int → Int} {ed : Int → Int} {st : Int → Int} {lv : Int → Int} {nm : Int → Int} {tst : Int → Int} {ps : Int → Int} {en : Int → Int} {fw : Int → Int} {nL : Int} {kd : Int → Int} {wy : Int → Int} {ll : Int → Int} {wh : Int → Int} {b k : Int} (hG : pj_G W sd op ed) (p0_ : W b) (p1_ : 0 ≤ k) (p2_ : k < nL) (p3_ : wh k ≠ 2) (p4_ : kd k = 3) (p5_ : wy k = op b) (p6_ : ∀ j, 0 ≤ j → j < k → wy j = wy k → wh j ≠ 0) (p7_ : tst (sd b) = (ed b)) (p8_ : st (sd b) = 1) (p9_ : nm (sd (op b)) ≠ nm (sd b)) (p10_ : lv (sd b) ≤ lv (sd (op b))) (p11_ : en b = 0) (p12_ : en (op b) ≠ 2) (p13_ : fw (op b) = 0) (p14_ : ps (sd b) = 0) (p15_ : 1 ≤ lv (sd b)) (p16_ : 0 ≤ nL) (cL1o : pj_L1o nL kd wy ll wh) (cR : pj_R W nL kd wy wh) : pj_L1o nL kd wy ll (pu wh k 2) := by
  obtain ⟨hop, hed⟩ := hG
  unfold pj_L1o pj_R at *
  intro j0 k0
  simp only [pu]
  have g0 := hop b
  have g1 := hop (wy j0)
  have g2 := hop (wy k0)
  have g3 := hed b (wy j0)
  have g4 := hed b (wy k0)
  have g5 := hed (wy j0) (wy k0)
  have cL1o_0 := cL1o k k
  have cL1o_1 := cL1o k j0
  have cL1o_2 := cL1o k k0
  have cL1o_3 := cL1o j0 k
  have cL1o_4 := cL1o j0 j0
  have cL1o_5 := cL1o j0 k0
  have cL1o_6 := cL1o k0 k
  have cL1o_7 := cL1o k0 j0
  have cL1o_8 := cL1o k0 k0
  have cR_0 := cR j0
  have cR_1 := cR k0
  have f0 := p6_ k
  have f1 := p6_ j0
  have f2 := p6_ k0
  clear p6_
  clear hop hed cL1o cR
  grind (splits := 24)

set_option maxHeartbeats 1000000 in
theorem pt_acb_L1b {W : Int → Prop} {sd : Int → Int} {op : Int → Int} {ed : Int → Int} {st : Int → Int} {lv : Int → Int} {nm : Int → Int} {tst : Int → Int} {om : Int → Int} {ps : Int → Int} {en : Int → Int} {pd : Int → Int} {fw : Int → Int} {nL : Int} {kd : Int → Int} {wy : Int → Int} {td : Int → Int} {ls : Int → Int} {wh : Int → Int} {b k : Int} (hG : pj_G W sd op ed) (p0_ : W b) (p1_ : 0 ≤ k) (p2_ : k < nL) (p3_ : wh k ≠ 2) (p4_ : kd k = 3) (p5_ : wy k = op b) (p6_ : ∀ j, 0 ≤ j → j < k → wy j = wy k → wh j ≠ 0) (p7_ : tst (sd b) = (ed b)) (p8_ : st (sd b) = 1) (p9_ : nm (sd (op b)) ≠ nm (sd b)) (p10_ : lv (sd b) ≤ lv (sd (op b))) (p11_ : en b = 0) (p12_ : en (op b) ≠ 2) (p13_ : fw (op b) = 0) (p14_ : ps (sd b) = 0) (p15_ : 1 ≤ lv (sd b)) (p16_ : 0 ≤ nL) (cL1b : pj_L1b sd ed st om pd nL kd wy td ls wh) (cR : pj_R W nL kd wy wh) : pj_L1b sd ed st om pd nL kd wy td ls (pu wh k 2) := by
  obtain ⟨hop, hed⟩ := hG
  unfold pj_L1b pj_R at *
  intro k0
  simp only [pu]
  have g0 := hop b
  have g1 := hop (wy k0)
  have g2 := hed b (wy k0)
  have cL1b_0 := cL1b k
  have cL1b_1 := cL1b k0
  have cR_0 := cR k0
  have f0 := p6_ k
  have f1 := p6_ k0
  clear p6_
  clear hop hed cL1b cR
  grind (splits := 24)

set_option maxHeartbeats 1000000 in
theorem pt_acb_L1g {W : Int → Prop} {sd : Int → Int} {op : Int → Int} {ed : Int → Int} {st : Int → Int} {lv : Int → Int} {nm : Int → Int} {tst : Int → Int} {ps : Int → Int} {en : Int → Int} {fw : Int → Int} {nL : Int} {kd : Int → Int} {wy : Int → Int} {td : Int → Int} {ls : Int → Int} {wh : Int → Int} {b k : Int} (hG : pj_G W sd op ed) (p0_ : W b) (p1_ : 0 ≤ k) (p2_ : k < nL) (p3_ : wh k ≠ 2) (p4_ : kd k = 3) (p5_ : wy k = op b) (p6_ : ∀ j, 0 ≤ j → j < k → wy j = wy k → wh j ≠ 0) (p7_ : tst (sd b) = (ed b)) (p8_ : st (sd b) = 1) (p9_ : nm (sd (op b)) ≠ nm (sd b)) (p10_ : lv (sd b) ≤ lv (sd (op b))) (p11_ : en b = 0) (p12_ : en (op b) ≠ 2) (p13_ : fw (op b) = 0) (p14_ : ps (sd b) = 0) (p15_ : 1 ≤ lv (sd b)) (p16_ : 0 ≤ nL) (cL1g : pj_L1g W sd op ed nL kd wy td ls wh) (cR : pj_R W nL kd wy wh) : pj_L1g W sd op ed nL kd wy td ls (pu wh k 2) := by
  obtain ⟨hop, hed⟩ := hG
  unfold pj_L1g pj_R at *
  intro k0 v0
  simp only [pu]
  have g0 := hop b
  have g1 := hop (wy k0)
  have g2 := hop v0
  have g3 := hed b (wy k0)
  have g4 := hed b v0
  have g5 := hed (wy k0) v0
  have cL1g_0 := cL1g k b
  have cL1g_1 := cL1g k (wy k0)
  have cL1g_2 := cL1g k (op (wy k0))
  have cL1g_3 := cL1g k v0
  have cL1g_4 := cL1g k (op v0)
  have cL1g_5 := cL1g k0 b
  have cL1g_6 := cL1g k0 (wy k0)
  have cL1g_7 := cL1g k0 (op (wy k0))
  have cL1g_8 := cL1g k0 v0
  have cL1g_9 := cL1g k0 (op v0)
  have cR_0 := cR k0
  have f0 := p6_ k
  have f1 := p6_ k0
  clear p6_
  clear hop hed cL1g cR
  grind (splits := 24)

set_option maxHeartbeats 1000000 in
theorem pt_acb_L2 {W : Int → Prop} {sd : Int → Int} {op : Int → Int} {ed : Int → Int} {st : Int → Int} {lv : Int → Int} {nm : Int → Int} {tst : Int → Int} {ps : Int → Int} {en : Int → Int} {fw : Int → Int} {nL : Int} {kd : Int → Int} {wy : Int → Int} {ll : Int → Int} {td : Int → Int} {wh : Int → Int} {b k : Int} (hG : pj_G W sd op ed) (p0_ : W b) (p1_ : 0 ≤ k) (p2_ : k < nL) (p3_ : wh k ≠ 2) (p4_ : kd k = 3) (p5_ : wy k = op b) (p6_ : ∀ j, 0 ≤ j → j < k → wy j = wy k → wh j ≠ 0) (p7_ : tst (sd b) = (ed b)) (p8_ : st (sd b) = 1) (p9_ : nm (sd (op b)) ≠ nm (sd b)) (p10_ : lv (sd b) ≤ lv (sd (op b))) (p11_ : en b = 0) (p12_ : en (op b) ≠ 2) (p13_ : fw (op b) = 0) (p14_ : ps (sd b) = 0) (p15_ : 1 ≤ lv (sd b)) (p16_ : 0 ≤ nL) (cR : pj_R W nL kd wy wh) (cCV : pj_CV W sd op ed tst nL kd wy wh) (cL3 : pj_L3 sd op ed st lv nm tst en fw nL kd wy wh) (cL4 : pj_L4 sd op ed st tst en nL kd wy wh) (cL2 : pj_L2 sd op ed st lv nm tst en fw nL kd wy ll td wh) : pj_L2 sd op ed st lv nm (pu tst (sd b) (-1)) en fw nL kd wy ll td (pu wh k 2) := by
  obtain ⟨hop, hed⟩ := hG
  unfold pj_R pj_CV pj_L3 pj_L4 pj_L2 at *
  intro k0
  simp only [pu]
  have g0 := hop b
  have g1 := hop (wy k0)
  have g2 := hed b (wy k0)
  have cR_0 := cR k0
  have cCV_0 := cCV b k0 k
  have cCV_1 := cCV (op b) k0 k
  have cL3_0 := cL3 k0
  have cL4_0 := cL4 k0
  have cL2_0 := cL2 k0
  have f0 := p6_ k
  have f1 := p6_ k0
  clear p6_
  clear hop hed cR cCV cL3 cL4 cL2
  grind (splits := 24)

set_option maxHeartbeats 1000000 in
theorem pt_acb_L3 {W : Int → Prop} {sd : Int → Int} {op : Int → Int} {ed : Int → Int} {st : Int → Int} {lv : Int → Int} {nm : Int → Int} {tst : Int → Int} {ps : Int → Int} {en : Int → Int} {fw : Int → Int} {nL : Int} {kd : Int → Int} {wy : Int → Int} {ll : Int → Int} {td : Int → Int} {wh : Int → Int} {b k : Int} (hG : pj_G W sd op ed) (p0_ : W b) (p1_ : 0 ≤ k) (p2_ : k < nL) (p3_ : wh k ≠ 2) (p4_ : kd k = 3) (p5_ : wy k = op b) (p6_ : ∀ j, 0 ≤ j → j < k → wy j = wy k → wh j ≠ 0) (p7_ : tst (sd b) = (ed b)) (p8_ : st (sd b) = 1) (p9_ : nm (sd (op b)) ≠ nm (sd b)) (p10_ : lv (sd b) ≤ lv (sd (op b))) (p11_ : en b = 0) (p12_ : en (op b) ≠ 2) (p13_ : fw (op b) = 0) (p14_ : ps (sd b) = 0) (p15_ : 1 ≤ lv (sd b)) (p16_ : 0 ≤ nL) (cR : pj_R W nL kd wy wh) (cCV : pj_CV W sd op ed tst nL kd wy wh) (cL3 : pj_L3 sd op ed st lv nm tst en fw nL kd wy wh) (cL4 : pj_L4 sd op ed st tst en nL kd wy wh) (cL2 : pj_L2 sd op ed st lv nm tst en fw nL kd wy ll td wh) : pj_L3 sd op ed st lv nm (pu tst (sd b) (-1)) en fw nL kd wy (pu wh k 2) := by
  obtain ⟨hop, hed⟩ := hG
  unfold pj_R pj_CV pj_L3 pj_L4 pj_L2 at *
  intro k0
  simp only [pu]
  have g0 := hop b
  have g1 := hop (wy k0)
  have g2 := hed b (wy k0)
  have cR_0 := cR k0
  have cCV_0 := cCV b k0 k
  have cCV_1 := cCV (op b) k0 k
  have cL3_0 := cL3 k0
  have cL4_0 := cL4 k0
  have cL2_0 := cL2 k0
  have f0 := p6_ k
  have f1 := p6_ k0
  clear p6_
  clear hop hed cR cCV cL3 cL4 cL2
  grind (splits := 24)

set_option maxHeartbeats 1000000 in
theorem pt_acb_L4 {W : Int → Prop} {sd : Int → Int} {op : Int → Int} {ed : Int → Int} {st : Int → Int} {lv : Int → Int} {nm : Int → Int} {tst : Int → Int} {ps : Int → Int} {en : Int → Int} {fw : Int → Int} {nL : Int} {kd : Int → Int} {wy : Int → Int} {ll : Int → Int} {td : Int → Int} {wh : Int → Int} {b k : Int} (hG : pj_G W sd op ed) (p0_ : W b) (p1_ : 0 ≤ k) (p2_ : k < nL) (p3_ : wh k ≠ 2) (p4_ : kd k = 3) (p5_ : wy k = op b) (p6_ : ∀ j, 0 ≤ j → j < k → wy j = wy k → wh j ≠ 0) (p7_ : tst (sd b) = (ed b)) (p8_ : st (sd b) = 1) (p9_ : nm (sd (op b)) ≠ nm (sd b)) (p10_ : lv (sd b) ≤ lv (sd (op b))) (p11_ : en b = 0) (p12_ : en (op b) ≠ 2) (p13_ : fw (op b) = 0) (p14_ : ps (sd b) = 0) (p15_ : 1 ≤ lv (sd b)) (p16_ : 0 ≤ nL) (cR : pj_R W nL kd wy wh) (cCV : pj_CV W sd op ed tst nL kd wy wh) (cL3 : pj_L3 sd op ed st lv nm tst en fw nL kd wy wh) (cL4 : pj_L4 sd op ed st tst en nL kd wy wh) (cL2 : pj_L2 sd op ed st lv nm tst en fw nL kd wy ll td wh) : pj_L4 sd op ed st (pu tst (sd b) (-1)) en nL kd wy (pu wh k 2) := by
  obtain ⟨hop, hed⟩ := hG
  unfold pj_R pj_CV pj_L3 pj_L4 pj_L2 at *
  intro k0
  simp only [pu]
  have g0 := hop b
  have g1 := hop (wy k0)
  have g2 := hed b (wy k0)
  have cR_0 := cR k0
  have cCV_0 := cCV b k0 k
  have cCV_1 := cCV (op b) k0 k
  have cL3_0 := cL3 k0
  have cL4_0 := cL4 k0
  have cL2_0 := cL2 k0
  have f0 := p6_ k
  have f1 := p6_ k0
  clear p6_
  clear hop hed cR cCV cL3 cL4 cL2
  grind (splits := 24)

set_option maxHeartbeats 1000000 in
theorem pt_acb_AF {W : Int → Prop} {sd : Int → Int} {op : Int → Int} {ed : Int → Int} {st : Int → Int} {lv : Int → Int} {nm : Int → Int} {tst : Int → Int} {ps : Int → Int} {af : Int → Int} {en : Int → Int} {fw : Int → Int} {nL : Int} {kd : Int → Int} {wy : Int → Int} {wh : Int → Int} {b k : Int} (hG : pj_G W sd op ed) (p0_ : W b) (p1_ : 0 ≤ k) (p2_ : k < nL) (p3_ : wh k ≠ 2) (p4_ : kd k = 3) (p5_ : wy k = op b) (p6_ : ∀ j, 0 ≤ j → j < k → wy j = wy k → wh j ≠ 0) (p7_ : tst (sd b) = (ed b)) (p8_ : st (sd b) = 1) (p9_ : nm (sd (op b)) ≠ nm (sd b)) (p10_ : lv (sd b) ≤ lv (sd (op b))) (p11_ : en b = 0) (p12_ : en (op b) ≠ 2) (p13_ : fw (op b) = 0) (p14_ : ps (sd b) = 0) (p15_ : 1 ≤ lv (sd b)) (p16_ : 0 ≤ nL) (cAF : pj_AF W sd op ed tst af nL kd wy wh) : pj_AF W sd op ed (pu tst (sd b) (-1)) af nL kd wy (pu wh k 2) := by
  obtain ⟨hop, hed⟩ := hG
  unfold pj_AF at *
  intro v0
  simp only [pu]
  have g0 := hop b
  have g1 := hop v0
  have g2 := hed b v0
  have cAF_0 := cAF b
  have cAF_1 := cAF v0
  have cAF_2 := cAF (op v0)
  have f0 := p6_ k
  clear p6_
  clear hop hed cAF
  grind (splits := 24)

set_option maxHeartbeats 1000000 in
theorem pt_acb_RT {W : Int → Prop} {sd : Int → Int} {op : Int → Int} {ed : Int → Int} {st : Int → Int} {lv : Int → Int} {nm : Int → Int} {tst : Int → Int} {ps : Int → Int} {en : Int → Int} {fw : Int → Int} {nL : Int} {kd : Int → Int} {wy : Int → Int} {ll : Int → Int} {td : Int → Int} {wh : Int → Int} {b k : Int} (hG : pj_G W sd op ed) (p0_ : W b) (p1_ : 0 ≤ k) (p2_ : k < nL) (p3_ : wh k ≠ 2) (p4_ : kd k = 3) (p5_ : wy k = op b) (p6_ : ∀ j, 0 ≤ j → j < k → wy j = wy k → wh j ≠ 0) (p7_ : tst (sd b) = (ed b)) (p8_ : st (sd b) = 1) (p9_ : nm (sd (op b)) ≠ nm (sd b)) (p10_ : lv (sd b) ≤ lv (sd (op b))) (p11_ : en b = 0) (p12_ : en (op b) ≠ 2) (p13_ : fw (op b) = 0) (p14_ : ps (sd b) = 0) (p15_ : 1 ≤ lv (sd b)) (p16_ : 0 ≤ nL) (cRT : pj_RT sd ed tst nL kd wy wh) (cR : pj_R W nL kd wy wh) (cCV : pj_CV W sd op ed tst nL kd wy wh) (cL2 : pj_L2 sd op ed st lv nm tst en fw nL kd wy ll td wh) (cL4 : pj_L4 sd op ed st tst en nL kd wy wh) : pj_RT sd ed (pu tst (sd b) (-1)) nL kd wy (pu wh k 2) := by
  obtain ⟨hop, hed⟩ := hG
  unfold pj_RT pj_R pj_CV pj_L2 pj_L4 at *
  intro j0 k0
  simp only [pu]
  have g0 := hop b
  have g1 := hop (wy j0)
  have g2 := hop (wy k0)
  have g3 := hed b (wy j0)
  have g4 := hed b (wy k0)
  have g5 := hed (wy j0) (wy k0)
  have cRT_0 := cRT k k
  have cRT_1 := cRT k j0
  have cRT_2 := cRT k k0
  have cRT_3 := cRT j0 k
  have cRT_4 := cRT j0 j0
  have cRT_5 := cRT j0 k0
  have cRT_6 := cRT k0 k
  have cRT_7 := cRT k0 j0
  have cRT_8 := cRT k0 k0
  have cR_0 := cR j0
  have cR_1 := cR k0
  have cCV_0 := cCV b j0 k
  have cCV_1 := cCV (op b) j0 k
  have cCV_2 := cCV b k0 k
  have cCV_3 := cCV (op b) k0 k
  have cL2_0 := cL2 k
  have cL2_1 := cL2 j0
  have cL2_2 := cL2 k0
  have cL4_0 := cL4 k
  have cL4_1 := cL4 j0
  have cL4_2 := cL4 k0
  have f0 := p6_ k
  have f1 := p6_ j0
  have f2 := p6_ k0
  clear p6_
  clear hop hed cRT cR cCV cL2 cL4
  grind (splits := 24)

set_option maxHeartbeats 1000000 in
theorem pt_acb_CV {W : Int → Prop} {sd : Int → Int} {op : Int → Int} {ed : Int → Int} {st : Int → Int} {lv : Int → Int} {nm : Int → Int} {tst : Int → Int} {ps : Int → Int} {en : Int → Int} {fw : Int → Int} {nL : Int} {kd : Int → Int} {wy : Int → Int} {wh : Int → Int} {b k : Int} (hG : pj_G W sd op ed) (p0_ : W b) (p1_ : 0 ≤ k) (p2_ : k < nL) (p3_ : wh k ≠ 2) (p4_ : kd k = 3) (p5_ : wy k = op b) (p6_ : ∀ j, 0 ≤ j → j < k → wy j = wy k → wh j ≠ 0) (p7_ : tst (sd b) = (ed b)) (p8_ : st (sd b) = 1) (p9_ : nm (sd (op b)) ≠ nm (sd b)) (p10_ : lv (sd b) ≤ lv (sd (op b))) (p11_ : en b = 0) (p12_ : en (op b) ≠ 2) (p13_ : fw (op b) = 0) (p14_ : ps (sd b) = 0) (p15_ : 1 ≤ lv (sd b)) (p16_ : 0 ≤ nL) (cR : pj_R W nL kd wy wh) (cCV : pj_CV W sd op ed tst nL kd wy wh) : pj_CV W sd op ed (pu tst (sd b) (-1)) nL kd wy (pu wh k 2) := by
  obtain ⟨hop, hed⟩ := hG
  unfold pj_R pj_CV at *
  intro v0 j0 k0
  simp only [pu]
  have g0 := hop b
  have g1 := hop v0
  have g2 := hop (wy j0)
  have g3 := hop (wy k0)
  have g4 := hed b v0
  have g5 := hed b (wy j0)
  have g6 := hed b (wy k0)
  have g7 := hed v0 (wy j0)
  have g8 := hed v0 (wy k0)
  have g9 := hed (wy j0) (wy k0)
  have cR_0 := cR j0
  have cR_1 := cR k0
  have cCV_0 := cCV v0 j0 k0
  have cCV_1 := cCV b j0 k
  have cCV_2 := cCV b k0 k
  have cCV_3 := cCV (op b) j0 k
  have cCV_4 := cCV (op b) k0 k
  have f0 := p6_ k
  have f1 := p6_ j0
  have f2 := p6_ k0
  clear p6_
  clear hop hed cR cCV
  grind (splits := 24)

set_option maxHeartbeats 1000000 in
theorem pt_acb_L5 {W : Int → Prop} {sd : Int → Int} {op : Int → Int} {ed : Int → Int} {st : Int → Int} {lv : Int → Int} {nm : Int → Int} {inw : Int → Int} {bst : Int → Int} {tst : Int → Int} {om : Int → Int} {ps : Int → Int} {dl : Int → Int} {en : Int → Int} {pd : Int → Int} {rp : Int → Int} {rv : Int → Int} {fw : Int → Int} {cl : Int → Int} {tk : Int → Int} {nL : Int} {kd : Int → Int} {wy : Int → Int} {td : Int → Int} {wh : Int → Int} {b k : Int} (hG : pj_G W sd op ed) (p0_ : W b) (p1_ : 0 ≤ k) (p2_ : k < nL) (p3_ : wh k ≠ 2) (p4_ : kd k = 3) (p5_ : wy k = op b) (p6_ : ∀ j, 0 ≤ j → j < k → wy j = wy k → wh j ≠ 0) (p7_ : tst (sd b) = (ed b)) (p8_ : st (sd b) = 1) (p9_ : nm (sd (op b)) ≠ nm (sd b)) (p10_ : lv (sd b) ≤ lv (sd (op b))) (p11_ : en b = 0) (p12_ : en (op b) ≠ 2) (p13_ : fw (op b) = 0) (p14_ : ps (sd b) = 0) (p15_ : 1 ≤ lv (sd b)) (p16_ : 0 ≤ nL) (cL5 : pj_L5 sd op ed st lv nm inw bst om ps dl pd rp rv cl tk nL kd wy td wh) (cR : pj_R W nL kd wy wh) : pj_L5 sd op ed st lv nm inw bst om ps dl pd rp rv cl tk nL kd wy td (pu wh k 2) := by
  obtain ⟨hop, hed⟩ := hG
  unfold pj_L5 pj_R at *
  intro k0
  simp only [pu]
  have g0 := hop b
  have g1 := hop (wy k0)
  have g2 := hed b (wy k0)
  have cL5_0 := cL5 k
  have cL5_1 := cL5 k0
  have cR_0 := cR k0
  have f0 := p6_ k
  have f1 := p6_ k0
  clear p6_
  clear hop hed cL5 cR
  grind (splits := 24)

set_option maxHeartbeats 1000000 in
theorem pt_acb_L5o {W : Int → Prop} {sd : Int → Int} {op : Int → Int} {ed : Int → Int} {st : Int → Int} {lv : Int → Int} {nm : Int → Int} {tst : Int → Int} {ps : Int → Int} {en : Int → Int} {fw : Int → Int} {cl : Int → Int} {nL : Int} {kd : Int → Int} {wy : Int → Int} {wh : Int → Int} {b k : Int} (hG : pj_G W sd op ed) (p0_ : W b) (p1_ : 0 ≤ k) (p2_ : k < nL) (p3_ : wh k ≠ 2) (p4_ : kd k = 3) (p5_ : wy k = op b) (p6_ : ∀ j, 0 ≤ j → j < k → wy j = wy k → wh j ≠ 0) (p7_ : tst (sd b) = (ed b)) (p8_ : st (sd b) = 1) (p9_ : nm (sd (op b)) ≠ nm (sd b)) (p10_ : lv (sd b) ≤ lv (sd (op b))) (p11_ : en b = 0) (p12_ : en (op b) ≠ 2) (p13_ : fw (op b) = 0) (p14_ : ps (sd b) = 0) (p15_ : 1 ≤ lv (sd b)) (p16_ : 0 ≤ nL) (cL5o : pj_L5o sd op ed lv cl nL kd wy wh) (cR : pj_R W nL kd wy wh) : pj_L5o sd op ed lv cl nL kd wy (pu wh k 2) := by
  obtain ⟨hop, hed⟩ := hG
  unfold pj_L5o pj_R at *
  intro j0 k0
  simp only [pu]
  have g0 := hop b
  have g1 := hop (wy j0)
  have g2 := hop (wy k0)
  have g3 := hed b (wy j0)
  have g4 := hed b (wy k0)
  have g5 := hed (wy j0) (wy k0)
  have cL5o_0 := cL5o k k
  have cL5o_1 := cL5o k j0
  have cL5o_2 := cL5o k k0
  have cL5o_3 := cL5o j0 k
  have cL5o_4 := cL5o j0 j0
  have cL5o_5 := cL5o j0 k0
  have cL5o_6 := cL5o k0 k
  have cL5o_7 := cL5o k0 j0
  have cL5o_8 := cL5o k0 k0
  have cR_0 := cR j0
  have cR_1 := cR k0
  have f0 := p6_ k
  have f1 := p6_ j0
  have f2 := p6_ k0
  clear p6_
  clear hop hed cL5o cR
  grind (splits := 24)

set_option maxHeartbeats 1000000 in
theorem pt_acb_L5u {W : Int → Prop} {sd : Int → Int} {op : Int → Int} {ed : Int → Int} {st : Int → Int} {lv : Int → Int} {nm : Int → Int} {tst : Int → Int} {ps : Int → Int} {en : Int → Int} {fw : Int → Int} {nL : Int} {kd : Int → Int} {wy : Int → Int} {wh : Int → Int} {b k : Int} (hG : pj_G W sd op ed) (p0_ : W b) (p1_ : 0 ≤ k) (p2_ : k < nL) (p3_ : wh k ≠ 2) (p4_ : kd k = 3) (p5_ : wy k = op b) (p6_ : ∀ j, 0 ≤ j → j < k → wy j = wy k → wh j ≠ 0) (p7_ : tst (sd b) = (ed b)) (p8_ : st (sd b) = 1) (p9_ : nm (sd (op b)) ≠ nm (sd b)) (p10_ : lv (sd b) ≤ lv (sd (op b))) (p11_ : en b = 0) (p12_ : en (op b) ≠ 2) (p13_ : fw (op b) = 0) (p14_ : ps (sd b) = 0) (p15_ : 1 ≤ lv (sd b)) (p16_ : 0 ≤ nL) (cL5u : pj_L5u nL kd wy wh) (cR : pj_R W nL kd wy wh) : pj_L5u nL kd wy (pu wh k 2) := by
  obtain ⟨hop, hed⟩ := hG
  unfold pj_L5u pj_R at *
  intro j0 k0
  simp only [pu]
  have g0 := hop b
  have g1 := hop (wy j0)
  have g2 := hop (wy k0)
  have g3 := hed b (wy j0)
  have g4 := hed b (wy k0)
  have g5 := hed (wy j0) (wy k0)
  have cL5u_0 := cL5u k k
  have cL5u_1 := cL5u k j0
  have cL5u_2 := cL5u k k0
  have cL5u_3 := cL5u j0 k
  have cL5u_4 := cL5u j0 j0
  have cL5u_5 := cL5u j0 k0
  have cL5u_6 := cL5u k0 k
  have cL5u_7 := cL5u k0 j0
  have cL5u_8 := cL5u k0 k0
  have cR_0 := cR j0
  have cR_1 := cR k0
  have f0 := p6_ k
  have f1 := p6_ j0
  have f2 := p6_ k0
  clear p6_
  clear hop hed cL5u cR
  grind (splits := 24)

set_option maxHeartbeats 1000000 in
theorem pt_acb_L6 {W : Int → Prop} {sd : Int → Int} {op : Int → Int} {ed : Int → Int} {st : Int → Int} {lv : Int → Int} {nm : Int → Int} {tow : Int → Int} {tst : Int → Int} {om : Int → Int} {ps : Int → Int} {dl : Int → Int} {en : Int → Int} {fw : Int → Int} {cw : Int → Int} {tk : Int → Int} {nL : Int} {kd : Int → Int} {wy : Int → Int} {wh : Int → Int} {b k : Int} (hG : pj_G W sd op ed) (p0_ : W b) (p1_ : 0 ≤ k) (p2_ : k < nL) (p3_ : wh k ≠ 2) (p4_ : kd k = 3) (p5_ : wy k = op b) (p6_ : ∀ j, 0 ≤ j → j < k → wy j = wy k → wh j ≠ 0) (p7_ : tst (sd b) = (ed b)) (p8_ : st (sd b) = 1) (p9_ : nm (sd (op b)) ≠ nm (sd b)) (p10_ : lv (sd b) ≤ lv (sd (op b))) (p11_ : en b = 0) (p12_ : en (op b) ≠ 2) (p13_ : fw (op b) = 0) (p14_ : ps (sd b) = 0) (p15_ : 1 ≤ lv (sd b)) (p16_ : 0 ≤ nL) (cL6 : pj_L6 sd op ed st lv nm tow om ps dl cw tk nL kd wy wh) (cR : pj_R W nL kd wy wh) : pj_L6 sd op ed st lv nm tow om ps dl cw tk nL kd wy (pu wh k 2) := by
  obtain ⟨hop, hed⟩ := hG
  unfold pj_L6 pj_R at *
  intro k0
  simp only [pu]
  have g0 := hop b
  have g1 := hop (wy k0)
  have g2 := hed b (wy k0)
  have cL6_0 := cL6 k
  have cL6_1 := cL6 k0
  have cR_0 := cR k0
  have f0 := p6_ k
  have f1 := p6_ k0
  clear p6_
  clear hop hed cL6 cR
  grind (splits := 24)

set_option maxHeartbeats 1000000 in
theorem pt_acb_L6u {W : Int → Prop} {sd : Int → Int} {op : Int → Int} {ed : Int → Int} {st : Int → Int} {lv : Int → Int} {nm : Int → Int} {tst : Int → Int} {ps : Int → Int} {en : Int → Int} {fw : Int → Int} {nL : Int} {kd : Int → Int} {wy : Int → Int} {wh : Int → Int} {b k : Int} (hG : pj_G W sd op ed) (p0_ : W b) (p1_ : 0 ≤ k) (p2_ : k < nL) (p3_ : wh k ≠ 2) (p4_ : kd k = 3) (p5_ : wy k = op b) (p6_ : ∀ j, 0 ≤ j → j < k → wy j = wy k → wh j ≠ 0) (p7_ : tst (sd b) = (ed b)) (p8_ : st (sd b) = 1) (p9_ : nm (sd (op b)) ≠ nm (sd b)) (p10_ : lv (sd b) ≤ lv (sd (op b))) (p11_ : en b = 0) (p12_ : en (op b) ≠ 2) (p13_ : fw (op b) = 0) (p14_ : ps (sd b) = 0) (p15_ : 1 ≤ lv (sd b)) (p16_ : 0 ≤ nL) (cL6u : pj_L6u sd op nm nL kd wy wh) (cR : pj_R W nL kd wy wh) : pj_L6u sd op nm nL kd wy (pu wh k 2) := by
  obtain ⟨hop, hed⟩ := hG
  unfold pj_L6u pj_R at *
  intro j0 k0
  simp only [pu]
  have g0 := hop b
  have g1 := hop (wy j0)
  have g2 := hop (wy k0)
  have g3 := hed b (wy j0)
  have g4 := hed b (wy k0)
  have g5 := hed (wy j0) (wy k0)
  have cL6u_0 := cL6u k k
  have cL6u_1 := cL6u k j0
  have cL6u_2 := cL6u k k0
  have cL6u_3 := cL6u j0 k
  have cL6u_4 := cL6u j0 j0
  have cL6u_5 := cL6u j0 k0
  have cL6u_6 := cL6u k0 k
  have cL6u_7 := cL6u k0 j0
  have cL6u_8 := cL6u k0 k0
  have cR_0 := cR j0
  have cR_1 := cR k0
  have f0 := p6_ k
  have f1 := p6_ j0
  have f2 := p6_ k0
  clear p6_
  clear hop hed cL6u cR
  grind (splits := 24)

theorem pj_acb {W : Int → Prop} {sd op ed : Int → Int} {li : Int → Int → Prop} {st lv nm inw tow bst tst exp om ps dl dn af c0 en pd rp rv fw cl cw tk kd wy ll td ls wh : Int → Int} {nL : Int} {F F2 : Int → Prop} {fl fc : Int} {b k : Int} (hG : pj_G W sd op ed) (p0_ : W b) (p1_ : 0 ≤ k) (p2_ : k < nL) (p3_ : wh k ≠ 2) (p4_ : kd k = 3) (p5_ : wy k = op b) (p6_ : ∀ j, 0 ≤ j → j < k → wy j = wy k → wh j ≠ 0) (p7_ : tst (sd b) = (ed b)) (p8_ : st (sd b) = 1) (p9_ : nm (sd (op b)) ≠ nm (sd b)) (p10_ : lv (sd b) ≤ lv (sd (op b))) (p11_ : en b = 0) (p12_ : en (op b) ≠ 2) (p13_ : fw (op b) = 0) (p14_ : ps (sd b) = 0) (p15_ : 1 ≤ lv (sd b)) (p16_ : 0 ≤ nL) (h : pj_J W sd op ed li st lv nm inw tow bst tst exp om ps dl dn af c0 en pd rp rv fw cl cw tk nL kd wy ll td ls wh F fl fc) : pj_J W sd op ed li st lv nm inw tow bst (pu tst (sd b) (-1)) exp om ps dl dn af c0 en pd rp rv fw cl cw tk nL kd wy ll td ls (pu wh k 2) F fl fc := by
  obtain ⟨cR, cN0, cN1, cN1w, cER, cN1c, cN2, cN2e, cN2b, cN4e, cN4b, cN5, cN7, cN10, cN10e, cN13, cC1, cC2, cR3a, cE1, cU, cA1, cA2, cEC, cR3, cN11, cN12, cN3, cRJ, cFW, cPD, cCC, cCD, cRP, cRP1, cCR, cZ1, cZ0, cTK, cK2, cWH, cFI, cL0, cFC, cL0u, cOC, cCT, cL1, cL1e, cL1o, cL1b, cL1g, cL2, cL3, cL4, cAF, cRT, cCV, cL5, cL5o, cL5u, cL6, cL6u⟩ := h
  exact ⟨pt_acb_R hG p0_ p1_ p2_ p3_ p4_ p5_ p6_ p7_ p8_ p9_ p10_ p11_ p12_ p13_ p14_ p15_ p16_ cR, cN0, cN1, cN1w, cER, pt_acb_N1c hG p0_ p1_ p2_ p3_ p4_ p5_ p6_ p7_ p8_ p9_ p10_ p11_ p12_ p13_ p14_ p15_ p16_ cN1c cR, cN2, cN2e, cN2b, cN4e, cN4b, cN5, pt_acb_N7 hG p0_ p1_ p2_ p3_ p4_ p5_ p6_ p7_ p8_ p9_ p10_ p11_ p12_ p13_ p14_ p15_ p16_ cN7, cN10, cN10e, cN13, cC1, cC2, cR3a, pt_acb_E1 hG p0_ p1_ p2_ p3_ p4_ p5_ p6_ p7_ p8_ p9_ p10_ p11_ p12_ p13_ p14_ p15_ p16_ cE1, cU, cA1, cA2, pt_acb_EC hG p0_ p1_ p2_ p3_ p4_ p5_ p6_ p7_ p8_ p9_ p10_ p11_ p12_ p13_ p14_ p15_ p16_ cEC, cR3, pt_acb_N11 hG p0_ p1_ p2_ p3_ p4_ p5_ p6_ p7_ p8_ p9_ p10_ p11_ p12_ p13_ p14_ p15_ p16_ cN11, cN12, cN3, pt_acb_RJ hG p0_ p1_ p2_ p3_ p4_ p5_ p6_ p7_ p8_ p9_ p10_ p11_ p12_ p13_ p14_ p15_ p16_ cRJ, pt_acb_FW hG p0_ p1_ p2_ p3_ p4_ p5_ p6_ p7_ p8_ p9_ p10_ p11_ p12_ p13_ p14_ p15_ p16_ cFW, cPD, cCC, cCD, cRP, cRP1, cCR, cZ1, cZ0, cTK, cK2, pt_acb_WH hG p0_ p1_ p2_ p3_ p4_ p5_ p6_ p7_ p8_ p9_ p10_ p11_ p12_ p13_ p14_ p15_ p16_ cWH cR, pt_acb_FI hG p0_ p1_ p2_ p3_ p4_ p5_ p6_ p7_ p8_ p9_ p10_ p11_ p12_ p13_ p14_ p15_ p16_ cFI cR, pt_acb_L0 hG p0_ p1_ p2_ p3_ p4_ p5_ p6_ p7_ p8_ p9_ p10_ p11_ p12_ p13_ p14_ p15_ p16_ cL0 cR, pt_acb_FC hG p0_ p1_ p2_ p3_ p4_ p5_ p6_ p7_ p8_ p9_ p10_ p11_ p12_ p13_ p14_ p15_ p16_ cFC cR, pt_acb_L0u hG p0_ p1_ p2_ p3_ p4_ p5_ p6_ p7_ p8_ p9_ p10_ p11_ p12_ p13_ p14_ p15_ p16_ cL0u cR, pt_acb_OC hG p0_ p1_ p2_ p3_ p4_ p5_ p6_ p7_ p8_ p9_ p10_ p11_ p12_ p13_ p14_ p15_ p16_ cOC cR, pt_acb_CT hG p0_ p1_ p2_ p3_ p4_ p5_ p6_ p7_ p8_ p9_ p10_ p11_ p12_ p13_ p14_ p15_ p16_ cCT cR, pt_acb_L1 hG p0_ p1_ p2_ p3_ p4_ p5_ p6_ p7_ p8_ p9_ p10_ p11_ p12_ p13_ p14_ p15_ p16_ cL1 cR, pt_acb_L1e hG p0_ p1_ p2_ p3_ p4_ p5_ p6_ p7_ p8_ p9_ p10_ p11_ p12_ p13_ p14_ p15_ p16_ cL1e cR, pt_acb_L1o hG p0_ p1_ p2_ p3_ p4_ p5_ p6_ p7_ p8_ p9_ p10_ p11_ p12_ p13_ p14_ p15_ p16_ cL1o cR, pt_acb_L1b hG p0_ p1_ p2_ p3_ p4_ p5_ p6_ p7_ p8_ p9_ p10_ p11_ p12_ p13_ p14_ p15_ p16_ cL1b cR, pt_acb_L1g hG p0_ p1_ p2_ p3_ p4_ p5_ p6_ p7_ p8_ p9_ p10_ p11_ p12_ p13_ p14_ p15_ p16_ cL1g cR, pt_acb_L2 hG p0_ p1_ p2_ p3_ p4_ p5_ p6_ p7_ p8_ p9_ p10_ p11_ p12_ p13_ p14_ p15_ p16_ cR cCV cL3 cL4 cL2, pt_acb_L3 hG p0_ p1_ p2_ p3_ p4_ p5_ p6_ p7_ p8_ p9_ p10_ p11_ p12_ p13_ p14_ p15_ p16_ cR cCV cL3 cL4 cL2, pt_acb_L4 hG p0_ p1_ p2_ p3_ p4_ p5_ p6_ p7_ p8_ p9_ p10_ p11_ p12_ p13_ p14_ p15_ p16_ cR cCV cL3 cL4 cL2, pt_acb_AF hG p0_ p1_ p2_ p3_ p4_ p5_ p6_ p7_ p8_ p9_ p10_ p11_ p12_ p13_ p14_ p15_ p16_ cAF, pt_acb_RT hG p0_ p1_ p2_ p3_ p4_ p5_ p6_ p7_ p8_ p9_ p10_ p11_ p12_ p13_ p14_ p15_ p16_ cRT cR cCV cL2 cL4, pt_acb_CV hG p0_ p1_ p2_ p3_ p4_ p5_ p6_ p7_ p8_ p9_ p10_ p11_ p12_ p13_ p14_ p15_ p16_ cR cCV, pt_acb_L5 hG p0_ p1_ p2_ p3_ p4_ p5_ p6_ p7_ p8_ p9_ p10_ p11_ p12_ p13_ p14_ p15_ p16_ cL5 cR, pt_acb_L5o hG p0_ p1_ p2_ p3_ p4_ p5_ p6_ p7_ p8_ p9_ p10_ p11_ p12_ p13_ p14_ p15_ p16_ cL5o cR, pt_acb_L5u hG p0_ p1_ p2_ p3_ p4_ p5_ p6_ p7_ p8_ p9_ p10_ p11_ p12_ p13_ p14_ p15_ p16_ cL5u cR, pt_acb_L6 hG p0_ p1_ p2_ p3_ p4_ p5_ p6_ p7_ p8_ p9_ p10_ p11_ p12_ p13_ p14_ p15_ p16_ cL6 cR, pt_acb_L6u hG p0_ p1_ p2_ p3_ p4_ p5_ p6_ p7_ p8_ p9_ p10_ p11_ p12_ p13_ p14_ p15_ p16_ cL6u cR⟩

set_option maxHeartbeats 1000000 in
theorem pt_rca_R {W : Int → Prop} {sd : Int → Int} {op : Int → Int} {ed : Int → Int} {st : Int → Int} {lv : Int → Int} {nm : Int → Int} {inw : Int → Int} {tow : Int → Int} {bst : Int → Int} {om : Int → Int} {ps : Int → Int} {dl : Int → Int} {en : Int → Int} {pd : Int → Int} {nL : Int} {kd : Int → Int} {wy : Int → Int} {td : Int → Int} {wh : Int → Int} {b k : Int} (hG : pj_G W sd op ed) (p0_ : W b) (p1_ : 0 ≤ k) (p2_ : k < nL) (p3_ : wh k ≠ 2) (p4_ : kd k = 5) (p5_ : wy k = op b) (p6_ : ∀ j, 0 ≤ j → j < k → wy j = wy k → wh j ≠ 0) (p7_ : pd b = 1) (p8_ : om (sd (op b)) = (ed b)) (p9_ : inw (sd (op b)) = (ed b)) (p10_ : ps (sd (op b)) = 0) (p11_ : lv (sd (op b)) = lv (sd b)) (p12_ : nm (sd (op b)) = nm (sd b)) (p13_ : dl (sd (op b)) = lv (sd (op b))) (p14_ : st (sd (op b)) = 2) (p15_ : td k = bst (sd (op b))) (p16_ : st (sd b) = 1) (p17_ : en b = 1) (p18_ : om (sd b) ≠ (ed b)) (p19_ : 1 ≤ lv (sd b)) (p20_ : ps (sd b) = 0) (p21_ : td k ≠ -1) (p22_ : tow (sd (op b)) ≠ -1) (p23_ : 0 ≤ nL) (cR : pj_R W nL kd wy wh) : pj_R W nL kd wy (pu wh k 2) := by
  obtain ⟨hop, hed⟩ := hG
  unfold pj_R at *
  intro k0
  simp only [pu]
  have g0 := hop b
  have g1 := hop (wy k0)
  have g2 := hed b (wy k0)
  have cR_0 := cR k
  have cR_1 := cR k0
  have f0 := p6_ k
  have f1 := p6_ k0
  clear p6_
  clear hop hed cR
  grind (splits := 24)

set_option maxHeartbeats 1000000 in
theorem pt_rca_N1c {W : Int → Prop} {sd : Int → Int} {op : Int → Int} {ed : Int → Int} {st : Int → Int} {lv : Int → Int} {nm : Int → Int} {inw : Int → Int} {tow : Int → Int} {bst : Int → Int} {om : Int → Int} {ps : Int → Int} {dl : Int → Int} {en : Int → Int} {pd : Int → Int} {nL : Int} {kd : Int → Int} {wy : Int → Int} {td : Int → Int} {wh : Int → Int} {b k : Int} (hG : pj_G W sd op ed) (p0_ : W b) (p1_ : 0 ≤ k) (p2_ : k < nL) (p3_ : wh k ≠ 2) (p4_ : kd k = 5) (p5_ : wy k = op b) (p6_ : ∀ j, 0 ≤ j → j < k → wy j = wy k → wh j ≠ 0) (p7_ : pd b = 1) (p8_ : om (sd (op b)) = (ed b)) (p9_ : inw (sd (op b)) = (ed b)) (p10_ : ps (sd (op b)) = 0) (p11_ : lv (sd (op b)) = lv (sd b)) (p12_ : nm (sd (op b)) = nm (sd b)) (p13_ : dl (sd (op b)) = lv (sd (op b))) (p14_ : st (sd (op b)) = 2) (p15_ : td k = bst (sd (op b))) (p16_ : st (sd b) = 1) (p17_ : en b = 1) (p18_ : om (sd b) ≠ (ed b)) (p19_ : 1 ≤ lv (sd b)) (p20_ : ps (sd b) = 0) (p21_ : td k ≠ -1) (p22_ : tow (sd (op b)) ≠ -1) (p23_ : 0 ≤ nL) (cN1c : pj_N1c sd op st nL wy wh) (cR : pj_R W nL kd wy wh) : pj_N1c sd op st nL wy (pu wh k 2) := by
  obtain ⟨hop, hed⟩ := hG
  unfold pj_N1c pj_R at *
  intro k0
  simp only [pu]
  have g0 := hop b
  have g1 := hop (wy k0)
  have g2 := hed b (wy k0)
  have cN1c_0 := cN1c k
  have cN1c_1 := cN1c k0
  have cR_0 := cR k0
  have f0 := p6_ k
  have f1 := p6_ k0
  clear p6_
  clear hop hed cN1c cR
  grind (splits := 24)

set_option maxHeartbeats 1000000 in
theorem pt_rca_N4b {W : Int → Prop} {sd : Int → Int} {op : Int → Int} {ed : Int → Int} {st : Int → Int} {lv : Int → Int} {nm : Int → Int} {inw : Int → Int} {tow : Int → Int} {bst : Int → Int} {om : Int → Int} {ps : Int → Int} {dl : Int → Int} {en : Int → Int} {pd : Int → Int} {nL : Int} {kd : Int → Int} {wy : Int → Int} {td : Int → Int} {wh : Int → Int} {b k : Int} (hG : pj_G W sd op ed) (p0_ : W b) (p1_ : 0 ≤ k) (p2_ : k < nL) (p3_ : wh k ≠ 2) (p4_ : kd k = 5) (p5_ : wy k = op b) (p6_ : ∀ j, 0 ≤ j → j < k → wy j = wy k → wh j ≠ 0) (p7_ : pd b = 1) (p8_ : om (sd (op b)) = (ed b)) (p9_ : inw (sd (op b)) = (ed b)) (p10_ : ps (sd (op b)) = 0) (p11_ : lv (sd (op b)) = lv (sd b)) (p12_ : nm (sd (op b)) = nm (sd b)) (p13_ : dl (sd (op b)) = lv (sd (op b))) (p14_ : st (sd (op b)) = 2) (p15_ : td k = bst (sd (op b))) (p16_ : st (sd b) = 1) (p17_ : en b = 1) (p18_ : om (sd b) ≠ (ed b)) (p19_ : 1 ≤ lv (sd b)) (p20_ : ps (sd b) = 0) (p21_ : td k ≠ -1) (p22_ : tow (sd (op b)) ≠ -1) (p23_ : 0 ≤ nL) (cN4b : pj_N4b st lv nm inw tow bst om ps) : pj_N4b st lv nm inw (pu tow (sd b) (ed b)) (pu bst (sd b) (td k)) om ps := by
  obtain ⟨hop, hed⟩ := hG
  unfold pj_N4b at *
  intro n0
  simp only [pu]
  have g0 := hop b
  have cN4b_0 := cN4b (sd (op b))
  have cN4b_1 := cN4b n0
  have cN4b_2 := cN4b (sd b)
  have f0 := p6_ k
  clear p6_
  clear hop hed cN4b
  grind (splits := 24)

set_option maxHeartbeats 1000000 in
theorem pt_rca_N10 {W : Int → Prop} {sd : Int → Int} {op : Int → Int} {ed : Int → Int} {st : Int → Int} {lv : Int → Int} {nm : Int → Int} {inw : Int → Int} {tow : Int → Int} {bst : Int → Int} {om : Int → Int} {ps : Int → Int} {dl : Int → Int} {en : Int → Int} {pd : Int → Int} {nL : Int} {kd : Int → Int} {wy : Int → Int} {td : Int → Int} {wh : Int → Int} {b k : Int} (hG : pj_G W sd op ed) (p0_ : W b) (p1_ : 0 ≤ k) (p2_ : k < nL) (p3_ : wh k ≠ 2) (p4_ : kd k = 5) (p5_ : wy k = op b) (p6_ : ∀ j, 0 ≤ j → j < k → wy j = wy k → wh j ≠ 0) (p7_ : pd b = 1) (p8_ : om (sd (op b)) = (ed b)) (p9_ : inw (sd (op b)) = (ed b)) (p10_ : ps (sd (op b)) = 0) (p11_ : lv (sd (op b)) = lv (sd b)) (p12_ : nm (sd (op b)) = nm (sd b)) (p13_ : dl (sd (op b)) = lv (sd (op b))) (p14_ : st (sd (op b)) = 2) (p15_ : td k = bst (sd (op b))) (p16_ : st (sd b) = 1) (p17_ : en b = 1) (p18_ : om (sd b) ≠ (ed b)) (p19_ : 1 ≤ lv (sd b)) (p20_ : ps (sd b) = 0) (p21_ : td k ≠ -1) (p22_ : tow (sd (op b)) ≠ -1) (p23_ : 0 ≤ nL) (cN10 : pj_N10 tow bst) : pj_N10 (pu tow (sd b) (ed b)) (pu bst (sd b) (td k)) := by
  obtain ⟨hop, hed⟩ := hG
  unfold pj_N10 at *
  intro n0
  simp only [pu]
  have g0 := hop b
  have cN10_0 := cN10 (sd (op b))
  have cN10_1 := cN10 n0
  have cN10_2 := cN10 (sd b)
  have f0 := p6_ k
  clear p6_
  clear hop hed cN10
  grind (splits := 24)

set_option maxHeartbeats 1000000 in
theorem pt_rca_N10e {W : Int → Prop} {sd : Int → Int} {op : Int → Int} {ed : Int → Int} {st : Int → Int} {lv : Int → Int} {nm : Int → Int} {inw : Int → Int} {tow : Int → Int} {bst : Int → Int} {om : Int → Int} {ps : Int → Int} {dl : Int → Int} {en : Int → Int} {pd : Int → Int} {nL : Int} {kd : Int → Int} {wy : Int → Int} {td : Int → Int} {wh : Int → Int} {b k : Int} (hG : pj_G W sd op ed) (p0_ : W b) (p1_ : 0 ≤ k) (p2_ : k < nL) (p3_ : wh k ≠ 2) (p4_ : kd k = 5) (p5_ : wy k = op b) (p6_ : ∀ j, 0 ≤ j → j < k → wy j = wy k → wh j ≠ 0) (p7_ : pd b = 1) (p8_ : om (sd (op b)) = (ed b)) (p9_ : inw (sd (op b)) = (ed b)) (p10_ : ps (sd (op b)) = 0) (p11_ : lv (sd (op b)) = lv (sd b)) (p12_ : nm (sd (op b)) = nm (sd b)) (p13_ : dl (sd (op b)) = lv (sd (op b))) (p14_ : st (sd (op b)) = 2) (p15_ : td k = bst (sd (op b))) (p16_ : st (sd b) = 1) (p17_ : en b = 1) (p18_ : om (sd b) ≠ (ed b)) (p19_ : 1 ≤ lv (sd b)) (p20_ : ps (sd b) = 0) (p21_ : td k ≠ -1) (p22_ : tow (sd (op b)) ≠ -1) (p23_ : 0 ≤ nL) (cN10e : pj_N10e W sd ed tow) : pj_N10e W sd ed (pu tow (sd b) (ed b)) := by
  obtain ⟨hop, hed⟩ := hG
  unfold pj_N10e at *
  intro n0
  simp only [pu]
  have g0 := hop b
  have cN10e_0 := cN10e (sd (op b))
  have cN10e_1 := cN10e n0
  have cN10e_2 := cN10e (sd b)
  have f0 := p6_ k
  clear p6_
  clear hop hed cN10e
  grind (splits := 24)

set_option maxHeartbeats 1000000 in
theorem pt_rca_E1 {W : Int → Prop} {sd : Int → Int} {op : Int → Int} {ed : Int → Int} {st : Int → Int} {lv : Int → Int} {nm : Int → Int} {inw : Int → Int} {tow : Int → Int} {bst : Int → Int} {om : Int → Int} {ps : Int → Int} {dl : Int → Int} {en : Int → Int} {pd : Int → Int} {nL : Int} {kd : Int → Int} {wy : Int → Int} {ll : Int → Int} {td : Int → Int} {wh : Int → Int} {b k : Int} (hG : pj_G W sd op ed) (p0_ : W b) (p1_ : 0 ≤ k) (p2_ : k < nL) (p3_ : wh k ≠ 2) (p4_ : kd k = 5) (p5_ : wy k = op b) (p6_ : ∀ j, 0 ≤ j → j < k → wy j = wy k → wh j ≠ 0) (p7_ : pd b = 1) (p8_ : om (sd (op b)) = (ed b)) (p9_ : inw (sd (op b)) = (ed b)) (p10_ : ps (sd (op b)) = 0) (p11_ : lv (sd (op b)) = lv (sd b)) (p12_ : nm (sd (op b)) = nm (sd b)) (p13_ : dl (sd (op b)) = lv (sd (op b))) (p14_ : st (sd (op b)) = 2) (p15_ : td k = bst (sd (op b))) (p16_ : st (sd b) = 1) (p17_ : en b = 1) (p18_ : om (sd b) ≠ (ed b)) (p19_ : 1 ≤ lv (sd b)) (p20_ : ps (sd b) = 0) (p21_ : td k ≠ -1) (p22_ : tow (sd (op b)) ≠ -1) (p23_ : 0 ≤ nL) (cE1 : pj_E1 sd op lv dl nL kd wy ll wh) : pj_E1 sd op lv dl nL kd wy ll (pu wh k 2) := by
  obtain ⟨hop, hed⟩ := hG
  unfold pj_E1 at *
  intro n0
  simp only [pu]
  have g0 := hop b
  have cE1_0 := cE1 (sd (op b))
  have cE1_1 := cE1 n0
  have cE1_2 := cE1 (sd b)
  have f0 := p6_ k
  clear p6_
  clear hop hed cE1
  grind (splits := 24)

set_option maxHeartbeats 1000000 in
theorem pt_rca_EC {W : Int → Prop} {sd : Int → Int} {op : Int → Int} {ed : Int → Int} {st : Int → Int} {lv : Int → Int} {nm : Int → Int} {inw : Int → Int} {tow : Int → Int} {bst : Int → Int} {om : Int → Int} {ps : Int → Int} {dl : Int → Int} {en : Int → Int} {pd : Int → Int} {nL : Int} {kd : Int → Int} {wy : Int → Int} {td : Int → Int} {wh : Int → Int} {F : Int → Prop} {b k : Int} (hG : pj_G W sd op ed) (p0_ : W b) (p1_ : 0 ≤ k) (p2_ : k < nL) (p3_ : wh k ≠ 2) (p4_ : kd k = 5) (p5_ : wy k = op b) (p6_ : ∀ j, 0 ≤ j → j < k → wy j = wy k → wh j ≠ 0) (p7_ : pd b = 1) (p8_ : om (sd (op b)) = (ed b)) (p9_ : inw (sd (op b)) = (ed b)) (p10_ : ps (sd (op b)) = 0) (p11_ : lv (sd (op b)) = lv (sd b)) (p12_ : nm (sd (op b)) = nm (sd b)) (p13_ : dl (sd (op b)) = lv (sd (op b))) (p14_ : st (sd (op b)) = 2) (p15_ : td k = bst (sd (op b))) (p16_ : st (sd b) = 1) (p17_ : en b = 1) (p18_ : om (sd b) ≠ (ed b)) (p19_ : 1 ≤ lv (sd b)) (p20_ : ps (sd b) = 0) (p21_ : td k ≠ -1) (p22_ : tow (sd (op b)) ≠ -1) (p23_ : 0 ≤ nL) (cEC : pj_EC W sd op ed lv nm om ps dl nL kd wy wh F) : pj_EC W sd op ed lv nm om ps dl nL kd wy (pu wh k 2) F := by
  obtain ⟨hop, hed⟩ := hG
  unfold pj_EC at *
  intro w0
  simp only [pu]
  have g0 := hop b
  have g1 := hop w0
  have g2 := hed b w0
  have cEC_0 := cEC b
  have cEC_1 := cEC w0
  have cEC_2 := cEC (op w0)
  have f0 := p6_ k
  clear p6_
  clear hop hed cEC
  grind (splits := 24)

set_option maxHeartbeats 1000000 in
theorem pt_rca_R3 {W : Int → Prop} {sd : Int → Int} {op : Int → Int} {ed : Int → Int} {st : Int → Int} {lv : Int → Int} {nm : Int → Int} {inw : Int → Int} {tow : Int → Int} {bst : Int → Int} {om : Int → Int} {ps : Int → Int} {dl : Int → Int} {en : Int → Int} {pd : Int → Int} {nL : Int} {kd : Int → Int} {wy : Int → Int} {td : Int → Int} {wh : Int → Int} {b k : Int} (hG : pj_G W sd op ed) (p0_ : W b) (p1_ : 0 ≤ k) (p2_ : k < nL) (p3_ : wh k ≠ 2) (p4_ : kd k = 5) (p5_ : wy k = op b) (p6_ : ∀ j, 0 ≤ j → j < k → wy j = wy k → wh j ≠ 0) (p7_ : pd b = 1) (p8_ : om (sd (op b)) = (ed b)) (p9_ : inw (sd (op b)) = (ed b)) (p10_ : ps (sd (op b)) = 0) (p11_ : lv (sd (op b)) = lv (sd b)) (p12_ : nm (sd (op b)) = nm (sd b)) (p13_ : dl (sd (op b)) = lv (sd (op b))) (p14_ : st (sd (op b)) = 2) (p15_ : td k = bst (sd (op b))) (p16_ : st (sd b) = 1) (p17_ : en b = 1) (p18_ : om (sd b) ≠ (ed b)) (p19_ : 1 ≤ lv (sd b)) (p20_ : ps (sd b) = 0) (p21_ : td k ≠ -1) (p22_ : tow (sd (op b)) ≠ -1) (p23_ : 0 ≤ nL) (cR3 : pj_R3 W sd op ed st om pd) : pj_R3 W sd op ed st om (pu pd b 0) := by
  obtain ⟨hop, hed⟩ := hG
  unfold pj_R3 at *
  intro w0
  simp only [pu]
  have g0 := hop b
  have g1 := hop w0
  have g2 := hed b w0
  have cR3_0 := cR3 b
  have cR3_1 := cR3 w0
  have cR3_2 := cR3 (op w0)
  have f0 := p6_ k
  clear p6_
  clear hop hed cR3
  grind (splits := 24)

set_option maxHeartbeats 1000000 in
theorem pt_rca_N11 {W : Int → Prop} {sd : Int → Int} {op : Int → Int} {ed : Int → Int} {st : Int → Int} {lv : Int → Int} {nm : Int → Int} {inw : Int → Int} {tow : Int → Int} {bst : Int → Int} {tst : Int → Int} {om : Int → Int} {ps : Int → Int} {dl : Int → Int} {en : Int → Int} {pd : Int → Int} {nL : Int} {kd : Int → Int} {wy : Int → Int} {td : Int → Int} {wh : Int → Int} {b k : Int} (hG : pj_G W sd op ed) (p0_ : W b) (p1_ : 0 ≤ k) (p2_ : k < nL) (p3_ : wh k ≠ 2) (p4_ : kd k = 5) (p5_ : wy k = op b) (p6_ : ∀ j, 0 ≤ j → j < k → wy j = wy k → wh j ≠ 0) (p7_ : pd b = 1) (p8_ : om (sd (op b)) = (ed b)) (p9_ : inw (sd (op b)) = (ed b)) (p10_ : ps (sd (op b)) = 0) (p11_ : lv (sd (op b)) = lv (sd b)) (p12_ : nm (sd (op b)) = nm (sd b)) (p13_ : dl (sd (op b)) = lv (sd (op b))) (p14_ : st (sd (op b)) = 2) (p15_ : td k = bst (sd (op b))) (p16_ : st (sd b) = 1) (p17_ : en b = 1) (p18_ : om (sd b) ≠ (ed b)) (p19_ : 1 ≤ lv (sd b)) (p20_ : ps (sd b) = 0) (p21_ : td k ≠ -1) (p22_ : tow (sd (op b)) ≠ -1) (p23_ : 0 ≤ nL) (cN11 : pj_N11 W sd op ed lv nm tow tst ps en) : pj_N11 W sd op ed lv nm (pu tow (sd b) (ed b)) tst ps en := by
  obtain ⟨hop, hed⟩ := hG
  unfold pj_N11 at *
  intro w0
  simp only [pu]
  have g0 := hop b
  have g1 := hop w0
  have g2 := hed b w0
  have cN11_0 := cN11 b
  have cN11_1 := cN11 w0
  have cN11_2 := cN11 (op w0)
  have f0 := p6_ k
  clear p6_
  clear hop hed cN11
  grind (splits := 24)

set_option maxHeartbeats 1000000 in
theorem pt_rca_N12 {W : Int → Prop} {sd : Int → Int} {op : Int → Int} {ed : Int → Int} {st : Int → Int} {lv : Int → Int} {nm : Int → Int} {inw : Int → Int} {tow : Int → Int} {bst : Int → Int} {om : Int → Int} {ps : Int → Int} {dl : Int → Int} {en : Int → Int} {pd : Int → Int} {nL : Int} {kd : Int → Int} {wy : Int → Int} {td : Int → Int} {wh : Int → Int} {b k : Int} (hG : pj_G W sd op ed) (p0_ : W b) (p1_ : 0 ≤ k) (p2_ : k < nL) (p3_ : wh k ≠ 2) (p4_ : kd k = 5) (p5_ : wy k = op b) (p6_ : ∀ j, 0 ≤ j → j < k → wy j = wy k → wh j ≠ 0) (p7_ : pd b = 1) (p8_ : om (sd (op b)) = (ed b)) (p9_ : inw (sd (op b)) = (ed b)) (p10_ : ps (sd (op b)) = 0) (p11_ : lv (sd (op b)) = lv (sd b)) (p12_ : nm (sd (op b)) = nm (sd b)) (p13_ : dl (sd (op b)) = lv (sd (op b))) (p14_ : st (sd (op b)) = 2) (p15_ : td k = bst (sd (op b))) (p16_ : st (sd b) = 1) (p17_ : en b = 1) (p18_ : om (sd b) ≠ (ed b)) (p19_ : 1 ≤ lv (sd b)) (p20_ : ps (sd b) = 0) (p21_ : td k ≠ -1) (p22_ : tow (sd (op b)) ≠ -1) (p23_ : 0 ≤ nL) (cN12 : pj_N12 W sd op ed st lv nm inw tow om ps dl en) : pj_N12 W sd op ed st lv nm inw (pu tow (sd b) (ed b)) om ps dl en := by
  obtain ⟨hop, hed⟩ := hG
  unfold pj_N12 at *
  intro w0
  simp only [pu]
  have g0 := hop b
  have g1 := hop w0
  have g2 := hed b w0
  have cN12_0 := cN12 b
  have cN12_1 := cN12 w0
  have cN12_2 := cN12 (op w0)
  have f0 := p6_ k
  clear p6_
  clear hop hed cN12
  grind (splits := 24)

set_option maxHeartbeats 1000000 in
theorem pt_rca_PD {W : Int → Prop} {sd : Int → Int} {op : Int → Int} {ed : Int → Int} {st : Int → Int} {lv : Int → Int} {nm : Int → Int} {inw : Int → Int} {tow : Int → Int} {bst : Int → Int} {om : Int → Int} {ps : Int → Int} {dl : Int → Int} {en : Int → Int} {pd : Int → Int} {nL : Int} {kd : Int → Int} {wy : Int → Int} {td : Int → Int} {wh : Int → Int} {b k : Int} (hG : pj_G W sd op ed) (p0_ : W b) (p1_ : 0 ≤ k) (p2_ : k < nL) (p3_ : wh k ≠ 2) (p4_ : kd k = 5) (p5_ : wy k = op b) (p6_ : ∀ j, 0 ≤ j → j < k → wy j = wy k → wh j ≠ 0) (p7_ : pd b = 1) (p8_ : om (sd (op b)) = (ed b)) (p9_ : inw (sd (op b)) = (ed b)) (p10_ : ps (sd (op b)) = 0) (p11_ : lv (sd (op b)) = lv (sd b)) (p12_ : nm (sd (op b)) = nm (sd b)) (p13_ : dl (sd (op b)) = lv (sd (op b))) (p14_ : st (sd (op b)) = 2) (p15_ : td k = bst (sd (op b))) (p16_ : st (sd b) = 1) (p17_ : en b = 1) (p18_ : om (sd b) ≠ (ed b)) (p19_ : 1 ≤ lv (sd b)) (p20_ : ps (sd b) = 0) (p21_ : td k ≠ -1) (p22_ : tow (sd (op b)) ≠ -1) (p23_ : 0 ≤ nL) (cPD : pj_PD W sd op ed st om en pd) : pj_PD W sd op ed st om en (pu pd b 0) := by
  obtain ⟨hop, hed⟩ := hG
  unfold pj_PD at *
  intro w0
  simp only [pu]
  have g0 := hop b
  have g1 := hop w0
  have g2 := hed b w0
  have cPD_0 := cPD b
  have cPD_1 := cPD w0
  have cPD_2 := cPD (op w0)
  have f0 := p6_ k
  clear p6_
  clear hop hed cPD
  grind (splits := 24)

set_option maxHeartbeats 1000000 in
theorem pt_rca_RP {W : Int → Prop} {sd : Int → Int} {op : Int → Int} {ed : Int → Int} {st : Int → Int} {lv : Int → Int} {nm : Int → Int} {inw : Int → Int} {tow : Int → Int} {bst : Int → Int} {om : Int → Int} {ps : Int → Int} {dl : Int → Int} {en : Int → Int} {pd : Int → Int} {rp : Int → Int} {rv : Int → Int} {nL : Int} {kd : Int → Int} {wy : Int → Int} {td : Int → Int} {wh : Int → Int} {b k : Int} (hG : pj_G W sd op ed) (p0_ : W b) (p1_ : 0 ≤ k) (p2_ : k < nL) (p3_ : wh k ≠ 2) (p4_ : kd k = 5) (p5_ : wy k = op b) (p6_ : ∀ j, 0 ≤ j → j < k → wy j = wy k → wh j ≠ 0) (p7_ : pd b = 1) (p8_ : om (sd (op b)) = (ed b)) (p9_ : inw (sd (op b)) = (ed b)) (p10_ : ps (sd (op b)) = 0) (p11_ : lv (sd (op b)) = lv (sd b)) (p12_ : nm (sd (op b)) = nm (sd b)) (p13_ : dl (sd (op b)) = lv (sd (op b))) (p14_ : st (sd (op b)) = 2) (p15_ : td k = bst (sd (op b))) (p16_ : st (sd b) = 1) (p17_ : en b = 1) (p18_ : om (sd b) ≠ (ed b)) (p19_ : 1 ≤ lv (sd b)) (p20_ : ps (sd b) = 0) (p21_ : td k ≠ -1) (p22_ : tow (sd (op b)) ≠ -1) (p23_ : 0 ≤ nL) (cRP : pj_RP W sd ed st lv nm bst rp rv) : pj_RP W sd ed st lv nm (pu bst (sd b) (td k)) rp rv := by
  obtain ⟨hop, hed⟩ := hG
  unfold pj_RP at *
  intro w0
  simp only [pu]
  have g0 := hop b
  have g1 := hop w0
  have g2 := hed b w0
  have cRP_0 := cRP b
  have cRP_1 := cRP w0
  have cRP_2 := cRP (op w0)
  have f0 := p6_ k
  clear p6_
  clear hop hed cRP
  grind (splits := 24)

set_option maxHeartbeats 1000000 in
theorem pt_rca_WH {W : Int → Prop} {sd : Int → Int} {op : Int → Int} {ed : Int → Int} {st : Int → Int} {lv : Int → Int} {nm : Int → Int} {inw : Int → Int} {tow : Int → Int} {bst : Int → Int} {om : Int → Int} {ps : Int → Int} {dl : Int → Int} {en : Int → Int} {pd : Int → Int} {nL : Int} {kd : Int → Int} {wy : Int → Int} {td : Int → Int} {wh : Int → Int} {b k : Int} (hG : pj_G W sd op ed) (p0_ : W b) (p1_ : 0 ≤ k) (p2_ : k < nL) (p3_ : wh k ≠ 2) (p4_ : kd k = 5) (p5_ : wy k = op b) (p6_ : ∀ j, 0 ≤ j → j < k → wy j = wy k → wh j ≠ 0) (p7_ : pd b = 1) (p8_ : om (sd (op b)) = (ed b)) (p9_ : inw (sd (op b)) = (ed b)) (p10_ : ps (sd (op b)) = 0) (p11_ : lv (sd (op b)) = lv (sd b)) (p12_ : nm (sd (op b)) = nm (sd b)) (p13_ : dl (sd (op b)) = lv (sd (op b))) (p14_ : st (sd (op b)) = 2) (p15_ : td k = bst (sd (op b))) (p16_ : st (sd b) = 1) (p17_ : en b = 1) (p18_ : om (sd b) ≠ (ed b)) (p19_ : 1 ≤ lv (sd b)) (p20_ : ps (sd b) = 0) (p21_ : td k ≠ -1) (p22_ : tow (sd (op b)) ≠ -1) (p23_ : 0 ≤ nL) (cWH : pj_WH nL kd wh) (cR : pj_R W nL kd wy wh) : pj_WH nL kd (pu wh k 2) := by
  obtain ⟨hop, hed⟩ := hG
  unfold pj_WH pj_R at *
  intro k0
  simp only [pu]
  have g0 := hop b
  have g1 := hop (wy k0)
  have g2 := hed b (wy k0)
  have cWH_0 := cWH k
  have cWH_1 := cWH k0
  have cR_0 := cR k0
  have f0 := p6_ k
  have f1 := p6_ k0
  clear p6_
  clear hop hed cWH cR
  grind (splits := 24)

set_option maxHeartbeats 1000000 in
theorem pt_rca_FI {W : Int → Prop} {sd : Int → Int} {op : Int → Int} {ed : Int → Int} {st : Int → Int} {lv : Int → Int} {nm : Int → Int} {inw : Int → Int} {tow : Int → Int} {bst : Int → Int} {om : Int → Int} {ps : Int → Int} {dl : Int → Int} {en : Int → Int} {pd : Int → Int} {nL : Int} {kd : Int → Int} {wy : Int → Int} {td : Int → Int} {wh : Int → Int} {b k : Int} (hG : pj_G W sd op ed) (p0_ : W b) (p1_ : 0 ≤ k) (p2_ : k < nL) (p3_ : wh k ≠ 2) (p4_ : kd k = 5) (p5_ : wy k = op b) (p6_ : ∀ j, 0 ≤ j → j < k → wy j = wy k → wh j ≠ 0) (p7_ : pd b = 1) (p8_ : om (sd (op b)) = (ed b)) (p9_ : inw (sd (op b)) = (ed b)) (p10_ : ps (sd (op b)) = 0) (p11_ : lv (sd (op b)) = lv (sd b)) (p12_ : nm (sd (op b)) = nm (sd b)) (p13_ : dl (sd (op b)) = lv (sd (op b))) (p14_ : st (sd (op b)) = 2) (p15_ : td k = bst (sd (op b))) (p16_ : st (sd b) = 1) (p17_ : en b = 1) (p18_ : om (sd b) ≠ (ed b)) (p19_ : 1 ≤ lv (sd b)) (p20_ : ps (sd b) = 0) (p21_ : td k ≠ -1) (p22_ : tow (sd (op b)) ≠ -1) (p23_ : 0 ≤ nL) (cFI : pj_FI nL wy wh) (cR : pj_R W nL kd wy wh) : pj_FI nL wy (pu wh k 2) := by
  obtain ⟨hop, hed⟩ := hG
  unfold pj_FI pj_R at *
  intro j0 k0
  simp only [pu]
  have g0 := hop b
  have g1 := hop (wy j0)
  have g2 := hop (wy k0)
  have g3 := hed b (wy j0)
  have g4 := hed b (wy k0)
  have g5 := hed (wy j0) (wy k0)
  have cFI_0 := cFI k k
  have cFI_1 := cFI k j0
  have cFI_2 := cFI k k0
  have cFI_3 := cFI j0 k
  have cFI_4 := cFI j0 j0
  have cFI_5 := cFI j0 k0
  have cFI_6 := cFI k0 k
  have cFI_7 := cFI k0 j0
  have cFI_8 := cFI k0 k0
  have cR_0 := cR j0
  have cR_1 := cR k0
  have f0 := p6_ k
  have f1 := p6_ j0
  have f2 := p6_ k0
  clear p6_
  clear hop hed cFI cR
  grind (splits := 24)

set_option maxHeartbeats 1000000 in
theorem pt_rca_L0 {W : Int → Prop} {sd : Int → Int} {op : Int → Int} {ed : Int → Int} {st : Int → Int} {lv : Int → Int} {nm : Int → Int} {inw : Int → Int} {tow : Int → Int} {bst : Int → Int} {om : Int → Int} {ps : Int → Int} {dl : Int → Int} {c0 : Int → Int} {en : Int → Int} {pd : Int → Int} {cw : Int → Int} {nL : Int} {kd : Int → Int} {wy : Int → Int} {ll : Int → Int} {td : Int → Int} {wh : Int → Int} {b k : Int} (hG : pj_G W sd op ed) (p0_ : W b) (p1_ : 0 ≤ k) (p2_ : k < nL) (p3_ : wh k ≠ 2) (p4_ : kd k = 5) (p5_ : wy k = op b) (p6_ : ∀ j, 0 ≤ j → j < k → wy j = wy k → wh j ≠ 0) (p7_ : pd b = 1) (p8_ : om (sd (op b)) = (ed b)) (p9_ : inw (sd (op b)) = (ed b)) (p10_ : ps (sd (op b)) = 0) (p11_ : lv (sd (op b)) = lv (sd b)) (p12_ : nm (sd (op b)) = nm (sd b)) (p13_ : dl (sd (op b)) = lv (sd (op b))) (p14_ : st (sd (op b)) = 2) (p15_ : td k = bst (sd (op b))) (p16_ : st (sd b) = 1) (p17_ : en b = 1) (p18_ : om (sd b) ≠ (ed b)) (p19_ : 1 ≤ lv (sd b)) (p20_ : ps (sd b) = 0) (p21_ : td k ≠ -1) (p22_ : tow (sd (op b)) ≠ -1) (p23_ : 0 ≤ nL) (cL0 : pj_L0 sd op ed lv nm om ps dl c0 en cw nL kd wy ll wh) (cR : pj_R W nL kd wy wh) : pj_L0 sd op ed lv nm om ps dl c0 en cw nL kd wy ll (pu wh k 2) := by
  obtain ⟨hop, hed⟩ := hG
  unfold pj_L0 pj_R at *
  intro k0
  simp only [pu]
  have g0 := hop b
  have g1 := hop (wy k0)
  have g2 := hed b (wy k0)
  have cL0_0 := cL0 k
  have cL0_1 := cL0 k0
  have cR_0 := cR k0
  have f0 := p6_ k
  have f1 := p6_ k0
  clear p6_
  clear hop hed cL0 cR
  grind (splits := 24)

set_option maxHeartbeats 1000000 in
theorem pt_rca_FC {W : Int → Prop} {sd : Int → Int} {op : Int → Int} {ed : Int → Int} {st : Int → Int} {lv : Int → Int} {nm : Int → Int} {inw : Int → Int} {tow : Int → Int} {bst : Int → Int} {om : Int → Int} {ps : Int → Int} {dl : Int → Int} {en : Int → Int} {pd : Int → Int} {nL : Int} {kd : Int → Int} {wy : Int → Int} {td : Int → Int} {wh : Int → Int} {F : Int → Prop} {b k : Int} (hG : pj_G W sd op ed) (p0_ : W b) (p1_ : 0 ≤ k) (p2_ : k < nL) (p3_ : wh k ≠ 2) (p4_ : kd k = 5) (p5_ : wy k = op b) (p6_ : ∀ j, 0 ≤ j → j < k → wy j = wy k → wh j ≠ 0) (p7_ : pd b = 1) (p8_ : om (sd (op b)) = (ed b)) (p9_ : inw (sd (op b)) = (ed b)) (p10_ : ps (sd (op b)) = 0) (p11_ : lv (sd (op b)) = lv (sd b)) (p12_ : nm (sd (op b)) = nm (sd b)) (p13_ : dl (sd (op b)) = lv (sd (op b))) (p14_ : st (sd (op b)) = 2) (p15_ : td k = bst (sd (op b))) (p16_ : st (sd b) = 1) (p17_ : en b = 1) (p18_ : om (sd b) ≠ (ed b)) (p19_ : 1 ≤ lv (sd b)) (p20_ : ps (sd b) = 0) (p21_ : td k ≠ -1) (p22_ : tow (sd (op b)) ≠ -1) (p23_ : 0 ≤ nL) (cFC : pj_FC op nL kd wy wh F) (cR : pj_R W nL kd wy wh) : pj_FC op nL kd wy (pu wh k 2) F := by
  obtain ⟨hop, hed⟩ := hG
  unfold pj_FC pj_R at *
  intro k0
  simp only [pu]
  have g0 := hop b
  have g1 := hop (wy k0)
  have g2 := hed b (wy k0)
  have cFC_0 := cFC k
  have cFC_1 := cFC k0
  have cR_0 := cR k0
  have f0 := p6_ k
  have f1 := p6_ k0
  clear p6_
  clear hop hed cFC cR
  grind (splits := 24)

set_option maxHeartbeats 1000000 in
theorem pt_rca_L0u {W : Int → Prop} {sd : Int → Int} {op : Int → Int} {ed : Int → Int} {st : Int → Int} {lv : Int → Int} {nm : Int → Int} {inw : Int → Int} {tow : Int → Int} {bst : Int → Int} {om : Int → Int} {ps : Int → Int} {dl : Int → Int} {en : Int → Int} {pd : Int → Int} {nL : Int} {kd : Int → Int} {wy : Int → Int} {td : Int → Int} {wh : Int → Int} {b k : Int} (hG : pj_G W sd op ed) (p0_ : W b) (p1_ : 0 ≤ k) (p2_ : k < nL) (p3_ : wh k ≠ 2) (p4_ : kd k = 5) (p5_ : wy k = op b) (p6_ : ∀ j, 0 ≤ j → j < k → wy j = wy k → wh j ≠ 0) (p7_ : pd b = 1) (p8_ : om (sd (op b)) = (ed b)) (p9_ : inw (sd (op b)) = (ed b)) (p10_ : ps (sd (op b)) = 0) (p11_ : lv (sd (op b)) = lv (sd b)) (p12_ : nm (sd (op b)) = nm (sd b)) (p13_ : dl (sd (op b)) = lv (sd (op b))) (p14_ : st (sd (op b)) = 2) (p15_ : td k = bst (sd (op b))) (p16_ : st (sd b) = 1) (p17_ : en b = 1) (p18_ : om (sd b) ≠ (ed b)) (p19_ : 1 ≤ lv (sd b)) (p20_ : ps (sd b) = 0) (p21_ : td k ≠ -1) (p22_ : tow (sd (op b)) ≠ -1) (p23_ : 0 ≤ nL) (cL0u : pj_L0u nL kd wy wh) (cR : pj_R W nL kd wy wh) : pj_L0u nL kd wy (pu wh k 2) := by
  obtain ⟨hop, hed⟩ := hG
  unfold pj_L0u pj_R at *
  intro j0 k0
  simp only [pu]
  have g0 := hop b
  have g1 := hop (wy j0)
  have g2 := hop (wy k0)
  have g3 := hed b (wy j0)
  have g4 := hed b (wy k0)
  have g5 := hed (wy j0) (wy k0)
  have cL0u_0 := cL0u k k
  have cL0u_1 := cL0u k j0
  have cL0u_2 := cL0u k k0
  have cL0u_3 := cL0u j0 k
  have cL0u_4 := cL0u j0 j0
  have cL0u_5 := cL0u j0 k0
  have cL0u_6 := cL0u k0 k
  have cL0u_7 := cL0u k0 j0
  have cL0u_8 := cL0u k0 k0
  have cR_0 := cR j0
  have cR_1 := cR k0
  have f0 := p6_ k
  have f1 := p6_ j0
  have f2 := p6_ k0
  clear p6_
  clear hop hed cL0u cR
  grind (splits := 24)

set_option maxHeartbeats 1000000 in
theorem pt_rca_OC {W : Int → Prop} {sd : Int → Int} {op : Int → Int} {ed : Int → Int} {st : Int → Int} {lv : Int → Int} {nm : Int → Int} {inw : Int → Int} {tow : Int → Int} {bst : Int → Int} {om : Int → Int} {ps : Int → Int} {dl : Int → Int} {en : Int → Int} {pd : Int → Int} {nL : Int} {kd : Int → Int} {wy : Int → Int} {td : Int → Int} {wh : Int → Int} {b k : Int} (hG : pj_G W sd op ed) (p0_ : W b) (p1_ : 0 ≤ k) (p2_ : k < nL) (p3_ : wh k ≠ 2) (p4_ : kd k = 5) (p5_ : wy k = op b) (p6_ : ∀ j, 0 ≤ j → j < k → wy j = wy k → wh j ≠ 0) (p7_ : pd b = 1) (p8_ : om (sd (op b)) = (ed b)) (p9_ : inw (sd (op b)) = (ed b)) (p10_ : ps (sd (op b)) = 0) (p11_ : lv (sd (op b)) = lv (sd b)) (p12_ : nm (sd (op b)) = nm (sd b)) (p13_ : dl (sd (op b)) = lv (sd (op b))) (p14_ : st (sd (op b)) = 2) (p15_ : td k = bst (sd (op b))) (p16_ : st (sd b) = 1) (p17_ : en b = 1) (p18_ : om (sd b) ≠ (ed b)) (p19_ : 1 ≤ lv (sd b)) (p20_ : ps (sd b) = 0) (p21_ : td k ≠ -1) (p22_ : tow (sd (op b)) ≠ -1) (p23_ : 0 ≤ nL) (cOC : pj_OC nL kd wy wh) (cR : pj_R W nL kd wy wh) : pj_OC nL kd wy (pu wh k 2) := by
  obtain ⟨hop, hed⟩ := hG
  unfold pj_OC pj_R at *
  intro j0 k0
  simp only [pu]
  have g0 := hop b
  have g1 := hop (wy j0)
  have g2 := hop (wy k0)
  have g3 := hed b (wy j0)
  have g4 := hed b (wy k0)
  have g5 := hed (wy j0) (wy k0)
  have cOC_0 := cOC k k
  have cOC_1 := cOC k j0
  have cOC_2 := cOC k k0
  have cOC_3 := cOC j0 k
  have cOC_4 := cOC j0 j0
  have cOC_5 := cOC j0 k0
  have cOC_6 := cOC k0 k
  have cOC_7 := cOC k0 j0
  have cOC_8 := cOC k0 k0
  have cR_0 := cR j0
  have cR_1 := cR k0
  have f0 := p6_ k
  have f1 := p6_ j0
  have f2 := p6_ k0
  clear p6_
  clear hop hed cOC cR
  grind (splits := 24)

set_option maxHeartbeats 1000000 in
theorem pt_rca_CT {W : Int → Prop} {sd : Int → Int} {op : Int → Int} {ed : Int → Int} {st : Int → Int} {lv : Int → Int} {nm : Int → Int} {inw : Int → Int} {tow : Int → Int} {bst : Int → Int} {om : Int → Int} {ps : Int → Int} {dl : Int → Int} {en : Int → Int} {pd : Int → Int} {nL : Int} {kd : Int → Int} {wy : Int → Int} {td : Int → Int} {wh : Int → Int} {b k : Int} (hG : pj_G W sd op ed) (p0_ : W b) (p1_ : 0 ≤ k) (p2_ : k < nL) (p3_ : wh k ≠ 2) (p4_ : kd k = 5) (p5_ : wy k = op b) (p6_ : ∀ j, 0 ≤ j → j < k → wy j = wy k → wh j ≠ 0) (p7_ : pd b = 1) (p8_ : om (sd (op b)) = (ed b)) (p9_ : inw (sd (op b)) = (ed b)) (p10_ : ps (sd (op b)) = 0) (p11_ : lv (sd (op b)) = lv (sd b)) (p12_ : nm (sd (op b)) = nm (sd b)) (p13_ : dl (sd (op b)) = lv (sd (op b))) (p14_ : st (sd (op b)) = 2) (p15_ : td k = bst (sd (op b))) (p16_ : st (sd b) = 1) (p17_ : en b = 1) (p18_ : om (sd b) ≠ (ed b)) (p19_ : 1 ≤ lv (sd b)) (p20_ : ps (sd b) = 0) (p21_ : td k ≠ -1) (p22_ : tow (sd (op b)) ≠ -1) (p23_ : 0 ≤ nL) (cCT : pj_CT nL kd wy wh) (cR : pj_R W nL kd wy wh) : pj_CT nL kd wy (pu wh k 2) := by
  obtain ⟨hop, hed⟩ := hG
  unfold pj_CT pj_R at *
  intro j0 k0
  simp only [pu]
  have g0 := hop b
  have g1 := hop (wy j0)
  have g2 := hop (wy k0)
  have g3 := hed b (wy j0)
  have g4 := hed b (wy k0)
  have g5 := hed (wy j0) (wy k0)
  have cCT_0 := cCT k k
  have cCT_1 := cCT k j0
  have cCT_2 := cCT k k0
  have cCT_3 := cCT j0 k
  have cCT_4 := cCT j0 j0
  have cCT_5 := cCT j0 k0
  have cCT_6 := cCT k0 k
  have cCT_7 := cCT k0 j0
  have cCT_8 := cCT k0 k0
  have cR_0 := cR j0
  have cR_1 := cR k0
  have f0 := p6_ k
  have f1 := p6_ j0
  have f2 := p6_ k0
  clear p6_
  clear hop hed cCT cR
  grind (splits := 24)

set_option maxHeartbeats 1000000 in
theorem pt_rca_L1 {W : Int → Prop} {sd : Int → Int} {op : Int → Int} {ed : Int → Int} {st : Int → Int} {lv : Int → Int} {nm : Int → Int} {inw : Int → Int} {tow : Int → Int} {bst : Int → Int} {om : Int → Int} {ps : Int → Int} {dl : Int → Int} {en : Int → Int} {pd : Int → Int} {cl : Int → Int} {nL : Int} {kd : Int → Int} {wy : Int → Int} {ll : Int → Int} {td : Int → Int} {ls : Int → Int} {wh : Int → Int} {b k : Int} (hG : pj_G W sd op ed) (p0_ : W b) (p1_ : 0 ≤ k) (p2_ : k < nL) (p3_ : wh k ≠ 2) (p4_ : kd k = 5) (p5_ : wy k = op b) (p6_ : ∀ j, 0 ≤ j → j < k → wy j = wy k → wh j ≠ 0) (p7_ : pd b = 1) (p8_ : om (sd (op b)) = (ed b)) (p9_ : inw (sd (op b)) = (ed b)) (p10_ : ps (sd (op b)) = 0) (p11_ : lv (sd (op b)) = lv (sd b)) (p12_ : nm (sd (op b)) = nm (sd b)) (p13_ : dl (sd (op b)) = lv (sd (op b))) (p14_ : st (sd (op b)) = 2) (p15_ : td k = bst (sd (op b))) (p16_ : st (sd b) = 1) (p17_ : en b = 1) (p18_ : om (sd b) ≠ (ed b)) (p19_ : 1 ≤ lv (sd b)) (p20_ : ps (sd b) = 0) (p21_ : td k ≠ -1) (p22_ : tow (sd (op b)) ≠ -1) (p23_ : 0 ≤ nL) (cL1 : pj_L1 sd op ed st lv om dl en cl nL kd wy ll td ls wh) (cR : pj_R W nL kd wy wh) : pj_L1 sd op ed st lv om dl en cl nL kd wy ll td ls (pu wh k 2) := by
  obtain ⟨hop, hed⟩ := hG
  unfold pj_L1 pj_R at *
  intro k0
  simp only [pu]
  have g0 := hop b
  have g1 := hop (wy k0)
  have g2 := hed b (wy k0)
  have cL1_0 := cL1 k
  have cL1_1 := cL1 k0
  have cR_0 := cR k0
  have f0 := p6_ k
  have f1 := p6_ k0
  clear p6_
  clear hop hed cL1 cR
  grind (splits := 24)

set_option maxHeartbeats 1000000 in
theorem pt_rca_L1e {W : Int → Prop} {sd : Int → Int} {op : Int → Int} {ed : Int → Int} {st : Int → Int} {lv : Int → Int} {nm : Int → Int} {inw : Int → Int} {tow : Int → Int} {bst : Int → Int} {om : Int → Int} {ps : Int → Int} {dl : Int → Int} {dn : Int → Int} {en : Int → Int} {pd : Int → Int} {nL : Int} {kd : Int → Int} {wy : Int → Int} {ll : Int → Int} {td : Int → Int} {ls : Int → Int} {wh : Int → Int} {b k : Int} (hG : pj_G W sd op ed) (p0_ : W b) (p1_ : 0 ≤ k) (p2_ : k < nL) (p3_ : wh k ≠ 2) (p4_ : kd k = 5) (p5_ : wy k = op b) (p6_ : ∀ j, 0 ≤ j → j < k → wy j = wy k → wh j ≠ 0) (p7_ : pd b = 1) (p8_ : om (sd (op b)) = (ed b)) (p9_ : inw (sd (op b)) = (ed b)) (p10_ : ps (sd (op b)) = 0) (p11_ : lv (sd (op b)) = lv (sd b)) (p12_ : nm (sd (op b)) = nm (sd b)) (p13_ : dl (sd (op b)) = lv (sd (op b))) (p14_ : st (sd (op b)) = 2) (p15_ : td k = bst (sd (op b))) (p16_ : st (sd b) = 1) (p17_ : en b = 1) (p18_ : om (sd b) ≠ (ed b)) (p19_ : 1 ≤ lv (sd b)) (p20_ : ps (sd b) = 0) (p21_ : td k ≠ -1) (p22_ : tow (sd (op b)) ≠ -1) (p23_ : 0 ≤ nL) (cL1e : pj_L1e sd op dl dn nL kd wy ll td ls wh) (cR : pj_R W nL kd wy wh) : pj_L1e sd op dl dn nL kd wy ll td ls (pu wh k 2) := by
  obtain ⟨hop, hed⟩ := hG
  unfold pj_L1e pj_R at *
  intro k0
  simp only [pu]
  have g0 := hop b
  have g1 := hop (wy k0)
  have g2 := hed b (wy k0)
  have cL1e_0 := cL1e k
  have cL1e_1 := cL1e k0
  have cR_0 := cR k0
  have f0 := p6_ k
  have f1 := p6_ k0
  clear p6_
  clear hop hed cL1e cR
  grind (splits := 24)

set_option maxHeartbeats 1000000 in
theorem pt_rca_L1o {W : Int → Prop} {sd : Int → Int} {op : Int → Int} {ed : Int → Int} {st : Int → Int} {lv : Int → Int} {nm : Int → Int} {inw : Int → Int} {tow : Int → Int} {bst : Int → Int} {om : Int → Int} {ps : Int → Int} {dl : Int → Int} {en : Int → Int} {pd : Int → Int} {nL : Int} {kd : Int → Int} {wy : Int → Int} {ll : Int → Int} {td : Int → Int} {wh : Int → Int} {b k : Int} (hG : pj_G W sd op ed) (p0_ : W b) (p1_ : 0 ≤ k) (p2_ : k < nL) (p3_ : wh k ≠ 2) (p4_ : kd k = 5) (p5_ : wy k = op b) (p6_ : ∀ j, 0 ≤ j → j < k → wy j = wy k → wh j ≠ 0) (p7_ : pd b = 1) (p8_ : om (sd (op b)) = (ed b)) (p9_ : inw (sd (op b)) = (ed b)) (p10_ : ps (sd (op b)) = 0) (p11_ : lv (sd (op b)) = lv (sd b)) (p12_ : nm (sd (op b)) = nm (sd b)) (p13_ : dl (sd (op b)) = lv (sd (op b))) (p14_ : st (sd (op b)) = 2) (p15_ : td k = bst (sd (op b))) (p16_ : st (sd b) = 1) (p17_ : en b = 1) (p18_ : om (sd b) ≠ (ed b)) (p19_ : 1 ≤ lv (sd b)) (p20_ : ps (sd b) = 0) (p21_ : td k ≠ -1) (p22_ : tow (sd (op b)) ≠ -1) (p23_ : 0 ≤ nL) (cL1o : pj_L1o nL kd wy ll wh) (cR : pj_R W nL kd wy wh) : pj_L1o nL kd wy ll (pu wh k 2) := by
  obtain ⟨hop, hed⟩ := hG
  unfold pj_L1o pj_R at *
  intro j0 k0
  simp only [pu]
  have g0 := hop b
  have g1 := hop (wy j0)
  have g2 := hop (wy k0)
  have g3 := hed b (wy j0)
  have g4 := hed b (wy k0)
  have g5 := hed (wy j0) (wy k0)
  have cL1o_0 := cL1o k k
  have cL1o_1 := cL1o k j0
  have cL1o_2 := cL1o k k0
  have cL1o_3 := cL1o j0 k
  have cL1o_4 := cL1o j0 j0
  have cL1o_5 := cL1o j0 k0
  have cL1o_6 := cL1o k0 k
  have cL1o_7 := cL1o k0 j0
  have cL1o_8 := cL1o k0 k0
  have cR_0 := cR j0
  have cR_1 := cR k0
  have f0 := p6_ k
  have f1 := p6_ j0
  have f2 := p6_ k0
  clear p6_
  clear hop hed cL1o cR
  grind (splits := 24)

set_option maxHeartbeats 1000000 in
theorem pt_rca_L1b {W : Int → Prop} {sd : Int → Int} {op : Int → Int} {ed : Int → Int} {st : Int → Int} {lv : Int → Int} {nm : Int → Int} {inw : Int → Int} {tow : Int → Int} {bst : Int → Int} {om : Int → Int} {ps : Int → Int} {dl : Int → Int} {en : Int → Int} {pd : Int → Int} {cl : Int → Int} {nL : Int} {kd : Int → Int} {wy : Int → Int} {ll : Int → Int} {td : Int → Int} {ls : Int → Int} {wh : Int → Int} {b k : Int} (hG : pj_G W sd op ed) (p0_ : W b) (p1_ : 0 ≤ k) (p2_ : k < nL) (p3_ : wh k ≠ 2) (p4_ : kd k = 5) (p5_ : wy k = op b) (p6_ : ∀ j, 0 ≤ j → j < k → wy j = wy k → wh j ≠ 0) (p7_ : pd b = 1) (p8_ : om (sd (op b)) = (ed b)) (p9_ : inw (sd (op b)) = (ed b)) (p10_ : ps (sd (op b)) = 0) (p11_ : lv (sd (op b)) = lv (sd b)) (p12_ : nm (sd (op b)) = nm (sd b)) (p13_ : dl (sd (op b)) = lv (sd (op b))) (p14_ : st (sd (op b)) = 2) (p15_ : td k = bst (sd (op b))) (p16_ : st (sd b) = 1) (p17_ : en b = 1) (p18_ : om (sd b) ≠ (ed b)) (p19_ : 1 ≤ lv (sd b)) (p20_ : ps (sd b) = 0) (p21_ : td k ≠ -1) (p22_ : tow (sd (op b)) ≠ -1) (p23_ : 0 ≤ nL) (cL1b : pj_L1b sd ed st om pd nL kd wy td ls wh) (cR : pj_R W nL kd wy wh) (cL1 : pj_L1 sd op ed st lv om dl en cl nL kd wy ll td ls wh) : pj_L1b sd ed st om (pu pd b 0) nL kd wy td ls (pu wh k 2) := by
  obtain ⟨hop, hed⟩ := hG
  unfold pj_L1b pj_R pj_L1 at *
  intro k0
  simp only [pu]
  have g0 := hop b
  have g1 := hop (wy k0)
  have g2 := hed b (wy k0)
  have cL1b_0 := cL1b k
  have cL1b_1 := cL1b k0
  have cR_0 := cR k0
  have cL1_0 := cL1 k
  have cL1_1 := cL1 k0
  have f0 := p6_ k
  have f1 := p6_ k0
  clear p6_
  clear hop hed cL1b cR cL1
  grind (splits := 24)

set_option maxHeartbeats 1000000 in
theorem pt_rca_L1g {W : Int → Prop} {sd : Int → Int} {op : Int → Int} {ed : Int → Int} {st : Int → Int} {lv : Int → Int} {nm : Int → Int} {inw : Int → Int} {tow : Int → Int} {bst : Int → Int} {om : Int → Int} {ps : Int → Int} {dl : Int → Int} {en : Int → Int} {pd : Int → Int} {nL : Int} {kd : Int → Int} {wy : Int → Int} {td : Int → Int} {ls : Int → Int} {wh : Int → Int} {b k : Int} (hG : pj_G W sd op ed) (p0_ : W b) (p1_ : 0 ≤ k) (p2_ : k < nL) (p3_ : wh k ≠ 2) (p4_ : kd k = 5) (p5_ : wy k = op b) (p6_ : ∀ j, 0 ≤ j → j < k → wy j = wy k → wh j ≠ 0) (p7_ : pd b = 1) (p8_ : om (sd (op b)) = (ed b)) (p9_ : inw (sd (op b)) = (ed b)) (p10_ : ps (sd (op b)) = 0) (p11_ : lv (sd (op b)) = lv (sd b)) (p12_ : nm (sd (op b)) = nm (sd b)) (p13_ : dl (sd (op b)) = lv (sd (op b))) (p14_ : st (sd (op b)) = 2) (p15_ : td k = bst (sd (op b))) (p16_ : st (sd b) = 1) (p17_ : en b = 1) (p18_ : om (sd b) ≠ (ed b)) (p19_ : 1 ≤ lv (sd b)) (p20_ : ps (sd b) = 0) (p21_ : td k ≠ -1) (p22_ : tow (sd (op b)) ≠ -1) (p23_ : 0 ≤ nL) (cL1g : pj_L1g W sd op ed nL kd wy td ls wh) (cR : pj_R W nL kd wy wh) : pj_L1g W sd op ed nL kd wy td ls (pu wh k 2) := by
  obtain ⟨hop, hed⟩ := hG
  unfold pj_L1g pj_R at *
  intro k0 v0
  simp only [pu]
  have g0 := hop b
  have g1 := hop (wy k0)
  have g2 := hop v0
  have g3 := hed b (wy k0)
  have g4 := hed b v0
  have g5 := hed (wy k0) v0
  have cL1g_0 := cL1g k b
  have cL1g_1 := cL1g k (wy k0)
  have cL1g_2 := cL1g k (op (wy k0))
  have cL1g_3 := cL1g k v0
  have cL1g_4 := cL1g k (op v0)
  have cL1g_5 := cL1g k0 b
  have cL1g_6 := cL1g k0 (wy k0)
  have cL1g_7 := cL1g k0 (op (wy k0))
  have cL1g_8 := cL1g k0 v0
  have cL1g_9 := cL1g k0 (op v0)
  have cR_0 := cR k0
  have f0 := p6_ k
  have f1 := p6_ k0
  clear p6_
  clear hop hed cL1g cR
  grind (splits := 24)

set_option maxHeartbeats 1000000 in
theorem pt_rca_L2 {W : Int → Prop} {sd : Int → Int} {op : Int → Int} {ed : Int → Int} {st : Int → Int} {lv : Int → Int} {nm : Int → Int} {inw : Int → Int} {tow : Int → Int} {bst : Int → Int} {tst : Int → Int} {om : Int → Int} {ps : Int → Int} {dl : Int → Int} {en : Int → Int} {pd : Int → Int} {fw : Int → Int} {nL : Int} {kd : Int → Int} {wy : Int → Int} {ll : Int → Int} {td : Int → Int} {wh : Int → Int} {b k : Int} (hG : pj_G W sd op ed) (p0_ : W b) (p1_ : 0 ≤ k) (p2_ : k < nL) (p3_ : wh k ≠ 2) (p4_ : kd k = 5) (p5_ : wy k = op b) (p6_ : ∀ j, 0 ≤ j → j < k → wy j = wy k → wh j ≠ 0) (p7_ : pd b = 1) (p8_ : om (sd (op b)) = (ed b)) (p9_ : inw (sd (op b)) = (ed b)) (p10_ : ps (sd (op b)) = 0) (p11_ : lv (sd (op b)) = lv (sd b)) (p12_ : nm (sd (op b)) = nm (sd b)) (p13_ : dl (sd (op b)) = lv (sd (op b))) (p14_ : st (sd (op b)) = 2) (p15_ : td k = bst (sd (op b))) (p16_ : st (sd b) = 1) (p17_ : en b = 1) (p18_ : om (sd b) ≠ (ed b)) (p19_ : 1 ≤ lv (sd b)) (p20_ : ps (sd b) = 0) (p21_ : td k ≠ -1) (p22_ : tow (sd (op b)) ≠ -1) (p23_ : 0 ≤ nL) (cL2 : pj_L2 sd op ed st lv nm tst en fw nL kd wy ll td wh) (cR : pj_R W nL kd wy wh) : pj_L2 sd op ed st lv nm tst en fw nL kd wy ll td (pu wh k 2) := by
  obtain ⟨hop, hed⟩ := hG
  unfold pj_L2 pj_R at *
  intro k0
  simp only [pu]
  have g0 := hop b
  have g1 := hop (wy k0)
  have g2 := hed b (wy k0)
  have cL2_0 := cL2 k
  have cL2_1 := cL2 k0
  have cR_0 := cR k0
  have f0 := p6_ k
  have f1 := p6_ k0
  clear p6_
  clear hop hed cL2 cR
  grind (splits := 24)

set_option maxHeartbeats 1000000 in
theorem pt_rca_L3 {W : Int → Prop} {sd : Int → Int} {op : Int → Int} {ed : Int → Int} {st : Int → Int} {lv : Int → Int} {nm : Int → Int} {inw : Int → Int} {tow : Int → Int} {bst : Int → Int} {tst : Int → Int} {om : Int → Int} {ps : Int → Int} {dl : Int → Int} {en : Int → Int} {pd : Int → Int} {fw : Int → Int} {nL : Int} {kd : Int → Int} {wy : Int → Int} {td : Int → Int} {wh : Int → Int} {b k : Int} (hG : pj_G W sd op ed) (p0_ : W b) (p1_ : 0 ≤ k) (p2_ : k < nL) (p3_ : wh k ≠ 2) (p4_ : kd k = 5) (p5_ : wy k = op b) (p6_ : ∀ j, 0 ≤ j → j < k → wy j = wy k → wh j ≠ 0) (p7_ : pd b = 1) (p8_ : om (sd (op b)) = (ed b)) (p9_ : inw (sd (op b)) = (ed b)) (p10_ : ps (sd (op b)) = 0) (p11_ : lv (sd (op b)) = lv (sd b)) (p12_ : nm (sd (op b)) = nm (sd b)) (p13_ : dl (sd (op b)) = lv (sd (op b))) (p14_ : st (sd (op b)) = 2) (p15_ : td k = bst (sd (op b))) (p16_ : st (sd b) = 1) (p17_ : en b = 1) (p18_ : om (sd b) ≠ (ed b)) (p19_ : 1 ≤ lv (sd b)) (p20_ : ps (sd b) = 0) (p21_ : td k ≠ -1) (p22_ : tow (sd (op b)) ≠ -1) (p23_ : 0 ≤ nL) (cL3 : pj_L3 sd op ed st lv nm tst en fw nL kd wy wh) (cR : pj_R W nL kd wy wh) : pj_L3 sd op ed st lv nm tst en fw nL kd wy (pu wh k 2) := by
  obtain ⟨hop, hed⟩ := hG
  unfold pj_L3 pj_R at *
  intro k0
  simp only [pu]
  have g0 := hop b
  have g1 := hop (wy k0)
  have g2 := hed b (wy k0)
  have cL3_0 := cL3 k
  have cL3_1 := cL3 k0
  have cR_0 := cR k0
  have f0 := p6_ k
  have f1 := p6_ k0
  clear p6_
  clear hop hed cL3 cR
  grind (splits := 24)

set_option maxHeartbeats 1000000 in
theorem pt_rca_L4 {W : Int → Prop} {sd : Int → Int} {op : Int → Int} {ed : Int → Int} {st : Int → Int} {lv : Int → Int} {nm : Int → Int} {inw : Int → Int} {tow : Int → Int} {bst : Int → Int} {tst : Int → Int} {om : Int → Int} {ps : Int → Int} {dl : Int → Int} {en : Int → Int} {pd : Int → Int} {nL : Int} {kd : Int → Int} {wy : Int → Int} {td : Int → Int} {wh : Int → Int} {b k : Int} (hG : pj_G W sd op ed) (p0_ : W b) (p1_ : 0 ≤ k) (p2_ : k < nL) (p3_ : wh k ≠ 2) (p4_ : kd k = 5) (p5_ : wy k = op b) (p6_ : ∀ j, 0 ≤ j → j < k → wy j = wy k → wh j ≠ 0) (p7_ : pd b = 1) (p8_ : om (sd (op b)) = (ed b)) (p9_ : inw (sd (op b)) = (ed b)) (p10_ : ps (sd (op b)) = 0) (p11_ : lv (sd (op b)) = lv (sd b)) (p12_ : nm (sd (op b)) = nm (sd b)) (p13_ : dl (sd (op b)) = lv (sd (op b))) (p14_ : st (sd (op b)) = 2) (p15_ : td k = bst (sd (op b))) (p16_ : st (sd b) = 1) (p17_ : en b = 1) (p18_ : om (sd b) ≠ (ed b)) (p19_ : 1 ≤ lv (sd b)) (p20_ : ps (sd b) = 0) (p21_ : td k ≠ -1) (p22_ : tow (sd (op b)) ≠ -1) (p23_ : 0 ≤ nL) (cL4 : pj_L4 sd op ed st tst en nL kd wy wh) (cR : pj_R W nL kd wy wh) : pj_L4 sd op ed st tst en nL kd wy (pu wh k 2) := by
  obtain ⟨hop, hed⟩ := hG
  unfold pj_L4 pj_R at *
  intro k0
  simp only [pu]
  have g0 := hop b
  have g1 := hop (wy k0)
  have g2 := hed b (wy k0)
  have cL4_0 := cL4 k
  have cL4_1 := cL4 k0
  have cR_0 := cR k0
  have f0 := p6_ k
  have f1 := p6_ k0
  clear p6_
  clear hop hed cL4 cR
  grind (splits := 24)

set_option maxHeartbeats 1000000 in
theorem pt_rca_AF {W : Int → Prop} {sd : Int → Int} {op : Int → Int} {ed : Int → Int} {st : Int → Int} {lv : Int → Int} {nm : Int → Int} {inw : Int → Int} {tow : Int → Int} {bst : Int → Int} {tst : Int → Int} {om : Int → Int} {ps : Int → Int} {dl : Int → Int} {af : Int → Int} {en : Int → Int} {pd : Int → Int} {nL : Int} {kd : Int → Int} {wy : Int → Int} {td : Int → Int} {wh : Int → Int} {b k : Int} (hG : pj_G W sd op ed) (p0_ : W b) (p1_ : 0 ≤ k) (p2_ : k < nL) (p3_ : wh k ≠ 2) (p4_ : kd k = 5) (p5_ : wy k = op b) (p6_ : ∀ j, 0 ≤ j → j < k → wy j = wy k → wh j ≠ 0) (p7_ : pd b = 1) (p8_ : om (sd (op b)) = (ed b)) (p9_ : inw (sd (op b)) = (ed b)) (p10_ : ps (sd (op b)) = 0) (p11_ : lv (sd (op b)) = lv (sd b)) (p12_ : nm (sd (op b)) = nm (sd b)) (p13_ : dl (sd (op b)) = lv (sd (op b))) (p14_ : st (sd (op b)) = 2) (p15_ : td k = bst (sd (op b))) (p16_ : st (sd b) = 1) (p17_ : en b = 1) (p18_ : om (sd b) ≠ (ed b)) (p19_ : 1 ≤ lv (sd b)) (p20_ : ps (sd b) = 0) (p21_ : td k ≠ -1) (p22_ : tow (sd (op b)) ≠ -1) (p23_ : 0 ≤ nL) (cAF : pj_AF W sd op ed tst af nL kd wy wh) : pj_AF W sd op ed tst af nL kd wy (pu wh k 2) := by
  obtain ⟨hop, hed⟩ := hG
  unfold pj_AF at *
  intro v0
  simp only [pu]
  have g0 := hop b
  have g1 := hop v0
  have g2 := hed b v0
  have cAF_0 := cAF b
  have cAF_1 := cAF v0
  have cAF_2 := cAF (op v0)
  have f0 := p6_ k
  clear p6_
  clear hop hed cAF
  grind (splits := 24)

set_option maxHeartbeats 1000000 in
theorem pt_rca_RT {W : Int → Prop} {sd : Int → Int} {op : Int → Int} {ed : Int → Int} {st : Int → Int} {lv : Int → Int} {nm : Int → Int} {inw : Int → Int} {tow : Int → Int} {bst : Int → Int} {tst : Int → Int} {om : Int → Int} {ps : Int → Int} {dl : Int → Int} {en : Int → Int} {pd : Int → Int} {nL : Int} {kd : Int → Int} {wy : Int → Int} {td : Int → Int} {wh : Int → Int} {b k : Int} (hG : pj_G W sd op ed) (p0_ : W b) (p1_ : 0 ≤ k) (p2_ : k < nL) (p3_ : wh k ≠ 2) (p4_ : kd k = 5) (p5_ : wy k = op b) (p6_ : ∀ j, 0 ≤ j → j < k → wy j = wy k → wh j ≠ 0) (p7_ : pd b = 1) (p8_ : om (sd (op b)) = (ed b)) (p9_ : inw (sd (op b)) = (ed b)) (p10_ : ps (sd (op b)) = 0) (p11_ : lv (sd (op b)) = lv (sd b)) (p12_ : nm (sd (op b)) = nm (sd b)) (p13_ : dl (sd (op b)) = lv (sd (op b))) (p14_ : st (sd (op b)) = 2) (p15_ : td k = bst (sd (op b))) (p16_ : st (sd b) = 1) (p17_ : en b = 1) (p18_ : om (sd b) ≠ (ed b)) (p19_ : 1 ≤ lv (sd b)) (p20_ : ps (sd b) = 0) (p21_ : td k ≠ -1) (p22_ : tow (sd (op b)) ≠ -1) (p23_ : 0 ≤ nL) (cRT : pj_RT sd ed tst nL kd wy wh) (cR : pj_R W nL kd wy wh) : pj_RT sd ed tst nL kd wy (pu wh k 2) := by
  obtain ⟨hop, hed⟩ := hG
  unfold pj_RT pj_R at *
  intro j0 k0
  simp only [pu]
  have g0 := hop b
  have g1 := hop (wy j0)
  have g2 := hop (wy k0)
  have g3 := hed b (wy j0)
  have g4 := hed b (wy k0)
  have g5 := hed (wy j0) (wy k0)
  have cRT_0 := cRT k k
  have cRT_1 := cRT k j0
  have cRT_2 := cRT k k0
  have cRT_3 := cRT j0 k
  have cRT_4 := cRT j0 j0
  have cRT_5 := cRT j0 k0
  have cRT_6 := cRT k0 k
  have cRT_7 := cRT k0 j0
  have cRT_8 := cRT k0 k0
  have cR_0 := cR j0
  have cR_1 := cR k0
  have f0 := p6_ k
  have f1 := p6_ j0
  have f2 := p6_ k0
  clear p6_
  clear hop hed cRT cR
  grind (splits := 24)

set_option maxHeartbeats 1000000 in
theorem pt_rca_CV {W : Int → Prop} {sd : Int → Int} {op : Int → Int} {ed : Int → Int} {st : Int → Int} {lv : Int → Int} {nm : Int → Int} {inw : Int → Int} {tow : Int → Int} {bst : Int → Int} {tst : Int → Int} {om : Int → Int} {ps : Int → Int} {dl : Int → Int} {en : Int → Int} {pd : Int → Int} {nL : Int} {kd : Int → Int} {wy : Int → Int} {td : Int → Int} {wh : Int → Int} {b k : Int} (hG : pj_G W sd op ed) (p0_ : W b) (p1_ : 0 ≤ k) (p2_ : k < nL) (p3_ : wh k ≠ 2) (p4_ : kd k = 5) (p5_ : wy k = op b) (p6_ : ∀ j, 0 ≤ j → j < k → wy j = wy k → wh j ≠ 0) (p7_ : pd b = 1) (p8_ : om (sd (op b)) = (ed b)) (p9_ : inw (sd (op b)) = (ed b)) (p10_ : ps (sd (op b)) = 0) (p11_ : lv (sd (op b)) = lv (sd b)) (p12_ : nm (sd (op b)) = nm (sd b)) (p13_ : dl (sd (op b)) = lv (sd (op b))) (p14_ : st (sd (op b)) = 2) (p15_ : td k = bst (sd (op b))) (p16_ : st (sd b) = 1) (p17_ : en b = 1) (p18_ : om (sd b) ≠ (ed b)) (p19_ : 1 ≤ lv (sd b)) (p20_ : ps (sd b) = 0) (p21_ : td k ≠ -1) (p22_ : tow (sd (op b)) ≠ -1) (p23_ : 0 ≤ nL) (cCV : pj_CV W sd op ed tst nL kd wy wh) (cR : pj_R W nL kd wy wh) : pj_CV W sd op ed tst nL kd wy (pu wh k 2) := by
  obtain ⟨hop, hed⟩ := hG
  unfold pj_CV pj_R at *
  intro v0 j0 k0
  simp only [pu]
  have g0 := hop b
  have g1 := hop v0
  have g2 := hop (wy j0)
  have g3 := hop (wy k0)
  have g4 := hed b v0
  have g5 := hed b (wy j0)
  have g6 := hed b (wy k0)
  have g7 := hed v0 (wy j0)
  have g8 := hed v0 (wy k0)
  have g9 := hed (wy j0) (wy k0)
  have cCV_0 := cCV v0 j0 k0
  have cR_0 := cR j0
  have cR_1 := cR k0
  have f0 := p6_ k
  have f1 := p6_ j0
  have f2 := p6_ k0
  clear p6_
  clear hop hed cCV cR
  grind (splits := 24)

set_option maxHeartbeats 1000000 in
theorem pt_rca_L5 {W : Int → Prop} {sd : Int → Int} {op : Int → Int} {ed : Int → Int} {st : Int → Int} {lv : Int → Int} {nm : Int → Int} {inw : Int → Int} {tow : Int → Int} {bst : Int → Int} {om : Int → Int} {ps : Int → Int} {dl : Int → Int} {en : Int → Int} {pd : Int → Int} {rp : Int → Int} {rv : Int → Int} {cl : Int → Int} {tk : Int → Int} {nL : Int} {kd : Int → Int} {wy : Int → Int} {td : Int → Int} {wh : Int → Int} {b k : Int} (hG : pj_G W sd op ed) (p0_ : W b) (p1_ : 0 ≤ k) (p2_ : k < nL) (p3_ : wh k ≠ 2) (p4_ : kd k = 5) (p5_ : wy k = op b) (p6_ : ∀ j, 0 ≤ j → j < k → wy j = wy k → wh j ≠ 0) (p7_ : pd b = 1) (p8_ : om (sd (op b)) = (ed b)) (p9_ : inw (sd (op b)) = (ed b)) (p10_ : ps (sd (op b)) = 0) (p11_ : lv (sd (op b)) = lv (sd b)) (p12_ : nm (sd (op b)) = nm (sd b)) (p13_ : dl (sd (op b)) = lv (sd (op b))) (p14_ : st (sd (op b)) = 2) (p15_ : td k = bst (sd (op b))) (p16_ : st (sd b) = 1) (p17_ : en b = 1) (p18_ : om (sd b) ≠ (ed b)) (p19_ : 1 ≤ lv (sd b)) (p20_ : ps (sd b) = 0) (p21_ : td k ≠ -1) (p22_ : tow (sd (op b)) ≠ -1) (p23_ : 0 ≤ nL) (cL5 : pj_L5 sd op ed st lv nm inw bst om ps dl pd rp rv cl tk nL kd wy td wh) (cR : pj_R W nL kd wy wh) (cL5u : pj_L5u nL kd wy wh) : pj_L5 sd op ed st lv nm inw (pu bst (sd b) (td k)) om ps dl (pu pd b 0) rp rv cl tk nL kd wy td (pu wh k 2) := by
  obtain ⟨hop, hed⟩ := hG
  unfold pj_L5 pj_R pj_L5u at *
  intro k0
  simp only [pu]
  have g0 := hop b
  have g1 := hop (wy k0)
  have g2 := hed b (wy k0)
  have cL5_0 := cL5 k
  have cL5_1 := cL5 k0
  have cR_0 := cR k0
  have cL5u_0 := cL5u k0 k
  have f0 := p6_ k
  have f1 := p6_ k0
  clear p6_
  clear hop hed cL5 cR cL5u
  grind (splits := 24)

set_option maxHeartbeats 1000000 in
theorem pt_rca_L5o {W : Int → Prop} {sd : Int → Int} {op : Int → Int} {ed : Int → Int} {st : Int → Int} {lv : Int → Int} {nm : Int → Int} {inw : Int → Int} {tow : Int → Int} {bst : Int → Int} {om : Int → Int} {ps : Int → Int} {dl : Int → Int} {en : Int → Int} {pd : Int → Int} {cl : Int → Int} {nL : Int} {kd : Int → Int} {wy : Int → Int} {td : Int → Int} {wh : Int → Int} {b k : Int} (hG : pj_G W sd op ed) (p0_ : W b) (p1_ : 0 ≤ k) (p2_ : k < nL) (p3_ : wh k ≠ 2) (p4_ : kd k = 5) (p5_ : wy k = op b) (p6_ : ∀ j, 0 ≤ j → j < k → wy j = wy k → wh j ≠ 0) (p7_ : pd b = 1) (p8_ : om (sd (op b)) = (ed b)) (p9_ : inw (sd (op b)) = (ed b)) (p10_ : ps (sd (op b)) = 0) (p11_ : lv (sd (op b)) = lv (sd b)) (p12_ : nm (sd (op b)) = nm (sd b)) (p13_ : dl (sd (op b)) = lv (sd (op b))) (p14_ : st (sd (op b)) = 2) (p15_ : td k = bst (sd (op b))) (p16_ : st (sd b) = 1) (p17_ : en b = 1) (p18_ : om (sd b) ≠ (ed b)) (p19_ : 1 ≤ lv (sd b)) (p20_ : ps (sd b) = 0) (p21_ : td k ≠ -1) (p22_ : tow (sd (op b)) ≠ -1) (p23_ : 0 ≤ nL) (cL5o : pj_L5o sd op ed lv cl nL kd wy wh) (cR : pj_R W nL kd wy wh) : pj_L5o sd op ed lv cl nL kd wy (pu wh k 2) := by
  obtain ⟨hop, hed⟩ := hG
  unfold pj_L5o pj_R at *
  intro j0 k0
  simp only [pu]
  have g0 := hop b
  have g1 := hop (wy j0)
  have g2 := hop (wy k0)
  have g3 := hed b (wy j0)
  have g4 := hed b (wy k0)
  have g5 := hed (wy j0) (wy k0)
  have cL5o_0 := cL5o k k
  have cL5o_1 := cL5o k j0
  have cL5o_2 := cL5o k k0
  have cL5o_3 := cL5o j0 k
  have cL5o_4 := cL5o j0 j0
  have cL5o_5 := cL5o j0 k0
  have cL5o_6 := cL5o k0 k
  have cL5o_7 := cL5o k0 j0
  have cL5o_8 := cL5o k0 k0
  have cR_0 := cR j0
  have cR_1 := cR k0
  have f0 := p6_ k
  have f1 := p6_ j0
  have f2 := p6_ k0
  clear p6_
  clear hop hed cL5o cR
  grind (splits := 24)

set_option maxHeartbeats 1000000 in
theorem pt_rca_L5u {W : Int → Prop} {sd : Int → Int} {op : Int → Int} {ed : Int → Int} {st : Int → Int} {lv : Int → Int} {nm : Int → Int} {inw : Int → Int} {tow : Int → Int} {bst : Int → Int} {om : Int → Int} {ps : Int → Int} {dl : Int → Int} {en : Int → Int} {pd : Int → Int} {nL : Int} {kd : Int → Int} {wy : Int → Int} {td : Int → Int} {wh : Int → Int} {b k : Int} (hG : pj_G W sd op ed) (p0_ : W b) (p1_ : 0 ≤ k) (p2_ : k < nL) (p3_ : wh k ≠ 2) (p4_ : kd k = 5) (p5_ : wy k = op b) (p6_ : ∀ j, 0 ≤ j → j < k → wy j = wy k → wh j ≠ 0) (p7_ : pd b = 1) (p8_ : om (sd (op b)) = (ed b)) (p9_ : inw (sd (op b)) = (ed b)) (p10_ : ps (sd (op b)) = 0) (p11_ : lv (sd (op b)) = lv (sd b)) (p12_ : nm (sd (op b)) = nm (sd b)) (p13_ : dl (sd (op b)) = lv (sd (op b))) (p14_ : st (sd (op b)) = 2) (p15_ : td k = bst (sd (op b))) (p16_ : st (sd b) = 1) (p17_ : en b = 1) (p18_ : om (sd b) ≠ (ed b)) (p19_ : 1 ≤ lv (sd b)) (p20_ : ps (sd b) = 0) (p21_ : td k ≠ -1) (p22_ : tow (sd (op b)) ≠ -1) (p23_ : 0 ≤ nL) (cL5u : pj_L5u nL kd wy wh) (cR : pj_R W nL kd wy wh) : pj_L5u nL kd wy (pu wh k 2) := by
  obtain ⟨hop, hed⟩ := hG
  unfold pj_L5u pj_R at *
  intro j0 k0
  simp only [pu]
  have g0 := hop b
  have g1 := hop (wy j0)
  have g2 := hop (wy k0)
  have g3 := hed b (wy j0)
  have g4 := hed b (wy k0)
  have g5 := hed (wy j0) (wy k0)
  have cL5u_0 := cL5u k k
  have cL5u_1 := cL5u k j0
  have cL5u_2 := cL5u k k0
  have cL5u_3 := cL5u j0 k
  have cL5u_4 := cL5u j0 j0
  have cL5u_5 := cL5u j0 k0
  have cL5u_6 := cL5u k0 k
  have cL5u_7 := cL5u k0 j0
  have cL5u_8 := cL5u k0 k0
  have cR_0 := cR j0
  have cR_1 := cR k0
  have f0 := p6_ k
  have f1 := p6_ j0
  have f2 := p6_ k0
  clear p6_
  clear hop hed cL5u cR
  grind (splits := 24)

set_option maxHeartbeats 1000000 in
theorem pt_rca_L6 {W : Int → Prop} {sd : Int → Int} {op : Int → Int} {ed : Int → Int} {st : Int → Int} {lv : Int → Int} {nm : Int → Int} {inw : Int → Int} {tow : Int → Int} {bst : Int → Int} {om : Int → Int} {ps : Int → Int} {dl : Int → Int} {en : Int → Int} {pd : Int → Int} {cw : Int → Int} {tk : Int → Int} {nL : Int} {kd : Int → Int} {wy : Int → Int} {td : Int → Int} {wh : Int → Int} {b k : Int} (hG : pj_G W sd op ed) (p0_ : W b) (p1_ : 0 ≤ k) (p2_ : k < nL) (p3_ : wh k ≠ 2) (p4_ : kd k = 5) (p5_ : wy k = op b) (p6_ : ∀ j, 0 ≤ j → j < k → wy j = wy k → wh j ≠ 0) (p7_ : pd b = 1) (p8_ : om (sd (op b)) = (ed b)) (p9_ : inw (sd (op b)) = (ed b)) (p10_ : ps (sd (op b)) = 0) (p11_ : lv (sd (op b)) = lv (sd b)) (p12_ : nm (sd (op b)) = nm (sd b)) (p13_ : dl (sd (op b)) = lv (sd (op b))) (p14_ : st (sd (op b)) = 2) (p15_ : td k = bst (sd (op b))) (p16_ : st (sd b) = 1) (p17_ : en b = 1) (p18_ : om (sd b) ≠ (ed b)) (p19_ : 1 ≤ lv (sd b)) (p20_ : ps (sd b) = 0) (p21_ : td k ≠ -1) (p22_ : tow (sd (op b)) ≠ -1) (p23_ : 0 ≤ nL) (cL6 : pj_L6 sd op ed st lv nm tow om ps dl cw tk nL kd wy wh) (cR : pj_R W nL kd wy wh) : pj_L6 sd op ed st lv nm (pu tow (sd b) (ed b)) om ps dl cw tk nL kd wy (pu wh k 2) := by
  obtain ⟨hop, hed⟩ := hG
  unfold pj_L6 pj_R at *
  intro k0
  simp only [pu]
  have g0 := hop b
  have g1 := hop (wy k0)
  have g2 := hed b (wy k0)
  have cL6_0 := cL6 k
  have cL6_1 := cL6 k0
  have cR_0 := cR k0
  have f0 := p6_ k
  have f1 := p6_ k0
  clear p6_
  clear hop hed cL6 cR
  grind (splits := 24)

set_option maxHeartbeats 1000000 in
theorem pt_rca_L6u {W : Int → Prop} {sd : Int → Int} {op : Int → Int} {ed : Int → Int} {st : Int → Int} {lv : Int → Int} {nm : Int → Int} {inw : Int → Int} {tow : Int → Int} {bst : Int → Int} {om : Int → Int} {ps : Int → Int} {dl : Int → Int} {en : Int → Int} {pd : Int → Int} {nL : Int} {kd : Int → Int} {wy : Int → Int} {td : Int → Int} {wh : Int → Int} {b k : Int} (hG : pj_G W sd op ed) (p0_ : W b) (p1_ : 0 ≤ k) (p2_ : k < nL) (p3_ : wh k ≠ 2) (p4_ : kd k = 5) (p5_ : wy k = op b) (p6_ : ∀ j, 0 ≤ j → j < k → wy j = wy k → wh j ≠ 0) (p7_ : pd b = 1) (p8_ : om (sd (op b)) = (ed b)) (p9_ : inw (sd (op b)) = (ed b)) (p10_ : ps (sd (op b)) = 0) (p11_ : lv (sd (op b)) = lv (sd b)) (p12_ : nm (sd (op b)) = nm (sd b)) (p13_ : dl (sd (op b)) = lv (sd (op b))) (p14_ : st (sd (op b)) = 2) (p15_ : td k = bst (sd (op b))) (p16_ : st (sd b) = 1) (p17_ : en b = 1) (p18_ : om (sd b) ≠ (ed b)) (p19_ : 1 ≤ lv (sd b)) (p20_ : ps (sd b) = 0) (p21_ : td k ≠ -1) (p22_ : tow (sd (op b)) ≠ -1) (p23_ : 0 ≤ nL) (cL6u : pj_L6u sd op nm nL kd wy wh) (cR : pj_R W nL kd wy wh) : pj_L6u sd op nm nL kd wy (pu wh k 2) := by
  obtain ⟨hop, hed⟩ := hG
  unfold pj_L6u pj_R at *
  intro j0 k0
  simp only [pu]
  have g0 := hop b
  have g1 := hop (wy j0)
  have g2 := hop (wy k0)
  have g3 := hed b (wy j0)
  have g4 := hed b (wy k0)
  have g5 := hed (wy j0) (wy k0)
  have cL6u_0 := cL6u k k
  have cL6u_1 := cL6u k j0
  have cL6u_2 := cL6u k k0
  have cL6u_3 := cL6u j0 k
  have cL6u_4 := cL6u j0 j0
  have cL6u_5 := cL6u j0 k0
  have cL6u_6 := cL6u k0 k
  have cL6u_7 := cL6u k0 j0
  have cL6u_8 := cL6u k0 k0
  have cR_0 := cR j0
  have cR_1 := cR k0
  have f0 := p6_ k
  have f1 := p6_ j0
  have f2 := p6_ k0
  clear p6_
  clear hop hed cL6u cR
  grind (splits := 24)

theorem pj_rca {W : Int → Prop} {sd op ed : Int → Int} {li : Int → Int → Prop} {st lv nm inw tow bst tst exp om ps dl dn af c0 en pd rp rv fw cl cw tk kd wy ll td ls wh : Int → Int} {nL : Int} {F F2 : Int → Prop} {fl fc : Int} {b k : Int} (hG : pj_G W sd op ed) (p0_ : W b) (p1_ : 0 ≤ k) (p2_ : k < nL) (p3_ : wh k ≠ 2) (p4_ : kd k = 5) (p5_ : wy k = op b) (p6_ : ∀ j, 0 ≤ j → j < k → wy j = wy k → wh j ≠ 0) (p7_ : pd b = 1) (p8_ : om (sd (op b)) = (ed b)) (p9_ : inw (sd (op b)) = (ed b)) (p10_ : ps (sd (op b)) = 0) (p11_ : lv (sd (op b)) = lv (sd b)) (p12_ : nm (sd (op b)) = nm (sd b)) (p13_ : dl (sd (op b)) = lv (sd (op b))) (p14_ : st (sd (op b)) = 2) (p15_ : td k = bst (sd (op b))) (p16_ : st (sd b) = 1) (p17_ : en b = 1) (p18_ : om (sd b) ≠ (ed b)) (p19_ : 1 ≤ lv (sd b)) (p20_ : ps (sd b) = 0) (p21_ : td k ≠ -1) (p22_ : tow (sd (op b)) ≠ -1) (p23_ : 0 ≤ nL) (h : pj_J W sd op ed li st lv nm inw tow bst tst exp om ps dl dn af c0 en pd rp rv fw cl cw tk nL kd wy ll td ls wh F fl fc) : pj_J W sd op ed li st lv nm inw (pu tow (sd b) (ed b)) (pu bst (sd b) (td k)) tst exp om ps dl dn af c0 en (pu pd b 0) rp rv fw cl cw tk nL kd wy ll td ls (pu wh k 2) F fl fc := by
  obtain ⟨cR, cN0, cN1, cN1w, cER, cN1c, cN2, cN2e, cN2b, cN4e, cN4b, cN5, cN7, cN10, cN10e, cN13, cC1, cC2, cR3a, cE1, cU, cA1, cA2, cEC, cR3, cN11, cN12, cN3, cRJ, cFW, cPD, cCC, cCD, cRP, cRP1, cCR, cZ1, cZ0, cTK, cK2, cWH, cFI, cL0, cFC, cL0u, cOC, cCT, cL1, cL1e, cL1o, cL1b, cL1g, cL2, cL3, cL4, cAF, cRT, cCV, cL5, cL5o, cL5u, cL6, cL6u⟩ := h
  exact ⟨pt_rca_R hG p0_ p1_ p2_ p3_ p4_ p5_ p6_ p7_ p8_ p9_ p10_ p11_ p12_ p13_ p14_ p15_ p16_ p17_ p18_ p19_ p20_ p21_ p22_ p23_ cR, cN0, cN1, cN1w, cER, pt_rca_N1c hG p0_ p1_ p2_ p3_ p4_ p5_ p6_ p7_ p8_ p9_ p10_ p11_ p12_ p13_ p14_ p15_ p16_ p17_ p18_ p19_ p20_ p21_ p22_ p23_ cN1c cR, cN2, cN2e, cN2b, cN4e, pt_rca_N4b hG p0_ p1_ p2_ p3_ p4_ p5_ p6_ p7_ p8_ p9_ p10_ p11_ p12_ p13_ p14_ p15_ p16_ p17_ p18_ p19_ p20_ p21_ p22_ p23_ cN4b, cN5, cN7, pt_rca_N10 hG p0_ p1_ p2_ p3_ p4_ p5_ p6_ p7_ p8_ p9_ p10_ p11_ p12_ p13_ p14_ p15_ p16_ p17_ p18_ p19_ p20_ p21_ p22_ p23_ cN10, pt_rca_N10e hG p0_ p1_ p2_ p3_ p4_ p5_ p6_ p7_ p8_ p9_ p10_ p11_ p12_ p13_ p14_ p15_ p16_ p17_ p18_ p19_ p20_ p21_ p22_ p23_ cN10e, cN13, cC1, cC2, cR3a, pt_rca_E1 hG p0_ p1_ p2_ p3_ p4_ p5_ p6_ p7_ p8_ p9_ p10_ p11_ p12_ p13_ p14_ p15_ p16_ p17_ p18_ p19_ p20_ p21_ p22_ p23_ cE1, cU, cA1, cA2, pt_rca_EC hG p0_ p1_ p2_ p3_ p4_ p5_ p6_ p7_ p8_ p9_ p10_ p11_ p12_ p13_ p14_ p15_ p16_ p17_ p18_ p19_ p20_ p21_ p22_ p23_ cEC, pt_rca_R3 hG p0_ p1_ p2_ p3_ p4_ p5_ p6_ p7_ p8_ p9_ p10_ p11_ p12_ p13_ p14_ p15_ p16_ p17_ p18_ p19_ p20_ p21_ p22_ p23_ cR3, pt_rca_N11 hG p0_ p1_ p2_ p3_ p4_ p5_ p6_ p7_ p8_ p9_ p10_ p11_ p12_ p13_ p14_ p15_ p16_ p17_ p18_ p19_ p20_ p21_ p22_ p23_ cN11, pt_rca_N12 hG p0_ p1_ p2_ p3_ p4_ p5_ p6_ p7_ p8_ p9_ p10_ p11_ p12_ p13_ p14_ p15_ p16_ p17_ p18_ p19_ p20_ p21_ p22_ p23_ cN12, cN3, cRJ, cFW, pt_rca_PD hG p0_ p1_ p2_ p3_ p4_ p5_ p6_ p7_ p8_ p9_ p10_ p11_ p12_ p13_ p14_ p15_ p16_ p17_ p18_ p19_ p20_ p21_ p22_ p23_ cPD, cCC, cCD, pt_rca_RP hG p0_ p1_ p2_ p3_ p4_ p5_ p6_ p7_ p8_ p9_ p10_ p11_ p12_ p13_ p14_ p15_ p16_ p17_ p18_ p19_ p20_ p21_ p22_ p23_ cRP, cRP1, cCR, cZ1, cZ0, cTK, cK2, pt_rca_WH hG p0_ p1_ p2_ p3_ p4_ p5_ p6_ p7_ p8_ p9_ p10_ p11_ p12_ p13_ p14_ p15_ p16_ p17_ p18_ p19_ p20_ p21_ p22_ p23_ cWH cR, pt_rca_FI hG p0_ p1_ p2_ p3_ p4_ p5_ p6_ p7_ p8_ p9_ p10_ p11_ p12_ p13_ p14_ p15_ p16_ p17_ p18_ p19_ p20_ p21_ p22_ p23_ cFI cR, pt_rca_L0 hG p0_ p1_ p2_ p3_ p4_ p5_ p6_ p7_ p8_ p9_ p10_ p11_ p12_ p13_ p14_ p15_ p16_ p17_ p18_ p19_ p20_ p21_ p22_ p23_ cL0 cR, pt_rca_FC hG p0_ p1_ p2_ p3_ p4_ p5_ p6_ p7_ p8_ p9_ p10_ p11_ p12_ p13_ p14_ p15_ p16_ p17_ p18_ p19_ p20_ p21_ p22_ p23_ cFC cR, pt_rca_L0u hG p0_ p1_ p2_ p3_ p4_ p5_ p6_ p7_ p8_ p9_ p10_ p11_ p12_ p13_ p14_ p15_ p16_ p17_ p18_ p19_ p20_ p21_ p22_ p23_ cL0u cR, pt_rca_OC hG p0_ p1_ p2_ p3_ p4_ p5_ p6_ p7_ p8_ p9_ p10_ p11_ p12_ p13_ p14_ p15_ p16_ p17_ p18_ p19_ p20_ p21_ p22_ p23_ cOC cR, pt_rca_CT hG p0_ p1_ p2_ p3_ p4_ p5_ p6_ p7_ p8_ p9_ p10_ p11_ p12_ p13_ p14_ p15_ p16_ p17_ p18_ p19_ p20_ p21_ p22_ p23_ cCT cR, pt_rca_L1 hG p0_ p1_ p2_ p3_ p4_ p5_ p6_ p7_ p8_ p9_ p10_ p11_ p12_ p13_ p14_ p15_ p16_ p17_ p18_ p19_ p20_ p21_ p22_ p23_ cL1 cR, pt_rca_L1e hG p0_ p1_ p2_ p3_ p4_ p5_ p6_ p7_ p8_ p9_ p10_ p11_ p12_ p13_ p14_ p15_ p16_ p17_ p18_ p19_ p20_ p21_ p22_ p23_ cL1e cR, pt_rca_L1o hG p0_ p1_ p2_ p3_ p4_ p5_ p6_ p7_ p8_ p9_ p10_ p11_ p12_ p13_ p14_ p15_ p16_ p17_ p18_ p19_ p20_ p21_ p22_ p23_ cL1o cR, pt_rca_L1b hG p0_ p1_ p2_ p3_ p4_ p5_ p6_ p7_ p8_ p9_ p10_ p11_ p12_ p13_ p14_ p15_ p16_ p17_ p18_ p19_ p20_ p21_ p22_ p23_ cL1b cR cL1, pt_rca_L1g hG p0_ p1_ p2_ p3_ p4_ p5_ p6_ p7_ p8_ p9_ p10_ p11_ p12_ p13_ p14_ p15_ p16_ p17_ p18_ p19_ p20_ p21_ p22_ p23_ cL1g cR, pt_rca_L2 hG p0_ p1_ p2_ p3_ p4_ p5_ p6_ p7_ p8_ p9_ p10_ p11_ p12_ p13_ p14_ p15_ p16_ p17_ p18_ p19_ p20_ p21_ p22_ p23_ cL2 cR, pt_rca_L3 hG p0_ p1_ p2_ p3_ p4_ p5_ p6_ p7_ p8_ p9_ p10_ p11_ p12_ p13_ p14_ p15_ p16_ p17_ p18_ p19_ p20_ p21_ p22_ p23_ cL3 cR, pt_rca_L4 hG p0_ p1_ p2_ p3_ p4_ p5_ p6_ p7_ p8_ p9_ p10_ p11_ p12_ p13_ p14_ p15_ p16_ p17_ p18_ p19_ p20_ p21_ p22_ p23_ cL4 cR, pt_rca_AF hG p0_ p1_ p2_ p3_ p4_ p5_ p6_ p7_ p8_ p9_ p10_ p11_ p12_ p13_ p14_ p15_ p16_ p17_ p18_ p19_ p20_ p21_ p22_ p23_ cAF, pt_rca_RT hG p0_ p1_ p2_ p3_ p4_ p5_ p6_ p7_ p8_ p9_ p10_ p11_ p12_ p13_ p14_ p15_ p16_ p17_ p18_ p19_ p20_ p21_ p22_ p23_ cRT cR, pt_rca_CV hG p0_ p1_ p2_ p3_ p4_ p5_ p6_ p7_ p8_ p9_ p10_ p11_ p12_ p13_ p14_ p15_ p16_ p17_ p18_ p19_ p20_ p21_ p22_ p23_ cCV cR, pt_rca_L5 hG p0_ p1_ p2_ p3_ p4_ p5_ p6_ p7_ p8_ p9_ p10_ p11_ p12_ p13_ p14_ p15_ p16_ p17_ p18_ p19_ p20_ p21_ p22_ p23_ cL5 cR cL5u, pt_rca_L5o hG p0_ p1_ p2_ p3_ p4_ p5_ p6_ p7_ p8_ p9_ p10_ p11_ p12_ p13_ p14_ p15_ p16_ p17_ p18_ p19_ p20_ p21_ p22_ p23_ cL5o cR, pt_rca_L5u hG p0_ p1_ p2_ p3_ p4_ p5_ p6_ p7_ p8_ p9_ p10_ p11_ p12_ p13_ p14_ p15_ p16_ p17_ p18_ p19_ p20_ p21_ p22_ p23_ cL5u cR, pt_rca_L6 hG p0_ p1_ p2_ p3_ p4_ p5_ p6_ p7_ p8_ p9_ p10_ p11_ p12_ p13_ p14_ p15_ p16_ p17_ p18_ p19_ p20_ p21_ p22_ p23_ cL6 cR, pt_rca_L6u hG p0_ p1_ p2_ p3_ p4_ p5_ p6_ p7_ p8_ p9_ p10_ p11_ p12_ p13_ p14_ p15_ p16_ p17_ p18_ p19_ p20_ p21_ p22_ p23_ cL6u cR⟩

set_option maxHeartbeats 1000000 in
theorem pt_rcb_R {W : Int → Prop} {sd : Int → Int} {op : Int → Int} {ed : Int → Int} {st : Int → Int} {lv : Int → Int} {nm : Int → Int} {inw : Int → Int} {bst : Int → Int} {om : Int → Int} {ps : Int → Int} {dl : Int → Int} {en : Int → Int} {pd : Int → Int} {nL : Int} {kd : Int → Int} {wy : Int → Int} {td : Int → Int} {wh : Int → Int} {b k : Int} (hG : pj_G W sd op ed) (p0_ : W b) (p1_ : 0 ≤ k) (p2_ : k < nL) (p3_ : wh k ≠ 2) (p4_ : kd k = 5) (p5_ : wy k = op b) (p6_ : ∀ j, 0 ≤ j → j < k → wy j = wy k → wh j ≠ 0) (p7_ : pd b = 1) (p8_ : om (sd (op b)) = (ed b)) (p9_ : inw (sd (op b)) = (ed b)) (p10_ : ps (sd (op b)) = 0) (p11_ : lv (sd (op b)) = lv (sd b)) (p12_ : nm (sd (op b)) = nm (sd b)) (p13_ : dl (sd (op b)) = lv (sd (op b))) (p14_ : st (sd (op b)) = 2) (p15_ : td k = bst (sd (op b))) (p16_ : st (sd b) = 1) (p17_ : en b = 1) (p18_ : om (sd b) ≠ (ed b)) (p19_ : 1 ≤ lv (sd b)) (p20_ : ps (sd b) = 0) (p21_ : 0 ≤ nL) (cR : pj_R W nL kd wy wh) : pj_R W nL kd wy (pu wh k 2) := by
  obtain ⟨hop, hed⟩ := hG
  unfold pj_R at *
  intro k0
  simp only [pu]
  have g0 := hop b
  have g1 := hop (wy k0)
  have g2 := hed b (wy k0)
  have cR_0 := cR k
  have cR_1 := cR k0
  have f0 := p6_ k
  have f1 := p6_ k0
  clear p6_
  clear hop hed cR
  grind (splits := 24)

set_option maxHeartbeats 1000000 in
theorem pt_rcb_N1c {W : Int → Prop} {sd : Int → Int} {op : Int → Int} {ed : Int → Int} {st : Int → Int} {lv : Int → Int} {nm : Int → Int} {inw : Int → Int} {bst : Int → Int} {om : Int → Int} {ps : Int → Int} {dl : Int → Int} {en : Int → Int} {pd : Int → Int} {nL : Int} {kd : Int → Int} {wy : Int → Int} {td : Int → Int} {wh : Int → Int} {b k : Int} (hG : pj_G W sd op ed) (p0_ : W b) (p1_ : 0 ≤ k) (p2_ : k < nL) (p3_ : wh k ≠ 2) (p4_ : kd k = 5) (p5_ : wy k = op b) (p6_ : ∀ j, 0 ≤ j → j < k → wy j = wy k → wh j ≠ 0) (p7_ : pd b = 1) (p8_ : om (sd (op b)) = (ed b)) (p9_ : inw (sd (op b)) = (ed b)) (p10_ : ps (sd (op b)) = 0) (p11_ : lv (sd (op b)) = lv (sd b)) (p12_ : nm (sd (op b)) = nm (sd b)) (p13_ : dl (sd (op b)) = lv (sd (op b))) (p14_ : st (sd (op b)) = 2) (p15_ : td k = bst (sd (op b))) (p16_ : st (sd b) = 1) (p17_ : en b = 1) (p18_ : om (sd b) ≠ (ed b)) (p19_ : 1 ≤ lv (sd b)) (p20_ : ps (sd b) = 0) (p21_ : 0 ≤ nL) (cN1c : pj_N1c sd op st nL wy wh) (cR : pj_R W nL kd wy wh) : pj_N1c sd op st nL wy (pu wh k 2) := by
  obtain ⟨hop, hed⟩ := hG
  unfold pj_N1c pj_R at *
  intro k0
  simp only [pu]
  have g0 := hop b
  have g1 := hop (wy k0)
  have g2 := hed b (wy k0)
  have cN1c_0 := cN1c k
  have cN1c_1 := cN1c k0
  have cR_0 := cR k0
  have f0 := p6_ k
  have f1 := p6_ k0
  clear p6_
  clear hop hed cN1c cR
  grind (splits := 24)

set_option maxHeartbeats 1000000 in
theorem pt_rcb_E1 {W : Int → Prop} {sd : Int → Int} {op : Int → Int} {ed : Int → Int} {st : Int → Int} {lv : Int → Int} {nm : Int → Int} {inw : Int → Int} {bst : Int → Int} {om : Int → Int} {ps : Int → Int} {dl : Int → Int} {en : Int → Int} {pd : Int → Int} {nL : Int} {kd : Int → Int} {wy : Int → Int} {ll : Int → Int} {td : Int → Int} {wh : Int → Int} {b k : Int} (hG : pj_G W sd op ed) (p0_ : W b) (p1_ : 0 ≤ k) (p2_ : k < nL) (p3_ : wh k ≠ 2) (p4_ : kd k = 5) (p5_ : wy k = op b) (p6_ : ∀ j, 0 ≤ j → j < k → wy j = wy k → wh j ≠ 0) (p7_ : pd b = 1) (p8_ : om (sd (op b)) = (ed b)) (p9_ : inw (sd (op b)) = (ed b)) (p10_ : ps (sd (op b)) = 0) (p11_ : lv (sd (op b)) = lv (sd b)) (p12_ : nm (sd (op b)) = nm (sd b)) (p13_ : dl (sd (op b)) = lv (sd (op b))) (p14_ : st (sd (op b)) = 2) (p15_ : td k = bst (sd (op b))) (p16_ : st (sd b) = 1) (p17_ : en b = 1) (p18_ : om (sd b) ≠ (ed b)) (p19_ : 1 ≤ lv (sd b)) (p20_ : ps (sd b) = 0) (p21_ : 0 ≤ nL) (cE1 : pj_E1 sd op lv dl nL kd wy ll wh) : pj_E1 sd op lv dl nL kd wy ll (pu wh k 2) := by
  obtain ⟨hop, hed⟩ := hG
  unfold pj_E1 at *
  intro n0
  simp only [pu]
  have g0 := hop b
  have cE1_0 := cE1 (sd (op b))
  have cE1_1 := cE1 n0
  have cE1_2 := cE1 (sd b)
  have f0 := p6_ k
  clear p6_
  clear hop hed cE1
  grind (splits := 24)

set_option maxHeartbeats 1000000 in
theorem pt_rcb_EC {W : Int → Prop} {sd : Int → Int} {op : Int → Int} {ed : Int → Int} {st : Int → Int} {lv : Int → Int} {nm : Int → Int} {inw : Int → Int} {bst : Int → Int} {om : Int → Int} {ps : Int → Int} {dl : Int → Int} {en : Int → Int} {pd : Int → Int} {nL : Int} {kd : Int → Int} {wy : Int → Int} {td : Int → Int} {wh : Int → Int} {F : Int → Prop} {b k : Int} (hG : pj_G W sd op ed) (p0_ : W b) (p1_ : 0 ≤ k) (p2_ : k < nL) (p3_ : wh k ≠ 2) (p4_ : kd k = 5) (p5_ : wy k = op b) (p6_ : ∀ j, 0 ≤ j → j < k → wy j = wy k → wh j ≠ 0) (p7_ : pd b = 1) (p8_ : om (sd (op b)) = (ed b)) (p9_ : inw (sd (op b)) = (ed b)) (p10_ : ps (sd (op b)) = 0) (p11_ : lv (sd (op b)) = lv (sd b)) (p12_ : nm (sd (op b)) = nm (sd b)) (p13_ : dl (sd (op b)) = lv (sd (op b))) (p14_ : st (sd (op b)) = 2) (p15_ : td k = bst (sd (op b))) (p16_ : st (sd b) = 1) (p17_ : en b = 1) (p18_ : om (sd b) ≠ (ed b)) (p19_ : 1 ≤ lv (sd b)) (p20_ : ps (sd b) = 0) (p21_ : 0 ≤ nL) (cEC : pj_EC W sd op ed lv nm om ps dl nL kd wy wh F) : pj_EC W sd op ed lv nm om ps dl nL kd wy (pu wh k 2) F := by
  obtain ⟨hop, hed⟩ := hG
  unfold pj_EC at *
  intro w0
  simp only [pu]
  have g0 := hop b
  have g1 := hop w0
  have g2 := hed b w0
  have cEC_0 := cEC b
  have cEC_1 := cEC w0
  have cEC_2 := cEC (op w0)
  have f0 := p6_ k
  clear p6_
  clear hop hed cEC
  grind (splits := 24)

set_option maxHeartbeats 1000000 in
theorem pt_rcb_R3 {W : Int → Prop} {sd : Int → Int} {op : Int → Int} {ed : Int → Int} {st : Int → Int} {lv : Int → Int} {nm : Int → Int} {inw : Int → Int} {bst : Int → Int} {om : Int → Int} {ps : Int → Int} {dl : Int → Int} {en : Int → Int} {pd : Int → Int} {nL : Int} {kd : Int → Int} {wy : Int → Int} {td : Int → Int} {wh : Int → Int} {b k : Int} (hG : pj_G W sd op ed) (p0_ : W b) (p1_ : 0 ≤ k) (p2_ : k < nL) (p3_ : wh k ≠ 2) (p4_ : kd k = 5) (p5_ : wy k = op b) (p6_ : ∀ j, 0 ≤ j → j < k → wy j = wy k → wh j ≠ 0) (p7_ : pd b = 1) (p8_ : om (sd (op b)) = (ed b)) (p9_ : inw (sd (op b)) = (ed b)) (p10_ : ps (sd (op b)) = 0) (p11_ : lv (sd (op b)) = lv (sd b)) (p12_ : nm (sd (op b)) = nm (sd b)) (p13_ : dl (sd (op b)) = lv (sd (op b))) (p14_ : st (sd (op b)) = 2) (p15_ : td k = bst (sd (op b))) (p16_ : st (sd b) = 1) (p17_ : en b = 1) (p18_ : om (sd b) ≠ (ed b)) (p19_ : 1 ≤ lv (sd b)) (p20_ : ps (sd b) = 0) (p21_ : 0 ≤ nL) (cR3 : pj_R3 W sd op ed st om pd) : pj_R3 W sd op ed st om (pu pd b 0) := by
  obtain ⟨hop, hed⟩ := hG
  unfold pj_R3 at *
  intro w0
  simp only [pu]
  have g0 := hop b
  have g1 := hop w0
  have g2 := hed b w0
  have cR3_0 := cR3 b
  have cR3_1 := cR3 w0
  have cR3_2 := cR3 (op w0)
  have f0 := p6_ k
  clear p6_
  clear hop hed cR3
  grind (splits := 24)

set_option maxHeartbeats 1000000 in
theorem pt_rcb_PD {W : Int → Prop} {sd : Int → Int} {op : Int → Int} {ed : Int → Int} {st : Int → Int} {lv : Int → Int} {nm : Int → Int} {inw : Int → Int} {bst : Int → Int} {om : Int → Int} {ps : Int → Int} {dl : Int → Int} {en : Int → Int} {pd : Int → Int} {nL : Int} {kd : Int → Int} {wy : Int → Int} {td : Int → Int} {wh : Int → Int} {b k : Int} (hG : pj_G W sd op ed) (p0_ : W b) (p1_ : 0 ≤ k) (p2_ : k < nL) (p3_ : wh k ≠ 2) (p4_ : kd k = 5) (p5_ : wy k = op b) (p6_ : ∀ j, 0 ≤ j → j < k → wy j = wy k → wh j ≠ 0) (p7_ : pd b = 1) (p8_ : om (sd (op b)) = (ed b)) (p9_ : inw (sd (op b)) = (ed b)) (p10_ : ps (sd (op b)) = 0) (p11_ : lv (sd (op b)) = lv (sd b)) (p12_ : nm (sd (op b)) = nm (sd b)) (p13_ : dl (sd (op b)) = lv (sd (op b))) (p14_ : st (sd (op b)) = 2) (p15_ : td k = bst (sd (op b))) (p16_ : st (sd b) = 1) (p17_ : en b = 1) (p18_ : om (sd b) ≠ (ed b)) (p19_ : 1 ≤ lv (sd b)) (p20_ : ps (sd b) = 0) (p21_ : 0 ≤ nL) (cPD : pj_PD W sd op ed st om en pd) : pj_PD W sd op ed st om en (pu pd b 0) := by
  obtain ⟨hop, hed⟩ := hG
  unfold pj_PD at *
  intro w0
  simp only [pu]
  have g0 := hop b
  have g1 := hop w0
  have g2 := hed b w0
  have cPD_0 := cPD b
  have cPD_1 := cPD w0
  have cPD_2 := cPD (op w0)
  have f0 := p6_ k
  clear p6_
  clear hop hed cPD
  grind (splits := 24)

set_option maxHeartbeats 1000000 in
theorem pt_rcb_WH {W : Int → Prop} {sd : Int → Int} {op : Int → Int} {ed : Int → Int} {st : Int → Int} {lv : Int → Int} {nm : Int → Int} {inw : Int → Int} {bst : Int → Int} {om : Int → Int} {ps : Int → Int} {dl : Int → Int} {en : Int → Int} {pd : Int → Int} {nL : Int} {kd : Int → Int} {wy : Int → Int} {td : Int → Int} {wh : Int → Int} {b k : Int} (hG : pj_G W sd op ed) (p0_ : W b) (p1_ : 0 ≤ k) (p2_ : k < nL) (p3_ : wh k ≠ 2) (p4_ : kd k = 5) (p5_ : wy k = op b) (p6_ : ∀ j, 0 ≤ j → j < k → wy j = wy k → wh j ≠ 0) (p7_ : pd b = 1) (p8_ : om (sd (op b)) = (ed b)) (p9_ : inw (sd (op b)) = (ed b)) (p10_ : ps (sd (op b)) = 0) (p11_ : lv (sd (op b)) = lv (sd b)) (p12_ : nm (sd (op b)) = nm (sd b)) (p13_ : dl (sd (op b)) = lv (sd (op b))) (p14_ : st (sd (op b)) = 2) (p15_ : td k = bst (sd (op b))) (p16_ : st (sd b) = 1) (p17_ : en b = 1) (p18_ : om (sd b) ≠ (ed b)) (p19_ : 1 ≤ lv (sd b)) (p20_ : ps (sd b) = 0) (p21_ : 0 ≤ nL) (cWH : pj_WH nL kd wh) (cR : pj_R W nL kd wy wh) : pj_WH nL kd (pu wh k 2) := by
  obtain ⟨hop, hed⟩ := hG
  unfold pj_WH pj_R at *
  intro k0
  simp only [pu]
  have g0 := hop b
  have g1 := hop (wy k0)
  have g2 := hed b (wy k0)
  have cWH_0 := cWH k
  have cWH_1 := cWH k0
  have cR_0 := cR k0
  have f0 := p6_ k
  have f1 := p6_ k0
  clear p6_
  clear hop hed cWH cR
  grind (splits := 24)

set_option maxHeartbeats 1000000 in
theorem pt_rcb_FI {W : Int → Prop} {sd : Int → Int} {op : Int → Int} {ed : Int → Int} {st : Int → Int} {lv : Int → Int} {nm : Int → Int} {inw : Int → Int} {bst : Int → Int} {om : Int → Int} {ps : Int → Int} {dl : Int → Int} {en : Int → Int} {pd : Int → Int} {nL : Int} {kd : Int → Int} {wy : Int → Int} {td : Int → Int} {wh : Int → Int} {b k : Int} (hG : pj_G W sd op ed) (p0_ : W b) (p1_ : 0 ≤ k) (p2_ : k < nL) (p3_ : wh k ≠ 2) (p4_ : kd k = 5) (p5_ : wy k = op b) (p6_ : ∀ j, 0 ≤ j → j < k → wy j = wy k → wh j ≠ 0) (p7_ : pd b = 1) (p8_ : om (sd (op b)) = (ed b)) (p9_ : inw (sd (op b)) = (ed b)) (p10_ : ps (sd (op b)) = 0) (p11_ : lv (sd (op b)) = lv (sd b)) (p12_ : nm (sd (op b)) = nm (sd b)) (p13_ : dl (sd (op b)) = lv (sd (op b))) (p14_ : st (sd (op b)) = 2) (p15_ : td k = bst (sd (op b))) (p16_ : st (sd b) = 1) (p17_ : en b = 1) (p18_ : om (sd b) ≠ (ed b)) (p19_ : 1 ≤ lv (sd b)) (p20_ : ps (sd b) = 0) (p21_ : 0 ≤ nL) (cFI : pj_FI nL wy wh) (cR : pj_R W nL kd wy wh) : pj_FI nL wy (pu wh k 2) := by
  obtain ⟨hop, hed⟩ := hG
  unfold pj_FI pj_R at *
  intro j0 k0
  simp only [pu]
  have g0 := hop b
  have g1 := hop (wy j0)
  have g2 := hop (wy k0)
  have g3 := hed b (wy j0)
  have g4 := hed b (wy k0)
  have g5 := hed (wy j0) (wy k0)
  have cFI_0 := cFI k k
  have cFI_1 := cFI k j0
  have cFI_2 := cFI k k0
  have cFI_3 := cFI j0 k
  have cFI_4 := cFI j0 j0
  have cFI_5 := cFI j0 k0
  have cFI_6 := cFI k0 k
  have cFI_7 := cFI k0 j0
  have cFI_8 := cFI k0 k0
  have cR_0 := cR j0
  have cR_1 := cR k0
  have f0 := p6_ k
  have f1 := p6_ j0
  have f2 := p6_ k0
  clear p6_
  clear hop hed cFI cR
  grind (splits := 24)

set_option maxHeartbeats 1000000 in
theorem pt_rcb_L0 {W : Int → Prop} {sd : Int → Int} {op : Int → Int} {ed : Int → Int} {st : Int → Int} {lv : Int → Int} {nm : Int → Int} {inw : Int → Int} {bst : Int → Int} {om : Int → Int} {ps : Int → Int} {dl : Int → Int} {c0 : Int → Int} {en : Int → Int} {pd : Int → Int} {cw : Int → Int} {nL : Int} {kd : Int → Int} {wy : Int → Int} {ll : Int → Int} {td : Int → Int} {wh : Int → Int} {b k : Int} (hG : pj_G W sd op ed) (p0_ : W b) (p1_ : 0 ≤ k) (p2_ : k < nL) (p3_ : wh k ≠ 2) (p4_ : kd k = 5) (p5_ : wy k = op b) (p6_ : ∀ j, 0 ≤ j → j < k → wy j = wy k → wh j ≠ 0) (p7_ : pd b = 1) (p8_ : om (sd (op b)) = (ed b)) (p9_ : inw (sd (op b)) = (ed b)) (p10_ : ps (sd (op b)) = 0) (p11_ : lv (sd (op b)) = lv (sd b)) (p12_ : nm (sd (op b)) = nm (sd b)) (p13_ : dl (sd (op b)) = lv (sd (op b))) (p14_ : st (sd (op b)) = 2) (p15_ : td k = bst (sd (op b))) (p16_ : st (sd b) = 1) (p17_ : en b = 1) (p18_ : om (sd b) ≠ (ed b)) (p19_ : 1 ≤ lv (sd b)) (p20_ : ps (sd b) = 0) (p21_ : 0 ≤ nL) (cL0 : pj_L0 sd op ed lv nm om ps dl c0 en cw nL kd wy ll wh) (cR : pj_R W nL kd wy wh) : pj_L0 sd op ed lv nm om ps dl c0 en cw nL kd wy ll (pu wh k 2) := by
  obtain ⟨hop, hed⟩ := hG
  unfold pj_L0 pj_R at *
  intro k0
  simp only [pu]
  have g0 := hop b
  have g1 := hop (wy k0)
  have g2 := hed b (wy k0)
  have cL0_0 := cL0 k
  have cL0_1 := cL0 k0
  have cR_0 := cR k0
  have f0 := p6_ k
  have f1 := p6_ k0
  clear p6_
  clear hop hed cL0 cR
  grind (splits := 24)

set_option maxHeartbeats 1000000 in
theorem pt_rcb_FC {W : Int → Prop} {sd : Int → Int} {op : Int → Int} {ed : Int → Int} {st : Int → Int} {lv : Int → Int} {nm : Int → Int} {inw : Int → Int} {bst : Int → Int} {om : Int → Int} {ps : Int → Int} {dl : Int → Int} {en : Int → Int} {pd : Int → Int} {nL : Int} {kd : Int → Int} {wy : Int → Int} {td : Int → Int} {wh : Int → Int} {F : Int → Prop} {b k : Int} (hG : pj_G W sd op ed) (p0_ : W b) (p1_ : 0 ≤ k) (p2_ : k < nL) (p3_ : wh k ≠ 2) (p4_ : kd k = 5) (p5_ : wy k = op b) (p6_ : ∀ j, 0 ≤ j → j < k → wy j = wy k → wh j ≠ 0) (p7_ : pd b = 1) (p8_ : om (sd (op b)) = (ed b)) (p9_ : inw (sd (op b)) = (ed b)) (p10_ : ps (sd (op b)) = 0) (p11_ : lv (sd (op b)) = lv (sd b)) (p12_ : nm (sd (op b)) = nm (sd b)) (p13_ : dl (sd (op b)) = lv (sd (op b))) (p14_ : st (sd (op b)) = 2) (p15_ : td k = bst (sd (op b))) (p16_ : st (sd b) = 1) (p17_ : en b = 1) (p18_ : om (sd b) ≠ (ed b)) (p19_ : 1 ≤ lv (sd b)) (p20_ : ps (sd b) = 0) (p21_ : 0 ≤ nL) (cFC : pj_FC op nL kd wy wh F) (cR : pj_R W nL kd wy wh) : pj_FC op nL kd wy (pu wh k 2) F := by
  obtain ⟨hop, hed⟩ := hG
  unfold pj_FC pj_R at *
  intro k0
  simp only [pu]
  have g0 := hop b
  have g1 := hop (wy k0)
  have g2 := hed b (wy k0)
  have cFC_0 := cFC k
  have cFC_1 := cFC k0
  have cR_0 := cR k0
  have f0 := p6_ k
  have f1 := p6_ k0
  clear p6_
  clear hop hed cFC cR
  grind (splits := 24)

set_option maxHeartbeats 1000000 in
theorem pt_rcb_L0u {W : Int → Prop} {sd : Int → Int} {op : Int → Int} {ed : Int → Int} {st : Int → Int} {lv : Int → Int} {nm : Int → Int} {inw : Int → Int} {bst : Int → Int} {om : Int → Int} {ps : Int → Int} {dl : Int → Int} {en : Int → Int} {pd : Int → Int} {nL : Int} {kd : Int → Int} {wy : Int → Int} {td : Int → Int} {wh : Int → Int} {b k : Int} (hG : pj_G W sd op ed) (p0_ : W b) (p1_ : 0 ≤ k) (p2_ : k < nL) (p3_ : wh k ≠ 2) (p4_ : kd k = 5) (p5_ : wy k = op b) (p6_ : ∀ j, 0 ≤ j → j < k → wy j = wy k → wh j ≠ 0) (p7_ : pd b = 1) (p8_ : om (sd (op b)) = (ed b)) (p9_ : inw (sd (op b)) = (ed b)) (p10_ : ps (sd (op b)) = 0) (p11_ : lv (sd (op b)) = lv (sd b)) (p12_ : nm (sd (op b)) = nm (sd b)) (p13_ : dl (sd (op b)) = lv (sd (op b))) (p14_ : st (sd (op b)) = 2) (p15_ : td k = bst (sd (op b))) (p16_ : st (sd b) = 1) (p17_ : en b = 1) (p18_ : om (sd b) ≠ (ed b)) (p19_ : 1 ≤ lv (sd b)) (p20_ : ps (sd b) = 0) (p21_ : 0 ≤ nL) (cL0u : pj_L0u nL kd wy wh) (cR : pj_R W nL kd wy wh) : pj_L0u nL kd wy (pu wh k 2) := by
  obtain ⟨hop, hed⟩ := hG
  unfold pj_L0u pj_R at *
  intro j0 k0
  simp only [pu]
  have g0 := hop b
  have g1 := hop (wy j0)
  have g2 := hop (wy k0)
  have g3 := hed b (wy j0)
  have g4 := hed b (wy k0)
  have g5 := hed (wy j0) (wy k0)
  have cL0u_0 := cL0u k k
  have cL0u_1 := cL0u k j0
  have cL0u_2 := cL0u k k0
  have cL0u_3 := cL0u j0 k
  have cL0u_4 := cL0u j0 j0
  have cL0u_5 := cL0u j0 k0
  have cL0u_6 := cL0u k0 k
  have cL0u_7 := cL0u k0 j0
  have cL0u_8 := cL0u k0 k0
  have cR_0 := cR j0
  have cR_1 := cR k0
  have f0 := p6_ k
  have f1 := p6_ j0
  have f2 := p6_ k0
  clear p6_
  clear hop hed cL0u cR
  grind (splits := 24)

set_option maxHeartbeats 1000000 in
theorem pt_rcb_OC {W : Int → Prop} {sd : Int → Int} {op : Int → Int} {ed : Int → Int} {st : Int → Int} {lv : Int → Int} {nm : Int → Int} {inw : Int → Int} {bst : Int → Int} {om : Int → Int} {ps : Int → Int} {dl : Int → Int} {en : Int → Int} {pd : Int → Int} {nL : Int} {kd : Int → Int} {wy : Int → Int} {td : Int → Int} {wh : Int → Int} {b k : Int} (hG : pj_G W sd op ed) (p0_ : W b) (p1_ : 0 ≤ k) (p2_ : k < nL) (p3_ : wh k ≠ 2) (p4_ : kd k = 5) (p5_ : wy k = op b) (p6_ : ∀ j, 0 ≤ j → j < k → wy j = wy k → wh j ≠ 0) (p7_ : pd b = 1) (p8_ : om (sd (op b)) = (ed b)) (p9_ : inw (sd (op b)) = (ed b)) (p10_ : ps (sd (op b)) = 0) (p11_ : lv (sd (op b)) = lv (sd b)) (p12_ : nm (sd (op b)) = nm (sd b)) (p13_ : dl (sd (op b)) = lv (sd (op b))) (p14_ : st (sd (op b)) = 2) (p15_ : td k = bst (sd (op b))) (p16_ : st (sd b) = 1) (p17_ : en b = 1) (p18_ : om (sd b) ≠ (ed b)) (p19_ : 1 ≤ lv (sd b)) (p20_ : ps (sd b) = 0) (p21_ : 0 ≤ nL) (cOC : pj_OC nL kd wy wh) (cR : pj_R W nL kd wy wh) : pj_OC nL kd wy (pu wh k 2) := by
  obtain ⟨hop, hed⟩ := hG
  unfold pj_OC pj_R at *
  intro j0 k0
  simp only [pu]
  have g0 := hop b
  have g1 := hop (wy j0)
  have g2 := hop (wy k0)
  have g3 := hed b (wy j0)
  have g4 := hed b (wy k0)
  have g5 := hed (wy j0) (wy k0)
  have cOC_0 := cOC k k
  have cOC_1 := cOC k j0
  have cOC_2 := cOC k k0
  have cOC_3 := cOC j0 k
  have cOC_4 := cOC j0 j0
  have cOC_5 := cOC j0 k0
  have cOC_6 := cOC k0 k
  have cOC_7 := cOC k0 j0
  have cOC_8 := cOC k0 k0
  have cR_0 := cR j0
  have cR_1 := cR k0
  have f0 := p6_ k
  have f1 := p6_ j0
  have f2 := p6_ k0
  clear p6_
  clear hop hed cOC cR
  grind (splits := 24)

set_option maxHeartbeats 1000000 in
theorem pt_rcb_CT {W : Int → Prop} {sd : Int → Int} {op : Int → Int} {ed : Int → Int} {st : Int → Int} {lv : Int → Int} {nm : Int → Int} {inw : Int → Int} {bst : Int → Int} {om : Int → Int} {ps : Int → Int} {dl : Int → Int} {en : Int → Int} {pd : Int → Int} {nL : Int} {kd : Int → Int} {wy : Int → Int} {td : Int → Int} {wh : Int → Int} {b k : Int} (hG : pj_G W sd op ed) (p0_ : W b) (p1_ : 0 ≤ k) (p2_ : k < nL) (p3_ : wh k ≠ 2) (p4_ : kd k = 5) (p5_ : wy k = op b) (p6_ : ∀ j, 0 ≤ j → j < k → wy j = wy k → wh j ≠ 0) (p7_ : pd b = 1) (p8_ : om (sd (op b)) = (ed b)) (p9_ : inw (sd (op b)) = (ed b)) (p10_ : ps (sd (op b)) = 0) (p11_ : lv (sd (op b)) = lv (sd b)) (p12_ : nm (sd (op b)) = nm (sd b)) (p13_ : dl (sd (op b)) = lv (sd (op b))) (p14_ : st (sd (op b)) = 2) (p15_ : td k = bst (sd (op b))) (p16_ : st (sd b) = 1) (p17_ : en b = 1) (p18_ : om (sd b) ≠ (ed b)) (p19_ : 1 ≤ lv (sd b)) (p20_ : ps (sd b) = 0) (p21_ : 0 ≤ nL) (cCT : pj_CT nL kd wy wh) (cR : pj_R W nL kd wy wh) : pj_CT nL kd wy (pu wh k 2) := by
  obtain ⟨hop, hed⟩ := hG
  unfold pj_CT pj_R at *
  intro j0 k0
  simp only [pu]
  have g0 := hop b
  have g1 := hop (wy j0)
  have g2 := hop (wy k0)
  have g3 := hed b (wy j0)
  have g4 := hed b (wy k0)
  have g5 := hed (wy j0) (wy k0)
  have cCT_0 := cCT k k
  have cCT_1 := cCT k j0
  have cCT_2 := cCT k k0
  have cCT_3 := cCT j0 k
  have cCT_4 := cCT j0 j0
  have cCT_5 := cCT j0 k0
  have cCT_6 := cCT k0 k
  have cCT_7 := cCT k0 j0
  have cCT_8 := cCT k0 k0
  have cR_0 := cR j0
  have cR_1 := cR k0
  have f0 := p6_ k
  have f1 := p6_ j0
  have f2 := p6_ k0
  clear p6_
  clear hop hed cCT cR
  grind (splits := 24)

set_option maxHeartbeats 1000000 in
theorem pt_rcb_L1 {W : Int → Prop} {sd : Int → Int} {op : Int → Int} {ed : Int → Int} {st : Int → Int} {lv : Int → Int} {nm : Int → Int} {inw : Int → Int} {bst : Int → Int} {om : Int → Int} {ps : Int → Int} {dl : Int → Int} {en : Int → Int} {pd : Int → Int} {cl : Int → Int} {nL : Int} {kd : Int → Int} {wy : Int → Int} {ll : Int → Int} {td : Int → Int} {ls : Int → Int} {wh : Int → Int} {b k : Int} (hG : pj_G W sd op ed) (p0_ : W b) (p1_ : 0 ≤ k) (p2_ : k < nL) (p3_ : wh k ≠ 2) (p4_ : kd k = 5) (p5_ : wy k = op b) (p6_ : ∀ j, 0 ≤ j → j < k → wy j = wy k → wh j ≠ 0) (p7_ : pd b = 1) (p8_ : om (sd (op b)) = (ed b)) (p9_ : inw (sd (op b)) = (ed b)) (p10_ : ps (sd (op b)) = 0) (p11_ : lv (sd (op b)) = lv (sd b)) (p12_ : nm (sd (op b)) = nm (sd b)) (p13_ : dl (sd (op b)) = lv (sd (op b))) (p14_ : st (sd (op b)) = 2) (p15_ : td k = bst (sd (op b))) (p16_ : st (sd b) = 1) (p17_ : en b = 1) (p18_ : om (sd b) ≠ (ed b)) (p19_ : 1 ≤ lv (sd b)) (p20_ : ps (sd b) = 0) (p21_ : 0 ≤ nL) (cL1 : pj_L1 sd op ed st lv om dl en cl nL kd wy ll td ls wh) (cR : pj_R W nL kd wy wh) : pj_L1 sd op ed st lv om dl en cl nL kd wy ll td ls (pu wh k 2) := by
  obtain ⟨hop, hed⟩ := hG
  unfold pj_L1 pj_R at *
  intro k0
  simp only [pu]
  have g0 := hop b
  have g1 := hop (wy k0)
  have g2 := hed b (wy k0)
  have cL1_0 := cL1 k
  have cL1_1 := cL1 k0
  have cR_0 := cR k0
  have f0 := p6_ k
  have f1 := p6_ k0
  clear p6_
  clear hop hed cL1 cR
  grind (splits := 24)

set_option maxHeartbeats 1000000 in
theorem pt_rcb_L1e {W : Int → Prop} {sd : Int → Int} {op : Int → Int} {ed : Int → Int} {st : Int → Int} {lv : Int → Int} {nm : Int → Int} {inw : Int → Int} {bst : Int → Int} {om : Int → Int} {ps : Int → Int} {dl : Int → Int} {dn : Int → Int} {en : Int → Int} {pd : Int → Int} {nL : Int} {kd : Int → Int} {wy : Int → Int} {ll : Int → Int} {td : Int → Int} {ls : Int → Int} {wh : Int → Int} {b k : Int} (hG : pj_G W sd op ed) (p0_ : W b) (p1_ : 0 ≤ k) (p2_ : k < nL) (p3_ : wh k ≠ 2) (p4_ : kd k = 5) (p5_ : wy k = op b) (p6_ : ∀ j, 0 ≤ j → j < k → wy j = wy k → wh j ≠ 0) (p7_ : pd b = 1) (p8_ : om (sd (op b)) = (ed b)) (p9_ : inw (sd (op b)) = (ed b)) (p10_ : ps (sd (op b)) = 0) (p11_ : lv (sd (op b)) = lv (sd b)) (p12_ : nm (sd (op b)) = nm (sd b)) (p13_ : dl (sd (op b)) = lv (sd (op b))) (p14_ : st (sd (op b)) = 2) (p15_ : td k = bst (sd (op b))) (p16_ : st (sd b) = 1) (p17_ : en b = 1) (p18_ : om (sd b) ≠ (ed b)) (p19_ : 1 ≤ lv (sd b)) (p20_ : ps (sd b) = 0) (p21_ : 0 ≤ nL) (cL1e : pj_L1e sd op dl dn nL kd wy ll td ls wh) (cR : pj_R W nL kd wy wh) : pj_L1e sd op dl dn nL kd wy ll td ls (pu wh k 2) := by
  obtain ⟨hop, hed⟩ := hG
  unfold pj_L1e pj_R at *
  intro k0
  simp only [pu]
  have g0 := hop b
  have g1 := hop (wy k0)
  have g2 := hed b (wy k0)
  have cL1e_0 := cL1e k
  have cL1e_1 := cL1e k0
  have cR_0 := cR k0
  have f0 := p6_ k
  have f1 := p6_ k0
  clear p6_
  clear hop hed cL1e cR
  grind (splits := 24)

set_option maxHeartbeats 1000000 in
theorem pt_rcb_L1o {W : Int → Prop} {sd : Int → Int} {op : Int → Int} {ed : Int → Int} {st : Int → Int} {lv : Int → Int} {nm : Int → Int} {inw : Int → Int} {bst : Int → Int} {om : Int → Int} {ps : Int → Int} {dl : Int → Int} {en : Int → Int} {pd : Int → Int} {nL : Int} {kd : Int → Int} {wy : Int → Int} {ll : Int → Int} {td : Int → Int} {wh : Int → Int} {b k : Int} (hG : pj_G W sd op ed) (p0_ : W b) (p1_ : 0 ≤ k) (p2_ : k < nL) (p3_ : wh k ≠ 2) (p4_ : kd k = 5) (p5_ : wy k = op b) (p6_ : ∀ j, 0 ≤ j → j < k → wy j = wy k → wh j ≠ 0) (p7_ : pd b = 1) (p8_ : om (sd (op b)) = (ed b)) (p9_ : inw (sd (op b)) = (ed b)) (p10_ : ps (sd (op b)) = 0) (p11_ : lv (sd (op b)) = lv (sd b)) (p12_ : nm (sd (op b)) = nm (sd b)) (p13_ : dl (sd (op b)) = lv (sd (op b))) (p14_ : st (sd (op b)) = 2) (p15_ : td k = bst (sd (op b))) (p16_ : st (sd b) = 1) (p17_ : en b = 1) (p18_ : om (sd b) ≠ (ed b)) (p19_ : 1 ≤ lv (sd b)) (p20_ : ps (sd b) = 0) (p21_ : 0 ≤ nL) (cL1o : pj_L1o nL kd wy ll wh) (cR : pj_R W nL kd wy wh) : pj_L1o nL kd wy ll (pu wh k 2) := by
  obtain ⟨hop, hed⟩ := hG
  unfold pj_L1o pj_R at *
  intro j0 k0
  simp only [pu]
  have g0 := hop b
  have g1 := hop (wy j0)
  have g2 := hop (wy k0)
  have g3 := hed b (wy j0)
  have g4 := hed b (wy k0)
  have g5 := hed (wy j0) (wy k0)
  have cL1o_0 := cL1o k k
  have cL1o_1 := cL1o k j0
  have cL1o_2 := cL1o k k0
  have cL1o_3 := cL1o j0 k
  have cL1o_4 := cL1o j0 j0
  have cL1o_5 := cL1o j0 k0
  have cL1o_6 := cL1o k0 k
  have cL1o_7 := cL1o k0 j0
  have cL1o_8 := cL1o k0 k0
  have cR_0 := cR j0
  have cR_1 := cR k0
  have f0 := p6_ k
  have f1 := p6_ j0
  have f2 := p6_ k0
  clear p6_
  clear hop hed cL1o cR
  grind (splits := 24)

set_option maxHeartbeats 1000000 in
theorem pt_rcb_L1b {W : Int → Prop} {sd : Int → Int} {op : Int → Int} {ed : Int → Int} {st : Int → Int} {lv : Int → Int} {nm : Int → Int} {inw : Int → Int} {bst : Int → Int} {om : Int → Int} {ps : Int → Int} {dl : Int → Int} {en : Int → Int} {pd : Int → Int} {cl : Int → Int} {nL : Int} {kd : Int → Int} {wy : Int → Int} {ll : Int → Int} {td : Int → Int} {ls : Int → Int} {wh : Int → Int} {b k : Int} (hG : pj_G W sd op ed) (p0_ : W b) (p1_ : 0 ≤ k) (p2_ : k < nL) (p3_ : wh k ≠ 2) (p4_ : kd k = 5) (p5_ : wy k = op b) (p6_ : ∀ j, 0 ≤ j → j < k → wy j = wy k → wh j ≠ 0) (p7_ : pd b = 1) (p8_ : om (sd (op b)) = (ed b)) (p9_ : inw (sd (op b)) = (ed b)) (p10_ : ps (sd (op b)) = 0) (p11_ : lv (sd (op b)) = lv (sd b)) (p12_ : nm (sd (op b)) = nm (sd b)) (p13_ : dl (sd (op b)) = lv (sd (op b))) (p14_ : st (sd (op b)) = 2) (p15_ : td k = bst (sd (op b))) (p16_ : st (sd b) = 1) (p17_ : en b = 1) (p18_ : om (sd b) ≠ (ed b)) (p19_ : 1 ≤ lv (sd b)) (p20_ : ps (sd b) = 0) (p21_ : 0 ≤ nL) (cL1b : pj_L1b sd ed st om pd nL kd wy td ls wh) (cR : pj_R W nL kd wy wh) (cL1 : pj_L1 sd op ed st lv om dl en cl nL kd wy ll td ls wh) : pj_L1b sd ed st om (pu pd b 0) nL kd wy td ls (pu wh k 2) := by
  obtain ⟨hop, hed⟩ := hG
  unfold pj_L1b pj_R pj_L1 at *
  intro k0
  simp only [pu]
  have g0 := hop b
  have g1 := hop (wy k0)
  have g2 := hed b (wy k0)
  have cL1b_0 := cL1b k
  have cL1b_1 := cL1b k0
  have cR_0 := cR k0
  have cL1_0 := cL1 k
  have cL1_1 := cL1 k0
  have f0 := p6_ k
  have f1 := p6_ k0
  clear p6_
  clear hop hed cL1b cR cL1
  grind (splits := 24)

set_option maxHeartbeats 1000000 in
theorem pt_rcb_L1g {W : Int → Prop} {sd : Int → Int} {op : Int → Int} {ed : Int → Int} {st : Int → Int} {lv : Int → Int} {nm : Int → Int} {inw : Int → Int} {bst : Int → Int} {om : Int → Int} {ps : Int → Int} {dl : Int → Int} {en : Int → Int} {pd : Int → Int} {nL : Int} {kd : Int → Int} {wy : Int → Int} {td : Int → Int} {ls : Int → Int} {wh : Int → Int} {b k : Int} (hG : pj_G W sd op ed) (p0_ : W b) (p1_ : 0 ≤ k) (p2_ : k < nL) (p3_ : wh k ≠ 2) (p4_ : kd k = 5) (p5_ : wy k = op b) (p6_ : ∀ j, 0 ≤ j → j < k → wy j = wy k → wh j ≠ 0) (p7_ : pd b = 1) (p8_ : om (sd (op b)) = (ed b)) (p9_ : inw (sd (op b)) = (ed b)) (p10_ : ps (sd (op b)) = 0) (p11_ : lv (sd (op b)) = lv (sd b)) (p12_ : nm (sd (op b)) = nm (sd b)) (p13_ : dl (sd (op b)) = lv (sd (op b))) (p14_ : st (sd (op b)) = 2) (p15_ : td k = bst (sd (op b))) (p16_ : st (sd b) = 1) (p17_ : en b = 1) (p18_ : om (sd b) ≠ (ed b)) (p19_ : 1 ≤ lv (sd b)) (p20_ : ps (sd b) = 0) (p21_ : 0 ≤ nL) (cL1g : pj_L1g W sd op ed nL kd wy td ls wh) (cR : pj_R W nL kd wy wh) : pj_L1g W sd op ed nL kd wy td ls (pu wh k 2) := by
  obtain ⟨hop, hed⟩ := hG
  unfold pj_L1g pj_R at *
  intro k0 v0
  simp only [pu]
  have g0 := hop b
  have g1 := hop (wy k0)
  have g2 := hop v0
  have g3 := hed b (wy k0)
  have g4 := hed b v0
  have g5 := hed (wy k0) v0
  have cL1g_0 := cL1g k b
  have cL1g_1 := cL1g k (wy k0)
  have cL1g_2 := cL1g k (op (wy k0))
  have cL1g_3 := cL1g k v0
  have cL1g_4 := cL1g k (op v0)
  have cL1g_5 := cL1g k0 b
  have cL1g_6 := cL1g k0 (wy k0)
  have cL1g_7 := cL1g k0 (op (wy k0))
  have cL1g_8 := cL1g k0 v0
  have cL1g_9 := cL1g k0 (op v0)
  have cR_0 := cR k0
  have f0 := p6_ k
  have f1 := p6_ k0
  clear p6_
  clear hop hed cL1g cR
  grind (splits := 24)

set_option maxHeartbeats 1000000 in
theorem pt_rcb_L2 {W : Int → Prop} {sd : Int → Int} {op : Int → Int} {ed : Int → Int} {st : Int → Int} {lv : Int → Int} {nm : Int → Int} {inw : Int → Int} {bst : Int → Int} {tst : Int → Int} {om : Int → Int} {ps : Int → Int} {dl : Int → Int} {en : Int → Int} {pd : Int → Int} {fw : Int → Int} {nL : Int} {kd : Int → Int} {wy : Int → Int} {ll : Int → Int} {td : Int → Int} {wh : Int → Int} {b k : Int} (hG : pj_G W sd op ed) (p0_ : W b) (p1_ : 0 ≤ k) (p2_ : k < nL) (p3_ : wh k ≠ 2) (p4_ : kd k = 5) (p5_ : wy k = op b) (p6_ : ∀ j, 0 ≤ j → j < k → wy j = wy k → wh j ≠ 0) (p7_ : pd b = 1) (p8_ : om (sd (op b)) = (ed b)) (p9_ : inw (sd (op b)) = (ed b)) (p10_ : ps (sd (op b)) = 0) (p11_ : lv (sd (op b)) = lv (sd b)) (p12_ : nm (sd (op b)) = nm (sd b)) (p13_ : dl (sd (op b)) = lv (sd (op b))) (p14_ : st (sd (op b)) = 2) (p15_ : td k = bst (sd (op b))) (p16_ : st (sd b) = 1) (p17_ : en b = 1) (p18_ : om (sd b) ≠ (ed b)) (p19_ : 1 ≤ lv (sd b)) (p20_ : ps (sd b) = 0) (p21_ : 0 ≤ nL) (cL2 : pj_L2 sd op ed st lv nm tst en fw nL kd wy ll td wh) (cR : pj_R W nL kd wy wh) : pj_L2 sd op ed st lv nm tst en fw nL kd wy ll td (pu wh k 2) := by
  obtain ⟨hop, hed⟩ := hG
  unfold pj_L2 pj_R at *
  intro k0
  simp only [pu]
  have g0 := hop b
  have g1 := hop (wy k0)
  have g2 := hed b (wy k0)
  have cL2_0 := cL2 k
  have cL2_1 := cL2 k0
  have cR_0 := cR k0
  have f0 := p6_ k
  have f1 := p6_ k0
  clear p6_
  clear hop hed cL2 cR
  grind (splits := 24)

set_option maxHeartbeats 1000000 in
theorem pt_rcb_L3 {W : Int → Prop} {sd : Int → Int} {op : Int → Int} {ed : Int → Int} {st : Int → Int} {lv : Int → Int} {nm : Int → Int} {inw : Int → Int} {bst : Int → Int} {tst : Int → Int} {om : Int → Int} {ps : Int → Int} {dl : Int → Int} {en : Int → Int} {pd : Int → Int} {fw : Int → Int} {nL : Int} {kd : Int → Int} {wy : Int → Int} {td : Int → Int} {wh : Int → Int} {b k : Int} (hG : pj_G W sd op ed) (p0_ : W b) (p1_ : 0 ≤ k) (p2_ : k < nL) (p3_ : wh k ≠ 2) (p4_ : kd k = 5) (p5_ : wy k = op b) (p6_ : ∀ j, 0 ≤ j → j < k → wy j = wy k → wh j ≠ 0) (p7_ : pd b = 1) (p8_ : om (sd (op b)) = (ed b)) (p9_ : inw (sd (op b)) = (ed b)) (p10_ : ps (sd (op b)) = 0) (p11_ : lv (sd (op b)) = lv (sd b)) (p12_ : nm (sd (op b)) = nm (sd b)) (p13_ : dl (sd (op b)) = lv (sd (op b))) (p14_ : st (sd (op b)) = 2) (p15_ : td k = bst (sd (op b))) (p16_ : st (sd b) = 1) (p17_ : en b = 1) (p18_ : om (sd b) ≠ (ed b)) (p19_ : 1 ≤ lv (sd b)) (p20_ : ps (sd b) = 0) (p21_ : 0 ≤ nL) (cL3 : pj_L3 sd op ed st lv nm tst en fw nL kd wy wh) (cR : pj_R W nL kd wy wh) : pj_L3 sd op ed st lv nm tst en fw nL kd wy (pu wh k 2) := by
  obtain ⟨hop, hed⟩ := hG
  unfold pj_L3 pj_R at *
  intro k0
  simp only [pu]
  have g0 := hop b
  have g1 := hop (wy k0)
  have g2 := hed b (wy k0)
  have cL3_0 := cL3 k
  have cL3_1 := cL3 k0
  have cR_0 := cR k0
  have f0 := p6_ k
  have f1 := p6_ k0
  clear p6_
  clear hop hed cL3 cR
  grind (splits := 24)

set_option maxHeartbeats 1000000 in
theorem pt_rcb_L4 {W : Int → Prop} {sd : Int → Int} {op : Int → Int} {ed : Int → Int} {st : Int → Int} {lv : Int → Int} {nm : Int → Int} {inw : Int → Int} {bst : Int → Int} {tst : Int → Int} {om : Int → Int} {ps : Int → Int} {dl : Int → Int} {en : Int → Int} {pd : Int → Int} {nL : Int} {kd : Int → Int} {wy : Int → Int} {td : Int → Int} {wh : Int → Int} {b k : Int} (hG : pj_G W sd op ed) (p0_ : W b) (p1_ : 0 ≤ k) (p2_ : k < nL) (p3_ : wh k ≠ 2) (p4_ : kd k = 5) (p5_ : wy k = op b) (p6_ : ∀ j, 0 ≤ j → j < k → wy j = wy k → wh j ≠ 0) (p7_ : pd b = 1) (p8_ : om (sd (op b)) = (ed b)) (p9_ : inw (sd (op b)) = (ed b)) (p10_ : ps (sd (op b)) = 0) (p11_ : lv (sd (op b)) = lv (sd b)) (p12_ : nm (sd (op b)) = nm (sd b)) (p13_ : dl (sd (op b)) = lv (sd (op b))) (p14_ : st (sd (op b)) = 2) (p15_ : td k = bst (sd (op b))) (p16_ : st (sd b) = 1) (p17_ : en b = 1) (p18_ : om (sd b) ≠ (ed b)) (p19_ : 1 ≤ lv (sd b)) (p20_ : ps (sd b) = 0) (p21_ : 0 ≤ nL) (cL4 : pj_L4 sd op ed st tst en nL kd wy wh) (cR : pj_R W nL kd wy wh) : pj_L4 sd op ed st tst en nL kd wy (pu wh k 2) := by
  obtain ⟨hop, hed⟩ := hG
  unfold pj_L4 pj_R at *
  intro k0
  simp only [pu]
  have g0 := hop b
  have g1 := hop (wy k0)
  have g2 := hed b (wy k0)
  have cL4_0 := cL4 k
  have cL4_1 := cL4 k0
  have cR_0 := cR k0
  have f0 := p6_ k
  have f1 := p6_ k0
  clear p6_
  clear hop hed cL4 cR
  grind (splits := 24)

set_option maxHeartbeats 1000000 in
theorem pt_rcb_AF {W : Int → Prop} {sd : Int → Int} {op : Int → Int} {ed : Int → Int} {st : Int → Int} {lv : Int → Int} {nm : Int → Int} {inw : Int → Int} {bst : Int → Int} {tst : Int → Int} {om : Int → Int} {ps : Int → Int} {dl : Int → Int} {af : Int → Int} {en : Int → Int} {pd : Int → Int} {nL : Int} {kd : Int → Int} {wy : Int → Int} {td : Int → Int} {wh : Int → Int} {b k : Int} (hG : pj_G W sd op ed) (p0_ : W b) (p1_ : 0 ≤ k) (p2_ : k < nL) (p3_ : wh k ≠ 2) (p4_ : kd k = 5) (p5_ : wy k = op b) (p6_ : ∀ j, 0 ≤ j → j < k → wy j = wy k → wh j ≠ 0) (p7_ : pd b = 1) (p8_ : om (sd (op b)) = (ed b)) (p9_ : inw (sd (op b)) = (ed b)) (p10_ : ps (sd (op b)) = 0) (p11_ : lv (sd (op b)) = lv (sd b)) (p12_ : nm (sd (op b)) = nm (sd b)) (p13_ : dl (sd (op b)) = lv (sd (op b))) (p14_ : st (sd (op b)) = 2) (p15_ : td k = bst (sd (op b))) (p16_ : st (sd b) = 1) (p17_ : en b = 1) (p18_ : om (sd b) ≠ (ed b)) (p19_ : 1 ≤ lv (sd b)) (p20_ : ps (sd b) = 0) (p21_ : 0 ≤ nL) (cAF : pj_AF W sd op ed tst af nL kd wy wh) : pj_AF W sd op ed tst af nL kd wy (pu wh k 2) := by
  obtain ⟨hop, hed⟩ := hG
  unfold pj_AF at *
  intro v0
  simp only [pu]
  have g0 := hop b
  have g1 := hop v0
  have g2 := hed b v0
  have cAF_0 := cAF b
  have cAF_1 := cAF v0
  have cAF_2 := cAF (op v0)
  have f0 := p6_ k
  clear p6_
  clear hop hed cAF
  grind (splits := 24)

set_option maxHeartbeats 1000000 in
theorem pt_rcb_RT {W : Int → Prop} {sd : Int → Int} {op : Int → Int} {ed : Int → Int} {st : Int → Int} {lv : Int → Int} {nm : Int → Int} {inw : Int → Int} {bst : Int → Int} {tst : Int → Int} {om : Int → Int} {ps : Int → Int} {dl : Int → Int} {en : Int → Int} {pd : Int → Int} {nL : Int} {kd : Int → Int} {wy : Int → Int} {td : Int → Int} {wh : Int → Int} {b k : Int} (hG : pj_G W sd op ed) (p0_ : W b) (p1_ : 0 ≤ k) (p2_ : k < nL) (p3_ : wh k ≠ 2) (p4_ : kd k = 5) (p5_ : wy k = op b) (p6_ : ∀ j, 0 ≤ j → j < k → wy j = wy k → wh j ≠ 0) (p7_ : pd b = 1) (p8_ : om (sd (op b)) = (ed b)) (p9_ : inw (sd (op b)) = (ed b)) (p10_ : ps (sd (op b)) = 0) (p11_ : lv (sd (op b)) = lv (sd b)) (p12_ : nm (sd (op b)) = nm (sd b)) (p13_ : dl (sd (op b)) = lv (sd (op b))) (p14_ : st (sd (op b)) = 2) (p15_ : td k = bst (sd (op b))) (p16_ : st (sd b) = 1) (p17_ : en b = 1) (p18_ : om (sd b) ≠ (ed b)) (p19_ : 1 ≤ lv (sd b)) (p20_ : ps (sd b) = 0) (p21_ : 0 ≤ nL) (cRT : pj_RT sd ed tst nL kd wy wh) (cR : pj_R W nL kd wy wh) : pj_RT sd ed tst nL kd wy (pu wh k 2) := by
  obtain ⟨hop, hed⟩ := hG
  unfold pj_RT pj_R at *
  intro j0 k0
  simp only [pu]
  have g0 := hop b
  have g1 := hop (wy j0)
  have g2 := hop (wy k0)
  have g3 := hed b (wy j0)
  have g4 := hed b (wy k0)
  have g5 := hed (wy j0) (wy k0)
  have cRT_0 := cRT k k
  have cRT_1 := cRT k j0
  have cRT_2 := cRT k k0
  have cRT_3 := cRT j0 k
  have cRT_4 := cRT j0 j0
  have cRT_5 := cRT j0 k0
  have cRT_6 := cRT k0 k
  have cRT_7 := cRT k0 j0
  have cRT_8 := cRT k0 k0
  have cR_0 := cR j0
  have cR_1 := cR k0
  have f0 := p6_ k
  have f1 := p6_ j0
  have f2 := p6_ k0
  clear p6_
  clear hop hed cRT cR
  grind (splits := 24)

set_option maxHeartbeats 1000000 in
theorem pt_rcb_CV {W : Int → Prop} {sd : Int → Int} {op : Int → Int} {ed : Int → Int} {st : Int → Int} {lv : Int → Int} {nm : Int → Int} {inw : Int → Int} {bst : Int → Int} {tst : Int → Int} {om : Int → Int} {ps : Int → Int} {dl : Int → Int} {en : Int → Int} {pd : Int → Int} {nL : Int} {kd : Int → Int} {wy : Int → Int} {td : Int → Int} {wh : Int → Int} {b k : Int} (hG : pj_G W sd op ed) (p0_ : W b) (p1_ : 0 ≤ k) (p2_ : k < nL) (p3_ : wh k ≠ 2) (p4_ : kd k = 5) (p5_ : wy k = op b) (p6_ : ∀ j, 0 ≤ j → j < k → wy j = wy k → wh j ≠ 0) (p7_ : pd b = 1) (p8_ : om (sd (op b)) = (ed b)) (p9_ : inw (sd (op b)) = (ed b)) (p10_ : ps (sd (op b)) = 0) (p11_ : lv (sd (op b)) = lv (sd b)) (p12_ : nm (sd (op b)) = nm (sd b)) (p13_ : dl (sd (op b)) = lv (sd (op b))) (p14_ : st (sd (op b)) = 2) (p15_ : td k = bst (sd (op b))) (p16_ : st (sd b) = 1) (p17_ : en b = 1) (p18_ : om (sd b) ≠ (ed b)) (p19_ : 1 ≤ lv (sd b)) (p20_ : ps (sd b) = 0) (p21_ : 0 ≤ nL) (cCV : pj_CV W sd op ed tst nL kd wy wh) (cR : pj_R W nL kd wy wh) : pj_CV W sd op ed tst nL kd wy (pu wh k 2) := by
  obtain ⟨hop, hed⟩ := hG
  unfold pj_CV pj_R at *
  intro v0 j0 k0
  simp only [pu]
  have g0 := hop b
  have g1 := hop v0
  have g2 := hop (wy j0)
  have g3 := hop (wy k0)
  have g4 := hed b v0
  have g5 := hed b (wy j0)
  have g6 := hed b (wy k0)
  have g7 := hed v0 (wy j0)
  have g8 := hed v0 (wy k0)
  have g9 := hed (wy j0) (wy k0)
  have cCV_0 := cCV v0 j0 k0
  have cR_0 := cR j0
  have cR_1 := cR k0
  have f0 := p6_ k
  have f1 := p6_ j0
  have f2 := p6_ k0
  clear p6_
  clear hop hed cCV cR
  grind (splits := 24)

set_option maxHeartbeats 1000000 in
theorem pt_rcb_L5 {W : Int → Prop} {sd : Int → Int} {op : Int → Int} {ed : Int → Int} {st : Int → Int} {lv : Int → Int} {nm : Int → Int} {inw : Int → Int} {bst : Int → Int} {om : Int → Int} {ps : Int → Int} {dl : Int → Int} {en : Int → Int} {pd : Int → Int} {rp : Int → Int} {rv : Int → Int} {cl : Int → Int} {tk : Int → Int} {nL : Int} {kd : Int → Int} {wy : Int → Int} {td : Int → Int} {wh : Int → Int} {b k : Int} (hG : pj_G W sd op ed) (p0_ : W b) (p1_ : 0 ≤ k) (p2_ : k < nL) (p3_ : wh k ≠ 2) (p4_ : kd k = 5) (p5_ : wy k = op b) (p6_ : ∀ j, 0 ≤ j → j < k → wy j = wy k → wh j ≠ 0) (p7_ : pd b = 1) (p8_ : om (sd (op b)) = (ed b)) (p9_ : inw (sd (op b)) = (ed b)) (p10_ : ps (sd (op b)) = 0) (p11_ : lv (sd (op b)) = lv (sd b)) (p12_ : nm (sd (op b)) = nm (sd b)) (p13_ : dl (sd (op b)) = lv (sd (op b))) (p14_ : st (sd (op b)) = 2) (p15_ : td k = bst (sd (op b))) (p16_ : st (sd b) = 1) (p17_ : en b = 1) (p18_ : om (sd b) ≠ (ed b)) (p19_ : 1 ≤ lv (sd b)) (p20_ : ps (sd b) = 0) (p21_ : 0 ≤ nL) (cL5 : pj_L5 sd op ed st lv nm inw bst om ps dl pd rp rv cl tk nL kd wy td wh) (cR : pj_R W nL kd wy wh) (cL5u : pj_L5u nL kd wy wh) : pj_L5 sd op ed st lv nm inw bst om ps dl (pu pd b 0) rp rv cl tk nL kd wy td (pu wh k 2) := by
  obtain ⟨hop, hed⟩ := hG
  unfold pj_L5 pj_R pj_L5u at *
  intro k0
  simp only [pu]
  have g0 := hop b
  have g1 := hop (wy k0)
  have g2 := hed b (wy k0)
  have cL5_0 := cL5 k
  have cL5_1 := cL5 k0
  have cR_0 := cR k0
  have cL5u_0 := cL5u k0 k
  have f0 := p6_ k
  have f1 := p6_ k0
  clear p6_
  clear hop hed cL5 cR cL5u
  grind (splits := 24)

set_option maxHeartbeats 1000000 in
theorem pt_rcb_L5o {W : Int → Prop} {sd : Int → Int} {op : Int → Int} {ed : Int → Int} {st : Int → Int} {lv : Int → Int} {nm : Int → Int} {inw : Int → Int} {bst : Int → Int} {om : Int → Int} {ps : Int → Int} {dl : Int → Int} {en : Int → Int} {pd : Int → Int} {cl : Int → Int} {nL : Int} {kd : Int → Int} {wy : Int → Int} {td : Int → Int} {wh : Int → Int} {b k : Int} (hG : pj_G W sd op ed) (p0_ : W b) (p1_ : 0 ≤ k) (p2_ : k < nL) (p3_ : wh k ≠ 2) (p4_ : kd k = 5) (p5_ : wy k = op b) (p6_ : ∀ j, 0 ≤ j → j < k → wy j = wy k → wh j ≠ 0) (p7_ : pd b = 1) (p8_ : om (sd (op b)) = (ed b)) (p9_ : inw (sd (op b)) = (ed b)) (p10_ : ps (sd (op b)) = 0) (p11_ : lv (sd (op b)) = lv (sd b)) (p12_ : nm (sd (op b)) = nm (sd b)) (p13_ : dl (sd (op b)) = lv (sd (op b))) (p14_ : st (sd (op b)) = 2) (p15_ : td k = bst (sd (op b))) (p16_ : st (sd b) = 1) (p17_ : en b = 1) (p18_ : om (sd b) ≠ (ed b)) (p19_ : 1 ≤ lv (sd b)) (p20_ : ps (sd b) = 0) (p21_ : 0 ≤ nL) (cL5o : pj_L5o sd op ed lv cl nL kd wy wh) (cR : pj_R W nL kd wy wh) : pj_L5o sd op ed lv cl nL kd wy (pu wh k 2) := by
  obtain ⟨hop, hed⟩ := hG
  unfold pj_L5o pj_R at *
  intro j0 k0
  simp only [pu]
  have g0 := hop b
  have g1 := hop (wy j0)
  have g2 := hop (wy k0)
  have g3 := hed b (wy j0)
  have g4 := hed b (wy k0)
  have g5 := hed (wy j0) (wy k0)
  have cL5o_0 := cL5o k k
  have cL5o_1 := cL5o k j0
  have cL5o_2 := cL5o k k0
  have cL5o_3 := cL5o j0 k
  have cL5o_4 := cL5o j0 j0
  have cL5o_5 := cL5o j0 k0
  have cL5o_6 := cL5o k0 k
  have cL5o_7 := cL5o k0 j0
  have cL5o_8 := cL5o k0 k0
  have cR_0 := cR j0
  have cR_1 := cR k0
  have f0 := p6_ k
  have f1 := p6_ j0
  have f2 := p6_ k0
  clear p6_
  clear hop hed cL5o cR
  grind (splits := 24)

set_option maxHeartbeats 1000000 in
theorem pt_rcb_L5u {W : Int → Prop} {sd : Int → Int} {op : Int → Int} {ed : Int → Int} {st : Int → Int} {lv : Int → Int} {nm : Int → Int} {inw : Int → Int} {bst : Int → Int} {om : Int → Int} {ps : Int → Int} {dl : Int → Int} {en : Int → Int} {pd : Int → Int} {nL : Int} {kd : Int → Int} {wy : Int → Int} {td : Int → Int} {wh : Int → Int} {b k : Int} (hG : pj_G W sd op ed) (p0_ : W b) (p1_ : 0 ≤ k) (p2_ : k < nL) (p3_ : wh k ≠ 2) (p4_ : kd k = 5) (p5_ : wy k = op b) (p6_ : ∀ j, 0 ≤ j → j < k → wy j = wy k → wh j ≠ 0) (p7_ : pd b = 1) (p8_ : om (sd (op b)) = (ed b)) (p9_ : inw (sd (op b)) = (ed b)) (p10_ : ps (sd (op b)) = 0) (p11_ : lv (sd (op b)) = lv (sd b)) (p12_ : nm (sd (op b)) = nm (sd b)) (p13_ : dl (sd (op b)) = lv (sd (op b))) (p14_ : st (sd (op b)) = 2) (p15_ : td k = bst (sd (op b))) (p16_ : st (sd b) = 1) (p17_ : en b = 1) (p18_ : om (sd b) ≠ (ed b)) (p19_ : 1 ≤ lv (sd b)) (p20_ : ps (sd b) = 0) (p21_ : 0 ≤ nL) (cL5u : pj_L5u nL kd wy wh) (cR : pj_R W nL kd wy wh) : pj_L5u nL kd wy (pu wh k 2) := by
  obtain ⟨hop, hed⟩ := hG
  unfold pj_L5u pj_R at *
  intro j0 k0
  simp only [pu]
  have g0 := hop b
  have g1 := hop (wy j0)
  have g2 := hop (wy k0)
  have g3 := hed b (wy j0)
  have g4 := hed b (wy k0)
  have g5 := hed (wy j0) (wy k0)
  have cL5u_0 := cL5u k k
  have cL5u_1 := cL5u k j0
  have cL5u_2 := cL5u k k0
  have cL5u_3 := cL5u j0 k
  have cL5u_4 := cL5u j0 j0
  have cL5u_5 := cL5u j0 k0
  have cL5u_6 := cL5u k0 k
  have cL5u_7 := cL5u k0 j0
  have cL5u_8 := cL5u k0 k0
  have cR_0 := cR j0
  have cR_1 := cR k0
  have f0 := p6_ k
  have f1 := p6_ j0
  have f2 := p6_ k0
  clear p6_
  clear hop hed cL5u cR
  grind (splits := 24)

set_option maxHeartbeats 1000000 in
theorem pt_rcb_L6 {W : Int → Prop} {sd : Int → Int} {op : Int → Int} {ed : Int → Int} {st : Int → Int} {lv : Int → Int} {nm : Int → Int} {inw : Int → Int} {tow : Int → Int} {bst : Int → Int} {om : Int → Int} {ps : Int → Int} {dl : Int → Int} {en : Int → Int} {pd : Int → Int} {cw : Int → Int} {tk : Int → Int} {nL : Int} {kd : Int → Int} {wy : Int → Int} {td : Int → Int} {wh : Int → Int} {b k : Int} (hG : pj_G W sd op ed) (p0_ : W b) (p1_ : 0 ≤ k) (p2_ : k < nL) (p3_ : wh k ≠ 2) (p4_ : kd k = 5) (p5_ : wy k = op b) (p6_ : ∀ j, 0 ≤ j → j < k → wy j = wy k → wh j ≠ 0) (p7_ : pd b = 1) (p8_ : om (sd (op b)) = (ed b)) (p9_ : inw (sd (op b)) = (ed b)) (p10_ : ps (sd (op b)) = 0) (p11_ : lv (sd (op b)) = lv (sd b)) (p12_ : nm (sd (op b)) = nm (sd b)) (p13_ : dl (sd (op b)) = lv (sd (op b))) (p14_ : st (sd (op b)) = 2) (p15_ : td k = bst (sd (op b))) (p16_ : st (sd b) = 1) (p17_ : en b = 1) (p18_ : om (sd b) ≠ (ed b)) (p19_ : 1 ≤ lv (sd b)) (p20_ : ps (sd b) = 0) (p21_ : 0 ≤ nL) (cL6 : pj_L6 sd op ed st lv nm tow om ps dl cw tk nL kd wy wh) (cR : pj_R W nL kd wy wh) : pj_L6 sd op ed st lv nm tow om ps dl cw tk nL kd wy (pu wh k 2) := by
  obtain ⟨hop, hed⟩ := hG
  unfold pj_L6 pj_R at *
  intro k0
  simp only [pu]
  have g0 := hop b
  have g1 := hop (wy k0)
  have g2 := hed b (wy k0)
  have cL6_0 := cL6 k
  have cL6_1 := cL6 k0
  have cR_0 := cR k0
  have f0 := p6_ k
  have f1 := p6_ k0
  clear p6_
  clear hop hed cL6 cR
  grind (splits := 24)

set_option maxHeartbeats 1000000 in
theorem pt_rcb_L6u {W : Int → Prop} {sd : Int → Int} {op : Int → Int} {ed : Int → Int} {st : Int → Int} {lv : Int → Int} {nm : Int → Int} {inw : Int → Int} {bst : Int → Int} {om : Int → Int} {ps : Int → Int} {dl : Int → Int} {en : Int → Int} {pd : Int → Int} {nL : Int} {kd : Int → Int} {wy : Int → Int} {td : Int → Int} {wh : Int → Int} {b k : Int} (hG : pj_G W sd op ed) (p0_ : W b) (p1_ : 0 ≤ k) (p2_ : k < nL) (p3_ : wh k ≠ 2) (p4_ : kd k = 5) (p5_ : wy k = op b) (p6_ : ∀ j, 0 ≤ j → j < k → wy j = wy k → wh j ≠ 0) (p7_ : pd b = 1) (p8_ : om (sd (op b)) = (ed b)) (p9_ : inw (sd (op b)) = (ed b)) (p10_ : ps (sd (op b)) = 0) (p11_ : lv (sd (op b)) = lv (sd b)) (p12_ : nm (sd (op b)) = nm (sd b)) (p13_ : dl (sd (op b)) = lv (sd (op b))) (p14_ : st (sd (op b)) = 2) (p15_ : td k = bst (sd (op b))) (p16_ : st (sd b) = 1) (p17_ : en b = 1) (p18_ : om (sd b) ≠ (ed b)) (p19_ : 1 ≤ lv (sd b)) (p20_ : ps (sd b) = 0) (p21_ : 0 ≤ nL) (cL6u : pj_L6u sd op nm nL kd wy wh) (cR : pj_R W nL kd wy wh) : pj_L6u sd op nm nL kd wy (pu wh k 2) := by
  obtain ⟨hop, hed⟩ := hG
  unfold pj_L6u pj_R at *
  intro j0 k0
  simp only [pu]
  have g0 := hop b
  have g1 := hop (wy j0)
  have g2 := hop (wy k0)
  have g3 := hed b (wy j0)
  have g4 := hed b (wy k0)
  have g5 := hed (wy j0) (wy k0)
  have cL6u_0 := cL6u k k
  have cL6u_1 := cL6u k j0
  have cL6u_2 := cL6u k k0
  have cL6u_3 := cL6u j0 k
  have cL6u_4 := cL6u j0 j0
  have cL6u_5 := cL6u j0 k0
  have cL6u_6 := cL6u k0 k
  have cL6u_7 := cL6u k0 j0
  have cL6u_8 := cL6u k0 k0
  have cR_0 := cR j0
  have cR_1 := cR k0
  have f0 := p6_ k
  have f1 := p6_ j0
  have f2 := p6_ k0
  clear p6_
  clear hop hed cL6u cR
  grind (splits := 24)

theorem pj_rcb {W : Int → Prop} {sd op ed : Int → Int} {li : Int → Int → Prop} {st lv nm inw tow bst tst exp om ps dl dn af c0 en pd rp rv fw cl cw tk kd wy ll td ls wh : Int → Int} {nL : Int} {F F2 : Int → Prop} {fl fc : Int} {b k : Int} (hG : pj_G W sd op ed) (p0_ : W b) (p1_ : 0 ≤ k) (p2_ : k < nL) (p3_ : wh k ≠ 2) (p4_ : kd k = 5) (p5_ : wy k = op b) (p6_ : ∀ j, 0 ≤ j → j < k → wy j = wy k → wh j ≠ 0) (p7_ : pd b = 1) (p8_ : om (sd (op b)) = (ed b)) (p9_ : inw (sd (op b)) = (ed b)) (p10_ : ps (sd (op b)) = 0) (p11_ : lv (sd (op b)) = lv (sd b)) (p12_ : nm (sd (op b)) = nm (sd b)) (p13_ : dl (sd (op b)) = lv (sd (op b))) (p14_ : st (sd (op b)) = 2) (p15_ : td k = bst (sd (op b))) (p16_ : st (sd b) = 1) (p17_ : en b = 1) (p18_ : om (sd b) ≠ (ed b)) (p19_ : 1 ≤ lv (sd b)) (p20_ : ps (sd b) = 0) (p21_ : 0 ≤ nL) (h : pj_J W sd op ed li st lv nm inw tow bst tst exp om ps dl dn af c0 en pd rp rv fw cl cw tk nL kd wy ll td ls wh F fl fc) : pj_J W sd op ed li st lv nm inw tow bst tst exp om ps dl dn af c0 en (pu pd b 0) rp rv fw cl cw tk nL kd wy ll td ls (pu wh k 2) F fl fc := by
  obtain ⟨cR, cN0, cN1, cN1w, cER, cN1c, cN2, cN2e, cN2b, cN4e, cN4b, cN5, cN7, cN10, cN10e, cN13, cC1, cC2, cR3a, cE1, cU, cA1, cA2, cEC, cR3, cN11, cN12, cN3, cRJ, cFW, cPD, cCC, cCD, cRP, cRP1, cCR, cZ1, cZ0, cTK, cK2, cWH, cFI, cL0, cFC, cL0u, cOC, cCT, cL1, cL1e, cL1o, cL1b, cL1g, cL2, cL3, cL4, cAF, cRT, cCV, cL5, cL5o, cL5u, cL6, cL6u⟩ := h
  exact ⟨pt_rcb_R hG p0_ p1_ p2_ p3_ p4_ p5_ p6_ p7_ p8_ p9_ p10_ p11_ p12_ p13_ p14_ p15_ p16_ p17_ p18_ p19_ p20_ p21_ cR, cN0, cN1, cN1w, cER, pt_rcb_N1c hG p0_ p1_ p2_ p3_ p4_ p5_ p6_ p7_ p8_ p9_ p10_ p11_ p12_ p13_ p14_ p15_ p16_ p17_ p18_ p19_ p20_ p21_ cN1c cR, cN2, cN2e, cN2b, cN4e, cN4b, cN5, cN7, cN10, cN10e, cN13, cC1, cC2, cR3a, pt_rcb_E1 hG p0_ p1_ p2_ p3_ p4_ p5_ p6_ p7_ p8_ p9_ p10_ p11_ p12_ p13_ p14_ p15_ p16_ p17_ p18_ p19_ p20_ p21_ cE1, cU, cA1, cA2, pt_rcb_EC hG p0_ p1_ p2_ p3_ p4_ p5_ p6_ p7_ p8_ p9_ p10_ p11_ p12_ p13_ p14_ p15_ p16_ p17_ p18_ p19_ p20_ p21_ cEC, pt_rcb_R3 hG p0_ p1_ p2_ p3_ p4_ p5_ p6_ p7_ p8_ p9_ p10_ p11_ p12_ p13_ p14_ p15_ p16_ p17_ p18_ p19_ p20_ p21_ cR3, cN11, cN12, cN3, cRJ, cFW, pt_rcb_PD hG p0_ p1_ p2_ p3_ p4_ p5_ p6_ p7_ p8_ p9_ p10_ p11_ p12_ p13_ p14_ p15_ p16_ p17_ p18_ p19_ p20_ p21_ cPD, cCC, cCD, cRP, cRP1, cCR, cZ1, cZ0, cTK, cK2, pt_rcb_WH hG p0_ p1_ p2_ p3_ p4_ p5_ p6_ p7_ p8_ p9_ p10_ p11_ p12_ p13_ p14_ p15_ p16_ p17_ p18_ p19_ p20_ p21_ cWH cR, pt_rcb_FI hG p0_ p1_ p2_ p3_ p4_ p5_ p6_ p7_ p8_ p9_ p10_ p11_ p12_ p13_ p14_ p15_ p16_ p17_ p18_ p19_ p20_ p21_ cFI cR, pt_rcb_L0 hG p0_ p1_ p2_ p3_ p4_ p5_ p6_ p7_ p8_ p9_ p10_ p11_ p12_ p13_ p14_ p15_ p16_ p17_ p18_ p19_ p20_ p21_ cL0 cR, pt_rcb_FC hG p0_ p1_ p2_ p3_ p4_ p5_ p6_ p7_ p8_ p9_ p10_ p11_ p12_ p13_ p14_ p15_ p16_ p17_ p18_ p19_ p20_ p21_ cFC cR, pt_rcb_L0u hG p0_ p1_ p2_ p3_ p4_ p5_ p6_ p7_ p8_ p9_ p10_ p11_ p12_ p13_ p14_ p15_ p16_ p17_ p18_ p19_ p20_ p21_ cL0u cR, pt_rcb_OC hG p0_ p1_ p2_ p3_ p4_ p5_ p6_ p7_ p8_ p9_ p10_ p11_ p12_ p13_ p14_ p15_ p16_ p17_ p18_ p19_ p20_ p21_ cOC cR, pt_rcb_CT hG p0_ p1_ p2_ p3_ p4_ p5_ p6_ p7_ p8_ p9_ p10_ p11_ p12_ p13_ p14_ p15_ p16_ p17_ p18_ p19_ p20_ p21_ cCT cR, pt_rcb_L1 hG p0_ p1_ p2_ p3_ p4_ p5_ p6_ p7_ p8_ p9_ p10_ p11_ p12_ p13_ p14_ p15_ p16_ p17_ p18_ p19_ p20_ p21_ cL1 cR, pt_rcb_L1e hG p0_ p1_ p2_ p3_ p4_ p5_ p6_ p7_ p8_ p9_ p10_ p11_ p12_ p13_ p14_ p15_ p16_ p17_ p18_ p19_ p20_ p21_ cL1e cR, pt_rcb_L1o hG p0_ p1_ p2_ p3_ p4_ p5_ p6_ p7_ p8_ p9_ p10_ p11_ p12_ p13_ p14_ p15_ p16_ p17_ p18_ p19_ p20_ p21_ cL1o cR, pt_rcb_L1b hG p0_ p1_ p2_ p3_ p4_ p5_ p6_ p7_ p8_ p9_ p10_ p11_ p12_ p13_ p14_ p15_ p16_ p17_ p18_ p19_ p20_ p21_ cL1b cR cL1, pt_rcb_L1g hG p0_ p1_ p2_ p3_ p4_ p5_ p6_ p7_ p8_ p9_ p10_ p11_ p12_ p13_ p14_ p15_ p16_ p17_ p18_ p19_ p20_ p21_ cL1g cR, pt_rcb_L2 hG p0_ p1_ p2_ p3_ p4_ p5_ p6_ p7_ p8_ p9_ p10_ p11_ p12_ p13_ p14_ p15_ p16_ p17_ p18_ p19_ p20_ p21_ cL2 cR, pt_rcb_L3 hG p0_ p1_ p2_ p3_ p4_ p5_ p6_ p7_ p8_ p9_ p10_ p11_ p12_ p13_ p14_ p15_ p16_ p17_ p18_ p19_ p20_ p21_ cL3 cR, pt_rcb_L4 hG p0_ p1_ p2_ p3_ p4_ p5_ p6_ p7_ p8_ p9_ p10_ p11_ p12_ p13_ p14_ p15_ p16_ p17_ p18_ p19_ p20_ p21_ cL4 cR, pt_rcb_AF hG p0_ p1_ p2_ p3_ p4_ p5_ p6_ p7_ p8_ p9_ p10_ p11_ p12_ p13_ p14_ p15_ p16_ p17_ p18_ p19_ p20_ p21_ cAF, pt_rcb_RT hG p0_ p1_ p2_ p3_ p4_ p5_ p6_ p7_ p8_ p9_ p10_ p11_ p12_ p13_ p14_ p15_ p16_ p17_ p18_ p19_ p20_ p21_ cRT cR, pt_rcb_CV hG p0_ p1_ p2_ p3_ p4_ p5_ p6_ p7_ p8_ p9_ p10_ p11_ p12_ p13_ p14_ p15_ p16_ p17_ p18_ p19_ p20_ p21_ cCV cR, pt_rcb_L5 hG p0_ p1_ p2_ p3_ p4_ p5_ p6_ p7_ p8_ p9_ p10_ p11_ p12_ p13_ p14_ p15_ p16_ p17_ p18_ p19_ p20_ p21_ cL5 cR cL5u, pt_rcb_L5o hG p0_ p1_ p2_ p3_ p4_ p5_ p6_ p7_ p8_ p9_ p10_ p11_ p12_ p13_ p14_ p15_ p16_ p17_ p18_ p19_ p20_ p21_ cL5o cR, pt_rcb_L5u hG p0_ p1_ p2_ p3_ p4_ p5_ p6_ p7_ p8_ p9_ p10_ p11_ p12_ p13_ p14_ p15_ p16_ p17_ p18_ p19_ p20_ p21_ cL5u cR, pt_rcb_L6 hG p0_ p1_ p2_ p3_ p4_ p5_ p6_ p7_ p8_ p9_ p10_ p11_ p12_ p13_ p14_ p15_ p16_ p17_ p18_ p19_ p20_ p21_ cL6 cR, pt_rcb_L6u hG p0_ p1_ p2_ p3_ p4_ p5_ p6_ p7_ p8_ p9_ p10_ p11_ p12_ p13_ p14_ p15_ p16_ p17_ p18_ p19_ p20_ p21_ cL6u cR⟩

set_option maxHeartbeats 1000000 in
theorem pt_rh_R {W : Int → Prop} {sd : Int → Int} {op : Int → Int} {ed : Int → Int} {st : Int → Int} {lv : Int → Int} {nm : Int → Int} {ps : Int → Int} {rp : Int → Int} {rv : Int → Int} {cl : Int → Int} {nL : Int} {kd : Int → Int} {wy : Int → Int} {td : Int → Int} {wh : Int → Int} {b k : Int} (hG : pj_G W sd op ed) (p0_ : W b) (p1_ : 0 ≤ k) (p2_ : k < nL) (p3_ : wh k ≠ 2) (p4_ : kd k = 5) (p5_ : wy k = op b) (p6_ : ∀ j, 0 ≤ j → j < k → wy j = wy k → wh j ≠ 0) (p7_ : rp (op b) = 1) (p8_ : rv (op b) = td k) (p9_ : lv (sd b) = cl (ed b)) (p10_ : nm (sd b) = (ed b)) (p11_ : ps (sd b) = 0) (p12_ : st (sd b) = 2) (p13_ : 1 ≤ lv (sd b)) (p14_ : 0 ≤ nL) (cR : pj_R W nL kd wy wh) : pj_R W nL kd wy (pu wh k 2) := by
  obtain ⟨hop, hed⟩ := hG
  unfold pj_R at *
  intro k0
  simp only [pu]
  have g0 := hop b
  have g1 := hop (wy k0)
  have g2 := hed b (wy k0)
  have cR_0 := cR k
  have cR_1 := cR k0
  have f0 := p6_ k
  have f1 := p6_ k0
  clear p6_
  clear hop hed cR
  grind (splits := 24)

set_option maxHeartbeats 1000000 in
theorem pt_rh_N1c {W : Int → Prop} {sd : Int → Int} {op : Int → Int} {ed : Int → Int} {st : Int → Int} {lv : Int → Int} {nm : Int → Int} {ps : Int → Int} {rp : Int → Int} {rv : Int → Int} {cl : Int → Int} {nL : Int} {kd : Int → Int} {wy : Int → Int} {td : Int → Int} {wh : Int → Int} {b k : Int} (hG : pj_G W sd op ed) (p0_ : W b) (p1_ : 0 ≤ k) (p2_ : k < nL) (p3_ : wh k ≠ 2) (p4_ : kd k = 5) (p5_ : wy k = op b) (p6_ : ∀ j, 0 ≤ j → j < k → wy j = wy k → wh j ≠ 0) (p7_ : rp (op b) = 1) (p8_ : rv (op b) = td k) (p9_ : lv (sd b) = cl (ed b)) (p10_ : nm (sd b) = (ed b)) (p11_ : ps (sd b) = 0) (p12_ : st (sd b) = 2) (p13_ : 1 ≤ lv (sd b)) (p14_ : 0 ≤ nL) (cN1c : pj_N1c sd op st nL wy wh) (cR : pj_R W nL kd wy wh) : pj_N1c sd op st nL wy (pu wh k 2) := by
  obtain ⟨hop, hed⟩ := hG
  unfold pj_N1c pj_R at *
  intro k0
  simp only [pu]
  have g0 := hop b
  have g1 := hop (wy k0)
  have g2 := hed b (wy k0)
  have cN1c_0 := cN1c k
  have cN1c_1 := cN1c k0
  have cR_0 := cR k0
  have f0 := p6_ k
  have f1 := p6_ k0
  clear p6_
  clear hop hed cN1c cR
  grind (splits := 24)

set_option maxHeartbeats 1000000 in
theorem pt_rh_E1 {W : Int → Prop} {sd : Int → Int} {op : Int → Int} {ed : Int → Int} {st : Int → Int} {lv : Int → Int} {nm : Int → Int} {ps : Int → Int} {dl : Int → Int} {rp : Int → Int} {rv : Int → Int} {cl : Int → Int} {nL : Int} {kd : Int → Int} {wy : Int → Int} {ll : Int → Int} {td : Int → Int} {wh : Int → Int} {b k : Int} (hG : pj_G W sd op ed) (p0_ : W b) (p1_ : 0 ≤ k) (p2_ : k < nL) (p3_ : wh k ≠ 2) (p4_ : kd k = 5) (p5_ : wy k = op b) (p6_ : ∀ j, 0 ≤ j → j < k → wy j = wy k → wh j ≠ 0) (p7_ : rp (op b) = 1) (p8_ : rv (op b) = td k) (p9_ : lv (sd b) = cl (ed b)) (p10_ : nm (sd b) = (ed b)) (p11_ : ps (sd b) = 0) (p12_ : st (sd b) = 2) (p13_ : 1 ≤ lv (sd b)) (p14_ : 0 ≤ nL) (cE1 : pj_E1 sd op lv dl nL kd wy ll wh) : pj_E1 sd op lv dl nL kd wy ll (pu wh k 2) := by
  obtain ⟨hop, hed⟩ := hG
  unfold pj_E1 at *
  intro n0
  simp only [pu]
  have g0 := hop b
  have cE1_0 := cE1 (sd (op b))
  have cE1_1 := cE1 n0
  have cE1_2 := cE1 (sd b)
  have f0 := p6_ k
  clear p6_
  clear hop hed cE1
  grind (splits := 24)

set_option maxHeartbeats 1000000 in
theorem pt_rh_EC {W : Int → Prop} {sd : Int → Int} {op : Int → Int} {ed : Int → Int} {st : Int → Int} {lv : Int → Int} {nm : Int → Int} {om : Int → Int} {ps : Int → Int} {dl : Int → Int} {rp : Int → Int} {rv : Int → Int} {cl : Int → Int} {nL : Int} {kd : Int → Int} {wy : Int → Int} {td : Int → Int} {wh : Int → Int} {F : Int → Prop} {b k : Int} (hG : pj_G W sd op ed) (p0_ : W b) (p1_ : 0 ≤ k) (p2_ : k < nL) (p3_ : wh k ≠ 2) (p4_ : kd k = 5) (p5_ : wy k = op b) (p6_ : ∀ j, 0 ≤ j → j < k → wy j = wy k → wh j ≠ 0) (p7_ : rp (op b) = 1) (p8_ : rv (op b) = td k) (p9_ : lv (sd b) = cl (ed b)) (p10_ : nm (sd b) = (ed b)) (p11_ : ps (sd b) = 0) (p12_ : st (sd b) = 2) (p13_ : 1 ≤ lv (sd b)) (p14_ : 0 ≤ nL) (cEC : pj_EC W sd op ed lv nm om ps dl nL kd wy wh F) : pj_EC W sd op ed lv nm om ps dl nL kd wy (pu wh k 2) F := by
  obtain ⟨hop, hed⟩ := hG
  unfold pj_EC at *
  intro w0
  simp only [pu]
  have g0 := hop b
  have g1 := hop w0
  have g2 := hed b w0
  have cEC_0 := cEC b
  have cEC_1 := cEC w0
  have cEC_2 := cEC (op w0)
  have f0 := p6_ k
  clear p6_
  clear hop hed cEC
  grind (splits := 24)

set_option maxHeartbeats 1000000 in
theorem pt_rh_RP {W : Int → Prop} {sd : Int → Int} {op : Int → Int} {ed : Int → Int} {st : Int → Int} {lv : Int → Int} {nm : Int → Int} {bst : Int → Int} {ps : Int → Int} {rp : Int → Int} {rv : Int → Int} {cl : Int → Int} {nL : Int} {kd : Int → Int} {wy : Int → Int} {td : Int → Int} {wh : Int → Int} {b k : Int} (hG : pj_G W sd op ed) (p0_ : W b) (p1_ : 0 ≤ k) (p2_ : k < nL) (p3_ : wh k ≠ 2) (p4_ : kd k = 5) (p5_ : wy k = op b) (p6_ : ∀ j, 0 ≤ j → j < k → wy j = wy k → wh j ≠ 0) (p7_ : rp (op b) = 1) (p8_ : rv (op b) = td k) (p9_ : lv (sd b) = cl (ed b)) (p10_ : nm (sd b) = (ed b)) (p11_ : ps (sd b) = 0) (p12_ : st (sd b) = 2) (p13_ : 1 ≤ lv (sd b)) (p14_ : 0 ≤ nL) (cRP : pj_RP W sd ed st lv nm bst rp rv) : pj_RP W sd ed st lv nm bst (pu rp (op b) 2) rv := by
  obtain ⟨hop, hed⟩ := hG
  unfold pj_RP at *
  intro w0
  simp only [pu]
  have g0 := hop b
  have g1 := hop w0
  have g2 := hed b w0
  have cRP_0 := cRP b
  have cRP_1 := cRP w0
  have cRP_2 := cRP (op w0)
  have f0 := p6_ k
  clear p6_
  clear hop hed cRP
  grind (splits := 24)

set_option maxHeartbeats 1000000 in
theorem pt_rh_RP1 {W : Int → Prop} {sd : Int → Int} {op : Int → Int} {ed : Int → Int} {st : Int → Int} {lv : Int → Int} {nm : Int → Int} {ps : Int → Int} {rp : Int → Int} {rv : Int → Int} {cl : Int → Int} {nL : Int} {kd : Int → Int} {wy : Int → Int} {td : Int → Int} {wh : Int → Int} {b k : Int} (hG : pj_G W sd op ed) (p0_ : W b) (p1_ : 0 ≤ k) (p2_ : k < nL) (p3_ : wh k ≠ 2) (p4_ : kd k = 5) (p5_ : wy k = op b) (p6_ : ∀ j, 0 ≤ j → j < k → wy j = wy k → wh j ≠ 0) (p7_ : rp (op b) = 1) (p8_ : rv (op b) = td k) (p9_ : lv (sd b) = cl (ed b)) (p10_ : nm (sd b) = (ed b)) (p11_ : ps (sd b) = 0) (p12_ : st (sd b) = 2) (p13_ : 1 ≤ lv (sd b)) (p14_ : 0 ≤ nL) (cRP1 : pj_RP1 W sd ed lv rp cl) : pj_RP1 W sd ed lv (pu rp (op b) 2) cl := by
  obtain ⟨hop, hed⟩ := hG
  unfold pj_RP1 at *
  intro w0
  simp only [pu]
  have g0 := hop b
  have g1 := hop w0
  have g2 := hed b w0
  have cRP1_0 := cRP1 b
  have cRP1_1 := cRP1 w0
  have cRP1_2 := cRP1 (op w0)
  have f0 := p6_ k
  clear p6_
  clear hop hed cRP1
  grind (splits := 24)

set_option maxHeartbeats 1000000 in
theorem pt_rh_K2 {W : Int → Prop} {sd : Int → Int} {op : Int → Int} {ed : Int → Int} {li : Int → Int → Prop} {st : Int → Int} {lv : Int → Int} {nm : Int → Int} {ps : Int → Int} {rp : Int → Int} {rv : Int → Int} {cl : Int → Int} {tk : Int → Int} {nL : Int} {kd : Int → Int} {wy : Int → Int} {td : Int → Int} {wh : Int → Int} {b k : Int} (hG : pj_G W sd op ed) (p0_ : W b) (p1_ : 0 ≤ k) (p2_ : k < nL) (p3_ : wh k ≠ 2) (p4_ : kd k = 5) (p5_ : wy k = op b) (p6_ : ∀ j, 0 ≤ j → j < k → wy j = wy k → wh j ≠ 0) (p7_ : rp (op b) = 1) (p8_ : rv (op b) = td k) (p9_ : lv (sd b) = cl (ed b)) (p10_ : nm (sd b) = (ed b)) (p11_ : ps (sd b) = 0) (p12_ : st (sd b) = 2) (p13_ : 1 ≤ lv (sd b)) (p14_ : 0 ≤ nL) (cK2 : pj_K2 W op ed li rp rv tk) : pj_K2 W op ed li (pu rp (op b) 2) rv tk := by
  obtain ⟨hop, hed⟩ := hG
  unfold pj_K2 at *
  intro c0
  simp only [pu]
  have g0 := hop b
  have cK2_0 := cK2 c0
  have f0 := p6_ k
  clear p6_
  clear hop hed cK2
  grind (splits := 24)

set_option maxHeartbeats 1000000 in
theorem pt_rh_WH {W : Int → Prop} {sd : Int → Int} {op : Int → Int} {ed : Int → Int} {st : Int → Int} {lv : Int → Int} {nm : Int → Int} {ps : Int → Int} {rp : Int → Int} {rv : Int → Int} {cl : Int → Int} {nL : Int} {kd : Int → Int} {wy : Int → Int} {td : Int → Int} {wh : Int → Int} {b k : Int} (hG : pj_G W sd op ed) (p0_ : W b) (p1_ : 0 ≤ k) (p2_ : k < nL) (p3_ : wh k ≠ 2) (p4_ : kd k = 5) (p5_ : wy k = op b) (p6_ : ∀ j, 0 ≤ j → j < k → wy j = wy k → wh j ≠ 0) (p7_ : rp (op b) = 1) (p8_ : rv (op b) = td k) (p9_ : lv (sd b) = cl (ed b)) (p10_ : nm (sd b) = (ed b)) (p11_ : ps (sd b) = 0) (p12_ : st (sd b) = 2) (p13_ : 1 ≤ lv (sd b)) (p14_ : 0 ≤ nL) (cWH : pj_WH nL kd wh) (cR : pj_R W nL kd wy wh) : pj_WH nL kd (pu wh k 2) := by
  obtain ⟨hop, hed⟩ := hG
  unfold pj_WH pj_R at *
  intro k0
  simp only [pu]
  have g0 := hop b
  have g1 := hop (wy k0)
  have g2 := hed b (wy k0)
  have cWH_0 := cWH k
  have cWH_1 := cWH k0
  have cR_0 := cR k0
  have f0 := p6_ k
  have f1 := p6_ k0
  clear p6_
  clear hop hed cWH cR
  grind (splits := 24)

set_option maxHeartbeats 1000000 in
theorem pt_rh_FI {W : Int → Prop} {sd : Int → Int} {op : Int → Int} {ed : Int → Int} {st : Int → Int} {lv : Int → Int} {nm : Int → Int} {ps : Int → Int} {rp : Int → Int} {rv : Int → Int} {cl : Int → Int} {nL : Int} {kd : Int → Int} {wy : Int → Int} {td : Int → Int} {wh : Int → Int} {b k : Int} (hG : pj_G W sd op ed) (p0_ : W b) (p1_ : 0 ≤ k) (p2_ : k < nL) (p3_ : wh k ≠ 2) (p4_ : kd k = 5) (p5_ : wy k = op b) (p6_ : ∀ j, 0 ≤ j → j < k → wy j = wy k → wh j ≠ 0) (p7_ : rp (op b) = 1) (p8_ : rv (op b) = td k) (p9_ : lv (sd b) = cl (ed b)) (p10_ : nm (sd b) = (ed b)) (p11_ : ps (sd b) = 0) (p12_ : st (sd b) = 2) (p13_ : 1 ≤ lv (sd b)) (p14_ : 0 ≤ nL) (cFI : pj_FI nL wy wh) (cR : pj_R W nL kd wy wh) : pj_FI nL wy (pu wh k 2) := by
  obtain ⟨hop, hed⟩ := hG
  unfold pj_FI pj_R at *
  intro j0 k0
  simp only [pu]
  have g0 := hop b
  have g1 := hop (wy j0)
  have g2 := hop (wy k0)
  have g3 := hed b (wy j0)
  have g4 := hed b (wy k0)
  have g5 := hed (wy j0) (wy k0)
  have cFI_0 := cFI k k
  have cFI_1 := cFI k j0
  have cFI_2 := cFI k k0
  have cFI_3 := cFI j0 k
  have cFI_4 := cFI j0 j0
  have cFI_5 := cFI j0 k0
  have cFI_6 := cFI k0 k
  have cFI_7 := cFI k0 j0
  have cFI_8 := cFI k0 k0
  have cR_0 := cR j0
  have cR_1 := cR k0
  have f0 := p6_ k
  have f1 := p6_ j0
  have f2 := p6_ k0
  clear p6_
  clear hop hed cFI cR
  grind (splits := 24)

set_option maxHeartbeats 1000000 in
theorem pt_rh_L0 {W : Int → Prop} {sd : Int → Int} {op : Int → Int} {ed : Int → Int} {st : Int → Int} {lv : Int → Int} {nm : Int → Int} {om : Int → Int} {ps : Int → Int} {dl : Int → Int} {c0 : Int → Int} {en : Int → Int} {rp : Int → Int} {rv : Int → Int} {cl : Int → Int} {cw : Int → Int} {nL : Int} {kd : Int → Int} {wy : Int → Int} {ll : Int → Int} {td : Int → Int} {wh : Int → Int} {b k : Int} (hG : pj_G W sd op ed) (p0_ : W b) (p1_ : 0 ≤ k) (p2_ : k < nL) (p3_ : wh k ≠ 2) (p4_ : kd k = 5) (p5_ : wy k = op b) (p6_ : ∀ j, 0 ≤ j → j < k → wy j = wy k → wh j ≠ 0) (p7_ : rp (op b) = 1) (p8_ : rv (op b) = td k) (p9_ : lv (sd b) = cl (ed b)) (p10_ : nm (sd b) = (ed b)) (p11_ : ps (sd b) = 0) (p12_ : st (sd b) = 2) (p13_ : 1 ≤ lv (sd b)) (p14_ : 0 ≤ nL) (cL0 : pj_L0 sd op ed lv nm om ps dl c0 en cw nL kd wy ll wh) (cR : pj_R W nL kd wy wh) : pj_L0 sd op ed lv nm om ps dl c0 en cw nL kd wy ll (pu wh k 2) := by
  obtain ⟨hop, hed⟩ := hG
  unfold pj_L0 pj_R at *
  intro k0
  simp only [pu]
  have g0 := hop b
  have g1 := hop (wy k0)
  have g2 := hed b (wy k0)
  have cL0_0 := cL0 k
  have cL0_1 := cL0 k0
  have cR_0 := cR k0
  have f0 := p6_ k
  have f1 := p6_ k0
  clear p6_
  clear hop hed cL0 cR
  grind (splits := 24)

set_option maxHeartbeats 1000000 in
theorem pt_rh_FC {W : Int → Prop} {sd : Int → Int} {op : Int → Int} {ed : Int → Int} {st : Int → Int} {lv : Int → Int} {nm : Int → Int} {ps : Int → Int} {rp : Int → Int} {rv : Int → Int} {cl : Int → Int} {nL : Int} {kd : Int → Int} {wy : Int → Int} {td : Int → Int} {wh : Int → Int} {F : Int → Prop} {b k : Int} (hG : pj_G W sd op ed) (p0_ : W b) (p1_ : 0 ≤ k) (p2_ : k < nL) (p3_ : wh k ≠ 2) (p4_ : kd k = 5) (p5_ : wy k = op b) (p6_ : ∀ j, 0 ≤ j → j < k → wy j = wy k → wh j ≠ 0) (p7_ : rp (op b) = 1) (p8_ : rv (op b) = td k) (p9_ : lv (sd b) = cl (ed b)) (p10_ : nm (sd b) = (ed b)) (p11_ : ps (sd b) = 0) (p12_ : st (sd b) = 2) (p13_ : 1 ≤ lv (sd b)) (p14_ : 0 ≤ nL) (cFC : pj_FC op nL kd wy wh F) (cR : pj_R W nL kd wy wh) : pj_FC op nL kd wy (pu wh k 2) F := by
  obtain ⟨hop, hed⟩ := hG
  unfold pj_FC pj_R at *
  intro k0
  simp only [pu]
  have g0 := hop b
  have g1 := hop (wy k0)
  have g2 := hed b (wy k0)
  have cFC_0 := cFC k
  have cFC_1 := cFC k0
  have cR_0 := cR k0
  have f0 := p6_ k
  have f1 := p6_ k0
  clear p6_
  clear hop hed cFC cR
  grind (splits := 24)

set_option maxHeartbeats 1000000 in
theorem pt_rh_L0u {W : Int → Prop} {sd : Int → Int} {op : Int → Int} {ed : Int → Int} {st : Int → Int} {lv : Int → Int} {nm : Int → Int} {ps : Int → Int} {rp : Int → Int} {rv : Int → Int} {cl : Int → Int} {nL : Int} {kd : Int → Int} {wy : Int → Int} {td : Int → Int} {wh : Int → Int} {b k : Int} (hG : pj_G W sd op ed) (p0_ : W b) (p1_ : 0 ≤ k) (p2_ : k < nL) (p3_ : wh k ≠ 2) (p4_ : kd k = 5) (p5_ : wy k = op b) (p6_ : ∀ j, 0 ≤ j → j < k → wy j = wy k → wh j ≠ 0) (p7_ : rp (op b) = 1) (p8_ : rv (op b) = td k) (p9_ : lv (sd b) = cl (ed b)) (p10_ : nm (sd b) = (ed b)) (p11_ : ps (sd b) = 0) (p12_ : st (sd b) = 2) (p13_ : 1 ≤ lv (sd b)) (p14_ : 0 ≤ nL) (cL0u : pj_L0u nL kd wy wh) (cR : pj_R W nL kd wy wh) : pj_L0u nL kd wy (pu wh k 2) := by
  obtain ⟨hop, hed⟩ := hG
  unfold pj_L0u pj_R at *
  intro j0 k0
  simp only [pu]
  have g0 := hop b
  have g1 := hop (wy j0)
  have g2 := hop (wy k0)
  have g3 := hed b (wy j0)
  have g4 := hed b (wy k0)
  have g5 := hed (wy j0) (wy k0)
  have cL0u_0 := cL0u k k
  have cL0u_1 := cL0u k j0
  have cL0u_2 := cL0u k k0
  have cL0u_3 := cL0u j0 k
  have cL0u_4 := cL0u j0 j0
  have cL0u_5 := cL0u j0 k0
  have cL0u_6 := cL0u k0 k
  have cL0u_7 := cL0u k0 j0
  have cL0u_8 := cL0u k0 k0
  have cR_0 := cR j0
  have cR_1 := cR k0
  have f0 := p6_ k
  have f1 := p6_ j0
  have f2 := p6_ k0
  clear p6_
  clear hop hed cL0u cR
  grind (splits := 24)

set_option maxHeartbeats 1000000 in
theorem pt_rh_OC {W : Int → Prop} {sd : Int → Int} {op : Int → Int} {ed : Int → Int} {st : Int → Int} {lv : Int → Int} {nm : Int → Int} {ps : Int → Int} {rp : Int → Int} {rv : Int → Int} {cl : Int → Int} {nL : Int} {kd : Int → Int} {wy : Int → Int} {td : Int → Int} {wh : Int → Int} {b k : Int} (hG : pj_G W sd op ed) (p0_ : W b) (p1_ : 0 ≤ k) (p2_ : k < nL) (p3_ : wh k ≠ 2) (p4_ : kd k = 5) (p5_ : wy k = op b) (p6_ : ∀ j, 0 ≤ j → j < k → wy j = wy k → wh j ≠ 0) (p7_ : rp (op b) = 1) (p8_ : rv (op b) = td k) (p9_ : lv (sd b) = cl (ed b)) (p10_ : nm (sd b) = (ed b)) (p11_ : ps (sd b) = 0) (p12_ : st (sd b) = 2) (p13_ : 1 ≤ lv (sd b)) (p14_ : 0 ≤ nL) (cOC : pj_OC nL kd wy wh) (cR : pj_R W nL kd wy wh) : pj_OC nL kd wy (pu wh k 2) := by
  obtain ⟨hop, hed⟩ := hG
  unfold pj_OC pj_R at *
  intro j0 k0
  simp only [pu]
  have g0 := hop b
  have g1 := hop (wy j0)
  have g2 := hop (wy k0)
  have g3 := hed b (wy j0)
  have g4 := hed b (wy k0)
  have g5 := hed (wy j0) (wy k0)
  have cOC_0 := cOC k k
  have cOC_1 := cOC k j0
  have cOC_2 := cOC k k0
  have cOC_3 := cOC j0 k
  have cOC_4 := cOC j0 j0
  have cOC_5 := cOC j0 k0
  have cOC_6 := cOC k0 k
  have cOC_7 := cOC k0 j0
  have cOC_8 := cOC k0 k0
  have cR_0 := cR j0
  have cR_1 := cR k0
  have f0 := p6_ k
  have f1 := p6_ j0
  have f2 := p6_ k0
  clear p6_
  clear hop hed cOC cR
  grind (splits := 24)

set_option maxHeartbeats 1000000 in
theorem pt_rh_CT {W : Int → Prop} {sd : Int → Int} {op : Int → Int} {ed : Int → Int} {st : Int → Int} {lv : Int → Int} {nm : Int → Int} {ps : Int → Int} {rp : Int → Int} {rv : Int → Int} {cl : Int → Int} {nL : Int} {kd : Int → Int} {wy : Int → Int} {td : Int → Int} {wh : Int → Int} {b k : Int} (hG : pj_G W sd op ed) (p0_ : W b) (p1_ : 0 ≤ k) (p2_ : k < nL) (p3_ : wh k ≠ 2) (p4_ : kd k = 5) (p5_ : wy k = op b) (p6_ : ∀ j, 0 ≤ j → j < k → wy j = wy k → wh j ≠ 0) (p7_ : rp (op b) = 1) (p8_ : rv (op b) = td k) (p9_ : lv (sd b) = cl (ed b)) (p10_ : nm (sd b) = (ed b)) (p11_ : ps (sd b) = 0) (p12_ : st (sd b) = 2) (p13_ : 1 ≤ lv (sd b)) (p14_ : 0 ≤ nL) (cCT : pj_CT nL kd wy wh) (cR : pj_R W nL kd wy wh) : pj_CT nL kd wy (pu wh k 2) := by
  obtain ⟨hop, hed⟩ := hG
  unfold pj_CT pj_R at *
  intro j0 k0
  simp only [pu]
  have g0 := hop b
  have g1 := hop (wy j0)
  have g2 := hop (wy k0)
  have g3 := hed b (wy j0)
  have g4 := hed b (wy k0)
  have g5 := hed (wy j0) (wy k0)
  have cCT_0 := cCT k k
  have cCT_1 := cCT k j0
  have cCT_2 := cCT k k0
  have cCT_3 := cCT j0 k
  have cCT_4 := cCT j0 j0
  have cCT_5 := cCT j0 k0
  have cCT_6 := cCT k0 k
  have cCT_7 := cCT k0 j0
  have cCT_8 := cCT k0 k0
  have cR_0 := cR j0
  have cR_1 := cR k0
  have f0 := p6_ k
  have f1 := p6_ j0
  have f2 := p6_ k0
  clear p6_
  clear hop hed cCT cR
  grind (splits := 24)

set_option maxHeartbeats 1000000 in
theorem pt_rh_L1 {W : Int → Prop} {sd : Int → Int} {op : Int → Int} {ed : Int → Int} {st : Int → Int} {lv : Int → Int} {nm : Int → Int} {om : Int → Int} {ps : Int → Int} {dl : Int → Int} {en : Int → Int} {rp : Int → Int} {rv : Int → Int} {cl : Int → Int} {nL : Int} {kd : Int → Int} {wy : Int → Int} {ll : Int → Int} {td : Int → Int} {ls : Int → Int} {wh : Int → Int} {b k : Int} (hG : pj_G W sd op ed) (p0_ : W b) (p1_ : 0 ≤ k) (p2_ : k < nL) (p3_ : wh k ≠ 2) (p4_ : kd k = 5) (p5_ : wy k = op b) (p6_ : ∀ j, 0 ≤ j → j < k → wy j = wy k → wh j ≠ 0) (p7_ : rp (op b) = 1) (p8_ : rv (op b) = td k) (p9_ : lv (sd b) = cl (ed b)) (p10_ : nm (sd b) = (ed b)) (p11_ : ps (sd b) = 0) (p12_ : st (sd b) = 2) (p13_ : 1 ≤ lv (sd b)) (p14_ : 0 ≤ nL) (cL1 : pj_L1 sd op ed st lv om dl en cl nL kd wy ll td ls wh) (cR : pj_R W nL kd wy wh) : pj_L1 sd op ed st lv om dl en cl nL kd wy ll td ls (pu wh k 2) := by
  obtain ⟨hop, hed⟩ := hG
  unfold pj_L1 pj_R at *
  intro k0
  simp only [pu]
  have g0 := hop b
  have g1 := hop (wy k0)
  have g2 := hed b (wy k0)
  have cL1_0 := cL1 k
  have cL1_1 := cL1 k0
  have cR_0 := cR k0
  have f0 := p6_ k
  have f1 := p6_ k0
  clear p6_
  clear hop hed cL1 cR
  grind (splits := 24)

set_option maxHeartbeats 1000000 in
theorem pt_rh_L1e {W : Int → Prop} {sd : Int → Int} {op : Int → Int} {ed : Int → Int} {st : Int → Int} {lv : Int → Int} {nm : Int → Int} {ps : Int → Int} {dl : Int → Int} {dn : Int → Int} {rp : Int → Int} {rv : Int → Int} {cl : Int → Int} {nL : Int} {kd : Int → Int} {wy : Int → Int} {ll : Int → Int} {td : Int → Int} {ls : Int → Int} {wh : Int → Int} {b k : Int} (hG : pj_G W sd op ed) (p0_ : W b) (p1_ : 0 ≤ k) (p2_ : k < nL) (p3_ : wh k ≠ 2) (p4_ : kd k = 5) (p5_ : wy k = op b) (p6_ : ∀ j, 0 ≤ j → j < k → wy j = wy k → wh j ≠ 0) (p7_ : rp (op b) = 1) (p8_ : rv (op b) = td k) (p9_ : lv (sd b) = cl (ed b)) (p10_ : nm (sd b) = (ed b)) (p11_ : ps (sd b) = 0) (p12_ : st (sd b) = 2) (p13_ : 1 ≤ lv (sd b)) (p14_ : 0 ≤ nL) (cL1e : pj_L1e sd op dl dn nL kd wy ll td ls wh) (cR : pj_R W nL kd wy wh) : pj_L1e sd op dl dn nL kd wy ll td ls (pu wh k 2) := by
  obtain ⟨hop, hed⟩ := hG
  unfold pj_L1e pj_R at *
  intro k0
  simp only [pu]
  have g0 := hop b
  have g1 := hop (wy k0)
  have g2 := hed b (wy k0)
  have cL1e_0 := cL1e k
  have cL1e_1 := cL1e k0
  have cR_0 := cR k0
  have f0 := p6_ k
  have f1 := p6_ k0
  clear p6_
  clear hop hed cL1e cR
  grind (splits := 24)

set_option maxHeartbeats 1000000 in
theorem pt_rh_L1o {W : Int → Prop} {sd : Int → Int} {op : Int → Int} {ed : Int → Int} {st : Int → Int} {lv : Int → Int} {nm : Int → Int} {ps : Int → Int} {rp : Int → Int} {rv : Int → Int} {cl : Int → Int} {nL : Int} {kd : Int → Int} {wy : Int → Int} {ll : Int → Int} {td : Int → Int} {wh : Int → Int} {b k : Int} (hG : pj_G W sd op ed) (p0_ : W b) (p1_ : 0 ≤ k) (p2_ : k < nL) (p3_ : wh k ≠ 2) (p4_ : kd k = 5) (p5_ : wy k = op b) (p6_ : ∀ j, 0 ≤ j → j < k → wy j = wy k → wh j ≠ 0) (p7_ : rp (op b) = 1) (p8_ : rv (op b) = td k) (p9_ : lv (sd b) = cl (ed b)) (p10_ : nm (sd b) = (ed b)) (p11_ : ps (sd b) = 0) (p12_ : st (sd b) = 2) (p13_ : 1 ≤ lv (sd b)) (p14_ : 0 ≤ nL) (cL1o : pj_L1o nL kd wy ll wh) (cR : pj_R W nL kd wy wh) : pj_L1o nL kd wy ll (pu wh k 2) := by
  obtain ⟨hop, hed⟩ := hG
  unfold pj_L1o pj_R at *
  intro j0 k0
  simp only [pu]
  have g0 := hop b
  have g1 := hop (wy j0)
  have g2 := hop (wy k0)
  have g3 := hed b (wy j0)
  have g4 := hed b (wy k0)
  have g5 := hed (wy j0) (wy k0)
  have cL1o_0 := cL1o k k
  have cL1o_1 := cL1o k j0
  have cL1o_2 := cL1o k k0
  have cL1o_3 := cL1o j0 k
  have cL1o_4 := cL1o j0 j0
  have cL1o_5 := cL1o j0 k0
  have cL1o_6 := cL1o k0 k
  have cL1o_7 := cL1o k0 j0
  have cL1o_8 := cL1o k0 k0
  have cR_0 := cR j0
  have cR_1 := cR k0
  have f0 := p6_ k
  have f1 := p6_ j0
  have f2 := p6_ k0
  clear p6_
  clear hop hed cL1o cR
  grind (splits := 24)

set_option maxHeartbeats 1000000 in
theorem pt_rh_L1b {W : Int → Prop} {sd : Int → Int} {op : Int → Int} {ed : Int → Int} {st : Int → Int} {lv : Int → Int} {nm : Int → Int} {om : Int → Int} {ps : Int → Int} {pd : Int → Int} {rp : Int → Int} {rv : Int → Int} {cl : Int → Int} {nL : Int} {kd : Int → Int} {wy : Int → Int} {td : Int → Int} {ls : Int → Int} {wh : Int → Int} {b k : Int} (hG : pj_G W sd op ed) (p0_ : W b) (p1_ : 0 ≤ k) (p2_ : k < nL) (p3_ : wh k ≠ 2) (p4_ : kd k = 5) (p5_ : wy k = op b) (p6_ : ∀ j, 0 ≤ j → j < k → wy j = wy k → wh j ≠ 0) (p7_ : rp (op b) = 1) (p8_ : rv (op b) = td k) (p9_ : lv (sd b) = cl (ed b)) (p10_ : nm (sd b) = (ed b)) (p11_ : ps (sd b) = 0) (p12_ : st (sd b) = 2) (p13_ : 1 ≤ lv (sd b)) (p14_ : 0 ≤ nL) (cL1b : pj_L1b sd ed st om pd nL kd wy td ls wh) (cR : pj_R W nL kd wy wh) : pj_L1b sd ed st om pd nL kd wy td ls (pu wh k 2) := by
  obtain ⟨hop, hed⟩ := hG
  unfold pj_L1b pj_R at *
  intro k0
  simp only [pu]
  have g0 := hop b
  have g1 := hop (wy k0)
  have g2 := hed b (wy k0)
  have cL1b_0 := cL1b k
  have cL1b_1 := cL1b k0
  have cR_0 := cR k0
  have f0 := p6_ k
  have f1 := p6_ k0
  clear p6_
  clear hop hed cL1b cR
  grind (splits := 24)

set_option maxHeartbeats 1000000 in
theorem pt_rh_L1g {W : Int → Prop} {sd : Int → Int} {op : Int → Int} {ed : Int → Int} {st : Int → Int} {lv : Int → Int} {nm : Int → Int} {ps : Int → Int} {rp : Int → Int} {rv : Int → Int} {cl : Int → Int} {nL : Int} {kd : Int → Int} {wy : Int → Int} {td : Int → Int} {ls : Int → Int} {wh : Int → Int} {b k : Int} (hG : pj_G W sd op ed) (p0_ : W b) (p1_ : 0 ≤ k) (p2_ : k < nL) (p3_ : wh k ≠ 2) (p4_ : kd k = 5) (p5_ : wy k = op b) (p6_ : ∀ j, 0 ≤ j → j < k → wy j = wy k → wh j ≠ 0) (p7_ : rp (op b) = 1) (p8_ : rv (op b) = td k) (p9_ : lv (sd b) = cl (ed b)) (p10_ : nm (sd b) = (ed b)) (p11_ : ps (sd b) = 0) (p12_ : st (sd b) = 2) (p13_ : 1 ≤ lv (sd b)) (p14_ : 0 ≤ nL) (cL1g : pj_L1g W sd op ed nL kd wy td ls wh) (cR : pj_R W nL kd wy wh) : pj_L1g W sd op ed nL kd wy td ls (pu wh k 2) := by
  obtain ⟨hop, hed⟩ := hG
  unfold pj_L1g pj_R at *
  intro k0 v0
  simp only [pu]
  have g0 := hop b
  have g1 := hop (wy k0)
  have g2 := hop v0
  have g3 := hed b (wy k0)
  have g4 := hed b v0
  have g5 := hed (wy k0) v0
  have cL1g_0 := cL1g k b
  have cL1g_1 := cL1g k (wy k0)
  have cL1g_2 := cL1g k (op (wy k0))
  have cL1g_3 := cL1g k v0
  have cL1g_4 := cL1g k (op v0)
  have cL1g_5 := cL1g k0 b
  have cL1g_6 := cL1g k0 (wy k0)
  have cL1g_7 := cL1g k0 (op (wy k0))
  have cL1g_8 := cL1g k0 v0
  have cL1g_9 := cL1g k0 (op v0)
  have cR_0 := cR k0
  have f0 := p6_ k
  have f1 := p6_ k0
  clear p6_
  clear hop hed cL1g cR
  grind (splits := 24)

set_option maxHeartbeats 1000000 in
theorem pt_rh_L2 {W : Int → Prop} {sd : Int → Int} {op : Int → Int} {ed : Int → Int} {st : Int → Int} {lv : Int → Int} {nm : Int → Int} {tst : Int → Int} {ps : Int → Int} {en : Int → Int} {rp : Int → Int} {rv : Int → Int} {fw : Int → Int} {cl : Int → Int} {nL : Int} {kd : Int → Int} {wy : Int → Int} {ll : Int → Int} {td : Int → Int} {wh : Int → Int} {b k : Int} (hG : pj_G W sd op ed) (p0_ : W b) (p1_ : 0 ≤ k) (p2_ : k < nL) (p3_ : wh k ≠ 2) (p4_ : kd k = 5) (p5_ : wy k = op b) (p6_ : ∀ j, 0 ≤ j → j < k → wy j = wy k → wh j ≠ 0) (p7_ : rp (op b) = 1) (p8_ : rv (op b) = td k) (p9_ : lv (sd b) = cl (ed b)) (p10_ : nm (sd b) = (ed b)) (p11_ : ps (sd b) = 0) (p12_ : st (sd b) = 2) (p13_ : 1 ≤ lv (sd b)) (p14_ : 0 ≤ nL) (cL2 : pj_L2 sd op ed st lv nm tst en fw nL kd wy ll td wh) (cR : pj_R W nL kd wy wh) : pj_L2 sd op ed st lv nm tst en fw nL kd wy ll td (pu wh k 2) := by
  obtain ⟨hop, hed⟩ := hG
  unfold pj_L2 pj_R at *
  intro k0
  simp only [pu]
  have g0 := hop b
  have g1 := hop (wy k0)
  have g2 := hed b (wy k0)
  have cL2_0 := cL2 k
  have cL2_1 := cL2 k0
  have cR_0 := cR k0
  have f0 := p6_ k
  have f1 := p6_ k0
  clear p6_
  clear hop hed cL2 cR
  grind (splits := 24)

set_option maxHeartbeats 1000000 in
theorem pt_rh_L3 {W : Int → Prop} {sd : Int → Int} {op : Int → Int} {ed : Int → Int} {st : Int → Int} {lv : Int → Int} {nm : Int → Int} {tst : Int → Int} {ps : Int → Int} {en : Int → Int} {rp : Int → Int} {rv : Int → Int} {fw : Int → Int} {cl : Int → Int} {nL : Int} {kd : Int → Int} {wy : Int → Int} {td : Int → Int} {wh : Int → Int} {b k : Int} (hG : pj_G W sd op ed) (p0_ : W b) (p1_ : 0 ≤ k) (p2_ : k < nL) (p3_ : wh k ≠ 2) (p4_ : kd k = 5) (p5_ : wy k = op b) (p6_ : ∀ j, 0 ≤ j → j < k → wy j = wy k → wh j ≠ 0) (p7_ : rp (op b) = 1) (p8_ : rv (op b) = td k) (p9_ : lv (sd b) = cl (ed b)) (p10_ : nm (sd b) = (ed b)) (p11_ : ps (sd b) = 0) (p12_ : st (sd b) = 2) (p13_ : 1 ≤ lv (sd b)) (p14_ : 0 ≤ nL) (cL3 : pj_L3 sd op ed st lv nm tst en fw nL kd wy wh) (cR : pj_R W nL kd wy wh) : pj_L3 sd op ed st lv nm tst en fw nL kd wy (pu wh k 2) := by
  obtain ⟨hop, hed⟩ := hG
  unfold pj_L3 pj_R at *
  intro k0
  simp only [pu]
  have g0 := hop b
  have g1 := hop (wy k0)
  have g2 := hed b (wy k0)
  have cL3_0 := cL3 k
  have cL3_1 := cL3 k0
  have cR_0 := cR k0
  have f0 := p6_ k
  have f1 := p6_ k0
  clear p6_
  clear hop hed cL3 cR
  grind (splits := 24)

set_option maxHeartbeats 1000000 in
theorem pt_rh_L4 {W : Int → Prop} {sd : Int → Int} {op : Int → Int} {ed : Int → Int} {st : Int → Int} {lv : Int → Int} {nm : Int → Int} {tst : Int → Int} {ps : Int → Int} {en : Int → Int} {rp : Int → Int} {rv : Int → Int} {cl : Int → Int} {nL : Int} {kd : Int → Int} {wy : Int → Int} {td : Int → Int} {wh : Int → Int} {b k : Int} (hG : pj_G W sd op ed) (p0_ : W b) (p1_ : 0 ≤ k) (p2_ : k < nL) (p3_ : wh k ≠ 2) (p4_ : kd k = 5) (p5_ : wy k = op b) (p6_ : ∀ j, 0 ≤ j → j < k → wy j = wy k → wh j ≠ 0) (p7_ : rp (op b) = 1) (p8_ : rv (op b) = td k) (p9_ : lv (sd b) = cl (ed b)) (p10_ : nm (sd b) = (ed b)) (p11_ : ps (sd b) = 0) (p12_ : st (sd b) = 2) (p13_ : 1 ≤ lv (sd b)) (p14_ : 0 ≤ nL) (cL4 : pj_L4 sd op ed st tst en nL kd wy wh) (cR : pj_R W nL kd wy wh) : pj_L4 sd op ed st tst en nL kd wy (pu wh k 2) := by
  obtain ⟨hop, hed⟩ := hG
  unfold pj_L4 pj_R at *
  intro k0
  simp only [pu]
  have g0 := hop b
  have g1 := hop (wy k0)
  have g2 := hed b (wy k0)
  have cL4_0 := cL4 k
  have cL4_1 := cL4 k0
  have cR_0 := cR k0
  have f0 := p6_ k
  have f1 := p6_ k0
  clear p6_
  clear hop hed cL4 cR
  grind (splits := 24)

set_option maxHeartbeats 1000000 in
theorem pt_rh_AF {W : Int → Prop} {sd : Int → Int} {op : Int → Int} {ed : Int → Int} {st : Int → Int} {lv : Int → Int} {nm : Int → Int} {tst : Int → Int} {ps : Int → Int} {af : Int → Int} {rp : Int → Int} {rv : Int → Int} {cl : Int → Int} {nL : Int} {kd : Int → Int} {wy : Int → Int} {td : Int → Int} {wh : Int → Int} {b k : Int} (hG : pj_G W sd op ed) (p0_ : W b) (p1_ : 0 ≤ k) (p2_ : k < nL) (p3_ : wh k ≠ 2) (p4_ : kd k = 5) (p5_ : wy k = op b) (p6_ : ∀ j, 0 ≤ j → j < k → wy j = wy k → wh j ≠ 0) (p7_ : rp (op b) = 1) (p8_ : rv (op b) = td k) (p9_ : lv (sd b) = cl (ed b)) (p10_ : nm (sd b) = (ed b)) (p11_ : ps (sd b) = 0) (p12_ : st (sd b) = 2) (p13_ : 1 ≤ lv (sd b)) (p14_ : 0 ≤ nL) (cAF : pj_AF W sd op ed tst af nL kd wy wh) : pj_AF W sd op ed tst af nL kd wy (pu wh k 2) := by
  obtain ⟨hop, hed⟩ := hG
  unfold pj_AF at *
  intro v0
  simp only [pu]
  have g0 := hop b
  have g1 := hop v0
  have g2 := hed b v0
  have cAF_0 := cAF b
  have cAF_1 := cAF v0
  have cAF_2 := cAF (op v0)
  have f0 := p6_ k
  clear p6_
  clear hop hed cAF
  grind (splits := 24)

set_option maxHeartbeats 1000000 in
theorem pt_rh_RT {W : Int → Prop} {sd : Int → Int} {op : Int → Int} {ed : Int → Int} {st : Int → Int} {lv : Int → Int} {nm : Int → Int} {tst : Int → Int} {ps : Int → Int} {rp : Int → Int} {rv : Int → Int} {cl : Int → Int} {nL : Int} {kd : Int → Int} {wy : Int → Int} {td : Int → Int} {wh : Int → Int} {b k : Int} (hG : pj_G W sd op ed) (p0_ : W b) (p1_ : 0 ≤ k) (p2_ : k < nL) (p3_ : wh k ≠ 2) (p4_ : kd k = 5) (p5_ : wy k = op b) (p6_ : ∀ j, 0 ≤ j → j < k → wy j = wy k → wh j ≠ 0) (p7_ : rp (op b) = 1) (p8_ : rv (op b) = td k) (p9_ : lv (sd b) = cl (ed b)) (p10_ : nm (sd b) = (ed b)) (p11_ : ps (sd b) = 0) (p12_ : st (sd b) = 2) (p13_ : 1 ≤ lv (sd b)) (p14_ : 0 ≤ nL) (cRT : pj_RT sd ed tst nL kd wy wh) (cR : pj_R W nL kd wy wh) : pj_RT sd ed tst nL kd wy (pu wh k 2) := by
  obtain ⟨hop, hed⟩ := hG
  unfold pj_RT pj_R at *
  intro j0 k0
  simp only [pu]
  have g0 := hop b
  have g1 := hop (wy j0)
  have g2 := hop (wy k0)
  have g3 := hed b (wy j0)
  have g4 := hed b (wy k0)
  have g5 := hed (wy j0) (wy k0)
  have cRT_0 := cRT k k
  have cRT_1 := cRT k j0
  have cRT_2 := cRT k k0
  have cRT_3 := cRT j0 k
  have cRT_4 := cRT j0 j0
  have cRT_5 := cRT j0 k0
  have cRT_6 := cRT k0 k
  have cRT_7 := cRT k0 j0
  have cRT_8 := cRT k0 k0
  have cR_0 := cR j0
  have cR_1 := cR k0
  have f0 := p6_ k
  have f1 := p6_ j0
  have f2 := p6_ k0
  clear p6_
  clear hop hed cRT cR
  grind (splits := 24)

set_option maxHeartbeats 1000000 in
theorem pt_rh_CV {W : Int → Prop} {sd : Int → Int} {op : Int → Int} {ed : Int → Int} {st : Int → Int} {lv : Int → Int} {nm : Int → Int} {tst : Int → Int} {ps : Int → Int} {rp : Int → Int} {rv : Int → Int} {cl : Int → Int} {nL : Int} {kd : Int → Int} {wy : Int → Int} {td : Int → Int} {wh : Int → Int} {b k : Int} (hG : pj_G W sd op ed) (p0_ : W b) (p1_ : 0 ≤ k) (p2_ : k < nL) (p3_ : wh k ≠ 2) (p4_ : kd k = 5) (p5_ : wy k = op b) (p6_ : ∀ j, 0 ≤ j → j < k → wy j = wy k → wh j ≠ 0) (p7_ : rp (op b) = 1) (p8_ : rv (op b) = td k) (p9_ : lv (sd b) = cl (ed b)) (p10_ : nm (sd b) = (ed b)) (p11_ : ps (sd b) = 0) (p12_ : st (sd b) = 2) (p13_ : 1 ≤ lv (sd b)) (p14_ : 0 ≤ nL) (cCV : pj_CV W sd op ed tst nL kd wy wh) (cR : pj_R W nL kd wy wh) : pj_CV W sd op ed tst nL kd wy (pu wh k 2) := by
  obtain ⟨hop, hed⟩ := hG
  unfold pj_CV pj_R at *
  intro v0 j0 k0
  simp only [pu]
  have g0 := hop b
  have g1 := hop v0
  have g2 := hop (wy j0)
  have g3 := hop (wy k0)
  have g4 := hed b v0
  have g5 := hed b (wy j0)
  have g6 := hed b (wy k0)
  have g7 := hed v0 (wy j0)
  have g8 := hed v0 (wy k0)
  have g9 := hed (wy j0) (wy k0)
  have cCV_0 := cCV v0 j0 k0
  have cR_0 := cR j0
  have cR_1 := cR k0
  have f0 := p6_ k
  have f1 := p6_ j0
  have f2 := p6_ k0
  clear p6_
  clear hop hed cCV cR
  grind (splits := 24)

set_option maxHeartbeats 1000000 in
theorem pt_rh_L5 {W : Int → Prop} {sd : Int → Int} {op : Int → Int} {ed : Int → Int} {st : Int → Int} {lv : Int → Int} {nm : Int → Int} {inw : Int → Int} {bst : Int → Int} {om : Int → Int} {ps : Int → Int} {dl : Int → Int} {pd : Int → Int} {rp : Int → Int} {rv : Int → Int} {cl : Int → Int} {tk : Int → Int} {nL : Int} {kd : Int → Int} {wy : Int → Int} {td : Int → Int} {wh : Int → Int} {b k : Int} (hG : pj_G W sd op ed) (p0_ : W b) (p1_ : 0 ≤ k) (p2_ : k < nL) (p3_ : wh k ≠ 2) (p4_ : kd k = 5) (p5_ : wy k = op b) (p6_ : ∀ j, 0 ≤ j → j < k → wy j = wy k → wh j ≠ 0) (p7_ : rp (op b) = 1) (p8_ : rv (op b) = td k) (p9_ : lv (sd b) = cl (ed b)) (p10_ : nm (sd b) = (ed b)) (p11_ : ps (sd b) = 0) (p12_ : st (sd b) = 2) (p13_ : 1 ≤ lv (sd b)) (p14_ : 0 ≤ nL) (cL5 : pj_L5 sd op ed st lv nm inw bst om ps dl pd rp rv cl tk nL kd wy td wh) (cR : pj_R W nL kd wy wh) (cL5u : pj_L5u nL kd wy wh) : pj_L5 sd op ed st lv nm inw bst om ps dl pd (pu rp (op b) 2) rv cl tk nL kd wy td (pu wh k 2) := by
  obtain ⟨hop, hed⟩ := hG
  unfold pj_L5 pj_R pj_L5u at *
  intro k0
  simp only [pu]
  have g0 := hop b
  have g1 := hop (wy k0)
  have g2 := hed b (wy k0)
  have cL5_0 := cL5 k
  have cL5_1 := cL5 k0
  have cR_0 := cR k0
  have cL5u_0 := cL5u k0 k
  have f0 := p6_ k
  have f1 := p6_ k0
  clear p6_
  clear hop hed cL5 cR cL5u
  grind (splits := 24)

set_option maxHeartbeats 1000000 in
theorem pt_rh_L5o {W : Int → Prop} {sd : Int → Int} {op : Int → Int} {ed : Int → Int} {st : Int → Int} {lv : Int → Int} {nm : Int → Int} {ps : Int → Int} {rp : Int → Int} {rv : Int → Int} {cl : Int → Int} {nL : Int} {kd : Int → Int} {wy : Int → Int} {td : Int → Int} {wh : Int → Int} {b k : Int} (hG : pj_G W sd op ed) (p0_ : W b) (p1_ : 0 ≤ k) (p2_ : k < nL) (p3_ : wh k ≠ 2) (p4_ : kd k = 5) (p5_ : wy k = op b) (p6_ : ∀ j, 0 ≤ j → j < k → wy j = wy k → wh j ≠ 0) (p7_ : rp (op b) = 1) (p8_ : rv (op b) = td k) (p9_ : lv (sd b) = cl (ed b)) (p10_ : nm (sd b) = (ed b)) (p11_ : ps (sd b) = 0) (p12_ : st (sd b) = 2) (p13_ : 1 ≤ lv (sd b)) (p14_ : 0 ≤ nL) (cL5o : pj_L5o sd op ed lv cl nL kd wy wh) (cR : pj_R W nL kd wy wh) : pj_L5o sd op ed lv cl nL kd wy (pu wh k 2) := by
  obtain ⟨hop, hed⟩ := hG
  unfold pj_L5o pj_R at *
  intro j0 k0
  simp only [pu]
  have g0 := hop b
  have g1 := hop (wy j0)
  have g2 := hop (wy k0)
  have g3 := hed b (wy j0)
  have g4 := hed b (wy k0)
  have g5 := hed (wy j0) (wy k0)
  have cL5o_0 := cL5o k k
  have cL5o_1 := cL5o k j0
  have cL5o_2 := cL5o k k0
  have cL5o_3 := cL5o j0 k
  have cL5o_4 := cL5o j0 j0
  have cL5o_5 := cL5o j0 k0
  have cL5o_6 := cL5o k0 k
  have cL5o_7 := cL5o k0 j0
  have cL5o_8 := cL5o k0 k0
  have cR_0 := cR j0
  have cR_1 := cR k0
  have f0 := p6_ k
  have f1 := p6_ j0
  have f2 := p6_ k0
  clear p6_
  clear hop hed cL5o cR
  grind (splits := 24)

set_option maxHeartbeats 1000000 in
theorem pt_rh_L5u {W : Int → Prop} {sd : Int → Int} {op : Int → Int} {ed : Int → Int} {st : Int → Int} {lv : Int → Int} {nm : Int → Int} {ps : Int → Int} {rp : Int → Int} {rv : Int → Int} {cl : Int → Int} {nL : Int} {kd : Int → Int} {wy : Int → Int} {td : Int → Int} {wh : Int → Int} {b k : Int} (hG : pj_G W sd op ed) (p0_ : W b) (p1_ : 0 ≤ k) (p2_ : k < nL) (p3_ : wh k ≠ 2) (p4_ : kd k = 5) (p5_ : wy k = op b) (p6_ : ∀ j, 0 ≤ j → j < k → wy j = wy k → wh j ≠ 0) (p7_ : rp (op b) = 1) (p8_ : rv (op b) = td k) (p9_ : lv (sd b) = cl (ed b)) (p10_ : nm (sd b) = (ed b)) (p11_ : ps (sd b) = 0) (p12_ : st (sd b) = 2) (p13_ : 1 ≤ lv (sd b)) (p14_ : 0 ≤ nL) (cL5u : pj_L5u nL kd wy wh) (cR : pj_R W nL kd wy wh) : pj_L5u nL kd wy (pu wh k 2) := by
  obtain ⟨hop, hed⟩ := hG
  unfold pj_L5u pj_R at *
  intro j0 k0
  simp only [pu]
  have g0 := hop b
  have g1 := hop (wy j0)
  have g2 := hop (wy k0)
  have g3 := hed b (wy j0)
  have g4 := hed b (wy k0)
  have g5 := hed (wy j0) (wy k0)
  have cL5u_0 := cL5u k k
  have cL5u_1 := cL5u k j0
  have cL5u_2 := cL5u k k0
  have cL5u_3 := cL5u j0 k
  have cL5u_4 := cL5u j0 j0
  have cL5u_5 := cL5u j0 k0
  have cL5u_6 := cL5u k0 k
  have cL5u_7 := cL5u k0 j0
  have cL5u_8 := cL5u k0 k0
  have cR_0 := cR j0
  have cR_1 := cR k0
  have f0 := p6_ k
  have f1 := p6_ j0
  have f2 := p6_ k0
  clear p6_
  clear hop hed cL5u cR
  grind (splits := 24)

set_option maxHeartbeats 1000000 in
theorem pt_rh_L6 {W : Int → Prop} {sd : Int → Int} {op : Int → Int} {ed : Int → Int} {st : Int → Int} {lv : Int → Int} {nm : Int → Int} {tow : Int → Int} {om : Int → Int} {ps : Int → Int} {dl : Int → Int} {rp : Int → Int} {rv : Int → Int} {cl : Int → Int} {cw : Int → Int} {tk : Int → Int} {nL : Int} {kd : Int → Int} {wy : Int → Int} {td : Int → Int} {wh : Int → Int} {b k : Int} (hG : pj_G W sd op ed) (p0_ : W b) (p1_ : 0 ≤ k) (p2_ : k < nL) (p3_ : wh k ≠ 2) (p4_ : kd k = 5) (p5_ : wy k = op b) (p6_ : ∀ j, 0 ≤ j → j < k → wy j = wy k → wh j ≠ 0) (p7_ : rp (op b) = 1) (p8_ : rv (op b) = td k) (p9_ : lv (sd b) = cl (ed b)) (p10_ : nm (sd b) = (ed b)) (p11_ : ps (sd b) = 0) (p12_ : st (sd b) = 2) (p13_ : 1 ≤ lv (sd b)) (p14_ : 0 ≤ nL) (cL6 : pj_L6 sd op ed st lv nm tow om ps dl cw tk nL kd wy wh) (cR : pj_R W nL kd wy wh) : pj_L6 sd op ed st lv nm tow om ps dl cw tk nL kd wy (pu wh k 2) := by
  obtain ⟨hop, hed⟩ := hG
  unfold pj_L6 pj_R at *
  intro k0
  simp only [pu]
  have g0 := hop b
  have g1 := hop (wy k0)
  have g2 := hed b (wy k0)
  have cL6_0 := cL6 k
  have cL6_1 := cL6 k0
  have cR_0 := cR k0
  have f0 := p6_ k
  have f1 := p6_ k0
  clear p6_
  clear hop hed cL6 cR
  grind (splits := 24)

set_option maxHeartbeats 1000000 in
theorem pt_rh_L6u {W : Int → Prop} {sd : Int → Int} {op : Int → Int} {ed : Int → Int} {st : Int → Int} {lv : Int → Int} {nm : Int → Int} {ps : Int → Int} {rp : Int → Int} {rv : Int → Int} {cl : Int → Int} {nL : Int} {kd : Int → Int} {wy : Int → Int} {td : Int → Int} {wh : Int → Int} {b k : Int} (hG : pj_G W sd op ed) (p0_ : W b) (p1_ : 0 ≤ k) (p2_ : k < nL) (p3_ : wh k ≠ 2) (p4_ : kd k = 5) (p5_ : wy k = op b) (p6_ : ∀ j, 0 ≤ j → j < k → wy j = wy k → wh j ≠ 0) (p7_ : rp (op b) = 1) (p8_ : rv (op b) = td k) (p9_ : lv (sd b) = cl (ed b)) (p10_ : nm (sd b) = (ed b)) (p11_ : ps (sd b) = 0) (p12_ : st (sd b) = 2) (p13_ : 1 ≤ lv (sd b)) (p14_ : 0 ≤ nL) (cL6u : pj_L6u sd op nm nL kd wy wh) (cR : pj_R W nL kd wy wh) : pj_L6u sd op nm nL kd wy (pu wh k 2) := by
  obtain ⟨hop, hed⟩ := hG
  unfold pj_L6u pj_R at *
  intro j0 k0
  simp only [pu]
  have g0 := hop b
  have g1 := hop (wy j0)
  have g2 := hop (wy k0)
  have g3 := hed b (wy j0)
  have g4 := hed b (wy k0)
  have g5 := hed (wy j0) (wy k0)
  have cL6u_0 := cL6u k k
  have cL6u_1 := cL6u k j0
  have cL6u_2 := cL6u k k0
  have cL6u_3 := cL6u j0 k
  have cL6u_4 := cL6u j0 j0
  have cL6u_5 := cL6u j0 k0
  have cL6u_6 := cL6u k0 k
  have cL6u_7 := cL6u k0 j0
  have cL6u_8 := cL6u k0 k0
  have cR_0 := cR j0
  have cR_1 := cR k0
  have f0 := p6_ k
  have f1 := p6_ j0
  have f2 := p6_ k0
  clear p6_
  clear hop hed cL6u cR
  grind (splits := 24)

theorem pj_rh {W : Int → Prop} {sd op ed : Int → Int} {li : Int → Int → Prop} {st lv nm inw tow bst tst exp om ps dl dn af c0 en pd rp rv fw cl cw tk kd wy ll td ls wh : Int → Int} {nL : Int} {F F2 : Int → Prop} {fl fc : Int} {b k : Int} (hG : pj_G W sd op ed) (p0_ : W b) (p1_ : 0 ≤ k) (p2_ : k < nL) (p3_ : wh k ≠ 2) (p4_ : kd k = 5) (p5_ : wy k = op b) (p6_ : ∀ j, 0 ≤ j → j < k → wy j = wy k → wh j ≠ 0) (p7_ : rp (op b) = 1) (p8_ : rv (op b) = td k) (p9_ : lv (sd b) = cl (ed b)) (p10_ : nm (sd b) = (ed b)) (p11_ : ps (sd b) = 0) (p12_ : st (sd b) = 2) (p13_ : 1 ≤ lv (sd b)) (p14_ : 0 ≤ nL) (h : pj_J W sd op ed li st lv nm inw tow bst tst exp om ps dl dn af c0 en pd rp rv fw cl cw tk nL kd wy ll td ls wh F fl fc) : pj_J W sd op ed li st lv nm inw tow bst tst exp om ps dl dn af c0 en pd (pu rp (op b) 2) rv fw cl cw tk nL kd wy ll td ls (pu wh k 2) F fl fc := by
  obtain ⟨cR, cN0, cN1, cN1w, cER, cN1c, cN2, cN2e, cN2b, cN4e, cN4b, cN5, cN7, cN10, cN10e, cN13, cC1, cC2, cR3a, cE1, cU, cA1, cA2, cEC, cR3, cN11, cN12, cN3, cRJ, cFW, cPD, cCC, cCD, cRP, cRP1, cCR, cZ1, cZ0, cTK, cK2, cWH, cFI, cL0, cFC, cL0u, cOC, cCT, cL1, cL1e, cL1o, cL1b, cL1g, cL2, cL3, cL4, cAF, cRT, cCV, cL5, cL5o, cL5u, cL6, cL6u⟩ := h
  exact ⟨pt_rh_R hG p0_ p1_ p2_ p3_ p4_ p5_ p6_ p7_ p8_ p9_ p10_ p11_ p12_ p13_ p14_ cR, cN0, cN1, cN1w, cER, pt_rh_N1c hG p0_ p1_ p2_ p3_ p4_ p5_ p6_ p7_ p8_ p9_ p10_ p11_ p12_ p13_ p14_ cN1c cR, cN2, cN2e, cN2b, cN4e, cN4b, cN5, cN7, cN10, cN10e, cN13, cC1, cC2, cR3a, pt_rh_E1 hG p0_ p1_ p2_ p3_ p4_ p5_ p6_ p7_ p8_ p9_ p10_ p11_ p12_ p13_ p14_ cE1, cU, cA1, cA2, pt_rh_EC hG p0_ p1_ p2_ p3_ p4_ p5_ p6_ p7_ p8_ p9_ p10_ p11_ p12_ p13_ p14_ cEC, cR3, cN11, cN12, cN3, cRJ, cFW, cPD, cCC, cCD, pt_rh_RP hG p0_ p1_ p2_ p3_ p4_ p5_ p6_ p7_ p8_ p9_ p10_ p11_ p12_ p13_ p14_ cRP, pt_rh_RP1 hG p0_ p1_ p2_ p3_ p4_ p5_ p6_ p7_ p8_ p9_ p10_ p11_ p12_ p13_ p14_ cRP1, cCR, cZ1, cZ0, cTK, pt_rh_K2 hG p0_ p1_ p2_ p3_ p4_ p5_ p6_ p7_ p8_ p9_ p10_ p11_ p12_ p13_ p14_ cK2, pt_rh_WH hG p0_ p1_ p2_ p3_ p4_ p5_ p6_ p7_ p8_ p9_ p10_ p11_ p12_ p13_ p14_ cWH cR, pt_rh_FI hG p0_ p1_ p2_ p3_ p4_ p5_ p6_ p7_ p8_ p9_ p10_ p11_ p12_ p13_ p14_ cFI cR, pt_rh_L0 hG p0_ p1_ p2_ p3_ p4_ p5_ p6_ p7_ p8_ p9_ p10_ p11_ p12_ p13_ p14_ cL0 cR, pt_rh_FC hG p0_ p1_ p2_ p3_ p4_ p5_ p6_ p7_ p8_ p9_ p10_ p11_ p12_ p13_ p14_ cFC cR, pt_rh_L0u hG p0_ p1_ p2_ p3_ p4_ p5_ p6_ p7_ p8_ p9_ p10_ p11_ p12_ p13_ p14_ cL0u cR, pt_rh_OC hG p0_ p1_ p2_ p3_ p4_ p5_ p6_ p7_ p8_ p9_ p10_ p11_ p12_ p13_ p14_ cOC cR, pt_rh_CT hG p0_ p1_ p2_ p3_ p4_ p5_ p6_ p7_ p8_ p9_ p10_ p11_ p12_ p13_ p14_ cCT cR, pt_rh_L1 hG p0_ p1_ p2_ p3_ p4_ p5_ p6_ p7_ p8_ p9_ p10_ p11_ p12_ p13_ p14_ cL1 cR, pt_rh_L1e hG p0_ p1_ p2_ p3_ p4_ p5_ p6_ p7_ p8_ p9_ p10_ p11_ p12_ p13_ p14_ cL1e cR, pt_rh_L1o hG p0_ p1_ p2_ p3_ p4_ p5_ p6_ p7_ p8_ p9_ p10_ p11_ p12_ p13_ p14_ cL1o cR, pt_rh_L1b hG p0_ p1_ p2_ p3_ p4_ p5_ p6_ p7_ p8_ p9_ p10_ p11_ p12_ p13_ p14_ cL1b cR, pt_rh_L1g hG p0_ p1_ p2_ p3_ p4_ p5_ p6_ p7_ p8_ p9_ p10_ p11_ p12_ p13_ p14_ cL1g cR, pt_rh_L2 hG p0_ p1_ p2_ p3_ p4_ p5_ p6_ p7_ p8_ p9_ p10_ p11_ p12_ p13_ p14_ cL2 cR, pt_rh_L3 hG p0_ p1_ p2_ p3_ p4_ p5_ p6_ p7_ p8_ p9_ p10_ p11_ p12_ p13_ p14_ cL3 cR, pt_rh_L4 hG p0_ p1_ p2_ p3_ p4_ p5_ p6_ p7_ p8_ p9_ p10_ p11_ p12_ p13_ p14_ cL4 cR, pt_rh_AF hG p0_ p1_ p2_ p3_ p4_ p5_ p6_ p7_ p8_ p9_ p10_ p11_ p12_ p13_ p14_ cAF, pt_rh_RT hG p0_ p1_ p2_ p3_ p4_ p5_ p6_ p7_ p8_ p9_ p10_ p11_ p12_ p13_ p14_ cRT cR, pt_rh_CV hG p0_ p1_ p2_ p3_ p4_ p5_ p6_ p7_ p8_ p9_ p10_ p11_ p12_ p13_ p14_ cCV cR, pt_rh_L5 hG p0_ p1_ p2_ p3_ p4_ p5_ p6_ p7_ p8_ p9_ p10_ p11_ p12_ p13_ p14_ cL5 cR cL5u, pt_rh_L5o hG p0_ p1_ p2_ p3_ p4_ p5_ p6_ p7_ p8_ p9_ p10_ p11_ p12_ p13_ p14_ cL5o cR, pt_rh_L5u hG p0_ p1_ p2_ p3_ p4_ p5_ p6_ p7_ p8_ p9_ p10_ p11_ p12_ p13_ p14_ cL5u cR, pt_rh_L6 hG p0_ p1_ p2_ p3_ p4_ p5_ p6_ p7_ p8_ p9_ p10_ p11_ p12_ p13_ p14_ cL6 cR, pt_rh_L6u hG p0_ p1_ p2_ p3_ p4_ p5_ p6_ p7_ p8_ p9_ p10_ p11_ p12_ p13_ p14_ cL6u cR⟩

set_option maxHeartbeats 1000000 in
theorem pt_rs_R {W : Int → Prop} {sd : Int → Int} {op : Int → Int} {ed : Int → Int} {li : Int → Int → Prop} {st : Int → Int} {lv : Int → Int} {nm : Int → Int} {bst : Int → Int} {ps : Int → Int} {rp : Int → Int} {rv : Int → Int} {cl : Int → Int} {nL : Int} {kd : Int → Int} {wy : Int → Int} {td : Int → Int} {wh : Int → Int} {b k : Int} (hG : pj_G W sd op ed) (p0_ : W b) (p1_ : 0 ≤ k) (p2_ : k < nL) (p3_ : wh k ≠ 2) (p4_ : kd k = 5) (p5_ : wy k = op b) (p6_ : ∀ j, 0 ≤ j → j < k → wy j = wy k → wh j ≠ 0) (p7_ : rp (op b) = 1) (p8_ : rv (op b) = td k) (p9_ : lv (sd b) = cl (ed b)) (p10_ : nm (sd b) = (ed b)) (p11_ : ps (sd b) = 0) (p12_ : st (sd b) = 2) (p13_ : 1 ≤ lv (sd b)) (p14_ : 1 ≤ rp b) (p15_ : rv b = bst (sd b)) (p16_ : li (bst (sd b)) (td k)) (p17_ : 0 ≤ nL) (cR : pj_R W nL kd wy wh) : pj_R W nL kd wy (pu wh k 2) := by
  obtain ⟨hop, hed⟩ := hG
  unfold pj_R at *
  intro k0
  simp only [pu]
  have g0 := hop b
  have g1 := hop (wy k0)
  have g2 := hed b (wy k0)
  have cR_0 := cR k
  have cR_1 := cR k0
  have f0 := p6_ k
  have f1 := p6_ k0
  clear p6_
  clear hop hed cR
  grind (splits := 24)

set_option maxHeartbeats 1000000 in
theorem pt_rs_N1c {W : Int → Prop} {sd : Int → Int} {op : Int → Int} {ed : Int → Int} {li : Int → Int → Prop} {st : Int → Int} {lv : Int → Int} {nm : Int → Int} {bst : Int → Int} {ps : Int → Int} {rp : Int → Int} {rv : Int → Int} {cl : Int → Int} {nL : Int} {kd : Int → Int} {wy : Int → Int} {td : Int → Int} {wh : Int → Int} {b k : Int} (hG : pj_G W sd op ed) (p0_ : W b) (p1_ : 0 ≤ k) (p2_ : k < nL) (p3_ : wh k ≠ 2) (p4_ : kd k = 5) (p5_ : wy k = op b) (p6_ : ∀ j, 0 ≤ j → j < k → wy j = wy k → wh j ≠ 0) (p7_ : rp (op b) = 1) (p8_ : rv (op b) = td k) (p9_ : lv (sd b) = cl (ed b)) (p10_ : nm (sd b) = (ed b)) (p11_ : ps (sd b) = 0) (p12_ : st (sd b) = 2) (p13_ : 1 ≤ lv (sd b)) (p14_ : 1 ≤ rp b) (p15_ : rv b = bst (sd b)) (p16_ : li (bst (sd b)) (td k)) (p17_ : 0 ≤ nL) (cN1c : pj_N1c sd op st nL wy wh) (cR : pj_R W nL kd wy wh) : pj_N1c sd op st nL wy (pu wh k 2) := by
  obtain ⟨hop, hed⟩ := hG
  unfold pj_N1c pj_R at *
  intro k0
  simp only [pu]
  have g0 := hop b
  have g1 := hop (wy k0)
  have g2 := hed b (wy k0)
  have cN1c_0 := cN1c k
  have cN1c_1 := cN1c k0
  have cR_0 := cR k0
  have f0 := p6_ k
  have f1 := p6_ k0
  clear p6_
  clear hop hed cN1c cR
  grind (splits := 24)

set_option maxHeartbeats 1000000 in
theorem pt_rs_E1 {W : Int → Prop} {sd : Int → Int} {op : Int → Int} {ed : Int → Int} {li : Int → Int → Prop} {st : Int → Int} {lv : Int → Int} {nm : Int → Int} {bst : Int → Int} {ps : Int → Int} {dl : Int → Int} {rp : Int → Int} {rv : Int → Int} {cl : Int → Int} {nL : Int} {kd : Int → Int} {wy : Int → Int} {ll : Int → Int} {td : Int → Int} {wh : Int → Int} {b k : Int} (hG : pj_G W sd op ed) (p0_ : W b) (p1_ : 0 ≤ k) (p2_ : k < nL) (p3_ : wh k ≠ 2) (p4_ : kd k = 5) (p5_ : wy k = op b) (p6_ : ∀ j, 0 ≤ j → j < k → wy j = wy k → wh j ≠ 0) (p7_ : rp (op b) = 1) (p8_ : rv (op b) = td k) (p9_ : lv (sd b) = cl (ed b)) (p10_ : nm (sd b) = (ed b)) (p11_ : ps (sd b) = 0) (p12_ : st (sd b) = 2) (p13_ : 1 ≤ lv (sd b)) (p14_ : 1 ≤ rp b) (p15_ : rv b = bst (sd b)) (p16_ : li (bst (sd b)) (td k)) (p17_ : 0 ≤ nL) (cE1 : pj_E1 sd op lv dl nL kd wy ll wh) : pj_E1 sd op lv dl nL kd wy ll (pu wh k 2) := by
  obtain ⟨hop, hed⟩ := hG
  unfold pj_E1 at *
  intro n0
  simp only [pu]
  have g0 := hop b
  have cE1_0 := cE1 (sd (op b))
  have cE1_1 := cE1 n0
  have cE1_2 := cE1 (sd b)
  have f0 := p6_ k
  clear p6_
  clear hop hed cE1
  grind (splits := 24)

set_option maxHeartbeats 1000000 in
theorem pt_rs_EC {W : Int → Prop} {sd : Int → Int} {op : Int → Int} {ed : Int → Int} {li : Int → Int → Prop} {st : Int → Int} {lv : Int → Int} {nm : Int → Int} {bst : Int → Int} {om : Int → Int} {ps : Int → Int} {dl : Int → Int} {rp : Int → Int} {rv : Int → Int} {cl : Int → Int} {nL : Int} {kd : Int → Int} {wy : Int → Int} {td : Int → Int} {wh : Int → Int} {F : Int → Prop} {b k : Int} (hG : pj_G W sd op ed) (p0_ : W b) (p1_ : 0 ≤ k) (p2_ : k < nL) (p3_ : wh k ≠ 2) (p4_ : kd k = 5) (p5_ : wy k = op b) (p6_ : ∀ j, 0 ≤ j → j < k → wy j = wy k → wh j ≠ 0) (p7_ : rp (op b) = 1) (p8_ : rv (op b) = td k) (p9_ : lv (sd b) = cl (ed b)) (p10_ : nm (sd b) = (ed b)) (p11_ : ps (sd b) = 0) (p12_ : st (sd b) = 2) (p13_ : 1 ≤ lv (sd b)) (p14_ : 1 ≤ rp b) (p15_ : rv b = bst (sd b)) (p16_ : li (bst (sd b)) (td k)) (p17_ : 0 ≤ nL) (cEC : pj_EC W sd op ed lv nm om ps dl nL kd wy wh F) : pj_EC W sd op ed lv nm om ps dl nL kd wy (pu wh k 2) F := by
  obtain ⟨hop, hed⟩ := hG
  unfold pj_EC at *
  intro w0
  simp only [pu]
  have g0 := hop b
  have g1 := hop w0
  have g2 := hed b w0
  have cEC_0 := cEC b
  have cEC_1 := cEC w0
  have cEC_2 := cEC (op w0)
  have f0 := p6_ k
  clear p6_
  clear hop hed cEC
  grind (splits := 24)

set_option maxHeartbeats 1000000 in
theorem pt_rs_RP {W : Int → Prop} {sd : Int → Int} {op : Int → Int} {ed : Int → Int} {li : Int → Int → Prop} {st : Int → Int} {lv : Int → Int} {nm : Int → Int} {bst : Int → Int} {ps : Int → Int} {rp : Int → Int} {rv : Int → Int} {cl : Int → Int} {nL : Int} {kd : Int → Int} {wy : Int → Int} {td : Int → Int} {wh : Int → Int} {b k : Int} (hG : pj_G W sd op ed) (p0_ : W b) (p1_ : 0 ≤ k) (p2_ : k < nL) (p3_ : wh k ≠ 2) (p4_ : kd k = 5) (p5_ : wy k = op b) (p6_ : ∀ j, 0 ≤ j → j < k → wy j = wy k → wh j ≠ 0) (p7_ : rp (op b) = 1) (p8_ : rv (op b) = td k) (p9_ : lv (sd b) = cl (ed b)) (p10_ : nm (sd b) = (ed b)) (p11_ : ps (sd b) = 0) (p12_ : st (sd b) = 2) (p13_ : 1 ≤ lv (sd b)) (p14_ : 1 ≤ rp b) (p15_ : rv b = bst (sd b)) (p16_ : li (bst (sd b)) (td k)) (p17_ : 0 ≤ nL) (cRP : pj_RP W sd ed st lv nm bst rp rv) : pj_RP W sd ed st lv nm bst (pu rp (op b) 2) rv := by
  obtain ⟨hop, hed⟩ := hG
  unfold pj_RP at *
  intro w0
  simp only [pu]
  have g0 := hop b
  have g1 := hop w0
  have g2 := hed b w0
  have cRP_0 := cRP b
  have cRP_1 := cRP w0
  have cRP_2 := cRP (op w0)
  have f0 := p6_ k
  clear p6_
  clear hop hed cRP
  grind (splits := 24)

set_option maxHeartbeats 1000000 in
theorem pt_rs_RP1 {W : Int → Prop} {sd : Int → Int} {op : Int → Int} {ed : Int → Int} {li : Int → Int → Prop} {st : Int → Int} {lv : Int → Int} {nm : Int → Int} {bst : Int → Int} {ps : Int → Int} {rp : Int → Int} {rv : Int → Int} {cl : Int → Int} {nL : Int} {kd : Int → Int} {wy : Int → Int} {td : Int → Int} {wh : Int → Int} {b k : Int} (hG : pj_G W sd op ed) (p0_ : W b) (p1_ : 0 ≤ k) (p2_ : k < nL) (p3_ : wh k ≠ 2) (p4_ : kd k = 5) (p5_ : wy k = op b) (p6_ : ∀ j, 0 ≤ j → j < k → wy j = wy k → wh j ≠ 0) (p7_ : rp (op b) = 1) (p8_ : rv (op b) = td k) (p9_ : lv (sd b) = cl (ed b)) (p10_ : nm (sd b) = (ed b)) (p11_ : ps (sd b) = 0) (p12_ : st (sd b) = 2) (p13_ : 1 ≤ lv (sd b)) (p14_ : 1 ≤ rp b) (p15_ : rv b = bst (sd b)) (p16_ : li (bst (sd b)) (td k)) (p17_ : 0 ≤ nL) (cRP1 : pj_RP1 W sd ed lv rp cl) : pj_RP1 W sd ed lv (pu rp (op b) 2) cl := by
  obtain ⟨hop, hed⟩ := hG
  unfold pj_RP1 at *
  intro w0
  simp only [pu]
  have g0 := hop b
  have g1 := hop w0
  have g2 := hed b w0
  have cRP1_0 := cRP1 b
  have cRP1_1 := cRP1 w0
  have cRP1_2 := cRP1 (op w0)
  have f0 := p6_ k
  clear p6_
  clear hop hed cRP1
  grind (splits := 24)

set_option maxHeartbeats 1000000 in
theorem pt_rs_TK {W : Int → Prop} {sd : Int → Int} {op : Int → Int} {ed : Int → Int} {li : Int → Int → Prop} {st : Int → Int} {lv : Int → Int} {nm : Int → Int} {bst : Int → Int} {ps : Int → Int} {rp : Int → Int} {rv : Int → Int} {cl : Int → Int} {cw : Int → Int} {tk : Int → Int} {nL : Int} {kd : Int → Int} {wy : Int → Int} {td : Int → Int} {wh : Int → Int} {b k : Int} (hG : pj_G W sd op ed) (p0_ : W b) (p1_ : 0 ≤ k) (p2_ : k < nL) (p3_ : wh k ≠ 2) (p4_ : kd k = 5) (p5_ : wy k = op b) (p6_ : ∀ j, 0 ≤ j → j < k → wy j = wy k → wh j ≠ 0) (p7_ : rp (op b) = 1) (p8_ : rv (op b) = td k) (p9_ : lv (sd b) = cl (ed b)) (p10_ : nm (sd b) = (ed b)) (p11_ : ps (sd b) = 0) (p12_ : st (sd b) = 2) (p13_ : 1 ≤ lv (sd b)) (p14_ : 1 ≤ rp b) (p15_ : rv b = bst (sd b)) (p16_ : li (bst (sd b)) (td k)) (p17_ : 0 ≤ nL) (cTK : pj_TK cw tk) : pj_TK cw (pu tk (nm (sd b)) 1) := by
  obtain ⟨hop, hed⟩ := hG
  unfold pj_TK at *
  intro c0
  simp only [pu]
  have g0 := hop b
  have cTK_0 := cTK c0
  have f0 := p6_ k
  clear p6_
  clear hop hed cTK
  grind (splits := 24)

set_option maxHeartbeats 1000000 in
theorem pt_rs_K2 {W : Int → Prop} {sd : Int → Int} {op : Int → Int} {ed : Int → Int} {li : Int → Int → Prop} {st : Int → Int} {lv : Int → Int} {nm : Int → Int} {bst : Int → Int} {ps : Int → Int} {rp : Int → Int} {rv : Int → Int} {cl : Int → Int} {tk : Int → Int} {nL : Int} {kd : Int → Int} {wy : Int → Int} {td : Int → Int} {wh : Int → Int} {b k : Int} (hG : pj_G W sd op ed) (p0_ : W b) (p1_ : 0 ≤ k) (p2_ : k < nL) (p3_ : wh k ≠ 2) (p4_ : kd k = 5) (p5_ : wy k = op b) (p6_ : ∀ j, 0 ≤ j → j < k → wy j = wy k → wh j ≠ 0) (p7_ : rp (op b) = 1) (p8_ : rv (op b) = td k) (p9_ : lv (sd b) = cl (ed b)) (p10_ : nm (sd b) = (ed b)) (p11_ : ps (sd b) = 0) (p12_ : st (sd b) = 2) (p13_ : 1 ≤ lv (sd b)) (p14_ : 1 ≤ rp b) (p15_ : rv b = bst (sd b)) (p16_ : li (bst (sd b)) (td k)) (p17_ : 0 ≤ nL) (cK2 : pj_K2 W op ed li rp rv tk) : pj_K2 W op ed li (pu rp (op b) 2) rv (pu tk (nm (sd b)) 1) := by
  obtain ⟨hop, hed⟩ := hG
  unfold pj_K2 at *
  intro c0
  simp only [pu]
  have g0 := hop b
  have cK2_0 := cK2 c0
  have f0 := p6_ k
  clear p6_
  clear hop hed cK2
  grind (splits := 24)

set_option maxHeartbeats 1000000 in
theorem pt_rs_WH {W : Int → Prop} {sd : Int → Int} {op : Int → Int} {ed : Int → Int} {li : Int → Int → Prop} {st : Int → Int} {lv : Int → Int} {nm : Int → Int} {bst : Int → Int} {ps : Int → Int} {rp : Int → Int} {rv : Int → Int} {cl : Int → Int} {nL : Int} {kd : Int → Int} {wy : Int → Int} {td : Int → Int} {wh : Int → Int} {b k : Int} (hG : pj_G W sd op ed) (p0_ : W b) (p1_ : 0 ≤ k) (p2_ : k < nL) (p3_ : wh k ≠ 2) (p4_ : kd k = 5) (p5_ : wy k = op b) (p6_ : ∀ j, 0 ≤ j → j < k → wy j = wy k → wh j ≠ 0) (p7_ : rp (op b) = 1) (p8_ : rv (op b) = td k) (p9_ : lv (sd b) = cl (ed b)) (p10_ : nm (sd b) = (ed b)) (p11_ : ps (sd b) = 0) (p12_ : st (sd b) = 2) (p13_ : 1 ≤ lv (sd b)) (p14_ : 1 ≤ rp b) (p15_ : rv b = bst (sd b)) (p16_ : li (bst (sd b)) (td k)) (p17_ : 0 ≤ nL) (cWH : pj_WH nL kd wh) (cR : pj_R W nL kd wy wh) : pj_WH nL kd (pu wh k 2) := by
  obtain ⟨hop, hed⟩ := hG
  unfold pj_WH pj_R at *
  intro k0
  simp only [pu]
  have g0 := hop b
  have g1 := hop (wy k0)
  have g2 := hed b (wy k0)
  have cWH_0 := cWH k
  have cWH_1 := cWH k0
  have cR_0 := cR k0
  have f0 := p6_ k
  have f1 := p6_ k0
  clear p6_
  clear hop hed cWH cR
  grind (splits := 24)

set_option maxHeartbeats 1000000 in
theorem pt_rs_FI {W : Int → Prop} {sd : Int → Int} {op : Int → Int} {ed : Int → Int} {li : Int → Int → Prop} {st : Int → Int} {lv : Int → Int} {nm : Int → Int} {bst : Int → Int} {ps : Int → Int} {rp : Int → Int} {rv : Int → Int} {cl : Int → Int} {nL : Int} {kd : Int → Int} {wy : Int → Int} {td : Int → Int} {wh : Int → Int} {b k : Int} (hG : pj_G W sd op ed) (p0_ : W b) (p1_ : 0 ≤ k) (p2_ : k < nL) (p3_ : wh k ≠ 2) (p4_ : kd k = 5) (p5_ : wy k = op b) (p6_ : ∀ j, 0 ≤ j → j < k → wy j = wy k → wh j ≠ 0) (p7_ : rp (op b) = 1) (p8_ : rv (op b) = td k) (p9_ : lv (sd b) = cl (ed b)) (p10_ : nm (sd b) = (ed b)) (p11_ : ps (sd b) = 0) (p12_ : st (sd b) = 2) (p13_ : 1 ≤ lv (sd b)) (p14_ : 1 ≤ rp b) (p15_ : rv b = bst (sd b)) (p16_ : li (bst (sd b)) (td k)) (p17_ : 0 ≤ nL) (cFI : pj_FI nL wy wh) (cR : pj_R W nL kd wy wh) : pj_FI nL wy (pu wh k 2) := by
  obtain ⟨hop, hed⟩ := hG
  unfold pj_FI pj_R at *
  intro j0 k0
  simp only [pu]
  have g0 := hop b
  have g1 := hop (wy j0)
  have g2 := hop (wy k0)
  have g3 := hed b (wy j0)
  have g4 := hed b (wy k0)
  have g5 := hed (wy j0) (wy k0)
  have cFI_0 := cFI k k
  have cFI_1 := cFI k j0
  have cFI_2 := cFI k k0
  have cFI_3 := cFI j0 k
  have cFI_4 := cFI j0 j0
  have cFI_5 := cFI j0 k0
  have cFI_6 := cFI k0 k
  have cFI_7 := cFI k0 j0
  have cFI_8 := cFI k0 k0
  have cR_0 := cR j0
  have cR_1 := cR k0
  have f0 := p6_ k
  have f1 := p6_ j0
  have f2 := p6_ k0
  clear p6_
  clear hop hed cFI cR
  grind (splits := 24)

set_option maxHeartbeats 1000000 in
theorem pt_rs_L0 {W : Int → Prop} {sd : Int → Int} {op : Int → Int} {ed : Int → Int} {li : Int → Int → Prop} {st : Int → Int} {lv : Int → Int} {nm : Int → Int} {bst : Int → Int} {om : Int → Int} {ps : Int → Int} {dl : Int → Int} {c0 : Int → Int} {en : Int → Int} {rp : Int → Int} {rv : Int → Int} {cl : Int → Int} {cw : Int → Int} {nL : Int} {kd : Int → Int} {wy : Int → Int} {ll : Int → Int} {td : Int → Int} {wh : Int → Int} {b k : Int} (hG : pj_G W sd op ed) (p0_ : W b) (p1_ : 0 ≤ k) (p2_ : k < nL) (p3_ : wh k ≠ 2) (p4_ : kd k = 5) (p5_ : wy k = op b) (p6_ : ∀ j, 0 ≤ j → j < k → wy j = wy k → wh j ≠ 0) (p7_ : rp (op b) = 1) (p8_ : rv (op b) = td k) (p9_ : lv (sd b) = cl (ed b)) (p10_ : nm (sd b) = (ed b)) (p11_ : ps (sd b) = 0) (p12_ : st (sd b) = 2) (p13_ : 1 ≤ lv (sd b)) (p14_ : 1 ≤ rp b) (p15_ : rv b = bst (sd b)) (p16_ : li (bst (sd b)) (td k)) (p17_ : 0 ≤ nL) (cL0 : pj_L0 sd op ed lv nm om ps dl c0 en cw nL kd wy ll wh) (cR : pj_R W nL kd wy wh) : pj_L0 sd op ed lv nm om ps dl c0 en cw nL kd wy ll (pu wh k 2) := by
  obtain ⟨hop, hed⟩ := hG
  unfold pj_L0 pj_R at *
  intro k0
  simp only [pu]
  have g0 := hop b
  have g1 := hop (wy k0)
  have g2 := hed b (wy k0)
  have cL0_0 := cL0 k
  have cL0_1 := cL0 k0
  have cR_0 := cR k0
  have f0 := p6_ k
  have f1 := p6_ k0
  clear p6_
  clear hop hed cL0 cR
  grind (splits := 24)

set_option maxHeartbeats 1000000 in
theorem pt_rs_FC {W : Int → Prop} {sd : Int → Int} {op : Int → Int} {ed : Int → Int} {li : Int → Int → Prop} {st : Int → Int} {lv : Int → Int} {nm : Int → Int} {bst : Int → Int} {ps : Int → Int} {rp : Int → Int} {rv : Int → Int} {cl : Int → Int} {nL : Int} {kd : Int → Int} {wy : Int → Int} {td : Int → Int} {wh : Int → Int} {F : Int → Prop} {b k : Int} (hG : pj_G W sd op ed) (p0_ : W b) (p1_ : 0 ≤ k) (p2_ : k < nL) (p3_ : wh k ≠ 2) (p4_ : kd k = 5) (p5_ : wy k = op b) (p6_ : ∀ j, 0 ≤ j → j < k → wy j = wy k → wh j ≠ 0) (p7_ : rp (op b) = 1) (p8_ : rv (op b) = td k) (p9_ : lv (sd b) = cl (ed b)) (p10_ : nm (sd b) = (ed b)) (p11_ : ps (sd b) = 0) (p12_ : st (sd b) = 2) (p13_ : 1 ≤ lv (sd b)) (p14_ : 1 ≤ rp b) (p15_ : rv b = bst (sd b)) (p16_ : li (bst (sd b)) (td k)) (p17_ : 0 ≤ nL) (cFC : pj_FC op nL kd wy wh F) (cR : pj_R W nL kd wy wh) : pj_FC op nL kd wy (pu wh k 2) F := by
  obtain ⟨hop, hed⟩ := hG
  unfold pj_FC pj_R at *
  intro k0
  simp only [pu]
  have g0 := hop b
  have g1 := hop (wy k0)
  have g2 := hed b (wy k0)
  have cFC_0 := cFC k
  have cFC_1 := cFC k0
  have cR_0 := cR k0
  have f0 := p6_ k
  have f1 := p6_ k0
  clear p6_
  clear hop hed cFC cR
  grind (splits := 24)

set_option maxHeartbeats 1000000 in
theorem pt_rs_L0u {W : Int → Prop} {sd : Int → Int} {op : Int → Int} {ed : Int → Int} {li : Int → Int → Prop} {st : Int → Int} {lv : Int → Int} {nm : Int → Int} {bst : Int → Int} {ps : Int → Int} {rp : Int → Int} {rv : Int → Int} {cl : Int → Int} {nL : Int} {kd : Int → Int} {wy : Int → Int} {td : Int → Int} {wh : Int → Int} {b k : Int} (hG : pj_G W sd op ed) (p0_ : W b) (p1_ : 0 ≤ k) (p2_ : k < nL) (p3_ : wh k ≠ 2) (p4_ : kd k = 5) (p5_ : wy k = op b) (p6_ : ∀ j, 0 ≤ j → j < k → wy j = wy k → wh j ≠ 0) (p7_ : rp (op b) = 1) (p8_ : rv (op b) = td k) (p9_ : lv (sd b) = cl (ed b)) (p10_ : nm (sd b) = (ed b)) (p11_ : ps (sd b) = 0) (p12_ : st (sd b) = 2) (p13_ : 1 ≤ lv (sd b)) (p14_ : 1 ≤ rp b) (p15_ : rv b = bst (sd b)) (p16_ : li (bst (sd b)) (td k)) (p17_ : 0 ≤ nL) (cL0u : pj_L0u nL kd wy wh) (cR : pj_R W nL kd wy wh) : pj_L0u nL kd wy (pu wh k 2) := by
  obtain ⟨hop, hed⟩ := hG
  unfold pj_L0u pj_R at *
  intro j0 k0
  simp only [pu]
  have g0 := hop b
  have g1 := hop (wy j0)
  have g2 := hop (wy k0)
  have g3 := hed b (wy j0)
  have g4 := hed b (wy k0)
  have g5 := hed (wy j0) (wy k0)
  have cL0u_0 := cL0u k k
  have cL0u_1 := cL0u k j0
  have cL0u_2 := cL0u k k0
  have cL0u_3 := cL0u j0 k
  have cL0u_4 := cL0u j0 j0
  have cL0u_5 := cL0u j0 k0
  have cL0u_6 := cL0u k0 k
  have cL0u_7 := cL0u k0 j0
  have cL0u_8 := cL0u k0 k0
  have cR_0 := cR j0
  have cR_1 := cR k0
  have f0 := p6_ k
  have f1 := p6_ j0
  have f2 := p6_ k0
  clear p6_
  clear hop hed cL0u cR
  grind (splits := 24)

set_option maxHeartbeats 1000000 in
theorem pt_rs_OC {W : Int → Prop} {sd : Int → Int} {op : Int → Int} {ed : Int → Int} {li : Int → Int → Prop} {st : Int → Int} {lv : Int → Int} {nm : Int → Int} {bst : Int → Int} {ps : Int → Int} {rp : Int → Int} {rv : Int → Int} {cl : Int → Int} {nL : Int} {kd : Int → Int} {wy : Int → Int} {td : Int → Int} {wh : Int → Int} {b k : Int} (hG : pj_G W sd op ed) (p0_ : W b) (p1_ : 0 ≤ k) (p2_ : k < nL) (p3_ : wh k ≠ 2) (p4_ : kd k = 5) (p5_ : wy k = op b) (p6_ : ∀ j, 0 ≤ j → j < k → wy j = wy k → wh j ≠ 0) (p7_ : rp (op b) = 1) (p8_ : rv (op b) = td k) (p9_ : lv (sd b) = cl (ed b)) (p10_ : nm (sd b) = (ed b)) (p11_ : ps (sd b) = 0) (p12_ : st (sd b) = 2) (p13_ : 1 ≤ lv (sd b)) (p14_ : 1 ≤ rp b) (p15_ : rv b = bst (sd b)) (p16_ : li (bst (sd b)) (td k)) (p17_ : 0 ≤ nL) (cOC : pj_OC nL kd wy wh) (cR : pj_R W nL kd wy wh) : pj_OC nL kd wy (pu wh k 2) := by
  obtain ⟨hop, hed⟩ := hG
  unfold pj_OC pj_R at *
  intro j0 k0
  simp only [pu]
  have g0 := hop b
  have g1 := hop (wy j0)
  have g2 := hop (wy k0)
  have g3 := hed b (wy j0)
  have g4 := hed b (wy k0)
  have g5 := hed (wy j0) (wy k0)
  have cOC_0 := cOC k k
  have cOC_1 := cOC k j0
  have cOC_2 := cOC k k0
  have cOC_3 := cOC j0 k
  have cOC_4 := cOC j0 j0
  have cOC_5 := cOC j0 k0
  have cOC_6 := cOC k0 k
  have cOC_7 := cOC k0 j0
  have cOC_8 := cOC k0 k0
  have cR_0 := cR j0
  have cR_1 := cR k0
  have f0 := p6_ k
  have f1 := p6_ j0
  have f2 := p6_ k0
  clear p6_
  clear hop hed cOC cR
  grind (splits := 24)

set_option maxHeartbeats 1000000 in
theorem pt_rs_CT {W : Int → Prop} {sd : Int → Int} {op : Int → Int} {ed : Int → Int} {li : Int → Int → Prop} {st : Int → Int} {lv : Int → Int} {nm : Int → Int} {bst : Int → Int} {ps : Int → Int} {rp : Int → Int} {rv : Int → Int} {cl : Int → Int} {nL : Int} {kd : Int → Int} {wy : Int → Int} {td : Int → Int} {wh : Int → Int} {b k : Int} (hG : pj_G W sd op ed) (p0_ : W b) (p1_ : 0 ≤ k) (p2_ : k < nL) (p3_ : wh k ≠ 2) (p4_ : kd k = 5) (p5_ : wy k = op b) (p6_ : ∀ j, 0 ≤ j → j < k → wy j = wy k → wh j ≠ 0) (p7_ : rp (op b) = 1) (p8_ : rv (op b) = td k) (p9_ : lv (sd b) = cl (ed b)) (p10_ : nm (sd b) = (ed b)) (p11_ : ps (sd b) = 0) (p12_ : st (sd b) = 2) (p13_ : 1 ≤ lv (sd b)) (p14_ : 1 ≤ rp b) (p15_ : rv b = bst (sd b)) (p16_ : li (bst (sd b)) (td k)) (p17_ : 0 ≤ nL) (cCT : pj_CT nL kd wy wh) (cR : pj_R W nL kd wy wh) : pj_CT nL kd wy (pu wh k 2) := by
  obtain ⟨hop, hed⟩ := hG
  unfold pj_CT pj_R at *
  intro j0 k0
  simp only [pu]
  have g0 := hop b
  have g1 := hop (wy j0)
  have g2 := hop (wy k0)
  have g3 := hed b (wy j0)
  have g4 := hed b (wy k0)
  have g5 := hed (wy j0) (wy k0)
  have cCT_0 := cCT k k
  have cCT_1 := cCT k j0
  have cCT_2 := cCT k k0
  have cCT_3 := cCT j0 k
  have cCT_4 := cCT j0 j0
  have cCT_5 := cCT j0 k0
  have cCT_6 := cCT k0 k
  have cCT_7 := cCT k0 j0
  have cCT_8 := cCT k0 k0
  have cR_0 := cR j0
  have cR_1 := cR k0
  have f0 := p6_ k
  have f1 := p6_ j0
  have f2 := p6_ k0
  clear p6_
  clear hop hed cCT cR
  grind (splits := 24)

set_option maxHeartbeats 1000000 in
theorem pt_rs_L1 {W : Int → Prop} {sd : Int → Int} {op : Int → Int} {ed : Int → Int} {li : Int → Int → Prop} {st : Int → Int} {lv : Int → Int} {nm : Int → Int} {bst : Int → Int} {om : Int → Int} {ps : Int → Int} {dl : Int → Int} {en : Int → Int} {rp : Int → Int} {rv : Int → Int} {cl : Int → Int} {nL : Int} {kd : Int → Int} {wy : Int → Int} {ll : Int → Int} {td : Int → Int} {ls : Int → Int} {wh : Int → Int} {b k : Int} (hG : pj_G W sd op ed) (p0_ : W b) (p1_ : 0 ≤ k) (p2_ : k < nL) (p3_ : wh k ≠ 2) (p4_ : kd k = 5) (p5_ : wy k = op b) (p6_ : ∀ j, 0 ≤ j → j < k → wy j = wy k → wh j ≠ 0) (p7_ : rp (op b) = 1) (p8_ : rv (op b) = td k) (p9_ : lv (sd b) = cl (ed b)) (p10_ : nm (sd b) = (ed b)) (p11_ : ps (sd b) = 0) (p12_ : st (sd b) = 2) (p13_ : 1 ≤ lv (sd b)) (p14_ : 1 ≤ rp b) (p15_ : rv b = bst (sd b)) (p16_ : li (bst (sd b)) (td k)) (p17_ : 0 ≤ nL) (cL1 : pj_L1 sd op ed st lv om dl en cl nL kd wy ll td ls wh) (cR : pj_R W nL kd wy wh) : pj_L1 sd op ed st lv om dl en cl nL kd wy ll td ls (pu wh k 2) := by
  obtain ⟨hop, hed⟩ := hG
  unfold pj_L1 pj_R at *
  intro k0
  simp only [pu]
  have g0 := hop b
  have g1 := hop (wy k0)
  have g2 := hed b (wy k0)
  have cL1_0 := cL1 k
  have cL1_1 := cL1 k0
  have cR_0 := cR k0
  have f0 := p6_ k
  have f1 := p6_ k0
  clear p6_
  clear hop hed cL1 cR
  grind (splits := 24)

set_option maxHeartbeats 1000000 in
theorem pt_rs_L1e {W : Int → Prop} {sd : Int → Int} {op : Int → Int} {ed : Int → Int} {li : Int → Int → Prop} {st : Int → Int} {lv : Int → Int} {nm : Int → Int} {bst : Int → Int} {ps : Int → Int} {dl : Int → Int} {dn : Int → Int} {rp : Int → Int} {rv : Int → Int} {cl : Int → Int} {nL : Int} {kd : Int → Int} {wy : Int → Int} {ll : Int → Int} {td : Int → Int} {ls : Int → Int} {wh : Int → Int} {b k : Int} (hG : pj_G W sd op ed) (p0_ : W b) (p1_ : 0 ≤ k) (p2_ : k < nL) (p3_ : wh k ≠ 2) (p4_ : kd k = 5) (p5_ : wy k = op b) (p6_ : ∀ j, 0 ≤ j → j < k → wy j = wy k → wh j ≠ 0) (p7_ : rp (op b) = 1) (p8_ : rv (op b) = td k) (p9_ : lv (sd b) = cl (ed b)) (p10_ : nm (sd b) = (ed b)) (p11_ : ps (sd b) = 0) (p12_ : st (sd b) = 2) (p13_ : 1 ≤ lv (sd b)) (p14_ : 1 ≤ rp b) (p15_ : rv b = bst (sd b)) (p16_ : li (bst (sd b)) (td k)) (p17_ : 0 ≤ nL) (cL1e : pj_L1e sd op dl dn nL kd wy ll td ls wh) (cR : pj_R W nL kd wy wh) : pj_L1e sd op dl dn nL kd wy ll td ls (pu wh k 2) := by
  obtain ⟨hop, hed⟩ := hG
  unfold pj_L1e pj_R at *
  intro k0
  simp only [pu]
  have g0 := hop b
  have g1 := hop (wy k0)
  have g2 := hed b (wy k0)
  have cL1e_0 := cL1e k
  have cL1e_1 := cL1e k0
  have cR_0 := cR k0
  have f0 := p6_ k
  have f1 := p6_ k0
  clear p6_
  clear hop hed cL1e cR
  grind (splits := 24)

set_option maxHeartbeats 1000000 in
theorem pt_rs_L1o {W : Int → Prop} {sd : Int → Int} {op : Int → Int} {ed : Int → Int} {li : Int → Int → Prop} {st : Int → Int} {lv : Int → Int} {nm : Int → Int} {bst : Int → Int} {ps : Int → Int} {rp : Int → Int} {rv : Int → Int} {cl : Int → Int} {nL : Int} {kd : Int → Int} {wy : Int → Int} {ll : Int → Int} {td : Int → Int} {wh : Int → Int} {b k : Int} (hG : pj_G W sd op ed) (p0_ : W b) (p1_ : 0 ≤ k) (p2_ : k < nL) (p3_ : wh k ≠ 2) (p4_ : kd k = 5) (p5_ : wy k = op b) (p6_ : ∀ j, 0 ≤ j → j < k → wy j = wy k → wh j ≠ 0) (p7_ : rp (op b) = 1) (p8_ : rv (op b) = td k) (p9_ : lv (sd b) = cl (ed b)) (p10_ : nm (sd b) = (ed b)) (p11_ : ps (sd b) = 0) (p12_ : st (sd b) = 2) (p13_ : 1 ≤ lv (sd b)) (p14_ : 1 ≤ rp b) (p15_ : rv b = bst (sd b)) (p16_ : li (bst (sd b)) (td k)) (p17_ : 0 ≤ nL) (cL1o : pj_L1o nL kd wy ll wh) (cR : pj_R W nL kd wy wh) : pj_L1o nL kd wy ll (pu wh k 2) := by
  obtain ⟨hop, hed⟩ := hG
  unfold pj_L1o pj_R at *
  intro j0 k0
  simp only [pu]
  have g0 := hop b
  have g1 := hop (wy j0)
  have g2 := hop (wy k0)
  have g3 := hed b (wy j0)
  have g4 := hed b (wy k0)
  have g5 := hed (wy j0) (wy k0)
  have cL1o_0 := cL1o k k
  have cL1o_1 := cL1o k j0
  have cL1o_2 := cL1o k k0
  have cL1o_3 := cL1o j0 k
  have cL1o_4 := cL1o j0 j0
  have cL1o_5 := cL1o j0 k0
  have cL1o_6 := cL1o k0 k
  have cL1o_7 := cL1o k0 j0
  have cL1o_8 := cL1o k0 k0
  have cR_0 := cR j0
  have cR_1 := cR k0
  have f0 := p6_ k
  have f1 := p6_ j0
  have f2 := p6_ k0
  clear p6_
  clear hop hed cL1o cR
  grind (splits := 24)

set_option maxHeartbeats 1000000 in
theorem pt_rs_L1b {W : Int → Prop} {sd : Int → Int} {op : Int → Int} {ed : Int → Int} {li : Int → Int → Prop} {st : Int → Int} {lv : Int → Int} {nm : Int → Int} {bst : Int → Int} {om : Int → Int} {ps : Int → Int} {pd : Int → Int} {rp : Int → Int} {rv : Int → Int} {cl : Int → Int} {nL : Int} {kd : Int → Int} {wy : Int → Int} {td : Int → Int} {ls : Int → Int} {wh : Int → Int} {b k : Int} (hG : pj_G W sd op ed) (p0_ : W b) (p1_ : 0 ≤ k) (p2_ : k < nL) (p3_ : wh k ≠ 2) (p4_ : kd k = 5) (p5_ : wy k = op b) (p6_ : ∀ j, 0 ≤ j → j < k → wy j = wy k → wh j ≠ 0) (p7_ : rp (op b) = 1) (p8_ : rv (op b) = td k) (p9_ : lv (sd b) = cl (ed b)) (p10_ : nm (sd b) = (ed b)) (p11_ : ps (sd b) = 0) (p12_ : st (sd b) = 2) (p13_ : 1 ≤ lv (sd b)) (p14_ : 1 ≤ rp b) (p15_ : rv b = bst (sd b)) (p16_ : li (bst (sd b)) (td k)) (p17_ : 0 ≤ nL) (cL1b : pj_L1b sd ed st om pd nL kd wy td ls wh) (cR : pj_R W nL kd wy wh) : pj_L1b sd ed st om pd nL kd wy td ls (pu wh k 2) := by
  obtain ⟨hop, hed⟩ := hG
  unfold pj_L1b pj_R at *
  intro k0
  simp only [pu]
  have g0 := hop b
  have g1 := hop (wy k0)
  have g2 := hed b (wy k0)
  have cL1b_0 := cL1b k
  have cL1b_1 := cL1b k0
  have cR_0 := cR k0
  have f0 := p6_ k
  have f1 := p6_ k0
  clear p6_
  clear hop hed cL1b cR
  grind (splits := 24)

set_option maxHeartbeats 1000000 in
theorem pt_rs_L1g {W : Int → Prop} {sd : Int → Int} {op : Int → Int} {ed : Int → Int} {li : Int → Int → Prop} {st : Int → Int} {lv : Int → Int} {nm : Int → Int} {bst : Int → Int} {ps : Int → Int} {rp : Int → Int} {rv : Int → Int} {cl : Int → Int} {nL : Int} {kd : Int → Int} {wy : Int → Int} {td : Int → Int} {ls : Int → Int} {wh : Int → Int} {b k : Int} (hG : pj_G W sd op ed) (p0_ : W b) (p1_ : 0 ≤ k) (p2_ : k < nL) (p3_ : wh k ≠ 2) (p4_ : kd k = 5) (p5_ : wy k = op b) (p6_ : ∀ j, 0 ≤ j → j < k → wy j = wy k → wh j ≠ 0) (p7_ : rp (op b) = 1) (p8_ : rv (op b) = td k) (p9_ : lv (sd b) = cl (ed b)) (p10_ : nm (sd b) = (ed b)) (p11_ : ps (sd b) = 0) (p12_ : st (sd b) = 2) (p13_ : 1 ≤ lv (sd b)) (p14_ : 1 ≤ rp b) (p15_ : rv b = bst (sd b)) (p16_ : li (bst (sd b)) (td k)) (p17_ : 0 ≤ nL) (cL1g : pj_L1g W sd op ed nL kd wy td ls wh) (cR : pj_R W nL kd wy wh) : pj_L1g W sd op ed nL kd wy td ls (pu wh k 2) := by
  obtain ⟨hop, hed⟩ := hG
  unfold pj_L1g pj_R at *
  intro k0 v0
  simp only [pu]
  have g0 := hop b
  have g1 := hop (wy k0)
  have g2 := hop v0
  have g3 := hed b (wy k0)
  have g4 := hed b v0
  have g5 := hed (wy k0) v0
  have cL1g_0 := cL1g k b
  have cL1g_1 := cL1g k (wy k0)
  have cL1g_2 := cL1g k (op (wy k0))
  have cL1g_3 := cL1g k v0
  have cL1g_4 := cL1g k (op v0)
  have cL1g_5 := cL1g k0 b
  have cL1g_6 := cL1g k0 (wy k0)
  have cL1g_7 := cL1g k0 (op (wy k0))
  have cL1g_8 := cL1g k0 v0
  have cL1g_9 := cL1g k0 (op v0)
  have cR_0 := cR k0
  have f0 := p6_ k
  have f1 := p6_ k0
  clear p6_
  clear hop hed cL1g cR
  grind (splits := 24)

set_option maxHeartbeats 1000000 in
theorem pt_rs_L2 {W : Int → Prop} {sd : Int → Int} {op : Int → Int} {ed : Int → Int} {li : Int → Int → Prop} {st : Int → Int} {lv : Int → Int} {nm : Int → Int} {bst : Int → Int} {tst : Int → Int} {ps : Int → Int} {en : Int → Int} {rp : Int → Int} {rv : Int → Int} {fw : Int → Int} {cl : Int → Int} {nL : Int} {kd : Int → Int} {wy : Int → Int} {ll : Int → Int} {td : Int → Int} {wh : Int → Int} {b k : Int} (hG : pj_G W sd op ed) (p0_ : W b) (p1_ : 0 ≤ k) (p2_ : k < nL) (p3_ : wh k ≠ 2) (p4_ : kd k = 5) (p5_ : wy k = op b) (p6_ : ∀ j, 0 ≤ j → j < k → wy j = wy k → wh j ≠ 0) (p7_ : rp (op b) = 1) (p8_ : rv (op b) = td k) (p9_ : lv (sd b) = cl (ed b)) (p10_ : nm (sd b) = (ed b)) (p11_ : ps (sd b) = 0) (p12_ : st (sd b) = 2) (p13_ : 1 ≤ lv (sd b)) (p14_ : 1 ≤ rp b) (p15_ : rv b = bst (sd b)) (p16_ : li (bst (sd b)) (td k)) (p17_ : 0 ≤ nL) (cL2 : pj_L2 sd op ed st lv nm tst en fw nL kd wy ll td wh) (cR : pj_R W nL kd wy wh) : pj_L2 sd op ed st lv nm tst en fw nL kd wy ll td (pu wh k 2) := by
  obtain ⟨hop, hed⟩ := hG
  unfold pj_L2 pj_R at *
  intro k0
  simp only [pu]
  have g0 := hop b
  have g1 := hop (wy k0)
  have g2 := hed b (wy k0)
  have cL2_0 := cL2 k
  have cL2_1 := cL2 k0
  have cR_0 := cR k0
  have f0 := p6_ k
  have f1 := p6_ k0
  clear p6_
  clear hop hed cL2 cR
  grind (splits := 24)

set_option maxHeartbeats 1000000 in
theorem pt_rs_L3 {W : Int → Prop} {sd : Int → Int} {op : Int → Int} {ed : Int → Int} {li : Int → Int → Prop} {st : Int → Int} {lv : Int → Int} {nm : Int → Int} {bst : Int → Int} {tst : Int → Int} {ps : Int → Int} {en : Int → Int} {rp : Int → Int} {rv : Int → Int} {fw : Int → Int} {cl : Int → Int} {nL : Int} {kd : Int → Int} {wy : Int → Int} {td : Int → Int} {wh : Int → Int} {b k : Int} (hG : pj_G W sd op ed) (p0_ : W b) (p1_ : 0 ≤ k) (p2_ : k < nL) (p3_ : wh k ≠ 2) (p4_ : kd k = 5) (p5_ : wy k = op b) (p6_ : ∀ j, 0 ≤ j → j < k → wy j = wy k → wh j ≠ 0) (p7_ : rp (op b) = 1) (p8_ : rv (op b) = td k) (p9_ : lv (sd b) = cl (ed b)) (p10_ : nm (sd b) = (ed b)) (p11_ : ps (sd b) = 0) (p12_ : st (sd b) = 2) (p13_ : 1 ≤ lv (sd b)) (p14_ : 1 ≤ rp b) (p15_ : rv b = bst (sd b)) (p16_ : li (bst (sd b)) (td k)) (p17_ : 0 ≤ nL) (cL3 : pj_L3 sd op ed st lv nm tst en fw nL kd wy wh) (cR : pj_R W nL kd wy wh) : pj_L3 sd op ed st lv nm tst en fw nL kd wy (pu wh k 2) := by
  obtain ⟨hop, hed⟩ := hG
  unfold pj_L3 pj_R at *
  intro k0
  simp only [pu]
  have g0 := hop b
  have g1 := hop (wy k0)
  have g2 := hed b (wy k0)
  have cL3_0 := cL3 k
  have cL3_1 := cL3 k0
  have cR_0 := cR k0
  have f0 := p6_ k
  have f1 := p6_ k0
  clear p6_
  clear hop hed cL3 cR
  grind (splits := 24)

set_option maxHeartbeats 1000000 in
theorem pt_rs_L4 {W : Int → Prop} {sd : Int → Int} {op : Int → Int} {ed : Int → Int} {li : Int → Int → Prop} {st : Int → Int} {lv : Int → Int} {nm : Int → Int} {bst : Int → Int} {tst : Int → Int} {ps : Int → Int} {en : Int → Int} {rp : Int → Int} {rv : Int → Int} {cl : Int → Int} {nL : Int} {kd : Int → Int} {wy : Int → Int} {td : Int → Int} {wh : Int → Int} {b k : Int} (hG : pj_G W sd op ed) (p0_ : W b) (p1_ : 0 ≤ k) (p2_ : k < nL) (p3_ : wh k ≠ 2) (p4_ : kd k = 5) (p5_ : wy k = op b) (p6_ : ∀ j, 0 ≤ j → j < k → wy j = wy k → wh j ≠ 0) (p7_ : rp (op b) = 1) (p8_ : rv (op b) = td k) (p9_ : lv (sd b) = cl (ed b)) (p10_ : nm (sd b) = (ed b)) (p11_ : ps (sd b) = 0) (p12_ : st (sd b) = 2) (p13_ : 1 ≤ lv (sd b)) (p14_ : 1 ≤ rp b) (p15_ : rv b = bst (sd b)) (p16_ : li (bst (sd b)) (td k)) (p17_ : 0 ≤ nL) (cL4 : pj_L4 sd op ed st tst en nL kd wy wh) (cR : pj_R W nL kd wy wh) : pj_L4 sd op ed st tst en nL kd wy (pu wh k 2) := by
  obtain ⟨hop, hed⟩ := hG
  unfold pj_L4 pj_R at *
  intro k0
  simp only [pu]
  have g0 := hop b
  have g1 := hop (wy k0)
  have g2 := hed b (wy k0)
  have cL4_0 := cL4 k
  have cL4_1 := cL4 k0
  have cR_0 := cR k0
  have f0 := p6_ k
  have f1 := p6_ k0
  clear p6_
  clear hop hed cL4 cR
  grind (splits := 24)

set_option maxHeartbeats 1000000 in
theorem pt_rs_AF {W : Int → Prop} {sd : Int → Int} {op : Int → Int} {ed : Int → Int} {li : Int → Int → Prop} {st : Int → Int} {lv : Int → Int} {nm : Int → Int} {bst : Int → Int} {tst : Int → Int} {ps : Int → Int} {af : Int → Int} {rp : Int → Int} {rv : Int → Int} {cl : Int → Int} {nL : Int} {kd : Int → Int} {wy : Int → Int} {td : Int → Int} {wh : Int → Int} {b k : Int} (hG : pj_G W sd op ed) (p0_ : W b) (p1_ : 0 ≤ k) (p2_ : k < nL) (p3_ : wh k ≠ 2) (p4_ : kd k = 5) (p5_ : wy k = op b) (p6_ : ∀ j, 0 ≤ j → j < k → wy j = wy k → wh j ≠ 0) (p7_ : rp (op b) = 1) (p8_ : rv (op b) = td k) (p9_ : lv (sd b) = cl (ed b)) (p10_ : nm (sd b) = (ed b)) (p11_ : ps (sd b) = 0) (p12_ : st (sd b) = 2) (p13_ : 1 ≤ lv (sd b)) (p14_ : 1 ≤ rp b) (p15_ : rv b = bst (sd b)) (p16_ : li (bst (sd b)) (td k)) (p17_ : 0 ≤ nL) (cAF : pj_AF W sd op ed tst af nL kd wy wh) : pj_AF W sd op ed tst af nL kd wy (pu wh k 2) := by
  obtain ⟨hop, hed⟩ := hG
  unfold pj_AF at *
  intro v0
  simp only [pu]
  have g0 := hop b
  have g1 := hop v0
  have g2 := hed b v0
  have cAF_0 := cAF b
  have cAF_1 := cAF v0
  have cAF_2 := cAF (op v0)
  have f0 := p6_ k
  clear p6_
  clear hop hed cAF
  grind (splits := 24)

set_option maxHeartbeats 1000000 in
theorem pt_rs_RT {W : Int → Prop} {sd : Int → Int} {op : Int → Int} {ed : Int → Int} {li : Int → Int → Prop} {st : Int → Int} {lv : Int → Int} {nm : Int → Int} {bst : Int → Int} {tst : Int → Int} {ps : Int → Int} {rp : Int → Int} {rv : Int → Int} {cl : Int → Int} {nL : Int} {kd : Int → Int} {wy : Int → Int} {td : Int → Int} {wh : Int → Int} {b k : Int} (hG : pj_G W sd op ed) (p0_ : W b) (p1_ : 0 ≤ k) (p2_ : k < nL) (p3_ : wh k ≠ 2) (p4_ : kd k = 5) (p5_ : wy k = op b) (p6_ : ∀ j, 0 ≤ j → j < k → wy j = wy k → wh j ≠ 0) (p7_ : rp (op b) = 1) (p8_ : rv (op b) = td k) (p9_ : lv (sd b) = cl (ed b)) (p10_ : nm (sd b) = (ed b)) (p11_ : ps (sd b) = 0) (p12_ : st (sd b) = 2) (p13_ : 1 ≤ lv (sd b)) (p14_ : 1 ≤ rp b) (p15_ : rv b = bst (sd b)) (p16_ : li (bst (sd b)) (td k)) (p17_ : 0 ≤ nL) (cRT : pj_RT sd ed tst nL kd wy wh) (cR : pj_R W nL kd wy wh) : pj_RT sd ed tst nL kd wy (pu wh k 2) := by
  obtain ⟨hop, hed⟩ := hG
  unfold pj_RT pj_R at *
  intro j0 k0
  simp only [pu]
  have g0 := hop b
  have g1 := hop (wy j0)
  have g2 := hop (wy k0)
  have g3 := hed b (wy j0)
  have g4 := hed b (wy k0)
  have g5 := hed (wy j0) (wy k0)
  have cRT_0 := cRT k k
  have cRT_1 := cRT k j0
  have cRT_2 := cRT k k0
  have cRT_3 := cRT j0 k
  have cRT_4 := cRT j0 j0
  have cRT_5 := cRT j0 k0
  have cRT_6 := cRT k0 k
  have cRT_7 := cRT k0 j0
  have cRT_8 := cRT k0 k0
  have cR_0 := cR j0
  have cR_1 := cR k0
  have f0 := p6_ k
  have f1 := p6_ j0
  have f2 := p6_ k0
  clear p6_
  clear hop hed cRT cR
  grind (splits := 24)

set_option maxHeartbeats 1000000 in
theorem pt_rs_CV {W : Int → Prop} {sd : Int → Int} {op : Int → Int} {ed : Int → Int} {li : Int → Int → Prop} {st : Int → Int} {lv : Int → Int} {nm : Int → Int} {bst : Int → Int} {tst : Int → Int} {ps : Int → Int} {rp : Int → Int} {rv : Int → Int} {cl : Int → Int} {nL : Int} {kd : Int → Int} {wy : Int → Int} {td : Int → Int} {wh : Int → Int} {b k : Int} (hG : pj_G W sd op ed) (p0_ : W b) (p1_ : 0 ≤ k) (p2_ : k < nL) (p3_ : wh k ≠ 2) (p4_ : kd k = 5) (p5_ : wy k = op b) (p6_ : ∀ j, 0 ≤ j → j < k → wy j = wy k → wh j ≠ 0) (p7_ : rp (op b) = 1) (p8_ : rv (op b) = td k) (p9_ : lv (sd b) = cl (ed b)) (p10_ : nm (sd b) = (ed b)) (p11_ : ps (sd b) = 0) (p12_ : st (sd b) = 2) (p13_ : 1 ≤ lv (sd b)) (p14_ : 1 ≤ rp b) (p15_ : rv b = bst (sd b)) (p16_ : li (bst (sd b)) (td k)) (p17_ : 0 ≤ nL) (cCV : pj_CV W sd op ed tst nL kd wy wh) (cR : pj_R W nL kd wy wh) : pj_CV W sd op ed tst nL kd wy (pu wh k 2) := by
  obtain ⟨hop, hed⟩ := hG
  unfold pj_CV pj_R at *
  intro v0 j0 k0
  simp only [pu]
  have g0 := hop b
  have g1 := hop v0
  have g2 := hop (wy j0)
  have g3 := hop (wy k0)
  have g4 := hed b v0
  have g5 := hed b (wy j0)
  have g6 := hed b (wy k0)
  have g7 := hed v0 (wy j0)
  have g8 := hed v0 (wy k0)
  have g9 := hed (wy j0) (wy k0)
  have cCV_0 := cCV v0 j0 k0
  have cR_0 := cR j0
  have cR_1 := cR k0
  have f0 := p6_ k
  have f1 := p6_ j0
  have f2 := p6_ k0
  clear p6_
  clear hop hed cCV cR
  grind (splits := 24)

set_option maxHeartbeats 1000000 in
theorem pt_rs_L5 {W : Int → Prop} {sd : Int → Int} {op : Int → Int} {ed : Int → Int} {li : Int → Int → Prop} {st : Int → Int} {lv : Int → Int} {nm : Int → Int} {inw : Int → Int} {bst : Int → Int} {om : Int → Int} {ps : Int → Int} {dl : Int → Int} {pd : Int → Int} {rp : Int → Int} {rv : Int → Int} {cl : Int → Int} {tk : Int → Int} {nL : Int} {kd : Int → Int} {wy : Int → Int} {td : Int → Int} {wh : Int → Int} {b k : Int} (hG : pj_G W sd op ed) (p0_ : W b) (p1_ : 0 ≤ k) (p2_ : k < nL) (p3_ : wh k ≠ 2) (p4_ : kd k = 5) (p5_ : wy k = op b) (p6_ : ∀ j, 0 ≤ j → j < k → wy j = wy k → wh j ≠ 0) (p7_ : rp (op b) = 1) (p8_ : rv (op b) = td k) (p9_ : lv (sd b) = cl (ed b)) (p10_ : nm (sd b) = (ed b)) (p11_ : ps (sd b) = 0) (p12_ : st (sd b) = 2) (p13_ : 1 ≤ lv (sd b)) (p14_ : 1 ≤ rp b) (p15_ : rv b = bst (sd b)) (p16_ : li (bst (sd b)) (td k)) (p17_ : 0 ≤ nL) (cL5 : pj_L5 sd op ed st lv nm inw bst om ps dl pd rp rv cl tk nL kd wy td wh) (cR : pj_R W nL kd wy wh) (cL5u : pj_L5u nL kd wy wh) : pj_L5 sd op ed st lv nm inw bst om ps dl pd (pu rp (op b) 2) rv cl (pu tk (nm (sd b)) 1) nL kd wy td (pu wh k 2) := by
  obtain ⟨hop, hed⟩ := hG
  unfold pj_L5 pj_R pj_L5u at *
  intro k0
  simp only [pu]
  have g0 := hop b
  have g1 := hop (wy k0)
  have g2 := hed b (wy k0)
  have cL5_0 := cL5 k
  have cL5_1 := cL5 k0
  have cR_0 := cR k0
  have cL5u_0 := cL5u k0 k
  have f0 := p6_ k
  have f1 := p6_ k0
  clear p6_
  clear hop hed cL5 cR cL5u
  grind (splits := 24)

set_option maxHeartbeats 1000000 in
theorem pt_rs_L5o {W : Int → Prop} {sd : Int → Int} {op : Int → Int} {ed : Int → Int} {li : Int → Int → Prop} {st : Int → Int} {lv : Int → Int} {nm : Int → Int} {bst : Int → Int} {ps : Int → Int} {rp : Int → Int} {rv : Int → Int} {cl : Int → Int} {nL : Int} {kd : Int → Int} {wy : Int → Int} {td : Int → Int} {wh : Int → Int} {b k : Int} (hG : pj_G W sd op ed) (p0_ : W b) (p1_ : 0 ≤ k) (p2_ : k < nL) (p3_ : wh k ≠ 2) (p4_ : kd k = 5) (p5_ : wy k = op b) (p6_ : ∀ j, 0 ≤ j → j < k → wy j = wy k → wh j ≠ 0) (p7_ : rp (op b) = 1) (p8_ : rv (op b) = td k) (p9_ : lv (sd b) = cl (ed b)) (p10_ : nm (sd b) = (ed b)) (p11_ : ps (sd b) = 0) (p12_ : st (sd b) = 2) (p13_ : 1 ≤ lv (sd b)) (p14_ : 1 ≤ rp b) (p15_ : rv b = bst (sd b)) (p16_ : li (bst (sd b)) (td k)) (p17_ : 0 ≤ nL) (cL5o : pj_L5o sd op ed lv cl nL kd wy wh) (cR : pj_R W nL kd wy wh) : pj_L5o sd op ed lv cl nL kd wy (pu wh k 2) := by
  obtain ⟨hop, hed⟩ := hG
  unfold pj_L5o pj_R at *
  intro j0 k0
  simp only [pu]
  have g0 := hop b
  have g1 := hop (wy j0)
  have g2 := hop (wy k0)
  have g3 := hed b (wy j0)
  have g4 := hed b (wy k0)
  have g5 := hed (wy j0) (wy k0)
  have cL5o_0 := cL5o k k
  have cL5o_1 := cL5o k j0
  have cL5o_2 := cL5o k k0
  have cL5o_3 := cL5o j0 k
  have cL5o_4 := cL5o j0 j0
  have cL5o_5 := cL5o j0 k0
  have cL5o_6 := cL5o k0 k
  have cL5o_7 := cL5o k0 j0
  have cL5o_8 := cL5o k0 k0
  have cR_0 := cR j0
  have cR_1 := cR k0
  have f0 := p6_ k
  have f1 := p6_ j0
  have f2 := p6_ k0
  clear p6_
  clear hop hed cL5o cR
  grind (splits := 24)

set_option maxHeartbeats 1000000 in
theorem pt_rs_L5u {W : Int → Prop} {sd : Int → Int} {op : Int → Int} {ed : Int → Int} {li : Int → Int → Prop} {st : Int → Int} {lv : Int → Int} {nm : Int → Int} {bst : Int → Int} {ps : Int → Int} {rp : Int → Int} {rv : Int → Int} {cl : Int → Int} {nL : Int} {kd : Int → Int} {wy : Int → Int} {td : Int → Int} {wh : Int → Int} {b k : Int} (hG : pj_G W sd op ed) (p0_ : W b) (p1_ : 0 ≤ k) (p2_ : k < nL) (p3_ : wh k ≠ 2) (p4_ : kd k = 5) (p5_ : wy k = op b) (p6_ : ∀ j, 0 ≤ j → j < k → wy j = wy k → wh j ≠ 0) (p7_ : rp (op b) = 1) (p8_ : rv (op b) = td k) (p9_ : lv (sd b) = cl (ed b)) (p10_ : nm (sd b) = (ed b)) (p11_ : ps (sd b) = 0) (p12_ : st (sd b) = 2) (p13_ : 1 ≤ lv (sd b)) (p14_ : 1 ≤ rp b) (p15_ : rv b = bst (sd b)) (p16_ : li (bst (sd b)) (td k)) (p17_ : 0 ≤ nL) (cL5u : pj_L5u nL kd wy wh) (cR : pj_R W nL kd wy wh) : pj_L5u nL kd wy (pu wh k 2) := by
  obtain ⟨hop, hed⟩ := hG
  unfold pj_L5u pj_R at *
  intro j0 k0
  simp only [pu]
  have g0 := hop b
  have g1 := hop (wy j0)
  have g2 := hop (wy k0)
  have g3 := hed b (wy j0)
  have g4 := hed b (wy k0)
  have g5 := hed (wy j0) (wy k0)
  have cL5u_0 := cL5u k k
  have cL5u_1 := cL5u k j0
  have cL5u_2 := cL5u k k0
  have cL5u_3 := cL5u j0 k
  have cL5u_4 := cL5u j0 j0
  have cL5u_5 := cL5u j0 k0
  have cL5u_6 := cL5u k0 k
  have cL5u_7 := cL5u k0 j0
  have cL5u_8 := cL5u k0 k0
  have cR_0 := cR j0
  have cR_1 := cR k0
  have f0 := p6_ k
  have f1 := p6_ j0
  have f2 := p6_ k0
  clear p6_
  clear hop hed cL5u cR
  grind (splits := 24)

set_option maxHeartbeats 1000000 in
theorem pt_rs_L6 {W : Int → Prop} {sd : Int → Int} {op : Int → Int} {ed : Int → Int} {li : Int → Int → Prop} {st : Int → Int} {lv : Int → Int} {nm : Int → Int} {tow : Int → Int} {bst : Int → Int} {om : Int → Int} {ps : Int → Int} {dl : Int → Int} {rp : Int → Int} {rv : Int → Int} {cl : Int → Int} {cw : Int → Int} {tk : Int → Int} {nL : Int} {kd : Int → Int} {wy : Int → Int} {td : Int → Int} {wh : Int → Int} {b k : Int} (hG : pj_G W sd op ed) (p0_ : W b) (p1_ : 0 ≤ k) (p2_ : k < nL) (p3_ : wh k ≠ 2) (p4_ : kd k = 5) (p5_ : wy k = op b) (p6_ : ∀ j, 0 ≤ j → j < k → wy j = wy k → wh j ≠ 0) (p7_ : rp (op b) = 1) (p8_ : rv (op b) = td k) (p9_ : lv (sd b) = cl (ed b)) (p10_ : nm (sd b) = (ed b)) (p11_ : ps (sd b) = 0) (p12_ : st (sd b) = 2) (p13_ : 1 ≤ lv (sd b)) (p14_ : 1 ≤ rp b) (p15_ : rv b = bst (sd b)) (p16_ : li (bst (sd b)) (td k)) (p17_ : 0 ≤ nL) (cL6 : pj_L6 sd op ed st lv nm tow om ps dl cw tk nL kd wy wh) (cR : pj_R W nL kd wy wh) : pj_L6 sd op ed st lv nm tow om ps dl cw (pu tk (nm (sd b)) 1) nL kd wy (pu wh k 2) := by
  obtain ⟨hop, hed⟩ := hG
  unfold pj_L6 pj_R at *
  intro k0
  simp only [pu]
  have g0 := hop b
  have g1 := hop (wy k0)
  have g2 := hed b (wy k0)
  have cL6_0 := cL6 k
  have cL6_1 := cL6 k0
  have cR_0 := cR k0
  have f0 := p6_ k
  have f1 := p6_ k0
  clear p6_
  clear hop hed cL6 cR
  grind (splits := 24)

set_option maxHeartbeats 1000000 in
theorem pt_rs_L6u {W : Int → Prop} {sd : Int → Int} {op : Int → Int} {ed : Int → Int} {li : Int → Int → Prop} {st : Int → Int} {lv : Int → Int} {nm : Int → Int} {bst : Int → Int} {ps : Int → Int} {rp : Int → Int} {rv : Int → Int} {cl : Int → Int} {nL : Int} {kd : Int → Int} {wy : Int → Int} {td : Int → Int} {wh : Int → Int} {b k : Int} (hG : pj_G W sd op ed) (p0_ : W b) (p1_ : 0 ≤ k) (p2_ : k < nL) (p3_ : wh k ≠ 2) (p4_ : kd k = 5) (p5_ : wy k = op b) (p6_ : ∀ j, 0 ≤ j → j < k → wy j = wy k → wh j ≠ 0) (p7_ : rp (op b) = 1) (p8_ : rv (op b) = td k) (p9_ : lv (sd b) = cl (ed b)) (p10_ : nm (sd b) = (ed b)) (p11_ : ps (sd b) = 0) (p12_ : st (sd b) = 2) (p13_ : 1 ≤ lv (sd b)) (p14_ : 1 ≤ rp b) (p15_ : rv b = bst (sd b)) (p16_ : li (bst (sd b)) (td k)) (p17_ : 0 ≤ nL) (cL6u : pj_L6u sd op nm nL kd wy wh) (cR : pj_R W nL kd wy wh) : pj_L6u sd op nm nL kd wy (pu wh k 2) := by
  obtain ⟨hop, hed⟩ := hG
  unfold pj_L6u pj_R at *
  intro j0 k0
  simp only [pu]
  have g0 := hop b
  have g1 := hop (wy j0)
  have g2 := hop (wy k0)
  have g3 := hed b (wy j0)
  have g4 := hed b (wy k0)
  have g5 := hed (wy j0) (wy k0)
  have cL6u_0 := cL6u k k
  have cL6u_1 := cL6u k j0
  have cL6u_2 := cL6u k k0
  have cL6u_3 := cL6u j0 k
  have cL6u_4 := cL6u j0 j0
  have cL6u_5 := cL6u j0 k0
  have cL6u_6 := cL6u k0 k
  have cL6u_7 := cL6u k0 j0
  have cL6u_8 := cL6u k0 k0
  have cR_0 := cR j0
  have cR_1 := cR k0
  have f0 := p6_ k
  have f1 := p6_ j0
  have f2 := p6_ k0
  clear p6_
  clear hop hed cL6u cR
  grind (splits := 24)

theorem pj_rs {W : Int → Prop} {sd op ed : Int → Int} {li : Int → Int → Prop} {st lv nm inw tow bst tst exp om ps dl dn af c0 en pd rp rv fw cl cw tk kd wy ll td ls wh : Int → Int} {nL : Int} {F F2 : Int → Prop} {fl fc : Int} {b k : Int} (hG : pj_G W sd op ed) (p0_ : W b) (p1_ : 0 ≤ k) (p2_ : k < nL) (p3_ : wh k ≠ 2) (p4_ : kd k = 5) (p5_ : wy k = op b) (p6_ : ∀ j, 0 ≤ j → j < k → wy j = wy k → wh j ≠ 0) (p7_ : rp (op b) = 1) (p8_ : rv (op b) = td k) (p9_ : lv (sd b) = cl (ed b)) (p10_ : nm (sd b) = (ed b)) (p11_ : ps (sd b) = 0) (p12_ : st (sd b) = 2) (p13_ : 1 ≤ lv (sd b)) (p14_ : 1 ≤ rp b) (p15_ : rv b = bst (sd b)) (p16_ : li (bst (sd b)) (td k)) (p17_ : 0 ≤ nL) (h : pj_J W sd op ed li st lv nm inw tow bst tst exp om ps dl dn af c0 en pd rp rv fw cl cw tk nL kd wy ll td ls wh F fl fc) : pj_J W sd op ed li st lv nm inw tow bst tst exp om ps dl dn af c0 en pd (pu rp (op b) 2) rv fw cl cw (pu tk (nm (sd b)) 1) nL kd wy ll td ls (pu wh k 2) F fl fc := by
  obtain ⟨cR, cN0, cN1, cN1w, cER, cN1c, cN2, cN2e, cN2b, cN4e, cN4b, cN5, cN7, cN10, cN10e, cN13, cC1, cC2, cR3a, cE1, cU, cA1, cA2, cEC, cR3, cN11, cN12, cN3, cRJ, cFW, cPD, cCC, cCD, cRP, cRP1, cCR, cZ1, cZ0, cTK, cK2, cWH, cFI, cL0, cFC, cL0u, cOC, cCT, cL1, cL1e, cL1o, cL1b, cL1g, cL2, cL3, cL4, cAF, cRT, cCV, cL5, cL5o, cL5u, cL6, cL6u⟩ := h
  exact ⟨pt_rs_R hG p0_ p1_ p2_ p3_ p4_ p5_ p6_ p7_ p8_ p9_ p10_ p11_ p12_ p13_ p14_ p15_ p16_ p17_ cR, cN0, cN1, cN1w, cER, pt_rs_N1c hG p0_ p1_ p2_ p3_ p4_ p5_ p6_ p7_ p8_ p9_ p10_ p11_ p12_ p13_ p14_ p15_ p16_ p17_ cN1c cR, cN2, cN2e, cN2b, cN4e, cN4b, cN5, cN7, cN10, cN10e, cN13, cC1, cC2, cR3a, pt_rs_E1 hG p0_ p1_ p2_ p3_ p4_ p5_ p6_ p7_ p8_ p9_ p10_ p11_ p12_ p13_ p14_ p15_ p16_ p17_ cE1, cU, cA1, cA2, pt_rs_EC hG p0_ p1_ p2_ p3_ p4_ p5_ p6_ p7_ p8_ p9_ p10_ p11_ p12_ p13_ p14_ p15_ p16_ p17_ cEC, cR3, cN11, cN12, cN3, cRJ, cFW, cPD, cCC, cCD, pt_rs_RP hG p0_ p1_ p2_ p3_ p4_ p5_ p6_ p7_ p8_ p9_ p10_ p11_ p12_ p13_ p14_ p15_ p16_ p17_ cRP, pt_rs_RP1 hG p0_ p1_ p2_ p3_ p4_ p5_ p6_ p7_ p8_ p9_ p10_ p11_ p12_ p13_ p14_ p15_ p16_ p17_ cRP1, cCR, cZ1, cZ0, pt_rs_TK hG p0_ p1_ p2_ p3_ p4_ p5_ p6_ p7_ p8_ p9_ p10_ p11_ p12_ p13_ p14_ p15_ p16_ p17_ cTK, pt_rs_K2 hG p0_ p1_ p2_ p3_ p4_ p5_ p6_ p7_ p8_ p9_ p10_ p11_ p12_ p13_ p14_ p15_ p16_ p17_ cK2, pt_rs_WH hG p0_ p1_ p2_ p3_ p4_ p5_ p6_ p7_ p8_ p9_ p10_ p11_ p12_ p13_ p14_ p15_ p16_ p17_ cWH cR, pt_rs_FI hG p0_ p1_ p2_ p3_ p4_ p5_ p6_ p7_ p8_ p9_ p10_ p11_ p12_ p13_ p14_ p15_ p16_ p17_ cFI cR, pt_rs_L0 hG p0_ p1_ p2_ p3_ p4_ p5_ p6_ p7_ p8_ p9_ p10_ p11_ p12_ p13_ p14_ p15_ p16_ p17_ cL0 cR, pt_rs_FC hG p0_ p1_ p2_ p3_ p4_ p5_ p6_ p7_ p8_ p9_ p10_ p11_ p12_ p13_ p14_ p15_ p16_ p17_ cFC cR, pt_rs_L0u hG p0_ p1_ p2_ p3_ p4_ p5_ p6_ p7_ p8_ p9_ p10_ p11_ p12_ p13_ p14_ p15_ p16_ p17_ cL0u cR, pt_rs_OC hG p0_ p1_ p2_ p3_ p4_ p5_ p6_ p7_ p8_ p9_ p10_ p11_ p12_ p13_ p14_ p15_ p16_ p17_ cOC cR, pt_rs_CT hG p0_ p1_ p2_ p3_ p4_ p5_ p6_ p7_ p8_ p9_ p10_ p11_ p12_ p13_ p14_ p15_ p16_ p17_ cCT cR, pt_rs_L1 hG p0_ p1_ p2_ p3_ p4_ p5_ p6_ p7_ p8_ p9_ p10_ p11_ p12_ p13_ p14_ p15_ p16_ p17_ cL1 cR, pt_rs_L1e hG p0_ p1_ p2_ p3_ p4_ p5_ p6_ p7_ p8_ p9_ p10_ p11_ p12_ p13_ p14_ p15_ p16_ p17_ cL1e cR, pt_rs_L1o hG p0_ p1_ p2_ p3_ p4_ p5_ p6_ p7_ p8_ p9_ p10_ p11_ p12_ p13_ p14_ p15_ p16_ p17_ cL1o cR, pt_rs_L1b hG p0_ p1_ p2_ p3_ p4_ p5_ p6_ p7_ p8_ p9_ p10_ p11_ p12_ p13_ p14_ p15_ p16_ p17_ cL1b cR, pt_rs_L1g hG p0_ p1_ p2_ p3_ p4_ p5_ p6_ p7_ p8_ p9_ p10_ p11_ p12_ p13_ p14_ p15_ p16_ p17_ cL1g cR, pt_rs_L2 hG p0_ p1_ p2_ p3_ p4_ p5_ p6_ p7_ p8_ p9_ p10_ p11_ p12_ p13_ p14_ p15_ p16_ p17_ cL2 cR, pt_rs_L3 hG p0_ p1_ p2_ p3_ p4_ p5_ p6_ p7_ p8_ p9_ p10_ p11_ p12_ p13_ p14_ p15_ p16_ p17_ cL3 cR, pt_rs_L4 hG p0_ p1_ p2_ p3_ p4_ p5_ p6_ p7_ p8_ p9_ p10_ p11_ p12_ p13_ p14_ p15_ p16_ p17_ cL4 cR, pt_rs_AF hG p0_ p1_ p2_ p3_ p4_ p5_ p6_ p7_ p8_ p9_ p10_ p11_ p12_ p13_ p14_ p15_ p16_ p17_ cAF, pt_rs_RT hG p0_ p1_ p2_ p3_ p4_ p5_ p6_ p7_ p8_ p9_ p10_ p11_ p12_ p13_ p14_ p15_ p16_ p17_ cRT cR, pt_rs_CV hG p0_ p1_ p2_ p3_ p4_ p5_ p6_ p7_ p8_ p9_ p10_ p11_ p12_ p13_ p14_ p15_ p16_ p17_ cCV cR, pt_rs_L5 hG p0_ p1_ p2_ p3_ p4_ p5_ p6_ p7_ p8_ p9_ p10_ p11_ p12_ p13_ p14_ p15_ p16_ p17_ cL5 cR cL5u, pt_rs_L5o hG p0_ p1_ p2_ p3_ p4_ p5_ p6_ p7_ p8_ p9_ p10_ p11_ p12_ p13_ p14_ p15_ p16_ p17_ cL5o cR, pt_rs_L5u hG p0_ p1_ p2_ p3_ p4_ p5_ p6_ p7_ p8_ p9_ p10_ p11_ p12_ p13_ p14_ p15_ p16_ p17_ cL5u cR, pt_rs_L6 hG p0_ p1_ p2_ p3_ p4_ p5_ p6_ p7_ p8_ p9_ p10_ p11_ p12_ p13_ p14_ p15_ p16_ p17_ cL6 cR, pt_rs_L6u hG p0_ p1_ p2_ p3_ p4_ p5_ p6_ p7_ p8_ p9_ p10_ p11_ p12_ p13_ p14_ p15_ p16_ p17_ cL6u cR⟩

set_option maxHeartbeats 1000000 in
theorem pt_ch_R {W : Int → Prop} {sd : Int → Int} {op : Int → Int} {ed : Int → Int} {st : Int → Int} {nL : Int} {kd : Int → Int} {wy : Int → Int} {wh : Int → Int} {b k : Int} (hG : pj_G W sd op ed) (p0_ : W b) (p1_ : 0 ≤ k) (p2_ : k < nL) (p3_ : wh k ≠ 2) (p4_ : kd k = 6) (p5_ : wy k = op b) (p6_ : ∀ j, 0 ≤ j → j < k → wy j = wy k → wh j ≠ 0) (p7_ : st (sd b) = 2) (p8_ : 0 ≤ nL) (cR : pj_R W nL kd wy wh) : pj_R W nL kd wy (pu wh k 2) := by
  obtain ⟨hop, hed⟩ := hG
  unfold pj_R at *
  intro k0
  simp only [pu]
  have g0 := hop b
  have g1 := hop (wy k0)
  have g2 := hed b (wy k0)
  have cR_0 := cR k
  have cR_1 := cR k0
  have f0 := p6_ k
  have f1 := p6_ k0
  clear p6_
  clear hop hed cR
  grind (splits := 24)

set_option maxHeartbeats 1000000 in
theorem pt_ch_N1c {W : Int → Prop} {sd : Int → Int} {op : Int → Int} {ed : Int → Int} {st : Int → Int} {nL : Int} {kd : Int → Int} {wy : Int → Int} {wh : Int → Int} {b k : Int} (hG : pj_G W sd op ed) (p0_ : W b) (p1_ : 0 ≤ k) (p2_ : k < nL) (p3_ : wh k ≠ 2) (p4_ : kd k = 6) (p5_ : wy k = op b) (p6_ : ∀ j, 0 ≤ j → j < k → wy j = wy k → wh j ≠ 0) (p7_ : st (sd b) = 2) (p8_ : 0 ≤ nL) (cN1c : pj_N1c sd op st nL wy wh) (cR : pj_R W nL kd wy wh) : pj_N1c sd op st nL wy (pu wh k 2) := by
  obtain ⟨hop, hed⟩ := hG
  unfold pj_N1c pj_R at *
  intro k0
  simp only [pu]
  have g0 := hop b
  have g1 := hop (wy k0)
  have g2 := hed b (wy k0)
  have cN1c_0 := cN1c k
  have cN1c_1 := cN1c k0
  have cR_0 := cR k0
  have f0 := p6_ k
  have f1 := p6_ k0
  clear p6_
  clear hop hed cN1c cR
  grind (splits := 24)

set_option maxHeartbeats 1000000 in
theorem pt_ch_E1 {W : Int → Prop} {sd : Int → Int} {op : Int → Int} {ed : Int → Int} {st : Int → Int} {lv : Int → Int} {dl : Int → Int} {nL : Int} {kd : Int → Int} {wy : Int → Int} {ll : Int → Int} {wh : Int → Int} {b k : Int} (hG : pj_G W sd op ed) (p0_ : W b) (p1_ : 0 ≤ k) (p2_ : k < nL) (p3_ : wh k ≠ 2) (p4_ : kd k = 6) (p5_ : wy k = op b) (p6_ : ∀ j, 0 ≤ j → j < k → wy j = wy k → wh j ≠ 0) (p7_ : st (sd b) = 2) (p8_ : 0 ≤ nL) (cE1 : pj_E1 sd op lv dl nL kd wy ll wh) : pj_E1 sd op lv dl nL kd wy ll (pu wh k 2) := by
  obtain ⟨hop, hed⟩ := hG
  unfold pj_E1 at *
  intro n0
  simp only [pu]
  have g0 := hop b
  have cE1_0 := cE1 (sd (op b))
  have cE1_1 := cE1 n0
  have cE1_2 := cE1 (sd b)
  have f0 := p6_ k
  clear p6_
  clear hop hed cE1
  grind (splits := 24)

set_option maxHeartbeats 1000000 in
theorem pt_ch_EC {W : Int → Prop} {sd : Int → Int} {op : Int → Int} {ed : Int → Int} {st : Int → Int} {lv : Int → Int} {nm : Int → Int} {om : Int → Int} {ps : Int → Int} {dl : Int → Int} {nL : Int} {kd : Int → Int} {wy : Int → Int} {wh : Int → Int} {F : Int → Prop} {b k : Int} (hG : pj_G W sd op ed) (p0_ : W b) (p1_ : 0 ≤ k) (p2_ : k < nL) (p3_ : wh k ≠ 2) (p4_ : kd k = 6) (p5_ : wy k = op b) (p6_ : ∀ j, 0 ≤ j → j < k → wy j = wy k → wh j ≠ 0) (p7_ : st (sd b) = 2) (p8_ : 0 ≤ nL) (cEC : pj_EC W sd op ed lv nm om ps dl nL kd wy wh F) : pj_EC W sd op ed lv nm om ps dl nL kd wy (pu wh k 2) F := by
  obtain ⟨hop, hed⟩ := hG
  unfold pj_EC at *
  intro w0
  simp only [pu]
  have g0 := hop b
  have g1 := hop w0
  have g2 := hed b w0
  have cEC_0 := cEC b
  have cEC_1 := cEC w0
  have cEC_2 := cEC (op w0)
  have f0 := p6_ k
  clear p6_
  clear hop hed cEC
  grind (splits := 24)

set_option maxHeartbeats 1000000 in
theorem pt_ch_WH {W : Int → Prop} {sd : Int → Int} {op : Int → Int} {ed : Int → Int} {st : Int → Int} {nL : Int} {kd : Int → Int} {wy : Int → Int} {wh : Int → Int} {b k : Int} (hG : pj_G W sd op ed) (p0_ : W b) (p1_ : 0 ≤ k) (p2_ : k < nL) (p3_ : wh k ≠ 2) (p4_ : kd k = 6) (p5_ : wy k = op b) (p6_ : ∀ j, 0 ≤ j → j < k → wy j = wy k → wh j ≠ 0) (p7_ : st (sd b) = 2) (p8_ : 0 ≤ nL) (cWH : pj_WH nL kd wh) (cR : pj_R W nL kd wy wh) : pj_WH nL kd (pu wh k 2) := by
  obtain ⟨hop, hed⟩ := hG
  unfold pj_WH pj_R at *
  intro k0
  simp only [pu]
  have g0 := hop b
  have g1 := hop (wy k0)
  have g2 := hed b (wy k0)
  have cWH_0 := cWH k
  have cWH_1 := cWH k0
  have cR_0 := cR k0
  have f0 := p6_ k
  have f1 := p6_ k0
  clear p6_
  clear hop hed cWH cR
  grind (splits := 24)

set_option maxHeartbeats 1000000 in
theorem pt_ch_FI {W : Int → Prop} {sd : Int → Int} {op : Int → Int} {ed : Int → Int} {st : Int → Int} {nL : Int} {kd : Int → Int} {wy : Int → Int} {wh : Int → Int} {b k : Int} (hG : pj_G W sd op ed) (p0_ : W b) (p1_ : 0 ≤ k) (p2_ : k < nL) (p3_ : wh k ≠ 2) (p4_ : kd k = 6) (p5_ : wy k = op b) (p6_ : ∀ j, 0 ≤ j → j < k → wy j = wy k → wh j ≠ 0) (p7_ : st (sd b) = 2) (p8_ : 0 ≤ nL) (cFI : pj_FI nL wy wh) (cR : pj_R W nL kd wy wh) : pj_FI nL wy (pu wh k 2) := by
  obtain ⟨hop, hed⟩ := hG
  unfold pj_FI pj_R at *
  intro j0 k0
  simp only [pu]
  have g0 := hop b
  have g1 := hop (wy j0)
  have g2 := hop (wy k0)
  have g3 := hed b (wy j0)
  have g4 := hed b (wy k0)
  have g5 := hed (wy j0) (wy k0)
  have cFI_0 := cFI k k
  have cFI_1 := cFI k j0
  have cFI_2 := cFI k k0
  have cFI_3 := cFI j0 k
  have cFI_4 := cFI j0 j0
  have cFI_5 := cFI j0 k0
  have cFI_6 := cFI k0 k
  have cFI_7 := cFI k0 j0
  have cFI_8 := cFI k0 k0
  have cR_0 := cR j0
  have cR_1 := cR k0
  have f0 := p6_ k
  have f1 := p6_ j0
  have f2 := p6_ k0
  clear p6_
  clear hop hed cFI cR
  grind (splits := 24)

set_option maxHeartbeats 1000000 in
theorem pt_ch_L0 {W : Int → Prop} {sd : Int → Int} {op : Int → Int} {ed : Int → Int} {st : Int → Int} {lv : Int → Int} {nm : Int → Int} {om : Int → Int} {ps : Int → Int} {dl : Int → Int} {c0 : Int → Int} {en : Int → Int} {cw : Int → Int} {nL : Int} {kd : Int → Int} {wy : Int → Int} {ll : Int → Int} {wh : Int → Int} {b k : Int} (hG : pj_G W sd op ed) (p0_ : W b) (p1_ : 0 ≤ k) (p2_ : k < nL) (p3_ : wh k ≠ 2) (p4_ : kd k = 6) (p5_ : wy k = op b) (p6_ : ∀ j, 0 ≤ j → j < k → wy j = wy k → wh j ≠ 0) (p7_ : st (sd b) = 2) (p8_ : 0 ≤ nL) (cL0 : pj_L0 sd op ed lv nm om ps dl c0 en cw nL kd wy ll wh) (cR : pj_R W nL kd wy wh) : pj_L0 sd op ed lv nm om ps dl c0 en cw nL kd wy ll (pu wh k 2) := by
  obtain ⟨hop, hed⟩ := hG
  unfold pj_L0 pj_R at *
  intro k0
  simp only [pu]
  have g0 := hop b
  have g1 := hop (wy k0)
  have g2 := hed b (wy k0)
  have cL0_0 := cL0 k
  have cL0_1 := cL0 k0
  have cR_0 := cR k0
  have f0 := p6_ k
  have f1 := p6_ k0
  clear p6_
  clear hop hed cL0 cR
  grind (splits := 24)

set_option maxHeartbeats 1000000 in
theorem pt_ch_FC {W : Int → Prop} {sd : Int → Int} {op : Int → Int} {ed : Int → Int} {st : Int → Int} {nL : Int} {kd : Int → Int} {wy : Int → Int} {wh : Int → Int} {F : Int → Prop} {b k : Int} (hG : pj_G W sd op ed) (p0_ : W b) (p1_ : 0 ≤ k) (p2_ : k < nL) (p3_ : wh k ≠ 2) (p4_ : kd k = 6) (p5_ : wy k = op b) (p6_ : ∀ j, 0 ≤ j → j < k → wy j = wy k → wh j ≠ 0) (p7_ : st (sd b) = 2) (p8_ : 0 ≤ nL) (cFC : pj_FC op nL kd wy wh F) (cR : pj_R W nL kd wy wh) : pj_FC op nL kd wy (pu wh k 2) F := by
  obtain ⟨hop, hed⟩ := hG
  unfold pj_FC pj_R at *
  intro k0
  simp only [pu]
  have g0 := hop b
  have g1 := hop (wy k0)
  have g2 := hed b (wy k0)
  have cFC_0 := cFC k
  have cFC_1 := cFC k0
  have cR_0 := cR k0
  have f0 := p6_ k
  have f1 := p6_ k0
  clear p6_
  clear hop hed cFC cR
  grind (splits := 24)

set_option maxHeartbeats 1000000 in
theorem pt_ch_L0u {W : Int → Prop} {sd : Int → Int} {op : Int → Int} {ed : Int → Int} {st : Int → Int} {nL : Int} {kd : Int → Int} {wy : Int → Int} {wh : Int → Int} {b k : Int} (hG : pj_G W sd op ed) (p0_ : W b) (p1_ : 0 ≤ k) (p2_ : k < nL) (p3_ : wh k ≠ 2) (p4_ : kd k = 6) (p5_ : wy k = op b) (p6_ : ∀ j, 0 ≤ j → j < k → wy j = wy k → wh j ≠ 0) (p7_ : st (sd b) = 2) (p8_ : 0 ≤ nL) (cL0u : pj_L0u nL kd wy wh) (cR : pj_R W nL kd wy wh) : pj_L0u nL kd wy (pu wh k 2) := by
  obtain ⟨hop, hed⟩ := hG
  unfold pj_L0u pj_R at *
  intro j0 k0
  simp only [pu]
  have g0 := hop b
  have g1 := hop (wy j0)
  have g2 := hop (wy k0)
  have g3 := hed b (wy j0)
  have g4 := hed b (wy k0)
  have g5 := hed (wy j0) (wy k0)
  have cL0u_0 := cL0u k k
  have cL0u_1 := cL0u k j0
  have cL0u_2 := cL0u k k0
  have cL0u_3 := cL0u j0 k
  have cL0u_4 := cL0u j0 j0
  have cL0u_5 := cL0u j0 k0
  have cL0u_6 := cL0u k0 k
  have cL0u_7 := cL0u k0 j0
  have cL0u_8 := cL0u k0 k0
  have cR_0 := cR j0
  have cR_1 := cR k0
  have f0 := p6_ k
  have f1 := p6_ j0
  have f2 := p6_ k0
  clear p6_
  clear hop hed cL0u cR
  grind (splits := 24)

set_option maxHeartbeats 1000000 in
theorem pt_ch_OC {W : Int → Prop} {sd : Int → Int} {op : Int → Int} {ed : Int → Int} {st : Int → Int} {nL : Int} {kd : Int → Int} {wy : Int → Int} {wh : Int → Int} {b k : Int} (hG : pj_G W sd op ed) (p0_ : W b) (p1_ : 0 ≤ k) (p2_ : k < nL) (p3_ : wh k ≠ 2) (p4_ : kd k = 6) (p5_ : wy k = op b) (p6_ : ∀ j, 0 ≤ j → j < k → wy j = wy k → wh j ≠ 0) (p7_ : st (sd b) = 2) (p8_ : 0 ≤ nL) (cOC : pj_OC nL kd wy wh) (cR : pj_R W nL kd wy wh) : pj_OC nL kd wy (pu wh k 2) := by
  obtain ⟨hop, hed⟩ := hG
  unfold pj_OC pj_R at *
  intro j0 k0
  simp only [pu]
  have g0 := hop b
  have g1 := hop (wy j0)
  have g2 := hop (wy k0)
  have g3 := hed b (wy j0)
  have g4 := hed b (wy k0)
  have g5 := hed (wy j0) (wy k0)
  have cOC_0 := cOC k k
  have cOC_1 := cOC k j0
  have cOC_2 := cOC k k0
  have cOC_3 := cOC j0 k
  have cOC_4 := cOC j0 j0
  have cOC_5 := cOC j0 k0
  have cOC_6 := cOC k0 k
  have cOC_7 := cOC k0 j0
  have cOC_8 := cOC k0 k0
  have cR_0 := cR j0
  have cR_1 := cR k0
  have f0 := p6_ k
  have f1 := p6_ j0
  have f2 := p6_ k0
  clear p6_
  clear hop hed cOC cR
  grind (splits := 24)

set_option maxHeartbeats 1000000 in
theorem pt_ch_CT {W : Int → Prop} {sd : Int → Int} {op : Int → Int} {ed : Int → Int} {st : Int → Int} {nL : Int} {kd : Int → Int} {wy : Int → Int} {wh : Int → Int} {b k : Int} (hG : pj_G W sd op ed) (p0_ : W b) (p1_ : 0 ≤ k) (p2_ : k < nL) (p3_ : wh k ≠ 2) (p4_ : kd k = 6) (p5_ : wy k = op b) (p6_ : ∀ j, 0 ≤ j → j < k → wy j = wy k → wh j ≠ 0) (p7_ : st (sd b) = 2) (p8_ : 0 ≤ nL) (cCT : pj_CT nL kd wy wh) (cR : pj_R W nL kd wy wh) : pj_CT nL kd wy (pu wh k 2) := by
  obtain ⟨hop, hed⟩ := hG
  unfold pj_CT pj_R at *
  intro j0 k0
  simp only [pu]
  have g0 := hop b
  have g1 := hop (wy j0)
  have g2 := hop (wy k0)
  have g3 := hed b (wy j0)
  have g4 := hed b (wy k0)
  have g5 := hed (wy j0) (wy k0)
  have cCT_0 := cCT k k
  have cCT_1 := cCT k j0
  have cCT_2 := cCT k k0
  have cCT_3 := cCT j0 k
  have cCT_4 := cCT j0 j0
  have cCT_5 := cCT j0 k0
  have cCT_6 := cCT k0 k
  have cCT_7 := cCT k0 j0
  have cCT_8 := cCT k0 k0
  have cR_0 := cR j0
  have cR_1 := cR k0
  have f0 := p6_ k
  have f1 := p6_ j0
  have f2 := p6_ k0
  clear p6_
  clear hop hed cCT cR
  grind (splits := 24)

set_option maxHeartbeats 1000000 in
theorem pt_ch_L1 {W : Int → Prop} {sd : Int → Int} {op : Int → Int} {ed : Int → Int} {st : Int → Int} {lv : Int → Int} {om : Int → Int} {dl : Int → Int} {en : Int → Int} {cl : Int → Int} {nL : Int} {kd : Int → Int} {wy : Int → Int} {ll : Int → Int} {td : Int → Int} {ls : Int → Int} {wh : Int → Int} {b k : Int} (hG : pj_G W sd op ed) (p0_ : W b) (p1_ : 0 ≤ k) (p2_ : k < nL) (p3_ : wh k ≠ 2) (p4_ : kd k = 6) (p5_ : wy k = op b) (p6_ : ∀ j, 0 ≤ j → j < k → wy j = wy k → wh j ≠ 0) (p7_ : st (sd b) = 2) (p8_ : 0 ≤ nL) (cL1 : pj_L1 sd op ed st lv om dl en cl nL kd wy ll td ls wh) (cR : pj_R W nL kd wy wh) : pj_L1 sd op ed st lv om dl en cl nL kd wy ll td ls (pu wh k 2) := by
  obtain ⟨hop, hed⟩ := hG
  unfold pj_L1 pj_R at *
  intro k0
  simp only [pu]
  have g0 := hop b
  have g1 := hop (wy k0)
  have g2 := hed b (wy k0)
  have cL1_0 := cL1 k
  have cL1_1 := cL1 k0
  have cR_0 := cR k0
  have f0 := p6_ k
  have f1 := p6_ k0
  clear p6_
  clear hop hed cL1 cR
  grind (splits := 24)

set_option maxHeartbeats 1000000 in
theorem pt_ch_L1e {W : Int → Prop} {sd : Int → Int} {op : Int → Int} {ed : Int → Int} {st : Int → Int} {dl : Int → Int} {dn : Int → Int} {nL : Int} {kd : Int → Int} {wy : Int → Int} {ll : Int → Int} {td : Int → Int} {ls : Int → Int} {wh : Int → Int} {b k : Int} (hG : pj_G W sd op ed) (p0_ : W b) (p1_ : 0 ≤ k) (p2_ : k < nL) (p3_ : wh k ≠ 2) (p4_ : kd k = 6) (p5_ : wy k = op b) (p6_ : ∀ j, 0 ≤ j → j < k → wy j = wy k → wh j ≠ 0) (p7_ : st (sd b) = 2) (p8_ : 0 ≤ nL) (cL1e : pj_L1e sd op dl dn nL kd wy ll td ls wh) (cR : pj_R W nL kd wy wh) : pj_L1e sd op dl dn nL kd wy ll td ls (pu wh k 2) := by
  obtain ⟨hop, hed⟩ := hG
  unfold pj_L1e pj_R at *
  intro k0
  simp only [pu]
  have g0 := hop b
  have g1 := hop (wy k0)
  have g2 := hed b (wy k0)
  have cL1e_0 := cL1e k
  have cL1e_1 := cL1e k0
  have cR_0 := cR k0
  have f0 := p6_ k
  have f1 := p6_ k0
  clear p6_
  clear hop hed cL1e cR
  grind (splits := 24)

set_option maxHeartbeats 1000000 in
theorem pt_ch_L1o {W : Int → Prop} {sd : Int → Int} {op : Int → Int} {ed : Int → Int} {st : Int → Int} {nL : Int} {kd : Int → Int} {wy : Int → Int} {ll : Int → Int} {wh : Int → Int} {b k : Int} (hG : pj_G W sd op ed) (p0_ : W b) (p1_ : 0 ≤ k) (p2_ : k < nL) (p3_ : wh k ≠ 2) (p4_ : kd k = 6) (p5_ : wy k = op b) (p6_ : ∀ j, 0 ≤ j → j < k → wy j = wy k → wh j ≠ 0) (p7_ : st (sd b) = 2) (p8_ : 0 ≤ nL) (cL1o : pj_L1o nL kd wy ll wh) (cR : pj_R W nL kd wy wh) : pj_L1o nL kd wy ll (pu wh k 2) := by
  obtain ⟨hop, hed⟩ := hG
  unfold pj_L1o pj_R at *
  intro j0 k0
  simp only [pu]
  have g0 := hop b
  have g1 := hop (wy j0)
  have g2 := hop (wy k0)
  have g3 := hed b (wy j0)
  have g4 := hed b (wy k0)
  have g5 := hed (wy j0) (wy k0)
  have cL1o_0 := cL1o k k
  have cL1o_1 := cL1o k j0
  have cL1o_2 := cL1o k k0
  have cL1o_3 := cL1o j0 k
  have cL1o_4 := cL1o j0 j0
  have cL1o_5 := cL1o j0 k0
  have cL1o_6 := cL1o k0 k
  have cL1o_7 := cL1o k0 j0
  have cL1o_8 := cL1o k0 k0
  have cR_0 := cR j0
  have cR_1 := cR k0
  have f0 := p6_ k
  have f1 := p6_ j0
  have f2 := p6_ k0
  clear p6_
  clear hop hed cL1o cR
  grind (splits := 24)

set_option maxHeartbeats 1000000 in
theorem pt_ch_L1b {W : Int → Prop} {sd : Int → Int} {op : Int → Int} {ed : Int → Int} {st : Int → Int} {om : Int → Int} {pd : Int → Int} {nL : Int} {kd : Int → Int} {wy : Int → Int} {td : Int → Int} {ls : Int → Int} {wh : Int → Int} {b k : Int} (hG : pj_G W sd op ed) (p0_ : W b) (p1_ : 0 ≤ k) (p2_ : k < nL) (p3_ : wh k ≠ 2) (p4_ : kd k = 6) (p5_ : wy k = op b) (p6_ : ∀ j, 0 ≤ j → j < k → wy j = wy k → wh j ≠ 0) (p7_ : st (sd b) = 2) (p8_ : 0 ≤ nL) (cL1b : pj_L1b sd ed st om pd nL kd wy td ls wh) (cR : pj_R W nL kd wy wh) : pj_L1b sd ed st om pd nL kd wy td ls (pu wh k 2) := by
  obtain ⟨hop, hed⟩ := hG
  unfold pj_L1b pj_R at *
  intro k0
  simp only [pu]
  have g0 := hop b
  have g1 := hop (wy k0)
  have g2 := hed b (wy k0)
  have cL1b_0 := cL1b k
  have cL1b_1 := cL1b k0
  have cR_0 := cR k0
  have f0 := p6_ k
  have f1 := p6_ k0
  clear p6_
  clear hop hed cL1b cR
  grind (splits := 24)

set_option maxHeartbeats 1000000 in
theorem pt_ch_L1g {W : Int → Prop} {sd : Int → Int} {op : Int → Int} {ed : Int → Int} {st : Int → Int} {nL : Int} {kd : Int → Int} {wy : Int → Int} {td : Int → Int} {ls : Int → Int} {wh : Int → Int} {b k : Int} (hG : pj_G W sd op ed) (p0_ : W b) (p1_ : 0 ≤ k) (p2_ : k < nL) (p3_ : wh k ≠ 2) (p4_ : kd k = 6) (p5_ : wy k = op b) (p6_ : ∀ j, 0 ≤ j → j < k → wy j = wy k → wh j ≠ 0) (p7_ : st (sd b) = 2) (p8_ : 0 ≤ nL) (cL1g : pj_L1g W sd op ed nL kd wy td ls wh) (cR : pj_R W nL kd wy wh) : pj_L1g W sd op ed nL kd wy td ls (pu wh k 2) := by
  obtain ⟨hop, hed⟩ := hG
  unfold pj_L1g pj_R at *
  intro k0 v0
  simp only [pu]
  have g0 := hop b
  have g1 := hop (wy k0)
  have g2 := hop v0
  have g3 := hed b (wy k0)
  have g4 := hed b v0
  have g5 := hed (wy k0) v0
  have cL1g_0 := cL1g k b
  have cL1g_1 := cL1g k (wy k0)
  have cL1g_2 := cL1g k (op (wy k0))
  have cL1g_3 := cL1g k v0
  have cL1g_4 := cL1g k (op v0)
  have cL1g_5 := cL1g k0 b
  have cL1g_6 := cL1g k0 (wy k0)
  have cL1g_7 := cL1g k0 (op (wy k0))
  have cL1g_8 := cL1g k0 v0
  have cL1g_9 := cL1g k0 (op v0)
  have cR_0 := cR k0
  have f0 := p6_ k
  have f1 := p6_ k0
  clear p6_
  clear hop hed cL1g cR
  grind (splits := 24)

set_option maxHeartbeats 1000000 in
theorem pt_ch_L2 {W : Int → Prop} {sd : Int → Int} {op : Int → Int} {ed : Int → Int} {st : Int → Int} {lv : Int → Int} {nm : Int → Int} {tst : Int → Int} {en : Int → Int} {fw : Int → Int} {nL : Int} {kd : Int → Int} {wy : Int → Int} {ll : Int → Int} {td : Int → Int} {wh : Int → Int} {b k : Int} (hG : pj_G W sd op ed) (p0_ : W b) (p1_ : 0 ≤ k) (p2_ : k < nL) (p3_ : wh k ≠ 2) (p4_ : kd k = 6) (p5_ : wy k = op b) (p6_ : ∀ j, 0 ≤ j → j < k → wy j = wy k → wh j ≠ 0) (p7_ : st (sd b) = 2) (p8_ : 0 ≤ nL) (cL2 : pj_L2 sd op ed st lv nm tst en fw nL kd wy ll td wh) (cR : pj_R W nL kd wy wh) : pj_L2 sd op ed st lv nm tst en fw nL kd wy ll td (pu wh k 2) := by
  obtain ⟨hop, hed⟩ := hG
  unfold pj_L2 pj_R at *
  intro k0
  simp only [pu]
  have g0 := hop b
  have g1 := hop (wy k0)
  have g2 := hed b (wy k0)
  have cL2_0 := cL2 k
  have cL2_1 := cL2 k0
  have cR_0 := cR k0
  have f0 := p6_ k
  have f1 := p6_ k0
  clear p6_
  clear hop hed cL2 cR
  grind (splits := 24)

set_option maxHeartbeats 1000000 in
theorem pt_ch_L3 {W : Int → Prop} {sd : Int → Int} {op : Int → Int} {ed : Int → Int} {st : Int → Int} {lv : Int → Int} {nm : Int → Int} {tst : Int → Int} {en : Int → Int} {fw : Int → Int} {nL : Int} {kd : Int → Int} {wy : Int → Int} {wh : Int → Int} {b k : Int} (hG : pj_G W sd op ed) (p0_ : W b) (p1_ : 0 ≤ k) (p2_ : k < nL) (p3_ : wh k ≠ 2) (p4_ : kd k = 6) (p5_ : wy k = op b) (p6_ : ∀ j, 0 ≤ j → j < k → wy j = wy k → wh j ≠ 0) (p7_ : st (sd b) = 2) (p8_ : 0 ≤ nL) (cL3 : pj_L3 sd op ed st lv nm tst en fw nL kd wy wh) (cR : pj_R W nL kd wy wh) : pj_L3 sd op ed st lv nm tst en fw nL kd wy (pu wh k 2) := by
  obtain ⟨hop, hed⟩ := hG
  unfold pj_L3 pj_R at *
  intro k0
  simp only [pu]
  have g0 := hop b
  have g1 := hop (wy k0)
  have g2 := hed b (wy k0)
  have cL3_0 := cL3 k
  have cL3_1 := cL3 k0
  have cR_0 := cR k0
  have f0 := p6_ k
  have f1 := p6_ k0
  clear p6_
  clear hop hed cL3 cR
  grind (splits := 24)

set_option maxHeartbeats 1000000 in
theorem pt_ch_L4 {W : Int → Prop} {sd : Int → Int} {op : Int → Int} {ed : Int → Int} {st : Int → Int} {tst : Int → Int} {en : Int → Int} {nL : Int} {kd : Int → Int} {wy : Int → Int} {wh : Int → Int} {b k : Int} (hG : pj_G W sd op ed) (p0_ : W b) (p1_ : 0 ≤ k) (p2_ : k < nL) (p3_ : wh k ≠ 2) (p4_ : kd k = 6) (p5_ : wy k = op b) (p6_ : ∀ j, 0 ≤ j → j < k → wy j = wy k → wh j ≠ 0) (p7_ : st (sd b) = 2) (p8_ : 0 ≤ nL) (cL4 : pj_L4 sd op ed st tst en nL kd wy wh) (cR : pj_R W nL kd wy wh) : pj_L4 sd op ed st tst en nL kd wy (pu wh k 2) := by
  obtain ⟨hop, hed⟩ := hG
  unfold pj_L4 pj_R at *
  intro k0
  simp only [pu]
  have g0 := hop b
  have g1 := hop (wy k0)
  have g2 := hed b (wy k0)
  have cL4_0 := cL4 k
  have cL4_1 := cL4 k0
  have cR_0 := cR k0
  have f0 := p6_ k
  have f1 := p6_ k0
  clear p6_
  clear hop hed cL4 cR
  grind (splits := 24)

set_option maxHeartbeats 1000000 in
theorem pt_ch_AF {W : Int → Prop} {sd : Int → Int} {op : Int → Int} {ed : Int → Int} {st : Int → Int} {tst : Int → Int} {af : Int → Int} {nL : Int} {kd : Int → Int} {wy : Int → Int} {wh : Int → Int} {b k : Int} (hG : pj_G W sd op ed) (p0_ : W b) (p1_ : 0 ≤ k) (p2_ : k < nL) (p3_ : wh k ≠ 2) (p4_ : kd k = 6) (p5_ : wy k = op b) (p6_ : ∀ j, 0 ≤ j → j < k → wy j = wy k → wh j ≠ 0) (p7_ : st (sd b) = 2) (p8_ : 0 ≤ nL) (cAF : pj_AF W sd op ed tst af nL kd wy wh) : pj_AF W sd op ed tst af nL kd wy (pu wh k 2) := by
  obtain ⟨hop, hed⟩ := hG
  unfold pj_AF at *
  intro v0
  simp only [pu]
  have g0 := hop b
  have g1 := hop v0
  have g2 := hed b v0
  have cAF_0 := cAF b
  have cAF_1 := cAF v0
  have cAF_2 := cAF (op v0)
  have f0 := p6_ k
  clear p6_
  clear hop hed cAF
  grind (splits := 24)

set_option maxHeartbeats 1000000 in
theorem pt_ch_RT {W : Int → Prop} {sd : Int → Int} {op : Int → Int} {ed : Int → Int} {st : Int → Int} {tst : Int → Int} {nL : Int} {kd : Int → Int} {wy : Int → Int} {wh : Int → Int} {b k : Int} (hG : pj_G W sd op ed) (p0_ : W b) (p1_ : 0 ≤ k) (p2_ : k < nL) (p3_ : wh k ≠ 2) (p4_ : kd k = 6) (p5_ : wy k = op b) (p6_ : ∀ j, 0 ≤ j → j < k → wy j = wy k → wh j ≠ 0) (p7_ : st (sd b) = 2) (p8_ : 0 ≤ nL) (cRT : pj_RT sd ed tst nL kd wy wh) (cR : pj_R W nL kd wy wh) : pj_RT sd ed tst nL kd wy (pu wh k 2) := by
  obtain ⟨hop, hed⟩ := hG
  unfold pj_RT pj_R at *
  intro j0 k0
  simp only [pu]
  have g0 := hop b
  have g1 := hop (wy j0)
  have g2 := hop (wy k0)
  have g3 := hed b (wy j0)
  have g4 := hed b (wy k0)
  have g5 := hed (wy j0) (wy k0)
  have cRT_0 := cRT k k
  have cRT_1 := cRT k j0
  have cRT_2 := cRT k k0
  have cRT_3 := cRT j0 k
  have cRT_4 := cRT j0 j0
  have cRT_5 := cRT j0 k0
  have cRT_6 := cRT k0 k
  have cRT_7 := cRT k0 j0
  have cRT_8 := cRT k0 k0
  have cR_0 := cR j0
  have cR_1 := cR k0
  have f0 := p6_ k
  have f1 := p6_ j0
  have f2 := p6_ k0
  clear p6_
  clear hop hed cRT cR
  grind (splits := 24)

set_option maxHeartbeats 1000000 in
theorem pt_ch_CV {W : Int → Prop} {sd : Int → Int} {op : Int → Int} {ed : Int → Int} {st : Int → Int} {tst : Int → Int} {nL : Int} {kd : Int → Int} {wy : Int → Int} {wh : Int → Int} {b k : Int} (hG : pj_G W sd op ed) (p0_ : W b) (p1_ : 0 ≤ k) (p2_ : k < nL) (p3_ : wh k ≠ 2) (p4_ : kd k = 6) (p5_ : wy k = op b) (p6_ : ∀ j, 0 ≤ j → j < k → wy j = wy k → wh j ≠ 0) (p7_ : st (sd b) = 2) (p8_ : 0 ≤ nL) (cCV : pj_CV W sd op ed tst nL kd wy wh) (cR : pj_R W nL kd wy wh) : pj_CV W sd op ed tst nL kd wy (pu wh k 2) := by
  obtain ⟨hop, hed⟩ := hG
  unfold pj_CV pj_R at *
  intro v0 j0 k0
  simp only [pu]
  have g0 := hop b
  have g1 := hop v0
  have g2 := hop (wy j0)
  have g3 := hop (wy k0)
  have g4 := hed b v0
  have g5 := hed b (wy j0)
  have g6 := hed b (wy k0)
  have g7 := hed v0 (wy j0)
  have g8 := hed v0 (wy k0)
  have g9 := hed (wy j0) (wy k0)
  have cCV_0 := cCV v0 j0 k0
  have cR_0 := cR j0
  have cR_1 := cR k0
  have f0 := p6_ k
  have f1 := p6_ j0
  have f2 := p6_ k0
  clear p6_
  clear hop hed cCV cR
  grind (splits := 24)

set_option maxHeartbeats 1000000 in
theorem pt_ch_L5 {W : Int → Prop} {sd : Int → Int} {op : Int → Int} {ed : Int → Int} {st : Int → Int} {lv : Int → Int} {nm : Int → Int} {inw : Int → Int} {bst : Int → Int} {om : Int → Int} {ps : Int → Int} {dl : Int → Int} {pd : Int → Int} {rp : Int → Int} {rv : Int → Int} {cl : Int → Int} {tk : Int → Int} {nL : Int} {kd : Int → Int} {wy : Int → Int} {td : Int → Int} {wh : Int → Int} {b k : Int} (hG : pj_G W sd op ed) (p0_ : W b) (p1_ : 0 ≤ k) (p2_ : k < nL) (p3_ : wh k ≠ 2) (p4_ : kd k = 6) (p5_ : wy k = op b) (p6_ : ∀ j, 0 ≤ j → j < k → wy j = wy k → wh j ≠ 0) (p7_ : st (sd b) = 2) (p8_ : 0 ≤ nL) (cL5 : pj_L5 sd op ed st lv nm inw bst om ps dl pd rp rv cl tk nL kd wy td wh) (cR : pj_R W nL kd wy wh) : pj_L5 sd op ed st lv nm inw bst om ps dl pd rp rv cl tk nL kd wy td (pu wh k 2) := by
  obtain ⟨hop, hed⟩ := hG
  unfold pj_L5 pj_R at *
  intro k0
  simp only [pu]
  have g0 := hop b
  have g1 := hop (wy k0)
  have g2 := hed b (wy k0)
  have cL5_0 := cL5 k
  have cL5_1 := cL5 k0
  have cR_0 := cR k0
  have f0 := p6_ k
  have f1 := p6_ k0
  clear p6_
  clear hop hed cL5 cR
  grind (splits := 24)

set_option maxHeartbeats 1000000 in
theorem pt_ch_L5o {W : Int → Prop} {sd : Int → Int} {op : Int → Int} {ed : Int → Int} {st : Int → Int} {lv : Int → Int} {cl : Int → Int} {nL : Int} {kd : Int → Int} {wy : Int → Int} {wh : Int → Int} {b k : Int} (hG : pj_G W sd op ed) (p0_ : W b) (p1_ : 0 ≤ k) (p2_ : k < nL) (p3_ : wh k ≠ 2) (p4_ : kd k = 6) (p5_ : wy k = op b) (p6_ : ∀ j, 0 ≤ j → j < k → wy j = wy k → wh j ≠ 0) (p7_ : st (sd b) = 2) (p8_ : 0 ≤ nL) (cL5o : pj_L5o sd op ed lv cl nL kd wy wh) (cR : pj_R W nL kd wy wh) : pj_L5o sd op ed lv cl nL kd wy (pu wh k 2) := by
  obtain ⟨hop, hed⟩ := hG
  unfold pj_L5o pj_R at *
  intro j0 k0
  simp only [pu]
  have g0 := hop b
  have g1 := hop (wy j0)
  have g2 := hop (wy k0)
  have g3 := hed b (wy j0)
  have g4 := hed b (wy k0)
  have g5 := hed (wy j0) (wy k0)
  have cL5o_0 := cL5o k k
  have cL5o_1 := cL5o k j0
  have cL5o_2 := cL5o k k0
  have cL5o_3 := cL5o j0 k
  have cL5o_4 := cL5o j0 j0
  have cL5o_5 := cL5o j0 k0
  have cL5o_6 := cL5o k0 k
  have cL5o_7 := cL5o k0 j0
  have cL5o_8 := cL5o k0 k0
  have cR_0 := cR j0
  have cR_1 := cR k0
  have f0 := p6_ k
  have f1 := p6_ j0
  have f2 := p6_ k0
  clear p6_
  clear hop hed cL5o cR
  grind (splits := 24)

set_option maxHeartbeats 1000000 in
theorem pt_ch_L5u {W : Int → Prop} {sd : Int → Int} {op : Int → Int} {ed : Int → Int} {st : Int → Int} {nL : Int} {kd : Int → Int} {wy : Int → Int} {wh : Int → Int} {b k : Int} (hG : pj_G W sd op ed) (p0_ : W b) (p1_ : 0 ≤ k) (p2_ : k < nL) (p3_ : wh k ≠ 2) (p4_ : kd k = 6) (p5_ : wy k = op b) (p6_ : ∀ j, 0 ≤ j → j < k → wy j = wy k → wh j ≠ 0) (p7_ : st (sd b) = 2) (p8_ : 0 ≤ nL) (cL5u : pj_L5u nL kd wy wh) (cR : pj_R W nL kd wy wh) : pj_L5u nL kd wy (pu wh k 2) := by
  obtain ⟨hop, hed⟩ := hG
  unfold pj_L5u pj_R at *
  intro j0 k0
  simp only [pu]
  have g0 := hop b
  have g1 := hop (wy j0)
  have g2 := hop (wy k0)
  have g3 := hed b (wy j0)
  have g4 := hed b (wy k0)
  have g5 := hed (wy j0) (wy k0)
  have cL5u_0 := cL5u k k
  have cL5u_1 := cL5u k j0
  have cL5u_2 := cL5u k k0
  have cL5u_3 := cL5u j0 k
  have cL5u_4 := cL5u j0 j0
  have cL5u_5 := cL5u j0 k0
  have cL5u_6 := cL5u k0 k
  have cL5u_7 := cL5u k0 j0
  have cL5u_8 := cL5u k0 k0
  have cR_0 := cR j0
  have cR_1 := cR k0
  have f0 := p6_ k
  have f1 := p6_ j0
  have f2 := p6_ k0
  clear p6_
  clear hop hed cL5u cR
  grind (splits := 24)

set_option maxHeartbeats 1000000 in
theorem pt_ch_L6 {W : Int → Prop} {sd : Int → Int} {op : Int → Int} {ed : Int → Int} {st : Int → Int} {lv : Int → Int} {nm : Int → Int} {tow : Int → Int} {om : Int → Int} {ps : Int → Int} {dl : Int → Int} {cw : Int → Int} {tk : Int → Int} {nL : Int} {kd : Int → Int} {wy : Int → Int} {wh : Int → Int} {b k : Int} (hG : pj_G W sd op ed) (p0_ : W b) (p1_ : 0 ≤ k) (p2_ : k < nL) (p3_ : wh k ≠ 2) (p4_ : kd k = 6) (p5_ : wy k = op b) (p6_ : ∀ j, 0 ≤ j → j < k → wy j = wy k → wh j ≠ 0) (p7_ : st (sd b) = 2) (p8_ : 0 ≤ nL) (cL6 : pj_L6 sd op ed st lv nm tow om ps dl cw tk nL kd wy wh) (cR : pj_R W nL kd wy wh) : pj_L6 sd op ed st lv nm tow om ps dl cw tk nL kd wy (pu wh k 2) := by
  obtain ⟨hop, hed⟩ := hG
  unfold pj_L6 pj_R at *
  intro k0
  simp only [pu]
  have g0 := hop b
  have g1 := hop (wy k0)
  have g2 := hed b (wy k0)
  have cL6_0 := cL6 k
  have cL6_1 := cL6 k0
  have cR_0 := cR k0
  have f0 := p6_ k
  have f1 := p6_ k0
  clear p6_
  clear hop hed cL6 cR
  grind (splits := 24)

set_option maxHeartbeats 1000000 in
theorem pt_ch_L6u {W : Int → Prop} {sd : Int → Int} {op : Int → Int} {ed : Int → Int} {st : Int → Int} {nm : Int → Int} {nL : Int} {kd : Int → Int} {wy : Int → Int} {wh : Int → Int} {b k : Int} (hG : pj_G W sd op ed) (p0_ : W b) (p1_ : 0 ≤ k) (p2_ : k < nL) (p3_ : wh k ≠ 2) (p4_ : kd k = 6) (p5_ : wy k = op b) (p6_ : ∀ j, 0 ≤ j → j < k → wy j = wy k → wh j ≠ 0) (p7_ : st (sd b) = 2) (p8_ : 0 ≤ nL) (cL6u : pj_L6u sd op nm nL kd wy wh) (cR : pj_R W nL kd wy wh) : pj_L6u sd op nm nL kd wy (pu wh k 2) := by
  obtain ⟨hop, hed⟩ := hG
  unfold pj_L6u pj_R at *
  intro j0 k0
  simp only [pu]
  have g0 := hop b
  have g1 := hop (wy j0)
  have g2 := hop (wy k0)
  have g3 := hed b (wy j0)
  have g4 := hed b (wy k0)
  have g5 := hed (wy j0) (wy k0)
  have cL6u_0 := cL6u k k
  have cL6u_1 := cL6u k j0
  have cL6u_2 := cL6u k k0
  have cL6u_3 := cL6u j0 k
  have cL6u_4 := cL6u j0 j0
  have cL6u_5 := cL6u j0 k0
  have cL6u_6 := cL6u k0 k
  have cL6u_7 := cL6u k0 j0
  have cL6u_8 := cL6u k0 k0
  have cR_0 := cR j0
  have cR_1 := cR k0
  have f0 := p6_ k
  have f1 := p6_ j0
  have f2 := p6_ k0
  clear p6_
  clear hop hed cL6u cR
  grind (splits := 24)

theorem pj_ch {W : Int → Prop} {sd op ed : Int → Int} {li : Int → Int → Prop} {st lv nm inw tow bst tst exp om ps dl dn af c0 en pd rp rv fw cl cw tk kd wy ll td ls wh : Int → Int} {nL : Int} {F F2 : Int → Prop} {fl fc : Int} {b k : Int} (hG : pj_G W sd op ed) (p0_ : W b) (p1_ : 0 ≤ k) (p2_ : k < nL) (p3_ : wh k ≠ 2) (p4_ : kd k = 6) (p5_ : wy k = op b) (p6_ : ∀ j, 0 ≤ j → j < k → wy j = wy k → wh j ≠ 0) (p7_ : st (sd b) = 2) (p8_ : 0 ≤ nL) (h : pj_J W sd op ed li st lv nm inw tow bst tst exp om ps dl dn af c0 en pd rp rv fw cl cw tk nL kd wy ll td ls wh F fl fc) : pj_J W sd op ed li st lv nm inw tow bst tst exp om ps dl dn af c0 en pd rp rv fw cl cw tk nL kd wy ll td ls (pu wh k 2) F fl fc := by
  obtain ⟨cR, cN0, cN1, cN1w, cER, cN1c, cN2, cN2e, cN2b, cN4e, cN4b, cN5, cN7, cN10, cN10e, cN13, cC1, cC2, cR3a, cE1, cU, cA1, cA2, cEC, cR3, cN11, cN12, cN3, cRJ, cFW, cPD, cCC, cCD, cRP, cRP1, cCR, cZ1, cZ0, cTK, cK2, cWH, cFI, cL0, cFC, cL0u, cOC, cCT, cL1, cL1e, cL1o, cL1b, cL1g, cL2, cL3, cL4, cAF, cRT, cCV, cL5, cL5o, cL5u, cL6, cL6u⟩ := h
  exact ⟨pt_ch_R hG p0_ p1_ p2_ p3_ p4_ p5_ p6_ p7_ p8_ cR, cN0, cN1, cN1w, cER, pt_ch_N1c hG p0_ p1_ p2_ p3_ p4_ p5_ p6_ p7_ p8_ cN1c cR, cN2, cN2e, cN2b, cN4e, cN4b, cN5, cN7, cN10, cN10e, cN13, cC1, cC2, cR3a, pt_ch_E1 hG p0_ p1_ p2_ p3_ p4_ p5_ p6_ p7_ p8_ cE1, cU, cA1, cA2, pt_ch_EC hG p0_ p1_ p2_ p3_ p4_ p5_ p6_ p7_ p8_ cEC, cR3, cN11, cN12, cN3, cRJ, cFW, cPD, cCC, cCD, cRP, cRP1, cCR, cZ1, cZ0, cTK, cK2, pt_ch_WH hG p0_ p1_ p2_ p3_ p4_ p5_ p6_ p7_ p8_ cWH cR, pt_ch_FI hG p0_ p1_ p2_ p3_ p4_ p5_ p6_ p7_ p8_ cFI cR, pt_ch_L0 hG p0_ p1_ p2_ p3_ p4_ p5_ p6_ p7_ p8_ cL0 cR, pt_ch_FC hG p0_ p1_ p2_ p3_ p4_ p5_ p6_ p7_ p8_ cFC cR, pt_ch_L0u hG p0_ p1_ p2_ p3_ p4_ p5_ p6_ p7_ p8_ cL0u cR, pt_ch_OC hG p0_ p1_ p2_ p3_ p4_ p5_ p6_ p7_ p8_ cOC cR, pt_ch_CT hG p0_ p1_ p2_ p3_ p4_ p5_ p6_ p7_ p8_ cCT cR, pt_ch_L1 hG p0_ p1_ p2_ p3_ p4_ p5_ p6_ p7_ p8_ cL1 cR, pt_ch_L1e hG p0_ p1_ p2_ p3_ p4_ p5_ p6_ p7_ p8_ cL1e cR, pt_ch_L1o hG p0_ p1_ p2_ p3_ p4_ p5_ p6_ p7_ p8_ cL1o cR, pt_ch_L1b hG p0_ p1_ p2_ p3_ p4_ p5_ p6_ p7_ p8_ cL1b cR, pt_ch_L1g hG p0_ p1_ p2_ p3_ p4_ p5_ p6_ p7_ p8_ cL1g cR, pt_ch_L2 hG p0_ p1_ p2_ p3_ p4_ p5_ p6_ p7_ p8_ cL2 cR, pt_ch_L3 hG p0_ p1_ p2_ p3_ p4_ p5_ p6_ p7_ p8_ cL3 cR, pt_ch_L4 hG p0_ p1_ p2_ p3_ p4_ p5_ p6_ p7_ p8_ cL4 cR, pt_ch_AF hG p0_ p1_ p2_ p3_ p4_ p5_ p6_ p7_ p8_ cAF, pt_ch_RT hG p0_ p1_ p2_ p3_ p4_ p5_ p6_ p7_ p8_ cRT cR, pt_ch_CV hG p0_ p1_ p2_ p3_ p4_ p5_ p6_ p7_ p8_ cCV cR, pt_ch_L5 hG p0_ p1_ p2_ p3_ p4_ p5_ p6_ p7_ p8_ cL5 cR, pt_ch_L5o hG p0_ p1_ p2_ p3_ p4_ p5_ p6_ p7_ p8_ cL5o cR, pt_ch_L5u hG p0_ p1_ p2_ p3_ p4_ p5_ p6_ p7_ p8_ cL5u cR, pt_ch_L6 hG p0_ p1_ p2_ p3_ p4_ p5_ p6_ p7_ p8_ cL6 cR, pt_ch_L6u hG p0_ p1_ p2_ p3_ p4_ p5_ p6_ p7_ p8_ cL6u cR⟩

set_option maxHeartbeats 1000000 in
theorem pt_df_R {W : Int → Prop} {sd : Int → Int} {op : Int → Int} {ed : Int → Int} {st : Int → Int} {pd : Int → Int} {nL : Int} {kd : Int → Int} {wy : Int → Int} {wh : Int → Int} {b k : Int} (hG : pj_G W sd op ed) (p0_ : W b) (p1_ : 0 ≤ k) (p2_ : k < nL) (p3_ : wh k = 0) (p4_ : kd k = 0 ∨ kd k = 2 ∨ (kd k = 5 ∧ pd b = 0)) (p5_ : wy k = op b) (p6_ : ∀ j, 0 ≤ j → j < k → wy j = wy k → wh j ≠ 0) (p7_ : st (sd b) ≠ 0) (p8_ : 0 ≤ nL) (cR : pj_R W nL kd wy wh) : pj_R W nL kd wy (pu wh k 1) := by
  obtain ⟨hop, hed⟩ := hG
  unfold pj_R at *
  intro k0
  simp only [pu]
  have g0 := hop b
  have g1 := hop (wy k0)
  have g2 := hed b (wy k0)
  have cR_0 := cR k
  have cR_1 := cR k0
  have f0 := p6_ k
  have f1 := p6_ k0
  clear p6_
  clear hop hed cR
  grind (splits := 24)

set_option maxHeartbeats 1000000 in
theorem pt_df_N1c {W : Int → Prop} {sd : Int → Int} {op : Int → Int} {ed : Int → Int} {st : Int → Int} {pd : Int → Int} {nL : Int} {kd : Int → Int} {wy : Int → Int} {wh : Int → Int} {b k : Int} (hG : pj_G W sd op ed) (p0_ : W b) (p1_ : 0 ≤ k) (p2_ : k < nL) (p3_ : wh k = 0) (p4_ : kd k = 0 ∨ kd k = 2 ∨ (kd k = 5 ∧ pd b = 0)) (p5_ : wy k = op b) (p6_ : ∀ j, 0 ≤ j → j < k → wy j = wy k → wh j ≠ 0) (p7_ : st (sd b) ≠ 0) (p8_ : 0 ≤ nL) (cN1c : pj_N1c sd op st nL wy wh) (cR : pj_R W nL kd wy wh) : pj_N1c sd op st nL wy (pu wh k 1) := by
  obtain ⟨hop, hed⟩ := hG
  unfold pj_N1c pj_R at *
  intro k0
  simp only [pu]
  have g0 := hop b
  have g1 := hop (wy k0)
  have g2 := hed b (wy k0)
  have cN1c_0 := cN1c k
  have cN1c_1 := cN1c k0
  have cR_0 := cR k0
  have f0 := p6_ k
  have f1 := p6_ k0
  clear p6_
  clear hop hed cN1c cR
  grind (splits := 24)

set_option maxHeartbeats 1000000 in
theorem pt_df_E1 {W : Int → Prop} {sd : Int → Int} {op : Int → Int} {ed : Int → Int} {st : Int → Int} {lv : Int → Int} {dl : Int → Int} {pd : Int → Int} {nL : Int} {kd : Int → Int} {wy : Int → Int} {ll : Int → Int} {wh : Int → Int} {b k : Int} (hG : pj_G W sd op ed) (p0_ : W b) (p1_ : 0 ≤ k) (p2_ : k < nL) (p3_ : wh k = 0) (p4_ : kd k = 0 ∨ kd k = 2 ∨ (kd k = 5 ∧ pd b = 0)) (p5_ : wy k = op b) (p6_ : ∀ j, 0 ≤ j → j < k → wy j = wy k → wh j ≠ 0) (p7_ : st (sd b) ≠ 0) (p8_ : 0 ≤ nL) (cE1 : pj_E1 sd op lv dl nL kd wy ll wh) : pj_E1 sd op lv dl nL kd wy ll (pu wh k 1) := by
  obtain ⟨hop, hed⟩ := hG
  unfold pj_E1 at *
  intro n0
  simp only [pu]
  have g0 := hop b
  have cE1_0 := cE1 (sd (op b))
  have cE1_1 := cE1 n0
  have cE1_2 := cE1 (sd b)
  have f0 := p6_ k
  clear p6_
  clear hop hed cE1
  grind (splits := 24)

set_option maxHeartbeats 1000000 in
theorem pt_df_EC {W : Int → Prop} {sd : Int → Int} {op : Int → Int} {ed : Int → Int} {st : Int → Int} {lv : Int → Int} {nm : Int → Int} {om : Int → Int} {ps : Int → Int} {dl : Int → Int} {pd : Int → Int} {nL : Int} {kd : Int → Int} {wy : Int → Int} {wh : Int → Int} {F : Int → Prop} {b k : Int} (hG : pj_G W sd op ed) (p0_ : W b) (p1_ : 0 ≤ k) (p2_ : k < nL) (p3_ : wh k = 0) (p4_ : kd k = 0 ∨ kd k = 2 ∨ (kd k = 5 ∧ pd b = 0)) (p5_ : wy k = op b) (p6_ : ∀ j, 0 ≤ j → j < k → wy j = wy k → wh j ≠ 0) (p7_ : st (sd b) ≠ 0) (p8_ : 0 ≤ nL) (cEC : pj_EC W sd op ed lv nm om ps dl nL kd wy wh F) : pj_EC W sd op ed lv nm om ps dl nL kd wy (pu wh k 1) F := by
  obtain ⟨hop, hed⟩ := hG
  unfold pj_EC at *
  intro w0
  simp only [pu]
  have g0 := hop b
  have g1 := hop w0
  have g2 := hed b w0
  have cEC_0 := cEC b
  have cEC_1 := cEC w0
  have cEC_2 := cEC (op w0)
  have f0 := p6_ k
  clear p6_
  clear hop hed cEC
  grind (splits := 24)

set_option maxHeartbeats 1000000 in
theorem pt_df_WH {W : Int → Prop} {sd : Int → Int} {op : Int → Int} {ed : Int → Int} {st : Int → Int} {pd : Int → Int} {nL : Int} {kd : Int → Int} {wy : Int → Int} {wh : Int → Int} {b k : Int} (hG : pj_G W sd op ed) (p0_ : W b) (p1_ : 0 ≤ k) (p2_ : k < nL) (p3_ : wh k = 0) (p4_ : kd k = 0 ∨ kd k = 2 ∨ (kd k = 5 ∧ pd b = 0)) (p5_ : wy k = op b) (p6_ : ∀ j, 0 ≤ j → j < k → wy j = wy k → wh j ≠ 0) (p7_ : st (sd b) ≠ 0) (p8_ : 0 ≤ nL) (cWH : pj_WH nL kd wh) (cR : pj_R W nL kd wy wh) : pj_WH nL kd (pu wh k 1) := by
  obtain ⟨hop, hed⟩ := hG
  unfold pj_WH pj_R at *
  intro k0
  simp only [pu]
  have g0 := hop b
  have g1 := hop (wy k0)
  have g2 := hed b (wy k0)
  have cWH_0 := cWH k
  have cWH_1 := cWH k0
  have cR_0 := cR k0
  have f0 := p6_ k
  have f1 := p6_ k0
  clear p6_
  clear hop hed cWH cR
  grind (splits := 24)

set_option maxHeartbeats 1000000 in
theorem pt_df_FI {W : Int → Prop} {sd : Int → Int} {op : Int → Int} {ed : Int → Int} {st : Int → Int} {pd : Int → Int} {nL : Int} {kd : Int → Int} {wy : Int → Int} {wh : Int → Int} {b k : Int} (hG : pj_G W sd op ed) (p0_ : W b) (p1_ : 0 ≤ k) (p2_ : k < nL) (p3_ : wh k = 0) (p4_ : kd k = 0 ∨ kd k = 2 ∨ (kd k = 5 ∧ pd b = 0)) (p5_ : wy k = op b) (p6_ : ∀ j, 0 ≤ j → j < k → wy j = wy k → wh j ≠ 0) (p7_ : st (sd b) ≠ 0) (p8_ : 0 ≤ nL) (cFI : pj_FI nL wy wh) (cR : pj_R W nL kd wy wh) : pj_FI nL wy (pu wh k 1) := by
  obtain ⟨hop, hed⟩ := hG
  unfold pj_FI pj_R at *
  intro j0 k0
  simp only [pu]
  have g0 := hop b
  have g1 := hop (wy j0)
  have g2 := hop (wy k0)
  have g3 := hed b (wy j0)
  have g4 := hed b (wy k0)
  have g5 := hed (wy j0) (wy k0)
  have cFI_0 := cFI k k
  have cFI_1 := cFI k j0
  have cFI_2 := cFI k k0
  have cFI_3 := cFI j0 k
  have cFI_4 := cFI j0 j0
  have cFI_5 := cFI j0 k0
  have cFI_6 := cFI k0 k
  have cFI_7 := cFI k0 j0
  have cFI_8 := cFI k0 k0
  have cR_0 := cR j0
  have cR_1 := cR k0
  have f0 := p6_ k
  have f1 := p6_ j0
  have f2 := p6_ k0
  clear p6_
  clear hop hed cFI cR
  grind (splits := 24)

set_option maxHeartbeats 1000000 in
theorem pt_df_L0 {W : Int → Prop} {sd : Int → Int} {op : Int → Int} {ed : Int → Int} {st : Int → Int} {lv : Int → Int} {nm : Int → Int} {om : Int → Int} {ps : Int → Int} {dl : Int → Int} {c0 : Int → Int} {en : Int → Int} {pd : Int → Int} {cw : Int → Int} {nL : Int} {kd : Int → Int} {wy : Int → Int} {ll : Int → Int} {wh : Int → Int} {b k : Int} (hG : pj_G W sd op ed) (p0_ : W b) (p1_ : 0 ≤ k) (p2_ : k < nL) (p3_ : wh k = 0) (p4_ : kd k = 0 ∨ kd k = 2 ∨ (kd k = 5 ∧ pd b = 0)) (p5_ : wy k = op b) (p6_ : ∀ j, 0 ≤ j → j < k → wy j = wy k → wh j ≠ 0) (p7_ : st (sd b) ≠ 0) (p8_ : 0 ≤ nL) (cL0 : pj_L0 sd op ed lv nm om ps dl c0 en cw nL kd wy ll wh) (cR : pj_R W nL kd wy wh) : pj_L0 sd op ed lv nm om ps dl c0 en cw nL kd wy ll (pu wh k 1) := by
  obtain ⟨hop, hed⟩ := hG
  unfold pj_L0 pj_R at *
  intro k0
  simp only [pu]
  have g0 := hop b
  have g1 := hop (wy k0)
  have g2 := hed b (wy k0)
  have cL0_0 := cL0 k
  have cL0_1 := cL0 k0
  have cR_0 := cR k0
  have f0 := p6_ k
  have f1 := p6_ k0
  clear p6_
  clear hop hed cL0 cR
  grind (splits := 24)

set_option maxHeartbeats 1000000 in
theorem pt_df_FC {W : Int → Prop} {sd : Int → Int} {op : Int → Int} {ed : Int → Int} {st : Int → Int} {pd : Int → Int} {nL : Int} {kd : Int → Int} {wy : Int → Int} {wh : Int → Int} {F : Int → Prop} {b k : Int} (hG : pj_G W sd op ed) (p0_ : W b) (p1_ : 0 ≤ k) (p2_ : k < nL) (p3_ : wh k = 0) (p4_ : kd k = 0 ∨ kd k = 2 ∨ (kd k = 5 ∧ pd b = 0)) (p5_ : wy k = op b) (p6_ : ∀ j, 0 ≤ j → j < k → wy j = wy k → wh j ≠ 0) (p7_ : st (sd b) ≠ 0) (p8_ : 0 ≤ nL) (cFC : pj_FC op nL kd wy wh F) (cR : pj_R W nL kd wy wh) : pj_FC op nL kd wy (pu wh k 1) F := by
  obtain ⟨hop, hed⟩ := hG
  unfold pj_FC pj_R at *
  intro k0
  simp only [pu]
  have g0 := hop b
  have g1 := hop (wy k0)
  have g2 := hed b (wy k0)
  have cFC_0 := cFC k
  have cFC_1 := cFC k0
  have cR_0 := cR k0
  have f0 := p6_ k
  have f1 := p6_ k0
  clear p6_
  clear hop hed cFC cR
  grind (splits := 24)

set_option maxHeartbeats 1000000 in
theorem pt_df_L0u {W : Int → Prop} {sd : Int → Int} {op : Int → Int} {ed : Int → Int} {st : Int → Int} {pd : Int → Int} {nL : Int} {kd : Int → Int} {wy : Int → Int} {wh : Int → Int} {b k : Int} (hG : pj_G W sd op ed) (p0_ : W b) (p1_ : 0 ≤ k) (p2_ : k < nL) (p3_ : wh k = 0) (p4_ : kd k = 0 ∨ kd k = 2 ∨ (kd k = 5 ∧ pd b = 0)) (p5_ : wy k = op b) (p6_ : ∀ j, 0 ≤ j → j < k → wy j = wy k → wh j ≠ 0) (p7_ : st (sd b) ≠ 0) (p8_ : 0 ≤ nL) (cL0u : pj_L0u nL kd wy wh) (cR : pj_R W nL kd wy wh) : pj_L0u nL kd wy (pu wh k 1) := by
  obtain ⟨hop, hed⟩ := hG
  unfold pj_L0u pj_R at *
  intro j0 k0
  simp only [pu]
  have g0 := hop b
  have g1 := hop (wy j0)
  have g2 := hop (wy k0)
  have g3 := hed b (wy j0)
  have g4 := hed b (wy k0)
  have g5 := hed (wy j0) (wy k0)
  have cL0u_0 := cL0u k k
  have cL0u_1 := cL0u k j0
  have cL0u_2 := cL0u k k0
  have cL0u_3 := cL0u j0 k
  have cL0u_4 := cL0u j0 j0
  have cL0u_5 := cL0u j0 k0
  have cL0u_6 := cL0u k0 k
  have cL0u_7 := cL0u k0 j0
  have cL0u_8 := cL0u k0 k0
  have cR_0 := cR j0
  have cR_1 := cR k0
  have f0 := p6_ k
  have f1 := p6_ j0
  have f2 := p6_ k0
  clear p6_
  clear hop hed cL0u cR
  grind (splits := 24)

set_option maxHeartbeats 1000000 in
theorem pt_df_OC {W : Int → Prop} {sd : Int → Int} {op : Int → Int} {ed : Int → Int} {st : Int → Int} {pd : Int → Int} {nL : Int} {kd : Int → Int} {wy : Int → Int} {wh : Int → Int} {b k : Int} (hG : pj_G W sd op ed) (p0_ : W b) (p1_ : 0 ≤ k) (p2_ : k < nL) (p3_ : wh k = 0) (p4_ : kd k = 0 ∨ kd k = 2 ∨ (kd k = 5 ∧ pd b = 0)) (p5_ : wy k = op b) (p6_ : ∀ j, 0 ≤ j → j < k → wy j = wy k → wh j ≠ 0) (p7_ : st (sd b) ≠ 0) (p8_ : 0 ≤ nL) (cOC : pj_OC nL kd wy wh) (cR : pj_R W nL kd wy wh) : pj_OC nL kd wy (pu wh k 1) := by
  obtain ⟨hop, hed⟩ := hG
  unfold pj_OC pj_R at *
  intro j0 k0
  simp only [pu]
  have g0 := hop b
  have g1 := hop (wy j0)
  have g2 := hop (wy k0)
  have g3 := hed b (wy j0)
  have g4 := hed b (wy k0)
  have g5 := hed (wy j0) (wy k0)
  have cOC_0 := cOC k k
  have cOC_1 := cOC k j0
  have cOC_2 := cOC k k0
  have cOC_3 := cOC j0 k
  have cOC_4 := cOC j0 j0
  have cOC_5 := cOC j0 k0
  have cOC_6 := cOC k0 k
  have cOC_7 := cOC k0 j0
  have cOC_8 := cOC k0 k0
  have cR_0 := cR j0
  have cR_1 := cR k0
  have f0 := p6_ k
  have f1 := p6_ j0
  have f2 := p6_ k0
  clear p6_
  clear hop hed cOC cR
  grind (splits := 24)

set_option maxHeartbeats 1000000 in
theorem pt_df_CT {W : Int → Prop} {sd : Int → Int} {op : Int → Int} {ed : Int → Int} {st : Int → Int} {pd : Int → Int} {nL : Int} {kd : Int → Int} {wy : Int → Int} {wh : Int → Int} {b k : Int} (hG : pj_G W sd op ed) (p0_ : W b) (p1_ : 0 ≤ k) (p2_ : k < nL) (p3_ : wh k = 0) (p4_ : kd k = 0 ∨ kd k = 2 ∨ (kd k = 5 ∧ pd b = 0)) (p5_ : wy k = op b) (p6_ : ∀ j, 0 ≤ j → j < k → wy j = wy k → wh j ≠ 0) (p7_ : st (sd b) ≠ 0) (p8_ : 0 ≤ nL) (cCT : pj_CT nL kd wy wh) (cR : pj_R W nL kd wy wh) : pj_CT nL kd wy (pu wh k 1) := by
  obtain ⟨hop, hed⟩ := hG
  unfold pj_CT pj_R at *
  intro j0 k0
  simp only [pu]
  have g0 := hop b
  have g1 := hop (wy j0)
  have g2 := hop (wy k0)
  have g3 := hed b (wy j0)
  have g4 := hed b (wy k0)
  have g5 := hed (wy j0) (wy k0)
  have cCT_0 := cCT k k
  have cCT_1 := cCT k j0
  have cCT_2 := cCT k k0
  have cCT_3 := cCT j0 k
  have cCT_4 := cCT j0 j0
  have cCT_5 := cCT j0 k0
  have cCT_6 := cCT k0 k
  have cCT_7 := cCT k0 j0
  have cCT_8 := cCT k0 k0
  have cR_0 := cR j0
  have cR_1 := cR k0
  have f0 := p6_ k
  have f1 := p6_ j0
  have f2 := p6_ k0
  clear p6_
  clear hop hed cCT cR
  grind (splits := 24)

set_option maxHeartbeats 1000000 in
theorem pt_df_L1 {W : Int → Prop} {sd : Int → Int} {op : Int → Int} {ed : Int → Int} {st : Int → Int} {lv : Int → Int} {om : Int → Int} {dl : Int → Int} {en : Int → Int} {pd : Int → Int} {cl : Int → Int} {nL : Int} {kd : Int → Int} {wy : Int → Int} {ll : Int → Int} {td : Int → Int} {ls : Int → Int} {wh : Int → Int} {b k : Int} (hG : pj_G W sd op ed) (p0_ : W b) (p1_ : 0 ≤ k) (p2_ : k < nL) (p3_ : wh k = 0) (p4_ : kd k = 0 ∨ kd k = 2 ∨ (kd k = 5 ∧ pd b = 0)) (p5_ : wy k = op b) (p6_ : ∀ j, 0 ≤ j → j < k → wy j = wy k → wh j ≠ 0) (p7_ : st (sd b) ≠ 0) (p8_ : 0 ≤ nL) (cL1 : pj_L1 sd op ed st lv om dl en cl nL kd wy ll td ls wh) (cR : pj_R W nL kd wy wh) : pj_L1 sd op ed st lv om dl en cl nL kd wy ll td ls (pu wh k 1) := by
  obtain ⟨hop, hed⟩ := hG
  unfold pj_L1 pj_R at *
  intro k0
  simp only [pu]
  have g0 := hop b
  have g1 := hop (wy k0)
  have g2 := hed b (wy k0)
  have cL1_0 := cL1 k
  have cL1_1 := cL1 k0
  have cR_0 := cR k0
  have f0 := p6_ k
  have f1 := p6_ k0
  clear p6_
  clear hop hed cL1 cR
  grind (splits := 24)

set_option maxHeartbeats 1000000 in
theorem pt_df_L1e {W : Int → Prop} {sd : Int → Int} {op : Int → Int} {ed : Int → Int} {st : Int → Int} {dl : Int → Int} {dn : Int → Int} {pd : Int → Int} {nL : Int} {kd : Int → Int} {wy : Int → Int} {ll : Int → Int} {td : Int → Int} {ls : Int → Int} {wh : Int → Int} {b k : Int} (hG : pj_G W sd op ed) (p0_ : W b) (p1_ : 0 ≤ k) (p2_ : k < nL) (p3_ : wh k = 0) (p4_ : kd k = 0 ∨ kd k = 2 ∨ (kd k = 5 ∧ pd b = 0)) (p5_ : wy k = op b) (p6_ : ∀ j, 0 ≤ j → j < k → wy j = wy k → wh j ≠ 0) (p7_ : st (sd b) ≠ 0) (p8_ : 0 ≤ nL) (cL1e : pj_L1e sd op dl dn nL kd wy ll td ls wh) (cR : pj_R W nL kd wy wh) : pj_L1e sd op dl dn nL kd wy ll td ls (pu wh k 1) := by
  obtain ⟨hop, hed⟩ := hG
  unfold pj_L1e pj_R at *
  intro k0
  simp only [pu]
  have g0 := hop b
  have g1 := hop (wy k0)
  have g2 := hed b (wy k0)
  have cL1e_0 := cL1e k
  have cL1e_1 := cL1e k0
  have cR_0 := cR k0
  have f0 := p6_ k
  have f1 := p6_ k0
  clear p6_
  clear hop hed cL1e cR
  grind (splits := 24)

set_option maxHeartbeats 1000000 in
theorem pt_df_L1o {W : Int → Prop} {sd : Int → Int} {op : Int → Int} {ed : Int → Int} {st : Int → Int} {pd : Int → Int} {nL : Int} {kd : Int → Int} {wy : Int → Int} {ll : Int → Int} {wh : Int → Int} {b k : Int} (hG : pj_G W sd op ed) (p0_ : W b) (p1_ : 0 ≤ k) (p2_ : k < nL) (p3_ : wh k = 0) (p4_ : kd k = 0 ∨ kd k = 2 ∨ (kd k = 5 ∧ pd b = 0)) (p5_ : wy k = op b) (p6_ : ∀ j, 0 ≤ j → j < k → wy j = wy k → wh j ≠ 0) (p7_ : st (sd b) ≠ 0) (p8_ : 0 ≤ nL) (cL1o : pj_L1o nL kd wy ll wh) (cR : pj_R W nL kd wy wh) : pj_L1o nL kd wy ll (pu wh k 1) := by
  obtain ⟨hop, hed⟩ := hG
  unfold pj_L1o pj_R at *
  intro j0 k0
  simp only [pu]
  have g0 := hop b
  have g1 := hop (wy j0)
  have g2 := hop (wy k0)
  have g3 := hed b (wy j0)
  have g4 := hed b (wy k0)
  have g5 := hed (wy j0) (wy k0)
  have cL1o_0 := cL1o k k
  have cL1o_1 := cL1o k j0
  have cL1o_2 := cL1o k k0
  have cL1o_3 := cL1o j0 k
  have cL1o_4 := cL1o j0 j0
  have cL1o_5 := cL1o j0 k0
  have cL1o_6 := cL1o k0 k
  have cL1o_7 := cL1o k0 j0
  have cL1o_8 := cL1o k0 k0
  have cR_0 := cR j0
  have cR_1 := cR k0
  have f0 := p6_ k
  have f1 := p6_ j0
  have f2 := p6_ k0
  clear p6_
  clear hop hed cL1o cR
  grind (splits := 24)

set_option maxHeartbeats 1000000 in
theorem pt_df_L1b {W : Int → Prop} {sd : Int → Int} {op : Int → Int} {ed : Int → Int} {st : Int → Int} {om : Int → Int} {pd : Int → Int} {nL : Int} {kd : Int → Int} {wy : Int → Int} {td : Int → Int} {ls : Int → Int} {wh : Int → Int} {b k : Int} (hG : pj_G W sd op ed) (p0_ : W b) (p1_ : 0 ≤ k) (p2_ : k < nL) (p3_ : wh k = 0) (p4_ : kd k = 0 ∨ kd k = 2 ∨ (kd k = 5 ∧ pd b = 0)) (p5_ : wy k = op b) (p6_ : ∀ j, 0 ≤ j → j < k → wy j = wy k → wh j ≠ 0) (p7_ : st (sd b) ≠ 0) (p8_ : 0 ≤ nL) (cL1b : pj_L1b sd ed st om pd nL kd wy td ls wh) (cR : pj_R W nL kd wy wh) : pj_L1b sd ed st om pd nL kd wy td ls (pu wh k 1) := by
  obtain ⟨hop, hed⟩ := hG
  unfold pj_L1b pj_R at *
  intro k0
  simp only [pu]
  have g0 := hop b
  have g1 := hop (wy k0)
  have g2 := hed b (wy k0)
  have cL1b_0 := cL1b k
  have cL1b_1 := cL1b k0
  have cR_0 := cR k0
  have f0 := p6_ k
  have f1 := p6_ k0
  clear p6_
  clear hop hed cL1b cR
  grind (splits := 24)

set_option maxHeartbeats 1000000 in
theorem pt_df_L1g {W : Int → Prop} {sd : Int → Int} {op : Int → Int} {ed : Int → Int} {st : Int → Int} {pd : Int → Int} {nL : Int} {kd : Int → Int} {wy : Int → Int} {td : Int → Int} {ls : Int → Int} {wh : Int → Int} {b k : Int} (hG : pj_G W sd op ed) (p0_ : W b) (p1_ : 0 ≤ k) (p2_ : k < nL) (p3_ : wh k = 0) (p4_ : kd k = 0 ∨ kd k = 2 ∨ (kd k = 5 ∧ pd b = 0)) (p5_ : wy k = op b) (p6_ : ∀ j, 0 ≤ j → j < k → wy j = wy k → wh j ≠ 0) (p7_ : st (sd b) ≠ 0) (p8_ : 0 ≤ nL) (cL1g : pj_L1g W sd op ed nL kd wy td ls wh) (cR : pj_R W nL kd wy wh) : pj_L1g W sd op ed nL kd wy td ls (pu wh k 1) := by
  obtain ⟨hop, hed⟩ := hG
  unfold pj_L1g pj_R at *
  intro k0 v0
  simp only [pu]
  have g0 := hop b
  have g1 := hop (wy k0)
  have g2 := hop v0
  have g3 := hed b (wy k0)
  have g4 := hed b v0
  have g5 := hed (wy k0) v0
  have cL1g_0 := cL1g k b
  have cL1g_1 := cL1g k (wy k0)
  have cL1g_2 := cL1g k (op (wy k0))
  have cL1g_3 := cL1g k v0
  have cL1g_4 := cL1g k (op v0)
  have cL1g_5 := cL1g k0 b
  have cL1g_6 := cL1g k0 (wy k0)
  have cL1g_7 := cL1g k0 (op (wy k0))
  have cL1g_8 := cL1g k0 v0
  have cL1g_9 := cL1g k0 (op v0)
  have cR_0 := cR k0
  have f0 := p6_ k
  have f1 := p6_ k0
  clear p6_
  clear hop hed cL1g cR
  grind (splits := 24)

set_option maxHeartbeats 1000000 in
theorem pt_df_L2 {W : Int → Prop} {sd : Int → Int} {op : Int → Int} {ed : Int → Int} {st : Int → Int} {lv : Int → Int} {nm : Int → Int} {tst : Int → Int} {en : Int → Int} {pd : Int → Int} {fw : Int → Int} {nL : Int} {kd : Int → Int} {wy : Int → Int} {ll : Int → Int} {td : Int → Int} {wh : Int → Int} {b k : Int} (hG : pj_G W sd op ed) (p0_ : W b) (p1_ : 0 ≤ k) (p2_ : k < nL) (p3_ : wh k = 0) (p4_ : kd k = 0 ∨ kd k = 2 ∨ (kd k = 5 ∧ pd b = 0)) (p5_ : wy k = op b) (p6_ : ∀ j, 0 ≤ j → j < k → wy j = wy k → wh j ≠ 0) (p7_ : st (sd b) ≠ 0) (p8_ : 0 ≤ nL) (cL2 : pj_L2 sd op ed st lv nm tst en fw nL kd wy ll td wh) (cR : pj_R W nL kd wy wh) : pj_L2 sd op ed st lv nm tst en fw nL kd wy ll td (pu wh k 1) := by
  obtain ⟨hop, hed⟩ := hG
  unfold pj_L2 pj_R at *
  intro k0
  simp only [pu]
  have g0 := hop b
  have g1 := hop (wy k0)
  have g2 := hed b (wy k0)
  have cL2_0 := cL2 k
  have cL2_1 := cL2 k0
  have cR_0 := cR k0
  have f0 := p6_ k
  have f1 := p6_ k0
  clear p6_
  clear hop hed cL2 cR
  grind (splits := 24)

set_option maxHeartbeats 1000000 in
theorem pt_df_L3 {W : Int → Prop} {sd : Int → Int} {op : Int → Int} {ed : Int → Int} {st : Int → Int} {lv : Int → Int} {nm : Int → Int} {tst : Int → Int} {en : Int → Int} {pd : Int → Int} {fw : Int → Int} {nL : Int} {kd : Int → Int} {wy : Int → Int} {wh : Int → Int} {b k : Int} (hG : pj_G W sd op ed) (p0_ : W b) (p1_ : 0 ≤ k) (p2_ : k < nL) (p3_ : wh k = 0) (p4_ : kd k = 0 ∨ kd k = 2 ∨ (kd k = 5 ∧ pd b = 0)) (p5_ : wy k = op b) (p6_ : ∀ j, 0 ≤ j → j < k → wy j = wy k → wh j ≠ 0) (p7_ : st (sd b) ≠ 0) (p8_ : 0 ≤ nL) (cL3 : pj_L3 sd op ed st lv nm tst en fw nL kd wy wh) (cR : pj_R W nL kd wy wh) : pj_L3 sd op ed st lv nm tst en fw nL kd wy (pu wh k 1) := by
  obtain ⟨hop, hed⟩ := hG
  unfold pj_L3 pj_R at *
  intro k0
  simp only [pu]
  have g0 := hop b
  have g1 := hop (wy k0)
  have g2 := hed b (wy k0)
  have cL3_0 := cL3 k
  have cL3_1 := cL3 k0
  have cR_0 := cR k0
  have f0 := p6_ k
  have f1 := p6_ k0
  clear p6_
  clear hop hed cL3 cR
  grind (splits := 24)

set_option maxHeartbeats 1000000 in
theorem pt_df_L4 {W : Int → Prop} {sd : Int → Int} {op : Int → Int} {ed : Int → Int} {st : Int → Int} {tst : Int → Int} {en : Int → Int} {pd : Int → Int} {nL : Int} {kd : Int → Int} {wy : Int → Int} {wh : Int → Int} {b k : Int} (hG : pj_G W sd op ed) (p0_ : W b) (p1_ : 0 ≤ k) (p2_ : k < nL) (p3_ : wh k = 0) (p4_ : kd k = 0 ∨ kd k = 2 ∨ (kd k = 5 ∧ pd b = 0)) (p5_ : wy k = op b) (p6_ : ∀ j, 0 ≤ j → j < k → wy j = wy k → wh j ≠ 0) (p7_ : st (sd b) ≠ 0) (p8_ : 0 ≤ nL) (cL4 : pj_L4 sd op ed st tst en nL kd wy wh) (cR : pj_R W nL kd wy wh) : pj_L4 sd op ed st tst en nL kd wy (pu wh k 1) := by
  obtain ⟨hop, hed⟩ := hG
  unfold pj_L4 pj_R at *
  intro k0
  simp only [pu]
  have g0 := hop b
  have g1 := hop (wy k0)
  have g2 := hed b (wy k0)
  have cL4_0 := cL4 k
  have cL4_1 := cL4 k0
  have cR_0 := cR k0
  have f0 := p6_ k
  have f1 := p6_ k0
  clear p6_
  clear hop hed cL4 cR
  grind (splits := 24)

set_option maxHeartbeats 1000000 in
theorem pt_df_AF {W : Int → Prop} {sd : Int → Int} {op : Int → Int} {ed : Int → Int} {st : Int → Int} {tst : Int → Int} {af : Int → Int} {pd : Int → Int} {nL : Int} {kd : Int → Int} {wy : Int → Int} {wh : Int → Int} {b k : Int} (hG : pj_G W sd op ed) (p0_ : W b) (p1_ : 0 ≤ k) (p2_ : k < nL) (p3_ : wh k = 0) (p4_ : kd k = 0 ∨ kd k = 2 ∨ (kd k = 5 ∧ pd b = 0)) (p5_ : wy k = op b) (p6_ : ∀ j, 0 ≤ j → j < k → wy j = wy k → wh j ≠ 0) (p7_ : st (sd b) ≠ 0) (p8_ : 0 ≤ nL) (cAF : pj_AF W sd op ed tst af nL kd wy wh) : pj_AF W sd op ed tst af nL kd wy (pu wh k 1) := by
  obtain ⟨hop, hed⟩ := hG
  unfold pj_AF at *
  intro v0
  simp only [pu]
  have g0 := hop b
  have g1 := hop v0
  have g2 := hed b v0
  have cAF_0 := cAF b
  have cAF_1 := cAF v0
  have cAF_2 := cAF (op v0)
  have f0 := p6_ k
  clear p6_
  clear hop hed cAF
  grind (splits := 24)

set_option maxHeartbeats 1000000 in
theorem pt_df_RT {W : Int → Prop} {sd : Int → Int} {op : Int → Int} {ed : Int → Int} {st : Int → Int} {tst : Int → Int} {pd : Int → Int} {nL : Int} {kd : Int → Int} {wy : Int → Int} {wh : Int → Int} {b k : Int} (hG : pj_G W sd op ed) (p0_ : W b) (p1_ : 0 ≤ k) (p2_ : k < nL) (p3_ : wh k = 0) (p4_ : kd k = 0 ∨ kd k = 2 ∨ (kd k = 5 ∧ pd b = 0)) (p5_ : wy k = op b) (p6_ : ∀ j, 0 ≤ j → j < k → wy j = wy k → wh j ≠ 0) (p7_ : st (sd b) ≠ 0) (p8_ : 0 ≤ nL) (cRT : pj_RT sd ed tst nL kd wy wh) (cR : pj_R W nL kd wy wh) : pj_RT sd ed tst nL kd wy (pu wh k 1) := by
  obtain ⟨hop, hed⟩ := hG
  unfold pj_RT pj_R at *
  intro j0 k0
  simp only [pu]
  have g0 := hop b
  have g1 := hop (wy j0)
  have g2 := hop (wy k0)
  have g3 := hed b (wy j0)
  have g4 := hed b (wy k0)
  have g5 := hed (wy j0) (wy k0)
  have cRT_0 := cRT k k
  have cRT_1 := cRT k j0
  have cRT_2 := cRT k k0
  have cRT_3 := cRT j0 k
  have cRT_4 := cRT j0 j0
  have cRT_5 := cRT j0 k0
  have cRT_6 := cRT k0 k
  have cRT_7 := cRT k0 j0
  have cRT_8 := cRT k0 k0
  have cR_0 := cR j0
  have cR_1 := cR k0
  have f0 := p6_ k
  have f1 := p6_ j0
  have f2 := p6_ k0
  clear p6_
  clear hop hed cRT cR
  grind (splits := 24)

set_option maxHeartbeats 1000000 in
theorem pt_df_CV {W : Int → Prop} {sd : Int → Int} {op : Int → Int} {ed : Int → Int} {st : Int → Int} {tst : Int → Int} {pd : Int → Int} {nL : Int} {kd : Int → Int} {wy : Int → Int} {wh : Int → Int} {b k : Int} (hG : pj_G W sd op ed) (p0_ : W b) (p1_ : 0 ≤ k) (p2_ : k < nL) (p3_ : wh k = 0) (p4_ : kd k = 0 ∨ kd k = 2 ∨ (kd k = 5 ∧ pd b = 0)) (p5_ : wy k = op b) (p6_ : ∀ j, 0 ≤ j → j < k → wy j = wy k → wh j ≠ 0) (p7_ : st (sd b) ≠ 0) (p8_ : 0 ≤ nL) (cCV : pj_CV W sd op ed tst nL kd wy wh) (cR : pj_R W nL kd wy wh) : pj_CV W sd op ed tst nL kd wy (pu wh k 1) := by
  obtain ⟨hop, hed⟩ := hG
  unfold pj_CV pj_R at *
  intro v0 j0 k0
  simp only [pu]
  have g0 := hop b
  have g1 := hop v0
  have g2 := hop (wy j0)
  have g3 := hop (wy k0)
  have g4 := hed b v0
  have g5 := hed b (wy j0)
  have g6 := hed b (wy k0)
  have g7 := hed v0 (wy j0)
  have g8 := hed v0 (wy k0)
  have g9 := hed (wy j0) (wy k0)
  have cCV_0 := cCV v0 j0 k0
  have cR_0 := cR j0
  have cR_1 := cR k0
  have f0 := p6_ k
  have f1 := p6_ j0
  have f2 := p6_ k0
  clear p6_
  clear hop hed cCV cR
  grind (splits := 24)

set_option maxHeartbeats 1000000 in
theorem pt_df_L5 {W : Int → Prop} {sd : Int → Int} {op : Int → Int} {ed : Int → Int} {st : Int → Int} {lv : Int → Int} {nm : Int → Int} {inw : Int → Int} {bst : Int → Int} {om : Int → Int} {ps : Int → Int} {dl : Int → Int} {pd : Int → Int} {rp : Int → Int} {rv : Int → Int} {cl : Int → Int} {tk : Int → Int} {nL : Int} {kd : Int → Int} {wy : Int → Int} {td : Int → Int} {wh : Int → Int} {b k : Int} (hG : pj_G W sd op ed) (p0_ : W b) (p1_ : 0 ≤ k) (p2_ : k < nL) (p3_ : wh k = 0) (p4_ : kd k = 0 ∨ kd k = 2 ∨ (kd k = 5 ∧ pd b = 0)) (p5_ : wy k = op b) (p6_ : ∀ j, 0 ≤ j → j < k → wy j = wy k → wh j ≠ 0) (p7_ : st (sd b) ≠ 0) (p8_ : 0 ≤ nL) (cL5 : pj_L5 sd op ed st lv nm inw bst om ps dl pd rp rv cl tk nL kd wy td wh) (cR : pj_R W nL kd wy wh) : pj_L5 sd op ed st lv nm inw bst om ps dl pd rp rv cl tk nL kd wy td (pu wh k 1) := by
  obtain ⟨hop, hed⟩ := hG
  unfold pj_L5 pj_R at *
  intro k0
  simp only [pu]
  have g0 := hop b
  have g1 := hop (wy k0)
  have g2 := hed b (wy k0)
  have cL5_0 := cL5 k
  have cL5_1 := cL5 k0
  have cR_0 := cR k0
  have f0 := p6_ k
  have f1 := p6_ k0
  clear p6_
  clear hop hed cL5 cR
  grind (splits := 24)

set_option maxHeartbeats 1000000 in
theorem pt_df_L5o {W : Int → Prop} {sd : Int → Int} {op : Int → Int} {ed : Int → Int} {st : Int → Int} {lv : Int → Int} {pd : Int → Int} {cl : Int → Int} {nL : Int} {kd : Int → Int} {wy : Int → Int} {wh : Int → Int} {b k : Int} (hG : pj_G W sd op ed) (p0_ : W b) (p1_ : 0 ≤ k) (p2_ : k < nL) (p3_ : wh k = 0) (p4_ : kd k = 0 ∨ kd k = 2 ∨ (kd k = 5 ∧ pd b = 0)) (p5_ : wy k = op b) (p6_ : ∀ j, 0 ≤ j → j < k → wy j = wy k → wh j ≠ 0) (p7_ : st (sd b) ≠ 0) (p8_ : 0 ≤ nL) (cL5o : pj_L5o sd op ed lv cl nL kd wy wh) (cR : pj_R W nL kd wy wh) : pj_L5o sd op ed lv cl nL kd wy (pu wh k 1) := by
  obtain ⟨hop, hed⟩ := hG
  unfold pj_L5o pj_R at *
  intro j0 k0
  simp only [pu]
  have g0 := hop b
  have g1 := hop (wy j0)
  have g2 := hop (wy k0)
  have g3 := hed b (wy j0)
  have g4 := hed b (wy k0)
  have g5 := hed (wy j0) (wy k0)
  have cL5o_0 := cL5o k k
  have cL5o_1 := cL5o k j0
  have cL5o_2 := cL5o k k0
  have cL5o_3 := cL5o j0 k
  have cL5o_4 := cL5o j0 j0
  have cL5o_5 := cL5o j0 k0
  have cL5o_6 := cL5o k0 k
  have cL5o_7 := cL5o k0 j0
  have cL5o_8 := cL5o k0 k0
  have cR_0 := cR j0
  have cR_1 := cR k0
  have f0 := p6_ k
  have f1 := p6_ j0
  have f2 := p6_ k0
  clear p6_
  clear hop hed cL5o cR
  grind (splits := 24)

set_option maxHeartbeats 1000000 in
theorem pt_df_L5u {W : Int → Prop} {sd : Int → Int} {op : Int → Int} {ed : Int → Int} {st : Int → Int} {pd : Int → Int} {nL : Int} {kd : Int → Int} {wy : Int → Int} {wh : Int → Int} {b k : Int} (hG : pj_G W sd op ed) (p0_ : W b) (p1_ : 0 ≤ k) (p2_ : k < nL) (p3_ : wh k = 0) (p4_ : kd k = 0 ∨ kd k = 2 ∨ (kd k = 5 ∧ pd b = 0)) (p5_ : wy k = op b) (p6_ : ∀ j, 0 ≤ j → j < k → wy j = wy k → wh j ≠ 0) (p7_ : st (sd b) ≠ 0) (p8_ : 0 ≤ nL) (cL5u : pj_L5u nL kd wy wh) (cR : pj_R W nL kd wy wh) : pj_L5u nL kd wy (pu wh k 1) := by
  obtain ⟨hop, hed⟩ := hG
  unfold pj_L5u pj_R at *
  intro j0 k0
  simp only [pu]
  have g0 := hop b
  have g1 := hop (wy j0)
  have g2 := hop (wy k0)
  have g3 := hed b (wy j0)
  have g4 := hed b (wy k0)
  have g5 := hed (wy j0) (wy k0)
  have cL5u_0 := cL5u k k
  have cL5u_1 := cL5u k j0
  have cL5u_2 := cL5u k k0
  have cL5u_3 := cL5u j0 k
  have cL5u_4 := cL5u j0 j0
  have cL5u_5 := cL5u j0 k0
  have cL5u_6 := cL5u k0 k
  have cL5u_7 := cL5u k0 j0
  have cL5u_8 := cL5u k0 k0
  have cR_0 := cR j0
  have cR_1 := cR k0
  have f0 := p6_ k
  have f1 := p6_ j0
  have f2 := p6_ k0
  clear p6_
  clear hop hed cL5u cR
  grind (splits := 24)

set_option maxHeartbeats 1000000 in
theorem pt_df_L6 {W : Int → Prop} {sd : Int → Int} {op : Int → Int} {ed : Int → Int} {st : Int → Int} {lv : Int → Int} {nm : Int → Int} {tow : Int → Int} {om : Int → Int} {ps : Int → Int} {dl : Int → Int} {pd : Int → Int} {cw : Int → Int} {tk : Int → Int} {nL : Int} {kd : Int → Int} {wy : Int → Int} {wh : Int → Int} {b k : Int} (hG : pj_G W sd op ed) (p0_ : W b) (p1_ : 0 ≤ k) (p2_ : k < nL) (p3_ : wh k = 0) (p4_ : kd k = 0 ∨ kd k = 2 ∨ (kd k = 5 ∧ pd b = 0)) (p5_ : wy k = op b) (p6_ : ∀ j, 0 ≤ j → j < k → wy j = wy k → wh j ≠ 0) (p7_ : st (sd b) ≠ 0) (p8_ : 0 ≤ nL) (cL6 : pj_L6 sd op ed st lv nm tow om ps dl cw tk nL kd wy wh) (cR : pj_R W nL kd wy wh) : pj_L6 sd op ed st lv nm tow om ps dl cw tk nL kd wy (pu wh k 1) := by
  obtain ⟨hop, hed⟩ := hG
  unfold pj_L6 pj_R at *
  intro k0
  simp only [pu]
  have g0 := hop b
  have g1 := hop (wy k0)
  have g2 := hed b (wy k0)
  have cL6_0 := cL6 k
  have cL6_1 := cL6 k0
  have cR_0 := cR k0
  have f0 := p6_ k
  have f1 := p6_ k0
  clear p6_
  clear hop hed cL6 cR
  grind (splits := 24)

set_option maxHeartbeats 1000000 in
theorem pt_df_L6u {W : Int → Prop} {sd : Int → Int} {op : Int → Int} {ed : Int → Int} {st : Int → Int} {nm : Int → Int} {pd : Int → Int} {nL : Int} {kd : Int → Int} {wy : Int → Int} {wh : Int → Int} {b k : Int} (hG : pj_G W sd op ed) (p0_ : W b) (p1_ : 0 ≤ k) (p2_ : k < nL) (p3_ : wh k = 0) (p4_ : kd k = 0 ∨ kd k = 2 ∨ (kd k = 5 ∧ pd b = 0)) (p5_ : wy k = op b) (p6_ : ∀ j, 0 ≤ j → j < k → wy j = wy k → wh j ≠ 0) (p7_ : st (sd b) ≠ 0) (p8_ : 0 ≤ nL) (cL6u : pj_L6u sd op nm nL kd wy wh) (cR : pj_R W nL kd wy wh) : pj_L6u sd op nm nL kd wy (pu wh k 1) := by
  obtain ⟨hop, hed⟩ := hG
  unfold pj_L6u pj_R at *
  intro j0 k0
  simp only [pu]
  have g0 := hop b
  have g1 := hop (wy j0)
  have g2 := hop (wy k0)
  have g3 := hed b (wy j0)
  have g4 := hed b (wy k0)
  have g5 := hed (wy j0) (wy k0)
  have cL6u_0 := cL6u k k
  have cL6u_1 := cL6u k j0
  have cL6u_2 := cL6u k k0
  have cL6u_3 := cL6u j0 k
  have cL6u_4 := cL6u j0 j0
  have cL6u_5 := cL6u j0 k0
  have cL6u_6 := cL6u k0 k
  have cL6u_7 := cL6u k0 j0
  have cL6u_8 := cL6u k0 k0
  have cR_0 := cR j0
  have cR_1 := cR k0
  have f0 := p6_ k
  have f1 := p6_ j0
  have f2 := p6_ k0
  clear p6_
  clear hop hed cL6u cR
  grind (splits := 24)

theorem pj_df {W : Int → Prop} {sd op ed : Int → Int} {li : Int → Int → Prop} {st lv nm inw tow bst tst exp om ps dl dn af c0 en pd rp rv fw cl cw tk kd wy ll td ls wh : Int → Int} {nL : Int} {F F2 : Int → Prop} {fl fc : Int} {b k : Int} (hG : pj_G W sd op ed) (p0_ : W b) (p1_ : 0 ≤ k) (p2_ : k < nL) (p3_ : wh k = 0) (p4_ : kd k = 0 ∨ kd k = 2 ∨ (kd k = 5 ∧ pd b = 0)) (p5_ : wy k = op b) (p6_ : ∀ j, 0 ≤ j → j < k → wy j = wy k → wh j ≠ 0) (p7_ : st (sd b) ≠ 0) (p8_ : 0 ≤ nL) (h : pj_J W sd op ed li st lv nm inw tow bst tst exp om ps dl dn af c0 en pd rp rv fw cl cw tk nL kd wy ll td ls wh F fl fc) : pj_J W sd op ed li st lv nm inw tow bst tst exp om ps dl dn af c0 en pd rp rv fw cl cw tk nL kd wy ll td ls (pu wh k 1) F fl fc := by
  obtain ⟨cR, cN0, cN1, cN1w, cER, cN1c, cN2, cN2e, cN2b, cN4e, cN4b, cN5, cN7, cN10, cN10e, cN13, cC1, cC2, cR3a, cE1, cU, cA1, cA2, cEC, cR3, cN11, cN12, cN3, cRJ, cFW, cPD, cCC, cCD, cRP, cRP1, cCR, cZ1, cZ0, cTK, cK2, cWH, cFI, cL0, cFC, cL0u, cOC, cCT, cL1, cL1e, cL1o, cL1b, cL1g, cL2, cL3, cL4, cAF, cRT, cCV, cL5, cL5o, cL5u, cL6, cL6u⟩ := h
  exact ⟨pt_df_R hG p0_ p1_ p2_ p3_ p4_ p5_ p6_ p7_ p8_ cR, cN0, cN1, cN1w, cER, pt_df_N1c hG p0_ p1_ p2_ p3_ p4_ p5_ p6_ p7_ p8_ cN1c cR, cN2, cN2e, cN2b, cN4e, cN4b, cN5, cN7, cN10, cN10e, cN13, cC1, cC2, cR3a, pt_df_E1 hG p0_ p1_ p2_ p3_ p4_ p5_ p6_ p7_ p8_ cE1, cU, cA1, cA2, pt_df_EC hG p0_ p1_ p2_ p3_ p4_ p5_ p6_ p7_ p8_ cEC, cR3, cN11, cN12, cN3, cRJ, cFW, cPD, cCC, cCD, cRP, cRP1, cCR, cZ1, cZ0, cTK, cK2, pt_df_WH hG p0_ p1_ p2_ p3_ p4_ p5_ p6_ p7_ p8_ cWH cR, pt_df_FI hG p0_ p1_ p2_ p3_ p4_ p5_ p6_ p7_ p8_ cFI cR, pt_df_L0 hG p0_ p1_ p2_ p3_ p4_ p5_ p6_ p7_ p8_ cL0 cR, pt_df_FC hG p0_ p1_ p2_ p3_ p4_ p5_ p6_ p7_ p8_ cFC cR, pt_df_L0u hG p0_ p1_ p2_ p3_ p4_ p5_ p6_ p7_ p8_ cL0u cR, pt_df_OC hG p0_ p1_ p2_ p3_ p4_ p5_ p6_ p7_ p8_ cOC cR, pt_df_CT hG p0_ p1_ p2_ p3_ p4_ p5_ p6_ p7_ p8_ cCT cR, pt_df_L1 hG p0_ p1_ p2_ p3_ p4_ p5_ p6_ p7_ p8_ cL1 cR, pt_df_L1e hG p0_ p1_ p2_ p3_ p4_ p5_ p6_ p7_ p8_ cL1e cR, pt_df_L1o hG p0_ p1_ p2_ p3_ p4_ p5_ p6_ p7_ p8_ cL1o cR, pt_df_L1b hG p0_ p1_ p2_ p3_ p4_ p5_ p6_ p7_ p8_ cL1b cR, pt_df_L1g hG p0_ p1_ p2_ p3_ p4_ p5_ p6_ p7_ p8_ cL1g cR, pt_df_L2 hG p0_ p1_ p2_ p3_ p4_ p5_ p6_ p7_ p8_ cL2 cR, pt_df_L3 hG p0_ p1_ p2_ p3_ p4_ p5_ p6_ p7_ p8_ cL3 cR, pt_df_L4 hG p0_ p1_ p2_ p3_ p4_ p5_ p6_ p7_ p8_ cL4 cR, pt_df_AF hG p0_ p1_ p2_ p3_ p4_ p5_ p6_ p7_ p8_ cAF, pt_df_RT hG p0_ p1_ p2_ p3_ p4_ p5_ p6_ p7_ p8_ cRT cR, pt_df_CV hG p0_ p1_ p2_ p3_ p4_ p5_ p6_ p7_ p8_ cCV cR, pt_df_L5 hG p0_ p1_ p2_ p3_ p4_ p5_ p6_ p7_ p8_ cL5 cR, pt_df_L5o hG p0_ p1_ p2_ p3_ p4_ p5_ p6_ p7_ p8_ cL5o cR, pt_df_L5u hG p0_ p1_ p2_ p3_ p4_ p5_ p6_ p7_ p8_ cL5u cR, pt_df_L6 hG p0_ p1_ p2_ p3_ p4_ p5_ p6_ p7_ p8_ cL6 cR, pt_df_L6u hG p0_ p1_ p2_ p3_ p4_ p5_ p6_ p7_ p8_ cL6u cR⟩

