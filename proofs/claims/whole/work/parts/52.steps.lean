/-! pt: each step keeps each clause of the invariant (printed by wip/gen/gen50w.py) -/
set_option maxHeartbeats 1000000 in
theorem pt_ab_R {W : Int → Prop} {sd : Int → Int} {op : Int → Int} {ed : Int → Int} {st : Int → Int} {lv : Int → Int} {nm : Int → Int} {om : Int → Int} {ps : Int → Int} {dl : Int → Int} {en : Int → Int} {cl : Int → Int} {nL : Int} {kd : Int → Int} {wy : Int → Int} {ll : Int → Int} {wh : Int → Int} {F : Int → Prop} {F2 : Int → Prop} {b k : Int} (hG : pj_G W sd op ed) (p0_ : W b) (p1_ : 0 ≤ k) (p2_ : k < nL) (p3_ : wh k ≠ 2) (p4_ : kd k = 0) (p5_ : wy k = op b) (p6_ : ∀ j, 0 ≤ j → j < k → wy j = wy k → wh j ≠ 0) (p7_ : ∀ v, ¬ F v) (p8_ : ∀ v, F2 v ↔ v = b) (p9_ : om (sd (op b)) = (ed b)) (p10_ : ps (sd (op b)) = 1) (p11_ : dl (sd (op b)) = lv (sd (op b))) (p12_ : ll k = lv (sd (op b))) (p13_ : lv (sd (op b)) < lv (sd b)) (p14_ : lv (sd (op b)) = 0 ∨ nm (sd (op b)) ≠ nm (sd b)) (p15_ : en b ≠ 2) (p16_ : en b ≠ 1) (p17_ : om (sd b) ≠ (ed b)) (p18_ : st (sd b) ≠ 0) (p19_ : st (sd (op b)) = 2) (p20_ : cl (ed b) = 0) (p21_ : 0 ≤ nL) (cR : pj_R W nL kd wy wh) : pj_R W nL kd wy (pu wh k 2) := by
  obtain ⟨hop, hed⟩ := hG
  unfold pj_R at *
  intro k0
  simp only [pu]
  have g0 := hop b
  have g1 := hop (wy k0)
  have g2 := hed b (wy k0)
  have cR_0 := cR k
  have cR_1 := cR k0
  have f0 := p6_ k
  have f1 := p6_ k0
  have f2 := p7_ b
  have f3 := p7_ (wy k0)
  have f4 := p7_ (op (wy k0))
  have f5 := p7_ (op b)
  have f6 := p8_ b
  have f7 := p8_ (wy k0)
  have f8 := p8_ (op (wy k0))
  clear p6_ p7_ p8_
  clear hop hed cR
  grind (splits := 24)

set_option maxHeartbeats 1000000 in
theorem pt_ab_N1w {W : Int → Prop} {sd : Int → Int} {op : Int → Int} {ed : Int → Int} {st : Int → Int} {lv : Int → Int} {nm : Int → Int} {om : Int → Int} {ps : Int → Int} {dl : Int → Int} {en : Int → Int} {cl : Int → Int} {nL : Int} {kd : Int → Int} {wy : Int → Int} {ll : Int → Int} {wh : Int → Int} {F : Int → Prop} {F2 : Int → Prop} {b k : Int} (hG : pj_G W sd op ed) (p0_ : W b) (p1_ : 0 ≤ k) (p2_ : k < nL) (p3_ : wh k ≠ 2) (p4_ : kd k = 0) (p5_ : wy k = op b) (p6_ : ∀ j, 0 ≤ j → j < k → wy j = wy k → wh j ≠ 0) (p7_ : ∀ v, ¬ F v) (p8_ : ∀ v, F2 v ↔ v = b) (p9_ : om (sd (op b)) = (ed b)) (p10_ : ps (sd (op b)) = 1) (p11_ : dl (sd (op b)) = lv (sd (op b))) (p12_ : ll k = lv (sd (op b))) (p13_ : lv (sd (op b)) < lv (sd b)) (p14_ : lv (sd (op b)) = 0 ∨ nm (sd (op b)) ≠ nm (sd b)) (p15_ : en b ≠ 2) (p16_ : en b ≠ 1) (p17_ : om (sd b) ≠ (ed b)) (p18_ : st (sd b) ≠ 0) (p19_ : st (sd (op b)) = 2) (p20_ : cl (ed b) = 0) (p21_ : 0 ≤ nL) (cN1w : pj_N1w W sd st en) : pj_N1w W sd st (pu en b 1) := by
  obtain ⟨hop, hed⟩ := hG
  unfold pj_N1w at *
  intro w0
  simp only [pu]
  have g0 := hop b
  have g1 := hop w0
  have g2 := hed b w0
  have cN1w_0 := cN1w b
  have cN1w_1 := cN1w w0
  have cN1w_2 := cN1w (op w0)
  have f0 := p6_ k
  have f1 := p7_ b
  have f2 := p7_ w0
  have f3 := p7_ (op w0)
  have f4 := p7_ (op b)
  have f5 := p8_ b
  have f6 := p8_ w0
  have f7 := p8_ (op w0)
  clear p6_ p7_ p8_
  clear hop hed cN1w
  grind (splits := 24)

set_option maxHeartbeats 1000000 in
theorem pt_ab_ER {W : Int → Prop} {sd : Int → Int} {op : Int → Int} {ed : Int → Int} {st : Int → Int} {lv : Int → Int} {nm : Int → Int} {om : Int → Int} {ps : Int → Int} {dl : Int → Int} {en : Int → Int} {cl : Int → Int} {nL : Int} {kd : Int → Int} {wy : Int → Int} {ll : Int → Int} {wh : Int → Int} {F : Int → Prop} {F2 : Int → Prop} {b k : Int} (hG : pj_G W sd op ed) (p0_ : W b) (p1_ : 0 ≤ k) (p2_ : k < nL) (p3_ : wh k ≠ 2) (p4_ : kd k = 0) (p5_ : wy k = op b) (p6_ : ∀ j, 0 ≤ j → j < k → wy j = wy k → wh j ≠ 0) (p7_ : ∀ v, ¬ F v) (p8_ : ∀ v, F2 v ↔ v = b) (p9_ : om (sd (op b)) = (ed b)) (p10_ : ps (sd (op b)) = 1) (p11_ : dl (sd (op b)) = lv (sd (op b))) (p12_ : ll k = lv (sd (op b))) (p13_ : lv (sd (op b)) < lv (sd b)) (p14_ : lv (sd (op b)) = 0 ∨ nm (sd (op b)) ≠ nm (sd b)) (p15_ : en b ≠ 2) (p16_ : en b ≠ 1) (p17_ : om (sd b) ≠ (ed b)) (p18_ : st (sd b) ≠ 0) (p19_ : st (sd (op b)) = 2) (p20_ : cl (ed b) = 0) (p21_ : 0 ≤ nL) (cER : pj_ER W en) : pj_ER W (pu en b 1) := by
  obtain ⟨hop, hed⟩ := hG
  unfold pj_ER at *
  intro w0
  simp only [pu]
  have g0 := hop b
  have g1 := hop w0
  have g2 := hed b w0
  have cER_0 := cER b
  have cER_1 := cER w0
  have cER_2 := cER (op w0)
  have f0 := p6_ k
  have f1 := p7_ b
  have f2 := p7_ w0
  have f3 := p7_ (op w0)
  have f4 := p7_ (op b)
  have f5 := p8_ b
  have f6 := p8_ w0
  have f7 := p8_ (op w0)
  clear p6_ p7_ p8_
  clear hop hed cER
  grind (splits := 24)

set_option maxHeartbeats 1000000 in
theorem pt_ab_N1c {W : Int → Prop} {sd : Int → Int} {op : Int → Int} {ed : Int → Int} {st : Int → Int} {lv : Int → Int} {nm : Int → Int} {om : Int → Int} {ps : Int → Int} {dl : Int → Int} {en : Int → Int} {cl : Int → Int} {nL : Int} {kd : Int → Int} {wy : Int → Int} {ll : Int → Int} {wh : Int → Int} {F : Int → Prop} {F2 : Int → Prop} {b k : Int} (hG : pj_G W sd op ed) (p0_ : W b) (p1_ : 0 ≤ k) (p2_ : k < nL) (p3_ : wh k ≠ 2) (p4_ : kd k = 0) (p5_ : wy k = op b) (p6_ : ∀ j, 0 ≤ j → j < k → wy j = wy k → wh j ≠ 0) (p7_ : ∀ v, ¬ F v) (p8_ : ∀ v, F2 v ↔ v = b) (p9_ : om (sd (op b)) = (ed b)) (p10_ : ps (sd (op b)) = 1) (p11_ : dl (sd (op b)) = lv (sd (op b))) (p12_ : ll k = lv (sd (op b))) (p13_ : lv (sd (op b)) < lv (sd b)) (p14_ : lv (sd (op b)) = 0 ∨ nm (sd (op b)) ≠ nm (sd b)) (p15_ : en b ≠ 2) (p16_ : en b ≠ 1) (p17_ : om (sd b) ≠ (ed b)) (p18_ : st (sd b) ≠ 0) (p19_ : st (sd (op b)) = 2) (p20_ : cl (ed b) = 0) (p21_ : 0 ≤ nL) (cN1c : pj_N1c sd op st nL wy wh) (cR : pj_R W nL kd wy wh) : pj_N1c sd op st nL wy (pu wh k 2) := by
  obtain ⟨hop, hed⟩ := hG
  unfold pj_N1c pj_R at *
  intro k0
  simp only [pu]
  have g0 := hop b
  have g1 := hop (wy k0)
  have g2 := hed b (wy k0)
  have cN1c_0 := cN1c k
  have cN1c_1 := cN1c k0
  have cR_0 := cR k0
  have f0 := p6_ k
  have f1 := p6_ k0
  have f2 := p7_ b
  have f3 := p7_ (wy k0)
  have f4 := p7_ (op (wy k0))
  have f5 := p7_ (op b)
  have f6 := p8_ b
  have f7 := p8_ (wy k0)
  have f8 := p8_ (op (wy k0))
  clear p6_ p7_ p8_
  clear hop hed cN1c cR
  grind (splits := 24)

set_option maxHeartbeats 1000000 in
theorem pt_ab_N2 {W : Int → Prop} {sd : Int → Int} {op : Int → Int} {ed : Int → Int} {st : Int → Int} {lv : Int → Int} {nm : Int → Int} {om : Int → Int} {ps : Int → Int} {dl : Int → Int} {en : Int → Int} {cl : Int → Int} {nL : Int} {kd : Int → Int} {wy : Int → Int} {ll : Int → Int} {wh : Int → Int} {F : Int → Prop} {F2 : Int → Prop} {b k : Int} (hG : pj_G W sd op ed) (p0_ : W b) (p1_ : 0 ≤ k) (p2_ : k < nL) (p3_ : wh k ≠ 2) (p4_ : kd k = 0) (p5_ : wy k = op b) (p6_ : ∀ j, 0 ≤ j → j < k → wy j = wy k → wh j ≠ 0) (p7_ : ∀ v, ¬ F v) (p8_ : ∀ v, F2 v ↔ v = b) (p9_ : om (sd (op b)) = (ed b)) (p10_ : ps (sd (op b)) = 1) (p11_ : dl (sd (op b)) = lv (sd (op b))) (p12_ : ll k = lv (sd (op b))) (p13_ : lv (sd (op b)) < lv (sd b)) (p14_ : lv (sd (op b)) = 0 ∨ nm (sd (op b)) ≠ nm (sd b)) (p15_ : en b ≠ 2) (p16_ : en b ≠ 1) (p17_ : om (sd b) ≠ (ed b)) (p18_ : st (sd b) ≠ 0) (p19_ : st (sd (op b)) = 2) (p20_ : cl (ed b) = 0) (p21_ : 0 ≤ nL) (cN2 : pj_N2 W sd ed om en) : pj_N2 W sd ed om (pu en b 1) := by
  obtain ⟨hop, hed⟩ := hG
  unfold pj_N2 at *
  intro w0
  simp only [pu]
  have g0 := hop b
  have g1 := hop w0
  have g2 := hed b w0
  have cN2_0 := cN2 b
  have cN2_1 := cN2 w0
  have cN2_2 := cN2 (op w0)
  have f0 := p6_ k
  have f1 := p7_ b
  have f2 := p7_ w0
  have f3 := p7_ (op w0)
  have f4 := p7_ (op b)
  have f5 := p8_ b
  have f6 := p8_ w0
  have f7 := p8_ (op w0)
  clear p6_ p7_ p8_
  clear hop hed cN2
  grind (splits := 24)

set_option maxHeartbeats 1000000 in
theorem pt_ab_E1 {W : Int → Prop} {sd : Int → Int} {op : Int → Int} {ed : Int → Int} {st : Int → Int} {lv : Int → Int} {nm : Int → Int} {om : Int → Int} {ps : Int → Int} {dl : Int → Int} {en : Int → Int} {cl : Int → Int} {nL : Int} {kd : Int → Int} {wy : Int → Int} {ll : Int → Int} {wh : Int → Int} {F : Int → Prop} {F2 : Int → Prop} {b k : Int} (hG : pj_G W sd op ed) (p0_ : W b) (p1_ : 0 ≤ k) (p2_ : k < nL) (p3_ : wh k ≠ 2) (p4_ : kd k = 0) (p5_ : wy k = op b) (p6_ : ∀ j, 0 ≤ j → j < k → wy j = wy k → wh j ≠ 0) (p7_ : ∀ v, ¬ F v) (p8_ : ∀ v, F2 v ↔ v = b) (p9_ : om (sd (op b)) = (ed b)) (p10_ : ps (sd (op b)) = 1) (p11_ : dl (sd (op b)) = lv (sd (op b))) (p12_ : ll k = lv (sd (op b))) (p13_ : lv (sd (op b)) < lv (sd b)) (p14_ : lv (sd (op b)) = 0 ∨ nm (sd (op b)) ≠ nm (sd b)) (p15_ : en b ≠ 2) (p16_ : en b ≠ 1) (p17_ : om (sd b) ≠ (ed b)) (p18_ : st (sd b) ≠ 0) (p19_ : st (sd (op b)) = 2) (p20_ : cl (ed b) = 0) (p21_ : 0 ≤ nL) (cE1 : pj_E1 sd op lv dl nL kd wy ll wh) : pj_E1 sd op lv dl nL kd wy ll (pu wh k 2) := by
  obtain ⟨hop, hed⟩ := hG
  unfold pj_E1 at *
  intro n0
  simp only [pu]
  have g0 := hop b
  have cE1_0 := cE1 (sd (op b))
  have cE1_1 := cE1 n0
  have cE1_2 := cE1 (sd b)
  have f0 := p6_ k
  have f1 := p7_ b
  have f2 := p7_ (op b)
  have f3 := p8_ b
  clear p6_ p7_ p8_
  clear hop hed cE1
  grind (splits := 24)

set_option maxHeartbeats 1000000 in
theorem pt_ab_U {W : Int → Prop} {sd : Int → Int} {op : Int → Int} {ed : Int → Int} {st : Int → Int} {lv : Int → Int} {nm : Int → Int} {om : Int → Int} {ps : Int → Int} {dl : Int → Int} {en : Int → Int} {cl : Int → Int} {nL : Int} {kd : Int → Int} {wy : Int → Int} {ll : Int → Int} {wh : Int → Int} {F : Int → Prop} {F2 : Int → Prop} {b k : Int} (hG : pj_G W sd op ed) (p0_ : W b) (p1_ : 0 ≤ k) (p2_ : k < nL) (p3_ : wh k ≠ 2) (p4_ : kd k = 0) (p5_ : wy k = op b) (p6_ : ∀ j, 0 ≤ j → j < k → wy j = wy k → wh j ≠ 0) (p7_ : ∀ v, ¬ F v) (p8_ : ∀ v, F2 v ↔ v = b) (p9_ : om (sd (op b)) = (ed b)) (p10_ : ps (sd (op b)) = 1) (p11_ : dl (sd (op b)) = lv (sd (op b))) (p12_ : ll k = lv (sd (op b))) (p13_ : lv (sd (op b)) < lv (sd b)) (p14_ : lv (sd (op b)) = 0 ∨ nm (sd (op b)) ≠ nm (sd b)) (p15_ : en b ≠ 2) (p16_ : en b ≠ 1) (p17_ : om (sd b) ≠ (ed b)) (p18_ : st (sd b) ≠ 0) (p19_ : st (sd (op b)) = 2) (p20_ : cl (ed b) = 0) (p21_ : 0 ≤ nL) (cU : pj_U W sd op ed lv nm om ps dl en cl) : pj_U W sd op ed lv nm om ps dl (pu en b 1) cl := by
  obtain ⟨hop, hed⟩ := hG
  unfold pj_U at *
  intro w0
  simp only [pu]
  have g0 := hop b
  have g1 := hop w0
  have g2 := hed b w0
  have cU_0 := cU b
  have cU_1 := cU w0
  have cU_2 := cU (op w0)
  have f0 := p6_ k
  have f1 := p7_ b
  have f2 := p7_ w0
  have f3 := p7_ (op w0)
  have f4 := p7_ (op b)
  have f5 := p8_ b
  have f6 := p8_ w0
  have f7 := p8_ (op w0)
  clear p6_ p7_ p8_
  clear hop hed cU
  grind (splits := 24)

set_option maxHeartbeats 1000000 in
theorem pt_ab_A1 {W : Int → Prop} {sd : Int → Int} {op : Int → Int} {ed : Int → Int} {st : Int → Int} {lv : Int → Int} {nm : Int → Int} {om : Int → Int} {ps : Int → Int} {dl : Int → Int} {dn : Int → Int} {en : Int → Int} {cl : Int → Int} {nL : Int} {kd : Int → Int} {wy : Int → Int} {ll : Int → Int} {wh : Int → Int} {F : Int → Prop} {fl : Int} {fc : Int} {F2 : Int → Prop} {b k : Int} (hG : pj_G W sd op ed) (p0_ : W b) (p1_ : 0 ≤ k) (p2_ : k < nL) (p3_ : wh k ≠ 2) (p4_ : kd k = 0) (p5_ : wy k = op b) (p6_ : ∀ j, 0 ≤ j → j < k → wy j = wy k → wh j ≠ 0) (p7_ : ∀ v, ¬ F v) (p8_ : ∀ v, F2 v ↔ v = b) (p9_ : om (sd (op b)) = (ed b)) (p10_ : ps (sd (op b)) = 1) (p11_ : dl (sd (op b)) = lv (sd (op b))) (p12_ : ll k = lv (sd (op b))) (p13_ : lv (sd (op b)) < lv (sd b)) (p14_ : lv (sd (op b)) = 0 ∨ nm (sd (op b)) ≠ nm (sd b)) (p15_ : en b ≠ 2) (p16_ : en b ≠ 1) (p17_ : om (sd b) ≠ (ed b)) (p18_ : st (sd b) ≠ 0) (p19_ : st (sd (op b)) = 2) (p20_ : cl (ed b) = 0) (p21_ : 0 ≤ nL) (cA1 : pj_A1 W sd op ed lv nm om dl dn en F fl fc) (cC2 : pj_C2 lv nm dl dn cl) : pj_A1 W sd op ed lv nm om dl dn (pu en b 1) (F2) (lv (sd (op b))) (nm (sd (op b))) := by
  obtain ⟨hop, hed⟩ := hG
  unfold pj_A1 pj_C2 at *
  intro w0
  simp only [pu]
  have g0 := hop b
  have g1 := hop w0
  have g2 := hed b w0
  have cA1_0 := cA1 b
  have cA1_1 := cA1 w0
  have cA1_2 := cA1 (op w0)
  have cC2_0 := cC2 (sd (op b))
  have f0 := p6_ k
  have f1 := p7_ b
  have f2 := p7_ w0
  have f3 := p7_ (op w0)
  have f4 := p7_ (op b)
  have f5 := p8_ b
  have f6 := p8_ w0
  have f7 := p8_ (op w0)
  clear p6_ p7_ p8_
  clear hop hed cA1 cC2
  grind (splits := 24)

set_option maxHeartbeats 1000000 in
theorem pt_ab_EC {W : Int → Prop} {sd : Int → Int} {op : Int → Int} {ed : Int → Int} {st : Int → Int} {lv : Int → Int} {nm : Int → Int} {om : Int → Int} {ps : Int → Int} {dl : Int → Int} {en : Int → Int} {cl : Int → Int} {nL : Int} {kd : Int → Int} {wy : Int → Int} {ll : Int → Int} {wh : Int → Int} {F : Int → Prop} {F2 : Int → Prop} {b k : Int} (hG : pj_G W sd op ed) (p0_ : W b) (p1_ : 0 ≤ k) (p2_ : k < nL) (p3_ : wh k ≠ 2) (p4_ : kd k = 0) (p5_ : wy k = op b) (p6_ : ∀ j, 0 ≤ j → j < k → wy j = wy k → wh j ≠ 0) (p7_ : ∀ v, ¬ F v) (p8_ : ∀ v, F2 v ↔ v = b) (p9_ : om (sd (op b)) = (ed b)) (p10_ : ps (sd (op b)) = 1) (p11_ : dl (sd (op b)) = lv (sd (op b))) (p12_ : ll k = lv (sd (op b))) (p13_ : lv (sd (op b)) < lv (sd b)) (p14_ : lv (sd (op b)) = 0 ∨ nm (sd (op b)) ≠ nm (sd b)) (p15_ : en b ≠ 2) (p16_ : en b ≠ 1) (p17_ : om (sd b) ≠ (ed b)) (p18_ : st (sd b) ≠ 0) (p19_ : st (sd (op b)) = 2) (p20_ : cl (ed b) = 0) (p21_ : 0 ≤ nL) (cEC : pj_EC W sd op ed lv nm om ps dl nL kd wy wh F) : pj_EC W sd op ed lv nm om ps dl nL kd wy (pu wh k 2) (F2) := by
  obtain ⟨hop, hed⟩ := hG
  unfold pj_EC at *
  intro w0
  simp only [pu]
  have g0 := hop b
  have g1 := hop w0
  have g2 := hed b w0
  have cEC_0 := cEC b
  have cEC_1 := cEC w0
  have cEC_2 := cEC (op w0)
  have f0 := p6_ k
  have f1 := p7_ b
  have f2 := p7_ w0
  have f3 := p7_ (op w0)
  have f4 := p7_ (op b)
  have f5 := p8_ b
  have f6 := p8_ w0
  have f7 := p8_ (op w0)
  clear p6_ p7_ p8_
  clear hop hed cEC
  grind (splits := 24)

set_option maxHeartbeats 1000000 in
theorem pt_ab_N11 {W : Int → Prop} {sd : Int → Int} {op : Int → Int} {ed : Int → Int} {st : Int → Int} {lv : Int → Int} {nm : Int → Int} {tow : Int → Int} {tst : Int → Int} {om : Int → Int} {ps : Int → Int} {dl : Int → Int} {en : Int → Int} {cl : Int → Int} {nL : Int} {kd : Int → Int} {wy : Int → Int} {ll : Int → Int} {wh : Int → Int} {F : Int → Prop} {F2 : Int → Prop} {b k : Int} (hG : pj_G W sd op ed) (p0_ : W b) (p1_ : 0 ≤ k) (p2_ : k < nL) (p3_ : wh k ≠ 2) (p4_ : kd k = 0) (p5_ : wy k = op b) (p6_ : ∀ j, 0 ≤ j → j < k → wy j = wy k → wh j ≠ 0) (p7_ : ∀ v, ¬ F v) (p8_ : ∀ v, F2 v ↔ v = b) (p9_ : om (sd (op b)) = (ed b)) (p10_ : ps (sd (op b)) = 1) (p11_ : dl (sd (op b)) = lv (sd (op b))) (p12_ : ll k = lv (sd (op b))) (p13_ : lv (sd (op b)) < lv (sd b)) (p14_ : lv (sd (op b)) = 0 ∨ nm (sd (op b)) ≠ nm (sd b)) (p15_ : en b ≠ 2) (p16_ : en b ≠ 1) (p17_ : om (sd b) ≠ (ed b)) (p18_ : st (sd b) ≠ 0) (p19_ : st (sd (op b)) = 2) (p20_ : cl (ed b) = 0) (p21_ : 0 ≤ nL) (cN11 : pj_N11 W sd op ed lv nm tow tst ps en) : pj_N11 W sd op ed lv nm tow tst ps (pu en b 1) := by
  obtain ⟨hop, hed⟩ := hG
  unfold pj_N11 at *
  intro w0
  simp only [pu]
  have g0 := hop b
  have g1 := hop w0
  have g2 := hed b w0
  have cN11_0 := cN11 b
  have cN11_1 := cN11 w0
  have cN11_2 := cN11 (op w0)
  have f0 := p6_ k
  have f1 := p7_ b
  have f2 := p7_ w0
  have f3 := p7_ (op w0)
  have f4 := p7_ (op b)
  have f5 := p8_ b
  have f6 := p8_ w0
  have f7 := p8_ (op w0)
  clear p6_ p7_ p8_
  clear hop hed cN11
  grind (splits := 24)

set_option maxHeartbeats 1000000 in
theorem pt_ab_N12 {W : Int → Prop} {sd : Int → Int} {op : Int → Int} {ed : Int → Int} {st : Int → Int} {lv : Int → Int} {nm : Int → Int} {inw : Int → Int} {tow : Int → Int} {tst : Int → Int} {om : Int → Int} {ps : Int → Int} {dl : Int → Int} {en : Int → Int} {cl : Int → Int} {nL : Int} {kd : Int → Int} {wy : Int → Int} {ll : Int → Int} {wh : Int → Int} {F : Int → Prop} {F2 : Int → Prop} {b k : Int} (hG : pj_G W sd op ed) (p0_ : W b) (p1_ : 0 ≤ k) (p2_ : k < nL) (p3_ : wh k ≠ 2) (p4_ : kd k = 0) (p5_ : wy k = op b) (p6_ : ∀ j, 0 ≤ j → j < k → wy j = wy k → wh j ≠ 0) (p7_ : ∀ v, ¬ F v) (p8_ : ∀ v, F2 v ↔ v = b) (p9_ : om (sd (op b)) = (ed b)) (p10_ : ps (sd (op b)) = 1) (p11_ : dl (sd (op b)) = lv (sd (op b))) (p12_ : ll k = lv (sd (op b))) (p13_ : lv (sd (op b)) < lv (sd b)) (p14_ : lv (sd (op b)) = 0 ∨ nm (sd (op b)) ≠ nm (sd b)) (p15_ : en b ≠ 2) (p16_ : en b ≠ 1) (p17_ : om (sd b) ≠ (ed b)) (p18_ : st (sd b) ≠ 0) (p19_ : st (sd (op b)) = 2) (p20_ : cl (ed b) = 0) (p21_ : 0 ≤ nL) (cN12 : pj_N12 W sd op ed st lv nm inw tow om ps dl en) (cN11 : pj_N11 W sd op ed lv nm tow tst ps en) : pj_N12 W sd op ed st lv nm inw tow om ps dl (pu en b 1) := by
  obtain ⟨hop, hed⟩ := hG
  unfold pj_N12 pj_N11 at *
  intro w0
  simp only [pu]
  have g0 := hop b
  have g1 := hop w0
  have g2 := hed b w0
  have cN12_0 := cN12 b
  have cN12_1 := cN12 w0
  have cN12_2 := cN12 (op w0)
  have cN11_0 := cN11 b
  have f0 := p6_ k
  have f1 := p7_ b
  have f2 := p7_ w0
  have f3 := p7_ (op w0)
  have f4 := p7_ (op b)
  have f5 := p8_ b
  have f6 := p8_ w0
  have f7 := p8_ (op w0)
  clear p6_ p7_ p8_
  clear hop hed cN12 cN11
  grind (splits := 24)

set_option maxHeartbeats 1000000 in
theorem pt_ab_N3 {W : Int → Prop} {sd : Int → Int} {op : Int → Int} {ed : Int → Int} {st : Int → Int} {lv : Int → Int} {nm : Int → Int} {om : Int → Int} {ps : Int → Int} {dl : Int → Int} {en : Int → Int} {cl : Int → Int} {nL : Int} {kd : Int → Int} {wy : Int → Int} {ll : Int → Int} {wh : Int → Int} {F : Int → Prop} {F2 : Int → Prop} {b k : Int} (hG : pj_G W sd op ed) (p0_ : W b) (p1_ : 0 ≤ k) (p2_ : k < nL) (p3_ : wh k ≠ 2) (p4_ : kd k = 0) (p5_ : wy k = op b) (p6_ : ∀ j, 0 ≤ j → j < k → wy j = wy k → wh j ≠ 0) (p7_ : ∀ v, ¬ F v) (p8_ : ∀ v, F2 v ↔ v = b) (p9_ : om (sd (op b)) = (ed b)) (p10_ : ps (sd (op b)) = 1) (p11_ : dl (sd (op b)) = lv (sd (op b))) (p12_ : ll k = lv (sd (op b))) (p13_ : lv (sd (op b)) < lv (sd b)) (p14_ : lv (sd (op b)) = 0 ∨ nm (sd (op b)) ≠ nm (sd b)) (p15_ : en b ≠ 2) (p16_ : en b ≠ 1) (p17_ : om (sd b) ≠ (ed b)) (p18_ : st (sd b) ≠ 0) (p19_ : st (sd (op b)) = 2) (p20_ : cl (ed b) = 0) (p21_ : 0 ≤ nL) (cN3 : pj_N3 W sd op ed om en) : pj_N3 W sd op ed om (pu en b 1) := by
  obtain ⟨hop, hed⟩ := hG
  unfold pj_N3 at *
  intro w0
  simp only [pu]
  have g0 := hop b
  have g1 := hop w0
  have g2 := hed b w0
  have cN3_0 := cN3 b
  have cN3_1 := cN3 w0
  have cN3_2 := cN3 (op w0)
  have f0 := p6_ k
  have f1 := p7_ b
  have f2 := p7_ w0
  have f3 := p7_ (op w0)
  have f4 := p7_ (op b)
  have f5 := p8_ b
  have f6 := p8_ w0
  have f7 := p8_ (op w0)
  clear p6_ p7_ p8_
  clear hop hed cN3
  grind (splits := 24)

set_option maxHeartbeats 1000000 in
theorem pt_ab_RJ {W : Int → Prop} {sd : Int → Int} {op : Int → Int} {ed : Int → Int} {st : Int → Int} {lv : Int → Int} {nm : Int → Int} {tst : Int → Int} {om : Int → Int} {ps : Int → Int} {dl : Int → Int} {en : Int → Int} {fw : Int → Int} {cl : Int → Int} {nL : Int} {kd : Int → Int} {wy : Int → Int} {ll : Int → Int} {wh : Int → Int} {F : Int → Prop} {F2 : Int → Prop} {b k : Int} (hG : pj_G W sd op ed) (p0_ : W b) (p1_ : 0 ≤ k) (p2_ : k < nL) (p3_ : wh k ≠ 2) (p4_ : kd k = 0) (p5_ : wy k = op b) (p6_ : ∀ j, 0 ≤ j → j < k → wy j = wy k → wh j ≠ 0) (p7_ : ∀ v, ¬ F v) (p8_ : ∀ v, F2 v ↔ v = b) (p9_ : om (sd (op b)) = (ed b)) (p10_ : ps (sd (op b)) = 1) (p11_ : dl (sd (op b)) = lv (sd (op b))) (p12_ : ll k = lv (sd (op b))) (p13_ : lv (sd (op b)) < lv (sd b)) (p14_ : lv (sd (op b)) = 0 ∨ nm (sd (op b)) ≠ nm (sd b)) (p15_ : en b ≠ 2) (p16_ : en b ≠ 1) (p17_ : om (sd b) ≠ (ed b)) (p18_ : st (sd b) ≠ 0) (p19_ : st (sd (op b)) = 2) (p20_ : cl (ed b) = 0) (p21_ : 0 ≤ nL) (cRJ : pj_RJ W sd op ed tst en fw) : pj_RJ W sd op ed tst (pu en b 1) fw := by
  obtain ⟨hop, hed⟩ := hG
  unfold pj_RJ at *
  intro w0
  simp only [pu]
  have g0 := hop b
  have g1 := hop w0
  have g2 := hed b w0
  have cRJ_0 := cRJ b
  have cRJ_1 := cRJ w0
  have cRJ_2 := cRJ (op w0)
  have f0 := p6_ k
  have f1 := p7_ b
  have f2 := p7_ w0
  have f3 := p7_ (op w0)
  have f4 := p7_ (op b)
  have f5 := p8_ b
  have f6 := p8_ w0
  have f7 := p8_ (op w0)
  clear p6_ p7_ p8_
  clear hop hed cRJ
  grind (splits := 24)

set_option maxHeartbeats 1000000 in
theorem pt_ab_FW {W : Int → Prop} {sd : Int → Int} {op : Int → Int} {ed : Int → Int} {st : Int → Int} {lv : Int → Int} {nm : Int → Int} {tst : Int → Int} {om : Int → Int} {ps : Int → Int} {dl : Int → Int} {en : Int → Int} {fw : Int → Int} {cl : Int → Int} {nL : Int} {kd : Int → Int} {wy : Int → Int} {ll : Int → Int} {wh : Int → Int} {F : Int → Prop} {F2 : Int → Prop} {b k : Int} (hG : pj_G W sd op ed) (p0_ : W b) (p1_ : 0 ≤ k) (p2_ : k < nL) (p3_ : wh k ≠ 2) (p4_ : kd k = 0) (p5_ : wy k = op b) (p6_ : ∀ j, 0 ≤ j → j < k → wy j = wy k → wh j ≠ 0) (p7_ : ∀ v, ¬ F v) (p8_ : ∀ v, F2 v ↔ v = b) (p9_ : om (sd (op b)) = (ed b)) (p10_ : ps (sd (op b)) = 1) (p11_ : dl (sd (op b)) = lv (sd (op b))) (p12_ : ll k = lv (sd (op b))) (p13_ : lv (sd (op b)) < lv (sd b)) (p14_ : lv (sd (op b)) = 0 ∨ nm (sd (op b)) ≠ nm (sd b)) (p15_ : en b ≠ 2) (p16_ : en b ≠ 1) (p17_ : om (sd b) ≠ (ed b)) (p18_ : st (sd b) ≠ 0) (p19_ : st (sd (op b)) = 2) (p20_ : cl (ed b) = 0) (p21_ : 0 ≤ nL) (cFW : pj_FW W sd ed tst en fw) : pj_FW W sd ed tst (pu en b 1) fw := by
  obtain ⟨hop, hed⟩ := hG
  unfold pj_FW at *
  intro w0
  simp only [pu]
  have g0 := hop b
  have g1 := hop w0
  have g2 := hed b w0
  have cFW_0 := cFW b
  have cFW_1 := cFW w0
  have cFW_2 := cFW (op w0)
  have f0 := p6_ k
  have f1 := p7_ b
  have f2 := p7_ w0
  have f3 := p7_ (op w0)
  have f4 := p7_ (op b)
  have f5 := p8_ b
  have f6 := p8_ w0
  have f7 := p8_ (op w0)
  clear p6_ p7_ p8_
  clear hop hed cFW
  grind (splits := 24)

set_option maxHeartbeats 1000000 in
theorem pt_ab_PD {W : Int → Prop} {sd : Int → Int} {op : Int → Int} {ed : Int → Int} {st : Int → Int} {lv : Int → Int} {nm : Int → Int} {om : Int → Int} {ps : Int → Int} {dl : Int → Int} {en : Int → Int} {pd : Int → Int} {cl : Int → Int} {nL : Int} {kd : Int → Int} {wy : Int → Int} {ll : Int → Int} {wh : Int → Int} {F : Int → Prop} {F2 : Int → Prop} {b k : Int} (hG : pj_G W sd op ed) (p0_ : W b) (p1_ : 0 ≤ k) (p2_ : k < nL) (p3_ : wh k ≠ 2) (p4_ : kd k = 0) (p5_ : wy k = op b) (p6_ : ∀ j, 0 ≤ j → j < k → wy j = wy k → wh j ≠ 0) (p7_ : ∀ v, ¬ F v) (p8_ : ∀ v, F2 v ↔ v = b) (p9_ : om (sd (op b)) = (ed b)) (p10_ : ps (sd (op b)) = 1) (p11_ : dl (sd (op b)) = lv (sd (op b))) (p12_ : ll k = lv (sd (op b))) (p13_ : lv (sd (op b)) < lv (sd b)) (p14_ : lv (sd (op b)) = 0 ∨ nm (sd (op b)) ≠ nm (sd b)) (p15_ : en b ≠ 2) (p16_ : en b ≠ 1) (p17_ : om (sd b) ≠ (ed b)) (p18_ : st (sd b) ≠ 0) (p19_ : st (sd (op b)) = 2) (p20_ : cl (ed b) = 0) (p21_ : 0 ≤ nL) (cPD : pj_PD W sd op ed st om en pd) : pj_PD W sd op ed st om (pu en b 1) pd := by
  obtain ⟨hop, hed⟩ := hG
  unfold pj_PD at *
  intro w0
  simp only [pu]
  have g0 := hop b
  have g1 := hop w0
  have g2 := hed b w0
  have cPD_0 := cPD b
  have cPD_1 := cPD w0
  have cPD_2 := cPD (op w0)
  have f0 := p6_ k
  have f1 := p7_ b
  have f2 := p7_ w0
  have f3 := p7_ (op w0)
  have f4 := p7_ (op b)
  have f5 := p8_ b
  have f6 := p8_ w0
  have f7 := p8_ (op w0)
  clear p6_ p7_ p8_
  clear hop hed cPD
  grind (splits := 24)

set_option maxHeartbeats 1000000 in
theorem pt_ab_CC {W : Int → Prop} {sd : Int → Int} {op : Int → Int} {ed : Int → Int} {st : Int → Int} {lv : Int → Int} {nm : Int → Int} {om : Int → Int} {ps : Int → Int} {dl : Int → Int} {en : Int → Int} {cl : Int → Int} {nL : Int} {kd : Int → Int} {wy : Int → Int} {ll : Int → Int} {wh : Int → Int} {F : Int → Prop} {F2 : Int → Prop} {b k : Int} (hG : pj_G W sd op ed) (p0_ : W b) (p1_ : 0 ≤ k) (p2_ : k < nL) (p3_ : wh k ≠ 2) (p4_ : kd k = 0) (p5_ : wy k = op b) (p6_ : ∀ j, 0 ≤ j → j < k → wy j = wy k → wh j ≠ 0) (p7_ : ∀ v, ¬ F v) (p8_ : ∀ v, F2 v ↔ v = b) (p9_ : om (sd (op b)) = (ed b)) (p10_ : ps (sd (op b)) = 1) (p11_ : dl (sd (op b)) = lv (sd (op b))) (p12_ : ll k = lv (sd (op b))) (p13_ : lv (sd (op b)) < lv (sd b)) (p14_ : lv (sd (op b)) = 0 ∨ nm (sd (op b)) ≠ nm (sd b)) (p15_ : en b ≠ 2) (p16_ : en b ≠ 1) (p17_ : om (sd b) ≠ (ed b)) (p18_ : st (sd b) ≠ 0) (p19_ : st (sd (op b)) = 2) (p20_ : cl (ed b) = 0) (p21_ : 0 ≤ nL) (cCC : pj_CC W ed en cl) : pj_CC W ed (pu en b 1) cl := by
  obtain ⟨hop, hed⟩ := hG
  unfold pj_CC at *
  intro w0
  simp only [pu]
  have g0 := hop b
  have g1 := hop w0
  have g2 := hed b w0
  have cCC_0 := cCC b
  have cCC_1 := cCC w0
  have cCC_2 := cCC (op w0)
  have f0 := p6_ k
  have f1 := p7_ b
  have f2 := p7_ w0
  have f3 := p7_ (op w0)
  have f4 := p7_ (op b)
  have f5 := p8_ b
  have f6 := p8_ w0
  have f7 := p8_ (op w0)
  clear p6_ p7_ p8_
  clear hop hed cCC
  grind (splits := 24)

set_option maxHeartbeats 1000000 in
theorem pt_ab_WH {W : Int → Prop} {sd : Int → Int} {op : Int → Int} {ed : Int → Int} {st : Int → Int} {lv : Int → Int} {nm : Int → Int} {om : Int → Int} {ps : Int → Int} {dl : Int → Int} {en : Int → Int} {cl : Int → Int} {nL : Int} {kd : Int → Int} {wy : Int → Int} {ll : Int → Int} {wh : Int → Int} {F : Int → Prop} {F2 : Int → Prop} {b k : Int} (hG : pj_G W sd op ed) (p0_ : W b) (p1_ : 0 ≤ k) (p2_ : k < nL) (p3_ : wh k ≠ 2) (p4_ : kd k = 0) (p5_ : wy k = op b) (p6_ : ∀ j, 0 ≤ j → j < k → wy j = wy k → wh j ≠ 0) (p7_ : ∀ v, ¬ F v) (p8_ : ∀ v, F2 v ↔ v = b) (p9_ : om (sd (op b)) = (ed b)) (p10_ : ps (sd (op b)) = 1) (p11_ : dl (sd (op b)) = lv (sd (op b))) (p12_ : ll k = lv (sd (op b))) (p13_ : lv (sd (op b)) < lv (sd b)) (p14_ : lv (sd (op b)) = 0 ∨ nm (sd (op b)) ≠ nm (sd b)) (p15_ : en b ≠ 2) (p16_ : en b ≠ 1) (p17_ : om (sd b) ≠ (ed b)) (p18_ : st (sd b) ≠ 0) (p19_ : st (sd (op b)) = 2) (p20_ : cl (ed b) = 0) (p21_ : 0 ≤ nL) (cWH : pj_WH nL kd wh) (cR : pj_R W nL kd wy wh) : pj_WH nL kd (pu wh k 2) := by
  obtain ⟨hop, hed⟩ := hG
  unfold pj_WH pj_R at *
  intro k0
  simp only [pu]
  have g0 := hop b
  have g1 := hop (wy k0)
  have g2 := hed b (wy k0)
  have cWH_0 := cWH k
  have cWH_1 := cWH k0
  have cR_0 := cR k0
  have f0 := p6_ k
  have f1 := p6_ k0
  have f2 := p7_ b
  have f3 := p7_ (wy k0)
  have f4 := p7_ (op (wy k0))
  have f5 := p7_ (op b)
  have f6 := p8_ b
  have f7 := p8_ (wy k0)
  have f8 := p8_ (op (wy k0))
  clear p6_ p7_ p8_
  clear hop hed cWH cR
  grind (splits := 24)

set_option maxHeartbeats 1000000 in
theorem pt_ab_FI {W : Int → Prop} {sd : Int → Int} {op : Int → Int} {ed : Int → Int} {st : Int → Int} {lv : Int → Int} {nm : Int → Int} {om : Int → Int} {ps : Int → Int} {dl : Int → Int} {en : Int → Int} {cl : Int → Int} {nL : Int} {kd : Int → Int} {wy : Int → Int} {ll : Int → Int} {wh : Int → Int} {F : Int → Prop} {F2 : Int → Prop} {b k : Int} (hG : pj_G W sd op ed) (p0_ : W b) (p1_ : 0 ≤ k) (p2_ : k < nL) (p3_ : wh k ≠ 2) (p4_ : kd k = 0) (p5_ : wy k = op b) (p6_ : ∀ j, 0 ≤ j → j < k → wy j = wy k → wh j ≠ 0) (p7_ : ∀ v, ¬ F v) (p8_ : ∀ v, F2 v ↔ v = b) (p9_ : om (sd (op b)) = (ed b)) (p10_ : ps (sd (op b)) = 1) (p11_ : dl (sd (op b)) = lv (sd (op b))) (p12_ : ll k = lv (sd (op b))) (p13_ : lv (sd (op b)) < lv (sd b)) (p14_ : lv (sd (op b)) = 0 ∨ nm (sd (op b)) ≠ nm (sd b)) (p15_ : en b ≠ 2) (p16_ : en b ≠ 1) (p17_ : om (sd b) ≠ (ed b)) (p18_ : st (sd b) ≠ 0) (p19_ : st (sd (op b)) = 2) (p20_ : cl (ed b) = 0) (p21_ : 0 ≤ nL) (cFI : pj_FI nL wy wh) (cR : pj_R W nL kd wy wh) : pj_FI nL wy (pu wh k 2) := by
  obtain ⟨hop, hed⟩ := hG
  unfold pj_FI pj_R at *
  intro j0 k0
  simp only [pu]
  have g0 := hop b
  have g1 := hop (wy j0)
  have g2 := hop (wy k0)
  have g3 := hed b (wy j0)
  have g4 := hed b (wy k0)
  have g5 := hed (wy j0) (wy k0)
  have cFI_0 := cFI k k
  have cFI_1 := cFI k j0
  have cFI_2 := cFI k k0
  have cFI_3 := cFI j0 k
  have cFI_4 := cFI j0 j0
  have cFI_5 := cFI j0 k0
  have cFI_6 := cFI k0 k
  have cFI_7 := cFI k0 j0
  have cFI_8 := cFI k0 k0
  have cR_0 := cR j0
  have cR_1 := cR k0
  have f0 := p6_ k
  have f1 := p6_ j0
  have f2 := p6_ k0
  have f3 := p7_ b
  have f4 := p7_ (wy j0)
  have f5 := p7_ (op (wy j0))
  have f6 := p7_ (wy k0)
  have f7 := p7_ (op (wy k0))
  have f8 := p7_ (op b)
  have f9 := p8_ b
  have f10 := p8_ (wy j0)
  have f11 := p8_ (op (wy j0))
  have f12 := p8_ (wy k0)
  have f13 := p8_ (op (wy k0))
  clear p6_ p7_ p8_
  clear hop hed cFI cR
  grind (splits := 24)

set_option maxHeartbeats 1000000 in
theorem pt_ab_L0 {W : Int → Prop} {sd : Int → Int} {op : Int → Int} {ed : Int → Int} {st : Int → Int} {lv : Int → Int} {nm : Int → Int} {om : Int → Int} {ps : Int → Int} {dl : Int → Int} {c0 : Int → Int} {en : Int → Int} {cl : Int → Int} {cw : Int → Int} {nL : Int} {kd : Int → Int} {wy : Int → Int} {ll : Int → Int} {wh : Int → Int} {F : Int → Prop} {F2 : Int → Prop} {b k : Int} (hG : pj_G W sd op ed) (p0_ : W b) (p1_ : 0 ≤ k) (p2_ : k < nL) (p3_ : wh k ≠ 2) (p4_ : kd k = 0) (p5_ : wy k = op b) (p6_ : ∀ j, 0 ≤ j → j < k → wy j = wy k → wh j ≠ 0) (p7_ : ∀ v, ¬ F v) (p8_ : ∀ v, F2 v ↔ v = b) (p9_ : om (sd (op b)) = (ed b)) (p10_ : ps (sd (op b)) = 1) (p11_ : dl (sd (op b)) = lv (sd (op b))) (p12_ : ll k = lv (sd (op b))) (p13_ : lv (sd (op b)) < lv (sd b)) (p14_ : lv (sd (op b)) = 0 ∨ nm (sd (op b)) ≠ nm (sd b)) (p15_ : en b ≠ 2) (p16_ : en b ≠ 1) (p17_ : om (sd b) ≠ (ed b)) (p18_ : st (sd b) ≠ 0) (p19_ : st (sd (op b)) = 2) (p20_ : cl (ed b) = 0) (p21_ : 0 ≤ nL) (cL0 : pj_L0 sd op ed lv nm om ps dl c0 en cw nL kd wy ll wh) (cR : pj_R W nL kd wy wh) : pj_L0 sd op ed lv nm om ps dl c0 (pu en b 1) cw nL kd wy ll (pu wh k 2) := by
  obtain ⟨hop, hed⟩ := hG
  unfold pj_L0 pj_R at *
  intro k0
  simp only [pu]
  have g0 := hop b
  have g1 := hop (wy k0)
  have g2 := hed b (wy k0)
  have cL0_0 := cL0 k
  have cL0_1 := cL0 k0
  have cR_0 := cR k0
  have f0 := p6_ k
  have f1 := p6_ k0
  have f2 := p7_ b
  have f3 := p7_ (wy k0)
  have f4 := p7_ (op (wy k0))
  have f5 := p7_ (op b)
  have f6 := p8_ b
  have f7 := p8_ (wy k0)
  have f8 := p8_ (op (wy k0))
  clear p6_ p7_ p8_
  clear hop hed cL0 cR
  grind (splits := 24)

set_option maxHeartbeats 1000000 in
theorem pt_ab_FC {W : Int → Prop} {sd : Int → Int} {op : Int → Int} {ed : Int → Int} {st : Int → Int} {lv : Int → Int} {nm : Int → Int} {om : Int → Int} {ps : Int → Int} {dl : Int → Int} {en : Int → Int} {cl : Int → Int} {nL : Int} {kd : Int → Int} {wy : Int → Int} {ll : Int → Int} {wh : Int → Int} {F : Int → Prop} {F2 : Int → Prop} {b k : Int} (hG : pj_G W sd op ed) (p0_ : W b) (p1_ : 0 ≤ k) (p2_ : k < nL) (p3_ : wh k ≠ 2) (p4_ : kd k = 0) (p5_ : wy k = op b) (p6_ : ∀ j, 0 ≤ j → j < k → wy j = wy k → wh j ≠ 0) (p7_ : ∀ v, ¬ F v) (p8_ : ∀ v, F2 v ↔ v = b) (p9_ : om (sd (op b)) = (ed b)) (p10_ : ps (sd (op b)) = 1) (p11_ : dl (sd (op b)) = lv (sd (op b))) (p12_ : ll k = lv (sd (op b))) (p13_ : lv (sd (op b)) < lv (sd b)) (p14_ : lv (sd (op b)) = 0 ∨ nm (sd (op b)) ≠ nm (sd b)) (p15_ : en b ≠ 2) (p16_ : en b ≠ 1) (p17_ : om (sd b) ≠ (ed b)) (p18_ : st (sd b) ≠ 0) (p19_ : st (sd (op b)) = 2) (p20_ : cl (ed b) = 0) (p21_ : 0 ≤ nL) (cFC : pj_FC op nL kd wy wh F) (cR : pj_R W nL kd wy wh) (cL0u : pj_L0u nL kd wy wh) : pj_FC op nL kd wy (pu wh k 2) (F2) := by
  obtain ⟨hop, hed⟩ := hG
  unfold pj_FC pj_R pj_L0u at *
  intro k0
  simp only [pu]
  have g0 := hop b
  have g1 := hop (wy k0)
  have g2 := hed b (wy k0)
  have cFC_0 := cFC k
  have cFC_1 := cFC k0
  have cR_0 := cR k0
  have cL0u_0 := cL0u k0 k
  have cL0u_1 := cL0u k k0
  have f0 := p6_ k
  have f1 := p6_ k0
  have f2 := p7_ b
  have f3 := p7_ (wy k0)
  have f4 := p7_ (op (wy k0))
  have f5 := p7_ (op b)
  have f6 := p8_ b
  have f7 := p8_ (wy k0)
  have f8 := p8_ (op (wy k0))
  clear p6_ p7_ p8_
  clear hop hed cFC cR cL0u
  grind (splits := 24)

set_option maxHeartbeats 1000000 in
theorem pt_ab_L0u {W : Int → Prop} {sd : Int → Int} {op : Int → Int} {ed : Int → Int} {st : Int → Int} {lv : Int → Int} {nm : Int → Int} {om : Int → Int} {ps : Int → Int} {dl : Int → Int} {en : Int → Int} {cl : Int → Int} {nL : Int} {kd : Int → Int} {wy : Int → Int} {ll : Int → Int} {wh : Int → Int} {F : Int → Prop} {F2 : Int → Prop} {b k : Int} (hG : pj_G W sd op ed) (p0_ : W b) (p1_ : 0 ≤ k) (p2_ : k < nL) (p3_ : wh k ≠ 2) (p4_ : kd k = 0) (p5_ : wy k = op b) (p6_ : ∀ j, 0 ≤ j → j < k → wy j = wy k → wh j ≠ 0) (p7_ : ∀ v, ¬ F v) (p8_ : ∀ v, F2 v ↔ v = b) (p9_ : om (sd (op b)) = (ed b)) (p10_ : ps (sd (op b)) = 1) (p11_ : dl (sd (op b)) = lv (sd (op b))) (p12_ : ll k = lv (sd (op b))) (p13_ : lv (sd (op b)) < lv (sd b)) (p14_ : lv (sd (op b)) = 0 ∨ nm (sd (op b)) ≠ nm (sd b)) (p15_ : en b ≠ 2) (p16_ : en b ≠ 1) (p17_ : om (sd b) ≠ (ed b)) (p18_ : st (sd b) ≠ 0) (p19_ : st (sd (op b)) = 2) (p20_ : cl (ed b) = 0) (p21_ : 0 ≤ nL) (cL0u : pj_L0u nL kd wy wh) (cR : pj_R W nL kd wy wh) : pj_L0u nL kd wy (pu wh k 2) := by
  obtain ⟨hop, hed⟩ := hG
  unfold pj_L0u pj_R at *
  intro j0 k0
  simp only [pu]
  have g0 := hop b
  have g1 := hop (wy j0)
  have g2 := hop (wy k0)
  have g3 := hed b (wy j0)
  have g4 := hed b (wy k0)
  have g5 := hed (wy j0) (wy k0)
  have cL0u_0 := cL0u k k
  have cL0u_1 := cL0u k j0
  have cL0u_2 := cL0u k k0
  have cL0u_3 := cL0u j0 k
  have cL0u_4 := cL0u j0 j0
  have cL0u_5 := cL0u j0 k0
  have cL0u_6 := cL0u k0 k
  have cL0u_7 := cL0u k0 j0
  have cL0u_8 := cL0u k0 k0
  have cR_0 := cR j0
  have cR_1 := cR k0
  have f0 := p6_ k
  have f1 := p6_ j0
  have f2 := p6_ k0
  have f3 := p7_ b
  have f4 := p7_ (wy j0)
  have f5 := p7_ (op (wy j0))
  have f6 := p7_ (wy k0)
  have f7 := p7_ (op (wy k0))
  have f8 := p7_ (op b)
  have f9 := p8_ b
  have f10 := p8_ (wy j0)
  have f11 := p8_ (op (wy j0))
  have f12 := p8_ (wy k0)
  have f13 := p8_ (op (wy k0))
  clear p6_ p7_ p8_
  clear hop hed cL0u cR
  grind (splits := 24)

set_option maxHeartbeats 1000000 in
theorem pt_ab_OC {W : Int → Prop} {sd : Int → Int} {op : Int → Int} {ed : Int → Int} {st : Int → Int} {lv : Int → Int} {nm : Int → Int} {om : Int → Int} {ps : Int → Int} {dl : Int → Int} {en : Int → Int} {cl : Int → Int} {nL : Int} {kd : Int → Int} {wy : Int → Int} {ll : Int → Int} {wh : Int → Int} {F : Int → Prop} {F2 : Int → Prop} {b k : Int} (hG : pj_G W sd op ed) (p0_ : W b) (p1_ : 0 ≤ k) (p2_ : k < nL) (p3_ : wh k ≠ 2) (p4_ : kd k = 0) (p5_ : wy k = op b) (p6_ : ∀ j, 0 ≤ j → j < k → wy j = wy k → wh j ≠ 0) (p7_ : ∀ v, ¬ F v) (p8_ : ∀ v, F2 v ↔ v = b) (p9_ : om (sd (op b)) = (ed b)) (p10_ : ps (sd (op b)) = 1) (p11_ : dl (sd (op b)) = lv (sd (op b))) (p12_ : ll k = lv (sd (op b))) (p13_ : lv (sd (op b)) < lv (sd b)) (p14_ : lv (sd (op b)) = 0 ∨ nm (sd (op b)) ≠ nm (sd b)) (p15_ : en b ≠ 2) (p16_ : en b ≠ 1) (p17_ : om (sd b) ≠ (ed b)) (p18_ : st (sd b) ≠ 0) (p19_ : st (sd (op b)) = 2) (p20_ : cl (ed b) = 0) (p21_ : 0 ≤ nL) (cOC : pj_OC nL kd wy wh) (cR : pj_R W nL kd wy wh) : pj_OC nL kd wy (pu wh k 2) := by
  obtain ⟨hop, hed⟩ := hG
  unfold pj_OC pj_R at *
  intro j0 k0
  simp only [pu]
  have g0 := hop b
  have g1 := hop (wy j0)
  have g2 := hop (wy k0)
  have g3 := hed b (wy j0)
  have g4 := hed b (wy k0)
  have g5 := hed (wy j0) (wy k0)
  have cOC_0 := cOC k k
  have cOC_1 := cOC k j0
  have cOC_2 := cOC k k0
  have cOC_3 := cOC j0 k
  have cOC_4 := cOC j0 j0
  have cOC_5 := cOC j0 k0
  have cOC_6 := cOC k0 k
  have cOC_7 := cOC k0 j0
  have cOC_8 := cOC k0 k0
  have cR_0 := cR j0
  have cR_1 := cR k0
  have f0 := p6_ k
  have f1 := p6_ j0
  have f2 := p6_ k0
  have f3 := p7_ b
  have f4 := p7_ (wy j0)
  have f5 := p7_ (op (wy j0))
  have f6 := p7_ (wy k0)
  have f7 := p7_ (op (wy k0))
  have f8 := p7_ (op b)
  have f9 := p8_ b
  have f10 := p8_ (wy j0)
  have f11 := p8_ (op (wy j0))
  have f12 := p8_ (wy k0)
  have f13 := p8_ (op (wy k0))
  clear p6_ p7_ p8_
  clear hop hed cOC cR
  grind (splits := 24)

set_option maxHeartbeats 1000000 in
theorem pt_ab_CT {W : Int → Prop} {sd : Int → Int} {op : Int → Int} {ed : Int → Int} {st : Int → Int} {lv : Int → Int} {nm : Int → Int} {om : Int → Int} {ps : Int → Int} {dl : Int → Int} {en : Int → Int} {cl : Int → Int} {nL : Int} {kd : Int → Int} {wy : Int → Int} {ll : Int → Int} {wh : Int → Int} {F : Int → Prop} {F2 : Int → Prop} {b k : Int} (hG : pj_G W sd op ed) (p0_ : W b) (p1_ : 0 ≤ k) (p2_ : k < nL) (p3_ : wh k ≠ 2) (p4_ : kd k = 0) (p5_ : wy k = op b) (p6_ : ∀ j, 0 ≤ j → j < k → wy j = wy k → wh j ≠ 0) (p7_ : ∀ v, ¬ F v) (p8_ : ∀ v, F2 v ↔ v = b) (p9_ : om (sd (op b)) = (ed b)) (p10_ : ps (sd (op b)) = 1) (p11_ : dl (sd (op b)) = lv (sd (op b))) (p12_ : ll k = lv (sd (op b))) (p13_ : lv (sd (op b)) < lv (sd b)) (p14_ : lv (sd (op b)) = 0 ∨ nm (sd (op b)) ≠ nm (sd b)) (p15_ : en b ≠ 2) (p16_ : en b ≠ 1) (p17_ : om (sd b) ≠ (ed b)) (p18_ : st (sd b) ≠ 0) (p19_ : st (sd (op b)) = 2) (p20_ : cl (ed b) = 0) (p21_ : 0 ≤ nL) (cCT : pj_CT nL kd wy wh) (cR : pj_R W nL kd wy wh) : pj_CT nL kd wy (pu wh k 2) := by
  obtain ⟨hop, hed⟩ := hG
  unfold pj_CT pj_R at *
  intro j0 k0
  simp only [pu]
  have g0 := hop b
  have g1 := hop (wy j0)
  have g2 := hop (wy k0)
  have g3 := hed b (wy j0)
  have g4 := hed b (wy k0)
  have g5 := hed (wy j0) (wy k0)
  have cCT_0 := cCT k k
  have cCT_1 := cCT k j0
  have cCT_2 := cCT k k0
  have cCT_3 := cCT j0 k
  have cCT_4 := cCT j0 j0
  have cCT_5 := cCT j0 k0
  have cCT_6 := cCT k0 k
  have cCT_7 := cCT k0 j0
  have cCT_8 := cCT k0 k0
  have cR_0 := cR j0
  have cR_1 := cR k0
  have f0 := p6_ k
  have f1 := p6_ j0
  have f2 := p6_ k0
  have f3 := p7_ b
  have f4 := p7_ (wy j0)
  have f5 := p7_ (op (wy j0))
  have f6 := p7_ (wy k0)
  have f7 := p7_ (op (wy k0))
  have f8 := p7_ (op b)
  have f9 := p8_ b
  have f10 := p8_ (wy j0)
  have f11 := p8_ (op (wy j0))
  have f12 := p8_ (wy k0)
  have f13 := p8_ (op (wy k0))
  clear p6_ p7_ p8_
  clear hop hed cCT cR
  grind (splits := 24)

set_option maxHeartbeats 1000000 in
theorem pt_ab_L1 {W : Int → Prop} {sd : Int → Int} {op : Int → Int} {ed : Int → Int} {st : Int → Int} {lv : Int → Int} {nm : Int → Int} {om : Int → Int} {ps : Int → Int} {dl : Int → Int} {en : Int → Int} {cl : Int → Int} {nL : Int} {kd : Int → Int} {wy : Int → Int} {ll : Int → Int} {td : Int → Int} {ls : Int → Int} {wh : Int → Int} {F : Int → Prop} {F2 : Int → Prop} {b k : Int} (hG : pj_G W sd op ed) (p0_ : W b) (p1_ : 0 ≤ k) (p2_ : k < nL) (p3_ : wh k ≠ 2) (p4_ : kd k = 0) (p5_ : wy k = op b) (p6_ : ∀ j, 0 ≤ j → j < k → wy j = wy k → wh j ≠ 0) (p7_ : ∀ v, ¬ F v) (p8_ : ∀ v, F2 v ↔ v = b) (p9_ : om (sd (op b)) = (ed b)) (p10_ : ps (sd (op b)) = 1) (p11_ : dl (sd (op b)) = lv (sd (op b))) (p12_ : ll k = lv (sd (op b))) (p13_ : lv (sd (op b)) < lv (sd b)) (p14_ : lv (sd (op b)) = 0 ∨ nm (sd (op b)) ≠ nm (sd b)) (p15_ : en b ≠ 2) (p16_ : en b ≠ 1) (p17_ : om (sd b) ≠ (ed b)) (p18_ : st (sd b) ≠ 0) (p19_ : st (sd (op b)) = 2) (p20_ : cl (ed b) = 0) (p21_ : 0 ≤ nL) (cL1 : pj_L1 sd op ed st lv om dl en cl nL kd wy ll td ls wh) (cR : pj_R W nL kd wy wh) : pj_L1 sd op ed st lv om dl (pu en b 1) cl nL kd wy ll td ls (pu wh k 2) := by
  obtain ⟨hop, hed⟩ := hG
  unfold pj_L1 pj_R at *
  intro k0
  simp only [pu]
  have g0 := hop b
  have g1 := hop (wy k0)
  have g2 := hed b (wy k0)
  have cL1_0 := cL1 k
  have cL1_1 := cL1 k0
  have cR_0 := cR k0
  have f0 := p6_ k
  have f1 := p6_ k0
  have f2 := p7_ b
  have f3 := p7_ (wy k0)
  have f4 := p7_ (op (wy k0))
  have f5 := p7_ (op b)
  have f6 := p8_ b
  have f7 := p8_ (wy k0)
  have f8 := p8_ (op (wy k0))
  clear p6_ p7_ p8_
  clear hop hed cL1 cR
  grind (splits := 24)

set_option maxHeartbeats 1000000 in
theorem pt_ab_L1e {W : Int → Prop} {sd : Int → Int} {op : Int → Int} {ed : Int → Int} {st : Int → Int} {lv : Int → Int} {nm : Int → Int} {om : Int → Int} {ps : Int → Int} {dl : Int → Int} {dn : Int → Int} {en : Int → Int} {cl : Int → Int} {nL : Int} {kd : Int → Int} {wy : Int → Int} {ll : Int → Int} {td : Int → Int} {ls : Int → Int} {wh : Int → Int} {F : Int → Prop} {F2 : Int → Prop} {b k : Int} (hG : pj_G W sd op ed) (p0_ : W b) (p1_ : 0 ≤ k) (p2_ : k < nL) (p3_ : wh k ≠ 2) (p4_ : kd k = 0) (p5_ : wy k = op b) (p6_ : ∀ j, 0 ≤ j → j < k → wy j = wy k → wh j ≠ 0) (p7_ : ∀ v, ¬ F v) (p8_ : ∀ v, F2 v ↔ v = b) (p9_ : om (sd (op b)) = (ed b)) (p10_ : ps (sd (op b)) = 1) (p11_ : dl (sd (op b)) = lv (sd (op b))) (p12_ : ll k = lv (sd (op b))) (p13_ : lv (sd (op b)) < lv (sd b)) (p14_ : lv (sd (op b)) = 0 ∨ nm (sd (op b)) ≠ nm (sd b)) (p15_ : en b ≠ 2) (p16_ : en b ≠ 1) (p17_ : om (sd b) ≠ (ed b)) (p18_ : st (sd b) ≠ 0) (p19_ : st (sd (op b)) = 2) (p20_ : cl (ed b) = 0) (p21_ : 0 ≤ nL) (cL1e : pj_L1e sd op dl dn nL kd wy ll td ls wh) (cR : pj_R W nL kd wy wh) : pj_L1e sd op dl dn nL kd wy ll td ls (pu wh k 2) := by
  obtain ⟨hop, hed⟩ := hG
  unfold pj_L1e pj_R at *
  intro k0
  simp only [pu]
  have g0 := hop b
  have g1 := hop (wy k0)
  have g2 := hed b (wy k0)
  have cL1e_0 := cL1e k
  have cL1e_1 := cL1e k0
  have cR_0 := cR k0
  have f0 := p6_ k
  have f1 := p6_ k0
  have f2 := p7_ b
  have f3 := p7_ (wy k0)
  have f4 := p7_ (op (wy k0))
  have f5 := p7_ (op b)
  have f6 := p8_ b
  have f7 := p8_ (wy k0)
  have f8 := p8_ (op (wy k0))
  clear p6_ p7_ p8_
  clear hop hed cL1e cR
  grind (splits := 24)

set_option maxHeartbeats 1000000 in
theorem pt_ab_L1o {W : Int → Prop} {sd : Int → Int} {op : Int → Int} {ed : Int → Int} {st : Int → Int} {lv : Int → Int} {nm : Int → Int} {om : Int → Int} {ps : Int → Int} {dl : Int → Int} {en : Int → Int} {cl : Int → Int} {nL : Int} {kd : Int → Int} {wy : Int → Int} {ll : Int → Int} {wh : Int → Int} {F : Int → Prop} {F2 : Int → Prop} {b k : Int} (hG : pj_G W sd op ed) (p0_ : W b) (p1_ : 0 ≤ k) (p2_ : k < nL) (p3_ : wh k ≠ 2) (p4_ : kd k = 0) (p5_ : wy k = op b) (p6_ : ∀ j, 0 ≤ j → j < k → wy j = wy k → wh j ≠ 0) (p7_ : ∀ v, ¬ F v) (p8_ : ∀ v, F2 v ↔ v = b) (p9_ : om (sd (op b)) = (ed b)) (p10_ : ps (sd (op b)) = 1) (p11_ : dl (sd (op b)) = lv (sd (op b))) (p12_ : ll k = lv (sd (op b))) (p13_ : lv (sd (op b)) < lv (sd b)) (p14_ : lv (sd (op b)) = 0 ∨ nm (sd (op b)) ≠ nm (sd b)) (p15_ : en b ≠ 2) (p16_ : en b ≠ 1) (p17_ : om (sd b) ≠ (ed b)) (p18_ : st (sd b) ≠ 0) (p19_ : st (sd (op b)) = 2) (p20_ : cl (ed b) = 0) (p21_ : 0 ≤ nL) (cL1o : pj_L1o nL kd wy ll wh) (cR : pj_R W nL kd wy wh) : pj_L1o nL kd wy ll (pu wh k 2) := by
  obtain ⟨hop, hed⟩ := hG
  unfold pj_L1o pj_R at *
  intro j0 k0
  simp only [pu]
  have g0 := hop b
  have g1 := hop (wy j0)
  have g2 := hop (wy k0)
  have g3 := hed b (wy j0)
  have g4 := hed b (wy k0)
  have g5 := hed (wy j0) (wy k0)
  have cL1o_0 := cL1o k k
  have cL1o_1 := cL1o k j0
  have cL1o_2 := cL1o k k0
  have cL1o_3 := cL1o j0 k
  have cL1o_4 := cL1o j0 j0
  have cL1o_5 := cL1o j0 k0
  have cL1o_6 := cL1o k0 k
  have cL1o_7 := cL1o k0 j0
  have cL1o_8 := cL1o k0 k0
  have cR_0 := cR j0
  have cR_1 := cR k0
  have f0 := p6_ k
  have f1 := p6_ j0
  have f2 := p6_ k0
  have f3 := p7_ b
  have f4 := p7_ (wy j0)
  have f5 := p7_ (op (wy j0))
  have f6 := p7_ (wy k0)
  have f7 := p7_ (op (wy k0))
  have f8 := p7_ (op b)
  have f9 := p8_ b
  have f10 := p8_ (wy j0)
  have f11 := p8_ (op (wy j0))
  have f12 := p8_ (wy k0)
  have f13 := p8_ (op (wy k0))
  clear p6_ p7_ p8_
  clear hop hed cL1o cR
  grind (splits := 24)

set_option maxHeartbeats 1000000 in
theorem pt_ab_L1b {W : Int → Prop} {sd : Int → Int} {op : Int → Int} {ed : Int → Int} {st : Int → Int} {lv : Int → Int} {nm : Int → Int} {om : Int → Int} {ps : Int → Int} {dl : Int → Int} {en : Int → Int} {pd : Int → Int} {cl : Int → Int} {nL : Int} {kd : Int → Int} {wy : Int → Int} {ll : Int → Int} {td : Int → Int} {ls : Int → Int} {wh : Int → Int} {F : Int → Prop} {F2 : Int → Prop} {b k : Int} (hG : pj_G W sd op ed) (p0_ : W b) (p1_ : 0 ≤ k) (p2_ : k < nL) (p3_ : wh k ≠ 2) (p4_ : kd k = 0) (p5_ : wy k = op b) (p6_ : ∀ j, 0 ≤ j → j < k → wy j = wy k → wh j ≠ 0) (p7_ : ∀ v, ¬ F v) (p8_ : ∀ v, F2 v ↔ v = b) (p9_ : om (sd (op b)) = (ed b)) (p10_ : ps (sd (op b)) = 1) (p11_ : dl (sd (op b)) = lv (sd (op b))) (p12_ : ll k = lv (sd (op b))) (p13_ : lv (sd (op b)) < lv (sd b)) (p14_ : lv (sd (op b)) = 0 ∨ nm (sd (op b)) ≠ nm (sd b)) (p15_ : en b ≠ 2) (p16_ : en b ≠ 1) (p17_ : om (sd b) ≠ (ed b)) (p18_ : st (sd b) ≠ 0) (p19_ : st (sd (op b)) = 2) (p20_ : cl (ed b) = 0) (p21_ : 0 ≤ nL) (cL1b : pj_L1b sd ed st om pd nL kd wy td ls wh) (cR : pj_R W nL kd wy wh) : pj_L1b sd ed st om pd nL kd wy td ls (pu wh k 2) := by
  obtain ⟨hop, hed⟩ := hG
  unfold pj_L1b pj_R at *
  intro k0
  simp only [pu]
  have g0 := hop b
  have g1 := hop (wy k0)
  have g2 := hed b (wy k0)
  have cL1b_0 := cL1b k
  have cL1b_1 := cL1b k0
  have cR_0 := cR k0
  have f0 := p6_ k
  have f1 := p6_ k0
  have f2 := p7_ b
  have f3 := p7_ (wy k0)
  have f4 := p7_ (op (wy k0))
  have f5 := p7_ (op b)
  have f6 := p8_ b
  have f7 := p8_ (wy k0)
  have f8 := p8_ (op (wy k0))
  clear p6_ p7_ p8_
  clear hop hed cL1b cR
  grind (splits := 24)

set_option maxHeartbeats 1000000 in
theorem pt_ab_L1g {W : Int → Prop} {sd : Int → Int} {op : Int → Int} {ed : Int → Int} {st : Int → Int} {lv : Int → Int} {nm : Int → Int} {om : Int → Int} {ps : Int → Int} {dl : Int → Int} {en : Int → Int} {cl : Int → Int} {nL : Int} {kd : Int → Int} {wy : Int → Int} {ll : Int → Int} {td : Int → Int} {ls : Int → Int} {wh : Int → Int} {F : Int → Prop} {F2 : Int → Prop} {b k : Int} (hG : pj_G W sd op ed) (p0_ : W b) (p1_ : 0 ≤ k) (p2_ : k < nL) (p3_ : wh k ≠ 2) (p4_ : kd k = 0) (p5_ : wy k = op b) (p6_ : ∀ j, 0 ≤ j → j < k → wy j = wy k → wh j ≠ 0) (p7_ : ∀ v, ¬ F v) (p8_ : ∀ v, F2 v ↔ v = b) (p9_ : om (sd (op b)) = (ed b)) (p10_ : ps (sd (op b)) = 1) (p11_ : dl (sd (op b)) = lv (sd (op b))) (p12_ : ll k = lv (sd (op b))) (p13_ : lv (sd (op b)) < lv (sd b)) (p14_ : lv (sd (op b)) = 0 ∨ nm (sd (op b)) ≠ nm (sd b)) (p15_ : en b ≠ 2) (p16_ : en b ≠ 1) (p17_ : om (sd b) ≠ (ed b)) (p18_ : st (sd b) ≠ 0) (p19_ : st (sd (op b)) = 2) (p20_ : cl (ed b) = 0) (p21_ : 0 ≤ nL) (cL1g : pj_L1g W sd op ed nL kd wy td ls wh) (cR : pj_R W nL kd wy wh) : pj_L1g W sd op ed nL kd wy td ls (pu wh k 2) := by
  obtain ⟨hop, hed⟩ := hG
  unfold pj_L1g pj_R at *
  intro k0 v0
  simp only [pu]
  have g0 := hop b
  have g1 := hop (wy k0)
  have g2 := hop v0
  have g3 := hed b (wy k0)
  have g4 := hed b v0
  have g5 := hed (wy k0) v0
  have cL1g_0 := cL1g k b
  have cL1g_1 := cL1g k (wy k0)
  have cL1g_2 := cL1g k (op (wy k0))
  have cL1g_3 := cL1g k v0
  have cL1g_4 := cL1g k (op v0)
  have cL1g_5 := cL1g k0 b
  have cL1g_6 := cL1g k0 (wy k0)
  have cL1g_7 := cL1g k0 (op (wy k0))
  have cL1g_8 := cL1g k0 v0
  have cL1g_9 := cL1g k0 (op v0)
  have cR_0 := cR k0
  have f0 := p6_ k
  have f1 := p6_ k0
  have f2 := p7_ b
  have f3 := p7_ (wy k0)
  have f4 := p7_ (op (wy k0))
  have f5 := p7_ v0
  have f6 := p7_ (op v0)
  have f7 := p7_ (op b)
  have f8 := p8_ b
  have f9 := p8_ (wy k0)
  have f10 := p8_ (op (wy k0))
  have f11 := p8_ v0
  have f12 := p8_ (op v0)
  clear p6_ p7_ p8_
  clear hop hed cL1g cR
  grind (splits := 24)

set_option maxHeartbeats 1000000 in
theorem pt_ab_L2 {W : Int → Prop} {sd : Int → Int} {op : Int → Int} {ed : Int → Int} {st : Int → Int} {lv : Int → Int} {nm : Int → Int} {tst : Int → Int} {om : Int → Int} {ps : Int → Int} {dl : Int → Int} {en : Int → Int} {fw : Int → Int} {cl : Int → Int} {nL : Int} {kd : Int → Int} {wy : Int → Int} {ll : Int → Int} {td : Int → Int} {wh : Int → Int} {F : Int → Prop} {F2 : Int → Prop} {b k : Int} (hG : pj_G W sd op ed) (p0_ : W b) (p1_ : 0 ≤ k) (p2_ : k < nL) (p3_ : wh k ≠ 2) (p4_ : kd k = 0) (p5_ : wy k = op b) (p6_ : ∀ j, 0 ≤ j → j < k → wy j = wy k → wh j ≠ 0) (p7_ : ∀ v, ¬ F v) (p8_ : ∀ v, F2 v ↔ v = b) (p9_ : om (sd (op b)) = (ed b)) (p10_ : ps (sd (op b)) = 1) (p11_ : dl (sd (op b)) = lv (sd (op b))) (p12_ : ll k = lv (sd (op b))) (p13_ : lv (sd (op b)) < lv (sd b)) (p14_ : lv (sd (op b)) = 0 ∨ nm (sd (op b)) ≠ nm (sd b)) (p15_ : en b ≠ 2) (p16_ : en b ≠ 1) (p17_ : om (sd b) ≠ (ed b)) (p18_ : st (sd b) ≠ 0) (p19_ : st (sd (op b)) = 2) (p20_ : cl (ed b) = 0) (p21_ : 0 ≤ nL) (cL2 : pj_L2 sd op ed st lv nm tst en fw nL kd wy ll td wh) (cR : pj_R W nL kd wy wh) : pj_L2 sd op ed st lv nm tst (pu en b 1) fw nL kd wy ll td (pu wh k 2) := by
  obtain ⟨hop, hed⟩ := hG
  unfold pj_L2 pj_R at *
  intro k0
  simp only [pu]
  have g0 := hop b
  have g1 := hop (wy k0)
  have g2 := hed b (wy k0)
  have cL2_0 := cL2 k
  have cL2_1 := cL2 k0
  have cR_0 := cR k0
  have f0 := p6_ k
  have f1 := p6_ k0
  have f2 := p7_ b
  have f3 := p7_ (wy k0)
  have f4 := p7_ (op (wy k0))
  have f5 := p7_ (op b)
  have f6 := p8_ b
  have f7 := p8_ (wy k0)
  have f8 := p8_ (op (wy k0))
  clear p6_ p7_ p8_
  clear hop hed cL2 cR
  grind (splits := 24)

set_option maxHeartbeats 1000000 in
theorem pt_ab_L3 {W : Int → Prop} {sd : Int → Int} {op : Int → Int} {ed : Int → Int} {st : Int → Int} {lv : Int → Int} {nm : Int → Int} {tst : Int → Int} {om : Int → Int} {ps : Int → Int} {dl : Int → Int} {en : Int → Int} {fw : Int → Int} {cl : Int → Int} {nL : Int} {kd : Int → Int} {wy : Int → Int} {ll : Int → Int} {wh : Int → Int} {F : Int → Prop} {F2 : Int → Prop} {b k : Int} (hG : pj_G W sd op ed) (p0_ : W b) (p1_ : 0 ≤ k) (p2_ : k < nL) (p3_ : wh k ≠ 2) (p4_ : kd k = 0) (p5_ : wy k = op b) (p6_ : ∀ j, 0 ≤ j → j < k → wy j = wy k → wh j ≠ 0) (p7_ : ∀ v, ¬ F v) (p8_ : ∀ v, F2 v ↔ v = b) (p9_ : om (sd (op b)) = (ed b)) (p10_ : ps (sd (op b)) = 1) (p11_ : dl (sd (op b)) = lv (sd (op b))) (p12_ : ll k = lv (sd (op b))) (p13_ : lv (sd (op b)) < lv (sd b)) (p14_ : lv (sd (op b)) = 0 ∨ nm (sd (op b)) ≠ nm (sd b)) (p15_ : en b ≠ 2) (p16_ : en b ≠ 1) (p17_ : om (sd b) ≠ (ed b)) (p18_ : st (sd b) ≠ 0) (p19_ : st (sd (op b)) = 2) (p20_ : cl (ed b) = 0) (p21_ : 0 ≤ nL) (cL3 : pj_L3 sd op ed st lv nm tst en fw nL kd wy wh) (cR : pj_R W nL kd wy wh) : pj_L3 sd op ed st lv nm tst (pu en b 1) fw nL kd wy (pu wh k 2) := by
  obtain ⟨hop, hed⟩ := hG
  unfold pj_L3 pj_R at *
  intro k0
  simp only [pu]
  have g0 := hop b
  have g1 := hop (wy k0)
  have g2 := hed b (wy k0)
  have cL3_0 := cL3 k
  have cL3_1 := cL3 k0
  have cR_0 := cR k0
  have f0 := p6_ k
  have f1 := p6_ k0
  have f2 := p7_ b
  have f3 := p7_ (wy k0)
  have f4 := p7_ (op (wy k0))
  have f5 := p7_ (op b)
  have f6 := p8_ b
  have f7 := p8_ (wy k0)
  have f8 := p8_ (op (wy k0))
  clear p6_ p7_ p8_
  clear hop hed cL3 cR
  grind (splits := 24)

set_option maxHeartbeats 1000000 in
theorem pt_ab_L4 {W : Int → Prop} {sd : Int → Int} {op : Int → Int} {ed : Int → Int} {st : Int → Int} {lv : Int → Int} {nm : Int → Int} {tst : Int → Int} {om : Int → Int} {ps : Int → Int} {dl : Int → Int} {en : Int → Int} {cl : Int → Int} {nL : Int} {kd : Int → Int} {wy : Int → Int} {ll : Int → Int} {wh : Int → Int} {F : Int → Prop} {F2 : Int → Prop} {b k : Int} (hG : pj_G W sd op ed) (p0_ : W b) (p1_ : 0 ≤ k) (p2_ : k < nL) (p3_ : wh k ≠ 2) (p4_ : kd k = 0) (p5_ : wy k = op b) (p6_ : ∀ j, 0 ≤ j → j < k → wy j = wy k → wh j ≠ 0) (p7_ : ∀ v, ¬ F v) (p8_ : ∀ v, F2 v ↔ v = b) (p9_ : om (sd (op b)) = (ed b)) (p10_ : ps (sd (op b)) = 1) (p11_ : dl (sd (op b)) = lv (sd (op b))) (p12_ : ll k = lv (sd (op b))) (p13_ : lv (sd (op b)) < lv (sd b)) (p14_ : lv (sd (op b)) = 0 ∨ nm (sd (op b)) ≠ nm (sd b)) (p15_ : en b ≠ 2) (p16_ : en b ≠ 1) (p17_ : om (sd b) ≠ (ed b)) (p18_ : st (sd b) ≠ 0) (p19_ : st (sd (op b)) = 2) (p20_ : cl (ed b) = 0) (p21_ : 0 ≤ nL) (cL4 : pj_L4 sd op ed st tst en nL kd wy wh) (cR : pj_R W nL kd wy wh) : pj_L4 sd op ed st tst (pu en b 1) nL kd wy (pu wh k 2) := by
  obtain ⟨hop, hed⟩ := hG
  unfold pj_L4 pj_R at *
  intro k0
  simp only [pu]
  have g0 := hop b
  have g1 := hop (wy k0)
  have g2 := hed b (wy k0)
  have cL4_0 := cL4 k
  have cL4_1 := cL4 k0
  have cR_0 := cR k0
  have f0 := p6_ k
  have f1 := p6_ k0
  have f2 := p7_ b
  have f3 := p7_ (wy k0)
  have f4 := p7_ (op (wy k0))
  have f5 := p7_ (op b)
  have f6 := p8_ b
  have f7 := p8_ (wy k0)
  have f8 := p8_ (op (wy k0))
  clear p6_ p7_ p8_
  clear hop hed cL4 cR
  grind (splits := 24)

set_option maxHeartbeats 1000000 in
theorem pt_ab_AF {W : Int → Prop} {sd : Int → Int} {op : Int → Int} {ed : Int → Int} {st : Int → Int} {lv : Int → Int} {nm : Int → Int} {tst : Int → Int} {om : Int → Int} {ps : Int → Int} {dl : Int → Int} {af : Int → Int} {en : Int → Int} {cl : Int → Int} {nL : Int} {kd : Int → Int} {wy : Int → Int} {ll : Int → Int} {wh : Int → Int} {F : Int → Prop} {F2 : Int → Prop} {b k : Int} (hG : pj_G W sd op ed) (p0_ : W b) (p1_ : 0 ≤ k) (p2_ : k < nL) (p3_ : wh k ≠ 2) (p4_ : kd k = 0) (p5_ : wy k = op b) (p6_ : ∀ j, 0 ≤ j → j < k → wy j = wy k → wh j ≠ 0) (p7_ : ∀ v, ¬ F v) (p8_ : ∀ v, F2 v ↔ v = b) (p9_ : om (sd (op b)) = (ed b)) (p10_ : ps (sd (op b)) = 1) (p11_ : dl (sd (op b)) = lv (sd (op b))) (p12_ : ll k = lv (sd (op b))) (p13_ : lv (sd (op b)) < lv (sd b)) (p14_ : lv (sd (op b)) = 0 ∨ nm (sd (op b)) ≠ nm (sd b)) (p15_ : en b ≠ 2) (p16_ : en b ≠ 1) (p17_ : om (sd b) ≠ (ed b)) (p18_ : st (sd b) ≠ 0) (p19_ : st (sd (op b)) = 2) (p20_ : cl (ed b) = 0) (p21_ : 0 ≤ nL) (cAF : pj_AF W sd op ed tst af nL kd wy wh) : pj_AF W sd op ed tst af nL kd wy (pu wh k 2) := by
  obtain ⟨hop, hed⟩ := hG
  unfold pj_AF at *
  intro v0
  simp only [pu]
  have g0 := hop b
  have g1 := hop v0
  have g2 := hed b v0
  have cAF_0 := cAF b
  have cAF_1 := cAF v0
  have cAF_2 := cAF (op v0)
  have f0 := p6_ k
  have f1 := p7_ b
  have f2 := p7_ v0
  have f3 := p7_ (op v0)
  have f4 := p7_ (op b)
  have f5 := p8_ b
  have f6 := p8_ v0
  have f7 := p8_ (op v0)
  clear p6_ p7_ p8_
  clear hop hed cAF
  grind (splits := 24)

set_option maxHeartbeats 1000000 in
theorem pt_ab_RT {W : Int → Prop} {sd : Int → Int} {op : Int → Int} {ed : Int → Int} {st : Int → Int} {lv : Int → Int} {nm : Int → Int} {tst : Int → Int} {om : Int → Int} {ps : Int → Int} {dl : Int → Int} {en : Int → Int} {cl : Int → Int} {nL : Int} {kd : Int → Int} {wy : Int → Int} {ll : Int → Int} {wh : Int → Int} {F : Int → Prop} {F2 : Int → Prop} {b k : Int} (hG : pj_G W sd op ed) (p0_ : W b) (p1_ : 0 ≤ k) (p2_ : k < nL) (p3_ : wh k ≠ 2) (p4_ : kd k = 0) (p5_ : wy k = op b) (p6_ : ∀ j, 0 ≤ j → j < k → wy j = wy k → wh j ≠ 0) (p7_ : ∀ v, ¬ F v) (p8_ : ∀ v, F2 v ↔ v = b) (p9_ : om (sd (op b)) = (ed b)) (p10_ : ps (sd (op b)) = 1) (p11_ : dl (sd (op b)) = lv (sd (op b))) (p12_ : ll k = lv (sd (op b))) (p13_ : lv (sd (op b)) < lv (sd b)) (p14_ : lv (sd (op b)) = 0 ∨ nm (sd (op b)) ≠ nm (sd b)) (p15_ : en b ≠ 2) (p16_ : en b ≠ 1) (p17_ : om (sd b) ≠ (ed b)) (p18_ : st (sd b) ≠ 0) (p19_ : st (sd (op b)) = 2) (p20_ : cl (ed b) = 0) (p21_ : 0 ≤ nL) (cRT : pj_RT sd ed tst nL kd wy wh) (cR : pj_R W nL kd wy wh) : pj_RT sd ed tst nL kd wy (pu wh k 2) := by
  obtain ⟨hop, hed⟩ := hG
  unfold pj_RT pj_R at *
  intro j0 k0
  simp only [pu]
  have g0 := hop b
  have g1 := hop (wy j0)
  have g2 := hop (wy k0)
  have g3 := hed b (wy j0)
  have g4 := hed b (wy k0)
  have g5 := hed (wy j0) (wy k0)
  have cRT_0 := cRT k k
  have cRT_1 := cRT k j0
  have cRT_2 := cRT k k0
  have cRT_3 := cRT j0 k
  have cRT_4 := cRT j0 j0
  have cRT_5 := cRT j0 k0
  have cRT_6 := cRT k0 k
  have cRT_7 := cRT k0 j0
  have cRT_8 := cRT k0 k0
  have cR_0 := cR j0
  have cR_1 := cR k0
  have f0 := p6_ k
  have f1 := p6_ j0
  have f2 := p6_ k0
  have f3 := p7_ b
  have f4 := p7_ (wy j0)
  have f5 := p7_ (op (wy j0))
  have f6 := p7_ (wy k0)
  have f7 := p7_ (op (wy k0))
  have f8 := p7_ (op b)
  have f9 := p8_ b
  have f10 := p8_ (wy j0)
  have f11 := p8_ (op (wy j0))
  have f12 := p8_ (wy k0)
  have f13 := p8_ (op (wy k0))
  clear p6_ p7_ p8_
  clear hop hed cRT cR
  grind (splits := 24)

set_option maxHeartbeats 1000000 in
theorem pt_ab_CV {W : Int → Prop} {sd : Int → Int} {op : Int → Int} {ed : Int → Int} {st : Int → Int} {lv : Int → Int} {nm : Int → Int} {tst : Int → Int} {om : Int → Int} {ps : Int → Int} {dl : Int → Int} {en : Int → Int} {cl : Int → Int} {nL : Int} {kd : Int → Int} {wy : Int → Int} {ll : Int → Int} {wh : Int → Int} {F : Int → Prop} {F2 : Int → Prop} {b k : Int} (hG : pj_G W sd op ed) (p0_ : W b) (p1_ : 0 ≤ k) (p2_ : k < nL) (p3_ : wh k ≠ 2) (p4_ : kd k = 0) (p5_ : wy k = op b) (p6_ : ∀ j, 0 ≤ j → j < k → wy j = wy k → wh j ≠ 0) (p7_ : ∀ v, ¬ F v) (p8_ : ∀ v, F2 v ↔ v = b) (p9_ : om (sd (op b)) = (ed b)) (p10_ : ps (sd (op b)) = 1) (p11_ : dl (sd (op b)) = lv (sd (op b))) (p12_ : ll k = lv (sd (op b))) (p13_ : lv (sd (op b)) < lv (sd b)) (p14_ : lv (sd (op b)) = 0 ∨ nm (sd (op b)) ≠ nm (sd b)) (p15_ : en b ≠ 2) (p16_ : en b ≠ 1) (p17_ : om (sd b) ≠ (ed b)) (p18_ : st (sd b) ≠ 0) (p19_ : st (sd (op b)) = 2) (p20_ : cl (ed b) = 0) (p21_ : 0 ≤ nL) (cCV : pj_CV W sd op ed tst nL kd wy wh) (cR : pj_R W nL kd wy wh) : pj_CV W sd op ed tst nL kd wy (pu wh k 2) := by
  obtain ⟨hop, hed⟩ := hG
  unfold pj_CV pj_R at *
  intro v0 j0 k0
  simp only [pu]
  have g0 := hop b
  have g1 := hop v0
  have g2 := hop (wy j0)
  have g3 := hop (wy k0)
  have g4 := hed b v0
  have g5 := hed b (wy j0)
  have g6 := hed b (wy k0)
  have g7 := hed v0 (wy j0)
  have g8 := hed v0 (wy k0)
  have g9 := hed (wy j0) (wy k0)
  have cCV_0 := cCV v0 j0 k0
  have cR_0 := cR j0
  have cR_1 := cR k0
  have f0 := p6_ k
  have f1 := p6_ j0
  have f2 := p6_ k0
  have f3 := p7_ b
  have f4 := p7_ v0
  have f5 := p7_ (op v0)
  have f6 := p7_ (wy j0)
  have f7 := p7_ (op (wy j0))
  have f8 := p7_ (wy k0)
  have f9 := p7_ (op (wy k0))
  have f10 := p7_ (op b)
  have f11 := p8_ b
  have f12 := p8_ v0
  have f13 := p8_ (op v0)
  have f14 := p8_ (wy j0)
  have f15 := p8_ (op (wy j0))
  have f16 := p8_ (wy k0)
  have f17 := p8_ (op (wy k0))
  clear p6_ p7_ p8_
  clear hop hed cCV cR
  grind (splits := 24)

set_option maxHeartbeats 1000000 in
theorem pt_ab_L5 {W : Int → Prop} {sd : Int → Int} {op : Int → Int} {ed : Int → Int} {st : Int → Int} {lv : Int → Int} {nm : Int → Int} {inw : Int → Int} {bst : Int → Int} {om : Int → Int} {ps : Int → Int} {dl : Int → Int} {en : Int → Int} {pd : Int → Int} {rp : Int → Int} {rv : Int → Int} {cl : Int → Int} {tk : Int → Int} {nL : Int} {kd : Int → Int} {wy : Int → Int} {ll : Int → Int} {td : Int → Int} {wh : Int → Int} {F : Int → Prop} {F2 : Int → Prop} {b k : Int} (hG : pj_G W sd op ed) (p0_ : W b) (p1_ : 0 ≤ k) (p2_ : k < nL) (p3_ : wh k ≠ 2) (p4_ : kd k = 0) (p5_ : wy k = op b) (p6_ : ∀ j, 0 ≤ j → j < k → wy j = wy k → wh j ≠ 0) (p7_ : ∀ v, ¬ F v) (p8_ : ∀ v, F2 v ↔ v = b) (p9_ : om (sd (op b)) = (ed b)) (p10_ : ps (sd (op b)) = 1) (p11_ : dl (sd (op b)) = lv (sd (op b))) (p12_ : ll k = lv (sd (op b))) (p13_ : lv (sd (op b)) < lv (sd b)) (p14_ : lv (sd (op b)) = 0 ∨ nm (sd (op b)) ≠ nm (sd b)) (p15_ : en b ≠ 2) (p16_ : en b ≠ 1) (p17_ : om (sd b) ≠ (ed b)) (p18_ : st (sd b) ≠ 0) (p19_ : st (sd (op b)) = 2) (p20_ : cl (ed b) = 0) (p21_ : 0 ≤ nL) (cL5 : pj_L5 sd op ed st lv nm inw bst om ps dl pd rp rv cl tk nL kd wy td wh) (cR : pj_R W nL kd wy wh) : pj_L5 sd op ed st lv nm inw bst om ps dl pd rp rv cl tk nL kd wy td (pu wh k 2) := by
  obtain ⟨hop, hed⟩ := hG
  unfold pj_L5 pj_R at *
  intro k0
  simp only [pu]
  have g0 := hop b
  have g1 := hop (wy k0)
  have g2 := hed b (wy k0)
  have cL5_0 := cL5 k
  have cL5_1 := cL5 k0
  have cR_0 := cR k0
  have f0 := p6_ k
  have f1 := p6_ k0
  have f2 := p7_ b
  have f3 := p7_ (wy k0)
  have f4 := p7_ (op (wy k0))
  have f5 := p7_ (op b)
  have f6 := p8_ b
  have f7 := p8_ (wy k0)
  have f8 := p8_ (op (wy k0))
  clear p6_ p7_ p8_
  clear hop hed cL5 cR
  grind (splits := 24)

set_option maxHeartbeats 1000000 in
theorem pt_ab_L5o {W : Int → Prop} {sd : Int → Int} {op : Int → Int} {ed : Int → Int} {st : Int → Int} {lv : Int → Int} {nm : Int → Int} {om : Int → Int} {ps : Int → Int} {dl : Int → Int} {en : Int → Int} {cl : Int → Int} {nL : Int} {kd : Int → Int} {wy : Int → Int} {ll : Int → Int} {wh : Int → Int} {F : Int → Prop} {F2 : Int → Prop} {b k : Int} (hG : pj_G W sd op ed) (p0_ : W b) (p1_ : 0 ≤ k) (p2_ : k < nL) (p3_ : wh k ≠ 2) (p4_ : kd k = 0) (p5_ : wy k = op b) (p6_ : ∀ j, 0 ≤ j → j < k → wy j = wy k → wh j ≠ 0) (p7_ : ∀ v, ¬ F v) (p8_ : ∀ v, F2 v ↔ v = b) (p9_ : om (sd (op b)) = (ed b)) (p10_ : ps (sd (op b)) = 1) (p11_ : dl (sd (op b)) = lv (sd (op b))) (p12_ : ll k = lv (sd (op b))) (p13_ : lv (sd (op b)) < lv (sd b)) (p14_ : lv (sd (op b)) = 0 ∨ nm (sd (op b)) ≠ nm (sd b)) (p15_ : en b ≠ 2) (p16_ : en b ≠ 1) (p17_ : om (sd b) ≠ (ed b)) (p18_ : st (sd b) ≠ 0) (p19_ : st (sd (op b)) = 2) (p20_ : cl (ed b) = 0) (p21_ : 0 ≤ nL) (cL5o : pj_L5o sd op ed lv cl nL kd wy wh) (cR : pj_R W nL kd wy wh) : pj_L5o sd op ed lv cl nL kd wy (pu wh k 2) := by
  obtain ⟨hop, hed⟩ := hG
  unfold pj_L5o pj_R at *
  intro j0 k0
  simp only [pu]
  have g0 := hop b
  have g1 := hop (wy j0)
  have g2 := hop (wy k0)
  have g3 := hed b (wy j0)
  have g4 := hed b (wy k0)
  have g5 := hed (wy j0) (wy k0)
  have cL5o_0 := cL5o k k
  have cL5o_1 := cL5o k j0
  have cL5o_2 := cL5o k k0
  have cL5o_3 := cL5o j0 k
  have cL5o_4 := cL5o j0 j0
  have cL5o_5 := cL5o j0 k0
  have cL5o_6 := cL5o k0 k
  have cL5o_7 := cL5o k0 j0
  have cL5o_8 := cL5o k0 k0
  have cR_0 := cR j0
  have cR_1 := cR k0
  have f0 := p6_ k
  have f1 := p6_ j0
  have f2 := p6_ k0
  have f3 := p7_ b
  have f4 := p7_ (wy j0)
  have f5 := p7_ (op (wy j0))
  have f6 := p7_ (wy k0)
  have f7 := p7_ (op (wy k0))
  have f8 := p7_ (op b)
  have f9 := p8_ b
  have f10 := p8_ (wy j0)
  have f11 := p8_ (op (wy j0))
  have f12 := p8_ (wy k0)
  have f13 := p8_ (op (wy k0))
  clear p6_ p7_ p8_
  clear hop hed cL5o cR
  grind (splits := 24)

set_option maxHeartbeats 1000000 in
theorem pt_ab_L5u {W : Int → Prop} {sd : Int → Int} {op : Int → Int} {ed : Int → Int} {st : Int → Int} {lv : Int → Int} {nm : Int → Int} {om : Int → Int} {ps : Int → Int} {dl : Int → Int} {en : Int → Int} {cl : Int → Int} {nL : Int} {kd : Int → Int} {wy : Int → Int} {ll : Int → Int} {wh : Int → Int} {F : Int → Prop} {F2 : Int → Prop} {b k : Int} (hG : pj_G W sd op ed) (p0_ : W b) (p1_ : 0 ≤ k) (p2_ : k < nL) (p3_ : wh k ≠ 2) (p4_ : kd k = 0) (p5_ : wy k = op b) (p6_ : ∀ j, 0 ≤ j → j < k → wy j = wy k → wh j ≠ 0) (p7_ : ∀ v, ¬ F v) (p8_ : ∀ v, F2 v ↔ v = b) (p9_ : om (sd (op b)) = (ed b)) (p10_ : ps (sd (op b)) = 1) (p11_ : dl (sd (op b)) = lv (sd (op b))) (p12_ : ll k = lv (sd (op b))) (p13_ : lv (sd (op b)) < lv (sd b)) (p14_ : lv (sd (op b)) = 0 ∨ nm (sd (op b)) ≠ nm (sd b)) (p15_ : en b ≠ 2) (p16_ : en b ≠ 1) (p17_ : om (sd b) ≠ (ed b)) (p18_ : st (sd b) ≠ 0) (p19_ : st (sd (op b)) = 2) (p20_ : cl (ed b) = 0) (p21_ : 0 ≤ nL) (cL5u : pj_L5u nL kd wy wh) (cR : pj_R W nL kd wy wh) : pj_L5u nL kd wy (pu wh k 2) := by
  obtain ⟨hop, hed⟩ := hG
  unfold pj_L5u pj_R at *
  intro j0 k0
  simp only [pu]
  have g0 := hop b
  have g1 := hop (wy j0)
  have g2 := hop (wy k0)
  have g3 := hed b (wy j0)
  have g4 := hed b (wy k0)
  have g5 := hed (wy j0) (wy k0)
  have cL5u_0 := cL5u k k
  have cL5u_1 := cL5u k j0
  have cL5u_2 := cL5u k k0
  have cL5u_3 := cL5u j0 k
  have cL5u_4 := cL5u j0 j0
  have cL5u_5 := cL5u j0 k0
  have cL5u_6 := cL5u k0 k
  have cL5u_7 := cL5u k0 j0
  have cL5u_8 := cL5u k0 k0
  have cR_0 := cR j0
  have cR_1 := cR k0
  have f0 := p6_ k
  have f1 := p6_ j0
  have f2 := p6_ k0
  have f3 := p7_ b
  have f4 := p7_ (wy j0)
  have f5 := p7_ (op (wy j0))
  have f6 := p7_ (wy k0)
  have f7 := p7_ (op (wy k0))
  have f8 := p7_ (op b)
  have f9 := p8_ b
  have f10 := p8_ (wy j0)
  have f11 := p8_ (op (wy j0))
  have f12 := p8_ (wy k0)
  have f13 := p8_ (op (wy k0))
  clear p6_ p7_ p8_
  clear hop hed cL5u cR
  grind (splits := 24)

set_option maxHeartbeats 1000000 in
theorem pt_ab_L6 {W : Int → Prop} {sd : Int → Int} {op : Int → Int} {ed : Int → Int} {st : Int → Int} {lv : Int → Int} {nm : Int → Int} {tow : Int → Int} {om : Int → Int} {ps : Int → Int} {dl : Int → Int} {en : Int → Int} {cl : Int → Int} {cw : Int → Int} {tk : Int → Int} {nL : Int} {kd : Int → Int} {wy : Int → Int} {ll : Int → Int} {wh : Int → Int} {F : Int → Prop} {F2 : Int → Prop} {b k : Int} (hG : pj_G W sd op ed) (p0_ : W b) (p1_ : 0 ≤ k) (p2_ : k < nL) (p3_ : wh k ≠ 2) (p4_ : kd k = 0) (p5_ : wy k = op b) (p6_ : ∀ j, 0 ≤ j → j < k → wy j = wy k → wh j ≠ 0) (p7_ : ∀ v, ¬ F v) (p8_ : ∀ v, F2 v ↔ v = b) (p9_ : om (sd (op b)) = (ed b)) (p10_ : ps (sd (op b)) = 1) (p11_ : dl (sd (op b)) = lv (sd (op b))) (p12_ : ll k = lv (sd (op b))) (p13_ : lv (sd (op b)) < lv (sd b)) (p14_ : lv (sd (op b)) = 0 ∨ nm (sd (op b)) ≠ nm (sd b)) (p15_ : en b ≠ 2) (p16_ : en b ≠ 1) (p17_ : om (sd b) ≠ (ed b)) (p18_ : st (sd b) ≠ 0) (p19_ : st (sd (op b)) = 2) (p20_ : cl (ed b) = 0) (p21_ : 0 ≤ nL) (cL6 : pj_L6 sd op ed st lv nm tow om ps dl cw tk nL kd wy wh) (cR : pj_R W nL kd wy wh) : pj_L6 sd op ed st lv nm tow om ps dl cw tk nL kd wy (pu wh k 2) := by
  obtain ⟨hop, hed⟩ := hG
  unfold pj_L6 pj_R at *
  intro k0
  simp only [pu]
  have g0 := hop b
  have g1 := hop (wy k0)
  have g2 := hed b (wy k0)
  have cL6_0 := cL6 k
  have cL6_1 := cL6 k0
  have cR_0 := cR k0
  have f0 := p6_ k
  have f1 := p6_ k0
  have f2 := p7_ b
  have f3 := p7_ (wy k0)
  have f4 := p7_ (op (wy k0))
  have f5 := p7_ (op b)
  have f6 := p8_ b
  have f7 := p8_ (wy k0)
  have f8 := p8_ (op (wy k0))
  clear p6_ p7_ p8_
  clear hop hed cL6 cR
  grind (splits := 24)

set_option maxHeartbeats 1000000 in
theorem pt_ab_L6u {W : Int → Prop} {sd : Int → Int} {op : Int → Int} {ed : Int → Int} {st : Int → Int} {lv : Int → Int} {nm : Int → Int} {om : Int → Int} {ps : Int → Int} {dl : Int → Int} {en : Int → Int} {cl : Int → Int} {nL : Int} {kd : Int → Int} {wy : Int → Int} {ll : Int → Int} {wh : Int → Int} {F : Int → Prop} {F2 : Int → Prop} {b k : Int} (hG : pj_G W sd op ed) (p0_ : W b) (p1_ : 0 ≤ k) (p2_ : k < nL) (p3_ : wh k ≠ 2) (p4_ : kd k = 0) (p5_ : wy k = op b) (p6_ : ∀ j, 0 ≤ j → j < k → wy j = wy k → wh j ≠ 0) (p7_ : ∀ v, ¬ F v) (p8_ : ∀ v, F2 v ↔ v = b) (p9_ : om (sd (op b)) = (ed b)) (p10_ : ps (sd (op b)) = 1) (p11_ : dl (sd (op b)) = lv (sd (op b))) (p12_ : ll k = lv (sd (op b))) (p13_ : lv (sd (op b)) < lv (sd b)) (p14_ : lv (sd (op b)) = 0 ∨ nm (sd (op b)) ≠ nm (sd b)) (p15_ : en b ≠ 2) (p16_ : en b ≠ 1) (p17_ : om (sd b) ≠ (ed b)) (p18_ : st (sd b) ≠ 0) (p19_ : st (sd (op b)) = 2) (p20_ : cl (ed b) = 0) (p21_ : 0 ≤ nL) (cL6u : pj_L6u sd op nm nL kd wy wh) (cR : pj_R W nL kd wy wh) : pj_L6u sd op nm nL kd wy (pu wh k 2) := by
  obtain ⟨hop, hed⟩ := hG
  unfold pj_L6u pj_R at *
  intro j0 k0
  simp only [pu]
  have g0 := hop b
  have g1 := hop (wy j0)
  have g2 := hop (wy k0)
  have g3 := hed b (wy j0)
  have g4 := hed b (wy k0)
  have g5 := hed (wy j0) (wy k0)
  have cL6u_0 := cL6u k k
  have cL6u_1 := cL6u k j0
  have cL6u_2 := cL6u k k0
  have cL6u_3 := cL6u j0 k
  have cL6u_4 := cL6u j0 j0
  have cL6u_5 := cL6u j0 k0
  have cL6u_6 := cL6u k0 k
  have cL6u_7 := cL6u k0 j0
  have cL6u_8 := cL6u k0 k0
  have cR_0 := cR j0
  have cR_1 := cR k0
  have f0 := p6_ k
  have f1 := p6_ j0
  have f2 := p6_ k0
  have f3 := p7_ b
  have f4 := p7_ (wy j0)
  have f5 := p7_ (op (wy j0))
  have f6 := p7_ (wy k0)
  have f7 := p7_ (op (wy k0))
  have f8 := p7_ (op b)
  have f9 := p8_ b
  have f10 := p8_ (wy j0)
  have f11 := p8_ (op (wy j0))
  have f12 := p8_ (wy k0)
  have f13 := p8_ (op (wy k0))
  clear p6_ p7_ p8_
  clear hop hed cL6u cR
  grind (splits := 24)

theorem pj_ab {W : Int → Prop} {sd op ed : Int → Int} {li : Int → Int → Prop} {st lv nm inw tow bst tst exp om ps dl dn af c0 en pd rp rv fw cl cw tk kd wy ll td ls wh : Int → Int} {nL : Int} {F F2 : Int → Prop} {fl fc : Int} {b k : Int} (hG : pj_G W sd op ed) (p0_ : W b) (p1_ : 0 ≤ k) (p2_ : k < nL) (p3_ : wh k ≠ 2) (p4_ : kd k = 0) (p5_ : wy k = op b) (p6_ : ∀ j, 0 ≤ j → j < k → wy j = wy k → wh j ≠ 0) (p7_ : ∀ v, ¬ F v) (p8_ : ∀ v, F2 v ↔ v = b) (p9_ : om (sd (op b)) = (ed b)) (p10_ : ps (sd (op b)) = 1) (p11_ : dl (sd (op b)) = lv (sd (op b))) (p12_ : ll k = lv (sd (op b))) (p13_ : lv (sd (op b)) < lv (sd b)) (p14_ : lv (sd (op b)) = 0 ∨ nm (sd (op b)) ≠ nm (sd b)) (p15_ : en b ≠ 2) (p16_ : en b ≠ 1) (p17_ : om (sd b) ≠ (ed b)) (p18_ : st (sd b) ≠ 0) (p19_ : st (sd (op b)) = 2) (p20_ : cl (ed b) = 0) (p21_ : 0 ≤ nL) (h : pj_J W sd op ed li st lv nm inw tow bst tst exp om ps dl dn af c0 en pd rp rv fw cl cw tk nL kd wy ll td ls wh F fl fc) : pj_J W sd op ed li st lv nm inw tow bst tst exp om ps dl dn af c0 (pu en b 1) pd rp rv fw cl cw tk nL kd wy ll td ls (pu wh k 2) (F2) (lv (sd (op b))) (nm (sd (op b))) := by
  obtain ⟨cR, cN0, cN1, cN1w, cER, cN1c, cN2, cN2e, cN2b, cN4e, cN4b, cN5, cN7, cN10, cN10e, cN13, cC1, cC2, cR3a, cE1, cU, cA1, cA2, cEC, cR3, cN11, cN12, cN3, cRJ, cFW, cPD, cCC, cCD, cRP, cRP1, cCR, cZ1, cZ0, cTK, cK2, cWH, cFI, cL0, cFC, cL0u, cOC, cCT, cL1, cL1e, cL1o, cL1b, cL1g, cL2, cL3, cL4, cAF, cRT, cCV, cL5, cL5o, cL5u, cL6, cL6u⟩ := h
  exact ⟨pt_ab_R hG p0_ p1_ p2_ p3_ p4_ p5_ p6_ p7_ p8_ p9_ p10_ p11_ p12_ p13_ p14_ p15_ p16_ p17_ p18_ p19_ p20_ p21_ cR, cN0, cN1, pt_ab_N1w hG p0_ p1_ p2_ p3_ p4_ p5_ p6_ p7_ p8_ p9_ p10_ p11_ p12_ p13_ p14_ p15_ p16_ p17_ p18_ p19_ p20_ p21_ cN1w, pt_ab_ER hG p0_ p1_ p2_ p3_ p4_ p5_ p6_ p7_ p8_ p9_ p10_ p11_ p12_ p13_ p14_ p15_ p16_ p17_ p18_ p19_ p20_ p21_ cER, pt_ab_N1c hG p0_ p1_ p2_ p3_ p4_ p5_ p6_ p7_ p8_ p9_ p10_ p11_ p12_ p13_ p14_ p15_ p16_ p17_ p18_ p19_ p20_ p21_ cN1c cR, pt_ab_N2 hG p0_ p1_ p2_ p3_ p4_ p5_ p6_ p7_ p8_ p9_ p10_ p11_ p12_ p13_ p14_ p15_ p16_ p17_ p18_ p19_ p20_ p21_ cN2, cN2e, cN2b, cN4e, cN4b, cN5, cN7, cN10, cN10e, cN13, cC1, cC2, cR3a, pt_ab_E1 hG p0_ p1_ p2_ p3_ p4_ p5_ p6_ p7_ p8_ p9_ p10_ p11_ p12_ p13_ p14_ p15_ p16_ p17_ p18_ p19_ p20_ p21_ cE1, pt_ab_U hG p0_ p1_ p2_ p3_ p4_ p5_ p6_ p7_ p8_ p9_ p10_ p11_ p12_ p13_ p14_ p15_ p16_ p17_ p18_ p19_ p20_ p21_ cU, pt_ab_A1 hG p0_ p1_ p2_ p3_ p4_ p5_ p6_ p7_ p8_ p9_ p10_ p11_ p12_ p13_ p14_ p15_ p16_ p17_ p18_ p19_ p20_ p21_ cA1 cC2, cA2, pt_ab_EC hG p0_ p1_ p2_ p3_ p4_ p5_ p6_ p7_ p8_ p9_ p10_ p11_ p12_ p13_ p14_ p15_ p16_ p17_ p18_ p19_ p20_ p21_ cEC, cR3, pt_ab_N11 hG p0_ p1_ p2_ p3_ p4_ p5_ p6_ p7_ p8_ p9_ p10_ p11_ p12_ p13_ p14_ p15_ p16_ p17_ p18_ p19_ p20_ p21_ cN11, pt_ab_N12 hG p0_ p1_ p2_ p3_ p4_ p5_ p6_ p7_ p8_ p9_ p10_ p11_ p12_ p13_ p14_ p15_ p16_ p17_ p18_ p19_ p20_ p21_ cN12 cN11, pt_ab_N3 hG p0_ p1_ p2_ p3_ p4_ p5_ p6_ p7_ p8_ p9_ p10_ p11_ p12_ p13_ p14_ p15_ p16_ p17_ p18_ p19_ p20_ p21_ cN3, pt_ab_RJ hG p0_ p1_ p2_ p3_ p4_ p5_ p6_ p7_ p8_ p9_ p10_ p11_ p12_ p13_ p14_ p15_ p16_ p17_ p18_ p19_ p20_ p21_ cRJ, pt_ab_FW hG p0_ p1_ p2_ p3_ p4_ p5_ p6_ p7_ p8_ p9_ p10_ p11_ p12_ p13_ p14_ p15_ p16_ p17_ p18_ p19_ p20_ p21_ cFW, pt_ab_PD hG p0_ p1_ p2_ p3_ p4_ p5_ p6_ p7_ p8_ p9_ p10_ p11_ p12_ p13_ p14_ p15_ p16_ p17_ p18_ p19_ p20_ p21_ cPD, pt_ab_CC hG p0_ p1_ p2_ p3_ p4_ p5_ p6_ p7_ p8_ p9_ p10_ p11_ p12_ p13_ p14_ p15_ p16_ p17_ p18_ p19_ p20_ p21_ cCC, cCD, cRP, cRP1, cCR, cZ1, cZ0, cTK, cK2, pt_ab_WH hG p0_ p1_ p2_ p3_ p4_ p5_ p6_ p7_ p8_ p9_ p10_ p11_ p12_ p13_ p14_ p15_ p16_ p17_ p18_ p19_ p20_ p21_ cWH cR, pt_ab_FI hG p0_ p1_ p2_ p3_ p4_ p5_ p6_ p7_ p8_ p9_ p10_ p11_ p12_ p13_ p14_ p15_ p16_ p17_ p18_ p19_ p20_ p21_ cFI cR, pt_ab_L0 hG p0_ p1_ p2_ p3_ p4_ p5_ p6_ p7_ p8_ p9_ p10_ p11_ p12_ p13_ p14_ p15_ p16_ p17_ p18_ p19_ p20_ p21_ cL0 cR, pt_ab_FC hG p0_ p1_ p2_ p3_ p4_ p5_ p6_ p7_ p8_ p9_ p10_ p11_ p12_ p13_ p14_ p15_ p16_ p17_ p18_ p19_ p20_ p21_ cFC cR cL0u, pt_ab_L0u hG p0_ p1_ p2_ p3_ p4_ p5_ p6_ p7_ p8_ p9_ p10_ p11_ p12_ p13_ p14_ p15_ p16_ p17_ p18_ p19_ p20_ p21_ cL0u cR, pt_ab_OC hG p0_ p1_ p2_ p3_ p4_ p5_ p6_ p7_ p8_ p9_ p10_ p11_ p12_ p13_ p14_ p15_ p16_ p17_ p18_ p19_ p20_ p21_ cOC cR, pt_ab_CT hG p0_ p1_ p2_ p3_ p4_ p5_ p6_ p7_ p8_ p9_ p10_ p11_ p12_ p13_ p14_ p15_ p16_ p17_ p18_ p19_ p20_ p21_ cCT cR, pt_ab_L1 hG p0_ p1_ p2_ p3_ p4_ p5_ p6_ p7_ p8_ p9_ p10_ p11_ p12_ p13_ p14_ p15_ p16_ p17_ p18_ p19_ p20_ p21_ cL1 cR, pt_ab_L1e hG p0_ p1_ p2_ p3_ p4_ p5_ p6_ p7_ p8_ p9_ p10_ p11_ p12_ p13_ p14_ p15_ p16_ p17_ p18_ p19_ p20_ p21_ cL1e cR, pt_ab_L1o hG p0_ p1_ p2_ p3_ p4_ p5_ p6_ p7_ p8_ p9_ p10_ p11_ p12_ p13_ p14_ p15_ p16_ p17_ p18_ p19_ p20_ p21_ cL1o cR, pt_ab_L1b hG p0_ p1_ p2_ p3_ p4_ p5_ p6_ p7_ p8_ p9_ p10_ p11_ p12_ p13_ p14_ p15_ p16_ p17_ p18_ p19_ p20_ p21_ cL1b cR, pt_ab_L1g hG p0_ p1_ p2_ p3_ p4_ p5_ p6_ p7_ p8_ p9_ p10_ p11_ p12_ p13_ p14_ p15_ p16_ p17_ p18_ p19_ p20_ p21_ cL1g cR, pt_ab_L2 hG p0_ p1_ p2_ p3_ p4_ p5_ p6_ p7_ p8_ p9_ p10_ p11_ p12_ p13_ p14_ p15_ p16_ p17_ p18_ p19_ p20_ p21_ cL2 cR, pt_ab_L3 hG p0_ p1_ p2_ p3_ p4_ p5_ p6_ p7_ p8_ p9_ p10_ p11_ p12_ p13_ p14_ p15_ p16_ p17_ p18_ p19_ p20_ p21_ cL3 cR, pt_ab_L4 hG p0_ p1_ p2_ p3_ p4_ p5_ p6_ p7_ p8_ p9_ p10_ p11_ p12_ p13_ p14_ p15_ p16_ p17_ p18_ p19_ p20_ p21_ cL4 cR, pt_ab_AF hG p0_ p1_ p2_ p3_ p4_ p5_ p6_ p7_ p8_ p9_ p10_ p11_ p12_ p13_ p14_ p15_ p16_ p17_ p18_ p19_ p20_ p21_ cAF, pt_ab_RT hG p0_ p1_ p2_ p3_ p4_ p5_ p6_ p7_ p8_ p9_ p10_ p11_ p12_ p13_ p14_ p15_ p16_ p17_ p18_ p19_ p20_ p21_ cRT cR, pt_ab_CV hG p0_ p1_ p2_ p3_ p4_ p5_ p6_ p7_ p8_ p9_ p10_ p11_ p12_ p13_ p14_ p15_ p16_ p17_ p18_ p19_ p20_ p21_ cCV cR, pt_ab_L5 hG p0_ p1_ p2_ p3_ p4_ p5_ p6_ p7_ p8_ p9_ p10_ p11_ p12_ p13_ p14_ p15_ p16_ p17_ p18_ p19_ p20_ p21_ cL5 cR, pt_ab_L5o hG p0_ p1_ p2_ p3_ p4_ p5_ p6_ p7_ p8_ p9_ p10_ p11_ p12_ p13_ p14_ p15_ p16_ p17_ p18_ p19_ p20_ p21_ cL5o cR, pt_ab_L5u hG p0_ p1_ p2_ p3_ p4_ p5_ p6_ p7_ p8_ p9_ p10_ p11_ p12_ p13_ p14_ p15_ p16_ p17_ p18_ p19_ p20_ p21_ cL5u cR, pt_ab_L6 hG p0_ p1_ p2_ p3_ p4_ p5_ p6_ p7_ p8_ p9_ p10_ p11_ p12_ p13_ p14_ p15_ p16_ p17_ p18_ p19_ p20_ p21_ cL6 cR, pt_ab_L6u hG p0_ p1_ p2_ p3_ p4_ p5_ p6_ p7_ p8_ p9_ p10_ p11_ p12_ p13_ p14_ p15_ p16_ p17_ p18_ p19_ p20_ p21_ cL6u cR⟩

set_option maxHeartbeats 1000000 in
theorem pt_sf_R {W : Int → Prop} {sd : Int → Int} {op : Int → Int} {ed : Int → Int} {st : Int → Int} {lv : Int → Int} {nm : Int → Int} {om : Int → Int} {dl : Int → Int} {dn : Int → Int} {en : Int → Int} {pd : Int → Int} {cl : Int → Int} {nL : Int} {kd : Int → Int} {wy : Int → Int} {wh : Int → Int} {F : Int → Prop} {fl : Int} {fc : Int} {F2 : Int → Prop} {b : Int} (hG : pj_G W sd op ed) (p0_ : W b) (p1_ : F b) (p2_ : ∀ v, F2 v ↔ (F v ∧ v ≠ b)) (p3_ : om (sd (op b)) = (ed b)) (p4_ : dl (sd (op b)) = fl) (p5_ : dn (sd (op b)) = fc) (p6_ : fl < lv (sd b)) (p7_ : 0 ≤ fl) (p8_ : om (sd b) ≠ (ed b)) (p9_ : en b = 1) (p10_ : pd b = 0) (p11_ : st (sd b) = 1) (p12_ : st (sd (op b)) = 2) (p13_ : nm (sd b) ≠ (ed b)) (p14_ : cl (nm (sd b)) = lv (sd b)) (p15_ : lv (sd (op b)) ≤ fl) (p16_ : ∀ j, 0 ≤ j → j < nL → wh j ≠ 2 → kd j = 0 → wy j ≠ op b) (p17_ : dl (sd b) = lv (sd b) ∨ st (sd b) = 2) (p18_ : 0 ≤ nL) (cR : pj_R W nL kd wy wh) : pj_R W (nL + 1) (pu kd nL 1) (pu wy nL b) (pu wh nL 0) := by
  obtain ⟨hop, hed⟩ := hG
  unfold pj_R at *
  intro k0
  simp only [pu]
  have g0 := hop b
  have g1 := hop (wy k0)
  have g2 := hed b (wy k0)
  have cR_0 := cR k0
  have f0 := p2_ b
  have f1 := p2_ (wy k0)
  have f2 := p2_ (op (wy k0))
  have f3 := p16_ k0
  clear p2_ p16_
  clear hop hed cR
  grind (splits := 24)

set_option maxHeartbeats 1000000 in
theorem pt_sf_N0 {W : Int → Prop} {sd : Int → Int} {op : Int → Int} {ed : Int → Int} {st : Int → Int} {lv : Int → Int} {nm : Int → Int} {om : Int → Int} {ps : Int → Int} {dl : Int → Int} {dn : Int → Int} {af : Int → Int} {en : Int → Int} {pd : Int → Int} {cl : Int → Int} {nL : Int} {kd : Int → Int} {wy : Int → Int} {wh : Int → Int} {F : Int → Prop} {fl : Int} {fc : Int} {F2 : Int → Prop} {b : Int} (hG : pj_G W sd op ed) (p0_ : W b) (p1_ : F b) (p2_ : ∀ v, F2 v ↔ (F v ∧ v ≠ b)) (p3_ : om (sd (op b)) = (ed b)) (p4_ : dl (sd (op b)) = fl) (p5_ : dn (sd (op b)) = fc) (p6_ : fl < lv (sd b)) (p7_ : 0 ≤ fl) (p8_ : om (sd b) ≠ (ed b)) (p9_ : en b = 1) (p10_ : pd b = 0) (p11_ : st (sd b) = 1) (p12_ : st (sd (op b)) = 2) (p13_ : nm (sd b) ≠ (ed b)) (p14_ : cl (nm (sd b)) = lv (sd b)) (p15_ : lv (sd (op b)) ≤ fl) (p16_ : ∀ j, 0 ≤ j → j < nL → wh j ≠ 2 → kd j = 0 → wy j ≠ op b) (p17_ : dl (sd b) = lv (sd b) ∨ st (sd b) = 2) (p18_ : 0 ≤ nL) (cN0 : pj_N0 st lv ps dl af) : pj_N0 st lv ps (pu dl (sd (op b)) (lv (sd b))) af := by
  obtain ⟨hop, hed⟩ := hG
  unfold pj_N0 at *
  intro n0
  simp only [pu]
  have g0 := hop b
  have cN0_0 := cN0 (sd (op b))
  have cN0_1 := cN0 n0
  have cN0_2 := cN0 (sd b)
  have f0 := p2_ b
  clear p2_ p16_
  clear hop hed cN0
  grind (splits := 24)

set_option maxHeartbeats 1000000 in
theorem pt_sf_N1 {W : Int → Prop} {sd : Int → Int} {op : Int → Int} {ed : Int → Int} {st : Int → Int} {lv : Int → Int} {nm : Int → Int} {om : Int → Int} {ps : Int → Int} {dl : Int → Int} {dn : Int → Int} {en : Int → Int} {pd : Int → Int} {cl : Int → Int} {nL : Int} {kd : Int → Int} {wy : Int → Int} {wh : Int → Int} {F : Int → Prop} {fl : Int} {fc : Int} {F2 : Int → Prop} {b : Int} (hG : pj_G W sd op ed) (p0_ : W b) (p1_ : F b) (p2_ : ∀ v, F2 v ↔ (F v ∧ v ≠ b)) (p3_ : om (sd (op b)) = (ed b)) (p4_ : dl (sd (op b)) = fl) (p5_ : dn (sd (op b)) = fc) (p6_ : fl < lv (sd b)) (p7_ : 0 ≤ fl) (p8_ : om (sd b) ≠ (ed b)) (p9_ : en b = 1) (p10_ : pd b = 0) (p11_ : st (sd b) = 1) (p12_ : st (sd (op b)) = 2) (p13_ : nm (sd b) ≠ (ed b)) (p14_ : cl (nm (sd b)) = lv (sd b)) (p15_ : lv (sd (op b)) ≤ fl) (p16_ : ∀ j, 0 ≤ j → j < nL → wh j ≠ 2 → kd j = 0 → wy j ≠ op b) (p17_ : dl (sd b) = lv (sd b) ∨ st (sd b) = 2) (p18_ : 0 ≤ nL) (cN1 : pj_N1 st lv om ps dl) : pj_N1 st lv om ps (pu dl (sd (op b)) (lv (sd b))) := by
  obtain ⟨hop, hed⟩ := hG
  unfold pj_N1 at *
  intro n0
  simp only [pu]
  have g0 := hop b
  have cN1_0 := cN1 (sd (op b))
  have cN1_1 := cN1 n0
  have cN1_2 := cN1 (sd b)
  have f0 := p2_ b
  clear p2_ p16_
  clear hop hed cN1
  grind (splits := 24)

set_option maxHeartbeats 1000000 in
theorem pt_sf_N1c {W : Int → Prop} {sd : Int → Int} {op : Int → Int} {ed : Int → Int} {st : Int → Int} {lv : Int → Int} {nm : Int → Int} {om : Int → Int} {dl : Int → Int} {dn : Int → Int} {en : Int → Int} {pd : Int → Int} {cl : Int → Int} {nL : Int} {kd : Int → Int} {wy : Int → Int} {wh : Int → Int} {F : Int → Prop} {fl : Int} {fc : Int} {F2 : Int → Prop} {b : Int} (hG : pj_G W sd op ed) (p0_ : W b) (p1_ : F b) (p2_ : ∀ v, F2 v ↔ (F v ∧ v ≠ b)) (p3_ : om (sd (op b)) = (ed b)) (p4_ : dl (sd (op b)) = fl) (p5_ : dn (sd (op b)) = fc) (p6_ : fl < lv (sd b)) (p7_ : 0 ≤ fl) (p8_ : om (sd b) ≠ (ed b)) (p9_ : en b = 1) (p10_ : pd b = 0) (p11_ : st (sd b) = 1) (p12_ : st (sd (op b)) = 2) (p13_ : nm (sd b) ≠ (ed b)) (p14_ : cl (nm (sd b)) = lv (sd b)) (p15_ : lv (sd (op b)) ≤ fl) (p16_ : ∀ j, 0 ≤ j → j < nL → wh j ≠ 2 → kd j = 0 → wy j ≠ op b) (p17_ : dl (sd b) = lv (sd b) ∨ st (sd b) = 2) (p18_ : 0 ≤ nL) (cN1c : pj_N1c sd op st nL wy wh) (cR : pj_R W nL kd wy wh) : pj_N1c sd op st (nL + 1) (pu wy nL b) (pu wh nL 0) := by
  obtain ⟨hop, hed⟩ := hG
  unfold pj_N1c pj_R at *
  intro k0
  simp only [pu]
  have g0 := hop b
  have g1 := hop (wy k0)
  have g2 := hed b (wy k0)
  have cN1c_0 := cN1c k0
  have cR_0 := cR k0
  have f0 := p2_ b
  have f1 := p2_ (wy k0)
  have f2 := p2_ (op (wy k0))
  have f3 := p16_ k0
  clear p2_ p16_
  clear hop hed cN1c cR
  grind (splits := 24)

set_option maxHeartbeats 1000000 in
theorem pt_sf_C2 {W : Int → Prop} {sd : Int → Int} {op : Int → Int} {ed : Int → Int} {st : Int → Int} {lv : Int → Int} {nm : Int → Int} {om : Int → Int} {dl : Int → Int} {dn : Int → Int} {en : Int → Int} {pd : Int → Int} {cl : Int → Int} {nL : Int} {kd : Int → Int} {wy : Int → Int} {wh : Int → Int} {F : Int → Prop} {fl : Int} {fc : Int} {F2 : Int → Prop} {b : Int} (hG : pj_G W sd op ed) (p0_ : W b) (p1_ : F b) (p2_ : ∀ v, F2 v ↔ (F v ∧ v ≠ b)) (p3_ : om (sd (op b)) = (ed b)) (p4_ : dl (sd (op b)) = fl) (p5_ : dn (sd (op b)) = fc) (p6_ : fl < lv (sd b)) (p7_ : 0 ≤ fl) (p8_ : om (sd b) ≠ (ed b)) (p9_ : en b = 1) (p10_ : pd b = 0) (p11_ : st (sd b) = 1) (p12_ : st (sd (op b)) = 2) (p13_ : nm (sd b) ≠ (ed b)) (p14_ : cl (nm (sd b)) = lv (sd b)) (p15_ : lv (sd (op b)) ≤ fl) (p16_ : ∀ j, 0 ≤ j → j < nL → wh j ≠ 2 → kd j = 0 → wy j ≠ op b) (p17_ : dl (sd b) = lv (sd b) ∨ st (sd b) = 2) (p18_ : 0 ≤ nL) (cC2 : pj_C2 lv nm dl dn cl) : pj_C2 lv nm (pu dl (sd (op b)) (lv (sd b))) (pu dn (sd (op b)) (nm (sd b))) cl := by
  obtain ⟨hop, hed⟩ := hG
  unfold pj_C2 at *
  intro n0
  simp only [pu]
  have g0 := hop b
  have cC2_0 := cC2 (sd (op b))
  have cC2_1 := cC2 n0
  have cC2_2 := cC2 (sd b)
  have f0 := p2_ b
  clear p2_ p16_
  clear hop hed cC2
  grind (splits := 24)

set_option maxHeartbeats 1000000 in
theorem pt_sf_R3a {W : Int → Prop} {sd : Int → Int} {op : Int → Int} {ed : Int → Int} {st : Int → Int} {lv : Int → Int} {nm : Int → Int} {om : Int → Int} {dl : Int → Int} {dn : Int → Int} {en : Int → Int} {pd : Int → Int} {cl : Int → Int} {nL : Int} {kd : Int → Int} {wy : Int → Int} {wh : Int → Int} {F : Int → Prop} {fl : Int} {fc : Int} {F2 : Int → Prop} {b : Int} (hG : pj_G W sd op ed) (p0_ : W b) (p1_ : F b) (p2_ : ∀ v, F2 v ↔ (F v ∧ v ≠ b)) (p3_ : om (sd (op b)) = (ed b)) (p4_ : dl (sd (op b)) = fl) (p5_ : dn (sd (op b)) = fc) (p6_ : fl < lv (sd b)) (p7_ : 0 ≤ fl) (p8_ : om (sd b) ≠ (ed b)) (p9_ : en b = 1) (p10_ : pd b = 0) (p11_ : st (sd b) = 1) (p12_ : st (sd (op b)) = 2) (p13_ : nm (sd b) ≠ (ed b)) (p14_ : cl (nm (sd b)) = lv (sd b)) (p15_ : lv (sd (op b)) ≤ fl) (p16_ : ∀ j, 0 ≤ j → j < nL → wh j ≠ 2 → kd j = 0 → wy j ≠ op b) (p17_ : dl (sd b) = lv (sd b) ∨ st (sd b) = 2) (p18_ : 0 ≤ nL) (cR3a : pj_R3a st lv dl) : pj_R3a st lv (pu dl (sd (op b)) (lv (sd b))) := by
  obtain ⟨hop, hed⟩ := hG
  unfold pj_R3a at *
  intro n0
  simp only [pu]
  have g0 := hop b
  have cR3a_0 := cR3a (sd (op b))
  have cR3a_1 := cR3a n0
  have cR3a_2 := cR3a (sd b)
  have f0 := p2_ b
  clear p2_ p16_
  clear hop hed cR3a
  grind (splits := 24)

set_option maxHeartbeats 1000000 in
theorem pt_sf_E1 {W : Int → Prop} {sd : Int → Int} {op : Int → Int} {ed : Int → Int} {st : Int → Int} {lv : Int → Int} {nm : Int → Int} {om : Int → Int} {dl : Int → Int} {dn : Int → Int} {en : Int → Int} {pd : Int → Int} {cl : Int → Int} {nL : Int} {kd : Int → Int} {wy : Int → Int} {ll : Int → Int} {wh : Int → Int} {F : Int → Prop} {fl : Int} {fc : Int} {F2 : Int → Prop} {b : Int} (hG : pj_G W sd op ed) (p0_ : W b) (p1_ : F b) (p2_ : ∀ v, F2 v ↔ (F v ∧ v ≠ b)) (p3_ : om (sd (op b)) = (ed b)) (p4_ : dl (sd (op b)) = fl) (p5_ : dn (sd (op b)) = fc) (p6_ : fl < lv (sd b)) (p7_ : 0 ≤ fl) (p8_ : om (sd b) ≠ (ed b)) (p9_ : en b = 1) (p10_ : pd b = 0) (p11_ : st (sd b) = 1) (p12_ : st (sd (op b)) = 2) (p13_ : nm (sd b) ≠ (ed b)) (p14_ : cl (nm (sd b)) = lv (sd b)) (p15_ : lv (sd (op b)) ≤ fl) (p16_ : ∀ j, 0 ≤ j → j < nL → wh j ≠ 2 → kd j = 0 → wy j ≠ op b) (p17_ : dl (sd b) = lv (sd b) ∨ st (sd b) = 2) (p18_ : 0 ≤ nL) (cE1 : pj_E1 sd op lv dl nL kd wy ll wh) : pj_E1 sd op lv (pu dl (sd (op b)) (lv (sd b))) (nL + 1) (pu kd nL 1) (pu wy nL b) (pu ll nL (lv (sd b))) (pu wh nL 0) := by
  obtain ⟨hop, hed⟩ := hG
  unfold pj_E1 at *
  intro n0
  simp only [pu]
  have g0 := hop b
  have cE1_0 := cE1 (sd (op b))
  have cE1_1 := cE1 n0
  have cE1_2 := cE1 (sd b)
  have f0 := p2_ b
  clear p2_ p16_
  clear hop hed cE1
  by_cases hq : n0 = (sd (op b))
  · intro _; exact ⟨nL, by grind⟩
  · intro h0
    obtain ⟨k1, hk⟩ := cE1_1 (by grind)
    exact ⟨k1, by grind⟩

set_option maxHeartbeats 1000000 in
theorem pt_sf_U {W : Int → Prop} {sd : Int → Int} {op : Int → Int} {ed : Int → Int} {st : Int → Int} {lv : Int → Int} {nm : Int → Int} {om : Int → Int} {ps : Int → Int} {dl : Int → Int} {dn : Int → Int} {en : Int → Int} {pd : Int → Int} {cl : Int → Int} {nL : Int} {kd : Int → Int} {wy : Int → Int} {wh : Int → Int} {F : Int → Prop} {fl : Int} {fc : Int} {F2 : Int → Prop} {b : Int} (hG : pj_G W sd op ed) (p0_ : W b) (p1_ : F b) (p2_ : ∀ v, F2 v ↔ (F v ∧ v ≠ b)) (p3_ : om (sd (op b)) = (ed b)) (p4_ : dl (sd (op b)) = fl) (p5_ : dn (sd (op b)) = fc) (p6_ : fl < lv (sd b)) (p7_ : 0 ≤ fl) (p8_ : om (sd b) ≠ (ed b)) (p9_ : en b = 1) (p10_ : pd b = 0) (p11_ : st (sd b) = 1) (p12_ : st (sd (op b)) = 2) (p13_ : nm (sd b) ≠ (ed b)) (p14_ : cl (nm (sd b)) = lv (sd b)) (p15_ : lv (sd (op b)) ≤ fl) (p16_ : ∀ j, 0 ≤ j → j < nL → wh j ≠ 2 → kd j = 0 → wy j ≠ op b) (p17_ : dl (sd b) = lv (sd b) ∨ st (sd b) = 2) (p18_ : 0 ≤ nL) (cU : pj_U W sd op ed lv nm om ps dl en cl) : pj_U W sd op ed lv nm om ps (pu dl (sd (op b)) (lv (sd b))) en cl := by
  obtain ⟨hop, hed⟩ := hG
  unfold pj_U at *
  intro w0
  simp only [pu]
  have g0 := hop b
  have g1 := hop w0
  have g2 := hed b w0
  have cU_0 := cU b
  have cU_1 := cU w0
  have cU_2 := cU (op w0)
  have f0 := p2_ b
  have f1 := p2_ w0
  have f2 := p2_ (op w0)
  clear p2_ p16_
  clear hop hed cU
  grind (splits := 24)

set_option maxHeartbeats 1000000 in
theorem pt_sf_A1 {W : Int → Prop} {sd : Int → Int} {op : Int → Int} {ed : Int → Int} {st : Int → Int} {lv : Int → Int} {nm : Int → Int} {om : Int → Int} {dl : Int → Int} {dn : Int → Int} {en : Int → Int} {pd : Int → Int} {cl : Int → Int} {nL : Int} {kd : Int → Int} {wy : Int → Int} {wh : Int → Int} {F : Int → Prop} {fl : Int} {fc : Int} {F2 : Int → Prop} {b : Int} (hG : pj_G W sd op ed) (p0_ : W b) (p1_ : F b) (p2_ : ∀ v, F2 v ↔ (F v ∧ v ≠ b)) (p3_ : om (sd (op b)) = (ed b)) (p4_ : dl (sd (op b)) = fl) (p5_ : dn (sd (op b)) = fc) (p6_ : fl < lv (sd b)) (p7_ : 0 ≤ fl) (p8_ : om (sd b) ≠ (ed b)) (p9_ : en b = 1) (p10_ : pd b = 0) (p11_ : st (sd b) = 1) (p12_ : st (sd (op b)) = 2) (p13_ : nm (sd b) ≠ (ed b)) (p14_ : cl (nm (sd b)) = lv (sd b)) (p15_ : lv (sd (op b)) ≤ fl) (p16_ : ∀ j, 0 ≤ j → j < nL → wh j ≠ 2 → kd j = 0 → wy j ≠ op b) (p17_ : dl (sd b) = lv (sd b) ∨ st (sd b) = 2) (p18_ : 0 ≤ nL) (cA1 : pj_A1 W sd op ed lv nm om dl dn en F fl fc) : pj_A1 W sd op ed lv nm om (pu dl (sd (op b)) (lv (sd b))) (pu dn (sd (op b)) (nm (sd b))) en (F2) fl fc := by
  obtain ⟨hop, hed⟩ := hG
  unfold pj_A1 at *
  intro w0
  simp only [pu]
  have g0 := hop b
  have g1 := hop w0
  have g2 := hed b w0
  have cA1_0 := cA1 b
  have cA1_1 := cA1 w0
  have cA1_2 := cA1 (op w0)
  have f0 := p2_ b
  have f1 := p2_ w0
  have f2 := p2_ (op w0)
  clear p2_ p16_
  clear hop hed cA1
  grind (splits := 24)

set_option maxHeartbeats 1000000 in
theorem pt_sf_A2 {W : Int → Prop} {sd : Int → Int} {op : Int → Int} {ed : Int → Int} {st : Int → Int} {lv : Int → Int} {nm : Int → Int} {om : Int → Int} {ps : Int → Int} {dl : Int → Int} {dn : Int → Int} {en : Int → Int} {pd : Int → Int} {cl : Int → Int} {nL : Int} {kd : Int → Int} {wy : Int → Int} {wh : Int → Int} {F : Int → Prop} {fl : Int} {fc : Int} {F2 : Int → Prop} {b : Int} (hG : pj_G W sd op ed) (p0_ : W b) (p1_ : F b) (p2_ : ∀ v, F2 v ↔ (F v ∧ v ≠ b)) (p3_ : om (sd (op b)) = (ed b)) (p4_ : dl (sd (op b)) = fl) (p5_ : dn (sd (op b)) = fc) (p6_ : fl < lv (sd b)) (p7_ : 0 ≤ fl) (p8_ : om (sd b) ≠ (ed b)) (p9_ : en b = 1) (p10_ : pd b = 0) (p11_ : st (sd b) = 1) (p12_ : st (sd (op b)) = 2) (p13_ : nm (sd b) ≠ (ed b)) (p14_ : cl (nm (sd b)) = lv (sd b)) (p15_ : lv (sd (op b)) ≤ fl) (p16_ : ∀ j, 0 ≤ j → j < nL → wh j ≠ 2 → kd j = 0 → wy j ≠ op b) (p17_ : dl (sd b) = lv (sd b) ∨ st (sd b) = 2) (p18_ : 0 ≤ nL) (cA2 : pj_A2 W sd op ed st lv nm om ps dl dn cl) : pj_A2 W sd op ed st lv nm om ps (pu dl (sd (op b)) (lv (sd b))) (pu dn (sd (op b)) (nm (sd b))) cl := by
  obtain ⟨hop, hed⟩ := hG
  unfold pj_A2 at *
  intro w0
  simp only [pu]
  have g0 := hop b
  have g1 := hop w0
  have g2 := hed b w0
  have cA2_0 := cA2 b
  have cA2_1 := cA2 w0
  have cA2_2 := cA2 (op w0)
  have f0 := p2_ b
  have f1 := p2_ w0
  have f2 := p2_ (op w0)
  clear p2_ p16_
  clear hop hed cA2
  grind (splits := 24)

set_option maxHeartbeats 1000000 in
theorem pt_sf_EC {W : Int → Prop} {sd : Int → Int} {op : Int → Int} {ed : Int → Int} {st : Int → Int} {lv : Int → Int} {nm : Int → Int} {om : Int → Int} {ps : Int → Int} {dl : Int → Int} {dn : Int → Int} {en : Int → Int} {pd : Int → Int} {cl : Int → Int} {nL : Int} {kd : Int → Int} {wy : Int → Int} {wh : Int → Int} {F : Int → Prop} {fl : Int} {fc : Int} {F2 : Int → Prop} {b : Int} (hG : pj_G W sd op ed) (p0_ : W b) (p1_ : F b) (p2_ : ∀ v, F2 v ↔ (F v ∧ v ≠ b)) (p3_ : om (sd (op b)) = (ed b)) (p4_ : dl (sd (op b)) = fl) (p5_ : dn (sd (op b)) = fc) (p6_ : fl < lv (sd b)) (p7_ : 0 ≤ fl) (p8_ : om (sd b) ≠ (ed b)) (p9_ : en b = 1) (p10_ : pd b = 0) (p11_ : st (sd b) = 1) (p12_ : st (sd (op b)) = 2) (p13_ : nm (sd b) ≠ (ed b)) (p14_ : cl (nm (sd b)) = lv (sd b)) (p15_ : lv (sd (op b)) ≤ fl) (p16_ : ∀ j, 0 ≤ j → j < nL → wh j ≠ 2 → kd j = 0 → wy j ≠ op b) (p17_ : dl (sd b) = lv (sd b) ∨ st (sd b) = 2) (p18_ : 0 ≤ nL) (cEC : pj_EC W sd op ed lv nm om ps dl nL kd wy wh F) : pj_EC W sd op ed lv nm om ps (pu dl (sd (op b)) (lv (sd b))) (nL + 1) (pu kd nL 1) (pu wy nL b) (pu wh nL 0) (F2) := by
  obtain ⟨hop, hed⟩ := hG
  unfold pj_EC at *
  intro w0
  simp only [pu]
  have g0 := hop b
  have g1 := hop w0
  have g2 := hed b w0
  have cEC_0 := cEC b
  have cEC_1 := cEC w0
  have cEC_2 := cEC (op w0)
  have f0 := p2_ b
  have f1 := p2_ w0
  have f2 := p2_ (op w0)
  clear p2_ p16_
  clear hop hed cEC
  grind (splits := 24)

set_option maxHeartbeats 1000000 in
theorem pt_sf_R3 {W : Int → Prop} {sd : Int → Int} {op : Int → Int} {ed : Int → Int} {st : Int → Int} {lv : Int → Int} {nm : Int → Int} {om : Int → Int} {dl : Int → Int} {dn : Int → Int} {en : Int → Int} {pd : Int → Int} {cl : Int → Int} {nL : Int} {kd : Int → Int} {wy : Int → Int} {wh : Int → Int} {F : Int → Prop} {fl : Int} {fc : Int} {F2 : Int → Prop} {b : Int} (hG : pj_G W sd op ed) (p0_ : W b) (p1_ : F b) (p2_ : ∀ v, F2 v ↔ (F v ∧ v ≠ b)) (p3_ : om (sd (op b)) = (ed b)) (p4_ : dl (sd (op b)) = fl) (p5_ : dn (sd (op b)) = fc) (p6_ : fl < lv (sd b)) (p7_ : 0 ≤ fl) (p8_ : om (sd b) ≠ (ed b)) (p9_ : en b = 1) (p10_ : pd b = 0) (p11_ : st (sd b) = 1) (p12_ : st (sd (op b)) = 2) (p13_ : nm (sd b) ≠ (ed b)) (p14_ : cl (nm (sd b)) = lv (sd b)) (p15_ : lv (sd (op b)) ≤ fl) (p16_ : ∀ j, 0 ≤ j → j < nL → wh j ≠ 2 → kd j = 0 → wy j ≠ op b) (p17_ : dl (sd b) = lv (sd b) ∨ st (sd b) = 2) (p18_ : 0 ≤ nL) (cR3 : pj_R3 W sd op ed st om pd) : pj_R3 W sd op ed st om (pu pd b 1) := by
  obtain ⟨hop, hed⟩ := hG
  unfold pj_R3 at *
  intro w0
  simp only [pu]
  have g0 := hop b
  have g1 := hop w0
  have g2 := hed b w0
  have cR3_0 := cR3 b
  have cR3_1 := cR3 w0
  have cR3_2 := cR3 (op w0)
  have f0 := p2_ b
  have f1 := p2_ w0
  have f2 := p2_ (op w0)
  clear p2_ p16_
  clear hop hed cR3
  grind (splits := 24)

set_option maxHeartbeats 1000000 in
theorem pt_sf_N12 {W : Int → Prop} {sd : Int → Int} {op : Int → Int} {ed : Int → Int} {st : Int → Int} {lv : Int → Int} {nm : Int → Int} {inw : Int → Int} {tow : Int → Int} {om : Int → Int} {ps : Int → Int} {dl : Int → Int} {dn : Int → Int} {en : Int → Int} {pd : Int → Int} {cl : Int → Int} {nL : Int} {kd : Int → Int} {wy : Int → Int} {wh : Int → Int} {F : Int → Prop} {fl : Int} {fc : Int} {F2 : Int → Prop} {b : Int} (hG : pj_G W sd op ed) (p0_ : W b) (p1_ : F b) (p2_ : ∀ v, F2 v ↔ (F v ∧ v ≠ b)) (p3_ : om (sd (op b)) = (ed b)) (p4_ : dl (sd (op b)) = fl) (p5_ : dn (sd (op b)) = fc) (p6_ : fl < lv (sd b)) (p7_ : 0 ≤ fl) (p8_ : om (sd b) ≠ (ed b)) (p9_ : en b = 1) (p10_ : pd b = 0) (p11_ : st (sd b) = 1) (p12_ : st (sd (op b)) = 2) (p13_ : nm (sd b) ≠ (ed b)) (p14_ : cl (nm (sd b)) = lv (sd b)) (p15_ : lv (sd (op b)) ≤ fl) (p16_ : ∀ j, 0 ≤ j → j < nL → wh j ≠ 2 → kd j = 0 → wy j ≠ op b) (p17_ : dl (sd b) = lv (sd b) ∨ st (sd b) = 2) (p18_ : 0 ≤ nL) (cN12 : pj_N12 W sd op ed st lv nm inw tow om ps dl en) : pj_N12 W sd op ed st lv nm inw tow om ps (pu dl (sd (op b)) (lv (sd b))) en := by
  obtain ⟨hop, hed⟩ := hG
  unfold pj_N12 at *
  intro w0
  simp only [pu]
  have g0 := hop b
  have g1 := hop w0
  have g2 := hed b w0
  have cN12_0 := cN12 b
  have cN12_1 := cN12 w0
  have cN12_2 := cN12 (op w0)
  have f0 := p2_ b
  have f1 := p2_ w0
  have f2 := p2_ (op w0)
  clear p2_ p16_
  clear hop hed cN12
  grind (splits := 24)

set_option maxHeartbeats 1000000 in
theorem pt_sf_PD {W : Int → Prop} {sd : Int → Int} {op : Int → Int} {ed : Int → Int} {st : Int → Int} {lv : Int → Int} {nm : Int → Int} {om : Int → Int} {dl : Int → Int} {dn : Int → Int} {en : Int → Int} {pd : Int → Int} {cl : Int → Int} {nL : Int} {kd : Int → Int} {wy : Int → Int} {wh : Int → Int} {F : Int → Prop} {fl : Int} {fc : Int} {F2 : Int → Prop} {b : Int} (hG : pj_G W sd op ed) (p0_ : W b) (p1_ : F b) (p2_ : ∀ v, F2 v ↔ (F v ∧ v ≠ b)) (p3_ : om (sd (op b)) = (ed b)) (p4_ : dl (sd (op b)) = fl) (p5_ : dn (sd (op b)) = fc) (p6_ : fl < lv (sd b)) (p7_ : 0 ≤ fl) (p8_ : om (sd b) ≠ (ed b)) (p9_ : en b = 1) (p10_ : pd b = 0) (p11_ : st (sd b) = 1) (p12_ : st (sd (op b)) = 2) (p13_ : nm (sd b) ≠ (ed b)) (p14_ : cl (nm (sd b)) = lv (sd b)) (p15_ : lv (sd (op b)) ≤ fl) (p16_ : ∀ j, 0 ≤ j → j < nL → wh j ≠ 2 → kd j = 0 → wy j ≠ op b) (p17_ : dl (sd b) = lv (sd b) ∨ st (sd b) = 2) (p18_ : 0 ≤ nL) (cPD : pj_PD W sd op ed st om en pd) : pj_PD W sd op ed st om en (pu pd b 1) := by
  obtain ⟨hop, hed⟩ := hG
  unfold pj_PD at *
  intro w0
  simp only [pu]
  have g0 := hop b
  have g1 := hop w0
  have g2 := hed b w0
  have cPD_0 := cPD b
  have cPD_1 := cPD w0
  have cPD_2 := cPD (op w0)
  have f0 := p2_ b
  have f1 := p2_ w0
  have f2 := p2_ (op w0)
  clear p2_ p16_
  clear hop hed cPD
  grind (splits := 24)

set_option maxHeartbeats 1000000 in
theorem pt_sf_CD {W : Int → Prop} {sd : Int → Int} {op : Int → Int} {ed : Int → Int} {st : Int → Int} {lv : Int → Int} {nm : Int → Int} {om : Int → Int} {dl : Int → Int} {dn : Int → Int} {en : Int → Int} {pd : Int → Int} {cl : Int → Int} {nL : Int} {kd : Int → Int} {wy : Int → Int} {wh : Int → Int} {F : Int → Prop} {fl : Int} {fc : Int} {F2 : Int → Prop} {b : Int} (hG : pj_G W sd op ed) (p0_ : W b) (p1_ : F b) (p2_ : ∀ v, F2 v ↔ (F v ∧ v ≠ b)) (p3_ : om (sd (op b)) = (ed b)) (p4_ : dl (sd (op b)) = fl) (p5_ : dn (sd (op b)) = fc) (p6_ : fl < lv (sd b)) (p7_ : 0 ≤ fl) (p8_ : om (sd b) ≠ (ed b)) (p9_ : en b = 1) (p10_ : pd b = 0) (p11_ : st (sd b) = 1) (p12_ : st (sd (op b)) = 2) (p13_ : nm (sd b) ≠ (ed b)) (p14_ : cl (nm (sd b)) = lv (sd b)) (p15_ : lv (sd (op b)) ≤ fl) (p16_ : ∀ j, 0 ≤ j → j < nL → wh j ≠ 2 → kd j = 0 → wy j ≠ op b) (p17_ : dl (sd b) = lv (sd b) ∨ st (sd b) = 2) (p18_ : 0 ≤ nL) (cCD : pj_CD W sd op ed om dl cl) : pj_CD W sd op ed om (pu dl (sd (op b)) (lv (sd b))) cl := by
  obtain ⟨hop, hed⟩ := hG
  unfold pj_CD at *
  intro w0
  simp only [pu]
  have g0 := hop b
  have g1 := hop w0
  have g2 := hed b w0
  have cCD_0 := cCD b
  have cCD_1 := cCD w0
  have cCD_2 := cCD (op w0)
  have f0 := p2_ b
  have f1 := p2_ w0
  have f2 := p2_ (op w0)
  clear p2_ p16_
  clear hop hed cCD
  grind (splits := 24)

set_option maxHeartbeats 1000000 in
theorem pt_sf_WH {W : Int → Prop} {sd : Int → Int} {op : Int → Int} {ed : Int → Int} {st : Int → Int} {lv : Int → Int} {nm : Int → Int} {om : Int → Int} {dl : Int → Int} {dn : Int → Int} {en : Int → Int} {pd : Int → Int} {cl : Int → Int} {nL : Int} {kd : Int → Int} {wy : Int → Int} {wh : Int → Int} {F : Int → Prop} {fl : Int} {fc : Int} {F2 : Int → Prop} {b : Int} (hG : pj_G W sd op ed) (p0_ : W b) (p1_ : F b) (p2_ : ∀ v, F2 v ↔ (F v ∧ v ≠ b)) (p3_ : om (sd (op b)) = (ed b)) (p4_ : dl (sd (op b)) = fl) (p5_ : dn (sd (op b)) = fc) (p6_ : fl < lv (sd b)) (p7_ : 0 ≤ fl) (p8_ : om (sd b) ≠ (ed b)) (p9_ : en b = 1) (p10_ : pd b = 0) (p11_ : st (sd b) = 1) (p12_ : st (sd (op b)) = 2) (p13_ : nm (sd b) ≠ (ed b)) (p14_ : cl (nm (sd b)) = lv (sd b)) (p15_ : lv (sd (op b)) ≤ fl) (p16_ : ∀ j, 0 ≤ j → j < nL → wh j ≠ 2 → kd j = 0 → wy j ≠ op b) (p17_ : dl (sd b) = lv (sd b) ∨ st (sd b) = 2) (p18_ : 0 ≤ nL) (cWH : pj_WH nL kd wh) (cR : pj_R W nL kd wy wh) : pj_WH (nL + 1) (pu kd nL 1) (pu wh nL 0) := by
  obtain ⟨hop, hed⟩ := hG
  unfold pj_WH pj_R at *
  intro k0
  simp only [pu]
  have g0 := hop b
  have g1 := hop (wy k0)
  have g2 := hed b (wy k0)
  have cWH_0 := cWH k0
  have cR_0 := cR k0
  have f0 := p2_ b
  have f1 := p2_ (wy k0)
  have f2 := p2_ (op (wy k0))
  have f3 := p16_ k0
  clear p2_ p16_
  clear hop hed cWH cR
  grind (splits := 24)

set_option maxHeartbeats 1000000 in
theorem pt_sf_FI {W : Int → Prop} {sd : Int → Int} {op : Int → Int} {ed : Int → Int} {st : Int → Int} {lv : Int → Int} {nm : Int → Int} {om : Int → Int} {dl : Int → Int} {dn : Int → Int} {en : Int → Int} {pd : Int → Int} {cl : Int → Int} {nL : Int} {kd : Int → Int} {wy : Int → Int} {wh : Int → Int} {F : Int → Prop} {fl : Int} {fc : Int} {F2 : Int → Prop} {b : Int} (hG : pj_G W sd op ed) (p0_ : W b) (p1_ : F b) (p2_ : ∀ v, F2 v ↔ (F v ∧ v ≠ b)) (p3_ : om (sd (op b)) = (ed b)) (p4_ : dl (sd (op b)) = fl) (p5_ : dn (sd (op b)) = fc) (p6_ : fl < lv (sd b)) (p7_ : 0 ≤ fl) (p8_ : om (sd b) ≠ (ed b)) (p9_ : en b = 1) (p10_ : pd b = 0) (p11_ : st (sd b) = 1) (p12_ : st (sd (op b)) = 2) (p13_ : nm (sd b) ≠ (ed b)) (p14_ : cl (nm (sd b)) = lv (sd b)) (p15_ : lv (sd (op b)) ≤ fl) (p16_ : ∀ j, 0 ≤ j → j < nL → wh j ≠ 2 → kd j = 0 → wy j ≠ op b) (p17_ : dl (sd b) = lv (sd b) ∨ st (sd b) = 2) (p18_ : 0 ≤ nL) (cFI : pj_FI nL wy wh) (cR : pj_R W nL kd wy wh) : pj_FI (nL + 1) (pu wy nL b) (pu wh nL 0) := by
  obtain ⟨hop, hed⟩ := hG
  unfold pj_FI pj_R at *
  intro j0 k0
  simp only [pu]
  have g0 := hop b
  have g1 := hop (wy j0)
  have g2 := hop (wy k0)
  have g3 := hed b (wy j0)
  have g4 := hed b (wy k0)
  have g5 := hed (wy j0) (wy k0)
  have cFI_0 := cFI j0 j0
  have cFI_1 := cFI j0 k0
  have cFI_2 := cFI k0 j0
  have cFI_3 := cFI k0 k0
  have cR_0 := cR j0
  have cR_1 := cR k0
  have f0 := p2_ b
  have f1 := p2_ (wy j0)
  have f2 := p2_ (op (wy j0))
  have f3 := p2_ (wy k0)
  have f4 := p2_ (op (wy k0))
  have f5 := p16_ j0
  have f6 := p16_ k0
  clear p2_ p16_
  clear hop hed cFI cR
  grind (splits := 24)

set_option maxHeartbeats 1000000 in
theorem pt_sf_L0 {W : Int → Prop} {sd : Int → Int} {op : Int → Int} {ed : Int → Int} {st : Int → Int} {lv : Int → Int} {nm : Int → Int} {om : Int → Int} {ps : Int → Int} {dl : Int → Int} {dn : Int → Int} {c0 : Int → Int} {en : Int → Int} {pd : Int → Int} {cl : Int → Int} {cw : Int → Int} {nL : Int} {kd : Int → Int} {wy : Int → Int} {ll : Int → Int} {wh : Int → Int} {F : Int → Prop} {fl : Int} {fc : Int} {F2 : Int → Prop} {b : Int} (hG : pj_G W sd op ed) (p0_ : W b) (p1_ : F b) (p2_ : ∀ v, F2 v ↔ (F v ∧ v ≠ b)) (p3_ : om (sd (op b)) = (ed b)) (p4_ : dl (sd (op b)) = fl) (p5_ : dn (sd (op b)) = fc) (p6_ : fl < lv (sd b)) (p7_ : 0 ≤ fl) (p8_ : om (sd b) ≠ (ed b)) (p9_ : en b = 1) (p10_ : pd b = 0) (p11_ : st (sd b) = 1) (p12_ : st (sd (op b)) = 2) (p13_ : nm (sd b) ≠ (ed b)) (p14_ : cl (nm (sd b)) = lv (sd b)) (p15_ : lv (sd (op b)) ≤ fl) (p16_ : ∀ j, 0 ≤ j → j < nL → wh j ≠ 2 → kd j = 0 → wy j ≠ op b) (p17_ : dl (sd b) = lv (sd b) ∨ st (sd b) = 2) (p18_ : 0 ≤ nL) (cL0 : pj_L0 sd op ed lv nm om ps dl c0 en cw nL kd wy ll wh) (cR : pj_R W nL kd wy wh) : pj_L0 sd op ed lv nm om ps (pu dl (sd (op b)) (lv (sd b))) c0 en cw (nL + 1) (pu kd nL 1) (pu wy nL b) (pu ll nL (lv (sd b))) (pu wh nL 0) := by
  obtain ⟨hop, hed⟩ := hG
  unfold pj_L0 pj_R at *
  intro k0
  simp only [pu]
  have g0 := hop b
  have g1 := hop (wy k0)
  have g2 := hed b (wy k0)
  have cL0_0 := cL0 k0
  have cR_0 := cR k0
  have f0 := p2_ b
  have f1 := p2_ (wy k0)
  have f2 := p2_ (op (wy k0))
  have f3 := p16_ k0
  clear p2_ p16_
  clear hop hed cL0 cR
  grind (splits := 24)

set_option maxHeartbeats 1000000 in
theorem pt_sf_FC {W : Int → Prop} {sd : Int → Int} {op : Int → Int} {ed : Int → Int} {st : Int → Int} {lv : Int → Int} {nm : Int → Int} {om : Int → Int} {dl : Int → Int} {dn : Int → Int} {en : Int → Int} {pd : Int → Int} {cl : Int → Int} {nL : Int} {kd : Int → Int} {wy : Int → Int} {wh : Int → Int} {F : Int → Prop} {fl : Int} {fc : Int} {F2 : Int → Prop} {b : Int} (hG : pj_G W sd op ed) (p0_ : W b) (p1_ : F b) (p2_ : ∀ v, F2 v ↔ (F v ∧ v ≠ b)) (p3_ : om (sd (op b)) = (ed b)) (p4_ : dl (sd (op b)) = fl) (p5_ : dn (sd (op b)) = fc) (p6_ : fl < lv (sd b)) (p7_ : 0 ≤ fl) (p8_ : om (sd b) ≠ (ed b)) (p9_ : en b = 1) (p10_ : pd b = 0) (p11_ : st (sd b) = 1) (p12_ : st (sd (op b)) = 2) (p13_ : nm (sd b) ≠ (ed b)) (p14_ : cl (nm (sd b)) = lv (sd b)) (p15_ : lv (sd (op b)) ≤ fl) (p16_ : ∀ j, 0 ≤ j → j < nL → wh j ≠ 2 → kd j = 0 → wy j ≠ op b) (p17_ : dl (sd b) = lv (sd b) ∨ st (sd b) = 2) (p18_ : 0 ≤ nL) (cFC : pj_FC op nL kd wy wh F) (cR : pj_R W nL kd wy wh) : pj_FC op (nL + 1) (pu kd nL 1) (pu wy nL b) (pu wh nL 0) (F2) := by
  obtain ⟨hop, hed⟩ := hG
  unfold pj_FC pj_R at *
  intro k0
  simp only [pu]
  have g0 := hop b
  have g1 := hop (wy k0)
  have g2 := hed b (wy k0)
  have cFC_0 := cFC k0
  have cR_0 := cR k0
  have f0 := p2_ b
  have f1 := p2_ (wy k0)
  have f2 := p2_ (op (wy k0))
  have f3 := p16_ k0
  clear p2_ p16_
  clear hop hed cFC cR
  grind (splits := 24)

set_option maxHeartbeats 1000000 in
theorem pt_sf_L0u {W : Int → Prop} {sd : Int → Int} {op : Int → Int} {ed : Int → Int} {st : Int → Int} {lv : Int → Int} {nm : Int → Int} {om : Int → Int} {dl : Int → Int} {dn : Int → Int} {en : Int → Int} {pd : Int → Int} {cl : Int → Int} {nL : Int} {kd : Int → Int} {wy : Int → Int} {wh : Int → Int} {F : Int → Prop} {fl : Int} {fc : Int} {F2 : Int → Prop} {b : Int} (hG : pj_G W sd op ed) (p0_ : W b) (p1_ : F b) (p2_ : ∀ v, F2 v ↔ (F v ∧ v ≠ b)) (p3_ : om (sd (op b)) = (ed b)) (p4_ : dl (sd (op b)) = fl) (p5_ : dn (sd (op b)) = fc) (p6_ : fl < lv (sd b)) (p7_ : 0 ≤ fl) (p8_ : om (sd b) ≠ (ed b)) (p9_ : en b = 1) (p10_ : pd b = 0) (p11_ : st (sd b) = 1) (p12_ : st (sd (op b)) = 2) (p13_ : nm (sd b) ≠ (ed b)) (p14_ : cl (nm (sd b)) = lv (sd b)) (p15_ : lv (sd (op b)) ≤ fl) (p16_ : ∀ j, 0 ≤ j → j < nL → wh j ≠ 2 → kd j = 0 → wy j ≠ op b) (p17_ : dl (sd b) = lv (sd b) ∨ st (sd b) = 2) (p18_ : 0 ≤ nL) (cL0u : pj_L0u nL kd wy wh) (cR : pj_R W nL kd wy wh) : pj_L0u (nL + 1) (pu kd nL 1) (pu wy nL b) (pu wh nL 0) := by
  obtain ⟨hop, hed⟩ := hG
  unfold pj_L0u pj_R at *
  intro j0 k0
  simp only [pu]
  have g0 := hop b
  have g1 := hop (wy j0)
  have g2 := hop (wy k0)
  have g3 := hed b (wy j0)
  have g4 := hed b (wy k0)
  have g5 := hed (wy j0) (wy k0)
  have cL0u_0 := cL0u j0 j0
  have cL0u_1 := cL0u j0 k0
  have cL0u_2 := cL0u k0 j0
  have cL0u_3 := cL0u k0 k0
  have cR_0 := cR j0
  have cR_1 := cR k0
  have f0 := p2_ b
  have f1 := p2_ (wy j0)
  have f2 := p2_ (op (wy j0))
  have f3 := p2_ (wy k0)
  have f4 := p2_ (op (wy k0))
  have f5 := p16_ j0
  have f6 := p16_ k0
  clear p2_ p16_
  clear hop hed cL0u cR
  grind (splits := 24)

set_option maxHeartbeats 1000000 in
theorem pt_sf_OC {W : Int → Prop} {sd : Int → Int} {op : Int → Int} {ed : Int → Int} {st : Int → Int} {lv : Int → Int} {nm : Int → Int} {om : Int → Int} {dl : Int → Int} {dn : Int → Int} {en : Int → Int} {pd : Int → Int} {cl : Int → Int} {nL : Int} {kd : Int → Int} {wy : Int → Int} {wh : Int → Int} {F : Int → Prop} {fl : Int} {fc : Int} {F2 : Int → Prop} {b : Int} (hG : pj_G W sd op ed) (p0_ : W b) (p1_ : F b) (p2_ : ∀ v, F2 v ↔ (F v ∧ v ≠ b)) (p3_ : om (sd (op b)) = (ed b)) (p4_ : dl (sd (op b)) = fl) (p5_ : dn (sd (op b)) = fc) (p6_ : fl < lv (sd b)) (p7_ : 0 ≤ fl) (p8_ : om (sd b) ≠ (ed b)) (p9_ : en b = 1) (p10_ : pd b = 0) (p11_ : st (sd b) = 1) (p12_ : st (sd (op b)) = 2) (p13_ : nm (sd b) ≠ (ed b)) (p14_ : cl (nm (sd b)) = lv (sd b)) (p15_ : lv (sd (op b)) ≤ fl) (p16_ : ∀ j, 0 ≤ j → j < nL → wh j ≠ 2 → kd j = 0 → wy j ≠ op b) (p17_ : dl (sd b) = lv (sd b) ∨ st (sd b) = 2) (p18_ : 0 ≤ nL) (cOC : pj_OC nL kd wy wh) (cR : pj_R W nL kd wy wh) : pj_OC (nL + 1) (pu kd nL 1) (pu wy nL b) (pu wh nL 0) := by
  obtain ⟨hop, hed⟩ := hG
  unfold pj_OC pj_R at *
  intro j0 k0
  simp only [pu]
  have g0 := hop b
  have g1 := hop (wy j0)
  have g2 := hop (wy k0)
  have g3 := hed b (wy j0)
  have g4 := hed b (wy k0)
  have g5 := hed (wy j0) (wy k0)
  have cOC_0 := cOC j0 j0
  have cOC_1 := cOC j0 k0
  have cOC_2 := cOC k0 j0
  have cOC_3 := cOC k0 k0
  have cR_0 := cR j0
  have cR_1 := cR k0
  have f0 := p2_ b
  have f1 := p2_ (wy j0)
  have f2 := p2_ (op (wy j0))
  have f3 := p2_ (wy k0)
  have f4 := p2_ (op (wy k0))
  have f5 := p16_ j0
  have f6 := p16_ k0
  clear p2_ p16_
  clear hop hed cOC cR
  grind (splits := 24)

set_option maxHeartbeats 1000000 in
theorem pt_sf_CT {W : Int → Prop} {sd : Int → Int} {op : Int → Int} {ed : Int → Int} {st : Int → Int} {lv : Int → Int} {nm : Int → Int} {om : Int → Int} {dl : Int → Int} {dn : Int → Int} {en : Int → Int} {pd : Int → Int} {cl : Int → Int} {nL : Int} {kd : Int → Int} {wy : Int → Int} {wh : Int → Int} {F : Int → Prop} {fl : Int} {fc : Int} {F2 : Int → Prop} {b : Int} (hG : pj_G W sd op ed) (p0_ : W b) (p1_ : F b) (p2_ : ∀ v, F2 v ↔ (F v ∧ v ≠ b)) (p3_ : om (sd (op b)) = (ed b)) (p4_ : dl (sd (op b)) = fl) (p5_ : dn (sd (op b)) = fc) (p6_ : fl < lv (sd b)) (p7_ : 0 ≤ fl) (p8_ : om (sd b) ≠ (ed b)) (p9_ : en b = 1) (p10_ : pd b = 0) (p11_ : st (sd b) = 1) (p12_ : st (sd (op b)) = 2) (p13_ : nm (sd b) ≠ (ed b)) (p14_ : cl (nm (sd b)) = lv (sd b)) (p15_ : lv (sd (op b)) ≤ fl) (p16_ : ∀ j, 0 ≤ j → j < nL → wh j ≠ 2 → kd j = 0 → wy j ≠ op b) (p17_ : dl (sd b) = lv (sd b) ∨ st (sd b) = 2) (p18_ : 0 ≤ nL) (cCT : pj_CT nL kd wy wh) (cR : pj_R W nL kd wy wh) : pj_CT (nL + 1) (pu kd nL 1) (pu wy nL b) (pu wh nL 0) := by
  obtain ⟨hop, hed⟩ := hG
  unfold pj_CT pj_R at *
  intro j0 k0
  simp only [pu]
  have g0 := hop b
  have g1 := hop (wy j0)
  have g2 := hop (wy k0)
  have g3 := hed b (wy j0)
  have g4 := hed b (wy k0)
  have g5 := hed (wy j0) (wy k0)
  have cCT_0 := cCT j0 j0
  have cCT_1 := cCT j0 k0
  have cCT_2 := cCT k0 j0
  have cCT_3 := cCT k0 k0
  have cR_0 := cR j0
  have cR_1 := cR k0
  have f0 := p2_ b
  have f1 := p2_ (wy j0)
  have f2 := p2_ (op (wy j0))
  have f3 := p2_ (wy k0)
  have f4 := p2_ (op (wy k0))
  have f5 := p16_ j0
  have f6 := p16_ k0
  clear p2_ p16_
  clear hop hed cCT cR
  grind (splits := 24)

set_option maxHeartbeats 1000000 in
theorem pt_sf_L1 {W : Int → Prop} {sd : Int → Int} {op : Int → Int} {ed : Int → Int} {st : Int → Int} {lv : Int → Int} {nm : Int → Int} {om : Int → Int} {dl : Int → Int} {dn : Int → Int} {en : Int → Int} {pd : Int → Int} {cl : Int → Int} {nL : Int} {kd : Int → Int} {wy : Int → Int} {ll : Int → Int} {td : Int → Int} {ls : Int → Int} {wh : Int → Int} {F : Int → Prop} {fl : Int} {fc : Int} {F2 : Int → Prop} {b : Int} (hG : pj_G W sd op ed) (p0_ : W b) (p1_ : F b) (p2_ : ∀ v, F2 v ↔ (F v ∧ v ≠ b)) (p3_ : om (sd (op b)) = (ed b)) (p4_ : dl (sd (op b)) = fl) (p5_ : dn (sd (op b)) = fc) (p6_ : fl < lv (sd b)) (p7_ : 0 ≤ fl) (p8_ : om (sd b) ≠ (ed b)) (p9_ : en b = 1) (p10_ : pd b = 0) (p11_ : st (sd b) = 1) (p12_ : st (sd (op b)) = 2) (p13_ : nm (sd b) ≠ (ed b)) (p14_ : cl (nm (sd b)) = lv (sd b)) (p15_ : lv (sd (op b)) ≤ fl) (p16_ : ∀ j, 0 ≤ j → j < nL → wh j ≠ 2 → kd j = 0 → wy j ≠ op b) (p17_ : dl (sd b) = lv (sd b) ∨ st (sd b) = 2) (p18_ : 0 ≤ nL) (cL1 : pj_L1 sd op ed st lv om dl en cl nL kd wy ll td ls wh) (cR : pj_R W nL kd wy wh) (cL1b : pj_L1b sd ed st om pd nL kd wy td ls wh) : pj_L1 sd op ed st lv om (pu dl (sd (op b)) (lv (sd b))) en cl (nL + 1) (pu kd nL 1) (pu wy nL b) (pu ll nL (lv (sd b))) (pu td nL (nm (sd b))) (pu ls nL (st (sd b))) (pu wh nL 0) := by
  obtain ⟨hop, hed⟩ := hG
  unfold pj_L1 pj_R pj_L1b at *
  intro k0
  simp only [pu]
  have g0 := hop b
  have g1 := hop (wy k0)
  have g2 := hed b (wy k0)
  have cL1_0 := cL1 k0
  have cR_0 := cR k0
  have cL1b_0 := cL1b k0
  have f0 := p2_ b
  have f1 := p2_ (wy k0)
  have f2 := p2_ (op (wy k0))
  have f3 := p16_ k0
  clear p2_ p16_
  clear hop hed cL1 cR cL1b
  grind (splits := 24)

set_option maxHeartbeats 1000000 in
theorem pt_sf_L1e {W : Int → Prop} {sd : Int → Int} {op : Int → Int} {ed : Int → Int} {st : Int → Int} {lv : Int → Int} {nm : Int → Int} {om : Int → Int} {dl : Int → Int} {dn : Int → Int} {en : Int → Int} {pd : Int → Int} {cl : Int → Int} {nL : Int} {kd : Int → Int} {wy : Int → Int} {ll : Int → Int} {td : Int → Int} {ls : Int → Int} {wh : Int → Int} {F : Int → Prop} {fl : Int} {fc : Int} {F2 : Int → Prop} {b : Int} (hG : pj_G W sd op ed) (p0_ : W b) (p1_ : F b) (p2_ : ∀ v, F2 v ↔ (F v ∧ v ≠ b)) (p3_ : om (sd (op b)) = (ed b)) (p4_ : dl (sd (op b)) = fl) (p5_ : dn (sd (op b)) = fc) (p6_ : fl < lv (sd b)) (p7_ : 0 ≤ fl) (p8_ : om (sd b) ≠ (ed b)) (p9_ : en b = 1) (p10_ : pd b = 0) (p11_ : st (sd b) = 1) (p12_ : st (sd (op b)) = 2) (p13_ : nm (sd b) ≠ (ed b)) (p14_ : cl (nm (sd b)) = lv (sd b)) (p15_ : lv (sd (op b)) ≤ fl) (p16_ : ∀ j, 0 ≤ j → j < nL → wh j ≠ 2 → kd j = 0 → wy j ≠ op b) (p17_ : dl (sd b) = lv (sd b) ∨ st (sd b) = 2) (p18_ : 0 ≤ nL) (cL1e : pj_L1e sd op dl dn nL kd wy ll td ls wh) (cR : pj_R W nL kd wy wh) (cL1 : pj_L1 sd op ed st lv om dl en cl nL kd wy ll td ls wh) (cL1b : pj_L1b sd ed st om pd nL kd wy td ls wh) : pj_L1e sd op (pu dl (sd (op b)) (lv (sd b))) (pu dn (sd (op b)) (nm (sd b))) (nL + 1) (pu kd nL 1) (pu wy nL b) (pu ll nL (lv (sd b))) (pu td nL (nm (sd b))) (pu ls nL (st (sd b))) (pu wh nL 0) := by
  obtain ⟨hop, hed⟩ := hG
  unfold pj_L1e pj_R pj_L1 pj_L1b at *
  intro k0
  simp only [pu]
  have g0 := hop b
  have g1 := hop (wy k0)
  have g2 := hed b (wy k0)
  have cL1e_0 := cL1e k0
  have cR_0 := cR k0
  have cL1_0 := cL1 k0
  have cL1b_0 := cL1b k0
  have f0 := p2_ b
  have f1 := p2_ (wy k0)
  have f2 := p2_ (op (wy k0))
  have f3 := p16_ k0
  clear p2_ p16_
  clear hop hed cL1e cR cL1 cL1b
  grind (splits := 24)

set_option maxHeartbeats 1000000 in
theorem pt_sf_L1o {W : Int → Prop} {sd : Int → Int} {op : Int → Int} {ed : Int → Int} {st : Int → Int} {lv : Int → Int} {nm : Int → Int} {om : Int → Int} {dl : Int → Int} {dn : Int → Int} {en : Int → Int} {pd : Int → Int} {cl : Int → Int} {nL : Int} {kd : Int → Int} {wy : Int → Int} {ll : Int → Int} {td : Int → Int} {ls : Int → Int} {wh : Int → Int} {F : Int → Prop} {fl : Int} {fc : Int} {F2 : Int → Prop} {b : Int} (hG : pj_G W sd op ed) (p0_ : W b) (p1_ : F b) (p2_ : ∀ v, F2 v ↔ (F v ∧ v ≠ b)) (p3_ : om (sd (op b)) = (ed b)) (p4_ : dl (sd (op b)) = fl) (p5_ : dn (sd (op b)) = fc) (p6_ : fl < lv (sd b)) (p7_ : 0 ≤ fl) (p8_ : om (sd b) ≠ (ed b)) (p9_ : en b = 1) (p10_ : pd b = 0) (p11_ : st (sd b) = 1) (p12_ : st (sd (op b)) = 2) (p13_ : nm (sd b) ≠ (ed b)) (p14_ : cl (nm (sd b)) = lv (sd b)) (p15_ : lv (sd (op b)) ≤ fl) (p16_ : ∀ j, 0 ≤ j → j < nL → wh j ≠ 2 → kd j = 0 → wy j ≠ op b) (p17_ : dl (sd b) = lv (sd b) ∨ st (sd b) = 2) (p18_ : 0 ≤ nL) (cL1o : pj_L1o nL kd wy ll wh) (cR : pj_R W nL kd wy wh) (cL1 : pj_L1 sd op ed st lv om dl en cl nL kd wy ll td ls wh) : pj_L1o (nL + 1) (pu kd nL 1) (pu wy nL b) (pu ll nL (lv (sd b))) (pu wh nL 0) := by
  obtain ⟨hop, hed⟩ := hG
  unfold pj_L1o pj_R pj_L1 at *
  intro j0 k0
  simp only [pu]
  have g0 := hop b
  have g1 := hop (wy j0)
  have g2 := hop (wy k0)
  have g3 := hed b (wy j0)
  have g4 := hed b (wy k0)
  have g5 := hed (wy j0) (wy k0)
  have cL1o_0 := cL1o j0 j0
  have cL1o_1 := cL1o j0 k0
  have cL1o_2 := cL1o k0 j0
  have cL1o_3 := cL1o k0 k0
  have cR_0 := cR j0
  have cR_1 := cR k0
  have cL1_0 := cL1 j0
  have cL1_1 := cL1 k0
  have f0 := p2_ b
  have f1 := p2_ (wy j0)
  have f2 := p2_ (op (wy j0))
  have f3 := p2_ (wy k0)
  have f4 := p2_ (op (wy k0))
  have f5 := p16_ j0
  have f6 := p16_ k0
  clear p2_ p16_
  clear hop hed cL1o cR cL1
  grind (splits := 24)

set_option maxHeartbeats 1000000 in
theorem pt_sf_L1b {W : Int → Prop} {sd : Int → Int} {op : Int → Int} {ed : Int → Int} {st : Int → Int} {lv : Int → Int} {nm : Int → Int} {om : Int → Int} {dl : Int → Int} {dn : Int → Int} {en : Int → Int} {pd : Int → Int} {cl : Int → Int} {nL : Int} {kd : Int → Int} {wy : Int → Int} {td : Int → Int} {ls : Int → Int} {wh : Int → Int} {F : Int → Prop} {fl : Int} {fc : Int} {F2 : Int → Prop} {b : Int} (hG : pj_G W sd op ed) (p0_ : W b) (p1_ : F b) (p2_ : ∀ v, F2 v ↔ (F v ∧ v ≠ b)) (p3_ : om (sd (op b)) = (ed b)) (p4_ : dl (sd (op b)) = fl) (p5_ : dn (sd (op b)) = fc) (p6_ : fl < lv (sd b)) (p7_ : 0 ≤ fl) (p8_ : om (sd b) ≠ (ed b)) (p9_ : en b = 1) (p10_ : pd b = 0) (p11_ : st (sd b) = 1) (p12_ : st (sd (op b)) = 2) (p13_ : nm (sd b) ≠ (ed b)) (p14_ : cl (nm (sd b)) = lv (sd b)) (p15_ : lv (sd (op b)) ≤ fl) (p16_ : ∀ j, 0 ≤ j → j < nL → wh j ≠ 2 → kd j = 0 → wy j ≠ op b) (p17_ : dl (sd b) = lv (sd b) ∨ st (sd b) = 2) (p18_ : 0 ≤ nL) (cL1b : pj_L1b sd ed st om pd nL kd wy td ls wh) (cR : pj_R W nL kd wy wh) : pj_L1b sd ed st om (pu pd b 1) (nL + 1) (pu kd nL 1) (pu wy nL b) (pu td nL (nm (sd b))) (pu ls nL (st (sd b))) (pu wh nL 0) := by
  obtain ⟨hop, hed⟩ := hG
  unfold pj_L1b pj_R at *
  intro k0
  simp only [pu]
  have g0 := hop b
  have g1 := hop (wy k0)
  have g2 := hed b (wy k0)
  have cL1b_0 := cL1b k0
  have cR_0 := cR k0
  have f0 := p2_ b
  have f1 := p2_ (wy k0)
  have f2 := p2_ (op (wy k0))
  have f3 := p16_ k0
  clear p2_ p16_
  clear hop hed cL1b cR
  grind (splits := 24)

set_option maxHeartbeats 1000000 in
theorem pt_sf_L1g {W : Int → Prop} {sd : Int → Int} {op : Int → Int} {ed : Int → Int} {st : Int → Int} {lv : Int → Int} {nm : Int → Int} {om : Int → Int} {dl : Int → Int} {dn : Int → Int} {en : Int → Int} {pd : Int → Int} {cl : Int → Int} {nL : Int} {kd : Int → Int} {wy : Int → Int} {td : Int → Int} {ls : Int → Int} {wh : Int → Int} {F : Int → Prop} {fl : Int} {fc : Int} {F2 : Int → Prop} {b : Int} (hG : pj_G W sd op ed) (p0_ : W b) (p1_ : F b) (p2_ : ∀ v, F2 v ↔ (F v ∧ v ≠ b)) (p3_ : om (sd (op b)) = (ed b)) (p4_ : dl (sd (op b)) = fl) (p5_ : dn (sd (op b)) = fc) (p6_ : fl < lv (sd b)) (p7_ : 0 ≤ fl) (p8_ : om (sd b) ≠ (ed b)) (p9_ : en b = 1) (p10_ : pd b = 0) (p11_ : st (sd b) = 1) (p12_ : st (sd (op b)) = 2) (p13_ : nm (sd b) ≠ (ed b)) (p14_ : cl (nm (sd b)) = lv (sd b)) (p15_ : lv (sd (op b)) ≤ fl) (p16_ : ∀ j, 0 ≤ j → j < nL → wh j ≠ 2 → kd j = 0 → wy j ≠ op b) (p17_ : dl (sd b) = lv (sd b) ∨ st (sd b) = 2) (p18_ : 0 ≤ nL) (cL1g : pj_L1g W sd op ed nL kd wy td ls wh) (cR : pj_R W nL kd wy wh) (cCD : pj_CD W sd op ed om dl cl) : pj_L1g W sd op ed (nL + 1) (pu kd nL 1) (pu wy nL b) (pu td nL (nm (sd b))) (pu ls nL (st (sd b))) (pu wh nL 0) := by
  obtain ⟨hop, hed⟩ := hG
  unfold pj_L1g pj_R pj_CD at *
  intro k0 v0
  simp only [pu]
  have g0 := hop b
  have g1 := hop (wy k0)
  have g2 := hop v0
  have g3 := hed b (wy k0)
  have g4 := hed b v0
  have g5 := hed (wy k0) v0
  have cL1g_0 := cL1g k0 b
  have cL1g_1 := cL1g k0 (wy k0)
  have cL1g_2 := cL1g k0 (op (wy k0))
  have cL1g_3 := cL1g k0 v0
  have cL1g_4 := cL1g k0 (op v0)
  have cR_0 := cR k0
  have cCD_0 := cCD b
  have cCD_1 := cCD (wy k0)
  have cCD_2 := cCD (op (wy k0))
  have cCD_3 := cCD v0
  have cCD_4 := cCD (op v0)
  have f0 := p2_ b
  have f1 := p2_ (wy k0)
  have f2 := p2_ (op (wy k0))
  have f3 := p2_ v0
  have f4 := p2_ (op v0)
  have f5 := p16_ k0
  clear p2_ p16_
  clear hop hed cL1g cR cCD
  grind (splits := 24)

set_option maxHeartbeats 1000000 in
theorem pt_sf_L2 {W : Int → Prop} {sd : Int → Int} {op : Int → Int} {ed : Int → Int} {st : Int → Int} {lv : Int → Int} {nm : Int → Int} {tst : Int → Int} {om : Int → Int} {dl : Int → Int} {dn : Int → Int} {en : Int → Int} {pd : Int → Int} {fw : Int → Int} {cl : Int → Int} {nL : Int} {kd : Int → Int} {wy : Int → Int} {ll : Int → Int} {td : Int → Int} {wh : Int → Int} {F : Int → Prop} {fl : Int} {fc : Int} {F2 : Int → Prop} {b : Int} (hG : pj_G W sd op ed) (p0_ : W b) (p1_ : F b) (p2_ : ∀ v, F2 v ↔ (F v ∧ v ≠ b)) (p3_ : om (sd (op b)) = (ed b)) (p4_ : dl (sd (op b)) = fl) (p5_ : dn (sd (op b)) = fc) (p6_ : fl < lv (sd b)) (p7_ : 0 ≤ fl) (p8_ : om (sd b) ≠ (ed b)) (p9_ : en b = 1) (p10_ : pd b = 0) (p11_ : st (sd b) = 1) (p12_ : st (sd (op b)) = 2) (p13_ : nm (sd b) ≠ (ed b)) (p14_ : cl (nm (sd b)) = lv (sd b)) (p15_ : lv (sd (op b)) ≤ fl) (p16_ : ∀ j, 0 ≤ j → j < nL → wh j ≠ 2 → kd j = 0 → wy j ≠ op b) (p17_ : dl (sd b) = lv (sd b) ∨ st (sd b) = 2) (p18_ : 0 ≤ nL) (cL2 : pj_L2 sd op ed st lv nm tst en fw nL kd wy ll td wh) (cR : pj_R W nL kd wy wh) : pj_L2 sd op ed st lv nm tst en fw (nL + 1) (pu kd nL 1) (pu wy nL b) (pu ll nL (lv (sd b))) (pu td nL (nm (sd b))) (pu wh nL 0) := by
  obtain ⟨hop, hed⟩ := hG
  unfold pj_L2 pj_R at *
  intro k0
  simp only [pu]
  have g0 := hop b
  have g1 := hop (wy k0)
  have g2 := hed b (wy k0)
  have cL2_0 := cL2 k0
  have cR_0 := cR k0
  have f0 := p2_ b
  have f1 := p2_ (wy k0)
  have f2 := p2_ (op (wy k0))
  have f3 := p16_ k0
  clear p2_ p16_
  clear hop hed cL2 cR
  grind (splits := 24)

set_option maxHeartbeats 1000000 in
theorem pt_sf_L3 {W : Int → Prop} {sd : Int → Int} {op : Int → Int} {ed : Int → Int} {st : Int → Int} {lv : Int → Int} {nm : Int → Int} {tst : Int → Int} {om : Int → Int} {dl : Int → Int} {dn : Int → Int} {en : Int → Int} {pd : Int → Int} {fw : Int → Int} {cl : Int → Int} {nL : Int} {kd : Int → Int} {wy : Int → Int} {wh : Int → Int} {F : Int → Prop} {fl : Int} {fc : Int} {F2 : Int → Prop} {b : Int} (hG : pj_G W sd op ed) (p0_ : W b) (p1_ : F b) (p2_ : ∀ v, F2 v ↔ (F v ∧ v ≠ b)) (p3_ : om (sd (op b)) = (ed b)) (p4_ : dl (sd (op b)) = fl) (p5_ : dn (sd (op b)) = fc) (p6_ : fl < lv (sd b)) (p7_ : 0 ≤ fl) (p8_ : om (sd b) ≠ (ed b)) (p9_ : en b = 1) (p10_ : pd b = 0) (p11_ : st (sd b) = 1) (p12_ : st (sd (op b)) = 2) (p13_ : nm (sd b) ≠ (ed b)) (p14_ : cl (nm (sd b)) = lv (sd b)) (p15_ : lv (sd (op b)) ≤ fl) (p16_ : ∀ j, 0 ≤ j → j < nL → wh j ≠ 2 → kd j = 0 → wy j ≠ op b) (p17_ : dl (sd b) = lv (sd b) ∨ st (sd b) = 2) (p18_ : 0 ≤ nL) (cL3 : pj_L3 sd op ed st lv nm tst en fw nL kd wy wh) (cR : pj_R W nL kd wy wh) : pj_L3 sd op ed st lv nm tst en fw (nL + 1) (pu kd nL 1) (pu wy nL b) (pu wh nL 0) := by
  obtain ⟨hop, hed⟩ := hG
  unfold pj_L3 pj_R at *
  intro k0
  simp only [pu]
  have g0 := hop b
  have g1 := hop (wy k0)
  have g2 := hed b (wy k0)
  have cL3_0 := cL3 k0
  have cR_0 := cR k0
  have f0 := p2_ b
  have f1 := p2_ (wy k0)
  have f2 := p2_ (op (wy k0))
  have f3 := p16_ k0
  clear p2_ p16_
  clear hop hed cL3 cR
  grind (splits := 24)

set_option maxHeartbeats 1000000 in
theorem pt_sf_L4 {W : Int → Prop} {sd : Int → Int} {op : Int → Int} {ed : Int → Int} {st : Int → Int} {lv : Int → Int} {nm : Int → Int} {tst : Int → Int} {om : Int → Int} {dl : Int → Int} {dn : Int → Int} {en : Int → Int} {pd : Int → Int} {cl : Int → Int} {nL : Int} {kd : Int → Int} {wy : Int → Int} {wh : Int → Int} {F : Int → Prop} {fl : Int} {fc : Int} {F2 : Int → Prop} {b : Int} (hG : pj_G W sd op ed) (p0_ : W b) (p1_ : F b) (p2_ : ∀ v, F2 v ↔ (F v ∧ v ≠ b)) (p3_ : om (sd (op b)) = (ed b)) (p4_ : dl (sd (op b)) = fl) (p5_ : dn (sd (op b)) = fc) (p6_ : fl < lv (sd b)) (p7_ : 0 ≤ fl) (p8_ : om (sd b) ≠ (ed b)) (p9_ : en b = 1) (p10_ : pd b = 0) (p11_ : st (sd b) = 1) (p12_ : st (sd (op b)) = 2) (p13_ : nm (sd b) ≠ (ed b)) (p14_ : cl (nm (sd b)) = lv (sd b)) (p15_ : lv (sd (op b)) ≤ fl) (p16_ : ∀ j, 0 ≤ j → j < nL → wh j ≠ 2 → kd j = 0 → wy j ≠ op b) (p17_ : dl (sd b) = lv (sd b) ∨ st (sd b) = 2) (p18_ : 0 ≤ nL) (cL4 : pj_L4 sd op ed st tst en nL kd wy wh) (cR : pj_R W nL kd wy wh) : pj_L4 sd op ed st tst en (nL + 1) (pu kd nL 1) (pu wy nL b) (pu wh nL 0) := by
  obtain ⟨hop, hed⟩ := hG
  unfold pj_L4 pj_R at *
  intro k0
  simp only [pu]
  have g0 := hop b
  have g1 := hop (wy k0)
  have g2 := hed b (wy k0)
  have cL4_0 := cL4 k0
  have cR_0 := cR k0
  have f0 := p2_ b
  have f1 := p2_ (wy k0)
  have f2 := p2_ (op (wy k0))
  have f3 := p16_ k0
  clear p2_ p16_
  clear hop hed cL4 cR
  grind (splits := 24)

set_option maxHeartbeats 1000000 in
theorem pt_sf_AF {W : Int → Prop} {sd : Int → Int} {op : Int → Int} {ed : Int → Int} {st : Int → Int} {lv : Int → Int} {nm : Int → Int} {tst : Int → Int} {om : Int → Int} {dl : Int → Int} {dn : Int → Int} {af : Int → Int} {en : Int → Int} {pd : Int → Int} {cl : Int → Int} {nL : Int} {kd : Int → Int} {wy : Int → Int} {wh : Int → Int} {F : Int → Prop} {fl : Int} {fc : Int} {F2 : Int → Prop} {b : Int} (hG : pj_G W sd op ed) (p0_ : W b) (p1_ : F b) (p2_ : ∀ v, F2 v ↔ (F v ∧ v ≠ b)) (p3_ : om (sd (op b)) = (ed b)) (p4_ : dl (sd (op b)) = fl) (p5_ : dn (sd (op b)) = fc) (p6_ : fl < lv (sd b)) (p7_ : 0 ≤ fl) (p8_ : om (sd b) ≠ (ed b)) (p9_ : en b = 1) (p10_ : pd b = 0) (p11_ : st (sd b) = 1) (p12_ : st (sd (op b)) = 2) (p13_ : nm (sd b) ≠ (ed b)) (p14_ : cl (nm (sd b)) = lv (sd b)) (p15_ : lv (sd (op b)) ≤ fl) (p16_ : ∀ j, 0 ≤ j → j < nL → wh j ≠ 2 → kd j = 0 → wy j ≠ op b) (p17_ : dl (sd b) = lv (sd b) ∨ st (sd b) = 2) (p18_ : 0 ≤ nL) (cAF : pj_AF W sd op ed tst af nL kd wy wh) : pj_AF W sd op ed tst af (nL + 1) (pu kd nL 1) (pu wy nL b) (pu wh nL 0) := by
  obtain ⟨hop, hed⟩ := hG
  unfold pj_AF at *
  intro v0
  simp only [pu]
  have g0 := hop b
  have g1 := hop v0
  have g2 := hed b v0
  have cAF_0 := cAF b
  have cAF_1 := cAF v0
  have cAF_2 := cAF (op v0)
  have f0 := p2_ b
  have f1 := p2_ v0
  have f2 := p2_ (op v0)
  clear p2_ p16_
  clear hop hed cAF
  grind (splits := 24)

set_option maxHeartbeats 1000000 in
theorem pt_sf_RT {W : Int → Prop} {sd : Int → Int} {op : Int → Int} {ed : Int → Int} {st : Int → Int} {lv : Int → Int} {nm : Int → Int} {tst : Int → Int} {om : Int → Int} {dl : Int → Int} {dn : Int → Int} {en : Int → Int} {pd : Int → Int} {cl : Int → Int} {nL : Int} {kd : Int → Int} {wy : Int → Int} {wh : Int → Int} {F : Int → Prop} {fl : Int} {fc : Int} {F2 : Int → Prop} {b : Int} (hG : pj_G W sd op ed) (p0_ : W b) (p1_ : F b) (p2_ : ∀ v, F2 v ↔ (F v ∧ v ≠ b)) (p3_ : om (sd (op b)) = (ed b)) (p4_ : dl (sd (op b)) = fl) (p5_ : dn (sd (op b)) = fc) (p6_ : fl < lv (sd b)) (p7_ : 0 ≤ fl) (p8_ : om (sd b) ≠ (ed b)) (p9_ : en b = 1) (p10_ : pd b = 0) (p11_ : st (sd b) = 1) (p12_ : st (sd (op b)) = 2) (p13_ : nm (sd b) ≠ (ed b)) (p14_ : cl (nm (sd b)) = lv (sd b)) (p15_ : lv (sd (op b)) ≤ fl) (p16_ : ∀ j, 0 ≤ j → j < nL → wh j ≠ 2 → kd j = 0 → wy j ≠ op b) (p17_ : dl (sd b) = lv (sd b) ∨ st (sd b) = 2) (p18_ : 0 ≤ nL) (cRT : pj_RT sd ed tst nL kd wy wh) (cR : pj_R W nL kd wy wh) : pj_RT sd ed tst (nL + 1) (pu kd nL 1) (pu wy nL b) (pu wh nL 0) := by
  obtain ⟨hop, hed⟩ := hG
  unfold pj_RT pj_R at *
  intro j0 k0
  simp only [pu]
  have g0 := hop b
  have g1 := hop (wy j0)
  have g2 := hop (wy k0)
  have g3 := hed b (wy j0)
  have g4 := hed b (wy k0)
  have g5 := hed (wy j0) (wy k0)
  have cRT_0 := cRT j0 j0
  have cRT_1 := cRT j0 k0
  have cRT_2 := cRT k0 j0
  have cRT_3 := cRT k0 k0
  have cR_0 := cR j0
  have cR_1 := cR k0
  have f0 := p2_ b
  have f1 := p2_ (wy j0)
  have f2 := p2_ (op (wy j0))
  have f3 := p2_ (wy k0)
  have f4 := p2_ (op (wy k0))
  have f5 := p16_ j0
  have f6 := p16_ k0
  clear p2_ p16_
  clear hop hed cRT cR
  grind (splits := 24)

set_option maxHeartbeats 1000000 in
theorem pt_sf_CV {W : Int → Prop} {sd : Int → Int} {op : Int → Int} {ed : Int → Int} {st : Int → Int} {lv : Int → Int} {nm : Int → Int} {tst : Int → Int} {om : Int → Int} {dl : Int → Int} {dn : Int → Int} {en : Int → Int} {pd : Int → Int} {cl : Int → Int} {nL : Int} {kd : Int → Int} {wy : Int → Int} {wh : Int → Int} {F : Int → Prop} {fl : Int} {fc : Int} {F2 : Int → Prop} {b : Int} (hG : pj_G W sd op ed) (p0_ : W b) (p1_ : F b) (p2_ : ∀ v, F2 v ↔ (F v ∧ v ≠ b)) (p3_ : om (sd (op b)) = (ed b)) (p4_ : dl (sd (op b)) = fl) (p5_ : dn (sd (op b)) = fc) (p6_ : fl < lv (sd b)) (p7_ : 0 ≤ fl) (p8_ : om (sd b) ≠ (ed b)) (p9_ : en b = 1) (p10_ : pd b = 0) (p11_ : st (sd b) = 1) (p12_ : st (sd (op b)) = 2) (p13_ : nm (sd b) ≠ (ed b)) (p14_ : cl (nm (sd b)) = lv (sd b)) (p15_ : lv (sd (op b)) ≤ fl) (p16_ : ∀ j, 0 ≤ j → j < nL → wh j ≠ 2 → kd j = 0 → wy j ≠ op b) (p17_ : dl (sd b) = lv (sd b) ∨ st (sd b) = 2) (p18_ : 0 ≤ nL) (cCV : pj_CV W sd op ed tst nL kd wy wh) (cR : pj_R W nL kd wy wh) : pj_CV W sd op ed tst (nL + 1) (pu kd nL 1) (pu wy nL b) (pu wh nL 0) := by
  obtain ⟨hop, hed⟩ := hG
  unfold pj_CV pj_R at *
  intro v0 j0 k0
  simp only [pu]
  have g0 := hop b
  have g1 := hop v0
  have g2 := hop (wy j0)
  have g3 := hop (wy k0)
  have g4 := hed b v0
  have g5 := hed b (wy j0)
  have g6 := hed b (wy k0)
  have g7 := hed v0 (wy j0)
  have g8 := hed v0 (wy k0)
  have g9 := hed (wy j0) (wy k0)
  have cCV_0 := cCV v0 j0 k0
  have cR_0 := cR j0
  have cR_1 := cR k0
  have f0 := p2_ b
  have f1 := p2_ v0
  have f2 := p2_ (op v0)
  have f3 := p2_ (wy j0)
  have f4 := p2_ (op (wy j0))
  have f5 := p2_ (wy k0)
  have f6 := p2_ (op (wy k0))
  have f7 := p16_ j0
  have f8 := p16_ k0
  clear p2_ p16_
  clear hop hed cCV cR
  grind (splits := 24)

set_option maxHeartbeats 1000000 in
theorem pt_sf_L5 {W : Int → Prop} {sd : Int → Int} {op : Int → Int} {ed : Int → Int} {st : Int → Int} {lv : Int → Int} {nm : Int → Int} {inw : Int → Int} {bst : Int → Int} {om : Int → Int} {ps : Int → Int} {dl : Int → Int} {dn : Int → Int} {en : Int → Int} {pd : Int → Int} {rp : Int → Int} {rv : Int → Int} {cl : Int → Int} {tk : Int → Int} {nL : Int} {kd : Int → Int} {wy : Int → Int} {td : Int → Int} {wh : Int → Int} {F : Int → Prop} {fl : Int} {fc : Int} {F2 : Int → Prop} {b : Int} (hG : pj_G W sd op ed) (p0_ : W b) (p1_ : F b) (p2_ : ∀ v, F2 v ↔ (F v ∧ v ≠ b)) (p3_ : om (sd (op b)) = (ed b)) (p4_ : dl (sd (op b)) = fl) (p5_ : dn (sd (op b)) = fc) (p6_ : fl < lv (sd b)) (p7_ : 0 ≤ fl) (p8_ : om (sd b) ≠ (ed b)) (p9_ : en b = 1) (p10_ : pd b = 0) (p11_ : st (sd b) = 1) (p12_ : st (sd (op b)) = 2) (p13_ : nm (sd b) ≠ (ed b)) (p14_ : cl (nm (sd b)) = lv (sd b)) (p15_ : lv (sd (op b)) ≤ fl) (p16_ : ∀ j, 0 ≤ j → j < nL → wh j ≠ 2 → kd j = 0 → wy j ≠ op b) (p17_ : dl (sd b) = lv (sd b) ∨ st (sd b) = 2) (p18_ : 0 ≤ nL) (cL5 : pj_L5 sd op ed st lv nm inw bst om ps dl pd rp rv cl tk nL kd wy td wh) (cR : pj_R W nL kd wy wh) : pj_L5 sd op ed st lv nm inw bst om ps (pu dl (sd (op b)) (lv (sd b))) (pu pd b 1) rp rv cl tk (nL + 1) (pu kd nL 1) (pu wy nL b) (pu td nL (nm (sd b))) (pu wh nL 0) := by
  obtain ⟨hop, hed⟩ := hG
  unfold pj_L5 pj_R at *
  intro k0
  simp only [pu]
  have g0 := hop b
  have g1 := hop (wy k0)
  have g2 := hed b (wy k0)
  have cL5_0 := cL5 k0
  have cR_0 := cR k0
  have f0 := p2_ b
  have f1 := p2_ (wy k0)
  have f2 := p2_ (op (wy k0))
  have f3 := p16_ k0
  clear p2_ p16_
  clear hop hed cL5 cR
  grind (splits := 24)

set_option maxHeartbeats 1000000 in
theorem pt_sf_L5o {W : Int → Prop} {sd : Int → Int} {op : Int → Int} {ed : Int → Int} {st : Int → Int} {lv : Int → Int} {nm : Int → Int} {inw : Int → Int} {bst : Int → Int} {om : Int → Int} {ps : Int → Int} {dl : Int → Int} {dn : Int → Int} {en : Int → Int} {pd : Int → Int} {rp : Int → Int} {rv : Int → Int} {cl : Int → Int} {tk : Int → Int} {nL : Int} {kd : Int → Int} {wy : Int → Int} {td : Int → Int} {wh : Int → Int} {F : Int → Prop} {fl : Int} {fc : Int} {F2 : Int → Prop} {b : Int} (hG : pj_G W sd op ed) (p0_ : W b) (p1_ : F b) (p2_ : ∀ v, F2 v ↔ (F v ∧ v ≠ b)) (p3_ : om (sd (op b)) = (ed b)) (p4_ : dl (sd (op b)) = fl) (p5_ : dn (sd (op b)) = fc) (p6_ : fl < lv (sd b)) (p7_ : 0 ≤ fl) (p8_ : om (sd b) ≠ (ed b)) (p9_ : en b = 1) (p10_ : pd b = 0) (p11_ : st (sd b) = 1) (p12_ : st (sd (op b)) = 2) (p13_ : nm (sd b) ≠ (ed b)) (p14_ : cl (nm (sd b)) = lv (sd b)) (p15_ : lv (sd (op b)) ≤ fl) (p16_ : ∀ j, 0 ≤ j → j < nL → wh j ≠ 2 → kd j = 0 → wy j ≠ op b) (p17_ : dl (sd b) = lv (sd b) ∨ st (sd b) = 2) (p18_ : 0 ≤ nL) (cL5o : pj_L5o sd op ed lv cl nL kd wy wh) (cR : pj_R W nL kd wy wh) (cL5 : pj_L5 sd op ed st lv nm inw bst om ps dl pd rp rv cl tk nL kd wy td wh) : pj_L5o sd op ed lv cl (nL + 1) (pu kd nL 1) (pu wy nL b) (pu wh nL 0) := by
  obtain ⟨hop, hed⟩ := hG
  unfold pj_L5o pj_R pj_L5 at *
  intro j0 k0
  simp only [pu]
  have g0 := hop b
  have g1 := hop (wy j0)
  have g2 := hop (wy k0)
  have g3 := hed b (wy j0)
  have g4 := hed b (wy k0)
  have g5 := hed (wy j0) (wy k0)
  have cL5o_0 := cL5o j0 j0
  have cL5o_1 := cL5o j0 k0
  have cL5o_2 := cL5o k0 j0
  have cL5o_3 := cL5o k0 k0
  have cR_0 := cR j0
  have cR_1 := cR k0
  have cL5_0 := cL5 j0
  have cL5_1 := cL5 k0
  have f0 := p2_ b
  have f1 := p2_ (wy j0)
  have f2 := p2_ (op (wy j0))
  have f3 := p2_ (wy k0)
  have f4 := p2_ (op (wy k0))
  have f5 := p16_ j0
  have f6 := p16_ k0
  clear p2_ p16_
  clear hop hed cL5o cR cL5
  grind (splits := 24)

set_option maxHeartbeats 1000000 in
theorem pt_sf_L5u {W : Int → Prop} {sd : Int → Int} {op : Int → Int} {ed : Int → Int} {st : Int → Int} {lv : Int → Int} {nm : Int → Int} {om : Int → Int} {dl : Int → Int} {dn : Int → Int} {en : Int → Int} {pd : Int → Int} {cl : Int → Int} {nL : Int} {kd : Int → Int} {wy : Int → Int} {wh : Int → Int} {F : Int → Prop} {fl : Int} {fc : Int} {F2 : Int → Prop} {b : Int} (hG : pj_G W sd op ed) (p0_ : W b) (p1_ : F b) (p2_ : ∀ v, F2 v ↔ (F v ∧ v ≠ b)) (p3_ : om (sd (op b)) = (ed b)) (p4_ : dl (sd (op b)) = fl) (p5_ : dn (sd (op b)) = fc) (p6_ : fl < lv (sd b)) (p7_ : 0 ≤ fl) (p8_ : om (sd b) ≠ (ed b)) (p9_ : en b = 1) (p10_ : pd b = 0) (p11_ : st (sd b) = 1) (p12_ : st (sd (op b)) = 2) (p13_ : nm (sd b) ≠ (ed b)) (p14_ : cl (nm (sd b)) = lv (sd b)) (p15_ : lv (sd (op b)) ≤ fl) (p16_ : ∀ j, 0 ≤ j → j < nL → wh j ≠ 2 → kd j = 0 → wy j ≠ op b) (p17_ : dl (sd b) = lv (sd b) ∨ st (sd b) = 2) (p18_ : 0 ≤ nL) (cL5u : pj_L5u nL kd wy wh) (cR : pj_R W nL kd wy wh) : pj_L5u (nL + 1) (pu kd nL 1) (pu wy nL b) (pu wh nL 0) := by
  obtain ⟨hop, hed⟩ := hG
  unfold pj_L5u pj_R at *
  intro j0 k0
  simp only [pu]
  have g0 := hop b
  have g1 := hop (wy j0)
  have g2 := hop (wy k0)
  have g3 := hed b (wy j0)
  have g4 := hed b (wy k0)
  have g5 := hed (wy j0) (wy k0)
  have cL5u_0 := cL5u j0 j0
  have cL5u_1 := cL5u j0 k0
  have cL5u_2 := cL5u k0 j0
  have cL5u_3 := cL5u k0 k0
  have cR_0 := cR j0
  have cR_1 := cR k0
  have f0 := p2_ b
  have f1 := p2_ (wy j0)
  have f2 := p2_ (op (wy j0))
  have f3 := p2_ (wy k0)
  have f4 := p2_ (op (wy k0))
  have f5 := p16_ j0
  have f6 := p16_ k0
  clear p2_ p16_
  clear hop hed cL5u cR
  grind (splits := 24)

set_option maxHeartbeats 1000000 in
theorem pt_sf_L6 {W : Int → Prop} {sd : Int → Int} {op : Int → Int} {ed : Int → Int} {st : Int → Int} {lv : Int → Int} {nm : Int → Int} {tow : Int → Int} {om : Int → Int} {ps : Int → Int} {dl : Int → Int} {dn : Int → Int} {en : Int → Int} {pd : Int → Int} {cl : Int → Int} {cw : Int → Int} {tk : Int → Int} {nL : Int} {kd : Int → Int} {wy : Int → Int} {wh : Int → Int} {F : Int → Prop} {fl : Int} {fc : Int} {F2 : Int → Prop} {b : Int} (hG : pj_G W sd op ed) (p0_ : W b) (p1_ : F b) (p2_ : ∀ v, F2 v ↔ (F v ∧ v ≠ b)) (p3_ : om (sd (op b)) = (ed b)) (p4_ : dl (sd (op b)) = fl) (p5_ : dn (sd (op b)) = fc) (p6_ : fl < lv (sd b)) (p7_ : 0 ≤ fl) (p8_ : om (sd b) ≠ (ed b)) (p9_ : en b = 1) (p10_ : pd b = 0) (p11_ : st (sd b) = 1) (p12_ : st (sd (op b)) = 2) (p13_ : nm (sd b) ≠ (ed b)) (p14_ : cl (nm (sd b)) = lv (sd b)) (p15_ : lv (sd (op b)) ≤ fl) (p16_ : ∀ j, 0 ≤ j → j < nL → wh j ≠ 2 → kd j = 0 → wy j ≠ op b) (p17_ : dl (sd b) = lv (sd b) ∨ st (sd b) = 2) (p18_ : 0 ≤ nL) (cL6 : pj_L6 sd op ed st lv nm tow om ps dl cw tk nL kd wy wh) (cR : pj_R W nL kd wy wh) : pj_L6 sd op ed st lv nm tow om ps (pu dl (sd (op b)) (lv (sd b))) cw tk (nL + 1) (pu kd nL 1) (pu wy nL b) (pu wh nL 0) := by
  obtain ⟨hop, hed⟩ := hG
  unfold pj_L6 pj_R at *
  intro k0
  simp only [pu]
  have g0 := hop b
  have g1 := hop (wy k0)
  have g2 := hed b (wy k0)
  have cL6_0 := cL6 k0
  have cR_0 := cR k0
  have f0 := p2_ b
  have f1 := p2_ (wy k0)
  have f2 := p2_ (op (wy k0))
  have f3 := p16_ k0
  clear p2_ p16_
  clear hop hed cL6 cR
  grind (splits := 24)

set_option maxHeartbeats 1000000 in
theorem pt_sf_L6u {W : Int → Prop} {sd : Int → Int} {op : Int → Int} {ed : Int → Int} {st : Int → Int} {lv : Int → Int} {nm : Int → Int} {om : Int → Int} {dl : Int → Int} {dn : Int → Int} {en : Int → Int} {pd : Int → Int} {cl : Int → Int} {nL : Int} {kd : Int → Int} {wy : Int → Int} {wh : Int → Int} {F : Int → Prop} {fl : Int} {fc : Int} {F2 : Int → Prop} {b : Int} (hG : pj_G W sd op ed) (p0_ : W b) (p1_ : F b) (p2_ : ∀ v, F2 v ↔ (F v ∧ v ≠ b)) (p3_ : om (sd (op b)) = (ed b)) (p4_ : dl (sd (op b)) = fl) (p5_ : dn (sd (op b)) = fc) (p6_ : fl < lv (sd b)) (p7_ : 0 ≤ fl) (p8_ : om (sd b) ≠ (ed b)) (p9_ : en b = 1) (p10_ : pd b = 0) (p11_ : st (sd b) = 1) (p12_ : st (sd (op b)) = 2) (p13_ : nm (sd b) ≠ (ed b)) (p14_ : cl (nm (sd b)) = lv (sd b)) (p15_ : lv (sd (op b)) ≤ fl) (p16_ : ∀ j, 0 ≤ j → j < nL → wh j ≠ 2 → kd j = 0 → wy j ≠ op b) (p17_ : dl (sd b) = lv (sd b) ∨ st (sd b) = 2) (p18_ : 0 ≤ nL) (cL6u : pj_L6u sd op nm nL kd wy wh) (cR : pj_R W nL kd wy wh) : pj_L6u sd op nm (nL + 1) (pu kd nL 1) (pu wy nL b) (pu wh nL 0) := by
  obtain ⟨hop, hed⟩ := hG
  unfold pj_L6u pj_R at *
  intro j0 k0
  simp only [pu]
  have g0 := hop b
  have g1 := hop (wy j0)
  have g2 := hop (wy k0)
  have g3 := hed b (wy j0)
  have g4 := hed b (wy k0)
  have g5 := hed (wy j0) (wy k0)
  have cL6u_0 := cL6u j0 j0
  have cL6u_1 := cL6u j0 k0
  have cL6u_2 := cL6u k0 j0
  have cL6u_3 := cL6u k0 k0
  have cR_0 := cR j0
  have cR_1 := cR k0
  have f0 := p2_ b
  have f1 := p2_ (wy j0)
  have f2 := p2_ (op (wy j0))
  have f3 := p2_ (wy k0)
  have f4 := p2_ (op (wy k0))
  have f5 := p16_ j0
  have f6 := p16_ k0
  clear p2_ p16_
  clear hop hed cL6u cR
  grind (splits := 24)

theorem pj_sf {W : Int → Prop} {sd op ed : Int → Int} {li : Int → Int → Prop} {st lv nm inw tow bst tst exp om ps dl dn af c0 en pd rp rv fw cl cw tk kd wy ll td ls wh : Int → Int} {nL : Int} {F F2 : Int → Prop} {fl fc : Int} {b k : Int} (hG : pj_G W sd op ed) (p0_ : W b) (p1_ : F b) (p2_ : ∀ v, F2 v ↔ (F v ∧ v ≠ b)) (p3_ : om (sd (op b)) = (ed b)) (p4_ : dl (sd (op b)) = fl) (p5_ : dn (sd (op b)) = fc) (p6_ : fl < lv (sd b)) (p7_ : 0 ≤ fl) (p8_ : om (sd b) ≠ (ed b)) (p9_ : en b = 1) (p10_ : pd b = 0) (p11_ : st (sd b) = 1) (p12_ : st (sd (op b)) = 2) (p13_ : nm (sd b) ≠ (ed b)) (p14_ : cl (nm (sd b)) = lv (sd b)) (p15_ : lv (sd (op b)) ≤ fl) (p16_ : ∀ j, 0 ≤ j → j < nL → wh j ≠ 2 → kd j = 0 → wy j ≠ op b) (p17_ : dl (sd b) = lv (sd b) ∨ st (sd b) = 2) (p18_ : 0 ≤ nL) (h : pj_J W sd op ed li st lv nm inw tow bst tst exp om ps dl dn af c0 en pd rp rv fw cl cw tk nL kd wy ll td ls wh F fl fc) : pj_J W sd op ed li st lv nm inw tow bst tst exp om ps (pu dl (sd (op b)) (lv (sd b))) (pu dn (sd (op b)) (nm (sd b))) af c0 en (pu pd b 1) rp rv fw cl cw tk (nL + 1) (pu kd nL 1) (pu wy nL b) (pu ll nL (lv (sd b))) (pu td nL (nm (sd b))) (pu ls nL (st (sd b))) (pu wh nL 0) (F2) fl fc := by
  obtain ⟨cR, cN0, cN1, cN1w, cER, cN1c, cN2, cN2e, cN2b, cN4e, cN4b, cN5, cN7, cN10, cN10e, cN13, cC1, cC2, cR3a, cE1, cU, cA1, cA2, cEC, cR3, cN11, cN12, cN3, cRJ, cFW, cPD, cCC, cCD, cRP, cRP1, cCR, cZ1, cZ0, cTK, cK2, cWH, cFI, cL0, cFC, cL0u, cOC, cCT, cL1, cL1e, cL1o, cL1b, cL1g, cL2, cL3, cL4, cAF, cRT, cCV, cL5, cL5o, cL5u, cL6, cL6u⟩ := h
  exact ⟨pt_sf_R hG p0_ p1_ p2_ p3_ p4_ p5_ p6_ p7_ p8_ p9_ p10_ p11_ p12_ p13_ p14_ p15_ p16_ p17_ p18_ cR, pt_sf_N0 hG p0_ p1_ p2_ p3_ p4_ p5_ p6_ p7_ p8_ p9_ p10_ p11_ p12_ p13_ p14_ p15_ p16_ p17_ p18_ cN0, pt_sf_N1 hG p0_ p1_ p2_ p3_ p4_ p5_ p6_ p7_ p8_ p9_ p10_ p11_ p12_ p13_ p14_ p15_ p16_ p17_ p18_ cN1, cN1w, cER, pt_sf_N1c hG p0_ p1_ p2_ p3_ p4_ p5_ p6_ p7_ p8_ p9_ p10_ p11_ p12_ p13_ p14_ p15_ p16_ p17_ p18_ cN1c cR, cN2, cN2e, cN2b, cN4e, cN4b, cN5, cN7, cN10, cN10e, cN13, cC1, pt_sf_C2 hG p0_ p1_ p2_ p3_ p4_ p5_ p6_ p7_ p8_ p9_ p10_ p11_ p12_ p13_ p14_ p15_ p16_ p17_ p18_ cC2, pt_sf_R3a hG p0_ p1_ p2_ p3_ p4_ p5_ p6_ p7_ p8_ p9_ p10_ p11_ p12_ p13_ p14_ p15_ p16_ p17_ p18_ cR3a, pt_sf_E1 hG p0_ p1_ p2_ p3_ p4_ p5_ p6_ p7_ p8_ p9_ p10_ p11_ p12_ p13_ p14_ p15_ p16_ p17_ p18_ cE1, pt_sf_U hG p0_ p1_ p2_ p3_ p4_ p5_ p6_ p7_ p8_ p9_ p10_ p11_ p12_ p13_ p14_ p15_ p16_ p17_ p18_ cU, pt_sf_A1 hG p0_ p1_ p2_ p3_ p4_ p5_ p6_ p7_ p8_ p9_ p10_ p11_ p12_ p13_ p14_ p15_ p16_ p17_ p18_ cA1, pt_sf_A2 hG p0_ p1_ p2_ p3_ p4_ p5_ p6_ p7_ p8_ p9_ p10_ p11_ p12_ p13_ p14_ p15_ p16_ p17_ p18_ cA2, pt_sf_EC hG p0_ p1_ p2_ p3_ p4_ p5_ p6_ p7_ p8_ p9_ p10_ p11_ p12_ p13_ p14_ p15_ p16_ p17_ p18_ cEC, pt_sf_R3 hG p0_ p1_ p2_ p3_ p4_ p5_ p6_ p7_ p8_ p9_ p10_ p11_ p12_ p13_ p14_ p15_ p16_ p17_ p18_ cR3, cN11, pt_sf_N12 hG p0_ p1_ p2_ p3_ p4_ p5_ p6_ p7_ p8_ p9_ p10_ p11_ p12_ p13_ p14_ p15_ p16_ p17_ p18_ cN12, cN3, cRJ, cFW, pt_sf_PD hG p0_ p1_ p2_ p3_ p4_ p5_ p6_ p7_ p8_ p9_ p10_ p11_ p12_ p13_ p14_ p15_ p16_ p17_ p18_ cPD, cCC, pt_sf_CD hG p0_ p1_ p2_ p3_ p4_ p5_ p6_ p7_ p8_ p9_ p10_ p11_ p12_ p13_ p14_ p15_ p16_ p17_ p18_ cCD, cRP, cRP1, cCR, cZ1, cZ0, cTK, cK2, pt_sf_WH hG p0_ p1_ p2_ p3_ p4_ p5_ p6_ p7_ p8_ p9_ p10_ p11_ p12_ p13_ p14_ p15_ p16_ p17_ p18_ cWH cR, pt_sf_FI hG p0_ p1_ p2_ p3_ p4_ p5_ p6_ p7_ p8_ p9_ p10_ p11_ p12_ p13_ p14_ p15_ p16_ p17_ p18_ cFI cR, pt_sf_L0 hG p0_ p1_ p2_ p3_ p4_ p5_ p6_ p7_ p8_ p9_ p10_ p11_ p12_ p13_ p14_ p15_ p16_ p17_ p18_ cL0 cR, pt_sf_FC hG p0_ p1_ p2_ p3_ p4_ p5_ p6_ p7_ p8_ p9_ p10_ p11_ p12_ p13_ p14_ p15_ p16_ p17_ p18_ cFC cR, pt_sf_L0u hG p0_ p1_ p2_ p3_ p4_ p5_ p6_ p7_ p8_ p9_ p10_ p11_ p12_ p13_ p14_ p15_ p16_ p17_ p18_ cL0u cR, pt_sf_OC hG p0_ p1_ p2_ p3_ p4_ p5_ p6_ p7_ p8_ p9_ p10_ p11_ p12_ p13_ p14_ p15_ p16_ p17_ p18_ cOC cR, pt_sf_CT hG p0_ p1_ p2_ p3_ p4_ p5_ p6_ p7_ p8_ p9_ p10_ p11_ p12_ p13_ p14_ p15_ p16_ p17_ p18_ cCT cR, pt_sf_L1 hG p0_ p1_ p2_ p3_ p4_ p5_ p6_ p7_ p8_ p9_ p10_ p11_ p12_ p13_ p14_ p15_ p16_ p17_ p18_ cL1 cR cL1b, pt_sf_L1e hG p0_ p1_ p2_ p3_ p4_ p5_ p6_ p7_ p8_ p9_ p10_ p11_ p12_ p13_ p14_ p15_ p16_ p17_ p18_ cL1e cR cL1 cL1b, pt_sf_L1o hG p0_ p1_ p2_ p3_ p4_ p5_ p6_ p7_ p8_ p9_ p10_ p11_ p12_ p13_ p14_ p15_ p16_ p17_ p18_ cL1o cR cL1, pt_sf_L1b hG p0_ p1_ p2_ p3_ p4_ p5_ p6_ p7_ p8_ p9_ p10_ p11_ p12_ p13_ p14_ p15_ p16_ p17_ p18_ cL1b cR, pt_sf_L1g hG p0_ p1_ p2_ p3_ p4_ p5_ p6_ p7_ p8_ p9_ p10_ p11_ p12_ p13_ p14_ p15_ p16_ p17_ p18_ cL1g cR cCD, pt_sf_L2 hG p0_ p1_ p2_ p3_ p4_ p5_ p6_ p7_ p8_ p9_ p10_ p11_ p12_ p13_ p14_ p15_ p16_ p17_ p18_ cL2 cR, pt_sf_L3 hG p0_ p1_ p2_ p3_ p4_ p5_ p6_ p7_ p8_ p9_ p10_ p11_ p12_ p13_ p14_ p15_ p16_ p17_ p18_ cL3 cR, pt_sf_L4 hG p0_ p1_ p2_ p3_ p4_ p5_ p6_ p7_ p8_ p9_ p10_ p11_ p12_ p13_ p14_ p15_ p16_ p17_ p18_ cL4 cR, pt_sf_AF hG p0_ p1_ p2_ p3_ p4_ p5_ p6_ p7_ p8_ p9_ p10_ p11_ p12_ p13_ p14_ p15_ p16_ p17_ p18_ cAF, pt_sf_RT hG p0_ p1_ p2_ p3_ p4_ p5_ p6_ p7_ p8_ p9_ p10_ p11_ p12_ p13_ p14_ p15_ p16_ p17_ p18_ cRT cR, pt_sf_CV hG p0_ p1_ p2_ p3_ p4_ p5_ p6_ p7_ p8_ p9_ p10_ p11_ p12_ p13_ p14_ p15_ p16_ p17_ p18_ cCV cR, pt_sf_L5 hG p0_ p1_ p2_ p3_ p4_ p5_ p6_ p7_ p8_ p9_ p10_ p11_ p12_ p13_ p14_ p15_ p16_ p17_ p18_ cL5 cR, pt_sf_L5o hG p0_ p1_ p2_ p3_ p4_ p5_ p6_ p7_ p8_ p9_ p10_ p11_ p12_ p13_ p14_ p15_ p16_ p17_ p18_ cL5o cR cL5, pt_sf_L5u hG p0_ p1_ p2_ p3_ p4_ p5_ p6_ p7_ p8_ p9_ p10_ p11_ p12_ p13_ p14_ p15_ p16_ p17_ p18_ cL5u cR, pt_sf_L6 hG p0_ p1_ p2_ p3_ p4_ p5_ p6_ p7_ p8_ p9_ p10_ p11_ p12_ p13_ p14_ p15_ p16_ p17_ p18_ cL6 cR, pt_sf_L6u hG p0_ p1_ p2_ p3_ p4_ p5_ p6_ p7_ p8_ p9_ p10_ p11_ p12_ p13_ p14_ p15_ p16_ p17_ p18_ cL6u cR⟩

set_option maxHeartbeats 1000000 in
theorem pt_sg_R {W : Int → Prop} {sd : Int → Int} {op : Int → Int} {ed : Int → Int} {st : Int → Int} {lv : Int → Int} {nm : Int → Int} {om : Int → Int} {dl : Int → Int} {dn : Int → Int} {en : Int → Int} {pd : Int → Int} {cl : Int → Int} {nL : Int} {kd : Int → Int} {wy : Int → Int} {wh : Int → Int} {F : Int → Prop} {fl : Int} {fc : Int} {F2 : Int → Prop} {b : Int} (hG : pj_G W sd op ed) (p0_ : W b) (p1_ : F b) (p2_ : ∀ v, F2 v ↔ (F v ∧ v ≠ b)) (p3_ : om (sd (op b)) = (ed b)) (p4_ : dl (sd (op b)) = fl) (p5_ : dn (sd (op b)) = fc) (p6_ : fl < lv (sd b)) (p7_ : 0 ≤ fl) (p8_ : om (sd b) ≠ (ed b)) (p9_ : en b = 1) (p10_ : pd b = 0) (p11_ : st (sd b) = 2) (p12_ : st (sd (op b)) = 2) (p13_ : nm (sd b) ≠ (ed b)) (p14_ : cl (nm (sd b)) = lv (sd b)) (p15_ : lv (sd (op b)) ≤ fl) (p16_ : ∀ j, 0 ≤ j → j < nL → wh j ≠ 2 → kd j = 0 → wy j ≠ op b) (p17_ : dl (sd b) = lv (sd b) ∨ st (sd b) = 2) (p18_ : 0 ≤ nL) (cR : pj_R W nL kd wy wh) : pj_R W (nL + 1) (pu kd nL 1) (pu wy nL b) (pu wh nL 0) := by
  obtain ⟨hop, hed⟩ := hG
  unfold pj_R at *
  intro k0
  simp only [pu]
  have g0 := hop b
  have g1 := hop (wy k0)
  have g2 := hed b (wy k0)
  have cR_0 := cR k0
  have f0 := p2_ b
  have f1 := p2_ (wy k0)
  have f2 := p2_ (op (wy k0))
  have f3 := p16_ k0
  clear p2_ p16_
  clear hop hed cR
  grind (splits := 24)

set_option maxHeartbeats 1000000 in
theorem pt_sg_N0 {W : Int → Prop} {sd : Int → Int} {op : Int → Int} {ed : Int → Int} {st : Int → Int} {lv : Int → Int} {nm : Int → Int} {om : Int → Int} {ps : Int → Int} {dl : Int → Int} {dn : Int → Int} {af : Int → Int} {en : Int → Int} {pd : Int → Int} {cl : Int → Int} {nL : Int} {kd : Int → Int} {wy : Int → Int} {wh : Int → Int} {F : Int → Prop} {fl : Int} {fc : Int} {F2 : Int → Prop} {b : Int} (hG : pj_G W sd op ed) (p0_ : W b) (p1_ : F b) (p2_ : ∀ v, F2 v ↔ (F v ∧ v ≠ b)) (p3_ : om (sd (op b)) = (ed b)) (p4_ : dl (sd (op b)) = fl) (p5_ : dn (sd (op b)) = fc) (p6_ : fl < lv (sd b)) (p7_ : 0 ≤ fl) (p8_ : om (sd b) ≠ (ed b)) (p9_ : en b = 1) (p10_ : pd b = 0) (p11_ : st (sd b) = 2) (p12_ : st (sd (op b)) = 2) (p13_ : nm (sd b) ≠ (ed b)) (p14_ : cl (nm (sd b)) = lv (sd b)) (p15_ : lv (sd (op b)) ≤ fl) (p16_ : ∀ j, 0 ≤ j → j < nL → wh j ≠ 2 → kd j = 0 → wy j ≠ op b) (p17_ : dl (sd b) = lv (sd b) ∨ st (sd b) = 2) (p18_ : 0 ≤ nL) (cN0 : pj_N0 st lv ps dl af) : pj_N0 st lv ps (pu dl (sd (op b)) (lv (sd b))) af := by
  obtain ⟨hop, hed⟩ := hG
  unfold pj_N0 at *
  intro n0
  simp only [pu]
  have g0 := hop b
  have cN0_0 := cN0 (sd (op b))
  have cN0_1 := cN0 n0
  have cN0_2 := cN0 (sd b)
  have f0 := p2_ b
  clear p2_ p16_
  clear hop hed cN0
  grind (splits := 24)

set_option maxHeartbeats 1000000 in
theorem pt_sg_N1 {W : Int → Prop} {sd : Int → Int} {op : Int → Int} {ed : Int → Int} {st : Int → Int} {lv : Int → Int} {nm : Int → Int} {om : Int → Int} {ps : Int → Int} {dl : Int → Int} {dn : Int → Int} {en : Int → Int} {pd : Int → Int} {cl : Int → Int} {nL : Int} {kd : Int → Int} {wy : Int → Int} {wh : Int → Int} {F : Int → Prop} {fl : Int} {fc : Int} {F2 : Int → Prop} {b : Int} (hG : pj_G W sd op ed) (p0_ : W b) (p1_ : F b) (p2_ : ∀ v, F2 v ↔ (F v ∧ v ≠ b)) (p3_ : om (sd (op b)) = (ed b)) (p4_ : dl (sd (op b)) = fl) (p5_ : dn (sd (op b)) = fc) (p6_ : fl < lv (sd b)) (p7_ : 0 ≤ fl) (p8_ : om (sd b) ≠ (ed b)) (p9_ : en b = 1) (p10_ : pd b = 0) (p11_ : st (sd b) = 2) (p12_ : st (sd (op b)) = 2) (p13_ : nm (sd b) ≠ (ed b)) (p14_ : cl (nm (sd b)) = lv (sd b)) (p15_ : lv (sd (op b)) ≤ fl) (p16_ : ∀ j, 0 ≤ j → j < nL → wh j ≠ 2 → kd j = 0 → wy j ≠ op b) (p17_ : dl (sd b) = lv (sd b) ∨ st (sd b) = 2) (p18_ : 0 ≤ nL) (cN1 : pj_N1 st lv om ps dl) : pj_N1 st lv om ps (pu dl (sd (op b)) (lv (sd b))) := by
  obtain ⟨hop, hed⟩ := hG
  unfold pj_N1 at *
  intro n0
  simp only [pu]
  have g0 := hop b
  have cN1_0 := cN1 (sd (op b))
  have cN1_1 := cN1 n0
  have cN1_2 := cN1 (sd b)
  have f0 := p2_ b
  clear p2_ p16_
  clear hop hed cN1
  grind (splits := 24)

set_option maxHeartbeats 1000000 in
theorem pt_sg_N1c {W : Int → Prop} {sd : Int → Int} {op : Int → Int} {ed : Int → Int} {st : Int → Int} {lv : Int → Int} {nm : Int → Int} {om : Int → Int} {dl : Int → Int} {dn : Int → Int} {en : Int → Int} {pd : Int → Int} {cl : Int → Int} {nL : Int} {kd : Int → Int} {wy : Int → Int} {wh : Int → Int} {F : Int → Prop} {fl : Int} {fc : Int} {F2 : Int → Prop} {b : Int} (hG : pj_G W sd op ed) (p0_ : W b) (p1_ : F b) (p2_ : ∀ v, F2 v ↔ (F v ∧ v ≠ b)) (p3_ : om (sd (op b)) = (ed b)) (p4_ : dl (sd (op b)) = fl) (p5_ : dn (sd (op b)) = fc) (p6_ : fl < lv (sd b)) (p7_ : 0 ≤ fl) (p8_ : om (sd b) ≠ (ed b)) (p9_ : en b = 1) (p10_ : pd b = 0) (p11_ : st (sd b) = 2) (p12_ : st (sd (op b)) = 2) (p13_ : nm (sd b) ≠ (ed b)) (p14_ : cl (nm (sd b)) = lv (sd b)) (p15_ : lv (sd (op b)) ≤ fl) (p16_ : ∀ j, 0 ≤ j → j < nL → wh j ≠ 2 → kd j = 0 → wy j ≠ op b) (p17_ : dl (sd b) = lv (sd b) ∨ st (sd b) = 2) (p18_ : 0 ≤ nL) (cN1c : pj_N1c sd op st nL wy wh) (cR : pj_R W nL kd wy wh) : pj_N1c sd op st (nL + 1) (pu wy nL b) (pu wh nL 0) := by
  obtain ⟨hop, hed⟩ := hG
  unfold pj_N1c pj_R at *
  intro k0
  simp only [pu]
  have g0 := hop b
  have g1 := hop (wy k0)
  have g2 := hed b (wy k0)
  have cN1c_0 := cN1c k0
  have cR_0 := cR k0
  have f0 := p2_ b
  have f1 := p2_ (wy k0)
  have f2 := p2_ (op (wy k0))
  have f3 := p16_ k0
  clear p2_ p16_
  clear hop hed cN1c cR
  grind (splits := 24)

set_option maxHeartbeats 1000000 in
theorem pt_sg_C2 {W : Int → Prop} {sd : Int → Int} {op : Int → Int} {ed : Int → Int} {st : Int → Int} {lv : Int → Int} {nm : Int → Int} {om : Int → Int} {dl : Int → Int} {dn : Int → Int} {en : Int → Int} {pd : Int → Int} {cl : Int → Int} {nL : Int} {kd : Int → Int} {wy : Int → Int} {wh : Int → Int} {F : Int → Prop} {fl : Int} {fc : Int} {F2 : Int → Prop} {b : Int} (hG : pj_G W sd op ed) (p0_ : W b) (p1_ : F b) (p2_ : ∀ v, F2 v ↔ (F v ∧ v ≠ b)) (p3_ : om (sd (op b)) = (ed b)) (p4_ : dl (sd (op b)) = fl) (p5_ : dn (sd (op b)) = fc) (p6_ : fl < lv (sd b)) (p7_ : 0 ≤ fl) (p8_ : om (sd b) ≠ (ed b)) (p9_ : en b = 1) (p10_ : pd b = 0) (p11_ : st (sd b) = 2) (p12_ : st (sd (op b)) = 2) (p13_ : nm (sd b) ≠ (ed b)) (p14_ : cl (nm (sd b)) = lv (sd b)) (p15_ : lv (sd (op b)) ≤ fl) (p16_ : ∀ j, 0 ≤ j → j < nL → wh j ≠ 2 → kd j = 0 → wy j ≠ op b) (p17_ : dl (sd b) = lv (sd b) ∨ st (sd b) = 2) (p18_ : 0 ≤ nL) (cC2 : pj_C2 lv nm dl dn cl) : pj_C2 lv nm (pu dl (sd (op b)) (lv (sd b))) (pu dn (sd (op b)) (nm (sd b))) cl := by
  obtain ⟨hop, hed⟩ := hG
  unfold pj_C2 at *
  intro n0
  simp only [pu]
  have g0 := hop b
  have cC2_0 := cC2 (sd (op b))
  have cC2_1 := cC2 n0
  have cC2_2 := cC2 (sd b)
  have f0 := p2_ b
  clear p2_ p16_
  clear hop hed cC2
  grind (splits := 24)

set_option maxHeartbeats 1000000 in
theorem pt_sg_R3a {W : Int → Prop} {sd : Int → Int} {op : Int → Int} {ed : Int → Int} {st : Int → Int} {lv : Int → Int} {nm : Int → Int} {om : Int → Int} {dl : Int → Int} {dn : Int → Int} {en : Int → Int} {pd : Int → Int} {cl : Int → Int} {nL : Int} {kd : Int → Int} {wy : Int → Int} {wh : Int → Int} {F : Int → Prop} {fl : Int} {fc : Int} {F2 : Int → Prop} {b : Int} (hG : pj_G W sd op ed) (p0_ : W b) (p1_ : F b) (p2_ : ∀ v, F2 v ↔ (F v ∧ v ≠ b)) (p3_ : om (sd (op b)) = (ed b)) (p4_ : dl (sd (op b)) = fl) (p5_ : dn (sd (op b)) = fc) (p6_ : fl < lv (sd b)) (p7_ : 0 ≤ fl) (p8_ : om (sd b) ≠ (ed b)) (p9_ : en b = 1) (p10_ : pd b = 0) (p11_ : st (sd b) = 2) (p12_ : st (sd (op b)) = 2) (p13_ : nm (sd b) ≠ (ed b)) (p14_ : cl (nm (sd b)) = lv (sd b)) (p15_ : lv (sd (op b)) ≤ fl) (p16_ : ∀ j, 0 ≤ j → j < nL → wh j ≠ 2 → kd j = 0 → wy j ≠ op b) (p17_ : dl (sd b) = lv (sd b) ∨ st (sd b) = 2) (p18_ : 0 ≤ nL) (cR3a : pj_R3a st lv dl) : pj_R3a st lv (pu dl (sd (op b)) (lv (sd b))) := by
  obtain ⟨hop, hed⟩ := hG
  unfold pj_R3a at *
  intro n0
  simp only [pu]
  have g0 := hop b
  have cR3a_0 := cR3a (sd (op b))
  have cR3a_1 := cR3a n0
  have cR3a_2 := cR3a (sd b)
  have f0 := p2_ b
  clear p2_ p16_
  clear hop hed cR3a
  grind (splits := 24)

set_option maxHeartbeats 1000000 in
theorem pt_sg_E1 {W : Int → Prop} {sd : Int → Int} {op : Int → Int} {ed : Int → Int} {st : Int → Int} {lv : Int → Int} {nm : Int → Int} {om : Int → Int} {dl : Int → Int} {dn : Int → Int} {en : Int → Int} {pd : Int → Int} {cl : Int → Int} {nL : Int} {kd : Int → Int} {wy : Int → Int} {ll : Int → Int} {wh : Int → Int} {F : Int → Prop} {fl : Int} {fc : Int} {F2 : Int → Prop} {b : Int} (hG : pj_G W sd op ed) (p0_ : W b) (p1_ : F b) (p2_ : ∀ v, F2 v ↔ (F v ∧ v ≠ b)) (p3_ : om (sd (op b)) = (ed b)) (p4_ : dl (sd (op b)) = fl) (p5_ : dn (sd (op b)) = fc) (p6_ : fl < lv (sd b)) (p7_ : 0 ≤ fl) (p8_ : om (sd b) ≠ (ed b)) (p9_ : en b = 1) (p10_ : pd b = 0) (p11_ : st (sd b) = 2) (p12_ : st (sd (op b)) = 2) (p13_ : nm (sd b) ≠ (ed b)) (p14_ : cl (nm (sd b)) = lv (sd b)) (p15_ : lv (sd (op b)) ≤ fl) (p16_ : ∀ j, 0 ≤ j → j < nL → wh j ≠ 2 → kd j = 0 → wy j ≠ op b) (p17_ : dl (sd b) = lv (sd b) ∨ st (sd b) = 2) (p18_ : 0 ≤ nL) (cE1 : pj_E1 sd op lv dl nL kd wy ll wh) : pj_E1 sd op lv (pu dl (sd (op b)) (lv (sd b))) (nL + 1) (pu kd nL 1) (pu wy nL b) (pu ll nL (lv (sd b))) (pu wh nL 0) := by
  obtain ⟨hop, hed⟩ := hG
  unfold pj_E1 at *
  intro n0
  simp only [pu]
  have g0 := hop b
  have cE1_0 := cE1 (sd (op b))
  have cE1_1 := cE1 n0
  have cE1_2 := cE1 (sd b)
  have f0 := p2_ b
  clear p2_ p16_
  clear hop hed cE1
  by_cases hq : n0 = (sd (op b))
  · intro _; exact ⟨nL, by grind⟩
  · intro h0
    obtain ⟨k1, hk⟩ := cE1_1 (by grind)
    exact ⟨k1, by grind⟩

set_option maxHeartbeats 1000000 in
theorem pt_sg_U {W : Int → Prop} {sd : Int → Int} {op : Int → Int} {ed : Int → Int} {st : Int → Int} {lv : Int → Int} {nm : Int → Int} {om : Int → Int} {ps : Int → Int} {dl : Int → Int} {dn : Int → Int} {en : Int → Int} {pd : Int → Int} {cl : Int → Int} {nL : Int} {kd : Int → Int} {wy : Int → Int} {wh : Int → Int} {F : Int → Prop} {fl : Int} {fc : Int} {F2 : Int → Prop} {b : Int} (hG : pj_G W sd op ed) (p0_ : W b) (p1_ : F b) (p2_ : ∀ v, F2 v ↔ (F v ∧ v ≠ b)) (p3_ : om (sd (op b)) = (ed b)) (p4_ : dl (sd (op b)) = fl) (p5_ : dn (sd (op b)) = fc) (p6_ : fl < lv (sd b)) (p7_ : 0 ≤ fl) (p8_ : om (sd b) ≠ (ed b)) (p9_ : en b = 1) (p10_ : pd b = 0) (p11_ : st (sd b) = 2) (p12_ : st (sd (op b)) = 2) (p13_ : nm (sd b) ≠ (ed b)) (p14_ : cl (nm (sd b)) = lv (sd b)) (p15_ : lv (sd (op b)) ≤ fl) (p16_ : ∀ j, 0 ≤ j → j < nL → wh j ≠ 2 → kd j = 0 → wy j ≠ op b) (p17_ : dl (sd b) = lv (sd b) ∨ st (sd b) = 2) (p18_ : 0 ≤ nL) (cU : pj_U W sd op ed lv nm om ps dl en cl) : pj_U W sd op ed lv nm om ps (pu dl (sd (op b)) (lv (sd b))) en cl := by
  obtain ⟨hop, hed⟩ := hG
  unfold pj_U at *
  intro w0
  simp only [pu]
  have g0 := hop b
  have g1 := hop w0
  have g2 := hed b w0
  have cU_0 := cU b
  have cU_1 := cU w0
  have cU_2 := cU (op w0)
  have f0 := p2_ b
  have f1 := p2_ w0
  have f2 := p2_ (op w0)
  clear p2_ p16_
  clear hop hed cU
  grind (splits := 24)

set_option maxHeartbeats 1000000 in
theorem pt_sg_A1 {W : Int → Prop} {sd : Int → Int} {op : Int → Int} {ed : Int → Int} {st : Int → Int} {lv : Int → Int} {nm : Int → Int} {om : Int → Int} {dl : Int → Int} {dn : Int → Int} {en : Int → Int} {pd : Int → Int} {cl : Int → Int} {nL : Int} {kd : Int → Int} {wy : Int → Int} {wh : Int → Int} {F : Int → Prop} {fl : Int} {fc : Int} {F2 : Int → Prop} {b : Int} (hG : pj_G W sd op ed) (p0_ : W b) (p1_ : F b) (p2_ : ∀ v, F2 v ↔ (F v ∧ v ≠ b)) (p3_ : om (sd (op b)) = (ed b)) (p4_ : dl (sd (op b)) = fl) (p5_ : dn (sd (op b)) = fc) (p6_ : fl < lv (sd b)) (p7_ : 0 ≤ fl) (p8_ : om (sd b) ≠ (ed b)) (p9_ : en b = 1) (p10_ : pd b = 0) (p11_ : st (sd b) = 2) (p12_ : st (sd (op b)) = 2) (p13_ : nm (sd b) ≠ (ed b)) (p14_ : cl (nm (sd b)) = lv (sd b)) (p15_ : lv (sd (op b)) ≤ fl) (p16_ : ∀ j, 0 ≤ j → j < nL → wh j ≠ 2 → kd j = 0 → wy j ≠ op b) (p17_ : dl (sd b) = lv (sd b) ∨ st (sd b) = 2) (p18_ : 0 ≤ nL) (cA1 : pj_A1 W sd op ed lv nm om dl dn en F fl fc) : pj_A1 W sd op ed lv nm om (pu dl (sd (op b)) (lv (sd b))) (pu dn (sd (op b)) (nm (sd b))) en (F2) fl fc := by
  obtain ⟨hop, hed⟩ := hG
  unfold pj_A1 at *
  intro w0
  simp only [pu]
  have g0 := hop b
  have g1 := hop w0
  have g2 := hed b w0
  have cA1_0 := cA1 b
  have cA1_1 := cA1 w0
  have cA1_2 := cA1 (op w0)
  have f0 := p2_ b
  have f1 := p2_ w0
  have f2 := p2_ (op w0)
  clear p2_ p16_
  clear hop hed cA1
  grind (splits := 24)

set_option maxHeartbeats 1000000 in
theorem pt_sg_A2 {W : Int → Prop} {sd : Int → Int} {op : Int → Int} {ed : Int → Int} {st : Int → Int} {lv : Int → Int} {nm : Int → Int} {om : Int → Int} {ps : Int → Int} {dl : Int → Int} {dn : Int → Int} {en : Int → Int} {pd : Int → Int} {cl : Int → Int} {nL : Int} {kd : Int → Int} {wy : Int → Int} {wh : Int → Int} {F : Int → Prop} {fl : Int} {fc : Int} {F2 : Int → Prop} {b : Int} (hG : pj_G W sd op ed) (p0_ : W b) (p1_ : F b) (p2_ : ∀ v, F2 v ↔ (F v ∧ v ≠ b)) (p3_ : om (sd (op b)) = (ed b)) (p4_ : dl (sd (op b)) = fl) (p5_ : dn (sd (op b)) = fc) (p6_ : fl < lv (sd b)) (p7_ : 0 ≤ fl) (p8_ : om (sd b) ≠ (ed b)) (p9_ : en b = 1) (p10_ : pd b = 0) (p11_ : st (sd b) = 2) (p12_ : st (sd (op b)) = 2) (p13_ : nm (sd b) ≠ (ed b)) (p14_ : cl (nm (sd b)) = lv (sd b)) (p15_ : lv (sd (op b)) ≤ fl) (p16_ : ∀ j, 0 ≤ j → j < nL → wh j ≠ 2 → kd j = 0 → wy j ≠ op b) (p17_ : dl (sd b) = lv (sd b) ∨ st (sd b) = 2) (p18_ : 0 ≤ nL) (cA2 : pj_A2 W sd op ed st lv nm om ps dl dn cl) : pj_A2 W sd op ed st lv nm om ps (pu dl (sd (op b)) (lv (sd b))) (pu dn (sd (op b)) (nm (sd b))) cl := by
  obtain ⟨hop, hed⟩ := hG
  unfold pj_A2 at *
  intro w0
  simp only [pu]
  have g0 := hop b
  have g1 := hop w0
  have g2 := hed b w0
  have cA2_0 := cA2 b
  have cA2_1 := cA2 w0
  have cA2_2 := cA2 (op w0)
  have f0 := p2_ b
  have f1 := p2_ w0
  have f2 := p2_ (op w0)
  clear p2_ p16_
  clear hop hed cA2
  grind (splits := 24)

set_option maxHeartbeats 1000000 in
theorem pt_sg_EC {W : Int → Prop} {sd : Int → Int} {op : Int → Int} {ed : Int → Int} {st : Int → Int} {lv : Int → Int} {nm : Int → Int} {om : Int → Int} {ps : Int → Int} {dl : Int → Int} {dn : Int → Int} {en : Int → Int} {pd : Int → Int} {cl : Int → Int} {nL : Int} {kd : Int → Int} {wy : Int → Int} {wh : Int → Int} {F : Int → Prop} {fl : Int} {fc : Int} {F2 : Int → Prop} {b : Int} (hG : pj_G W sd op ed) (p0_ : W b) (p1_ : F b) (p2_ : ∀ v, F2 v ↔ (F v ∧ v ≠ b)) (p3_ : om (sd (op b)) = (ed b)) (p4_ : dl (sd (op b)) = fl) (p5_ : dn (sd (op b)) = fc) (p6_ : fl < lv (sd b)) (p7_ : 0 ≤ fl) (p8_ : om (sd b) ≠ (ed b)) (p9_ : en b = 1) (p10_ : pd b = 0) (p11_ : st (sd b) = 2) (p12_ : st (sd (op b)) = 2) (p13_ : nm (sd b) ≠ (ed b)) (p14_ : cl (nm (sd b)) = lv (sd b)) (p15_ : lv (sd (op b)) ≤ fl) (p16_ : ∀ j, 0 ≤ j → j < nL → wh j ≠ 2 → kd j = 0 → wy j ≠ op b) (p17_ : dl (sd b) = lv (sd b) ∨ st (sd b) = 2) (p18_ : 0 ≤ nL) (cEC : pj_EC W sd op ed lv nm om ps dl nL kd wy wh F) : pj_EC W sd op ed lv nm om ps (pu dl (sd (op b)) (lv (sd b))) (nL + 1) (pu kd nL 1) (pu wy nL b) (pu wh nL 0) (F2) := by
  obtain ⟨hop, hed⟩ := hG
  unfold pj_EC at *
  intro w0
  simp only [pu]
  have g0 := hop b
  have g1 := hop w0
  have g2 := hed b w0
  have cEC_0 := cEC b
  have cEC_1 := cEC w0
  have cEC_2 := cEC (op w0)
  have f0 := p2_ b
  have f1 := p2_ w0
  have f2 := p2_ (op w0)
  clear p2_ p16_
  clear hop hed cEC
  grind (splits := 24)

set_option maxHeartbeats 1000000 in
theorem pt_sg_N12 {W : Int → Prop} {sd : Int → Int} {op : Int → Int} {ed : Int → Int} {st : Int → Int} {lv : Int → Int} {nm : Int → Int} {inw : Int → Int} {tow : Int → Int} {om : Int → Int} {ps : Int → Int} {dl : Int → Int} {dn : Int → Int} {en : Int → Int} {pd : Int → Int} {cl : Int → Int} {nL : Int} {kd : Int → Int} {wy : Int → Int} {wh : Int → Int} {F : Int → Prop} {fl : Int} {fc : Int} {F2 : Int → Prop} {b : Int} (hG : pj_G W sd op ed) (p0_ : W b) (p1_ : F b) (p2_ : ∀ v, F2 v ↔ (F v ∧ v ≠ b)) (p3_ : om (sd (op b)) = (ed b)) (p4_ : dl (sd (op b)) = fl) (p5_ : dn (sd (op b)) = fc) (p6_ : fl < lv (sd b)) (p7_ : 0 ≤ fl) (p8_ : om (sd b) ≠ (ed b)) (p9_ : en b = 1) (p10_ : pd b = 0) (p11_ : st (sd b) = 2) (p12_ : st (sd (op b)) = 2) (p13_ : nm (sd b) ≠ (ed b)) (p14_ : cl (nm (sd b)) = lv (sd b)) (p15_ : lv (sd (op b)) ≤ fl) (p16_ : ∀ j, 0 ≤ j → j < nL → wh j ≠ 2 → kd j = 0 → wy j ≠ op b) (p17_ : dl (sd b) = lv (sd b) ∨ st (sd b) = 2) (p18_ : 0 ≤ nL) (cN12 : pj_N12 W sd op ed st lv nm inw tow om ps dl en) : pj_N12 W sd op ed st lv nm inw tow om ps (pu dl (sd (op b)) (lv (sd b))) en := by
  obtain ⟨hop, hed⟩ := hG
  unfold pj_N12 at *
  intro w0
  simp only [pu]
  have g0 := hop b
  have g1 := hop w0
  have g2 := hed b w0
  have cN12_0 := cN12 b
  have cN12_1 := cN12 w0
  have cN12_2 := cN12 (op w0)
  have f0 := p2_ b
  have f1 := p2_ w0
  have f2 := p2_ (op w0)
  clear p2_ p16_
  clear hop hed cN12
  grind (splits := 24)

set_option maxHeartbeats 1000000 in
theorem pt_sg_CD {W : Int → Prop} {sd : Int → Int} {op : Int → Int} {ed : Int → Int} {st : Int → Int} {lv : Int → Int} {nm : Int → Int} {om : Int → Int} {dl : Int → Int} {dn : Int → Int} {en : Int → Int} {pd : Int → Int} {cl : Int → Int} {nL : Int} {kd : Int → Int} {wy : Int → Int} {wh : Int → Int} {F : Int → Prop} {fl : Int} {fc : Int} {F2 : Int → Prop} {b : Int} (hG : pj_G W sd op ed) (p0_ : W b) (p1_ : F b) (p2_ : ∀ v, F2 v ↔ (F v ∧ v ≠ b)) (p3_ : om (sd (op b)) = (ed b)) (p4_ : dl (sd (op b)) = fl) (p5_ : dn (sd (op b)) = fc) (p6_ : fl < lv (sd b)) (p7_ : 0 ≤ fl) (p8_ : om (sd b) ≠ (ed b)) (p9_ : en b = 1) (p10_ : pd b = 0) (p11_ : st (sd b) = 2) (p12_ : st (sd (op b)) = 2) (p13_ : nm (sd b) ≠ (ed b)) (p14_ : cl (nm (sd b)) = lv (sd b)) (p15_ : lv (sd (op b)) ≤ fl) (p16_ : ∀ j, 0 ≤ j → j < nL → wh j ≠ 2 → kd j = 0 → wy j ≠ op b) (p17_ : dl (sd b) = lv (sd b) ∨ st (sd b) = 2) (p18_ : 0 ≤ nL) (cCD : pj_CD W sd op ed om dl cl) : pj_CD W sd op ed om (pu dl (sd (op b)) (lv (sd b))) cl := by
  obtain ⟨hop, hed⟩ := hG
  unfold pj_CD at *
  intro w0
  simp only [pu]
  have g0 := hop b
  have g1 := hop w0
  have g2 := hed b w0
  have cCD_0 := cCD b
  have cCD_1 := cCD w0
  have cCD_2 := cCD (op w0)
  have f0 := p2_ b
  have f1 := p2_ w0
  have f2 := p2_ (op w0)
  clear p2_ p16_
  clear hop hed cCD
  grind (splits := 24)

set_option maxHeartbeats 1000000 in
theorem pt_sg_WH {W : Int → Prop} {sd : Int → Int} {op : Int → Int} {ed : Int → Int} {st : Int → Int} {lv : Int → Int} {nm : Int → Int} {om : Int → Int} {dl : Int → Int} {dn : Int → Int} {en : Int → Int} {pd : Int → Int} {cl : Int → Int} {nL : Int} {kd : Int → Int} {wy : Int → Int} {wh : Int → Int} {F : Int → Prop} {fl : Int} {fc : Int} {F2 : Int → Prop} {b : Int} (hG : pj_G W sd op ed) (p0_ : W b) (p1_ : F b) (p2_ : ∀ v, F2 v ↔ (F v ∧ v ≠ b)) (p3_ : om (sd (op b)) = (ed b)) (p4_ : dl (sd (op b)) = fl) (p5_ : dn (sd (op b)) = fc) (p6_ : fl < lv (sd b)) (p7_ : 0 ≤ fl) (p8_ : om (sd b) ≠ (ed b)) (p9_ : en b = 1) (p10_ : pd b = 0) (p11_ : st (sd b) = 2) (p12_ : st (sd (op b)) = 2) (p13_ : nm (sd b) ≠ (ed b)) (p14_ : cl (nm (sd b)) = lv (sd b)) (p15_ : lv (sd (op b)) ≤ fl) (p16_ : ∀ j, 0 ≤ j → j < nL → wh j ≠ 2 → kd j = 0 → wy j ≠ op b) (p17_ : dl (sd b) = lv (sd b) ∨ st (sd b) = 2) (p18_ : 0 ≤ nL) (cWH : pj_WH nL kd wh) (cR : pj_R W nL kd wy wh) : pj_WH (nL + 1) (pu kd nL 1) (pu wh nL 0) := by
  obtain ⟨hop, hed⟩ := hG
  unfold pj_WH pj_R at *
  intro k0
  simp only [pu]
  have g0 := hop b
  have g1 := hop (wy k0)
  have g2 := hed b (wy k0)
  have cWH_0 := cWH k0
  have cR_0 := cR k0
  have f0 := p2_ b
  have f1 := p2_ (wy k0)
  have f2 := p2_ (op (wy k0))
  have f3 := p16_ k0
  clear p2_ p16_
  clear hop hed cWH cR
  grind (splits := 24)

set_option maxHeartbeats 1000000 in
theorem pt_sg_FI {W : Int → Prop} {sd : Int → Int} {op : Int → Int} {ed : Int → Int} {st : Int → Int} {lv : Int → Int} {nm : Int → Int} {om : Int → Int} {dl : Int → Int} {dn : Int → Int} {en : Int → Int} {pd : Int → Int} {cl : Int → Int} {nL : Int} {kd : Int → Int} {wy : Int → Int} {wh : Int → Int} {F : Int → Prop} {fl : Int} {fc : Int} {F2 : Int → Prop} {b : Int} (hG : pj_G W sd op ed) (p0_ : W b) (p1_ : F b) (p2_ : ∀ v, F2 v ↔ (F v ∧ v ≠ b)) (p3_ : om (sd (op b)) = (ed b)) (p4_ : dl (sd (op b)) = fl) (p5_ : dn (sd (op b)) = fc) (p6_ : fl < lv (sd b)) (p7_ : 0 ≤ fl) (p8_ : om (sd b) ≠ (ed b)) (p9_ : en b = 1) (p10_ : pd b = 0) (p11_ : st (sd b) = 2) (p12_ : st (sd (op b)) = 2) (p13_ : nm (sd b) ≠ (ed b)) (p14_ : cl (nm (sd b)) = lv (sd b)) (p15_ : lv (sd (op b)) ≤ fl) (p16_ : ∀ j, 0 ≤ j → j < nL → wh j ≠ 2 → kd j = 0 → wy j ≠ op b) (p17_ : dl (sd b) = lv (sd b) ∨ st (sd b) = 2) (p18_ : 0 ≤ nL) (cFI : pj_FI nL wy wh) (cR : pj_R W nL kd wy wh) : pj_FI (nL + 1) (pu wy nL b) (pu wh nL 0) := by
  obtain ⟨hop, hed⟩ := hG
  unfold pj_FI pj_R at *
  intro j0 k0
  simp only [pu]
  have g0 := hop b
  have g1 := hop (wy j0)
  have g2 := hop (wy k0)
  have g3 := hed b (wy j0)
  have g4 := hed b (wy k0)
  have g5 := hed (wy j0) (wy k0)
  have cFI_0 := cFI j0 j0
  have cFI_1 := cFI j0 k0
  have cFI_2 := cFI k0 j0
  have cFI_3 := cFI k0 k0
  have cR_0 := cR j0
  have cR_1 := cR k0
  have f0 := p2_ b
  have f1 := p2_ (wy j0)
  have f2 := p2_ (op (wy j0))
  have f3 := p2_ (wy k0)
  have f4 := p2_ (op (wy k0))
  have f5 := p16_ j0
  have f6 := p16_ k0
  clear p2_ p16_
  clear hop hed cFI cR
  grind (splits := 24)

set_option maxHeartbeats 1000000 in
theorem pt_sg_L0 {W : Int → Prop} {sd : Int → Int} {op : Int → Int} {ed : Int → Int} {st : Int → Int} {lv : Int → Int} {nm : Int → Int} {om : Int → Int} {ps : Int → Int} {dl : Int → Int} {dn : Int → Int} {c0 : Int → Int} {en : Int → Int} {pd : Int → Int} {cl : Int → Int} {cw : Int → Int} {nL : Int} {kd : Int → Int} {wy : Int → Int} {ll : Int → Int} {wh : Int → Int} {F : Int → Prop} {fl : Int} {fc : Int} {F2 : Int → Prop} {b : Int} (hG : pj_G W sd op ed) (p0_ : W b) (p1_ : F b) (p2_ : ∀ v, F2 v ↔ (F v ∧ v ≠ b)) (p3_ : om (sd (op b)) = (ed b)) (p4_ : dl (sd (op b)) = fl) (p5_ : dn (sd (op b)) = fc) (p6_ : fl < lv (sd b)) (p7_ : 0 ≤ fl) (p8_ : om (sd b) ≠ (ed b)) (p9_ : en b = 1) (p10_ : pd b = 0) (p11_ : st (sd b) = 2) (p12_ : st (sd (op b)) = 2) (p13_ : nm (sd b) ≠ (ed b)) (p14_ : cl (nm (sd b)) = lv (sd b)) (p15_ : lv (sd (op b)) ≤ fl) (p16_ : ∀ j, 0 ≤ j → j < nL → wh j ≠ 2 → kd j = 0 → wy j ≠ op b) (p17_ : dl (sd b) = lv (sd b) ∨ st (sd b) = 2) (p18_ : 0 ≤ nL) (cL0 : pj_L0 sd op ed lv nm om ps dl c0 en cw nL kd wy ll wh) (cR : pj_R W nL kd wy wh) : pj_L0 sd op ed lv nm om ps (pu dl (sd (op b)) (lv (sd b))) c0 en cw (nL + 1) (pu kd nL 1) (pu wy nL b) (pu ll nL (lv (sd b))) (pu wh nL 0) := by
  obtain ⟨hop, hed⟩ := hG
  unfold pj_L0 pj_R at *
  intro k0
  simp only [pu]
  have g0 := hop b
  have g1 := hop (wy k0)
  have g2 := hed b (wy k0)
  have cL0_0 := cL0 k0
  have cR_0 := cR k0
  have f0 := p2_ b
  have f1 := p2_ (wy k0)
  have f2 := p2_ (op (wy k0))
  have f3 := p16_ k0
  clear p2_ p16_
  clear hop hed cL0 cR
  grind (splits := 24)

set_option maxHeartbeats 1000000 in
theorem pt_sg_FC {W : Int → Prop} {sd : Int → Int} {op : Int → Int} {ed : Int → Int} {st : Int → Int} {lv : Int → Int} {nm : Int → Int} {om : Int → Int} {dl : Int → Int} {dn : Int → Int} {en : Int → Int} {pd : Int → Int} {cl : Int → Int} {nL : Int} {kd : Int → Int} {wy : Int → Int} {wh : Int → Int} {F : Int → Prop} {fl : Int} {fc : Int} {F2 : Int → Prop} {b : Int} (hG : pj_G W sd op ed) (p0_ : W b) (p1_ : F b) (p2_ : ∀ v, F2 v ↔ (F v ∧ v ≠ b)) (p3_ : om (sd (op b)) = (ed b)) (p4_ : dl (sd (op b)) = fl) (p5_ : dn (sd (op b)) = fc) (p6_ : fl < lv (sd b)) (p7_ : 0 ≤ fl) (p8_ : om (sd b) ≠ (ed b)) (p9_ : en b = 1) (p10_ : pd b = 0) (p11_ : st (sd b) = 2) (p12_ : st (sd (op b)) = 2) (p13_ : nm (sd b) ≠ (ed b)) (p14_ : cl (nm (sd b)) = lv (sd b)) (p15_ : lv (sd (op b)) ≤ fl) (p16_ : ∀ j, 0 ≤ j → j < nL → wh j ≠ 2 → kd j = 0 → wy j ≠ op b) (p17_ : dl (sd b) = lv (sd b) ∨ st (sd b) = 2) (p18_ : 0 ≤ nL) (cFC : pj_FC op nL kd wy wh F) (cR : pj_R W nL kd wy wh) : pj_FC op (nL + 1) (pu kd nL 1) (pu wy nL b) (pu wh nL 0) (F2) := by
  obtain ⟨hop, hed⟩ := hG
  unfold pj_FC pj_R at *
  intro k0
  simp only [pu]
  have g0 := hop b
  have g1 := hop (wy k0)
  have g2 := hed b (wy k0)
  have cFC_0 := cFC k0
  have cR_0 := cR k0
  have f0 := p2_ b
  have f1 := p2_ (wy k0)
  have f2 := p2_ (op (wy k0))
  have f3 := p16_ k0
  clear p2_ p16_
  clear hop hed cFC cR
  grind (splits := 24)

set_option maxHeartbeats 1000000 in
theorem pt_sg_L0u {W : Int → Prop} {sd : Int → Int} {op : Int → Int} {ed : Int → Int} {st : Int → Int} {lv : Int → Int} {nm : Int → Int} {om : Int → Int} {dl : Int → Int} {dn : Int → Int} {en : Int → Int} {pd : Int → Int} {cl : Int → Int} {nL : Int} {kd : Int → Int} {wy : Int → Int} {wh : Int → Int} {F : Int → Prop} {fl : Int} {fc : Int} {F2 : Int → Prop} {b : Int} (hG : pj_G W sd op ed) (p0_ : W b) (p1_ : F b) (p2_ : ∀ v, F2 v ↔ (F v ∧ v ≠ b)) (p3_ : om (sd (op b)) = (ed b)) (p4_ : dl (sd (op b)) = fl) (p5_ : dn (sd (op b)) = fc) (p6_ : fl < lv (sd b)) (p7_ : 0 ≤ fl) (p8_ : om (sd b) ≠ (ed b)) (p9_ : en b = 1) (p10_ : pd b = 0) (p11_ : st (sd b) = 2) (p12_ : st (sd (op b)) = 2) (p13_ : nm (sd b) ≠ (ed b)) (p14_ : cl (nm (sd b)) = lv (sd b)) (p15_ : lv (sd (op b)) ≤ fl) (p16_ : ∀ j, 0 ≤ j → j < nL → wh j ≠ 2 → kd j = 0 → wy j ≠ op b) (p17_ : dl (sd b) = lv (sd b) ∨ st (sd b) = 2) (p18_ : 0 ≤ nL) (cL0u : pj_L0u nL kd wy wh) (cR : pj_R W nL kd wy wh) : pj_L0u (nL + 1) (pu kd nL 1) (pu wy nL b) (pu wh nL 0) := by
  obtain ⟨hop, hed⟩ := hG
  unfold pj_L0u pj_R at *
  intro j0 k0
  simp only [pu]
  have g0 := hop b
  have g1 := hop (wy j0)
  have g2 := hop (wy k0)
  have g3 := hed b (wy j0)
  have g4 := hed b (wy k0)
  have g5 := hed (wy j0) (wy k0)
  have cL0u_0 := cL0u j0 j0
  have cL0u_1 := cL0u j0 k0
  have cL0u_2 := cL0u k0 j0
  have cL0u_3 := cL0u k0 k0
  have cR_0 := cR j0
  have cR_1 := cR k0
  have f0 := p2_ b
  have f1 := p2_ (wy j0)
  have f2 := p2_ (op (wy j0))
  have f3 := p2_ (wy k0)
  have f4 := p2_ (op (wy k0))
  have f5 := p16_ j0
  have f6 := p16_ k0
  clear p2_ p16_
  clear hop hed cL0u cR
  grind (splits := 24)

set_option maxHeartbeats 1000000 in
theorem pt_sg_OC {W : Int → Prop} {sd : Int → Int} {op : Int → Int} {ed : Int → Int} {st : Int → Int} {lv : Int → Int} {nm : Int → Int} {om : Int → Int} {dl : Int → Int} {dn : Int → Int} {en : Int → Int} {pd : Int → Int} {cl : Int → Int} {nL : Int} {kd : Int → Int} {wy : Int → Int} {wh : Int → Int} {F : Int → Prop} {fl : Int} {fc : Int} {F2 : Int → Prop} {b : Int} (hG : pj_G W sd op ed) (p0_ : W b) (p1_ : F b) (p2_ : ∀ v, F2 v ↔ (F v ∧ v ≠ b)) (p3_ : om (sd (op b)) = (ed b)) (p4_ : dl (sd (op b)) = fl) (p5_ : dn (sd (op b)) = fc) (p6_ : fl < lv (sd b)) (p7_ : 0 ≤ fl) (p8_ : om (sd b) ≠ (ed b)) (p9_ : en b = 1) (p10_ : pd b = 0) (p11_ : st (sd b) = 2) (p12_ : st (sd (op b)) = 2) (p13_ : nm (sd b) ≠ (ed b)) (p14_ : cl (nm (sd b)) = lv (sd b)) (p15_ : lv (sd (op b)) ≤ fl) (p16_ : ∀ j, 0 ≤ j → j < nL → wh j ≠ 2 → kd j = 0 → wy j ≠ op b) (p17_ : dl (sd b) = lv (sd b) ∨ st (sd b) = 2) (p18_ : 0 ≤ nL) (cOC : pj_OC nL kd wy wh) (cR : pj_R W nL kd wy wh) : pj_OC (nL + 1) (pu kd nL 1) (pu wy nL b) (pu wh nL 0) := by
  obtain ⟨hop, hed⟩ := hG
  unfold pj_OC pj_R at *
  intro j0 k0
  simp only [pu]
  have g0 := hop b
  have g1 := hop (wy j0)
  have g2 := hop (wy k0)
  have g3 := hed b (wy j0)
  have g4 := hed b (wy k0)
  have g5 := hed (wy j0) (wy k0)
  have cOC_0 := cOC j0 j0
  have cOC_1 := cOC j0 k0
  have cOC_2 := cOC k0 j0
  have cOC_3 := cOC k0 k0
  have cR_0 := cR j0
  have cR_1 := cR k0
  have f0 := p2_ b
  have f1 := p2_ (wy j0)
  have f2 := p2_ (op (wy j0))
  have f3 := p2_ (wy k0)
  have f4 := p2_ (op (wy k0))
  have f5 := p16_ j0
  have f6 := p16_ k0
  clear p2_ p16_
  clear hop hed cOC cR
  grind (splits := 24)

set_option maxHeartbeats 1000000 in
theorem pt_sg_CT {W : Int → Prop} {sd : Int → Int} {op : Int → Int} {ed : Int → Int} {st : Int → Int} {lv : Int → Int} {nm : Int → Int} {om : Int → Int} {dl : Int → Int} {dn : Int → Int} {en : Int → Int} {pd : Int → Int} {cl : Int → Int} {nL : Int} {kd : Int → Int} {wy : Int → Int} {wh : Int → Int} {F : Int → Prop} {fl : Int} {fc : Int} {F2 : Int → Prop} {b : Int} (hG : pj_G W sd op ed) (p0_ : W b) (p1_ : F b) (p2_ : ∀ v, F2 v ↔ (F v ∧ v ≠ b)) (p3_ : om (sd (op b)) = (ed b)) (p4_ : dl (sd (op b)) = fl) (p5_ : dn (sd (op b)) = fc) (p6_ : fl < lv (sd b)) (p7_ : 0 ≤ fl) (p8_ : om (sd b) ≠ (ed b)) (p9_ : en b = 1) (p10_ : pd b = 0) (p11_ : st (sd b) = 2) (p12_ : st (sd (op b)) = 2) (p13_ : nm (sd b) ≠ (ed b)) (p14_ : cl (nm (sd b)) = lv (sd b)) (p15_ : lv (sd (op b)) ≤ fl) (p16_ : ∀ j, 0 ≤ j → j < nL → wh j ≠ 2 → kd j = 0 → wy j ≠ op b) (p17_ : dl (sd b) = lv (sd b) ∨ st (sd b) = 2) (p18_ : 0 ≤ nL) (cCT : pj_CT nL kd wy wh) (cR : pj_R W nL kd wy wh) : pj_CT (nL + 1) (pu kd nL 1) (pu wy nL b) (pu wh nL 0) := by
  obtain ⟨hop, hed⟩ := hG
  unfold pj_CT pj_R at *
  intro j0 k0
  simp only [pu]
  have g0 := hop b
  have g1 := hop (wy j0)
  have g2 := hop (wy k0)
  have g3 := hed b (wy j0)
  have g4 := hed b (wy k0)
  have g5 := hed (wy j0) (wy k0)
  have cCT_0 := cCT j0 j0
  have cCT_1 := cCT j0 k0
  have cCT_2 := cCT k0 j0
  have cCT_3 := cCT k0 k0
  have cR_0 := cR j0
  have cR_1 := cR k0
  have f0 := p2_ b
  have f1 := p2_ (wy j0)
  have f2 := p2_ (op (wy j0))
  have f3 := p2_ (wy k0)
  have f4 := p2_ (op (wy k0))
  have f5 := p16_ j0
  have f6 := p16_ k0
  clear p2_ p16_
  clear hop hed cCT cR
  grind (splits := 24)

set_option maxHeartbeats 1000000 in
theorem pt_sg_L1 {W : Int → Prop} {sd : Int → Int} {op : Int → Int} {ed : Int → Int} {st : Int → Int} {lv : Int → Int} {nm : Int → Int} {om : Int → Int} {dl : Int → Int} {dn : Int → Int} {en : Int → Int} {pd : Int → Int} {cl : Int → Int} {nL : Int} {kd : Int → Int} {wy : Int → Int} {ll : Int → Int} {td : Int → Int} {ls : Int → Int} {wh : Int → Int} {F : Int → Prop} {fl : Int} {fc : Int} {F2 : Int → Prop} {b : Int} (hG : pj_G W sd op ed) (p0_ : W b) (p1_ : F b) (p2_ : ∀ v, F2 v ↔ (F v ∧ v ≠ b)) (p3_ : om (sd (op b)) = (ed b)) (p4_ : dl (sd (op b)) = fl) (p5_ : dn (sd (op b)) = fc) (p6_ : fl < lv (sd b)) (p7_ : 0 ≤ fl) (p8_ : om (sd b) ≠ (ed b)) (p9_ : en b = 1) (p10_ : pd b = 0) (p11_ : st (sd b) = 2) (p12_ : st (sd (op b)) = 2) (p13_ : nm (sd b) ≠ (ed b)) (p14_ : cl (nm (sd b)) = lv (sd b)) (p15_ : lv (sd (op b)) ≤ fl) (p16_ : ∀ j, 0 ≤ j → j < nL → wh j ≠ 2 → kd j = 0 → wy j ≠ op b) (p17_ : dl (sd b) = lv (sd b) ∨ st (sd b) = 2) (p18_ : 0 ≤ nL) (cL1 : pj_L1 sd op ed st lv om dl en cl nL kd wy ll td ls wh) (cR : pj_R W nL kd wy wh) (cL1b : pj_L1b sd ed st om pd nL kd wy td ls wh) : pj_L1 sd op ed st lv om (pu dl (sd (op b)) (lv (sd b))) en cl (nL + 1) (pu kd nL 1) (pu wy nL b) (pu ll nL (lv (sd b))) (pu td nL (nm (sd b))) (pu ls nL (st (sd b))) (pu wh nL 0) := by
  obtain ⟨hop, hed⟩ := hG
  unfold pj_L1 pj_R pj_L1b at *
  intro k0
  simp only [pu]
  have g0 := hop b
  have g1 := hop (wy k0)
  have g2 := hed b (wy k0)
  have cL1_0 := cL1 k0
  have cR_0 := cR k0
  have cL1b_0 := cL1b k0
  have f0 := p2_ b
  have f1 := p2_ (wy k0)
  have f2 := p2_ (op (wy k0))
  have f3 := p16_ k0
  clear p2_ p16_
  clear hop hed cL1 cR cL1b
  grind (splits := 24)

set_option maxHeartbeats 1000000 in
theorem pt_sg_L1e {W : Int → Prop} {sd : Int → Int} {op : Int → Int} {ed : Int → Int} {st : Int → Int} {lv : Int → Int} {nm : Int → Int} {om : Int → Int} {dl : Int → Int} {dn : Int → Int} {en : Int → Int} {pd : Int → Int} {cl : Int → Int} {nL : Int} {kd : Int → Int} {wy : Int → Int} {ll : Int → Int} {td : Int → Int} {ls : Int → Int} {wh : Int → Int} {F : Int → Prop} {fl : Int} {fc : Int} {F2 : Int → Prop} {b : Int} (hG : pj_G W sd op ed) (p0_ : W b) (p1_ : F b) (p2_ : ∀ v, F2 v ↔ (F v ∧ v ≠ b)) (p3_ : om (sd (op b)) = (ed b)) (p4_ : dl (sd (op b)) = fl) (p5_ : dn (sd (op b)) = fc) (p6_ : fl < lv (sd b)) (p7_ : 0 ≤ fl) (p8_ : om (sd b) ≠ (ed b)) (p9_ : en b = 1) (p10_ : pd b = 0) (p11_ : st (sd b) = 2) (p12_ : st (sd (op b)) = 2) (p13_ : nm (sd b) ≠ (ed b)) (p14_ : cl (nm (sd b)) = lv (sd b)) (p15_ : lv (sd (op b)) ≤ fl) (p16_ : ∀ j, 0 ≤ j → j < nL → wh j ≠ 2 → kd j = 0 → wy j ≠ op b) (p17_ : dl (sd b) = lv (sd b) ∨ st (sd b) = 2) (p18_ : 0 ≤ nL) (cL1e : pj_L1e sd op dl dn nL kd wy ll td ls wh) (cR : pj_R W nL kd wy wh) (cL1 : pj_L1 sd op ed st lv om dl en cl nL kd wy ll td ls wh) (cL1b : pj_L1b sd ed st om pd nL kd wy td ls wh) : pj_L1e sd op (pu dl (sd (op b)) (lv (sd b))) (pu dn (sd (op b)) (nm (sd b))) (nL + 1) (pu kd nL 1) (pu wy nL b) (pu ll nL (lv (sd b))) (pu td nL (nm (sd b))) (pu ls nL (st (sd b))) (pu wh nL 0) := by
  obtain ⟨hop, hed⟩ := hG
  unfold pj_L1e pj_R pj_L1 pj_L1b at *
  intro k0
  simp only [pu]
  have g0 := hop b
  have g1 := hop (wy k0)
  have g2 := hed b (wy k0)
  have cL1e_0 := cL1e k0
  have cR_0 := cR k0
  have cL1_0 := cL1 k0
  have cL1b_0 := cL1b k0
  have f0 := p2_ b
  have f1 := p2_ (wy k0)
  have f2 := p2_ (op (wy k0))
  have f3 := p16_ k0
  clear p2_ p16_
  clear hop hed cL1e cR cL1 cL1b
  grind (splits := 24)

set_option maxHeartbeats 1000000 in
theorem pt_sg_L1o {W : Int → Prop} {sd : Int → Int} {op : Int → Int} {ed : Int → Int} {st : Int → Int} {lv : Int → Int} {nm : Int → Int} {om : Int → Int} {dl : Int → Int} {dn : Int → Int} {en : Int → Int} {pd : Int → Int} {cl : Int → Int} {nL : Int} {kd : Int → Int} {wy : Int → Int} {ll : Int → Int} {td : Int → Int} {ls : Int → Int} {wh : Int → Int} {F : Int → Prop} {fl : Int} {fc : Int} {F2 : Int → Prop} {b : Int} (hG : pj_G W sd op ed) (p0_ : W b) (p1_ : F b) (p2_ : ∀ v, F2 v ↔ (F v ∧ v ≠ b)) (p3_ : om (sd (op b)) = (ed b)) (p4_ : dl (sd (op b)) = fl) (p5_ : dn (sd (op b)) = fc) (p6_ : fl < lv (sd b)) (p7_ : 0 ≤ fl) (p8_ : om (sd b) ≠ (ed b)) (p9_ : en b = 1) (p10_ : pd b = 0) (p11_ : st (sd b) = 2) (p12_ : st (sd (op b)) = 2) (p13_ : nm (sd b) ≠ (ed b)) (p14_ : cl (nm (sd b)) = lv (sd b)) (p15_ : lv (sd (op b)) ≤ fl) (p16_ : ∀ j, 0 ≤ j → j < nL → wh j ≠ 2 → kd j = 0 → wy j ≠ op b) (p17_ : dl (sd b) = lv (sd b) ∨ st (sd b) = 2) (p18_ : 0 ≤ nL) (cL1o : pj_L1o nL kd wy ll wh) (cR : pj_R W nL kd wy wh) (cL1 : pj_L1 sd op ed st lv om dl en cl nL kd wy ll td ls wh) : pj_L1o (nL + 1) (pu kd nL 1) (pu wy nL b) (pu ll nL (lv (sd b))) (pu wh nL 0) := by
  obtain ⟨hop, hed⟩ := hG
  unfold pj_L1o pj_R pj_L1 at *
  intro j0 k0
  simp only [pu]
  have g0 := hop b
  have g1 := hop (wy j0)
  have g2 := hop (wy k0)
  have g3 := hed b (wy j0)
  have g4 := hed b (wy k0)
  have g5 := hed (wy j0) (wy k0)
  have cL1o_0 := cL1o j0 j0
  have cL1o_1 := cL1o j0 k0
  have cL1o_2 := cL1o k0 j0
  have cL1o_3 := cL1o k0 k0
  have cR_0 := cR j0
  have cR_1 := cR k0
  have cL1_0 := cL1 j0
  have cL1_1 := cL1 k0
  have f0 := p2_ b
  have f1 := p2_ (wy j0)
  have f2 := p2_ (op (wy j0))
  have f3 := p2_ (wy k0)
  have f4 := p2_ (op (wy k0))
  have f5 := p16_ j0
  have f6 := p16_ k0
  clear p2_ p16_
  clear hop hed cL1o cR cL1
  grind (splits := 24)

set_option maxHeartbeats 1000000 in
theorem pt_sg_L1b {W : Int → Prop} {sd : Int → Int} {op : Int → Int} {ed : Int → Int} {st : Int → Int} {lv : Int → Int} {nm : Int → Int} {om : Int → Int} {dl : Int → Int} {dn : Int → Int} {en : Int → Int} {pd : Int → Int} {cl : Int → Int} {nL : Int} {kd : Int → Int} {wy : Int → Int} {td : Int → Int} {ls : Int → Int} {wh : Int → Int} {F : Int → Prop} {fl : Int} {fc : Int} {F2 : Int → Prop} {b : Int} (hG : pj_G W sd op ed) (p0_ : W b) (p1_ : F b) (p2_ : ∀ v, F2 v ↔ (F v ∧ v ≠ b)) (p3_ : om (sd (op b)) = (ed b)) (p4_ : dl (sd (op b)) = fl) (p5_ : dn (sd (op b)) = fc) (p6_ : fl < lv (sd b)) (p7_ : 0 ≤ fl) (p8_ : om (sd b) ≠ (ed b)) (p9_ : en b = 1) (p10_ : pd b = 0) (p11_ : st (sd b) = 2) (p12_ : st (sd (op b)) = 2) (p13_ : nm (sd b) ≠ (ed b)) (p14_ : cl (nm (sd b)) = lv (sd b)) (p15_ : lv (sd (op b)) ≤ fl) (p16_ : ∀ j, 0 ≤ j → j < nL → wh j ≠ 2 → kd j = 0 → wy j ≠ op b) (p17_ : dl (sd b) = lv (sd b) ∨ st (sd b) = 2) (p18_ : 0 ≤ nL) (cL1b : pj_L1b sd ed st om pd nL kd wy td ls wh) (cR : pj_R W nL kd wy wh) : pj_L1b sd ed st om pd (nL + 1) (pu kd nL 1) (pu wy nL b) (pu td nL (nm (sd b))) (pu ls nL (st (sd b))) (pu wh nL 0) := by
  obtain ⟨hop, hed⟩ := hG
  unfold pj_L1b pj_R at *
  intro k0
  simp only [pu]
  have g0 := hop b
  have g1 := hop (wy k0)
  have g2 := hed b (wy k0)
  have cL1b_0 := cL1b k0
  have cR_0 := cR k0
  have f0 := p2_ b
  have f1 := p2_ (wy k0)
  have f2 := p2_ (op (wy k0))
  have f3 := p16_ k0
  clear p2_ p16_
  clear hop hed cL1b cR
  grind (splits := 24)

set_option maxHeartbeats 1000000 in
theorem pt_sg_L1g {W : Int → Prop} {sd : Int → Int} {op : Int → Int} {ed : Int → Int} {st : Int → Int} {lv : Int → Int} {nm : Int → Int} {om : Int → Int} {dl : Int → Int} {dn : Int → Int} {en : Int → Int} {pd : Int → Int} {cl : Int → Int} {nL : Int} {kd : Int → Int} {wy : Int → Int} {td : Int → Int} {ls : Int → Int} {wh : Int → Int} {F : Int → Prop} {fl : Int} {fc : Int} {F2 : Int → Prop} {b : Int} (hG : pj_G W sd op ed) (p0_ : W b) (p1_ : F b) (p2_ : ∀ v, F2 v ↔ (F v ∧ v ≠ b)) (p3_ : om (sd (op b)) = (ed b)) (p4_ : dl (sd (op b)) = fl) (p5_ : dn (sd (op b)) = fc) (p6_ : fl < lv (sd b)) (p7_ : 0 ≤ fl) (p8_ : om (sd b) ≠ (ed b)) (p9_ : en b = 1) (p10_ : pd b = 0) (p11_ : st (sd b) = 2) (p12_ : st (sd (op b)) = 2) (p13_ : nm (sd b) ≠ (ed b)) (p14_ : cl (nm (sd b)) = lv (sd b)) (p15_ : lv (sd (op b)) ≤ fl) (p16_ : ∀ j, 0 ≤ j → j < nL → wh j ≠ 2 → kd j = 0 → wy j ≠ op b) (p17_ : dl (sd b) = lv (sd b) ∨ st (sd b) = 2) (p18_ : 0 ≤ nL) (cL1g : pj_L1g W sd op ed nL kd wy td ls wh) (cR : pj_R W nL kd wy wh) (cCD : pj_CD W sd op ed om dl cl) : pj_L1g W sd op ed (nL + 1) (pu kd nL 1) (pu wy nL b) (pu td nL (nm (sd b))) (pu ls nL (st (sd b))) (pu wh nL 0) := by
  obtain ⟨hop, hed⟩ := hG
  unfold pj_L1g pj_R pj_CD at *
  intro k0 v0
  simp only [pu]
  have g0 := hop b
  have g1 := hop (wy k0)
  have g2 := hop v0
  have g3 := hed b (wy k0)
  have g4 := hed b v0
  have g5 := hed (wy k0) v0
  have cL1g_0 := cL1g k0 b
  have cL1g_1 := cL1g k0 (wy k0)
  have cL1g_2 := cL1g k0 (op (wy k0))
  have cL1g_3 := cL1g k0 v0
  have cL1g_4 := cL1g k0 (op v0)
  have cR_0 := cR k0
  have cCD_0 := cCD b
  have cCD_1 := cCD (wy k0)
  have cCD_2 := cCD (op (wy k0))
  have cCD_3 := cCD v0
  have cCD_4 := cCD (op v0)
  have f0 := p2_ b
  have f1 := p2_ (wy k0)
  have f2 := p2_ (op (wy k0))
  have f3 := p2_ v0
  have f4 := p2_ (op v0)
  have f5 := p16_ k0
  clear p2_ p16_
  clear hop hed cL1g cR cCD
  grind (splits := 24)

set_option maxHeartbeats 1000000 in
theorem pt_sg_L2 {W : Int → Prop} {sd : Int → Int} {op : Int → Int} {ed : Int → Int} {st : Int → Int} {lv : Int → Int} {nm : Int → Int} {tst : Int → Int} {om : Int → Int} {dl : Int → Int} {dn : Int → Int} {en : Int → Int} {pd : Int → Int} {fw : Int → Int} {cl : Int → Int} {nL : Int} {kd : Int → Int} {wy : Int → Int} {ll : Int → Int} {td : Int → Int} {wh : Int → Int} {F : Int → Prop} {fl : Int} {fc : Int} {F2 : Int → Prop} {b : Int} (hG : pj_G W sd op ed) (p0_ : W b) (p1_ : F b) (p2_ : ∀ v, F2 v ↔ (F v ∧ v ≠ b)) (p3_ : om (sd (op b)) = (ed b)) (p4_ : dl (sd (op b)) = fl) (p5_ : dn (sd (op b)) = fc) (p6_ : fl < lv (sd b)) (p7_ : 0 ≤ fl) (p8_ : om (sd b) ≠ (ed b)) (p9_ : en b = 1) (p10_ : pd b = 0) (p11_ : st (sd b) = 2) (p12_ : st (sd (op b)) = 2) (p13_ : nm (sd b) ≠ (ed b)) (p14_ : cl (nm (sd b)) = lv (sd b)) (p15_ : lv (sd (op b)) ≤ fl) (p16_ : ∀ j, 0 ≤ j → j < nL → wh j ≠ 2 → kd j = 0 → wy j ≠ op b) (p17_ : dl (sd b) = lv (sd b) ∨ st (sd b) = 2) (p18_ : 0 ≤ nL) (cL2 : pj_L2 sd op ed st lv nm tst en fw nL kd wy ll td wh) (cR : pj_R W nL kd wy wh) : pj_L2 sd op ed st lv nm tst en fw (nL + 1) (pu kd nL 1) (pu wy nL b) (pu ll nL (lv (sd b))) (pu td nL (nm (sd b))) (pu wh nL 0) := by
  obtain ⟨hop, hed⟩ := hG
  unfold pj_L2 pj_R at *
  intro k0
  simp only [pu]
  have g0 := hop b
  have g1 := hop (wy k0)
  have g2 := hed b (wy k0)
  have cL2_0 := cL2 k0
  have cR_0 := cR k0
  have f0 := p2_ b
  have f1 := p2_ (wy k0)
  have f2 := p2_ (op (wy k0))
  have f3 := p16_ k0
  clear p2_ p16_
  clear hop hed cL2 cR
  grind (splits := 24)

set_option maxHeartbeats 1000000 in
theorem pt_sg_L3 {W : Int → Prop} {sd : Int → Int} {op : Int → Int} {ed : Int → Int} {st : Int → Int} {lv : Int → Int} {nm : Int → Int} {tst : Int → Int} {om : Int → Int} {dl : Int → Int} {dn : Int → Int} {en : Int → Int} {pd : Int → Int} {fw : Int → Int} {cl : Int → Int} {nL : Int} {kd : Int → Int} {wy : Int → Int} {wh : Int → Int} {F : Int → Prop} {fl : Int} {fc : Int} {F2 : Int → Prop} {b : Int} (hG : pj_G W sd op ed) (p0_ : W b) (p1_ : F b) (p2_ : ∀ v, F2 v ↔ (F v ∧ v ≠ b)) (p3_ : om (sd (op b)) = (ed b)) (p4_ : dl (sd (op b)) = fl) (p5_ : dn (sd (op b)) = fc) (p6_ : fl < lv (sd b)) (p7_ : 0 ≤ fl) (p8_ : om (sd b) ≠ (ed b)) (p9_ : en b = 1) (p10_ : pd b = 0) (p11_ : st (sd b) = 2) (p12_ : st (sd (op b)) = 2) (p13_ : nm (sd b) ≠ (ed b)) (p14_ : cl (nm (sd b)) = lv (sd b)) (p15_ : lv (sd (op b)) ≤ fl) (p16_ : ∀ j, 0 ≤ j → j < nL → wh j ≠ 2 → kd j = 0 → wy j ≠ op b) (p17_ : dl (sd b) = lv (sd b) ∨ st (sd b) = 2) (p18_ : 0 ≤ nL) (cL3 : pj_L3 sd op ed st lv nm tst en fw nL kd wy wh) (cR : pj_R W nL kd wy wh) : pj_L3 sd op ed st lv nm tst en fw (nL + 1) (pu kd nL 1) (pu wy nL b) (pu wh nL 0) := by
  obtain ⟨hop, hed⟩ := hG
  unfold pj_L3 pj_R at *
  intro k0
  simp only [pu]
  have g0 := hop b
  have g1 := hop (wy k0)
  have g2 := hed b (wy k0)
  have cL3_0 := cL3 k0
  have cR_0 := cR k0
  have f0 := p2_ b
  have f1 := p2_ (wy k0)
  have f2 := p2_ (op (wy k0))
  have f3 := p16_ k0
  clear p2_ p16_
  clear hop hed cL3 cR
  grind (splits := 24)

set_option maxHeartbeats 1000000 in
theorem pt_sg_L4 {W : Int → Prop} {sd : Int → Int} {op : Int → Int} {ed : Int → Int} {st : Int → Int} {lv : Int → Int} {nm : Int → Int} {tst : Int → Int} {om : Int → Int} {dl : Int → Int} {dn : Int → Int} {en : Int → Int} {pd : Int → Int} {cl : Int → Int} {nL : Int} {kd : Int → Int} {wy : Int → Int} {wh : Int → Int} {F : Int → Prop} {fl : Int} {fc : Int} {F2 : Int → Prop} {b : Int} (hG : pj_G W sd op ed) (p0_ : W b) (p1_ : F b) (p2_ : ∀ v, F2 v ↔ (F v ∧ v ≠ b)) (p3_ : om (sd (op b)) = (ed b)) (p4_ : dl (sd (op b)) = fl) (p5_ : dn (sd (op b)) = fc) (p6_ : fl < lv (sd b)) (p7_ : 0 ≤ fl) (p8_ : om (sd b) ≠ (ed b)) (p9_ : en b = 1) (p10_ : pd b = 0) (p11_ : st (sd b) = 2) (p12_ : st (sd (op b)) = 2) (p13_ : nm (sd b) ≠ (ed b)) (p14_ : cl (nm (sd b)) = lv (sd b)) (p15_ : lv (sd (op b)) ≤ fl) (p16_ : ∀ j, 0 ≤ j → j < nL → wh j ≠ 2 → kd j = 0 → wy j ≠ op b) (p17_ : dl (sd b) = lv (sd b) ∨ st (sd b) = 2) (p18_ : 0 ≤ nL) (cL4 : pj_L4 sd op ed st tst en nL kd wy wh) (cR : pj_R W nL kd wy wh) : pj_L4 sd op ed st tst en (nL + 1) (pu kd nL 1) (pu wy nL b) (pu wh nL 0) := by
  obtain ⟨hop, hed⟩ := hG
  unfold pj_L4 pj_R at *
  intro k0
  simp only [pu]
  have g0 := hop b
  have g1 := hop (wy k0)
  have g2 := hed b (wy k0)
  have cL4_0 := cL4 k0
  have cR_0 := cR k0
  have f0 := p2_ b
  have f1 := p2_ (wy k0)
  have f2 := p2_ (op (wy k0))
  have f3 := p16_ k0
  clear p2_ p16_
  clear hop hed cL4 cR
  grind (splits := 24)

set_option maxHeartbeats 1000000 in
theorem pt_sg_AF {W : Int → Prop} {sd : Int → Int} {op : Int → Int} {ed : Int → Int} {st : Int → Int} {lv : Int → Int} {nm : Int → Int} {tst : Int → Int} {om : Int → Int} {dl : Int → Int} {dn : Int → Int} {af : Int → Int} {en : Int → Int} {pd : Int → Int} {cl : Int → Int} {nL : Int} {kd : Int → Int} {wy : Int → Int} {wh : Int → Int} {F : Int → Prop} {fl : Int} {fc : Int} {F2 : Int → Prop} {b : Int} (hG : pj_G W sd op ed) (p0_ : W b) (p1_ : F b) (p2_ : ∀ v, F2 v ↔ (F v ∧ v ≠ b)) (p3_ : om (sd (op b)) = (ed b)) (p4_ : dl (sd (op b)) = fl) (p5_ : dn (sd (op b)) = fc) (p6_ : fl < lv (sd b)) (p7_ : 0 ≤ fl) (p8_ : om (sd b) ≠ (ed b)) (p9_ : en b = 1) (p10_ : pd b = 0) (p11_ : st (sd b) = 2) (p12_ : st (sd (op b)) = 2) (p13_ : nm (sd b) ≠ (ed b)) (p14_ : cl (nm (sd b)) = lv (sd b)) (p15_ : lv (sd (op b)) ≤ fl) (p16_ : ∀ j, 0 ≤ j → j < nL → wh j ≠ 2 → kd j = 0 → wy j ≠ op b) (p17_ : dl (sd b) = lv (sd b) ∨ st (sd b) = 2) (p18_ : 0 ≤ nL) (cAF : pj_AF W sd op ed tst af nL kd wy wh) : pj_AF W sd op ed tst af (nL + 1) (pu kd nL 1) (pu wy nL b) (pu wh nL 0) := by
  obtain ⟨hop, hed⟩ := hG
  unfold pj_AF at *
  intro v0
  simp only [pu]
  have g0 := hop b
  have g1 := hop v0
  have g2 := hed b v0
  have cAF_0 := cAF b
  have cAF_1 := cAF v0
  have cAF_2 := cAF (op v0)
  have f0 := p2_ b
  have f1 := p2_ v0
  have f2 := p2_ (op v0)
  clear p2_ p16_
  clear hop hed cAF
  grind (splits := 24)

set_option maxHeartbeats 1000000 in
theorem pt_sg_RT {W : Int → Prop} {sd : Int → Int} {op : Int → Int} {ed : Int → Int} {st : Int → Int} {lv : Int → Int} {nm : Int → Int} {tst : Int → Int} {om : Int → Int} {dl : Int → Int} {dn : Int → Int} {en : Int → Int} {pd : Int → Int} {cl : Int → Int} {nL : Int} {kd : Int → Int} {wy : Int → Int} {wh : Int → Int} {F : Int → Prop} {fl : Int} {fc : Int} {F2 : Int → Prop} {b : Int} (hG : pj_G W sd op ed) (p0_ : W b) (p1_ : F b) (p2_ : ∀ v, F2 v ↔ (F v ∧ v ≠ b)) (p3_ : om (sd (op b)) = (ed b)) (p4_ : dl (sd (op b)) = fl) (p5_ : dn (sd (op b)) = fc) (p6_ : fl < lv (sd b)) (p7_ : 0 ≤ fl) (p8_ : om (sd b) ≠ (ed b)) (p9_ : en b = 1) (p10_ : pd b = 0) (p11_ : st (sd b) = 2) (p12_ : st (sd (op b)) = 2) (p13_ : nm (sd b) ≠ (ed b)) (p14_ : cl (nm (sd b)) = lv (sd b)) (p15_ : lv (sd (op b)) ≤ fl) (p16_ : ∀ j, 0 ≤ j → j < nL → wh j ≠ 2 → kd j = 0 → wy j ≠ op b) (p17_ : dl (sd b) = lv (sd b) ∨ st (sd b) = 2) (p18_ : 0 ≤ nL) (cRT : pj_RT sd ed tst nL kd wy wh) (cR : pj_R W nL kd wy wh) : pj_RT sd ed tst (nL + 1) (pu kd nL 1) (pu wy nL b) (pu wh nL 0) := by
  obtain ⟨hop, hed⟩ := hG
  unfold pj_RT pj_R at *
  intro j0 k0
  simp only [pu]
  have g0 := hop b
  have g1 := hop (wy j0)
  have g2 := hop (wy k0)
  have g3 := hed b (wy j0)
  have g4 := hed b (wy k0)
  have g5 := hed (wy j0) (wy k0)
  have cRT_0 := cRT j0 j0
  have cRT_1 := cRT j0 k0
  have cRT_2 := cRT k0 j0
  have cRT_3 := cRT k0 k0
  have cR_0 := cR j0
  have cR_1 := cR k0
  have f0 := p2_ b
  have f1 := p2_ (wy j0)
  have f2 := p2_ (op (wy j0))
  have f3 := p2_ (wy k0)
  have f4 := p2_ (op (wy k0))
  have f5 := p16_ j0
  have f6 := p16_ k0
  clear p2_ p16_
  clear hop hed cRT cR
  grind (splits := 24)

set_option maxHeartbeats 1000000 in
theorem pt_sg_CV {W : Int → Prop} {sd : Int → Int} {op : Int → Int} {ed : Int → Int} {st : Int → Int} {lv : Int → Int} {nm : Int → Int} {tst : Int → Int} {om : Int → Int} {dl : Int → Int} {dn : Int → Int} {en : Int → Int} {pd : Int → Int} {cl : Int → Int} {nL : Int} {kd : Int → Int} {wy : Int → Int} {wh : Int → Int} {F : Int → Prop} {fl : Int} {fc : Int} {F2 : Int → Prop} {b : Int} (hG : pj_G W sd op ed) (p0_ : W b) (p1_ : F b) (p2_ : ∀ v, F2 v ↔ (F v ∧ v ≠ b)) (p3_ : om (sd (op b)) = (ed b)) (p4_ : dl (sd (op b)) = fl) (p5_ : dn (sd (op b)) = fc) (p6_ : fl < lv (sd b)) (p7_ : 0 ≤ fl) (p8_ : om (sd b) ≠ (ed b)) (p9_ : en b = 1) (p10_ : pd b = 0) (p11_ : st (sd b) = 2) (p12_ : st (sd (op b)) = 2) (p13_ : nm (sd b) ≠ (ed b)) (p14_ : cl (nm (sd b)) = lv (sd b)) (p15_ : lv (sd (op b)) ≤ fl) (p16_ : ∀ j, 0 ≤ j → j < nL → wh j ≠ 2 → kd j = 0 → wy j ≠ op b) (p17_ : dl (sd b) = lv (sd b) ∨ st (sd b) = 2) (p18_ : 0 ≤ nL) (cCV : pj_CV W sd op ed tst nL kd wy wh) (cR : pj_R W nL kd wy wh) : pj_CV W sd op ed tst (nL + 1) (pu kd nL 1) (pu wy nL b) (pu wh nL 0) := by
  obtain ⟨hop, hed⟩ := hG
  unfold pj_CV pj_R at *
  intro v0 j0 k0
  simp only [pu]
  have g0 := hop b
  have g1 := hop v0
  have g2 := hop (wy j0)
  have g3 := hop (wy k0)
  have g4 := hed b v0
  have g5 := hed b (wy j0)
  have g6 := hed b (wy k0)
  have g7 := hed v0 (wy j0)
  have g8 := hed v0 (wy k0)
  have g9 := hed (wy j0) (wy k0)
  have cCV_0 := cCV v0 j0 k0
  have cR_0 := cR j0
  have cR_1 := cR k0
  have f0 := p2_ b
  have f1 := p2_ v0
  have f2 := p2_ (op v0)
  have f3 := p2_ (wy j0)
  have f4 := p2_ (op (wy j0))
  have f5 := p2_ (wy k0)
  have f6 := p2_ (op (wy k0))
  have f7 := p16_ j0
  have f8 := p16_ k0
  clear p2_ p16_
  clear hop hed cCV cR
  grind (splits := 24)

set_option maxHeartbeats 1000000 in
theorem pt_sg_L5 {W : Int → Prop} {sd : Int → Int} {op : Int → Int} {ed : Int → Int} {st : Int → Int} {lv : Int → Int} {nm : Int → Int} {inw : Int → Int} {bst : Int → Int} {om : Int → Int} {ps : Int → Int} {dl : Int → Int} {dn : Int → Int} {en : Int → Int} {pd : Int → Int} {rp : Int → Int} {rv : Int → Int} {cl : Int → Int} {tk : Int → Int} {nL : Int} {kd : Int → Int} {wy : Int → Int} {td : Int → Int} {wh : Int → Int} {F : Int → Prop} {fl : Int} {fc : Int} {F2 : Int → Prop} {b : Int} (hG : pj_G W sd op ed) (p0_ : W b) (p1_ : F b) (p2_ : ∀ v, F2 v ↔ (F v ∧ v ≠ b)) (p3_ : om (sd (op b)) = (ed b)) (p4_ : dl (sd (op b)) = fl) (p5_ : dn (sd (op b)) = fc) (p6_ : fl < lv (sd b)) (p7_ : 0 ≤ fl) (p8_ : om (sd b) ≠ (ed b)) (p9_ : en b = 1) (p10_ : pd b = 0) (p11_ : st (sd b) = 2) (p12_ : st (sd (op b)) = 2) (p13_ : nm (sd b) ≠ (ed b)) (p14_ : cl (nm (sd b)) = lv (sd b)) (p15_ : lv (sd (op b)) ≤ fl) (p16_ : ∀ j, 0 ≤ j → j < nL → wh j ≠ 2 → kd j = 0 → wy j ≠ op b) (p17_ : dl (sd b) = lv (sd b) ∨ st (sd b) = 2) (p18_ : 0 ≤ nL) (cL5 : pj_L5 sd op ed st lv nm inw bst om ps dl pd rp rv cl tk nL kd wy td wh) (cR : pj_R W nL kd wy wh) : pj_L5 sd op ed st lv nm inw bst om ps (pu dl (sd (op b)) (lv (sd b))) pd rp rv cl tk (nL + 1) (pu kd nL 1) (pu wy nL b) (pu td nL (nm (sd b))) (pu wh nL 0) := by
  obtain ⟨hop, hed⟩ := hG
  unfold pj_L5 pj_R at *
  intro k0
  simp only [pu]
  have g0 := hop b
  have g1 := hop (wy k0)
  have g2 := hed b (wy k0)
  have cL5_0 := cL5 k0
  have cR_0 := cR k0
  have f0 := p2_ b
  have f1 := p2_ (wy k0)
  have f2 := p2_ (op (wy k0))
  have f3 := p16_ k0
  clear p2_ p16_
  clear hop hed cL5 cR
  grind (splits := 24)

set_option maxHeartbeats 1000000 in
theorem pt_sg_L5o {W : Int → Prop} {sd : Int → Int} {op : Int → Int} {ed : Int → Int} {st : Int → Int} {lv : Int → Int} {nm : Int → Int} {inw : Int → Int} {bst : Int → Int} {om : Int → Int} {ps : Int → Int} {dl : Int → Int} {dn : Int → Int} {en : Int → Int} {pd : Int → Int} {rp : Int → Int} {rv : Int → Int} {cl : Int → Int} {tk : Int → Int} {nL : Int} {kd : Int → Int} {wy : Int → Int} {td : Int → Int} {wh : Int → Int} {F : Int → Prop} {fl : Int} {fc : Int} {F2 : Int → Prop} {b : Int} (hG : pj_G W sd op ed) (p0_ : W b) (p1_ : F b) (p2_ : ∀ v, F2 v ↔ (F v ∧ v ≠ b)) (p3_ : om (sd (op b)) = (ed b)) (p4_ : dl (sd (op b)) = fl) (p5_ : dn (sd (op b)) = fc) (p6_ : fl < lv (sd b)) (p7_ : 0 ≤ fl) (p8_ : om (sd b) ≠ (ed b)) (p9_ : en b = 1) (p10_ : pd b = 0) (p11_ : st (sd b) = 2) (p12_ : st (sd (op b)) = 2) (p13_ : nm (sd b) ≠ (ed b)) (p14_ : cl (nm (sd b)) = lv (sd b)) (p15_ : lv (sd (op b)) ≤ fl) (p16_ : ∀ j, 0 ≤ j → j < nL → wh j ≠ 2 → kd j = 0 → wy j ≠ op b) (p17_ : dl (sd b) = lv (sd b) ∨ st (sd b) = 2) (p18_ : 0 ≤ nL) (cL5o : pj_L5o sd op ed lv cl nL kd wy wh) (cR : pj_R W nL kd wy wh) (cL5 : pj_L5 sd op ed st lv nm inw bst om ps dl pd rp rv cl tk nL kd wy td wh) : pj_L5o sd op ed lv cl (nL + 1) (pu kd nL 1) (pu wy nL b) (pu wh nL 0) := by
  obtain ⟨hop, hed⟩ := hG
  unfold pj_L5o pj_R pj_L5 at *
  intro j0 k0
  simp only [pu]
  have g0 := hop b
  have g1 := hop (wy j0)
  have g2 := hop (wy k0)
  have g3 := hed b (wy j0)
  have g4 := hed b (wy k0)
  have g5 := hed (wy j0) (wy k0)
  have cL5o_0 := cL5o j0 j0
  have cL5o_1 := cL5o j0 k0
  have cL5o_2 := cL5o k0 j0
  have cL5o_3 := cL5o k0 k0
  have cR_0 := cR j0
  have cR_1 := cR k0
  have cL5_0 := cL5 j0
  have cL5_1 := cL5 k0
  have f0 := p2_ b
  have f1 := p2_ (wy j0)
  have f2 := p2_ (op (wy j0))
  have f3 := p2_ (wy k0)
  have f4 := p2_ (op (wy k0))
  have f5 := p16_ j0
  have f6 := p16_ k0
  clear p2_ p16_
  clear hop hed cL5o cR cL5
  grind (splits := 24)

set_option maxHeartbeats 1000000 in
theorem pt_sg_L5u {W : Int → Prop} {sd : Int → Int} {op : Int → Int} {ed : Int → Int} {st : Int → Int} {lv : Int → Int} {nm : Int → Int} {om : Int → Int} {dl : Int → Int} {dn : Int → Int} {en : Int → Int} {pd : Int → Int} {cl : Int → Int} {nL : Int} {kd : Int → Int} {wy : Int → Int} {wh : Int → Int} {F : Int → Prop} {fl : Int} {fc : Int} {F2 : Int → Prop} {b : Int} (hG : pj_G W sd op ed) (p0_ : W b) (p1_ : F b) (p2_ : ∀ v, F2 v ↔ (F v ∧ v ≠ b)) (p3_ : om (sd (op b)) = (ed b)) (p4_ : dl (sd (op b)) = fl) (p5_ : dn (sd (op b)) = fc) (p6_ : fl < lv (sd b)) (p7_ : 0 ≤ fl) (p8_ : om (sd b) ≠ (ed b)) (p9_ : en b = 1) (p10_ : pd b = 0) (p11_ : st (sd b) = 2) (p12_ : st (sd (op b)) = 2) (p13_ : nm (sd b) ≠ (ed b)) (p14_ : cl (nm (sd b)) = lv (sd b)) (p15_ : lv (sd (op b)) ≤ fl) (p16_ : ∀ j, 0 ≤ j → j < nL → wh j ≠ 2 → kd j = 0 → wy j ≠ op b) (p17_ : dl (sd b) = lv (sd b) ∨ st (sd b) = 2) (p18_ : 0 ≤ nL) (cL5u : pj_L5u nL kd wy wh) (cR : pj_R W nL kd wy wh) : pj_L5u (nL + 1) (pu kd nL 1) (pu wy nL b) (pu wh nL 0) := by
  obtain ⟨hop, hed⟩ := hG
  unfold pj_L5u pj_R at *
  intro j0 k0
  simp only [pu]
  have g0 := hop b
  have g1 := hop (wy j0)
  have g2 := hop (wy k0)
  have g3 := hed b (wy j0)
  have g4 := hed b (wy k0)
  have g5 := hed (wy j0) (wy k0)
  have cL5u_0 := cL5u j0 j0
  have cL5u_1 := cL5u j0 k0
  have cL5u_2 := cL5u k0 j0
  have cL5u_3 := cL5u k0 k0
  have cR_0 := cR j0
  have cR_1 := cR k0
  have f0 := p2_ b
  have f1 := p2_ (wy j0)
  have f2 := p2_ (op (wy j0))
  have f3 := p2_ (wy k0)
  have f4 := p2_ (op (wy k0))
  have f5 := p16_ j0
  have f6 := p16_ k0
  clear p2_ p16_
  clear hop hed cL5u cR
  grind (splits := 24)

set_option maxHeartbeats 1000000 in
theorem pt_sg_L6 {W : Int → Prop} {sd : Int → Int} {op : Int → Int} {ed : Int → Int} {st : Int → Int} {lv : Int → Int} {nm : Int → Int} {tow : Int → Int} {om : Int → Int} {ps : Int → Int} {dl : Int → Int} {dn : Int → Int} {en : Int → Int} {pd : Int → Int} {cl : Int → Int} {cw : Int → Int} {tk : Int → Int} {nL : Int} {kd : Int → Int} {wy : Int → Int} {wh : Int → Int} {F : Int → Prop} {fl : Int} {fc : Int} {F2 : Int → Prop} {b : Int} (hG : pj_G W sd op ed) (p0_ : W b) (p1_ : F b) (p2_ : ∀ v, F2 v ↔ (F v ∧ v ≠ b)) (p3_ : om (sd (op b)) = (ed b)) (p4_ : dl (sd (op b)) = fl) (p5_ : dn (sd (op b)) = fc) (p6_ : fl < lv (sd b)) (p7_ : 0 ≤ fl) (p8_ : om (sd b) ≠ (ed b)) (p9_ : en b = 1) (p10_ : pd b = 0) (p11_ : st (sd b) = 2) (p12_ : st (sd (op b)) = 2) (p13_ : nm (sd b) ≠ (ed b)) (p14_ : cl (nm (sd b)) = lv (sd b)) (p15_ : lv (sd (op b)) ≤ fl) (p16_ : ∀ j, 0 ≤ j → j < nL → wh j ≠ 2 → kd j = 0 → wy j ≠ op b) (p17_ : dl (sd b) = lv (sd b) ∨ st (sd b) = 2) (p18_ : 0 ≤ nL) (cL6 : pj_L6 sd op ed st lv nm tow om ps dl cw tk nL kd wy wh) (cR : pj_R W nL kd wy wh) : pj_L6 sd op ed st lv nm tow om ps (pu dl (sd (op b)) (lv (sd b))) cw tk (nL + 1) (pu kd nL 1) (pu wy nL b) (pu wh nL 0) := by
  obtain ⟨hop, hed⟩ := hG
  unfold pj_L6 pj_R at *
  intro k0
  simp only [pu]
  have g0 := hop b
  have g1 := hop (wy k0)
  have g2 := hed b (wy k0)
  have cL6_0 := cL6 k0
  have cR_0 := cR k0
  have f0 := p2_ b
  have f1 := p2_ (wy k0)
  have f2 := p2_ (op (wy k0))
  have f3 := p16_ k0
  clear p2_ p16_
  clear hop hed cL6 cR
  grind (splits := 24)

set_option maxHeartbeats 1000000 in
theorem pt_sg_L6u {W : Int → Prop} {sd : Int → Int} {op : Int → Int} {ed : Int → Int} {st : Int → Int} {lv : Int → Int} {nm : Int → Int} {om : Int → Int} {dl : Int → Int} {dn : Int → Int} {en : Int → Int} {pd : Int → Int} {cl : Int → Int} {nL : Int} {kd : Int → Int} {wy : Int → Int} {wh : Int → Int} {F : Int → Prop} {fl : Int} {fc : Int} {F2 : Int → Prop} {b : Int} (hG : pj_G W sd op ed) (p0_ : W b) (p1_ : F b) (p2_ : ∀ v, F2 v ↔ (F v ∧ v ≠ b)) (p3_ : om (sd (op b)) = (ed b)) (p4_ : dl (sd (op b)) = fl) (p5_ : dn (sd (op b)) = fc) (p6_ : fl < lv (sd b)) (p7_ : 0 ≤ fl) (p8_ : om (sd b) ≠ (ed b)) (p9_ : en b = 1) (p10_ : pd b = 0) (p11_ : st (sd b) = 2) (p12_ : st (sd (op b)) = 2) (p13_ : nm (sd b) ≠ (ed b)) (p14_ : cl (nm (sd b)) = lv (sd b)) (p15_ : lv (sd (op b)) ≤ fl) (p16_ : ∀ j, 0 ≤ j → j < nL → wh j ≠ 2 → kd j = 0 → wy j ≠ op b) (p17_ : dl (sd b) = lv (sd b) ∨ st (sd b) = 2) (p18_ : 0 ≤ nL) (cL6u : pj_L6u sd op nm nL kd wy wh) (cR : pj_R W nL kd wy wh) : pj_L6u sd op nm (nL + 1) (pu kd nL 1) (pu wy nL b) (pu wh nL 0) := by
  obtain ⟨hop, hed⟩ := hG
  unfold pj_L6u pj_R at *
  intro j0 k0
  simp only [pu]
  have g0 := hop b
  have g1 := hop (wy j0)
  have g2 := hop (wy k0)
  have g3 := hed b (wy j0)
  have g4 := hed b (wy k0)
  have g5 := hed (wy j0) (wy k0)
  have cL6u_0 := cL6u j0 j0
  have cL6u_1 := cL6u j0 k0
  have cL6u_2 := cL6u k0 j0
  have cL6u_3 := cL6u k0 k0
  have cR_0 := cR j0
  have cR_1 := cR k0
  have f0 := p2_ b
  have f1 := p2_ (wy j0)
  have f2 := p2_ (op (wy j0))
  have f3 := p2_ (wy k0)
  have f4 := p2_ (op (wy k0))
  have f5 := p16_ j0
  have f6 := p16_ k0
  clear p2_ p16_
  clear hop hed cL6u cR
  grind (splits := 24)

theorem pj_sg {W : Int → Prop} {sd op ed : Int → Int} {li : Int → Int → Prop} {st lv nm inw tow bst tst exp om ps dl dn af c0 en pd rp rv fw cl cw tk kd wy ll td ls wh : Int → Int} {nL : Int} {F F2 : Int → Prop} {fl fc : Int} {b k : Int} (hG : pj_G W sd op ed) (p0_ : W b) (p1_ : F b) (p2_ : ∀ v, F2 v ↔ (F v ∧ v ≠ b)) (p3_ : om (sd (op b)) = (ed b)) (p4_ : dl (sd (op b)) = fl) (p5_ : dn (sd (op b)) = fc) (p6_ : fl < lv (sd b)) (p7_ : 0 ≤ fl) (p8_ : om (sd b) ≠ (ed b)) (p9_ : en b = 1) (p10_ : pd b = 0) (p11_ : st (sd b) = 2) (p12_ : st (sd (op b)) = 2) (p13_ : nm (sd b) ≠ (ed b)) (p14_ : cl (nm (sd b)) = lv (sd b)) (p15_ : lv (sd (op b)) ≤ fl) (p16_ : ∀ j, 0 ≤ j → j < nL → wh j ≠ 2 → kd j = 0 → wy j ≠ op b) (p17_ : dl (sd b) = lv (sd b) ∨ st (sd b) = 2) (p18_ : 0 ≤ nL) (h : pj_J W sd op ed li st lv nm inw tow bst tst exp om ps dl dn af c0 en pd rp rv fw cl cw tk nL kd wy ll td ls wh F fl fc) : pj_J W sd op ed li st lv nm inw tow bst tst exp om ps (pu dl (sd (op b)) (lv (sd b))) (pu dn (sd (op b)) (nm (sd b))) af c0 en pd rp rv fw cl cw tk (nL + 1) (pu kd nL 1) (pu wy nL b) (pu ll nL (lv (sd b))) (pu td nL (nm (sd b))) (pu ls nL (st (sd b))) (pu wh nL 0) (F2) fl fc := by
  obtain ⟨cR, cN0, cN1, cN1w, cER, cN1c, cN2, cN2e, cN2b, cN4e, cN4b, cN5, cN7, cN10, cN10e, cN13, cC1, cC2, cR3a, cE1, cU, cA1, cA2, cEC, cR3, cN11, cN12, cN3, cRJ, cFW, cPD, cCC, cCD, cRP, cRP1, cCR, cZ1, cZ0, cTK, cK2, cWH, cFI, cL0, cFC, cL0u, cOC, cCT, cL1, cL1e, cL1o, cL1b, cL1g, cL2, cL3, cL4, cAF, cRT, cCV, cL5, cL5o, cL5u, cL6, cL6u⟩ := h
  exact ⟨pt_sg_R hG p0_ p1_ p2_ p3_ p4_ p5_ p6_ p7_ p8_ p9_ p10_ p11_ p12_ p13_ p14_ p15_ p16_ p17_ p18_ cR, pt_sg_N0 hG p0_ p1_ p2_ p3_ p4_ p5_ p6_ p7_ p8_ p9_ p10_ p11_ p12_ p13_ p14_ p15_ p16_ p17_ p18_ cN0, pt_sg_N1 hG p0_ p1_ p2_ p3_ p4_ p5_ p6_ p7_ p8_ p9_ p10_ p11_ p12_ p13_ p14_ p15_ p16_ p17_ p18_ cN1, cN1w, cER, pt_sg_N1c hG p0_ p1_ p2_ p3_ p4_ p5_ p6_ p7_ p8_ p9_ p10_ p11_ p12_ p13_ p14_ p15_ p16_ p17_ p18_ cN1c cR, cN2, cN2e, cN2b, cN4e, cN4b, cN5, cN7, cN10, cN10e, cN13, cC1, pt_sg_C2 hG p0_ p1_ p2_ p3_ p4_ p5_ p6_ p7_ p8_ p9_ p10_ p11_ p12_ p13_ p14_ p15_ p16_ p17_ p18_ cC2, pt_sg_R3a hG p0_ p1_ p2_ p3_ p4_ p5_ p6_ p7_ p8_ p9_ p10_ p11_ p12_ p13_ p14_ p15_ p16_ p17_ p18_ cR3a, pt_sg_E1 hG p0_ p1_ p2_ p3_ p4_ p5_ p6_ p7_ p8_ p9_ p10_ p11_ p12_ p13_ p14_ p15_ p16_ p17_ p18_ cE1, pt_sg_U hG p0_ p1_ p2_ p3_ p4_ p5_ p6_ p7_ p8_ p9_ p10_ p11_ p12_ p13_ p14_ p15_ p16_ p17_ p18_ cU, pt_sg_A1 hG p0_ p1_ p2_ p3_ p4_ p5_ p6_ p7_ p8_ p9_ p10_ p11_ p12_ p13_ p14_ p15_ p16_ p17_ p18_ cA1, pt_sg_A2 hG p0_ p1_ p2_ p3_ p4_ p5_ p6_ p7_ p8_ p9_ p10_ p11_ p12_ p13_ p14_ p15_ p16_ p17_ p18_ cA2, pt_sg_EC hG p0_ p1_ p2_ p3_ p4_ p5_ p6_ p7_ p8_ p9_ p10_ p11_ p12_ p13_ p14_ p15_ p16_ p17_ p18_ cEC, cR3, cN11, pt_sg_N12 hG p0_ p1_ p2_ p3_ p4_ p5_ p6_ p7_ p8_ p9_ p10_ p11_ p12_ p13_ p14_ p15_ p16_ p17_ p18_ cN12, cN3, cRJ, cFW, cPD, cCC, pt_sg_CD hG p0_ p1_ p2_ p3_ p4_ p5_ p6_ p7_ p8_ p9_ p10_ p11_ p12_ p13_ p14_ p15_ p16_ p17_ p18_ cCD, cRP, cRP1, cCR, cZ1, cZ0, cTK, cK2, pt_sg_WH hG p0_ p1_ p2_ p3_ p4_ p5_ p6_ p7_ p8_ p9_ p10_ p11_ p12_ p13_ p14_ p15_ p16_ p17_ p18_ cWH cR, pt_sg_FI hG p0_ p1_ p2_ p3_ p4_ p5_ p6_ p7_ p8_ p9_ p10_ p11_ p12_ p13_ p14_ p15_ p16_ p17_ p18_ cFI cR, pt_sg_L0 hG p0_ p1_ p2_ p3_ p4_ p5_ p6_ p7_ p8_ p9_ p10_ p11_ p12_ p13_ p14_ p15_ p16_ p17_ p18_ cL0 cR, pt_sg_FC hG p0_ p1_ p2_ p3_ p4_ p5_ p6_ p7_ p8_ p9_ p10_ p11_ p12_ p13_ p14_ p15_ p16_ p17_ p18_ cFC cR, pt_sg_L0u hG p0_ p1_ p2_ p3_ p4_ p5_ p6_ p7_ p8_ p9_ p10_ p11_ p12_ p13_ p14_ p15_ p16_ p17_ p18_ cL0u cR, pt_sg_OC hG p0_ p1_ p2_ p3_ p4_ p5_ p6_ p7_ p8_ p9_ p10_ p11_ p12_ p13_ p14_ p15_ p16_ p17_ p18_ cOC cR, pt_sg_CT hG p0_ p1_ p2_ p3_ p4_ p5_ p6_ p7_ p8_ p9_ p10_ p11_ p12_ p13_ p14_ p15_ p16_ p17_ p18_ cCT cR, pt_sg_L1 hG p0_ p1_ p2_ p3_ p4_ p5_ p6_ p7_ p8_ p9_ p10_ p11_ p12_ p13_ p14_ p15_ p16_ p17_ p18_ cL1 cR cL1b, pt_sg_L1e hG p0_ p1_ p2_ p3_ p4_ p5_ p6_ p7_ p8_ p9_ p10_ p11_ p12_ p13_ p14_ p15_ p16_ p17_ p18_ cL1e cR cL1 cL1b, pt_sg_L1o hG p0_ p1_ p2_ p3_ p4_ p5_ p6_ p7_ p8_ p9_ p10_ p11_ p12_ p13_ p14_ p15_ p16_ p17_ p18_ cL1o cR cL1, pt_sg_L1b hG p0_ p1_ p2_ p3_ p4_ p5_ p6_ p7_ p8_ p9_ p10_ p11_ p12_ p13_ p14_ p15_ p16_ p17_ p18_ cL1b cR, pt_sg_L1g hG p0_ p1_ p2_ p3_ p4_ p5_ p6_ p7_ p8_ p9_ p10_ p11_ p12_ p13_ p14_ p15_ p16_ p17_ p18_ cL1g cR cCD, pt_sg_L2 hG p0_ p1_ p2_ p3_ p4_ p5_ p6_ p7_ p8_ p9_ p10_ p11_ p12_ p13_ p14_ p15_ p16_ p17_ p18_ cL2 cR, pt_sg_L3 hG p0_ p1_ p2_ p3_ p4_ p5_ p6_ p7_ p8_ p9_ p10_ p11_ p12_ p13_ p14_ p15_ p16_ p17_ p18_ cL3 cR, pt_sg_L4 hG p0_ p1_ p2_ p3_ p4_ p5_ p6_ p7_ p8_ p9_ p10_ p11_ p12_ p13_ p14_ p15_ p16_ p17_ p18_ cL4 cR, pt_sg_AF hG p0_ p1_ p2_ p3_ p4_ p5_ p6_ p7_ p8_ p9_ p10_ p11_ p12_ p13_ p14_ p15_ p16_ p17_ p18_ cAF, pt_sg_RT hG p0_ p1_ p2_ p3_ p4_ p5_ p6_ p7_ p8_ p9_ p10_ p11_ p12_ p13_ p14_ p15_ p16_ p17_ p18_ cRT cR, pt_sg_CV hG p0_ p1_ p2_ p3_ p4_ p5_ p6_ p7_ p8_ p9_ p10_ p11_ p12_ p13_ p14_ p15_ p16_ p17_ p18_ cCV cR, pt_sg_L5 hG p0_ p1_ p2_ p3_ p4_ p5_ p6_ p7_ p8_ p9_ p10_ p11_ p12_ p13_ p14_ p15_ p16_ p17_ p18_ cL5 cR, pt_sg_L5o hG p0_ p1_ p2_ p3_ p4_ p5_ p6_ p7_ p8_ p9_ p10_ p11_ p12_ p13_ p14_ p15_ p16_ p17_ p18_ cL5o cR cL5, pt_sg_L5u hG p0_ p1_ p2_ p3_ p4_ p5_ p6_ p7_ p8_ p9_ p10_ p11_ p12_ p13_ p14_ p15_ p16_ p17_ p18_ cL5u cR, pt_sg_L6 hG p0_ p1_ p2_ p3_ p4_ p5_ p6_ p7_ p8_ p9_ p10_ p11_ p12_ p13_ p14_ p15_ p16_ p17_ p18_ cL6 cR, pt_sg_L6u hG p0_ p1_ p2_ p3_ p4_ p5_ p6_ p7_ p8_ p9_ p10_ p11_ p12_ p13_ p14_ p15_ p16_ p17_ p18_ cL6u cR⟩

set_option maxHeartbeats 1000000 in
theorem pt_mg_R {W : Int → Prop} {sd : Int → Int} {op : Int → Int} {ed : Int → Int} {st : Int → Int} {lv : Int → Int} {nm : Int → Int} {om : Int → Int} {ps : Int → Int} {dl : Int → Int} {dn : Int → Int} {c0 : Int → Int} {en : Int → Int} {cl : Int → Int} {cw : Int → Int} {nL : Int} {kd : Int → Int} {wy : Int → Int} {wh : Int → Int} {b k : Int} (hG : pj_G W sd op ed) (p0_ : W b) (p1_ : 0 ≤ k) (p2_ : k < nL) (p3_ : wh k ≠ 2) (p4_ : kd k = 0) (p5_ : wy k = op b) (p6_ : ∀ j, 0 ≤ j → j < k → wy j = wy k → wh j ≠ 0) (p7_ : om (sd (op b)) = (ed b)) (p8_ : om (sd b) = (ed b)) (p9_ : ps (sd (op b)) = 1) (p10_ : ps (sd b) = 1) (p11_ : dl (sd (op b)) = lv (sd (op b))) (p12_ : lv (sd (op b)) = lv (sd b)) (p13_ : lv (sd (op b)) = 0 ∨ nm (sd (op b)) ≠ nm (sd b)) (p14_ : en b = 1) (p15_ : en (op b) = 1) (p16_ : st (sd (op b)) = 2) (p17_ : st (sd b) = 2) (p18_ : (cl (ed b) = 0 ∧ dl (sd b) = lv (sd b)) ∨ (cl (ed b) = lv (sd b) + 1 ∧ dl (sd b) = cl (ed b) ∧ dn (sd b) = (ed b))) (p19_ : 1 ≤ lv (sd b) → cl (ed b) = 0 → cw (nm (sd b)) = b ∧ cw (nm (sd (op b))) = op b ∧ cl (nm (sd b)) = lv (sd b) ∧ cl (nm (sd (op b))) = lv (sd b)) (p20_ : lv (sd b) = 0 → c0 (sd b) = (ed b) ∧ c0 (sd (op b)) = (ed b)) (p21_ : 0 ≤ lv (sd b)) (p22_ : 0 ≤ nL) (cR : pj_R W nL kd wy wh) : pj_R W (nL + 1) (pu kd nL 1) (pu wy nL b) (pu (pu wh k 2) nL 0) := by
  obtain ⟨hop, hed⟩ := hG
  unfold pj_R at *
  intro k0
  simp only [pu]
  have g0 := hop b
  have g1 := hop (wy k0)
  have g2 := hed b (wy k0)
  have cR_0 := cR k
  have cR_1 := cR k0
  have f0 := p6_ k
  have f1 := p6_ k0
  clear p6_
  clear hop hed cR
  grind (splits := 24)

set_option maxHeartbeats 1000000 in
theorem pt_mg_N0 {W : Int → Prop} {sd : Int → Int} {op : Int → Int} {ed : Int → Int} {st : Int → Int} {lv : Int → Int} {nm : Int → Int} {om : Int → Int} {ps : Int → Int} {dl : Int → Int} {dn : Int → Int} {af : Int → Int} {c0 : Int → Int} {en : Int → Int} {cl : Int → Int} {cw : Int → Int} {nL : Int} {kd : Int → Int} {wy : Int → Int} {wh : Int → Int} {b k : Int} (hG : pj_G W sd op ed) (p0_ : W b) (p1_ : 0 ≤ k) (p2_ : k < nL) (p3_ : wh k ≠ 2) (p4_ : kd k = 0) (p5_ : wy k = op b) (p6_ : ∀ j, 0 ≤ j → j < k → wy j = wy k → wh j ≠ 0) (p7_ : om (sd (op b)) = (ed b)) (p8_ : om (sd b) = (ed b)) (p9_ : ps (sd (op b)) = 1) (p10_ : ps (sd b) = 1) (p11_ : dl (sd (op b)) = lv (sd (op b))) (p12_ : lv (sd (op b)) = lv (sd b)) (p13_ : lv (sd (op b)) = 0 ∨ nm (sd (op b)) ≠ nm (sd b)) (p14_ : en b = 1) (p15_ : en (op b) = 1) (p16_ : st (sd (op b)) = 2) (p17_ : st (sd b) = 2) (p18_ : (cl (ed b) = 0 ∧ dl (sd b) = lv (sd b)) ∨ (cl (ed b) = lv (sd b) + 1 ∧ dl (sd b) = cl (ed b) ∧ dn (sd b) = (ed b))) (p19_ : 1 ≤ lv (sd b) → cl (ed b) = 0 → cw (nm (sd b)) = b ∧ cw (nm (sd (op b))) = op b ∧ cl (nm (sd b)) = lv (sd b) ∧ cl (nm (sd (op b))) = lv (sd b)) (p20_ : lv (sd b) = 0 → c0 (sd b) = (ed b) ∧ c0 (sd (op b)) = (ed b)) (p21_ : 0 ≤ lv (sd b)) (p22_ : 0 ≤ nL) (cN0 : pj_N0 st lv ps dl af) : pj_N0 st lv ps (pu dl (sd (op b)) (lv (sd b) + 1)) af := by
  obtain ⟨hop, hed⟩ := hG
  unfold pj_N0 at *
  intro n0
  simp only [pu]
  have g0 := hop b
  have cN0_0 := cN0 (sd (op b))
  have cN0_1 := cN0 n0
  have cN0_2 := cN0 (sd b)
  have f0 := p6_ k
  clear p6_
  clear hop hed cN0
  grind (splits := 24)

set_option maxHeartbeats 1000000 in
theorem pt_mg_N1 {W : Int → Prop} {sd : Int → Int} {op : Int → Int} {ed : Int → Int} {st : Int → Int} {lv : Int → Int} {nm : Int → Int} {om : Int → Int} {ps : Int → Int} {dl : Int → Int} {dn : Int → Int} {c0 : Int → Int} {en : Int → Int} {cl : Int → Int} {cw : Int → Int} {nL : Int} {kd : Int → Int} {wy : Int → Int} {wh : Int → Int} {b k : Int} (hG : pj_G W sd op ed) (p0_ : W b) (p1_ : 0 ≤ k) (p2_ : k < nL) (p3_ : wh k ≠ 2) (p4_ : kd k = 0) (p5_ : wy k = op b) (p6_ : ∀ j, 0 ≤ j → j < k → wy j = wy k → wh j ≠ 0) (p7_ : om (sd (op b)) = (ed b)) (p8_ : om (sd b) = (ed b)) (p9_ : ps (sd (op b)) = 1) (p10_ : ps (sd b) = 1) (p11_ : dl (sd (op b)) = lv (sd (op b))) (p12_ : lv (sd (op b)) = lv (sd b)) (p13_ : lv (sd (op b)) = 0 ∨ nm (sd (op b)) ≠ nm (sd b)) (p14_ : en b = 1) (p15_ : en (op b) = 1) (p16_ : st (sd (op b)) = 2) (p17_ : st (sd b) = 2) (p18_ : (cl (ed b) = 0 ∧ dl (sd b) = lv (sd b)) ∨ (cl (ed b) = lv (sd b) + 1 ∧ dl (sd b) = cl (ed b) ∧ dn (sd b) = (ed b))) (p19_ : 1 ≤ lv (sd b) → cl (ed b) = 0 → cw (nm (sd b)) = b ∧ cw (nm (sd (op b))) = op b ∧ cl (nm (sd b)) = lv (sd b) ∧ cl (nm (sd (op b))) = lv (sd b)) (p20_ : lv (sd b) = 0 → c0 (sd b) = (ed b) ∧ c0 (sd (op b)) = (ed b)) (p21_ : 0 ≤ lv (sd b)) (p22_ : 0 ≤ nL) (cN1 : pj_N1 st lv om ps dl) : pj_N1 st lv om ps (pu dl (sd (op b)) (lv (sd b) + 1)) := by
  obtain ⟨hop, hed⟩ := hG
  unfold pj_N1 at *
  intro n0
  simp only [pu]
  have g0 := hop b
  have cN1_0 := cN1 (sd (op b))
  have cN1_1 := cN1 n0
  have cN1_2 := cN1 (sd b)
  have f0 := p6_ k
  clear p6_
  clear hop hed cN1
  grind (splits := 24)

set_option maxHeartbeats 1000000 in
theorem pt_mg_N1c {W : Int → Prop} {sd : Int → Int} {op : Int → Int} {ed : Int → Int} {st : Int → Int} {lv : Int → Int} {nm : Int → Int} {om : Int → Int} {ps : Int → Int} {dl : Int → Int} {dn : Int → Int} {c0 : Int → Int} {en : Int → Int} {cl : Int → Int} {cw : Int → Int} {nL : Int} {kd : Int → Int} {wy : Int → Int} {wh : Int → Int} {b k : Int} (hG : pj_G W sd op ed) (p0_ : W b) (p1_ : 0 ≤ k) (p2_ : k < nL) (p3_ : wh k ≠ 2) (p4_ : kd k = 0) (p5_ : wy k = op b) (p6_ : ∀ j, 0 ≤ j → j < k → wy j = wy k → wh j ≠ 0) (p7_ : om (sd (op b)) = (ed b)) (p8_ : om (sd b) = (ed b)) (p9_ : ps (sd (op b)) = 1) (p10_ : ps (sd b) = 1) (p11_ : dl (sd (op b)) = lv (sd (op b))) (p12_ : lv (sd (op b)) = lv (sd b)) (p13_ : lv (sd (op b)) = 0 ∨ nm (sd (op b)) ≠ nm (sd b)) (p14_ : en b = 1) (p15_ : en (op b) = 1) (p16_ : st (sd (op b)) = 2) (p17_ : st (sd b) = 2) (p18_ : (cl (ed b) = 0 ∧ dl (sd b) = lv (sd b)) ∨ (cl (ed b) = lv (sd b) + 1 ∧ dl (sd b) = cl (ed b) ∧ dn (sd b) = (ed b))) (p19_ : 1 ≤ lv (sd b) → cl (ed b) = 0 → cw (nm (sd b)) = b ∧ cw (nm (sd (op b))) = op b ∧ cl (nm (sd b)) = lv (sd b) ∧ cl (nm (sd (op b))) = lv (sd b)) (p20_ : lv (sd b) = 0 → c0 (sd b) = (ed b) ∧ c0 (sd (op b)) = (ed b)) (p21_ : 0 ≤ lv (sd b)) (p22_ : 0 ≤ nL) (cN1c : pj_N1c sd op st nL wy wh) (cR : pj_R W nL kd wy wh) : pj_N1c sd op st (nL + 1) (pu wy nL b) (pu (pu wh k 2) nL 0) := by
  obtain ⟨hop, hed⟩ := hG
  unfold pj_N1c pj_R at *
  intro k0
  simp only [pu]
  have g0 := hop b
  have g1 := hop (wy k0)
  have g2 := hed b (wy k0)
  have cN1c_0 := cN1c k
  have cN1c_1 := cN1c k0
  have cR_0 := cR k0
  have f0 := p6_ k
  have f1 := p6_ k0
  clear p6_
  clear hop hed cN1c cR
  grind (splits := 24)

set_option maxHeartbeats 1000000 in
theorem pt_mg_C1 {W : Int → Prop} {sd : Int → Int} {op : Int → Int} {ed : Int → Int} {st : Int → Int} {lv : Int → Int} {nm : Int → Int} {om : Int → Int} {ps : Int → Int} {dl : Int → Int} {dn : Int → Int} {c0 : Int → Int} {en : Int → Int} {cl : Int → Int} {cw : Int → Int} {nL : Int} {kd : Int → Int} {wy : Int → Int} {wh : Int → Int} {b k : Int} (hG : pj_G W sd op ed) (p0_ : W b) (p1_ : 0 ≤ k) (p2_ : k < nL) (p3_ : wh k ≠ 2) (p4_ : kd k = 0) (p5_ : wy k = op b) (p6_ : ∀ j, 0 ≤ j → j < k → wy j = wy k → wh j ≠ 0) (p7_ : om (sd (op b)) = (ed b)) (p8_ : om (sd b) = (ed b)) (p9_ : ps (sd (op b)) = 1) (p10_ : ps (sd b) = 1) (p11_ : dl (sd (op b)) = lv (sd (op b))) (p12_ : lv (sd (op b)) = lv (sd b)) (p13_ : lv (sd (op b)) = 0 ∨ nm (sd (op b)) ≠ nm (sd b)) (p14_ : en b = 1) (p15_ : en (op b) = 1) (p16_ : st (sd (op b)) = 2) (p17_ : st (sd b) = 2) (p18_ : (cl (ed b) = 0 ∧ dl (sd b) = lv (sd b)) ∨ (cl (ed b) = lv (sd b) + 1 ∧ dl (sd b) = cl (ed b) ∧ dn (sd b) = (ed b))) (p19_ : 1 ≤ lv (sd b) → cl (ed b) = 0 → cw (nm (sd b)) = b ∧ cw (nm (sd (op b))) = op b ∧ cl (nm (sd b)) = lv (sd b) ∧ cl (nm (sd (op b))) = lv (sd b)) (p20_ : lv (sd b) = 0 → c0 (sd b) = (ed b) ∧ c0 (sd (op b)) = (ed b)) (p21_ : 0 ≤ lv (sd b)) (p22_ : 0 ≤ nL) (cC1 : pj_C1 lv nm cl) : pj_C1 lv nm (pu cl (ed b) (lv (sd b) + 1)) := by
  obtain ⟨hop, hed⟩ := hG
  unfold pj_C1 at *
  intro n0
  simp only [pu]
  have g0 := hop b
  have cC1_0 := cC1 (sd (op b))
  have cC1_1 := cC1 n0
  have cC1_2 := cC1 (sd b)
  have f0 := p6_ k
  clear p6_
  clear hop hed cC1
  grind (splits := 24)

set_option maxHeartbeats 1000000 in
theorem pt_mg_C2 {W : Int → Prop} {sd : Int → Int} {op : Int → Int} {ed : Int → Int} {st : Int → Int} {lv : Int → Int} {nm : Int → Int} {om : Int → Int} {ps : Int → Int} {dl : Int → Int} {dn : Int → Int} {c0 : Int → Int} {en : Int → Int} {cl : Int → Int} {cw : Int → Int} {nL : Int} {kd : Int → Int} {wy : Int → Int} {wh : Int → Int} {b k : Int} (hG : pj_G W sd op ed) (p0_ : W b) (p1_ : 0 ≤ k) (p2_ : k < nL) (p3_ : wh k ≠ 2) (p4_ : kd k = 0) (p5_ : wy k = op b) (p6_ : ∀ j, 0 ≤ j → j < k → wy j = wy k → wh j ≠ 0) (p7_ : om (sd (op b)) = (ed b)) (p8_ : om (sd b) = (ed b)) (p9_ : ps (sd (op b)) = 1) (p10_ : ps (sd b) = 1) (p11_ : dl (sd (op b)) = lv (sd (op b))) (p12_ : lv (sd (op b)) = lv (sd b)) (p13_ : lv (sd (op b)) = 0 ∨ nm (sd (op b)) ≠ nm (sd b)) (p14_ : en b = 1) (p15_ : en (op b) = 1) (p16_ : st (sd (op b)) = 2) (p17_ : st (sd b) = 2) (p18_ : (cl (ed b) = 0 ∧ dl (sd b) = lv (sd b)) ∨ (cl (ed b) = lv (sd b) + 1 ∧ dl (sd b) = cl (ed b) ∧ dn (sd b) = (ed b))) (p19_ : 1 ≤ lv (sd b) → cl (ed b) = 0 → cw (nm (sd b)) = b ∧ cw (nm (sd (op b))) = op b ∧ cl (nm (sd b)) = lv (sd b) ∧ cl (nm (sd (op b))) = lv (sd b)) (p20_ : lv (sd b) = 0 → c0 (sd b) = (ed b) ∧ c0 (sd (op b)) = (ed b)) (p21_ : 0 ≤ lv (sd b)) (p22_ : 0 ≤ nL) (cC2 : pj_C2 lv nm dl dn cl) : pj_C2 lv nm (pu dl (sd (op b)) (lv (sd b) + 1)) (pu dn (sd (op b)) (ed b)) (pu cl (ed b) (lv (sd b) + 1)) := by
  obtain ⟨hop, hed⟩ := hG
  unfold pj_C2 at *
  intro n0
  simp only [pu]
  have g0 := hop b
  have cC2_0 := cC2 (sd (op b))
  have cC2_1 := cC2 n0
  have cC2_2 := cC2 (sd b)
  have f0 := p6_ k
  clear p6_
  clear hop hed cC2
  grind (splits := 24)

set_option maxHeartbeats 1000000 in
theorem pt_mg_R3a {W : Int → Prop} {sd : Int → Int} {op : Int → Int} {ed : Int → Int} {st : Int → Int} {lv : Int → Int} {nm : Int → Int} {om : Int → Int} {ps : Int → Int} {dl : Int → Int} {dn : Int → Int} {c0 : Int → Int} {en : Int → Int} {cl : Int → Int} {cw : Int → Int} {nL : Int} {kd : Int → Int} {wy : Int → Int} {wh : Int → Int} {b k : Int} (hG : pj_G W sd op ed) (p0_ : W b) (p1_ : 0 ≤ k) (p2_ : k < nL) (p3_ : wh k ≠ 2) (p4_ : kd k = 0) (p5_ : wy k = op b) (p6_ : ∀ j, 0 ≤ j → j < k → wy j = wy k → wh j ≠ 0) (p7_ : om (sd (op b)) = (ed b)) (p8_ : om (sd b) = (ed b)) (p9_ : ps (sd (op b)) = 1) (p10_ : ps (sd b) = 1) (p11_ : dl (sd (op b)) = lv (sd (op b))) (p12_ : lv (sd (op b)) = lv (sd b)) (p13_ : lv (sd (op b)) = 0 ∨ nm (sd (op b)) ≠ nm (sd b)) (p14_ : en b = 1) (p15_ : en (op b) = 1) (p16_ : st (sd (op b)) = 2) (p17_ : st (sd b) = 2) (p18_ : (cl (ed b) = 0 ∧ dl (sd b) = lv (sd b)) ∨ (cl (ed b) = lv (sd b) + 1 ∧ dl (sd b) = cl (ed b) ∧ dn (sd b) = (ed b))) (p19_ : 1 ≤ lv (sd b) → cl (ed b) = 0 → cw (nm (sd b)) = b ∧ cw (nm (sd (op b))) = op b ∧ cl (nm (sd b)) = lv (sd b) ∧ cl (nm (sd (op b))) = lv (sd b)) (p20_ : lv (sd b) = 0 → c0 (sd b) = (ed b) ∧ c0 (sd (op b)) = (ed b)) (p21_ : 0 ≤ lv (sd b)) (p22_ : 0 ≤ nL) (cR3a : pj_R3a st lv dl) : pj_R3a st lv (pu dl (sd (op b)) (lv (sd b) + 1)) := by
  obtain ⟨hop, hed⟩ := hG
  unfold pj_R3a at *
  intro n0
  simp only [pu]
  have g0 := hop b
  have cR3a_0 := cR3a (sd (op b))
  have cR3a_1 := cR3a n0
  have cR3a_2 := cR3a (sd b)
  have f0 := p6_ k
  clear p6_
  clear hop hed cR3a
  grind (splits := 24)

set_option maxHeartbeats 1000000 in
theorem pt_mg_E1 {W : Int → Prop} {sd : Int → Int} {op : Int → Int} {ed : Int → Int} {st : Int → Int} {lv : Int → Int} {nm : Int → Int} {om : Int → Int} {ps : Int → Int} {dl : Int → Int} {dn : Int → Int} {c0 : Int → Int} {en : Int → Int} {cl : Int → Int} {cw : Int → Int} {nL : Int} {kd : Int → Int} {wy : Int → Int} {ll : Int → Int} {wh : Int → Int} {b k : Int} (hG : pj_G W sd op ed) (p0_ : W b) (p1_ : 0 ≤ k) (p2_ : k < nL) (p3_ : wh k ≠ 2) (p4_ : kd k = 0) (p5_ : wy k = op b) (p6_ : ∀ j, 0 ≤ j → j < k → wy j = wy k → wh j ≠ 0) (p7_ : om (sd (op b)) = (ed b)) (p8_ : om (sd b) = (ed b)) (p9_ : ps (sd (op b)) = 1) (p10_ : ps (sd b) = 1) (p11_ : dl (sd (op b)) = lv (sd (op b))) (p12_ : lv (sd (op b)) = lv (sd b)) (p13_ : lv (sd (op b)) = 0 ∨ nm (sd (op b)) ≠ nm (sd b)) (p14_ : en b = 1) (p15_ : en (op b) = 1) (p16_ : st (sd (op b)) = 2) (p17_ : st (sd b) = 2) (p18_ : (cl (ed b) = 0 ∧ dl (sd b) = lv (sd b)) ∨ (cl (ed b) = lv (sd b) + 1 ∧ dl (sd b) = cl (ed b) ∧ dn (sd b) = (ed b))) (p19_ : 1 ≤ lv (sd b) → cl (ed b) = 0 → cw (nm (sd b)) = b ∧ cw (nm (sd (op b))) = op b ∧ cl (nm (sd b)) = lv (sd b) ∧ cl (nm (sd (op b))) = lv (sd b)) (p20_ : lv (sd b) = 0 → c0 (sd b) = (ed b) ∧ c0 (sd (op b)) = (ed b)) (p21_ : 0 ≤ lv (sd b)) (p22_ : 0 ≤ nL) (cE1 : pj_E1 sd op lv dl nL kd wy ll wh) : pj_E1 sd op lv (pu dl (sd (op b)) (lv (sd b) + 1)) (nL + 1) (pu kd nL 1) (pu wy nL b) (pu ll nL (lv (sd b) + 1)) (pu (pu wh k 2) nL 0) := by
  obtain ⟨hop, hed⟩ := hG
  unfold pj_E1 at *
  intro n0
  simp only [pu]
  have g0 := hop b
  have cE1_0 := cE1 (sd (op b))
  have cE1_1 := cE1 n0
  have cE1_2 := cE1 (sd b)
  have f0 := p6_ k
  clear p6_
  clear hop hed cE1
  by_cases hq : n0 = (sd (op b))
  · intro _; exact ⟨nL, by grind⟩
  · intro h0
    obtain ⟨k1, hk⟩ := cE1_1 (by grind)
    exact ⟨k1, by grind⟩

set_option maxHeartbeats 1000000 in
theorem pt_mg_U {W : Int → Prop} {sd : Int → Int} {op : Int → Int} {ed : Int → Int} {st : Int → Int} {lv : Int → Int} {nm : Int → Int} {om : Int → Int} {ps : Int → Int} {dl : Int → Int} {dn : Int → Int} {c0 : Int → Int} {en : Int → Int} {cl : Int → Int} {cw : Int → Int} {nL : Int} {kd : Int → Int} {wy : Int → Int} {wh : Int → Int} {b k : Int} (hG : pj_G W sd op ed) (p0_ : W b) (p1_ : 0 ≤ k) (p2_ : k < nL) (p3_ : wh k ≠ 2) (p4_ : kd k = 0) (p5_ : wy k = op b) (p6_ : ∀ j, 0 ≤ j → j < k → wy j = wy k → wh j ≠ 0) (p7_ : om (sd (op b)) = (ed b)) (p8_ : om (sd b) = (ed b)) (p9_ : ps (sd (op b)) = 1) (p10_ : ps (sd b) = 1) (p11_ : dl (sd (op b)) = lv (sd (op b))) (p12_ : lv (sd (op b)) = lv (sd b)) (p13_ : lv (sd (op b)) = 0 ∨ nm (sd (op b)) ≠ nm (sd b)) (p14_ : en b = 1) (p15_ : en (op b) = 1) (p16_ : st (sd (op b)) = 2) (p17_ : st (sd b) = 2) (p18_ : (cl (ed b) = 0 ∧ dl (sd b) = lv (sd b)) ∨ (cl (ed b) = lv (sd b) + 1 ∧ dl (sd b) = cl (ed b) ∧ dn (sd b) = (ed b))) (p19_ : 1 ≤ lv (sd b) → cl (ed b) = 0 → cw (nm (sd b)) = b ∧ cw (nm (sd (op b))) = op b ∧ cl (nm (sd b)) = lv (sd b) ∧ cl (nm (sd (op b))) = lv (sd b)) (p20_ : lv (sd b) = 0 → c0 (sd b) = (ed b) ∧ c0 (sd (op b)) = (ed b)) (p21_ : 0 ≤ lv (sd b)) (p22_ : 0 ≤ nL) (cU : pj_U W sd op ed lv nm om ps dl en cl) : pj_U W sd op ed lv nm om ps (pu dl (sd (op b)) (lv (sd b) + 1)) en (pu cl (ed b) (lv (sd b) + 1)) := by
  obtain ⟨hop, hed⟩ := hG
  unfold pj_U at *
  intro w0
  simp only [pu]
  have g0 := hop b
  have g1 := hop w0
  have g2 := hed b w0
  have cU_0 := cU b
  have cU_1 := cU w0
  have cU_2 := cU (op w0)
  have f0 := p6_ k
  clear p6_
  clear hop hed cU
  grind (splits := 24)

set_option maxHeartbeats 1000000 in
theorem pt_mg_A1 {W : Int → Prop} {sd : Int → Int} {op : Int → Int} {ed : Int → Int} {st : Int → Int} {lv : Int → Int} {nm : Int → Int} {om : Int → Int} {ps : Int → Int} {dl : Int → Int} {dn : Int → Int} {c0 : Int → Int} {en : Int → Int} {cl : Int → Int} {cw : Int → Int} {nL : Int} {kd : Int → Int} {wy : Int → Int} {wh : Int → Int} {F : Int → Prop} {fl : Int} {fc : Int} {b k : Int} (hG : pj_G W sd op ed) (p0_ : W b) (p1_ : 0 ≤ k) (p2_ : k < nL) (p3_ : wh k ≠ 2) (p4_ : kd k = 0) (p5_ : wy k = op b) (p6_ : ∀ j, 0 ≤ j → j < k → wy j = wy k → wh j ≠ 0) (p7_ : om (sd (op b)) = (ed b)) (p8_ : om (sd b) = (ed b)) (p9_ : ps (sd (op b)) = 1) (p10_ : ps (sd b) = 1) (p11_ : dl (sd (op b)) = lv (sd (op b))) (p12_ : lv (sd (op b)) = lv (sd b)) (p13_ : lv (sd (op b)) = 0 ∨ nm (sd (op b)) ≠ nm (sd b)) (p14_ : en b = 1) (p15_ : en (op b) = 1) (p16_ : st (sd (op b)) = 2) (p17_ : st (sd b) = 2) (p18_ : (cl (ed b) = 0 ∧ dl (sd b) = lv (sd b)) ∨ (cl (ed b) = lv (sd b) + 1 ∧ dl (sd b) = cl (ed b) ∧ dn (sd b) = (ed b))) (p19_ : 1 ≤ lv (sd b) → cl (ed b) = 0 → cw (nm (sd b)) = b ∧ cw (nm (sd (op b))) = op b ∧ cl (nm (sd b)) = lv (sd b) ∧ cl (nm (sd (op b))) = lv (sd b)) (p20_ : lv (sd b) = 0 → c0 (sd b) = (ed b) ∧ c0 (sd (op b)) = (ed b)) (p21_ : 0 ≤ lv (sd b)) (p22_ : 0 ≤ nL) (cA1 : pj_A1 W sd op ed lv nm om dl dn en F fl fc) : pj_A1 W sd op ed lv nm om (pu dl (sd (op b)) (lv (sd b) + 1)) (pu dn (sd (op b)) (ed b)) en F fl fc := by
  obtain ⟨hop, hed⟩ := hG
  unfold pj_A1 at *
  intro w0
  simp only [pu]
  have g0 := hop b
  have g1 := hop w0
  have g2 := hed b w0
  have cA1_0 := cA1 b
  have cA1_1 := cA1 w0
  have cA1_2 := cA1 (op w0)
  have f0 := p6_ k
  clear p6_
  clear hop hed cA1
  grind (splits := 24)

set_option maxHeartbeats 1000000 in
theorem pt_mg_A2 {W : Int → Prop} {sd : Int → Int} {op : Int → Int} {ed : Int → Int} {st : Int → Int} {lv : Int → Int} {nm : Int → Int} {om : Int → Int} {ps : Int → Int} {dl : Int → Int} {dn : Int → Int} {c0 : Int → Int} {en : Int → Int} {cl : Int → Int} {cw : Int → Int} {nL : Int} {kd : Int → Int} {wy : Int → Int} {wh : Int → Int} {b k : Int} (hG : pj_G W sd op ed) (p0_ : W b) (p1_ : 0 ≤ k) (p2_ : k < nL) (p3_ : wh k ≠ 2) (p4_ : kd k = 0) (p5_ : wy k = op b) (p6_ : ∀ j, 0 ≤ j → j < k → wy j = wy k → wh j ≠ 0) (p7_ : om (sd (op b)) = (ed b)) (p8_ : om (sd b) = (ed b)) (p9_ : ps (sd (op b)) = 1) (p10_ : ps (sd b) = 1) (p11_ : dl (sd (op b)) = lv (sd (op b))) (p12_ : lv (sd (op b)) = lv (sd b)) (p13_ : lv (sd (op b)) = 0 ∨ nm (sd (op b)) ≠ nm (sd b)) (p14_ : en b = 1) (p15_ : en (op b) = 1) (p16_ : st (sd (op b)) = 2) (p17_ : st (sd b) = 2) (p18_ : (cl (ed b) = 0 ∧ dl (sd b) = lv (sd b)) ∨ (cl (ed b) = lv (sd b) + 1 ∧ dl (sd b) = cl (ed b) ∧ dn (sd b) = (ed b))) (p19_ : 1 ≤ lv (sd b) → cl (ed b) = 0 → cw (nm (sd b)) = b ∧ cw (nm (sd (op b))) = op b ∧ cl (nm (sd b)) = lv (sd b) ∧ cl (nm (sd (op b))) = lv (sd b)) (p20_ : lv (sd b) = 0 → c0 (sd b) = (ed b) ∧ c0 (sd (op b)) = (ed b)) (p21_ : 0 ≤ lv (sd b)) (p22_ : 0 ≤ nL) (cA2 : pj_A2 W sd op ed st lv nm om ps dl dn cl) : pj_A2 W sd op ed st lv nm om ps (pu dl (sd (op b)) (lv (sd b) + 1)) (pu dn (sd (op b)) (ed b)) (pu cl (ed b) (lv (sd b) + 1)) := by
  obtain ⟨hop, hed⟩ := hG
  unfold pj_A2 at *
  intro w0
  simp only [pu]
  have g0 := hop b
  have g1 := hop w0
  have g2 := hed b w0
  have cA2_0 := cA2 b
  have cA2_1 := cA2 w0
  have cA2_2 := cA2 (op w0)
  have f0 := p6_ k
  clear p6_
  clear hop hed cA2
  grind (splits := 24)

set_option maxHeartbeats 1000000 in
theorem pt_mg_EC {W : Int → Prop} {sd : Int → Int} {op : Int → Int} {ed : Int → Int} {st : Int → Int} {lv : Int → Int} {nm : Int → Int} {om : Int → Int} {ps : Int → Int} {dl : Int → Int} {dn : Int → Int} {c0 : Int → Int} {en : Int → Int} {cl : Int → Int} {cw : Int → Int} {nL : Int} {kd : Int → Int} {wy : Int → Int} {wh : Int → Int} {F : Int → Prop} {b k : Int} (hG : pj_G W sd op ed) (p0_ : W b) (p1_ : 0 ≤ k) (p2_ : k < nL) (p3_ : wh k ≠ 2) (p4_ : kd k = 0) (p5_ : wy k = op b) (p6_ : ∀ j, 0 ≤ j → j < k → wy j = wy k → wh j ≠ 0) (p7_ : om (sd (op b)) = (ed b)) (p8_ : om (sd b) = (ed b)) (p9_ : ps (sd (op b)) = 1) (p10_ : ps (sd b) = 1) (p11_ : dl (sd (op b)) = lv (sd (op b))) (p12_ : lv (sd (op b)) = lv (sd b)) (p13_ : lv (sd (op b)) = 0 ∨ nm (sd (op b)) ≠ nm (sd b)) (p14_ : en b = 1) (p15_ : en (op b) = 1) (p16_ : st (sd (op b)) = 2) (p17_ : st (sd b) = 2) (p18_ : (cl (ed b) = 0 ∧ dl (sd b) = lv (sd b)) ∨ (cl (ed b) = lv (sd b) + 1 ∧ dl (sd b) = cl (ed b) ∧ dn (sd b) = (ed b))) (p19_ : 1 ≤ lv (sd b) → cl (ed b) = 0 → cw (nm (sd b)) = b ∧ cw (nm (sd (op b))) = op b ∧ cl (nm (sd b)) = lv (sd b) ∧ cl (nm (sd (op b))) = lv (sd b)) (p20_ : lv (sd b) = 0 → c0 (sd b) = (ed b) ∧ c0 (sd (op b)) = (ed b)) (p21_ : 0 ≤ lv (sd b)) (p22_ : 0 ≤ nL) (cEC : pj_EC W sd op ed lv nm om ps dl nL kd wy wh F) : pj_EC W sd op ed lv nm om ps (pu dl (sd (op b)) (lv (sd b) + 1)) (nL + 1) (pu kd nL 1) (pu wy nL b) (pu (pu wh k 2) nL 0) F := by
  obtain ⟨hop, hed⟩ := hG
  unfold pj_EC at *
  intro w0
  simp only [pu]
  have g0 := hop b
  have g1 := hop w0
  have g2 := hed b w0
  have cEC_0 := cEC b
  have cEC_1 := cEC w0
  have cEC_2 := cEC (op w0)
  have f0 := p6_ k
  clear p6_
  clear hop hed cEC
  grind (splits := 24)

set_option maxHeartbeats 1000000 in
theorem pt_mg_N12 {W : Int → Prop} {sd : Int → Int} {op : Int → Int} {ed : Int → Int} {st : Int → Int} {lv : Int → Int} {nm : Int → Int} {inw : Int → Int} {tow : Int → Int} {om : Int → Int} {ps : Int → Int} {dl : Int → Int} {dn : Int → Int} {c0 : Int → Int} {en : Int → Int} {cl : Int → Int} {cw : Int → Int} {nL : Int} {kd : Int → Int} {wy : Int → Int} {wh : Int → Int} {b k : Int} (hG : pj_G W sd op ed) (p0_ : W b) (p1_ : 0 ≤ k) (p2_ : k < nL) (p3_ : wh k ≠ 2) (p4_ : kd k = 0) (p5_ : wy k = op b) (p6_ : ∀ j, 0 ≤ j → j < k → wy j = wy k → wh j ≠ 0) (p7_ : om (sd (op b)) = (ed b)) (p8_ : om (sd b) = (ed b)) (p9_ : ps (sd (op b)) = 1) (p10_ : ps (sd b) = 1) (p11_ : dl (sd (op b)) = lv (sd (op b))) (p12_ : lv (sd (op b)) = lv (sd b)) (p13_ : lv (sd (op b)) = 0 ∨ nm (sd (op b)) ≠ nm (sd b)) (p14_ : en b = 1) (p15_ : en (op b) = 1) (p16_ : st (sd (op b)) = 2) (p17_ : st (sd b) = 2) (p18_ : (cl (ed b) = 0 ∧ dl (sd b) = lv (sd b)) ∨ (cl (ed b) = lv (sd b) + 1 ∧ dl (sd b) = cl (ed b) ∧ dn (sd b) = (ed b))) (p19_ : 1 ≤ lv (sd b) → cl (ed b) = 0 → cw (nm (sd b)) = b ∧ cw (nm (sd (op b))) = op b ∧ cl (nm (sd b)) = lv (sd b) ∧ cl (nm (sd (op b))) = lv (sd b)) (p20_ : lv (sd b) = 0 → c0 (sd b) = (ed b) ∧ c0 (sd (op b)) = (ed b)) (p21_ : 0 ≤ lv (sd b)) (p22_ : 0 ≤ nL) (cN12 : pj_N12 W sd op ed st lv nm inw tow om ps dl en) : pj_N12 W sd op ed st lv nm inw tow om ps (pu dl (sd (op b)) (lv (sd b) + 1)) en := by
  obtain ⟨hop, hed⟩ := hG
  unfold pj_N12 at *
  intro w0
  simp only [pu]
  have g0 := hop b
  have g1 := hop w0
  have g2 := hed b w0
  have cN12_0 := cN12 b
  have cN12_1 := cN12 w0
  have cN12_2 := cN12 (op w0)
  have f0 := p6_ k
  clear p6_
  clear hop hed cN12
  grind (splits := 24)

set_option maxHeartbeats 1000000 in
theorem pt_mg_CC {W : Int → Prop} {sd : Int → Int} {op : Int → Int} {ed : Int → Int} {st : Int → Int} {lv : Int → Int} {nm : Int → Int} {om : Int → Int} {ps : Int → Int} {dl : Int → Int} {dn : Int → Int} {c0 : Int → Int} {en : Int → Int} {cl : Int → Int} {cw : Int → Int} {nL : Int} {kd : Int → Int} {wy : Int → Int} {wh : Int → Int} {b k : Int} (hG : pj_G W sd op ed) (p0_ : W b) (p1_ : 0 ≤ k) (p2_ : k < nL) (p3_ : wh k ≠ 2) (p4_ : kd k = 0) (p5_ : wy k = op b) (p6_ : ∀ j, 0 ≤ j → j < k → wy j = wy k → wh j ≠ 0) (p7_ : om (sd (op b)) = (ed b)) (p8_ : om (sd b) = (ed b)) (p9_ : ps (sd (op b)) = 1) (p10_ : ps (sd b) = 1) (p11_ : dl (sd (op b)) = lv (sd (op b))) (p12_ : lv (sd (op b)) = lv (sd b)) (p13_ : lv (sd (op b)) = 0 ∨ nm (sd (op b)) ≠ nm (sd b)) (p14_ : en b = 1) (p15_ : en (op b) = 1) (p16_ : st (sd (op b)) = 2) (p17_ : st (sd b) = 2) (p18_ : (cl (ed b) = 0 ∧ dl (sd b) = lv (sd b)) ∨ (cl (ed b) = lv (sd b) + 1 ∧ dl (sd b) = cl (ed b) ∧ dn (sd b) = (ed b))) (p19_ : 1 ≤ lv (sd b) → cl (ed b) = 0 → cw (nm (sd b)) = b ∧ cw (nm (sd (op b))) = op b ∧ cl (nm (sd b)) = lv (sd b) ∧ cl (nm (sd (op b))) = lv (sd b)) (p20_ : lv (sd b) = 0 → c0 (sd b) = (ed b) ∧ c0 (sd (op b)) = (ed b)) (p21_ : 0 ≤ lv (sd b)) (p22_ : 0 ≤ nL) (cCC : pj_CC W ed en cl) : pj_CC W ed en (pu cl (ed b) (lv (sd b) + 1)) := by
  obtain ⟨hop, hed⟩ := hG
  unfold pj_CC at *
  intro w0
  simp only [pu]
  have g0 := hop b
  have g1 := hop w0
  have g2 := hed b w0
  have cCC_0 := cCC b
  have cCC_1 := cCC w0
  have cCC_2 := cCC (op w0)
  have f0 := p6_ k
  clear p6_
  clear hop hed cCC
  grind (splits := 24)

set_option maxHeartbeats 1000000 in
theorem pt_mg_CD {W : Int → Prop} {sd : Int → Int} {op : Int → Int} {ed : Int → Int} {st : Int → Int} {lv : Int → Int} {nm : Int → Int} {om : Int → Int} {ps : Int → Int} {dl : Int → Int} {dn : Int → Int} {c0 : Int → Int} {en : Int → Int} {cl : Int → Int} {cw : Int → Int} {nL : Int} {kd : Int → Int} {wy : Int → Int} {wh : Int → Int} {b k : Int} (hG : pj_G W sd op ed) (p0_ : W b) (p1_ : 0 ≤ k) (p2_ : k < nL) (p3_ : wh k ≠ 2) (p4_ : kd k = 0) (p5_ : wy k = op b) (p6_ : ∀ j, 0 ≤ j → j < k → wy j = wy k → wh j ≠ 0) (p7_ : om (sd (op b)) = (ed b)) (p8_ : om (sd b) = (ed b)) (p9_ : ps (sd (op b)) = 1) (p10_ : ps (sd b) = 1) (p11_ : dl (sd (op b)) = lv (sd (op b))) (p12_ : lv (sd (op b)) = lv (sd b)) (p13_ : lv (sd (op b)) = 0 ∨ nm (sd (op b)) ≠ nm (sd b)) (p14_ : en b = 1) (p15_ : en (op b) = 1) (p16_ : st (sd (op b)) = 2) (p17_ : st (sd b) = 2) (p18_ : (cl (ed b) = 0 ∧ dl (sd b) = lv (sd b)) ∨ (cl (ed b) = lv (sd b) + 1 ∧ dl (sd b) = cl (ed b) ∧ dn (sd b) = (ed b))) (p19_ : 1 ≤ lv (sd b) → cl (ed b) = 0 → cw (nm (sd b)) = b ∧ cw (nm (sd (op b))) = op b ∧ cl (nm (sd b)) = lv (sd b) ∧ cl (nm (sd (op b))) = lv (sd b)) (p20_ : lv (sd b) = 0 → c0 (sd b) = (ed b) ∧ c0 (sd (op b)) = (ed b)) (p21_ : 0 ≤ lv (sd b)) (p22_ : 0 ≤ nL) (cCD : pj_CD W sd op ed om dl cl) : pj_CD W sd op ed om (pu dl (sd (op b)) (lv (sd b) + 1)) (pu cl (ed b) (lv (sd b) + 1)) := by
  obtain ⟨hop, hed⟩ := hG
  unfold pj_CD at *
  intro w0
  simp only [pu]
  have g0 := hop b
  have g1 := hop w0
  have g2 := hed b w0
  have cCD_0 := cCD b
  have cCD_1 := cCD w0
  have cCD_2 := cCD (op w0)
  have f0 := p6_ k
  clear p6_
  clear hop hed cCD
  grind (splits := 24)

set_option maxHeartbeats 1000000 in
theorem pt_mg_RP1 {W : Int → Prop} {sd : Int → Int} {op : Int → Int} {ed : Int → Int} {st : Int → Int} {lv : Int → Int} {nm : Int → Int} {om : Int → Int} {ps : Int → Int} {dl : Int → Int} {dn : Int → Int} {c0 : Int → Int} {en : Int → Int} {rp : Int → Int} {cl : Int → Int} {cw : Int → Int} {nL : Int} {kd : Int → Int} {wy : Int → Int} {wh : Int → Int} {b k : Int} (hG : pj_G W sd op ed) (p0_ : W b) (p1_ : 0 ≤ k) (p2_ : k < nL) (p3_ : wh k ≠ 2) (p4_ : kd k = 0) (p5_ : wy k = op b) (p6_ : ∀ j, 0 ≤ j → j < k → wy j = wy k → wh j ≠ 0) (p7_ : om (sd (op b)) = (ed b)) (p8_ : om (sd b) = (ed b)) (p9_ : ps (sd (op b)) = 1) (p10_ : ps (sd b) = 1) (p11_ : dl (sd (op b)) = lv (sd (op b))) (p12_ : lv (sd (op b)) = lv (sd b)) (p13_ : lv (sd (op b)) = 0 ∨ nm (sd (op b)) ≠ nm (sd b)) (p14_ : en b = 1) (p15_ : en (op b) = 1) (p16_ : st (sd (op b)) = 2) (p17_ : st (sd b) = 2) (p18_ : (cl (ed b) = 0 ∧ dl (sd b) = lv (sd b)) ∨ (cl (ed b) = lv (sd b) + 1 ∧ dl (sd b) = cl (ed b) ∧ dn (sd b) = (ed b))) (p19_ : 1 ≤ lv (sd b) → cl (ed b) = 0 → cw (nm (sd b)) = b ∧ cw (nm (sd (op b))) = op b ∧ cl (nm (sd b)) = lv (sd b) ∧ cl (nm (sd (op b))) = lv (sd b)) (p20_ : lv (sd b) = 0 → c0 (sd b) = (ed b) ∧ c0 (sd (op b)) = (ed b)) (p21_ : 0 ≤ lv (sd b)) (p22_ : 0 ≤ nL) (cRP1 : pj_RP1 W sd ed lv rp cl) : pj_RP1 W sd ed lv rp (pu cl (ed b) (lv (sd b) + 1)) := by
  obtain ⟨hop, hed⟩ := hG
  unfold pj_RP1 at *
  intro w0
  simp only [pu]
  have g0 := hop b
  have g1 := hop w0
  have g2 := hed b w0
  have cRP1_0 := cRP1 b
  have cRP1_1 := cRP1 w0
  have cRP1_2 := cRP1 (op w0)
  have f0 := p6_ k
  clear p6_
  clear hop hed cRP1
  grind (splits := 24)

set_option maxHeartbeats 1000000 in
theorem pt_mg_CR {W : Int → Prop} {sd : Int → Int} {op : Int → Int} {ed : Int → Int} {st : Int → Int} {lv : Int → Int} {nm : Int → Int} {om : Int → Int} {ps : Int → Int} {dl : Int → Int} {dn : Int → Int} {c0 : Int → Int} {en : Int → Int} {cl : Int → Int} {cw : Int → Int} {nL : Int} {kd : Int → Int} {wy : Int → Int} {wh : Int → Int} {b k : Int} (hG : pj_G W sd op ed) (p0_ : W b) (p1_ : 0 ≤ k) (p2_ : k < nL) (p3_ : wh k ≠ 2) (p4_ : kd k = 0) (p5_ : wy k = op b) (p6_ : ∀ j, 0 ≤ j → j < k → wy j = wy k → wh j ≠ 0) (p7_ : om (sd (op b)) = (ed b)) (p8_ : om (sd b) = (ed b)) (p9_ : ps (sd (op b)) = 1) (p10_ : ps (sd b) = 1) (p11_ : dl (sd (op b)) = lv (sd (op b))) (p12_ : lv (sd (op b)) = lv (sd b)) (p13_ : lv (sd (op b)) = 0 ∨ nm (sd (op b)) ≠ nm (sd b)) (p14_ : en b = 1) (p15_ : en (op b) = 1) (p16_ : st (sd (op b)) = 2) (p17_ : st (sd b) = 2) (p18_ : (cl (ed b) = 0 ∧ dl (sd b) = lv (sd b)) ∨ (cl (ed b) = lv (sd b) + 1 ∧ dl (sd b) = cl (ed b) ∧ dn (sd b) = (ed b))) (p19_ : 1 ≤ lv (sd b) → cl (ed b) = 0 → cw (nm (sd b)) = b ∧ cw (nm (sd (op b))) = op b ∧ cl (nm (sd b)) = lv (sd b) ∧ cl (nm (sd (op b))) = lv (sd b)) (p20_ : lv (sd b) = 0 → c0 (sd b) = (ed b) ∧ c0 (sd (op b)) = (ed b)) (p21_ : 0 ≤ lv (sd b)) (p22_ : 0 ≤ nL) (cCR : pj_CR W ed cl) : pj_CR W ed (pu cl (ed b) (lv (sd b) + 1)) := by
  obtain ⟨hop, hed⟩ := hG
  unfold pj_CR at *
  intro c0
  simp only [pu]
  have g0 := hop b
  have cCR_0 := cCR c0
  have f0 := p6_ k
  clear p6_
  clear hop hed cCR
  grind (splits := 24)

set_option maxHeartbeats 1000000 in
theorem pt_mg_Z1 {W : Int → Prop} {sd : Int → Int} {op : Int → Int} {ed : Int → Int} {st : Int → Int} {lv : Int → Int} {nm : Int → Int} {om : Int → Int} {ps : Int → Int} {dl : Int → Int} {dn : Int → Int} {c0 : Int → Int} {en : Int → Int} {cl : Int → Int} {cw : Int → Int} {nL : Int} {kd : Int → Int} {wy : Int → Int} {wh : Int → Int} {b k : Int} (hG : pj_G W sd op ed) (p0_ : W b) (p1_ : 0 ≤ k) (p2_ : k < nL) (p3_ : wh k ≠ 2) (p4_ : kd k = 0) (p5_ : wy k = op b) (p6_ : ∀ j, 0 ≤ j → j < k → wy j = wy k → wh j ≠ 0) (p7_ : om (sd (op b)) = (ed b)) (p8_ : om (sd b) = (ed b)) (p9_ : ps (sd (op b)) = 1) (p10_ : ps (sd b) = 1) (p11_ : dl (sd (op b)) = lv (sd (op b))) (p12_ : lv (sd (op b)) = lv (sd b)) (p13_ : lv (sd (op b)) = 0 ∨ nm (sd (op b)) ≠ nm (sd b)) (p14_ : en b = 1) (p15_ : en (op b) = 1) (p16_ : st (sd (op b)) = 2) (p17_ : st (sd b) = 2) (p18_ : (cl (ed b) = 0 ∧ dl (sd b) = lv (sd b)) ∨ (cl (ed b) = lv (sd b) + 1 ∧ dl (sd b) = cl (ed b) ∧ dn (sd b) = (ed b))) (p19_ : 1 ≤ lv (sd b) → cl (ed b) = 0 → cw (nm (sd b)) = b ∧ cw (nm (sd (op b))) = op b ∧ cl (nm (sd b)) = lv (sd b) ∧ cl (nm (sd (op b))) = lv (sd b)) (p20_ : lv (sd b) = 0 → c0 (sd b) = (ed b) ∧ c0 (sd (op b)) = (ed b)) (p21_ : 0 ≤ lv (sd b)) (p22_ : 0 ≤ nL) (cZ1 : pj_Z1 W ed cl cw) : pj_Z1 W ed (pu cl (ed b) (lv (sd b) + 1)) cw := by
  obtain ⟨hop, hed⟩ := hG
  unfold pj_Z1 at *
  intro w0
  simp only [pu]
  have g0 := hop b
  have g1 := hop w0
  have g2 := hed b w0
  have cZ1_0 := cZ1 b
  have cZ1_1 := cZ1 w0
  have cZ1_2 := cZ1 (op w0)
  have f0 := p6_ k
  clear p6_
  clear hop hed cZ1
  grind (splits := 24)

set_option maxHeartbeats 1000000 in
theorem pt_mg_Z0 {W : Int → Prop} {sd : Int → Int} {op : Int → Int} {ed : Int → Int} {st : Int → Int} {lv : Int → Int} {nm : Int → Int} {om : Int → Int} {ps : Int → Int} {dl : Int → Int} {dn : Int → Int} {c0 : Int → Int} {en : Int → Int} {cl : Int → Int} {cw : Int → Int} {nL : Int} {kd : Int → Int} {wy : Int → Int} {wh : Int → Int} {b k : Int} (hG : pj_G W sd op ed) (p0_ : W b) (p1_ : 0 ≤ k) (p2_ : k < nL) (p3_ : wh k ≠ 2) (p4_ : kd k = 0) (p5_ : wy k = op b) (p6_ : ∀ j, 0 ≤ j → j < k → wy j = wy k → wh j ≠ 0) (p7_ : om (sd (op b)) = (ed b)) (p8_ : om (sd b) = (ed b)) (p9_ : ps (sd (op b)) = 1) (p10_ : ps (sd b) = 1) (p11_ : dl (sd (op b)) = lv (sd (op b))) (p12_ : lv (sd (op b)) = lv (sd b)) (p13_ : lv (sd (op b)) = 0 ∨ nm (sd (op b)) ≠ nm (sd b)) (p14_ : en b = 1) (p15_ : en (op b) = 1) (p16_ : st (sd (op b)) = 2) (p17_ : st (sd b) = 2) (p18_ : (cl (ed b) = 0 ∧ dl (sd b) = lv (sd b)) ∨ (cl (ed b) = lv (sd b) + 1 ∧ dl (sd b) = cl (ed b) ∧ dn (sd b) = (ed b))) (p19_ : 1 ≤ lv (sd b) → cl (ed b) = 0 → cw (nm (sd b)) = b ∧ cw (nm (sd (op b))) = op b ∧ cl (nm (sd b)) = lv (sd b) ∧ cl (nm (sd (op b))) = lv (sd b)) (p20_ : lv (sd b) = 0 → c0 (sd b) = (ed b) ∧ c0 (sd (op b)) = (ed b)) (p21_ : 0 ≤ lv (sd b)) (p22_ : 0 ≤ nL) (cZ0 : pj_Z0 W sd ed c0 cl) : pj_Z0 W sd ed c0 (pu cl (ed b) (lv (sd b) + 1)) := by
  obtain ⟨hop, hed⟩ := hG
  unfold pj_Z0 at *
  intro w0
  simp only [pu]
  have g0 := hop b
  have g1 := hop w0
  have g2 := hed b w0
  have cZ0_0 := cZ0 b
  have cZ0_1 := cZ0 w0
  have cZ0_2 := cZ0 (op w0)
  have f0 := p6_ k
  clear p6_
  clear hop hed cZ0
  grind (splits := 24)

set_option maxHeartbeats 1000000 in
theorem pt_mg_WH {W : Int → Prop} {sd : Int → Int} {op : Int → Int} {ed : Int → Int} {st : Int → Int} {lv : Int → Int} {nm : Int → Int} {om : Int → Int} {ps : Int → Int} {dl : Int → Int} {dn : Int → Int} {c0 : Int → Int} {en : Int → Int} {cl : Int → Int} {cw : Int → Int} {nL : Int} {kd : Int → Int} {wy : Int → Int} {wh : Int → Int} {b k : Int} (hG : pj_G W sd op ed) (p0_ : W b) (p1_ : 0 ≤ k) (p2_ : k < nL) (p3_ : wh k ≠ 2) (p4_ : kd k = 0) (p5_ : wy k = op b) (p6_ : ∀ j, 0 ≤ j → j < k → wy j = wy k → wh j ≠ 0) (p7_ : om (sd (op b)) = (ed b)) (p8_ : om (sd b) = (ed b)) (p9_ : ps (sd (op b)) = 1) (p10_ : ps (sd b) = 1) (p11_ : dl (sd (op b)) = lv (sd (op b))) (p12_ : lv (sd (op b)) = lv (sd b)) (p13_ : lv (sd (op b)) = 0 ∨ nm (sd (op b)) ≠ nm (sd b)) (p14_ : en b = 1) (p15_ : en (op b) = 1) (p16_ : st (sd (op b)) = 2) (p17_ : st (sd b) = 2) (p18_ : (cl (ed b) = 0 ∧ dl (sd b) = lv (sd b)) ∨ (cl (ed b) = lv (sd b) + 1 ∧ dl (sd b) = cl (ed b) ∧ dn (sd b) = (ed b))) (p19_ : 1 ≤ lv (sd b) → cl (ed b) = 0 → cw (nm (sd b)) = b ∧ cw (nm (sd (op b))) = op b ∧ cl (nm (sd b)) = lv (sd b) ∧ cl (nm (sd (op b))) = lv (sd b)) (p20_ : lv (sd b) = 0 → c0 (sd b) = (ed b) ∧ c0 (sd (op b)) = (ed b)) (p21_ : 0 ≤ lv (sd b)) (p22_ : 0 ≤ nL) (cWH : pj_WH nL kd wh) (cR : pj_R W nL kd wy wh) : pj_WH (nL + 1) (pu kd nL 1) (pu (pu wh k 2) nL 0) := by
  obtain ⟨hop, hed⟩ := hG
  unfold pj_WH pj_R at *
  intro k0
  simp only [pu]
  have g0 := hop b
  have g1 := hop (wy k0)
  have g2 := hed b (wy k0)
  have cWH_0 := cWH k
  have cWH_1 := cWH k0
  have cR_0 := cR k0
  have f0 := p6_ k
  have f1 := p6_ k0
  clear p6_
  clear hop hed cWH cR
  grind (splits := 24)

set_option maxHeartbeats 1000000 in
theorem pt_mg_FI {W : Int → Prop} {sd : Int → Int} {op : Int → Int} {ed : Int → Int} {st : Int → Int} {lv : Int → Int} {nm : Int → Int} {om : Int → Int} {ps : Int → Int} {dl : Int → Int} {dn : Int → Int} {c0 : Int → Int} {en : Int → Int} {cl : Int → Int} {cw : Int → Int} {nL : Int} {kd : Int → Int} {wy : Int → Int} {wh : Int → Int} {b k : Int} (hG : pj_G W sd op ed) (p0_ : W b) (p1_ : 0 ≤ k) (p2_ : k < nL) (p3_ : wh k ≠ 2) (p4_ : kd k = 0) (p5_ : wy k = op b) (p6_ : ∀ j, 0 ≤ j → j < k → wy j = wy k → wh j ≠ 0) (p7_ : om (sd (op b)) = (ed b)) (p8_ : om (sd b) = (ed b)) (p9_ : ps (sd (op b)) = 1) (p10_ : ps (sd b) = 1) (p11_ : dl (sd (op b)) = lv (sd (op b))) (p12_ : lv (sd (op b)) = lv (sd b)) (p13_ : lv (sd (op b)) = 0 ∨ nm (sd (op b)) ≠ nm (sd b)) (p14_ : en b = 1) (p15_ : en (op b) = 1) (p16_ : st (sd (op b)) = 2) (p17_ : st (sd b) = 2) (p18_ : (cl (ed b) = 0 ∧ dl (sd b) = lv (sd b)) ∨ (cl (ed b) = lv (sd b) + 1 ∧ dl (sd b) = cl (ed b) ∧ dn (sd b) = (ed b))) (p19_ : 1 ≤ lv (sd b) → cl (ed b) = 0 → cw (nm (sd b)) = b ∧ cw (nm (sd (op b))) = op b ∧ cl (nm (sd b)) = lv (sd b) ∧ cl (nm (sd (op b))) = lv (sd b)) (p20_ : lv (sd b) = 0 → c0 (sd b) = (ed b) ∧ c0 (sd (op b)) = (ed b)) (p21_ : 0 ≤ lv (sd b)) (p22_ : 0 ≤ nL) (cFI : pj_FI nL wy wh) (cR : pj_R W nL kd wy wh) : pj_FI (nL + 1) (pu wy nL b) (pu (pu wh k 2) nL 0) := by
  obtain ⟨hop, hed⟩ := hG
  unfold pj_FI pj_R at *
  intro j0 k0
  simp only [pu]
  have g0 := hop b
  have g1 := hop (wy j0)
  have g2 := hop (wy k0)
  have g3 := hed b (wy j0)
  have g4 := hed b (wy k0)
  have g5 := hed (wy j0) (wy k0)
  have cFI_0 := cFI k k
  have cFI_1 := cFI k j0
  have cFI_2 := cFI k k0
  have cFI_3 := cFI j0 k
  have cFI_4 := cFI j0 j0
  have cFI_5 := cFI j0 k0
  have cFI_6 := cFI k0 k
  have cFI_7 := cFI k0 j0
  have cFI_8 := cFI k0 k0
  have cR_0 := cR j0
  have cR_1 := cR k0
  have f0 := p6_ k
  have f1 := p6_ j0
  have f2 := p6_ k0
  clear p6_
  clear hop hed cFI cR
  grind (splits := 24)

set_option maxHeartbeats 1000000 in
theorem pt_mg_L0 {W : Int → Prop} {sd : Int → Int} {op : Int → Int} {ed : Int → Int} {st : Int → Int} {lv : Int → Int} {nm : Int → Int} {om : Int → Int} {ps : Int → Int} {dl : Int → Int} {dn : Int → Int} {c0 : Int → Int} {en : Int → Int} {cl : Int → Int} {cw : Int → Int} {nL : Int} {kd : Int → Int} {wy : Int → Int} {ll : Int → Int} {wh : Int → Int} {b k : Int} (hG : pj_G W sd op ed) (p0_ : W b) (p1_ : 0 ≤ k) (p2_ : k < nL) (p3_ : wh k ≠ 2) (p4_ : kd k = 0) (p5_ : wy k = op b) (p6_ : ∀ j, 0 ≤ j → j < k → wy j = wy k → wh j ≠ 0) (p7_ : om (sd (op b)) = (ed b)) (p8_ : om (sd b) = (ed b)) (p9_ : ps (sd (op b)) = 1) (p10_ : ps (sd b) = 1) (p11_ : dl (sd (op b)) = lv (sd (op b))) (p12_ : lv (sd (op b)) = lv (sd b)) (p13_ : lv (sd (op b)) = 0 ∨ nm (sd (op b)) ≠ nm (sd b)) (p14_ : en b = 1) (p15_ : en (op b) = 1) (p16_ : st (sd (op b)) = 2) (p17_ : st (sd b) = 2) (p18_ : (cl (ed b) = 0 ∧ dl (sd b) = lv (sd b)) ∨ (cl (ed b) = lv (sd b) + 1 ∧ dl (sd b) = cl (ed b) ∧ dn (sd b) = (ed b))) (p19_ : 1 ≤ lv (sd b) → cl (ed b) = 0 → cw (nm (sd b)) = b ∧ cw (nm (sd (op b))) = op b ∧ cl (nm (sd b)) = lv (sd b) ∧ cl (nm (sd (op b))) = lv (sd b)) (p20_ : lv (sd b) = 0 → c0 (sd b) = (ed b) ∧ c0 (sd (op b)) = (ed b)) (p21_ : 0 ≤ lv (sd b)) (p22_ : 0 ≤ nL) (cL0 : pj_L0 sd op ed lv nm om ps dl c0 en cw nL kd wy ll wh) (cR : pj_R W nL kd wy wh) (cL0u : pj_L0u nL kd wy wh) : pj_L0 sd op ed lv nm om ps (pu dl (sd (op b)) (lv (sd b) + 1)) c0 en cw (nL + 1) (pu kd nL 1) (pu wy nL b) (pu ll nL (lv (sd b) + 1)) (pu (pu wh k 2) nL 0) := by
  obtain ⟨hop, hed⟩ := hG
  unfold pj_L0 pj_R pj_L0u at *
  intro k0
  simp only [pu]
  have g0 := hop b
  have g1 := hop (wy k0)
  have g2 := hed b (wy k0)
  have cL0_0 := cL0 k
  have cL0_1 := cL0 k0
  have cR_0 := cR k0
  have cL0u_0 := cL0u k0 k
  have f0 := p6_ k
  have f1 := p6_ k0
  clear p6_
  clear hop hed cL0 cR cL0u
  grind (splits := 24)

set_option maxHeartbeats 1000000 in
theorem pt_mg_FC {W : Int → Prop} {sd : Int → Int} {op : Int → Int} {ed : Int → Int} {st : Int → Int} {lv : Int → Int} {nm : Int → Int} {om : Int → Int} {ps : Int → Int} {dl : Int → Int} {dn : Int → Int} {c0 : Int → Int} {en : Int → Int} {cl : Int → Int} {cw : Int → Int} {nL : Int} {kd : Int → Int} {wy : Int → Int} {wh : Int → Int} {F : Int → Prop} {b k : Int} (hG : pj_G W sd op ed) (p0_ : W b) (p1_ : 0 ≤ k) (p2_ : k < nL) (p3_ : wh k ≠ 2) (p4_ : kd k = 0) (p5_ : wy k = op b) (p6_ : ∀ j, 0 ≤ j → j < k → wy j = wy k → wh j ≠ 0) (p7_ : om (sd (op b)) = (ed b)) (p8_ : om (sd b) = (ed b)) (p9_ : ps (sd (op b)) = 1) (p10_ : ps (sd b) = 1) (p11_ : dl (sd (op b)) = lv (sd (op b))) (p12_ : lv (sd (op b)) = lv (sd b)) (p13_ : lv (sd (op b)) = 0 ∨ nm (sd (op b)) ≠ nm (sd b)) (p14_ : en b = 1) (p15_ : en (op b) = 1) (p16_ : st (sd (op b)) = 2) (p17_ : st (sd b) = 2) (p18_ : (cl (ed b) = 0 ∧ dl (sd b) = lv (sd b)) ∨ (cl (ed b) = lv (sd b) + 1 ∧ dl (sd b) = cl (ed b) ∧ dn (sd b) = (ed b))) (p19_ : 1 ≤ lv (sd b) → cl (ed b) = 0 → cw (nm (sd b)) = b ∧ cw (nm (sd (op b))) = op b ∧ cl (nm (sd b)) = lv (sd b) ∧ cl (nm (sd (op b))) = lv (sd b)) (p20_ : lv (sd b) = 0 → c0 (sd b) = (ed b) ∧ c0 (sd (op b)) = (ed b)) (p21_ : 0 ≤ lv (sd b)) (p22_ : 0 ≤ nL) (cFC : pj_FC op nL kd wy wh F) (cR : pj_R W nL kd wy wh) : pj_FC op (nL + 1) (pu kd nL 1) (pu wy nL b) (pu (pu wh k 2) nL 0) F := by
  obtain ⟨hop, hed⟩ := hG
  unfold pj_FC pj_R at *
  intro k0
  simp only [pu]
  have g0 := hop b
  have g1 := hop (wy k0)
  have g2 := hed b (wy k0)
  have cFC_0 := cFC k
  have cFC_1 := cFC k0
  have cR_0 := cR k0
  have f0 := p6_ k
  have f1 := p6_ k0
  clear p6_
  clear hop hed cFC cR
  grind (splits := 24)

set_option maxHeartbeats 1000000 in
theorem pt_mg_L0u {W : Int → Prop} {sd : Int → Int} {op : Int → Int} {ed : Int → Int} {st : Int → Int} {lv : Int → Int} {nm : Int → Int} {om : Int → Int} {ps : Int → Int} {dl : Int → Int} {dn : Int → Int} {c0 : Int → Int} {en : Int → Int} {cl : Int → Int} {cw : Int → Int} {nL : Int} {kd : Int → Int} {wy : Int → Int} {wh : Int → Int} {b k : Int} (hG : pj_G W sd op ed) (p0_ : W b) (p1_ : 0 ≤ k) (p2_ : k < nL) (p3_ : wh k ≠ 2) (p4_ : kd k = 0) (p5_ : wy k = op b) (p6_ : ∀ j, 0 ≤ j → j < k → wy j = wy k → wh j ≠ 0) (p7_ : om (sd (op b)) = (ed b)) (p8_ : om (sd b) = (ed b)) (p9_ : ps (sd (op b)) = 1) (p10_ : ps (sd b) = 1) (p11_ : dl (sd (op b)) = lv (sd (op b))) (p12_ : lv (sd (op b)) = lv (sd b)) (p13_ : lv (sd (op b)) = 0 ∨ nm (sd (op b)) ≠ nm (sd b)) (p14_ : en b = 1) (p15_ : en (op b) = 1) (p16_ : st (sd (op b)) = 2) (p17_ : st (sd b) = 2) (p18_ : (cl (ed b) = 0 ∧ dl (sd b) = lv (sd b)) ∨ (cl (ed b) = lv (sd b) + 1 ∧ dl (sd b) = cl (ed b) ∧ dn (sd b) = (ed b))) (p19_ : 1 ≤ lv (sd b) → cl (ed b) = 0 → cw (nm (sd b)) = b ∧ cw (nm (sd (op b))) = op b ∧ cl (nm (sd b)) = lv (sd b) ∧ cl (nm (sd (op b))) = lv (sd b)) (p20_ : lv (sd b) = 0 → c0 (sd b) = (ed b) ∧ c0 (sd (op b)) = (ed b)) (p21_ : 0 ≤ lv (sd b)) (p22_ : 0 ≤ nL) (cL0u : pj_L0u nL kd wy wh) (cR : pj_R W nL kd wy wh) : pj_L0u (nL + 1) (pu kd nL 1) (pu wy nL b) (pu (pu wh k 2) nL 0) := by
  obtain ⟨hop, hed⟩ := hG
  unfold pj_L0u pj_R at *
  intro j0 k0
  simp only [pu]
  have g0 := hop b
  have g1 := hop (wy j0)
  have g2 := hop (wy k0)
  have g3 := hed b (wy j0)
  have g4 := hed b (wy k0)
  have g5 := hed (wy j0) (wy k0)
  have cL0u_0 := cL0u k k
  have cL0u_1 := cL0u k j0
  have cL0u_2 := cL0u k k0
  have cL0u_3 := cL0u j0 k
  have cL0u_4 := cL0u j0 j0
  have cL0u_5 := cL0u j0 k0
  have cL0u_6 := cL0u k0 k
  have cL0u_7 := cL0u k0 j0
  have cL0u_8 := cL0u k0 k0
  have cR_0 := cR j0
  have cR_1 := cR k0
  have f0 := p6_ k
  have f1 := p6_ j0
  have f2 := p6_ k0
  clear p6_
  clear hop hed cL0u cR
  grind (splits := 24)

set_option maxHeartbeats 1000000 in
theorem pt_mg_OC {W : Int → Prop} {sd : Int → Int} {op : Int → Int} {ed : Int → Int} {st : Int → Int} {lv : Int → Int} {nm : Int → Int} {om : Int → Int} {ps : Int → Int} {dl : Int → Int} {dn : Int → Int} {c0 : Int → Int} {en : Int → Int} {cl : Int → Int} {cw : Int → Int} {nL : Int} {kd : Int → Int} {wy : Int → Int} {wh : Int → Int} {b k : Int} (hG : pj_G W sd op ed) (p0_ : W b) (p1_ : 0 ≤ k) (p2_ : k < nL) (p3_ : wh k ≠ 2) (p4_ : kd k = 0) (p5_ : wy k = op b) (p6_ : ∀ j, 0 ≤ j → j < k → wy j = wy k → wh j ≠ 0) (p7_ : om (sd (op b)) = (ed b)) (p8_ : om (sd b) = (ed b)) (p9_ : ps (sd (op b)) = 1) (p10_ : ps (sd b) = 1) (p11_ : dl (sd (op b)) = lv (sd (op b))) (p12_ : lv (sd (op b)) = lv (sd b)) (p13_ : lv (sd (op b)) = 0 ∨ nm (sd (op b)) ≠ nm (sd b)) (p14_ : en b = 1) (p15_ : en (op b) = 1) (p16_ : st (sd (op b)) = 2) (p17_ : st (sd b) = 2) (p18_ : (cl (ed b) = 0 ∧ dl (sd b) = lv (sd b)) ∨ (cl (ed b) = lv (sd b) + 1 ∧ dl (sd b) = cl (ed b) ∧ dn (sd b) = (ed b))) (p19_ : 1 ≤ lv (sd b) → cl (ed b) = 0 → cw (nm (sd b)) = b ∧ cw (nm (sd (op b))) = op b ∧ cl (nm (sd b)) = lv (sd b) ∧ cl (nm (sd (op b))) = lv (sd b)) (p20_ : lv (sd b) = 0 → c0 (sd b) = (ed b) ∧ c0 (sd (op b)) = (ed b)) (p21_ : 0 ≤ lv (sd b)) (p22_ : 0 ≤ nL) (cOC : pj_OC nL kd wy wh) (cR : pj_R W nL kd wy wh) : pj_OC (nL + 1) (pu kd nL 1) (pu wy nL b) (pu (pu wh k 2) nL 0) := by
  obtain ⟨hop, hed⟩ := hG
  unfold pj_OC pj_R at *
  intro j0 k0
  simp only [pu]
  have g0 := hop b
  have g1 := hop (wy j0)
  have g2 := hop (wy k0)
  have g3 := hed b (wy j0)
  have g4 := hed b (wy k0)
  have g5 := hed (wy j0) (wy k0)
  have cOC_0 := cOC k k
  have cOC_1 := cOC k j0
  have cOC_2 := cOC k k0
  have cOC_3 := cOC j0 k
  have cOC_4 := cOC j0 j0
  have cOC_5 := cOC j0 k0
  have cOC_6 := cOC k0 k
  have cOC_7 := cOC k0 j0
  have cOC_8 := cOC k0 k0
  have cR_0 := cR j0
  have cR_1 := cR k0
  have f0 := p6_ k
  have f1 := p6_ j0
  have f2 := p6_ k0
  clear p6_
  clear hop hed cOC cR
  grind (splits := 24)

set_option maxHeartbeats 1000000 in
theorem pt_mg_CT {W : Int → Prop} {sd : Int → Int} {op : Int → Int} {ed : Int → Int} {st : Int → Int} {lv : Int → Int} {nm : Int → Int} {om : Int → Int} {ps : Int → Int} {dl : Int → Int} {dn : Int → Int} {c0 : Int → Int} {en : Int → Int} {cl : Int → Int} {cw : Int → Int} {nL : Int} {kd : Int → Int} {wy : Int → Int} {wh : Int → Int} {b k : Int} (hG : pj_G W sd op ed) (p0_ : W b) (p1_ : 0 ≤ k) (p2_ : k < nL) (p3_ : wh k ≠ 2) (p4_ : kd k = 0) (p5_ : wy k = op b) (p6_ : ∀ j, 0 ≤ j → j < k → wy j = wy k → wh j ≠ 0) (p7_ : om (sd (op b)) = (ed b)) (p8_ : om (sd b) = (ed b)) (p9_ : ps (sd (op b)) = 1) (p10_ : ps (sd b) = 1) (p11_ : dl (sd (op b)) = lv (sd (op b))) (p12_ : lv (sd (op b)) = lv (sd b)) (p13_ : lv (sd (op b)) = 0 ∨ nm (sd (op b)) ≠ nm (sd b)) (p14_ : en b = 1) (p15_ : en (op b) = 1) (p16_ : st (sd (op b)) = 2) (p17_ : st (sd b) = 2) (p18_ : (cl (ed b) = 0 ∧ dl (sd b) = lv (sd b)) ∨ (cl (ed b) = lv (sd b) + 1 ∧ dl (sd b) = cl (ed b) ∧ dn (sd b) = (ed b))) (p19_ : 1 ≤ lv (sd b) → cl (ed b) = 0 → cw (nm (sd b)) = b ∧ cw (nm (sd (op b))) = op b ∧ cl (nm (sd b)) = lv (sd b) ∧ cl (nm (sd (op b))) = lv (sd b)) (p20_ : lv (sd b) = 0 → c0 (sd b) = (ed b) ∧ c0 (sd (op b)) = (ed b)) (p21_ : 0 ≤ lv (sd b)) (p22_ : 0 ≤ nL) (cCT : pj_CT nL kd wy wh) (cR : pj_R W nL kd wy wh) : pj_CT (nL + 1) (pu kd nL 1) (pu wy nL b) (pu (pu wh k 2) nL 0) := by
  obtain ⟨hop, hed⟩ := hG
  unfold pj_CT pj_R at *
  intro j0 k0
  simp only [pu]
  have g0 := hop b
  have g1 := hop (wy j0)
  have g2 := hop (wy k0)
  have g3 := hed b (wy j0)
  have g4 := hed b (wy k0)
  have g5 := hed (wy j0) (wy k0)
  have cCT_0 := cCT k k
  have cCT_1 := cCT k j0
  have cCT_2 := cCT k k0
  have cCT_3 := cCT j0 k
  have cCT_4 := cCT j0 j0
  have cCT_5 := cCT j0 k0
  have cCT_6 := cCT k0 k
  have cCT_7 := cCT k0 j0
  have cCT_8 := cCT k0 k0
  have cR_0 := cR j0
  have cR_1 := cR k0
  have f0 := p6_ k
  have f1 := p6_ j0
  have f2 := p6_ k0
  clear p6_
  clear hop hed cCT cR
  grind (splits := 24)

set_option maxHeartbeats 1000000 in
theorem pt_mg_L1 {W : Int → Prop} {sd : Int → Int} {op : Int → Int} {ed : Int → Int} {st : Int → Int} {lv : Int → Int} {nm : Int → Int} {om : Int → Int} {ps : Int → Int} {dl : Int → Int} {dn : Int → Int} {af : Int → Int} {c0 : Int → Int} {en : Int → Int} {cl : Int → Int} {cw : Int → Int} {nL : Int} {kd : Int → Int} {wy : Int → Int} {ll : Int → Int} {td : Int → Int} {ls : Int → Int} {wh : Int → Int} {b k : Int} (hG : pj_G W sd op ed) (p0_ : W b) (p1_ : 0 ≤ k) (p2_ : k < nL) (p3_ : wh k ≠ 2) (p4_ : kd k = 0) (p5_ : wy k = op b) (p6_ : ∀ j, 0 ≤ j → j < k → wy j = wy k → wh j ≠ 0) (p7_ : om (sd (op b)) = (ed b)) (p8_ : om (sd b) = (ed b)) (p9_ : ps (sd (op b)) = 1) (p10_ : ps (sd b) = 1) (p11_ : dl (sd (op b)) = lv (sd (op b))) (p12_ : lv (sd (op b)) = lv (sd b)) (p13_ : lv (sd (op b)) = 0 ∨ nm (sd (op b)) ≠ nm (sd b)) (p14_ : en b = 1) (p15_ : en (op b) = 1) (p16_ : st (sd (op b)) = 2) (p17_ : st (sd b) = 2) (p18_ : (cl (ed b) = 0 ∧ dl (sd b) = lv (sd b)) ∨ (cl (ed b) = lv (sd b) + 1 ∧ dl (sd b) = cl (ed b) ∧ dn (sd b) = (ed b))) (p19_ : 1 ≤ lv (sd b) → cl (ed b) = 0 → cw (nm (sd b)) = b ∧ cw (nm (sd (op b))) = op b ∧ cl (nm (sd b)) = lv (sd b) ∧ cl (nm (sd (op b))) = lv (sd b)) (p20_ : lv (sd b) = 0 → c0 (sd b) = (ed b) ∧ c0 (sd (op b)) = (ed b)) (p21_ : 0 ≤ lv (sd b)) (p22_ : 0 ≤ nL) (cL1 : pj_L1 sd op ed st lv om dl en cl nL kd wy ll td ls wh) (cR : pj_R W nL kd wy wh) (cN0 : pj_N0 st lv ps dl af) : pj_L1 sd op ed st lv om (pu dl (sd (op b)) (lv (sd b) + 1)) en (pu cl (ed b) (lv (sd b) + 1)) (nL + 1) (pu kd nL 1) (pu wy nL b) (pu ll nL (lv (sd b) + 1)) (pu td nL ((ed b))) (pu ls nL (1)) (pu (pu wh k 2) nL 0) := by
  obtain ⟨hop, hed⟩ := hG
  unfold pj_L1 pj_R pj_N0 at *
  intro k0
  simp only [pu]
  have g0 := hop b
  have g1 := hop (wy k0)
  have g2 := hed b (wy k0)
  have cL1_0 := cL1 k
  have cL1_1 := cL1 k0
  have cR_0 := cR k0
  have cN0_0 := cN0 (sd (op b))
  have cN0_1 := cN0 (sd b)
  have cN0_2 := cN0 (sd (wy k0))
  have cN0_3 := cN0 (sd (op (wy k0)))
  have f0 := p6_ k
  have f1 := p6_ k0
  clear p6_
  clear hop hed cL1 cR cN0
  grind (splits := 24)

set_option maxHeartbeats 1000000 in
theorem pt_mg_L1e {W : Int → Prop} {sd : Int → Int} {op : Int → Int} {ed : Int → Int} {st : Int → Int} {lv : Int → Int} {nm : Int → Int} {om : Int → Int} {ps : Int → Int} {dl : Int → Int} {dn : Int → Int} {c0 : Int → Int} {en : Int → Int} {cl : Int → Int} {cw : Int → Int} {nL : Int} {kd : Int → Int} {wy : Int → Int} {ll : Int → Int} {td : Int → Int} {ls : Int → Int} {wh : Int → Int} {b k : Int} (hG : pj_G W sd op ed) (p0_ : W b) (p1_ : 0 ≤ k) (p2_ : k < nL) (p3_ : wh k ≠ 2) (p4_ : kd k = 0) (p5_ : wy k = op b) (p6_ : ∀ j, 0 ≤ j → j < k → wy j = wy k → wh j ≠ 0) (p7_ : om (sd (op b)) = (ed b)) (p8_ : om (sd b) = (ed b)) (p9_ : ps (sd (op b)) = 1) (p10_ : ps (sd b) = 1) (p11_ : dl (sd (op b)) = lv (sd (op b))) (p12_ : lv (sd (op b)) = lv (sd b)) (p13_ : lv (sd (op b)) = 0 ∨ nm (sd (op b)) ≠ nm (sd b)) (p14_ : en b = 1) (p15_ : en (op b) = 1) (p16_ : st (sd (op b)) = 2) (p17_ : st (sd b) = 2) (p18_ : (cl (ed b) = 0 ∧ dl (sd b) = lv (sd b)) ∨ (cl (ed b) = lv (sd b) + 1 ∧ dl (sd b) = cl (ed b) ∧ dn (sd b) = (ed b))) (p19_ : 1 ≤ lv (sd b) → cl (ed b) = 0 → cw (nm (sd b)) = b ∧ cw (nm (sd (op b))) = op b ∧ cl (nm (sd b)) = lv (sd b) ∧ cl (nm (sd (op b))) = lv (sd b)) (p20_ : lv (sd b) = 0 → c0 (sd b) = (ed b) ∧ c0 (sd (op b)) = (ed b)) (p21_ : 0 ≤ lv (sd b)) (p22_ : 0 ≤ nL) (cL1e : pj_L1e sd op dl dn nL kd wy ll td ls wh) (cR : pj_R W nL kd wy wh) (cL1 : pj_L1 sd op ed st lv om dl en cl nL kd wy ll td ls wh) : pj_L1e sd op (pu dl (sd (op b)) (lv (sd b) + 1)) (pu dn (sd (op b)) (ed b)) (nL + 1) (pu kd nL 1) (pu wy nL b) (pu ll nL (lv (sd b) + 1)) (pu td nL ((ed b))) (pu ls nL (1)) (pu (pu wh k 2) nL 0) := by
  obtain ⟨hop, hed⟩ := hG
  unfold pj_L1e pj_R pj_L1 at *
  intro k0
  simp only [pu]
  have g0 := hop b
  have g1 := hop (wy k0)
  have g2 := hed b (wy k0)
  have cL1e_0 := cL1e k
  have cL1e_1 := cL1e k0
  have cR_0 := cR k0
  have cL1_0 := cL1 k
  have cL1_1 := cL1 k0
  have f0 := p6_ k
  have f1 := p6_ k0
  clear p6_
  clear hop hed cL1e cR cL1
  grind (splits := 24)

set_option maxHeartbeats 1000000 in
theorem pt_mg_L1o {W : Int → Prop} {sd : Int → Int} {op : Int → Int} {ed : Int → Int} {st : Int → Int} {lv : Int → Int} {nm : Int → Int} {om : Int → Int} {ps : Int → Int} {dl : Int → Int} {dn : Int → Int} {c0 : Int → Int} {en : Int → Int} {cl : Int → Int} {cw : Int → Int} {nL : Int} {kd : Int → Int} {wy : Int → Int} {ll : Int → Int} {td : Int → Int} {ls : Int → Int} {wh : Int → Int} {b k : Int} (hG : pj_G W sd op ed) (p0_ : W b) (p1_ : 0 ≤ k) (p2_ : k < nL) (p3_ : wh k ≠ 2) (p4_ : kd k = 0) (p5_ : wy k = op b) (p6_ : ∀ j, 0 ≤ j → j < k → wy j = wy k → wh j ≠ 0) (p7_ : om (sd (op b)) = (ed b)) (p8_ : om (sd b) = (ed b)) (p9_ : ps (sd (op b)) = 1) (p10_ : ps (sd b) = 1) (p11_ : dl (sd (op b)) = lv (sd (op b))) (p12_ : lv (sd (op b)) = lv (sd b)) (p13_ : lv (sd (op b)) = 0 ∨ nm (sd (op b)) ≠ nm (sd b)) (p14_ : en b = 1) (p15_ : en (op b) = 1) (p16_ : st (sd (op b)) = 2) (p17_ : st (sd b) = 2) (p18_ : (cl (ed b) = 0 ∧ dl (sd b) = lv (sd b)) ∨ (cl (ed b) = lv (sd b) + 1 ∧ dl (sd b) = cl (ed b) ∧ dn (sd b) = (ed b))) (p19_ : 1 ≤ lv (sd b) → cl (ed b) = 0 → cw (nm (sd b)) = b ∧ cw (nm (sd (op b))) = op b ∧ cl (nm (sd b)) = lv (sd b) ∧ cl (nm (sd (op b))) = lv (sd b)) (p20_ : lv (sd b) = 0 → c0 (sd b) = (ed b) ∧ c0 (sd (op b)) = (ed b)) (p21_ : 0 ≤ lv (sd b)) (p22_ : 0 ≤ nL) (cL1o : pj_L1o nL kd wy ll wh) (cR : pj_R W nL kd wy wh) (cL1 : pj_L1 sd op ed st lv om dl en cl nL kd wy ll td ls wh) : pj_L1o (nL + 1) (pu kd nL 1) (pu wy nL b) (pu ll nL (lv (sd b) + 1)) (pu (pu wh k 2) nL 0) := by
  obtain ⟨hop, hed⟩ := hG
  unfold pj_L1o pj_R pj_L1 at *
  intro j0 k0
  simp only [pu]
  have g0 := hop b
  have g1 := hop (wy j0)
  have g2 := hop (wy k0)
  have g3 := hed b (wy j0)
  have g4 := hed b (wy k0)
  have g5 := hed (wy j0) (wy k0)
  have cL1o_0 := cL1o k k
  have cL1o_1 := cL1o k j0
  have cL1o_2 := cL1o k k0
  have cL1o_3 := cL1o j0 k
  have cL1o_4 := cL1o j0 j0
  have cL1o_5 := cL1o j0 k0
  have cL1o_6 := cL1o k0 k
  have cL1o_7 := cL1o k0 j0
  have cL1o_8 := cL1o k0 k0
  have cR_0 := cR j0
  have cR_1 := cR k0
  have cL1_0 := cL1 k
  have cL1_1 := cL1 j0
  have cL1_2 := cL1 k0
  have f0 := p6_ k
  have f1 := p6_ j0
  have f2 := p6_ k0
  clear p6_
  clear hop hed cL1o cR cL1
  grind (splits := 24)

set_option maxHeartbeats 1000000 in
theorem pt_mg_L1b {W : Int → Prop} {sd : Int → Int} {op : Int → Int} {ed : Int → Int} {st : Int → Int} {lv : Int → Int} {nm : Int → Int} {om : Int → Int} {ps : Int → Int} {dl : Int → Int} {dn : Int → Int} {c0 : Int → Int} {en : Int → Int} {pd : Int → Int} {cl : Int → Int} {cw : Int → Int} {nL : Int} {kd : Int → Int} {wy : Int → Int} {td : Int → Int} {ls : Int → Int} {wh : Int → Int} {b k : Int} (hG : pj_G W sd op ed) (p0_ : W b) (p1_ : 0 ≤ k) (p2_ : k < nL) (p3_ : wh k ≠ 2) (p4_ : kd k = 0) (p5_ : wy k = op b) (p6_ : ∀ j, 0 ≤ j → j < k → wy j = wy k → wh j ≠ 0) (p7_ : om (sd (op b)) = (ed b)) (p8_ : om (sd b) = (ed b)) (p9_ : ps (sd (op b)) = 1) (p10_ : ps (sd b) = 1) (p11_ : dl (sd (op b)) = lv (sd (op b))) (p12_ : lv (sd (op b)) = lv (sd b)) (p13_ : lv (sd (op b)) = 0 ∨ nm (sd (op b)) ≠ nm (sd b)) (p14_ : en b = 1) (p15_ : en (op b) = 1) (p16_ : st (sd (op b)) = 2) (p17_ : st (sd b) = 2) (p18_ : (cl (ed b) = 0 ∧ dl (sd b) = lv (sd b)) ∨ (cl (ed b) = lv (sd b) + 1 ∧ dl (sd b) = cl (ed b) ∧ dn (sd b) = (ed b))) (p19_ : 1 ≤ lv (sd b) → cl (ed b) = 0 → cw (nm (sd b)) = b ∧ cw (nm (sd (op b))) = op b ∧ cl (nm (sd b)) = lv (sd b) ∧ cl (nm (sd (op b))) = lv (sd b)) (p20_ : lv (sd b) = 0 → c0 (sd b) = (ed b) ∧ c0 (sd (op b)) = (ed b)) (p21_ : 0 ≤ lv (sd b)) (p22_ : 0 ≤ nL) (cL1b : pj_L1b sd ed st om pd nL kd wy td ls wh) (cR : pj_R W nL kd wy wh) : pj_L1b sd ed st om pd (nL + 1) (pu kd nL 1) (pu wy nL b) (pu td nL ((ed b))) (pu ls nL (1)) (pu (pu wh k 2) nL 0) := by
  obtain ⟨hop, hed⟩ := hG
  unfold pj_L1b pj_R at *
  intro k0
  simp only [pu]
  have g0 := hop b
  have g1 := hop (wy k0)
  have g2 := hed b (wy k0)
  have cL1b_0 := cL1b k
  have cL1b_1 := cL1b k0
  have cR_0 := cR k0
  have f0 := p6_ k
  have f1 := p6_ k0
  clear p6_
  clear hop hed cL1b cR
  grind (splits := 24)

set_option maxHeartbeats 1000000 in
theorem pt_mg_L1g {W : Int → Prop} {sd : Int → Int} {op : Int → Int} {ed : Int → Int} {st : Int → Int} {lv : Int → Int} {nm : Int → Int} {om : Int → Int} {ps : Int → Int} {dl : Int → Int} {dn : Int → Int} {c0 : Int → Int} {en : Int → Int} {cl : Int → Int} {cw : Int → Int} {nL : Int} {kd : Int → Int} {wy : Int → Int} {td : Int → Int} {ls : Int → Int} {wh : Int → Int} {b k : Int} (hG : pj_G W sd op ed) (p0_ : W b) (p1_ : 0 ≤ k) (p2_ : k < nL) (p3_ : wh k ≠ 2) (p4_ : kd k = 0) (p5_ : wy k = op b) (p6_ : ∀ j, 0 ≤ j → j < k → wy j = wy k → wh j ≠ 0) (p7_ : om (sd (op b)) = (ed b)) (p8_ : om (sd b) = (ed b)) (p9_ : ps (sd (op b)) = 1) (p10_ : ps (sd b) = 1) (p11_ : dl (sd (op b)) = lv (sd (op b))) (p12_ : lv (sd (op b)) = lv (sd b)) (p13_ : lv (sd (op b)) = 0 ∨ nm (sd (op b)) ≠ nm (sd b)) (p14_ : en b = 1) (p15_ : en (op b) = 1) (p16_ : st (sd (op b)) = 2) (p17_ : st (sd b) = 2) (p18_ : (cl (ed b) = 0 ∧ dl (sd b) = lv (sd b)) ∨ (cl (ed b) = lv (sd b) + 1 ∧ dl (sd b) = cl (ed b) ∧ dn (sd b) = (ed b))) (p19_ : 1 ≤ lv (sd b) → cl (ed b) = 0 → cw (nm (sd b)) = b ∧ cw (nm (sd (op b))) = op b ∧ cl (nm (sd b)) = lv (sd b) ∧ cl (nm (sd (op b))) = lv (sd b)) (p20_ : lv (sd b) = 0 → c0 (sd b) = (ed b) ∧ c0 (sd (op b)) = (ed b)) (p21_ : 0 ≤ lv (sd b)) (p22_ : 0 ≤ nL) (cL1g : pj_L1g W sd op ed nL kd wy td ls wh) (cR : pj_R W nL kd wy wh) : pj_L1g W sd op ed (nL + 1) (pu kd nL 1) (pu wy nL b) (pu td nL ((ed b))) (pu ls nL (1)) (pu (pu wh k 2) nL 0) := by
  obtain ⟨hop, hed⟩ := hG
  unfold pj_L1g pj_R at *
  intro k0 v0
  simp only [pu]
  have g0 := hop b
  have g1 := hop (wy k0)
  have g2 := hop v0
  have g3 := hed b (wy k0)
  have g4 := hed b v0
  have g5 := hed (wy k0) v0
  have cL1g_0 := cL1g k b
  have cL1g_1 := cL1g k (wy k0)
  have cL1g_2 := cL1g k (op (wy k0))
  have cL1g_3 := cL1g k v0
  have cL1g_4 := cL1g k (op v0)
  have cL1g_5 := cL1g k0 b
  have cL1g_6 := cL1g k0 (wy k0)
  have cL1g_7 := cL1g k0 (op (wy k0))
  have cL1g_8 := cL1g k0 v0
  have cL1g_9 := cL1g k0 (op v0)
  have cR_0 := cR k0
  have f0 := p6_ k
  have f1 := p6_ k0
  clear p6_
  clear hop hed cL1g cR
  grind (splits := 24)

set_option maxHeartbeats 1000000 in
theorem pt_mg_L2 {W : Int → Prop} {sd : Int → Int} {op : Int → Int} {ed : Int → Int} {st : Int → Int} {lv : Int → Int} {nm : Int → Int} {tst : Int → Int} {om : Int → Int} {ps : Int → Int} {dl : Int → Int} {dn : Int → Int} {c0 : Int → Int} {en : Int → Int} {fw : Int → Int} {cl : Int → Int} {cw : Int → Int} {nL : Int} {kd : Int → Int} {wy : Int → Int} {ll : Int → Int} {td : Int → Int} {wh : Int → Int} {b k : Int} (hG : pj_G W sd op ed) (p0_ : W b) (p1_ : 0 ≤ k) (p2_ : k < nL) (p3_ : wh k ≠ 2) (p4_ : kd k = 0) (p5_ : wy k = op b) (p6_ : ∀ j, 0 ≤ j → j < k → wy j = wy k → wh j ≠ 0) (p7_ : om (sd (op b)) = (ed b)) (p8_ : om (sd b) = (ed b)) (p9_ : ps (sd (op b)) = 1) (p10_ : ps (sd b) = 1) (p11_ : dl (sd (op b)) = lv (sd (op b))) (p12_ : lv (sd (op b)) = lv (sd b)) (p13_ : lv (sd (op b)) = 0 ∨ nm (sd (op b)) ≠ nm (sd b)) (p14_ : en b = 1) (p15_ : en (op b) = 1) (p16_ : st (sd (op b)) = 2) (p17_ : st (sd b) = 2) (p18_ : (cl (ed b) = 0 ∧ dl (sd b) = lv (sd b)) ∨ (cl (ed b) = lv (sd b) + 1 ∧ dl (sd b) = cl (ed b) ∧ dn (sd b) = (ed b))) (p19_ : 1 ≤ lv (sd b) → cl (ed b) = 0 → cw (nm (sd b)) = b ∧ cw (nm (sd (op b))) = op b ∧ cl (nm (sd b)) = lv (sd b) ∧ cl (nm (sd (op b))) = lv (sd b)) (p20_ : lv (sd b) = 0 → c0 (sd b) = (ed b) ∧ c0 (sd (op b)) = (ed b)) (p21_ : 0 ≤ lv (sd b)) (p22_ : 0 ≤ nL) (cL2 : pj_L2 sd op ed st lv nm tst en fw nL kd wy ll td wh) (cR : pj_R W nL kd wy wh) : pj_L2 sd op ed st lv nm tst en fw (nL + 1) (pu kd nL 1) (pu wy nL b) (pu ll nL (lv (sd b) + 1)) (pu td nL ((ed b))) (pu (pu wh k 2) nL 0) := by
  obtain ⟨hop, hed⟩ := hG
  unfold pj_L2 pj_R at *
  intro k0
  simp only [pu]
  have g0 := hop b
  have g1 := hop (wy k0)
  have g2 := hed b (wy k0)
  have cL2_0 := cL2 k
  have cL2_1 := cL2 k0
  have cR_0 := cR k0
  have f0 := p6_ k
  have f1 := p6_ k0
  clear p6_
  clear hop hed cL2 cR
  grind (splits := 24)

set_option maxHeartbeats 1000000 in
theorem pt_mg_L3 {W : Int → Prop} {sd : Int → Int} {op : Int → Int} {ed : Int → Int} {st : Int → Int} {lv : Int → Int} {nm : Int → Int} {tst : Int → Int} {om : Int → Int} {ps : Int → Int} {dl : Int → Int} {dn : Int → Int} {c0 : Int → Int} {en : Int → Int} {fw : Int → Int} {cl : Int → Int} {cw : Int → Int} {nL : Int} {kd : Int → Int} {wy : Int → Int} {wh : Int → Int} {b k : Int} (hG : pj_G W sd op ed) (p0_ : W b) (p1_ : 0 ≤ k) (p2_ : k < nL) (p3_ : wh k ≠ 2) (p4_ : kd k = 0) (p5_ : wy k = op b) (p6_ : ∀ j, 0 ≤ j → j < k → wy j = wy k → wh j ≠ 0) (p7_ : om (sd (op b)) = (ed b)) (p8_ : om (sd b) = (ed b)) (p9_ : ps (sd (op b)) = 1) (p10_ : ps (sd b) = 1) (p11_ : dl (sd (op b)) = lv (sd (op b))) (p12_ : lv (sd (op b)) = lv (sd b)) (p13_ : lv (sd (op b)) = 0 ∨ nm (sd (op b)) ≠ nm (sd b)) (p14_ : en b = 1) (p15_ : en (op b) = 1) (p16_ : st (sd (op b)) = 2) (p17_ : st (sd b) = 2) (p18_ : (cl (ed b) = 0 ∧ dl (sd b) = lv (sd b)) ∨ (cl (ed b) = lv (sd b) + 1 ∧ dl (sd b) = cl (ed b) ∧ dn (sd b) = (ed b))) (p19_ : 1 ≤ lv (sd b) → cl (ed b) = 0 → cw (nm (sd b)) = b ∧ cw (nm (sd (op b))) = op b ∧ cl (nm (sd b)) = lv (sd b) ∧ cl (nm (sd (op b))) = lv (sd b)) (p20_ : lv (sd b) = 0 → c0 (sd b) = (ed b) ∧ c0 (sd (op b)) = (ed b)) (p21_ : 0 ≤ lv (sd b)) (p22_ : 0 ≤ nL) (cL3 : pj_L3 sd op ed st lv nm tst en fw nL kd wy wh) (cR : pj_R W nL kd wy wh) : pj_L3 sd op ed st lv nm tst en fw (nL + 1) (pu kd nL 1) (pu wy nL b) (pu (pu wh k 2) nL 0) := by
  obtain ⟨hop, hed⟩ := hG
  unfold pj_L3 pj_R at *
  intro k0
  simp only [pu]
  have g0 := hop b
  have g1 := hop (wy k0)
  have g2 := hed b (wy k0)
  have cL3_0 := cL3 k
  have cL3_1 := cL3 k0
  have cR_0 := cR k0
  have f0 := p6_ k
  have f1 := p6_ k0
  clear p6_
  clear hop hed cL3 cR
  grind (splits := 24)

set_option maxHeartbeats 1000000 in
theorem pt_mg_L4 {W : Int → Prop} {sd : Int → Int} {op : Int → Int} {ed : Int → Int} {st : Int → Int} {lv : Int → Int} {nm : Int → Int} {tst : Int → Int} {om : Int → Int} {ps : Int → Int} {dl : Int → Int} {dn : Int → Int} {c0 : Int → Int} {en : Int → Int} {cl : Int → Int} {cw : Int → Int} {nL : Int} {kd : Int → Int} {wy : Int → Int} {wh : Int → Int} {b k : Int} (hG : pj_G W sd op ed) (p0_ : W b) (p1_ : 0 ≤ k) (p2_ : k < nL) (p3_ : wh k ≠ 2) (p4_ : kd k = 0) (p5_ : wy k = op b) (p6_ : ∀ j, 0 ≤ j → j < k → wy j = wy k → wh j ≠ 0) (p7_ : om (sd (op b)) = (ed b)) (p8_ : om (sd b) = (ed b)) (p9_ : ps (sd (op b)) = 1) (p10_ : ps (sd b) = 1) (p11_ : dl (sd (op b)) = lv (sd (op b))) (p12_ : lv (sd (op b)) = lv (sd b)) (p13_ : lv (sd (op b)) = 0 ∨ nm (sd (op b)) ≠ nm (sd b)) (p14_ : en b = 1) (p15_ : en (op b) = 1) (p16_ : st (sd (op b)) = 2) (p17_ : st (sd b) = 2) (p18_ : (cl (ed b) = 0 ∧ dl (sd b) = lv (sd b)) ∨ (cl (ed b) = lv (sd b) + 1 ∧ dl (sd b) = cl (ed b) ∧ dn (sd b) = (ed b))) (p19_ : 1 ≤ lv (sd b) → cl (ed b) = 0 → cw (nm (sd b)) = b ∧ cw (nm (sd (op b))) = op b ∧ cl (nm (sd b)) = lv (sd b) ∧ cl (nm (sd (op b))) = lv (sd b)) (p20_ : lv (sd b) = 0 → c0 (sd b) = (ed b) ∧ c0 (sd (op b)) = (ed b)) (p21_ : 0 ≤ lv (sd b)) (p22_ : 0 ≤ nL) (cL4 : pj_L4 sd op ed st tst en nL kd wy wh) (cR : pj_R W nL kd wy wh) : pj_L4 sd op ed st tst en (nL + 1) (pu kd nL 1) (pu wy nL b) (pu (pu wh k 2) nL 0) := by
  obtain ⟨hop, hed⟩ := hG
  unfold pj_L4 pj_R at *
  intro k0
  simp only [pu]
  have g0 := hop b
  have g1 := hop (wy k0)
  have g2 := hed b (wy k0)
  have cL4_0 := cL4 k
  have cL4_1 := cL4 k0
  have cR_0 := cR k0
  have f0 := p6_ k
  have f1 := p6_ k0
  clear p6_
  clear hop hed cL4 cR
  grind (splits := 24)

set_option maxHeartbeats 1000000 in
theorem pt_mg_AF {W : Int → Prop} {sd : Int → Int} {op : Int → Int} {ed : Int → Int} {st : Int → Int} {lv : Int → Int} {nm : Int → Int} {tst : Int → Int} {om : Int → Int} {ps : Int → Int} {dl : Int → Int} {dn : Int → Int} {af : Int → Int} {c0 : Int → Int} {en : Int → Int} {cl : Int → Int} {cw : Int → Int} {nL : Int} {kd : Int → Int} {wy : Int → Int} {wh : Int → Int} {b k : Int} (hG : pj_G W sd op ed) (p0_ : W b) (p1_ : 0 ≤ k) (p2_ : k < nL) (p3_ : wh k ≠ 2) (p4_ : kd k = 0) (p5_ : wy k = op b) (p6_ : ∀ j, 0 ≤ j → j < k → wy j = wy k → wh j ≠ 0) (p7_ : om (sd (op b)) = (ed b)) (p8_ : om (sd b) = (ed b)) (p9_ : ps (sd (op b)) = 1) (p10_ : ps (sd b) = 1) (p11_ : dl (sd (op b)) = lv (sd (op b))) (p12_ : lv (sd (op b)) = lv (sd b)) (p13_ : lv (sd (op b)) = 0 ∨ nm (sd (op b)) ≠ nm (sd b)) (p14_ : en b = 1) (p15_ : en (op b) = 1) (p16_ : st (sd (op b)) = 2) (p17_ : st (sd b) = 2) (p18_ : (cl (ed b) = 0 ∧ dl (sd b) = lv (sd b)) ∨ (cl (ed b) = lv (sd b) + 1 ∧ dl (sd b) = cl (ed b) ∧ dn (sd b) = (ed b))) (p19_ : 1 ≤ lv (sd b) → cl (ed b) = 0 → cw (nm (sd b)) = b ∧ cw (nm (sd (op b))) = op b ∧ cl (nm (sd b)) = lv (sd b) ∧ cl (nm (sd (op b))) = lv (sd b)) (p20_ : lv (sd b) = 0 → c0 (sd b) = (ed b) ∧ c0 (sd (op b)) = (ed b)) (p21_ : 0 ≤ lv (sd b)) (p22_ : 0 ≤ nL) (cAF : pj_AF W sd op ed tst af nL kd wy wh) : pj_AF W sd op ed tst af (nL + 1) (pu kd nL 1) (pu wy nL b) (pu (pu wh k 2) nL 0) := by
  obtain ⟨hop, hed⟩ := hG
  unfold pj_AF at *
  intro v0
  simp only [pu]
  have g0 := hop b
  have g1 := hop v0
  have g2 := hed b v0
  have cAF_0 := cAF b
  have cAF_1 := cAF v0
  have cAF_2 := cAF (op v0)
  have f0 := p6_ k
  clear p6_
  clear hop hed cAF
  grind (splits := 24)

set_option maxHeartbeats 1000000 in
theorem pt_mg_RT {W : Int → Prop} {sd : Int → Int} {op : Int → Int} {ed : Int → Int} {st : Int → Int} {lv : Int → Int} {nm : Int → Int} {tst : Int → Int} {om : Int → Int} {ps : Int → Int} {dl : Int → Int} {dn : Int → Int} {c0 : Int → Int} {en : Int → Int} {cl : Int → Int} {cw : Int → Int} {nL : Int} {kd : Int → Int} {wy : Int → Int} {wh : Int → Int} {b k : Int} (hG : pj_G W sd op ed) (p0_ : W b) (p1_ : 0 ≤ k) (p2_ : k < nL) (p3_ : wh k ≠ 2) (p4_ : kd k = 0) (p5_ : wy k = op b) (p6_ : ∀ j, 0 ≤ j → j < k → wy j = wy k → wh j ≠ 0) (p7_ : om (sd (op b)) = (ed b)) (p8_ : om (sd b) = (ed b)) (p9_ : ps (sd (op b)) = 1) (p10_ : ps (sd b) = 1) (p11_ : dl (sd (op b)) = lv (sd (op b))) (p12_ : lv (sd (op b)) = lv (sd b)) (p13_ : lv (sd (op b)) = 0 ∨ nm (sd (op b)) ≠ nm (sd b)) (p14_ : en b = 1) (p15_ : en (op b) = 1) (p16_ : st (sd (op b)) = 2) (p17_ : st (sd b) = 2) (p18_ : (cl (ed b) = 0 ∧ dl (sd b) = lv (sd b)) ∨ (cl (ed b) = lv (sd b) + 1 ∧ dl (sd b) = cl (ed b) ∧ dn (sd b) = (ed b))) (p19_ : 1 ≤ lv (sd b) → cl (ed b) = 0 → cw (nm (sd b)) = b ∧ cw (nm (sd (op b))) = op b ∧ cl (nm (sd b)) = lv (sd b) ∧ cl (nm (sd (op b))) = lv (sd b)) (p20_ : lv (sd b) = 0 → c0 (sd b) = (ed b) ∧ c0 (sd (op b)) = (ed b)) (p21_ : 0 ≤ lv (sd b)) (p22_ : 0 ≤ nL) (cRT : pj_RT sd ed tst nL kd wy wh) (cR : pj_R W nL kd wy wh) : pj_RT sd ed tst (nL + 1) (pu kd nL 1) (pu wy nL b) (pu (pu wh k 2) nL 0) := by
  obtain ⟨hop, hed⟩ := hG
  unfold pj_RT pj_R at *
  intro j0 k0
  simp only [pu]
  have g0 := hop b
  have g1 := hop (wy j0)
  have g2 := hop (wy k0)
  have g3 := hed b (wy j0)
  have g4 := hed b (wy k0)
  have g5 := hed (wy j0) (wy k0)
  have cRT_0 := cRT k k
  have cRT_1 := cRT k j0
  have cRT_2 := cRT k k0
  have cRT_3 := cRT j0 k
  have cRT_4 := cRT j0 j0
  have cRT_5 := cRT j0 k0
  have cRT_6 := cRT k0 k
  have cRT_7 := cRT k0 j0
  have cRT_8 := cRT k0 k0
  have cR_0 := cR j0
  have cR_1 := cR k0
  have f0 := p6_ k
  have f1 := p6_ j0
  have f2 := p6_ k0
  clear p6_
  clear hop hed cRT cR
  grind (splits := 24)

set_option maxHeartbeats 1000000 in
theorem pt_mg_CV {W : Int → Prop} {sd : Int → Int} {op : Int → Int} {ed : Int → Int} {st : Int → Int} {lv : Int → Int} {nm : Int → Int} {tst : Int → Int} {om : Int → Int} {ps : Int → Int} {dl : Int → Int} {dn : Int → Int} {c0 : Int → Int} {en : Int → Int} {cl : Int → Int} {cw : Int → Int} {nL : Int} {kd : Int → Int} {wy : Int → Int} {wh : Int → Int} {b k : Int} (hG : pj_G W sd op ed) (p0_ : W b) (p1_ : 0 ≤ k) (p2_ : k < nL) (p3_ : wh k ≠ 2) (p4_ : kd k = 0) (p5_ : wy k = op b) (p6_ : ∀ j, 0 ≤ j → j < k → wy j = wy k → wh j ≠ 0) (p7_ : om (sd (op b)) = (ed b)) (p8_ : om (sd b) = (ed b)) (p9_ : ps (sd (op b)) = 1) (p10_ : ps (sd b) = 1) (p11_ : dl (sd (op b)) = lv (sd (op b))) (p12_ : lv (sd (op b)) = lv (sd b)) (p13_ : lv (sd (op b)) = 0 ∨ nm (sd (op b)) ≠ nm (sd b)) (p14_ : en b = 1) (p15_ : en (op b) = 1) (p16_ : st (sd (op b)) = 2) (p17_ : st (sd b) = 2) (p18_ : (cl (ed b) = 0 ∧ dl (sd b) = lv (sd b)) ∨ (cl (ed b) = lv (sd b) + 1 ∧ dl (sd b) = cl (ed b) ∧ dn (sd b) = (ed b))) (p19_ : 1 ≤ lv (sd b) → cl (ed b) = 0 → cw (nm (sd b)) = b ∧ cw (nm (sd (op b))) = op b ∧ cl (nm (sd b)) = lv (sd b) ∧ cl (nm (sd (op b))) = lv (sd b)) (p20_ : lv (sd b) = 0 → c0 (sd b) = (ed b) ∧ c0 (sd (op b)) = (ed b)) (p21_ : 0 ≤ lv (sd b)) (p22_ : 0 ≤ nL) (cCV : pj_CV W sd op ed tst nL kd wy wh) (cR : pj_R W nL kd wy wh) : pj_CV W sd op ed tst (nL + 1) (pu kd nL 1) (pu wy nL b) (pu (pu wh k 2) nL 0) := by
  obtain ⟨hop, hed⟩ := hG
  unfold pj_CV pj_R at *
  intro v0 j0 k0
  simp only [pu]
  have g0 := hop b
  have g1 := hop v0
  have g2 := hop (wy j0)
  have g3 := hop (wy k0)
  have g4 := hed b v0
  have g5 := hed b (wy j0)
  have g6 := hed b (wy k0)
  have g7 := hed v0 (wy j0)
  have g8 := hed v0 (wy k0)
  have g9 := hed (wy j0) (wy k0)
  have cCV_0 := cCV v0 j0 k0
  have cR_0 := cR j0
  have cR_1 := cR k0
  have f0 := p6_ k
  have f1 := p6_ j0
  have f2 := p6_ k0
  clear p6_
  clear hop hed cCV cR
  grind (splits := 24)

set_option maxHeartbeats 1000000 in
theorem pt_mg_L5 {W : Int → Prop} {sd : Int → Int} {op : Int → Int} {ed : Int → Int} {st : Int → Int} {lv : Int → Int} {nm : Int → Int} {inw : Int → Int} {bst : Int → Int} {om : Int → Int} {ps : Int → Int} {dl : Int → Int} {dn : Int → Int} {c0 : Int → Int} {en : Int → Int} {pd : Int → Int} {rp : Int → Int} {rv : Int → Int} {cl : Int → Int} {cw : Int → Int} {tk : Int → Int} {nL : Int} {kd : Int → Int} {wy : Int → Int} {td : Int → Int} {wh : Int → Int} {b k : Int} (hG : pj_G W sd op ed) (p0_ : W b) (p1_ : 0 ≤ k) (p2_ : k < nL) (p3_ : wh k ≠ 2) (p4_ : kd k = 0) (p5_ : wy k = op b) (p6_ : ∀ j, 0 ≤ j → j < k → wy j = wy k → wh j ≠ 0) (p7_ : om (sd (op b)) = (ed b)) (p8_ : om (sd b) = (ed b)) (p9_ : ps (sd (op b)) = 1) (p10_ : ps (sd b) = 1) (p11_ : dl (sd (op b)) = lv (sd (op b))) (p12_ : lv (sd (op b)) = lv (sd b)) (p13_ : lv (sd (op b)) = 0 ∨ nm (sd (op b)) ≠ nm (sd b)) (p14_ : en b = 1) (p15_ : en (op b) = 1) (p16_ : st (sd (op b)) = 2) (p17_ : st (sd b) = 2) (p18_ : (cl (ed b) = 0 ∧ dl (sd b) = lv (sd b)) ∨ (cl (ed b) = lv (sd b) + 1 ∧ dl (sd b) = cl (ed b) ∧ dn (sd b) = (ed b))) (p19_ : 1 ≤ lv (sd b) → cl (ed b) = 0 → cw (nm (sd b)) = b ∧ cw (nm (sd (op b))) = op b ∧ cl (nm (sd b)) = lv (sd b) ∧ cl (nm (sd (op b))) = lv (sd b)) (p20_ : lv (sd b) = 0 → c0 (sd b) = (ed b) ∧ c0 (sd (op b)) = (ed b)) (p21_ : 0 ≤ lv (sd b)) (p22_ : 0 ≤ nL) (cL5 : pj_L5 sd op ed st lv nm inw bst om ps dl pd rp rv cl tk nL kd wy td wh) (cR : pj_R W nL kd wy wh) (cRP1 : pj_RP1 W sd ed lv rp cl) : pj_L5 sd op ed st lv nm inw bst om ps (pu dl (sd (op b)) (lv (sd b) + 1)) pd rp rv (pu cl (ed b) (lv (sd b) + 1)) tk (nL + 1) (pu kd nL 1) (pu wy nL b) (pu td nL ((ed b))) (pu (pu wh k 2) nL 0) := by
  obtain ⟨hop, hed⟩ := hG
  unfold pj_L5 pj_R pj_RP1 at *
  intro k0
  simp only [pu]
  have g0 := hop b
  have g1 := hop (wy k0)
  have g2 := hed b (wy k0)
  have cL5_0 := cL5 k
  have cL5_1 := cL5 k0
  have cR_0 := cR k0
  have cRP1_0 := cRP1 b
  have cRP1_1 := cRP1 (wy k0)
  have cRP1_2 := cRP1 (op (wy k0))
  have f0 := p6_ k
  have f1 := p6_ k0
  clear p6_
  clear hop hed cL5 cR cRP1
  grind (splits := 24)

set_option maxHeartbeats 1000000 in
theorem pt_mg_L5o {W : Int → Prop} {sd : Int → Int} {op : Int → Int} {ed : Int → Int} {st : Int → Int} {lv : Int → Int} {nm : Int → Int} {inw : Int → Int} {bst : Int → Int} {om : Int → Int} {ps : Int → Int} {dl : Int → Int} {dn : Int → Int} {c0 : Int → Int} {en : Int → Int} {pd : Int → Int} {rp : Int → Int} {rv : Int → Int} {cl : Int → Int} {cw : Int → Int} {tk : Int → Int} {nL : Int} {kd : Int → Int} {wy : Int → Int} {td : Int → Int} {wh : Int → Int} {b k : Int} (hG : pj_G W sd op ed) (p0_ : W b) (p1_ : 0 ≤ k) (p2_ : k < nL) (p3_ : wh k ≠ 2) (p4_ : kd k = 0) (p5_ : wy k = op b) (p6_ : ∀ j, 0 ≤ j → j < k → wy j = wy k → wh j ≠ 0) (p7_ : om (sd (op b)) = (ed b)) (p8_ : om (sd b) = (ed b)) (p9_ : ps (sd (op b)) = 1) (p10_ : ps (sd b) = 1) (p11_ : dl (sd (op b)) = lv (sd (op b))) (p12_ : lv (sd (op b)) = lv (sd b)) (p13_ : lv (sd (op b)) = 0 ∨ nm (sd (op b)) ≠ nm (sd b)) (p14_ : en b = 1) (p15_ : en (op b) = 1) (p16_ : st (sd (op b)) = 2) (p17_ : st (sd b) = 2) (p18_ : (cl (ed b) = 0 ∧ dl (sd b) = lv (sd b)) ∨ (cl (ed b) = lv (sd b) + 1 ∧ dl (sd b) = cl (ed b) ∧ dn (sd b) = (ed b))) (p19_ : 1 ≤ lv (sd b) → cl (ed b) = 0 → cw (nm (sd b)) = b ∧ cw (nm (sd (op b))) = op b ∧ cl (nm (sd b)) = lv (sd b) ∧ cl (nm (sd (op b))) = lv (sd b)) (p20_ : lv (sd b) = 0 → c0 (sd b) = (ed b) ∧ c0 (sd (op b)) = (ed b)) (p21_ : 0 ≤ lv (sd b)) (p22_ : 0 ≤ nL) (cL5o : pj_L5o sd op ed lv cl nL kd wy wh) (cR : pj_R W nL kd wy wh) (cL5 : pj_L5 sd op ed st lv nm inw bst om ps dl pd rp rv cl tk nL kd wy td wh) (cRP1 : pj_RP1 W sd ed lv rp cl) : pj_L5o sd op ed lv (pu cl (ed b) (lv (sd b) + 1)) (nL + 1) (pu kd nL 1) (pu wy nL b) (pu (pu wh k 2) nL 0) := by
  obtain ⟨hop, hed⟩ := hG
  unfold pj_L5o pj_R pj_L5 pj_RP1 at *
  intro j0 k0
  simp only [pu]
  have g0 := hop b
  have g1 := hop (wy j0)
  have g2 := hop (wy k0)
  have g3 := hed b (wy j0)
  have g4 := hed b (wy k0)
  have g5 := hed (wy j0) (wy k0)
  have cL5o_0 := cL5o k k
  have cL5o_1 := cL5o k j0
  have cL5o_2 := cL5o k k0
  have cL5o_3 := cL5o j0 k
  have cL5o_4 := cL5o j0 j0
  have cL5o_5 := cL5o j0 k0
  have cL5o_6 := cL5o k0 k
  have cL5o_7 := cL5o k0 j0
  have cL5o_8 := cL5o k0 k0
  have cR_0 := cR j0
  have cR_1 := cR k0
  have cL5_0 := cL5 k
  have cL5_1 := cL5 j0
  have cL5_2 := cL5 k0
  have cRP1_0 := cRP1 b
  have cRP1_1 := cRP1 (wy j0)
  have cRP1_2 := cRP1 (op (wy j0))
  have cRP1_3 := cRP1 (wy k0)
  have cRP1_4 := cRP1 (op (wy k0))
  have f0 := p6_ k
  have f1 := p6_ j0
  have f2 := p6_ k0
  clear p6_
  clear hop hed cL5o cR cL5 cRP1
  grind (splits := 24)

set_option maxHeartbeats 1000000 in
theorem pt_mg_L5u {W : Int → Prop} {sd : Int → Int} {op : Int → Int} {ed : Int → Int} {st : Int → Int} {lv : Int → Int} {nm : Int → Int} {om : Int → Int} {ps : Int → Int} {dl : Int → Int} {dn : Int → Int} {c0 : Int → Int} {en : Int → Int} {cl : Int → Int} {cw : Int → Int} {nL : Int} {kd : Int → Int} {wy : Int → Int} {wh : Int → Int} {b k : Int} (hG : pj_G W sd op ed) (p0_ : W b) (p1_ : 0 ≤ k) (p2_ : k < nL) (p3_ : wh k ≠ 2) (p4_ : kd k = 0) (p5_ : wy k = op b) (p6_ : ∀ j, 0 ≤ j → j < k → wy j = wy k → wh j ≠ 0) (p7_ : om (sd (op b)) = (ed b)) (p8_ : om (sd b) = (ed b)) (p9_ : ps (sd (op b)) = 1) (p10_ : ps (sd b) = 1) (p11_ : dl (sd (op b)) = lv (sd (op b))) (p12_ : lv (sd (op b)) = lv (sd b)) (p13_ : lv (sd (op b)) = 0 ∨ nm (sd (op b)) ≠ nm (sd b)) (p14_ : en b = 1) (p15_ : en (op b) = 1) (p16_ : st (sd (op b)) = 2) (p17_ : st (sd b) = 2) (p18_ : (cl (ed b) = 0 ∧ dl (sd b) = lv (sd b)) ∨ (cl (ed b) = lv (sd b) + 1 ∧ dl (sd b) = cl (ed b) ∧ dn (sd b) = (ed b))) (p19_ : 1 ≤ lv (sd b) → cl (ed b) = 0 → cw (nm (sd b)) = b ∧ cw (nm (sd (op b))) = op b ∧ cl (nm (sd b)) = lv (sd b) ∧ cl (nm (sd (op b))) = lv (sd b)) (p20_ : lv (sd b) = 0 → c0 (sd b) = (ed b) ∧ c0 (sd (op b)) = (ed b)) (p21_ : 0 ≤ lv (sd b)) (p22_ : 0 ≤ nL) (cL5u : pj_L5u nL kd wy wh) (cR : pj_R W nL kd wy wh) : pj_L5u (nL + 1) (pu kd nL 1) (pu wy nL b) (pu (pu wh k 2) nL 0) := by
  obtain ⟨hop, hed⟩ := hG
  unfold pj_L5u pj_R at *
  intro j0 k0
  simp only [pu]
  have g0 := hop b
  have g1 := hop (wy j0)
  have g2 := hop (wy k0)
  have g3 := hed b (wy j0)
  have g4 := hed b (wy k0)
  have g5 := hed (wy j0) (wy k0)
  have cL5u_0 := cL5u k k
  have cL5u_1 := cL5u k j0
  have cL5u_2 := cL5u k k0
  have cL5u_3 := cL5u j0 k
  have cL5u_4 := cL5u j0 j0
  have cL5u_5 := cL5u j0 k0
  have cL5u_6 := cL5u k0 k
  have cL5u_7 := cL5u k0 j0
  have cL5u_8 := cL5u k0 k0
  have cR_0 := cR j0
  have cR_1 := cR k0
  have f0 := p6_ k
  have f1 := p6_ j0
  have f2 := p6_ k0
  clear p6_
  clear hop hed cL5u cR
  grind (splits := 24)

set_option maxHeartbeats 1000000 in
theorem pt_mg_L6 {W : Int → Prop} {sd : Int → Int} {op : Int → Int} {ed : Int → Int} {st : Int → Int} {lv : Int → Int} {nm : Int → Int} {tow : Int → Int} {om : Int → Int} {ps : Int → Int} {dl : Int → Int} {dn : Int → Int} {c0 : Int → Int} {en : Int → Int} {cl : Int → Int} {cw : Int → Int} {tk : Int → Int} {nL : Int} {kd : Int → Int} {wy : Int → Int} {wh : Int → Int} {b k : Int} (hG : pj_G W sd op ed) (p0_ : W b) (p1_ : 0 ≤ k) (p2_ : k < nL) (p3_ : wh k ≠ 2) (p4_ : kd k = 0) (p5_ : wy k = op b) (p6_ : ∀ j, 0 ≤ j → j < k → wy j = wy k → wh j ≠ 0) (p7_ : om (sd (op b)) = (ed b)) (p8_ : om (sd b) = (ed b)) (p9_ : ps (sd (op b)) = 1) (p10_ : ps (sd b) = 1) (p11_ : dl (sd (op b)) = lv (sd (op b))) (p12_ : lv (sd (op b)) = lv (sd b)) (p13_ : lv (sd (op b)) = 0 ∨ nm (sd (op b)) ≠ nm (sd b)) (p14_ : en b = 1) (p15_ : en (op b) = 1) (p16_ : st (sd (op b)) = 2) (p17_ : st (sd b) = 2) (p18_ : (cl (ed b) = 0 ∧ dl (sd b) = lv (sd b)) ∨ (cl (ed b) = lv (sd b) + 1 ∧ dl (sd b) = cl (ed b) ∧ dn (sd b) = (ed b))) (p19_ : 1 ≤ lv (sd b) → cl (ed b) = 0 → cw (nm (sd b)) = b ∧ cw (nm (sd (op b))) = op b ∧ cl (nm (sd b)) = lv (sd b) ∧ cl (nm (sd (op b))) = lv (sd b)) (p20_ : lv (sd b) = 0 → c0 (sd b) = (ed b) ∧ c0 (sd (op b)) = (ed b)) (p21_ : 0 ≤ lv (sd b)) (p22_ : 0 ≤ nL) (cL6 : pj_L6 sd op ed st lv nm tow om ps dl cw tk nL kd wy wh) (cR : pj_R W nL kd wy wh) : pj_L6 sd op ed st lv nm tow om ps (pu dl (sd (op b)) (lv (sd b) + 1)) cw tk (nL + 1) (pu kd nL 1) (pu wy nL b) (pu (pu wh k 2) nL 0) := by
  obtain ⟨hop, hed⟩ := hG
  unfold pj_L6 pj_R at *
  intro k0
  simp only [pu]
  have g0 := hop b
  have g1 := hop (wy k0)
  have g2 := hed b (wy k0)
  have cL6_0 := cL6 k
  have cL6_1 := cL6 k0
  have cR_0 := cR k0
  have f0 := p6_ k
  have f1 := p6_ k0
  clear p6_
  clear hop hed cL6 cR
  grind (splits := 24)

set_option maxHeartbeats 1000000 in
theorem pt_mg_L6u {W : Int → Prop} {sd : Int → Int} {op : Int → Int} {ed : Int → Int} {st : Int → Int} {lv : Int → Int} {nm : Int → Int} {om : Int → Int} {ps : Int → Int} {dl : Int → Int} {dn : Int → Int} {c0 : Int → Int} {en : Int → Int} {cl : Int → Int} {cw : Int → Int} {nL : Int} {kd : Int → Int} {wy : Int → Int} {wh : Int → Int} {b k : Int} (hG : pj_G W sd op ed) (p0_ : W b) (p1_ : 0 ≤ k) (p2_ : k < nL) (p3_ : wh k ≠ 2) (p4_ : kd k = 0) (p5_ : wy k = op b) (p6_ : ∀ j, 0 ≤ j → j < k → wy j = wy k → wh j ≠ 0) (p7_ : om (sd (op b)) = (ed b)) (p8_ : om (sd b) = (ed b)) (p9_ : ps (sd (op b)) = 1) (p10_ : ps (sd b) = 1) (p11_ : dl (sd (op b)) = lv (sd (op b))) (p12_ : lv (sd (op b)) = lv (sd b)) (p13_ : lv (sd (op b)) = 0 ∨ nm (sd (op b)) ≠ nm (sd b)) (p14_ : en b = 1) (p15_ : en (op b) = 1) (p16_ : st (sd (op b)) = 2) (p17_ : st (sd b) = 2) (p18_ : (cl (ed b) = 0 ∧ dl (sd b) = lv (sd b)) ∨ (cl (ed b) = lv (sd b) + 1 ∧ dl (sd b) = cl (ed b) ∧ dn (sd b) = (ed b))) (p19_ : 1 ≤ lv (sd b) → cl (ed b) = 0 → cw (nm (sd b)) = b ∧ cw (nm (sd (op b))) = op b ∧ cl (nm (sd b)) = lv (sd b) ∧ cl (nm (sd (op b))) = lv (sd b)) (p20_ : lv (sd b) = 0 → c0 (sd b) = (ed b) ∧ c0 (sd (op b)) = (ed b)) (p21_ : 0 ≤ lv (sd b)) (p22_ : 0 ≤ nL) (cL6u : pj_L6u sd op nm nL kd wy wh) (cR : pj_R W nL kd wy wh) : pj_L6u sd op nm (nL + 1) (pu kd nL 1) (pu wy nL b) (pu (pu wh k 2) nL 0) := by
  obtain ⟨hop, hed⟩ := hG
  unfold pj_L6u pj_R at *
  intro j0 k0
  simp only [pu]
  have g0 := hop b
  have g1 := hop (wy j0)
  have g2 := hop (wy k0)
  have g3 := hed b (wy j0)
  have g4 := hed b (wy k0)
  have g5 := hed (wy j0) (wy k0)
  have cL6u_0 := cL6u k k
  have cL6u_1 := cL6u k j0
  have cL6u_2 := cL6u k k0
  have cL6u_3 := cL6u j0 k
  have cL6u_4 := cL6u j0 j0
  have cL6u_5 := cL6u j0 k0
  have cL6u_6 := cL6u k0 k
  have cL6u_7 := cL6u k0 j0
  have cL6u_8 := cL6u k0 k0
  have cR_0 := cR j0
  have cR_1 := cR k0
  have f0 := p6_ k
  have f1 := p6_ j0
  have f2 := p6_ k0
  clear p6_
  clear hop hed cL6u cR
  grind (splits := 24)

theorem pj_mg {W : Int → Prop} {sd op ed : Int → Int} {li : Int → Int → Prop} {st lv nm inw tow bst tst exp om ps dl dn af c0 en pd rp rv fw cl cw tk kd wy ll td ls wh : Int → Int} {nL : Int} {F F2 : Int → Prop} {fl fc : Int} {b k : Int} (hG : pj_G W sd op ed) (p0_ : W b) (p1_ : 0 ≤ k) (p2_ : k < nL) (p3_ : wh k ≠ 2) (p4_ : kd k = 0) (p5_ : wy k = op b) (p6_ : ∀ j, 0 ≤ j → j < k → wy j = wy k → wh j ≠ 0) (p7_ : om (sd (op b)) = (ed b)) (p8_ : om (sd b) = (ed b)) (p9_ : ps (sd (op b)) = 1) (p10_ : ps (sd b) = 1) (p11_ : dl (sd (op b)) = lv (sd (op b))) (p12_ : lv (sd (op b)) = lv (sd b)) (p13_ : lv (sd (op b)) = 0 ∨ nm (sd (op b)) ≠ nm (sd b)) (p14_ : en b = 1) (p15_ : en (op b) = 1) (p16_ : st (sd (op b)) = 2) (p17_ : st (sd b) = 2) (p18_ : (cl (ed b) = 0 ∧ dl (sd b) = lv (sd b)) ∨ (cl (ed b) = lv (sd b) + 1 ∧ dl (sd b) = cl (ed b) ∧ dn (sd b) = (ed b))) (p19_ : 1 ≤ lv (sd b) → cl (ed b) = 0 → cw (nm (sd b)) = b ∧ cw (nm (sd (op b))) = op b ∧ cl (nm (sd b)) = lv (sd b) ∧ cl (nm (sd (op b))) = lv (sd b)) (p20_ : lv (sd b) = 0 → c0 (sd b) = (ed b) ∧ c0 (sd (op b)) = (ed b)) (p21_ : 0 ≤ lv (sd b)) (p22_ : 0 ≤ nL) (h : pj_J W sd op ed li st lv nm inw tow bst tst exp om ps dl dn af c0 en pd rp rv fw cl cw tk nL kd wy ll td ls wh F fl fc) : pj_J W sd op ed li st lv nm inw tow bst tst exp om ps (pu dl (sd (op b)) (lv (sd b) + 1)) (pu dn (sd (op b)) (ed b)) af c0 en pd rp rv fw (pu cl (ed b) (lv (sd b) + 1)) cw tk (nL + 1) (pu kd nL 1) (pu wy nL b) (pu ll nL (lv (sd b) + 1)) (pu td nL ((ed b))) (pu ls nL (1)) (pu (pu wh k 2) nL 0) F fl fc := by
  obtain ⟨cR, cN0, cN1, cN1w, cER, cN1c, cN2, cN2e, cN2b, cN4e, cN4b, cN5, cN7, cN10, cN10e, cN13, cC1, cC2, cR3a, cE1, cU, cA1, cA2, cEC, cR3, cN11, cN12, cN3, cRJ, cFW, cPD, cCC, cCD, cRP, cRP1, cCR, cZ1, cZ0, cTK, cK2, cWH, cFI, cL0, cFC, cL0u, cOC, cCT, cL1, cL1e, cL1o, cL1b, cL1g, cL2, cL3, cL4, cAF, cRT, cCV, cL5, cL5o, cL5u, cL6, cL6u⟩ := h
  exact ⟨pt_mg_R hG p0_ p1_ p2_ p3_ p4_ p5_ p6_ p7_ p8_ p9_ p10_ p11_ p12_ p13_ p14_ p15_ p16_ p17_ p18_ p19_ p20_ p21_ p22_ cR, pt_mg_N0 hG p0_ p1_ p2_ p3_ p4_ p5_ p6_ p7_ p8_ p9_ p10_ p11_ p12_ p13_ p14_ p15_ p16_ p17_ p18_ p19_ p20_ p21_ p22_ cN0, pt_mg_N1 hG p0_ p1_ p2_ p3_ p4_ p5_ p6_ p7_ p8_ p9_ p10_ p11_ p12_ p13_ p14_ p15_ p16_ p17_ p18_ p19_ p20_ p21_ p22_ cN1, cN1w, cER, pt_mg_N1c hG p0_ p1_ p2_ p3_ p4_ p5_ p6_ p7_ p8_ p9_ p10_ p11_ p12_ p13_ p14_ p15_ p16_ p17_ p18_ p19_ p20_ p21_ p22_ cN1c cR, cN2, cN2e, cN2b, cN4e, cN4b, cN5, cN7, cN10, cN10e, cN13, pt_mg_C1 hG p0_ p1_ p2_ p3_ p4_ p5_ p6_ p7_ p8_ p9_ p10_ p11_ p12_ p13_ p14_ p15_ p16_ p17_ p18_ p19_ p20_ p21_ p22_ cC1, pt_mg_C2 hG p0_ p1_ p2_ p3_ p4_ p5_ p6_ p7_ p8_ p9_ p10_ p11_ p12_ p13_ p14_ p15_ p16_ p17_ p18_ p19_ p20_ p21_ p22_ cC2, pt_mg_R3a hG p0_ p1_ p2_ p3_ p4_ p5_ p6_ p7_ p8_ p9_ p10_ p11_ p12_ p13_ p14_ p15_ p16_ p17_ p18_ p19_ p20_ p21_ p22_ cR3a, pt_mg_E1 hG p0_ p1_ p2_ p3_ p4_ p5_ p6_ p7_ p8_ p9_ p10_ p11_ p12_ p13_ p14_ p15_ p16_ p17_ p18_ p19_ p20_ p21_ p22_ cE1, pt_mg_U hG p0_ p1_ p2_ p3_ p4_ p5_ p6_ p7_ p8_ p9_ p10_ p11_ p12_ p13_ p14_ p15_ p16_ p17_ p18_ p19_ p20_ p21_ p22_ cU, pt_mg_A1 hG p0_ p1_ p2_ p3_ p4_ p5_ p6_ p7_ p8_ p9_ p10_ p11_ p12_ p13_ p14_ p15_ p16_ p17_ p18_ p19_ p20_ p21_ p22_ cA1, pt_mg_A2 hG p0_ p1_ p2_ p3_ p4_ p5_ p6_ p7_ p8_ p9_ p10_ p11_ p12_ p13_ p14_ p15_ p16_ p17_ p18_ p19_ p20_ p21_ p22_ cA2, pt_mg_EC hG p0_ p1_ p2_ p3_ p4_ p5_ p6_ p7_ p8_ p9_ p10_ p11_ p12_ p13_ p14_ p15_ p16_ p17_ p18_ p19_ p20_ p21_ p22_ cEC, cR3, cN11, pt_mg_N12 hG p0_ p1_ p2_ p3_ p4_ p5_ p6_ p7_ p8_ p9_ p10_ p11_ p12_ p13_ p14_ p15_ p16_ p17_ p18_ p19_ p20_ p21_ p22_ cN12, cN3, cRJ, cFW, cPD, pt_mg_CC hG p0_ p1_ p2_ p3_ p4_ p5_ p6_ p7_ p8_ p9_ p10_ p11_ p12_ p13_ p14_ p15_ p16_ p17_ p18_ p19_ p20_ p21_ p22_ cCC, pt_mg_CD hG p0_ p1_ p2_ p3_ p4_ p5_ p6_ p7_ p8_ p9_ p10_ p11_ p12_ p13_ p14_ p15_ p16_ p17_ p18_ p19_ p20_ p21_ p22_ cCD, cRP, pt_mg_RP1 hG p0_ p1_ p2_ p3_ p4_ p5_ p6_ p7_ p8_ p9_ p10_ p11_ p12_ p13_ p14_ p15_ p16_ p17_ p18_ p19_ p20_ p21_ p22_ cRP1, pt_mg_CR hG p0_ p1_ p2_ p3_ p4_ p5_ p6_ p7_ p8_ p9_ p10_ p11_ p12_ p13_ p14_ p15_ p16_ p17_ p18_ p19_ p20_ p21_ p22_ cCR, pt_mg_Z1 hG p0_ p1_ p2_ p3_ p4_ p5_ p6_ p7_ p8_ p9_ p10_ p11_ p12_ p13_ p14_ p15_ p16_ p17_ p18_ p19_ p20_ p21_ p22_ cZ1, pt_mg_Z0 hG p0_ p1_ p2_ p3_ p4_ p5_ p6_ p7_ p8_ p9_ p10_ p11_ p12_ p13_ p14_ p15_ p16_ p17_ p18_ p19_ p20_ p21_ p22_ cZ0, cTK, cK2, pt_mg_WH hG p0_ p1_ p2_ p3_ p4_ p5_ p6_ p7_ p8_ p9_ p10_ p11_ p12_ p13_ p14_ p15_ p16_ p17_ p18_ p19_ p20_ p21_ p22_ cWH cR, pt_mg_FI hG p0_ p1_ p2_ p3_ p4_ p5_ p6_ p7_ p8_ p9_ p10_ p11_ p12_ p13_ p14_ p15_ p16_ p17_ p18_ p19_ p20_ p21_ p22_ cFI cR, pt_mg_L0 hG p0_ p1_ p2_ p3_ p4_ p5_ p6_ p7_ p8_ p9_ p10_ p11_ p12_ p13_ p14_ p15_ p16_ p17_ p18_ p19_ p20_ p21_ p22_ cL0 cR cL0u, pt_mg_FC hG p0_ p1_ p2_ p3_ p4_ p5_ p6_ p7_ p8_ p9_ p10_ p11_ p12_ p13_ p14_ p15_ p16_ p17_ p18_ p19_ p20_ p21_ p22_ cFC cR, pt_mg_L0u hG p0_ p1_ p2_ p3_ p4_ p5_ p6_ p7_ p8_ p9_ p10_ p11_ p12_ p13_ p14_ p15_ p16_ p17_ p18_ p19_ p20_ p21_ p22_ cL0u cR, pt_mg_OC hG p0_ p1_ p2_ p3_ p4_ p5_ p6_ p7_ p8_ p9_ p10_ p11_ p12_ p13_ p14_ p15_ p16_ p17_ p18_ p19_ p20_ p21_ p22_ cOC cR, pt_mg_CT hG p0_ p1_ p2_ p3_ p4_ p5_ p6_ p7_ p8_ p9_ p10_ p11_ p12_ p13_ p14_ p15_ p16_ p17_ p18_ p19_ p20_ p21_ p22_ cCT cR, pt_mg_L1 hG p0_ p1_ p2_ p3_ p4_ p5_ p6_ p7_ p8_ p9_ p10_ p11_ p12_ p13_ p14_ p15_ p16_ p17_ p18_ p19_ p20_ p21_ p22_ cL1 cR cN0, pt_mg_L1e hG p0_ p1_ p2_ p3_ p4_ p5_ p6_ p7_ p8_ p9_ p10_ p11_ p12_ p13_ p14_ p15_ p16_ p17_ p18_ p19_ p20_ p21_ p22_ cL1e cR cL1, pt_mg_L1o hG p0_ p1_ p2_ p3_ p4_ p5_ p6_ p7_ p8_ p9_ p10_ p11_ p12_ p13_ p14_ p15_ p16_ p17_ p18_ p19_ p20_ p21_ p22_ cL1o cR cL1, pt_mg_L1b hG p0_ p1_ p2_ p3_ p4_ p5_ p6_ p7_ p8_ p9_ p10_ p11_ p12_ p13_ p14_ p15_ p16_ p17_ p18_ p19_ p20_ p21_ p22_ cL1b cR, pt_mg_L1g hG p0_ p1_ p2_ p3_ p4_ p5_ p6_ p7_ p8_ p9_ p10_ p11_ p12_ p13_ p14_ p15_ p16_ p17_ p18_ p19_ p20_ p21_ p22_ cL1g cR, pt_mg_L2 hG p0_ p1_ p2_ p3_ p4_ p5_ p6_ p7_ p8_ p9_ p10_ p11_ p12_ p13_ p14_ p15_ p16_ p17_ p18_ p19_ p20_ p21_ p22_ cL2 cR, pt_mg_L3 hG p0_ p1_ p2_ p3_ p4_ p5_ p6_ p7_ p8_ p9_ p10_ p11_ p12_ p13_ p14_ p15_ p16_ p17_ p18_ p19_ p20_ p21_ p22_ cL3 cR, pt_mg_L4 hG p0_ p1_ p2_ p3_ p4_ p5_ p6_ p7_ p8_ p9_ p10_ p11_ p12_ p13_ p14_ p15_ p16_ p17_ p18_ p19_ p20_ p21_ p22_ cL4 cR, pt_mg_AF hG p0_ p1_ p2_ p3_ p4_ p5_ p6_ p7_ p8_ p9_ p10_ p11_ p12_ p13_ p14_ p15_ p16_ p17_ p18_ p19_ p20_ p21_ p22_ cAF, pt_mg_RT hG p0_ p1_ p2_ p3_ p4_ p5_ p6_ p7_ p8_ p9_ p10_ p11_ p12_ p13_ p14_ p15_ p16_ p17_ p18_ p19_ p20_ p21_ p22_ cRT cR, pt_mg_CV hG p0_ p1_ p2_ p3_ p4_ p5_ p6_ p7_ p8_ p9_ p10_ p11_ p12_ p13_ p14_ p15_ p16_ p17_ p18_ p19_ p20_ p21_ p22_ cCV cR, pt_mg_L5 hG p0_ p1_ p2_ p3_ p4_ p5_ p6_ p7_ p8_ p9_ p10_ p11_ p12_ p13_ p14_ p15_ p16_ p17_ p18_ p19_ p20_ p21_ p22_ cL5 cR cRP1, pt_mg_L5o hG p0_ p1_ p2_ p3_ p4_ p5_ p6_ p7_ p8_ p9_ p10_ p11_ p12_ p13_ p14_ p15_ p16_ p17_ p18_ p19_ p20_ p21_ p22_ cL5o cR cL5 cRP1, pt_mg_L5u hG p0_ p1_ p2_ p3_ p4_ p5_ p6_ p7_ p8_ p9_ p10_ p11_ p12_ p13_ p14_ p15_ p16_ p17_ p18_ p19_ p20_ p21_ p22_ cL5u cR, pt_mg_L6 hG p0_ p1_ p2_ p3_ p4_ p5_ p6_ p7_ p8_ p9_ p10_ p11_ p12_ p13_ p14_ p15_ p16_ p17_ p18_ p19_ p20_ p21_ p22_ cL6 cR, pt_mg_L6u hG p0_ p1_ p2_ p3_ p4_ p5_ p6_ p7_ p8_ p9_ p10_ p11_ p12_ p13_ p14_ p15_ p16_ p17_ p18_ p19_ p20_ p21_ p22_ cL6u cR⟩

