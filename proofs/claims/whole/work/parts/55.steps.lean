/-! pt: each step keeps each clause of the invariant (printed by wip/gen/gen50w.py) -/
set_option maxHeartbeats 1000000 in
theorem pt_ca_R {W : Int → Prop} {sd : Int → Int} {op : Int → Int} {ed : Int → Int} {st : Int → Int} {lv : Int → Int} {nm : Int → Int} {inw : Int → Int} {tow : Int → Int} {om : Int → Int} {ps : Int → Int} {dl : Int → Int} {dn : Int → Int} {en : Int → Int} {cl : Int → Int} {cw : Int → Int} {tk : Int → Int} {nL : Int} {kd : Int → Int} {wy : Int → Int} {wh : Int → Int} {F : Int → Prop} {a b : Int} (hG : pj_G W sd op ed) (p0_ : ∀ v, ¬ F v) (p1_ : W b) (p2_ : W a) (p3_ : sd a = (sd b)) (p4_ : om (sd b) = ed a) (p5_ : om (sd (op a)) = ed a) (p6_ : st (sd b) = 2) (p7_ : ps (sd b) = 0) (p8_ : dl (sd b) = lv (sd b)) (p9_ : 1 ≤ lv (sd b)) (p10_ : tk (nm (sd b)) = 1) (p11_ : cw (nm (sd b)) = -1) (p12_ : st (sd (op a)) ≠ 1) (p13_ : dl (sd (op a)) = lv (sd (op a))) (p14_ : dl (sd (op a)) = lv (sd b)) (p15_ : dn (sd (op a)) = nm (sd b)) (p16_ : en a = 1) (p17_ : en (op a) = 1) (p18_ : cl (ed a) ≤ lv (sd b)) (p19_ : a ≠ b) (p20_ : b ≠ -1) (p21_ : ∀ j, 0 ≤ j → j < nL → wh j ≠ 2 → kd j = 6 → nm (sd (op (wy j))) ≠ nm (sd b)) (p22_ : ∀ j, 0 ≤ j → j < nL → wh j ≠ 2 → kd j = 5 → wy j ≠ op a) (p23_ : tow (sd b) = (ed b)) (p24_ : om (sd b) ≠ (ed b)) (p25_ : nm (sd b) ≠ (ed b)) (p26_ : nm (sd b) = ed a → tk (ed a) = 1) (p27_ : en b = 1) (p28_ : om (sd (op b)) = (ed b)) (p29_ : inw (sd (op b)) = (ed b)) (p30_ : ps (sd (op b)) = 0) (p31_ : dl (sd (op b)) = lv (sd (op b))) (p32_ : lv (sd (op b)) = lv (sd b)) (p33_ : nm (sd (op b)) = nm (sd b)) (p34_ : st (sd (op b)) = 2) (p35_ : tow (sd (op b)) ≠ -1) (p36_ : 0 ≤ nL) (cR : pj_R W nL kd wy wh) : pj_R W (nL + 1) (pu kd nL 6) (pu wy nL b) (pu wh nL 0) := by
  obtain ⟨hop, hed⟩ := hG
  unfold pj_R at *
  intro k0
  simp only [pu]
  have g0 := hop b
  have g1 := hop a
  have g2 := hop (wy k0)
  have g3 := hed b a
  have g4 := hed b (wy k0)
  have g5 := hed a (wy k0)
  have cR_0 := cR k0
  have f0 := p0_ b
  have f1 := p0_ a
  have f2 := p0_ (wy k0)
  have f3 := p0_ (op (wy k0))
  have f4 := p0_ (op b)
  have f5 := p21_ k0
  have f6 := p22_ k0
  clear p0_ p21_ p22_
  clear hop hed cR
  grind (splits := 24)

set_option maxHeartbeats 1000000 in
theorem pt_ca_N0 {W : Int → Prop} {sd : Int → Int} {op : Int → Int} {ed : Int → Int} {st : Int → Int} {lv : Int → Int} {nm : Int → Int} {inw : Int → Int} {tow : Int → Int} {om : Int → Int} {ps : Int → Int} {dl : Int → Int} {dn : Int → Int} {af : Int → Int} {en : Int → Int} {cl : Int → Int} {cw : Int → Int} {tk : Int → Int} {nL : Int} {kd : Int → Int} {wy : Int → Int} {wh : Int → Int} {F : Int → Prop} {a b : Int} (hG : pj_G W sd op ed) (p0_ : ∀ v, ¬ F v) (p1_ : W b) (p2_ : W a) (p3_ : sd a = (sd b)) (p4_ : om (sd b) = ed a) (p5_ : om (sd (op a)) = ed a) (p6_ : st (sd b) = 2) (p7_ : ps (sd b) = 0) (p8_ : dl (sd b) = lv (sd b)) (p9_ : 1 ≤ lv (sd b)) (p10_ : tk (nm (sd b)) = 1) (p11_ : cw (nm (sd b)) = -1) (p12_ : st (sd (op a)) ≠ 1) (p13_ : dl (sd (op a)) = lv (sd (op a))) (p14_ : dl (sd (op a)) = lv (sd b)) (p15_ : dn (sd (op a)) = nm (sd b)) (p16_ : en a = 1) (p17_ : en (op a) = 1) (p18_ : cl (ed a) ≤ lv (sd b)) (p19_ : a ≠ b) (p20_ : b ≠ -1) (p21_ : ∀ j, 0 ≤ j → j < nL → wh j ≠ 2 → kd j = 6 → nm (sd (op (wy j))) ≠ nm (sd b)) (p22_ : ∀ j, 0 ≤ j → j < nL → wh j ≠ 2 → kd j = 5 → wy j ≠ op a) (p23_ : tow (sd b) = (ed b)) (p24_ : om (sd b) ≠ (ed b)) (p25_ : nm (sd b) ≠ (ed b)) (p26_ : nm (sd b) = ed a → tk (ed a) = 1) (p27_ : en b = 1) (p28_ : om (sd (op b)) = (ed b)) (p29_ : inw (sd (op b)) = (ed b)) (p30_ : ps (sd (op b)) = 0) (p31_ : dl (sd (op b)) = lv (sd (op b))) (p32_ : lv (sd (op b)) = lv (sd b)) (p33_ : nm (sd (op b)) = nm (sd b)) (p34_ : st (sd (op b)) = 2) (p35_ : tow (sd (op b)) ≠ -1) (p36_ : 0 ≤ nL) (cN0 : pj_N0 st lv ps dl af) : pj_N0 st lv (pu ps (sd b) 1) dl af := by
  obtain ⟨hop, hed⟩ := hG
  unfold pj_N0 at *
  intro n0
  simp only [pu]
  have g0 := hop b
  have g1 := hop a
  have g2 := hed b a
  have cN0_0 := cN0 (sd (op b))
  have cN0_1 := cN0 (sd (op a))
  have cN0_2 := cN0 n0
  have cN0_3 := cN0 (sd b)
  have cN0_4 := cN0 (sd a)
  have f0 := p0_ b
  have f1 := p0_ a
  have f2 := p0_ (op b)
  clear p0_ p21_ p22_
  clear hop hed cN0
  grind (splits := 24)

set_option maxHeartbeats 1000000 in
theorem pt_ca_N1 {W : Int → Prop} {sd : Int → Int} {op : Int → Int} {ed : Int → Int} {st : Int → Int} {lv : Int → Int} {nm : Int → Int} {inw : Int → Int} {tow : Int → Int} {om : Int → Int} {ps : Int → Int} {dl : Int → Int} {dn : Int → Int} {en : Int → Int} {cl : Int → Int} {cw : Int → Int} {tk : Int → Int} {nL : Int} {kd : Int → Int} {wy : Int → Int} {wh : Int → Int} {F : Int → Prop} {a b : Int} (hG : pj_G W sd op ed) (p0_ : ∀ v, ¬ F v) (p1_ : W b) (p2_ : W a) (p3_ : sd a = (sd b)) (p4_ : om (sd b) = ed a) (p5_ : om (sd (op a)) = ed a) (p6_ : st (sd b) = 2) (p7_ : ps (sd b) = 0) (p8_ : dl (sd b) = lv (sd b)) (p9_ : 1 ≤ lv (sd b)) (p10_ : tk (nm (sd b)) = 1) (p11_ : cw (nm (sd b)) = -1) (p12_ : st (sd (op a)) ≠ 1) (p13_ : dl (sd (op a)) = lv (sd (op a))) (p14_ : dl (sd (op a)) = lv (sd b)) (p15_ : dn (sd (op a)) = nm (sd b)) (p16_ : en a = 1) (p17_ : en (op a) = 1) (p18_ : cl (ed a) ≤ lv (sd b)) (p19_ : a ≠ b) (p20_ : b ≠ -1) (p21_ : ∀ j, 0 ≤ j → j < nL → wh j ≠ 2 → kd j = 6 → nm (sd (op (wy j))) ≠ nm (sd b)) (p22_ : ∀ j, 0 ≤ j → j < nL → wh j ≠ 2 → kd j = 5 → wy j ≠ op a) (p23_ : tow (sd b) = (ed b)) (p24_ : om (sd b) ≠ (ed b)) (p25_ : nm (sd b) ≠ (ed b)) (p26_ : nm (sd b) = ed a → tk (ed a) = 1) (p27_ : en b = 1) (p28_ : om (sd (op b)) = (ed b)) (p29_ : inw (sd (op b)) = (ed b)) (p30_ : ps (sd (op b)) = 0) (p31_ : dl (sd (op b)) = lv (sd (op b))) (p32_ : lv (sd (op b)) = lv (sd b)) (p33_ : nm (sd (op b)) = nm (sd b)) (p34_ : st (sd (op b)) = 2) (p35_ : tow (sd (op b)) ≠ -1) (p36_ : 0 ≤ nL) (cN1 : pj_N1 st lv om ps dl) : pj_N1 st lv (pu om (sd b) (ed b)) (pu ps (sd b) 1) dl := by
  obtain ⟨hop, hed⟩ := hG
  unfold pj_N1 at *
  intro n0
  simp only [pu]
  have g0 := hop b
  have g1 := hop a
  have g2 := hed b a
  have cN1_0 := cN1 (sd (op b))
  have cN1_1 := cN1 (sd (op a))
  have cN1_2 := cN1 n0
  have cN1_3 := cN1 (sd b)
  have cN1_4 := cN1 (sd a)
  have f0 := p0_ b
  have f1 := p0_ a
  have f2 := p0_ (op b)
  clear p0_ p21_ p22_
  clear hop hed cN1
  grind (splits := 24)

set_option maxHeartbeats 1000000 in
theorem pt_ca_N1c {W : Int → Prop} {sd : Int → Int} {op : Int → Int} {ed : Int → Int} {st : Int → Int} {lv : Int → Int} {nm : Int → Int} {inw : Int → Int} {tow : Int → Int} {om : Int → Int} {ps : Int → Int} {dl : Int → Int} {dn : Int → Int} {en : Int → Int} {cl : Int → Int} {cw : Int → Int} {tk : Int → Int} {nL : Int} {kd : Int → Int} {wy : Int → Int} {wh : Int → Int} {F : Int → Prop} {a b : Int} (hG : pj_G W sd op ed) (p0_ : ∀ v, ¬ F v) (p1_ : W b) (p2_ : W a) (p3_ : sd a = (sd b)) (p4_ : om (sd b) = ed a) (p5_ : om (sd (op a)) = ed a) (p6_ : st (sd b) = 2) (p7_ : ps (sd b) = 0) (p8_ : dl (sd b) = lv (sd b)) (p9_ : 1 ≤ lv (sd b)) (p10_ : tk (nm (sd b)) = 1) (p11_ : cw (nm (sd b)) = -1) (p12_ : st (sd (op a)) ≠ 1) (p13_ : dl (sd (op a)) = lv (sd (op a))) (p14_ : dl (sd (op a)) = lv (sd b)) (p15_ : dn (sd (op a)) = nm (sd b)) (p16_ : en a = 1) (p17_ : en (op a) = 1) (p18_ : cl (ed a) ≤ lv (sd b)) (p19_ : a ≠ b) (p20_ : b ≠ -1) (p21_ : ∀ j, 0 ≤ j → j < nL → wh j ≠ 2 → kd j = 6 → nm (sd (op (wy j))) ≠ nm (sd b)) (p22_ : ∀ j, 0 ≤ j → j < nL → wh j ≠ 2 → kd j = 5 → wy j ≠ op a) (p23_ : tow (sd b) = (ed b)) (p24_ : om (sd b) ≠ (ed b)) (p25_ : nm (sd b) ≠ (ed b)) (p26_ : nm (sd b) = ed a → tk (ed a) = 1) (p27_ : en b = 1) (p28_ : om (sd (op b)) = (ed b)) (p29_ : inw (sd (op b)) = (ed b)) (p30_ : ps (sd (op b)) = 0) (p31_ : dl (sd (op b)) = lv (sd (op b))) (p32_ : lv (sd (op b)) = lv (sd b)) (p33_ : nm (sd (op b)) = nm (sd b)) (p34_ : st (sd (op b)) = 2) (p35_ : tow (sd (op b)) ≠ -1) (p36_ : 0 ≤ nL) (cN1c : pj_N1c sd op st nL wy wh) (cR : pj_R W nL kd wy wh) : pj_N1c sd op st (nL + 1) (pu wy nL b) (pu wh nL 0) := by
  obtain ⟨hop, hed⟩ := hG
  unfold pj_N1c pj_R at *
  intro k0
  simp only [pu]
  have g0 := hop b
  have g1 := hop a
  have g2 := hop (wy k0)
  have g3 := hed b a
  have g4 := hed b (wy k0)
  have g5 := hed a (wy k0)
  have cN1c_0 := cN1c k0
  have cR_0 := cR k0
  have f0 := p0_ b
  have f1 := p0_ a
  have f2 := p0_ (wy k0)
  have f3 := p0_ (op (wy k0))
  have f4 := p0_ (op b)
  have f5 := p21_ k0
  have f6 := p22_ k0
  clear p0_ p21_ p22_
  clear hop hed cN1c cR
  grind (splits := 24)

set_option maxHeartbeats 1000000 in
theorem pt_ca_N2 {W : Int → Prop} {sd : Int → Int} {op : Int → Int} {ed : Int → Int} {st : Int → Int} {lv : Int → Int} {nm : Int → Int} {inw : Int → Int} {tow : Int → Int} {om : Int → Int} {ps : Int → Int} {dl : Int → Int} {dn : Int → Int} {en : Int → Int} {cl : Int → Int} {cw : Int → Int} {tk : Int → Int} {nL : Int} {kd : Int → Int} {wy : Int → Int} {wh : Int → Int} {F : Int → Prop} {a b : Int} (hG : pj_G W sd op ed) (p0_ : ∀ v, ¬ F v) (p1_ : W b) (p2_ : W a) (p3_ : sd a = (sd b)) (p4_ : om (sd b) = ed a) (p5_ : om (sd (op a)) = ed a) (p6_ : st (sd b) = 2) (p7_ : ps (sd b) = 0) (p8_ : dl (sd b) = lv (sd b)) (p9_ : 1 ≤ lv (sd b)) (p10_ : tk (nm (sd b)) = 1) (p11_ : cw (nm (sd b)) = -1) (p12_ : st (sd (op a)) ≠ 1) (p13_ : dl (sd (op a)) = lv (sd (op a))) (p14_ : dl (sd (op a)) = lv (sd b)) (p15_ : dn (sd (op a)) = nm (sd b)) (p16_ : en a = 1) (p17_ : en (op a) = 1) (p18_ : cl (ed a) ≤ lv (sd b)) (p19_ : a ≠ b) (p20_ : b ≠ -1) (p21_ : ∀ j, 0 ≤ j → j < nL → wh j ≠ 2 → kd j = 6 → nm (sd (op (wy j))) ≠ nm (sd b)) (p22_ : ∀ j, 0 ≤ j → j < nL → wh j ≠ 2 → kd j = 5 → wy j ≠ op a) (p23_ : tow (sd b) = (ed b)) (p24_ : om (sd b) ≠ (ed b)) (p25_ : nm (sd b) ≠ (ed b)) (p26_ : nm (sd b) = ed a → tk (ed a) = 1) (p27_ : en b = 1) (p28_ : om (sd (op b)) = (ed b)) (p29_ : inw (sd (op b)) = (ed b)) (p30_ : ps (sd (op b)) = 0) (p31_ : dl (sd (op b)) = lv (sd (op b))) (p32_ : lv (sd (op b)) = lv (sd b)) (p33_ : nm (sd (op b)) = nm (sd b)) (p34_ : st (sd (op b)) = 2) (p35_ : tow (sd (op b)) ≠ -1) (p36_ : 0 ≤ nL) (cN2 : pj_N2 W sd ed om en) : pj_N2 W sd ed (pu om (sd b) (ed b)) en := by
  obtain ⟨hop, hed⟩ := hG
  unfold pj_N2 at *
  intro w0
  simp only [pu]
  have g0 := hop b
  have g1 := hop a
  have g2 := hop w0
  have g3 := hed b a
  have g4 := hed b w0
  have g5 := hed a w0
  have cN2_0 := cN2 b
  have cN2_1 := cN2 a
  have cN2_2 := cN2 w0
  have cN2_3 := cN2 (op w0)
  have f0 := p0_ b
  have f1 := p0_ a
  have f2 := p0_ w0
  have f3 := p0_ (op w0)
  have f4 := p0_ (op b)
  clear p0_ p21_ p22_
  clear hop hed cN2
  grind (splits := 24)

set_option maxHeartbeats 1000000 in
theorem pt_ca_N2e {W : Int → Prop} {sd : Int → Int} {op : Int → Int} {ed : Int → Int} {st : Int → Int} {lv : Int → Int} {nm : Int → Int} {inw : Int → Int} {tow : Int → Int} {om : Int → Int} {ps : Int → Int} {dl : Int → Int} {dn : Int → Int} {en : Int → Int} {cl : Int → Int} {cw : Int → Int} {tk : Int → Int} {nL : Int} {kd : Int → Int} {wy : Int → Int} {wh : Int → Int} {F : Int → Prop} {a b : Int} (hG : pj_G W sd op ed) (p0_ : ∀ v, ¬ F v) (p1_ : W b) (p2_ : W a) (p3_ : sd a = (sd b)) (p4_ : om (sd b) = ed a) (p5_ : om (sd (op a)) = ed a) (p6_ : st (sd b) = 2) (p7_ : ps (sd b) = 0) (p8_ : dl (sd b) = lv (sd b)) (p9_ : 1 ≤ lv (sd b)) (p10_ : tk (nm (sd b)) = 1) (p11_ : cw (nm (sd b)) = -1) (p12_ : st (sd (op a)) ≠ 1) (p13_ : dl (sd (op a)) = lv (sd (op a))) (p14_ : dl (sd (op a)) = lv (sd b)) (p15_ : dn (sd (op a)) = nm (sd b)) (p16_ : en a = 1) (p17_ : en (op a) = 1) (p18_ : cl (ed a) ≤ lv (sd b)) (p19_ : a ≠ b) (p20_ : b ≠ -1) (p21_ : ∀ j, 0 ≤ j → j < nL → wh j ≠ 2 → kd j = 6 → nm (sd (op (wy j))) ≠ nm (sd b)) (p22_ : ∀ j, 0 ≤ j → j < nL → wh j ≠ 2 → kd j = 5 → wy j ≠ op a) (p23_ : tow (sd b) = (ed b)) (p24_ : om (sd b) ≠ (ed b)) (p25_ : nm (sd b) ≠ (ed b)) (p26_ : nm (sd b) = ed a → tk (ed a) = 1) (p27_ : en b = 1) (p28_ : om (sd (op b)) = (ed b)) (p29_ : inw (sd (op b)) = (ed b)) (p30_ : ps (sd (op b)) = 0) (p31_ : dl (sd (op b)) = lv (sd (op b))) (p32_ : lv (sd (op b)) = lv (sd b)) (p33_ : nm (sd (op b)) = nm (sd b)) (p34_ : st (sd (op b)) = 2) (p35_ : tow (sd (op b)) ≠ -1) (p36_ : 0 ≤ nL) (cN2e : pj_N2e W sd ed om) : pj_N2e W sd ed (pu om (sd b) (ed b)) := by
  obtain ⟨hop, hed⟩ := hG
  unfold pj_N2e at *
  intro n0
  simp only [pu]
  have g0 := hop b
  have g1 := hop a
  have g2 := hed b a
  have cN2e_0 := cN2e (sd (op b))
  have cN2e_1 := cN2e (sd (op a))
  have cN2e_2 := cN2e n0
  have cN2e_3 := cN2e (sd b)
  have cN2e_4 := cN2e (sd a)
  have f0 := p0_ b
  have f1 := p0_ a
  have f2 := p0_ (op b)
  clear p0_ p21_ p22_
  clear hop hed cN2e
  grind (splits := 24)

set_option maxHeartbeats 1000000 in
theorem pt_ca_N2b {W : Int → Prop} {sd : Int → Int} {op : Int → Int} {ed : Int → Int} {st : Int → Int} {lv : Int → Int} {nm : Int → Int} {inw : Int → Int} {tow : Int → Int} {om : Int → Int} {ps : Int → Int} {dl : Int → Int} {dn : Int → Int} {en : Int → Int} {cl : Int → Int} {cw : Int → Int} {tk : Int → Int} {nL : Int} {kd : Int → Int} {wy : Int → Int} {wh : Int → Int} {F : Int → Prop} {a b : Int} (hG : pj_G W sd op ed) (p0_ : ∀ v, ¬ F v) (p1_ : W b) (p2_ : W a) (p3_ : sd a = (sd b)) (p4_ : om (sd b) = ed a) (p5_ : om (sd (op a)) = ed a) (p6_ : st (sd b) = 2) (p7_ : ps (sd b) = 0) (p8_ : dl (sd b) = lv (sd b)) (p9_ : 1 ≤ lv (sd b)) (p10_ : tk (nm (sd b)) = 1) (p11_ : cw (nm (sd b)) = -1) (p12_ : st (sd (op a)) ≠ 1) (p13_ : dl (sd (op a)) = lv (sd (op a))) (p14_ : dl (sd (op a)) = lv (sd b)) (p15_ : dn (sd (op a)) = nm (sd b)) (p16_ : en a = 1) (p17_ : en (op a) = 1) (p18_ : cl (ed a) ≤ lv (sd b)) (p19_ : a ≠ b) (p20_ : b ≠ -1) (p21_ : ∀ j, 0 ≤ j → j < nL → wh j ≠ 2 → kd j = 6 → nm (sd (op (wy j))) ≠ nm (sd b)) (p22_ : ∀ j, 0 ≤ j → j < nL → wh j ≠ 2 → kd j = 5 → wy j ≠ op a) (p23_ : tow (sd b) = (ed b)) (p24_ : om (sd b) ≠ (ed b)) (p25_ : nm (sd b) ≠ (ed b)) (p26_ : nm (sd b) = ed a → tk (ed a) = 1) (p27_ : en b = 1) (p28_ : om (sd (op b)) = (ed b)) (p29_ : inw (sd (op b)) = (ed b)) (p30_ : ps (sd (op b)) = 0) (p31_ : dl (sd (op b)) = lv (sd (op b))) (p32_ : lv (sd (op b)) = lv (sd b)) (p33_ : nm (sd (op b)) = nm (sd b)) (p34_ : st (sd (op b)) = 2) (p35_ : tow (sd (op b)) ≠ -1) (p36_ : 0 ≤ nL) (cN2b : pj_N2b W sd st om) : pj_N2b W sd st (pu om (sd b) (ed b)) := by
  obtain ⟨hop, hed⟩ := hG
  unfold pj_N2b at *
  intro w0
  simp only [pu]
  have g0 := hop b
  have g1 := hop a
  have g2 := hop w0
  have g3 := hed b a
  have g4 := hed b w0
  have g5 := hed a w0
  have cN2b_0 := cN2b b
  have cN2b_1 := cN2b a
  have cN2b_2 := cN2b w0
  have cN2b_3 := cN2b (op w0)
  have f0 := p0_ b
  have f1 := p0_ a
  have f2 := p0_ w0
  have f3 := p0_ (op w0)
  have f4 := p0_ (op b)
  clear p0_ p21_ p22_
  clear hop hed cN2b
  grind (splits := 24)

set_option maxHeartbeats 1000000 in
theorem pt_ca_N4b {W : Int → Prop} {sd : Int → Int} {op : Int → Int} {ed : Int → Int} {st : Int → Int} {lv : Int → Int} {nm : Int → Int} {inw : Int → Int} {tow : Int → Int} {bst : Int → Int} {om : Int → Int} {ps : Int → Int} {dl : Int → Int} {dn : Int → Int} {en : Int → Int} {cl : Int → Int} {cw : Int → Int} {tk : Int → Int} {nL : Int} {kd : Int → Int} {wy : Int → Int} {wh : Int → Int} {F : Int → Prop} {a b : Int} (hG : pj_G W sd op ed) (p0_ : ∀ v, ¬ F v) (p1_ : W b) (p2_ : W a) (p3_ : sd a = (sd b)) (p4_ : om (sd b) = ed a) (p5_ : om (sd (op a)) = ed a) (p6_ : st (sd b) = 2) (p7_ : ps (sd b) = 0) (p8_ : dl (sd b) = lv (sd b)) (p9_ : 1 ≤ lv (sd b)) (p10_ : tk (nm (sd b)) = 1) (p11_ : cw (nm (sd b)) = -1) (p12_ : st (sd (op a)) ≠ 1) (p13_ : dl (sd (op a)) = lv (sd (op a))) (p14_ : dl (sd (op a)) = lv (sd b)) (p15_ : dn (sd (op a)) = nm (sd b)) (p16_ : en a = 1) (p17_ : en (op a) = 1) (p18_ : cl (ed a) ≤ lv (sd b)) (p19_ : a ≠ b) (p20_ : b ≠ -1) (p21_ : ∀ j, 0 ≤ j → j < nL → wh j ≠ 2 → kd j = 6 → nm (sd (op (wy j))) ≠ nm (sd b)) (p22_ : ∀ j, 0 ≤ j → j < nL → wh j ≠ 2 → kd j = 5 → wy j ≠ op a) (p23_ : tow (sd b) = (ed b)) (p24_ : om (sd b) ≠ (ed b)) (p25_ : nm (sd b) ≠ (ed b)) (p26_ : nm (sd b) = ed a → tk (ed a) = 1) (p27_ : en b = 1) (p28_ : om (sd (op b)) = (ed b)) (p29_ : inw (sd (op b)) = (ed b)) (p30_ : ps (sd (op b)) = 0) (p31_ : dl (sd (op b)) = lv (sd (op b))) (p32_ : lv (sd (op b)) = lv (sd b)) (p33_ : nm (sd (op b)) = nm (sd b)) (p34_ : st (sd (op b)) = 2) (p35_ : tow (sd (op b)) ≠ -1) (p36_ : 0 ≤ nL) (cN4b : pj_N4b st lv nm inw tow bst om ps) : pj_N4b st lv nm inw tow bst (pu om (sd b) (ed b)) (pu ps (sd b) 1) := by
  obtain ⟨hop, hed⟩ := hG
  unfold pj_N4b at *
  intro n0
  simp only [pu]
  have g0 := hop b
  have g1 := hop a
  have g2 := hed b a
  have cN4b_0 := cN4b (sd (op b))
  have cN4b_1 := cN4b (sd (op a))
  have cN4b_2 := cN4b n0
  have cN4b_3 := cN4b (sd b)
  have cN4b_4 := cN4b (sd a)
  have f0 := p0_ b
  have f1 := p0_ a
  have f2 := p0_ (op b)
  clear p0_ p21_ p22_
  clear hop hed cN4b
  grind (splits := 24)

set_option maxHeartbeats 1000000 in
theorem pt_ca_N5 {W : Int → Prop} {sd : Int → Int} {op : Int → Int} {ed : Int → Int} {st : Int → Int} {lv : Int → Int} {nm : Int → Int} {inw : Int → Int} {tow : Int → Int} {om : Int → Int} {ps : Int → Int} {dl : Int → Int} {dn : Int → Int} {en : Int → Int} {cl : Int → Int} {cw : Int → Int} {tk : Int → Int} {nL : Int} {kd : Int → Int} {wy : Int → Int} {wh : Int → Int} {F : Int → Prop} {a b : Int} (hG : pj_G W sd op ed) (p0_ : ∀ v, ¬ F v) (p1_ : W b) (p2_ : W a) (p3_ : sd a = (sd b)) (p4_ : om (sd b) = ed a) (p5_ : om (sd (op a)) = ed a) (p6_ : st (sd b) = 2) (p7_ : ps (sd b) = 0) (p8_ : dl (sd b) = lv (sd b)) (p9_ : 1 ≤ lv (sd b)) (p10_ : tk (nm (sd b)) = 1) (p11_ : cw (nm (sd b)) = -1) (p12_ : st (sd (op a)) ≠ 1) (p13_ : dl (sd (op a)) = lv (sd (op a))) (p14_ : dl (sd (op a)) = lv (sd b)) (p15_ : dn (sd (op a)) = nm (sd b)) (p16_ : en a = 1) (p17_ : en (op a) = 1) (p18_ : cl (ed a) ≤ lv (sd b)) (p19_ : a ≠ b) (p20_ : b ≠ -1) (p21_ : ∀ j, 0 ≤ j → j < nL → wh j ≠ 2 → kd j = 6 → nm (sd (op (wy j))) ≠ nm (sd b)) (p22_ : ∀ j, 0 ≤ j → j < nL → wh j ≠ 2 → kd j = 5 → wy j ≠ op a) (p23_ : tow (sd b) = (ed b)) (p24_ : om (sd b) ≠ (ed b)) (p25_ : nm (sd b) ≠ (ed b)) (p26_ : nm (sd b) = ed a → tk (ed a) = 1) (p27_ : en b = 1) (p28_ : om (sd (op b)) = (ed b)) (p29_ : inw (sd (op b)) = (ed b)) (p30_ : ps (sd (op b)) = 0) (p31_ : dl (sd (op b)) = lv (sd (op b))) (p32_ : lv (sd (op b)) = lv (sd b)) (p33_ : nm (sd (op b)) = nm (sd b)) (p34_ : st (sd (op b)) = 2) (p35_ : tow (sd (op b)) ≠ -1) (p36_ : 0 ≤ nL) (cN5 : pj_N5 lv inw om ps) : pj_N5 lv inw (pu om (sd b) (ed b)) (pu ps (sd b) 1) := by
  obtain ⟨hop, hed⟩ := hG
  unfold pj_N5 at *
  intro n0
  simp only [pu]
  have g0 := hop b
  have g1 := hop a
  have g2 := hed b a
  have cN5_0 := cN5 (sd (op b))
  have cN5_1 := cN5 (sd (op a))
  have cN5_2 := cN5 n0
  have cN5_3 := cN5 (sd b)
  have cN5_4 := cN5 (sd a)
  have f0 := p0_ b
  have f1 := p0_ a
  have f2 := p0_ (op b)
  clear p0_ p21_ p22_
  clear hop hed cN5
  grind (splits := 24)

set_option maxHeartbeats 1000000 in
theorem pt_ca_E1 {W : Int → Prop} {sd : Int → Int} {op : Int → Int} {ed : Int → Int} {st : Int → Int} {lv : Int → Int} {nm : Int → Int} {inw : Int → Int} {tow : Int → Int} {om : Int → Int} {ps : Int → Int} {dl : Int → Int} {dn : Int → Int} {en : Int → Int} {cl : Int → Int} {cw : Int → Int} {tk : Int → Int} {nL : Int} {kd : Int → Int} {wy : Int → Int} {ll : Int → Int} {wh : Int → Int} {F : Int → Prop} {a b : Int} (hG : pj_G W sd op ed) (p0_ : ∀ v, ¬ F v) (p1_ : W b) (p2_ : W a) (p3_ : sd a = (sd b)) (p4_ : om (sd b) = ed a) (p5_ : om (sd (op a)) = ed a) (p6_ : st (sd b) = 2) (p7_ : ps (sd b) = 0) (p8_ : dl (sd b) = lv (sd b)) (p9_ : 1 ≤ lv (sd b)) (p10_ : tk (nm (sd b)) = 1) (p11_ : cw (nm (sd b)) = -1) (p12_ : st (sd (op a)) ≠ 1) (p13_ : dl (sd (op a)) = lv (sd (op a))) (p14_ : dl (sd (op a)) = lv (sd b)) (p15_ : dn (sd (op a)) = nm (sd b)) (p16_ : en a = 1) (p17_ : en (op a) = 1) (p18_ : cl (ed a) ≤ lv (sd b)) (p19_ : a ≠ b) (p20_ : b ≠ -1) (p21_ : ∀ j, 0 ≤ j → j < nL → wh j ≠ 2 → kd j = 6 → nm (sd (op (wy j))) ≠ nm (sd b)) (p22_ : ∀ j, 0 ≤ j → j < nL → wh j ≠ 2 → kd j = 5 → wy j ≠ op a) (p23_ : tow (sd b) = (ed b)) (p24_ : om (sd b) ≠ (ed b)) (p25_ : nm (sd b) ≠ (ed b)) (p26_ : nm (sd b) = ed a → tk (ed a) = 1) (p27_ : en b = 1) (p28_ : om (sd (op b)) = (ed b)) (p29_ : inw (sd (op b)) = (ed b)) (p30_ : ps (sd (op b)) = 0) (p31_ : dl (sd (op b)) = lv (sd (op b))) (p32_ : lv (sd (op b)) = lv (sd b)) (p33_ : nm (sd (op b)) = nm (sd b)) (p34_ : st (sd (op b)) = 2) (p35_ : tow (sd (op b)) ≠ -1) (p36_ : 0 ≤ nL) (cE1 : pj_E1 sd op lv dl nL kd wy ll wh) : pj_E1 sd op lv dl (nL + 1) (pu kd nL 6) (pu wy nL b) (pu ll nL (-1)) (pu wh nL 0) := by
  obtain ⟨hop, hed⟩ := hG
  unfold pj_E1 at *
  intro n0
  simp only [pu]
  have g0 := hop b
  have g1 := hop a
  have g2 := hed b a
  have cE1_0 := cE1 (sd (op b))
  have cE1_1 := cE1 (sd (op a))
  have cE1_2 := cE1 n0
  have cE1_3 := cE1 (sd b)
  have cE1_4 := cE1 (sd a)
  have f0 := p0_ b
  have f1 := p0_ a
  have f2 := p0_ (op b)
  clear p0_ p21_ p22_
  clear hop hed cE1
  grind (splits := 24)

set_option maxHeartbeats 1000000 in
theorem pt_ca_U {W : Int → Prop} {sd : Int → Int} {op : Int → Int} {ed : Int → Int} {st : Int → Int} {lv : Int → Int} {nm : Int → Int} {inw : Int → Int} {tow : Int → Int} {om : Int → Int} {ps : Int → Int} {dl : Int → Int} {dn : Int → Int} {en : Int → Int} {cl : Int → Int} {cw : Int → Int} {tk : Int → Int} {nL : Int} {kd : Int → Int} {wy : Int → Int} {wh : Int → Int} {F : Int → Prop} {a b : Int} (hG : pj_G W sd op ed) (p0_ : ∀ v, ¬ F v) (p1_ : W b) (p2_ : W a) (p3_ : sd a = (sd b)) (p4_ : om (sd b) = ed a) (p5_ : om (sd (op a)) = ed a) (p6_ : st (sd b) = 2) (p7_ : ps (sd b) = 0) (p8_ : dl (sd b) = lv (sd b)) (p9_ : 1 ≤ lv (sd b)) (p10_ : tk (nm (sd b)) = 1) (p11_ : cw (nm (sd b)) = -1) (p12_ : st (sd (op a)) ≠ 1) (p13_ : dl (sd (op a)) = lv (sd (op a))) (p14_ : dl (sd (op a)) = lv (sd b)) (p15_ : dn (sd (op a)) = nm (sd b)) (p16_ : en a = 1) (p17_ : en (op a) = 1) (p18_ : cl (ed a) ≤ lv (sd b)) (p19_ : a ≠ b) (p20_ : b ≠ -1) (p21_ : ∀ j, 0 ≤ j → j < nL → wh j ≠ 2 → kd j = 6 → nm (sd (op (wy j))) ≠ nm (sd b)) (p22_ : ∀ j, 0 ≤ j → j < nL → wh j ≠ 2 → kd j = 5 → wy j ≠ op a) (p23_ : tow (sd b) = (ed b)) (p24_ : om (sd b) ≠ (ed b)) (p25_ : nm (sd b) ≠ (ed b)) (p26_ : nm (sd b) = ed a → tk (ed a) = 1) (p27_ : en b = 1) (p28_ : om (sd (op b)) = (ed b)) (p29_ : inw (sd (op b)) = (ed b)) (p30_ : ps (sd (op b)) = 0) (p31_ : dl (sd (op b)) = lv (sd (op b))) (p32_ : lv (sd (op b)) = lv (sd b)) (p33_ : nm (sd (op b)) = nm (sd b)) (p34_ : st (sd (op b)) = 2) (p35_ : tow (sd (op b)) ≠ -1) (p36_ : 0 ≤ nL) (cU : pj_U W sd op ed lv nm om ps dl en cl) (cN2 : pj_N2 W sd ed om en) : pj_U W sd op ed lv nm (pu om (sd b) (ed b)) (pu ps (sd b) 1) dl en cl := by
  obtain ⟨hop, hed⟩ := hG
  unfold pj_U pj_N2 at *
  intro w0
  simp only [pu]
  have g0 := hop b
  have g1 := hop a
  have g2 := hop w0
  have g3 := hed b a
  have g4 := hed b w0
  have g5 := hed a w0
  have cU_0 := cU b
  have cU_1 := cU a
  have cU_2 := cU w0
  have cU_3 := cU (op w0)
  have cN2_0 := cN2 b
  have cN2_1 := cN2 a
  have cN2_2 := cN2 w0
  have cN2_3 := cN2 (op w0)
  have f0 := p0_ b
  have f1 := p0_ a
  have f2 := p0_ w0
  have f3 := p0_ (op w0)
  have f4 := p0_ (op b)
  clear p0_ p21_ p22_
  clear hop hed cU cN2
  grind (splits := 24)

set_option maxHeartbeats 1000000 in
theorem pt_ca_A1 {W : Int → Prop} {sd : Int → Int} {op : Int → Int} {ed : Int → Int} {st : Int → Int} {lv : Int → Int} {nm : Int → Int} {inw : Int → Int} {tow : Int → Int} {om : Int → Int} {ps : Int → Int} {dl : Int → Int} {dn : Int → Int} {en : Int → Int} {cl : Int → Int} {cw : Int → Int} {tk : Int → Int} {nL : Int} {kd : Int → Int} {wy : Int → Int} {wh : Int → Int} {F : Int → Prop} {fl : Int} {fc : Int} {a b : Int} (hG : pj_G W sd op ed) (p0_ : ∀ v, ¬ F v) (p1_ : W b) (p2_ : W a) (p3_ : sd a = (sd b)) (p4_ : om (sd b) = ed a) (p5_ : om (sd (op a)) = ed a) (p6_ : st (sd b) = 2) (p7_ : ps (sd b) = 0) (p8_ : dl (sd b) = lv (sd b)) (p9_ : 1 ≤ lv (sd b)) (p10_ : tk (nm (sd b)) = 1) (p11_ : cw (nm (sd b)) = -1) (p12_ : st (sd (op a)) ≠ 1) (p13_ : dl (sd (op a)) = lv (sd (op a))) (p14_ : dl (sd (op a)) = lv (sd b)) (p15_ : dn (sd (op a)) = nm (sd b)) (p16_ : en a = 1) (p17_ : en (op a) = 1) (p18_ : cl (ed a) ≤ lv (sd b)) (p19_ : a ≠ b) (p20_ : b ≠ -1) (p21_ : ∀ j, 0 ≤ j → j < nL → wh j ≠ 2 → kd j = 6 → nm (sd (op (wy j))) ≠ nm (sd b)) (p22_ : ∀ j, 0 ≤ j → j < nL → wh j ≠ 2 → kd j = 5 → wy j ≠ op a) (p23_ : tow (sd b) = (ed b)) (p24_ : om (sd b) ≠ (ed b)) (p25_ : nm (sd b) ≠ (ed b)) (p26_ : nm (sd b) = ed a → tk (ed a) = 1) (p27_ : en b = 1) (p28_ : om (sd (op b)) = (ed b)) (p29_ : inw (sd (op b)) = (ed b)) (p30_ : ps (sd (op b)) = 0) (p31_ : dl (sd (op b)) = lv (sd (op b))) (p32_ : lv (sd (op b)) = lv (sd b)) (p33_ : nm (sd (op b)) = nm (sd b)) (p34_ : st (sd (op b)) = 2) (p35_ : tow (sd (op b)) ≠ -1) (p36_ : 0 ≤ nL) (cA1 : pj_A1 W sd op ed lv nm om dl dn en F fl fc) : pj_A1 W sd op ed lv nm (pu om (sd b) (ed b)) dl dn en F fl fc := by
  obtain ⟨hop, hed⟩ := hG
  unfold pj_A1 at *
  intro w0
  simp only [pu]
  have g0 := hop b
  have g1 := hop a
  have g2 := hop w0
  have g3 := hed b a
  have g4 := hed b w0
  have g5 := hed a w0
  have cA1_0 := cA1 b
  have cA1_1 := cA1 a
  have cA1_2 := cA1 w0
  have cA1_3 := cA1 (op w0)
  have f0 := p0_ b
  have f1 := p0_ a
  have f2 := p0_ w0
  have f3 := p0_ (op w0)
  have f4 := p0_ (op b)
  clear p0_ p21_ p22_
  clear hop hed cA1
  grind (splits := 24)

set_option maxHeartbeats 1000000 in
theorem pt_ca_A2 {W : Int → Prop} {sd : Int → Int} {op : Int → Int} {ed : Int → Int} {st : Int → Int} {lv : Int → Int} {nm : Int → Int} {inw : Int → Int} {tow : Int → Int} {om : Int → Int} {ps : Int → Int} {dl : Int → Int} {dn : Int → Int} {en : Int → Int} {cl : Int → Int} {cw : Int → Int} {tk : Int → Int} {nL : Int} {kd : Int → Int} {wy : Int → Int} {wh : Int → Int} {F : Int → Prop} {a b : Int} (hG : pj_G W sd op ed) (p0_ : ∀ v, ¬ F v) (p1_ : W b) (p2_ : W a) (p3_ : sd a = (sd b)) (p4_ : om (sd b) = ed a) (p5_ : om (sd (op a)) = ed a) (p6_ : st (sd b) = 2) (p7_ : ps (sd b) = 0) (p8_ : dl (sd b) = lv (sd b)) (p9_ : 1 ≤ lv (sd b)) (p10_ : tk (nm (sd b)) = 1) (p11_ : cw (nm (sd b)) = -1) (p12_ : st (sd (op a)) ≠ 1) (p13_ : dl (sd (op a)) = lv (sd (op a))) (p14_ : dl (sd (op a)) = lv (sd b)) (p15_ : dn (sd (op a)) = nm (sd b)) (p16_ : en a = 1) (p17_ : en (op a) = 1) (p18_ : cl (ed a) ≤ lv (sd b)) (p19_ : a ≠ b) (p20_ : b ≠ -1) (p21_ : ∀ j, 0 ≤ j → j < nL → wh j ≠ 2 → kd j = 6 → nm (sd (op (wy j))) ≠ nm (sd b)) (p22_ : ∀ j, 0 ≤ j → j < nL → wh j ≠ 2 → kd j = 5 → wy j ≠ op a) (p23_ : tow (sd b) = (ed b)) (p24_ : om (sd b) ≠ (ed b)) (p25_ : nm (sd b) ≠ (ed b)) (p26_ : nm (sd b) = ed a → tk (ed a) = 1) (p27_ : en b = 1) (p28_ : om (sd (op b)) = (ed b)) (p29_ : inw (sd (op b)) = (ed b)) (p30_ : ps (sd (op b)) = 0) (p31_ : dl (sd (op b)) = lv (sd (op b))) (p32_ : lv (sd (op b)) = lv (sd b)) (p33_ : nm (sd (op b)) = nm (sd b)) (p34_ : st (sd (op b)) = 2) (p35_ : tow (sd (op b)) ≠ -1) (p36_ : 0 ≤ nL) (cA2 : pj_A2 W sd op ed st lv nm om ps dl dn cl) (cCD : pj_CD W sd op ed om dl cl) : pj_A2 W sd op ed st lv nm (pu om (sd b) (ed b)) (pu ps (sd b) 1) dl dn cl := by
  obtain ⟨hop, hed⟩ := hG
  unfold pj_A2 pj_CD at *
  intro w0
  simp only [pu]
  have g0 := hop b
  have g1 := hop a
  have g2 := hop w0
  have g3 := hed b a
  have g4 := hed b w0
  have g5 := hed a w0
  have cA2_0 := cA2 b
  have cA2_1 := cA2 a
  have cA2_2 := cA2 w0
  have cA2_3 := cA2 (op w0)
  have cCD_0 := cCD b
  have cCD_1 := cCD a
  have cCD_2 := cCD w0
  have cCD_3 := cCD (op w0)
  have f0 := p0_ b
  have f1 := p0_ a
  have f2 := p0_ w0
  have f3 := p0_ (op w0)
  have f4 := p0_ (op b)
  clear p0_ p21_ p22_
  clear hop hed cA2 cCD
  grind (splits := 24)

set_option maxHeartbeats 1000000 in
theorem pt_ca_EC {W : Int → Prop} {sd : Int → Int} {op : Int → Int} {ed : Int → Int} {st : Int → Int} {lv : Int → Int} {nm : Int → Int} {inw : Int → Int} {tow : Int → Int} {om : Int → Int} {ps : Int → Int} {dl : Int → Int} {dn : Int → Int} {en : Int → Int} {cl : Int → Int} {cw : Int → Int} {tk : Int → Int} {nL : Int} {kd : Int → Int} {wy : Int → Int} {wh : Int → Int} {F : Int → Prop} {a b : Int} (hG : pj_G W sd op ed) (p0_ : ∀ v, ¬ F v) (p1_ : W b) (p2_ : W a) (p3_ : sd a = (sd b)) (p4_ : om (sd b) = ed a) (p5_ : om (sd (op a)) = ed a) (p6_ : st (sd b) = 2) (p7_ : ps (sd b) = 0) (p8_ : dl (sd b) = lv (sd b)) (p9_ : 1 ≤ lv (sd b)) (p10_ : tk (nm (sd b)) = 1) (p11_ : cw (nm (sd b)) = -1) (p12_ : st (sd (op a)) ≠ 1) (p13_ : dl (sd (op a)) = lv (sd (op a))) (p14_ : dl (sd (op a)) = lv (sd b)) (p15_ : dn (sd (op a)) = nm (sd b)) (p16_ : en a = 1) (p17_ : en (op a) = 1) (p18_ : cl (ed a) ≤ lv (sd b)) (p19_ : a ≠ b) (p20_ : b ≠ -1) (p21_ : ∀ j, 0 ≤ j → j < nL → wh j ≠ 2 → kd j = 6 → nm (sd (op (wy j))) ≠ nm (sd b)) (p22_ : ∀ j, 0 ≤ j → j < nL → wh j ≠ 2 → kd j = 5 → wy j ≠ op a) (p23_ : tow (sd b) = (ed b)) (p24_ : om (sd b) ≠ (ed b)) (p25_ : nm (sd b) ≠ (ed b)) (p26_ : nm (sd b) = ed a → tk (ed a) = 1) (p27_ : en b = 1) (p28_ : om (sd (op b)) = (ed b)) (p29_ : inw (sd (op b)) = (ed b)) (p30_ : ps (sd (op b)) = 0) (p31_ : dl (sd (op b)) = lv (sd (op b))) (p32_ : lv (sd (op b)) = lv (sd b)) (p33_ : nm (sd (op b)) = nm (sd b)) (p34_ : st (sd (op b)) = 2) (p35_ : tow (sd (op b)) ≠ -1) (p36_ : 0 ≤ nL) (cEC : pj_EC W sd op ed lv nm om ps dl nL kd wy wh F) : pj_EC W sd op ed lv nm (pu om (sd b) (ed b)) (pu ps (sd b) 1) dl (nL + 1) (pu kd nL 6) (pu wy nL b) (pu wh nL 0) F := by
  obtain ⟨hop, hed⟩ := hG
  unfold pj_EC at *
  intro w0
  simp only [pu]
  have g0 := hop b
  have g1 := hop a
  have g2 := hop w0
  have g3 := hed b a
  have g4 := hed b w0
  have g5 := hed a w0
  have cEC_0 := cEC b
  have cEC_1 := cEC a
  have cEC_2 := cEC w0
  have cEC_3 := cEC (op w0)
  have f0 := p0_ b
  have f1 := p0_ a
  have f2 := p0_ w0
  have f3 := p0_ (op w0)
  have f4 := p0_ (op b)
  clear p0_ p21_ p22_
  clear hop hed cEC
  grind (splits := 24)

set_option maxHeartbeats 1000000 in
theorem pt_ca_R3 {W : Int → Prop} {sd : Int → Int} {op : Int → Int} {ed : Int → Int} {st : Int → Int} {lv : Int → Int} {nm : Int → Int} {inw : Int → Int} {tow : Int → Int} {om : Int → Int} {ps : Int → Int} {dl : Int → Int} {dn : Int → Int} {en : Int → Int} {pd : Int → Int} {cl : Int → Int} {cw : Int → Int} {tk : Int → Int} {nL : Int} {kd : Int → Int} {wy : Int → Int} {wh : Int → Int} {F : Int → Prop} {a b : Int} (hG : pj_G W sd op ed) (p0_ : ∀ v, ¬ F v) (p1_ : W b) (p2_ : W a) (p3_ : sd a = (sd b)) (p4_ : om (sd b) = ed a) (p5_ : om (sd (op a)) = ed a) (p6_ : st (sd b) = 2) (p7_ : ps (sd b) = 0) (p8_ : dl (sd b) = lv (sd b)) (p9_ : 1 ≤ lv (sd b)) (p10_ : tk (nm (sd b)) = 1) (p11_ : cw (nm (sd b)) = -1) (p12_ : st (sd (op a)) ≠ 1) (p13_ : dl (sd (op a)) = lv (sd (op a))) (p14_ : dl (sd (op a)) = lv (sd b)) (p15_ : dn (sd (op a)) = nm (sd b)) (p16_ : en a = 1) (p17_ : en (op a) = 1) (p18_ : cl (ed a) ≤ lv (sd b)) (p19_ : a ≠ b) (p20_ : b ≠ -1) (p21_ : ∀ j, 0 ≤ j → j < nL → wh j ≠ 2 → kd j = 6 → nm (sd (op (wy j))) ≠ nm (sd b)) (p22_ : ∀ j, 0 ≤ j → j < nL → wh j ≠ 2 → kd j = 5 → wy j ≠ op a) (p23_ : tow (sd b) = (ed b)) (p24_ : om (sd b) ≠ (ed b)) (p25_ : nm (sd b) ≠ (ed b)) (p26_ : nm (sd b) = ed a → tk (ed a) = 1) (p27_ : en b = 1) (p28_ : om (sd (op b)) = (ed b)) (p29_ : inw (sd (op b)) = (ed b)) (p30_ : ps (sd (op b)) = 0) (p31_ : dl (sd (op b)) = lv (sd (op b))) (p32_ : lv (sd (op b)) = lv (sd b)) (p33_ : nm (sd (op b)) = nm (sd b)) (p34_ : st (sd (op b)) = 2) (p35_ : tow (sd (op b)) ≠ -1) (p36_ : 0 ≤ nL) (cR3 : pj_R3 W sd op ed st om pd) : pj_R3 W sd op ed st (pu om (sd b) (ed b)) pd := by
  obtain ⟨hop, hed⟩ := hG
  unfold pj_R3 at *
  intro w0
  simp only [pu]
  have g0 := hop b
  have g1 := hop a
  have g2 := hop w0
  have g3 := hed b a
  have g4 := hed b w0
  have g5 := hed a w0
  have cR3_0 := cR3 b
  have cR3_1 := cR3 a
  have cR3_2 := cR3 w0
  have cR3_3 := cR3 (op w0)
  have f0 := p0_ b
  have f1 := p0_ a
  have f2 := p0_ w0
  have f3 := p0_ (op w0)
  have f4 := p0_ (op b)
  clear p0_ p21_ p22_
  clear hop hed cR3
  grind (splits := 24)

set_option maxHeartbeats 1000000 in
theorem pt_ca_N11 {W : Int → Prop} {sd : Int → Int} {op : Int → Int} {ed : Int → Int} {st : Int → Int} {lv : Int → Int} {nm : Int → Int} {inw : Int → Int} {tow : Int → Int} {tst : Int → Int} {om : Int → Int} {ps : Int → Int} {dl : Int → Int} {dn : Int → Int} {en : Int → Int} {cl : Int → Int} {cw : Int → Int} {tk : Int → Int} {nL : Int} {kd : Int → Int} {wy : Int → Int} {wh : Int → Int} {F : Int → Prop} {a b : Int} (hG : pj_G W sd op ed) (p0_ : ∀ v, ¬ F v) (p1_ : W b) (p2_ : W a) (p3_ : sd a = (sd b)) (p4_ : om (sd b) = ed a) (p5_ : om (sd (op a)) = ed a) (p6_ : st (sd b) = 2) (p7_ : ps (sd b) = 0) (p8_ : dl (sd b) = lv (sd b)) (p9_ : 1 ≤ lv (sd b)) (p10_ : tk (nm (sd b)) = 1) (p11_ : cw (nm (sd b)) = -1) (p12_ : st (sd (op a)) ≠ 1) (p13_ : dl (sd (op a)) = lv (sd (op a))) (p14_ : dl (sd (op a)) = lv (sd b)) (p15_ : dn (sd (op a)) = nm (sd b)) (p16_ : en a = 1) (p17_ : en (op a) = 1) (p18_ : cl (ed a) ≤ lv (sd b)) (p19_ : a ≠ b) (p20_ : b ≠ -1) (p21_ : ∀ j, 0 ≤ j → j < nL → wh j ≠ 2 → kd j = 6 → nm (sd (op (wy j))) ≠ nm (sd b)) (p22_ : ∀ j, 0 ≤ j → j < nL → wh j ≠ 2 → kd j = 5 → wy j ≠ op a) (p23_ : tow (sd b) = (ed b)) (p24_ : om (sd b) ≠ (ed b)) (p25_ : nm (sd b) ≠ (ed b)) (p26_ : nm (sd b) = ed a → tk (ed a) = 1) (p27_ : en b = 1) (p28_ : om (sd (op b)) = (ed b)) (p29_ : inw (sd (op b)) = (ed b)) (p30_ : ps (sd (op b)) = 0) (p31_ : dl (sd (op b)) = lv (sd (op b))) (p32_ : lv (sd (op b)) = lv (sd b)) (p33_ : nm (sd (op b)) = nm (sd b)) (p34_ : st (sd (op b)) = 2) (p35_ : tow (sd (op b)) ≠ -1) (p36_ : 0 ≤ nL) (cN11 : pj_N11 W sd op ed lv nm tow tst ps en) : pj_N11 W sd op ed lv nm tow tst (pu ps (sd b) 1) en := by
  obtain ⟨hop, hed⟩ := hG
  unfold pj_N11 at *
  intro w0
  simp only [pu]
  have g0 := hop b
  have g1 := hop a
  have g2 := hop w0
  have g3 := hed b a
  have g4 := hed b w0
  have g5 := hed a w0
  have cN11_0 := cN11 b
  have cN11_1 := cN11 a
  have cN11_2 := cN11 w0
  have cN11_3 := cN11 (op w0)
  have f0 := p0_ b
  have f1 := p0_ a
  have f2 := p0_ w0
  have f3 := p0_ (op w0)
  have f4 := p0_ (op b)
  clear p0_ p21_ p22_
  clear hop hed cN11
  grind (splits := 24)

set_option maxHeartbeats 1000000 in
theorem pt_ca_N12 {W : Int → Prop} {sd : Int → Int} {op : Int → Int} {ed : Int → Int} {st : Int → Int} {lv : Int → Int} {nm : Int → Int} {inw : Int → Int} {tow : Int → Int} {om : Int → Int} {ps : Int → Int} {dl : Int → Int} {dn : Int → Int} {en : Int → Int} {cl : Int → Int} {cw : Int → Int} {tk : Int → Int} {nL : Int} {kd : Int → Int} {wy : Int → Int} {wh : Int → Int} {F : Int → Prop} {a b : Int} (hG : pj_G W sd op ed) (p0_ : ∀ v, ¬ F v) (p1_ : W b) (p2_ : W a) (p3_ : sd a = (sd b)) (p4_ : om (sd b) = ed a) (p5_ : om (sd (op a)) = ed a) (p6_ : st (sd b) = 2) (p7_ : ps (sd b) = 0) (p8_ : dl (sd b) = lv (sd b)) (p9_ : 1 ≤ lv (sd b)) (p10_ : tk (nm (sd b)) = 1) (p11_ : cw (nm (sd b)) = -1) (p12_ : st (sd (op a)) ≠ 1) (p13_ : dl (sd (op a)) = lv (sd (op a))) (p14_ : dl (sd (op a)) = lv (sd b)) (p15_ : dn (sd (op a)) = nm (sd b)) (p16_ : en a = 1) (p17_ : en (op a) = 1) (p18_ : cl (ed a) ≤ lv (sd b)) (p19_ : a ≠ b) (p20_ : b ≠ -1) (p21_ : ∀ j, 0 ≤ j → j < nL → wh j ≠ 2 → kd j = 6 → nm (sd (op (wy j))) ≠ nm (sd b)) (p22_ : ∀ j, 0 ≤ j → j < nL → wh j ≠ 2 → kd j = 5 → wy j ≠ op a) (p23_ : tow (sd b) = (ed b)) (p24_ : om (sd b) ≠ (ed b)) (p25_ : nm (sd b) ≠ (ed b)) (p26_ : nm (sd b) = ed a → tk (ed a) = 1) (p27_ : en b = 1) (p28_ : om (sd (op b)) = (ed b)) (p29_ : inw (sd (op b)) = (ed b)) (p30_ : ps (sd (op b)) = 0) (p31_ : dl (sd (op b)) = lv (sd (op b))) (p32_ : lv (sd (op b)) = lv (sd b)) (p33_ : nm (sd (op b)) = nm (sd b)) (p34_ : st (sd (op b)) = 2) (p35_ : tow (sd (op b)) ≠ -1) (p36_ : 0 ≤ nL) (cN12 : pj_N12 W sd op ed st lv nm inw tow om ps dl en) : pj_N12 W sd op ed st lv nm inw tow (pu om (sd b) (ed b)) (pu ps (sd b) 1) dl en := by
  obtain ⟨hop, hed⟩ := hG
  unfold pj_N12 at *
  intro w0
  simp only [pu]
  have g0 := hop b
  have g1 := hop a
  have g2 := hop w0
  have g3 := hed b a
  have g4 := hed b w0
  have g5 := hed a w0
  have cN12_0 := cN12 b
  have cN12_1 := cN12 a
  have cN12_2 := cN12 w0
  have cN12_3 := cN12 (op w0)
  have f0 := p0_ b
  have f1 := p0_ a
  have f2 := p0_ w0
  have f3 := p0_ (op w0)
  have f4 := p0_ (op b)
  clear p0_ p21_ p22_
  clear hop hed cN12
  grind (splits := 24)

set_option maxHeartbeats 1000000 in
theorem pt_ca_N3 {W : Int → Prop} {sd : Int → Int} {op : Int → Int} {ed : Int → Int} {st : Int → Int} {lv : Int → Int} {nm : Int → Int} {inw : Int → Int} {tow : Int → Int} {om : Int → Int} {ps : Int → Int} {dl : Int → Int} {dn : Int → Int} {en : Int → Int} {cl : Int → Int} {cw : Int → Int} {tk : Int → Int} {nL : Int} {kd : Int → Int} {wy : Int → Int} {wh : Int → Int} {F : Int → Prop} {a b : Int} (hG : pj_G W sd op ed) (p0_ : ∀ v, ¬ F v) (p1_ : W b) (p2_ : W a) (p3_ : sd a = (sd b)) (p4_ : om (sd b) = ed a) (p5_ : om (sd (op a)) = ed a) (p6_ : st (sd b) = 2) (p7_ : ps (sd b) = 0) (p8_ : dl (sd b) = lv (sd b)) (p9_ : 1 ≤ lv (sd b)) (p10_ : tk (nm (sd b)) = 1) (p11_ : cw (nm (sd b)) = -1) (p12_ : st (sd (op a)) ≠ 1) (p13_ : dl (sd (op a)) = lv (sd (op a))) (p14_ : dl (sd (op a)) = lv (sd b)) (p15_ : dn (sd (op a)) = nm (sd b)) (p16_ : en a = 1) (p17_ : en (op a) = 1) (p18_ : cl (ed a) ≤ lv (sd b)) (p19_ : a ≠ b) (p20_ : b ≠ -1) (p21_ : ∀ j, 0 ≤ j → j < nL → wh j ≠ 2 → kd j = 6 → nm (sd (op (wy j))) ≠ nm (sd b)) (p22_ : ∀ j, 0 ≤ j → j < nL → wh j ≠ 2 → kd j = 5 → wy j ≠ op a) (p23_ : tow (sd b) = (ed b)) (p24_ : om (sd b) ≠ (ed b)) (p25_ : nm (sd b) ≠ (ed b)) (p26_ : nm (sd b) = ed a → tk (ed a) = 1) (p27_ : en b = 1) (p28_ : om (sd (op b)) = (ed b)) (p29_ : inw (sd (op b)) = (ed b)) (p30_ : ps (sd (op b)) = 0) (p31_ : dl (sd (op b)) = lv (sd (op b))) (p32_ : lv (sd (op b)) = lv (sd b)) (p33_ : nm (sd (op b)) = nm (sd b)) (p34_ : st (sd (op b)) = 2) (p35_ : tow (sd (op b)) ≠ -1) (p36_ : 0 ≤ nL) (cN3 : pj_N3 W sd op ed om en) : pj_N3 W sd op ed (pu om (sd b) (ed b)) en := by
  obtain ⟨hop, hed⟩ := hG
  unfold pj_N3 at *
  intro w0
  simp only [pu]
  have g0 := hop b
  have g1 := hop a
  have g2 := hop w0
  have g3 := hed b a
  have g4 := hed b w0
  have g5 := hed a w0
  have cN3_0 := cN3 b
  have cN3_1 := cN3 a
  have cN3_2 := cN3 w0
  have cN3_3 := cN3 (op w0)
  have f0 := p0_ b
  have f1 := p0_ a
  have f2 := p0_ w0
  have f3 := p0_ (op w0)
  have f4 := p0_ (op b)
  clear p0_ p21_ p22_
  clear hop hed cN3
  grind (splits := 24)

set_option maxHeartbeats 1000000 in
theorem pt_ca_PD {W : Int → Prop} {sd : Int → Int} {op : Int → Int} {ed : Int → Int} {st : Int → Int} {lv : Int → Int} {nm : Int → Int} {inw : Int → Int} {tow : Int → Int} {om : Int → Int} {ps : Int → Int} {dl : Int → Int} {dn : Int → Int} {en : Int → Int} {pd : Int → Int} {cl : Int → Int} {cw : Int → Int} {tk : Int → Int} {nL : Int} {kd : Int → Int} {wy : Int → Int} {wh : Int → Int} {F : Int → Prop} {a b : Int} (hG : pj_G W sd op ed) (p0_ : ∀ v, ¬ F v) (p1_ : W b) (p2_ : W a) (p3_ : sd a = (sd b)) (p4_ : om (sd b) = ed a) (p5_ : om (sd (op a)) = ed a) (p6_ : st (sd b) = 2) (p7_ : ps (sd b) = 0) (p8_ : dl (sd b) = lv (sd b)) (p9_ : 1 ≤ lv (sd b)) (p10_ : tk (nm (sd b)) = 1) (p11_ : cw (nm (sd b)) = -1) (p12_ : st (sd (op a)) ≠ 1) (p13_ : dl (sd (op a)) = lv (sd (op a))) (p14_ : dl (sd (op a)) = lv (sd b)) (p15_ : dn (sd (op a)) = nm (sd b)) (p16_ : en a = 1) (p17_ : en (op a) = 1) (p18_ : cl (ed a) ≤ lv (sd b)) (p19_ : a ≠ b) (p20_ : b ≠ -1) (p21_ : ∀ j, 0 ≤ j → j < nL → wh j ≠ 2 → kd j = 6 → nm (sd (op (wy j))) ≠ nm (sd b)) (p22_ : ∀ j, 0 ≤ j → j < nL → wh j ≠ 2 → kd j = 5 → wy j ≠ op a) (p23_ : tow (sd b) = (ed b)) (p24_ : om (sd b) ≠ (ed b)) (p25_ : nm (sd b) ≠ (ed b)) (p26_ : nm (sd b) = ed a → tk (ed a) = 1) (p27_ : en b = 1) (p28_ : om (sd (op b)) = (ed b)) (p29_ : inw (sd (op b)) = (ed b)) (p30_ : ps (sd (op b)) = 0) (p31_ : dl (sd (op b)) = lv (sd (op b))) (p32_ : lv (sd (op b)) = lv (sd b)) (p33_ : nm (sd (op b)) = nm (sd b)) (p34_ : st (sd (op b)) = 2) (p35_ : tow (sd (op b)) ≠ -1) (p36_ : 0 ≤ nL) (cPD : pj_PD W sd op ed st om en pd) : pj_PD W sd op ed st (pu om (sd b) (ed b)) en pd := by
  obtain ⟨hop, hed⟩ := hG
  unfold pj_PD at *
  intro w0
  simp only [pu]
  have g0 := hop b
  have g1 := hop a
  have g2 := hop w0
  have g3 := hed b a
  have g4 := hed b w0
  have g5 := hed a w0
  have cPD_0 := cPD b
  have cPD_1 := cPD a
  have cPD_2 := cPD w0
  have cPD_3 := cPD (op w0)
  have f0 := p0_ b
  have f1 := p0_ a
  have f2 := p0_ w0
  have f3 := p0_ (op w0)
  have f4 := p0_ (op b)
  clear p0_ p21_ p22_
  clear hop hed cPD
  grind (splits := 24)

set_option maxHeartbeats 1000000 in
theorem pt_ca_CD {W : Int → Prop} {sd : Int → Int} {op : Int → Int} {ed : Int → Int} {st : Int → Int} {lv : Int → Int} {nm : Int → Int} {inw : Int → Int} {tow : Int → Int} {om : Int → Int} {ps : Int → Int} {dl : Int → Int} {dn : Int → Int} {en : Int → Int} {cl : Int → Int} {cw : Int → Int} {tk : Int → Int} {nL : Int} {kd : Int → Int} {wy : Int → Int} {wh : Int → Int} {F : Int → Prop} {a b : Int} (hG : pj_G W sd op ed) (p0_ : ∀ v, ¬ F v) (p1_ : W b) (p2_ : W a) (p3_ : sd a = (sd b)) (p4_ : om (sd b) = ed a) (p5_ : om (sd (op a)) = ed a) (p6_ : st (sd b) = 2) (p7_ : ps (sd b) = 0) (p8_ : dl (sd b) = lv (sd b)) (p9_ : 1 ≤ lv (sd b)) (p10_ : tk (nm (sd b)) = 1) (p11_ : cw (nm (sd b)) = -1) (p12_ : st (sd (op a)) ≠ 1) (p13_ : dl (sd (op a)) = lv (sd (op a))) (p14_ : dl (sd (op a)) = lv (sd b)) (p15_ : dn (sd (op a)) = nm (sd b)) (p16_ : en a = 1) (p17_ : en (op a) = 1) (p18_ : cl (ed a) ≤ lv (sd b)) (p19_ : a ≠ b) (p20_ : b ≠ -1) (p21_ : ∀ j, 0 ≤ j → j < nL → wh j ≠ 2 → kd j = 6 → nm (sd (op (wy j))) ≠ nm (sd b)) (p22_ : ∀ j, 0 ≤ j → j < nL → wh j ≠ 2 → kd j = 5 → wy j ≠ op a) (p23_ : tow (sd b) = (ed b)) (p24_ : om (sd b) ≠ (ed b)) (p25_ : nm (sd b) ≠ (ed b)) (p26_ : nm (sd b) = ed a → tk (ed a) = 1) (p27_ : en b = 1) (p28_ : om (sd (op b)) = (ed b)) (p29_ : inw (sd (op b)) = (ed b)) (p30_ : ps (sd (op b)) = 0) (p31_ : dl (sd (op b)) = lv (sd (op b))) (p32_ : lv (sd (op b)) = lv (sd b)) (p33_ : nm (sd (op b)) = nm (sd b)) (p34_ : st (sd (op b)) = 2) (p35_ : tow (sd (op b)) ≠ -1) (p36_ : 0 ≤ nL) (cCD : pj_CD W sd op ed om dl cl) : pj_CD W sd op ed (pu om (sd b) (ed b)) dl cl := by
  obtain ⟨hop, hed⟩ := hG
  unfold pj_CD at *
  intro w0
  simp only [pu]
  have g0 := hop b
  have g1 := hop a
  have g2 := hop w0
  have g3 := hed b a
  have g4 := hed b w0
  have g5 := hed a w0
  have cCD_0 := cCD b
  have cCD_1 := cCD a
  have cCD_2 := cCD w0
  have cCD_3 := cCD (op w0)
  have f0 := p0_ b
  have f1 := p0_ a
  have f2 := p0_ w0
  have f3 := p0_ (op w0)
  have f4 := p0_ (op b)
  clear p0_ p21_ p22_
  clear hop hed cCD
  grind (splits := 24)

set_option maxHeartbeats 1000000 in
theorem pt_ca_WH {W : Int → Prop} {sd : Int → Int} {op : Int → Int} {ed : Int → Int} {st : Int → Int} {lv : Int → Int} {nm : Int → Int} {inw : Int → Int} {tow : Int → Int} {om : Int → Int} {ps : Int → Int} {dl : Int → Int} {dn : Int → Int} {en : Int → Int} {cl : Int → Int} {cw : Int → Int} {tk : Int → Int} {nL : Int} {kd : Int → Int} {wy : Int → Int} {wh : Int → Int} {F : Int → Prop} {a b : Int} (hG : pj_G W sd op ed) (p0_ : ∀ v, ¬ F v) (p1_ : W b) (p2_ : W a) (p3_ : sd a = (sd b)) (p4_ : om (sd b) = ed a) (p5_ : om (sd (op a)) = ed a) (p6_ : st (sd b) = 2) (p7_ : ps (sd b) = 0) (p8_ : dl (sd b) = lv (sd b)) (p9_ : 1 ≤ lv (sd b)) (p10_ : tk (nm (sd b)) = 1) (p11_ : cw (nm (sd b)) = -1) (p12_ : st (sd (op a)) ≠ 1) (p13_ : dl (sd (op a)) = lv (sd (op a))) (p14_ : dl (sd (op a)) = lv (sd b)) (p15_ : dn (sd (op a)) = nm (sd b)) (p16_ : en a = 1) (p17_ : en (op a) = 1) (p18_ : cl (ed a) ≤ lv (sd b)) (p19_ : a ≠ b) (p20_ : b ≠ -1) (p21_ : ∀ j, 0 ≤ j → j < nL → wh j ≠ 2 → kd j = 6 → nm (sd (op (wy j))) ≠ nm (sd b)) (p22_ : ∀ j, 0 ≤ j → j < nL → wh j ≠ 2 → kd j = 5 → wy j ≠ op a) (p23_ : tow (sd b) = (ed b)) (p24_ : om (sd b) ≠ (ed b)) (p25_ : nm (sd b) ≠ (ed b)) (p26_ : nm (sd b) = ed a → tk (ed a) = 1) (p27_ : en b = 1) (p28_ : om (sd (op b)) = (ed b)) (p29_ : inw (sd (op b)) = (ed b)) (p30_ : ps (sd (op b)) = 0) (p31_ : dl (sd (op b)) = lv (sd (op b))) (p32_ : lv (sd (op b)) = lv (sd b)) (p33_ : nm (sd (op b)) = nm (sd b)) (p34_ : st (sd (op b)) = 2) (p35_ : tow (sd (op b)) ≠ -1) (p36_ : 0 ≤ nL) (cWH : pj_WH nL kd wh) (cR : pj_R W nL kd wy wh) : pj_WH (nL + 1) (pu kd nL 6) (pu wh nL 0) := by
  obtain ⟨hop, hed⟩ := hG
  unfold pj_WH pj_R at *
  intro k0
  simp only [pu]
  have g0 := hop b
  have g1 := hop a
  have g2 := hop (wy k0)
  have g3 := hed b a
  have g4 := hed b (wy k0)
  have g5 := hed a (wy k0)
  have cWH_0 := cWH k0
  have cR_0 := cR k0
  have f0 := p0_ b
  have f1 := p0_ a
  have f2 := p0_ (wy k0)
  have f3 := p0_ (op (wy k0))
  have f4 := p0_ (op b)
  have f5 := p21_ k0
  have f6 := p22_ k0
  clear p0_ p21_ p22_
  clear hop hed cWH cR
  grind (splits := 24)

set_option maxHeartbeats 1000000 in
theorem pt_ca_FI {W : Int → Prop} {sd : Int → Int} {op : Int → Int} {ed : Int → Int} {st : Int → Int} {lv : Int → Int} {nm : Int → Int} {inw : Int → Int} {tow : Int → Int} {om : Int → Int} {ps : Int → Int} {dl : Int → Int} {dn : Int → Int} {en : Int → Int} {cl : Int → Int} {cw : Int → Int} {tk : Int → Int} {nL : Int} {kd : Int → Int} {wy : Int → Int} {wh : Int → Int} {F : Int → Prop} {a b : Int} (hG : pj_G W sd op ed) (p0_ : ∀ v, ¬ F v) (p1_ : W b) (p2_ : W a) (p3_ : sd a = (sd b)) (p4_ : om (sd b) = ed a) (p5_ : om (sd (op a)) = ed a) (p6_ : st (sd b) = 2) (p7_ : ps (sd b) = 0) (p8_ : dl (sd b) = lv (sd b)) (p9_ : 1 ≤ lv (sd b)) (p10_ : tk (nm (sd b)) = 1) (p11_ : cw (nm (sd b)) = -1) (p12_ : st (sd (op a)) ≠ 1) (p13_ : dl (sd (op a)) = lv (sd (op a))) (p14_ : dl (sd (op a)) = lv (sd b)) (p15_ : dn (sd (op a)) = nm (sd b)) (p16_ : en a = 1) (p17_ : en (op a) = 1) (p18_ : cl (ed a) ≤ lv (sd b)) (p19_ : a ≠ b) (p20_ : b ≠ -1) (p21_ : ∀ j, 0 ≤ j → j < nL → wh j ≠ 2 → kd j = 6 → nm (sd (op (wy j))) ≠ nm (sd b)) (p22_ : ∀ j, 0 ≤ j → j < nL → wh j ≠ 2 → kd j = 5 → wy j ≠ op a) (p23_ : tow (sd b) = (ed b)) (p24_ : om (sd b) ≠ (ed b)) (p25_ : nm (sd b) ≠ (ed b)) (p26_ : nm (sd b) = ed a → tk (ed a) = 1) (p27_ : en b = 1) (p28_ : om (sd (op b)) = (ed b)) (p29_ : inw (sd (op b)) = (ed b)) (p30_ : ps (sd (op b)) = 0) (p31_ : dl (sd (op b)) = lv (sd (op b))) (p32_ : lv (sd (op b)) = lv (sd b)) (p33_ : nm (sd (op b)) = nm (sd b)) (p34_ : st (sd (op b)) = 2) (p35_ : tow (sd (op b)) ≠ -1) (p36_ : 0 ≤ nL) (cFI : pj_FI nL wy wh) (cR : pj_R W nL kd wy wh) : pj_FI (nL + 1) (pu wy nL b) (pu wh nL 0) := by
  obtain ⟨hop, hed⟩ := hG
  unfold pj_FI pj_R at *
  intro j0 k0
  simp only [pu]
  have g0 := hop b
  have g1 := hop a
  have g2 := hop (wy j0)
  have g3 := hop (wy k0)
  have g4 := hed b a
  have g5 := hed b (wy j0)
  have g6 := hed b (wy k0)
  have g7 := hed a (wy j0)
  have g8 := hed a (wy k0)
  have g9 := hed (wy j0) (wy k0)
  have cFI_0 := cFI j0 j0
  have cFI_1 := cFI j0 k0
  have cFI_2 := cFI k0 j0
  have cFI_3 := cFI k0 k0
  have cR_0 := cR j0
  have cR_1 := cR k0
  have f0 := p0_ b
  have f1 := p0_ a
  have f2 := p0_ (wy j0)
  have f3 := p0_ (op (wy j0))
  have f4 := p0_ (wy k0)
  have f5 := p0_ (op (wy k0))
  have f6 := p0_ (op b)
  have f7 := p21_ j0
  have f8 := p21_ k0
  have f9 := p22_ j0
  have f10 := p22_ k0
  clear p0_ p21_ p22_
  clear hop hed cFI cR
  grind (splits := 24)

set_option maxHeartbeats 1000000 in
theorem pt_ca_L0 {W : Int → Prop} {sd : Int → Int} {op : Int → Int} {ed : Int → Int} {st : Int → Int} {lv : Int → Int} {nm : Int → Int} {inw : Int → Int} {tow : Int → Int} {om : Int → Int} {ps : Int → Int} {dl : Int → Int} {dn : Int → Int} {c0 : Int → Int} {en : Int → Int} {cl : Int → Int} {cw : Int → Int} {tk : Int → Int} {nL : Int} {kd : Int → Int} {wy : Int → Int} {ll : Int → Int} {wh : Int → Int} {F : Int → Prop} {a b : Int} (hG : pj_G W sd op ed) (p0_ : ∀ v, ¬ F v) (p1_ : W b) (p2_ : W a) (p3_ : sd a = (sd b)) (p4_ : om (sd b) = ed a) (p5_ : om (sd (op a)) = ed a) (p6_ : st (sd b) = 2) (p7_ : ps (sd b) = 0) (p8_ : dl (sd b) = lv (sd b)) (p9_ : 1 ≤ lv (sd b)) (p10_ : tk (nm (sd b)) = 1) (p11_ : cw (nm (sd b)) = -1) (p12_ : st (sd (op a)) ≠ 1) (p13_ : dl (sd (op a)) = lv (sd (op a))) (p14_ : dl (sd (op a)) = lv (sd b)) (p15_ : dn (sd (op a)) = nm (sd b)) (p16_ : en a = 1) (p17_ : en (op a) = 1) (p18_ : cl (ed a) ≤ lv (sd b)) (p19_ : a ≠ b) (p20_ : b ≠ -1) (p21_ : ∀ j, 0 ≤ j → j < nL → wh j ≠ 2 → kd j = 6 → nm (sd (op (wy j))) ≠ nm (sd b)) (p22_ : ∀ j, 0 ≤ j → j < nL → wh j ≠ 2 → kd j = 5 → wy j ≠ op a) (p23_ : tow (sd b) = (ed b)) (p24_ : om (sd b) ≠ (ed b)) (p25_ : nm (sd b) ≠ (ed b)) (p26_ : nm (sd b) = ed a → tk (ed a) = 1) (p27_ : en b = 1) (p28_ : om (sd (op b)) = (ed b)) (p29_ : inw (sd (op b)) = (ed b)) (p30_ : ps (sd (op b)) = 0) (p31_ : dl (sd (op b)) = lv (sd (op b))) (p32_ : lv (sd (op b)) = lv (sd b)) (p33_ : nm (sd (op b)) = nm (sd b)) (p34_ : st (sd (op b)) = 2) (p35_ : tow (sd (op b)) ≠ -1) (p36_ : 0 ≤ nL) (cL0 : pj_L0 sd op ed lv nm om ps dl c0 en cw nL kd wy ll wh) (cR : pj_R W nL kd wy wh) : pj_L0 sd op ed lv nm (pu om (sd b) (ed b)) (pu ps (sd b) 1) dl c0 en cw (nL + 1) (pu kd nL 6) (pu wy nL b) (pu ll nL (-1)) (pu wh nL 0) := by
  obtain ⟨hop, hed⟩ := hG
  unfold pj_L0 pj_R at *
  intro k0
  simp only [pu]
  have g0 := hop b
  have g1 := hop a
  have g2 := hop (wy k0)
  have g3 := hed b a
  have g4 := hed b (wy k0)
  have g5 := hed a (wy k0)
  have cL0_0 := cL0 k0
  have cR_0 := cR k0
  have f0 := p0_ b
  have f1 := p0_ a
  have f2 := p0_ (wy k0)
  have f3 := p0_ (op (wy k0))
  have f4 := p0_ (op b)
  have f5 := p21_ k0
  have f6 := p22_ k0
  clear p0_ p21_ p22_
  clear hop hed cL0 cR
  grind (splits := 24)

set_option maxHeartbeats 1000000 in
theorem pt_ca_FC {W : Int → Prop} {sd : Int → Int} {op : Int → Int} {ed : Int → Int} {st : Int → Int} {lv : Int → Int} {nm : Int → Int} {inw : Int → Int} {tow : Int → Int} {om : Int → Int} {ps : Int → Int} {dl : Int → Int} {dn : Int → Int} {en : Int → Int} {cl : Int → Int} {cw : Int → Int} {tk : Int → Int} {nL : Int} {kd : Int → Int} {wy : Int → Int} {wh : Int → Int} {F : Int → Prop} {a b : Int} (hG : pj_G W sd op ed) (p0_ : ∀ v, ¬ F v) (p1_ : W b) (p2_ : W a) (p3_ : sd a = (sd b)) (p4_ : om (sd b) = ed a) (p5_ : om (sd (op a)) = ed a) (p6_ : st (sd b) = 2) (p7_ : ps (sd b) = 0) (p8_ : dl (sd b) = lv (sd b)) (p9_ : 1 ≤ lv (sd b)) (p10_ : tk (nm (sd b)) = 1) (p11_ : cw (nm (sd b)) = -1) (p12_ : st (sd (op a)) ≠ 1) (p13_ : dl (sd (op a)) = lv (sd (op a))) (p14_ : dl (sd (op a)) = lv (sd b)) (p15_ : dn (sd (op a)) = nm (sd b)) (p16_ : en a = 1) (p17_ : en (op a) = 1) (p18_ : cl (ed a) ≤ lv (sd b)) (p19_ : a ≠ b) (p20_ : b ≠ -1) (p21_ : ∀ j, 0 ≤ j → j < nL → wh j ≠ 2 → kd j = 6 → nm (sd (op (wy j))) ≠ nm (sd b)) (p22_ : ∀ j, 0 ≤ j → j < nL → wh j ≠ 2 → kd j = 5 → wy j ≠ op a) (p23_ : tow (sd b) = (ed b)) (p24_ : om (sd b) ≠ (ed b)) (p25_ : nm (sd b) ≠ (ed b)) (p26_ : nm (sd b) = ed a → tk (ed a) = 1) (p27_ : en b = 1) (p28_ : om (sd (op b)) = (ed b)) (p29_ : inw (sd (op b)) = (ed b)) (p30_ : ps (sd (op b)) = 0) (p31_ : dl (sd (op b)) = lv (sd (op b))) (p32_ : lv (sd (op b)) = lv (sd b)) (p33_ : nm (sd (op b)) = nm (sd b)) (p34_ : st (sd (op b)) = 2) (p35_ : tow (sd (op b)) ≠ -1) (p36_ : 0 ≤ nL) (cFC : pj_FC op nL kd wy wh F) (cR : pj_R W nL kd wy wh) : pj_FC op (nL + 1) (pu kd nL 6) (pu wy nL b) (pu wh nL 0) F := by
  obtain ⟨hop, hed⟩ := hG
  unfold pj_FC pj_R at *
  intro k0
  simp only [pu]
  have g0 := hop b
  have g1 := hop a
  have g2 := hop (wy k0)
  have g3 := hed b a
  have g4 := hed b (wy k0)
  have g5 := hed a (wy k0)
  have cFC_0 := cFC k0
  have cR_0 := cR k0
  have f0 := p0_ b
  have f1 := p0_ a
  have f2 := p0_ (wy k0)
  have f3 := p0_ (op (wy k0))
  have f4 := p0_ (op b)
  have f5 := p21_ k0
  have f6 := p22_ k0
  clear p0_ p21_ p22_
  clear hop hed cFC cR
  grind (splits := 24)

set_option maxHeartbeats 1000000 in
theorem pt_ca_L0u {W : Int → Prop} {sd : Int → Int} {op : Int → Int} {ed : Int → Int} {st : Int → Int} {lv : Int → Int} {nm : Int → Int} {inw : Int → Int} {tow : Int → Int} {om : Int → Int} {ps : Int → Int} {dl : Int → Int} {dn : Int → Int} {en : Int → Int} {cl : Int → Int} {cw : Int → Int} {tk : Int → Int} {nL : Int} {kd : Int → Int} {wy : Int → Int} {wh : Int → Int} {F : Int → Prop} {a b : Int} (hG : pj_G W sd op ed) (p0_ : ∀ v, ¬ F v) (p1_ : W b) (p2_ : W a) (p3_ : sd a = (sd b)) (p4_ : om (sd b) = ed a) (p5_ : om (sd (op a)) = ed a) (p6_ : st (sd b) = 2) (p7_ : ps (sd b) = 0) (p8_ : dl (sd b) = lv (sd b)) (p9_ : 1 ≤ lv (sd b)) (p10_ : tk (nm (sd b)) = 1) (p11_ : cw (nm (sd b)) = -1) (p12_ : st (sd (op a)) ≠ 1) (p13_ : dl (sd (op a)) = lv (sd (op a))) (p14_ : dl (sd (op a)) = lv (sd b)) (p15_ : dn (sd (op a)) = nm (sd b)) (p16_ : en a = 1) (p17_ : en (op a) = 1) (p18_ : cl (ed a) ≤ lv (sd b)) (p19_ : a ≠ b) (p20_ : b ≠ -1) (p21_ : ∀ j, 0 ≤ j → j < nL → wh j ≠ 2 → kd j = 6 → nm (sd (op (wy j))) ≠ nm (sd b)) (p22_ : ∀ j, 0 ≤ j → j < nL → wh j ≠ 2 → kd j = 5 → wy j ≠ op a) (p23_ : tow (sd b) = (ed b)) (p24_ : om (sd b) ≠ (ed b)) (p25_ : nm (sd b) ≠ (ed b)) (p26_ : nm (sd b) = ed a → tk (ed a) = 1) (p27_ : en b = 1) (p28_ : om (sd (op b)) = (ed b)) (p29_ : inw (sd (op b)) = (ed b)) (p30_ : ps (sd (op b)) = 0) (p31_ : dl (sd (op b)) = lv (sd (op b))) (p32_ : lv (sd (op b)) = lv (sd b)) (p33_ : nm (sd (op b)) = nm (sd b)) (p34_ : st (sd (op b)) = 2) (p35_ : tow (sd (op b)) ≠ -1) (p36_ : 0 ≤ nL) (cL0u : pj_L0u nL kd wy wh) (cR : pj_R W nL kd wy wh) : pj_L0u (nL + 1) (pu kd nL 6) (pu wy nL b) (pu wh nL 0) := by
  obtain ⟨hop, hed⟩ := hG
  unfold pj_L0u pj_R at *
  intro j0 k0
  simp only [pu]
  have g0 := hop b
  have g1 := hop a
  have g2 := hop (wy j0)
  have g3 := hop (wy k0)
  have g4 := hed b a
  have g5 := hed b (wy j0)
  have g6 := hed b (wy k0)
  have g7 := hed a (wy j0)
  have g8 := hed a (wy k0)
  have g9 := hed (wy j0) (wy k0)
  have cL0u_0 := cL0u j0 j0
  have cL0u_1 := cL0u j0 k0
  have cL0u_2 := cL0u k0 j0
  have cL0u_3 := cL0u k0 k0
  have cR_0 := cR j0
  have cR_1 := cR k0
  have f0 := p0_ b
  have f1 := p0_ a
  have f2 := p0_ (wy j0)
  have f3 := p0_ (op (wy j0))
  have f4 := p0_ (wy k0)
  have f5 := p0_ (op (wy k0))
  have f6 := p0_ (op b)
  have f7 := p21_ j0
  have f8 := p21_ k0
  have f9 := p22_ j0
  have f10 := p22_ k0
  clear p0_ p21_ p22_
  clear hop hed cL0u cR
  grind (splits := 24)

set_option maxHeartbeats 1000000 in
theorem pt_ca_OC {W : Int → Prop} {sd : Int → Int} {op : Int → Int} {ed : Int → Int} {st : Int → Int} {lv : Int → Int} {nm : Int → Int} {inw : Int → Int} {tow : Int → Int} {om : Int → Int} {ps : Int → Int} {dl : Int → Int} {dn : Int → Int} {en : Int → Int} {cl : Int → Int} {cw : Int → Int} {tk : Int → Int} {nL : Int} {kd : Int → Int} {wy : Int → Int} {wh : Int → Int} {F : Int → Prop} {a b : Int} (hG : pj_G W sd op ed) (p0_ : ∀ v, ¬ F v) (p1_ : W b) (p2_ : W a) (p3_ : sd a = (sd b)) (p4_ : om (sd b) = ed a) (p5_ : om (sd (op a)) = ed a) (p6_ : st (sd b) = 2) (p7_ : ps (sd b) = 0) (p8_ : dl (sd b) = lv (sd b)) (p9_ : 1 ≤ lv (sd b)) (p10_ : tk (nm (sd b)) = 1) (p11_ : cw (nm (sd b)) = -1) (p12_ : st (sd (op a)) ≠ 1) (p13_ : dl (sd (op a)) = lv (sd (op a))) (p14_ : dl (sd (op a)) = lv (sd b)) (p15_ : dn (sd (op a)) = nm (sd b)) (p16_ : en a = 1) (p17_ : en (op a) = 1) (p18_ : cl (ed a) ≤ lv (sd b)) (p19_ : a ≠ b) (p20_ : b ≠ -1) (p21_ : ∀ j, 0 ≤ j → j < nL → wh j ≠ 2 → kd j = 6 → nm (sd (op (wy j))) ≠ nm (sd b)) (p22_ : ∀ j, 0 ≤ j → j < nL → wh j ≠ 2 → kd j = 5 → wy j ≠ op a) (p23_ : tow (sd b) = (ed b)) (p24_ : om (sd b) ≠ (ed b)) (p25_ : nm (sd b) ≠ (ed b)) (p26_ : nm (sd b) = ed a → tk (ed a) = 1) (p27_ : en b = 1) (p28_ : om (sd (op b)) = (ed b)) (p29_ : inw (sd (op b)) = (ed b)) (p30_ : ps (sd (op b)) = 0) (p31_ : dl (sd (op b)) = lv (sd (op b))) (p32_ : lv (sd (op b)) = lv (sd b)) (p33_ : nm (sd (op b)) = nm (sd b)) (p34_ : st (sd (op b)) = 2) (p35_ : tow (sd (op b)) ≠ -1) (p36_ : 0 ≤ nL) (cOC : pj_OC nL kd wy wh) (cR : pj_R W nL kd wy wh) : pj_OC (nL + 1) (pu kd nL 6) (pu wy nL b) (pu wh nL 0) := by
  obtain ⟨hop, hed⟩ := hG
  unfold pj_OC pj_R at *
  intro j0 k0
  simp only [pu]
  have g0 := hop b
  have g1 := hop a
  have g2 := hop (wy j0)
  have g3 := hop (wy k0)
  have g4 := hed b a
  have g5 := hed b (wy j0)
  have g6 := hed b (wy k0)
  have g7 := hed a (wy j0)
  have g8 := hed a (wy k0)
  have g9 := hed (wy j0) (wy k0)
  have cOC_0 := cOC j0 j0
  have cOC_1 := cOC j0 k0
  have cOC_2 := cOC k0 j0
  have cOC_3 := cOC k0 k0
  have cR_0 := cR j0
  have cR_1 := cR k0
  have f0 := p0_ b
  have f1 := p0_ a
  have f2 := p0_ (wy j0)
  have f3 := p0_ (op (wy j0))
  have f4 := p0_ (wy k0)
  have f5 := p0_ (op (wy k0))
  have f6 := p0_ (op b)
  have f7 := p21_ j0
  have f8 := p21_ k0
  have f9 := p22_ j0
  have f10 := p22_ k0
  clear p0_ p21_ p22_
  clear hop hed cOC cR
  grind (splits := 24)

set_option maxHeartbeats 1000000 in
theorem pt_ca_CT {W : Int → Prop} {sd : Int → Int} {op : Int → Int} {ed : Int → Int} {st : Int → Int} {lv : Int → Int} {nm : Int → Int} {inw : Int → Int} {tow : Int → Int} {om : Int → Int} {ps : Int → Int} {dl : Int → Int} {dn : Int → Int} {en : Int → Int} {cl : Int → Int} {cw : Int → Int} {tk : Int → Int} {nL : Int} {kd : Int → Int} {wy : Int → Int} {wh : Int → Int} {F : Int → Prop} {a b : Int} (hG : pj_G W sd op ed) (p0_ : ∀ v, ¬ F v) (p1_ : W b) (p2_ : W a) (p3_ : sd a = (sd b)) (p4_ : om (sd b) = ed a) (p5_ : om (sd (op a)) = ed a) (p6_ : st (sd b) = 2) (p7_ : ps (sd b) = 0) (p8_ : dl (sd b) = lv (sd b)) (p9_ : 1 ≤ lv (sd b)) (p10_ : tk (nm (sd b)) = 1) (p11_ : cw (nm (sd b)) = -1) (p12_ : st (sd (op a)) ≠ 1) (p13_ : dl (sd (op a)) = lv (sd (op a))) (p14_ : dl (sd (op a)) = lv (sd b)) (p15_ : dn (sd (op a)) = nm (sd b)) (p16_ : en a = 1) (p17_ : en (op a) = 1) (p18_ : cl (ed a) ≤ lv (sd b)) (p19_ : a ≠ b) (p20_ : b ≠ -1) (p21_ : ∀ j, 0 ≤ j → j < nL → wh j ≠ 2 → kd j = 6 → nm (sd (op (wy j))) ≠ nm (sd b)) (p22_ : ∀ j, 0 ≤ j → j < nL → wh j ≠ 2 → kd j = 5 → wy j ≠ op a) (p23_ : tow (sd b) = (ed b)) (p24_ : om (sd b) ≠ (ed b)) (p25_ : nm (sd b) ≠ (ed b)) (p26_ : nm (sd b) = ed a → tk (ed a) = 1) (p27_ : en b = 1) (p28_ : om (sd (op b)) = (ed b)) (p29_ : inw (sd (op b)) = (ed b)) (p30_ : ps (sd (op b)) = 0) (p31_ : dl (sd (op b)) = lv (sd (op b))) (p32_ : lv (sd (op b)) = lv (sd b)) (p33_ : nm (sd (op b)) = nm (sd b)) (p34_ : st (sd (op b)) = 2) (p35_ : tow (sd (op b)) ≠ -1) (p36_ : 0 ≤ nL) (cCT : pj_CT nL kd wy wh) (cR : pj_R W nL kd wy wh) : pj_CT (nL + 1) (pu kd nL 6) (pu wy nL b) (pu wh nL 0) := by
  obtain ⟨hop, hed⟩ := hG
  unfold pj_CT pj_R at *
  intro j0 k0
  simp only [pu]
  have g0 := hop b
  have g1 := hop a
  have g2 := hop (wy j0)
  have g3 := hop (wy k0)
  have g4 := hed b a
  have g5 := hed b (wy j0)
  have g6 := hed b (wy k0)
  have g7 := hed a (wy j0)
  have g8 := hed a (wy k0)
  have g9 := hed (wy j0) (wy k0)
  have cCT_0 := cCT j0 j0
  have cCT_1 := cCT j0 k0
  have cCT_2 := cCT k0 j0
  have cCT_3 := cCT k0 k0
  have cR_0 := cR j0
  have cR_1 := cR k0
  have f0 := p0_ b
  have f1 := p0_ a
  have f2 := p0_ (wy j0)
  have f3 := p0_ (op (wy j0))
  have f4 := p0_ (wy k0)
  have f5 := p0_ (op (wy k0))
  have f6 := p0_ (op b)
  have f7 := p21_ j0
  have f8 := p21_ k0
  have f9 := p22_ j0
  have f10 := p22_ k0
  clear p0_ p21_ p22_
  clear hop hed cCT cR
  grind (splits := 24)

set_option maxHeartbeats 1000000 in
theorem pt_ca_L1 {W : Int → Prop} {sd : Int → Int} {op : Int → Int} {ed : Int → Int} {st : Int → Int} {lv : Int → Int} {nm : Int → Int} {inw : Int → Int} {tow : Int → Int} {om : Int → Int} {ps : Int → Int} {dl : Int → Int} {dn : Int → Int} {en : Int → Int} {cl : Int → Int} {cw : Int → Int} {tk : Int → Int} {nL : Int} {kd : Int → Int} {wy : Int → Int} {ll : Int → Int} {td : Int → Int} {ls : Int → Int} {wh : Int → Int} {F : Int → Prop} {a b : Int} (hG : pj_G W sd op ed) (p0_ : ∀ v, ¬ F v) (p1_ : W b) (p2_ : W a) (p3_ : sd a = (sd b)) (p4_ : om (sd b) = ed a) (p5_ : om (sd (op a)) = ed a) (p6_ : st (sd b) = 2) (p7_ : ps (sd b) = 0) (p8_ : dl (sd b) = lv (sd b)) (p9_ : 1 ≤ lv (sd b)) (p10_ : tk (nm (sd b)) = 1) (p11_ : cw (nm (sd b)) = -1) (p12_ : st (sd (op a)) ≠ 1) (p13_ : dl (sd (op a)) = lv (sd (op a))) (p14_ : dl (sd (op a)) = lv (sd b)) (p15_ : dn (sd (op a)) = nm (sd b)) (p16_ : en a = 1) (p17_ : en (op a) = 1) (p18_ : cl (ed a) ≤ lv (sd b)) (p19_ : a ≠ b) (p20_ : b ≠ -1) (p21_ : ∀ j, 0 ≤ j → j < nL → wh j ≠ 2 → kd j = 6 → nm (sd (op (wy j))) ≠ nm (sd b)) (p22_ : ∀ j, 0 ≤ j → j < nL → wh j ≠ 2 → kd j = 5 → wy j ≠ op a) (p23_ : tow (sd b) = (ed b)) (p24_ : om (sd b) ≠ (ed b)) (p25_ : nm (sd b) ≠ (ed b)) (p26_ : nm (sd b) = ed a → tk (ed a) = 1) (p27_ : en b = 1) (p28_ : om (sd (op b)) = (ed b)) (p29_ : inw (sd (op b)) = (ed b)) (p30_ : ps (sd (op b)) = 0) (p31_ : dl (sd (op b)) = lv (sd (op b))) (p32_ : lv (sd (op b)) = lv (sd b)) (p33_ : nm (sd (op b)) = nm (sd b)) (p34_ : st (sd (op b)) = 2) (p35_ : tow (sd (op b)) ≠ -1) (p36_ : 0 ≤ nL) (cL1 : pj_L1 sd op ed st lv om dl en cl nL kd wy ll td ls wh) (cR : pj_R W nL kd wy wh) : pj_L1 sd op ed st lv (pu om (sd b) (ed b)) dl en cl (nL + 1) (pu kd nL 6) (pu wy nL b) (pu ll nL (-1)) (pu td nL (-1)) (pu ls nL (-1)) (pu wh nL 0) := by
  obtain ⟨hop, hed⟩ := hG
  unfold pj_L1 pj_R at *
  intro k0
  simp only [pu]
  have g0 := hop b
  have g1 := hop a
  have g2 := hop (wy k0)
  have g3 := hed b a
  have g4 := hed b (wy k0)
  have g5 := hed a (wy k0)
  have cL1_0 := cL1 k0
  have cR_0 := cR k0
  have f0 := p0_ b
  have f1 := p0_ a
  have f2 := p0_ (wy k0)
  have f3 := p0_ (op (wy k0))
  have f4 := p0_ (op b)
  have f5 := p21_ k0
  have f6 := p22_ k0
  clear p0_ p21_ p22_
  clear hop hed cL1 cR
  grind (splits := 24)

set_option maxHeartbeats 1000000 in
theorem pt_ca_L1e {W : Int → Prop} {sd : Int → Int} {op : Int → Int} {ed : Int → Int} {st : Int → Int} {lv : Int → Int} {nm : Int → Int} {inw : Int → Int} {tow : Int → Int} {om : Int → Int} {ps : Int → Int} {dl : Int → Int} {dn : Int → Int} {en : Int → Int} {cl : Int → Int} {cw : Int → Int} {tk : Int → Int} {nL : Int} {kd : Int → Int} {wy : Int → Int} {ll : Int → Int} {td : Int → Int} {ls : Int → Int} {wh : Int → Int} {F : Int → Prop} {a b : Int} (hG : pj_G W sd op ed) (p0_ : ∀ v, ¬ F v) (p1_ : W b) (p2_ : W a) (p3_ : sd a = (sd b)) (p4_ : om (sd b) = ed a) (p5_ : om (sd (op a)) = ed a) (p6_ : st (sd b) = 2) (p7_ : ps (sd b) = 0) (p8_ : dl (sd b) = lv (sd b)) (p9_ : 1 ≤ lv (sd b)) (p10_ : tk (nm (sd b)) = 1) (p11_ : cw (nm (sd b)) = -1) (p12_ : st (sd (op a)) ≠ 1) (p13_ : dl (sd (op a)) = lv (sd (op a))) (p14_ : dl (sd (op a)) = lv (sd b)) (p15_ : dn (sd (op a)) = nm (sd b)) (p16_ : en a = 1) (p17_ : en (op a) = 1) (p18_ : cl (ed a) ≤ lv (sd b)) (p19_ : a ≠ b) (p20_ : b ≠ -1) (p21_ : ∀ j, 0 ≤ j → j < nL → wh j ≠ 2 → kd j = 6 → nm (sd (op (wy j))) ≠ nm (sd b)) (p22_ : ∀ j, 0 ≤ j → j < nL → wh j ≠ 2 → kd j = 5 → wy j ≠ op a) (p23_ : tow (sd b) = (ed b)) (p24_ : om (sd b) ≠ (ed b)) (p25_ : nm (sd b) ≠ (ed b)) (p26_ : nm (sd b) = ed a → tk (ed a) = 1) (p27_ : en b = 1) (p28_ : om (sd (op b)) = (ed b)) (p29_ : inw (sd (op b)) = (ed b)) (p30_ : ps (sd (op b)) = 0) (p31_ : dl (sd (op b)) = lv (sd (op b))) (p32_ : lv (sd (op b)) = lv (sd b)) (p33_ : nm (sd (op b)) = nm (sd b)) (p34_ : st (sd (op b)) = 2) (p35_ : tow (sd (op b)) ≠ -1) (p36_ : 0 ≤ nL) (cL1e : pj_L1e sd op dl dn nL kd wy ll td ls wh) (cR : pj_R W nL kd wy wh) : pj_L1e sd op dl dn (nL + 1) (pu kd nL 6) (pu wy nL b) (pu ll nL (-1)) (pu td nL (-1)) (pu ls nL (-1)) (pu wh nL 0) := by
  obtain ⟨hop, hed⟩ := hG
  unfold pj_L1e pj_R at *
  intro k0
  simp only [pu]
  have g0 := hop b
  have g1 := hop a
  have g2 := hop (wy k0)
  have g3 := hed b a
  have g4 := hed b (wy k0)
  have g5 := hed a (wy k0)
  have cL1e_0 := cL1e k0
  have cR_0 := cR k0
  have f0 := p0_ b
  have f1 := p0_ a
  have f2 := p0_ (wy k0)
  have f3 := p0_ (op (wy k0))
  have f4 := p0_ (op b)
  have f5 := p21_ k0
  have f6 := p22_ k0
  clear p0_ p21_ p22_
  clear hop hed cL1e cR
  grind (splits := 24)

set_option maxHeartbeats 1000000 in
theorem pt_ca_L1o {W : Int → Prop} {sd : Int → Int} {op : Int → Int} {ed : Int → Int} {st : Int → Int} {lv : Int → Int} {nm : Int → Int} {inw : Int → Int} {tow : Int → Int} {om : Int → Int} {ps : Int → Int} {dl : Int → Int} {dn : Int → Int} {en : Int → Int} {cl : Int → Int} {cw : Int → Int} {tk : Int → Int} {nL : Int} {kd : Int → Int} {wy : Int → Int} {ll : Int → Int} {wh : Int → Int} {F : Int → Prop} {a b : Int} (hG : pj_G W sd op ed) (p0_ : ∀ v, ¬ F v) (p1_ : W b) (p2_ : W a) (p3_ : sd a = (sd b)) (p4_ : om (sd b) = ed a) (p5_ : om (sd (op a)) = ed a) (p6_ : st (sd b) = 2) (p7_ : ps (sd b) = 0) (p8_ : dl (sd b) = lv (sd b)) (p9_ : 1 ≤ lv (sd b)) (p10_ : tk (nm (sd b)) = 1) (p11_ : cw (nm (sd b)) = -1) (p12_ : st (sd (op a)) ≠ 1) (p13_ : dl (sd (op a)) = lv (sd (op a))) (p14_ : dl (sd (op a)) = lv (sd b)) (p15_ : dn (sd (op a)) = nm (sd b)) (p16_ : en a = 1) (p17_ : en (op a) = 1) (p18_ : cl (ed a) ≤ lv (sd b)) (p19_ : a ≠ b) (p20_ : b ≠ -1) (p21_ : ∀ j, 0 ≤ j → j < nL → wh j ≠ 2 → kd j = 6 → nm (sd (op (wy j))) ≠ nm (sd b)) (p22_ : ∀ j, 0 ≤ j → j < nL → wh j ≠ 2 → kd j = 5 → wy j ≠ op a) (p23_ : tow (sd b) = (ed b)) (p24_ : om (sd b) ≠ (ed b)) (p25_ : nm (sd b) ≠ (ed b)) (p26_ : nm (sd b) = ed a → tk (ed a) = 1) (p27_ : en b = 1) (p28_ : om (sd (op b)) = (ed b)) (p29_ : inw (sd (op b)) = (ed b)) (p30_ : ps (sd (op b)) = 0) (p31_ : dl (sd (op b)) = lv (sd (op b))) (p32_ : lv (sd (op b)) = lv (sd b)) (p33_ : nm (sd (op b)) = nm (sd b)) (p34_ : st (sd (op b)) = 2) (p35_ : tow (sd (op b)) ≠ -1) (p36_ : 0 ≤ nL) (cL1o : pj_L1o nL kd wy ll wh) (cR : pj_R W nL kd wy wh) : pj_L1o (nL + 1) (pu kd nL 6) (pu wy nL b) (pu ll nL (-1)) (pu wh nL 0) := by
  obtain ⟨hop, hed⟩ := hG
  unfold pj_L1o pj_R at *
  intro j0 k0
  simp only [pu]
  have g0 := hop b
  have g1 := hop a
  have g2 := hop (wy j0)
  have g3 := hop (wy k0)
  have g4 := hed b a
  have g5 := hed b (wy j0)
  have g6 := hed b (wy k0)
  have g7 := hed a (wy j0)
  have g8 := hed a (wy k0)
  have g9 := hed (wy j0) (wy k0)
  have cL1o_0 := cL1o j0 j0
  have cL1o_1 := cL1o j0 k0
  have cL1o_2 := cL1o k0 j0
  have cL1o_3 := cL1o k0 k0
  have cR_0 := cR j0
  have cR_1 := cR k0
  have f0 := p0_ b
  have f1 := p0_ a
  have f2 := p0_ (wy j0)
  have f3 := p0_ (op (wy j0))
  have f4 := p0_ (wy k0)
  have f5 := p0_ (op (wy k0))
  have f6 := p0_ (op b)
  have f7 := p21_ j0
  have f8 := p21_ k0
  have f9 := p22_ j0
  have f10 := p22_ k0
  clear p0_ p21_ p22_
  clear hop hed cL1o cR
  grind (splits := 24)

set_option maxHeartbeats 1000000 in
theorem pt_ca_L1b {W : Int → Prop} {sd : Int → Int} {op : Int → Int} {ed : Int → Int} {st : Int → Int} {lv : Int → Int} {nm : Int → Int} {inw : Int → Int} {tow : Int → Int} {om : Int → Int} {ps : Int → Int} {dl : Int → Int} {dn : Int → Int} {en : Int → Int} {pd : Int → Int} {cl : Int → Int} {cw : Int → Int} {tk : Int → Int} {nL : Int} {kd : Int → Int} {wy : Int → Int} {ll : Int → Int} {td : Int → Int} {ls : Int → Int} {wh : Int → Int} {F : Int → Prop} {a b : Int} (hG : pj_G W sd op ed) (p0_ : ∀ v, ¬ F v) (p1_ : W b) (p2_ : W a) (p3_ : sd a = (sd b)) (p4_ : om (sd b) = ed a) (p5_ : om (sd (op a)) = ed a) (p6_ : st (sd b) = 2) (p7_ : ps (sd b) = 0) (p8_ : dl (sd b) = lv (sd b)) (p9_ : 1 ≤ lv (sd b)) (p10_ : tk (nm (sd b)) = 1) (p11_ : cw (nm (sd b)) = -1) (p12_ : st (sd (op a)) ≠ 1) (p13_ : dl (sd (op a)) = lv (sd (op a))) (p14_ : dl (sd (op a)) = lv (sd b)) (p15_ : dn (sd (op a)) = nm (sd b)) (p16_ : en a = 1) (p17_ : en (op a) = 1) (p18_ : cl (ed a) ≤ lv (sd b)) (p19_ : a ≠ b) (p20_ : b ≠ -1) (p21_ : ∀ j, 0 ≤ j → j < nL → wh j ≠ 2 → kd j = 6 → nm (sd (op (wy j))) ≠ nm (sd b)) (p22_ : ∀ j, 0 ≤ j → j < nL → wh j ≠ 2 → kd j = 5 → wy j ≠ op a) (p23_ : tow (sd b) = (ed b)) (p24_ : om (sd b) ≠ (ed b)) (p25_ : nm (sd b) ≠ (ed b)) (p26_ : nm (sd b) = ed a → tk (ed a) = 1) (p27_ : en b = 1) (p28_ : om (sd (op b)) = (ed b)) (p29_ : inw (sd (op b)) = (ed b)) (p30_ : ps (sd (op b)) = 0) (p31_ : dl (sd (op b)) = lv (sd (op b))) (p32_ : lv (sd (op b)) = lv (sd b)) (p33_ : nm (sd (op b)) = nm (sd b)) (p34_ : st (sd (op b)) = 2) (p35_ : tow (sd (op b)) ≠ -1) (p36_ : 0 ≤ nL) (cL1b : pj_L1b sd ed st om pd nL kd wy td ls wh) (cR : pj_R W nL kd wy wh) (cL1 : pj_L1 sd op ed st lv om dl en cl nL kd wy ll td ls wh) : pj_L1b sd ed st (pu om (sd b) (ed b)) pd (nL + 1) (pu kd nL 6) (pu wy nL b) (pu td nL (-1)) (pu ls nL (-1)) (pu wh nL 0) := by
  obtain ⟨hop, hed⟩ := hG
  unfold pj_L1b pj_R pj_L1 at *
  intro k0
  simp only [pu]
  have g0 := hop b
  have g1 := hop a
  have g2 := hop (wy k0)
  have g3 := hed b a
  have g4 := hed b (wy k0)
  have g5 := hed a (wy k0)
  have cL1b_0 := cL1b k0
  have cR_0 := cR k0
  have cL1_0 := cL1 k0
  have f0 := p0_ b
  have f1 := p0_ a
  have f2 := p0_ (wy k0)
  have f3 := p0_ (op (wy k0))
  have f4 := p0_ (op b)
  have f5 := p21_ k0
  have f6 := p22_ k0
  clear p0_ p21_ p22_
  clear hop hed cL1b cR cL1
  grind (splits := 24)

set_option maxHeartbeats 1000000 in
theorem pt_ca_L1g {W : Int → Prop} {sd : Int → Int} {op : Int → Int} {ed : Int → Int} {st : Int → Int} {lv : Int → Int} {nm : Int → Int} {inw : Int → Int} {tow : Int → Int} {om : Int → Int} {ps : Int → Int} {dl : Int → Int} {dn : Int → Int} {en : Int → Int} {cl : Int → Int} {cw : Int → Int} {tk : Int → Int} {nL : Int} {kd : Int → Int} {wy : Int → Int} {td : Int → Int} {ls : Int → Int} {wh : Int → Int} {F : Int → Prop} {a b : Int} (hG : pj_G W sd op ed) (p0_ : ∀ v, ¬ F v) (p1_ : W b) (p2_ : W a) (p3_ : sd a = (sd b)) (p4_ : om (sd b) = ed a) (p5_ : om (sd (op a)) = ed a) (p6_ : st (sd b) = 2) (p7_ : ps (sd b) = 0) (p8_ : dl (sd b) = lv (sd b)) (p9_ : 1 ≤ lv (sd b)) (p10_ : tk (nm (sd b)) = 1) (p11_ : cw (nm (sd b)) = -1) (p12_ : st (sd (op a)) ≠ 1) (p13_ : dl (sd (op a)) = lv (sd (op a))) (p14_ : dl (sd (op a)) = lv (sd b)) (p15_ : dn (sd (op a)) = nm (sd b)) (p16_ : en a = 1) (p17_ : en (op a) = 1) (p18_ : cl (ed a) ≤ lv (sd b)) (p19_ : a ≠ b) (p20_ : b ≠ -1) (p21_ : ∀ j, 0 ≤ j → j < nL → wh j ≠ 2 → kd j = 6 → nm (sd (op (wy j))) ≠ nm (sd b)) (p22_ : ∀ j, 0 ≤ j → j < nL → wh j ≠ 2 → kd j = 5 → wy j ≠ op a) (p23_ : tow (sd b) = (ed b)) (p24_ : om (sd b) ≠ (ed b)) (p25_ : nm (sd b) ≠ (ed b)) (p26_ : nm (sd b) = ed a → tk (ed a) = 1) (p27_ : en b = 1) (p28_ : om (sd (op b)) = (ed b)) (p29_ : inw (sd (op b)) = (ed b)) (p30_ : ps (sd (op b)) = 0) (p31_ : dl (sd (op b)) = lv (sd (op b))) (p32_ : lv (sd (op b)) = lv (sd b)) (p33_ : nm (sd (op b)) = nm (sd b)) (p34_ : st (sd (op b)) = 2) (p35_ : tow (sd (op b)) ≠ -1) (p36_ : 0 ≤ nL) (cL1g : pj_L1g W sd op ed nL kd wy td ls wh) (cR : pj_R W nL kd wy wh) : pj_L1g W sd op ed (nL + 1) (pu kd nL 6) (pu wy nL b) (pu td nL (-1)) (pu ls nL (-1)) (pu wh nL 0) := by
  obtain ⟨hop, hed⟩ := hG
  unfold pj_L1g pj_R at *
  intro k0 v0
  simp only [pu]
  have g0 := hop b
  have g1 := hop a
  have g2 := hop (wy k0)
  have g3 := hop v0
  have g4 := hed b a
  have g5 := hed b (wy k0)
  have g6 := hed b v0
  have g7 := hed a (wy k0)
  have g8 := hed a v0
  have g9 := hed (wy k0) v0
  have cL1g_0 := cL1g k0 b
  have cL1g_1 := cL1g k0 a
  have cL1g_2 := cL1g k0 (wy k0)
  have cL1g_3 := cL1g k0 (op (wy k0))
  have cL1g_4 := cL1g k0 v0
  have cL1g_5 := cL1g k0 (op v0)
  have cR_0 := cR k0
  have f0 := p0_ b
  have f1 := p0_ a
  have f2 := p0_ (wy k0)
  have f3 := p0_ (op (wy k0))
  have f4 := p0_ v0
  have f5 := p0_ (op v0)
  have f6 := p0_ (op b)
  have f7 := p21_ k0
  have f8 := p22_ k0
  clear p0_ p21_ p22_
  clear hop hed cL1g cR
  grind (splits := 24)

set_option maxHeartbeats 1000000 in
theorem pt_ca_L2 {W : Int → Prop} {sd : Int → Int} {op : Int → Int} {ed : Int → Int} {st : Int → Int} {lv : Int → Int} {nm : Int → Int} {inw : Int → Int} {tow : Int → Int} {tst : Int → Int} {om : Int → Int} {ps : Int → Int} {dl : Int → Int} {dn : Int → Int} {en : Int → Int} {fw : Int → Int} {cl : Int → Int} {cw : Int → Int} {tk : Int → Int} {nL : Int} {kd : Int → Int} {wy : Int → Int} {ll : Int → Int} {td : Int → Int} {wh : Int → Int} {F : Int → Prop} {a b : Int} (hG : pj_G W sd op ed) (p0_ : ∀ v, ¬ F v) (p1_ : W b) (p2_ : W a) (p3_ : sd a = (sd b)) (p4_ : om (sd b) = ed a) (p5_ : om (sd (op a)) = ed a) (p6_ : st (sd b) = 2) (p7_ : ps (sd b) = 0) (p8_ : dl (sd b) = lv (sd b)) (p9_ : 1 ≤ lv (sd b)) (p10_ : tk (nm (sd b)) = 1) (p11_ : cw (nm (sd b)) = -1) (p12_ : st (sd (op a)) ≠ 1) (p13_ : dl (sd (op a)) = lv (sd (op a))) (p14_ : dl (sd (op a)) = lv (sd b)) (p15_ : dn (sd (op a)) = nm (sd b)) (p16_ : en a = 1) (p17_ : en (op a) = 1) (p18_ : cl (ed a) ≤ lv (sd b)) (p19_ : a ≠ b) (p20_ : b ≠ -1) (p21_ : ∀ j, 0 ≤ j → j < nL → wh j ≠ 2 → kd j = 6 → nm (sd (op (wy j))) ≠ nm (sd b)) (p22_ : ∀ j, 0 ≤ j → j < nL → wh j ≠ 2 → kd j = 5 → wy j ≠ op a) (p23_ : tow (sd b) = (ed b)) (p24_ : om (sd b) ≠ (ed b)) (p25_ : nm (sd b) ≠ (ed b)) (p26_ : nm (sd b) = ed a → tk (ed a) = 1) (p27_ : en b = 1) (p28_ : om (sd (op b)) = (ed b)) (p29_ : inw (sd (op b)) = (ed b)) (p30_ : ps (sd (op b)) = 0) (p31_ : dl (sd (op b)) = lv (sd (op b))) (p32_ : lv (sd (op b)) = lv (sd b)) (p33_ : nm (sd (op b)) = nm (sd b)) (p34_ : st (sd (op b)) = 2) (p35_ : tow (sd (op b)) ≠ -1) (p36_ : 0 ≤ nL) (cL2 : pj_L2 sd op ed st lv nm tst en fw nL kd wy ll td wh) (cR : pj_R W nL kd wy wh) : pj_L2 sd op ed st lv nm tst en fw (nL + 1) (pu kd nL 6) (pu wy nL b) (pu ll nL (-1)) (pu td nL (-1)) (pu wh nL 0) := by
  obtain ⟨hop, hed⟩ := hG
  unfold pj_L2 pj_R at *
  intro k0
  simp only [pu]
  have g0 := hop b
  have g1 := hop a
  have g2 := hop (wy k0)
  have g3 := hed b a
  have g4 := hed b (wy k0)
  have g5 := hed a (wy k0)
  have cL2_0 := cL2 k0
  have cR_0 := cR k0
  have f0 := p0_ b
  have f1 := p0_ a
  have f2 := p0_ (wy k0)
  have f3 := p0_ (op (wy k0))
  have f4 := p0_ (op b)
  have f5 := p21_ k0
  have f6 := p22_ k0
  clear p0_ p21_ p22_
  clear hop hed cL2 cR
  grind (splits := 24)

set_option maxHeartbeats 1000000 in
theorem pt_ca_L3 {W : Int → Prop} {sd : Int → Int} {op : Int → Int} {ed : Int → Int} {st : Int → Int} {lv : Int → Int} {nm : Int → Int} {inw : Int → Int} {tow : Int → Int} {tst : Int → Int} {om : Int → Int} {ps : Int → Int} {dl : Int → Int} {dn : Int → Int} {en : Int → Int} {fw : Int → Int} {cl : Int → Int} {cw : Int → Int} {tk : Int → Int} {nL : Int} {kd : Int → Int} {wy : Int → Int} {wh : Int → Int} {F : Int → Prop} {a b : Int} (hG : pj_G W sd op ed) (p0_ : ∀ v, ¬ F v) (p1_ : W b) (p2_ : W a) (p3_ : sd a = (sd b)) (p4_ : om (sd b) = ed a) (p5_ : om (sd (op a)) = ed a) (p6_ : st (sd b) = 2) (p7_ : ps (sd b) = 0) (p8_ : dl (sd b) = lv (sd b)) (p9_ : 1 ≤ lv (sd b)) (p10_ : tk (nm (sd b)) = 1) (p11_ : cw (nm (sd b)) = -1) (p12_ : st (sd (op a)) ≠ 1) (p13_ : dl (sd (op a)) = lv (sd (op a))) (p14_ : dl (sd (op a)) = lv (sd b)) (p15_ : dn (sd (op a)) = nm (sd b)) (p16_ : en a = 1) (p17_ : en (op a) = 1) (p18_ : cl (ed a) ≤ lv (sd b)) (p19_ : a ≠ b) (p20_ : b ≠ -1) (p21_ : ∀ j, 0 ≤ j → j < nL → wh j ≠ 2 → kd j = 6 → nm (sd (op (wy j))) ≠ nm (sd b)) (p22_ : ∀ j, 0 ≤ j → j < nL → wh j ≠ 2 → kd j = 5 → wy j ≠ op a) (p23_ : tow (sd b) = (ed b)) (p24_ : om (sd b) ≠ (ed b)) (p25_ : nm (sd b) ≠ (ed b)) (p26_ : nm (sd b) = ed a → tk (ed a) = 1) (p27_ : en b = 1) (p28_ : om (sd (op b)) = (ed b)) (p29_ : inw (sd (op b)) = (ed b)) (p30_ : ps (sd (op b)) = 0) (p31_ : dl (sd (op b)) = lv (sd (op b))) (p32_ : lv (sd (op b)) = lv (sd b)) (p33_ : nm (sd (op b)) = nm (sd b)) (p34_ : st (sd (op b)) = 2) (p35_ : tow (sd (op b)) ≠ -1) (p36_ : 0 ≤ nL) (cL3 : pj_L3 sd op ed st lv nm tst en fw nL kd wy wh) (cR : pj_R W nL kd wy wh) : pj_L3 sd op ed st lv nm tst en fw (nL + 1) (pu kd nL 6) (pu wy nL b) (pu wh nL 0) := by
  obtain ⟨hop, hed⟩ := hG
  unfold pj_L3 pj_R at *
  intro k0
  simp only [pu]
  have g0 := hop b
  have g1 := hop a
  have g2 := hop (wy k0)
  have g3 := hed b a
  have g4 := hed b (wy k0)
  have g5 := hed a (wy k0)
  have cL3_0 := cL3 k0
  have cR_0 := cR k0
  have f0 := p0_ b
  have f1 := p0_ a
  have f2 := p0_ (wy k0)
  have f3 := p0_ (op (wy k0))
  have f4 := p0_ (op b)
  have f5 := p21_ k0
  have f6 := p22_ k0
  clear p0_ p21_ p22_
  clear hop hed cL3 cR
  grind (splits := 24)

set_option maxHeartbeats 1000000 in
theorem pt_ca_L4 {W : Int → Prop} {sd : Int → Int} {op : Int → Int} {ed : Int → Int} {st : Int → Int} {lv : Int → Int} {nm : Int → Int} {inw : Int → Int} {tow : Int → Int} {tst : Int → Int} {om : Int → Int} {ps : Int → Int} {dl : Int → Int} {dn : Int → Int} {en : Int → Int} {cl : Int → Int} {cw : Int → Int} {tk : Int → Int} {nL : Int} {kd : Int → Int} {wy : Int → Int} {wh : Int → Int} {F : Int → Prop} {a b : Int} (hG : pj_G W sd op ed) (p0_ : ∀ v, ¬ F v) (p1_ : W b) (p2_ : W a) (p3_ : sd a = (sd b)) (p4_ : om (sd b) = ed a) (p5_ : om (sd (op a)) = ed a) (p6_ : st (sd b) = 2) (p7_ : ps (sd b) = 0) (p8_ : dl (sd b) = lv (sd b)) (p9_ : 1 ≤ lv (sd b)) (p10_ : tk (nm (sd b)) = 1) (p11_ : cw (nm (sd b)) = -1) (p12_ : st (sd (op a)) ≠ 1) (p13_ : dl (sd (op a)) = lv (sd (op a))) (p14_ : dl (sd (op a)) = lv (sd b)) (p15_ : dn (sd (op a)) = nm (sd b)) (p16_ : en a = 1) (p17_ : en (op a) = 1) (p18_ : cl (ed a) ≤ lv (sd b)) (p19_ : a ≠ b) (p20_ : b ≠ -1) (p21_ : ∀ j, 0 ≤ j → j < nL → wh j ≠ 2 → kd j = 6 → nm (sd (op (wy j))) ≠ nm (sd b)) (p22_ : ∀ j, 0 ≤ j → j < nL → wh j ≠ 2 → kd j = 5 → wy j ≠ op a) (p23_ : tow (sd b) = (ed b)) (p24_ : om (sd b) ≠ (ed b)) (p25_ : nm (sd b) ≠ (ed b)) (p26_ : nm (sd b) = ed a → tk (ed a) = 1) (p27_ : en b = 1) (p28_ : om (sd (op b)) = (ed b)) (p29_ : inw (sd (op b)) = (ed b)) (p30_ : ps (sd (op b)) = 0) (p31_ : dl (sd (op b)) = lv (sd (op b))) (p32_ : lv (sd (op b)) = lv (sd b)) (p33_ : nm (sd (op b)) = nm (sd b)) (p34_ : st (sd (op b)) = 2) (p35_ : tow (sd (op b)) ≠ -1) (p36_ : 0 ≤ nL) (cL4 : pj_L4 sd op ed st tst en nL kd wy wh) (cR : pj_R W nL kd wy wh) : pj_L4 sd op ed st tst en (nL + 1) (pu kd nL 6) (pu wy nL b) (pu wh nL 0) := by
  obtain ⟨hop, hed⟩ := hG
  unfold pj_L4 pj_R at *
  intro k0
  simp only [pu]
  have g0 := hop b
  have g1 := hop a
  have g2 := hop (wy k0)
  have g3 := hed b a
  have g4 := hed b (wy k0)
  have g5 := hed a (wy k0)
  have cL4_0 := cL4 k0
  have cR_0 := cR k0
  have f0 := p0_ b
  have f1 := p0_ a
  have f2 := p0_ (wy k0)
  have f3 := p0_ (op (wy k0))
  have f4 := p0_ (op b)
  have f5 := p21_ k0
  have f6 := p22_ k0
  clear p0_ p21_ p22_
  clear hop hed cL4 cR
  grind (splits := 24)

set_option maxHeartbeats 1000000 in
theorem pt_ca_AF {W : Int → Prop} {sd : Int → Int} {op : Int → Int} {ed : Int → Int} {st : Int → Int} {lv : Int → Int} {nm : Int → Int} {inw : Int → Int} {tow : Int → Int} {tst : Int → Int} {om : Int → Int} {ps : Int → Int} {dl : Int → Int} {dn : Int → Int} {af : Int → Int} {en : Int → Int} {cl : Int → Int} {cw : Int → Int} {tk : Int → Int} {nL : Int} {kd : Int → Int} {wy : Int → Int} {wh : Int → Int} {F : Int → Prop} {a b : Int} (hG : pj_G W sd op ed) (p0_ : ∀ v, ¬ F v) (p1_ : W b) (p2_ : W a) (p3_ : sd a = (sd b)) (p4_ : om (sd b) = ed a) (p5_ : om (sd (op a)) = ed a) (p6_ : st (sd b) = 2) (p7_ : ps (sd b) = 0) (p8_ : dl (sd b) = lv (sd b)) (p9_ : 1 ≤ lv (sd b)) (p10_ : tk (nm (sd b)) = 1) (p11_ : cw (nm (sd b)) = -1) (p12_ : st (sd (op a)) ≠ 1) (p13_ : dl (sd (op a)) = lv (sd (op a))) (p14_ : dl (sd (op a)) = lv (sd b)) (p15_ : dn (sd (op a)) = nm (sd b)) (p16_ : en a = 1) (p17_ : en (op a) = 1) (p18_ : cl (ed a) ≤ lv (sd b)) (p19_ : a ≠ b) (p20_ : b ≠ -1) (p21_ : ∀ j, 0 ≤ j → j < nL → wh j ≠ 2 → kd j = 6 → nm (sd (op (wy j))) ≠ nm (sd b)) (p22_ : ∀ j, 0 ≤ j → j < nL → wh j ≠ 2 → kd j = 5 → wy j ≠ op a) (p23_ : tow (sd b) = (ed b)) (p24_ : om (sd b) ≠ (ed b)) (p25_ : nm (sd b) ≠ (ed b)) (p26_ : nm (sd b) = ed a → tk (ed a) = 1) (p27_ : en b = 1) (p28_ : om (sd (op b)) = (ed b)) (p29_ : inw (sd (op b)) = (ed b)) (p30_ : ps (sd (op b)) = 0) (p31_ : dl (sd (op b)) = lv (sd (op b))) (p32_ : lv (sd (op b)) = lv (sd b)) (p33_ : nm (sd (op b)) = nm (sd b)) (p34_ : st (sd (op b)) = 2) (p35_ : tow (sd (op b)) ≠ -1) (p36_ : 0 ≤ nL) (cAF : pj_AF W sd op ed tst af nL kd wy wh) : pj_AF W sd op ed tst af (nL + 1) (pu kd nL 6) (pu wy nL b) (pu wh nL 0) := by
  obtain ⟨hop, hed⟩ := hG
  unfold pj_AF at *
  intro v0
  simp only [pu]
  have g0 := hop b
  have g1 := hop a
  have g2 := hop v0
  have g3 := hed b a
  have g4 := hed b v0
  have g5 := hed a v0
  have cAF_0 := cAF b
  have cAF_1 := cAF a
  have cAF_2 := cAF v0
  have cAF_3 := cAF (op v0)
  have f0 := p0_ b
  have f1 := p0_ a
  have f2 := p0_ v0
  have f3 := p0_ (op v0)
  have f4 := p0_ (op b)
  clear p0_ p21_ p22_
  clear hop hed cAF
  grind (splits := 24)

set_option maxHeartbeats 1000000 in
theorem pt_ca_RT {W : Int → Prop} {sd : Int → Int} {op : Int → Int} {ed : Int → Int} {st : Int → Int} {lv : Int → Int} {nm : Int → Int} {inw : Int → Int} {tow : Int → Int} {tst : Int → Int} {om : Int → Int} {ps : Int → Int} {dl : Int → Int} {dn : Int → Int} {en : Int → Int} {cl : Int → Int} {cw : Int → Int} {tk : Int → Int} {nL : Int} {kd : Int → Int} {wy : Int → Int} {wh : Int → Int} {F : Int → Prop} {a b : Int} (hG : pj_G W sd op ed) (p0_ : ∀ v, ¬ F v) (p1_ : W b) (p2_ : W a) (p3_ : sd a = (sd b)) (p4_ : om (sd b) = ed a) (p5_ : om (sd (op a)) = ed a) (p6_ : st (sd b) = 2) (p7_ : ps (sd b) = 0) (p8_ : dl (sd b) = lv (sd b)) (p9_ : 1 ≤ lv (sd b)) (p10_ : tk (nm (sd b)) = 1) (p11_ : cw (nm (sd b)) = -1) (p12_ : st (sd (op a)) ≠ 1) (p13_ : dl (sd (op a)) = lv (sd (op a))) (p14_ : dl (sd (op a)) = lv (sd b)) (p15_ : dn (sd (op a)) = nm (sd b)) (p16_ : en a = 1) (p17_ : en (op a) = 1) (p18_ : cl (ed a) ≤ lv (sd b)) (p19_ : a ≠ b) (p20_ : b ≠ -1) (p21_ : ∀ j, 0 ≤ j → j < nL → wh j ≠ 2 → kd j = 6 → nm (sd (op (wy j))) ≠ nm (sd b)) (p22_ : ∀ j, 0 ≤ j → j < nL → wh j ≠ 2 → kd j = 5 → wy j ≠ op a) (p23_ : tow (sd b) = (ed b)) (p24_ : om (sd b) ≠ (ed b)) (p25_ : nm (sd b) ≠ (ed b)) (p26_ : nm (sd b) = ed a → tk (ed a) = 1) (p27_ : en b = 1) (p28_ : om (sd (op b)) = (ed b)) (p29_ : inw (sd (op b)) = (ed b)) (p30_ : ps (sd (op b)) = 0) (p31_ : dl (sd (op b)) = lv (sd (op b))) (p32_ : lv (sd (op b)) = lv (sd b)) (p33_ : nm (sd (op b)) = nm (sd b)) (p34_ : st (sd (op b)) = 2) (p35_ : tow (sd (op b)) ≠ -1) (p36_ : 0 ≤ nL) (cRT : pj_RT sd ed tst nL kd wy wh) (cR : pj_R W nL kd wy wh) : pj_RT sd ed tst (nL + 1) (pu kd nL 6) (pu wy nL b) (pu wh nL 0) := by
  obtain ⟨hop, hed⟩ := hG
  unfold pj_RT pj_R at *
  intro j0 k0
  simp only [pu]
  have g0 := hop b
  have g1 := hop a
  have g2 := hop (wy j0)
  have g3 := hop (wy k0)
  have g4 := hed b a
  have g5 := hed b (wy j0)
  have g6 := hed b (wy k0)
  have g7 := hed a (wy j0)
  have g8 := hed a (wy k0)
  have g9 := hed (wy j0) (wy k0)
  have cRT_0 := cRT j0 j0
  have cRT_1 := cRT j0 k0
  have cRT_2 := cRT k0 j0
  have cRT_3 := cRT k0 k0
  have cR_0 := cR j0
  have cR_1 := cR k0
  have f0 := p0_ b
  have f1 := p0_ a
  have f2 := p0_ (wy j0)
  have f3 := p0_ (op (wy j0))
  have f4 := p0_ (wy k0)
  have f5 := p0_ (op (wy k0))
  have f6 := p0_ (op b)
  have f7 := p21_ j0
  have f8 := p21_ k0
  have f9 := p22_ j0
  have f10 := p22_ k0
  clear p0_ p21_ p22_
  clear hop hed cRT cR
  grind (splits := 24)

set_option maxHeartbeats 1000000 in
theorem pt_ca_CV {W : Int → Prop} {sd : Int → Int} {op : Int → Int} {ed : Int → Int} {st : Int → Int} {lv : Int → Int} {nm : Int → Int} {inw : Int → Int} {tow : Int → Int} {tst : Int → Int} {om : Int → Int} {ps : Int → Int} {dl : Int → Int} {dn : Int → Int} {en : Int → Int} {cl : Int → Int} {cw : Int → Int} {tk : Int → Int} {nL : Int} {kd : Int → Int} {wy : Int → Int} {wh : Int → Int} {F : Int → Prop} {a b : Int} (hG : pj_G W sd op ed) (p0_ : ∀ v, ¬ F v) (p1_ : W b) (p2_ : W a) (p3_ : sd a = (sd b)) (p4_ : om (sd b) = ed a) (p5_ : om (sd (op a)) = ed a) (p6_ : st (sd b) = 2) (p7_ : ps (sd b) = 0) (p8_ : dl (sd b) = lv (sd b)) (p9_ : 1 ≤ lv (sd b)) (p10_ : tk (nm (sd b)) = 1) (p11_ : cw (nm (sd b)) = -1) (p12_ : st (sd (op a)) ≠ 1) (p13_ : dl (sd (op a)) = lv (sd (op a))) (p14_ : dl (sd (op a)) = lv (sd b)) (p15_ : dn (sd (op a)) = nm (sd b)) (p16_ : en a = 1) (p17_ : en (op a) = 1) (p18_ : cl (ed a) ≤ lv (sd b)) (p19_ : a ≠ b) (p20_ : b ≠ -1) (p21_ : ∀ j, 0 ≤ j → j < nL → wh j ≠ 2 → kd j = 6 → nm (sd (op (wy j))) ≠ nm (sd b)) (p22_ : ∀ j, 0 ≤ j → j < nL → wh j ≠ 2 → kd j = 5 → wy j ≠ op a) (p23_ : tow (sd b) = (ed b)) (p24_ : om (sd b) ≠ (ed b)) (p25_ : nm (sd b) ≠ (ed b)) (p26_ : nm (sd b) = ed a → tk (ed a) = 1) (p27_ : en b = 1) (p28_ : om (sd (op b)) = (ed b)) (p29_ : inw (sd (op b)) = (ed b)) (p30_ : ps (sd (op b)) = 0) (p31_ : dl (sd (op b)) = lv (sd (op b))) (p32_ : lv (sd (op b)) = lv (sd b)) (p33_ : nm (sd (op b)) = nm (sd b)) (p34_ : st (sd (op b)) = 2) (p35_ : tow (sd (op b)) ≠ -1) (p36_ : 0 ≤ nL) (cCV : pj_CV W sd op ed tst nL kd wy wh) (cR : pj_R W nL kd wy wh) : pj_CV W sd op ed tst (nL + 1) (pu kd nL 6) (pu wy nL b) (pu wh nL 0) := by
  obtain ⟨hop, hed⟩ := hG
  unfold pj_CV pj_R at *
  intro v0 j0 k0
  simp only [pu]
  have g0 := hop b
  have g1 := hop a
  have g2 := hop v0
  have g3 := hop (wy j0)
  have g4 := hop (wy k0)
  have g5 := hed b a
  have g6 := hed b v0
  have g7 := hed b (wy j0)
  have g8 := hed b (wy k0)
  have g9 := hed a v0
  have g10 := hed a (wy j0)
  have g11 := hed a (wy k0)
  have g12 := hed v0 (wy j0)
  have g13 := hed v0 (wy k0)
  have g14 := hed (wy j0) (wy k0)
  have cCV_0 := cCV v0 j0 k0
  have cR_0 := cR j0
  have cR_1 := cR k0
  have f0 := p0_ b
  have f1 := p0_ a
  have f2 := p0_ v0
  have f3 := p0_ (op v0)
  have f4 := p0_ (wy j0)
  have f5 := p0_ (op (wy j0))
  have f6 := p0_ (wy k0)
  have f7 := p0_ (op (wy k0))
  have f8 := p0_ (op b)
  have f9 := p21_ j0
  have f10 := p21_ k0
  have f11 := p22_ j0
  have f12 := p22_ k0
  clear p0_ p21_ p22_
  clear hop hed cCV cR
  grind (splits := 24)

set_option maxHeartbeats 1000000 in
theorem pt_ca_L5 {W : Int → Prop} {sd : Int → Int} {op : Int → Int} {ed : Int → Int} {st : Int → Int} {lv : Int → Int} {nm : Int → Int} {inw : Int → Int} {tow : Int → Int} {bst : Int → Int} {om : Int → Int} {ps : Int → Int} {dl : Int → Int} {dn : Int → Int} {af : Int → Int} {en : Int → Int} {pd : Int → Int} {rp : Int → Int} {rv : Int → Int} {cl : Int → Int} {cw : Int → Int} {tk : Int → Int} {nL : Int} {kd : Int → Int} {wy : Int → Int} {td : Int → Int} {wh : Int → Int} {F : Int → Prop} {a b : Int} (hG : pj_G W sd op ed) (p0_ : ∀ v, ¬ F v) (p1_ : W b) (p2_ : W a) (p3_ : sd a = (sd b)) (p4_ : om (sd b) = ed a) (p5_ : om (sd (op a)) = ed a) (p6_ : st (sd b) = 2) (p7_ : ps (sd b) = 0) (p8_ : dl (sd b) = lv (sd b)) (p9_ : 1 ≤ lv (sd b)) (p10_ : tk (nm (sd b)) = 1) (p11_ : cw (nm (sd b)) = -1) (p12_ : st (sd (op a)) ≠ 1) (p13_ : dl (sd (op a)) = lv (sd (op a))) (p14_ : dl (sd (op a)) = lv (sd b)) (p15_ : dn (sd (op a)) = nm (sd b)) (p16_ : en a = 1) (p17_ : en (op a) = 1) (p18_ : cl (ed a) ≤ lv (sd b)) (p19_ : a ≠ b) (p20_ : b ≠ -1) (p21_ : ∀ j, 0 ≤ j → j < nL → wh j ≠ 2 → kd j = 6 → nm (sd (op (wy j))) ≠ nm (sd b)) (p22_ : ∀ j, 0 ≤ j → j < nL → wh j ≠ 2 → kd j = 5 → wy j ≠ op a) (p23_ : tow (sd b) = (ed b)) (p24_ : om (sd b) ≠ (ed b)) (p25_ : nm (sd b) ≠ (ed b)) (p26_ : nm (sd b) = ed a → tk (ed a) = 1) (p27_ : en b = 1) (p28_ : om (sd (op b)) = (ed b)) (p29_ : inw (sd (op b)) = (ed b)) (p30_ : ps (sd (op b)) = 0) (p31_ : dl (sd (op b)) = lv (sd (op b))) (p32_ : lv (sd (op b)) = lv (sd b)) (p33_ : nm (sd (op b)) = nm (sd b)) (p34_ : st (sd (op b)) = 2) (p35_ : tow (sd (op b)) ≠ -1) (p36_ : 0 ≤ nL) (cL5 : pj_L5 sd op ed st lv nm inw bst om ps dl pd rp rv cl tk nL kd wy td wh) (cR : pj_R W nL kd wy wh) (cN13 : pj_N13 W sd ed lv nm inw) (cN5 : pj_N5 lv inw om ps) (cPD : pj_PD W sd op ed st om en pd) (cN0 : pj_N0 st lv ps dl af) (cC2 : pj_C2 lv nm dl dn cl) : pj_L5 sd op ed st lv nm inw bst (pu om (sd b) (ed b)) (pu ps (sd b) 1) dl pd rp rv cl tk (nL + 1) (pu kd nL 6) (pu wy nL b) (pu td nL (-1)) (pu wh nL 0) := by
  obtain ⟨hop, hed⟩ := hG
  unfold pj_L5 pj_R pj_N13 pj_N5 pj_PD pj_N0 pj_C2 at *
  intro k0
  simp only [pu]
  have g0 := hop b
  have g1 := hop a
  have g2 := hop (wy k0)
  have g3 := hed b a
  have g4 := hed b (wy k0)
  have g5 := hed a (wy k0)
  have cL5_0 := cL5 k0
  have cR_0 := cR k0
  have cN13_0 := cN13 b
  have cN13_1 := cN13 a
  have cN13_2 := cN13 (wy k0)
  have cN13_3 := cN13 (op (wy k0))
  have cN5_0 := cN5 (sd (op b))
  have cN5_1 := cN5 (sd (op a))
  have cN5_2 := cN5 (sd b)
  have cN5_3 := cN5 (sd a)
  have cN5_4 := cN5 (sd (wy k0))
  have cN5_5 := cN5 (sd (op (wy k0)))
  have cPD_0 := cPD b
  have cPD_1 := cPD a
  have cPD_2 := cPD (wy k0)
  have cPD_3 := cPD (op (wy k0))
  have cN0_0 := cN0 (sd (op b))
  have cN0_1 := cN0 (sd (op a))
  have cN0_2 := cN0 (sd b)
  have cN0_3 := cN0 (sd a)
  have cN0_4 := cN0 (sd (wy k0))
  have cN0_5 := cN0 (sd (op (wy k0)))
  have cC2_0 := cC2 (sd (op b))
  have cC2_1 := cC2 (sd (op a))
  have cC2_2 := cC2 (sd b)
  have cC2_3 := cC2 (sd a)
  have cC2_4 := cC2 (sd (wy k0))
  have cC2_5 := cC2 (sd (op (wy k0)))
  have f0 := p0_ b
  have f1 := p0_ a
  have f2 := p0_ (wy k0)
  have f3 := p0_ (op (wy k0))
  have f4 := p0_ (op b)
  have f5 := p21_ k0
  have f6 := p22_ k0
  clear p0_ p21_ p22_
  clear hop hed cL5 cR cN13 cN5 cPD cN0 cC2
  grind (splits := 24)

set_option maxHeartbeats 1000000 in
theorem pt_ca_L5o {W : Int → Prop} {sd : Int → Int} {op : Int → Int} {ed : Int → Int} {st : Int → Int} {lv : Int → Int} {nm : Int → Int} {inw : Int → Int} {tow : Int → Int} {om : Int → Int} {ps : Int → Int} {dl : Int → Int} {dn : Int → Int} {en : Int → Int} {cl : Int → Int} {cw : Int → Int} {tk : Int → Int} {nL : Int} {kd : Int → Int} {wy : Int → Int} {wh : Int → Int} {F : Int → Prop} {a b : Int} (hG : pj_G W sd op ed) (p0_ : ∀ v, ¬ F v) (p1_ : W b) (p2_ : W a) (p3_ : sd a = (sd b)) (p4_ : om (sd b) = ed a) (p5_ : om (sd (op a)) = ed a) (p6_ : st (sd b) = 2) (p7_ : ps (sd b) = 0) (p8_ : dl (sd b) = lv (sd b)) (p9_ : 1 ≤ lv (sd b)) (p10_ : tk (nm (sd b)) = 1) (p11_ : cw (nm (sd b)) = -1) (p12_ : st (sd (op a)) ≠ 1) (p13_ : dl (sd (op a)) = lv (sd (op a))) (p14_ : dl (sd (op a)) = lv (sd b)) (p15_ : dn (sd (op a)) = nm (sd b)) (p16_ : en a = 1) (p17_ : en (op a) = 1) (p18_ : cl (ed a) ≤ lv (sd b)) (p19_ : a ≠ b) (p20_ : b ≠ -1) (p21_ : ∀ j, 0 ≤ j → j < nL → wh j ≠ 2 → kd j = 6 → nm (sd (op (wy j))) ≠ nm (sd b)) (p22_ : ∀ j, 0 ≤ j → j < nL → wh j ≠ 2 → kd j = 5 → wy j ≠ op a) (p23_ : tow (sd b) = (ed b)) (p24_ : om (sd b) ≠ (ed b)) (p25_ : nm (sd b) ≠ (ed b)) (p26_ : nm (sd b) = ed a → tk (ed a) = 1) (p27_ : en b = 1) (p28_ : om (sd (op b)) = (ed b)) (p29_ : inw (sd (op b)) = (ed b)) (p30_ : ps (sd (op b)) = 0) (p31_ : dl (sd (op b)) = lv (sd (op b))) (p32_ : lv (sd (op b)) = lv (sd b)) (p33_ : nm (sd (op b)) = nm (sd b)) (p34_ : st (sd (op b)) = 2) (p35_ : tow (sd (op b)) ≠ -1) (p36_ : 0 ≤ nL) (cL5o : pj_L5o sd op ed lv cl nL kd wy wh) (cR : pj_R W nL kd wy wh) : pj_L5o sd op ed lv cl (nL + 1) (pu kd nL 6) (pu wy nL b) (pu wh nL 0) := by
  obtain ⟨hop, hed⟩ := hG
  unfold pj_L5o pj_R at *
  intro j0 k0
  simp only [pu]
  have g0 := hop b
  have g1 := hop a
  have g2 := hop (wy j0)
  have g3 := hop (wy k0)
  have g4 := hed b a
  have g5 := hed b (wy j0)
  have g6 := hed b (wy k0)
  have g7 := hed a (wy j0)
  have g8 := hed a (wy k0)
  have g9 := hed (wy j0) (wy k0)
  have cL5o_0 := cL5o j0 j0
  have cL5o_1 := cL5o j0 k0
  have cL5o_2 := cL5o k0 j0
  have cL5o_3 := cL5o k0 k0
  have cR_0 := cR j0
  have cR_1 := cR k0
  have f0 := p0_ b
  have f1 := p0_ a
  have f2 := p0_ (wy j0)
  have f3 := p0_ (op (wy j0))
  have f4 := p0_ (wy k0)
  have f5 := p0_ (op (wy k0))
  have f6 := p0_ (op b)
  have f7 := p21_ j0
  have f8 := p21_ k0
  have f9 := p22_ j0
  have f10 := p22_ k0
  clear p0_ p21_ p22_
  clear hop hed cL5o cR
  grind (splits := 24)

set_option maxHeartbeats 1000000 in
theorem pt_ca_L5u {W : Int → Prop} {sd : Int → Int} {op : Int → Int} {ed : Int → Int} {st : Int → Int} {lv : Int → Int} {nm : Int → Int} {inw : Int → Int} {tow : Int → Int} {om : Int → Int} {ps : Int → Int} {dl : Int → Int} {dn : Int → Int} {en : Int → Int} {cl : Int → Int} {cw : Int → Int} {tk : Int → Int} {nL : Int} {kd : Int → Int} {wy : Int → Int} {wh : Int → Int} {F : Int → Prop} {a b : Int} (hG : pj_G W sd op ed) (p0_ : ∀ v, ¬ F v) (p1_ : W b) (p2_ : W a) (p3_ : sd a = (sd b)) (p4_ : om (sd b) = ed a) (p5_ : om (sd (op a)) = ed a) (p6_ : st (sd b) = 2) (p7_ : ps (sd b) = 0) (p8_ : dl (sd b) = lv (sd b)) (p9_ : 1 ≤ lv (sd b)) (p10_ : tk (nm (sd b)) = 1) (p11_ : cw (nm (sd b)) = -1) (p12_ : st (sd (op a)) ≠ 1) (p13_ : dl (sd (op a)) = lv (sd (op a))) (p14_ : dl (sd (op a)) = lv (sd b)) (p15_ : dn (sd (op a)) = nm (sd b)) (p16_ : en a = 1) (p17_ : en (op a) = 1) (p18_ : cl (ed a) ≤ lv (sd b)) (p19_ : a ≠ b) (p20_ : b ≠ -1) (p21_ : ∀ j, 0 ≤ j → j < nL → wh j ≠ 2 → kd j = 6 → nm (sd (op (wy j))) ≠ nm (sd b)) (p22_ : ∀ j, 0 ≤ j → j < nL → wh j ≠ 2 → kd j = 5 → wy j ≠ op a) (p23_ : tow (sd b) = (ed b)) (p24_ : om (sd b) ≠ (ed b)) (p25_ : nm (sd b) ≠ (ed b)) (p26_ : nm (sd b) = ed a → tk (ed a) = 1) (p27_ : en b = 1) (p28_ : om (sd (op b)) = (ed b)) (p29_ : inw (sd (op b)) = (ed b)) (p30_ : ps (sd (op b)) = 0) (p31_ : dl (sd (op b)) = lv (sd (op b))) (p32_ : lv (sd (op b)) = lv (sd b)) (p33_ : nm (sd (op b)) = nm (sd b)) (p34_ : st (sd (op b)) = 2) (p35_ : tow (sd (op b)) ≠ -1) (p36_ : 0 ≤ nL) (cL5u : pj_L5u nL kd wy wh) (cR : pj_R W nL kd wy wh) : pj_L5u (nL + 1) (pu kd nL 6) (pu wy nL b) (pu wh nL 0) := by
  obtain ⟨hop, hed⟩ := hG
  unfold pj_L5u pj_R at *
  intro j0 k0
  simp only [pu]
  have g0 := hop b
  have g1 := hop a
  have g2 := hop (wy j0)
  have g3 := hop (wy k0)
  have g4 := hed b a
  have g5 := hed b (wy j0)
  have g6 := hed b (wy k0)
  have g7 := hed a (wy j0)
  have g8 := hed a (wy k0)
  have g9 := hed (wy j0) (wy k0)
  have cL5u_0 := cL5u j0 j0
  have cL5u_1 := cL5u j0 k0
  have cL5u_2 := cL5u k0 j0
  have cL5u_3 := cL5u k0 k0
  have cR_0 := cR j0
  have cR_1 := cR k0
  have f0 := p0_ b
  have f1 := p0_ a
  have f2 := p0_ (wy j0)
  have f3 := p0_ (op (wy j0))
  have f4 := p0_ (wy k0)
  have f5 := p0_ (op (wy k0))
  have f6 := p0_ (op b)
  have f7 := p21_ j0
  have f8 := p21_ k0
  have f9 := p22_ j0
  have f10 := p22_ k0
  clear p0_ p21_ p22_
  clear hop hed cL5u cR
  grind (splits := 24)

set_option maxHeartbeats 1000000 in
theorem pt_ca_L6 {W : Int → Prop} {sd : Int → Int} {op : Int → Int} {ed : Int → Int} {st : Int → Int} {lv : Int → Int} {nm : Int → Int} {inw : Int → Int} {tow : Int → Int} {om : Int → Int} {ps : Int → Int} {dl : Int → Int} {dn : Int → Int} {en : Int → Int} {cl : Int → Int} {cw : Int → Int} {tk : Int → Int} {nL : Int} {kd : Int → Int} {wy : Int → Int} {wh : Int → Int} {F : Int → Prop} {a b : Int} (hG : pj_G W sd op ed) (p0_ : ∀ v, ¬ F v) (p1_ : W b) (p2_ : W a) (p3_ : sd a = (sd b)) (p4_ : om (sd b) = ed a) (p5_ : om (sd (op a)) = ed a) (p6_ : st (sd b) = 2) (p7_ : ps (sd b) = 0) (p8_ : dl (sd b) = lv (sd b)) (p9_ : 1 ≤ lv (sd b)) (p10_ : tk (nm (sd b)) = 1) (p11_ : cw (nm (sd b)) = -1) (p12_ : st (sd (op a)) ≠ 1) (p13_ : dl (sd (op a)) = lv (sd (op a))) (p14_ : dl (sd (op a)) = lv (sd b)) (p15_ : dn (sd (op a)) = nm (sd b)) (p16_ : en a = 1) (p17_ : en (op a) = 1) (p18_ : cl (ed a) ≤ lv (sd b)) (p19_ : a ≠ b) (p20_ : b ≠ -1) (p21_ : ∀ j, 0 ≤ j → j < nL → wh j ≠ 2 → kd j = 6 → nm (sd (op (wy j))) ≠ nm (sd b)) (p22_ : ∀ j, 0 ≤ j → j < nL → wh j ≠ 2 → kd j = 5 → wy j ≠ op a) (p23_ : tow (sd b) = (ed b)) (p24_ : om (sd b) ≠ (ed b)) (p25_ : nm (sd b) ≠ (ed b)) (p26_ : nm (sd b) = ed a → tk (ed a) = 1) (p27_ : en b = 1) (p28_ : om (sd (op b)) = (ed b)) (p29_ : inw (sd (op b)) = (ed b)) (p30_ : ps (sd (op b)) = 0) (p31_ : dl (sd (op b)) = lv (sd (op b))) (p32_ : lv (sd (op b)) = lv (sd b)) (p33_ : nm (sd (op b)) = nm (sd b)) (p34_ : st (sd (op b)) = 2) (p35_ : tow (sd (op b)) ≠ -1) (p36_ : 0 ≤ nL) (cL6 : pj_L6 sd op ed st lv nm tow om ps dl cw tk nL kd wy wh) (cR : pj_R W nL kd wy wh) : pj_L6 sd op ed st lv nm tow (pu om (sd b) (ed b)) (pu ps (sd b) 1) dl cw tk (nL + 1) (pu kd nL 6) (pu wy nL b) (pu wh nL 0) := by
  obtain ⟨hop, hed⟩ := hG
  unfold pj_L6 pj_R at *
  intro k0
  simp only [pu]
  have g0 := hop b
  have g1 := hop a
  have g2 := hop (wy k0)
  have g3 := hed b a
  have g4 := hed b (wy k0)
  have g5 := hed a (wy k0)
  have cL6_0 := cL6 k0
  have cR_0 := cR k0
  have f0 := p0_ b
  have f1 := p0_ a
  have f2 := p0_ (wy k0)
  have f3 := p0_ (op (wy k0))
  have f4 := p0_ (op b)
  have f5 := p21_ k0
  have f6 := p22_ k0
  clear p0_ p21_ p22_
  clear hop hed cL6 cR
  grind (splits := 24)

set_option maxHeartbeats 1000000 in
theorem pt_ca_L6u {W : Int → Prop} {sd : Int → Int} {op : Int → Int} {ed : Int → Int} {st : Int → Int} {lv : Int → Int} {nm : Int → Int} {inw : Int → Int} {tow : Int → Int} {om : Int → Int} {ps : Int → Int} {dl : Int → Int} {dn : Int → Int} {en : Int → Int} {cl : Int → Int} {cw : Int → Int} {tk : Int → Int} {nL : Int} {kd : Int → Int} {wy : Int → Int} {wh : Int → Int} {F : Int → Prop} {a b : Int} (hG : pj_G W sd op ed) (p0_ : ∀ v, ¬ F v) (p1_ : W b) (p2_ : W a) (p3_ : sd a = (sd b)) (p4_ : om (sd b) = ed a) (p5_ : om (sd (op a)) = ed a) (p6_ : st (sd b) = 2) (p7_ : ps (sd b) = 0) (p8_ : dl (sd b) = lv (sd b)) (p9_ : 1 ≤ lv (sd b)) (p10_ : tk (nm (sd b)) = 1) (p11_ : cw (nm (sd b)) = -1) (p12_ : st (sd (op a)) ≠ 1) (p13_ : dl (sd (op a)) = lv (sd (op a))) (p14_ : dl (sd (op a)) = lv (sd b)) (p15_ : dn (sd (op a)) = nm (sd b)) (p16_ : en a = 1) (p17_ : en (op a) = 1) (p18_ : cl (ed a) ≤ lv (sd b)) (p19_ : a ≠ b) (p20_ : b ≠ -1) (p21_ : ∀ j, 0 ≤ j → j < nL → wh j ≠ 2 → kd j = 6 → nm (sd (op (wy j))) ≠ nm (sd b)) (p22_ : ∀ j, 0 ≤ j → j < nL → wh j ≠ 2 → kd j = 5 → wy j ≠ op a) (p23_ : tow (sd b) = (ed b)) (p24_ : om (sd b) ≠ (ed b)) (p25_ : nm (sd b) ≠ (ed b)) (p26_ : nm (sd b) = ed a → tk (ed a) = 1) (p27_ : en b = 1) (p28_ : om (sd (op b)) = (ed b)) (p29_ : inw (sd (op b)) = (ed b)) (p30_ : ps (sd (op b)) = 0) (p31_ : dl (sd (op b)) = lv (sd (op b))) (p32_ : lv (sd (op b)) = lv (sd b)) (p33_ : nm (sd (op b)) = nm (sd b)) (p34_ : st (sd (op b)) = 2) (p35_ : tow (sd (op b)) ≠ -1) (p36_ : 0 ≤ nL) (cL6u : pj_L6u sd op nm nL kd wy wh) (cR : pj_R W nL kd wy wh) : pj_L6u sd op nm (nL + 1) (pu kd nL 6) (pu wy nL b) (pu wh nL 0) := by
  obtain ⟨hop, hed⟩ := hG
  unfold pj_L6u pj_R at *
  intro j0 k0
  simp only [pu]
  have g0 := hop b
  have g1 := hop a
  have g2 := hop (wy j0)
  have g3 := hop (wy k0)
  have g4 := hed b a
  have g5 := hed b (wy j0)
  have g6 := hed b (wy k0)
  have g7 := hed a (wy j0)
  have g8 := hed a (wy k0)
  have g9 := hed (wy j0) (wy k0)
  have cL6u_0 := cL6u j0 j0
  have cL6u_1 := cL6u j0 k0
  have cL6u_2 := cL6u k0 j0
  have cL6u_3 := cL6u k0 k0
  have cR_0 := cR j0
  have cR_1 := cR k0
  have f0 := p0_ b
  have f1 := p0_ a
  have f2 := p0_ (wy j0)
  have f3 := p0_ (op (wy j0))
  have f4 := p0_ (wy k0)
  have f5 := p0_ (op (wy k0))
  have f6 := p0_ (op b)
  have f7 := p21_ j0
  have f8 := p21_ k0
  have f9 := p22_ j0
  have f10 := p22_ k0
  clear p0_ p21_ p22_
  clear hop hed cL6u cR
  grind (splits := 24)

theorem pj_ca {W : Int → Prop} {sd op ed : Int → Int} {li : Int → Int → Prop} {st lv nm inw tow bst tst exp om ps dl dn af c0 en pd rp rv fw cl cw tk kd wy ll td ls wh : Int → Int} {nL : Int} {F F2 : Int → Prop} {fl fc : Int} {a b k : Int} (hG : pj_G W sd op ed) (p0_ : ∀ v, ¬ F v) (p1_ : W b) (p2_ : W a) (p3_ : sd a = (sd b)) (p4_ : om (sd b) = ed a) (p5_ : om (sd (op a)) = ed a) (p6_ : st (sd b) = 2) (p7_ : ps (sd b) = 0) (p8_ : dl (sd b) = lv (sd b)) (p9_ : 1 ≤ lv (sd b)) (p10_ : tk (nm (sd b)) = 1) (p11_ : cw (nm (sd b)) = -1) (p12_ : st (sd (op a)) ≠ 1) (p13_ : dl (sd (op a)) = lv (sd (op a))) (p14_ : dl (sd (op a)) = lv (sd b)) (p15_ : dn (sd (op a)) = nm (sd b)) (p16_ : en a = 1) (p17_ : en (op a) = 1) (p18_ : cl (ed a) ≤ lv (sd b)) (p19_ : a ≠ b) (p20_ : b ≠ -1) (p21_ : ∀ j, 0 ≤ j → j < nL → wh j ≠ 2 → kd j = 6 → nm (sd (op (wy j))) ≠ nm (sd b)) (p22_ : ∀ j, 0 ≤ j → j < nL → wh j ≠ 2 → kd j = 5 → wy j ≠ op a) (p23_ : tow (sd b) = (ed b)) (p24_ : om (sd b) ≠ (ed b)) (p25_ : nm (sd b) ≠ (ed b)) (p26_ : nm (sd b) = ed a → tk (ed a) = 1) (p27_ : en b = 1) (p28_ : om (sd (op b)) = (ed b)) (p29_ : inw (sd (op b)) = (ed b)) (p30_ : ps (sd (op b)) = 0) (p31_ : dl (sd (op b)) = lv (sd (op b))) (p32_ : lv (sd (op b)) = lv (sd b)) (p33_ : nm (sd (op b)) = nm (sd b)) (p34_ : st (sd (op b)) = 2) (p35_ : tow (sd (op b)) ≠ -1) (p36_ : 0 ≤ nL) (h : pj_J W sd op ed li st lv nm inw tow bst tst exp om ps dl dn af c0 en pd rp rv fw cl cw tk nL kd wy ll td ls wh F fl fc) : pj_J W sd op ed li st lv nm inw tow bst tst exp (pu om (sd b) (ed b)) (pu ps (sd b) 1) dl dn af c0 en pd rp rv fw cl cw tk (nL + 1) (pu kd nL 6) (pu wy nL b) (pu ll nL (-1)) (pu td nL (-1)) (pu ls nL (-1)) (pu wh nL 0) F fl fc := by
  obtain ⟨cR, cN0, cN1, cN1w, cER, cN1c, cN2, cN2e, cN2b, cN4e, cN4b, cN5, cN7, cN10, cN10e, cN13, cC1, cC2, cR3a, cE1, cU, cA1, cA2, cEC, cR3, cN11, cN12, cN3, cRJ, cFW, cPD, cCC, cCD, cRP, cRP1, cCR, cZ1, cZ0, cTK, cK2, cWH, cFI, cL0, cFC, cL0u, cOC, cCT, cL1, cL1e, cL1o, cL1b, cL1g, cL2, cL3, cL4, cAF, cRT, cCV, cL5, cL5o, cL5u, cL6, cL6u⟩ := h
  exact ⟨pt_ca_R hG p0_ p1_ p2_ p3_ p4_ p5_ p6_ p7_ p8_ p9_ p10_ p11_ p12_ p13_ p14_ p15_ p16_ p17_ p18_ p19_ p20_ p21_ p22_ p23_ p24_ p25_ p26_ p27_ p28_ p29_ p30_ p31_ p32_ p33_ p34_ p35_ p36_ cR, pt_ca_N0 hG p0_ p1_ p2_ p3_ p4_ p5_ p6_ p7_ p8_ p9_ p10_ p11_ p12_ p13_ p14_ p15_ p16_ p17_ p18_ p19_ p20_ p21_ p22_ p23_ p24_ p25_ p26_ p27_ p28_ p29_ p30_ p31_ p32_ p33_ p34_ p35_ p36_ cN0, pt_ca_N1 hG p0_ p1_ p2_ p3_ p4_ p5_ p6_ p7_ p8_ p9_ p10_ p11_ p12_ p13_ p14_ p15_ p16_ p17_ p18_ p19_ p20_ p21_ p22_ p23_ p24_ p25_ p26_ p27_ p28_ p29_ p30_ p31_ p32_ p33_ p34_ p35_ p36_ cN1, cN1w, cER, pt_ca_N1c hG p0_ p1_ p2_ p3_ p4_ p5_ p6_ p7_ p8_ p9_ p10_ p11_ p12_ p13_ p14_ p15_ p16_ p17_ p18_ p19_ p20_ p21_ p22_ p23_ p24_ p25_ p26_ p27_ p28_ p29_ p30_ p31_ p32_ p33_ p34_ p35_ p36_ cN1c cR, pt_ca_N2 hG p0_ p1_ p2_ p3_ p4_ p5_ p6_ p7_ p8_ p9_ p10_ p11_ p12_ p13_ p14_ p15_ p16_ p17_ p18_ p19_ p20_ p21_ p22_ p23_ p24_ p25_ p26_ p27_ p28_ p29_ p30_ p31_ p32_ p33_ p34_ p35_ p36_ cN2, pt_ca_N2e hG p0_ p1_ p2_ p3_ p4_ p5_ p6_ p7_ p8_ p9_ p10_ p11_ p12_ p13_ p14_ p15_ p16_ p17_ p18_ p19_ p20_ p21_ p22_ p23_ p24_ p25_ p26_ p27_ p28_ p29_ p30_ p31_ p32_ p33_ p34_ p35_ p36_ cN2e, pt_ca_N2b hG p0_ p1_ p2_ p3_ p4_ p5_ p6_ p7_ p8_ p9_ p10_ p11_ p12_ p13_ p14_ p15_ p16_ p17_ p18_ p19_ p20_ p21_ p22_ p23_ p24_ p25_ p26_ p27_ p28_ p29_ p30_ p31_ p32_ p33_ p34_ p35_ p36_ cN2b, cN4e, pt_ca_N4b hG p0_ p1_ p2_ p3_ p4_ p5_ p6_ p7_ p8_ p9_ p10_ p11_ p12_ p13_ p14_ p15_ p16_ p17_ p18_ p19_ p20_ p21_ p22_ p23_ p24_ p25_ p26_ p27_ p28_ p29_ p30_ p31_ p32_ p33_ p34_ p35_ p36_ cN4b, pt_ca_N5 hG p0_ p1_ p2_ p3_ p4_ p5_ p6_ p7_ p8_ p9_ p10_ p11_ p12_ p13_ p14_ p15_ p16_ p17_ p18_ p19_ p20_ p21_ p22_ p23_ p24_ p25_ p26_ p27_ p28_ p29_ p30_ p31_ p32_ p33_ p34_ p35_ p36_ cN5, cN7, cN10, cN10e, cN13, cC1, cC2, cR3a, pt_ca_E1 hG p0_ p1_ p2_ p3_ p4_ p5_ p6_ p7_ p8_ p9_ p10_ p11_ p12_ p13_ p14_ p15_ p16_ p17_ p18_ p19_ p20_ p21_ p22_ p23_ p24_ p25_ p26_ p27_ p28_ p29_ p30_ p31_ p32_ p33_ p34_ p35_ p36_ cE1, pt_ca_U hG p0_ p1_ p2_ p3_ p4_ p5_ p6_ p7_ p8_ p9_ p10_ p11_ p12_ p13_ p14_ p15_ p16_ p17_ p18_ p19_ p20_ p21_ p22_ p23_ p24_ p25_ p26_ p27_ p28_ p29_ p30_ p31_ p32_ p33_ p34_ p35_ p36_ cU cN2, pt_ca_A1 hG p0_ p1_ p2_ p3_ p4_ p5_ p6_ p7_ p8_ p9_ p10_ p11_ p12_ p13_ p14_ p15_ p16_ p17_ p18_ p19_ p20_ p21_ p22_ p23_ p24_ p25_ p26_ p27_ p28_ p29_ p30_ p31_ p32_ p33_ p34_ p35_ p36_ cA1, pt_ca_A2 hG p0_ p1_ p2_ p3_ p4_ p5_ p6_ p7_ p8_ p9_ p10_ p11_ p12_ p13_ p14_ p15_ p16_ p17_ p18_ p19_ p20_ p21_ p22_ p23_ p24_ p25_ p26_ p27_ p28_ p29_ p30_ p31_ p32_ p33_ p34_ p35_ p36_ cA2 cCD, pt_ca_EC hG p0_ p1_ p2_ p3_ p4_ p5_ p6_ p7_ p8_ p9_ p10_ p11_ p12_ p13_ p14_ p15_ p16_ p17_ p18_ p19_ p20_ p21_ p22_ p23_ p24_ p25_ p26_ p27_ p28_ p29_ p30_ p31_ p32_ p33_ p34_ p35_ p36_ cEC, pt_ca_R3 hG p0_ p1_ p2_ p3_ p4_ p5_ p6_ p7_ p8_ p9_ p10_ p11_ p12_ p13_ p14_ p15_ p16_ p17_ p18_ p19_ p20_ p21_ p22_ p23_ p24_ p25_ p26_ p27_ p28_ p29_ p30_ p31_ p32_ p33_ p34_ p35_ p36_ cR3, pt_ca_N11 hG p0_ p1_ p2_ p3_ p4_ p5_ p6_ p7_ p8_ p9_ p10_ p11_ p12_ p13_ p14_ p15_ p16_ p17_ p18_ p19_ p20_ p21_ p22_ p23_ p24_ p25_ p26_ p27_ p28_ p29_ p30_ p31_ p32_ p33_ p34_ p35_ p36_ cN11, pt_ca_N12 hG p0_ p1_ p2_ p3_ p4_ p5_ p6_ p7_ p8_ p9_ p10_ p11_ p12_ p13_ p14_ p15_ p16_ p17_ p18_ p19_ p20_ p21_ p22_ p23_ p24_ p25_ p26_ p27_ p28_ p29_ p30_ p31_ p32_ p33_ p34_ p35_ p36_ cN12, pt_ca_N3 hG p0_ p1_ p2_ p3_ p4_ p5_ p6_ p7_ p8_ p9_ p10_ p11_ p12_ p13_ p14_ p15_ p16_ p17_ p18_ p19_ p20_ p21_ p22_ p23_ p24_ p25_ p26_ p27_ p28_ p29_ p30_ p31_ p32_ p33_ p34_ p35_ p36_ cN3, cRJ, cFW, pt_ca_PD hG p0_ p1_ p2_ p3_ p4_ p5_ p6_ p7_ p8_ p9_ p10_ p11_ p12_ p13_ p14_ p15_ p16_ p17_ p18_ p19_ p20_ p21_ p22_ p23_ p24_ p25_ p26_ p27_ p28_ p29_ p30_ p31_ p32_ p33_ p34_ p35_ p36_ cPD, cCC, pt_ca_CD hG p0_ p1_ p2_ p3_ p4_ p5_ p6_ p7_ p8_ p9_ p10_ p11_ p12_ p13_ p14_ p15_ p16_ p17_ p18_ p19_ p20_ p21_ p22_ p23_ p24_ p25_ p26_ p27_ p28_ p29_ p30_ p31_ p32_ p33_ p34_ p35_ p36_ cCD, cRP, cRP1, cCR, cZ1, cZ0, cTK, cK2, pt_ca_WH hG p0_ p1_ p2_ p3_ p4_ p5_ p6_ p7_ p8_ p9_ p10_ p11_ p12_ p13_ p14_ p15_ p16_ p17_ p18_ p19_ p20_ p21_ p22_ p23_ p24_ p25_ p26_ p27_ p28_ p29_ p30_ p31_ p32_ p33_ p34_ p35_ p36_ cWH cR, pt_ca_FI hG p0_ p1_ p2_ p3_ p4_ p5_ p6_ p7_ p8_ p9_ p10_ p11_ p12_ p13_ p14_ p15_ p16_ p17_ p18_ p19_ p20_ p21_ p22_ p23_ p24_ p25_ p26_ p27_ p28_ p29_ p30_ p31_ p32_ p33_ p34_ p35_ p36_ cFI cR, pt_ca_L0 hG p0_ p1_ p2_ p3_ p4_ p5_ p6_ p7_ p8_ p9_ p10_ p11_ p12_ p13_ p14_ p15_ p16_ p17_ p18_ p19_ p20_ p21_ p22_ p23_ p24_ p25_ p26_ p27_ p28_ p29_ p30_ p31_ p32_ p33_ p34_ p35_ p36_ cL0 cR, pt_ca_FC hG p0_ p1_ p2_ p3_ p4_ p5_ p6_ p7_ p8_ p9_ p10_ p11_ p12_ p13_ p14_ p15_ p16_ p17_ p18_ p19_ p20_ p21_ p22_ p23_ p24_ p25_ p26_ p27_ p28_ p29_ p30_ p31_ p32_ p33_ p34_ p35_ p36_ cFC cR, pt_ca_L0u hG p0_ p1_ p2_ p3_ p4_ p5_ p6_ p7_ p8_ p9_ p10_ p11_ p12_ p13_ p14_ p15_ p16_ p17_ p18_ p19_ p20_ p21_ p22_ p23_ p24_ p25_ p26_ p27_ p28_ p29_ p30_ p31_ p32_ p33_ p34_ p35_ p36_ cL0u cR, pt_ca_OC hG p0_ p1_ p2_ p3_ p4_ p5_ p6_ p7_ p8_ p9_ p10_ p11_ p12_ p13_ p14_ p15_ p16_ p17_ p18_ p19_ p20_ p21_ p22_ p23_ p24_ p25_ p26_ p27_ p28_ p29_ p30_ p31_ p32_ p33_ p34_ p35_ p36_ cOC cR, pt_ca_CT hG p0_ p1_ p2_ p3_ p4_ p5_ p6_ p7_ p8_ p9_ p10_ p11_ p12_ p13_ p14_ p15_ p16_ p17_ p18_ p19_ p20_ p21_ p22_ p23_ p24_ p25_ p26_ p27_ p28_ p29_ p30_ p31_ p32_ p33_ p34_ p35_ p36_ cCT cR, pt_ca_L1 hG p0_ p1_ p2_ p3_ p4_ p5_ p6_ p7_ p8_ p9_ p10_ p11_ p12_ p13_ p14_ p15_ p16_ p17_ p18_ p19_ p20_ p21_ p22_ p23_ p24_ p25_ p26_ p27_ p28_ p29_ p30_ p31_ p32_ p33_ p34_ p35_ p36_ cL1 cR, pt_ca_L1e hG p0_ p1_ p2_ p3_ p4_ p5_ p6_ p7_ p8_ p9_ p10_ p11_ p12_ p13_ p14_ p15_ p16_ p17_ p18_ p19_ p20_ p21_ p22_ p23_ p24_ p25_ p26_ p27_ p28_ p29_ p30_ p31_ p32_ p33_ p34_ p35_ p36_ cL1e cR, pt_ca_L1o hG p0_ p1_ p2_ p3_ p4_ p5_ p6_ p7_ p8_ p9_ p10_ p11_ p12_ p13_ p14_ p15_ p16_ p17_ p18_ p19_ p20_ p21_ p22_ p23_ p24_ p25_ p26_ p27_ p28_ p29_ p30_ p31_ p32_ p33_ p34_ p35_ p36_ cL1o cR, pt_ca_L1b hG p0_ p1_ p2_ p3_ p4_ p5_ p6_ p7_ p8_ p9_ p10_ p11_ p12_ p13_ p14_ p15_ p16_ p17_ p18_ p19_ p20_ p21_ p22_ p23_ p24_ p25_ p26_ p27_ p28_ p29_ p30_ p31_ p32_ p33_ p34_ p35_ p36_ cL1b cR cL1, pt_ca_L1g hG p0_ p1_ p2_ p3_ p4_ p5_ p6_ p7_ p8_ p9_ p10_ p11_ p12_ p13_ p14_ p15_ p16_ p17_ p18_ p19_ p20_ p21_ p22_ p23_ p24_ p25_ p26_ p27_ p28_ p29_ p30_ p31_ p32_ p33_ p34_ p35_ p36_ cL1g cR, pt_ca_L2 hG p0_ p1_ p2_ p3_ p4_ p5_ p6_ p7_ p8_ p9_ p10_ p11_ p12_ p13_ p14_ p15_ p16_ p17_ p18_ p19_ p20_ p21_ p22_ p23_ p24_ p25_ p26_ p27_ p28_ p29_ p30_ p31_ p32_ p33_ p34_ p35_ p36_ cL2 cR, pt_ca_L3 hG p0_ p1_ p2_ p3_ p4_ p5_ p6_ p7_ p8_ p9_ p10_ p11_ p12_ p13_ p14_ p15_ p16_ p17_ p18_ p19_ p20_ p21_ p22_ p23_ p24_ p25_ p26_ p27_ p28_ p29_ p30_ p31_ p32_ p33_ p34_ p35_ p36_ cL3 cR, pt_ca_L4 hG p0_ p1_ p2_ p3_ p4_ p5_ p6_ p7_ p8_ p9_ p10_ p11_ p12_ p13_ p14_ p15_ p16_ p17_ p18_ p19_ p20_ p21_ p22_ p23_ p24_ p25_ p26_ p27_ p28_ p29_ p30_ p31_ p32_ p33_ p34_ p35_ p36_ cL4 cR, pt_ca_AF hG p0_ p1_ p2_ p3_ p4_ p5_ p6_ p7_ p8_ p9_ p10_ p11_ p12_ p13_ p14_ p15_ p16_ p17_ p18_ p19_ p20_ p21_ p22_ p23_ p24_ p25_ p26_ p27_ p28_ p29_ p30_ p31_ p32_ p33_ p34_ p35_ p36_ cAF, pt_ca_RT hG p0_ p1_ p2_ p3_ p4_ p5_ p6_ p7_ p8_ p9_ p10_ p11_ p12_ p13_ p14_ p15_ p16_ p17_ p18_ p19_ p20_ p21_ p22_ p23_ p24_ p25_ p26_ p27_ p28_ p29_ p30_ p31_ p32_ p33_ p34_ p35_ p36_ cRT cR, pt_ca_CV hG p0_ p1_ p2_ p3_ p4_ p5_ p6_ p7_ p8_ p9_ p10_ p11_ p12_ p13_ p14_ p15_ p16_ p17_ p18_ p19_ p20_ p21_ p22_ p23_ p24_ p25_ p26_ p27_ p28_ p29_ p30_ p31_ p32_ p33_ p34_ p35_ p36_ cCV cR, pt_ca_L5 hG p0_ p1_ p2_ p3_ p4_ p5_ p6_ p7_ p8_ p9_ p10_ p11_ p12_ p13_ p14_ p15_ p16_ p17_ p18_ p19_ p20_ p21_ p22_ p23_ p24_ p25_ p26_ p27_ p28_ p29_ p30_ p31_ p32_ p33_ p34_ p35_ p36_ cL5 cR cN13 cN5 cPD cN0 cC2, pt_ca_L5o hG p0_ p1_ p2_ p3_ p4_ p5_ p6_ p7_ p8_ p9_ p10_ p11_ p12_ p13_ p14_ p15_ p16_ p17_ p18_ p19_ p20_ p21_ p22_ p23_ p24_ p25_ p26_ p27_ p28_ p29_ p30_ p31_ p32_ p33_ p34_ p35_ p36_ cL5o cR, pt_ca_L5u hG p0_ p1_ p2_ p3_ p4_ p5_ p6_ p7_ p8_ p9_ p10_ p11_ p12_ p13_ p14_ p15_ p16_ p17_ p18_ p19_ p20_ p21_ p22_ p23_ p24_ p25_ p26_ p27_ p28_ p29_ p30_ p31_ p32_ p33_ p34_ p35_ p36_ cL5u cR, pt_ca_L6 hG p0_ p1_ p2_ p3_ p4_ p5_ p6_ p7_ p8_ p9_ p10_ p11_ p12_ p13_ p14_ p15_ p16_ p17_ p18_ p19_ p20_ p21_ p22_ p23_ p24_ p25_ p26_ p27_ p28_ p29_ p30_ p31_ p32_ p33_ p34_ p35_ p36_ cL6 cR, pt_ca_L6u hG p0_ p1_ p2_ p3_ p4_ p5_ p6_ p7_ p8_ p9_ p10_ p11_ p12_ p13_ p14_ p15_ p16_ p17_ p18_ p19_ p20_ p21_ p22_ p23_ p24_ p25_ p26_ p27_ p28_ p29_ p30_ p31_ p32_ p33_ p34_ p35_ p36_ cL6u cR⟩

set_option maxHeartbeats 1000000 in
theorem pt_cb_R {W : Int → Prop} {sd : Int → Int} {op : Int → Int} {ed : Int → Int} {st : Int → Int} {lv : Int → Int} {nm : Int → Int} {tow : Int → Int} {om : Int → Int} {ps : Int → Int} {dl : Int → Int} {dn : Int → Int} {en : Int → Int} {cl : Int → Int} {cw : Int → Int} {tk : Int → Int} {nL : Int} {kd : Int → Int} {wy : Int → Int} {wh : Int → Int} {F : Int → Prop} {a b : Int} (hG : pj_G W sd op ed) (p0_ : ∀ v, ¬ F v) (p1_ : W b) (p2_ : W a) (p3_ : sd a = (sd b)) (p4_ : om (sd b) = ed a) (p5_ : om (sd (op a)) = ed a) (p6_ : st (sd b) = 2) (p7_ : ps (sd b) = 0) (p8_ : dl (sd b) = lv (sd b)) (p9_ : 1 ≤ lv (sd b)) (p10_ : tk (nm (sd b)) = 1) (p11_ : cw (nm (sd b)) = -1) (p12_ : st (sd (op a)) ≠ 1) (p13_ : dl (sd (op a)) = lv (sd (op a))) (p14_ : dl (sd (op a)) = lv (sd b)) (p15_ : dn (sd (op a)) = nm (sd b)) (p16_ : en a = 1) (p17_ : en (op a) = 1) (p18_ : cl (ed a) ≤ lv (sd b)) (p19_ : a ≠ b) (p20_ : b ≠ -1) (p21_ : ∀ j, 0 ≤ j → j < nL → wh j ≠ 2 → kd j = 6 → nm (sd (op (wy j))) ≠ nm (sd b)) (p22_ : ∀ j, 0 ≤ j → j < nL → wh j ≠ 2 → kd j = 5 → wy j ≠ op a) (p23_ : tow (sd b) = (ed b)) (p24_ : om (sd b) ≠ (ed b)) (p25_ : nm (sd b) ≠ (ed b)) (p26_ : nm (sd b) = ed a → tk (ed a) = 1) (p27_ : en b = 0) (p28_ : nm (sd (op b)) ≠ nm (sd b)) (p29_ : lv (sd b) ≤ lv (sd (op b))) (p30_ : en (op b) ≠ 2) (p31_ : en (op b) = 0 ∨ en (op b) = 1) (p32_ : cl (ed b) = 0) (p33_ : en (op b) = 1 → om (sd (op b)) = (ed b) ∧ ps (sd (op b)) = 1 ∧ dl (sd (op b)) = lv (sd (op b)) ∧ lv (sd (op b)) = lv (sd b)) (p34_ : 0 ≤ nL) (cR : pj_R W nL kd wy wh) : pj_R W (nL + 1) (pu kd nL 0) (pu wy nL b) (pu wh nL 0) := by
  obtain ⟨hop, hed⟩ := hG
  unfold pj_R at *
  intro k0
  simp only [pu]
  have g0 := hop b
  have g1 := hop a
  have g2 := hop (wy k0)
  have g3 := hed b a
  have g4 := hed b (wy k0)
  have g5 := hed a (wy k0)
  have cR_0 := cR k0
  have f0 := p0_ b
  have f1 := p0_ a
  have f2 := p0_ (wy k0)
  have f3 := p0_ (op (wy k0))
  have f4 := p0_ (op b)
  have f5 := p21_ k0
  have f6 := p22_ k0
  clear p0_ p21_ p22_
  clear hop hed cR
  grind (splits := 24)

set_option maxHeartbeats 1000000 in
theorem pt_cb_N0 {W : Int → Prop} {sd : Int → Int} {op : Int → Int} {ed : Int → Int} {st : Int → Int} {lv : Int → Int} {nm : Int → Int} {tow : Int → Int} {om : Int → Int} {ps : Int → Int} {dl : Int → Int} {dn : Int → Int} {af : Int → Int} {en : Int → Int} {cl : Int → Int} {cw : Int → Int} {tk : Int → Int} {nL : Int} {kd : Int → Int} {wy : Int → Int} {wh : Int → Int} {F : Int → Prop} {a b : Int} (hG : pj_G W sd op ed) (p0_ : ∀ v, ¬ F v) (p1_ : W b) (p2_ : W a) (p3_ : sd a = (sd b)) (p4_ : om (sd b) = ed a) (p5_ : om (sd (op a)) = ed a) (p6_ : st (sd b) = 2) (p7_ : ps (sd b) = 0) (p8_ : dl (sd b) = lv (sd b)) (p9_ : 1 ≤ lv (sd b)) (p10_ : tk (nm (sd b)) = 1) (p11_ : cw (nm (sd b)) = -1) (p12_ : st (sd (op a)) ≠ 1) (p13_ : dl (sd (op a)) = lv (sd (op a))) (p14_ : dl (sd (op a)) = lv (sd b)) (p15_ : dn (sd (op a)) = nm (sd b)) (p16_ : en a = 1) (p17_ : en (op a) = 1) (p18_ : cl (ed a) ≤ lv (sd b)) (p19_ : a ≠ b) (p20_ : b ≠ -1) (p21_ : ∀ j, 0 ≤ j → j < nL → wh j ≠ 2 → kd j = 6 → nm (sd (op (wy j))) ≠ nm (sd b)) (p22_ : ∀ j, 0 ≤ j → j < nL → wh j ≠ 2 → kd j = 5 → wy j ≠ op a) (p23_ : tow (sd b) = (ed b)) (p24_ : om (sd b) ≠ (ed b)) (p25_ : nm (sd b) ≠ (ed b)) (p26_ : nm (sd b) = ed a → tk (ed a) = 1) (p27_ : en b = 0) (p28_ : nm (sd (op b)) ≠ nm (sd b)) (p29_ : lv (sd b) ≤ lv (sd (op b))) (p30_ : en (op b) ≠ 2) (p31_ : en (op b) = 0 ∨ en (op b) = 1) (p32_ : cl (ed b) = 0) (p33_ : en (op b) = 1 → om (sd (op b)) = (ed b) ∧ ps (sd (op b)) = 1 ∧ dl (sd (op b)) = lv (sd (op b)) ∧ lv (sd (op b)) = lv (sd b)) (p34_ : 0 ≤ nL) (cN0 : pj_N0 st lv ps dl af) : pj_N0 st lv (pu ps (sd b) 1) dl af := by
  obtain ⟨hop, hed⟩ := hG
  unfold pj_N0 at *
  intro n0
  simp only [pu]
  have g0 := hop b
  have g1 := hop a
  have g2 := hed b a
  have cN0_0 := cN0 (sd (op b))
  have cN0_1 := cN0 (sd (op a))
  have cN0_2 := cN0 n0
  have cN0_3 := cN0 (sd b)
  have cN0_4 := cN0 (sd a)
  have f0 := p0_ b
  have f1 := p0_ a
  have f2 := p0_ (op b)
  clear p0_ p21_ p22_
  clear hop hed cN0
  grind (splits := 24)

set_option maxHeartbeats 1000000 in
theorem pt_cb_N1 {W : Int → Prop} {sd : Int → Int} {op : Int → Int} {ed : Int → Int} {st : Int → Int} {lv : Int → Int} {nm : Int → Int} {tow : Int → Int} {om : Int → Int} {ps : Int → Int} {dl : Int → Int} {dn : Int → Int} {en : Int → Int} {cl : Int → Int} {cw : Int → Int} {tk : Int → Int} {nL : Int} {kd : Int → Int} {wy : Int → Int} {wh : Int → Int} {F : Int → Prop} {a b : Int} (hG : pj_G W sd op ed) (p0_ : ∀ v, ¬ F v) (p1_ : W b) (p2_ : W a) (p3_ : sd a = (sd b)) (p4_ : om (sd b) = ed a) (p5_ : om (sd (op a)) = ed a) (p6_ : st (sd b) = 2) (p7_ : ps (sd b) = 0) (p8_ : dl (sd b) = lv (sd b)) (p9_ : 1 ≤ lv (sd b)) (p10_ : tk (nm (sd b)) = 1) (p11_ : cw (nm (sd b)) = -1) (p12_ : st (sd (op a)) ≠ 1) (p13_ : dl (sd (op a)) = lv (sd (op a))) (p14_ : dl (sd (op a)) = lv (sd b)) (p15_ : dn (sd (op a)) = nm (sd b)) (p16_ : en a = 1) (p17_ : en (op a) = 1) (p18_ : cl (ed a) ≤ lv (sd b)) (p19_ : a ≠ b) (p20_ : b ≠ -1) (p21_ : ∀ j, 0 ≤ j → j < nL → wh j ≠ 2 → kd j = 6 → nm (sd (op (wy j))) ≠ nm (sd b)) (p22_ : ∀ j, 0 ≤ j → j < nL → wh j ≠ 2 → kd j = 5 → wy j ≠ op a) (p23_ : tow (sd b) = (ed b)) (p24_ : om (sd b) ≠ (ed b)) (p25_ : nm (sd b) ≠ (ed b)) (p26_ : nm (sd b) = ed a → tk (ed a) = 1) (p27_ : en b = 0) (p28_ : nm (sd (op b)) ≠ nm (sd b)) (p29_ : lv (sd b) ≤ lv (sd (op b))) (p30_ : en (op b) ≠ 2) (p31_ : en (op b) = 0 ∨ en (op b) = 1) (p32_ : cl (ed b) = 0) (p33_ : en (op b) = 1 → om (sd (op b)) = (ed b) ∧ ps (sd (op b)) = 1 ∧ dl (sd (op b)) = lv (sd (op b)) ∧ lv (sd (op b)) = lv (sd b)) (p34_ : 0 ≤ nL) (cN1 : pj_N1 st lv om ps dl) : pj_N1 st lv (pu om (sd b) (ed b)) (pu ps (sd b) 1) dl := by
  obtain ⟨hop, hed⟩ := hG
  unfold pj_N1 at *
  intro n0
  simp only [pu]
  have g0 := hop b
  have g1 := hop a
  have g2 := hed b a
  have cN1_0 := cN1 (sd (op b))
  have cN1_1 := cN1 (sd (op a))
  have cN1_2 := cN1 n0
  have cN1_3 := cN1 (sd b)
  have cN1_4 := cN1 (sd a)
  have f0 := p0_ b
  have f1 := p0_ a
  have f2 := p0_ (op b)
  clear p0_ p21_ p22_
  clear hop hed cN1
  grind (splits := 24)

set_option maxHeartbeats 1000000 in
theorem pt_cb_N1w {W : Int → Prop} {sd : Int → Int} {op : Int → Int} {ed : Int → Int} {st : Int → Int} {lv : Int → Int} {nm : Int → Int} {tow : Int → Int} {om : Int → Int} {ps : Int → Int} {dl : Int → Int} {dn : Int → Int} {en : Int → Int} {cl : Int → Int} {cw : Int → Int} {tk : Int → Int} {nL : Int} {kd : Int → Int} {wy : Int → Int} {wh : Int → Int} {F : Int → Prop} {a b : Int} (hG : pj_G W sd op ed) (p0_ : ∀ v, ¬ F v) (p1_ : W b) (p2_ : W a) (p3_ : sd a = (sd b)) (p4_ : om (sd b) = ed a) (p5_ : om (sd (op a)) = ed a) (p6_ : st (sd b) = 2) (p7_ : ps (sd b) = 0) (p8_ : dl (sd b) = lv (sd b)) (p9_ : 1 ≤ lv (sd b)) (p10_ : tk (nm (sd b)) = 1) (p11_ : cw (nm (sd b)) = -1) (p12_ : st (sd (op a)) ≠ 1) (p13_ : dl (sd (op a)) = lv (sd (op a))) (p14_ : dl (sd (op a)) = lv (sd b)) (p15_ : dn (sd (op a)) = nm (sd b)) (p16_ : en a = 1) (p17_ : en (op a) = 1) (p18_ : cl (ed a) ≤ lv (sd b)) (p19_ : a ≠ b) (p20_ : b ≠ -1) (p21_ : ∀ j, 0 ≤ j → j < nL → wh j ≠ 2 → kd j = 6 → nm (sd (op (wy j))) ≠ nm (sd b)) (p22_ : ∀ j, 0 ≤ j → j < nL → wh j ≠ 2 → kd j = 5 → wy j ≠ op a) (p23_ : tow (sd b) = (ed b)) (p24_ : om (sd b) ≠ (ed b)) (p25_ : nm (sd b) ≠ (ed b)) (p26_ : nm (sd b) = ed a → tk (ed a) = 1) (p27_ : en b = 0) (p28_ : nm (sd (op b)) ≠ nm (sd b)) (p29_ : lv (sd b) ≤ lv (sd (op b))) (p30_ : en (op b) ≠ 2) (p31_ : en (op b) = 0 ∨ en (op b) = 1) (p32_ : cl (ed b) = 0) (p33_ : en (op b) = 1 → om (sd (op b)) = (ed b) ∧ ps (sd (op b)) = 1 ∧ dl (sd (op b)) = lv (sd (op b)) ∧ lv (sd (op b)) = lv (sd b)) (p34_ : 0 ≤ nL) (cN1w : pj_N1w W sd st en) : pj_N1w W sd st (pu en b 1) := by
  obtain ⟨hop, hed⟩ := hG
  unfold pj_N1w at *
  intro w0
  simp only [pu]
  have g0 := hop b
  have g1 := hop a
  have g2 := hop w0
  have g3 := hed b a
  have g4 := hed b w0
  have g5 := hed a w0
  have cN1w_0 := cN1w b
  have cN1w_1 := cN1w a
  have cN1w_2 := cN1w w0
  have cN1w_3 := cN1w (op w0)
  have f0 := p0_ b
  have f1 := p0_ a
  have f2 := p0_ w0
  have f3 := p0_ (op w0)
  have f4 := p0_ (op b)
  clear p0_ p21_ p22_
  clear hop hed cN1w
  grind (splits := 24)

set_option maxHeartbeats 1000000 in
theorem pt_cb_ER {W : Int → Prop} {sd : Int → Int} {op : Int → Int} {ed : Int → Int} {st : Int → Int} {lv : Int → Int} {nm : Int → Int} {tow : Int → Int} {om : Int → Int} {ps : Int → Int} {dl : Int → Int} {dn : Int → Int} {en : Int → Int} {cl : Int → Int} {cw : Int → Int} {tk : Int → Int} {nL : Int} {kd : Int → Int} {wy : Int → Int} {wh : Int → Int} {F : Int → Prop} {a b : Int} (hG : pj_G W sd op ed) (p0_ : ∀ v, ¬ F v) (p1_ : W b) (p2_ : W a) (p3_ : sd a = (sd b)) (p4_ : om (sd b) = ed a) (p5_ : om (sd (op a)) = ed a) (p6_ : st (sd b) = 2) (p7_ : ps (sd b) = 0) (p8_ : dl (sd b) = lv (sd b)) (p9_ : 1 ≤ lv (sd b)) (p10_ : tk (nm (sd b)) = 1) (p11_ : cw (nm (sd b)) = -1) (p12_ : st (sd (op a)) ≠ 1) (p13_ : dl (sd (op a)) = lv (sd (op a))) (p14_ : dl (sd (op a)) = lv (sd b)) (p15_ : dn (sd (op a)) = nm (sd b)) (p16_ : en a = 1) (p17_ : en (op a) = 1) (p18_ : cl (ed a) ≤ lv (sd b)) (p19_ : a ≠ b) (p20_ : b ≠ -1) (p21_ : ∀ j, 0 ≤ j → j < nL → wh j ≠ 2 → kd j = 6 → nm (sd (op (wy j))) ≠ nm (sd b)) (p22_ : ∀ j, 0 ≤ j → j < nL → wh j ≠ 2 → kd j = 5 → wy j ≠ op a) (p23_ : tow (sd b) = (ed b)) (p24_ : om (sd b) ≠ (ed b)) (p25_ : nm (sd b) ≠ (ed b)) (p26_ : nm (sd b) = ed a → tk (ed a) = 1) (p27_ : en b = 0) (p28_ : nm (sd (op b)) ≠ nm (sd b)) (p29_ : lv (sd b) ≤ lv (sd (op b))) (p30_ : en (op b) ≠ 2) (p31_ : en (op b) = 0 ∨ en (op b) = 1) (p32_ : cl (ed b) = 0) (p33_ : en (op b) = 1 → om (sd (op b)) = (ed b) ∧ ps (sd (op b)) = 1 ∧ dl (sd (op b)) = lv (sd (op b)) ∧ lv (sd (op b)) = lv (sd b)) (p34_ : 0 ≤ nL) (cER : pj_ER W en) : pj_ER W (pu en b 1) := by
  obtain ⟨hop, hed⟩ := hG
  unfold pj_ER at *
  intro w0
  simp only [pu]
  have g0 := hop b
  have g1 := hop a
  have g2 := hop w0
  have g3 := hed b a
  have g4 := hed b w0
  have g5 := hed a w0
  have cER_0 := cER b
  have cER_1 := cER a
  have cER_2 := cER w0
  have cER_3 := cER (op w0)
  have f0 := p0_ b
  have f1 := p0_ a
  have f2 := p0_ w0
  have f3 := p0_ (op w0)
  have f4 := p0_ (op b)
  clear p0_ p21_ p22_
  clear hop hed cER
  grind (splits := 24)

set_option maxHeartbeats 1000000 in
theorem pt_cb_N1c {W : Int → Prop} {sd : Int → Int} {op : Int → Int} {ed : Int → Int} {st : Int → Int} {lv : Int → Int} {nm : Int → Int} {tow : Int → Int} {om : Int → Int} {ps : Int → Int} {dl : Int → Int} {dn : Int → Int} {en : Int → Int} {cl : Int → Int} {cw : Int → Int} {tk : Int → Int} {nL : Int} {kd : Int → Int} {wy : Int → Int} {wh : Int → Int} {F : Int → Prop} {a b : Int} (hG : pj_G W sd op ed) (p0_ : ∀ v, ¬ F v) (p1_ : W b) (p2_ : W a) (p3_ : sd a = (sd b)) (p4_ : om (sd b) = ed a) (p5_ : om (sd (op a)) = ed a) (p6_ : st (sd b) = 2) (p7_ : ps (sd b) = 0) (p8_ : dl (sd b) = lv (sd b)) (p9_ : 1 ≤ lv (sd b)) (p10_ : tk (nm (sd b)) = 1) (p11_ : cw (nm (sd b)) = -1) (p12_ : st (sd (op a)) ≠ 1) (p13_ : dl (sd (op a)) = lv (sd (op a))) (p14_ : dl (sd (op a)) = lv (sd b)) (p15_ : dn (sd (op a)) = nm (sd b)) (p16_ : en a = 1) (p17_ : en (op a) = 1) (p18_ : cl (ed a) ≤ lv (sd b)) (p19_ : a ≠ b) (p20_ : b ≠ -1) (p21_ : ∀ j, 0 ≤ j → j < nL → wh j ≠ 2 → kd j = 6 → nm (sd (op (wy j))) ≠ nm (sd b)) (p22_ : ∀ j, 0 ≤ j → j < nL → wh j ≠ 2 → kd j = 5 → wy j ≠ op a) (p23_ : tow (sd b) = (ed b)) (p24_ : om (sd b) ≠ (ed b)) (p25_ : nm (sd b) ≠ (ed b)) (p26_ : nm (sd b) = ed a → tk (ed a) = 1) (p27_ : en b = 0) (p28_ : nm (sd (op b)) ≠ nm (sd b)) (p29_ : lv (sd b) ≤ lv (sd (op b))) (p30_ : en (op b) ≠ 2) (p31_ : en (op b) = 0 ∨ en (op b) = 1) (p32_ : cl (ed b) = 0) (p33_ : en (op b) = 1 → om (sd (op b)) = (ed b) ∧ ps (sd (op b)) = 1 ∧ dl (sd (op b)) = lv (sd (op b)) ∧ lv (sd (op b)) = lv (sd b)) (p34_ : 0 ≤ nL) (cN1c : pj_N1c sd op st nL wy wh) (cR : pj_R W nL kd wy wh) : pj_N1c sd op st (nL + 1) (pu wy nL b) (pu wh nL 0) := by
  obtain ⟨hop, hed⟩ := hG
  unfold pj_N1c pj_R at *
  intro k0
  simp only [pu]
  have g0 := hop b
  have g1 := hop a
  have g2 := hop (wy k0)
  have g3 := hed b a
  have g4 := hed b (wy k0)
  have g5 := hed a (wy k0)
  have cN1c_0 := cN1c k0
  have cR_0 := cR k0
  have f0 := p0_ b
  have f1 := p0_ a
  have f2 := p0_ (wy k0)
  have f3 := p0_ (op (wy k0))
  have f4 := p0_ (op b)
  have f5 := p21_ k0
  have f6 := p22_ k0
  clear p0_ p21_ p22_
  clear hop hed cN1c cR
  grind (splits := 24)

set_option maxHeartbeats 1000000 in
theorem pt_cb_N2 {W : Int → Prop} {sd : Int → Int} {op : Int → Int} {ed : Int → Int} {st : Int → Int} {lv : Int → Int} {nm : Int → Int} {tow : Int → Int} {om : Int → Int} {ps : Int → Int} {dl : Int → Int} {dn : Int → Int} {en : Int → Int} {cl : Int → Int} {cw : Int → Int} {tk : Int → Int} {nL : Int} {kd : Int → Int} {wy : Int → Int} {wh : Int → Int} {F : Int → Prop} {a b : Int} (hG : pj_G W sd op ed) (p0_ : ∀ v, ¬ F v) (p1_ : W b) (p2_ : W a) (p3_ : sd a = (sd b)) (p4_ : om (sd b) = ed a) (p5_ : om (sd (op a)) = ed a) (p6_ : st (sd b) = 2) (p7_ : ps (sd b) = 0) (p8_ : dl (sd b) = lv (sd b)) (p9_ : 1 ≤ lv (sd b)) (p10_ : tk (nm (sd b)) = 1) (p11_ : cw (nm (sd b)) = -1) (p12_ : st (sd (op a)) ≠ 1) (p13_ : dl (sd (op a)) = lv (sd (op a))) (p14_ : dl (sd (op a)) = lv (sd b)) (p15_ : dn (sd (op a)) = nm (sd b)) (p16_ : en a = 1) (p17_ : en (op a) = 1) (p18_ : cl (ed a) ≤ lv (sd b)) (p19_ : a ≠ b) (p20_ : b ≠ -1) (p21_ : ∀ j, 0 ≤ j → j < nL → wh j ≠ 2 → kd j = 6 → nm (sd (op (wy j))) ≠ nm (sd b)) (p22_ : ∀ j, 0 ≤ j → j < nL → wh j ≠ 2 → kd j = 5 → wy j ≠ op a) (p23_ : tow (sd b) = (ed b)) (p24_ : om (sd b) ≠ (ed b)) (p25_ : nm (sd b) ≠ (ed b)) (p26_ : nm (sd b) = ed a → tk (ed a) = 1) (p27_ : en b = 0) (p28_ : nm (sd (op b)) ≠ nm (sd b)) (p29_ : lv (sd b) ≤ lv (sd (op b))) (p30_ : en (op b) ≠ 2) (p31_ : en (op b) = 0 ∨ en (op b) = 1) (p32_ : cl (ed b) = 0) (p33_ : en (op b) = 1 → om (sd (op b)) = (ed b) ∧ ps (sd (op b)) = 1 ∧ dl (sd (op b)) = lv (sd (op b)) ∧ lv (sd (op b)) = lv (sd b)) (p34_ : 0 ≤ nL) (cN2 : pj_N2 W sd ed om en) : pj_N2 W sd ed (pu om (sd b) (ed b)) (pu en b 1) := by
  obtain ⟨hop, hed⟩ := hG
  unfold pj_N2 at *
  intro w0
  simp only [pu]
  have g0 := hop b
  have g1 := hop a
  have g2 := hop w0
  have g3 := hed b a
  have g4 := hed b w0
  have g5 := hed a w0
  have cN2_0 := cN2 b
  have cN2_1 := cN2 a
  have cN2_2 := cN2 w0
  have cN2_3 := cN2 (op w0)
  have f0 := p0_ b
  have f1 := p0_ a
  have f2 := p0_ w0
  have f3 := p0_ (op w0)
  have f4 := p0_ (op b)
  clear p0_ p21_ p22_
  clear hop hed cN2
  grind (splits := 24)

set_option maxHeartbeats 1000000 in
theorem pt_cb_N2e {W : Int → Prop} {sd : Int → Int} {op : Int → Int} {ed : Int → Int} {st : Int → Int} {lv : Int → Int} {nm : Int → Int} {tow : Int → Int} {om : Int → Int} {ps : Int → Int} {dl : Int → Int} {dn : Int → Int} {en : Int → Int} {cl : Int → Int} {cw : Int → Int} {tk : Int → Int} {nL : Int} {kd : Int → Int} {wy : Int → Int} {wh : Int → Int} {F : Int → Prop} {a b : Int} (hG : pj_G W sd op ed) (p0_ : ∀ v, ¬ F v) (p1_ : W b) (p2_ : W a) (p3_ : sd a = (sd b)) (p4_ : om (sd b) = ed a) (p5_ : om (sd (op a)) = ed a) (p6_ : st (sd b) = 2) (p7_ : ps (sd b) = 0) (p8_ : dl (sd b) = lv (sd b)) (p9_ : 1 ≤ lv (sd b)) (p10_ : tk (nm (sd b)) = 1) (p11_ : cw (nm (sd b)) = -1) (p12_ : st (sd (op a)) ≠ 1) (p13_ : dl (sd (op a)) = lv (sd (op a))) (p14_ : dl (sd (op a)) = lv (sd b)) (p15_ : dn (sd (op a)) = nm (sd b)) (p16_ : en a = 1) (p17_ : en (op a) = 1) (p18_ : cl (ed a) ≤ lv (sd b)) (p19_ : a ≠ b) (p20_ : b ≠ -1) (p21_ : ∀ j, 0 ≤ j → j < nL → wh j ≠ 2 → kd j = 6 → nm (sd (op (wy j))) ≠ nm (sd b)) (p22_ : ∀ j, 0 ≤ j → j < nL → wh j ≠ 2 → kd j = 5 → wy j ≠ op a) (p23_ : tow (sd b) = (ed b)) (p24_ : om (sd b) ≠ (ed b)) (p25_ : nm (sd b) ≠ (ed b)) (p26_ : nm (sd b) = ed a → tk (ed a) = 1) (p27_ : en b = 0) (p28_ : nm (sd (op b)) ≠ nm (sd b)) (p29_ : lv (sd b) ≤ lv (sd (op b))) (p30_ : en (op b) ≠ 2) (p31_ : en (op b) = 0 ∨ en (op b) = 1) (p32_ : cl (ed b) = 0) (p33_ : en (op b) = 1 → om (sd (op b)) = (ed b) ∧ ps (sd (op b)) = 1 ∧ dl (sd (op b)) = lv (sd (op b)) ∧ lv (sd (op b)) = lv (sd b)) (p34_ : 0 ≤ nL) (cN2e : pj_N2e W sd ed om) : pj_N2e W sd ed (pu om (sd b) (ed b)) := by
  obtain ⟨hop, hed⟩ := hG
  unfold pj_N2e at *
  intro n0
  simp only [pu]
  have g0 := hop b
  have g1 := hop a
  have g2 := hed b a
  have cN2e_0 := cN2e (sd (op b))
  have cN2e_1 := cN2e (sd (op a))
  have cN2e_2 := cN2e n0
  have cN2e_3 := cN2e (sd b)
  have cN2e_4 := cN2e (sd a)
  have f0 := p0_ b
  have f1 := p0_ a
  have f2 := p0_ (op b)
  clear p0_ p21_ p22_
  clear hop hed cN2e
  grind (splits := 24)

set_option maxHeartbeats 1000000 in
theorem pt_cb_N2b {W : Int → Prop} {sd : Int → Int} {op : Int → Int} {ed : Int → Int} {st : Int → Int} {lv : Int → Int} {nm : Int → Int} {tow : Int → Int} {om : Int → Int} {ps : Int → Int} {dl : Int → Int} {dn : Int → Int} {en : Int → Int} {cl : Int → Int} {cw : Int → Int} {tk : Int → Int} {nL : Int} {kd : Int → Int} {wy : Int → Int} {wh : Int → Int} {F : Int → Prop} {a b : Int} (hG : pj_G W sd op ed) (p0_ : ∀ v, ¬ F v) (p1_ : W b) (p2_ : W a) (p3_ : sd a = (sd b)) (p4_ : om (sd b) = ed a) (p5_ : om (sd (op a)) = ed a) (p6_ : st (sd b) = 2) (p7_ : ps (sd b) = 0) (p8_ : dl (sd b) = lv (sd b)) (p9_ : 1 ≤ lv (sd b)) (p10_ : tk (nm (sd b)) = 1) (p11_ : cw (nm (sd b)) = -1) (p12_ : st (sd (op a)) ≠ 1) (p13_ : dl (sd (op a)) = lv (sd (op a))) (p14_ : dl (sd (op a)) = lv (sd b)) (p15_ : dn (sd (op a)) = nm (sd b)) (p16_ : en a = 1) (p17_ : en (op a) = 1) (p18_ : cl (ed a) ≤ lv (sd b)) (p19_ : a ≠ b) (p20_ : b ≠ -1) (p21_ : ∀ j, 0 ≤ j → j < nL → wh j ≠ 2 → kd j = 6 → nm (sd (op (wy j))) ≠ nm (sd b)) (p22_ : ∀ j, 0 ≤ j → j < nL → wh j ≠ 2 → kd j = 5 → wy j ≠ op a) (p23_ : tow (sd b) = (ed b)) (p24_ : om (sd b) ≠ (ed b)) (p25_ : nm (sd b) ≠ (ed b)) (p26_ : nm (sd b) = ed a → tk (ed a) = 1) (p27_ : en b = 0) (p28_ : nm (sd (op b)) ≠ nm (sd b)) (p29_ : lv (sd b) ≤ lv (sd (op b))) (p30_ : en (op b) ≠ 2) (p31_ : en (op b) = 0 ∨ en (op b) = 1) (p32_ : cl (ed b) = 0) (p33_ : en (op b) = 1 → om (sd (op b)) = (ed b) ∧ ps (sd (op b)) = 1 ∧ dl (sd (op b)) = lv (sd (op b)) ∧ lv (sd (op b)) = lv (sd b)) (p34_ : 0 ≤ nL) (cN2b : pj_N2b W sd st om) : pj_N2b W sd st (pu om (sd b) (ed b)) := by
  obtain ⟨hop, hed⟩ := hG
  unfold pj_N2b at *
  intro w0
  simp only [pu]
  have g0 := hop b
  have g1 := hop a
  have g2 := hop w0
  have g3 := hed b a
  have g4 := hed b w0
  have g5 := hed a w0
  have cN2b_0 := cN2b b
  have cN2b_1 := cN2b a
  have cN2b_2 := cN2b w0
  have cN2b_3 := cN2b (op w0)
  have f0 := p0_ b
  have f1 := p0_ a
  have f2 := p0_ w0
  have f3 := p0_ (op w0)
  have f4 := p0_ (op b)
  clear p0_ p21_ p22_
  clear hop hed cN2b
  grind (splits := 24)

set_option maxHeartbeats 1000000 in
theorem pt_cb_N4b {W : Int → Prop} {sd : Int → Int} {op : Int → Int} {ed : Int → Int} {st : Int → Int} {lv : Int → Int} {nm : Int → Int} {inw : Int → Int} {tow : Int → Int} {bst : Int → Int} {om : Int → Int} {ps : Int → Int} {dl : Int → Int} {dn : Int → Int} {en : Int → Int} {cl : Int → Int} {cw : Int → Int} {tk : Int → Int} {nL : Int} {kd : Int → Int} {wy : Int → Int} {wh : Int → Int} {F : Int → Prop} {a b : Int} (hG : pj_G W sd op ed) (p0_ : ∀ v, ¬ F v) (p1_ : W b) (p2_ : W a) (p3_ : sd a = (sd b)) (p4_ : om (sd b) = ed a) (p5_ : om (sd (op a)) = ed a) (p6_ : st (sd b) = 2) (p7_ : ps (sd b) = 0) (p8_ : dl (sd b) = lv (sd b)) (p9_ : 1 ≤ lv (sd b)) (p10_ : tk (nm (sd b)) = 1) (p11_ : cw (nm (sd b)) = -1) (p12_ : st (sd (op a)) ≠ 1) (p13_ : dl (sd (op a)) = lv (sd (op a))) (p14_ : dl (sd (op a)) = lv (sd b)) (p15_ : dn (sd (op a)) = nm (sd b)) (p16_ : en a = 1) (p17_ : en (op a) = 1) (p18_ : cl (ed a) ≤ lv (sd b)) (p19_ : a ≠ b) (p20_ : b ≠ -1) (p21_ : ∀ j, 0 ≤ j → j < nL → wh j ≠ 2 → kd j = 6 → nm (sd (op (wy j))) ≠ nm (sd b)) (p22_ : ∀ j, 0 ≤ j → j < nL → wh j ≠ 2 → kd j = 5 → wy j ≠ op a) (p23_ : tow (sd b) = (ed b)) (p24_ : om (sd b) ≠ (ed b)) (p25_ : nm (sd b) ≠ (ed b)) (p26_ : nm (sd b) = ed a → tk (ed a) = 1) (p27_ : en b = 0) (p28_ : nm (sd (op b)) ≠ nm (sd b)) (p29_ : lv (sd b) ≤ lv (sd (op b))) (p30_ : en (op b) ≠ 2) (p31_ : en (op b) = 0 ∨ en (op b) = 1) (p32_ : cl (ed b) = 0) (p33_ : en (op b) = 1 → om (sd (op b)) = (ed b) ∧ ps (sd (op b)) = 1 ∧ dl (sd (op b)) = lv (sd (op b)) ∧ lv (sd (op b)) = lv (sd b)) (p34_ : 0 ≤ nL) (cN4b : pj_N4b st lv nm inw tow bst om ps) : pj_N4b st lv nm inw tow bst (pu om (sd b) (ed b)) (pu ps (sd b) 1) := by
  obtain ⟨hop, hed⟩ := hG
  unfold pj_N4b at *
  intro n0
  simp only [pu]
  have g0 := hop b
  have g1 := hop a
  have g2 := hed b a
  have cN4b_0 := cN4b (sd (op b))
  have cN4b_1 := cN4b (sd (op a))
  have cN4b_2 := cN4b n0
  have cN4b_3 := cN4b (sd b)
  have cN4b_4 := cN4b (sd a)
  have f0 := p0_ b
  have f1 := p0_ a
  have f2 := p0_ (op b)
  clear p0_ p21_ p22_
  clear hop hed cN4b
  grind (splits := 24)

set_option maxHeartbeats 1000000 in
theorem pt_cb_N5 {W : Int → Prop} {sd : Int → Int} {op : Int → Int} {ed : Int → Int} {st : Int → Int} {lv : Int → Int} {nm : Int → Int} {inw : Int → Int} {tow : Int → Int} {om : Int → Int} {ps : Int → Int} {dl : Int → Int} {dn : Int → Int} {en : Int → Int} {cl : Int → Int} {cw : Int → Int} {tk : Int → Int} {nL : Int} {kd : Int → Int} {wy : Int → Int} {wh : Int → Int} {F : Int → Prop} {a b : Int} (hG : pj_G W sd op ed) (p0_ : ∀ v, ¬ F v) (p1_ : W b) (p2_ : W a) (p3_ : sd a = (sd b)) (p4_ : om (sd b) = ed a) (p5_ : om (sd (op a)) = ed a) (p6_ : st (sd b) = 2) (p7_ : ps (sd b) = 0) (p8_ : dl (sd b) = lv (sd b)) (p9_ : 1 ≤ lv (sd b)) (p10_ : tk (nm (sd b)) = 1) (p11_ : cw (nm (sd b)) = -1) (p12_ : st (sd (op a)) ≠ 1) (p13_ : dl (sd (op a)) = lv (sd (op a))) (p14_ : dl (sd (op a)) = lv (sd b)) (p15_ : dn (sd (op a)) = nm (sd b)) (p16_ : en a = 1) (p17_ : en (op a) = 1) (p18_ : cl (ed a) ≤ lv (sd b)) (p19_ : a ≠ b) (p20_ : b ≠ -1) (p21_ : ∀ j, 0 ≤ j → j < nL → wh j ≠ 2 → kd j = 6 → nm (sd (op (wy j))) ≠ nm (sd b)) (p22_ : ∀ j, 0 ≤ j → j < nL → wh j ≠ 2 → kd j = 5 → wy j ≠ op a) (p23_ : tow (sd b) = (ed b)) (p24_ : om (sd b) ≠ (ed b)) (p25_ : nm (sd b) ≠ (ed b)) (p26_ : nm (sd b) = ed a → tk (ed a) = 1) (p27_ : en b = 0) (p28_ : nm (sd (op b)) ≠ nm (sd b)) (p29_ : lv (sd b) ≤ lv (sd (op b))) (p30_ : en (op b) ≠ 2) (p31_ : en (op b) = 0 ∨ en (op b) = 1) (p32_ : cl (ed b) = 0) (p33_ : en (op b) = 1 → om (sd (op b)) = (ed b) ∧ ps (sd (op b)) = 1 ∧ dl (sd (op b)) = lv (sd (op b)) ∧ lv (sd (op b)) = lv (sd b)) (p34_ : 0 ≤ nL) (cN5 : pj_N5 lv inw om ps) : pj_N5 lv inw (pu om (sd b) (ed b)) (pu ps (sd b) 1) := by
  obtain ⟨hop, hed⟩ := hG
  unfold pj_N5 at *
  intro n0
  simp only [pu]
  have g0 := hop b
  have g1 := hop a
  have g2 := hed b a
  have cN5_0 := cN5 (sd (op b))
  have cN5_1 := cN5 (sd (op a))
  have cN5_2 := cN5 n0
  have cN5_3 := cN5 (sd b)
  have cN5_4 := cN5 (sd a)
  have f0 := p0_ b
  have f1 := p0_ a
  have f2 := p0_ (op b)
  clear p0_ p21_ p22_
  clear hop hed cN5
  grind (splits := 24)

set_option maxHeartbeats 1000000 in
theorem pt_cb_E1 {W : Int → Prop} {sd : Int → Int} {op : Int → Int} {ed : Int → Int} {st : Int → Int} {lv : Int → Int} {nm : Int → Int} {tow : Int → Int} {om : Int → Int} {ps : Int → Int} {dl : Int → Int} {dn : Int → Int} {en : Int → Int} {cl : Int → Int} {cw : Int → Int} {tk : Int → Int} {nL : Int} {kd : Int → Int} {wy : Int → Int} {ll : Int → Int} {wh : Int → Int} {F : Int → Prop} {a b : Int} (hG : pj_G W sd op ed) (p0_ : ∀ v, ¬ F v) (p1_ : W b) (p2_ : W a) (p3_ : sd a = (sd b)) (p4_ : om (sd b) = ed a) (p5_ : om (sd (op a)) = ed a) (p6_ : st (sd b) = 2) (p7_ : ps (sd b) = 0) (p8_ : dl (sd b) = lv (sd b)) (p9_ : 1 ≤ lv (sd b)) (p10_ : tk (nm (sd b)) = 1) (p11_ : cw (nm (sd b)) = -1) (p12_ : st (sd (op a)) ≠ 1) (p13_ : dl (sd (op a)) = lv (sd (op a))) (p14_ : dl (sd (op a)) = lv (sd b)) (p15_ : dn (sd (op a)) = nm (sd b)) (p16_ : en a = 1) (p17_ : en (op a) = 1) (p18_ : cl (ed a) ≤ lv (sd b)) (p19_ : a ≠ b) (p20_ : b ≠ -1) (p21_ : ∀ j, 0 ≤ j → j < nL → wh j ≠ 2 → kd j = 6 → nm (sd (op (wy j))) ≠ nm (sd b)) (p22_ : ∀ j, 0 ≤ j → j < nL → wh j ≠ 2 → kd j = 5 → wy j ≠ op a) (p23_ : tow (sd b) = (ed b)) (p24_ : om (sd b) ≠ (ed b)) (p25_ : nm (sd b) ≠ (ed b)) (p26_ : nm (sd b) = ed a → tk (ed a) = 1) (p27_ : en b = 0) (p28_ : nm (sd (op b)) ≠ nm (sd b)) (p29_ : lv (sd b) ≤ lv (sd (op b))) (p30_ : en (op b) ≠ 2) (p31_ : en (op b) = 0 ∨ en (op b) = 1) (p32_ : cl (ed b) = 0) (p33_ : en (op b) = 1 → om (sd (op b)) = (ed b) ∧ ps (sd (op b)) = 1 ∧ dl (sd (op b)) = lv (sd (op b)) ∧ lv (sd (op b)) = lv (sd b)) (p34_ : 0 ≤ nL) (cE1 : pj_E1 sd op lv dl nL kd wy ll wh) : pj_E1 sd op lv dl (nL + 1) (pu kd nL 0) (pu wy nL b) (pu ll nL (lv (sd b))) (pu wh nL 0) := by
  obtain ⟨hop, hed⟩ := hG
  unfold pj_E1 at *
  intro n0
  simp only [pu]
  have g0 := hop b
  have g1 := hop a
  have g2 := hed b a
  have cE1_0 := cE1 (sd (op b))
  have cE1_1 := cE1 (sd (op a))
  have cE1_2 := cE1 n0
  have cE1_3 := cE1 (sd b)
  have cE1_4 := cE1 (sd a)
  have f0 := p0_ b
  have f1 := p0_ a
  have f2 := p0_ (op b)
  clear p0_ p21_ p22_
  clear hop hed cE1
  grind (splits := 24)

set_option maxHeartbeats 1000000 in
theorem pt_cb_U {W : Int → Prop} {sd : Int → Int} {op : Int → Int} {ed : Int → Int} {st : Int → Int} {lv : Int → Int} {nm : Int → Int} {tow : Int → Int} {om : Int → Int} {ps : Int → Int} {dl : Int → Int} {dn : Int → Int} {en : Int → Int} {cl : Int → Int} {cw : Int → Int} {tk : Int → Int} {nL : Int} {kd : Int → Int} {wy : Int → Int} {wh : Int → Int} {F : Int → Prop} {a b : Int} (hG : pj_G W sd op ed) (p0_ : ∀ v, ¬ F v) (p1_ : W b) (p2_ : W a) (p3_ : sd a = (sd b)) (p4_ : om (sd b) = ed a) (p5_ : om (sd (op a)) = ed a) (p6_ : st (sd b) = 2) (p7_ : ps (sd b) = 0) (p8_ : dl (sd b) = lv (sd b)) (p9_ : 1 ≤ lv (sd b)) (p10_ : tk (nm (sd b)) = 1) (p11_ : cw (nm (sd b)) = -1) (p12_ : st (sd (op a)) ≠ 1) (p13_ : dl (sd (op a)) = lv (sd (op a))) (p14_ : dl (sd (op a)) = lv (sd b)) (p15_ : dn (sd (op a)) = nm (sd b)) (p16_ : en a = 1) (p17_ : en (op a) = 1) (p18_ : cl (ed a) ≤ lv (sd b)) (p19_ : a ≠ b) (p20_ : b ≠ -1) (p21_ : ∀ j, 0 ≤ j → j < nL → wh j ≠ 2 → kd j = 6 → nm (sd (op (wy j))) ≠ nm (sd b)) (p22_ : ∀ j, 0 ≤ j → j < nL → wh j ≠ 2 → kd j = 5 → wy j ≠ op a) (p23_ : tow (sd b) = (ed b)) (p24_ : om (sd b) ≠ (ed b)) (p25_ : nm (sd b) ≠ (ed b)) (p26_ : nm (sd b) = ed a → tk (ed a) = 1) (p27_ : en b = 0) (p28_ : nm (sd (op b)) ≠ nm (sd b)) (p29_ : lv (sd b) ≤ lv (sd (op b))) (p30_ : en (op b) ≠ 2) (p31_ : en (op b) = 0 ∨ en (op b) = 1) (p32_ : cl (ed b) = 0) (p33_ : en (op b) = 1 → om (sd (op b)) = (ed b) ∧ ps (sd (op b)) = 1 ∧ dl (sd (op b)) = lv (sd (op b)) ∧ lv (sd (op b)) = lv (sd b)) (p34_ : 0 ≤ nL) (cU : pj_U W sd op ed lv nm om ps dl en cl) : pj_U W sd op ed lv nm (pu om (sd b) (ed b)) (pu ps (sd b) 1) dl (pu en b 1) cl := by
  obtain ⟨hop, hed⟩ := hG
  unfold pj_U at *
  intro w0
  simp only [pu]
  have g0 := hop b
  have g1 := hop a
  have g2 := hop w0
  have g3 := hed b a
  have g4 := hed b w0
  have g5 := hed a w0
  have cU_0 := cU b
  have cU_1 := cU a
  have cU_2 := cU w0
  have cU_3 := cU (op w0)
  have f0 := p0_ b
  have f1 := p0_ a
  have f2 := p0_ w0
  have f3 := p0_ (op w0)
  have f4 := p0_ (op b)
  clear p0_ p21_ p22_
  clear hop hed cU
  grind (splits := 24)

set_option maxHeartbeats 1000000 in
theorem pt_cb_A1 {W : Int → Prop} {sd : Int → Int} {op : Int → Int} {ed : Int → Int} {st : Int → Int} {lv : Int → Int} {nm : Int → Int} {tow : Int → Int} {om : Int → Int} {ps : Int → Int} {dl : Int → Int} {dn : Int → Int} {en : Int → Int} {cl : Int → Int} {cw : Int → Int} {tk : Int → Int} {nL : Int} {kd : Int → Int} {wy : Int → Int} {wh : Int → Int} {F : Int → Prop} {fl : Int} {fc : Int} {a b : Int} (hG : pj_G W sd op ed) (p0_ : ∀ v, ¬ F v) (p1_ : W b) (p2_ : W a) (p3_ : sd a = (sd b)) (p4_ : om (sd b) = ed a) (p5_ : om (sd (op a)) = ed a) (p6_ : st (sd b) = 2) (p7_ : ps (sd b) = 0) (p8_ : dl (sd b) = lv (sd b)) (p9_ : 1 ≤ lv (sd b)) (p10_ : tk (nm (sd b)) = 1) (p11_ : cw (nm (sd b)) = -1) (p12_ : st (sd (op a)) ≠ 1) (p13_ : dl (sd (op a)) = lv (sd (op a))) (p14_ : dl (sd (op a)) = lv (sd b)) (p15_ : dn (sd (op a)) = nm (sd b)) (p16_ : en a = 1) (p17_ : en (op a) = 1) (p18_ : cl (ed a) ≤ lv (sd b)) (p19_ : a ≠ b) (p20_ : b ≠ -1) (p21_ : ∀ j, 0 ≤ j → j < nL → wh j ≠ 2 → kd j = 6 → nm (sd (op (wy j))) ≠ nm (sd b)) (p22_ : ∀ j, 0 ≤ j → j < nL → wh j ≠ 2 → kd j = 5 → wy j ≠ op a) (p23_ : tow (sd b) = (ed b)) (p24_ : om (sd b) ≠ (ed b)) (p25_ : nm (sd b) ≠ (ed b)) (p26_ : nm (sd b) = ed a → tk (ed a) = 1) (p27_ : en b = 0) (p28_ : nm (sd (op b)) ≠ nm (sd b)) (p29_ : lv (sd b) ≤ lv (sd (op b))) (p30_ : en (op b) ≠ 2) (p31_ : en (op b) = 0 ∨ en (op b) = 1) (p32_ : cl (ed b) = 0) (p33_ : en (op b) = 1 → om (sd (op b)) = (ed b) ∧ ps (sd (op b)) = 1 ∧ dl (sd (op b)) = lv (sd (op b)) ∧ lv (sd (op b)) = lv (sd b)) (p34_ : 0 ≤ nL) (cA1 : pj_A1 W sd op ed lv nm om dl dn en F fl fc) : pj_A1 W sd op ed lv nm (pu om (sd b) (ed b)) dl dn (pu en b 1) F fl fc := by
  obtain ⟨hop, hed⟩ := hG
  unfold pj_A1 at *
  intro w0
  simp only [pu]
  have g0 := hop b
  have g1 := hop a
  have g2 := hop w0
  have g3 := hed b a
  have g4 := hed b w0
  have g5 := hed a w0
  have cA1_0 := cA1 b
  have cA1_1 := cA1 a
  have cA1_2 := cA1 w0
  have cA1_3 := cA1 (op w0)
  have f0 := p0_ b
  have f1 := p0_ a
  have f2 := p0_ w0
  have f3 := p0_ (op w0)
  have f4 := p0_ (op b)
  clear p0_ p21_ p22_
  clear hop hed cA1
  grind (splits := 24)

set_option maxHeartbeats 1000000 in
theorem pt_cb_A2 {W : Int → Prop} {sd : Int → Int} {op : Int → Int} {ed : Int → Int} {st : Int → Int} {lv : Int → Int} {nm : Int → Int} {tow : Int → Int} {om : Int → Int} {ps : Int → Int} {dl : Int → Int} {dn : Int → Int} {en : Int → Int} {cl : Int → Int} {cw : Int → Int} {tk : Int → Int} {nL : Int} {kd : Int → Int} {wy : Int → Int} {wh : Int → Int} {F : Int → Prop} {a b : Int} (hG : pj_G W sd op ed) (p0_ : ∀ v, ¬ F v) (p1_ : W b) (p2_ : W a) (p3_ : sd a = (sd b)) (p4_ : om (sd b) = ed a) (p5_ : om (sd (op a)) = ed a) (p6_ : st (sd b) = 2) (p7_ : ps (sd b) = 0) (p8_ : dl (sd b) = lv (sd b)) (p9_ : 1 ≤ lv (sd b)) (p10_ : tk (nm (sd b)) = 1) (p11_ : cw (nm (sd b)) = -1) (p12_ : st (sd (op a)) ≠ 1) (p13_ : dl (sd (op a)) = lv (sd (op a))) (p14_ : dl (sd (op a)) = lv (sd b)) (p15_ : dn (sd (op a)) = nm (sd b)) (p16_ : en a = 1) (p17_ : en (op a) = 1) (p18_ : cl (ed a) ≤ lv (sd b)) (p19_ : a ≠ b) (p20_ : b ≠ -1) (p21_ : ∀ j, 0 ≤ j → j < nL → wh j ≠ 2 → kd j = 6 → nm (sd (op (wy j))) ≠ nm (sd b)) (p22_ : ∀ j, 0 ≤ j → j < nL → wh j ≠ 2 → kd j = 5 → wy j ≠ op a) (p23_ : tow (sd b) = (ed b)) (p24_ : om (sd b) ≠ (ed b)) (p25_ : nm (sd b) ≠ (ed b)) (p26_ : nm (sd b) = ed a → tk (ed a) = 1) (p27_ : en b = 0) (p28_ : nm (sd (op b)) ≠ nm (sd b)) (p29_ : lv (sd b) ≤ lv (sd (op b))) (p30_ : en (op b) ≠ 2) (p31_ : en (op b) = 0 ∨ en (op b) = 1) (p32_ : cl (ed b) = 0) (p33_ : en (op b) = 1 → om (sd (op b)) = (ed b) ∧ ps (sd (op b)) = 1 ∧ dl (sd (op b)) = lv (sd (op b)) ∧ lv (sd (op b)) = lv (sd b)) (p34_ : 0 ≤ nL) (cA2 : pj_A2 W sd op ed st lv nm om ps dl dn cl) (cN2 : pj_N2 W sd ed om en) (cU : pj_U W sd op ed lv nm om ps dl en cl) : pj_A2 W sd op ed st lv nm (pu om (sd b) (ed b)) (pu ps (sd b) 1) dl dn cl := by
  obtain ⟨hop, hed⟩ := hG
  unfold pj_A2 pj_N2 pj_U at *
  intro w0
  simp only [pu]
  have g0 := hop b
  have g1 := hop a
  have g2 := hop w0
  have g3 := hed b a
  have g4 := hed b w0
  have g5 := hed a w0
  have cA2_0 := cA2 b
  have cA2_1 := cA2 a
  have cA2_2 := cA2 w0
  have cA2_3 := cA2 (op w0)
  have cN2_0 := cN2 b
  have cN2_1 := cN2 a
  have cN2_2 := cN2 w0
  have cN2_3 := cN2 (op w0)
  have cU_0 := cU b
  have cU_1 := cU a
  have cU_2 := cU w0
  have cU_3 := cU (op w0)
  have f0 := p0_ b
  have f1 := p0_ a
  have f2 := p0_ w0
  have f3 := p0_ (op w0)
  have f4 := p0_ (op b)
  clear p0_ p21_ p22_
  clear hop hed cA2 cN2 cU
  grind (splits := 24)

set_option maxHeartbeats 1000000 in
theorem pt_cb_EC {W : Int → Prop} {sd : Int → Int} {op : Int → Int} {ed : Int → Int} {st : Int → Int} {lv : Int → Int} {nm : Int → Int} {tow : Int → Int} {om : Int → Int} {ps : Int → Int} {dl : Int → Int} {dn : Int → Int} {c0 : Int → Int} {en : Int → Int} {cl : Int → Int} {cw : Int → Int} {tk : Int → Int} {nL : Int} {kd : Int → Int} {wy : Int → Int} {ll : Int → Int} {wh : Int → Int} {F : Int → Prop} {a b : Int} (hG : pj_G W sd op ed) (p0_ : ∀ v, ¬ F v) (p1_ : W b) (p2_ : W a) (p3_ : sd a = (sd b)) (p4_ : om (sd b) = ed a) (p5_ : om (sd (op a)) = ed a) (p6_ : st (sd b) = 2) (p7_ : ps (sd b) = 0) (p8_ : dl (sd b) = lv (sd b)) (p9_ : 1 ≤ lv (sd b)) (p10_ : tk (nm (sd b)) = 1) (p11_ : cw (nm (sd b)) = -1) (p12_ : st (sd (op a)) ≠ 1) (p13_ : dl (sd (op a)) = lv (sd (op a))) (p14_ : dl (sd (op a)) = lv (sd b)) (p15_ : dn (sd (op a)) = nm (sd b)) (p16_ : en a = 1) (p17_ : en (op a) = 1) (p18_ : cl (ed a) ≤ lv (sd b)) (p19_ : a ≠ b) (p20_ : b ≠ -1) (p21_ : ∀ j, 0 ≤ j → j < nL → wh j ≠ 2 → kd j = 6 → nm (sd (op (wy j))) ≠ nm (sd b)) (p22_ : ∀ j, 0 ≤ j → j < nL → wh j ≠ 2 → kd j = 5 → wy j ≠ op a) (p23_ : tow (sd b) = (ed b)) (p24_ : om (sd b) ≠ (ed b)) (p25_ : nm (sd b) ≠ (ed b)) (p26_ : nm (sd b) = ed a → tk (ed a) = 1) (p27_ : en b = 0) (p28_ : nm (sd (op b)) ≠ nm (sd b)) (p29_ : lv (sd b) ≤ lv (sd (op b))) (p30_ : en (op b) ≠ 2) (p31_ : en (op b) = 0 ∨ en (op b) = 1) (p32_ : cl (ed b) = 0) (p33_ : en (op b) = 1 → om (sd (op b)) = (ed b) ∧ ps (sd (op b)) = 1 ∧ dl (sd (op b)) = lv (sd (op b)) ∧ lv (sd (op b)) = lv (sd b)) (p34_ : 0 ≤ nL) (cEC : pj_EC W sd op ed lv nm om ps dl nL kd wy wh F) (cL0 : pj_L0 sd op ed lv nm om ps dl c0 en cw nL kd wy ll wh) : pj_EC W sd op ed lv nm (pu om (sd b) (ed b)) (pu ps (sd b) 1) dl (nL + 1) (pu kd nL 0) (pu wy nL b) (pu wh nL 0) F := by
  obtain ⟨hop, hed⟩ := hG
  unfold pj_EC pj_L0 at *
  intro w0
  simp only [pu]
  have g0 := hop b
  have g1 := hop a
  have g2 := hop w0
  have g3 := hed b a
  have g4 := hed b w0
  have g5 := hed a w0
  have cEC_0 := cEC w0
  have f0 := p0_ b
  have f1 := p0_ a
  have f2 := p0_ w0
  have f3 := p0_ (op w0)
  have f4 := p0_ (op b)
  clear p0_ p21_ p22_
  clear hop hed cEC cL0
  intro h1 h2 h3 h4 h5
  by_cases hq : w0 = b
  · right; exact ⟨nL, by grind⟩
  · rcases cEC_0 h1 (by grind) (by grind) h4 h5 with h6 | ⟨k1, hk⟩
    · left; grind
    · right; exact ⟨k1, by grind⟩

set_option maxHeartbeats 1000000 in
theorem pt_cb_R3 {W : Int → Prop} {sd : Int → Int} {op : Int → Int} {ed : Int → Int} {st : Int → Int} {lv : Int → Int} {nm : Int → Int} {tow : Int → Int} {om : Int → Int} {ps : Int → Int} {dl : Int → Int} {dn : Int → Int} {en : Int → Int} {pd : Int → Int} {cl : Int → Int} {cw : Int → Int} {tk : Int → Int} {nL : Int} {kd : Int → Int} {wy : Int → Int} {wh : Int → Int} {F : Int → Prop} {a b : Int} (hG : pj_G W sd op ed) (p0_ : ∀ v, ¬ F v) (p1_ : W b) (p2_ : W a) (p3_ : sd a = (sd b)) (p4_ : om (sd b) = ed a) (p5_ : om (sd (op a)) = ed a) (p6_ : st (sd b) = 2) (p7_ : ps (sd b) = 0) (p8_ : dl (sd b) = lv (sd b)) (p9_ : 1 ≤ lv (sd b)) (p10_ : tk (nm (sd b)) = 1) (p11_ : cw (nm (sd b)) = -1) (p12_ : st (sd (op a)) ≠ 1) (p13_ : dl (sd (op a)) = lv (sd (op a))) (p14_ : dl (sd (op a)) = lv (sd b)) (p15_ : dn (sd (op a)) = nm (sd b)) (p16_ : en a = 1) (p17_ : en (op a) = 1) (p18_ : cl (ed a) ≤ lv (sd b)) (p19_ : a ≠ b) (p20_ : b ≠ -1) (p21_ : ∀ j, 0 ≤ j → j < nL → wh j ≠ 2 → kd j = 6 → nm (sd (op (wy j))) ≠ nm (sd b)) (p22_ : ∀ j, 0 ≤ j → j < nL → wh j ≠ 2 → kd j = 5 → wy j ≠ op a) (p23_ : tow (sd b) = (ed b)) (p24_ : om (sd b) ≠ (ed b)) (p25_ : nm (sd b) ≠ (ed b)) (p26_ : nm (sd b) = ed a → tk (ed a) = 1) (p27_ : en b = 0) (p28_ : nm (sd (op b)) ≠ nm (sd b)) (p29_ : lv (sd b) ≤ lv (sd (op b))) (p30_ : en (op b) ≠ 2) (p31_ : en (op b) = 0 ∨ en (op b) = 1) (p32_ : cl (ed b) = 0) (p33_ : en (op b) = 1 → om (sd (op b)) = (ed b) ∧ ps (sd (op b)) = 1 ∧ dl (sd (op b)) = lv (sd (op b)) ∧ lv (sd (op b)) = lv (sd b)) (p34_ : 0 ≤ nL) (cR3 : pj_R3 W sd op ed st om pd) : pj_R3 W sd op ed st (pu om (sd b) (ed b)) pd := by
  obtain ⟨hop, hed⟩ := hG
  unfold pj_R3 at *
  intro w0
  simp only [pu]
  have g0 := hop b
  have g1 := hop a
  have g2 := hop w0
  have g3 := hed b a
  have g4 := hed b w0
  have g5 := hed a w0
  have cR3_0 := cR3 b
  have cR3_1 := cR3 a
  have cR3_2 := cR3 w0
  have cR3_3 := cR3 (op w0)
  have f0 := p0_ b
  have f1 := p0_ a
  have f2 := p0_ w0
  have f3 := p0_ (op w0)
  have f4 := p0_ (op b)
  clear p0_ p21_ p22_
  clear hop hed cR3
  grind (splits := 24)

set_option maxHeartbeats 1000000 in
theorem pt_cb_N11 {W : Int → Prop} {sd : Int → Int} {op : Int → Int} {ed : Int → Int} {st : Int → Int} {lv : Int → Int} {nm : Int → Int} {tow : Int → Int} {tst : Int → Int} {om : Int → Int} {ps : Int → Int} {dl : Int → Int} {dn : Int → Int} {en : Int → Int} {cl : Int → Int} {cw : Int → Int} {tk : Int → Int} {nL : Int} {kd : Int → Int} {wy : Int → Int} {wh : Int → Int} {F : Int → Prop} {a b : Int} (hG : pj_G W sd op ed) (p0_ : ∀ v, ¬ F v) (p1_ : W b) (p2_ : W a) (p3_ : sd a = (sd b)) (p4_ : om (sd b) = ed a) (p5_ : om (sd (op a)) = ed a) (p6_ : st (sd b) = 2) (p7_ : ps (sd b) = 0) (p8_ : dl (sd b) = lv (sd b)) (p9_ : 1 ≤ lv (sd b)) (p10_ : tk (nm (sd b)) = 1) (p11_ : cw (nm (sd b)) = -1) (p12_ : st (sd (op a)) ≠ 1) (p13_ : dl (sd (op a)) = lv (sd (op a))) (p14_ : dl (sd (op a)) = lv (sd b)) (p15_ : dn (sd (op a)) = nm (sd b)) (p16_ : en a = 1) (p17_ : en (op a) = 1) (p18_ : cl (ed a) ≤ lv (sd b)) (p19_ : a ≠ b) (p20_ : b ≠ -1) (p21_ : ∀ j, 0 ≤ j → j < nL → wh j ≠ 2 → kd j = 6 → nm (sd (op (wy j))) ≠ nm (sd b)) (p22_ : ∀ j, 0 ≤ j → j < nL → wh j ≠ 2 → kd j = 5 → wy j ≠ op a) (p23_ : tow (sd b) = (ed b)) (p24_ : om (sd b) ≠ (ed b)) (p25_ : nm (sd b) ≠ (ed b)) (p26_ : nm (sd b) = ed a → tk (ed a) = 1) (p27_ : en b = 0) (p28_ : nm (sd (op b)) ≠ nm (sd b)) (p29_ : lv (sd b) ≤ lv (sd (op b))) (p30_ : en (op b) ≠ 2) (p31_ : en (op b) = 0 ∨ en (op b) = 1) (p32_ : cl (ed b) = 0) (p33_ : en (op b) = 1 → om (sd (op b)) = (ed b) ∧ ps (sd (op b)) = 1 ∧ dl (sd (op b)) = lv (sd (op b)) ∧ lv (sd (op b)) = lv (sd b)) (p34_ : 0 ≤ nL) (cN11 : pj_N11 W sd op ed lv nm tow tst ps en) : pj_N11 W sd op ed lv nm tow tst (pu ps (sd b) 1) (pu en b 1) := by
  obtain ⟨hop, hed⟩ := hG
  unfold pj_N11 at *
  intro w0
  simp only [pu]
  have g0 := hop b
  have g1 := hop a
  have g2 := hop w0
  have g3 := hed b a
  have g4 := hed b w0
  have g5 := hed a w0
  have cN11_0 := cN11 b
  have cN11_1 := cN11 a
  have cN11_2 := cN11 w0
  have cN11_3 := cN11 (op w0)
  have f0 := p0_ b
  have f1 := p0_ a
  have f2 := p0_ w0
  have f3 := p0_ (op w0)
  have f4 := p0_ (op b)
  clear p0_ p21_ p22_
  clear hop hed cN11
  grind (splits := 24)

set_option maxHeartbeats 1000000 in
theorem pt_cb_N12 {W : Int → Prop} {sd : Int → Int} {op : Int → Int} {ed : Int → Int} {st : Int → Int} {lv : Int → Int} {nm : Int → Int} {inw : Int → Int} {tow : Int → Int} {om : Int → Int} {ps : Int → Int} {dl : Int → Int} {dn : Int → Int} {en : Int → Int} {cl : Int → Int} {cw : Int → Int} {tk : Int → Int} {nL : Int} {kd : Int → Int} {wy : Int → Int} {wh : Int → Int} {F : Int → Prop} {a b : Int} (hG : pj_G W sd op ed) (p0_ : ∀ v, ¬ F v) (p1_ : W b) (p2_ : W a) (p3_ : sd a = (sd b)) (p4_ : om (sd b) = ed a) (p5_ : om (sd (op a)) = ed a) (p6_ : st (sd b) = 2) (p7_ : ps (sd b) = 0) (p8_ : dl (sd b) = lv (sd b)) (p9_ : 1 ≤ lv (sd b)) (p10_ : tk (nm (sd b)) = 1) (p11_ : cw (nm (sd b)) = -1) (p12_ : st (sd (op a)) ≠ 1) (p13_ : dl (sd (op a)) = lv (sd (op a))) (p14_ : dl (sd (op a)) = lv (sd b)) (p15_ : dn (sd (op a)) = nm (sd b)) (p16_ : en a = 1) (p17_ : en (op a) = 1) (p18_ : cl (ed a) ≤ lv (sd b)) (p19_ : a ≠ b) (p20_ : b ≠ -1) (p21_ : ∀ j, 0 ≤ j → j < nL → wh j ≠ 2 → kd j = 6 → nm (sd (op (wy j))) ≠ nm (sd b)) (p22_ : ∀ j, 0 ≤ j → j < nL → wh j ≠ 2 → kd j = 5 → wy j ≠ op a) (p23_ : tow (sd b) = (ed b)) (p24_ : om (sd b) ≠ (ed b)) (p25_ : nm (sd b) ≠ (ed b)) (p26_ : nm (sd b) = ed a → tk (ed a) = 1) (p27_ : en b = 0) (p28_ : nm (sd (op b)) ≠ nm (sd b)) (p29_ : lv (sd b) ≤ lv (sd (op b))) (p30_ : en (op b) ≠ 2) (p31_ : en (op b) = 0 ∨ en (op b) = 1) (p32_ : cl (ed b) = 0) (p33_ : en (op b) = 1 → om (sd (op b)) = (ed b) ∧ ps (sd (op b)) = 1 ∧ dl (sd (op b)) = lv (sd (op b)) ∧ lv (sd (op b)) = lv (sd b)) (p34_ : 0 ≤ nL) (cN12 : pj_N12 W sd op ed st lv nm inw tow om ps dl en) : pj_N12 W sd op ed st lv nm inw tow (pu om (sd b) (ed b)) (pu ps (sd b) 1) dl (pu en b 1) := by
  obtain ⟨hop, hed⟩ := hG
  unfold pj_N12 at *
  intro w0
  simp only [pu]
  have g0 := hop b
  have g1 := hop a
  have g2 := hop w0
  have g3 := hed b a
  have g4 := hed b w0
  have g5 := hed a w0
  have cN12_0 := cN12 b
  have cN12_1 := cN12 a
  have cN12_2 := cN12 w0
  have cN12_3 := cN12 (op w0)
  have f0 := p0_ b
  have f1 := p0_ a
  have f2 := p0_ w0
  have f3 := p0_ (op w0)
  have f4 := p0_ (op b)
  clear p0_ p21_ p22_
  clear hop hed cN12
  grind (splits := 24)

set_option maxHeartbeats 1000000 in
theorem pt_cb_N3 {W : Int → Prop} {sd : Int → Int} {op : Int → Int} {ed : Int → Int} {st : Int → Int} {lv : Int → Int} {nm : Int → Int} {tow : Int → Int} {om : Int → Int} {ps : Int → Int} {dl : Int → Int} {dn : Int → Int} {en : Int → Int} {cl : Int → Int} {cw : Int → Int} {tk : Int → Int} {nL : Int} {kd : Int → Int} {wy : Int → Int} {wh : Int → Int} {F : Int → Prop} {a b : Int} (hG : pj_G W sd op ed) (p0_ : ∀ v, ¬ F v) (p1_ : W b) (p2_ : W a) (p3_ : sd a = (sd b)) (p4_ : om (sd b) = ed a) (p5_ : om (sd (op a)) = ed a) (p6_ : st (sd b) = 2) (p7_ : ps (sd b) = 0) (p8_ : dl (sd b) = lv (sd b)) (p9_ : 1 ≤ lv (sd b)) (p10_ : tk (nm (sd b)) = 1) (p11_ : cw (nm (sd b)) = -1) (p12_ : st (sd (op a)) ≠ 1) (p13_ : dl (sd (op a)) = lv (sd (op a))) (p14_ : dl (sd (op a)) = lv (sd b)) (p15_ : dn (sd (op a)) = nm (sd b)) (p16_ : en a = 1) (p17_ : en (op a) = 1) (p18_ : cl (ed a) ≤ lv (sd b)) (p19_ : a ≠ b) (p20_ : b ≠ -1) (p21_ : ∀ j, 0 ≤ j → j < nL → wh j ≠ 2 → kd j = 6 → nm (sd (op (wy j))) ≠ nm (sd b)) (p22_ : ∀ j, 0 ≤ j → j < nL → wh j ≠ 2 → kd j = 5 → wy j ≠ op a) (p23_ : tow (sd b) = (ed b)) (p24_ : om (sd b) ≠ (ed b)) (p25_ : nm (sd b) ≠ (ed b)) (p26_ : nm (sd b) = ed a → tk (ed a) = 1) (p27_ : en b = 0) (p28_ : nm (sd (op b)) ≠ nm (sd b)) (p29_ : lv (sd b) ≤ lv (sd (op b))) (p30_ : en (op b) ≠ 2) (p31_ : en (op b) = 0 ∨ en (op b) = 1) (p32_ : cl (ed b) = 0) (p33_ : en (op b) = 1 → om (sd (op b)) = (ed b) ∧ ps (sd (op b)) = 1 ∧ dl (sd (op b)) = lv (sd (op b)) ∧ lv (sd (op b)) = lv (sd b)) (p34_ : 0 ≤ nL) (cN3 : pj_N3 W sd op ed om en) : pj_N3 W sd op ed (pu om (sd b) (ed b)) (pu en b 1) := by
  obtain ⟨hop, hed⟩ := hG
  unfold pj_N3 at *
  intro w0
  simp only [pu]
  have g0 := hop b
  have g1 := hop a
  have g2 := hop w0
  have g3 := hed b a
  have g4 := hed b w0
  have g5 := hed a w0
  have cN3_0 := cN3 b
  have cN3_1 := cN3 a
  have cN3_2 := cN3 w0
  have cN3_3 := cN3 (op w0)
  have f0 := p0_ b
  have f1 := p0_ a
  have f2 := p0_ w0
  have f3 := p0_ (op w0)
  have f4 := p0_ (op b)
  clear p0_ p21_ p22_
  clear hop hed cN3
  grind (splits := 24)

set_option maxHeartbeats 1000000 in
theorem pt_cb_RJ {W : Int → Prop} {sd : Int → Int} {op : Int → Int} {ed : Int → Int} {st : Int → Int} {lv : Int → Int} {nm : Int → Int} {tow : Int → Int} {tst : Int → Int} {om : Int → Int} {ps : Int → Int} {dl : Int → Int} {dn : Int → Int} {en : Int → Int} {fw : Int → Int} {cl : Int → Int} {cw : Int → Int} {tk : Int → Int} {nL : Int} {kd : Int → Int} {wy : Int → Int} {wh : Int → Int} {F : Int → Prop} {a b : Int} (hG : pj_G W sd op ed) (p0_ : ∀ v, ¬ F v) (p1_ : W b) (p2_ : W a) (p3_ : sd a = (sd b)) (p4_ : om (sd b) = ed a) (p5_ : om (sd (op a)) = ed a) (p6_ : st (sd b) = 2) (p7_ : ps (sd b) = 0) (p8_ : dl (sd b) = lv (sd b)) (p9_ : 1 ≤ lv (sd b)) (p10_ : tk (nm (sd b)) = 1) (p11_ : cw (nm (sd b)) = -1) (p12_ : st (sd (op a)) ≠ 1) (p13_ : dl (sd (op a)) = lv (sd (op a))) (p14_ : dl (sd (op a)) = lv (sd b)) (p15_ : dn (sd (op a)) = nm (sd b)) (p16_ : en a = 1) (p17_ : en (op a) = 1) (p18_ : cl (ed a) ≤ lv (sd b)) (p19_ : a ≠ b) (p20_ : b ≠ -1) (p21_ : ∀ j, 0 ≤ j → j < nL → wh j ≠ 2 → kd j = 6 → nm (sd (op (wy j))) ≠ nm (sd b)) (p22_ : ∀ j, 0 ≤ j → j < nL → wh j ≠ 2 → kd j = 5 → wy j ≠ op a) (p23_ : tow (sd b) = (ed b)) (p24_ : om (sd b) ≠ (ed b)) (p25_ : nm (sd b) ≠ (ed b)) (p26_ : nm (sd b) = ed a → tk (ed a) = 1) (p27_ : en b = 0) (p28_ : nm (sd (op b)) ≠ nm (sd b)) (p29_ : lv (sd b) ≤ lv (sd (op b))) (p30_ : en (op b) ≠ 2) (p31_ : en (op b) = 0 ∨ en (op b) = 1) (p32_ : cl (ed b) = 0) (p33_ : en (op b) = 1 → om (sd (op b)) = (ed b) ∧ ps (sd (op b)) = 1 ∧ dl (sd (op b)) = lv (sd (op b)) ∧ lv (sd (op b)) = lv (sd b)) (p34_ : 0 ≤ nL) (cRJ : pj_RJ W sd op ed tst en fw) : pj_RJ W sd op ed tst (pu en b 1) fw := by
  obtain ⟨hop, hed⟩ := hG
  unfold pj_RJ at *
  intro w0
  simp only [pu]
  have g0 := hop b
  have g1 := hop a
  have g2 := hop w0
  have g3 := hed b a
  have g4 := hed b w0
  have g5 := hed a w0
  have cRJ_0 := cRJ b
  have cRJ_1 := cRJ a
  have cRJ_2 := cRJ w0
  have cRJ_3 := cRJ (op w0)
  have f0 := p0_ b
  have f1 := p0_ a
  have f2 := p0_ w0
  have f3 := p0_ (op w0)
  have f4 := p0_ (op b)
  clear p0_ p21_ p22_
  clear hop hed cRJ
  grind (splits := 24)

set_option maxHeartbeats 1000000 in
theorem pt_cb_FW {W : Int → Prop} {sd : Int → Int} {op : Int → Int} {ed : Int → Int} {st : Int → Int} {lv : Int → Int} {nm : Int → Int} {tow : Int → Int} {tst : Int → Int} {om : Int → Int} {ps : Int → Int} {dl : Int → Int} {dn : Int → Int} {en : Int → Int} {fw : Int → Int} {cl : Int → Int} {cw : Int → Int} {tk : Int → Int} {nL : Int} {kd : Int → Int} {wy : Int → Int} {wh : Int → Int} {F : Int → Prop} {a b : Int} (hG : pj_G W sd op ed) (p0_ : ∀ v, ¬ F v) (p1_ : W b) (p2_ : W a) (p3_ : sd a = (sd b)) (p4_ : om (sd b) = ed a) (p5_ : om (sd (op a)) = ed a) (p6_ : st (sd b) = 2) (p7_ : ps (sd b) = 0) (p8_ : dl (sd b) = lv (sd b)) (p9_ : 1 ≤ lv (sd b)) (p10_ : tk (nm (sd b)) = 1) (p11_ : cw (nm (sd b)) = -1) (p12_ : st (sd (op a)) ≠ 1) (p13_ : dl (sd (op a)) = lv (sd (op a))) (p14_ : dl (sd (op a)) = lv (sd b)) (p15_ : dn (sd (op a)) = nm (sd b)) (p16_ : en a = 1) (p17_ : en (op a) = 1) (p18_ : cl (ed a) ≤ lv (sd b)) (p19_ : a ≠ b) (p20_ : b ≠ -1) (p21_ : ∀ j, 0 ≤ j → j < nL → wh j ≠ 2 → kd j = 6 → nm (sd (op (wy j))) ≠ nm (sd b)) (p22_ : ∀ j, 0 ≤ j → j < nL → wh j ≠ 2 → kd j = 5 → wy j ≠ op a) (p23_ : tow (sd b) = (ed b)) (p24_ : om (sd b) ≠ (ed b)) (p25_ : nm (sd b) ≠ (ed b)) (p26_ : nm (sd b) = ed a → tk (ed a) = 1) (p27_ : en b = 0) (p28_ : nm (sd (op b)) ≠ nm (sd b)) (p29_ : lv (sd b) ≤ lv (sd (op b))) (p30_ : en (op b) ≠ 2) (p31_ : en (op b) = 0 ∨ en (op b) = 1) (p32_ : cl (ed b) = 0) (p33_ : en (op b) = 1 → om (sd (op b)) = (ed b) ∧ ps (sd (op b)) = 1 ∧ dl (sd (op b)) = lv (sd (op b)) ∧ lv (sd (op b)) = lv (sd b)) (p34_ : 0 ≤ nL) (cFW : pj_FW W sd ed tst en fw) : pj_FW W sd ed tst (pu en b 1) fw := by
  obtain ⟨hop, hed⟩ := hG
  unfold pj_FW at *
  intro w0
  simp only [pu]
  have g0 := hop b
  have g1 := hop a
  have g2 := hop w0
  have g3 := hed b a
  have g4 := hed b w0
  have g5 := hed a w0
  have cFW_0 := cFW b
  have cFW_1 := cFW a
  have cFW_2 := cFW w0
  have cFW_3 := cFW (op w0)
  have f0 := p0_ b
  have f1 := p0_ a
  have f2 := p0_ w0
  have f3 := p0_ (op w0)
  have f4 := p0_ (op b)
  clear p0_ p21_ p22_
  clear hop hed cFW
  grind (splits := 24)

set_option maxHeartbeats 1000000 in
theorem pt_cb_PD {W : Int → Prop} {sd : Int → Int} {op : Int → Int} {ed : Int → Int} {st : Int → Int} {lv : Int → Int} {nm : Int → Int} {tow : Int → Int} {om : Int → Int} {ps : Int → Int} {dl : Int → Int} {dn : Int → Int} {en : Int → Int} {pd : Int → Int} {cl : Int → Int} {cw : Int → Int} {tk : Int → Int} {nL : Int} {kd : Int → Int} {wy : Int → Int} {wh : Int → Int} {F : Int → Prop} {a b : Int} (hG : pj_G W sd op ed) (p0_ : ∀ v, ¬ F v) (p1_ : W b) (p2_ : W a) (p3_ : sd a = (sd b)) (p4_ : om (sd b) = ed a) (p5_ : om (sd (op a)) = ed a) (p6_ : st (sd b) = 2) (p7_ : ps (sd b) = 0) (p8_ : dl (sd b) = lv (sd b)) (p9_ : 1 ≤ lv (sd b)) (p10_ : tk (nm (sd b)) = 1) (p11_ : cw (nm (sd b)) = -1) (p12_ : st (sd (op a)) ≠ 1) (p13_ : dl (sd (op a)) = lv (sd (op a))) (p14_ : dl (sd (op a)) = lv (sd b)) (p15_ : dn (sd (op a)) = nm (sd b)) (p16_ : en a = 1) (p17_ : en (op a) = 1) (p18_ : cl (ed a) ≤ lv (sd b)) (p19_ : a ≠ b) (p20_ : b ≠ -1) (p21_ : ∀ j, 0 ≤ j → j < nL → wh j ≠ 2 → kd j = 6 → nm (sd (op (wy j))) ≠ nm (sd b)) (p22_ : ∀ j, 0 ≤ j → j < nL → wh j ≠ 2 → kd j = 5 → wy j ≠ op a) (p23_ : tow (sd b) = (ed b)) (p24_ : om (sd b) ≠ (ed b)) (p25_ : nm (sd b) ≠ (ed b)) (p26_ : nm (sd b) = ed a → tk (ed a) = 1) (p27_ : en b = 0) (p28_ : nm (sd (op b)) ≠ nm (sd b)) (p29_ : lv (sd b) ≤ lv (sd (op b))) (p30_ : en (op b) ≠ 2) (p31_ : en (op b) = 0 ∨ en (op b) = 1) (p32_ : cl (ed b) = 0) (p33_ : en (op b) = 1 → om (sd (op b)) = (ed b) ∧ ps (sd (op b)) = 1 ∧ dl (sd (op b)) = lv (sd (op b)) ∧ lv (sd (op b)) = lv (sd b)) (p34_ : 0 ≤ nL) (cPD : pj_PD W sd op ed st om en pd) : pj_PD W sd op ed st (pu om (sd b) (ed b)) (pu en b 1) pd := by
  obtain ⟨hop, hed⟩ := hG
  unfold pj_PD at *
  intro w0
  simp only [pu]
  have g0 := hop b
  have g1 := hop a
  have g2 := hop w0
  have g3 := hed b a
  have g4 := hed b w0
  have g5 := hed a w0
  have cPD_0 := cPD b
  have cPD_1 := cPD a
  have cPD_2 := cPD w0
  have cPD_3 := cPD (op w0)
  have f0 := p0_ b
  have f1 := p0_ a
  have f2 := p0_ w0
  have f3 := p0_ (op w0)
  have f4 := p0_ (op b)
  clear p0_ p21_ p22_
  clear hop hed cPD
  grind (splits := 24)

set_option maxHeartbeats 1000000 in
theorem pt_cb_CC {W : Int → Prop} {sd : Int → Int} {op : Int → Int} {ed : Int → Int} {st : Int → Int} {lv : Int → Int} {nm : Int → Int} {tow : Int → Int} {om : Int → Int} {ps : Int → Int} {dl : Int → Int} {dn : Int → Int} {en : Int → Int} {cl : Int → Int} {cw : Int → Int} {tk : Int → Int} {nL : Int} {kd : Int → Int} {wy : Int → Int} {wh : Int → Int} {F : Int → Prop} {a b : Int} (hG : pj_G W sd op ed) (p0_ : ∀ v, ¬ F v) (p1_ : W b) (p2_ : W a) (p3_ : sd a = (sd b)) (p4_ : om (sd b) = ed a) (p5_ : om (sd (op a)) = ed a) (p6_ : st (sd b) = 2) (p7_ : ps (sd b) = 0) (p8_ : dl (sd b) = lv (sd b)) (p9_ : 1 ≤ lv (sd b)) (p10_ : tk (nm (sd b)) = 1) (p11_ : cw (nm (sd b)) = -1) (p12_ : st (sd (op a)) ≠ 1) (p13_ : dl (sd (op a)) = lv (sd (op a))) (p14_ : dl (sd (op a)) = lv (sd b)) (p15_ : dn (sd (op a)) = nm (sd b)) (p16_ : en a = 1) (p17_ : en (op a) = 1) (p18_ : cl (ed a) ≤ lv (sd b)) (p19_ : a ≠ b) (p20_ : b ≠ -1) (p21_ : ∀ j, 0 ≤ j → j < nL → wh j ≠ 2 → kd j = 6 → nm (sd (op (wy j))) ≠ nm (sd b)) (p22_ : ∀ j, 0 ≤ j → j < nL → wh j ≠ 2 → kd j = 5 → wy j ≠ op a) (p23_ : tow (sd b) = (ed b)) (p24_ : om (sd b) ≠ (ed b)) (p25_ : nm (sd b) ≠ (ed b)) (p26_ : nm (sd b) = ed a → tk (ed a) = 1) (p27_ : en b = 0) (p28_ : nm (sd (op b)) ≠ nm (sd b)) (p29_ : lv (sd b) ≤ lv (sd (op b))) (p30_ : en (op b) ≠ 2) (p31_ : en (op b) = 0 ∨ en (op b) = 1) (p32_ : cl (ed b) = 0) (p33_ : en (op b) = 1 → om (sd (op b)) = (ed b) ∧ ps (sd (op b)) = 1 ∧ dl (sd (op b)) = lv (sd (op b)) ∧ lv (sd (op b)) = lv (sd b)) (p34_ : 0 ≤ nL) (cCC : pj_CC W ed en cl) : pj_CC W ed (pu en b 1) cl := by
  obtain ⟨hop, hed⟩ := hG
  unfold pj_CC at *
  intro w0
  simp only [pu]
  have g0 := hop b
  have g1 := hop a
  have g2 := hop w0
  have g3 := hed b a
  have g4 := hed b w0
  have g5 := hed a w0
  have cCC_0 := cCC b
  have cCC_1 := cCC a
  have cCC_2 := cCC w0
  have cCC_3 := cCC (op w0)
  have f0 := p0_ b
  have f1 := p0_ a
  have f2 := p0_ w0
  have f3 := p0_ (op w0)
  have f4 := p0_ (op b)
  clear p0_ p21_ p22_
  clear hop hed cCC
  grind (splits := 24)

set_option maxHeartbeats 1000000 in
theorem pt_cb_CD {W : Int → Prop} {sd : Int → Int} {op : Int → Int} {ed : Int → Int} {st : Int → Int} {lv : Int → Int} {nm : Int → Int} {tow : Int → Int} {om : Int → Int} {ps : Int → Int} {dl : Int → Int} {dn : Int → Int} {en : Int → Int} {cl : Int → Int} {cw : Int → Int} {tk : Int → Int} {nL : Int} {kd : Int → Int} {wy : Int → Int} {wh : Int → Int} {F : Int → Prop} {a b : Int} (hG : pj_G W sd op ed) (p0_ : ∀ v, ¬ F v) (p1_ : W b) (p2_ : W a) (p3_ : sd a = (sd b)) (p4_ : om (sd b) = ed a) (p5_ : om (sd (op a)) = ed a) (p6_ : st (sd b) = 2) (p7_ : ps (sd b) = 0) (p8_ : dl (sd b) = lv (sd b)) (p9_ : 1 ≤ lv (sd b)) (p10_ : tk (nm (sd b)) = 1) (p11_ : cw (nm (sd b)) = -1) (p12_ : st (sd (op a)) ≠ 1) (p13_ : dl (sd (op a)) = lv (sd (op a))) (p14_ : dl (sd (op a)) = lv (sd b)) (p15_ : dn (sd (op a)) = nm (sd b)) (p16_ : en a = 1) (p17_ : en (op a) = 1) (p18_ : cl (ed a) ≤ lv (sd b)) (p19_ : a ≠ b) (p20_ : b ≠ -1) (p21_ : ∀ j, 0 ≤ j → j < nL → wh j ≠ 2 → kd j = 6 → nm (sd (op (wy j))) ≠ nm (sd b)) (p22_ : ∀ j, 0 ≤ j → j < nL → wh j ≠ 2 → kd j = 5 → wy j ≠ op a) (p23_ : tow (sd b) = (ed b)) (p24_ : om (sd b) ≠ (ed b)) (p25_ : nm (sd b) ≠ (ed b)) (p26_ : nm (sd b) = ed a → tk (ed a) = 1) (p27_ : en b = 0) (p28_ : nm (sd (op b)) ≠ nm (sd b)) (p29_ : lv (sd b) ≤ lv (sd (op b))) (p30_ : en (op b) ≠ 2) (p31_ : en (op b) = 0 ∨ en (op b) = 1) (p32_ : cl (ed b) = 0) (p33_ : en (op b) = 1 → om (sd (op b)) = (ed b) ∧ ps (sd (op b)) = 1 ∧ dl (sd (op b)) = lv (sd (op b)) ∧ lv (sd (op b)) = lv (sd b)) (p34_ : 0 ≤ nL) (cCD : pj_CD W sd op ed om dl cl) : pj_CD W sd op ed (pu om (sd b) (ed b)) dl cl := by
  obtain ⟨hop, hed⟩ := hG
  unfold pj_CD at *
  intro w0
  simp only [pu]
  have g0 := hop b
  have g1 := hop a
  have g2 := hop w0
  have g3 := hed b a
  have g4 := hed b w0
  have g5 := hed a w0
  have cCD_0 := cCD b
  have cCD_1 := cCD a
  have cCD_2 := cCD w0
  have cCD_3 := cCD (op w0)
  have f0 := p0_ b
  have f1 := p0_ a
  have f2 := p0_ w0
  have f3 := p0_ (op w0)
  have f4 := p0_ (op b)
  clear p0_ p21_ p22_
  clear hop hed cCD
  grind (splits := 24)

set_option maxHeartbeats 1000000 in
theorem pt_cb_Z1 {W : Int → Prop} {sd : Int → Int} {op : Int → Int} {ed : Int → Int} {st : Int → Int} {lv : Int → Int} {nm : Int → Int} {tow : Int → Int} {om : Int → Int} {ps : Int → Int} {dl : Int → Int} {dn : Int → Int} {en : Int → Int} {cl : Int → Int} {cw : Int → Int} {tk : Int → Int} {nL : Int} {kd : Int → Int} {wy : Int → Int} {wh : Int → Int} {F : Int → Prop} {a b : Int} (hG : pj_G W sd op ed) (p0_ : ∀ v, ¬ F v) (p1_ : W b) (p2_ : W a) (p3_ : sd a = (sd b)) (p4_ : om (sd b) = ed a) (p5_ : om (sd (op a)) = ed a) (p6_ : st (sd b) = 2) (p7_ : ps (sd b) = 0) (p8_ : dl (sd b) = lv (sd b)) (p9_ : 1 ≤ lv (sd b)) (p10_ : tk (nm (sd b)) = 1) (p11_ : cw (nm (sd b)) = -1) (p12_ : st (sd (op a)) ≠ 1) (p13_ : dl (sd (op a)) = lv (sd (op a))) (p14_ : dl (sd (op a)) = lv (sd b)) (p15_ : dn (sd (op a)) = nm (sd b)) (p16_ : en a = 1) (p17_ : en (op a) = 1) (p18_ : cl (ed a) ≤ lv (sd b)) (p19_ : a ≠ b) (p20_ : b ≠ -1) (p21_ : ∀ j, 0 ≤ j → j < nL → wh j ≠ 2 → kd j = 6 → nm (sd (op (wy j))) ≠ nm (sd b)) (p22_ : ∀ j, 0 ≤ j → j < nL → wh j ≠ 2 → kd j = 5 → wy j ≠ op a) (p23_ : tow (sd b) = (ed b)) (p24_ : om (sd b) ≠ (ed b)) (p25_ : nm (sd b) ≠ (ed b)) (p26_ : nm (sd b) = ed a → tk (ed a) = 1) (p27_ : en b = 0) (p28_ : nm (sd (op b)) ≠ nm (sd b)) (p29_ : lv (sd b) ≤ lv (sd (op b))) (p30_ : en (op b) ≠ 2) (p31_ : en (op b) = 0 ∨ en (op b) = 1) (p32_ : cl (ed b) = 0) (p33_ : en (op b) = 1 → om (sd (op b)) = (ed b) ∧ ps (sd (op b)) = 1 ∧ dl (sd (op b)) = lv (sd (op b)) ∧ lv (sd (op b)) = lv (sd b)) (p34_ : 0 ≤ nL) (cZ1 : pj_Z1 W ed cl cw) : pj_Z1 W ed cl (pu cw (nm (sd b)) b) := by
  obtain ⟨hop, hed⟩ := hG
  unfold pj_Z1 at *
  intro w0
  simp only [pu]
  have g0 := hop b
  have g1 := hop a
  have g2 := hop w0
  have g3 := hed b a
  have g4 := hed b w0
  have g5 := hed a w0
  have cZ1_0 := cZ1 w0
  have f0 := p0_ b
  have f1 := p0_ a
  have f2 := p0_ w0
  have f3 := p0_ (op w0)
  have f4 := p0_ (op b)
  clear p0_ p21_ p22_
  clear hop hed cZ1
  intro h1 h2
  obtain ⟨c1, hc⟩ := cZ1_0 h1 h2
  exact ⟨c1, by grind⟩

set_option maxHeartbeats 1000000 in
theorem pt_cb_TK {W : Int → Prop} {sd : Int → Int} {op : Int → Int} {ed : Int → Int} {st : Int → Int} {lv : Int → Int} {nm : Int → Int} {tow : Int → Int} {om : Int → Int} {ps : Int → Int} {dl : Int → Int} {dn : Int → Int} {en : Int → Int} {cl : Int → Int} {cw : Int → Int} {tk : Int → Int} {nL : Int} {kd : Int → Int} {wy : Int → Int} {wh : Int → Int} {F : Int → Prop} {a b : Int} (hG : pj_G W sd op ed) (p0_ : ∀ v, ¬ F v) (p1_ : W b) (p2_ : W a) (p3_ : sd a = (sd b)) (p4_ : om (sd b) = ed a) (p5_ : om (sd (op a)) = ed a) (p6_ : st (sd b) = 2) (p7_ : ps (sd b) = 0) (p8_ : dl (sd b) = lv (sd b)) (p9_ : 1 ≤ lv (sd b)) (p10_ : tk (nm (sd b)) = 1) (p11_ : cw (nm (sd b)) = -1) (p12_ : st (sd (op a)) ≠ 1) (p13_ : dl (sd (op a)) = lv (sd (op a))) (p14_ : dl (sd (op a)) = lv (sd b)) (p15_ : dn (sd (op a)) = nm (sd b)) (p16_ : en a = 1) (p17_ : en (op a) = 1) (p18_ : cl (ed a) ≤ lv (sd b)) (p19_ : a ≠ b) (p20_ : b ≠ -1) (p21_ : ∀ j, 0 ≤ j → j < nL → wh j ≠ 2 → kd j = 6 → nm (sd (op (wy j))) ≠ nm (sd b)) (p22_ : ∀ j, 0 ≤ j → j < nL → wh j ≠ 2 → kd j = 5 → wy j ≠ op a) (p23_ : tow (sd b) = (ed b)) (p24_ : om (sd b) ≠ (ed b)) (p25_ : nm (sd b) ≠ (ed b)) (p26_ : nm (sd b) = ed a → tk (ed a) = 1) (p27_ : en b = 0) (p28_ : nm (sd (op b)) ≠ nm (sd b)) (p29_ : lv (sd b) ≤ lv (sd (op b))) (p30_ : en (op b) ≠ 2) (p31_ : en (op b) = 0 ∨ en (op b) = 1) (p32_ : cl (ed b) = 0) (p33_ : en (op b) = 1 → om (sd (op b)) = (ed b) ∧ ps (sd (op b)) = 1 ∧ dl (sd (op b)) = lv (sd (op b)) ∧ lv (sd (op b)) = lv (sd b)) (p34_ : 0 ≤ nL) (cTK : pj_TK cw tk) : pj_TK (pu cw (nm (sd b)) b) tk := by
  obtain ⟨hop, hed⟩ := hG
  unfold pj_TK at *
  intro c0
  simp only [pu]
  have g0 := hop b
  have g1 := hop a
  have g2 := hed b a
  have cTK_0 := cTK c0
  have f0 := p0_ b
  have f1 := p0_ a
  have f2 := p0_ (op b)
  clear p0_ p21_ p22_
  clear hop hed cTK
  grind (splits := 24)

set_option maxHeartbeats 1000000 in
theorem pt_cb_WH {W : Int → Prop} {sd : Int → Int} {op : Int → Int} {ed : Int → Int} {st : Int → Int} {lv : Int → Int} {nm : Int → Int} {tow : Int → Int} {om : Int → Int} {ps : Int → Int} {dl : Int → Int} {dn : Int → Int} {en : Int → Int} {cl : Int → Int} {cw : Int → Int} {tk : Int → Int} {nL : Int} {kd : Int → Int} {wy : Int → Int} {wh : Int → Int} {F : Int → Prop} {a b : Int} (hG : pj_G W sd op ed) (p0_ : ∀ v, ¬ F v) (p1_ : W b) (p2_ : W a) (p3_ : sd a = (sd b)) (p4_ : om (sd b) = ed a) (p5_ : om (sd (op a)) = ed a) (p6_ : st (sd b) = 2) (p7_ : ps (sd b) = 0) (p8_ : dl (sd b) = lv (sd b)) (p9_ : 1 ≤ lv (sd b)) (p10_ : tk (nm (sd b)) = 1) (p11_ : cw (nm (sd b)) = -1) (p12_ : st (sd (op a)) ≠ 1) (p13_ : dl (sd (op a)) = lv (sd (op a))) (p14_ : dl (sd (op a)) = lv (sd b)) (p15_ : dn (sd (op a)) = nm (sd b)) (p16_ : en a = 1) (p17_ : en (op a) = 1) (p18_ : cl (ed a) ≤ lv (sd b)) (p19_ : a ≠ b) (p20_ : b ≠ -1) (p21_ : ∀ j, 0 ≤ j → j < nL → wh j ≠ 2 → kd j = 6 → nm (sd (op (wy j))) ≠ nm (sd b)) (p22_ : ∀ j, 0 ≤ j → j < nL → wh j ≠ 2 → kd j = 5 → wy j ≠ op a) (p23_ : tow (sd b) = (ed b)) (p24_ : om (sd b) ≠ (ed b)) (p25_ : nm (sd b) ≠ (ed b)) (p26_ : nm (sd b) = ed a → tk (ed a) = 1) (p27_ : en b = 0) (p28_ : nm (sd (op b)) ≠ nm (sd b)) (p29_ : lv (sd b) ≤ lv (sd (op b))) (p30_ : en (op b) ≠ 2) (p31_ : en (op b) = 0 ∨ en (op b) = 1) (p32_ : cl (ed b) = 0) (p33_ : en (op b) = 1 → om (sd (op b)) = (ed b) ∧ ps (sd (op b)) = 1 ∧ dl (sd (op b)) = lv (sd (op b)) ∧ lv (sd (op b)) = lv (sd b)) (p34_ : 0 ≤ nL) (cWH : pj_WH nL kd wh) (cR : pj_R W nL kd wy wh) : pj_WH (nL + 1) (pu kd nL 0) (pu wh nL 0) := by
  obtain ⟨hop, hed⟩ := hG
  unfold pj_WH pj_R at *
  intro k0
  simp only [pu]
  have g0 := hop b
  have g1 := hop a
  have g2 := hop (wy k0)
  have g3 := hed b a
  have g4 := hed b (wy k0)
  have g5 := hed a (wy k0)
  have cWH_0 := cWH k0
  have cR_0 := cR k0
  have f0 := p0_ b
  have f1 := p0_ a
  have f2 := p0_ (wy k0)
  have f3 := p0_ (op (wy k0))
  have f4 := p0_ (op b)
  have f5 := p21_ k0
  have f6 := p22_ k0
  clear p0_ p21_ p22_
  clear hop hed cWH cR
  grind (splits := 24)

set_option maxHeartbeats 1000000 in
theorem pt_cb_FI {W : Int → Prop} {sd : Int → Int} {op : Int → Int} {ed : Int → Int} {st : Int → Int} {lv : Int → Int} {nm : Int → Int} {tow : Int → Int} {om : Int → Int} {ps : Int → Int} {dl : Int → Int} {dn : Int → Int} {en : Int → Int} {cl : Int → Int} {cw : Int → Int} {tk : Int → Int} {nL : Int} {kd : Int → Int} {wy : Int → Int} {wh : Int → Int} {F : Int → Prop} {a b : Int} (hG : pj_G W sd op ed) (p0_ : ∀ v, ¬ F v) (p1_ : W b) (p2_ : W a) (p3_ : sd a = (sd b)) (p4_ : om (sd b) = ed a) (p5_ : om (sd (op a)) = ed a) (p6_ : st (sd b) = 2) (p7_ : ps (sd b) = 0) (p8_ : dl (sd b) = lv (sd b)) (p9_ : 1 ≤ lv (sd b)) (p10_ : tk (nm (sd b)) = 1) (p11_ : cw (nm (sd b)) = -1) (p12_ : st (sd (op a)) ≠ 1) (p13_ : dl (sd (op a)) = lv (sd (op a))) (p14_ : dl (sd (op a)) = lv (sd b)) (p15_ : dn (sd (op a)) = nm (sd b)) (p16_ : en a = 1) (p17_ : en (op a) = 1) (p18_ : cl (ed a) ≤ lv (sd b)) (p19_ : a ≠ b) (p20_ : b ≠ -1) (p21_ : ∀ j, 0 ≤ j → j < nL → wh j ≠ 2 → kd j = 6 → nm (sd (op (wy j))) ≠ nm (sd b)) (p22_ : ∀ j, 0 ≤ j → j < nL → wh j ≠ 2 → kd j = 5 → wy j ≠ op a) (p23_ : tow (sd b) = (ed b)) (p24_ : om (sd b) ≠ (ed b)) (p25_ : nm (sd b) ≠ (ed b)) (p26_ : nm (sd b) = ed a → tk (ed a) = 1) (p27_ : en b = 0) (p28_ : nm (sd (op b)) ≠ nm (sd b)) (p29_ : lv (sd b) ≤ lv (sd (op b))) (p30_ : en (op b) ≠ 2) (p31_ : en (op b) = 0 ∨ en (op b) = 1) (p32_ : cl (ed b) = 0) (p33_ : en (op b) = 1 → om (sd (op b)) = (ed b) ∧ ps (sd (op b)) = 1 ∧ dl (sd (op b)) = lv (sd (op b)) ∧ lv (sd (op b)) = lv (sd b)) (p34_ : 0 ≤ nL) (cFI : pj_FI nL wy wh) (cR : pj_R W nL kd wy wh) : pj_FI (nL + 1) (pu wy nL b) (pu wh nL 0) := by
  obtain ⟨hop, hed⟩ := hG
  unfold pj_FI pj_R at *
  intro j0 k0
  simp only [pu]
  have g0 := hop b
  have g1 := hop a
  have g2 := hop (wy j0)
  have g3 := hop (wy k0)
  have g4 := hed b a
  have g5 := hed b (wy j0)
  have g6 := hed b (wy k0)
  have g7 := hed a (wy j0)
  have g8 := hed a (wy k0)
  have g9 := hed (wy j0) (wy k0)
  have cFI_0 := cFI j0 j0
  have cFI_1 := cFI j0 k0
  have cFI_2 := cFI k0 j0
  have cFI_3 := cFI k0 k0
  have cR_0 := cR j0
  have cR_1 := cR k0
  have f0 := p0_ b
  have f1 := p0_ a
  have f2 := p0_ (wy j0)
  have f3 := p0_ (op (wy j0))
  have f4 := p0_ (wy k0)
  have f5 := p0_ (op (wy k0))
  have f6 := p0_ (op b)
  have f7 := p21_ j0
  have f8 := p21_ k0
  have f9 := p22_ j0
  have f10 := p22_ k0
  clear p0_ p21_ p22_
  clear hop hed cFI cR
  grind (splits := 24)

set_option maxHeartbeats 1000000 in
theorem pt_cb_L0 {W : Int → Prop} {sd : Int → Int} {op : Int → Int} {ed : Int → Int} {st : Int → Int} {lv : Int → Int} {nm : Int → Int} {tow : Int → Int} {om : Int → Int} {ps : Int → Int} {dl : Int → Int} {dn : Int → Int} {c0 : Int → Int} {en : Int → Int} {cl : Int → Int} {cw : Int → Int} {tk : Int → Int} {nL : Int} {kd : Int → Int} {wy : Int → Int} {ll : Int → Int} {wh : Int → Int} {F : Int → Prop} {a b : Int} (hG : pj_G W sd op ed) (p0_ : ∀ v, ¬ F v) (p1_ : W b) (p2_ : W a) (p3_ : sd a = (sd b)) (p4_ : om (sd b) = ed a) (p5_ : om (sd (op a)) = ed a) (p6_ : st (sd b) = 2) (p7_ : ps (sd b) = 0) (p8_ : dl (sd b) = lv (sd b)) (p9_ : 1 ≤ lv (sd b)) (p10_ : tk (nm (sd b)) = 1) (p11_ : cw (nm (sd b)) = -1) (p12_ : st (sd (op a)) ≠ 1) (p13_ : dl (sd (op a)) = lv (sd (op a))) (p14_ : dl (sd (op a)) = lv (sd b)) (p15_ : dn (sd (op a)) = nm (sd b)) (p16_ : en a = 1) (p17_ : en (op a) = 1) (p18_ : cl (ed a) ≤ lv (sd b)) (p19_ : a ≠ b) (p20_ : b ≠ -1) (p21_ : ∀ j, 0 ≤ j → j < nL → wh j ≠ 2 → kd j = 6 → nm (sd (op (wy j))) ≠ nm (sd b)) (p22_ : ∀ j, 0 ≤ j → j < nL → wh j ≠ 2 → kd j = 5 → wy j ≠ op a) (p23_ : tow (sd b) = (ed b)) (p24_ : om (sd b) ≠ (ed b)) (p25_ : nm (sd b) ≠ (ed b)) (p26_ : nm (sd b) = ed a → tk (ed a) = 1) (p27_ : en b = 0) (p28_ : nm (sd (op b)) ≠ nm (sd b)) (p29_ : lv (sd b) ≤ lv (sd (op b))) (p30_ : en (op b) ≠ 2) (p31_ : en (op b) = 0 ∨ en (op b) = 1) (p32_ : cl (ed b) = 0) (p33_ : en (op b) = 1 → om (sd (op b)) = (ed b) ∧ ps (sd (op b)) = 1 ∧ dl (sd (op b)) = lv (sd (op b)) ∧ lv (sd (op b)) = lv (sd b)) (p34_ : 0 ≤ nL) (cL0 : pj_L0 sd op ed lv nm om ps dl c0 en cw nL kd wy ll wh) (cR : pj_R W nL kd wy wh) (cN2 : pj_N2 W sd ed om en) : pj_L0 sd op ed lv nm (pu om (sd b) (ed b)) (pu ps (sd b) 1) dl c0 (pu en b 1) (pu cw (nm (sd b)) b) (nL + 1) (pu kd nL 0) (pu wy nL b) (pu ll nL (lv (sd b))) (pu wh nL 0) := by
  obtain ⟨hop, hed⟩ := hG
  unfold pj_L0 pj_R pj_N2 at *
  intro k0
  simp only [pu]
  have g0 := hop b
  have g1 := hop a
  have g2 := hop (wy k0)
  have g3 := hed b a
  have g4 := hed b (wy k0)
  have g5 := hed a (wy k0)
  have cL0_0 := cL0 k0
  have cR_0 := cR k0
  have cN2_0 := cN2 b
  have cN2_1 := cN2 a
  have cN2_2 := cN2 (wy k0)
  have cN2_3 := cN2 (op (wy k0))
  have f0 := p0_ b
  have f1 := p0_ a
  have f2 := p0_ (wy k0)
  have f3 := p0_ (op (wy k0))
  have f4 := p0_ (op b)
  have f5 := p21_ k0
  have f6 := p22_ k0
  clear p0_ p21_ p22_
  clear hop hed cL0 cR cN2
  grind (splits := 24)

set_option maxHeartbeats 1000000 in
theorem pt_cb_FC {W : Int → Prop} {sd : Int → Int} {op : Int → Int} {ed : Int → Int} {st : Int → Int} {lv : Int → Int} {nm : Int → Int} {tow : Int → Int} {om : Int → Int} {ps : Int → Int} {dl : Int → Int} {dn : Int → Int} {en : Int → Int} {cl : Int → Int} {cw : Int → Int} {tk : Int → Int} {nL : Int} {kd : Int → Int} {wy : Int → Int} {wh : Int → Int} {F : Int → Prop} {a b : Int} (hG : pj_G W sd op ed) (p0_ : ∀ v, ¬ F v) (p1_ : W b) (p2_ : W a) (p3_ : sd a = (sd b)) (p4_ : om (sd b) = ed a) (p5_ : om (sd (op a)) = ed a) (p6_ : st (sd b) = 2) (p7_ : ps (sd b) = 0) (p8_ : dl (sd b) = lv (sd b)) (p9_ : 1 ≤ lv (sd b)) (p10_ : tk (nm (sd b)) = 1) (p11_ : cw (nm (sd b)) = -1) (p12_ : st (sd (op a)) ≠ 1) (p13_ : dl (sd (op a)) = lv (sd (op a))) (p14_ : dl (sd (op a)) = lv (sd b)) (p15_ : dn (sd (op a)) = nm (sd b)) (p16_ : en a = 1) (p17_ : en (op a) = 1) (p18_ : cl (ed a) ≤ lv (sd b)) (p19_ : a ≠ b) (p20_ : b ≠ -1) (p21_ : ∀ j, 0 ≤ j → j < nL → wh j ≠ 2 → kd j = 6 → nm (sd (op (wy j))) ≠ nm (sd b)) (p22_ : ∀ j, 0 ≤ j → j < nL → wh j ≠ 2 → kd j = 5 → wy j ≠ op a) (p23_ : tow (sd b) = (ed b)) (p24_ : om (sd b) ≠ (ed b)) (p25_ : nm (sd b) ≠ (ed b)) (p26_ : nm (sd b) = ed a → tk (ed a) = 1) (p27_ : en b = 0) (p28_ : nm (sd (op b)) ≠ nm (sd b)) (p29_ : lv (sd b) ≤ lv (sd (op b))) (p30_ : en (op b) ≠ 2) (p31_ : en (op b) = 0 ∨ en (op b) = 1) (p32_ : cl (ed b) = 0) (p33_ : en (op b) = 1 → om (sd (op b)) = (ed b) ∧ ps (sd (op b)) = 1 ∧ dl (sd (op b)) = lv (sd (op b)) ∧ lv (sd (op b)) = lv (sd b)) (p34_ : 0 ≤ nL) (cFC : pj_FC op nL kd wy wh F) (cR : pj_R W nL kd wy wh) : pj_FC op (nL + 1) (pu kd nL 0) (pu wy nL b) (pu wh nL 0) F := by
  obtain ⟨hop, hed⟩ := hG
  unfold pj_FC pj_R at *
  intro k0
  simp only [pu]
  have g0 := hop b
  have g1 := hop a
  have g2 := hop (wy k0)
  have g3 := hed b a
  have g4 := hed b (wy k0)
  have g5 := hed a (wy k0)
  have cFC_0 := cFC k0
  have cR_0 := cR k0
  have f0 := p0_ b
  have f1 := p0_ a
  have f2 := p0_ (wy k0)
  have f3 := p0_ (op (wy k0))
  have f4 := p0_ (op b)
  have f5 := p21_ k0
  have f6 := p22_ k0
  clear p0_ p21_ p22_
  clear hop hed cFC cR
  grind (splits := 24)

set_option maxHeartbeats 1000000 in
theorem pt_cb_L0u {W : Int → Prop} {sd : Int → Int} {op : Int → Int} {ed : Int → Int} {st : Int → Int} {lv : Int → Int} {nm : Int → Int} {tow : Int → Int} {om : Int → Int} {ps : Int → Int} {dl : Int → Int} {dn : Int → Int} {c0 : Int → Int} {en : Int → Int} {cl : Int → Int} {cw : Int → Int} {tk : Int → Int} {nL : Int} {kd : Int → Int} {wy : Int → Int} {ll : Int → Int} {wh : Int → Int} {F : Int → Prop} {a b : Int} (hG : pj_G W sd op ed) (p0_ : ∀ v, ¬ F v) (p1_ : W b) (p2_ : W a) (p3_ : sd a = (sd b)) (p4_ : om (sd b) = ed a) (p5_ : om (sd (op a)) = ed a) (p6_ : st (sd b) = 2) (p7_ : ps (sd b) = 0) (p8_ : dl (sd b) = lv (sd b)) (p9_ : 1 ≤ lv (sd b)) (p10_ : tk (nm (sd b)) = 1) (p11_ : cw (nm (sd b)) = -1) (p12_ : st (sd (op a)) ≠ 1) (p13_ : dl (sd (op a)) = lv (sd (op a))) (p14_ : dl (sd (op a)) = lv (sd b)) (p15_ : dn (sd (op a)) = nm (sd b)) (p16_ : en a = 1) (p17_ : en (op a) = 1) (p18_ : cl (ed a) ≤ lv (sd b)) (p19_ : a ≠ b) (p20_ : b ≠ -1) (p21_ : ∀ j, 0 ≤ j → j < nL → wh j ≠ 2 → kd j = 6 → nm (sd (op (wy j))) ≠ nm (sd b)) (p22_ : ∀ j, 0 ≤ j → j < nL → wh j ≠ 2 → kd j = 5 → wy j ≠ op a) (p23_ : tow (sd b) = (ed b)) (p24_ : om (sd b) ≠ (ed b)) (p25_ : nm (sd b) ≠ (ed b)) (p26_ : nm (sd b) = ed a → tk (ed a) = 1) (p27_ : en b = 0) (p28_ : nm (sd (op b)) ≠ nm (sd b)) (p29_ : lv (sd b) ≤ lv (sd (op b))) (p30_ : en (op b) ≠ 2) (p31_ : en (op b) = 0 ∨ en (op b) = 1) (p32_ : cl (ed b) = 0) (p33_ : en (op b) = 1 → om (sd (op b)) = (ed b) ∧ ps (sd (op b)) = 1 ∧ dl (sd (op b)) = lv (sd (op b)) ∧ lv (sd (op b)) = lv (sd b)) (p34_ : 0 ≤ nL) (cL0u : pj_L0u nL kd wy wh) (cR : pj_R W nL kd wy wh) (cL0 : pj_L0 sd op ed lv nm om ps dl c0 en cw nL kd wy ll wh) : pj_L0u (nL + 1) (pu kd nL 0) (pu wy nL b) (pu wh nL 0) := by
  obtain ⟨hop, hed⟩ := hG
  unfold pj_L0u pj_R pj_L0 at *
  intro j0 k0
  simp only [pu]
  have g0 := hop b
  have g1 := hop a
  have g2 := hop (wy j0)
  have g3 := hop (wy k0)
  have g4 := hed b a
  have g5 := hed b (wy j0)
  have g6 := hed b (wy k0)
  have g7 := hed a (wy j0)
  have g8 := hed a (wy k0)
  have g9 := hed (wy j0) (wy k0)
  have cL0u_0 := cL0u j0 j0
  have cL0u_1 := cL0u j0 k0
  have cL0u_2 := cL0u k0 j0
  have cL0u_3 := cL0u k0 k0
  have cR_0 := cR j0
  have cR_1 := cR k0
  have cL0_0 := cL0 j0
  have cL0_1 := cL0 k0
  have f0 := p0_ b
  have f1 := p0_ a
  have f2 := p0_ (wy j0)
  have f3 := p0_ (op (wy j0))
  have f4 := p0_ (wy k0)
  have f5 := p0_ (op (wy k0))
  have f6 := p0_ (op b)
  have f7 := p21_ j0
  have f8 := p21_ k0
  have f9 := p22_ j0
  have f10 := p22_ k0
  clear p0_ p21_ p22_
  clear hop hed cL0u cR cL0
  grind (splits := 24)

set_option maxHeartbeats 1000000 in
theorem pt_cb_OC {W : Int → Prop} {sd : Int → Int} {op : Int → Int} {ed : Int → Int} {st : Int → Int} {lv : Int → Int} {nm : Int → Int} {tow : Int → Int} {om : Int → Int} {ps : Int → Int} {dl : Int → Int} {dn : Int → Int} {en : Int → Int} {cl : Int → Int} {cw : Int → Int} {tk : Int → Int} {nL : Int} {kd : Int → Int} {wy : Int → Int} {ll : Int → Int} {td : Int → Int} {ls : Int → Int} {wh : Int → Int} {F : Int → Prop} {a b : Int} (hG : pj_G W sd op ed) (p0_ : ∀ v, ¬ F v) (p1_ : W b) (p2_ : W a) (p3_ : sd a = (sd b)) (p4_ : om (sd b) = ed a) (p5_ : om (sd (op a)) = ed a) (p6_ : st (sd b) = 2) (p7_ : ps (sd b) = 0) (p8_ : dl (sd b) = lv (sd b)) (p9_ : 1 ≤ lv (sd b)) (p10_ : tk (nm (sd b)) = 1) (p11_ : cw (nm (sd b)) = -1) (p12_ : st (sd (op a)) ≠ 1) (p13_ : dl (sd (op a)) = lv (sd (op a))) (p14_ : dl (sd (op a)) = lv (sd b)) (p15_ : dn (sd (op a)) = nm (sd b)) (p16_ : en a = 1) (p17_ : en (op a) = 1) (p18_ : cl (ed a) ≤ lv (sd b)) (p19_ : a ≠ b) (p20_ : b ≠ -1) (p21_ : ∀ j, 0 ≤ j → j < nL → wh j ≠ 2 → kd j = 6 → nm (sd (op (wy j))) ≠ nm (sd b)) (p22_ : ∀ j, 0 ≤ j → j < nL → wh j ≠ 2 → kd j = 5 → wy j ≠ op a) (p23_ : tow (sd b) = (ed b)) (p24_ : om (sd b) ≠ (ed b)) (p25_ : nm (sd b) ≠ (ed b)) (p26_ : nm (sd b) = ed a → tk (ed a) = 1) (p27_ : en b = 0) (p28_ : nm (sd (op b)) ≠ nm (sd b)) (p29_ : lv (sd b) ≤ lv (sd (op b))) (p30_ : en (op b) ≠ 2) (p31_ : en (op b) = 0 ∨ en (op b) = 1) (p32_ : cl (ed b) = 0) (p33_ : en (op b) = 1 → om (sd (op b)) = (ed b) ∧ ps (sd (op b)) = 1 ∧ dl (sd (op b)) = lv (sd (op b)) ∧ lv (sd (op b)) = lv (sd b)) (p34_ : 0 ≤ nL) (cOC : pj_OC nL kd wy wh) (cR : pj_R W nL kd wy wh) (cL1 : pj_L1 sd op ed st lv om dl en cl nL kd wy ll td ls wh) : pj_OC (nL + 1) (pu kd nL 0) (pu wy nL b) (pu wh nL 0) := by
  obtain ⟨hop, hed⟩ := hG
  unfold pj_OC pj_R pj_L1 at *
  intro j0 k0
  simp only [pu]
  have g0 := hop b
  have g1 := hop a
  have g2 := hop (wy j0)
  have g3 := hop (wy k0)
  have g4 := hed b a
  have g5 := hed b (wy j0)
  have g6 := hed b (wy k0)
  have g7 := hed a (wy j0)
  have g8 := hed a (wy k0)
  have g9 := hed (wy j0) (wy k0)
  have cOC_0 := cOC j0 j0
  have cOC_1 := cOC j0 k0
  have cOC_2 := cOC k0 j0
  have cOC_3 := cOC k0 k0
  have cR_0 := cR j0
  have cR_1 := cR k0
  have cL1_0 := cL1 j0
  have cL1_1 := cL1 k0
  have f0 := p0_ b
  have f1 := p0_ a
  have f2 := p0_ (wy j0)
  have f3 := p0_ (op (wy j0))
  have f4 := p0_ (wy k0)
  have f5 := p0_ (op (wy k0))
  have f6 := p0_ (op b)
  have f7 := p21_ j0
  have f8 := p21_ k0
  have f9 := p22_ j0
  have f10 := p22_ k0
  clear p0_ p21_ p22_
  clear hop hed cOC cR cL1
  grind (splits := 24)

set_option maxHeartbeats 1000000 in
theorem pt_cb_CT {W : Int → Prop} {sd : Int → Int} {op : Int → Int} {ed : Int → Int} {st : Int → Int} {lv : Int → Int} {nm : Int → Int} {tow : Int → Int} {tst : Int → Int} {om : Int → Int} {ps : Int → Int} {dl : Int → Int} {dn : Int → Int} {en : Int → Int} {fw : Int → Int} {cl : Int → Int} {cw : Int → Int} {tk : Int → Int} {nL : Int} {kd : Int → Int} {wy : Int → Int} {ll : Int → Int} {td : Int → Int} {wh : Int → Int} {F : Int → Prop} {a b : Int} (hG : pj_G W sd op ed) (p0_ : ∀ v, ¬ F v) (p1_ : W b) (p2_ : W a) (p3_ : sd a = (sd b)) (p4_ : om (sd b) = ed a) (p5_ : om (sd (op a)) = ed a) (p6_ : st (sd b) = 2) (p7_ : ps (sd b) = 0) (p8_ : dl (sd b) = lv (sd b)) (p9_ : 1 ≤ lv (sd b)) (p10_ : tk (nm (sd b)) = 1) (p11_ : cw (nm (sd b)) = -1) (p12_ : st (sd (op a)) ≠ 1) (p13_ : dl (sd (op a)) = lv (sd (op a))) (p14_ : dl (sd (op a)) = lv (sd b)) (p15_ : dn (sd (op a)) = nm (sd b)) (p16_ : en a = 1) (p17_ : en (op a) = 1) (p18_ : cl (ed a) ≤ lv (sd b)) (p19_ : a ≠ b) (p20_ : b ≠ -1) (p21_ : ∀ j, 0 ≤ j → j < nL → wh j ≠ 2 → kd j = 6 → nm (sd (op (wy j))) ≠ nm (sd b)) (p22_ : ∀ j, 0 ≤ j → j < nL → wh j ≠ 2 → kd j = 5 → wy j ≠ op a) (p23_ : tow (sd b) = (ed b)) (p24_ : om (sd b) ≠ (ed b)) (p25_ : nm (sd b) ≠ (ed b)) (p26_ : nm (sd b) = ed a → tk (ed a) = 1) (p27_ : en b = 0) (p28_ : nm (sd (op b)) ≠ nm (sd b)) (p29_ : lv (sd b) ≤ lv (sd (op b))) (p30_ : en (op b) ≠ 2) (p31_ : en (op b) = 0 ∨ en (op b) = 1) (p32_ : cl (ed b) = 0) (p33_ : en (op b) = 1 → om (sd (op b)) = (ed b) ∧ ps (sd (op b)) = 1 ∧ dl (sd (op b)) = lv (sd (op b)) ∧ lv (sd (op b)) = lv (sd b)) (p34_ : 0 ≤ nL) (cCT : pj_CT nL kd wy wh) (cR : pj_R W nL kd wy wh) (cL2 : pj_L2 sd op ed st lv nm tst en fw nL kd wy ll td wh) (cL4 : pj_L4 sd op ed st tst en nL kd wy wh) : pj_CT (nL + 1) (pu kd nL 0) (pu wy nL b) (pu wh nL 0) := by
  obtain ⟨hop, hed⟩ := hG
  unfold pj_CT pj_R pj_L2 pj_L4 at *
  intro j0 k0
  simp only [pu]
  have g0 := hop b
  have g1 := hop a
  have g2 := hop (wy j0)
  have g3 := hop (wy k0)
  have g4 := hed b a
  have g5 := hed b (wy j0)
  have g6 := hed b (wy k0)
  have g7 := hed a (wy j0)
  have g8 := hed a (wy k0)
  have g9 := hed (wy j0) (wy k0)
  have cCT_0 := cCT j0 j0
  have cCT_1 := cCT j0 k0
  have cCT_2 := cCT k0 j0
  have cCT_3 := cCT k0 k0
  have cR_0 := cR j0
  have cR_1 := cR k0
  have cL2_0 := cL2 j0
  have cL2_1 := cL2 k0
  have cL4_0 := cL4 j0
  have cL4_1 := cL4 k0
  have f0 := p0_ b
  have f1 := p0_ a
  have f2 := p0_ (wy j0)
  have f3 := p0_ (op (wy j0))
  have f4 := p0_ (wy k0)
  have f5 := p0_ (op (wy k0))
  have f6 := p0_ (op b)
  have f7 := p21_ j0
  have f8 := p21_ k0
  have f9 := p22_ j0
  have f10 := p22_ k0
  clear p0_ p21_ p22_
  clear hop hed cCT cR cL2 cL4
  grind (splits := 24)

set_option maxHeartbeats 1000000 in
theorem pt_cb_L1 {W : Int → Prop} {sd : Int → Int} {op : Int → Int} {ed : Int → Int} {st : Int → Int} {lv : Int → Int} {nm : Int → Int} {tow : Int → Int} {om : Int → Int} {ps : Int → Int} {dl : Int → Int} {dn : Int → Int} {en : Int → Int} {cl : Int → Int} {cw : Int → Int} {tk : Int → Int} {nL : Int} {kd : Int → Int} {wy : Int → Int} {ll : Int → Int} {td : Int → Int} {ls : Int → Int} {wh : Int → Int} {F : Int → Prop} {a b : Int} (hG : pj_G W sd op ed) (p0_ : ∀ v, ¬ F v) (p1_ : W b) (p2_ : W a) (p3_ : sd a = (sd b)) (p4_ : om (sd b) = ed a) (p5_ : om (sd (op a)) = ed a) (p6_ : st (sd b) = 2) (p7_ : ps (sd b) = 0) (p8_ : dl (sd b) = lv (sd b)) (p9_ : 1 ≤ lv (sd b)) (p10_ : tk (nm (sd b)) = 1) (p11_ : cw (nm (sd b)) = -1) (p12_ : st (sd (op a)) ≠ 1) (p13_ : dl (sd (op a)) = lv (sd (op a))) (p14_ : dl (sd (op a)) = lv (sd b)) (p15_ : dn (sd (op a)) = nm (sd b)) (p16_ : en a = 1) (p17_ : en (op a) = 1) (p18_ : cl (ed a) ≤ lv (sd b)) (p19_ : a ≠ b) (p20_ : b ≠ -1) (p21_ : ∀ j, 0 ≤ j → j < nL → wh j ≠ 2 → kd j = 6 → nm (sd (op (wy j))) ≠ nm (sd b)) (p22_ : ∀ j, 0 ≤ j → j < nL → wh j ≠ 2 → kd j = 5 → wy j ≠ op a) (p23_ : tow (sd b) = (ed b)) (p24_ : om (sd b) ≠ (ed b)) (p25_ : nm (sd b) ≠ (ed b)) (p26_ : nm (sd b) = ed a → tk (ed a) = 1) (p27_ : en b = 0) (p28_ : nm (sd (op b)) ≠ nm (sd b)) (p29_ : lv (sd b) ≤ lv (sd (op b))) (p30_ : en (op b) ≠ 2) (p31_ : en (op b) = 0 ∨ en (op b) = 1) (p32_ : cl (ed b) = 0) (p33_ : en (op b) = 1 → om (sd (op b)) = (ed b) ∧ ps (sd (op b)) = 1 ∧ dl (sd (op b)) = lv (sd (op b)) ∧ lv (sd (op b)) = lv (sd b)) (p34_ : 0 ≤ nL) (cL1 : pj_L1 sd op ed st lv om dl en cl nL kd wy ll td ls wh) (cR : pj_R W nL kd wy wh) : pj_L1 sd op ed st lv (pu om (sd b) (ed b)) dl (pu en b 1) cl (nL + 1) (pu kd nL 0) (pu wy nL b) (pu ll nL (lv (sd b))) (pu td nL (-1)) (pu ls nL (-1)) (pu wh nL 0) := by
  obtain ⟨hop, hed⟩ := hG
  unfold pj_L1 pj_R at *
  intro k0
  simp only [pu]
  have g0 := hop b
  have g1 := hop a
  have g2 := hop (wy k0)
  have g3 := hed b a
  have g4 := hed b (wy k0)
  have g5 := hed a (wy k0)
  have cL1_0 := cL1 k0
  have cR_0 := cR k0
  have f0 := p0_ b
  have f1 := p0_ a
  have f2 := p0_ (wy k0)
  have f3 := p0_ (op (wy k0))
  have f4 := p0_ (op b)
  have f5 := p21_ k0
  have f6 := p22_ k0
  clear p0_ p21_ p22_
  clear hop hed cL1 cR
  grind (splits := 24)

set_option maxHeartbeats 1000000 in
theorem pt_cb_L1e {W : Int → Prop} {sd : Int → Int} {op : Int → Int} {ed : Int → Int} {st : Int → Int} {lv : Int → Int} {nm : Int → Int} {tow : Int → Int} {om : Int → Int} {ps : Int → Int} {dl : Int → Int} {dn : Int → Int} {en : Int → Int} {cl : Int → Int} {cw : Int → Int} {tk : Int → Int} {nL : Int} {kd : Int → Int} {wy : Int → Int} {ll : Int → Int} {td : Int → Int} {ls : Int → Int} {wh : Int → Int} {F : Int → Prop} {a b : Int} (hG : pj_G W sd op ed) (p0_ : ∀ v, ¬ F v) (p1_ : W b) (p2_ : W a) (p3_ : sd a = (sd b)) (p4_ : om (sd b) = ed a) (p5_ : om (sd (op a)) = ed a) (p6_ : st (sd b) = 2) (p7_ : ps (sd b) = 0) (p8_ : dl (sd b) = lv (sd b)) (p9_ : 1 ≤ lv (sd b)) (p10_ : tk (nm (sd b)) = 1) (p11_ : cw (nm (sd b)) = -1) (p12_ : st (sd (op a)) ≠ 1) (p13_ : dl (sd (op a)) = lv (sd (op a))) (p14_ : dl (sd (op a)) = lv (sd b)) (p15_ : dn (sd (op a)) = nm (sd b)) (p16_ : en a = 1) (p17_ : en (op a) = 1) (p18_ : cl (ed a) ≤ lv (sd b)) (p19_ : a ≠ b) (p20_ : b ≠ -1) (p21_ : ∀ j, 0 ≤ j → j < nL → wh j ≠ 2 → kd j = 6 → nm (sd (op (wy j))) ≠ nm (sd b)) (p22_ : ∀ j, 0 ≤ j → j < nL → wh j ≠ 2 → kd j = 5 → wy j ≠ op a) (p23_ : tow (sd b) = (ed b)) (p24_ : om (sd b) ≠ (ed b)) (p25_ : nm (sd b) ≠ (ed b)) (p26_ : nm (sd b) = ed a → tk (ed a) = 1) (p27_ : en b = 0) (p28_ : nm (sd (op b)) ≠ nm (sd b)) (p29_ : lv (sd b) ≤ lv (sd (op b))) (p30_ : en (op b) ≠ 2) (p31_ : en (op b) = 0 ∨ en (op b) = 1) (p32_ : cl (ed b) = 0) (p33_ : en (op b) = 1 → om (sd (op b)) = (ed b) ∧ ps (sd (op b)) = 1 ∧ dl (sd (op b)) = lv (sd (op b)) ∧ lv (sd (op b)) = lv (sd b)) (p34_ : 0 ≤ nL) (cL1e : pj_L1e sd op dl dn nL kd wy ll td ls wh) (cR : pj_R W nL kd wy wh) : pj_L1e sd op dl dn (nL + 1) (pu kd nL 0) (pu wy nL b) (pu ll nL (lv (sd b))) (pu td nL (-1)) (pu ls nL (-1)) (pu wh nL 0) := by
  obtain ⟨hop, hed⟩ := hG
  unfold pj_L1e pj_R at *
  intro k0
  simp only [pu]
  have g0 := hop b
  have g1 := hop a
  have g2 := hop (wy k0)
  have g3 := hed b a
  have g4 := hed b (wy k0)
  have g5 := hed a (wy k0)
  have cL1e_0 := cL1e k0
  have cR_0 := cR k0
  have f0 := p0_ b
  have f1 := p0_ a
  have f2 := p0_ (wy k0)
  have f3 := p0_ (op (wy k0))
  have f4 := p0_ (op b)
  have f5 := p21_ k0
  have f6 := p22_ k0
  clear p0_ p21_ p22_
  clear hop hed cL1e cR
  grind (splits := 24)

set_option maxHeartbeats 1000000 in
theorem pt_cb_L1o {W : Int → Prop} {sd : Int → Int} {op : Int → Int} {ed : Int → Int} {st : Int → Int} {lv : Int → Int} {nm : Int → Int} {tow : Int → Int} {om : Int → Int} {ps : Int → Int} {dl : Int → Int} {dn : Int → Int} {en : Int → Int} {cl : Int → Int} {cw : Int → Int} {tk : Int → Int} {nL : Int} {kd : Int → Int} {wy : Int → Int} {ll : Int → Int} {wh : Int → Int} {F : Int → Prop} {a b : Int} (hG : pj_G W sd op ed) (p0_ : ∀ v, ¬ F v) (p1_ : W b) (p2_ : W a) (p3_ : sd a = (sd b)) (p4_ : om (sd b) = ed a) (p5_ : om (sd (op a)) = ed a) (p6_ : st (sd b) = 2) (p7_ : ps (sd b) = 0) (p8_ : dl (sd b) = lv (sd b)) (p9_ : 1 ≤ lv (sd b)) (p10_ : tk (nm (sd b)) = 1) (p11_ : cw (nm (sd b)) = -1) (p12_ : st (sd (op a)) ≠ 1) (p13_ : dl (sd (op a)) = lv (sd (op a))) (p14_ : dl (sd (op a)) = lv (sd b)) (p15_ : dn (sd (op a)) = nm (sd b)) (p16_ : en a = 1) (p17_ : en (op a) = 1) (p18_ : cl (ed a) ≤ lv (sd b)) (p19_ : a ≠ b) (p20_ : b ≠ -1) (p21_ : ∀ j, 0 ≤ j → j < nL → wh j ≠ 2 → kd j = 6 → nm (sd (op (wy j))) ≠ nm (sd b)) (p22_ : ∀ j, 0 ≤ j → j < nL → wh j ≠ 2 → kd j = 5 → wy j ≠ op a) (p23_ : tow (sd b) = (ed b)) (p24_ : om (sd b) ≠ (ed b)) (p25_ : nm (sd b) ≠ (ed b)) (p26_ : nm (sd b) = ed a → tk (ed a) = 1) (p27_ : en b = 0) (p28_ : nm (sd (op b)) ≠ nm (sd b)) (p29_ : lv (sd b) ≤ lv (sd (op b))) (p30_ : en (op b) ≠ 2) (p31_ : en (op b) = 0 ∨ en (op b) = 1) (p32_ : cl (ed b) = 0) (p33_ : en (op b) = 1 → om (sd (op b)) = (ed b) ∧ ps (sd (op b)) = 1 ∧ dl (sd (op b)) = lv (sd (op b)) ∧ lv (sd (op b)) = lv (sd b)) (p34_ : 0 ≤ nL) (cL1o : pj_L1o nL kd wy ll wh) (cR : pj_R W nL kd wy wh) : pj_L1o (nL + 1) (pu kd nL 0) (pu wy nL b) (pu ll nL (lv (sd b))) (pu wh nL 0) := by
  obtain ⟨hop, hed⟩ := hG
  unfold pj_L1o pj_R at *
  intro j0 k0
  simp only [pu]
  have g0 := hop b
  have g1 := hop a
  have g2 := hop (wy j0)
  have g3 := hop (wy k0)
  have g4 := hed b a
  have g5 := hed b (wy j0)
  have g6 := hed b (wy k0)
  have g7 := hed a (wy j0)
  have g8 := hed a (wy k0)
  have g9 := hed (wy j0) (wy k0)
  have cL1o_0 := cL1o j0 j0
  have cL1o_1 := cL1o j0 k0
  have cL1o_2 := cL1o k0 j0
  have cL1o_3 := cL1o k0 k0
  have cR_0 := cR j0
  have cR_1 := cR k0
  have f0 := p0_ b
  have f1 := p0_ a
  have f2 := p0_ (wy j0)
  have f3 := p0_ (op (wy j0))
  have f4 := p0_ (wy k0)
  have f5 := p0_ (op (wy k0))
  have f6 := p0_ (op b)
  have f7 := p21_ j0
  have f8 := p21_ k0
  have f9 := p22_ j0
  have f10 := p22_ k0
  clear p0_ p21_ p22_
  clear hop hed cL1o cR
  grind (splits := 24)

set_option maxHeartbeats 1000000 in
theorem pt_cb_L1b {W : Int → Prop} {sd : Int → Int} {op : Int → Int} {ed : Int → Int} {st : Int → Int} {lv : Int → Int} {nm : Int → Int} {tow : Int → Int} {om : Int → Int} {ps : Int → Int} {dl : Int → Int} {dn : Int → Int} {en : Int → Int} {pd : Int → Int} {cl : Int → Int} {cw : Int → Int} {tk : Int → Int} {nL : Int} {kd : Int → Int} {wy : Int → Int} {ll : Int → Int} {td : Int → Int} {ls : Int → Int} {wh : Int → Int} {F : Int → Prop} {a b : Int} (hG : pj_G W sd op ed) (p0_ : ∀ v, ¬ F v) (p1_ : W b) (p2_ : W a) (p3_ : sd a = (sd b)) (p4_ : om (sd b) = ed a) (p5_ : om (sd (op a)) = ed a) (p6_ : st (sd b) = 2) (p7_ : ps (sd b) = 0) (p8_ : dl (sd b) = lv (sd b)) (p9_ : 1 ≤ lv (sd b)) (p10_ : tk (nm (sd b)) = 1) (p11_ : cw (nm (sd b)) = -1) (p12_ : st (sd (op a)) ≠ 1) (p13_ : dl (sd (op a)) = lv (sd (op a))) (p14_ : dl (sd (op a)) = lv (sd b)) (p15_ : dn (sd (op a)) = nm (sd b)) (p16_ : en a = 1) (p17_ : en (op a) = 1) (p18_ : cl (ed a) ≤ lv (sd b)) (p19_ : a ≠ b) (p20_ : b ≠ -1) (p21_ : ∀ j, 0 ≤ j → j < nL → wh j ≠ 2 → kd j = 6 → nm (sd (op (wy j))) ≠ nm (sd b)) (p22_ : ∀ j, 0 ≤ j → j < nL → wh j ≠ 2 → kd j = 5 → wy j ≠ op a) (p23_ : tow (sd b) = (ed b)) (p24_ : om (sd b) ≠ (ed b)) (p25_ : nm (sd b) ≠ (ed b)) (p26_ : nm (sd b) = ed a → tk (ed a) = 1) (p27_ : en b = 0) (p28_ : nm (sd (op b)) ≠ nm (sd b)) (p29_ : lv (sd b) ≤ lv (sd (op b))) (p30_ : en (op b) ≠ 2) (p31_ : en (op b) = 0 ∨ en (op b) = 1) (p32_ : cl (ed b) = 0) (p33_ : en (op b) = 1 → om (sd (op b)) = (ed b) ∧ ps (sd (op b)) = 1 ∧ dl (sd (op b)) = lv (sd (op b)) ∧ lv (sd (op b)) = lv (sd b)) (p34_ : 0 ≤ nL) (cL1b : pj_L1b sd ed st om pd nL kd wy td ls wh) (cR : pj_R W nL kd wy wh) (cL1 : pj_L1 sd op ed st lv om dl en cl nL kd wy ll td ls wh) : pj_L1b sd ed st (pu om (sd b) (ed b)) pd (nL + 1) (pu kd nL 0) (pu wy nL b) (pu td nL (-1)) (pu ls nL (-1)) (pu wh nL 0) := by
  obtain ⟨hop, hed⟩ := hG
  unfold pj_L1b pj_R pj_L1 at *
  intro k0
  simp only [pu]
  have g0 := hop b
  have g1 := hop a
  have g2 := hop (wy k0)
  have g3 := hed b a
  have g4 := hed b (wy k0)
  have g5 := hed a (wy k0)
  have cL1b_0 := cL1b k0
  have cR_0 := cR k0
  have cL1_0 := cL1 k0
  have f0 := p0_ b
  have f1 := p0_ a
  have f2 := p0_ (wy k0)
  have f3 := p0_ (op (wy k0))
  have f4 := p0_ (op b)
  have f5 := p21_ k0
  have f6 := p22_ k0
  clear p0_ p21_ p22_
  clear hop hed cL1b cR cL1
  grind (splits := 24)

set_option maxHeartbeats 1000000 in
theorem pt_cb_L1g {W : Int → Prop} {sd : Int → Int} {op : Int → Int} {ed : Int → Int} {st : Int → Int} {lv : Int → Int} {nm : Int → Int} {tow : Int → Int} {om : Int → Int} {ps : Int → Int} {dl : Int → Int} {dn : Int → Int} {en : Int → Int} {cl : Int → Int} {cw : Int → Int} {tk : Int → Int} {nL : Int} {kd : Int → Int} {wy : Int → Int} {td : Int → Int} {ls : Int → Int} {wh : Int → Int} {F : Int → Prop} {a b : Int} (hG : pj_G W sd op ed) (p0_ : ∀ v, ¬ F v) (p1_ : W b) (p2_ : W a) (p3_ : sd a = (sd b)) (p4_ : om (sd b) = ed a) (p5_ : om (sd (op a)) = ed a) (p6_ : st (sd b) = 2) (p7_ : ps (sd b) = 0) (p8_ : dl (sd b) = lv (sd b)) (p9_ : 1 ≤ lv (sd b)) (p10_ : tk (nm (sd b)) = 1) (p11_ : cw (nm (sd b)) = -1) (p12_ : st (sd (op a)) ≠ 1) (p13_ : dl (sd (op a)) = lv (sd (op a))) (p14_ : dl (sd (op a)) = lv (sd b)) (p15_ : dn (sd (op a)) = nm (sd b)) (p16_ : en a = 1) (p17_ : en (op a) = 1) (p18_ : cl (ed a) ≤ lv (sd b)) (p19_ : a ≠ b) (p20_ : b ≠ -1) (p21_ : ∀ j, 0 ≤ j → j < nL → wh j ≠ 2 → kd j = 6 → nm (sd (op (wy j))) ≠ nm (sd b)) (p22_ : ∀ j, 0 ≤ j → j < nL → wh j ≠ 2 → kd j = 5 → wy j ≠ op a) (p23_ : tow (sd b) = (ed b)) (p24_ : om (sd b) ≠ (ed b)) (p25_ : nm (sd b) ≠ (ed b)) (p26_ : nm (sd b) = ed a → tk (ed a) = 1) (p27_ : en b = 0) (p28_ : nm (sd (op b)) ≠ nm (sd b)) (p29_ : lv (sd b) ≤ lv (sd (op b))) (p30_ : en (op b) ≠ 2) (p31_ : en (op b) = 0 ∨ en (op b) = 1) (p32_ : cl (ed b) = 0) (p33_ : en (op b) = 1 → om (sd (op b)) = (ed b) ∧ ps (sd (op b)) = 1 ∧ dl (sd (op b)) = lv (sd (op b)) ∧ lv (sd (op b)) = lv (sd b)) (p34_ : 0 ≤ nL) (cL1g : pj_L1g W sd op ed nL kd wy td ls wh) (cR : pj_R W nL kd wy wh) : pj_L1g W sd op ed (nL + 1) (pu kd nL 0) (pu wy nL b) (pu td nL (-1)) (pu ls nL (-1)) (pu wh nL 0) := by
  obtain ⟨hop, hed⟩ := hG
  unfold pj_L1g pj_R at *
  intro k0 v0
  simp only [pu]
  have g0 := hop b
  have g1 := hop a
  have g2 := hop (wy k0)
  have g3 := hop v0
  have g4 := hed b a
  have g5 := hed b (wy k0)
  have g6 := hed b v0
  have g7 := hed a (wy k0)
  have g8 := hed a v0
  have g9 := hed (wy k0) v0
  have cL1g_0 := cL1g k0 b
  have cL1g_1 := cL1g k0 a
  have cL1g_2 := cL1g k0 (wy k0)
  have cL1g_3 := cL1g k0 (op (wy k0))
  have cL1g_4 := cL1g k0 v0
  have cL1g_5 := cL1g k0 (op v0)
  have cR_0 := cR k0
  have f0 := p0_ b
  have f1 := p0_ a
  have f2 := p0_ (wy k0)
  have f3 := p0_ (op (wy k0))
  have f4 := p0_ v0
  have f5 := p0_ (op v0)
  have f6 := p0_ (op b)
  have f7 := p21_ k0
  have f8 := p22_ k0
  clear p0_ p21_ p22_
  clear hop hed cL1g cR
  grind (splits := 24)

set_option maxHeartbeats 1000000 in
theorem pt_cb_L2 {W : Int → Prop} {sd : Int → Int} {op : Int → Int} {ed : Int → Int} {st : Int → Int} {lv : Int → Int} {nm : Int → Int} {tow : Int → Int} {tst : Int → Int} {om : Int → Int} {ps : Int → Int} {dl : Int → Int} {dn : Int → Int} {en : Int → Int} {fw : Int → Int} {cl : Int → Int} {cw : Int → Int} {tk : Int → Int} {nL : Int} {kd : Int → Int} {wy : Int → Int} {ll : Int → Int} {td : Int → Int} {wh : Int → Int} {F : Int → Prop} {a b : Int} (hG : pj_G W sd op ed) (p0_ : ∀ v, ¬ F v) (p1_ : W b) (p2_ : W a) (p3_ : sd a = (sd b)) (p4_ : om (sd b) = ed a) (p5_ : om (sd (op a)) = ed a) (p6_ : st (sd b) = 2) (p7_ : ps (sd b) = 0) (p8_ : dl (sd b) = lv (sd b)) (p9_ : 1 ≤ lv (sd b)) (p10_ : tk (nm (sd b)) = 1) (p11_ : cw (nm (sd b)) = -1) (p12_ : st (sd (op a)) ≠ 1) (p13_ : dl (sd (op a)) = lv (sd (op a))) (p14_ : dl (sd (op a)) = lv (sd b)) (p15_ : dn (sd (op a)) = nm (sd b)) (p16_ : en a = 1) (p17_ : en (op a) = 1) (p18_ : cl (ed a) ≤ lv (sd b)) (p19_ : a ≠ b) (p20_ : b ≠ -1) (p21_ : ∀ j, 0 ≤ j → j < nL → wh j ≠ 2 → kd j = 6 → nm (sd (op (wy j))) ≠ nm (sd b)) (p22_ : ∀ j, 0 ≤ j → j < nL → wh j ≠ 2 → kd j = 5 → wy j ≠ op a) (p23_ : tow (sd b) = (ed b)) (p24_ : om (sd b) ≠ (ed b)) (p25_ : nm (sd b) ≠ (ed b)) (p26_ : nm (sd b) = ed a → tk (ed a) = 1) (p27_ : en b = 0) (p28_ : nm (sd (op b)) ≠ nm (sd b)) (p29_ : lv (sd b) ≤ lv (sd (op b))) (p30_ : en (op b) ≠ 2) (p31_ : en (op b) = 0 ∨ en (op b) = 1) (p32_ : cl (ed b) = 0) (p33_ : en (op b) = 1 → om (sd (op b)) = (ed b) ∧ ps (sd (op b)) = 1 ∧ dl (sd (op b)) = lv (sd (op b)) ∧ lv (sd (op b)) = lv (sd b)) (p34_ : 0 ≤ nL) (cL2 : pj_L2 sd op ed st lv nm tst en fw nL kd wy ll td wh) (cR : pj_R W nL kd wy wh) : pj_L2 sd op ed st lv nm tst (pu en b 1) fw (nL + 1) (pu kd nL 0) (pu wy nL b) (pu ll nL (lv (sd b))) (pu td nL (-1)) (pu wh nL 0) := by
  obtain ⟨hop, hed⟩ := hG
  unfold pj_L2 pj_R at *
  intro k0
  simp only [pu]
  have g0 := hop b
  have g1 := hop a
  have g2 := hop (wy k0)
  have g3 := hed b a
  have g4 := hed b (wy k0)
  have g5 := hed a (wy k0)
  have cL2_0 := cL2 k0
  have cR_0 := cR k0
  have f0 := p0_ b
  have f1 := p0_ a
  have f2 := p0_ (wy k0)
  have f3 := p0_ (op (wy k0))
  have f4 := p0_ (op b)
  have f5 := p21_ k0
  have f6 := p22_ k0
  clear p0_ p21_ p22_
  clear hop hed cL2 cR
  grind (splits := 24)

set_option maxHeartbeats 1000000 in
theorem pt_cb_L3 {W : Int → Prop} {sd : Int → Int} {op : Int → Int} {ed : Int → Int} {st : Int → Int} {lv : Int → Int} {nm : Int → Int} {tow : Int → Int} {tst : Int → Int} {om : Int → Int} {ps : Int → Int} {dl : Int → Int} {dn : Int → Int} {en : Int → Int} {fw : Int → Int} {cl : Int → Int} {cw : Int → Int} {tk : Int → Int} {nL : Int} {kd : Int → Int} {wy : Int → Int} {wh : Int → Int} {F : Int → Prop} {a b : Int} (hG : pj_G W sd op ed) (p0_ : ∀ v, ¬ F v) (p1_ : W b) (p2_ : W a) (p3_ : sd a = (sd b)) (p4_ : om (sd b) = ed a) (p5_ : om (sd (op a)) = ed a) (p6_ : st (sd b) = 2) (p7_ : ps (sd b) = 0) (p8_ : dl (sd b) = lv (sd b)) (p9_ : 1 ≤ lv (sd b)) (p10_ : tk (nm (sd b)) = 1) (p11_ : cw (nm (sd b)) = -1) (p12_ : st (sd (op a)) ≠ 1) (p13_ : dl (sd (op a)) = lv (sd (op a))) (p14_ : dl (sd (op a)) = lv (sd b)) (p15_ : dn (sd (op a)) = nm (sd b)) (p16_ : en a = 1) (p17_ : en (op a) = 1) (p18_ : cl (ed a) ≤ lv (sd b)) (p19_ : a ≠ b) (p20_ : b ≠ -1) (p21_ : ∀ j, 0 ≤ j → j < nL → wh j ≠ 2 → kd j = 6 → nm (sd (op (wy j))) ≠ nm (sd b)) (p22_ : ∀ j, 0 ≤ j → j < nL → wh j ≠ 2 → kd j = 5 → wy j ≠ op a) (p23_ : tow (sd b) = (ed b)) (p24_ : om (sd b) ≠ (ed b)) (p25_ : nm (sd b) ≠ (ed b)) (p26_ : nm (sd b) = ed a → tk (ed a) = 1) (p27_ : en b = 0) (p28_ : nm (sd (op b)) ≠ nm (sd b)) (p29_ : lv (sd b) ≤ lv (sd (op b))) (p30_ : en (op b) ≠ 2) (p31_ : en (op b) = 0 ∨ en (op b) = 1) (p32_ : cl (ed b) = 0) (p33_ : en (op b) = 1 → om (sd (op b)) = (ed b) ∧ ps (sd (op b)) = 1 ∧ dl (sd (op b)) = lv (sd (op b)) ∧ lv (sd (op b)) = lv (sd b)) (p34_ : 0 ≤ nL) (cL3 : pj_L3 sd op ed st lv nm tst en fw nL kd wy wh) (cR : pj_R W nL kd wy wh) : pj_L3 sd op ed st lv nm tst (pu en b 1) fw (nL + 1) (pu kd nL 0) (pu wy nL b) (pu wh nL 0) := by
  obtain ⟨hop, hed⟩ := hG
  unfold pj_L3 pj_R at *
  intro k0
  simp only [pu]
  have g0 := hop b
  have g1 := hop a
  have g2 := hop (wy k0)
  have g3 := hed b a
  have g4 := hed b (wy k0)
  have g5 := hed a (wy k0)
  have cL3_0 := cL3 k0
  have cR_0 := cR k0
  have f0 := p0_ b
  have f1 := p0_ a
  have f2 := p0_ (wy k0)
  have f3 := p0_ (op (wy k0))
  have f4 := p0_ (op b)
  have f5 := p21_ k0
  have f6 := p22_ k0
  clear p0_ p21_ p22_
  clear hop hed cL3 cR
  grind (splits := 24)

set_option maxHeartbeats 1000000 in
theorem pt_cb_L4 {W : Int → Prop} {sd : Int → Int} {op : Int → Int} {ed : Int → Int} {st : Int → Int} {lv : Int → Int} {nm : Int → Int} {tow : Int → Int} {tst : Int → Int} {om : Int → Int} {ps : Int → Int} {dl : Int → Int} {dn : Int → Int} {en : Int → Int} {cl : Int → Int} {cw : Int → Int} {tk : Int → Int} {nL : Int} {kd : Int → Int} {wy : Int → Int} {wh : Int → Int} {F : Int → Prop} {a b : Int} (hG : pj_G W sd op ed) (p0_ : ∀ v, ¬ F v) (p1_ : W b) (p2_ : W a) (p3_ : sd a = (sd b)) (p4_ : om (sd b) = ed a) (p5_ : om (sd (op a)) = ed a) (p6_ : st (sd b) = 2) (p7_ : ps (sd b) = 0) (p8_ : dl (sd b) = lv (sd b)) (p9_ : 1 ≤ lv (sd b)) (p10_ : tk (nm (sd b)) = 1) (p11_ : cw (nm (sd b)) = -1) (p12_ : st (sd (op a)) ≠ 1) (p13_ : dl (sd (op a)) = lv (sd (op a))) (p14_ : dl (sd (op a)) = lv (sd b)) (p15_ : dn (sd (op a)) = nm (sd b)) (p16_ : en a = 1) (p17_ : en (op a) = 1) (p18_ : cl (ed a) ≤ lv (sd b)) (p19_ : a ≠ b) (p20_ : b ≠ -1) (p21_ : ∀ j, 0 ≤ j → j < nL → wh j ≠ 2 → kd j = 6 → nm (sd (op (wy j))) ≠ nm (sd b)) (p22_ : ∀ j, 0 ≤ j → j < nL → wh j ≠ 2 → kd j = 5 → wy j ≠ op a) (p23_ : tow (sd b) = (ed b)) (p24_ : om (sd b) ≠ (ed b)) (p25_ : nm (sd b) ≠ (ed b)) (p26_ : nm (sd b) = ed a → tk (ed a) = 1) (p27_ : en b = 0) (p28_ : nm (sd (op b)) ≠ nm (sd b)) (p29_ : lv (sd b) ≤ lv (sd (op b))) (p30_ : en (op b) ≠ 2) (p31_ : en (op b) = 0 ∨ en (op b) = 1) (p32_ : cl (ed b) = 0) (p33_ : en (op b) = 1 → om (sd (op b)) = (ed b) ∧ ps (sd (op b)) = 1 ∧ dl (sd (op b)) = lv (sd (op b)) ∧ lv (sd (op b)) = lv (sd b)) (p34_ : 0 ≤ nL) (cL4 : pj_L4 sd op ed st tst en nL kd wy wh) (cR : pj_R W nL kd wy wh) : pj_L4 sd op ed st tst (pu en b 1) (nL + 1) (pu kd nL 0) (pu wy nL b) (pu wh nL 0) := by
  obtain ⟨hop, hed⟩ := hG
  unfold pj_L4 pj_R at *
  intro k0
  simp only [pu]
  have g0 := hop b
  have g1 := hop a
  have g2 := hop (wy k0)
  have g3 := hed b a
  have g4 := hed b (wy k0)
  have g5 := hed a (wy k0)
  have cL4_0 := cL4 k0
  have cR_0 := cR k0
  have f0 := p0_ b
  have f1 := p0_ a
  have f2 := p0_ (wy k0)
  have f3 := p0_ (op (wy k0))
  have f4 := p0_ (op b)
  have f5 := p21_ k0
  have f6 := p22_ k0
  clear p0_ p21_ p22_
  clear hop hed cL4 cR
  grind (splits := 24)

set_option maxHeartbeats 1000000 in
theorem pt_cb_AF {W : Int → Prop} {sd : Int → Int} {op : Int → Int} {ed : Int → Int} {st : Int → Int} {lv : Int → Int} {nm : Int → Int} {tow : Int → Int} {tst : Int → Int} {om : Int → Int} {ps : Int → Int} {dl : Int → Int} {dn : Int → Int} {af : Int → Int} {en : Int → Int} {cl : Int → Int} {cw : Int → Int} {tk : Int → Int} {nL : Int} {kd : Int → Int} {wy : Int → Int} {wh : Int → Int} {F : Int → Prop} {a b : Int} (hG : pj_G W sd op ed) (p0_ : ∀ v, ¬ F v) (p1_ : W b) (p2_ : W a) (p3_ : sd a = (sd b)) (p4_ : om (sd b) = ed a) (p5_ : om (sd (op a)) = ed a) (p6_ : st (sd b) = 2) (p7_ : ps (sd b) = 0) (p8_ : dl (sd b) = lv (sd b)) (p9_ : 1 ≤ lv (sd b)) (p10_ : tk (nm (sd b)) = 1) (p11_ : cw (nm (sd b)) = -1) (p12_ : st (sd (op a)) ≠ 1) (p13_ : dl (sd (op a)) = lv (sd (op a))) (p14_ : dl (sd (op a)) = lv (sd b)) (p15_ : dn (sd (op a)) = nm (sd b)) (p16_ : en a = 1) (p17_ : en (op a) = 1) (p18_ : cl (ed a) ≤ lv (sd b)) (p19_ : a ≠ b) (p20_ : b ≠ -1) (p21_ : ∀ j, 0 ≤ j → j < nL → wh j ≠ 2 → kd j = 6 → nm (sd (op (wy j))) ≠ nm (sd b)) (p22_ : ∀ j, 0 ≤ j → j < nL → wh j ≠ 2 → kd j = 5 → wy j ≠ op a) (p23_ : tow (sd b) = (ed b)) (p24_ : om (sd b) ≠ (ed b)) (p25_ : nm (sd b) ≠ (ed b)) (p26_ : nm (sd b) = ed a → tk (ed a) = 1) (p27_ : en b = 0) (p28_ : nm (sd (op b)) ≠ nm (sd b)) (p29_ : lv (sd b) ≤ lv (sd (op b))) (p30_ : en (op b) ≠ 2) (p31_ : en (op b) = 0 ∨ en (op b) = 1) (p32_ : cl (ed b) = 0) (p33_ : en (op b) = 1 → om (sd (op b)) = (ed b) ∧ ps (sd (op b)) = 1 ∧ dl (sd (op b)) = lv (sd (op b)) ∧ lv (sd (op b)) = lv (sd b)) (p34_ : 0 ≤ nL) (cAF : pj_AF W sd op ed tst af nL kd wy wh) : pj_AF W sd op ed tst af (nL + 1) (pu kd nL 0) (pu wy nL b) (pu wh nL 0) := by
  obtain ⟨hop, hed⟩ := hG
  unfold pj_AF at *
  intro v0
  simp only [pu]
  have g0 := hop b
  have g1 := hop a
  have g2 := hop v0
  have g3 := hed b a
  have g4 := hed b v0
  have g5 := hed a v0
  have cAF_0 := cAF b
  have cAF_1 := cAF a
  have cAF_2 := cAF v0
  have cAF_3 := cAF (op v0)
  have f0 := p0_ b
  have f1 := p0_ a
  have f2 := p0_ v0
  have f3 := p0_ (op v0)
  have f4 := p0_ (op b)
  clear p0_ p21_ p22_
  clear hop hed cAF
  grind (splits := 24)

set_option maxHeartbeats 1000000 in
theorem pt_cb_RT {W : Int → Prop} {sd : Int → Int} {op : Int → Int} {ed : Int → Int} {st : Int → Int} {lv : Int → Int} {nm : Int → Int} {tow : Int → Int} {tst : Int → Int} {om : Int → Int} {ps : Int → Int} {dl : Int → Int} {dn : Int → Int} {en : Int → Int} {cl : Int → Int} {cw : Int → Int} {tk : Int → Int} {nL : Int} {kd : Int → Int} {wy : Int → Int} {wh : Int → Int} {F : Int → Prop} {a b : Int} (hG : pj_G W sd op ed) (p0_ : ∀ v, ¬ F v) (p1_ : W b) (p2_ : W a) (p3_ : sd a = (sd b)) (p4_ : om (sd b) = ed a) (p5_ : om (sd (op a)) = ed a) (p6_ : st (sd b) = 2) (p7_ : ps (sd b) = 0) (p8_ : dl (sd b) = lv (sd b)) (p9_ : 1 ≤ lv (sd b)) (p10_ : tk (nm (sd b)) = 1) (p11_ : cw (nm (sd b)) = -1) (p12_ : st (sd (op a)) ≠ 1) (p13_ : dl (sd (op a)) = lv (sd (op a))) (p14_ : dl (sd (op a)) = lv (sd b)) (p15_ : dn (sd (op a)) = nm (sd b)) (p16_ : en a = 1) (p17_ : en (op a) = 1) (p18_ : cl (ed a) ≤ lv (sd b)) (p19_ : a ≠ b) (p20_ : b ≠ -1) (p21_ : ∀ j, 0 ≤ j → j < nL → wh j ≠ 2 → kd j = 6 → nm (sd (op (wy j))) ≠ nm (sd b)) (p22_ : ∀ j, 0 ≤ j → j < nL → wh j ≠ 2 → kd j = 5 → wy j ≠ op a) (p23_ : tow (sd b) = (ed b)) (p24_ : om (sd b) ≠ (ed b)) (p25_ : nm (sd b) ≠ (ed b)) (p26_ : nm (sd b) = ed a → tk (ed a) = 1) (p27_ : en b = 0) (p28_ : nm (sd (op b)) ≠ nm (sd b)) (p29_ : lv (sd b) ≤ lv (sd (op b))) (p30_ : en (op b) ≠ 2) (p31_ : en (op b) = 0 ∨ en (op b) = 1) (p32_ : cl (ed b) = 0) (p33_ : en (op b) = 1 → om (sd (op b)) = (ed b) ∧ ps (sd (op b)) = 1 ∧ dl (sd (op b)) = lv (sd (op b)) ∧ lv (sd (op b)) = lv (sd b)) (p34_ : 0 ≤ nL) (cRT : pj_RT sd ed tst nL kd wy wh) (cR : pj_R W nL kd wy wh) : pj_RT sd ed tst (nL + 1) (pu kd nL 0) (pu wy nL b) (pu wh nL 0) := by
  obtain ⟨hop, hed⟩ := hG
  unfold pj_RT pj_R at *
  intro j0 k0
  simp only [pu]
  have g0 := hop b
  have g1 := hop a
  have g2 := hop (wy j0)
  have g3 := hop (wy k0)
  have g4 := hed b a
  have g5 := hed b (wy j0)
  have g6 := hed b (wy k0)
  have g7 := hed a (wy j0)
  have g8 := hed a (wy k0)
  have g9 := hed (wy j0) (wy k0)
  have cRT_0 := cRT j0 j0
  have cRT_1 := cRT j0 k0
  have cRT_2 := cRT k0 j0
  have cRT_3 := cRT k0 k0
  have cR_0 := cR j0
  have cR_1 := cR k0
  have f0 := p0_ b
  have f1 := p0_ a
  have f2 := p0_ (wy j0)
  have f3 := p0_ (op (wy j0))
  have f4 := p0_ (wy k0)
  have f5 := p0_ (op (wy k0))
  have f6 := p0_ (op b)
  have f7 := p21_ j0
  have f8 := p21_ k0
  have f9 := p22_ j0
  have f10 := p22_ k0
  clear p0_ p21_ p22_
  clear hop hed cRT cR
  grind (splits := 24)

set_option maxHeartbeats 1000000 in
theorem pt_cb_CV {W : Int → Prop} {sd : Int → Int} {op : Int → Int} {ed : Int → Int} {st : Int → Int} {lv : Int → Int} {nm : Int → Int} {tow : Int → Int} {tst : Int → Int} {om : Int → Int} {ps : Int → Int} {dl : Int → Int} {dn : Int → Int} {en : Int → Int} {cl : Int → Int} {cw : Int → Int} {tk : Int → Int} {nL : Int} {kd : Int → Int} {wy : Int → Int} {wh : Int → Int} {F : Int → Prop} {a b : Int} (hG : pj_G W sd op ed) (p0_ : ∀ v, ¬ F v) (p1_ : W b) (p2_ : W a) (p3_ : sd a = (sd b)) (p4_ : om (sd b) = ed a) (p5_ : om (sd (op a)) = ed a) (p6_ : st (sd b) = 2) (p7_ : ps (sd b) = 0) (p8_ : dl (sd b) = lv (sd b)) (p9_ : 1 ≤ lv (sd b)) (p10_ : tk (nm (sd b)) = 1) (p11_ : cw (nm (sd b)) = -1) (p12_ : st (sd (op a)) ≠ 1) (p13_ : dl (sd (op a)) = lv (sd (op a))) (p14_ : dl (sd (op a)) = lv (sd b)) (p15_ : dn (sd (op a)) = nm (sd b)) (p16_ : en a = 1) (p17_ : en (op a) = 1) (p18_ : cl (ed a) ≤ lv (sd b)) (p19_ : a ≠ b) (p20_ : b ≠ -1) (p21_ : ∀ j, 0 ≤ j → j < nL → wh j ≠ 2 → kd j = 6 → nm (sd (op (wy j))) ≠ nm (sd b)) (p22_ : ∀ j, 0 ≤ j → j < nL → wh j ≠ 2 → kd j = 5 → wy j ≠ op a) (p23_ : tow (sd b) = (ed b)) (p24_ : om (sd b) ≠ (ed b)) (p25_ : nm (sd b) ≠ (ed b)) (p26_ : nm (sd b) = ed a → tk (ed a) = 1) (p27_ : en b = 0) (p28_ : nm (sd (op b)) ≠ nm (sd b)) (p29_ : lv (sd b) ≤ lv (sd (op b))) (p30_ : en (op b) ≠ 2) (p31_ : en (op b) = 0 ∨ en (op b) = 1) (p32_ : cl (ed b) = 0) (p33_ : en (op b) = 1 → om (sd (op b)) = (ed b) ∧ ps (sd (op b)) = 1 ∧ dl (sd (op b)) = lv (sd (op b)) ∧ lv (sd (op b)) = lv (sd b)) (p34_ : 0 ≤ nL) (cCV : pj_CV W sd op ed tst nL kd wy wh) (cR : pj_R W nL kd wy wh) : pj_CV W sd op ed tst (nL + 1) (pu kd nL 0) (pu wy nL b) (pu wh nL 0) := by
  obtain ⟨hop, hed⟩ := hG
  unfold pj_CV pj_R at *
  intro v0 j0 k0
  simp only [pu]
  have g0 := hop b
  have g1 := hop a
  have g2 := hop v0
  have g3 := hop (wy j0)
  have g4 := hop (wy k0)
  have g5 := hed b a
  have g6 := hed b v0
  have g7 := hed b (wy j0)
  have g8 := hed b (wy k0)
  have g9 := hed a v0
  have g10 := hed a (wy j0)
  have g11 := hed a (wy k0)
  have g12 := hed v0 (wy j0)
  have g13 := hed v0 (wy k0)
  have g14 := hed (wy j0) (wy k0)
  have cCV_0 := cCV v0 j0 k0
  have cR_0 := cR j0
  have cR_1 := cR k0
  have f0 := p0_ b
  have f1 := p0_ a
  have f2 := p0_ v0
  have f3 := p0_ (op v0)
  have f4 := p0_ (wy j0)
  have f5 := p0_ (op (wy j0))
  have f6 := p0_ (wy k0)
  have f7 := p0_ (op (wy k0))
  have f8 := p0_ (op b)
  have f9 := p21_ j0
  have f10 := p21_ k0
  have f11 := p22_ j0
  have f12 := p22_ k0
  clear p0_ p21_ p22_
  clear hop hed cCV cR
  grind (splits := 24)

set_option maxHeartbeats 1000000 in
theorem pt_cb_L5 {W : Int → Prop} {sd : Int → Int} {op : Int → Int} {ed : Int → Int} {st : Int → Int} {lv : Int → Int} {nm : Int → Int} {inw : Int → Int} {tow : Int → Int} {bst : Int → Int} {om : Int → Int} {ps : Int → Int} {dl : Int → Int} {dn : Int → Int} {af : Int → Int} {en : Int → Int} {pd : Int → Int} {rp : Int → Int} {rv : Int → Int} {cl : Int → Int} {cw : Int → Int} {tk : Int → Int} {nL : Int} {kd : Int → Int} {wy : Int → Int} {td : Int → Int} {wh : Int → Int} {F : Int → Prop} {a b : Int} (hG : pj_G W sd op ed) (p0_ : ∀ v, ¬ F v) (p1_ : W b) (p2_ : W a) (p3_ : sd a = (sd b)) (p4_ : om (sd b) = ed a) (p5_ : om (sd (op a)) = ed a) (p6_ : st (sd b) = 2) (p7_ : ps (sd b) = 0) (p8_ : dl (sd b) = lv (sd b)) (p9_ : 1 ≤ lv (sd b)) (p10_ : tk (nm (sd b)) = 1) (p11_ : cw (nm (sd b)) = -1) (p12_ : st (sd (op a)) ≠ 1) (p13_ : dl (sd (op a)) = lv (sd (op a))) (p14_ : dl (sd (op a)) = lv (sd b)) (p15_ : dn (sd (op a)) = nm (sd b)) (p16_ : en a = 1) (p17_ : en (op a) = 1) (p18_ : cl (ed a) ≤ lv (sd b)) (p19_ : a ≠ b) (p20_ : b ≠ -1) (p21_ : ∀ j, 0 ≤ j → j < nL → wh j ≠ 2 → kd j = 6 → nm (sd (op (wy j))) ≠ nm (sd b)) (p22_ : ∀ j, 0 ≤ j → j < nL → wh j ≠ 2 → kd j = 5 → wy j ≠ op a) (p23_ : tow (sd b) = (ed b)) (p24_ : om (sd b) ≠ (ed b)) (p25_ : nm (sd b) ≠ (ed b)) (p26_ : nm (sd b) = ed a → tk (ed a) = 1) (p27_ : en b = 0) (p28_ : nm (sd (op b)) ≠ nm (sd b)) (p29_ : lv (sd b) ≤ lv (sd (op b))) (p30_ : en (op b) ≠ 2) (p31_ : en (op b) = 0 ∨ en (op b) = 1) (p32_ : cl (ed b) = 0) (p33_ : en (op b) = 1 → om (sd (op b)) = (ed b) ∧ ps (sd (op b)) = 1 ∧ dl (sd (op b)) = lv (sd (op b)) ∧ lv (sd (op b)) = lv (sd b)) (p34_ : 0 ≤ nL) (cL5 : pj_L5 sd op ed st lv nm inw bst om ps dl pd rp rv cl tk nL kd wy td wh) (cR : pj_R W nL kd wy wh) (cN13 : pj_N13 W sd ed lv nm inw) (cN5 : pj_N5 lv inw om ps) (cPD : pj_PD W sd op ed st om en pd) (cN0 : pj_N0 st lv ps dl af) (cC2 : pj_C2 lv nm dl dn cl) : pj_L5 sd op ed st lv nm inw bst (pu om (sd b) (ed b)) (pu ps (sd b) 1) dl pd rp rv cl tk (nL + 1) (pu kd nL 0) (pu wy nL b) (pu td nL (-1)) (pu wh nL 0) := by
  obtain ⟨hop, hed⟩ := hG
  unfold pj_L5 pj_R pj_N13 pj_N5 pj_PD pj_N0 pj_C2 at *
  intro k0
  simp only [pu]
  have g0 := hop b
  have g1 := hop a
  have g2 := hop (wy k0)
  have g3 := hed b a
  have g4 := hed b (wy k0)
  have g5 := hed a (wy k0)
  have cL5_0 := cL5 k0
  have cR_0 := cR k0
  have cN13_0 := cN13 b
  have cN13_1 := cN13 a
  have cN13_2 := cN13 (wy k0)
  have cN13_3 := cN13 (op (wy k0))
  have cN5_0 := cN5 (sd (op b))
  have cN5_1 := cN5 (sd (op a))
  have cN5_2 := cN5 (sd b)
  have cN5_3 := cN5 (sd a)
  have cN5_4 := cN5 (sd (wy k0))
  have cN5_5 := cN5 (sd (op (wy k0)))
  have cPD_0 := cPD b
  have cPD_1 := cPD a
  have cPD_2 := cPD (wy k0)
  have cPD_3 := cPD (op (wy k0))
  have cN0_0 := cN0 (sd (op b))
  have cN0_1 := cN0 (sd (op a))
  have cN0_2 := cN0 (sd b)
  have cN0_3 := cN0 (sd a)
  have cN0_4 := cN0 (sd (wy k0))
  have cN0_5 := cN0 (sd (op (wy k0)))
  have cC2_0 := cC2 (sd (op b))
  have cC2_1 := cC2 (sd (op a))
  have cC2_2 := cC2 (sd b)
  have cC2_3 := cC2 (sd a)
  have cC2_4 := cC2 (sd (wy k0))
  have cC2_5 := cC2 (sd (op (wy k0)))
  have f0 := p0_ b
  have f1 := p0_ a
  have f2 := p0_ (wy k0)
  have f3 := p0_ (op (wy k0))
  have f4 := p0_ (op b)
  have f5 := p21_ k0
  have f6 := p22_ k0
  clear p0_ p21_ p22_
  clear hop hed cL5 cR cN13 cN5 cPD cN0 cC2
  grind (splits := 24)

set_option maxHeartbeats 1000000 in
theorem pt_cb_L5o {W : Int → Prop} {sd : Int → Int} {op : Int → Int} {ed : Int → Int} {st : Int → Int} {lv : Int → Int} {nm : Int → Int} {tow : Int → Int} {om : Int → Int} {ps : Int → Int} {dl : Int → Int} {dn : Int → Int} {en : Int → Int} {cl : Int → Int} {cw : Int → Int} {tk : Int → Int} {nL : Int} {kd : Int → Int} {wy : Int → Int} {wh : Int → Int} {F : Int → Prop} {a b : Int} (hG : pj_G W sd op ed) (p0_ : ∀ v, ¬ F v) (p1_ : W b) (p2_ : W a) (p3_ : sd a = (sd b)) (p4_ : om (sd b) = ed a) (p5_ : om (sd (op a)) = ed a) (p6_ : st (sd b) = 2) (p7_ : ps (sd b) = 0) (p8_ : dl (sd b) = lv (sd b)) (p9_ : 1 ≤ lv (sd b)) (p10_ : tk (nm (sd b)) = 1) (p11_ : cw (nm (sd b)) = -1) (p12_ : st (sd (op a)) ≠ 1) (p13_ : dl (sd (op a)) = lv (sd (op a))) (p14_ : dl (sd (op a)) = lv (sd b)) (p15_ : dn (sd (op a)) = nm (sd b)) (p16_ : en a = 1) (p17_ : en (op a) = 1) (p18_ : cl (ed a) ≤ lv (sd b)) (p19_ : a ≠ b) (p20_ : b ≠ -1) (p21_ : ∀ j, 0 ≤ j → j < nL → wh j ≠ 2 → kd j = 6 → nm (sd (op (wy j))) ≠ nm (sd b)) (p22_ : ∀ j, 0 ≤ j → j < nL → wh j ≠ 2 → kd j = 5 → wy j ≠ op a) (p23_ : tow (sd b) = (ed b)) (p24_ : om (sd b) ≠ (ed b)) (p25_ : nm (sd b) ≠ (ed b)) (p26_ : nm (sd b) = ed a → tk (ed a) = 1) (p27_ : en b = 0) (p28_ : nm (sd (op b)) ≠ nm (sd b)) (p29_ : lv (sd b) ≤ lv (sd (op b))) (p30_ : en (op b) ≠ 2) (p31_ : en (op b) = 0 ∨ en (op b) = 1) (p32_ : cl (ed b) = 0) (p33_ : en (op b) = 1 → om (sd (op b)) = (ed b) ∧ ps (sd (op b)) = 1 ∧ dl (sd (op b)) = lv (sd (op b)) ∧ lv (sd (op b)) = lv (sd b)) (p34_ : 0 ≤ nL) (cL5o : pj_L5o sd op ed lv cl nL kd wy wh) (cR : pj_R W nL kd wy wh) : pj_L5o sd op ed lv cl (nL + 1) (pu kd nL 0) (pu wy nL b) (pu wh nL 0) := by
  obtain ⟨hop, hed⟩ := hG
  unfold pj_L5o pj_R at *
  intro j0 k0
  simp only [pu]
  have g0 := hop b
  have g1 := hop a
  have g2 := hop (wy j0)
  have g3 := hop (wy k0)
  have g4 := hed b a
  have g5 := hed b (wy j0)
  have g6 := hed b (wy k0)
  have g7 := hed a (wy j0)
  have g8 := hed a (wy k0)
  have g9 := hed (wy j0) (wy k0)
  have cL5o_0 := cL5o j0 j0
  have cL5o_1 := cL5o j0 k0
  have cL5o_2 := cL5o k0 j0
  have cL5o_3 := cL5o k0 k0
  have cR_0 := cR j0
  have cR_1 := cR k0
  have f0 := p0_ b
  have f1 := p0_ a
  have f2 := p0_ (wy j0)
  have f3 := p0_ (op (wy j0))
  have f4 := p0_ (wy k0)
  have f5 := p0_ (op (wy k0))
  have f6 := p0_ (op b)
  have f7 := p21_ j0
  have f8 := p21_ k0
  have f9 := p22_ j0
  have f10 := p22_ k0
  clear p0_ p21_ p22_
  clear hop hed cL5o cR
  grind (splits := 24)

set_option maxHeartbeats 1000000 in
theorem pt_cb_L5u {W : Int → Prop} {sd : Int → Int} {op : Int → Int} {ed : Int → Int} {st : Int → Int} {lv : Int → Int} {nm : Int → Int} {tow : Int → Int} {om : Int → Int} {ps : Int → Int} {dl : Int → Int} {dn : Int → Int} {en : Int → Int} {cl : Int → Int} {cw : Int → Int} {tk : Int → Int} {nL : Int} {kd : Int → Int} {wy : Int → Int} {wh : Int → Int} {F : Int → Prop} {a b : Int} (hG : pj_G W sd op ed) (p0_ : ∀ v, ¬ F v) (p1_ : W b) (p2_ : W a) (p3_ : sd a = (sd b)) (p4_ : om (sd b) = ed a) (p5_ : om (sd (op a)) = ed a) (p6_ : st (sd b) = 2) (p7_ : ps (sd b) = 0) (p8_ : dl (sd b) = lv (sd b)) (p9_ : 1 ≤ lv (sd b)) (p10_ : tk (nm (sd b)) = 1) (p11_ : cw (nm (sd b)) = -1) (p12_ : st (sd (op a)) ≠ 1) (p13_ : dl (sd (op a)) = lv (sd (op a))) (p14_ : dl (sd (op a)) = lv (sd b)) (p15_ : dn (sd (op a)) = nm (sd b)) (p16_ : en a = 1) (p17_ : en (op a) = 1) (p18_ : cl (ed a) ≤ lv (sd b)) (p19_ : a ≠ b) (p20_ : b ≠ -1) (p21_ : ∀ j, 0 ≤ j → j < nL → wh j ≠ 2 → kd j = 6 → nm (sd (op (wy j))) ≠ nm (sd b)) (p22_ : ∀ j, 0 ≤ j → j < nL → wh j ≠ 2 → kd j = 5 → wy j ≠ op a) (p23_ : tow (sd b) = (ed b)) (p24_ : om (sd b) ≠ (ed b)) (p25_ : nm (sd b) ≠ (ed b)) (p26_ : nm (sd b) = ed a → tk (ed a) = 1) (p27_ : en b = 0) (p28_ : nm (sd (op b)) ≠ nm (sd b)) (p29_ : lv (sd b) ≤ lv (sd (op b))) (p30_ : en (op b) ≠ 2) (p31_ : en (op b) = 0 ∨ en (op b) = 1) (p32_ : cl (ed b) = 0) (p33_ : en (op b) = 1 → om (sd (op b)) = (ed b) ∧ ps (sd (op b)) = 1 ∧ dl (sd (op b)) = lv (sd (op b)) ∧ lv (sd (op b)) = lv (sd b)) (p34_ : 0 ≤ nL) (cL5u : pj_L5u nL kd wy wh) (cR : pj_R W nL kd wy wh) : pj_L5u (nL + 1) (pu kd nL 0) (pu wy nL b) (pu wh nL 0) := by
  obtain ⟨hop, hed⟩ := hG
  unfold pj_L5u pj_R at *
  intro j0 k0
  simp only [pu]
  have g0 := hop b
  have g1 := hop a
  have g2 := hop (wy j0)
  have g3 := hop (wy k0)
  have g4 := hed b a
  have g5 := hed b (wy j0)
  have g6 := hed b (wy k0)
  have g7 := hed a (wy j0)
  have g8 := hed a (wy k0)
  have g9 := hed (wy j0) (wy k0)
  have cL5u_0 := cL5u j0 j0
  have cL5u_1 := cL5u j0 k0
  have cL5u_2 := cL5u k0 j0
  have cL5u_3 := cL5u k0 k0
  have cR_0 := cR j0
  have cR_1 := cR k0
  have f0 := p0_ b
  have f1 := p0_ a
  have f2 := p0_ (wy j0)
  have f3 := p0_ (op (wy j0))
  have f4 := p0_ (wy k0)
  have f5 := p0_ (op (wy k0))
  have f6 := p0_ (op b)
  have f7 := p21_ j0
  have f8 := p21_ k0
  have f9 := p22_ j0
  have f10 := p22_ k0
  clear p0_ p21_ p22_
  clear hop hed cL5u cR
  grind (splits := 24)

set_option maxHeartbeats 1000000 in
theorem pt_cb_L6 {W : Int → Prop} {sd : Int → Int} {op : Int → Int} {ed : Int → Int} {st : Int → Int} {lv : Int → Int} {nm : Int → Int} {tow : Int → Int} {om : Int → Int} {ps : Int → Int} {dl : Int → Int} {dn : Int → Int} {en : Int → Int} {cl : Int → Int} {cw : Int → Int} {tk : Int → Int} {nL : Int} {kd : Int → Int} {wy : Int → Int} {wh : Int → Int} {F : Int → Prop} {a b : Int} (hG : pj_G W sd op ed) (p0_ : ∀ v, ¬ F v) (p1_ : W b) (p2_ : W a) (p3_ : sd a = (sd b)) (p4_ : om (sd b) = ed a) (p5_ : om (sd (op a)) = ed a) (p6_ : st (sd b) = 2) (p7_ : ps (sd b) = 0) (p8_ : dl (sd b) = lv (sd b)) (p9_ : 1 ≤ lv (sd b)) (p10_ : tk (nm (sd b)) = 1) (p11_ : cw (nm (sd b)) = -1) (p12_ : st (sd (op a)) ≠ 1) (p13_ : dl (sd (op a)) = lv (sd (op a))) (p14_ : dl (sd (op a)) = lv (sd b)) (p15_ : dn (sd (op a)) = nm (sd b)) (p16_ : en a = 1) (p17_ : en (op a) = 1) (p18_ : cl (ed a) ≤ lv (sd b)) (p19_ : a ≠ b) (p20_ : b ≠ -1) (p21_ : ∀ j, 0 ≤ j → j < nL → wh j ≠ 2 → kd j = 6 → nm (sd (op (wy j))) ≠ nm (sd b)) (p22_ : ∀ j, 0 ≤ j → j < nL → wh j ≠ 2 → kd j = 5 → wy j ≠ op a) (p23_ : tow (sd b) = (ed b)) (p24_ : om (sd b) ≠ (ed b)) (p25_ : nm (sd b) ≠ (ed b)) (p26_ : nm (sd b) = ed a → tk (ed a) = 1) (p27_ : en b = 0) (p28_ : nm (sd (op b)) ≠ nm (sd b)) (p29_ : lv (sd b) ≤ lv (sd (op b))) (p30_ : en (op b) ≠ 2) (p31_ : en (op b) = 0 ∨ en (op b) = 1) (p32_ : cl (ed b) = 0) (p33_ : en (op b) = 1 → om (sd (op b)) = (ed b) ∧ ps (sd (op b)) = 1 ∧ dl (sd (op b)) = lv (sd (op b)) ∧ lv (sd (op b)) = lv (sd b)) (p34_ : 0 ≤ nL) (cL6 : pj_L6 sd op ed st lv nm tow om ps dl cw tk nL kd wy wh) (cR : pj_R W nL kd wy wh) : pj_L6 sd op ed st lv nm tow (pu om (sd b) (ed b)) (pu ps (sd b) 1) dl (pu cw (nm (sd b)) b) tk (nL + 1) (pu kd nL 0) (pu wy nL b) (pu wh nL 0) := by
  obtain ⟨hop, hed⟩ := hG
  unfold pj_L6 pj_R at *
  intro k0
  simp only [pu]
  have g0 := hop b
  have g1 := hop a
  have g2 := hop (wy k0)
  have g3 := hed b a
  have g4 := hed b (wy k0)
  have g5 := hed a (wy k0)
  have cL6_0 := cL6 k0
  have cR_0 := cR k0
  have f0 := p0_ b
  have f1 := p0_ a
  have f2 := p0_ (wy k0)
  have f3 := p0_ (op (wy k0))
  have f4 := p0_ (op b)
  have f5 := p21_ k0
  have f6 := p22_ k0
  clear p0_ p21_ p22_
  clear hop hed cL6 cR
  grind (splits := 24)

set_option maxHeartbeats 1000000 in
theorem pt_cb_L6u {W : Int → Prop} {sd : Int → Int} {op : Int → Int} {ed : Int → Int} {st : Int → Int} {lv : Int → Int} {nm : Int → Int} {tow : Int → Int} {om : Int → Int} {ps : Int → Int} {dl : Int → Int} {dn : Int → Int} {en : Int → Int} {cl : Int → Int} {cw : Int → Int} {tk : Int → Int} {nL : Int} {kd : Int → Int} {wy : Int → Int} {wh : Int → Int} {F : Int → Prop} {a b : Int} (hG : pj_G W sd op ed) (p0_ : ∀ v, ¬ F v) (p1_ : W b) (p2_ : W a) (p3_ : sd a = (sd b)) (p4_ : om (sd b) = ed a) (p5_ : om (sd (op a)) = ed a) (p6_ : st (sd b) = 2) (p7_ : ps (sd b) = 0) (p8_ : dl (sd b) = lv (sd b)) (p9_ : 1 ≤ lv (sd b)) (p10_ : tk (nm (sd b)) = 1) (p11_ : cw (nm (sd b)) = -1) (p12_ : st (sd (op a)) ≠ 1) (p13_ : dl (sd (op a)) = lv (sd (op a))) (p14_ : dl (sd (op a)) = lv (sd b)) (p15_ : dn (sd (op a)) = nm (sd b)) (p16_ : en a = 1) (p17_ : en (op a) = 1) (p18_ : cl (ed a) ≤ lv (sd b)) (p19_ : a ≠ b) (p20_ : b ≠ -1) (p21_ : ∀ j, 0 ≤ j → j < nL → wh j ≠ 2 → kd j = 6 → nm (sd (op (wy j))) ≠ nm (sd b)) (p22_ : ∀ j, 0 ≤ j → j < nL → wh j ≠ 2 → kd j = 5 → wy j ≠ op a) (p23_ : tow (sd b) = (ed b)) (p24_ : om (sd b) ≠ (ed b)) (p25_ : nm (sd b) ≠ (ed b)) (p26_ : nm (sd b) = ed a → tk (ed a) = 1) (p27_ : en b = 0) (p28_ : nm (sd (op b)) ≠ nm (sd b)) (p29_ : lv (sd b) ≤ lv (sd (op b))) (p30_ : en (op b) ≠ 2) (p31_ : en (op b) = 0 ∨ en (op b) = 1) (p32_ : cl (ed b) = 0) (p33_ : en (op b) = 1 → om (sd (op b)) = (ed b) ∧ ps (sd (op b)) = 1 ∧ dl (sd (op b)) = lv (sd (op b)) ∧ lv (sd (op b)) = lv (sd b)) (p34_ : 0 ≤ nL) (cL6u : pj_L6u sd op nm nL kd wy wh) (cR : pj_R W nL kd wy wh) : pj_L6u sd op nm (nL + 1) (pu kd nL 0) (pu wy nL b) (pu wh nL 0) := by
  obtain ⟨hop, hed⟩ := hG
  unfold pj_L6u pj_R at *
  intro j0 k0
  simp only [pu]
  have g0 := hop b
  have g1 := hop a
  have g2 := hop (wy j0)
  have g3 := hop (wy k0)
  have g4 := hed b a
  have g5 := hed b (wy j0)
  have g6 := hed b (wy k0)
  have g7 := hed a (wy j0)
  have g8 := hed a (wy k0)
  have g9 := hed (wy j0) (wy k0)
  have cL6u_0 := cL6u j0 j0
  have cL6u_1 := cL6u j0 k0
  have cL6u_2 := cL6u k0 j0
  have cL6u_3 := cL6u k0 k0
  have cR_0 := cR j0
  have cR_1 := cR k0
  have f0 := p0_ b
  have f1 := p0_ a
  have f2 := p0_ (wy j0)
  have f3 := p0_ (op (wy j0))
  have f4 := p0_ (wy k0)
  have f5 := p0_ (op (wy k0))
  have f6 := p0_ (op b)
  have f7 := p21_ j0
  have f8 := p21_ k0
  have f9 := p22_ j0
  have f10 := p22_ k0
  clear p0_ p21_ p22_
  clear hop hed cL6u cR
  grind (splits := 24)

theorem pj_cb {W : Int → Prop} {sd op ed : Int → Int} {li : Int → Int → Prop} {st lv nm inw tow bst tst exp om ps dl dn af c0 en pd rp rv fw cl cw tk kd wy ll td ls wh : Int → Int} {nL : Int} {F F2 : Int → Prop} {fl fc : Int} {a b k : Int} (hG : pj_G W sd op ed) (p0_ : ∀ v, ¬ F v) (p1_ : W b) (p2_ : W a) (p3_ : sd a = (sd b)) (p4_ : om (sd b) = ed a) (p5_ : om (sd (op a)) = ed a) (p6_ : st (sd b) = 2) (p7_ : ps (sd b) = 0) (p8_ : dl (sd b) = lv (sd b)) (p9_ : 1 ≤ lv (sd b)) (p10_ : tk (nm (sd b)) = 1) (p11_ : cw (nm (sd b)) = -1) (p12_ : st (sd (op a)) ≠ 1) (p13_ : dl (sd (op a)) = lv (sd (op a))) (p14_ : dl (sd (op a)) = lv (sd b)) (p15_ : dn (sd (op a)) = nm (sd b)) (p16_ : en a = 1) (p17_ : en (op a) = 1) (p18_ : cl (ed a) ≤ lv (sd b)) (p19_ : a ≠ b) (p20_ : b ≠ -1) (p21_ : ∀ j, 0 ≤ j → j < nL → wh j ≠ 2 → kd j = 6 → nm (sd (op (wy j))) ≠ nm (sd b)) (p22_ : ∀ j, 0 ≤ j → j < nL → wh j ≠ 2 → kd j = 5 → wy j ≠ op a) (p23_ : tow (sd b) = (ed b)) (p24_ : om (sd b) ≠ (ed b)) (p25_ : nm (sd b) ≠ (ed b)) (p26_ : nm (sd b) = ed a → tk (ed a) = 1) (p27_ : en b = 0) (p28_ : nm (sd (op b)) ≠ nm (sd b)) (p29_ : lv (sd b) ≤ lv (sd (op b))) (p30_ : en (op b) ≠ 2) (p31_ : en (op b) = 0 ∨ en (op b) = 1) (p32_ : cl (ed b) = 0) (p33_ : en (op b) = 1 → om (sd (op b)) = (ed b) ∧ ps (sd (op b)) = 1 ∧ dl (sd (op b)) = lv (sd (op b)) ∧ lv (sd (op b)) = lv (sd b)) (p34_ : 0 ≤ nL) (h : pj_J W sd op ed li st lv nm inw tow bst tst exp om ps dl dn af c0 en pd rp rv fw cl cw tk nL kd wy ll td ls wh F fl fc) : pj_J W sd op ed li st lv nm inw tow bst tst exp (pu om (sd b) (ed b)) (pu ps (sd b) 1) dl dn af c0 (pu en b 1) pd rp rv fw cl (pu cw (nm (sd b)) b) tk (nL + 1) (pu kd nL 0) (pu wy nL b) (pu ll nL (lv (sd b))) (pu td nL (-1)) (pu ls nL (-1)) (pu wh nL 0) F fl fc := by
  obtain ⟨cR, cN0, cN1, cN1w, cER, cN1c, cN2, cN2e, cN2b, cN4e, cN4b, cN5, cN7, cN10, cN10e, cN13, cC1, cC2, cR3a, cE1, cU, cA1, cA2, cEC, cR3, cN11, cN12, cN3, cRJ, cFW, cPD, cCC, cCD, cRP, cRP1, cCR, cZ1, cZ0, cTK, cK2, cWH, cFI, cL0, cFC, cL0u, cOC, cCT, cL1, cL1e, cL1o, cL1b, cL1g, cL2, cL3, cL4, cAF, cRT, cCV, cL5, cL5o, cL5u, cL6, cL6u⟩ := h
  exact ⟨pt_cb_R hG p0_ p1_ p2_ p3_ p4_ p5_ p6_ p7_ p8_ p9_ p10_ p11_ p12_ p13_ p14_ p15_ p16_ p17_ p18_ p19_ p20_ p21_ p22_ p23_ p24_ p25_ p26_ p27_ p28_ p29_ p30_ p31_ p32_ p33_ p34_ cR, pt_cb_N0 hG p0_ p1_ p2_ p3_ p4_ p5_ p6_ p7_ p8_ p9_ p10_ p11_ p12_ p13_ p14_ p15_ p16_ p17_ p18_ p19_ p20_ p21_ p22_ p23_ p24_ p25_ p26_ p27_ p28_ p29_ p30_ p31_ p32_ p33_ p34_ cN0, pt_cb_N1 hG p0_ p1_ p2_ p3_ p4_ p5_ p6_ p7_ p8_ p9_ p10_ p11_ p12_ p13_ p14_ p15_ p16_ p17_ p18_ p19_ p20_ p21_ p22_ p23_ p24_ p25_ p26_ p27_ p28_ p29_ p30_ p31_ p32_ p33_ p34_ cN1, pt_cb_N1w hG p0_ p1_ p2_ p3_ p4_ p5_ p6_ p7_ p8_ p9_ p10_ p11_ p12_ p13_ p14_ p15_ p16_ p17_ p18_ p19_ p20_ p21_ p22_ p23_ p24_ p25_ p26_ p27_ p28_ p29_ p30_ p31_ p32_ p33_ p34_ cN1w, pt_cb_ER hG p0_ p1_ p2_ p3_ p4_ p5_ p6_ p7_ p8_ p9_ p10_ p11_ p12_ p13_ p14_ p15_ p16_ p17_ p18_ p19_ p20_ p21_ p22_ p23_ p24_ p25_ p26_ p27_ p28_ p29_ p30_ p31_ p32_ p33_ p34_ cER, pt_cb_N1c hG p0_ p1_ p2_ p3_ p4_ p5_ p6_ p7_ p8_ p9_ p10_ p11_ p12_ p13_ p14_ p15_ p16_ p17_ p18_ p19_ p20_ p21_ p22_ p23_ p24_ p25_ p26_ p27_ p28_ p29_ p30_ p31_ p32_ p33_ p34_ cN1c cR, pt_cb_N2 hG p0_ p1_ p2_ p3_ p4_ p5_ p6_ p7_ p8_ p9_ p10_ p11_ p12_ p13_ p14_ p15_ p16_ p17_ p18_ p19_ p20_ p21_ p22_ p23_ p24_ p25_ p26_ p27_ p28_ p29_ p30_ p31_ p32_ p33_ p34_ cN2, pt_cb_N2e hG p0_ p1_ p2_ p3_ p4_ p5_ p6_ p7_ p8_ p9_ p10_ p11_ p12_ p13_ p14_ p15_ p16_ p17_ p18_ p19_ p20_ p21_ p22_ p23_ p24_ p25_ p26_ p27_ p28_ p29_ p30_ p31_ p32_ p33_ p34_ cN2e, pt_cb_N2b hG p0_ p1_ p2_ p3_ p4_ p5_ p6_ p7_ p8_ p9_ p10_ p11_ p12_ p13_ p14_ p15_ p16_ p17_ p18_ p19_ p20_ p21_ p22_ p23_ p24_ p25_ p26_ p27_ p28_ p29_ p30_ p31_ p32_ p33_ p34_ cN2b, cN4e, pt_cb_N4b hG p0_ p1_ p2_ p3_ p4_ p5_ p6_ p7_ p8_ p9_ p10_ p11_ p12_ p13_ p14_ p15_ p16_ p17_ p18_ p19_ p20_ p21_ p22_ p23_ p24_ p25_ p26_ p27_ p28_ p29_ p30_ p31_ p32_ p33_ p34_ cN4b, pt_cb_N5 hG p0_ p1_ p2_ p3_ p4_ p5_ p6_ p7_ p8_ p9_ p10_ p11_ p12_ p13_ p14_ p15_ p16_ p17_ p18_ p19_ p20_ p21_ p22_ p23_ p24_ p25_ p26_ p27_ p28_ p29_ p30_ p31_ p32_ p33_ p34_ cN5, cN7, cN10, cN10e, cN13, cC1, cC2, cR3a, pt_cb_E1 hG p0_ p1_ p2_ p3_ p4_ p5_ p6_ p7_ p8_ p9_ p10_ p11_ p12_ p13_ p14_ p15_ p16_ p17_ p18_ p19_ p20_ p21_ p22_ p23_ p24_ p25_ p26_ p27_ p28_ p29_ p30_ p31_ p32_ p33_ p34_ cE1, pt_cb_U hG p0_ p1_ p2_ p3_ p4_ p5_ p6_ p7_ p8_ p9_ p10_ p11_ p12_ p13_ p14_ p15_ p16_ p17_ p18_ p19_ p20_ p21_ p22_ p23_ p24_ p25_ p26_ p27_ p28_ p29_ p30_ p31_ p32_ p33_ p34_ cU, pt_cb_A1 hG p0_ p1_ p2_ p3_ p4_ p5_ p6_ p7_ p8_ p9_ p10_ p11_ p12_ p13_ p14_ p15_ p16_ p17_ p18_ p19_ p20_ p21_ p22_ p23_ p24_ p25_ p26_ p27_ p28_ p29_ p30_ p31_ p32_ p33_ p34_ cA1, pt_cb_A2 hG p0_ p1_ p2_ p3_ p4_ p5_ p6_ p7_ p8_ p9_ p10_ p11_ p12_ p13_ p14_ p15_ p16_ p17_ p18_ p19_ p20_ p21_ p22_ p23_ p24_ p25_ p26_ p27_ p28_ p29_ p30_ p31_ p32_ p33_ p34_ cA2 cN2 cU, pt_cb_EC hG p0_ p1_ p2_ p3_ p4_ p5_ p6_ p7_ p8_ p9_ p10_ p11_ p12_ p13_ p14_ p15_ p16_ p17_ p18_ p19_ p20_ p21_ p22_ p23_ p24_ p25_ p26_ p27_ p28_ p29_ p30_ p31_ p32_ p33_ p34_ cEC cL0, pt_cb_R3 hG p0_ p1_ p2_ p3_ p4_ p5_ p6_ p7_ p8_ p9_ p10_ p11_ p12_ p13_ p14_ p15_ p16_ p17_ p18_ p19_ p20_ p21_ p22_ p23_ p24_ p25_ p26_ p27_ p28_ p29_ p30_ p31_ p32_ p33_ p34_ cR3, pt_cb_N11 hG p0_ p1_ p2_ p3_ p4_ p5_ p6_ p7_ p8_ p9_ p10_ p11_ p12_ p13_ p14_ p15_ p16_ p17_ p18_ p19_ p20_ p21_ p22_ p23_ p24_ p25_ p26_ p27_ p28_ p29_ p30_ p31_ p32_ p33_ p34_ cN11, pt_cb_N12 hG p0_ p1_ p2_ p3_ p4_ p5_ p6_ p7_ p8_ p9_ p10_ p11_ p12_ p13_ p14_ p15_ p16_ p17_ p18_ p19_ p20_ p21_ p22_ p23_ p24_ p25_ p26_ p27_ p28_ p29_ p30_ p31_ p32_ p33_ p34_ cN12, pt_cb_N3 hG p0_ p1_ p2_ p3_ p4_ p5_ p6_ p7_ p8_ p9_ p10_ p11_ p12_ p13_ p14_ p15_ p16_ p17_ p18_ p19_ p20_ p21_ p22_ p23_ p24_ p25_ p26_ p27_ p28_ p29_ p30_ p31_ p32_ p33_ p34_ cN3, pt_cb_RJ hG p0_ p1_ p2_ p3_ p4_ p5_ p6_ p7_ p8_ p9_ p10_ p11_ p12_ p13_ p14_ p15_ p16_ p17_ p18_ p19_ p20_ p21_ p22_ p23_ p24_ p25_ p26_ p27_ p28_ p29_ p30_ p31_ p32_ p33_ p34_ cRJ, pt_cb_FW hG p0_ p1_ p2_ p3_ p4_ p5_ p6_ p7_ p8_ p9_ p10_ p11_ p12_ p13_ p14_ p15_ p16_ p17_ p18_ p19_ p20_ p21_ p22_ p23_ p24_ p25_ p26_ p27_ p28_ p29_ p30_ p31_ p32_ p33_ p34_ cFW, pt_cb_PD hG p0_ p1_ p2_ p3_ p4_ p5_ p6_ p7_ p8_ p9_ p10_ p11_ p12_ p13_ p14_ p15_ p16_ p17_ p18_ p19_ p20_ p21_ p22_ p23_ p24_ p25_ p26_ p27_ p28_ p29_ p30_ p31_ p32_ p33_ p34_ cPD, pt_cb_CC hG p0_ p1_ p2_ p3_ p4_ p5_ p6_ p7_ p8_ p9_ p10_ p11_ p12_ p13_ p14_ p15_ p16_ p17_ p18_ p19_ p20_ p21_ p22_ p23_ p24_ p25_ p26_ p27_ p28_ p29_ p30_ p31_ p32_ p33_ p34_ cCC, pt_cb_CD hG p0_ p1_ p2_ p3_ p4_ p5_ p6_ p7_ p8_ p9_ p10_ p11_ p12_ p13_ p14_ p15_ p16_ p17_ p18_ p19_ p20_ p21_ p22_ p23_ p24_ p25_ p26_ p27_ p28_ p29_ p30_ p31_ p32_ p33_ p34_ cCD, cRP, cRP1, cCR, pt_cb_Z1 hG p0_ p1_ p2_ p3_ p4_ p5_ p6_ p7_ p8_ p9_ p10_ p11_ p12_ p13_ p14_ p15_ p16_ p17_ p18_ p19_ p20_ p21_ p22_ p23_ p24_ p25_ p26_ p27_ p28_ p29_ p30_ p31_ p32_ p33_ p34_ cZ1, cZ0, pt_cb_TK hG p0_ p1_ p2_ p3_ p4_ p5_ p6_ p7_ p8_ p9_ p10_ p11_ p12_ p13_ p14_ p15_ p16_ p17_ p18_ p19_ p20_ p21_ p22_ p23_ p24_ p25_ p26_ p27_ p28_ p29_ p30_ p31_ p32_ p33_ p34_ cTK, cK2, pt_cb_WH hG p0_ p1_ p2_ p3_ p4_ p5_ p6_ p7_ p8_ p9_ p10_ p11_ p12_ p13_ p14_ p15_ p16_ p17_ p18_ p19_ p20_ p21_ p22_ p23_ p24_ p25_ p26_ p27_ p28_ p29_ p30_ p31_ p32_ p33_ p34_ cWH cR, pt_cb_FI hG p0_ p1_ p2_ p3_ p4_ p5_ p6_ p7_ p8_ p9_ p10_ p11_ p12_ p13_ p14_ p15_ p16_ p17_ p18_ p19_ p20_ p21_ p22_ p23_ p24_ p25_ p26_ p27_ p28_ p29_ p30_ p31_ p32_ p33_ p34_ cFI cR, pt_cb_L0 hG p0_ p1_ p2_ p3_ p4_ p5_ p6_ p7_ p8_ p9_ p10_ p11_ p12_ p13_ p14_ p15_ p16_ p17_ p18_ p19_ p20_ p21_ p22_ p23_ p24_ p25_ p26_ p27_ p28_ p29_ p30_ p31_ p32_ p33_ p34_ cL0 cR cN2, pt_cb_FC hG p0_ p1_ p2_ p3_ p4_ p5_ p6_ p7_ p8_ p9_ p10_ p11_ p12_ p13_ p14_ p15_ p16_ p17_ p18_ p19_ p20_ p21_ p22_ p23_ p24_ p25_ p26_ p27_ p28_ p29_ p30_ p31_ p32_ p33_ p34_ cFC cR, pt_cb_L0u hG p0_ p1_ p2_ p3_ p4_ p5_ p6_ p7_ p8_ p9_ p10_ p11_ p12_ p13_ p14_ p15_ p16_ p17_ p18_ p19_ p20_ p21_ p22_ p23_ p24_ p25_ p26_ p27_ p28_ p29_ p30_ p31_ p32_ p33_ p34_ cL0u cR cL0, pt_cb_OC hG p0_ p1_ p2_ p3_ p4_ p5_ p6_ p7_ p8_ p9_ p10_ p11_ p12_ p13_ p14_ p15_ p16_ p17_ p18_ p19_ p20_ p21_ p22_ p23_ p24_ p25_ p26_ p27_ p28_ p29_ p30_ p31_ p32_ p33_ p34_ cOC cR cL1, pt_cb_CT hG p0_ p1_ p2_ p3_ p4_ p5_ p6_ p7_ p8_ p9_ p10_ p11_ p12_ p13_ p14_ p15_ p16_ p17_ p18_ p19_ p20_ p21_ p22_ p23_ p24_ p25_ p26_ p27_ p28_ p29_ p30_ p31_ p32_ p33_ p34_ cCT cR cL2 cL4, pt_cb_L1 hG p0_ p1_ p2_ p3_ p4_ p5_ p6_ p7_ p8_ p9_ p10_ p11_ p12_ p13_ p14_ p15_ p16_ p17_ p18_ p19_ p20_ p21_ p22_ p23_ p24_ p25_ p26_ p27_ p28_ p29_ p30_ p31_ p32_ p33_ p34_ cL1 cR, pt_cb_L1e hG p0_ p1_ p2_ p3_ p4_ p5_ p6_ p7_ p8_ p9_ p10_ p11_ p12_ p13_ p14_ p15_ p16_ p17_ p18_ p19_ p20_ p21_ p22_ p23_ p24_ p25_ p26_ p27_ p28_ p29_ p30_ p31_ p32_ p33_ p34_ cL1e cR, pt_cb_L1o hG p0_ p1_ p2_ p3_ p4_ p5_ p6_ p7_ p8_ p9_ p10_ p11_ p12_ p13_ p14_ p15_ p16_ p17_ p18_ p19_ p20_ p21_ p22_ p23_ p24_ p25_ p26_ p27_ p28_ p29_ p30_ p31_ p32_ p33_ p34_ cL1o cR, pt_cb_L1b hG p0_ p1_ p2_ p3_ p4_ p5_ p6_ p7_ p8_ p9_ p10_ p11_ p12_ p13_ p14_ p15_ p16_ p17_ p18_ p19_ p20_ p21_ p22_ p23_ p24_ p25_ p26_ p27_ p28_ p29_ p30_ p31_ p32_ p33_ p34_ cL1b cR cL1, pt_cb_L1g hG p0_ p1_ p2_ p3_ p4_ p5_ p6_ p7_ p8_ p9_ p10_ p11_ p12_ p13_ p14_ p15_ p16_ p17_ p18_ p19_ p20_ p21_ p22_ p23_ p24_ p25_ p26_ p27_ p28_ p29_ p30_ p31_ p32_ p33_ p34_ cL1g cR, pt_cb_L2 hG p0_ p1_ p2_ p3_ p4_ p5_ p6_ p7_ p8_ p9_ p10_ p11_ p12_ p13_ p14_ p15_ p16_ p17_ p18_ p19_ p20_ p21_ p22_ p23_ p24_ p25_ p26_ p27_ p28_ p29_ p30_ p31_ p32_ p33_ p34_ cL2 cR, pt_cb_L3 hG p0_ p1_ p2_ p3_ p4_ p5_ p6_ p7_ p8_ p9_ p10_ p11_ p12_ p13_ p14_ p15_ p16_ p17_ p18_ p19_ p20_ p21_ p22_ p23_ p24_ p25_ p26_ p27_ p28_ p29_ p30_ p31_ p32_ p33_ p34_ cL3 cR, pt_cb_L4 hG p0_ p1_ p2_ p3_ p4_ p5_ p6_ p7_ p8_ p9_ p10_ p11_ p12_ p13_ p14_ p15_ p16_ p17_ p18_ p19_ p20_ p21_ p22_ p23_ p24_ p25_ p26_ p27_ p28_ p29_ p30_ p31_ p32_ p33_ p34_ cL4 cR, pt_cb_AF hG p0_ p1_ p2_ p3_ p4_ p5_ p6_ p7_ p8_ p9_ p10_ p11_ p12_ p13_ p14_ p15_ p16_ p17_ p18_ p19_ p20_ p21_ p22_ p23_ p24_ p25_ p26_ p27_ p28_ p29_ p30_ p31_ p32_ p33_ p34_ cAF, pt_cb_RT hG p0_ p1_ p2_ p3_ p4_ p5_ p6_ p7_ p8_ p9_ p10_ p11_ p12_ p13_ p14_ p15_ p16_ p17_ p18_ p19_ p20_ p21_ p22_ p23_ p24_ p25_ p26_ p27_ p28_ p29_ p30_ p31_ p32_ p33_ p34_ cRT cR, pt_cb_CV hG p0_ p1_ p2_ p3_ p4_ p5_ p6_ p7_ p8_ p9_ p10_ p11_ p12_ p13_ p14_ p15_ p16_ p17_ p18_ p19_ p20_ p21_ p22_ p23_ p24_ p25_ p26_ p27_ p28_ p29_ p30_ p31_ p32_ p33_ p34_ cCV cR, pt_cb_L5 hG p0_ p1_ p2_ p3_ p4_ p5_ p6_ p7_ p8_ p9_ p10_ p11_ p12_ p13_ p14_ p15_ p16_ p17_ p18_ p19_ p20_ p21_ p22_ p23_ p24_ p25_ p26_ p27_ p28_ p29_ p30_ p31_ p32_ p33_ p34_ cL5 cR cN13 cN5 cPD cN0 cC2, pt_cb_L5o hG p0_ p1_ p2_ p3_ p4_ p5_ p6_ p7_ p8_ p9_ p10_ p11_ p12_ p13_ p14_ p15_ p16_ p17_ p18_ p19_ p20_ p21_ p22_ p23_ p24_ p25_ p26_ p27_ p28_ p29_ p30_ p31_ p32_ p33_ p34_ cL5o cR, pt_cb_L5u hG p0_ p1_ p2_ p3_ p4_ p5_ p6_ p7_ p8_ p9_ p10_ p11_ p12_ p13_ p14_ p15_ p16_ p17_ p18_ p19_ p20_ p21_ p22_ p23_ p24_ p25_ p26_ p27_ p28_ p29_ p30_ p31_ p32_ p33_ p34_ cL5u cR, pt_cb_L6 hG p0_ p1_ p2_ p3_ p4_ p5_ p6_ p7_ p8_ p9_ p10_ p11_ p12_ p13_ p14_ p15_ p16_ p17_ p18_ p19_ p20_ p21_ p22_ p23_ p24_ p25_ p26_ p27_ p28_ p29_ p30_ p31_ p32_ p33_ p34_ cL6 cR, pt_cb_L6u hG p0_ p1_ p2_ p3_ p4_ p5_ p6_ p7_ p8_ p9_ p10_ p11_ p12_ p13_ p14_ p15_ p16_ p17_ p18_ p19_ p20_ p21_ p22_ p23_ p24_ p25_ p26_ p27_ p28_ p29_ p30_ p31_ p32_ p33_ p34_ cL6u cR⟩

set_option maxHeartbeats 1000000 in
theorem pt_ts_R {W : Int → Prop} {sd : Int → Int} {op : Int → Int} {ed : Int → Int} {st : Int → Int} {lv : Int → Int} {tow : Int → Int} {tst : Int → Int} {ps : Int → Int} {af : Int → Int} {en : Int → Int} {fw : Int → Int} {nL : Int} {kd : Int → Int} {wy : Int → Int} {wh : Int → Int} {b : Int} (hG : pj_G W sd op ed) (p0_ : W b) (p1_ : st (sd b) = 1) (p2_ : tst (sd b) = -1) (p3_ : en b = 0) (p4_ : ∀ w, W w → sd w = (sd b) → tow (sd b) = ed w → en w = 1) (p5_ : af (sd b) = 0) (p6_ : 1 ≤ lv (sd b)) (p7_ : fw b = 0) (p8_ : fw (op b) = 0) (p9_ : en (op b) ≠ 2) (p10_ : ps (sd b) = 0) (p11_ : 0 ≤ nL) (cR : pj_R W nL kd wy wh) : pj_R W (nL + 1) (pu kd nL 2) (pu wy nL b) (pu wh nL 0) := by
  obtain ⟨hop, hed⟩ := hG
  unfold pj_R at *
  intro k0
  simp only [pu]
  have g0 := hop b
  have g1 := hop (wy k0)
  have g2 := hed b (wy k0)
  have cR_0 := cR k0
  have f0 := p4_ b
  have f1 := p4_ (wy k0)
  have f2 := p4_ (op (wy k0))
  clear p4_
  clear hop hed cR
  grind (splits := 24)

set_option maxHeartbeats 1000000 in
theorem pt_ts_N1c {W : Int → Prop} {sd : Int → Int} {op : Int → Int} {ed : Int → Int} {st : Int → Int} {lv : Int → Int} {tow : Int → Int} {tst : Int → Int} {ps : Int → Int} {af : Int → Int} {en : Int → Int} {fw : Int → Int} {nL : Int} {kd : Int → Int} {wy : Int → Int} {wh : Int → Int} {b : Int} (hG : pj_G W sd op ed) (p0_ : W b) (p1_ : st (sd b) = 1) (p2_ : tst (sd b) = -1) (p3_ : en b = 0) (p4_ : ∀ w, W w → sd w = (sd b) → tow (sd b) = ed w → en w = 1) (p5_ : af (sd b) = 0) (p6_ : 1 ≤ lv (sd b)) (p7_ : fw b = 0) (p8_ : fw (op b) = 0) (p9_ : en (op b) ≠ 2) (p10_ : ps (sd b) = 0) (p11_ : 0 ≤ nL) (cN1c : pj_N1c sd op st nL wy wh) (cR : pj_R W nL kd wy wh) : pj_N1c sd op st (nL + 1) (pu wy nL b) (pu wh nL 0) := by
  obtain ⟨hop, hed⟩ := hG
  unfold pj_N1c pj_R at *
  intro k0
  simp only [pu]
  have g0 := hop b
  have g1 := hop (wy k0)
  have g2 := hed b (wy k0)
  have cN1c_0 := cN1c k0
  have cR_0 := cR k0
  have f0 := p4_ b
  have f1 := p4_ (wy k0)
  have f2 := p4_ (op (wy k0))
  clear p4_
  clear hop hed cN1c cR
  grind (splits := 24)

set_option maxHeartbeats 1000000 in
theorem pt_ts_N7 {W : Int → Prop} {sd : Int → Int} {op : Int → Int} {ed : Int → Int} {st : Int → Int} {lv : Int → Int} {tow : Int → Int} {tst : Int → Int} {exp : Int → Int} {ps : Int → Int} {af : Int → Int} {en : Int → Int} {fw : Int → Int} {nL : Int} {b : Int} (hG : pj_G W sd op ed) (p0_ : W b) (p1_ : st (sd b) = 1) (p2_ : tst (sd b) = -1) (p3_ : en b = 0) (p4_ : ∀ w, W w → sd w = (sd b) → tow (sd b) = ed w → en w = 1) (p5_ : af (sd b) = 0) (p6_ : 1 ≤ lv (sd b)) (p7_ : fw b = 0) (p8_ : fw (op b) = 0) (p9_ : en (op b) ≠ 2) (p10_ : ps (sd b) = 0) (p11_ : 0 ≤ nL) (cN7 : pj_N7 st tst exp) : pj_N7 st (pu tst (sd b) (ed b)) exp := by
  obtain ⟨hop, hed⟩ := hG
  unfold pj_N7 at *
  intro n0
  simp only [pu]
  have g0 := hop b
  have cN7_0 := cN7 (sd (op b))
  have cN7_1 := cN7 n0
  have cN7_2 := cN7 (sd b)
  have f0 := p4_ b
  clear p4_
  clear hop hed cN7
  grind (splits := 24)

set_option maxHeartbeats 1000000 in
theorem pt_ts_E1 {W : Int → Prop} {sd : Int → Int} {op : Int → Int} {ed : Int → Int} {st : Int → Int} {lv : Int → Int} {tow : Int → Int} {tst : Int → Int} {ps : Int → Int} {dl : Int → Int} {af : Int → Int} {en : Int → Int} {fw : Int → Int} {nL : Int} {kd : Int → Int} {wy : Int → Int} {ll : Int → Int} {wh : Int → Int} {b : Int} (hG : pj_G W sd op ed) (p0_ : W b) (p1_ : st (sd b) = 1) (p2_ : tst (sd b) = -1) (p3_ : en b = 0) (p4_ : ∀ w, W w → sd w = (sd b) → tow (sd b) = ed w → en w = 1) (p5_ : af (sd b) = 0) (p6_ : 1 ≤ lv (sd b)) (p7_ : fw b = 0) (p8_ : fw (op b) = 0) (p9_ : en (op b) ≠ 2) (p10_ : ps (sd b) = 0) (p11_ : 0 ≤ nL) (cE1 : pj_E1 sd op lv dl nL kd wy ll wh) : pj_E1 sd op lv dl (nL + 1) (pu kd nL 2) (pu wy nL b) (pu ll nL (lv (sd b))) (pu wh nL 0) := by
  obtain ⟨hop, hed⟩ := hG
  unfold pj_E1 at *
  intro n0
  simp only [pu]
  have g0 := hop b
  have cE1_0 := cE1 (sd (op b))
  have cE1_1 := cE1 n0
  have cE1_2 := cE1 (sd b)
  have f0 := p4_ b
  clear p4_
  clear hop hed cE1
  grind (splits := 24)

set_option maxHeartbeats 1000000 in
theorem pt_ts_EC {W : Int → Prop} {sd : Int → Int} {op : Int → Int} {ed : Int → Int} {st : Int → Int} {lv : Int → Int} {nm : Int → Int} {tow : Int → Int} {tst : Int → Int} {om : Int → Int} {ps : Int → Int} {dl : Int → Int} {af : Int → Int} {en : Int → Int} {fw : Int → Int} {nL : Int} {kd : Int → Int} {wy : Int → Int} {wh : Int → Int} {F : Int → Prop} {b : Int} (hG : pj_G W sd op ed) (p0_ : W b) (p1_ : st (sd b) = 1) (p2_ : tst (sd b) = -1) (p3_ : en b = 0) (p4_ : ∀ w, W w → sd w = (sd b) → tow (sd b) = ed w → en w = 1) (p5_ : af (sd b) = 0) (p6_ : 1 ≤ lv (sd b)) (p7_ : fw b = 0) (p8_ : fw (op b) = 0) (p9_ : en (op b) ≠ 2) (p10_ : ps (sd b) = 0) (p11_ : 0 ≤ nL) (cEC : pj_EC W sd op ed lv nm om ps dl nL kd wy wh F) : pj_EC W sd op ed lv nm om ps dl (nL + 1) (pu kd nL 2) (pu wy nL b) (pu wh nL 0) F := by
  obtain ⟨hop, hed⟩ := hG
  unfold pj_EC at *
  intro w0
  simp only [pu]
  have g0 := hop b
  have g1 := hop w0
  have g2 := hed b w0
  have cEC_0 := cEC b
  have cEC_1 := cEC w0
  have cEC_2 := cEC (op w0)
  have f0 := p4_ b
  have f1 := p4_ w0
  have f2 := p4_ (op w0)
  clear p4_
  clear hop hed cEC
  grind (splits := 24)

set_option maxHeartbeats 1000000 in
theorem pt_ts_N11 {W : Int → Prop} {sd : Int → Int} {op : Int → Int} {ed : Int → Int} {st : Int → Int} {lv : Int → Int} {nm : Int → Int} {tow : Int → Int} {tst : Int → Int} {ps : Int → Int} {af : Int → Int} {en : Int → Int} {fw : Int → Int} {nL : Int} {b : Int} (hG : pj_G W sd op ed) (p0_ : W b) (p1_ : st (sd b) = 1) (p2_ : tst (sd b) = -1) (p3_ : en b = 0) (p4_ : ∀ w, W w → sd w = (sd b) → tow (sd b) = ed w → en w = 1) (p5_ : af (sd b) = 0) (p6_ : 1 ≤ lv (sd b)) (p7_ : fw b = 0) (p8_ : fw (op b) = 0) (p9_ : en (op b) ≠ 2) (p10_ : ps (sd b) = 0) (p11_ : 0 ≤ nL) (cN11 : pj_N11 W sd op ed lv nm tow tst ps en) : pj_N11 W sd op ed lv nm tow (pu tst (sd b) (ed b)) ps en := by
  obtain ⟨hop, hed⟩ := hG
  unfold pj_N11 at *
  intro w0
  simp only [pu]
  have g0 := hop b
  have g1 := hop w0
  have g2 := hed b w0
  have cN11_0 := cN11 b
  have cN11_1 := cN11 w0
  have cN11_2 := cN11 (op w0)
  have f0 := p4_ b
  have f1 := p4_ w0
  have f2 := p4_ (op w0)
  clear p4_
  clear hop hed cN11
  grind (splits := 24)

set_option maxHeartbeats 1000000 in
theorem pt_ts_RJ {W : Int → Prop} {sd : Int → Int} {op : Int → Int} {ed : Int → Int} {st : Int → Int} {lv : Int → Int} {tow : Int → Int} {tst : Int → Int} {ps : Int → Int} {af : Int → Int} {en : Int → Int} {fw : Int → Int} {nL : Int} {b : Int} (hG : pj_G W sd op ed) (p0_ : W b) (p1_ : st (sd b) = 1) (p2_ : tst (sd b) = -1) (p3_ : en b = 0) (p4_ : ∀ w, W w → sd w = (sd b) → tow (sd b) = ed w → en w = 1) (p5_ : af (sd b) = 0) (p6_ : 1 ≤ lv (sd b)) (p7_ : fw b = 0) (p8_ : fw (op b) = 0) (p9_ : en (op b) ≠ 2) (p10_ : ps (sd b) = 0) (p11_ : 0 ≤ nL) (cRJ : pj_RJ W sd op ed tst en fw) : pj_RJ W sd op ed (pu tst (sd b) (ed b)) en fw := by
  obtain ⟨hop, hed⟩ := hG
  unfold pj_RJ at *
  intro w0
  simp only [pu]
  have g0 := hop b
  have g1 := hop w0
  have g2 := hed b w0
  have cRJ_0 := cRJ b
  have cRJ_1 := cRJ w0
  have cRJ_2 := cRJ (op w0)
  have f0 := p4_ b
  have f1 := p4_ w0
  have f2 := p4_ (op w0)
  clear p4_
  clear hop hed cRJ
  grind (splits := 24)

set_option maxHeartbeats 1000000 in
theorem pt_ts_FW {W : Int → Prop} {sd : Int → Int} {op : Int → Int} {ed : Int → Int} {st : Int → Int} {lv : Int → Int} {tow : Int → Int} {tst : Int → Int} {ps : Int → Int} {af : Int → Int} {en : Int → Int} {fw : Int → Int} {nL : Int} {b : Int} (hG : pj_G W sd op ed) (p0_ : W b) (p1_ : st (sd b) = 1) (p2_ : tst (sd b) = -1) (p3_ : en b = 0) (p4_ : ∀ w, W w → sd w = (sd b) → tow (sd b) = ed w → en w = 1) (p5_ : af (sd b) = 0) (p6_ : 1 ≤ lv (sd b)) (p7_ : fw b = 0) (p8_ : fw (op b) = 0) (p9_ : en (op b) ≠ 2) (p10_ : ps (sd b) = 0) (p11_ : 0 ≤ nL) (cFW : pj_FW W sd ed tst en fw) : pj_FW W sd ed (pu tst (sd b) (ed b)) en fw := by
  obtain ⟨hop, hed⟩ := hG
  unfold pj_FW at *
  intro w0
  simp only [pu]
  have g0 := hop b
  have g1 := hop w0
  have g2 := hed b w0
  have cFW_0 := cFW b
  have cFW_1 := cFW w0
  have cFW_2 := cFW (op w0)
  have f0 := p4_ b
  have f1 := p4_ w0
  have f2 := p4_ (op w0)
  clear p4_
  clear hop hed cFW
  grind (splits := 24)

set_option maxHeartbeats 1000000 in
theorem pt_ts_WH {W : Int → Prop} {sd : Int → Int} {op : Int → Int} {ed : Int → Int} {st : Int → Int} {lv : Int → Int} {tow : Int → Int} {tst : Int → Int} {ps : Int → Int} {af : Int → Int} {en : Int → Int} {fw : Int → Int} {nL : Int} {kd : Int → Int} {wy : Int → Int} {wh : Int → Int} {b : Int} (hG : pj_G W sd op ed) (p0_ : W b) (p1_ : st (sd b) = 1) (p2_ : tst (sd b) = -1) (p3_ : en b = 0) (p4_ : ∀ w, W w → sd w = (sd b) → tow (sd b) = ed w → en w = 1) (p5_ : af (sd b) = 0) (p6_ : 1 ≤ lv (sd b)) (p7_ : fw b = 0) (p8_ : fw (op b) = 0) (p9_ : en (op b) ≠ 2) (p10_ : ps (sd b) = 0) (p11_ : 0 ≤ nL) (cWH : pj_WH nL kd wh) (cR : pj_R W nL kd wy wh) : pj_WH (nL + 1) (pu kd nL 2) (pu wh nL 0) := by
  obtain ⟨hop, hed⟩ := hG
  unfold pj_WH pj_R at *
  intro k0
  simp only [pu]
  have g0 := hop b
  have g1 := hop (wy k0)
  have g2 := hed b (wy k0)
  have cWH_0 := cWH k0
  have cR_0 := cR k0
  have f0 := p4_ b
  have f1 := p4_ (wy k0)
  have f2 := p4_ (op (wy k0))
  clear p4_
  clear hop hed cWH cR
  grind (splits := 24)

set_option maxHeartbeats 1000000 in
theorem pt_ts_FI {W : Int → Prop} {sd : Int → Int} {op : Int → Int} {ed : Int → Int} {st : Int → Int} {lv : Int → Int} {tow : Int → Int} {tst : Int → Int} {ps : Int → Int} {af : Int → Int} {en : Int → Int} {fw : Int → Int} {nL : Int} {kd : Int → Int} {wy : Int → Int} {wh : Int → Int} {b : Int} (hG : pj_G W sd op ed) (p0_ : W b) (p1_ : st (sd b) = 1) (p2_ : tst (sd b) = -1) (p3_ : en b = 0) (p4_ : ∀ w, W w → sd w = (sd b) → tow (sd b) = ed w → en w = 1) (p5_ : af (sd b) = 0) (p6_ : 1 ≤ lv (sd b)) (p7_ : fw b = 0) (p8_ : fw (op b) = 0) (p9_ : en (op b) ≠ 2) (p10_ : ps (sd b) = 0) (p11_ : 0 ≤ nL) (cFI : pj_FI nL wy wh) (cR : pj_R W nL kd wy wh) : pj_FI (nL + 1) (pu wy nL b) (pu wh nL 0) := by
  obtain ⟨hop, hed⟩ := hG
  unfold pj_FI pj_R at *
  intro j0 k0
  simp only [pu]
  have g0 := hop b
  have g1 := hop (wy j0)
  have g2 := hop (wy k0)
  have g3 := hed b (wy j0)
  have g4 := hed b (wy k0)
  have g5 := hed (wy j0) (wy k0)
  have cFI_0 := cFI j0 j0
  have cFI_1 := cFI j0 k0
  have cFI_2 := cFI k0 j0
  have cFI_3 := cFI k0 k0
  have cR_0 := cR j0
  have cR_1 := cR k0
  have f0 := p4_ b
  have f1 := p4_ (wy j0)
  have f2 := p4_ (op (wy j0))
  have f3 := p4_ (wy k0)
  have f4 := p4_ (op (wy k0))
  clear p4_
  clear hop hed cFI cR
  grind (splits := 24)

set_option maxHeartbeats 1000000 in
theorem pt_ts_L0 {W : Int → Prop} {sd : Int → Int} {op : Int → Int} {ed : Int → Int} {st : Int → Int} {lv : Int → Int} {nm : Int → Int} {tow : Int → Int} {tst : Int → Int} {om : Int → Int} {ps : Int → Int} {dl : Int → Int} {af : Int → Int} {c0 : Int → Int} {en : Int → Int} {fw : Int → Int} {cw : Int → Int} {nL : Int} {kd : Int → Int} {wy : Int → Int} {ll : Int → Int} {wh : Int → Int} {b : Int} (hG : pj_G W sd op ed) (p0_ : W b) (p1_ : st (sd b) = 1) (p2_ : tst (sd b) = -1) (p3_ : en b = 0) (p4_ : ∀ w, W w → sd w = (sd b) → tow (sd b) = ed w → en w = 1) (p5_ : af (sd b) = 0) (p6_ : 1 ≤ lv (sd b)) (p7_ : fw b = 0) (p8_ : fw (op b) = 0) (p9_ : en (op b) ≠ 2) (p10_ : ps (sd b) = 0) (p11_ : 0 ≤ nL) (cL0 : pj_L0 sd op ed lv nm om ps dl c0 en cw nL kd wy ll wh) (cR : pj_R W nL kd wy wh) : pj_L0 sd op ed lv nm om ps dl c0 en cw (nL + 1) (pu kd nL 2) (pu wy nL b) (pu ll nL (lv (sd b))) (pu wh nL 0) := by
  obtain ⟨hop, hed⟩ := hG
  unfold pj_L0 pj_R at *
  intro k0
  simp only [pu]
  have g0 := hop b
  have g1 := hop (wy k0)
  have g2 := hed b (wy k0)
  have cL0_0 := cL0 k0
  have cR_0 := cR k0
  have f0 := p4_ b
  have f1 := p4_ (wy k0)
  have f2 := p4_ (op (wy k0))
  clear p4_
  clear hop hed cL0 cR
  grind (splits := 24)

set_option maxHeartbeats 1000000 in
theorem pt_ts_FC {W : Int → Prop} {sd : Int → Int} {op : Int → Int} {ed : Int → Int} {st : Int → Int} {lv : Int → Int} {tow : Int → Int} {tst : Int → Int} {ps : Int → Int} {af : Int → Int} {en : Int → Int} {fw : Int → Int} {nL : Int} {kd : Int → Int} {wy : Int → Int} {wh : Int → Int} {F : Int → Prop} {b : Int} (hG : pj_G W sd op ed) (p0_ : W b) (p1_ : st (sd b) = 1) (p2_ : tst (sd b) = -1) (p3_ : en b = 0) (p4_ : ∀ w, W w → sd w = (sd b) → tow (sd b) = ed w → en w = 1) (p5_ : af (sd b) = 0) (p6_ : 1 ≤ lv (sd b)) (p7_ : fw b = 0) (p8_ : fw (op b) = 0) (p9_ : en (op b) ≠ 2) (p10_ : ps (sd b) = 0) (p11_ : 0 ≤ nL) (cFC : pj_FC op nL kd wy wh F) (cR : pj_R W nL kd wy wh) : pj_FC op (nL + 1) (pu kd nL 2) (pu wy nL b) (pu wh nL 0) F := by
  obtain ⟨hop, hed⟩ := hG
  unfold pj_FC pj_R at *
  intro k0
  simp only [pu]
  have g0 := hop b
  have g1 := hop (wy k0)
  have g2 := hed b (wy k0)
  have cFC_0 := cFC k0
  have cR_0 := cR k0
  have f0 := p4_ b
  have f1 := p4_ (wy k0)
  have f2 := p4_ (op (wy k0))
  clear p4_
  clear hop hed cFC cR
  grind (splits := 24)

set_option maxHeartbeats 1000000 in
theorem pt_ts_L0u {W : Int → Prop} {sd : Int → Int} {op : Int → Int} {ed : Int → Int} {st : Int → Int} {lv : Int → Int} {tow : Int → Int} {tst : Int → Int} {ps : Int → Int} {af : Int → Int} {en : Int → Int} {fw : Int → Int} {nL : Int} {kd : Int → Int} {wy : Int → Int} {wh : Int → Int} {b : Int} (hG : pj_G W sd op ed) (p0_ : W b) (p1_ : st (sd b) = 1) (p2_ : tst (sd b) = -1) (p3_ : en b = 0) (p4_ : ∀ w, W w → sd w = (sd b) → tow (sd b) = ed w → en w = 1) (p5_ : af (sd b) = 0) (p6_ : 1 ≤ lv (sd b)) (p7_ : fw b = 0) (p8_ : fw (op b) = 0) (p9_ : en (op b) ≠ 2) (p10_ : ps (sd b) = 0) (p11_ : 0 ≤ nL) (cL0u : pj_L0u nL kd wy wh) (cR : pj_R W nL kd wy wh) : pj_L0u (nL + 1) (pu kd nL 2) (pu wy nL b) (pu wh nL 0) := by
  obtain ⟨hop, hed⟩ := hG
  unfold pj_L0u pj_R at *
  intro j0 k0
  simp only [pu]
  have g0 := hop b
  have g1 := hop (wy j0)
  have g2 := hop (wy k0)
  have g3 := hed b (wy j0)
  have g4 := hed b (wy k0)
  have g5 := hed (wy j0) (wy k0)
  have cL0u_0 := cL0u j0 j0
  have cL0u_1 := cL0u j0 k0
  have cL0u_2 := cL0u k0 j0
  have cL0u_3 := cL0u k0 k0
  have cR_0 := cR j0
  have cR_1 := cR k0
  have f0 := p4_ b
  have f1 := p4_ (wy j0)
  have f2 := p4_ (op (wy j0))
  have f3 := p4_ (wy k0)
  have f4 := p4_ (op (wy k0))
  clear p4_
  clear hop hed cL0u cR
  grind (splits := 24)

set_option maxHeartbeats 1000000 in
theorem pt_ts_OC {W : Int → Prop} {sd : Int → Int} {op : Int → Int} {ed : Int → Int} {st : Int → Int} {lv : Int → Int} {tow : Int → Int} {tst : Int → Int} {ps : Int → Int} {af : Int → Int} {en : Int → Int} {fw : Int → Int} {nL : Int} {kd : Int → Int} {wy : Int → Int} {wh : Int → Int} {b : Int} (hG : pj_G W sd op ed) (p0_ : W b) (p1_ : st (sd b) = 1) (p2_ : tst (sd b) = -1) (p3_ : en b = 0) (p4_ : ∀ w, W w → sd w = (sd b) → tow (sd b) = ed w → en w = 1) (p5_ : af (sd b) = 0) (p6_ : 1 ≤ lv (sd b)) (p7_ : fw b = 0) (p8_ : fw (op b) = 0) (p9_ : en (op b) ≠ 2) (p10_ : ps (sd b) = 0) (p11_ : 0 ≤ nL) (cOC : pj_OC nL kd wy wh) (cR : pj_R W nL kd wy wh) : pj_OC (nL + 1) (pu kd nL 2) (pu wy nL b) (pu wh nL 0) := by
  obtain ⟨hop, hed⟩ := hG
  unfold pj_OC pj_R at *
  intro j0 k0
  simp only [pu]
  have g0 := hop b
  have g1 := hop (wy j0)
  have g2 := hop (wy k0)
  have g3 := hed b (wy j0)
  have g4 := hed b (wy k0)
  have g5 := hed (wy j0) (wy k0)
  have cOC_0 := cOC j0 j0
  have cOC_1 := cOC j0 k0
  have cOC_2 := cOC k0 j0
  have cOC_3 := cOC k0 k0
  have cR_0 := cR j0
  have cR_1 := cR k0
  have f0 := p4_ b
  have f1 := p4_ (wy j0)
  have f2 := p4_ (op (wy j0))
  have f3 := p4_ (wy k0)
  have f4 := p4_ (op (wy k0))
  clear p4_
  clear hop hed cOC cR
  grind (splits := 24)

set_option maxHeartbeats 1000000 in
theorem pt_ts_CT {W : Int → Prop} {sd : Int → Int} {op : Int → Int} {ed : Int → Int} {st : Int → Int} {lv : Int → Int} {nm : Int → Int} {tow : Int → Int} {tst : Int → Int} {om : Int → Int} {ps : Int → Int} {dl : Int → Int} {af : Int → Int} {c0 : Int → Int} {en : Int → Int} {fw : Int → Int} {cw : Int → Int} {nL : Int} {kd : Int → Int} {wy : Int → Int} {ll : Int → Int} {wh : Int → Int} {b : Int} (hG : pj_G W sd op ed) (p0_ : W b) (p1_ : st (sd b) = 1) (p2_ : tst (sd b) = -1) (p3_ : en b = 0) (p4_ : ∀ w, W w → sd w = (sd b) → tow (sd b) = ed w → en w = 1) (p5_ : af (sd b) = 0) (p6_ : 1 ≤ lv (sd b)) (p7_ : fw b = 0) (p8_ : fw (op b) = 0) (p9_ : en (op b) ≠ 2) (p10_ : ps (sd b) = 0) (p11_ : 0 ≤ nL) (cCT : pj_CT nL kd wy wh) (cR : pj_R W nL kd wy wh) (cL0 : pj_L0 sd op ed lv nm om ps dl c0 en cw nL kd wy ll wh) : pj_CT (nL + 1) (pu kd nL 2) (pu wy nL b) (pu wh nL 0) := by
  obtain ⟨hop, hed⟩ := hG
  unfold pj_CT pj_R pj_L0 at *
  intro j0 k0
  simp only [pu]
  have g0 := hop b
  have g1 := hop (wy j0)
  have g2 := hop (wy k0)
  have g3 := hed b (wy j0)
  have g4 := hed b (wy k0)
  have g5 := hed (wy j0) (wy k0)
  have cCT_0 := cCT j0 j0
  have cCT_1 := cCT j0 k0
  have cCT_2 := cCT k0 j0
  have cCT_3 := cCT k0 k0
  have cR_0 := cR j0
  have cR_1 := cR k0
  have cL0_0 := cL0 j0
  have cL0_1 := cL0 k0
  have f0 := p4_ b
  have f1 := p4_ (wy j0)
  have f2 := p4_ (op (wy j0))
  have f3 := p4_ (wy k0)
  have f4 := p4_ (op (wy k0))
  clear p4_
  clear hop hed cCT cR cL0
  grind (splits := 24)

set_option maxHeartbeats 1000000 in
theorem pt_ts_L1 {W : Int → Prop} {sd : Int → Int} {op : Int → Int} {ed : Int → Int} {st : Int → Int} {lv : Int → Int} {nm : Int → Int} {tow : Int → Int} {tst : Int → Int} {om : Int → Int} {ps : Int → Int} {dl : Int → Int} {af : Int → Int} {en : Int → Int} {fw : Int → Int} {cl : Int → Int} {nL : Int} {kd : Int → Int} {wy : Int → Int} {ll : Int → Int} {td : Int → Int} {ls : Int → Int} {wh : Int → Int} {b : Int} (hG : pj_G W sd op ed) (p0_ : W b) (p1_ : st (sd b) = 1) (p2_ : tst (sd b) = -1) (p3_ : en b = 0) (p4_ : ∀ w, W w → sd w = (sd b) → tow (sd b) = ed w → en w = 1) (p5_ : af (sd b) = 0) (p6_ : 1 ≤ lv (sd b)) (p7_ : fw b = 0) (p8_ : fw (op b) = 0) (p9_ : en (op b) ≠ 2) (p10_ : ps (sd b) = 0) (p11_ : 0 ≤ nL) (cL1 : pj_L1 sd op ed st lv om dl en cl nL kd wy ll td ls wh) (cR : pj_R W nL kd wy wh) : pj_L1 sd op ed st lv om dl en cl (nL + 1) (pu kd nL 2) (pu wy nL b) (pu ll nL (lv (sd b))) (pu td nL (nm (sd b))) (pu ls nL (-1)) (pu wh nL 0) := by
  obtain ⟨hop, hed⟩ := hG
  unfold pj_L1 pj_R at *
  intro k0
  simp only [pu]
  have g0 := hop b
  have g1 := hop (wy k0)
  have g2 := hed b (wy k0)
  have cL1_0 := cL1 k0
  have cR_0 := cR k0
  have f0 := p4_ b
  have f1 := p4_ (wy k0)
  have f2 := p4_ (op (wy k0))
  clear p4_
  clear hop hed cL1 cR
  grind (splits := 24)

set_option maxHeartbeats 1000000 in
theorem pt_ts_L1e {W : Int → Prop} {sd : Int → Int} {op : Int → Int} {ed : Int → Int} {st : Int → Int} {lv : Int → Int} {nm : Int → Int} {tow : Int → Int} {tst : Int → Int} {ps : Int → Int} {dl : Int → Int} {dn : Int → Int} {af : Int → Int} {en : Int → Int} {fw : Int → Int} {nL : Int} {kd : Int → Int} {wy : Int → Int} {ll : Int → Int} {td : Int → Int} {ls : Int → Int} {wh : Int → Int} {b : Int} (hG : pj_G W sd op ed) (p0_ : W b) (p1_ : st (sd b) = 1) (p2_ : tst (sd b) = -1) (p3_ : en b = 0) (p4_ : ∀ w, W w → sd w = (sd b) → tow (sd b) = ed w → en w = 1) (p5_ : af (sd b) = 0) (p6_ : 1 ≤ lv (sd b)) (p7_ : fw b = 0) (p8_ : fw (op b) = 0) (p9_ : en (op b) ≠ 2) (p10_ : ps (sd b) = 0) (p11_ : 0 ≤ nL) (cL1e : pj_L1e sd op dl dn nL kd wy ll td ls wh) (cR : pj_R W nL kd wy wh) : pj_L1e sd op dl dn (nL + 1) (pu kd nL 2) (pu wy nL b) (pu ll nL (lv (sd b))) (pu td nL (nm (sd b))) (pu ls nL (-1)) (pu wh nL 0) := by
  obtain ⟨hop, hed⟩ := hG
  unfold pj_L1e pj_R at *
  intro k0
  simp only [pu]
  have g0 := hop b
  have g1 := hop (wy k0)
  have g2 := hed b (wy k0)
  have cL1e_0 := cL1e k0
  have cR_0 := cR k0
  have f0 := p4_ b
  have f1 := p4_ (wy k0)
  have f2 := p4_ (op (wy k0))
  clear p4_
  clear hop hed cL1e cR
  grind (splits := 24)

set_option maxHeartbeats 1000000 in
theorem pt_ts_L1o {W : Int → Prop} {sd : Int → Int} {op : Int → Int} {ed : Int → Int} {st : Int → Int} {lv : Int → Int} {tow : Int → Int} {tst : Int → Int} {ps : Int → Int} {af : Int → Int} {en : Int → Int} {fw : Int → Int} {nL : Int} {kd : Int → Int} {wy : Int → Int} {ll : Int → Int} {wh : Int → Int} {b : Int} (hG : pj_G W sd op ed) (p0_ : W b) (p1_ : st (sd b) = 1) (p2_ : tst (sd b) = -1) (p3_ : en b = 0) (p4_ : ∀ w, W w → sd w = (sd b) → tow (sd b) = ed w → en w = 1) (p5_ : af (sd b) = 0) (p6_ : 1 ≤ lv (sd b)) (p7_ : fw b = 0) (p8_ : fw (op b) = 0) (p9_ : en (op b) ≠ 2) (p10_ : ps (sd b) = 0) (p11_ : 0 ≤ nL) (cL1o : pj_L1o nL kd wy ll wh) (cR : pj_R W nL kd wy wh) : pj_L1o (nL + 1) (pu kd nL 2) (pu wy nL b) (pu ll nL (lv (sd b))) (pu wh nL 0) := by
  obtain ⟨hop, hed⟩ := hG
  unfold pj_L1o pj_R at *
  intro j0 k0
  simp only [pu]
  have g0 := hop b
  have g1 := hop (wy j0)
  have g2 := hop (wy k0)
  have g3 := hed b (wy j0)
  have g4 := hed b (wy k0)
  have g5 := hed (wy j0) (wy k0)
  have cL1o_0 := cL1o j0 j0
  have cL1o_1 := cL1o j0 k0
  have cL1o_2 := cL1o k0 j0
  have cL1o_3 := cL1o k0 k0
  have cR_0 := cR j0
  have cR_1 := cR k0
  have f0 := p4_ b
  have f1 := p4_ (wy j0)
  have f2 := p4_ (op (wy j0))
  have f3 := p4_ (wy k0)
  have f4 := p4_ (op (wy k0))
  clear p4_
  clear hop hed cL1o cR
  grind (splits := 24)

set_option maxHeartbeats 1000000 in
theorem pt_ts_L1b {W : Int → Prop} {sd : Int → Int} {op : Int → Int} {ed : Int → Int} {st : Int → Int} {lv : Int → Int} {nm : Int → Int} {tow : Int → Int} {tst : Int → Int} {om : Int → Int} {ps : Int → Int} {af : Int → Int} {en : Int → Int} {pd : Int → Int} {fw : Int → Int} {nL : Int} {kd : Int → Int} {wy : Int → Int} {td : Int → Int} {ls : Int → Int} {wh : Int → Int} {b : Int} (hG : pj_G W sd op ed) (p0_ : W b) (p1_ : st (sd b) = 1) (p2_ : tst (sd b) = -1) (p3_ : en b = 0) (p4_ : ∀ w, W w → sd w = (sd b) → tow (sd b) = ed w → en w = 1) (p5_ : af (sd b) = 0) (p6_ : 1 ≤ lv (sd b)) (p7_ : fw b = 0) (p8_ : fw (op b) = 0) (p9_ : en (op b) ≠ 2) (p10_ : ps (sd b) = 0) (p11_ : 0 ≤ nL) (cL1b : pj_L1b sd ed st om pd nL kd wy td ls wh) (cR : pj_R W nL kd wy wh) : pj_L1b sd ed st om pd (nL + 1) (pu kd nL 2) (pu wy nL b) (pu td nL (nm (sd b))) (pu ls nL (-1)) (pu wh nL 0) := by
  obtain ⟨hop, hed⟩ := hG
  unfold pj_L1b pj_R at *
  intro k0
  simp only [pu]
  have g0 := hop b
  have g1 := hop (wy k0)
  have g2 := hed b (wy k0)
  have cL1b_0 := cL1b k0
  have cR_0 := cR k0
  have f0 := p4_ b
  have f1 := p4_ (wy k0)
  have f2 := p4_ (op (wy k0))
  clear p4_
  clear hop hed cL1b cR
  grind (splits := 24)

set_option maxHeartbeats 1000000 in
theorem pt_ts_L1g {W : Int → Prop} {sd : Int → Int} {op : Int → Int} {ed : Int → Int} {st : Int → Int} {lv : Int → Int} {nm : Int → Int} {tow : Int → Int} {tst : Int → Int} {ps : Int → Int} {af : Int → Int} {en : Int → Int} {fw : Int → Int} {nL : Int} {kd : Int → Int} {wy : Int → Int} {td : Int → Int} {ls : Int → Int} {wh : Int → Int} {b : Int} (hG : pj_G W sd op ed) (p0_ : W b) (p1_ : st (sd b) = 1) (p2_ : tst (sd b) = -1) (p3_ : en b = 0) (p4_ : ∀ w, W w → sd w = (sd b) → tow (sd b) = ed w → en w = 1) (p5_ : af (sd b) = 0) (p6_ : 1 ≤ lv (sd b)) (p7_ : fw b = 0) (p8_ : fw (op b) = 0) (p9_ : en (op b) ≠ 2) (p10_ : ps (sd b) = 0) (p11_ : 0 ≤ nL) (cL1g : pj_L1g W sd op ed nL kd wy td ls wh) (cR : pj_R W nL kd wy wh) : pj_L1g W sd op ed (nL + 1) (pu kd nL 2) (pu wy nL b) (pu td nL (nm (sd b))) (pu ls nL (-1)) (pu wh nL 0) := by
  obtain ⟨hop, hed⟩ := hG
  unfold pj_L1g pj_R at *
  intro k0 v0
  simp only [pu]
  have g0 := hop b
  have g1 := hop (wy k0)
  have g2 := hop v0
  have g3 := hed b (wy k0)
  have g4 := hed b v0
  have g5 := hed (wy k0) v0
  have cL1g_0 := cL1g k0 b
  have cL1g_1 := cL1g k0 (wy k0)
  have cL1g_2 := cL1g k0 (op (wy k0))
  have cL1g_3 := cL1g k0 v0
  have cL1g_4 := cL1g k0 (op v0)
  have cR_0 := cR k0
  have f0 := p4_ b
  have f1 := p4_ (wy k0)
  have f2 := p4_ (op (wy k0))
  have f3 := p4_ v0
  have f4 := p4_ (op v0)
  clear p4_
  clear hop hed cL1g cR
  grind (splits := 24)

set_option maxHeartbeats 1000000 in
theorem pt_ts_L2 {W : Int → Prop} {sd : Int → Int} {op : Int → Int} {ed : Int → Int} {st : Int → Int} {lv : Int → Int} {nm : Int → Int} {tow : Int → Int} {tst : Int → Int} {ps : Int → Int} {af : Int → Int} {en : Int → Int} {fw : Int → Int} {nL : Int} {kd : Int → Int} {wy : Int → Int} {ll : Int → Int} {td : Int → Int} {wh : Int → Int} {b : Int} (hG : pj_G W sd op ed) (p0_ : W b) (p1_ : st (sd b) = 1) (p2_ : tst (sd b) = -1) (p3_ : en b = 0) (p4_ : ∀ w, W w → sd w = (sd b) → tow (sd b) = ed w → en w = 1) (p5_ : af (sd b) = 0) (p6_ : 1 ≤ lv (sd b)) (p7_ : fw b = 0) (p8_ : fw (op b) = 0) (p9_ : en (op b) ≠ 2) (p10_ : ps (sd b) = 0) (p11_ : 0 ≤ nL) (cL2 : pj_L2 sd op ed st lv nm tst en fw nL kd wy ll td wh) (cR : pj_R W nL kd wy wh) : pj_L2 sd op ed st lv nm (pu tst (sd b) (ed b)) en fw (nL + 1) (pu kd nL 2) (pu wy nL b) (pu ll nL (lv (sd b))) (pu td nL (nm (sd b))) (pu wh nL 0) := by
  obtain ⟨hop, hed⟩ := hG
  unfold pj_L2 pj_R at *
  intro k0
  simp only [pu]
  have g0 := hop b
  have g1 := hop (wy k0)
  have g2 := hed b (wy k0)
  have cL2_0 := cL2 k0
  have cR_0 := cR k0
  have f0 := p4_ b
  have f1 := p4_ (wy k0)
  have f2 := p4_ (op (wy k0))
  clear p4_
  clear hop hed cL2 cR
  grind (splits := 24)

set_option maxHeartbeats 1000000 in
theorem pt_ts_L3 {W : Int → Prop} {sd : Int → Int} {op : Int → Int} {ed : Int → Int} {st : Int → Int} {lv : Int → Int} {nm : Int → Int} {tow : Int → Int} {tst : Int → Int} {ps : Int → Int} {af : Int → Int} {en : Int → Int} {fw : Int → Int} {nL : Int} {kd : Int → Int} {wy : Int → Int} {wh : Int → Int} {b : Int} (hG : pj_G W sd op ed) (p0_ : W b) (p1_ : st (sd b) = 1) (p2_ : tst (sd b) = -1) (p3_ : en b = 0) (p4_ : ∀ w, W w → sd w = (sd b) → tow (sd b) = ed w → en w = 1) (p5_ : af (sd b) = 0) (p6_ : 1 ≤ lv (sd b)) (p7_ : fw b = 0) (p8_ : fw (op b) = 0) (p9_ : en (op b) ≠ 2) (p10_ : ps (sd b) = 0) (p11_ : 0 ≤ nL) (cL3 : pj_L3 sd op ed st lv nm tst en fw nL kd wy wh) (cR : pj_R W nL kd wy wh) : pj_L3 sd op ed st lv nm (pu tst (sd b) (ed b)) en fw (nL + 1) (pu kd nL 2) (pu wy nL b) (pu wh nL 0) := by
  obtain ⟨hop, hed⟩ := hG
  unfold pj_L3 pj_R at *
  intro k0
  simp only [pu]
  have g0 := hop b
  have g1 := hop (wy k0)
  have g2 := hed b (wy k0)
  have cL3_0 := cL3 k0
  have cR_0 := cR k0
  have f0 := p4_ b
  have f1 := p4_ (wy k0)
  have f2 := p4_ (op (wy k0))
  clear p4_
  clear hop hed cL3 cR
  grind (splits := 24)

set_option maxHeartbeats 1000000 in
theorem pt_ts_L4 {W : Int → Prop} {sd : Int → Int} {op : Int → Int} {ed : Int → Int} {st : Int → Int} {lv : Int → Int} {tow : Int → Int} {tst : Int → Int} {ps : Int → Int} {af : Int → Int} {en : Int → Int} {fw : Int → Int} {nL : Int} {kd : Int → Int} {wy : Int → Int} {wh : Int → Int} {b : Int} (hG : pj_G W sd op ed) (p0_ : W b) (p1_ : st (sd b) = 1) (p2_ : tst (sd b) = -1) (p3_ : en b = 0) (p4_ : ∀ w, W w → sd w = (sd b) → tow (sd b) = ed w → en w = 1) (p5_ : af (sd b) = 0) (p6_ : 1 ≤ lv (sd b)) (p7_ : fw b = 0) (p8_ : fw (op b) = 0) (p9_ : en (op b) ≠ 2) (p10_ : ps (sd b) = 0) (p11_ : 0 ≤ nL) (cL4 : pj_L4 sd op ed st tst en nL kd wy wh) (cR : pj_R W nL kd wy wh) : pj_L4 sd op ed st (pu tst (sd b) (ed b)) en (nL + 1) (pu kd nL 2) (pu wy nL b) (pu wh nL 0) := by
  obtain ⟨hop, hed⟩ := hG
  unfold pj_L4 pj_R at *
  intro k0
  simp only [pu]
  have g0 := hop b
  have g1 := hop (wy k0)
  have g2 := hed b (wy k0)
  have cL4_0 := cL4 k0
  have cR_0 := cR k0
  have f0 := p4_ b
  have f1 := p4_ (wy k0)
  have f2 := p4_ (op (wy k0))
  clear p4_
  clear hop hed cL4 cR
  grind (splits := 24)

set_option maxHeartbeats 1000000 in
theorem pt_ts_AF {W : Int → Prop} {sd : Int → Int} {op : Int → Int} {ed : Int → Int} {st : Int → Int} {lv : Int → Int} {tow : Int → Int} {tst : Int → Int} {ps : Int → Int} {af : Int → Int} {en : Int → Int} {fw : Int → Int} {nL : Int} {kd : Int → Int} {wy : Int → Int} {wh : Int → Int} {b : Int} (hG : pj_G W sd op ed) (p0_ : W b) (p1_ : st (sd b) = 1) (p2_ : tst (sd b) = -1) (p3_ : en b = 0) (p4_ : ∀ w, W w → sd w = (sd b) → tow (sd b) = ed w → en w = 1) (p5_ : af (sd b) = 0) (p6_ : 1 ≤ lv (sd b)) (p7_ : fw b = 0) (p8_ : fw (op b) = 0) (p9_ : en (op b) ≠ 2) (p10_ : ps (sd b) = 0) (p11_ : 0 ≤ nL) (cAF : pj_AF W sd op ed tst af nL kd wy wh) : pj_AF W sd op ed (pu tst (sd b) (ed b)) af (nL + 1) (pu kd nL 2) (pu wy nL b) (pu wh nL 0) := by
  obtain ⟨hop, hed⟩ := hG
  unfold pj_AF at *
  intro v0
  simp only [pu]
  have g0 := hop b
  have g1 := hop v0
  have g2 := hed b v0
  have cAF_0 := cAF b
  have cAF_1 := cAF v0
  have cAF_2 := cAF (op v0)
  have f0 := p4_ b
  have f1 := p4_ v0
  have f2 := p4_ (op v0)
  clear p4_
  clear hop hed cAF
  grind (splits := 24)

set_option maxHeartbeats 1000000 in
theorem pt_ts_RT {W : Int → Prop} {sd : Int → Int} {op : Int → Int} {ed : Int → Int} {st : Int → Int} {lv : Int → Int} {tow : Int → Int} {tst : Int → Int} {ps : Int → Int} {af : Int → Int} {en : Int → Int} {fw : Int → Int} {nL : Int} {kd : Int → Int} {wy : Int → Int} {wh : Int → Int} {b : Int} (hG : pj_G W sd op ed) (p0_ : W b) (p1_ : st (sd b) = 1) (p2_ : tst (sd b) = -1) (p3_ : en b = 0) (p4_ : ∀ w, W w → sd w = (sd b) → tow (sd b) = ed w → en w = 1) (p5_ : af (sd b) = 0) (p6_ : 1 ≤ lv (sd b)) (p7_ : fw b = 0) (p8_ : fw (op b) = 0) (p9_ : en (op b) ≠ 2) (p10_ : ps (sd b) = 0) (p11_ : 0 ≤ nL) (cRT : pj_RT sd ed tst nL kd wy wh) (cR : pj_R W nL kd wy wh) (cL4 : pj_L4 sd op ed st tst en nL kd wy wh) : pj_RT sd ed (pu tst (sd b) (ed b)) (nL + 1) (pu kd nL 2) (pu wy nL b) (pu wh nL 0) := by
  obtain ⟨hop, hed⟩ := hG
  unfold pj_RT pj_R pj_L4 at *
  intro j0 k0
  simp only [pu]
  have g0 := hop b
  have g1 := hop (wy j0)
  have g2 := hop (wy k0)
  have g3 := hed b (wy j0)
  have g4 := hed b (wy k0)
  have g5 := hed (wy j0) (wy k0)
  have cRT_0 := cRT j0 j0
  have cRT_1 := cRT j0 k0
  have cRT_2 := cRT k0 j0
  have cRT_3 := cRT k0 k0
  have cR_0 := cR j0
  have cR_1 := cR k0
  have cL4_0 := cL4 j0
  have cL4_1 := cL4 k0
  have f0 := p4_ b
  have f1 := p4_ (wy j0)
  have f2 := p4_ (op (wy j0))
  have f3 := p4_ (wy k0)
  have f4 := p4_ (op (wy k0))
  clear p4_
  clear hop hed cRT cR cL4
  grind (splits := 24)

set_option maxHeartbeats 1000000 in
theorem pt_ts_CV {W : Int → Prop} {sd : Int → Int} {op : Int → Int} {ed : Int → Int} {st : Int → Int} {lv : Int → Int} {nm : Int → Int} {tow : Int → Int} {tst : Int → Int} {ps : Int → Int} {af : Int → Int} {en : Int → Int} {fw : Int → Int} {nL : Int} {kd : Int → Int} {wy : Int → Int} {ll : Int → Int} {td : Int → Int} {wh : Int → Int} {b : Int} (hG : pj_G W sd op ed) (p0_ : W b) (p1_ : st (sd b) = 1) (p2_ : tst (sd b) = -1) (p3_ : en b = 0) (p4_ : ∀ w, W w → sd w = (sd b) → tow (sd b) = ed w → en w = 1) (p5_ : af (sd b) = 0) (p6_ : 1 ≤ lv (sd b)) (p7_ : fw b = 0) (p8_ : fw (op b) = 0) (p9_ : en (op b) ≠ 2) (p10_ : ps (sd b) = 0) (p11_ : 0 ≤ nL) (cR : pj_R W nL kd wy wh) (cCV : pj_CV W sd op ed tst nL kd wy wh) (cL2 : pj_L2 sd op ed st lv nm tst en fw nL kd wy ll td wh) (cL3 : pj_L3 sd op ed st lv nm tst en fw nL kd wy wh) (cL4 : pj_L4 sd op ed st tst en nL kd wy wh) : pj_CV W sd op ed (pu tst (sd b) (ed b)) (nL + 1) (pu kd nL 2) (pu wy nL b) (pu wh nL 0) := by
  obtain ⟨hop, hed⟩ := hG
  unfold pj_R pj_CV pj_L2 pj_L3 pj_L4 at *
  intro v0 j0 k0
  simp only [pu]
  have g0 := hop b
  have g1 := hop v0
  have g2 := hop (wy j0)
  have g3 := hop (wy k0)
  have g4 := hed b v0
  have g5 := hed b (wy j0)
  have g6 := hed b (wy k0)
  have g7 := hed v0 (wy j0)
  have g8 := hed v0 (wy k0)
  have g9 := hed (wy j0) (wy k0)
  have cR_0 := cR j0
  have cR_1 := cR k0
  have cCV_0 := cCV v0 j0 k0
  have cL2_0 := cL2 j0
  have cL2_1 := cL2 k0
  have cL3_0 := cL3 j0
  have cL3_1 := cL3 k0
  have cL4_0 := cL4 j0
  have cL4_1 := cL4 k0
  have f0 := p4_ b
  have f1 := p4_ v0
  have f2 := p4_ (op v0)
  have f3 := p4_ (wy j0)
  have f4 := p4_ (op (wy j0))
  have f5 := p4_ (wy k0)
  have f6 := p4_ (op (wy k0))
  clear p4_
  clear hop hed cR cCV cL2 cL3 cL4
  grind (splits := 24)

set_option maxHeartbeats 1000000 in
theorem pt_ts_L5 {W : Int → Prop} {sd : Int → Int} {op : Int → Int} {ed : Int → Int} {st : Int → Int} {lv : Int → Int} {nm : Int → Int} {inw : Int → Int} {tow : Int → Int} {bst : Int → Int} {tst : Int → Int} {om : Int → Int} {ps : Int → Int} {dl : Int → Int} {af : Int → Int} {en : Int → Int} {pd : Int → Int} {rp : Int → Int} {rv : Int → Int} {fw : Int → Int} {cl : Int → Int} {tk : Int → Int} {nL : Int} {kd : Int → Int} {wy : Int → Int} {td : Int → Int} {wh : Int → Int} {b : Int} (hG : pj_G W sd op ed) (p0_ : W b) (p1_ : st (sd b) = 1) (p2_ : tst (sd b) = -1) (p3_ : en b = 0) (p4_ : ∀ w, W w → sd w = (sd b) → tow (sd b) = ed w → en w = 1) (p5_ : af (sd b) = 0) (p6_ : 1 ≤ lv (sd b)) (p7_ : fw b = 0) (p8_ : fw (op b) = 0) (p9_ : en (op b) ≠ 2) (p10_ : ps (sd b) = 0) (p11_ : 0 ≤ nL) (cL5 : pj_L5 sd op ed st lv nm inw bst om ps dl pd rp rv cl tk nL kd wy td wh) (cR : pj_R W nL kd wy wh) : pj_L5 sd op ed st lv nm inw bst om ps dl pd rp rv cl tk (nL + 1) (pu kd nL 2) (pu wy nL b) (pu td nL (nm (sd b))) (pu wh nL 0) := by
  obtain ⟨hop, hed⟩ := hG
  unfold pj_L5 pj_R at *
  intro k0
  simp only [pu]
  have g0 := hop b
  have g1 := hop (wy k0)
  have g2 := hed b (wy k0)
  have cL5_0 := cL5 k0
  have cR_0 := cR k0
  have f0 := p4_ b
  have f1 := p4_ (wy k0)
  have f2 := p4_ (op (wy k0))
  clear p4_
  clear hop hed cL5 cR
  grind (splits := 24)

set_option maxHeartbeats 1000000 in
theorem pt_ts_L5o {W : Int → Prop} {sd : Int → Int} {op : Int → Int} {ed : Int → Int} {st : Int → Int} {lv : Int → Int} {tow : Int → Int} {tst : Int → Int} {ps : Int → Int} {af : Int → Int} {en : Int → Int} {fw : Int → Int} {cl : Int → Int} {nL : Int} {kd : Int → Int} {wy : Int → Int} {wh : Int → Int} {b : Int} (hG : pj_G W sd op ed) (p0_ : W b) (p1_ : st (sd b) = 1) (p2_ : tst (sd b) = -1) (p3_ : en b = 0) (p4_ : ∀ w, W w → sd w = (sd b) → tow (sd b) = ed w → en w = 1) (p5_ : af (sd b) = 0) (p6_ : 1 ≤ lv (sd b)) (p7_ : fw b = 0) (p8_ : fw (op b) = 0) (p9_ : en (op b) ≠ 2) (p10_ : ps (sd b) = 0) (p11_ : 0 ≤ nL) (cL5o : pj_L5o sd op ed lv cl nL kd wy wh) (cR : pj_R W nL kd wy wh) : pj_L5o sd op ed lv cl (nL + 1) (pu kd nL 2) (pu wy nL b) (pu wh nL 0) := by
  obtain ⟨hop, hed⟩ := hG
  unfold pj_L5o pj_R at *
  intro j0 k0
  simp only [pu]
  have g0 := hop b
  have g1 := hop (wy j0)
  have g2 := hop (wy k0)
  have g3 := hed b (wy j0)
  have g4 := hed b (wy k0)
  have g5 := hed (wy j0) (wy k0)
  have cL5o_0 := cL5o j0 j0
  have cL5o_1 := cL5o j0 k0
  have cL5o_2 := cL5o k0 j0
  have cL5o_3 := cL5o k0 k0
  have cR_0 := cR j0
  have cR_1 := cR k0
  have f0 := p4_ b
  have f1 := p4_ (wy j0)
  have f2 := p4_ (op (wy j0))
  have f3 := p4_ (wy k0)
  have f4 := p4_ (op (wy k0))
  clear p4_
  clear hop hed cL5o cR
  grind (splits := 24)

set_option maxHeartbeats 1000000 in
theorem pt_ts_L5u {W : Int → Prop} {sd : Int → Int} {op : Int → Int} {ed : Int → Int} {st : Int → Int} {lv : Int → Int} {tow : Int → Int} {tst : Int → Int} {ps : Int → Int} {af : Int → Int} {en : Int → Int} {fw : Int → Int} {nL : Int} {kd : Int → Int} {wy : Int → Int} {wh : Int → Int} {b : Int} (hG : pj_G W sd op ed) (p0_ : W b) (p1_ : st (sd b) = 1) (p2_ : tst (sd b) = -1) (p3_ : en b = 0) (p4_ : ∀ w, W w → sd w = (sd b) → tow (sd b) = ed w → en w = 1) (p5_ : af (sd b) = 0) (p6_ : 1 ≤ lv (sd b)) (p7_ : fw b = 0) (p8_ : fw (op b) = 0) (p9_ : en (op b) ≠ 2) (p10_ : ps (sd b) = 0) (p11_ : 0 ≤ nL) (cL5u : pj_L5u nL kd wy wh) (cR : pj_R W nL kd wy wh) : pj_L5u (nL + 1) (pu kd nL 2) (pu wy nL b) (pu wh nL 0) := by
  obtain ⟨hop, hed⟩ := hG
  unfold pj_L5u pj_R at *
  intro j0 k0
  simp only [pu]
  have g0 := hop b
  have g1 := hop (wy j0)
  have g2 := hop (wy k0)
  have g3 := hed b (wy j0)
  have g4 := hed b (wy k0)
  have g5 := hed (wy j0) (wy k0)
  have cL5u_0 := cL5u j0 j0
  have cL5u_1 := cL5u j0 k0
  have cL5u_2 := cL5u k0 j0
  have cL5u_3 := cL5u k0 k0
  have cR_0 := cR j0
  have cR_1 := cR k0
  have f0 := p4_ b
  have f1 := p4_ (wy j0)
  have f2 := p4_ (op (wy j0))
  have f3 := p4_ (wy k0)
  have f4 := p4_ (op (wy k0))
  clear p4_
  clear hop hed cL5u cR
  grind (splits := 24)

set_option maxHeartbeats 1000000 in
theorem pt_ts_L6 {W : Int → Prop} {sd : Int → Int} {op : Int → Int} {ed : Int → Int} {st : Int → Int} {lv : Int → Int} {nm : Int → Int} {tow : Int → Int} {tst : Int → Int} {om : Int → Int} {ps : Int → Int} {dl : Int → Int} {af : Int → Int} {en : Int → Int} {fw : Int → Int} {cw : Int → Int} {tk : Int → Int} {nL : Int} {kd : Int → Int} {wy : Int → Int} {wh : Int → Int} {b : Int} (hG : pj_G W sd op ed) (p0_ : W b) (p1_ : st (sd b) = 1) (p2_ : tst (sd b) = -1) (p3_ : en b = 0) (p4_ : ∀ w, W w → sd w = (sd b) → tow (sd b) = ed w → en w = 1) (p5_ : af (sd b) = 0) (p6_ : 1 ≤ lv (sd b)) (p7_ : fw b = 0) (p8_ : fw (op b) = 0) (p9_ : en (op b) ≠ 2) (p10_ : ps (sd b) = 0) (p11_ : 0 ≤ nL) (cL6 : pj_L6 sd op ed st lv nm tow om ps dl cw tk nL kd wy wh) (cR : pj_R W nL kd wy wh) : pj_L6 sd op ed st lv nm tow om ps dl cw tk (nL + 1) (pu kd nL 2) (pu wy nL b) (pu wh nL 0) := by
  obtain ⟨hop, hed⟩ := hG
  unfold pj_L6 pj_R at *
  intro k0
  simp only [pu]
  have g0 := hop b
  have g1 := hop (wy k0)
  have g2 := hed b (wy k0)
  have cL6_0 := cL6 k0
  have cR_0 := cR k0
  have f0 := p4_ b
  have f1 := p4_ (wy k0)
  have f2 := p4_ (op (wy k0))
  clear p4_
  clear hop hed cL6 cR
  grind (splits := 24)

set_option maxHeartbeats 1000000 in
theorem pt_ts_L6u {W : Int → Prop} {sd : Int → Int} {op : Int → Int} {ed : Int → Int} {st : Int → Int} {lv : Int → Int} {nm : Int → Int} {tow : Int → Int} {tst : Int → Int} {ps : Int → Int} {af : Int → Int} {en : Int → Int} {fw : Int → Int} {nL : Int} {kd : Int → Int} {wy : Int → Int} {wh : Int → Int} {b : Int} (hG : pj_G W sd op ed) (p0_ : W b) (p1_ : st (sd b) = 1) (p2_ : tst (sd b) = -1) (p3_ : en b = 0) (p4_ : ∀ w, W w → sd w = (sd b) → tow (sd b) = ed w → en w = 1) (p5_ : af (sd b) = 0) (p6_ : 1 ≤ lv (sd b)) (p7_ : fw b = 0) (p8_ : fw (op b) = 0) (p9_ : en (op b) ≠ 2) (p10_ : ps (sd b) = 0) (p11_ : 0 ≤ nL) (cL6u : pj_L6u sd op nm nL kd wy wh) (cR : pj_R W nL kd wy wh) : pj_L6u sd op nm (nL + 1) (pu kd nL 2) (pu wy nL b) (pu wh nL 0) := by
  obtain ⟨hop, hed⟩ := hG
  unfold pj_L6u pj_R at *
  intro j0 k0
  simp only [pu]
  have g0 := hop b
  have g1 := hop (wy j0)
  have g2 := hop (wy k0)
  have g3 := hed b (wy j0)
  have g4 := hed b (wy k0)
  have g5 := hed (wy j0) (wy k0)
  have cL6u_0 := cL6u j0 j0
  have cL6u_1 := cL6u j0 k0
  have cL6u_2 := cL6u k0 j0
  have cL6u_3 := cL6u k0 k0
  have cR_0 := cR j0
  have cR_1 := cR k0
  have f0 := p4_ b
  have f1 := p4_ (wy j0)
  have f2 := p4_ (op (wy j0))
  have f3 := p4_ (wy k0)
  have f4 := p4_ (op (wy k0))
  clear p4_
  clear hop hed cL6u cR
  grind (splits := 24)

theorem pj_ts {W : Int → Prop} {sd op ed : Int → Int} {li : Int → Int → Prop} {st lv nm inw tow bst tst exp om ps dl dn af c0 en pd rp rv fw cl cw tk kd wy ll td ls wh : Int → Int} {nL : Int} {F F2 : Int → Prop} {fl fc : Int} {b k : Int} (hG : pj_G W sd op ed) (p0_ : W b) (p1_ : st (sd b) = 1) (p2_ : tst (sd b) = -1) (p3_ : en b = 0) (p4_ : ∀ w, W w → sd w = (sd b) → tow (sd b) = ed w → en w = 1) (p5_ : af (sd b) = 0) (p6_ : 1 ≤ lv (sd b)) (p7_ : fw b = 0) (p8_ : fw (op b) = 0) (p9_ : en (op b) ≠ 2) (p10_ : ps (sd b) = 0) (p11_ : 0 ≤ nL) (h : pj_J W sd op ed li st lv nm inw tow bst tst exp om ps dl dn af c0 en pd rp rv fw cl cw tk nL kd wy ll td ls wh F fl fc) : pj_J W sd op ed li st lv nm inw tow bst (pu tst (sd b) (ed b)) exp om ps dl dn af c0 en pd rp rv fw cl cw tk (nL + 1) (pu kd nL 2) (pu wy nL b) (pu ll nL (lv (sd b))) (pu td nL (nm (sd b))) (pu ls nL (-1)) (pu wh nL 0) F fl fc := by
  obtain ⟨cR, cN0, cN1, cN1w, cER, cN1c, cN2, cN2e, cN2b, cN4e, cN4b, cN5, cN7, cN10, cN10e, cN13, cC1, cC2, cR3a, cE1, cU, cA1, cA2, cEC, cR3, cN11, cN12, cN3, cRJ, cFW, cPD, cCC, cCD, cRP, cRP1, cCR, cZ1, cZ0, cTK, cK2, cWH, cFI, cL0, cFC, cL0u, cOC, cCT, cL1, cL1e, cL1o, cL1b, cL1g, cL2, cL3, cL4, cAF, cRT, cCV, cL5, cL5o, cL5u, cL6, cL6u⟩ := h
  exact ⟨pt_ts_R hG p0_ p1_ p2_ p3_ p4_ p5_ p6_ p7_ p8_ p9_ p10_ p11_ cR, cN0, cN1, cN1w, cER, pt_ts_N1c hG p0_ p1_ p2_ p3_ p4_ p5_ p6_ p7_ p8_ p9_ p10_ p11_ cN1c cR, cN2, cN2e, cN2b, cN4e, cN4b, cN5, pt_ts_N7 hG p0_ p1_ p2_ p3_ p4_ p5_ p6_ p7_ p8_ p9_ p10_ p11_ cN7, cN10, cN10e, cN13, cC1, cC2, cR3a, pt_ts_E1 hG p0_ p1_ p2_ p3_ p4_ p5_ p6_ p7_ p8_ p9_ p10_ p11_ cE1, cU, cA1, cA2, pt_ts_EC hG p0_ p1_ p2_ p3_ p4_ p5_ p6_ p7_ p8_ p9_ p10_ p11_ cEC, cR3, pt_ts_N11 hG p0_ p1_ p2_ p3_ p4_ p5_ p6_ p7_ p8_ p9_ p10_ p11_ cN11, cN12, cN3, pt_ts_RJ hG p0_ p1_ p2_ p3_ p4_ p5_ p6_ p7_ p8_ p9_ p10_ p11_ cRJ, pt_ts_FW hG p0_ p1_ p2_ p3_ p4_ p5_ p6_ p7_ p8_ p9_ p10_ p11_ cFW, cPD, cCC, cCD, cRP, cRP1, cCR, cZ1, cZ0, cTK, cK2, pt_ts_WH hG p0_ p1_ p2_ p3_ p4_ p5_ p6_ p7_ p8_ p9_ p10_ p11_ cWH cR, pt_ts_FI hG p0_ p1_ p2_ p3_ p4_ p5_ p6_ p7_ p8_ p9_ p10_ p11_ cFI cR, pt_ts_L0 hG p0_ p1_ p2_ p3_ p4_ p5_ p6_ p7_ p8_ p9_ p10_ p11_ cL0 cR, pt_ts_FC hG p0_ p1_ p2_ p3_ p4_ p5_ p6_ p7_ p8_ p9_ p10_ p11_ cFC cR, pt_ts_L0u hG p0_ p1_ p2_ p3_ p4_ p5_ p6_ p7_ p8_ p9_ p10_ p11_ cL0u cR, pt_ts_OC hG p0_ p1_ p2_ p3_ p4_ p5_ p6_ p7_ p8_ p9_ p10_ p11_ cOC cR, pt_ts_CT hG p0_ p1_ p2_ p3_ p4_ p5_ p6_ p7_ p8_ p9_ p10_ p11_ cCT cR cL0, pt_ts_L1 hG p0_ p1_ p2_ p3_ p4_ p5_ p6_ p7_ p8_ p9_ p10_ p11_ cL1 cR, pt_ts_L1e hG p0_ p1_ p2_ p3_ p4_ p5_ p6_ p7_ p8_ p9_ p10_ p11_ cL1e cR, pt_ts_L1o hG p0_ p1_ p2_ p3_ p4_ p5_ p6_ p7_ p8_ p9_ p10_ p11_ cL1o cR, pt_ts_L1b hG p0_ p1_ p2_ p3_ p4_ p5_ p6_ p7_ p8_ p9_ p10_ p11_ cL1b cR, pt_ts_L1g hG p0_ p1_ p2_ p3_ p4_ p5_ p6_ p7_ p8_ p9_ p10_ p11_ cL1g cR, pt_ts_L2 hG p0_ p1_ p2_ p3_ p4_ p5_ p6_ p7_ p8_ p9_ p10_ p11_ cL2 cR, pt_ts_L3 hG p0_ p1_ p2_ p3_ p4_ p5_ p6_ p7_ p8_ p9_ p10_ p11_ cL3 cR, pt_ts_L4 hG p0_ p1_ p2_ p3_ p4_ p5_ p6_ p7_ p8_ p9_ p10_ p11_ cL4 cR, pt_ts_AF hG p0_ p1_ p2_ p3_ p4_ p5_ p6_ p7_ p8_ p9_ p10_ p11_ cAF, pt_ts_RT hG p0_ p1_ p2_ p3_ p4_ p5_ p6_ p7_ p8_ p9_ p10_ p11_ cRT cR cL4, pt_ts_CV hG p0_ p1_ p2_ p3_ p4_ p5_ p6_ p7_ p8_ p9_ p10_ p11_ cR cCV cL2 cL3 cL4, pt_ts_L5 hG p0_ p1_ p2_ p3_ p4_ p5_ p6_ p7_ p8_ p9_ p10_ p11_ cL5 cR, pt_ts_L5o hG p0_ p1_ p2_ p3_ p4_ p5_ p6_ p7_ p8_ p9_ p10_ p11_ cL5o cR, pt_ts_L5u hG p0_ p1_ p2_ p3_ p4_ p5_ p6_ p7_ p8_ p9_ p10_ p11_ cL5u cR, pt_ts_L6 hG p0_ p1_ p2_ p3_ p4_ p5_ p6_ p7_ p8_ p9_ p10_ p11_ cL6 cR, pt_ts_L6u hG p0_ p1_ p2_ p3_ p4_ p5_ p6_ p7_ p8_ p9_ p10_ p11_ cL6u cR⟩

set_option maxHeartbeats 1000000 in
theorem pt_rea_R {W : Int → Prop} {sd : Int → Int} {op : Int → Int} {ed : Int → Int} {st : Int → Int} {lv : Int → Int} {nm : Int → Int} {inw : Int → Int} {tst : Int → Int} {exp : Int → Int} {om : Int → Int} {ps : Int → Int} {dl : Int → Int} {pd : Int → Int} {nL : Int} {kd : Int → Int} {wy : Int → Int} {wh : Int → Int} {b : Int} (hG : pj_G W sd op ed) (p0_ : W b) (p1_ : st (sd b) = 1) (p2_ : tst (sd b) = -1) (p3_ : exp (sd b) = 0) (p4_ : ∀ v, W v → sd v = (sd b) → pd v = 0) (p5_ : inw (sd b) = (ed b)) (p6_ : om (sd b) = (ed b)) (p7_ : ps (sd b) = 0) (p8_ : dl (sd b) = lv (sd b)) (p9_ : 1 ≤ lv (sd b)) (p10_ : nm (sd b) ≠ (ed b)) (p11_ : om (sd (op b)) ≠ (ed b)) (p12_ : st (sd (op b)) = 1) (p13_ : pd (op b) = 1) (p14_ : lv (sd (op b)) = lv (sd b)) (p15_ : nm (sd (op b)) = nm (sd b)) (p16_ : 0 ≤ nL) (cR : pj_R W nL kd wy wh) : pj_R W (nL + 1) (pu kd nL 5) (pu wy nL b) (pu wh nL 0) := by
  obtain ⟨hop, hed⟩ := hG
  unfold pj_R at *
  intro k0
  simp only [pu]
  have g0 := hop b
  have g1 := hop (wy k0)
  have g2 := hed b (wy k0)
  have cR_0 := cR k0
  have f0 := p4_ b
  have f1 := p4_ (wy k0)
  have f2 := p4_ (op (wy k0))
  clear p4_
  clear hop hed cR
  grind (splits := 24)

set_option maxHeartbeats 1000000 in
theorem pt_rea_N0 {W : Int → Prop} {sd : Int → Int} {op : Int → Int} {ed : Int → Int} {st : Int → Int} {lv : Int → Int} {nm : Int → Int} {inw : Int → Int} {tst : Int → Int} {exp : Int → Int} {om : Int → Int} {ps : Int → Int} {dl : Int → Int} {af : Int → Int} {pd : Int → Int} {nL : Int} {b : Int} (hG : pj_G W sd op ed) (p0_ : W b) (p1_ : st (sd b) = 1) (p2_ : tst (sd b) = -1) (p3_ : exp (sd b) = 0) (p4_ : ∀ v, W v → sd v = (sd b) → pd v = 0) (p5_ : inw (sd b) = (ed b)) (p6_ : om (sd b) = (ed b)) (p7_ : ps (sd b) = 0) (p8_ : dl (sd b) = lv (sd b)) (p9_ : 1 ≤ lv (sd b)) (p10_ : nm (sd b) ≠ (ed b)) (p11_ : om (sd (op b)) ≠ (ed b)) (p12_ : st (sd (op b)) = 1) (p13_ : pd (op b) = 1) (p14_ : lv (sd (op b)) = lv (sd b)) (p15_ : nm (sd (op b)) = nm (sd b)) (p16_ : 0 ≤ nL) (cN0 : pj_N0 st lv ps dl af) : pj_N0 (pu st (sd b) 2) lv ps dl af := by
  obtain ⟨hop, hed⟩ := hG
  unfold pj_N0 at *
  intro n0
  simp only [pu]
  have g0 := hop b
  have cN0_0 := cN0 (sd (op b))
  have cN0_1 := cN0 n0
  have cN0_2 := cN0 (sd b)
  have f0 := p4_ b
  clear p4_
  clear hop hed cN0
  grind (splits := 24)

set_option maxHeartbeats 1000000 in
theorem pt_rea_N1 {W : Int → Prop} {sd : Int → Int} {op : Int → Int} {ed : Int → Int} {st : Int → Int} {lv : Int → Int} {nm : Int → Int} {inw : Int → Int} {tst : Int → Int} {exp : Int → Int} {om : Int → Int} {ps : Int → Int} {dl : Int → Int} {pd : Int → Int} {nL : Int} {b : Int} (hG : pj_G W sd op ed) (p0_ : W b) (p1_ : st (sd b) = 1) (p2_ : tst (sd b) = -1) (p3_ : exp (sd b) = 0) (p4_ : ∀ v, W v → sd v = (sd b) → pd v = 0) (p5_ : inw (sd b) = (ed b)) (p6_ : om (sd b) = (ed b)) (p7_ : ps (sd b) = 0) (p8_ : dl (sd b) = lv (sd b)) (p9_ : 1 ≤ lv (sd b)) (p10_ : nm (sd b) ≠ (ed b)) (p11_ : om (sd (op b)) ≠ (ed b)) (p12_ : st (sd (op b)) = 1) (p13_ : pd (op b) = 1) (p14_ : lv (sd (op b)) = lv (sd b)) (p15_ : nm (sd (op b)) = nm (sd b)) (p16_ : 0 ≤ nL) (cN1 : pj_N1 st lv om ps dl) : pj_N1 (pu st (sd b) 2) lv om ps dl := by
  obtain ⟨hop, hed⟩ := hG
  unfold pj_N1 at *
  intro n0
  simp only [pu]
  have g0 := hop b
  have cN1_0 := cN1 (sd (op b))
  have cN1_1 := cN1 n0
  have cN1_2 := cN1 (sd b)
  have f0 := p4_ b
  clear p4_
  clear hop hed cN1
  grind (splits := 24)

set_option maxHeartbeats 1000000 in
theorem pt_rea_N1w {W : Int → Prop} {sd : Int → Int} {op : Int → Int} {ed : Int → Int} {st : Int → Int} {lv : Int → Int} {nm : Int → Int} {inw : Int → Int} {tst : Int → Int} {exp : Int → Int} {om : Int → Int} {ps : Int → Int} {dl : Int → Int} {en : Int → Int} {pd : Int → Int} {nL : Int} {b : Int} (hG : pj_G W sd op ed) (p0_ : W b) (p1_ : st (sd b) = 1) (p2_ : tst (sd b) = -1) (p3_ : exp (sd b) = 0) (p4_ : ∀ v, W v → sd v = (sd b) → pd v = 0) (p5_ : inw (sd b) = (ed b)) (p6_ : om (sd b) = (ed b)) (p7_ : ps (sd b) = 0) (p8_ : dl (sd b) = lv (sd b)) (p9_ : 1 ≤ lv (sd b)) (p10_ : nm (sd b) ≠ (ed b)) (p11_ : om (sd (op b)) ≠ (ed b)) (p12_ : st (sd (op b)) = 1) (p13_ : pd (op b) = 1) (p14_ : lv (sd (op b)) = lv (sd b)) (p15_ : nm (sd (op b)) = nm (sd b)) (p16_ : 0 ≤ nL) (cN1w : pj_N1w W sd st en) : pj_N1w W sd (pu st (sd b) 2) en := by
  obtain ⟨hop, hed⟩ := hG
  unfold pj_N1w at *
  intro w0
  simp only [pu]
  have g0 := hop b
  have g1 := hop w0
  have g2 := hed b w0
  have cN1w_0 := cN1w b
  have cN1w_1 := cN1w w0
  have cN1w_2 := cN1w (op w0)
  have f0 := p4_ b
  have f1 := p4_ w0
  have f2 := p4_ (op w0)
  clear p4_
  clear hop hed cN1w
  grind (splits := 24)

set_option maxHeartbeats 1000000 in
theorem pt_rea_N1c {W : Int → Prop} {sd : Int → Int} {op : Int → Int} {ed : Int → Int} {st : Int → Int} {lv : Int → Int} {nm : Int → Int} {inw : Int → Int} {tst : Int → Int} {exp : Int → Int} {om : Int → Int} {ps : Int → Int} {dl : Int → Int} {pd : Int → Int} {nL : Int} {kd : Int → Int} {wy : Int → Int} {wh : Int → Int} {b : Int} (hG : pj_G W sd op ed) (p0_ : W b) (p1_ : st (sd b) = 1) (p2_ : tst (sd b) = -1) (p3_ : exp (sd b) = 0) (p4_ : ∀ v, W v → sd v = (sd b) → pd v = 0) (p5_ : inw (sd b) = (ed b)) (p6_ : om (sd b) = (ed b)) (p7_ : ps (sd b) = 0) (p8_ : dl (sd b) = lv (sd b)) (p9_ : 1 ≤ lv (sd b)) (p10_ : nm (sd b) ≠ (ed b)) (p11_ : om (sd (op b)) ≠ (ed b)) (p12_ : st (sd (op b)) = 1) (p13_ : pd (op b) = 1) (p14_ : lv (sd (op b)) = lv (sd b)) (p15_ : nm (sd (op b)) = nm (sd b)) (p16_ : 0 ≤ nL) (cN1c : pj_N1c sd op st nL wy wh) (cR : pj_R W nL kd wy wh) : pj_N1c sd op (pu st (sd b) 2) (nL + 1) (pu wy nL b) (pu wh nL 0) := by
  obtain ⟨hop, hed⟩ := hG
  unfold pj_N1c pj_R at *
  intro k0
  simp only [pu]
  have g0 := hop b
  have g1 := hop (wy k0)
  have g2 := hed b (wy k0)
  have cN1c_0 := cN1c k0
  have cR_0 := cR k0
  have f0 := p4_ b
  have f1 := p4_ (wy k0)
  have f2 := p4_ (op (wy k0))
  clear p4_
  clear hop hed cN1c cR
  grind (splits := 24)

set_option maxHeartbeats 1000000 in
theorem pt_rea_N2b {W : Int → Prop} {sd : Int → Int} {op : Int → Int} {ed : Int → Int} {st : Int → Int} {lv : Int → Int} {nm : Int → Int} {inw : Int → Int} {tst : Int → Int} {exp : Int → Int} {om : Int → Int} {ps : Int → Int} {dl : Int → Int} {pd : Int → Int} {nL : Int} {b : Int} (hG : pj_G W sd op ed) (p0_ : W b) (p1_ : st (sd b) = 1) (p2_ : tst (sd b) = -1) (p3_ : exp (sd b) = 0) (p4_ : ∀ v, W v → sd v = (sd b) → pd v = 0) (p5_ : inw (sd b) = (ed b)) (p6_ : om (sd b) = (ed b)) (p7_ : ps (sd b) = 0) (p8_ : dl (sd b) = lv (sd b)) (p9_ : 1 ≤ lv (sd b)) (p10_ : nm (sd b) ≠ (ed b)) (p11_ : om (sd (op b)) ≠ (ed b)) (p12_ : st (sd (op b)) = 1) (p13_ : pd (op b) = 1) (p14_ : lv (sd (op b)) = lv (sd b)) (p15_ : nm (sd (op b)) = nm (sd b)) (p16_ : 0 ≤ nL) (cN2b : pj_N2b W sd st om) : pj_N2b W sd (pu st (sd b) 2) om := by
  obtain ⟨hop, hed⟩ := hG
  unfold pj_N2b at *
  intro w0
  simp only [pu]
  have g0 := hop b
  have g1 := hop w0
  have g2 := hed b w0
  have cN2b_0 := cN2b b
  have cN2b_1 := cN2b w0
  have cN2b_2 := cN2b (op w0)
  have f0 := p4_ b
  have f1 := p4_ w0
  have f2 := p4_ (op w0)
  clear p4_
  clear hop hed cN2b
  grind (splits := 24)

set_option maxHeartbeats 1000000 in
theorem pt_rea_N4b {W : Int → Prop} {sd : Int → Int} {op : Int → Int} {ed : Int → Int} {st : Int → Int} {lv : Int → Int} {nm : Int → Int} {inw : Int → Int} {tow : Int → Int} {bst : Int → Int} {tst : Int → Int} {exp : Int → Int} {om : Int → Int} {ps : Int → Int} {dl : Int → Int} {pd : Int → Int} {nL : Int} {b : Int} (hG : pj_G W sd op ed) (p0_ : W b) (p1_ : st (sd b) = 1) (p2_ : tst (sd b) = -1) (p3_ : exp (sd b) = 0) (p4_ : ∀ v, W v → sd v = (sd b) → pd v = 0) (p5_ : inw (sd b) = (ed b)) (p6_ : om (sd b) = (ed b)) (p7_ : ps (sd b) = 0) (p8_ : dl (sd b) = lv (sd b)) (p9_ : 1 ≤ lv (sd b)) (p10_ : nm (sd b) ≠ (ed b)) (p11_ : om (sd (op b)) ≠ (ed b)) (p12_ : st (sd (op b)) = 1) (p13_ : pd (op b) = 1) (p14_ : lv (sd (op b)) = lv (sd b)) (p15_ : nm (sd (op b)) = nm (sd b)) (p16_ : 0 ≤ nL) (cN4b : pj_N4b st lv nm inw tow bst om ps) : pj_N4b (pu st (sd b) 2) lv nm inw tow bst om ps := by
  obtain ⟨hop, hed⟩ := hG
  unfold pj_N4b at *
  intro n0
  simp only [pu]
  have g0 := hop b
  have cN4b_0 := cN4b (sd (op b))
  have cN4b_1 := cN4b n0
  have cN4b_2 := cN4b (sd b)
  have f0 := p4_ b
  clear p4_
  clear hop hed cN4b
  grind (splits := 24)

set_option maxHeartbeats 1000000 in
theorem pt_rea_N7 {W : Int → Prop} {sd : Int → Int} {op : Int → Int} {ed : Int → Int} {st : Int → Int} {lv : Int → Int} {nm : Int → Int} {inw : Int → Int} {tst : Int → Int} {exp : Int → Int} {om : Int → Int} {ps : Int → Int} {dl : Int → Int} {pd : Int → Int} {nL : Int} {b : Int} (hG : pj_G W sd op ed) (p0_ : W b) (p1_ : st (sd b) = 1) (p2_ : tst (sd b) = -1) (p3_ : exp (sd b) = 0) (p4_ : ∀ v, W v → sd v = (sd b) → pd v = 0) (p5_ : inw (sd b) = (ed b)) (p6_ : om (sd b) = (ed b)) (p7_ : ps (sd b) = 0) (p8_ : dl (sd b) = lv (sd b)) (p9_ : 1 ≤ lv (sd b)) (p10_ : nm (sd b) ≠ (ed b)) (p11_ : om (sd (op b)) ≠ (ed b)) (p12_ : st (sd (op b)) = 1) (p13_ : pd (op b) = 1) (p14_ : lv (sd (op b)) = lv (sd b)) (p15_ : nm (sd (op b)) = nm (sd b)) (p16_ : 0 ≤ nL) (cN7 : pj_N7 st tst exp) : pj_N7 (pu st (sd b) 2) tst exp := by
  obtain ⟨hop, hed⟩ := hG
  unfold pj_N7 at *
  intro n0
  simp only [pu]
  have g0 := hop b
  have cN7_0 := cN7 (sd (op b))
  have cN7_1 := cN7 n0
  have cN7_2 := cN7 (sd b)
  have f0 := p4_ b
  clear p4_
  clear hop hed cN7
  grind (splits := 24)

set_option maxHeartbeats 1000000 in
theorem pt_rea_R3a {W : Int → Prop} {sd : Int → Int} {op : Int → Int} {ed : Int → Int} {st : Int → Int} {lv : Int → Int} {nm : Int → Int} {inw : Int → Int} {tst : Int → Int} {exp : Int → Int} {om : Int → Int} {ps : Int → Int} {dl : Int → Int} {pd : Int → Int} {nL : Int} {b : Int} (hG : pj_G W sd op ed) (p0_ : W b) (p1_ : st (sd b) = 1) (p2_ : tst (sd b) = -1) (p3_ : exp (sd b) = 0) (p4_ : ∀ v, W v → sd v = (sd b) → pd v = 0) (p5_ : inw (sd b) = (ed b)) (p6_ : om (sd b) = (ed b)) (p7_ : ps (sd b) = 0) (p8_ : dl (sd b) = lv (sd b)) (p9_ : 1 ≤ lv (sd b)) (p10_ : nm (sd b) ≠ (ed b)) (p11_ : om (sd (op b)) ≠ (ed b)) (p12_ : st (sd (op b)) = 1) (p13_ : pd (op b) = 1) (p14_ : lv (sd (op b)) = lv (sd b)) (p15_ : nm (sd (op b)) = nm (sd b)) (p16_ : 0 ≤ nL) (cR3a : pj_R3a st lv dl) : pj_R3a (pu st (sd b) 2) lv dl := by
  obtain ⟨hop, hed⟩ := hG
  unfold pj_R3a at *
  intro n0
  simp only [pu]
  have g0 := hop b
  have cR3a_0 := cR3a (sd (op b))
  have cR3a_1 := cR3a n0
  have cR3a_2 := cR3a (sd b)
  have f0 := p4_ b
  clear p4_
  clear hop hed cR3a
  grind (splits := 24)

set_option maxHeartbeats 1000000 in
theorem pt_rea_E1 {W : Int → Prop} {sd : Int → Int} {op : Int → Int} {ed : Int → Int} {st : Int → Int} {lv : Int → Int} {nm : Int → Int} {inw : Int → Int} {tst : Int → Int} {exp : Int → Int} {om : Int → Int} {ps : Int → Int} {dl : Int → Int} {pd : Int → Int} {nL : Int} {kd : Int → Int} {wy : Int → Int} {ll : Int → Int} {wh : Int → Int} {b : Int} (hG : pj_G W sd op ed) (p0_ : W b) (p1_ : st (sd b) = 1) (p2_ : tst (sd b) = -1) (p3_ : exp (sd b) = 0) (p4_ : ∀ v, W v → sd v = (sd b) → pd v = 0) (p5_ : inw (sd b) = (ed b)) (p6_ : om (sd b) = (ed b)) (p7_ : ps (sd b) = 0) (p8_ : dl (sd b) = lv (sd b)) (p9_ : 1 ≤ lv (sd b)) (p10_ : nm (sd b) ≠ (ed b)) (p11_ : om (sd (op b)) ≠ (ed b)) (p12_ : st (sd (op b)) = 1) (p13_ : pd (op b) = 1) (p14_ : lv (sd (op b)) = lv (sd b)) (p15_ : nm (sd (op b)) = nm (sd b)) (p16_ : 0 ≤ nL) (cE1 : pj_E1 sd op lv dl nL kd wy ll wh) : pj_E1 sd op lv dl (nL + 1) (pu kd nL 5) (pu wy nL b) (pu ll nL (-1)) (pu wh nL 0) := by
  obtain ⟨hop, hed⟩ := hG
  unfold pj_E1 at *
  intro n0
  simp only [pu]
  have g0 := hop b
  have cE1_0 := cE1 (sd (op b))
  have cE1_1 := cE1 n0
  have cE1_2 := cE1 (sd b)
  have f0 := p4_ b
  clear p4_
  clear hop hed cE1
  grind (splits := 24)

set_option maxHeartbeats 1000000 in
theorem pt_rea_A2 {W : Int → Prop} {sd : Int → Int} {op : Int → Int} {ed : Int → Int} {st : Int → Int} {lv : Int → Int} {nm : Int → Int} {inw : Int → Int} {tst : Int → Int} {exp : Int → Int} {om : Int → Int} {ps : Int → Int} {dl : Int → Int} {dn : Int → Int} {pd : Int → Int} {cl : Int → Int} {nL : Int} {b : Int} (hG : pj_G W sd op ed) (p0_ : W b) (p1_ : st (sd b) = 1) (p2_ : tst (sd b) = -1) (p3_ : exp (sd b) = 0) (p4_ : ∀ v, W v → sd v = (sd b) → pd v = 0) (p5_ : inw (sd b) = (ed b)) (p6_ : om (sd b) = (ed b)) (p7_ : ps (sd b) = 0) (p8_ : dl (sd b) = lv (sd b)) (p9_ : 1 ≤ lv (sd b)) (p10_ : nm (sd b) ≠ (ed b)) (p11_ : om (sd (op b)) ≠ (ed b)) (p12_ : st (sd (op b)) = 1) (p13_ : pd (op b) = 1) (p14_ : lv (sd (op b)) = lv (sd b)) (p15_ : nm (sd (op b)) = nm (sd b)) (p16_ : 0 ≤ nL) (cA2 : pj_A2 W sd op ed st lv nm om ps dl dn cl) : pj_A2 W sd op ed (pu st (sd b) 2) lv nm om ps dl dn cl := by
  obtain ⟨hop, hed⟩ := hG
  unfold pj_A2 at *
  intro w0
  simp only [pu]
  have g0 := hop b
  have g1 := hop w0
  have g2 := hed b w0
  have cA2_0 := cA2 b
  have cA2_1 := cA2 w0
  have cA2_2 := cA2 (op w0)
  have f0 := p4_ b
  have f1 := p4_ w0
  have f2 := p4_ (op w0)
  clear p4_
  clear hop hed cA2
  grind (splits := 24)

set_option maxHeartbeats 1000000 in
theorem pt_rea_EC {W : Int → Prop} {sd : Int → Int} {op : Int → Int} {ed : Int → Int} {st : Int → Int} {lv : Int → Int} {nm : Int → Int} {inw : Int → Int} {tst : Int → Int} {exp : Int → Int} {om : Int → Int} {ps : Int → Int} {dl : Int → Int} {pd : Int → Int} {nL : Int} {kd : Int → Int} {wy : Int → Int} {wh : Int → Int} {F : Int → Prop} {b : Int} (hG : pj_G W sd op ed) (p0_ : W b) (p1_ : st (sd b) = 1) (p2_ : tst (sd b) = -1) (p3_ : exp (sd b) = 0) (p4_ : ∀ v, W v → sd v = (sd b) → pd v = 0) (p5_ : inw (sd b) = (ed b)) (p6_ : om (sd b) = (ed b)) (p7_ : ps (sd b) = 0) (p8_ : dl (sd b) = lv (sd b)) (p9_ : 1 ≤ lv (sd b)) (p10_ : nm (sd b) ≠ (ed b)) (p11_ : om (sd (op b)) ≠ (ed b)) (p12_ : st (sd (op b)) = 1) (p13_ : pd (op b) = 1) (p14_ : lv (sd (op b)) = lv (sd b)) (p15_ : nm (sd (op b)) = nm (sd b)) (p16_ : 0 ≤ nL) (cEC : pj_EC W sd op ed lv nm om ps dl nL kd wy wh F) : pj_EC W sd op ed lv nm om ps dl (nL + 1) (pu kd nL 5) (pu wy nL b) (pu wh nL 0) F := by
  obtain ⟨hop, hed⟩ := hG
  unfold pj_EC at *
  intro w0
  simp only [pu]
  have g0 := hop b
  have g1 := hop w0
  have g2 := hed b w0
  have cEC_0 := cEC b
  have cEC_1 := cEC w0
  have cEC_2 := cEC (op w0)
  have f0 := p4_ b
  have f1 := p4_ w0
  have f2 := p4_ (op w0)
  clear p4_
  clear hop hed cEC
  grind (splits := 24)

set_option maxHeartbeats 1000000 in
theorem pt_rea_R3 {W : Int → Prop} {sd : Int → Int} {op : Int → Int} {ed : Int → Int} {st : Int → Int} {lv : Int → Int} {nm : Int → Int} {inw : Int → Int} {tst : Int → Int} {exp : Int → Int} {om : Int → Int} {ps : Int → Int} {dl : Int → Int} {pd : Int → Int} {nL : Int} {b : Int} (hG : pj_G W sd op ed) (p0_ : W b) (p1_ : st (sd b) = 1) (p2_ : tst (sd b) = -1) (p3_ : exp (sd b) = 0) (p4_ : ∀ v, W v → sd v = (sd b) → pd v = 0) (p5_ : inw (sd b) = (ed b)) (p6_ : om (sd b) = (ed b)) (p7_ : ps (sd b) = 0) (p8_ : dl (sd b) = lv (sd b)) (p9_ : 1 ≤ lv (sd b)) (p10_ : nm (sd b) ≠ (ed b)) (p11_ : om (sd (op b)) ≠ (ed b)) (p12_ : st (sd (op b)) = 1) (p13_ : pd (op b) = 1) (p14_ : lv (sd (op b)) = lv (sd b)) (p15_ : nm (sd (op b)) = nm (sd b)) (p16_ : 0 ≤ nL) (cR3 : pj_R3 W sd op ed st om pd) : pj_R3 W sd op ed (pu st (sd b) 2) om pd := by
  obtain ⟨hop, hed⟩ := hG
  unfold pj_R3 at *
  intro w0
  simp only [pu]
  have g0 := hop b
  have g1 := hop w0
  have g2 := hed b w0
  have cR3_0 := cR3 b
  have cR3_1 := cR3 w0
  have cR3_2 := cR3 (op w0)
  have f0 := p4_ b
  have f1 := p4_ w0
  have f2 := p4_ (op w0)
  clear p4_
  clear hop hed cR3
  grind (splits := 24)

set_option maxHeartbeats 1000000 in
theorem pt_rea_N12 {W : Int → Prop} {sd : Int → Int} {op : Int → Int} {ed : Int → Int} {st : Int → Int} {lv : Int → Int} {nm : Int → Int} {inw : Int → Int} {tow : Int → Int} {tst : Int → Int} {exp : Int → Int} {om : Int → Int} {ps : Int → Int} {dl : Int → Int} {en : Int → Int} {pd : Int → Int} {nL : Int} {b : Int} (hG : pj_G W sd op ed) (p0_ : W b) (p1_ : st (sd b) = 1) (p2_ : tst (sd b) = -1) (p3_ : exp (sd b) = 0) (p4_ : ∀ v, W v → sd v = (sd b) → pd v = 0) (p5_ : inw (sd b) = (ed b)) (p6_ : om (sd b) = (ed b)) (p7_ : ps (sd b) = 0) (p8_ : dl (sd b) = lv (sd b)) (p9_ : 1 ≤ lv (sd b)) (p10_ : nm (sd b) ≠ (ed b)) (p11_ : om (sd (op b)) ≠ (ed b)) (p12_ : st (sd (op b)) = 1) (p13_ : pd (op b) = 1) (p14_ : lv (sd (op b)) = lv (sd b)) (p15_ : nm (sd (op b)) = nm (sd b)) (p16_ : 0 ≤ nL) (cN12 : pj_N12 W sd op ed st lv nm inw tow om ps dl en) : pj_N12 W sd op ed (pu st (sd b) 2) lv nm inw tow om ps dl en := by
  obtain ⟨hop, hed⟩ := hG
  unfold pj_N12 at *
  intro w0
  simp only [pu]
  have g0 := hop b
  have g1 := hop w0
  have g2 := hed b w0
  have cN12_0 := cN12 b
  have cN12_1 := cN12 w0
  have cN12_2 := cN12 (op w0)
  have f0 := p4_ b
  have f1 := p4_ w0
  have f2 := p4_ (op w0)
  clear p4_
  clear hop hed cN12
  grind (splits := 24)

set_option maxHeartbeats 1000000 in
theorem pt_rea_PD {W : Int → Prop} {sd : Int → Int} {op : Int → Int} {ed : Int → Int} {st : Int → Int} {lv : Int → Int} {nm : Int → Int} {inw : Int → Int} {tst : Int → Int} {exp : Int → Int} {om : Int → Int} {ps : Int → Int} {dl : Int → Int} {en : Int → Int} {pd : Int → Int} {nL : Int} {b : Int} (hG : pj_G W sd op ed) (p0_ : W b) (p1_ : st (sd b) = 1) (p2_ : tst (sd b) = -1) (p3_ : exp (sd b) = 0) (p4_ : ∀ v, W v → sd v = (sd b) → pd v = 0) (p5_ : inw (sd b) = (ed b)) (p6_ : om (sd b) = (ed b)) (p7_ : ps (sd b) = 0) (p8_ : dl (sd b) = lv (sd b)) (p9_ : 1 ≤ lv (sd b)) (p10_ : nm (sd b) ≠ (ed b)) (p11_ : om (sd (op b)) ≠ (ed b)) (p12_ : st (sd (op b)) = 1) (p13_ : pd (op b) = 1) (p14_ : lv (sd (op b)) = lv (sd b)) (p15_ : nm (sd (op b)) = nm (sd b)) (p16_ : 0 ≤ nL) (cPD : pj_PD W sd op ed st om en pd) : pj_PD W sd op ed (pu st (sd b) 2) om en pd := by
  obtain ⟨hop, hed⟩ := hG
  unfold pj_PD at *
  intro w0
  simp only [pu]
  have g0 := hop b
  have g1 := hop w0
  have g2 := hed b w0
  have cPD_0 := cPD b
  have cPD_1 := cPD w0
  have cPD_2 := cPD (op w0)
  have f0 := p4_ b
  have f1 := p4_ w0
  have f2 := p4_ (op w0)
  clear p4_
  clear hop hed cPD
  grind (splits := 24)

set_option maxHeartbeats 1000000 in
theorem pt_rea_RP {W : Int → Prop} {sd : Int → Int} {op : Int → Int} {ed : Int → Int} {st : Int → Int} {lv : Int → Int} {nm : Int → Int} {inw : Int → Int} {bst : Int → Int} {tst : Int → Int} {exp : Int → Int} {om : Int → Int} {ps : Int → Int} {dl : Int → Int} {pd : Int → Int} {rp : Int → Int} {rv : Int → Int} {nL : Int} {b : Int} (hG : pj_G W sd op ed) (p0_ : W b) (p1_ : st (sd b) = 1) (p2_ : tst (sd b) = -1) (p3_ : exp (sd b) = 0) (p4_ : ∀ v, W v → sd v = (sd b) → pd v = 0) (p5_ : inw (sd b) = (ed b)) (p6_ : om (sd b) = (ed b)) (p7_ : ps (sd b) = 0) (p8_ : dl (sd b) = lv (sd b)) (p9_ : 1 ≤ lv (sd b)) (p10_ : nm (sd b) ≠ (ed b)) (p11_ : om (sd (op b)) ≠ (ed b)) (p12_ : st (sd (op b)) = 1) (p13_ : pd (op b) = 1) (p14_ : lv (sd (op b)) = lv (sd b)) (p15_ : nm (sd (op b)) = nm (sd b)) (p16_ : 0 ≤ nL) (cRP : pj_RP W sd ed st lv nm bst rp rv) (cN13 : pj_N13 W sd ed lv nm inw) : pj_RP W sd ed (pu st (sd b) 2) lv nm bst rp rv := by
  obtain ⟨hop, hed⟩ := hG
  unfold pj_RP pj_N13 at *
  intro w0
  simp only [pu]
  have g0 := hop b
  have g1 := hop w0
  have g2 := hed b w0
  have cRP_0 := cRP b
  have cRP_1 := cRP w0
  have cRP_2 := cRP (op w0)
  have cN13_0 := cN13 b
  have cN13_1 := cN13 w0
  have cN13_2 := cN13 (op w0)
  have f0 := p4_ b
  have f1 := p4_ w0
  have f2 := p4_ (op w0)
  clear p4_
  clear hop hed cRP cN13
  grind (splits := 24)

set_option maxHeartbeats 1000000 in
theorem pt_rea_WH {W : Int → Prop} {sd : Int → Int} {op : Int → Int} {ed : Int → Int} {st : Int → Int} {lv : Int → Int} {nm : Int → Int} {inw : Int → Int} {tst : Int → Int} {exp : Int → Int} {om : Int → Int} {ps : Int → Int} {dl : Int → Int} {pd : Int → Int} {nL : Int} {kd : Int → Int} {wy : Int → Int} {wh : Int → Int} {b : Int} (hG : pj_G W sd op ed) (p0_ : W b) (p1_ : st (sd b) = 1) (p2_ : tst (sd b) = -1) (p3_ : exp (sd b) = 0) (p4_ : ∀ v, W v → sd v = (sd b) → pd v = 0) (p5_ : inw (sd b) = (ed b)) (p6_ : om (sd b) = (ed b)) (p7_ : ps (sd b) = 0) (p8_ : dl (sd b) = lv (sd b)) (p9_ : 1 ≤ lv (sd b)) (p10_ : nm (sd b) ≠ (ed b)) (p11_ : om (sd (op b)) ≠ (ed b)) (p12_ : st (sd (op b)) = 1) (p13_ : pd (op b) = 1) (p14_ : lv (sd (op b)) = lv (sd b)) (p15_ : nm (sd (op b)) = nm (sd b)) (p16_ : 0 ≤ nL) (cWH : pj_WH nL kd wh) (cR : pj_R W nL kd wy wh) : pj_WH (nL + 1) (pu kd nL 5) (pu wh nL 0) := by
  obtain ⟨hop, hed⟩ := hG
  unfold pj_WH pj_R at *
  intro k0
  simp only [pu]
  have g0 := hop b
  have g1 := hop (wy k0)
  have g2 := hed b (wy k0)
  have cWH_0 := cWH k0
  have cR_0 := cR k0
  have f0 := p4_ b
  have f1 := p4_ (wy k0)
  have f2 := p4_ (op (wy k0))
  clear p4_
  clear hop hed cWH cR
  grind (splits := 24)

set_option maxHeartbeats 1000000 in
theorem pt_rea_FI {W : Int → Prop} {sd : Int → Int} {op : Int → Int} {ed : Int → Int} {st : Int → Int} {lv : Int → Int} {nm : Int → Int} {inw : Int → Int} {tst : Int → Int} {exp : Int → Int} {om : Int → Int} {ps : Int → Int} {dl : Int → Int} {pd : Int → Int} {nL : Int} {kd : Int → Int} {wy : Int → Int} {wh : Int → Int} {b : Int} (hG : pj_G W sd op ed) (p0_ : W b) (p1_ : st (sd b) = 1) (p2_ : tst (sd b) = -1) (p3_ : exp (sd b) = 0) (p4_ : ∀ v, W v → sd v = (sd b) → pd v = 0) (p5_ : inw (sd b) = (ed b)) (p6_ : om (sd b) = (ed b)) (p7_ : ps (sd b) = 0) (p8_ : dl (sd b) = lv (sd b)) (p9_ : 1 ≤ lv (sd b)) (p10_ : nm (sd b) ≠ (ed b)) (p11_ : om (sd (op b)) ≠ (ed b)) (p12_ : st (sd (op b)) = 1) (p13_ : pd (op b) = 1) (p14_ : lv (sd (op b)) = lv (sd b)) (p15_ : nm (sd (op b)) = nm (sd b)) (p16_ : 0 ≤ nL) (cFI : pj_FI nL wy wh) (cR : pj_R W nL kd wy wh) : pj_FI (nL + 1) (pu wy nL b) (pu wh nL 0) := by
  obtain ⟨hop, hed⟩ := hG
  unfold pj_FI pj_R at *
  intro j0 k0
  simp only [pu]
  have g0 := hop b
  have g1 := hop (wy j0)
  have g2 := hop (wy k0)
  have g3 := hed b (wy j0)
  have g4 := hed b (wy k0)
  have g5 := hed (wy j0) (wy k0)
  have cFI_0 := cFI j0 j0
  have cFI_1 := cFI j0 k0
  have cFI_2 := cFI k0 j0
  have cFI_3 := cFI k0 k0
  have cR_0 := cR j0
  have cR_1 := cR k0
  have f0 := p4_ b
  have f1 := p4_ (wy j0)
  have f2 := p4_ (op (wy j0))
  have f3 := p4_ (wy k0)
  have f4 := p4_ (op (wy k0))
  clear p4_
  clear hop hed cFI cR
  grind (splits := 24)

set_option maxHeartbeats 1000000 in
theorem pt_rea_L0 {W : Int → Prop} {sd : Int → Int} {op : Int → Int} {ed : Int → Int} {st : Int → Int} {lv : Int → Int} {nm : Int → Int} {inw : Int → Int} {tst : Int → Int} {exp : Int → Int} {om : Int → Int} {ps : Int → Int} {dl : Int → Int} {c0 : Int → Int} {en : Int → Int} {pd : Int → Int} {cw : Int → Int} {nL : Int} {kd : Int → Int} {wy : Int → Int} {ll : Int → Int} {wh : Int → Int} {b : Int} (hG : pj_G W sd op ed) (p0_ : W b) (p1_ : st (sd b) = 1) (p2_ : tst (sd b) = -1) (p3_ : exp (sd b) = 0) (p4_ : ∀ v, W v → sd v = (sd b) → pd v = 0) (p5_ : inw (sd b) = (ed b)) (p6_ : om (sd b) = (ed b)) (p7_ : ps (sd b) = 0) (p8_ : dl (sd b) = lv (sd b)) (p9_ : 1 ≤ lv (sd b)) (p10_ : nm (sd b) ≠ (ed b)) (p11_ : om (sd (op b)) ≠ (ed b)) (p12_ : st (sd (op b)) = 1) (p13_ : pd (op b) = 1) (p14_ : lv (sd (op b)) = lv (sd b)) (p15_ : nm (sd (op b)) = nm (sd b)) (p16_ : 0 ≤ nL) (cL0 : pj_L0 sd op ed lv nm om ps dl c0 en cw nL kd wy ll wh) (cR : pj_R W nL kd wy wh) : pj_L0 sd op ed lv nm om ps dl c0 en cw (nL + 1) (pu kd nL 5) (pu wy nL b) (pu ll nL (-1)) (pu wh nL 0) := by
  obtain ⟨hop, hed⟩ := hG
  unfold pj_L0 pj_R at *
  intro k0
  simp only [pu]
  have g0 := hop b
  have g1 := hop (wy k0)
  have g2 := hed b (wy k0)
  have cL0_0 := cL0 k0
  have cR_0 := cR k0
  have f0 := p4_ b
  have f1 := p4_ (wy k0)
  have f2 := p4_ (op (wy k0))
  clear p4_
  clear hop hed cL0 cR
  grind (splits := 24)

set_option maxHeartbeats 1000000 in
theorem pt_rea_FC {W : Int → Prop} {sd : Int → Int} {op : Int → Int} {ed : Int → Int} {st : Int → Int} {lv : Int → Int} {nm : Int → Int} {inw : Int → Int} {tst : Int → Int} {exp : Int → Int} {om : Int → Int} {ps : Int → Int} {dl : Int → Int} {pd : Int → Int} {nL : Int} {kd : Int → Int} {wy : Int → Int} {wh : Int → Int} {F : Int → Prop} {b : Int} (hG : pj_G W sd op ed) (p0_ : W b) (p1_ : st (sd b) = 1) (p2_ : tst (sd b) = -1) (p3_ : exp (sd b) = 0) (p4_ : ∀ v, W v → sd v = (sd b) → pd v = 0) (p5_ : inw (sd b) = (ed b)) (p6_ : om (sd b) = (ed b)) (p7_ : ps (sd b) = 0) (p8_ : dl (sd b) = lv (sd b)) (p9_ : 1 ≤ lv (sd b)) (p10_ : nm (sd b) ≠ (ed b)) (p11_ : om (sd (op b)) ≠ (ed b)) (p12_ : st (sd (op b)) = 1) (p13_ : pd (op b) = 1) (p14_ : lv (sd (op b)) = lv (sd b)) (p15_ : nm (sd (op b)) = nm (sd b)) (p16_ : 0 ≤ nL) (cFC : pj_FC op nL kd wy wh F) (cR : pj_R W nL kd wy wh) : pj_FC op (nL + 1) (pu kd nL 5) (pu wy nL b) (pu wh nL 0) F := by
  obtain ⟨hop, hed⟩ := hG
  unfold pj_FC pj_R at *
  intro k0
  simp only [pu]
  have g0 := hop b
  have g1 := hop (wy k0)
  have g2 := hed b (wy k0)
  have cFC_0 := cFC k0
  have cR_0 := cR k0
  have f0 := p4_ b
  have f1 := p4_ (wy k0)
  have f2 := p4_ (op (wy k0))
  clear p4_
  clear hop hed cFC cR
  grind (splits := 24)

set_option maxHeartbeats 1000000 in
theorem pt_rea_L0u {W : Int → Prop} {sd : Int → Int} {op : Int → Int} {ed : Int → Int} {st : Int → Int} {lv : Int → Int} {nm : Int → Int} {inw : Int → Int} {tst : Int → Int} {exp : Int → Int} {om : Int → Int} {ps : Int → Int} {dl : Int → Int} {pd : Int → Int} {nL : Int} {kd : Int → Int} {wy : Int → Int} {wh : Int → Int} {b : Int} (hG : pj_G W sd op ed) (p0_ : W b) (p1_ : st (sd b) = 1) (p2_ : tst (sd b) = -1) (p3_ : exp (sd b) = 0) (p4_ : ∀ v, W v → sd v = (sd b) → pd v = 0) (p5_ : inw (sd b) = (ed b)) (p6_ : om (sd b) = (ed b)) (p7_ : ps (sd b) = 0) (p8_ : dl (sd b) = lv (sd b)) (p9_ : 1 ≤ lv (sd b)) (p10_ : nm (sd b) ≠ (ed b)) (p11_ : om (sd (op b)) ≠ (ed b)) (p12_ : st (sd (op b)) = 1) (p13_ : pd (op b) = 1) (p14_ : lv (sd (op b)) = lv (sd b)) (p15_ : nm (sd (op b)) = nm (sd b)) (p16_ : 0 ≤ nL) (cL0u : pj_L0u nL kd wy wh) (cR : pj_R W nL kd wy wh) : pj_L0u (nL + 1) (pu kd nL 5) (pu wy nL b) (pu wh nL 0) := by
  obtain ⟨hop, hed⟩ := hG
  unfold pj_L0u pj_R at *
  intro j0 k0
  simp only [pu]
  have g0 := hop b
  have g1 := hop (wy j0)
  have g2 := hop (wy k0)
  have g3 := hed b (wy j0)
  have g4 := hed b (wy k0)
  have g5 := hed (wy j0) (wy k0)
  have cL0u_0 := cL0u j0 j0
  have cL0u_1 := cL0u j0 k0
  have cL0u_2 := cL0u k0 j0
  have cL0u_3 := cL0u k0 k0
  have cR_0 := cR j0
  have cR_1 := cR k0
  have f0 := p4_ b
  have f1 := p4_ (wy j0)
  have f2 := p4_ (op (wy j0))
  have f3 := p4_ (wy k0)
  have f4 := p4_ (op (wy k0))
  clear p4_
  clear hop hed cL0u cR
  grind (splits := 24)

set_option maxHeartbeats 1000000 in
theorem pt_rea_OC {W : Int → Prop} {sd : Int → Int} {op : Int → Int} {ed : Int → Int} {st : Int → Int} {lv : Int → Int} {nm : Int → Int} {inw : Int → Int} {tst : Int → Int} {exp : Int → Int} {om : Int → Int} {ps : Int → Int} {dl : Int → Int} {pd : Int → Int} {nL : Int} {kd : Int → Int} {wy : Int → Int} {wh : Int → Int} {b : Int} (hG : pj_G W sd op ed) (p0_ : W b) (p1_ : st (sd b) = 1) (p2_ : tst (sd b) = -1) (p3_ : exp (sd b) = 0) (p4_ : ∀ v, W v → sd v = (sd b) → pd v = 0) (p5_ : inw (sd b) = (ed b)) (p6_ : om (sd b) = (ed b)) (p7_ : ps (sd b) = 0) (p8_ : dl (sd b) = lv (sd b)) (p9_ : 1 ≤ lv (sd b)) (p10_ : nm (sd b) ≠ (ed b)) (p11_ : om (sd (op b)) ≠ (ed b)) (p12_ : st (sd (op b)) = 1) (p13_ : pd (op b) = 1) (p14_ : lv (sd (op b)) = lv (sd b)) (p15_ : nm (sd (op b)) = nm (sd b)) (p16_ : 0 ≤ nL) (cOC : pj_OC nL kd wy wh) (cR : pj_R W nL kd wy wh) : pj_OC (nL + 1) (pu kd nL 5) (pu wy nL b) (pu wh nL 0) := by
  obtain ⟨hop, hed⟩ := hG
  unfold pj_OC pj_R at *
  intro j0 k0
  simp only [pu]
  have g0 := hop b
  have g1 := hop (wy j0)
  have g2 := hop (wy k0)
  have g3 := hed b (wy j0)
  have g4 := hed b (wy k0)
  have g5 := hed (wy j0) (wy k0)
  have cOC_0 := cOC j0 j0
  have cOC_1 := cOC j0 k0
  have cOC_2 := cOC k0 j0
  have cOC_3 := cOC k0 k0
  have cR_0 := cR j0
  have cR_1 := cR k0
  have f0 := p4_ b
  have f1 := p4_ (wy j0)
  have f2 := p4_ (op (wy j0))
  have f3 := p4_ (wy k0)
  have f4 := p4_ (op (wy k0))
  clear p4_
  clear hop hed cOC cR
  grind (splits := 24)

set_option maxHeartbeats 1000000 in
theorem pt_rea_CT {W : Int → Prop} {sd : Int → Int} {op : Int → Int} {ed : Int → Int} {st : Int → Int} {lv : Int → Int} {nm : Int → Int} {inw : Int → Int} {tst : Int → Int} {exp : Int → Int} {om : Int → Int} {ps : Int → Int} {dl : Int → Int} {pd : Int → Int} {nL : Int} {kd : Int → Int} {wy : Int → Int} {wh : Int → Int} {b : Int} (hG : pj_G W sd op ed) (p0_ : W b) (p1_ : st (sd b) = 1) (p2_ : tst (sd b) = -1) (p3_ : exp (sd b) = 0) (p4_ : ∀ v, W v → sd v = (sd b) → pd v = 0) (p5_ : inw (sd b) = (ed b)) (p6_ : om (sd b) = (ed b)) (p7_ : ps (sd b) = 0) (p8_ : dl (sd b) = lv (sd b)) (p9_ : 1 ≤ lv (sd b)) (p10_ : nm (sd b) ≠ (ed b)) (p11_ : om (sd (op b)) ≠ (ed b)) (p12_ : st (sd (op b)) = 1) (p13_ : pd (op b) = 1) (p14_ : lv (sd (op b)) = lv (sd b)) (p15_ : nm (sd (op b)) = nm (sd b)) (p16_ : 0 ≤ nL) (cCT : pj_CT nL kd wy wh) (cR : pj_R W nL kd wy wh) : pj_CT (nL + 1) (pu kd nL 5) (pu wy nL b) (pu wh nL 0) := by
  obtain ⟨hop, hed⟩ := hG
  unfold pj_CT pj_R at *
  intro j0 k0
  simp only [pu]
  have g0 := hop b
  have g1 := hop (wy j0)
  have g2 := hop (wy k0)
  have g3 := hed b (wy j0)
  have g4 := hed b (wy k0)
  have g5 := hed (wy j0) (wy k0)
  have cCT_0 := cCT j0 j0
  have cCT_1 := cCT j0 k0
  have cCT_2 := cCT k0 j0
  have cCT_3 := cCT k0 k0
  have cR_0 := cR j0
  have cR_1 := cR k0
  have f0 := p4_ b
  have f1 := p4_ (wy j0)
  have f2 := p4_ (op (wy j0))
  have f3 := p4_ (wy k0)
  have f4 := p4_ (op (wy k0))
  clear p4_
  clear hop hed cCT cR
  grind (splits := 24)

set_option maxHeartbeats 1000000 in
theorem pt_rea_L1 {W : Int → Prop} {sd : Int → Int} {op : Int → Int} {ed : Int → Int} {st : Int → Int} {lv : Int → Int} {nm : Int → Int} {inw : Int → Int} {bst : Int → Int} {tst : Int → Int} {exp : Int → Int} {om : Int → Int} {ps : Int → Int} {dl : Int → Int} {en : Int → Int} {pd : Int → Int} {cl : Int → Int} {nL : Int} {kd : Int → Int} {wy : Int → Int} {ll : Int → Int} {td : Int → Int} {ls : Int → Int} {wh : Int → Int} {b : Int} (hG : pj_G W sd op ed) (p0_ : W b) (p1_ : st (sd b) = 1) (p2_ : tst (sd b) = -1) (p3_ : exp (sd b) = 0) (p4_ : ∀ v, W v → sd v = (sd b) → pd v = 0) (p5_ : inw (sd b) = (ed b)) (p6_ : om (sd b) = (ed b)) (p7_ : ps (sd b) = 0) (p8_ : dl (sd b) = lv (sd b)) (p9_ : 1 ≤ lv (sd b)) (p10_ : nm (sd b) ≠ (ed b)) (p11_ : om (sd (op b)) ≠ (ed b)) (p12_ : st (sd (op b)) = 1) (p13_ : pd (op b) = 1) (p14_ : lv (sd (op b)) = lv (sd b)) (p15_ : nm (sd (op b)) = nm (sd b)) (p16_ : 0 ≤ nL) (cL1 : pj_L1 sd op ed st lv om dl en cl nL kd wy ll td ls wh) (cR : pj_R W nL kd wy wh) : pj_L1 sd op ed (pu st (sd b) 2) lv om dl en cl (nL + 1) (pu kd nL 5) (pu wy nL b) (pu ll nL (-1)) (pu td nL (bst (sd b))) (pu ls nL (-1)) (pu wh nL 0) := by
  obtain ⟨hop, hed⟩ := hG
  unfold pj_L1 pj_R at *
  intro k0
  simp only [pu]
  have g0 := hop b
  have g1 := hop (wy k0)
  have g2 := hed b (wy k0)
  have cL1_0 := cL1 k0
  have cR_0 := cR k0
  have f0 := p4_ b
  have f1 := p4_ (wy k0)
  have f2 := p4_ (op (wy k0))
  clear p4_
  clear hop hed cL1 cR
  grind (splits := 24)

set_option maxHeartbeats 1000000 in
theorem pt_rea_L1e {W : Int → Prop} {sd : Int → Int} {op : Int → Int} {ed : Int → Int} {st : Int → Int} {lv : Int → Int} {nm : Int → Int} {inw : Int → Int} {bst : Int → Int} {tst : Int → Int} {exp : Int → Int} {om : Int → Int} {ps : Int → Int} {dl : Int → Int} {dn : Int → Int} {pd : Int → Int} {nL : Int} {kd : Int → Int} {wy : Int → Int} {ll : Int → Int} {td : Int → Int} {ls : Int → Int} {wh : Int → Int} {b : Int} (hG : pj_G W sd op ed) (p0_ : W b) (p1_ : st (sd b) = 1) (p2_ : tst (sd b) = -1) (p3_ : exp (sd b) = 0) (p4_ : ∀ v, W v → sd v = (sd b) → pd v = 0) (p5_ : inw (sd b) = (ed b)) (p6_ : om (sd b) = (ed b)) (p7_ : ps (sd b) = 0) (p8_ : dl (sd b) = lv (sd b)) (p9_ : 1 ≤ lv (sd b)) (p10_ : nm (sd b) ≠ (ed b)) (p11_ : om (sd (op b)) ≠ (ed b)) (p12_ : st (sd (op b)) = 1) (p13_ : pd (op b) = 1) (p14_ : lv (sd (op b)) = lv (sd b)) (p15_ : nm (sd (op b)) = nm (sd b)) (p16_ : 0 ≤ nL) (cL1e : pj_L1e sd op dl dn nL kd wy ll td ls wh) (cR : pj_R W nL kd wy wh) : pj_L1e sd op dl dn (nL + 1) (pu kd nL 5) (pu wy nL b) (pu ll nL (-1)) (pu td nL (bst (sd b))) (pu ls nL (-1)) (pu wh nL 0) := by
  obtain ⟨hop, hed⟩ := hG
  unfold pj_L1e pj_R at *
  intro k0
  simp only [pu]
  have g0 := hop b
  have g1 := hop (wy k0)
  have g2 := hed b (wy k0)
  have cL1e_0 := cL1e k0
  have cR_0 := cR k0
  have f0 := p4_ b
  have f1 := p4_ (wy k0)
  have f2 := p4_ (op (wy k0))
  clear p4_
  clear hop hed cL1e cR
  grind (splits := 24)

set_option maxHeartbeats 1000000 in
theorem pt_rea_L1o {W : Int → Prop} {sd : Int → Int} {op : Int → Int} {ed : Int → Int} {st : Int → Int} {lv : Int → Int} {nm : Int → Int} {inw : Int → Int} {tst : Int → Int} {exp : Int → Int} {om : Int → Int} {ps : Int → Int} {dl : Int → Int} {pd : Int → Int} {nL : Int} {kd : Int → Int} {wy : Int → Int} {ll : Int → Int} {wh : Int → Int} {b : Int} (hG : pj_G W sd op ed) (p0_ : W b) (p1_ : st (sd b) = 1) (p2_ : tst (sd b) = -1) (p3_ : exp (sd b) = 0) (p4_ : ∀ v, W v → sd v = (sd b) → pd v = 0) (p5_ : inw (sd b) = (ed b)) (p6_ : om (sd b) = (ed b)) (p7_ : ps (sd b) = 0) (p8_ : dl (sd b) = lv (sd b)) (p9_ : 1 ≤ lv (sd b)) (p10_ : nm (sd b) ≠ (ed b)) (p11_ : om (sd (op b)) ≠ (ed b)) (p12_ : st (sd (op b)) = 1) (p13_ : pd (op b) = 1) (p14_ : lv (sd (op b)) = lv (sd b)) (p15_ : nm (sd (op b)) = nm (sd b)) (p16_ : 0 ≤ nL) (cL1o : pj_L1o nL kd wy ll wh) (cR : pj_R W nL kd wy wh) : pj_L1o (nL + 1) (pu kd nL 5) (pu wy nL b) (pu ll nL (-1)) (pu wh nL 0) := by
  obtain ⟨hop, hed⟩ := hG
  unfold pj_L1o pj_R at *
  intro j0 k0
  simp only [pu]
  have g0 := hop b
  have g1 := hop (wy j0)
  have g2 := hop (wy k0)
  have g3 := hed b (wy j0)
  have g4 := hed b (wy k0)
  have g5 := hed (wy j0) (wy k0)
  have cL1o_0 := cL1o j0 j0
  have cL1o_1 := cL1o j0 k0
  have cL1o_2 := cL1o k0 j0
  have cL1o_3 := cL1o k0 k0
  have cR_0 := cR j0
  have cR_1 := cR k0
  have f0 := p4_ b
  have f1 := p4_ (wy j0)
  have f2 := p4_ (op (wy j0))
  have f3 := p4_ (wy k0)
  have f4 := p4_ (op (wy k0))
  clear p4_
  clear hop hed cL1o cR
  grind (splits := 24)

set_option maxHeartbeats 1000000 in
theorem pt_rea_L1b {W : Int → Prop} {sd : Int → Int} {op : Int → Int} {ed : Int → Int} {st : Int → Int} {lv : Int → Int} {nm : Int → Int} {inw : Int → Int} {bst : Int → Int} {tst : Int → Int} {exp : Int → Int} {om : Int → Int} {ps : Int → Int} {dl : Int → Int} {pd : Int → Int} {nL : Int} {kd : Int → Int} {wy : Int → Int} {td : Int → Int} {ls : Int → Int} {wh : Int → Int} {b : Int} (hG : pj_G W sd op ed) (p0_ : W b) (p1_ : st (sd b) = 1) (p2_ : tst (sd b) = -1) (p3_ : exp (sd b) = 0) (p4_ : ∀ v, W v → sd v = (sd b) → pd v = 0) (p5_ : inw (sd b) = (ed b)) (p6_ : om (sd b) = (ed b)) (p7_ : ps (sd b) = 0) (p8_ : dl (sd b) = lv (sd b)) (p9_ : 1 ≤ lv (sd b)) (p10_ : nm (sd b) ≠ (ed b)) (p11_ : om (sd (op b)) ≠ (ed b)) (p12_ : st (sd (op b)) = 1) (p13_ : pd (op b) = 1) (p14_ : lv (sd (op b)) = lv (sd b)) (p15_ : nm (sd (op b)) = nm (sd b)) (p16_ : 0 ≤ nL) (cL1b : pj_L1b sd ed st om pd nL kd wy td ls wh) (cR : pj_R W nL kd wy wh) : pj_L1b sd ed (pu st (sd b) 2) om pd (nL + 1) (pu kd nL 5) (pu wy nL b) (pu td nL (bst (sd b))) (pu ls nL (-1)) (pu wh nL 0) := by
  obtain ⟨hop, hed⟩ := hG
  unfold pj_L1b pj_R at *
  intro k0
  simp only [pu]
  have g0 := hop b
  have g1 := hop (wy k0)
  have g2 := hed b (wy k0)
  have cL1b_0 := cL1b k0
  have cR_0 := cR k0
  have f0 := p4_ b
  have f1 := p4_ (wy k0)
  have f2 := p4_ (op (wy k0))
  clear p4_
  clear hop hed cL1b cR
  grind (splits := 24)

set_option maxHeartbeats 1000000 in
theorem pt_rea_L1g {W : Int → Prop} {sd : Int → Int} {op : Int → Int} {ed : Int → Int} {st : Int → Int} {lv : Int → Int} {nm : Int → Int} {inw : Int → Int} {bst : Int → Int} {tst : Int → Int} {exp : Int → Int} {om : Int → Int} {ps : Int → Int} {dl : Int → Int} {pd : Int → Int} {nL : Int} {kd : Int → Int} {wy : Int → Int} {td : Int → Int} {ls : Int → Int} {wh : Int → Int} {b : Int} (hG : pj_G W sd op ed) (p0_ : W b) (p1_ : st (sd b) = 1) (p2_ : tst (sd b) = -1) (p3_ : exp (sd b) = 0) (p4_ : ∀ v, W v → sd v = (sd b) → pd v = 0) (p5_ : inw (sd b) = (ed b)) (p6_ : om (sd b) = (ed b)) (p7_ : ps (sd b) = 0) (p8_ : dl (sd b) = lv (sd b)) (p9_ : 1 ≤ lv (sd b)) (p10_ : nm (sd b) ≠ (ed b)) (p11_ : om (sd (op b)) ≠ (ed b)) (p12_ : st (sd (op b)) = 1) (p13_ : pd (op b) = 1) (p14_ : lv (sd (op b)) = lv (sd b)) (p15_ : nm (sd (op b)) = nm (sd b)) (p16_ : 0 ≤ nL) (cL1g : pj_L1g W sd op ed nL kd wy td ls wh) (cR : pj_R W nL kd wy wh) : pj_L1g W sd op ed (nL + 1) (pu kd nL 5) (pu wy nL b) (pu td nL (bst (sd b))) (pu ls nL (-1)) (pu wh nL 0) := by
  obtain ⟨hop, hed⟩ := hG
  unfold pj_L1g pj_R at *
  intro k0 v0
  simp only [pu]
  have g0 := hop b
  have g1 := hop (wy k0)
  have g2 := hop v0
  have g3 := hed b (wy k0)
  have g4 := hed b v0
  have g5 := hed (wy k0) v0
  have cL1g_0 := cL1g k0 b
  have cL1g_1 := cL1g k0 (wy k0)
  have cL1g_2 := cL1g k0 (op (wy k0))
  have cL1g_3 := cL1g k0 v0
  have cL1g_4 := cL1g k0 (op v0)
  have cR_0 := cR k0
  have f0 := p4_ b
  have f1 := p4_ (wy k0)
  have f2 := p4_ (op (wy k0))
  have f3 := p4_ v0
  have f4 := p4_ (op v0)
  clear p4_
  clear hop hed cL1g cR
  grind (splits := 24)

set_option maxHeartbeats 1000000 in
theorem pt_rea_L2 {W : Int → Prop} {sd : Int → Int} {op : Int → Int} {ed : Int → Int} {st : Int → Int} {lv : Int → Int} {nm : Int → Int} {inw : Int → Int} {bst : Int → Int} {tst : Int → Int} {exp : Int → Int} {om : Int → Int} {ps : Int → Int} {dl : Int → Int} {en : Int → Int} {pd : Int → Int} {fw : Int → Int} {nL : Int} {kd : Int → Int} {wy : Int → Int} {ll : Int → Int} {td : Int → Int} {wh : Int → Int} {b : Int} (hG : pj_G W sd op ed) (p0_ : W b) (p1_ : st (sd b) = 1) (p2_ : tst (sd b) = -1) (p3_ : exp (sd b) = 0) (p4_ : ∀ v, W v → sd v = (sd b) → pd v = 0) (p5_ : inw (sd b) = (ed b)) (p6_ : om (sd b) = (ed b)) (p7_ : ps (sd b) = 0) (p8_ : dl (sd b) = lv (sd b)) (p9_ : 1 ≤ lv (sd b)) (p10_ : nm (sd b) ≠ (ed b)) (p11_ : om (sd (op b)) ≠ (ed b)) (p12_ : st (sd (op b)) = 1) (p13_ : pd (op b) = 1) (p14_ : lv (sd (op b)) = lv (sd b)) (p15_ : nm (sd (op b)) = nm (sd b)) (p16_ : 0 ≤ nL) (cL2 : pj_L2 sd op ed st lv nm tst en fw nL kd wy ll td wh) (cR : pj_R W nL kd wy wh) : pj_L2 sd op ed (pu st (sd b) 2) lv nm tst en fw (nL + 1) (pu kd nL 5) (pu wy nL b) (pu ll nL (-1)) (pu td nL (bst (sd b))) (pu wh nL 0) := by
  obtain ⟨hop, hed⟩ := hG
  unfold pj_L2 pj_R at *
  intro k0
  simp only [pu]
  have g0 := hop b
  have g1 := hop (wy k0)
  have g2 := hed b (wy k0)
  have cL2_0 := cL2 k0
  have cR_0 := cR k0
  have f0 := p4_ b
  have f1 := p4_ (wy k0)
  have f2 := p4_ (op (wy k0))
  clear p4_
  clear hop hed cL2 cR
  grind (splits := 24)

set_option maxHeartbeats 1000000 in
theorem pt_rea_L3 {W : Int → Prop} {sd : Int → Int} {op : Int → Int} {ed : Int → Int} {st : Int → Int} {lv : Int → Int} {nm : Int → Int} {inw : Int → Int} {tst : Int → Int} {exp : Int → Int} {om : Int → Int} {ps : Int → Int} {dl : Int → Int} {en : Int → Int} {pd : Int → Int} {fw : Int → Int} {nL : Int} {kd : Int → Int} {wy : Int → Int} {wh : Int → Int} {b : Int} (hG : pj_G W sd op ed) (p0_ : W b) (p1_ : st (sd b) = 1) (p2_ : tst (sd b) = -1) (p3_ : exp (sd b) = 0) (p4_ : ∀ v, W v → sd v = (sd b) → pd v = 0) (p5_ : inw (sd b) = (ed b)) (p6_ : om (sd b) = (ed b)) (p7_ : ps (sd b) = 0) (p8_ : dl (sd b) = lv (sd b)) (p9_ : 1 ≤ lv (sd b)) (p10_ : nm (sd b) ≠ (ed b)) (p11_ : om (sd (op b)) ≠ (ed b)) (p12_ : st (sd (op b)) = 1) (p13_ : pd (op b) = 1) (p14_ : lv (sd (op b)) = lv (sd b)) (p15_ : nm (sd (op b)) = nm (sd b)) (p16_ : 0 ≤ nL) (cL3 : pj_L3 sd op ed st lv nm tst en fw nL kd wy wh) (cR : pj_R W nL kd wy wh) : pj_L3 sd op ed (pu st (sd b) 2) lv nm tst en fw (nL + 1) (pu kd nL 5) (pu wy nL b) (pu wh nL 0) := by
  obtain ⟨hop, hed⟩ := hG
  unfold pj_L3 pj_R at *
  intro k0
  simp only [pu]
  have g0 := hop b
  have g1 := hop (wy k0)
  have g2 := hed b (wy k0)
  have cL3_0 := cL3 k0
  have cR_0 := cR k0
  have f0 := p4_ b
  have f1 := p4_ (wy k0)
  have f2 := p4_ (op (wy k0))
  clear p4_
  clear hop hed cL3 cR
  grind (splits := 24)

set_option maxHeartbeats 1000000 in
theorem pt_rea_L4 {W : Int → Prop} {sd : Int → Int} {op : Int → Int} {ed : Int → Int} {st : Int → Int} {lv : Int → Int} {nm : Int → Int} {inw : Int → Int} {tst : Int → Int} {exp : Int → Int} {om : Int → Int} {ps : Int → Int} {dl : Int → Int} {en : Int → Int} {pd : Int → Int} {nL : Int} {kd : Int → Int} {wy : Int → Int} {wh : Int → Int} {b : Int} (hG : pj_G W sd op ed) (p0_ : W b) (p1_ : st (sd b) = 1) (p2_ : tst (sd b) = -1) (p3_ : exp (sd b) = 0) (p4_ : ∀ v, W v → sd v = (sd b) → pd v = 0) (p5_ : inw (sd b) = (ed b)) (p6_ : om (sd b) = (ed b)) (p7_ : ps (sd b) = 0) (p8_ : dl (sd b) = lv (sd b)) (p9_ : 1 ≤ lv (sd b)) (p10_ : nm (sd b) ≠ (ed b)) (p11_ : om (sd (op b)) ≠ (ed b)) (p12_ : st (sd (op b)) = 1) (p13_ : pd (op b) = 1) (p14_ : lv (sd (op b)) = lv (sd b)) (p15_ : nm (sd (op b)) = nm (sd b)) (p16_ : 0 ≤ nL) (cL4 : pj_L4 sd op ed st tst en nL kd wy wh) (cR : pj_R W nL kd wy wh) : pj_L4 sd op ed (pu st (sd b) 2) tst en (nL + 1) (pu kd nL 5) (pu wy nL b) (pu wh nL 0) := by
  obtain ⟨hop, hed⟩ := hG
  unfold pj_L4 pj_R at *
  intro k0
  simp only [pu]
  have g0 := hop b
  have g1 := hop (wy k0)
  have g2 := hed b (wy k0)
  have cL4_0 := cL4 k0
  have cR_0 := cR k0
  have f0 := p4_ b
  have f1 := p4_ (wy k0)
  have f2 := p4_ (op (wy k0))
  clear p4_
  clear hop hed cL4 cR
  grind (splits := 24)

set_option maxHeartbeats 1000000 in
theorem pt_rea_AF {W : Int → Prop} {sd : Int → Int} {op : Int → Int} {ed : Int → Int} {st : Int → Int} {lv : Int → Int} {nm : Int → Int} {inw : Int → Int} {tst : Int → Int} {exp : Int → Int} {om : Int → Int} {ps : Int → Int} {dl : Int → Int} {af : Int → Int} {pd : Int → Int} {nL : Int} {kd : Int → Int} {wy : Int → Int} {wh : Int → Int} {b : Int} (hG : pj_G W sd op ed) (p0_ : W b) (p1_ : st (sd b) = 1) (p2_ : tst (sd b) = -1) (p3_ : exp (sd b) = 0) (p4_ : ∀ v, W v → sd v = (sd b) → pd v = 0) (p5_ : inw (sd b) = (ed b)) (p6_ : om (sd b) = (ed b)) (p7_ : ps (sd b) = 0) (p8_ : dl (sd b) = lv (sd b)) (p9_ : 1 ≤ lv (sd b)) (p10_ : nm (sd b) ≠ (ed b)) (p11_ : om (sd (op b)) ≠ (ed b)) (p12_ : st (sd (op b)) = 1) (p13_ : pd (op b) = 1) (p14_ : lv (sd (op b)) = lv (sd b)) (p15_ : nm (sd (op b)) = nm (sd b)) (p16_ : 0 ≤ nL) (cAF : pj_AF W sd op ed tst af nL kd wy wh) : pj_AF W sd op ed tst af (nL + 1) (pu kd nL 5) (pu wy nL b) (pu wh nL 0) := by
  obtain ⟨hop, hed⟩ := hG
  unfold pj_AF at *
  intro v0
  simp only [pu]
  have g0 := hop b
  have g1 := hop v0
  have g2 := hed b v0
  have cAF_0 := cAF b
  have cAF_1 := cAF v0
  have cAF_2 := cAF (op v0)
  have f0 := p4_ b
  have f1 := p4_ v0
  have f2 := p4_ (op v0)
  clear p4_
  clear hop hed cAF
  grind (splits := 24)

set_option maxHeartbeats 1000000 in
theorem pt_rea_RT {W : Int → Prop} {sd : Int → Int} {op : Int → Int} {ed : Int → Int} {st : Int → Int} {lv : Int → Int} {nm : Int → Int} {inw : Int → Int} {tst : Int → Int} {exp : Int → Int} {om : Int → Int} {ps : Int → Int} {dl : Int → Int} {pd : Int → Int} {nL : Int} {kd : Int → Int} {wy : Int → Int} {wh : Int → Int} {b : Int} (hG : pj_G W sd op ed) (p0_ : W b) (p1_ : st (sd b) = 1) (p2_ : tst (sd b) = -1) (p3_ : exp (sd b) = 0) (p4_ : ∀ v, W v → sd v = (sd b) → pd v = 0) (p5_ : inw (sd b) = (ed b)) (p6_ : om (sd b) = (ed b)) (p7_ : ps (sd b) = 0) (p8_ : dl (sd b) = lv (sd b)) (p9_ : 1 ≤ lv (sd b)) (p10_ : nm (sd b) ≠ (ed b)) (p11_ : om (sd (op b)) ≠ (ed b)) (p12_ : st (sd (op b)) = 1) (p13_ : pd (op b) = 1) (p14_ : lv (sd (op b)) = lv (sd b)) (p15_ : nm (sd (op b)) = nm (sd b)) (p16_ : 0 ≤ nL) (cRT : pj_RT sd ed tst nL kd wy wh) (cR : pj_R W nL kd wy wh) : pj_RT sd ed tst (nL + 1) (pu kd nL 5) (pu wy nL b) (pu wh nL 0) := by
  obtain ⟨hop, hed⟩ := hG
  unfold pj_RT pj_R at *
  intro j0 k0
  simp only [pu]
  have g0 := hop b
  have g1 := hop (wy j0)
  have g2 := hop (wy k0)
  have g3 := hed b (wy j0)
  have g4 := hed b (wy k0)
  have g5 := hed (wy j0) (wy k0)
  have cRT_0 := cRT j0 j0
  have cRT_1 := cRT j0 k0
  have cRT_2 := cRT k0 j0
  have cRT_3 := cRT k0 k0
  have cR_0 := cR j0
  have cR_1 := cR k0
  have f0 := p4_ b
  have f1 := p4_ (wy j0)
  have f2 := p4_ (op (wy j0))
  have f3 := p4_ (wy k0)
  have f4 := p4_ (op (wy k0))
  clear p4_
  clear hop hed cRT cR
  grind (splits := 24)

set_option maxHeartbeats 1000000 in
theorem pt_rea_CV {W : Int → Prop} {sd : Int → Int} {op : Int → Int} {ed : Int → Int} {st : Int → Int} {lv : Int → Int} {nm : Int → Int} {inw : Int → Int} {tst : Int → Int} {exp : Int → Int} {om : Int → Int} {ps : Int → Int} {dl : Int → Int} {pd : Int → Int} {nL : Int} {kd : Int → Int} {wy : Int → Int} {wh : Int → Int} {b : Int} (hG : pj_G W sd op ed) (p0_ : W b) (p1_ : st (sd b) = 1) (p2_ : tst (sd b) = -1) (p3_ : exp (sd b) = 0) (p4_ : ∀ v, W v → sd v = (sd b) → pd v = 0) (p5_ : inw (sd b) = (ed b)) (p6_ : om (sd b) = (ed b)) (p7_ : ps (sd b) = 0) (p8_ : dl (sd b) = lv (sd b)) (p9_ : 1 ≤ lv (sd b)) (p10_ : nm (sd b) ≠ (ed b)) (p11_ : om (sd (op b)) ≠ (ed b)) (p12_ : st (sd (op b)) = 1) (p13_ : pd (op b) = 1) (p14_ : lv (sd (op b)) = lv (sd b)) (p15_ : nm (sd (op b)) = nm (sd b)) (p16_ : 0 ≤ nL) (cCV : pj_CV W sd op ed tst nL kd wy wh) (cR : pj_R W nL kd wy wh) : pj_CV W sd op ed tst (nL + 1) (pu kd nL 5) (pu wy nL b) (pu wh nL 0) := by
  obtain ⟨hop, hed⟩ := hG
  unfold pj_CV pj_R at *
  intro v0 j0 k0
  simp only [pu]
  have g0 := hop b
  have g1 := hop v0
  have g2 := hop (wy j0)
  have g3 := hop (wy k0)
  have g4 := hed b v0
  have g5 := hed b (wy j0)
  have g6 := hed b (wy k0)
  have g7 := hed v0 (wy j0)
  have g8 := hed v0 (wy k0)
  have g9 := hed (wy j0) (wy k0)
  have cCV_0 := cCV v0 j0 k0
  have cR_0 := cR j0
  have cR_1 := cR k0
  have f0 := p4_ b
  have f1 := p4_ v0
  have f2 := p4_ (op v0)
  have f3 := p4_ (wy j0)
  have f4 := p4_ (op (wy j0))
  have f5 := p4_ (wy k0)
  have f6 := p4_ (op (wy k0))
  clear p4_
  clear hop hed cCV cR
  grind (splits := 24)

set_option maxHeartbeats 1000000 in
theorem pt_rea_L5 {W : Int → Prop} {sd : Int → Int} {op : Int → Int} {ed : Int → Int} {st : Int → Int} {lv : Int → Int} {nm : Int → Int} {inw : Int → Int} {bst : Int → Int} {tst : Int → Int} {exp : Int → Int} {om : Int → Int} {ps : Int → Int} {dl : Int → Int} {pd : Int → Int} {rp : Int → Int} {rv : Int → Int} {cl : Int → Int} {tk : Int → Int} {nL : Int} {kd : Int → Int} {wy : Int → Int} {td : Int → Int} {wh : Int → Int} {b : Int} (hG : pj_G W sd op ed) (p0_ : W b) (p1_ : st (sd b) = 1) (p2_ : tst (sd b) = -1) (p3_ : exp (sd b) = 0) (p4_ : ∀ v, W v → sd v = (sd b) → pd v = 0) (p5_ : inw (sd b) = (ed b)) (p6_ : om (sd b) = (ed b)) (p7_ : ps (sd b) = 0) (p8_ : dl (sd b) = lv (sd b)) (p9_ : 1 ≤ lv (sd b)) (p10_ : nm (sd b) ≠ (ed b)) (p11_ : om (sd (op b)) ≠ (ed b)) (p12_ : st (sd (op b)) = 1) (p13_ : pd (op b) = 1) (p14_ : lv (sd (op b)) = lv (sd b)) (p15_ : nm (sd (op b)) = nm (sd b)) (p16_ : 0 ≤ nL) (cL5 : pj_L5 sd op ed st lv nm inw bst om ps dl pd rp rv cl tk nL kd wy td wh) (cR : pj_R W nL kd wy wh) : pj_L5 sd op ed (pu st (sd b) 2) lv nm inw bst om ps dl pd rp rv cl tk (nL + 1) (pu kd nL 5) (pu wy nL b) (pu td nL (bst (sd b))) (pu wh nL 0) := by
  obtain ⟨hop, hed⟩ := hG
  unfold pj_L5 pj_R at *
  intro k0
  simp only [pu]
  have g0 := hop b
  have g1 := hop (wy k0)
  have g2 := hed b (wy k0)
  have cL5_0 := cL5 k0
  have cR_0 := cR k0
  have f0 := p4_ b
  have f1 := p4_ (wy k0)
  have f2 := p4_ (op (wy k0))
  clear p4_
  clear hop hed cL5 cR
  grind (splits := 24)

set_option maxHeartbeats 1000000 in
theorem pt_rea_L5o {W : Int → Prop} {sd : Int → Int} {op : Int → Int} {ed : Int → Int} {st : Int → Int} {lv : Int → Int} {nm : Int → Int} {inw : Int → Int} {tst : Int → Int} {exp : Int → Int} {om : Int → Int} {ps : Int → Int} {dl : Int → Int} {en : Int → Int} {pd : Int → Int} {cl : Int → Int} {nL : Int} {kd : Int → Int} {wy : Int → Int} {ll : Int → Int} {td : Int → Int} {ls : Int → Int} {wh : Int → Int} {b : Int} (hG : pj_G W sd op ed) (p0_ : W b) (p1_ : st (sd b) = 1) (p2_ : tst (sd b) = -1) (p3_ : exp (sd b) = 0) (p4_ : ∀ v, W v → sd v = (sd b) → pd v = 0) (p5_ : inw (sd b) = (ed b)) (p6_ : om (sd b) = (ed b)) (p7_ : ps (sd b) = 0) (p8_ : dl (sd b) = lv (sd b)) (p9_ : 1 ≤ lv (sd b)) (p10_ : nm (sd b) ≠ (ed b)) (p11_ : om (sd (op b)) ≠ (ed b)) (p12_ : st (sd (op b)) = 1) (p13_ : pd (op b) = 1) (p14_ : lv (sd (op b)) = lv (sd b)) (p15_ : nm (sd (op b)) = nm (sd b)) (p16_ : 0 ≤ nL) (cL5o : pj_L5o sd op ed lv cl nL kd wy wh) (cR : pj_R W nL kd wy wh) (cL1 : pj_L1 sd op ed st lv om dl en cl nL kd wy ll td ls wh) : pj_L5o sd op ed lv cl (nL + 1) (pu kd nL 5) (pu wy nL b) (pu wh nL 0) := by
  obtain ⟨hop, hed⟩ := hG
  unfold pj_L5o pj_R pj_L1 at *
  intro j0 k0
  simp only [pu]
  have g0 := hop b
  have g1 := hop (wy j0)
  have g2 := hop (wy k0)
  have g3 := hed b (wy j0)
  have g4 := hed b (wy k0)
  have g5 := hed (wy j0) (wy k0)
  have cL5o_0 := cL5o j0 j0
  have cL5o_1 := cL5o j0 k0
  have cL5o_2 := cL5o k0 j0
  have cL5o_3 := cL5o k0 k0
  have cR_0 := cR j0
  have cR_1 := cR k0
  have cL1_0 := cL1 j0
  have cL1_1 := cL1 k0
  have f0 := p4_ b
  have f1 := p4_ (wy j0)
  have f2 := p4_ (op (wy j0))
  have f3 := p4_ (wy k0)
  have f4 := p4_ (op (wy k0))
  clear p4_
  clear hop hed cL5o cR cL1
  grind (splits := 24)

set_option maxHeartbeats 1000000 in
theorem pt_rea_L5u {W : Int → Prop} {sd : Int → Int} {op : Int → Int} {ed : Int → Int} {st : Int → Int} {lv : Int → Int} {nm : Int → Int} {inw : Int → Int} {bst : Int → Int} {tst : Int → Int} {exp : Int → Int} {om : Int → Int} {ps : Int → Int} {dl : Int → Int} {pd : Int → Int} {rp : Int → Int} {rv : Int → Int} {cl : Int → Int} {tk : Int → Int} {nL : Int} {kd : Int → Int} {wy : Int → Int} {td : Int → Int} {wh : Int → Int} {b : Int} (hG : pj_G W sd op ed) (p0_ : W b) (p1_ : st (sd b) = 1) (p2_ : tst (sd b) = -1) (p3_ : exp (sd b) = 0) (p4_ : ∀ v, W v → sd v = (sd b) → pd v = 0) (p5_ : inw (sd b) = (ed b)) (p6_ : om (sd b) = (ed b)) (p7_ : ps (sd b) = 0) (p8_ : dl (sd b) = lv (sd b)) (p9_ : 1 ≤ lv (sd b)) (p10_ : nm (sd b) ≠ (ed b)) (p11_ : om (sd (op b)) ≠ (ed b)) (p12_ : st (sd (op b)) = 1) (p13_ : pd (op b) = 1) (p14_ : lv (sd (op b)) = lv (sd b)) (p15_ : nm (sd (op b)) = nm (sd b)) (p16_ : 0 ≤ nL) (cL5u : pj_L5u nL kd wy wh) (cR : pj_R W nL kd wy wh) (cL5 : pj_L5 sd op ed st lv nm inw bst om ps dl pd rp rv cl tk nL kd wy td wh) : pj_L5u (nL + 1) (pu kd nL 5) (pu wy nL b) (pu wh nL 0) := by
  obtain ⟨hop, hed⟩ := hG
  unfold pj_L5u pj_R pj_L5 at *
  intro j0 k0
  simp only [pu]
  have g0 := hop b
  have g1 := hop (wy j0)
  have g2 := hop (wy k0)
  have g3 := hed b (wy j0)
  have g4 := hed b (wy k0)
  have g5 := hed (wy j0) (wy k0)
  have cL5u_0 := cL5u j0 j0
  have cL5u_1 := cL5u j0 k0
  have cL5u_2 := cL5u k0 j0
  have cL5u_3 := cL5u k0 k0
  have cR_0 := cR j0
  have cR_1 := cR k0
  have cL5_0 := cL5 j0
  have cL5_1 := cL5 k0
  have f0 := p4_ b
  have f1 := p4_ (wy j0)
  have f2 := p4_ (op (wy j0))
  have f3 := p4_ (wy k0)
  have f4 := p4_ (op (wy k0))
  clear p4_
  clear hop hed cL5u cR cL5
  grind (splits := 24)

set_option maxHeartbeats 1000000 in
theorem pt_rea_L6 {W : Int → Prop} {sd : Int → Int} {op : Int → Int} {ed : Int → Int} {st : Int → Int} {lv : Int → Int} {nm : Int → Int} {inw : Int → Int} {tow : Int → Int} {tst : Int → Int} {exp : Int → Int} {om : Int → Int} {ps : Int → Int} {dl : Int → Int} {pd : Int → Int} {cw : Int → Int} {tk : Int → Int} {nL : Int} {kd : Int → Int} {wy : Int → Int} {wh : Int → Int} {b : Int} (hG : pj_G W sd op ed) (p0_ : W b) (p1_ : st (sd b) = 1) (p2_ : tst (sd b) = -1) (p3_ : exp (sd b) = 0) (p4_ : ∀ v, W v → sd v = (sd b) → pd v = 0) (p5_ : inw (sd b) = (ed b)) (p6_ : om (sd b) = (ed b)) (p7_ : ps (sd b) = 0) (p8_ : dl (sd b) = lv (sd b)) (p9_ : 1 ≤ lv (sd b)) (p10_ : nm (sd b) ≠ (ed b)) (p11_ : om (sd (op b)) ≠ (ed b)) (p12_ : st (sd (op b)) = 1) (p13_ : pd (op b) = 1) (p14_ : lv (sd (op b)) = lv (sd b)) (p15_ : nm (sd (op b)) = nm (sd b)) (p16_ : 0 ≤ nL) (cL6 : pj_L6 sd op ed st lv nm tow om ps dl cw tk nL kd wy wh) (cR : pj_R W nL kd wy wh) : pj_L6 sd op ed (pu st (sd b) 2) lv nm tow om ps dl cw tk (nL + 1) (pu kd nL 5) (pu wy nL b) (pu wh nL 0) := by
  obtain ⟨hop, hed⟩ := hG
  unfold pj_L6 pj_R at *
  intro k0
  simp only [pu]
  have g0 := hop b
  have g1 := hop (wy k0)
  have g2 := hed b (wy k0)
  have cL6_0 := cL6 k0
  have cR_0 := cR k0
  have f0 := p4_ b
  have f1 := p4_ (wy k0)
  have f2 := p4_ (op (wy k0))
  clear p4_
  clear hop hed cL6 cR
  grind (splits := 24)

set_option maxHeartbeats 1000000 in
theorem pt_rea_L6u {W : Int → Prop} {sd : Int → Int} {op : Int → Int} {ed : Int → Int} {st : Int → Int} {lv : Int → Int} {nm : Int → Int} {inw : Int → Int} {tst : Int → Int} {exp : Int → Int} {om : Int → Int} {ps : Int → Int} {dl : Int → Int} {pd : Int → Int} {nL : Int} {kd : Int → Int} {wy : Int → Int} {wh : Int → Int} {b : Int} (hG : pj_G W sd op ed) (p0_ : W b) (p1_ : st (sd b) = 1) (p2_ : tst (sd b) = -1) (p3_ : exp (sd b) = 0) (p4_ : ∀ v, W v → sd v = (sd b) → pd v = 0) (p5_ : inw (sd b) = (ed b)) (p6_ : om (sd b) = (ed b)) (p7_ : ps (sd b) = 0) (p8_ : dl (sd b) = lv (sd b)) (p9_ : 1 ≤ lv (sd b)) (p10_ : nm (sd b) ≠ (ed b)) (p11_ : om (sd (op b)) ≠ (ed b)) (p12_ : st (sd (op b)) = 1) (p13_ : pd (op b) = 1) (p14_ : lv (sd (op b)) = lv (sd b)) (p15_ : nm (sd (op b)) = nm (sd b)) (p16_ : 0 ≤ nL) (cL6u : pj_L6u sd op nm nL kd wy wh) (cR : pj_R W nL kd wy wh) : pj_L6u sd op nm (nL + 1) (pu kd nL 5) (pu wy nL b) (pu wh nL 0) := by
  obtain ⟨hop, hed⟩ := hG
  unfold pj_L6u pj_R at *
  intro j0 k0
  simp only [pu]
  have g0 := hop b
  have g1 := hop (wy j0)
  have g2 := hop (wy k0)
  have g3 := hed b (wy j0)
  have g4 := hed b (wy k0)
  have g5 := hed (wy j0) (wy k0)
  have cL6u_0 := cL6u j0 j0
  have cL6u_1 := cL6u j0 k0
  have cL6u_2 := cL6u k0 j0
  have cL6u_3 := cL6u k0 k0
  have cR_0 := cR j0
  have cR_1 := cR k0
  have f0 := p4_ b
  have f1 := p4_ (wy j0)
  have f2 := p4_ (op (wy j0))
  have f3 := p4_ (wy k0)
  have f4 := p4_ (op (wy k0))
  clear p4_
  clear hop hed cL6u cR
  grind (splits := 24)

theorem pj_rea {W : Int → Prop} {sd op ed : Int → Int} {li : Int → Int → Prop} {st lv nm inw tow bst tst exp om ps dl dn af c0 en pd rp rv fw cl cw tk kd wy ll td ls wh : Int → Int} {nL : Int} {F F2 : Int → Prop} {fl fc : Int} {b k : Int} (hG : pj_G W sd op ed) (p0_ : W b) (p1_ : st (sd b) = 1) (p2_ : tst (sd b) = -1) (p3_ : exp (sd b) = 0) (p4_ : ∀ v, W v → sd v = (sd b) → pd v = 0) (p5_ : inw (sd b) = (ed b)) (p6_ : om (sd b) = (ed b)) (p7_ : ps (sd b) = 0) (p8_ : dl (sd b) = lv (sd b)) (p9_ : 1 ≤ lv (sd b)) (p10_ : nm (sd b) ≠ (ed b)) (p11_ : om (sd (op b)) ≠ (ed b)) (p12_ : st (sd (op b)) = 1) (p13_ : pd (op b) = 1) (p14_ : lv (sd (op b)) = lv (sd b)) (p15_ : nm (sd (op b)) = nm (sd b)) (p16_ : 0 ≤ nL) (h : pj_J W sd op ed li st lv nm inw tow bst tst exp om ps dl dn af c0 en pd rp rv fw cl cw tk nL kd wy ll td ls wh F fl fc) : pj_J W sd op ed li (pu st (sd b) 2) lv nm inw tow bst tst exp om ps dl dn af c0 en pd rp rv fw cl cw tk (nL + 1) (pu kd nL 5) (pu wy nL b) (pu ll nL (-1)) (pu td nL (bst (sd b))) (pu ls nL (-1)) (pu wh nL 0) F fl fc := by
  obtain ⟨cR, cN0, cN1, cN1w, cER, cN1c, cN2, cN2e, cN2b, cN4e, cN4b, cN5, cN7, cN10, cN10e, cN13, cC1, cC2, cR3a, cE1, cU, cA1, cA2, cEC, cR3, cN11, cN12, cN3, cRJ, cFW, cPD, cCC, cCD, cRP, cRP1, cCR, cZ1, cZ0, cTK, cK2, cWH, cFI, cL0, cFC, cL0u, cOC, cCT, cL1, cL1e, cL1o, cL1b, cL1g, cL2, cL3, cL4, cAF, cRT, cCV, cL5, cL5o, cL5u, cL6, cL6u⟩ := h
  exact ⟨pt_rea_R hG p0_ p1_ p2_ p3_ p4_ p5_ p6_ p7_ p8_ p9_ p10_ p11_ p12_ p13_ p14_ p15_ p16_ cR, pt_rea_N0 hG p0_ p1_ p2_ p3_ p4_ p5_ p6_ p7_ p8_ p9_ p10_ p11_ p12_ p13_ p14_ p15_ p16_ cN0, pt_rea_N1 hG p0_ p1_ p2_ p3_ p4_ p5_ p6_ p7_ p8_ p9_ p10_ p11_ p12_ p13_ p14_ p15_ p16_ cN1, pt_rea_N1w hG p0_ p1_ p2_ p3_ p4_ p5_ p6_ p7_ p8_ p9_ p10_ p11_ p12_ p13_ p14_ p15_ p16_ cN1w, cER, pt_rea_N1c hG p0_ p1_ p2_ p3_ p4_ p5_ p6_ p7_ p8_ p9_ p10_ p11_ p12_ p13_ p14_ p15_ p16_ cN1c cR, cN2, cN2e, pt_rea_N2b hG p0_ p1_ p2_ p3_ p4_ p5_ p6_ p7_ p8_ p9_ p10_ p11_ p12_ p13_ p14_ p15_ p16_ cN2b, cN4e, pt_rea_N4b hG p0_ p1_ p2_ p3_ p4_ p5_ p6_ p7_ p8_ p9_ p10_ p11_ p12_ p13_ p14_ p15_ p16_ cN4b, cN5, pt_rea_N7 hG p0_ p1_ p2_ p3_ p4_ p5_ p6_ p7_ p8_ p9_ p10_ p11_ p12_ p13_ p14_ p15_ p16_ cN7, cN10, cN10e, cN13, cC1, cC2, pt_rea_R3a hG p0_ p1_ p2_ p3_ p4_ p5_ p6_ p7_ p8_ p9_ p10_ p11_ p12_ p13_ p14_ p15_ p16_ cR3a, pt_rea_E1 hG p0_ p1_ p2_ p3_ p4_ p5_ p6_ p7_ p8_ p9_ p10_ p11_ p12_ p13_ p14_ p15_ p16_ cE1, cU, cA1, pt_rea_A2 hG p0_ p1_ p2_ p3_ p4_ p5_ p6_ p7_ p8_ p9_ p10_ p11_ p12_ p13_ p14_ p15_ p16_ cA2, pt_rea_EC hG p0_ p1_ p2_ p3_ p4_ p5_ p6_ p7_ p8_ p9_ p10_ p11_ p12_ p13_ p14_ p15_ p16_ cEC, pt_rea_R3 hG p0_ p1_ p2_ p3_ p4_ p5_ p6_ p7_ p8_ p9_ p10_ p11_ p12_ p13_ p14_ p15_ p16_ cR3, cN11, pt_rea_N12 hG p0_ p1_ p2_ p3_ p4_ p5_ p6_ p7_ p8_ p9_ p10_ p11_ p12_ p13_ p14_ p15_ p16_ cN12, cN3, cRJ, cFW, pt_rea_PD hG p0_ p1_ p2_ p3_ p4_ p5_ p6_ p7_ p8_ p9_ p10_ p11_ p12_ p13_ p14_ p15_ p16_ cPD, cCC, cCD, pt_rea_RP hG p0_ p1_ p2_ p3_ p4_ p5_ p6_ p7_ p8_ p9_ p10_ p11_ p12_ p13_ p14_ p15_ p16_ cRP cN13, cRP1, cCR, cZ1, cZ0, cTK, cK2, pt_rea_WH hG p0_ p1_ p2_ p3_ p4_ p5_ p6_ p7_ p8_ p9_ p10_ p11_ p12_ p13_ p14_ p15_ p16_ cWH cR, pt_rea_FI hG p0_ p1_ p2_ p3_ p4_ p5_ p6_ p7_ p8_ p9_ p10_ p11_ p12_ p13_ p14_ p15_ p16_ cFI cR, pt_rea_L0 hG p0_ p1_ p2_ p3_ p4_ p5_ p6_ p7_ p8_ p9_ p10_ p11_ p12_ p13_ p14_ p15_ p16_ cL0 cR, pt_rea_FC hG p0_ p1_ p2_ p3_ p4_ p5_ p6_ p7_ p8_ p9_ p10_ p11_ p12_ p13_ p14_ p15_ p16_ cFC cR, pt_rea_L0u hG p0_ p1_ p2_ p3_ p4_ p5_ p6_ p7_ p8_ p9_ p10_ p11_ p12_ p13_ p14_ p15_ p16_ cL0u cR, pt_rea_OC hG p0_ p1_ p2_ p3_ p4_ p5_ p6_ p7_ p8_ p9_ p10_ p11_ p12_ p13_ p14_ p15_ p16_ cOC cR, pt_rea_CT hG p0_ p1_ p2_ p3_ p4_ p5_ p6_ p7_ p8_ p9_ p10_ p11_ p12_ p13_ p14_ p15_ p16_ cCT cR, pt_rea_L1 hG p0_ p1_ p2_ p3_ p4_ p5_ p6_ p7_ p8_ p9_ p10_ p11_ p12_ p13_ p14_ p15_ p16_ cL1 cR, pt_rea_L1e hG p0_ p1_ p2_ p3_ p4_ p5_ p6_ p7_ p8_ p9_ p10_ p11_ p12_ p13_ p14_ p15_ p16_ cL1e cR, pt_rea_L1o hG p0_ p1_ p2_ p3_ p4_ p5_ p6_ p7_ p8_ p9_ p10_ p11_ p12_ p13_ p14_ p15_ p16_ cL1o cR, pt_rea_L1b hG p0_ p1_ p2_ p3_ p4_ p5_ p6_ p7_ p8_ p9_ p10_ p11_ p12_ p13_ p14_ p15_ p16_ cL1b cR, pt_rea_L1g hG p0_ p1_ p2_ p3_ p4_ p5_ p6_ p7_ p8_ p9_ p10_ p11_ p12_ p13_ p14_ p15_ p16_ cL1g cR, pt_rea_L2 hG p0_ p1_ p2_ p3_ p4_ p5_ p6_ p7_ p8_ p9_ p10_ p11_ p12_ p13_ p14_ p15_ p16_ cL2 cR, pt_rea_L3 hG p0_ p1_ p2_ p3_ p4_ p5_ p6_ p7_ p8_ p9_ p10_ p11_ p12_ p13_ p14_ p15_ p16_ cL3 cR, pt_rea_L4 hG p0_ p1_ p2_ p3_ p4_ p5_ p6_ p7_ p8_ p9_ p10_ p11_ p12_ p13_ p14_ p15_ p16_ cL4 cR, pt_rea_AF hG p0_ p1_ p2_ p3_ p4_ p5_ p6_ p7_ p8_ p9_ p10_ p11_ p12_ p13_ p14_ p15_ p16_ cAF, pt_rea_RT hG p0_ p1_ p2_ p3_ p4_ p5_ p6_ p7_ p8_ p9_ p10_ p11_ p12_ p13_ p14_ p15_ p16_ cRT cR, pt_rea_CV hG p0_ p1_ p2_ p3_ p4_ p5_ p6_ p7_ p8_ p9_ p10_ p11_ p12_ p13_ p14_ p15_ p16_ cCV cR, pt_rea_L5 hG p0_ p1_ p2_ p3_ p4_ p5_ p6_ p7_ p8_ p9_ p10_ p11_ p12_ p13_ p14_ p15_ p16_ cL5 cR, pt_rea_L5o hG p0_ p1_ p2_ p3_ p4_ p5_ p6_ p7_ p8_ p9_ p10_ p11_ p12_ p13_ p14_ p15_ p16_ cL5o cR cL1, pt_rea_L5u hG p0_ p1_ p2_ p3_ p4_ p5_ p6_ p7_ p8_ p9_ p10_ p11_ p12_ p13_ p14_ p15_ p16_ cL5u cR cL5, pt_rea_L6 hG p0_ p1_ p2_ p3_ p4_ p5_ p6_ p7_ p8_ p9_ p10_ p11_ p12_ p13_ p14_ p15_ p16_ cL6 cR, pt_rea_L6u hG p0_ p1_ p2_ p3_ p4_ p5_ p6_ p7_ p8_ p9_ p10_ p11_ p12_ p13_ p14_ p15_ p16_ cL6u cR⟩

set_option maxHeartbeats 1000000 in
theorem pt_reb_R {W : Int → Prop} {sd : Int → Int} {op : Int → Int} {ed : Int → Int} {st : Int → Int} {lv : Int → Int} {nm : Int → Int} {inw : Int → Int} {tst : Int → Int} {exp : Int → Int} {om : Int → Int} {ps : Int → Int} {dl : Int → Int} {pd : Int → Int} {rp : Int → Int} {cl : Int → Int} {nL : Int} {kd : Int → Int} {wy : Int → Int} {wh : Int → Int} {b : Int} (hG : pj_G W sd op ed) (p0_ : W b) (p1_ : st (sd b) = 1) (p2_ : tst (sd b) = -1) (p3_ : exp (sd b) = 0) (p4_ : ∀ v, W v → sd v = (sd b) → pd v = 0) (p5_ : inw (sd b) = (ed b)) (p6_ : om (sd b) = (ed b)) (p7_ : ps (sd b) = 0) (p8_ : dl (sd b) = lv (sd b)) (p9_ : 1 ≤ lv (sd b)) (p10_ : nm (sd b) = (ed b)) (p11_ : om (sd (op b)) = (ed b)) (p12_ : rp b = 0) (p13_ : cl (ed b) = lv (sd b)) (p14_ : pd (op b) = 0) (p15_ : (lv (sd (op b)) = lv (sd b) ∧ nm (sd (op b)) = (ed b) ∧ ps (sd (op b)) = 0 ∧ dl (sd (op b)) = lv (sd (op b))) ∨ (lv (sd (op b)) < lv (sd b) ∧ dl (sd (op b)) = lv (sd b))) (p16_ : 0 ≤ nL) (cR : pj_R W nL kd wy wh) : pj_R W (nL + 1) (pu kd nL 5) (pu wy nL b) (pu wh nL 0) := by
  obtain ⟨hop, hed⟩ := hG
  unfold pj_R at *
  intro k0
  simp only [pu]
  have g0 := hop b
  have g1 := hop (wy k0)
  have g2 := hed b (wy k0)
  have cR_0 := cR k0
  have f0 := p4_ b
  have f1 := p4_ (wy k0)
  have f2 := p4_ (op (wy k0))
  clear p4_
  clear hop hed cR
  grind (splits := 24)

set_option maxHeartbeats 1000000 in
theorem pt_reb_N0 {W : Int → Prop} {sd : Int → Int} {op : Int → Int} {ed : Int → Int} {st : Int → Int} {lv : Int → Int} {nm : Int → Int} {inw : Int → Int} {tst : Int → Int} {exp : Int → Int} {om : Int → Int} {ps : Int → Int} {dl : Int → Int} {af : Int → Int} {pd : Int → Int} {rp : Int → Int} {cl : Int → Int} {nL : Int} {b : Int} (hG : pj_G W sd op ed) (p0_ : W b) (p1_ : st (sd b) = 1) (p2_ : tst (sd b) = -1) (p3_ : exp (sd b) = 0) (p4_ : ∀ v, W v → sd v = (sd b) → pd v = 0) (p5_ : inw (sd b) = (ed b)) (p6_ : om (sd b) = (ed b)) (p7_ : ps (sd b) = 0) (p8_ : dl (sd b) = lv (sd b)) (p9_ : 1 ≤ lv (sd b)) (p10_ : nm (sd b) = (ed b)) (p11_ : om (sd (op b)) = (ed b)) (p12_ : rp b = 0) (p13_ : cl (ed b) = lv (sd b)) (p14_ : pd (op b) = 0) (p15_ : (lv (sd (op b)) = lv (sd b) ∧ nm (sd (op b)) = (ed b) ∧ ps (sd (op b)) = 0 ∧ dl (sd (op b)) = lv (sd (op b))) ∨ (lv (sd (op b)) < lv (sd b) ∧ dl (sd (op b)) = lv (sd b))) (p16_ : 0 ≤ nL) (cN0 : pj_N0 st lv ps dl af) : pj_N0 (pu st (sd b) 2) lv ps dl af := by
  obtain ⟨hop, hed⟩ := hG
  unfold pj_N0 at *
  intro n0
  simp only [pu]
  have g0 := hop b
  have cN0_0 := cN0 (sd (op b))
  have cN0_1 := cN0 n0
  have cN0_2 := cN0 (sd b)
  have f0 := p4_ b
  clear p4_
  clear hop hed cN0
  grind (splits := 24)

set_option maxHeartbeats 1000000 in
theorem pt_reb_N1 {W : Int → Prop} {sd : Int → Int} {op : Int → Int} {ed : Int → Int} {st : Int → Int} {lv : Int → Int} {nm : Int → Int} {inw : Int → Int} {tst : Int → Int} {exp : Int → Int} {om : Int → Int} {ps : Int → Int} {dl : Int → Int} {pd : Int → Int} {rp : Int → Int} {cl : Int → Int} {nL : Int} {b : Int} (hG : pj_G W sd op ed) (p0_ : W b) (p1_ : st (sd b) = 1) (p2_ : tst (sd b) = -1) (p3_ : exp (sd b) = 0) (p4_ : ∀ v, W v → sd v = (sd b) → pd v = 0) (p5_ : inw (sd b) = (ed b)) (p6_ : om (sd b) = (ed b)) (p7_ : ps (sd b) = 0) (p8_ : dl (sd b) = lv (sd b)) (p9_ : 1 ≤ lv (sd b)) (p10_ : nm (sd b) = (ed b)) (p11_ : om (sd (op b)) = (ed b)) (p12_ : rp b = 0) (p13_ : cl (ed b) = lv (sd b)) (p14_ : pd (op b) = 0) (p15_ : (lv (sd (op b)) = lv (sd b) ∧ nm (sd (op b)) = (ed b) ∧ ps (sd (op b)) = 0 ∧ dl (sd (op b)) = lv (sd (op b))) ∨ (lv (sd (op b)) < lv (sd b) ∧ dl (sd (op b)) = lv (sd b))) (p16_ : 0 ≤ nL) (cN1 : pj_N1 st lv om ps dl) : pj_N1 (pu st (sd b) 2) lv om ps dl := by
  obtain ⟨hop, hed⟩ := hG
  unfold pj_N1 at *
  intro n0
  simp only [pu]
  have g0 := hop b
  have cN1_0 := cN1 (sd (op b))
  have cN1_1 := cN1 n0
  have cN1_2 := cN1 (sd b)
  have f0 := p4_ b
  clear p4_
  clear hop hed cN1
  grind (splits := 24)

set_option maxHeartbeats 1000000 in
theorem pt_reb_N1w {W : Int → Prop} {sd : Int → Int} {op : Int → Int} {ed : Int → Int} {st : Int → Int} {lv : Int → Int} {nm : Int → Int} {inw : Int → Int} {tst : Int → Int} {exp : Int → Int} {om : Int → Int} {ps : Int → Int} {dl : Int → Int} {en : Int → Int} {pd : Int → Int} {rp : Int → Int} {cl : Int → Int} {nL : Int} {b : Int} (hG : pj_G W sd op ed) (p0_ : W b) (p1_ : st (sd b) = 1) (p2_ : tst (sd b) = -1) (p3_ : exp (sd b) = 0) (p4_ : ∀ v, W v → sd v = (sd b) → pd v = 0) (p5_ : inw (sd b) = (ed b)) (p6_ : om (sd b) = (ed b)) (p7_ : ps (sd b) = 0) (p8_ : dl (sd b) = lv (sd b)) (p9_ : 1 ≤ lv (sd b)) (p10_ : nm (sd b) = (ed b)) (p11_ : om (sd (op b)) = (ed b)) (p12_ : rp b = 0) (p13_ : cl (ed b) = lv (sd b)) (p14_ : pd (op b) = 0) (p15_ : (lv (sd (op b)) = lv (sd b) ∧ nm (sd (op b)) = (ed b) ∧ ps (sd (op b)) = 0 ∧ dl (sd (op b)) = lv (sd (op b))) ∨ (lv (sd (op b)) < lv (sd b) ∧ dl (sd (op b)) = lv (sd b))) (p16_ : 0 ≤ nL) (cN1w : pj_N1w W sd st en) : pj_N1w W sd (pu st (sd b) 2) en := by
  obtain ⟨hop, hed⟩ := hG
  unfold pj_N1w at *
  intro w0
  simp only [pu]
  have g0 := hop b
  have g1 := hop w0
  have g2 := hed b w0
  have cN1w_0 := cN1w b
  have cN1w_1 := cN1w w0
  have cN1w_2 := cN1w (op w0)
  have f0 := p4_ b
  have f1 := p4_ w0
  have f2 := p4_ (op w0)
  clear p4_
  clear hop hed cN1w
  grind (splits := 24)

set_option maxHeartbeats 1000000 in
theorem pt_reb_N1c {W : Int → Prop} {sd : Int → Int} {op : Int → Int} {ed : Int → Int} {st : Int → Int} {lv : Int → Int} {nm : Int → Int} {inw : Int → Int} {tst : Int → Int} {exp : Int → Int} {om : Int → Int} {ps : Int → Int} {dl : Int → Int} {pd : Int → Int} {rp : Int → Int} {cl : Int → Int} {nL : Int} {kd : Int → Int} {wy : Int → Int} {wh : Int → Int} {b : Int} (hG : pj_G W sd op ed) (p0_ : W b) (p1_ : st (sd b) = 1) (p2_ : tst (sd b) = -1) (p3_ : exp (sd b) = 0) (p4_ : ∀ v, W v → sd v = (sd b) → pd v = 0) (p5_ : inw (sd b) = (ed b)) (p6_ : om (sd b) = (ed b)) (p7_ : ps (sd b) = 0) (p8_ : dl (sd b) = lv (sd b)) (p9_ : 1 ≤ lv (sd b)) (p10_ : nm (sd b) = (ed b)) (p11_ : om (sd (op b)) = (ed b)) (p12_ : rp b = 0) (p13_ : cl (ed b) = lv (sd b)) (p14_ : pd (op b) = 0) (p15_ : (lv (sd (op b)) = lv (sd b) ∧ nm (sd (op b)) = (ed b) ∧ ps (sd (op b)) = 0 ∧ dl (sd (op b)) = lv (sd (op b))) ∨ (lv (sd (op b)) < lv (sd b) ∧ dl (sd (op b)) = lv (sd b))) (p16_ : 0 ≤ nL) (cN1c : pj_N1c sd op st nL wy wh) (cR : pj_R W nL kd wy wh) : pj_N1c sd op (pu st (sd b) 2) (nL + 1) (pu wy nL b) (pu wh nL 0) := by
  obtain ⟨hop, hed⟩ := hG
  unfold pj_N1c pj_R at *
  intro k0
  simp only [pu]
  have g0 := hop b
  have g1 := hop (wy k0)
  have g2 := hed b (wy k0)
  have cN1c_0 := cN1c k0
  have cR_0 := cR k0
  have f0 := p4_ b
  have f1 := p4_ (wy k0)
  have f2 := p4_ (op (wy k0))
  clear p4_
  clear hop hed cN1c cR
  grind (splits := 24)

set_option maxHeartbeats 1000000 in
theorem pt_reb_N2b {W : Int → Prop} {sd : Int → Int} {op : Int → Int} {ed : Int → Int} {st : Int → Int} {lv : Int → Int} {nm : Int → Int} {inw : Int → Int} {tst : Int → Int} {exp : Int → Int} {om : Int → Int} {ps : Int → Int} {dl : Int → Int} {pd : Int → Int} {rp : Int → Int} {cl : Int → Int} {nL : Int} {b : Int} (hG : pj_G W sd op ed) (p0_ : W b) (p1_ : st (sd b) = 1) (p2_ : tst (sd b) = -1) (p3_ : exp (sd b) = 0) (p4_ : ∀ v, W v → sd v = (sd b) → pd v = 0) (p5_ : inw (sd b) = (ed b)) (p6_ : om (sd b) = (ed b)) (p7_ : ps (sd b) = 0) (p8_ : dl (sd b) = lv (sd b)) (p9_ : 1 ≤ lv (sd b)) (p10_ : nm (sd b) = (ed b)) (p11_ : om (sd (op b)) = (ed b)) (p12_ : rp b = 0) (p13_ : cl (ed b) = lv (sd b)) (p14_ : pd (op b) = 0) (p15_ : (lv (sd (op b)) = lv (sd b) ∧ nm (sd (op b)) = (ed b) ∧ ps (sd (op b)) = 0 ∧ dl (sd (op b)) = lv (sd (op b))) ∨ (lv (sd (op b)) < lv (sd b) ∧ dl (sd (op b)) = lv (sd b))) (p16_ : 0 ≤ nL) (cN2b : pj_N2b W sd st om) : pj_N2b W sd (pu st (sd b) 2) om := by
  obtain ⟨hop, hed⟩ := hG
  unfold pj_N2b at *
  intro w0
  simp only [pu]
  have g0 := hop b
  have g1 := hop w0
  have g2 := hed b w0
  have cN2b_0 := cN2b b
  have cN2b_1 := cN2b w0
  have cN2b_2 := cN2b (op w0)
  have f0 := p4_ b
  have f1 := p4_ w0
  have f2 := p4_ (op w0)
  clear p4_
  clear hop hed cN2b
  grind (splits := 24)

set_option maxHeartbeats 1000000 in
theorem pt_reb_N4b {W : Int → Prop} {sd : Int → Int} {op : Int → Int} {ed : Int → Int} {st : Int → Int} {lv : Int → Int} {nm : Int → Int} {inw : Int → Int} {tow : Int → Int} {bst : Int → Int} {tst : Int → Int} {exp : Int → Int} {om : Int → Int} {ps : Int → Int} {dl : Int → Int} {pd : Int → Int} {rp : Int → Int} {cl : Int → Int} {nL : Int} {b : Int} (hG : pj_G W sd op ed) (p0_ : W b) (p1_ : st (sd b) = 1) (p2_ : tst (sd b) = -1) (p3_ : exp (sd b) = 0) (p4_ : ∀ v, W v → sd v = (sd b) → pd v = 0) (p5_ : inw (sd b) = (ed b)) (p6_ : om (sd b) = (ed b)) (p7_ : ps (sd b) = 0) (p8_ : dl (sd b) = lv (sd b)) (p9_ : 1 ≤ lv (sd b)) (p10_ : nm (sd b) = (ed b)) (p11_ : om (sd (op b)) = (ed b)) (p12_ : rp b = 0) (p13_ : cl (ed b) = lv (sd b)) (p14_ : pd (op b) = 0) (p15_ : (lv (sd (op b)) = lv (sd b) ∧ nm (sd (op b)) = (ed b) ∧ ps (sd (op b)) = 0 ∧ dl (sd (op b)) = lv (sd (op b))) ∨ (lv (sd (op b)) < lv (sd b) ∧ dl (sd (op b)) = lv (sd b))) (p16_ : 0 ≤ nL) (cN4b : pj_N4b st lv nm inw tow bst om ps) : pj_N4b (pu st (sd b) 2) lv nm inw tow bst om ps := by
  obtain ⟨hop, hed⟩ := hG
  unfold pj_N4b at *
  intro n0
  simp only [pu]
  have g0 := hop b
  have cN4b_0 := cN4b (sd (op b))
  have cN4b_1 := cN4b n0
  have cN4b_2 := cN4b (sd b)
  have f0 := p4_ b
  clear p4_
  clear hop hed cN4b
  grind (splits := 24)

set_option maxHeartbeats 1000000 in
theorem pt_reb_N7 {W : Int → Prop} {sd : Int → Int} {op : Int → Int} {ed : Int → Int} {st : Int → Int} {lv : Int → Int} {nm : Int → Int} {inw : Int → Int} {tst : Int → Int} {exp : Int → Int} {om : Int → Int} {ps : Int → Int} {dl : Int → Int} {pd : Int → Int} {rp : Int → Int} {cl : Int → Int} {nL : Int} {b : Int} (hG : pj_G W sd op ed) (p0_ : W b) (p1_ : st (sd b) = 1) (p2_ : tst (sd b) = -1) (p3_ : exp (sd b) = 0) (p4_ : ∀ v, W v → sd v = (sd b) → pd v = 0) (p5_ : inw (sd b) = (ed b)) (p6_ : om (sd b) = (ed b)) (p7_ : ps (sd b) = 0) (p8_ : dl (sd b) = lv (sd b)) (p9_ : 1 ≤ lv (sd b)) (p10_ : nm (sd b) = (ed b)) (p11_ : om (sd (op b)) = (ed b)) (p12_ : rp b = 0) (p13_ : cl (ed b) = lv (sd b)) (p14_ : pd (op b) = 0) (p15_ : (lv (sd (op b)) = lv (sd b) ∧ nm (sd (op b)) = (ed b) ∧ ps (sd (op b)) = 0 ∧ dl (sd (op b)) = lv (sd (op b))) ∨ (lv (sd (op b)) < lv (sd b) ∧ dl (sd (op b)) = lv (sd b))) (p16_ : 0 ≤ nL) (cN7 : pj_N7 st tst exp) : pj_N7 (pu st (sd b) 2) tst exp := by
  obtain ⟨hop, hed⟩ := hG
  unfold pj_N7 at *
  intro n0
  simp only [pu]
  have g0 := hop b
  have cN7_0 := cN7 (sd (op b))
  have cN7_1 := cN7 n0
  have cN7_2 := cN7 (sd b)
  have f0 := p4_ b
  clear p4_
  clear hop hed cN7
  grind (splits := 24)

set_option maxHeartbeats 1000000 in
theorem pt_reb_R3a {W : Int → Prop} {sd : Int → Int} {op : Int → Int} {ed : Int → Int} {st : Int → Int} {lv : Int → Int} {nm : Int → Int} {inw : Int → Int} {tst : Int → Int} {exp : Int → Int} {om : Int → Int} {ps : Int → Int} {dl : Int → Int} {pd : Int → Int} {rp : Int → Int} {cl : Int → Int} {nL : Int} {b : Int} (hG : pj_G W sd op ed) (p0_ : W b) (p1_ : st (sd b) = 1) (p2_ : tst (sd b) = -1) (p3_ : exp (sd b) = 0) (p4_ : ∀ v, W v → sd v = (sd b) → pd v = 0) (p5_ : inw (sd b) = (ed b)) (p6_ : om (sd b) = (ed b)) (p7_ : ps (sd b) = 0) (p8_ : dl (sd b) = lv (sd b)) (p9_ : 1 ≤ lv (sd b)) (p10_ : nm (sd b) = (ed b)) (p11_ : om (sd (op b)) = (ed b)) (p12_ : rp b = 0) (p13_ : cl (ed b) = lv (sd b)) (p14_ : pd (op b) = 0) (p15_ : (lv (sd (op b)) = lv (sd b) ∧ nm (sd (op b)) = (ed b) ∧ ps (sd (op b)) = 0 ∧ dl (sd (op b)) = lv (sd (op b))) ∨ (lv (sd (op b)) < lv (sd b) ∧ dl (sd (op b)) = lv (sd b))) (p16_ : 0 ≤ nL) (cR3a : pj_R3a st lv dl) : pj_R3a (pu st (sd b) 2) lv dl := by
  obtain ⟨hop, hed⟩ := hG
  unfold pj_R3a at *
  intro n0
  simp only [pu]
  have g0 := hop b
  have cR3a_0 := cR3a (sd (op b))
  have cR3a_1 := cR3a n0
  have cR3a_2 := cR3a (sd b)
  have f0 := p4_ b
  clear p4_
  clear hop hed cR3a
  grind (splits := 24)

set_option maxHeartbeats 1000000 in
theorem pt_reb_E1 {W : Int → Prop} {sd : Int → Int} {op : Int → Int} {ed : Int → Int} {st : Int → Int} {lv : Int → Int} {nm : Int → Int} {inw : Int → Int} {tst : Int → Int} {exp : Int → Int} {om : Int → Int} {ps : Int → Int} {dl : Int → Int} {pd : Int → Int} {rp : Int → Int} {cl : Int → Int} {nL : Int} {kd : Int → Int} {wy : Int → Int} {ll : Int → Int} {wh : Int → Int} {b : Int} (hG : pj_G W sd op ed) (p0_ : W b) (p1_ : st (sd b) = 1) (p2_ : tst (sd b) = -1) (p3_ : exp (sd b) = 0) (p4_ : ∀ v, W v → sd v = (sd b) → pd v = 0) (p5_ : inw (sd b) = (ed b)) (p6_ : om (sd b) = (ed b)) (p7_ : ps (sd b) = 0) (p8_ : dl (sd b) = lv (sd b)) (p9_ : 1 ≤ lv (sd b)) (p10_ : nm (sd b) = (ed b)) (p11_ : om (sd (op b)) = (ed b)) (p12_ : rp b = 0) (p13_ : cl (ed b) = lv (sd b)) (p14_ : pd (op b) = 0) (p15_ : (lv (sd (op b)) = lv (sd b) ∧ nm (sd (op b)) = (ed b) ∧ ps (sd (op b)) = 0 ∧ dl (sd (op b)) = lv (sd (op b))) ∨ (lv (sd (op b)) < lv (sd b) ∧ dl (sd (op b)) = lv (sd b))) (p16_ : 0 ≤ nL) (cE1 : pj_E1 sd op lv dl nL kd wy ll wh) : pj_E1 sd op lv dl (nL + 1) (pu kd nL 5) (pu wy nL b) (pu ll nL (-1)) (pu wh nL 0) := by
  obtain ⟨hop, hed⟩ := hG
  unfold pj_E1 at *
  intro n0
  simp only [pu]
  have g0 := hop b
  have cE1_0 := cE1 (sd (op b))
  have cE1_1 := cE1 n0
  have cE1_2 := cE1 (sd b)
  have f0 := p4_ b
  clear p4_
  clear hop hed cE1
  grind (splits := 24)

set_option maxHeartbeats 1000000 in
theorem pt_reb_A2 {W : Int → Prop} {sd : Int → Int} {op : Int → Int} {ed : Int → Int} {st : Int → Int} {lv : Int → Int} {nm : Int → Int} {inw : Int → Int} {tst : Int → Int} {exp : Int → Int} {om : Int → Int} {ps : Int → Int} {dl : Int → Int} {dn : Int → Int} {pd : Int → Int} {rp : Int → Int} {cl : Int → Int} {nL : Int} {b : Int} (hG : pj_G W sd op ed) (p0_ : W b) (p1_ : st (sd b) = 1) (p2_ : tst (sd b) = -1) (p3_ : exp (sd b) = 0) (p4_ : ∀ v, W v → sd v = (sd b) → pd v = 0) (p5_ : inw (sd b) = (ed b)) (p6_ : om (sd b) = (ed b)) (p7_ : ps (sd b) = 0) (p8_ : dl (sd b) = lv (sd b)) (p9_ : 1 ≤ lv (sd b)) (p10_ : nm (sd b) = (ed b)) (p11_ : om (sd (op b)) = (ed b)) (p12_ : rp b = 0) (p13_ : cl (ed b) = lv (sd b)) (p14_ : pd (op b) = 0) (p15_ : (lv (sd (op b)) = lv (sd b) ∧ nm (sd (op b)) = (ed b) ∧ ps (sd (op b)) = 0 ∧ dl (sd (op b)) = lv (sd (op b))) ∨ (lv (sd (op b)) < lv (sd b) ∧ dl (sd (op b)) = lv (sd b))) (p16_ : 0 ≤ nL) (cA2 : pj_A2 W sd op ed st lv nm om ps dl dn cl) : pj_A2 W sd op ed (pu st (sd b) 2) lv nm om ps dl dn cl := by
  obtain ⟨hop, hed⟩ := hG
  unfold pj_A2 at *
  intro w0
  simp only [pu]
  have g0 := hop b
  have g1 := hop w0
  have g2 := hed b w0
  have cA2_0 := cA2 b
  have cA2_1 := cA2 w0
  have cA2_2 := cA2 (op w0)
  have f0 := p4_ b
  have f1 := p4_ w0
  have f2 := p4_ (op w0)
  clear p4_
  clear hop hed cA2
  grind (splits := 24)

set_option maxHeartbeats 1000000 in
theorem pt_reb_EC {W : Int → Prop} {sd : Int → Int} {op : Int → Int} {ed : Int → Int} {st : Int → Int} {lv : Int → Int} {nm : Int → Int} {inw : Int → Int} {tst : Int → Int} {exp : Int → Int} {om : Int → Int} {ps : Int → Int} {dl : Int → Int} {pd : Int → Int} {rp : Int → Int} {cl : Int → Int} {nL : Int} {kd : Int → Int} {wy : Int → Int} {wh : Int → Int} {F : Int → Prop} {b : Int} (hG : pj_G W sd op ed) (p0_ : W b) (p1_ : st (sd b) = 1) (p2_ : tst (sd b) = -1) (p3_ : exp (sd b) = 0) (p4_ : ∀ v, W v → sd v = (sd b) → pd v = 0) (p5_ : inw (sd b) = (ed b)) (p6_ : om (sd b) = (ed b)) (p7_ : ps (sd b) = 0) (p8_ : dl (sd b) = lv (sd b)) (p9_ : 1 ≤ lv (sd b)) (p10_ : nm (sd b) = (ed b)) (p11_ : om (sd (op b)) = (ed b)) (p12_ : rp b = 0) (p13_ : cl (ed b) = lv (sd b)) (p14_ : pd (op b) = 0) (p15_ : (lv (sd (op b)) = lv (sd b) ∧ nm (sd (op b)) = (ed b) ∧ ps (sd (op b)) = 0 ∧ dl (sd (op b)) = lv (sd (op b))) ∨ (lv (sd (op b)) < lv (sd b) ∧ dl (sd (op b)) = lv (sd b))) (p16_ : 0 ≤ nL) (cEC : pj_EC W sd op ed lv nm om ps dl nL kd wy wh F) : pj_EC W sd op ed lv nm om ps dl (nL + 1) (pu kd nL 5) (pu wy nL b) (pu wh nL 0) F := by
  obtain ⟨hop, hed⟩ := hG
  unfold pj_EC at *
  intro w0
  simp only [pu]
  have g0 := hop b
  have g1 := hop w0
  have g2 := hed b w0
  have cEC_0 := cEC b
  have cEC_1 := cEC w0
  have cEC_2 := cEC (op w0)
  have f0 := p4_ b
  have f1 := p4_ w0
  have f2 := p4_ (op w0)
  clear p4_
  clear hop hed cEC
  grind (splits := 24)

set_option maxHeartbeats 1000000 in
theorem pt_reb_R3 {W : Int → Prop} {sd : Int → Int} {op : Int → Int} {ed : Int → Int} {st : Int → Int} {lv : Int → Int} {nm : Int → Int} {inw : Int → Int} {tst : Int → Int} {exp : Int → Int} {om : Int → Int} {ps : Int → Int} {dl : Int → Int} {pd : Int → Int} {rp : Int → Int} {cl : Int → Int} {nL : Int} {b : Int} (hG : pj_G W sd op ed) (p0_ : W b) (p1_ : st (sd b) = 1) (p2_ : tst (sd b) = -1) (p3_ : exp (sd b) = 0) (p4_ : ∀ v, W v → sd v = (sd b) → pd v = 0) (p5_ : inw (sd b) = (ed b)) (p6_ : om (sd b) = (ed b)) (p7_ : ps (sd b) = 0) (p8_ : dl (sd b) = lv (sd b)) (p9_ : 1 ≤ lv (sd b)) (p10_ : nm (sd b) = (ed b)) (p11_ : om (sd (op b)) = (ed b)) (p12_ : rp b = 0) (p13_ : cl (ed b) = lv (sd b)) (p14_ : pd (op b) = 0) (p15_ : (lv (sd (op b)) = lv (sd b) ∧ nm (sd (op b)) = (ed b) ∧ ps (sd (op b)) = 0 ∧ dl (sd (op b)) = lv (sd (op b))) ∨ (lv (sd (op b)) < lv (sd b) ∧ dl (sd (op b)) = lv (sd b))) (p16_ : 0 ≤ nL) (cR3 : pj_R3 W sd op ed st om pd) : pj_R3 W sd op ed (pu st (sd b) 2) om pd := by
  obtain ⟨hop, hed⟩ := hG
  unfold pj_R3 at *
  intro w0
  simp only [pu]
  have g0 := hop b
  have g1 := hop w0
  have g2 := hed b w0
  have cR3_0 := cR3 b
  have cR3_1 := cR3 w0
  have cR3_2 := cR3 (op w0)
  have f0 := p4_ b
  have f1 := p4_ w0
  have f2 := p4_ (op w0)
  clear p4_
  clear hop hed cR3
  grind (splits := 24)

set_option maxHeartbeats 1000000 in
theorem pt_reb_N12 {W : Int → Prop} {sd : Int → Int} {op : Int → Int} {ed : Int → Int} {st : Int → Int} {lv : Int → Int} {nm : Int → Int} {inw : Int → Int} {tow : Int → Int} {tst : Int → Int} {exp : Int → Int} {om : Int → Int} {ps : Int → Int} {dl : Int → Int} {en : Int → Int} {pd : Int → Int} {rp : Int → Int} {cl : Int → Int} {nL : Int} {b : Int} (hG : pj_G W sd op ed) (p0_ : W b) (p1_ : st (sd b) = 1) (p2_ : tst (sd b) = -1) (p3_ : exp (sd b) = 0) (p4_ : ∀ v, W v → sd v = (sd b) → pd v = 0) (p5_ : inw (sd b) = (ed b)) (p6_ : om (sd b) = (ed b)) (p7_ : ps (sd b) = 0) (p8_ : dl (sd b) = lv (sd b)) (p9_ : 1 ≤ lv (sd b)) (p10_ : nm (sd b) = (ed b)) (p11_ : om (sd (op b)) = (ed b)) (p12_ : rp b = 0) (p13_ : cl (ed b) = lv (sd b)) (p14_ : pd (op b) = 0) (p15_ : (lv (sd (op b)) = lv (sd b) ∧ nm (sd (op b)) = (ed b) ∧ ps (sd (op b)) = 0 ∧ dl (sd (op b)) = lv (sd (op b))) ∨ (lv (sd (op b)) < lv (sd b) ∧ dl (sd (op b)) = lv (sd b))) (p16_ : 0 ≤ nL) (cN12 : pj_N12 W sd op ed st lv nm inw tow om ps dl en) : pj_N12 W sd op ed (pu st (sd b) 2) lv nm inw tow om ps dl en := by
  obtain ⟨hop, hed⟩ := hG
  unfold pj_N12 at *
  intro w0
  simp only [pu]
  have g0 := hop b
  have g1 := hop w0
  have g2 := hed b w0
  have cN12_0 := cN12 b
  have cN12_1 := cN12 w0
  have cN12_2 := cN12 (op w0)
  have f0 := p4_ b
  have f1 := p4_ w0
  have f2 := p4_ (op w0)
  clear p4_
  clear hop hed cN12
  grind (splits := 24)

set_option maxHeartbeats 1000000 in
theorem pt_reb_PD {W : Int → Prop} {sd : Int → Int} {op : Int → Int} {ed : Int → Int} {st : Int → Int} {lv : Int → Int} {nm : Int → Int} {inw : Int → Int} {tst : Int → Int} {exp : Int → Int} {om : Int → Int} {ps : Int → Int} {dl : Int → Int} {en : Int → Int} {pd : Int → Int} {rp : Int → Int} {cl : Int → Int} {nL : Int} {b : Int} (hG : pj_G W sd op ed) (p0_ : W b) (p1_ : st (sd b) = 1) (p2_ : tst (sd b) = -1) (p3_ : exp (sd b) = 0) (p4_ : ∀ v, W v → sd v = (sd b) → pd v = 0) (p5_ : inw (sd b) = (ed b)) (p6_ : om (sd b) = (ed b)) (p7_ : ps (sd b) = 0) (p8_ : dl (sd b) = lv (sd b)) (p9_ : 1 ≤ lv (sd b)) (p10_ : nm (sd b) = (ed b)) (p11_ : om (sd (op b)) = (ed b)) (p12_ : rp b = 0) (p13_ : cl (ed b) = lv (sd b)) (p14_ : pd (op b) = 0) (p15_ : (lv (sd (op b)) = lv (sd b) ∧ nm (sd (op b)) = (ed b) ∧ ps (sd (op b)) = 0 ∧ dl (sd (op b)) = lv (sd (op b))) ∨ (lv (sd (op b)) < lv (sd b) ∧ dl (sd (op b)) = lv (sd b))) (p16_ : 0 ≤ nL) (cPD : pj_PD W sd op ed st om en pd) : pj_PD W sd op ed (pu st (sd b) 2) om en pd := by
  obtain ⟨hop, hed⟩ := hG
  unfold pj_PD at *
  intro w0
  simp only [pu]
  have g0 := hop b
  have g1 := hop w0
  have g2 := hed b w0
  have cPD_0 := cPD b
  have cPD_1 := cPD w0
  have cPD_2 := cPD (op w0)
  have f0 := p4_ b
  have f1 := p4_ w0
  have f2 := p4_ (op w0)
  clear p4_
  clear hop hed cPD
  grind (splits := 24)

set_option maxHeartbeats 1000000 in
theorem pt_reb_RP {W : Int → Prop} {sd : Int → Int} {op : Int → Int} {ed : Int → Int} {st : Int → Int} {lv : Int → Int} {nm : Int → Int} {inw : Int → Int} {bst : Int → Int} {tst : Int → Int} {exp : Int → Int} {om : Int → Int} {ps : Int → Int} {dl : Int → Int} {pd : Int → Int} {rp : Int → Int} {rv : Int → Int} {cl : Int → Int} {nL : Int} {b : Int} (hG : pj_G W sd op ed) (p0_ : W b) (p1_ : st (sd b) = 1) (p2_ : tst (sd b) = -1) (p3_ : exp (sd b) = 0) (p4_ : ∀ v, W v → sd v = (sd b) → pd v = 0) (p5_ : inw (sd b) = (ed b)) (p6_ : om (sd b) = (ed b)) (p7_ : ps (sd b) = 0) (p8_ : dl (sd b) = lv (sd b)) (p9_ : 1 ≤ lv (sd b)) (p10_ : nm (sd b) = (ed b)) (p11_ : om (sd (op b)) = (ed b)) (p12_ : rp b = 0) (p13_ : cl (ed b) = lv (sd b)) (p14_ : pd (op b) = 0) (p15_ : (lv (sd (op b)) = lv (sd b) ∧ nm (sd (op b)) = (ed b) ∧ ps (sd (op b)) = 0 ∧ dl (sd (op b)) = lv (sd (op b))) ∨ (lv (sd (op b)) < lv (sd b) ∧ dl (sd (op b)) = lv (sd b))) (p16_ : 0 ≤ nL) (cRP : pj_RP W sd ed st lv nm bst rp rv) : pj_RP W sd ed (pu st (sd b) 2) lv nm bst (pu rp b 1) (pu rv b (bst (sd b))) := by
  obtain ⟨hop, hed⟩ := hG
  unfold pj_RP at *
  intro w0
  simp only [pu]
  have g0 := hop b
  have g1 := hop w0
  have g2 := hed b w0
  have cRP_0 := cRP b
  have cRP_1 := cRP w0
  have cRP_2 := cRP (op w0)
  have f0 := p4_ b
  have f1 := p4_ w0
  have f2 := p4_ (op w0)
  clear p4_
  clear hop hed cRP
  grind (splits := 24)

set_option maxHeartbeats 1000000 in
theorem pt_reb_RP1 {W : Int → Prop} {sd : Int → Int} {op : Int → Int} {ed : Int → Int} {st : Int → Int} {lv : Int → Int} {nm : Int → Int} {inw : Int → Int} {tst : Int → Int} {exp : Int → Int} {om : Int → Int} {ps : Int → Int} {dl : Int → Int} {pd : Int → Int} {rp : Int → Int} {cl : Int → Int} {nL : Int} {b : Int} (hG : pj_G W sd op ed) (p0_ : W b) (p1_ : st (sd b) = 1) (p2_ : tst (sd b) = -1) (p3_ : exp (sd b) = 0) (p4_ : ∀ v, W v → sd v = (sd b) → pd v = 0) (p5_ : inw (sd b) = (ed b)) (p6_ : om (sd b) = (ed b)) (p7_ : ps (sd b) = 0) (p8_ : dl (sd b) = lv (sd b)) (p9_ : 1 ≤ lv (sd b)) (p10_ : nm (sd b) = (ed b)) (p11_ : om (sd (op b)) = (ed b)) (p12_ : rp b = 0) (p13_ : cl (ed b) = lv (sd b)) (p14_ : pd (op b) = 0) (p15_ : (lv (sd (op b)) = lv (sd b) ∧ nm (sd (op b)) = (ed b) ∧ ps (sd (op b)) = 0 ∧ dl (sd (op b)) = lv (sd (op b))) ∨ (lv (sd (op b)) < lv (sd b) ∧ dl (sd (op b)) = lv (sd b))) (p16_ : 0 ≤ nL) (cRP1 : pj_RP1 W sd ed lv rp cl) : pj_RP1 W sd ed lv (pu rp b 1) cl := by
  obtain ⟨hop, hed⟩ := hG
  unfold pj_RP1 at *
  intro w0
  simp only [pu]
  have g0 := hop b
  have g1 := hop w0
  have g2 := hed b w0
  have cRP1_0 := cRP1 b
  have cRP1_1 := cRP1 w0
  have cRP1_2 := cRP1 (op w0)
  have f0 := p4_ b
  have f1 := p4_ w0
  have f2 := p4_ (op w0)
  clear p4_
  clear hop hed cRP1
  grind (splits := 24)

set_option maxHeartbeats 1000000 in
theorem pt_reb_K2 {W : Int → Prop} {sd : Int → Int} {op : Int → Int} {ed : Int → Int} {li : Int → Int → Prop} {st : Int → Int} {lv : Int → Int} {nm : Int → Int} {inw : Int → Int} {bst : Int → Int} {tst : Int → Int} {exp : Int → Int} {om : Int → Int} {ps : Int → Int} {dl : Int → Int} {pd : Int → Int} {rp : Int → Int} {rv : Int → Int} {cl : Int → Int} {tk : Int → Int} {nL : Int} {b : Int} (hG : pj_G W sd op ed) (p0_ : W b) (p1_ : st (sd b) = 1) (p2_ : tst (sd b) = -1) (p3_ : exp (sd b) = 0) (p4_ : ∀ v, W v → sd v = (sd b) → pd v = 0) (p5_ : inw (sd b) = (ed b)) (p6_ : om (sd b) = (ed b)) (p7_ : ps (sd b) = 0) (p8_ : dl (sd b) = lv (sd b)) (p9_ : 1 ≤ lv (sd b)) (p10_ : nm (sd b) = (ed b)) (p11_ : om (sd (op b)) = (ed b)) (p12_ : rp b = 0) (p13_ : cl (ed b) = lv (sd b)) (p14_ : pd (op b) = 0) (p15_ : (lv (sd (op b)) = lv (sd b) ∧ nm (sd (op b)) = (ed b) ∧ ps (sd (op b)) = 0 ∧ dl (sd (op b)) = lv (sd (op b))) ∨ (lv (sd (op b)) < lv (sd b) ∧ dl (sd (op b)) = lv (sd b))) (p16_ : 0 ≤ nL) (cK2 : pj_K2 W op ed li rp rv tk) : pj_K2 W op ed li (pu rp b 1) (pu rv b (bst (sd b))) tk := by
  obtain ⟨hop, hed⟩ := hG
  unfold pj_K2 at *
  intro c0
  simp only [pu]
  have g0 := hop b
  have cK2_0 := cK2 c0
  have f0 := p4_ b
  clear p4_
  clear hop hed cK2
  grind (splits := 24)

set_option maxHeartbeats 1000000 in
theorem pt_reb_WH {W : Int → Prop} {sd : Int → Int} {op : Int → Int} {ed : Int → Int} {st : Int → Int} {lv : Int → Int} {nm : Int → Int} {inw : Int → Int} {tst : Int → Int} {exp : Int → Int} {om : Int → Int} {ps : Int → Int} {dl : Int → Int} {pd : Int → Int} {rp : Int → Int} {cl : Int → Int} {nL : Int} {kd : Int → Int} {wy : Int → Int} {wh : Int → Int} {b : Int} (hG : pj_G W sd op ed) (p0_ : W b) (p1_ : st (sd b) = 1) (p2_ : tst (sd b) = -1) (p3_ : exp (sd b) = 0) (p4_ : ∀ v, W v → sd v = (sd b) → pd v = 0) (p5_ : inw (sd b) = (ed b)) (p6_ : om (sd b) = (ed b)) (p7_ : ps (sd b) = 0) (p8_ : dl (sd b) = lv (sd b)) (p9_ : 1 ≤ lv (sd b)) (p10_ : nm (sd b) = (ed b)) (p11_ : om (sd (op b)) = (ed b)) (p12_ : rp b = 0) (p13_ : cl (ed b) = lv (sd b)) (p14_ : pd (op b) = 0) (p15_ : (lv (sd (op b)) = lv (sd b) ∧ nm (sd (op b)) = (ed b) ∧ ps (sd (op b)) = 0 ∧ dl (sd (op b)) = lv (sd (op b))) ∨ (lv (sd (op b)) < lv (sd b) ∧ dl (sd (op b)) = lv (sd b))) (p16_ : 0 ≤ nL) (cWH : pj_WH nL kd wh) (cR : pj_R W nL kd wy wh) : pj_WH (nL + 1) (pu kd nL 5) (pu wh nL 0) := by
  obtain ⟨hop, hed⟩ := hG
  unfold pj_WH pj_R at *
  intro k0
  simp only [pu]
  have g0 := hop b
  have g1 := hop (wy k0)
  have g2 := hed b (wy k0)
  have cWH_0 := cWH k0
  have cR_0 := cR k0
  have f0 := p4_ b
  have f1 := p4_ (wy k0)
  have f2 := p4_ (op (wy k0))
  clear p4_
  clear hop hed cWH cR
  grind (splits := 24)

set_option maxHeartbeats 1000000 in
theorem pt_reb_FI {W : Int → Prop} {sd : Int → Int} {op : Int → Int} {ed : Int → Int} {st : Int → Int} {lv : Int → Int} {nm : Int → Int} {inw : Int → Int} {tst : Int → Int} {exp : Int → Int} {om : Int → Int} {ps : Int → Int} {dl : Int → Int} {pd : Int → Int} {rp : Int → Int} {cl : Int → Int} {nL : Int} {kd : Int → Int} {wy : Int → Int} {wh : Int → Int} {b : Int} (hG : pj_G W sd op ed) (p0_ : W b) (p1_ : st (sd b) = 1) (p2_ : tst (sd b) = -1) (p3_ : exp (sd b) = 0) (p4_ : ∀ v, W v → sd v = (sd b) → pd v = 0) (p5_ : inw (sd b) = (ed b)) (p6_ : om (sd b) = (ed b)) (p7_ : ps (sd b) = 0) (p8_ : dl (sd b) = lv (sd b)) (p9_ : 1 ≤ lv (sd b)) (p10_ : nm (sd b) = (ed b)) (p11_ : om (sd (op b)) = (ed b)) (p12_ : rp b = 0) (p13_ : cl (ed b) = lv (sd b)) (p14_ : pd (op b) = 0) (p15_ : (lv (sd (op b)) = lv (sd b) ∧ nm (sd (op b)) = (ed b) ∧ ps (sd (op b)) = 0 ∧ dl (sd (op b)) = lv (sd (op b))) ∨ (lv (sd (op b)) < lv (sd b) ∧ dl (sd (op b)) = lv (sd b))) (p16_ : 0 ≤ nL) (cFI : pj_FI nL wy wh) (cR : pj_R W nL kd wy wh) : pj_FI (nL + 1) (pu wy nL b) (pu wh nL 0) := by
  obtain ⟨hop, hed⟩ := hG
  unfold pj_FI pj_R at *
  intro j0 k0
  simp only [pu]
  have g0 := hop b
  have g1 := hop (wy j0)
  have g2 := hop (wy k0)
  have g3 := hed b (wy j0)
  have g4 := hed b (wy k0)
  have g5 := hed (wy j0) (wy k0)
  have cFI_0 := cFI j0 j0
  have cFI_1 := cFI j0 k0
  have cFI_2 := cFI k0 j0
  have cFI_3 := cFI k0 k0
  have cR_0 := cR j0
  have cR_1 := cR k0
  have f0 := p4_ b
  have f1 := p4_ (wy j0)
  have f2 := p4_ (op (wy j0))
  have f3 := p4_ (wy k0)
  have f4 := p4_ (op (wy k0))
  clear p4_
  clear hop hed cFI cR
  grind (splits := 24)

set_option maxHeartbeats 1000000 in
theorem pt_reb_L0 {W : Int → Prop} {sd : Int → Int} {op : Int → Int} {ed : Int → Int} {st : Int → Int} {lv : Int → Int} {nm : Int → Int} {inw : Int → Int} {tst : Int → Int} {exp : Int → Int} {om : Int → Int} {ps : Int → Int} {dl : Int → Int} {c0 : Int → Int} {en : Int → Int} {pd : Int → Int} {rp : Int → Int} {cl : Int → Int} {cw : Int → Int} {nL : Int} {kd : Int → Int} {wy : Int → Int} {ll : Int → Int} {wh : Int → Int} {b : Int} (hG : pj_G W sd op ed) (p0_ : W b) (p1_ : st (sd b) = 1) (p2_ : tst (sd b) = -1) (p3_ : exp (sd b) = 0) (p4_ : ∀ v, W v → sd v = (sd b) → pd v = 0) (p5_ : inw (sd b) = (ed b)) (p6_ : om (sd b) = (ed b)) (p7_ : ps (sd b) = 0) (p8_ : dl (sd b) = lv (sd b)) (p9_ : 1 ≤ lv (sd b)) (p10_ : nm (sd b) = (ed b)) (p11_ : om (sd (op b)) = (ed b)) (p12_ : rp b = 0) (p13_ : cl (ed b) = lv (sd b)) (p14_ : pd (op b) = 0) (p15_ : (lv (sd (op b)) = lv (sd b) ∧ nm (sd (op b)) = (ed b) ∧ ps (sd (op b)) = 0 ∧ dl (sd (op b)) = lv (sd (op b))) ∨ (lv (sd (op b)) < lv (sd b) ∧ dl (sd (op b)) = lv (sd b))) (p16_ : 0 ≤ nL) (cL0 : pj_L0 sd op ed lv nm om ps dl c0 en cw nL kd wy ll wh) (cR : pj_R W nL kd wy wh) : pj_L0 sd op ed lv nm om ps dl c0 en cw (nL + 1) (pu kd nL 5) (pu wy nL b) (pu ll nL (-1)) (pu wh nL 0) := by
  obtain ⟨hop, hed⟩ := hG
  unfold pj_L0 pj_R at *
  intro k0
  simp only [pu]
  have g0 := hop b
  have g1 := hop (wy k0)
  have g2 := hed b (wy k0)
  have cL0_0 := cL0 k0
  have cR_0 := cR k0
  have f0 := p4_ b
  have f1 := p4_ (wy k0)
  have f2 := p4_ (op (wy k0))
  clear p4_
  clear hop hed cL0 cR
  grind (splits := 24)

set_option maxHeartbeats 1000000 in
theorem pt_reb_FC {W : Int → Prop} {sd : Int → Int} {op : Int → Int} {ed : Int → Int} {st : Int → Int} {lv : Int → Int} {nm : Int → Int} {inw : Int → Int} {tst : Int → Int} {exp : Int → Int} {om : Int → Int} {ps : Int → Int} {dl : Int → Int} {pd : Int → Int} {rp : Int → Int} {cl : Int → Int} {nL : Int} {kd : Int → Int} {wy : Int → Int} {wh : Int → Int} {F : Int → Prop} {b : Int} (hG : pj_G W sd op ed) (p0_ : W b) (p1_ : st (sd b) = 1) (p2_ : tst (sd b) = -1) (p3_ : exp (sd b) = 0) (p4_ : ∀ v, W v → sd v = (sd b) → pd v = 0) (p5_ : inw (sd b) = (ed b)) (p6_ : om (sd b) = (ed b)) (p7_ : ps (sd b) = 0) (p8_ : dl (sd b) = lv (sd b)) (p9_ : 1 ≤ lv (sd b)) (p10_ : nm (sd b) = (ed b)) (p11_ : om (sd (op b)) = (ed b)) (p12_ : rp b = 0) (p13_ : cl (ed b) = lv (sd b)) (p14_ : pd (op b) = 0) (p15_ : (lv (sd (op b)) = lv (sd b) ∧ nm (sd (op b)) = (ed b) ∧ ps (sd (op b)) = 0 ∧ dl (sd (op b)) = lv (sd (op b))) ∨ (lv (sd (op b)) < lv (sd b) ∧ dl (sd (op b)) = lv (sd b))) (p16_ : 0 ≤ nL) (cFC : pj_FC op nL kd wy wh F) (cR : pj_R W nL kd wy wh) : pj_FC op (nL + 1) (pu kd nL 5) (pu wy nL b) (pu wh nL 0) F := by
  obtain ⟨hop, hed⟩ := hG
  unfold pj_FC pj_R at *
  intro k0
  simp only [pu]
  have g0 := hop b
  have g1 := hop (wy k0)
  have g2 := hed b (wy k0)
  have cFC_0 := cFC k0
  have cR_0 := cR k0
  have f0 := p4_ b
  have f1 := p4_ (wy k0)
  have f2 := p4_ (op (wy k0))
  clear p4_
  clear hop hed cFC cR
  grind (splits := 24)

set_option maxHeartbeats 1000000 in
theorem pt_reb_L0u {W : Int → Prop} {sd : Int → Int} {op : Int → Int} {ed : Int → Int} {st : Int → Int} {lv : Int → Int} {nm : Int → Int} {inw : Int → Int} {tst : Int → Int} {exp : Int → Int} {om : Int → Int} {ps : Int → Int} {dl : Int → Int} {pd : Int → Int} {rp : Int → Int} {cl : Int → Int} {nL : Int} {kd : Int → Int} {wy : Int → Int} {wh : Int → Int} {b : Int} (hG : pj_G W sd op ed) (p0_ : W b) (p1_ : st (sd b) = 1) (p2_ : tst (sd b) = -1) (p3_ : exp (sd b) = 0) (p4_ : ∀ v, W v → sd v = (sd b) → pd v = 0) (p5_ : inw (sd b) = (ed b)) (p6_ : om (sd b) = (ed b)) (p7_ : ps (sd b) = 0) (p8_ : dl (sd b) = lv (sd b)) (p9_ : 1 ≤ lv (sd b)) (p10_ : nm (sd b) = (ed b)) (p11_ : om (sd (op b)) = (ed b)) (p12_ : rp b = 0) (p13_ : cl (ed b) = lv (sd b)) (p14_ : pd (op b) = 0) (p15_ : (lv (sd (op b)) = lv (sd b) ∧ nm (sd (op b)) = (ed b) ∧ ps (sd (op b)) = 0 ∧ dl (sd (op b)) = lv (sd (op b))) ∨ (lv (sd (op b)) < lv (sd b) ∧ dl (sd (op b)) = lv (sd b))) (p16_ : 0 ≤ nL) (cL0u : pj_L0u nL kd wy wh) (cR : pj_R W nL kd wy wh) : pj_L0u (nL + 1) (pu kd nL 5) (pu wy nL b) (pu wh nL 0) := by
  obtain ⟨hop, hed⟩ := hG
  unfold pj_L0u pj_R at *
  intro j0 k0
  simp only [pu]
  have g0 := hop b
  have g1 := hop (wy j0)
  have g2 := hop (wy k0)
  have g3 := hed b (wy j0)
  have g4 := hed b (wy k0)
  have g5 := hed (wy j0) (wy k0)
  have cL0u_0 := cL0u j0 j0
  have cL0u_1 := cL0u j0 k0
  have cL0u_2 := cL0u k0 j0
  have cL0u_3 := cL0u k0 k0
  have cR_0 := cR j0
  have cR_1 := cR k0
  have f0 := p4_ b
  have f1 := p4_ (wy j0)
  have f2 := p4_ (op (wy j0))
  have f3 := p4_ (wy k0)
  have f4 := p4_ (op (wy k0))
  clear p4_
  clear hop hed cL0u cR
  grind (splits := 24)

set_option maxHeartbeats 1000000 in
theorem pt_reb_OC {W : Int → Prop} {sd : Int → Int} {op : Int → Int} {ed : Int → Int} {st : Int → Int} {lv : Int → Int} {nm : Int → Int} {inw : Int → Int} {tst : Int → Int} {exp : Int → Int} {om : Int → Int} {ps : Int → Int} {dl : Int → Int} {pd : Int → Int} {rp : Int → Int} {cl : Int → Int} {nL : Int} {kd : Int → Int} {wy : Int → Int} {wh : Int → Int} {b : Int} (hG : pj_G W sd op ed) (p0_ : W b) (p1_ : st (sd b) = 1) (p2_ : tst (sd b) = -1) (p3_ : exp (sd b) = 0) (p4_ : ∀ v, W v → sd v = (sd b) → pd v = 0) (p5_ : inw (sd b) = (ed b)) (p6_ : om (sd b) = (ed b)) (p7_ : ps (sd b) = 0) (p8_ : dl (sd b) = lv (sd b)) (p9_ : 1 ≤ lv (sd b)) (p10_ : nm (sd b) = (ed b)) (p11_ : om (sd (op b)) = (ed b)) (p12_ : rp b = 0) (p13_ : cl (ed b) = lv (sd b)) (p14_ : pd (op b) = 0) (p15_ : (lv (sd (op b)) = lv (sd b) ∧ nm (sd (op b)) = (ed b) ∧ ps (sd (op b)) = 0 ∧ dl (sd (op b)) = lv (sd (op b))) ∨ (lv (sd (op b)) < lv (sd b) ∧ dl (sd (op b)) = lv (sd b))) (p16_ : 0 ≤ nL) (cOC : pj_OC nL kd wy wh) (cR : pj_R W nL kd wy wh) : pj_OC (nL + 1) (pu kd nL 5) (pu wy nL b) (pu wh nL 0) := by
  obtain ⟨hop, hed⟩ := hG
  unfold pj_OC pj_R at *
  intro j0 k0
  simp only [pu]
  have g0 := hop b
  have g1 := hop (wy j0)
  have g2 := hop (wy k0)
  have g3 := hed b (wy j0)
  have g4 := hed b (wy k0)
  have g5 := hed (wy j0) (wy k0)
  have cOC_0 := cOC j0 j0
  have cOC_1 := cOC j0 k0
  have cOC_2 := cOC k0 j0
  have cOC_3 := cOC k0 k0
  have cR_0 := cR j0
  have cR_1 := cR k0
  have f0 := p4_ b
  have f1 := p4_ (wy j0)
  have f2 := p4_ (op (wy j0))
  have f3 := p4_ (wy k0)
  have f4 := p4_ (op (wy k0))
  clear p4_
  clear hop hed cOC cR
  grind (splits := 24)

set_option maxHeartbeats 1000000 in
theorem pt_reb_CT {W : Int → Prop} {sd : Int → Int} {op : Int → Int} {ed : Int → Int} {st : Int → Int} {lv : Int → Int} {nm : Int → Int} {inw : Int → Int} {tst : Int → Int} {exp : Int → Int} {om : Int → Int} {ps : Int → Int} {dl : Int → Int} {pd : Int → Int} {rp : Int → Int} {cl : Int → Int} {nL : Int} {kd : Int → Int} {wy : Int → Int} {wh : Int → Int} {b : Int} (hG : pj_G W sd op ed) (p0_ : W b) (p1_ : st (sd b) = 1) (p2_ : tst (sd b) = -1) (p3_ : exp (sd b) = 0) (p4_ : ∀ v, W v → sd v = (sd b) → pd v = 0) (p5_ : inw (sd b) = (ed b)) (p6_ : om (sd b) = (ed b)) (p7_ : ps (sd b) = 0) (p8_ : dl (sd b) = lv (sd b)) (p9_ : 1 ≤ lv (sd b)) (p10_ : nm (sd b) = (ed b)) (p11_ : om (sd (op b)) = (ed b)) (p12_ : rp b = 0) (p13_ : cl (ed b) = lv (sd b)) (p14_ : pd (op b) = 0) (p15_ : (lv (sd (op b)) = lv (sd b) ∧ nm (sd (op b)) = (ed b) ∧ ps (sd (op b)) = 0 ∧ dl (sd (op b)) = lv (sd (op b))) ∨ (lv (sd (op b)) < lv (sd b) ∧ dl (sd (op b)) = lv (sd b))) (p16_ : 0 ≤ nL) (cCT : pj_CT nL kd wy wh) (cR : pj_R W nL kd wy wh) : pj_CT (nL + 1) (pu kd nL 5) (pu wy nL b) (pu wh nL 0) := by
  obtain ⟨hop, hed⟩ := hG
  unfold pj_CT pj_R at *
  intro j0 k0
  simp only [pu]
  have g0 := hop b
  have g1 := hop (wy j0)
  have g2 := hop (wy k0)
  have g3 := hed b (wy j0)
  have g4 := hed b (wy k0)
  have g5 := hed (wy j0) (wy k0)
  have cCT_0 := cCT j0 j0
  have cCT_1 := cCT j0 k0
  have cCT_2 := cCT k0 j0
  have cCT_3 := cCT k0 k0
  have cR_0 := cR j0
  have cR_1 := cR k0
  have f0 := p4_ b
  have f1 := p4_ (wy j0)
  have f2 := p4_ (op (wy j0))
  have f3 := p4_ (wy k0)
  have f4 := p4_ (op (wy k0))
  clear p4_
  clear hop hed cCT cR
  grind (splits := 24)

set_option maxHeartbeats 1000000 in
theorem pt_reb_L1 {W : Int → Prop} {sd : Int → Int} {op : Int → Int} {ed : Int → Int} {st : Int → Int} {lv : Int → Int} {nm : Int → Int} {inw : Int → Int} {bst : Int → Int} {tst : Int → Int} {exp : Int → Int} {om : Int → Int} {ps : Int → Int} {dl : Int → Int} {en : Int → Int} {pd : Int → Int} {rp : Int → Int} {cl : Int → Int} {nL : Int} {kd : Int → Int} {wy : Int → Int} {ll : Int → Int} {td : Int → Int} {ls : Int → Int} {wh : Int → Int} {b : Int} (hG : pj_G W sd op ed) (p0_ : W b) (p1_ : st (sd b) = 1) (p2_ : tst (sd b) = -1) (p3_ : exp (sd b) = 0) (p4_ : ∀ v, W v → sd v = (sd b) → pd v = 0) (p5_ : inw (sd b) = (ed b)) (p6_ : om (sd b) = (ed b)) (p7_ : ps (sd b) = 0) (p8_ : dl (sd b) = lv (sd b)) (p9_ : 1 ≤ lv (sd b)) (p10_ : nm (sd b) = (ed b)) (p11_ : om (sd (op b)) = (ed b)) (p12_ : rp b = 0) (p13_ : cl (ed b) = lv (sd b)) (p14_ : pd (op b) = 0) (p15_ : (lv (sd (op b)) = lv (sd b) ∧ nm (sd (op b)) = (ed b) ∧ ps (sd (op b)) = 0 ∧ dl (sd (op b)) = lv (sd (op b))) ∨ (lv (sd (op b)) < lv (sd b) ∧ dl (sd (op b)) = lv (sd b))) (p16_ : 0 ≤ nL) (cL1 : pj_L1 sd op ed st lv om dl en cl nL kd wy ll td ls wh) (cR : pj_R W nL kd wy wh) : pj_L1 sd op ed (pu st (sd b) 2) lv om dl en cl (nL + 1) (pu kd nL 5) (pu wy nL b) (pu ll nL (-1)) (pu td nL (bst (sd b))) (pu ls nL (-1)) (pu wh nL 0) := by
  obtain ⟨hop, hed⟩ := hG
  unfold pj_L1 pj_R at *
  intro k0
  simp only [pu]
  have g0 := hop b
  have g1 := hop (wy k0)
  have g2 := hed b (wy k0)
  have cL1_0 := cL1 k0
  have cR_0 := cR k0
  have f0 := p4_ b
  have f1 := p4_ (wy k0)
  have f2 := p4_ (op (wy k0))
  clear p4_
  clear hop hed cL1 cR
  grind (splits := 24)

set_option maxHeartbeats 1000000 in
theorem pt_reb_L1e {W : Int → Prop} {sd : Int → Int} {op : Int → Int} {ed : Int → Int} {st : Int → Int} {lv : Int → Int} {nm : Int → Int} {inw : Int → Int} {bst : Int → Int} {tst : Int → Int} {exp : Int → Int} {om : Int → Int} {ps : Int → Int} {dl : Int → Int} {dn : Int → Int} {pd : Int → Int} {rp : Int → Int} {cl : Int → Int} {nL : Int} {kd : Int → Int} {wy : Int → Int} {ll : Int → Int} {td : Int → Int} {ls : Int → Int} {wh : Int → Int} {b : Int} (hG : pj_G W sd op ed) (p0_ : W b) (p1_ : st (sd b) = 1) (p2_ : tst (sd b) = -1) (p3_ : exp (sd b) = 0) (p4_ : ∀ v, W v → sd v = (sd b) → pd v = 0) (p5_ : inw (sd b) = (ed b)) (p6_ : om (sd b) = (ed b)) (p7_ : ps (sd b) = 0) (p8_ : dl (sd b) = lv (sd b)) (p9_ : 1 ≤ lv (sd b)) (p10_ : nm (sd b) = (ed b)) (p11_ : om (sd (op b)) = (ed b)) (p12_ : rp b = 0) (p13_ : cl (ed b) = lv (sd b)) (p14_ : pd (op b) = 0) (p15_ : (lv (sd (op b)) = lv (sd b) ∧ nm (sd (op b)) = (ed b) ∧ ps (sd (op b)) = 0 ∧ dl (sd (op b)) = lv (sd (op b))) ∨ (lv (sd (op b)) < lv (sd b) ∧ dl (sd (op b)) = lv (sd b))) (p16_ : 0 ≤ nL) (cL1e : pj_L1e sd op dl dn nL kd wy ll td ls wh) (cR : pj_R W nL kd wy wh) : pj_L1e sd op dl dn (nL + 1) (pu kd nL 5) (pu wy nL b) (pu ll nL (-1)) (pu td nL (bst (sd b))) (pu ls nL (-1)) (pu wh nL 0) := by
  obtain ⟨hop, hed⟩ := hG
  unfold pj_L1e pj_R at *
  intro k0
  simp only [pu]
  have g0 := hop b
  have g1 := hop (wy k0)
  have g2 := hed b (wy k0)
  have cL1e_0 := cL1e k0
  have cR_0 := cR k0
  have f0 := p4_ b
  have f1 := p4_ (wy k0)
  have f2 := p4_ (op (wy k0))
  clear p4_
  clear hop hed cL1e cR
  grind (splits := 24)

set_option maxHeartbeats 1000000 in
theorem pt_reb_L1o {W : Int → Prop} {sd : Int → Int} {op : Int → Int} {ed : Int → Int} {st : Int → Int} {lv : Int → Int} {nm : Int → Int} {inw : Int → Int} {tst : Int → Int} {exp : Int → Int} {om : Int → Int} {ps : Int → Int} {dl : Int → Int} {pd : Int → Int} {rp : Int → Int} {cl : Int → Int} {nL : Int} {kd : Int → Int} {wy : Int → Int} {ll : Int → Int} {wh : Int → Int} {b : Int} (hG : pj_G W sd op ed) (p0_ : W b) (p1_ : st (sd b) = 1) (p2_ : tst (sd b) = -1) (p3_ : exp (sd b) = 0) (p4_ : ∀ v, W v → sd v = (sd b) → pd v = 0) (p5_ : inw (sd b) = (ed b)) (p6_ : om (sd b) = (ed b)) (p7_ : ps (sd b) = 0) (p8_ : dl (sd b) = lv (sd b)) (p9_ : 1 ≤ lv (sd b)) (p10_ : nm (sd b) = (ed b)) (p11_ : om (sd (op b)) = (ed b)) (p12_ : rp b = 0) (p13_ : cl (ed b) = lv (sd b)) (p14_ : pd (op b) = 0) (p15_ : (lv (sd (op b)) = lv (sd b) ∧ nm (sd (op b)) = (ed b) ∧ ps (sd (op b)) = 0 ∧ dl (sd (op b)) = lv (sd (op b))) ∨ (lv (sd (op b)) < lv (sd b) ∧ dl (sd (op b)) = lv (sd b))) (p16_ : 0 ≤ nL) (cL1o : pj_L1o nL kd wy ll wh) (cR : pj_R W nL kd wy wh) : pj_L1o (nL + 1) (pu kd nL 5) (pu wy nL b) (pu ll nL (-1)) (pu wh nL 0) := by
  obtain ⟨hop, hed⟩ := hG
  unfold pj_L1o pj_R at *
  intro j0 k0
  simp only [pu]
  have g0 := hop b
  have g1 := hop (wy j0)
  have g2 := hop (wy k0)
  have g3 := hed b (wy j0)
  have g4 := hed b (wy k0)
  have g5 := hed (wy j0) (wy k0)
  have cL1o_0 := cL1o j0 j0
  have cL1o_1 := cL1o j0 k0
  have cL1o_2 := cL1o k0 j0
  have cL1o_3 := cL1o k0 k0
  have cR_0 := cR j0
  have cR_1 := cR k0
  have f0 := p4_ b
  have f1 := p4_ (wy j0)
  have f2 := p4_ (op (wy j0))
  have f3 := p4_ (wy k0)
  have f4 := p4_ (op (wy k0))
  clear p4_
  clear hop hed cL1o cR
  grind (splits := 24)

set_option maxHeartbeats 1000000 in
theorem pt_reb_L1b {W : Int → Prop} {sd : Int → Int} {op : Int → Int} {ed : Int → Int} {st : Int → Int} {lv : Int → Int} {nm : Int → Int} {inw : Int → Int} {bst : Int → Int} {tst : Int → Int} {exp : Int → Int} {om : Int → Int} {ps : Int → Int} {dl : Int → Int} {pd : Int → Int} {rp : Int → Int} {cl : Int → Int} {nL : Int} {kd : Int → Int} {wy : Int → Int} {td : Int → Int} {ls : Int → Int} {wh : Int → Int} {b : Int} (hG : pj_G W sd op ed) (p0_ : W b) (p1_ : st (sd b) = 1) (p2_ : tst (sd b) = -1) (p3_ : exp (sd b) = 0) (p4_ : ∀ v, W v → sd v = (sd b) → pd v = 0) (p5_ : inw (sd b) = (ed b)) (p6_ : om (sd b) = (ed b)) (p7_ : ps (sd b) = 0) (p8_ : dl (sd b) = lv (sd b)) (p9_ : 1 ≤ lv (sd b)) (p10_ : nm (sd b) = (ed b)) (p11_ : om (sd (op b)) = (ed b)) (p12_ : rp b = 0) (p13_ : cl (ed b) = lv (sd b)) (p14_ : pd (op b) = 0) (p15_ : (lv (sd (op b)) = lv (sd b) ∧ nm (sd (op b)) = (ed b) ∧ ps (sd (op b)) = 0 ∧ dl (sd (op b)) = lv (sd (op b))) ∨ (lv (sd (op b)) < lv (sd b) ∧ dl (sd (op b)) = lv (sd b))) (p16_ : 0 ≤ nL) (cL1b : pj_L1b sd ed st om pd nL kd wy td ls wh) (cR : pj_R W nL kd wy wh) : pj_L1b sd ed (pu st (sd b) 2) om pd (nL + 1) (pu kd nL 5) (pu wy nL b) (pu td nL (bst (sd b))) (pu ls nL (-1)) (pu wh nL 0) := by
  obtain ⟨hop, hed⟩ := hG
  unfold pj_L1b pj_R at *
  intro k0
  simp only [pu]
  have g0 := hop b
  have g1 := hop (wy k0)
  have g2 := hed b (wy k0)
  have cL1b_0 := cL1b k0
  have cR_0 := cR k0
  have f0 := p4_ b
  have f1 := p4_ (wy k0)
  have f2 := p4_ (op (wy k0))
  clear p4_
  clear hop hed cL1b cR
  grind (splits := 24)

set_option maxHeartbeats 1000000 in
theorem pt_reb_L1g {W : Int → Prop} {sd : Int → Int} {op : Int → Int} {ed : Int → Int} {st : Int → Int} {lv : Int → Int} {nm : Int → Int} {inw : Int → Int} {bst : Int → Int} {tst : Int → Int} {exp : Int → Int} {om : Int → Int} {ps : Int → Int} {dl : Int → Int} {pd : Int → Int} {rp : Int → Int} {cl : Int → Int} {nL : Int} {kd : Int → Int} {wy : Int → Int} {td : Int → Int} {ls : Int → Int} {wh : Int → Int} {b : Int} (hG : pj_G W sd op ed) (p0_ : W b) (p1_ : st (sd b) = 1) (p2_ : tst (sd b) = -1) (p3_ : exp (sd b) = 0) (p4_ : ∀ v, W v → sd v = (sd b) → pd v = 0) (p5_ : inw (sd b) = (ed b)) (p6_ : om (sd b) = (ed b)) (p7_ : ps (sd b) = 0) (p8_ : dl (sd b) = lv (sd b)) (p9_ : 1 ≤ lv (sd b)) (p10_ : nm (sd b) = (ed b)) (p11_ : om (sd (op b)) = (ed b)) (p12_ : rp b = 0) (p13_ : cl (ed b) = lv (sd b)) (p14_ : pd (op b) = 0) (p15_ : (lv (sd (op b)) = lv (sd b) ∧ nm (sd (op b)) = (ed b) ∧ ps (sd (op b)) = 0 ∧ dl (sd (op b)) = lv (sd (op b))) ∨ (lv (sd (op b)) < lv (sd b) ∧ dl (sd (op b)) = lv (sd b))) (p16_ : 0 ≤ nL) (cL1g : pj_L1g W sd op ed nL kd wy td ls wh) (cR : pj_R W nL kd wy wh) : pj_L1g W sd op ed (nL + 1) (pu kd nL 5) (pu wy nL b) (pu td nL (bst (sd b))) (pu ls nL (-1)) (pu wh nL 0) := by
  obtain ⟨hop, hed⟩ := hG
  unfold pj_L1g pj_R at *
  intro k0 v0
  simp only [pu]
  have g0 := hop b
  have g1 := hop (wy k0)
  have g2 := hop v0
  have g3 := hed b (wy k0)
  have g4 := hed b v0
  have g5 := hed (wy k0) v0
  have cL1g_0 := cL1g k0 b
  have cL1g_1 := cL1g k0 (wy k0)
  have cL1g_2 := cL1g k0 (op (wy k0))
  have cL1g_3 := cL1g k0 v0
  have cL1g_4 := cL1g k0 (op v0)
  have cR_0 := cR k0
  have f0 := p4_ b
  have f1 := p4_ (wy k0)
  have f2 := p4_ (op (wy k0))
  have f3 := p4_ v0
  have f4 := p4_ (op v0)
  clear p4_
  clear hop hed cL1g cR
  grind (splits := 24)

set_option maxHeartbeats 1000000 in
theorem pt_reb_L2 {W : Int → Prop} {sd : Int → Int} {op : Int → Int} {ed : Int → Int} {st : Int → Int} {lv : Int → Int} {nm : Int → Int} {inw : Int → Int} {bst : Int → Int} {tst : Int → Int} {exp : Int → Int} {om : Int → Int} {ps : Int → Int} {dl : Int → Int} {en : Int → Int} {pd : Int → Int} {rp : Int → Int} {fw : Int → Int} {cl : Int → Int} {nL : Int} {kd : Int → Int} {wy : Int → Int} {ll : Int → Int} {td : Int → Int} {wh : Int → Int} {b : Int} (hG : pj_G W sd op ed) (p0_ : W b) (p1_ : st (sd b) = 1) (p2_ : tst (sd b) = -1) (p3_ : exp (sd b) = 0) (p4_ : ∀ v, W v → sd v = (sd b) → pd v = 0) (p5_ : inw (sd b) = (ed b)) (p6_ : om (sd b) = (ed b)) (p7_ : ps (sd b) = 0) (p8_ : dl (sd b) = lv (sd b)) (p9_ : 1 ≤ lv (sd b)) (p10_ : nm (sd b) = (ed b)) (p11_ : om (sd (op b)) = (ed b)) (p12_ : rp b = 0) (p13_ : cl (ed b) = lv (sd b)) (p14_ : pd (op b) = 0) (p15_ : (lv (sd (op b)) = lv (sd b) ∧ nm (sd (op b)) = (ed b) ∧ ps (sd (op b)) = 0 ∧ dl (sd (op b)) = lv (sd (op b))) ∨ (lv (sd (op b)) < lv (sd b) ∧ dl (sd (op b)) = lv (sd b))) (p16_ : 0 ≤ nL) (cL2 : pj_L2 sd op ed st lv nm tst en fw nL kd wy ll td wh) (cR : pj_R W nL kd wy wh) : pj_L2 sd op ed (pu st (sd b) 2) lv nm tst en fw (nL + 1) (pu kd nL 5) (pu wy nL b) (pu ll nL (-1)) (pu td nL (bst (sd b))) (pu wh nL 0) := by
  obtain ⟨hop, hed⟩ := hG
  unfold pj_L2 pj_R at *
  intro k0
  simp only [pu]
  have g0 := hop b
  have g1 := hop (wy k0)
  have g2 := hed b (wy k0)
  have cL2_0 := cL2 k0
  have cR_0 := cR k0
  have f0 := p4_ b
  have f1 := p4_ (wy k0)
  have f2 := p4_ (op (wy k0))
  clear p4_
  clear hop hed cL2 cR
  grind (splits := 24)

set_option maxHeartbeats 1000000 in
theorem pt_reb_L3 {W : Int → Prop} {sd : Int → Int} {op : Int → Int} {ed : Int → Int} {st : Int → Int} {lv : Int → Int} {nm : Int → Int} {inw : Int → Int} {tst : Int → Int} {exp : Int → Int} {om : Int → Int} {ps : Int → Int} {dl : Int → Int} {en : Int → Int} {pd : Int → Int} {rp : Int → Int} {fw : Int → Int} {cl : Int → Int} {nL : Int} {kd : Int → Int} {wy : Int → Int} {wh : Int → Int} {b : Int} (hG : pj_G W sd op ed) (p0_ : W b) (p1_ : st (sd b) = 1) (p2_ : tst (sd b) = -1) (p3_ : exp (sd b) = 0) (p4_ : ∀ v, W v → sd v = (sd b) → pd v = 0) (p5_ : inw (sd b) = (ed b)) (p6_ : om (sd b) = (ed b)) (p7_ : ps (sd b) = 0) (p8_ : dl (sd b) = lv (sd b)) (p9_ : 1 ≤ lv (sd b)) (p10_ : nm (sd b) = (ed b)) (p11_ : om (sd (op b)) = (ed b)) (p12_ : rp b = 0) (p13_ : cl (ed b) = lv (sd b)) (p14_ : pd (op b) = 0) (p15_ : (lv (sd (op b)) = lv (sd b) ∧ nm (sd (op b)) = (ed b) ∧ ps (sd (op b)) = 0 ∧ dl (sd (op b)) = lv (sd (op b))) ∨ (lv (sd (op b)) < lv (sd b) ∧ dl (sd (op b)) = lv (sd b))) (p16_ : 0 ≤ nL) (cL3 : pj_L3 sd op ed st lv nm tst en fw nL kd wy wh) (cR : pj_R W nL kd wy wh) : pj_L3 sd op ed (pu st (sd b) 2) lv nm tst en fw (nL + 1) (pu kd nL 5) (pu wy nL b) (pu wh nL 0) := by
  obtain ⟨hop, hed⟩ := hG
  unfold pj_L3 pj_R at *
  intro k0
  simp only [pu]
  have g0 := hop b
  have g1 := hop (wy k0)
  have g2 := hed b (wy k0)
  have cL3_0 := cL3 k0
  have cR_0 := cR k0
  have f0 := p4_ b
  have f1 := p4_ (wy k0)
  have f2 := p4_ (op (wy k0))
  clear p4_
  clear hop hed cL3 cR
  grind (splits := 24)

set_option maxHeartbeats 1000000 in
theorem pt_reb_L4 {W : Int → Prop} {sd : Int → Int} {op : Int → Int} {ed : Int → Int} {st : Int → Int} {lv : Int → Int} {nm : Int → Int} {inw : Int → Int} {tst : Int → Int} {exp : Int → Int} {om : Int → Int} {ps : Int → Int} {dl : Int → Int} {en : Int → Int} {pd : Int → Int} {rp : Int → Int} {cl : Int → Int} {nL : Int} {kd : Int → Int} {wy : Int → Int} {wh : Int → Int} {b : Int} (hG : pj_G W sd op ed) (p0_ : W b) (p1_ : st (sd b) = 1) (p2_ : tst (sd b) = -1) (p3_ : exp (sd b) = 0) (p4_ : ∀ v, W v → sd v = (sd b) → pd v = 0) (p5_ : inw (sd b) = (ed b)) (p6_ : om (sd b) = (ed b)) (p7_ : ps (sd b) = 0) (p8_ : dl (sd b) = lv (sd b)) (p9_ : 1 ≤ lv (sd b)) (p10_ : nm (sd b) = (ed b)) (p11_ : om (sd (op b)) = (ed b)) (p12_ : rp b = 0) (p13_ : cl (ed b) = lv (sd b)) (p14_ : pd (op b) = 0) (p15_ : (lv (sd (op b)) = lv (sd b) ∧ nm (sd (op b)) = (ed b) ∧ ps (sd (op b)) = 0 ∧ dl (sd (op b)) = lv (sd (op b))) ∨ (lv (sd (op b)) < lv (sd b) ∧ dl (sd (op b)) = lv (sd b))) (p16_ : 0 ≤ nL) (cL4 : pj_L4 sd op ed st tst en nL kd wy wh) (cR : pj_R W nL kd wy wh) : pj_L4 sd op ed (pu st (sd b) 2) tst en (nL + 1) (pu kd nL 5) (pu wy nL b) (pu wh nL 0) := by
  obtain ⟨hop, hed⟩ := hG
  unfold pj_L4 pj_R at *
  intro k0
  simp only [pu]
  have g0 := hop b
  have g1 := hop (wy k0)
  have g2 := hed b (wy k0)
  have cL4_0 := cL4 k0
  have cR_0 := cR k0
  have f0 := p4_ b
  have f1 := p4_ (wy k0)
  have f2 := p4_ (op (wy k0))
  clear p4_
  clear hop hed cL4 cR
  grind (splits := 24)

set_option maxHeartbeats 1000000 in
theorem pt_reb_AF {W : Int → Prop} {sd : Int → Int} {op : Int → Int} {ed : Int → Int} {st : Int → Int} {lv : Int → Int} {nm : Int → Int} {inw : Int → Int} {tst : Int → Int} {exp : Int → Int} {om : Int → Int} {ps : Int → Int} {dl : Int → Int} {af : Int → Int} {pd : Int → Int} {rp : Int → Int} {cl : Int → Int} {nL : Int} {kd : Int → Int} {wy : Int → Int} {wh : Int → Int} {b : Int} (hG : pj_G W sd op ed) (p0_ : W b) (p1_ : st (sd b) = 1) (p2_ : tst (sd b) = -1) (p3_ : exp (sd b) = 0) (p4_ : ∀ v, W v → sd v = (sd b) → pd v = 0) (p5_ : inw (sd b) = (ed b)) (p6_ : om (sd b) = (ed b)) (p7_ : ps (sd b) = 0) (p8_ : dl (sd b) = lv (sd b)) (p9_ : 1 ≤ lv (sd b)) (p10_ : nm (sd b) = (ed b)) (p11_ : om (sd (op b)) = (ed b)) (p12_ : rp b = 0) (p13_ : cl (ed b) = lv (sd b)) (p14_ : pd (op b) = 0) (p15_ : (lv (sd (op b)) = lv (sd b) ∧ nm (sd (op b)) = (ed b) ∧ ps (sd (op b)) = 0 ∧ dl (sd (op b)) = lv (sd (op b))) ∨ (lv (sd (op b)) < lv (sd b) ∧ dl (sd (op b)) = lv (sd b))) (p16_ : 0 ≤ nL) (cAF : pj_AF W sd op ed tst af nL kd wy wh) : pj_AF W sd op ed tst af (nL + 1) (pu kd nL 5) (pu wy nL b) (pu wh nL 0) := by
  obtain ⟨hop, hed⟩ := hG
  unfold pj_AF at *
  intro v0
  simp only [pu]
  have g0 := hop b
  have g1 := hop v0
  have g2 := hed b v0
  have cAF_0 := cAF b
  have cAF_1 := cAF v0
  have cAF_2 := cAF (op v0)
  have f0 := p4_ b
  have f1 := p4_ v0
  have f2 := p4_ (op v0)
  clear p4_
  clear hop hed cAF
  grind (splits := 24)

set_option maxHeartbeats 1000000 in
theorem pt_reb_RT {W : Int → Prop} {sd : Int → Int} {op : Int → Int} {ed : Int → Int} {st : Int → Int} {lv : Int → Int} {nm : Int → Int} {inw : Int → Int} {tst : Int → Int} {exp : Int → Int} {om : Int → Int} {ps : Int → Int} {dl : Int → Int} {pd : Int → Int} {rp : Int → Int} {cl : Int → Int} {nL : Int} {kd : Int → Int} {wy : Int → Int} {wh : Int → Int} {b : Int} (hG : pj_G W sd op ed) (p0_ : W b) (p1_ : st (sd b) = 1) (p2_ : tst (sd b) = -1) (p3_ : exp (sd b) = 0) (p4_ : ∀ v, W v → sd v = (sd b) → pd v = 0) (p5_ : inw (sd b) = (ed b)) (p6_ : om (sd b) = (ed b)) (p7_ : ps (sd b) = 0) (p8_ : dl (sd b) = lv (sd b)) (p9_ : 1 ≤ lv (sd b)) (p10_ : nm (sd b) = (ed b)) (p11_ : om (sd (op b)) = (ed b)) (p12_ : rp b = 0) (p13_ : cl (ed b) = lv (sd b)) (p14_ : pd (op b) = 0) (p15_ : (lv (sd (op b)) = lv (sd b) ∧ nm (sd (op b)) = (ed b) ∧ ps (sd (op b)) = 0 ∧ dl (sd (op b)) = lv (sd (op b))) ∨ (lv (sd (op b)) < lv (sd b) ∧ dl (sd (op b)) = lv (sd b))) (p16_ : 0 ≤ nL) (cRT : pj_RT sd ed tst nL kd wy wh) (cR : pj_R W nL kd wy wh) : pj_RT sd ed tst (nL + 1) (pu kd nL 5) (pu wy nL b) (pu wh nL 0) := by
  obtain ⟨hop, hed⟩ := hG
  unfold pj_RT pj_R at *
  intro j0 k0
  simp only [pu]
  have g0 := hop b
  have g1 := hop (wy j0)
  have g2 := hop (wy k0)
  have g3 := hed b (wy j0)
  have g4 := hed b (wy k0)
  have g5 := hed (wy j0) (wy k0)
  have cRT_0 := cRT j0 j0
  have cRT_1 := cRT j0 k0
  have cRT_2 := cRT k0 j0
  have cRT_3 := cRT k0 k0
  have cR_0 := cR j0
  have cR_1 := cR k0
  have f0 := p4_ b
  have f1 := p4_ (wy j0)
  have f2 := p4_ (op (wy j0))
  have f3 := p4_ (wy k0)
  have f4 := p4_ (op (wy k0))
  clear p4_
  clear hop hed cRT cR
  grind (splits := 24)

set_option maxHeartbeats 1000000 in
theorem pt_reb_CV {W : Int → Prop} {sd : Int → Int} {op : Int → Int} {ed : Int → Int} {st : Int → Int} {lv : Int → Int} {nm : Int → Int} {inw : Int → Int} {tst : Int → Int} {exp : Int → Int} {om : Int → Int} {ps : Int → Int} {dl : Int → Int} {pd : Int → Int} {rp : Int → Int} {cl : Int → Int} {nL : Int} {kd : Int → Int} {wy : Int → Int} {wh : Int → Int} {b : Int} (hG : pj_G W sd op ed) (p0_ : W b) (p1_ : st (sd b) = 1) (p2_ : tst (sd b) = -1) (p3_ : exp (sd b) = 0) (p4_ : ∀ v, W v → sd v = (sd b) → pd v = 0) (p5_ : inw (sd b) = (ed b)) (p6_ : om (sd b) = (ed b)) (p7_ : ps (sd b) = 0) (p8_ : dl (sd b) = lv (sd b)) (p9_ : 1 ≤ lv (sd b)) (p10_ : nm (sd b) = (ed b)) (p11_ : om (sd (op b)) = (ed b)) (p12_ : rp b = 0) (p13_ : cl (ed b) = lv (sd b)) (p14_ : pd (op b) = 0) (p15_ : (lv (sd (op b)) = lv (sd b) ∧ nm (sd (op b)) = (ed b) ∧ ps (sd (op b)) = 0 ∧ dl (sd (op b)) = lv (sd (op b))) ∨ (lv (sd (op b)) < lv (sd b) ∧ dl (sd (op b)) = lv (sd b))) (p16_ : 0 ≤ nL) (cCV : pj_CV W sd op ed tst nL kd wy wh) (cR : pj_R W nL kd wy wh) : pj_CV W sd op ed tst (nL + 1) (pu kd nL 5) (pu wy nL b) (pu wh nL 0) := by
  obtain ⟨hop, hed⟩ := hG
  unfold pj_CV pj_R at *
  intro v0 j0 k0
  simp only [pu]
  have g0 := hop b
  have g1 := hop v0
  have g2 := hop (wy j0)
  have g3 := hop (wy k0)
  have g4 := hed b v0
  have g5 := hed b (wy j0)
  have g6 := hed b (wy k0)
  have g7 := hed v0 (wy j0)
  have g8 := hed v0 (wy k0)
  have g9 := hed (wy j0) (wy k0)
  have cCV_0 := cCV v0 j0 k0
  have cR_0 := cR j0
  have cR_1 := cR k0
  have f0 := p4_ b
  have f1 := p4_ v0
  have f2 := p4_ (op v0)
  have f3 := p4_ (wy j0)
  have f4 := p4_ (op (wy j0))
  have f5 := p4_ (wy k0)
  have f6 := p4_ (op (wy k0))
  clear p4_
  clear hop hed cCV cR
  grind (splits := 24)

set_option maxHeartbeats 1000000 in
theorem pt_reb_L5 {W : Int → Prop} {sd : Int → Int} {op : Int → Int} {ed : Int → Int} {st : Int → Int} {lv : Int → Int} {nm : Int → Int} {inw : Int → Int} {bst : Int → Int} {tst : Int → Int} {exp : Int → Int} {om : Int → Int} {ps : Int → Int} {dl : Int → Int} {pd : Int → Int} {rp : Int → Int} {rv : Int → Int} {cl : Int → Int} {tk : Int → Int} {nL : Int} {kd : Int → Int} {wy : Int → Int} {td : Int → Int} {wh : Int → Int} {b : Int} (hG : pj_G W sd op ed) (p0_ : W b) (p1_ : st (sd b) = 1) (p2_ : tst (sd b) = -1) (p3_ : exp (sd b) = 0) (p4_ : ∀ v, W v → sd v = (sd b) → pd v = 0) (p5_ : inw (sd b) = (ed b)) (p6_ : om (sd b) = (ed b)) (p7_ : ps (sd b) = 0) (p8_ : dl (sd b) = lv (sd b)) (p9_ : 1 ≤ lv (sd b)) (p10_ : nm (sd b) = (ed b)) (p11_ : om (sd (op b)) = (ed b)) (p12_ : rp b = 0) (p13_ : cl (ed b) = lv (sd b)) (p14_ : pd (op b) = 0) (p15_ : (lv (sd (op b)) = lv (sd b) ∧ nm (sd (op b)) = (ed b) ∧ ps (sd (op b)) = 0 ∧ dl (sd (op b)) = lv (sd (op b))) ∨ (lv (sd (op b)) < lv (sd b) ∧ dl (sd (op b)) = lv (sd b))) (p16_ : 0 ≤ nL) (cL5 : pj_L5 sd op ed st lv nm inw bst om ps dl pd rp rv cl tk nL kd wy td wh) (cR : pj_R W nL kd wy wh) : pj_L5 sd op ed (pu st (sd b) 2) lv nm inw bst om ps dl pd (pu rp b 1) (pu rv b (bst (sd b))) cl tk (nL + 1) (pu kd nL 5) (pu wy nL b) (pu td nL (bst (sd b))) (pu wh nL 0) := by
  obtain ⟨hop, hed⟩ := hG
  unfold pj_L5 pj_R at *
  intro k0
  simp only [pu]
  have g0 := hop b
  have g1 := hop (wy k0)
  have g2 := hed b (wy k0)
  have cL5_0 := cL5 k0
  have cR_0 := cR k0
  have f0 := p4_ b
  have f1 := p4_ (wy k0)
  have f2 := p4_ (op (wy k0))
  clear p4_
  clear hop hed cL5 cR
  grind (splits := 24)

set_option maxHeartbeats 1000000 in
theorem pt_reb_L5o {W : Int → Prop} {sd : Int → Int} {op : Int → Int} {ed : Int → Int} {st : Int → Int} {lv : Int → Int} {nm : Int → Int} {inw : Int → Int} {tst : Int → Int} {exp : Int → Int} {om : Int → Int} {ps : Int → Int} {dl : Int → Int} {en : Int → Int} {pd : Int → Int} {rp : Int → Int} {cl : Int → Int} {nL : Int} {kd : Int → Int} {wy : Int → Int} {ll : Int → Int} {td : Int → Int} {ls : Int → Int} {wh : Int → Int} {b : Int} (hG : pj_G W sd op ed) (p0_ : W b) (p1_ : st (sd b) = 1) (p2_ : tst (sd b) = -1) (p3_ : exp (sd b) = 0) (p4_ : ∀ v, W v → sd v = (sd b) → pd v = 0) (p5_ : inw (sd b) = (ed b)) (p6_ : om (sd b) = (ed b)) (p7_ : ps (sd b) = 0) (p8_ : dl (sd b) = lv (sd b)) (p9_ : 1 ≤ lv (sd b)) (p10_ : nm (sd b) = (ed b)) (p11_ : om (sd (op b)) = (ed b)) (p12_ : rp b = 0) (p13_ : cl (ed b) = lv (sd b)) (p14_ : pd (op b) = 0) (p15_ : (lv (sd (op b)) = lv (sd b) ∧ nm (sd (op b)) = (ed b) ∧ ps (sd (op b)) = 0 ∧ dl (sd (op b)) = lv (sd (op b))) ∨ (lv (sd (op b)) < lv (sd b) ∧ dl (sd (op b)) = lv (sd b))) (p16_ : 0 ≤ nL) (cL5o : pj_L5o sd op ed lv cl nL kd wy wh) (cR : pj_R W nL kd wy wh) (cL1 : pj_L1 sd op ed st lv om dl en cl nL kd wy ll td ls wh) : pj_L5o sd op ed lv cl (nL + 1) (pu kd nL 5) (pu wy nL b) (pu wh nL 0) := by
  obtain ⟨hop, hed⟩ := hG
  unfold pj_L5o pj_R pj_L1 at *
  intro j0 k0
  simp only [pu]
  have g0 := hop b
  have g1 := hop (wy j0)
  have g2 := hop (wy k0)
  have g3 := hed b (wy j0)
  have g4 := hed b (wy k0)
  have g5 := hed (wy j0) (wy k0)
  have cL5o_0 := cL5o j0 j0
  have cL5o_1 := cL5o j0 k0
  have cL5o_2 := cL5o k0 j0
  have cL5o_3 := cL5o k0 k0
  have cR_0 := cR j0
  have cR_1 := cR k0
  have cL1_0 := cL1 j0
  have cL1_1 := cL1 k0
  have f0 := p4_ b
  have f1 := p4_ (wy j0)
  have f2 := p4_ (op (wy j0))
  have f3 := p4_ (wy k0)
  have f4 := p4_ (op (wy k0))
  clear p4_
  clear hop hed cL5o cR cL1
  grind (splits := 24)

set_option maxHeartbeats 1000000 in
theorem pt_reb_L5u {W : Int → Prop} {sd : Int → Int} {op : Int → Int} {ed : Int → Int} {st : Int → Int} {lv : Int → Int} {nm : Int → Int} {inw : Int → Int} {bst : Int → Int} {tst : Int → Int} {exp : Int → Int} {om : Int → Int} {ps : Int → Int} {dl : Int → Int} {pd : Int → Int} {rp : Int → Int} {rv : Int → Int} {cl : Int → Int} {tk : Int → Int} {nL : Int} {kd : Int → Int} {wy : Int → Int} {td : Int → Int} {wh : Int → Int} {b : Int} (hG : pj_G W sd op ed) (p0_ : W b) (p1_ : st (sd b) = 1) (p2_ : tst (sd b) = -1) (p3_ : exp (sd b) = 0) (p4_ : ∀ v, W v → sd v = (sd b) → pd v = 0) (p5_ : inw (sd b) = (ed b)) (p6_ : om (sd b) = (ed b)) (p7_ : ps (sd b) = 0) (p8_ : dl (sd b) = lv (sd b)) (p9_ : 1 ≤ lv (sd b)) (p10_ : nm (sd b) = (ed b)) (p11_ : om (sd (op b)) = (ed b)) (p12_ : rp b = 0) (p13_ : cl (ed b) = lv (sd b)) (p14_ : pd (op b) = 0) (p15_ : (lv (sd (op b)) = lv (sd b) ∧ nm (sd (op b)) = (ed b) ∧ ps (sd (op b)) = 0 ∧ dl (sd (op b)) = lv (sd (op b))) ∨ (lv (sd (op b)) < lv (sd b) ∧ dl (sd (op b)) = lv (sd b))) (p16_ : 0 ≤ nL) (cL5u : pj_L5u nL kd wy wh) (cR : pj_R W nL kd wy wh) (cL5 : pj_L5 sd op ed st lv nm inw bst om ps dl pd rp rv cl tk nL kd wy td wh) : pj_L5u (nL + 1) (pu kd nL 5) (pu wy nL b) (pu wh nL 0) := by
  obtain ⟨hop, hed⟩ := hG
  unfold pj_L5u pj_R pj_L5 at *
  intro j0 k0
  simp only [pu]
  have g0 := hop b
  have g1 := hop (wy j0)
  have g2 := hop (wy k0)
  have g3 := hed b (wy j0)
  have g4 := hed b (wy k0)
  have g5 := hed (wy j0) (wy k0)
  have cL5u_0 := cL5u j0 j0
  have cL5u_1 := cL5u j0 k0
  have cL5u_2 := cL5u k0 j0
  have cL5u_3 := cL5u k0 k0
  have cR_0 := cR j0
  have cR_1 := cR k0
  have cL5_0 := cL5 j0
  have cL5_1 := cL5 k0
  have f0 := p4_ b
  have f1 := p4_ (wy j0)
  have f2 := p4_ (op (wy j0))
  have f3 := p4_ (wy k0)
  have f4 := p4_ (op (wy k0))
  clear p4_
  clear hop hed cL5u cR cL5
  grind (splits := 24)

set_option maxHeartbeats 1000000 in
theorem pt_reb_L6 {W : Int → Prop} {sd : Int → Int} {op : Int → Int} {ed : Int → Int} {st : Int → Int} {lv : Int → Int} {nm : Int → Int} {inw : Int → Int} {tow : Int → Int} {tst : Int → Int} {exp : Int → Int} {om : Int → Int} {ps : Int → Int} {dl : Int → Int} {pd : Int → Int} {rp : Int → Int} {cl : Int → Int} {cw : Int → Int} {tk : Int → Int} {nL : Int} {kd : Int → Int} {wy : Int → Int} {wh : Int → Int} {b : Int} (hG : pj_G W sd op ed) (p0_ : W b) (p1_ : st (sd b) = 1) (p2_ : tst (sd b) = -1) (p3_ : exp (sd b) = 0) (p4_ : ∀ v, W v → sd v = (sd b) → pd v = 0) (p5_ : inw (sd b) = (ed b)) (p6_ : om (sd b) = (ed b)) (p7_ : ps (sd b) = 0) (p8_ : dl (sd b) = lv (sd b)) (p9_ : 1 ≤ lv (sd b)) (p10_ : nm (sd b) = (ed b)) (p11_ : om (sd (op b)) = (ed b)) (p12_ : rp b = 0) (p13_ : cl (ed b) = lv (sd b)) (p14_ : pd (op b) = 0) (p15_ : (lv (sd (op b)) = lv (sd b) ∧ nm (sd (op b)) = (ed b) ∧ ps (sd (op b)) = 0 ∧ dl (sd (op b)) = lv (sd (op b))) ∨ (lv (sd (op b)) < lv (sd b) ∧ dl (sd (op b)) = lv (sd b))) (p16_ : 0 ≤ nL) (cL6 : pj_L6 sd op ed st lv nm tow om ps dl cw tk nL kd wy wh) (cR : pj_R W nL kd wy wh) : pj_L6 sd op ed (pu st (sd b) 2) lv nm tow om ps dl cw tk (nL + 1) (pu kd nL 5) (pu wy nL b) (pu wh nL 0) := by
  obtain ⟨hop, hed⟩ := hG
  unfold pj_L6 pj_R at *
  intro k0
  simp only [pu]
  have g0 := hop b
  have g1 := hop (wy k0)
  have g2 := hed b (wy k0)
  have cL6_0 := cL6 k0
  have cR_0 := cR k0
  have f0 := p4_ b
  have f1 := p4_ (wy k0)
  have f2 := p4_ (op (wy k0))
  clear p4_
  clear hop hed cL6 cR
  grind (splits := 24)

set_option maxHeartbeats 1000000 in
theorem pt_reb_L6u {W : Int → Prop} {sd : Int → Int} {op : Int → Int} {ed : Int → Int} {st : Int → Int} {lv : Int → Int} {nm : Int → Int} {inw : Int → Int} {tst : Int → Int} {exp : Int → Int} {om : Int → Int} {ps : Int → Int} {dl : Int → Int} {pd : Int → Int} {rp : Int → Int} {cl : Int → Int} {nL : Int} {kd : Int → Int} {wy : Int → Int} {wh : Int → Int} {b : Int} (hG : pj_G W sd op ed) (p0_ : W b) (p1_ : st (sd b) = 1) (p2_ : tst (sd b) = -1) (p3_ : exp (sd b) = 0) (p4_ : ∀ v, W v → sd v = (sd b) → pd v = 0) (p5_ : inw (sd b) = (ed b)) (p6_ : om (sd b) = (ed b)) (p7_ : ps (sd b) = 0) (p8_ : dl (sd b) = lv (sd b)) (p9_ : 1 ≤ lv (sd b)) (p10_ : nm (sd b) = (ed b)) (p11_ : om (sd (op b)) = (ed b)) (p12_ : rp b = 0) (p13_ : cl (ed b) = lv (sd b)) (p14_ : pd (op b) = 0) (p15_ : (lv (sd (op b)) = lv (sd b) ∧ nm (sd (op b)) = (ed b) ∧ ps (sd (op b)) = 0 ∧ dl (sd (op b)) = lv (sd (op b))) ∨ (lv (sd (op b)) < lv (sd b) ∧ dl (sd (op b)) = lv (sd b))) (p16_ : 0 ≤ nL) (cL6u : pj_L6u sd op nm nL kd wy wh) (cR : pj_R W nL kd wy wh) : pj_L6u sd op nm (nL + 1) (pu kd nL 5) (pu wy nL b) (pu wh nL 0) := by
  obtain ⟨hop, hed⟩ := hG
  unfold pj_L6u pj_R at *
  intro j0 k0
  simp only [pu]
  have g0 := hop b
  have g1 := hop (wy j0)
  have g2 := hop (wy k0)
  have g3 := hed b (wy j0)
  have g4 := hed b (wy k0)
  have g5 := hed (wy j0) (wy k0)
  have cL6u_0 := cL6u j0 j0
  have cL6u_1 := cL6u j0 k0
  have cL6u_2 := cL6u k0 j0
  have cL6u_3 := cL6u k0 k0
  have cR_0 := cR j0
  have cR_1 := cR k0
  have f0 := p4_ b
  have f1 := p4_ (wy j0)
  have f2 := p4_ (op (wy j0))
  have f3 := p4_ (wy k0)
  have f4 := p4_ (op (wy k0))
  clear p4_
  clear hop hed cL6u cR
  grind (splits := 24)

theorem pj_reb {W : Int → Prop} {sd op ed : Int → Int} {li : Int → Int → Prop} {st lv nm inw tow bst tst exp om ps dl dn af c0 en pd rp rv fw cl cw tk kd wy ll td ls wh : Int → Int} {nL : Int} {F F2 : Int → Prop} {fl fc : Int} {b k : Int} (hG : pj_G W sd op ed) (p0_ : W b) (p1_ : st (sd b) = 1) (p2_ : tst (sd b) = -1) (p3_ : exp (sd b) = 0) (p4_ : ∀ v, W v → sd v = (sd b) → pd v = 0) (p5_ : inw (sd b) = (ed b)) (p6_ : om (sd b) = (ed b)) (p7_ : ps (sd b) = 0) (p8_ : dl (sd b) = lv (sd b)) (p9_ : 1 ≤ lv (sd b)) (p10_ : nm (sd b) = (ed b)) (p11_ : om (sd (op b)) = (ed b)) (p12_ : rp b = 0) (p13_ : cl (ed b) = lv (sd b)) (p14_ : pd (op b) = 0) (p15_ : (lv (sd (op b)) = lv (sd b) ∧ nm (sd (op b)) = (ed b) ∧ ps (sd (op b)) = 0 ∧ dl (sd (op b)) = lv (sd (op b))) ∨ (lv (sd (op b)) < lv (sd b) ∧ dl (sd (op b)) = lv (sd b))) (p16_ : 0 ≤ nL) (h : pj_J W sd op ed li st lv nm inw tow bst tst exp om ps dl dn af c0 en pd rp rv fw cl cw tk nL kd wy ll td ls wh F fl fc) : pj_J W sd op ed li (pu st (sd b) 2) lv nm inw tow bst tst exp om ps dl dn af c0 en pd (pu rp b 1) (pu rv b (bst (sd b))) fw cl cw tk (nL + 1) (pu kd nL 5) (pu wy nL b) (pu ll nL (-1)) (pu td nL (bst (sd b))) (pu ls nL (-1)) (pu wh nL 0) F fl fc := by
  obtain ⟨cR, cN0, cN1, cN1w, cER, cN1c, cN2, cN2e, cN2b, cN4e, cN4b, cN5, cN7, cN10, cN10e, cN13, cC1, cC2, cR3a, cE1, cU, cA1, cA2, cEC, cR3, cN11, cN12, cN3, cRJ, cFW, cPD, cCC, cCD, cRP, cRP1, cCR, cZ1, cZ0, cTK, cK2, cWH, cFI, cL0, cFC, cL0u, cOC, cCT, cL1, cL1e, cL1o, cL1b, cL1g, cL2, cL3, cL4, cAF, cRT, cCV, cL5, cL5o, cL5u, cL6, cL6u⟩ := h
  exact ⟨pt_reb_R hG p0_ p1_ p2_ p3_ p4_ p5_ p6_ p7_ p8_ p9_ p10_ p11_ p12_ p13_ p14_ p15_ p16_ cR, pt_reb_N0 hG p0_ p1_ p2_ p3_ p4_ p5_ p6_ p7_ p8_ p9_ p10_ p11_ p12_ p13_ p14_ p15_ p16_ cN0, pt_reb_N1 hG p0_ p1_ p2_ p3_ p4_ p5_ p6_ p7_ p8_ p9_ p10_ p11_ p12_ p13_ p14_ p15_ p16_ cN1, pt_reb_N1w hG p0_ p1_ p2_ p3_ p4_ p5_ p6_ p7_ p8_ p9_ p10_ p11_ p12_ p13_ p14_ p15_ p16_ cN1w, cER, pt_reb_N1c hG p0_ p1_ p2_ p3_ p4_ p5_ p6_ p7_ p8_ p9_ p10_ p11_ p12_ p13_ p14_ p15_ p16_ cN1c cR, cN2, cN2e, pt_reb_N2b hG p0_ p1_ p2_ p3_ p4_ p5_ p6_ p7_ p8_ p9_ p10_ p11_ p12_ p13_ p14_ p15_ p16_ cN2b, cN4e, pt_reb_N4b hG p0_ p1_ p2_ p3_ p4_ p5_ p6_ p7_ p8_ p9_ p10_ p11_ p12_ p13_ p14_ p15_ p16_ cN4b, cN5, pt_reb_N7 hG p0_ p1_ p2_ p3_ p4_ p5_ p6_ p7_ p8_ p9_ p10_ p11_ p12_ p13_ p14_ p15_ p16_ cN7, cN10, cN10e, cN13, cC1, cC2, pt_reb_R3a hG p0_ p1_ p2_ p3_ p4_ p5_ p6_ p7_ p8_ p9_ p10_ p11_ p12_ p13_ p14_ p15_ p16_ cR3a, pt_reb_E1 hG p0_ p1_ p2_ p3_ p4_ p5_ p6_ p7_ p8_ p9_ p10_ p11_ p12_ p13_ p14_ p15_ p16_ cE1, cU, cA1, pt_reb_A2 hG p0_ p1_ p2_ p3_ p4_ p5_ p6_ p7_ p8_ p9_ p10_ p11_ p12_ p13_ p14_ p15_ p16_ cA2, pt_reb_EC hG p0_ p1_ p2_ p3_ p4_ p5_ p6_ p7_ p8_ p9_ p10_ p11_ p12_ p13_ p14_ p15_ p16_ cEC, pt_reb_R3 hG p0_ p1_ p2_ p3_ p4_ p5_ p6_ p7_ p8_ p9_ p10_ p11_ p12_ p13_ p14_ p15_ p16_ cR3, cN11, pt_reb_N12 hG p0_ p1_ p2_ p3_ p4_ p5_ p6_ p7_ p8_ p9_ p10_ p11_ p12_ p13_ p14_ p15_ p16_ cN12, cN3, cRJ, cFW, pt_reb_PD hG p0_ p1_ p2_ p3_ p4_ p5_ p6_ p7_ p8_ p9_ p10_ p11_ p12_ p13_ p14_ p15_ p16_ cPD, cCC, cCD, pt_reb_RP hG p0_ p1_ p2_ p3_ p4_ p5_ p6_ p7_ p8_ p9_ p10_ p11_ p12_ p13_ p14_ p15_ p16_ cRP, pt_reb_RP1 hG p0_ p1_ p2_ p3_ p4_ p5_ p6_ p7_ p8_ p9_ p10_ p11_ p12_ p13_ p14_ p15_ p16_ cRP1, cCR, cZ1, cZ0, cTK, pt_reb_K2 hG p0_ p1_ p2_ p3_ p4_ p5_ p6_ p7_ p8_ p9_ p10_ p11_ p12_ p13_ p14_ p15_ p16_ cK2, pt_reb_WH hG p0_ p1_ p2_ p3_ p4_ p5_ p6_ p7_ p8_ p9_ p10_ p11_ p12_ p13_ p14_ p15_ p16_ cWH cR, pt_reb_FI hG p0_ p1_ p2_ p3_ p4_ p5_ p6_ p7_ p8_ p9_ p10_ p11_ p12_ p13_ p14_ p15_ p16_ cFI cR, pt_reb_L0 hG p0_ p1_ p2_ p3_ p4_ p5_ p6_ p7_ p8_ p9_ p10_ p11_ p12_ p13_ p14_ p15_ p16_ cL0 cR, pt_reb_FC hG p0_ p1_ p2_ p3_ p4_ p5_ p6_ p7_ p8_ p9_ p10_ p11_ p12_ p13_ p14_ p15_ p16_ cFC cR, pt_reb_L0u hG p0_ p1_ p2_ p3_ p4_ p5_ p6_ p7_ p8_ p9_ p10_ p11_ p12_ p13_ p14_ p15_ p16_ cL0u cR, pt_reb_OC hG p0_ p1_ p2_ p3_ p4_ p5_ p6_ p7_ p8_ p9_ p10_ p11_ p12_ p13_ p14_ p15_ p16_ cOC cR, pt_reb_CT hG p0_ p1_ p2_ p3_ p4_ p5_ p6_ p7_ p8_ p9_ p10_ p11_ p12_ p13_ p14_ p15_ p16_ cCT cR, pt_reb_L1 hG p0_ p1_ p2_ p3_ p4_ p5_ p6_ p7_ p8_ p9_ p10_ p11_ p12_ p13_ p14_ p15_ p16_ cL1 cR, pt_reb_L1e hG p0_ p1_ p2_ p3_ p4_ p5_ p6_ p7_ p8_ p9_ p10_ p11_ p12_ p13_ p14_ p15_ p16_ cL1e cR, pt_reb_L1o hG p0_ p1_ p2_ p3_ p4_ p5_ p6_ p7_ p8_ p9_ p10_ p11_ p12_ p13_ p14_ p15_ p16_ cL1o cR, pt_reb_L1b hG p0_ p1_ p2_ p3_ p4_ p5_ p6_ p7_ p8_ p9_ p10_ p11_ p12_ p13_ p14_ p15_ p16_ cL1b cR, pt_reb_L1g hG p0_ p1_ p2_ p3_ p4_ p5_ p6_ p7_ p8_ p9_ p10_ p11_ p12_ p13_ p14_ p15_ p16_ cL1g cR, pt_reb_L2 hG p0_ p1_ p2_ p3_ p4_ p5_ p6_ p7_ p8_ p9_ p10_ p11_ p12_ p13_ p14_ p15_ p16_ cL2 cR, pt_reb_L3 hG p0_ p1_ p2_ p3_ p4_ p5_ p6_ p7_ p8_ p9_ p10_ p11_ p12_ p13_ p14_ p15_ p16_ cL3 cR, pt_reb_L4 hG p0_ p1_ p2_ p3_ p4_ p5_ p6_ p7_ p8_ p9_ p10_ p11_ p12_ p13_ p14_ p15_ p16_ cL4 cR, pt_reb_AF hG p0_ p1_ p2_ p3_ p4_ p5_ p6_ p7_ p8_ p9_ p10_ p11_ p12_ p13_ p14_ p15_ p16_ cAF, pt_reb_RT hG p0_ p1_ p2_ p3_ p4_ p5_ p6_ p7_ p8_ p9_ p10_ p11_ p12_ p13_ p14_ p15_ p16_ cRT cR, pt_reb_CV hG p0_ p1_ p2_ p3_ p4_ p5_ p6_ p7_ p8_ p9_ p10_ p11_ p12_ p13_ p14_ p15_ p16_ cCV cR, pt_reb_L5 hG p0_ p1_ p2_ p3_ p4_ p5_ p6_ p7_ p8_ p9_ p10_ p11_ p12_ p13_ p14_ p15_ p16_ cL5 cR, pt_reb_L5o hG p0_ p1_ p2_ p3_ p4_ p5_ p6_ p7_ p8_ p9_ p10_ p11_ p12_ p13_ p14_ p15_ p16_ cL5o cR cL1, pt_reb_L5u hG p0_ p1_ p2_ p3_ p4_ p5_ p6_ p7_ p8_ p9_ p10_ p11_ p12_ p13_ p14_ p15_ p16_ cL5u cR cL5, pt_reb_L6 hG p0_ p1_ p2_ p3_ p4_ p5_ p6_ p7_ p8_ p9_ p10_ p11_ p12_ p13_ p14_ p15_ p16_ cL6 cR, pt_reb_L6u hG p0_ p1_ p2_ p3_ p4_ p5_ p6_ p7_ p8_ p9_ p10_ p11_ p12_ p13_ p14_ p15_ p16_ cL6u cR⟩

set_option maxHeartbeats 1000000 in
theorem pt_wk_R {W : Int → Prop} {sd : Int → Int} {op : Int → Int} {ed : Int → Int} {st : Int → Int} {lv : Int → Int} {nm : Int → Int} {om : Int → Int} {ps : Int → Int} {dl : Int → Int} {en : Int → Int} {cl : Int → Int} {nL : Int} {kd : Int → Int} {wy : Int → Int} {wh : Int → Int} {F : Int → Prop} {b : Int} (hG : pj_G W sd op ed) (p0_ : ∀ v, ¬ F v) (p1_ : W b) (p2_ : st (sd b) = 0) (p3_ : en b = 0) (p4_ : lv (sd b) = 0) (p5_ : dl (sd b) = 0) (p6_ : om (sd b) = -1) (p7_ : ps (sd b) = 0) (p8_ : en (op b) ≠ 2) (p9_ : en (op b) = 0 ∨ en (op b) = 1) (p10_ : cl (ed b) = 0) (p11_ : en (op b) = 1 → om (sd (op b)) = (ed b) ∧ ps (sd (op b)) = 1 ∧ dl (sd (op b)) = lv (sd (op b)) ∧ lv (sd (op b)) = 0) (p12_ : 0 ≤ lv (sd (op b))) (p13_ : nm (sd b) = -1) (p14_ : 0 ≤ nL) (cR : pj_R W nL kd wy wh) : pj_R W (nL + 1) (pu kd nL 0) (pu wy nL b) (pu wh nL 0) := by
  obtain ⟨hop, hed⟩ := hG
  unfold pj_R at *
  intro k0
  simp only [pu]
  have g0 := hop b
  have g1 := hop (wy k0)
  have g2 := hed b (wy k0)
  have cR_0 := cR k0
  have f0 := p0_ b
  have f1 := p0_ (wy k0)
  have f2 := p0_ (op (wy k0))
  have f3 := p0_ (op b)
  clear p0_
  clear hop hed cR
  grind (splits := 24)

set_option maxHeartbeats 1000000 in
theorem pt_wk_N0 {W : Int → Prop} {sd : Int → Int} {op : Int → Int} {ed : Int → Int} {st : Int → Int} {lv : Int → Int} {nm : Int → Int} {om : Int → Int} {ps : Int → Int} {dl : Int → Int} {af : Int → Int} {en : Int → Int} {cl : Int → Int} {nL : Int} {F : Int → Prop} {b : Int} (hG : pj_G W sd op ed) (p0_ : ∀ v, ¬ F v) (p1_ : W b) (p2_ : st (sd b) = 0) (p3_ : en b = 0) (p4_ : lv (sd b) = 0) (p5_ : dl (sd b) = 0) (p6_ : om (sd b) = -1) (p7_ : ps (sd b) = 0) (p8_ : en (op b) ≠ 2) (p9_ : en (op b) = 0 ∨ en (op b) = 1) (p10_ : cl (ed b) = 0) (p11_ : en (op b) = 1 → om (sd (op b)) = (ed b) ∧ ps (sd (op b)) = 1 ∧ dl (sd (op b)) = lv (sd (op b)) ∧ lv (sd (op b)) = 0) (p12_ : 0 ≤ lv (sd (op b))) (p13_ : nm (sd b) = -1) (p14_ : 0 ≤ nL) (cN0 : pj_N0 st lv ps dl af) : pj_N0 (pu st (sd b) 2) lv (pu ps (sd b) 1) dl af := by
  obtain ⟨hop, hed⟩ := hG
  unfold pj_N0 at *
  intro n0
  simp only [pu]
  have g0 := hop b
  have cN0_0 := cN0 (sd (op b))
  have cN0_1 := cN0 n0
  have cN0_2 := cN0 (sd b)
  have f0 := p0_ b
  have f1 := p0_ (op b)
  clear p0_
  clear hop hed cN0
  grind (splits := 24)

set_option maxHeartbeats 1000000 in
theorem pt_wk_N1 {W : Int → Prop} {sd : Int → Int} {op : Int → Int} {ed : Int → Int} {st : Int → Int} {lv : Int → Int} {nm : Int → Int} {om : Int → Int} {ps : Int → Int} {dl : Int → Int} {en : Int → Int} {cl : Int → Int} {nL : Int} {F : Int → Prop} {b : Int} (hG : pj_G W sd op ed) (p0_ : ∀ v, ¬ F v) (p1_ : W b) (p2_ : st (sd b) = 0) (p3_ : en b = 0) (p4_ : lv (sd b) = 0) (p5_ : dl (sd b) = 0) (p6_ : om (sd b) = -1) (p7_ : ps (sd b) = 0) (p8_ : en (op b) ≠ 2) (p9_ : en (op b) = 0 ∨ en (op b) = 1) (p10_ : cl (ed b) = 0) (p11_ : en (op b) = 1 → om (sd (op b)) = (ed b) ∧ ps (sd (op b)) = 1 ∧ dl (sd (op b)) = lv (sd (op b)) ∧ lv (sd (op b)) = 0) (p12_ : 0 ≤ lv (sd (op b))) (p13_ : nm (sd b) = -1) (p14_ : 0 ≤ nL) (cN1 : pj_N1 st lv om ps dl) : pj_N1 (pu st (sd b) 2) lv (pu om (sd b) (ed b)) (pu ps (sd b) 1) dl := by
  obtain ⟨hop, hed⟩ := hG
  unfold pj_N1 at *
  intro n0
  simp only [pu]
  have g0 := hop b
  have cN1_0 := cN1 (sd (op b))
  have cN1_1 := cN1 n0
  have cN1_2 := cN1 (sd b)
  have f0 := p0_ b
  have f1 := p0_ (op b)
  clear p0_
  clear hop hed cN1
  grind (splits := 24)

set_option maxHeartbeats 1000000 in
theorem pt_wk_N1w {W : Int → Prop} {sd : Int → Int} {op : Int → Int} {ed : Int → Int} {st : Int → Int} {lv : Int → Int} {nm : Int → Int} {om : Int → Int} {ps : Int → Int} {dl : Int → Int} {en : Int → Int} {cl : Int → Int} {nL : Int} {F : Int → Prop} {b : Int} (hG : pj_G W sd op ed) (p0_ : ∀ v, ¬ F v) (p1_ : W b) (p2_ : st (sd b) = 0) (p3_ : en b = 0) (p4_ : lv (sd b) = 0) (p5_ : dl (sd b) = 0) (p6_ : om (sd b) = -1) (p7_ : ps (sd b) = 0) (p8_ : en (op b) ≠ 2) (p9_ : en (op b) = 0 ∨ en (op b) = 1) (p10_ : cl (ed b) = 0) (p11_ : en (op b) = 1 → om (sd (op b)) = (ed b) ∧ ps (sd (op b)) = 1 ∧ dl (sd (op b)) = lv (sd (op b)) ∧ lv (sd (op b)) = 0) (p12_ : 0 ≤ lv (sd (op b))) (p13_ : nm (sd b) = -1) (p14_ : 0 ≤ nL) (cN1w : pj_N1w W sd st en) : pj_N1w W sd (pu st (sd b) 2) (pu en b 1) := by
  obtain ⟨hop, hed⟩ := hG
  unfold pj_N1w at *
  intro w0
  simp only [pu]
  have g0 := hop b
  have g1 := hop w0
  have g2 := hed b w0
  have cN1w_0 := cN1w b
  have cN1w_1 := cN1w w0
  have cN1w_2 := cN1w (op w0)
  have f0 := p0_ b
  have f1 := p0_ w0
  have f2 := p0_ (op w0)
  have f3 := p0_ (op b)
  clear p0_
  clear hop hed cN1w
  grind (splits := 24)

set_option maxHeartbeats 1000000 in
theorem pt_wk_ER {W : Int → Prop} {sd : Int → Int} {op : Int → Int} {ed : Int → Int} {st : Int → Int} {lv : Int → Int} {nm : Int → Int} {om : Int → Int} {ps : Int → Int} {dl : Int → Int} {en : Int → Int} {cl : Int → Int} {nL : Int} {F : Int → Prop} {b : Int} (hG : pj_G W sd op ed) (p0_ : ∀ v, ¬ F v) (p1_ : W b) (p2_ : st (sd b) = 0) (p3_ : en b = 0) (p4_ : lv (sd b) = 0) (p5_ : dl (sd b) = 0) (p6_ : om (sd b) = -1) (p7_ : ps (sd b) = 0) (p8_ : en (op b) ≠ 2) (p9_ : en (op b) = 0 ∨ en (op b) = 1) (p10_ : cl (ed b) = 0) (p11_ : en (op b) = 1 → om (sd (op b)) = (ed b) ∧ ps (sd (op b)) = 1 ∧ dl (sd (op b)) = lv (sd (op b)) ∧ lv (sd (op b)) = 0) (p12_ : 0 ≤ lv (sd (op b))) (p13_ : nm (sd b) = -1) (p14_ : 0 ≤ nL) (cER : pj_ER W en) : pj_ER W (pu en b 1) := by
  obtain ⟨hop, hed⟩ := hG
  unfold pj_ER at *
  intro w0
  simp only [pu]
  have g0 := hop b
  have g1 := hop w0
  have g2 := hed b w0
  have cER_0 := cER b
  have cER_1 := cER w0
  have cER_2 := cER (op w0)
  have f0 := p0_ b
  have f1 := p0_ w0
  have f2 := p0_ (op w0)
  have f3 := p0_ (op b)
  clear p0_
  clear hop hed cER
  grind (splits := 24)

set_option maxHeartbeats 1000000 in
theorem pt_wk_N1c {W : Int → Prop} {sd : Int → Int} {op : Int → Int} {ed : Int → Int} {st : Int → Int} {lv : Int → Int} {nm : Int → Int} {om : Int → Int} {ps : Int → Int} {dl : Int → Int} {en : Int → Int} {cl : Int → Int} {nL : Int} {kd : Int → Int} {wy : Int → Int} {wh : Int → Int} {F : Int → Prop} {b : Int} (hG : pj_G W sd op ed) (p0_ : ∀ v, ¬ F v) (p1_ : W b) (p2_ : st (sd b) = 0) (p3_ : en b = 0) (p4_ : lv (sd b) = 0) (p5_ : dl (sd b) = 0) (p6_ : om (sd b) = -1) (p7_ : ps (sd b) = 0) (p8_ : en (op b) ≠ 2) (p9_ : en (op b) = 0 ∨ en (op b) = 1) (p10_ : cl (ed b) = 0) (p11_ : en (op b) = 1 → om (sd (op b)) = (ed b) ∧ ps (sd (op b)) = 1 ∧ dl (sd (op b)) = lv (sd (op b)) ∧ lv (sd (op b)) = 0) (p12_ : 0 ≤ lv (sd (op b))) (p13_ : nm (sd b) = -1) (p14_ : 0 ≤ nL) (cN1c : pj_N1c sd op st nL wy wh) (cR : pj_R W nL kd wy wh) : pj_N1c sd op (pu st (sd b) 2) (nL + 1) (pu wy nL b) (pu wh nL 0) := by
  obtain ⟨hop, hed⟩ := hG
  unfold pj_N1c pj_R at *
  intro k0
  simp only [pu]
  have g0 := hop b
  have g1 := hop (wy k0)
  have g2 := hed b (wy k0)
  have cN1c_0 := cN1c k0
  have cR_0 := cR k0
  have f0 := p0_ b
  have f1 := p0_ (wy k0)
  have f2 := p0_ (op (wy k0))
  have f3 := p0_ (op b)
  clear p0_
  clear hop hed cN1c cR
  grind (splits := 24)

set_option maxHeartbeats 1000000 in
theorem pt_wk_N2 {W : Int → Prop} {sd : Int → Int} {op : Int → Int} {ed : Int → Int} {st : Int → Int} {lv : Int → Int} {nm : Int → Int} {om : Int → Int} {ps : Int → Int} {dl : Int → Int} {en : Int → Int} {cl : Int → Int} {nL : Int} {F : Int → Prop} {b : Int} (hG : pj_G W sd op ed) (p0_ : ∀ v, ¬ F v) (p1_ : W b) (p2_ : st (sd b) = 0) (p3_ : en b = 0) (p4_ : lv (sd b) = 0) (p5_ : dl (sd b) = 0) (p6_ : om (sd b) = -1) (p7_ : ps (sd b) = 0) (p8_ : en (op b) ≠ 2) (p9_ : en (op b) = 0 ∨ en (op b) = 1) (p10_ : cl (ed b) = 0) (p11_ : en (op b) = 1 → om (sd (op b)) = (ed b) ∧ ps (sd (op b)) = 1 ∧ dl (sd (op b)) = lv (sd (op b)) ∧ lv (sd (op b)) = 0) (p12_ : 0 ≤ lv (sd (op b))) (p13_ : nm (sd b) = -1) (p14_ : 0 ≤ nL) (cN2 : pj_N2 W sd ed om en) : pj_N2 W sd ed (pu om (sd b) (ed b)) (pu en b 1) := by
  obtain ⟨hop, hed⟩ := hG
  unfold pj_N2 at *
  intro w0
  simp only [pu]
  have g0 := hop b
  have g1 := hop w0
  have g2 := hed b w0
  have cN2_0 := cN2 b
  have cN2_1 := cN2 w0
  have cN2_2 := cN2 (op w0)
  have f0 := p0_ b
  have f1 := p0_ w0
  have f2 := p0_ (op w0)
  have f3 := p0_ (op b)
  clear p0_
  clear hop hed cN2
  grind (splits := 24)

set_option maxHeartbeats 1000000 in
theorem pt_wk_N2e {W : Int → Prop} {sd : Int → Int} {op : Int → Int} {ed : Int → Int} {st : Int → Int} {lv : Int → Int} {nm : Int → Int} {om : Int → Int} {ps : Int → Int} {dl : Int → Int} {en : Int → Int} {cl : Int → Int} {nL : Int} {F : Int → Prop} {b : Int} (hG : pj_G W sd op ed) (p0_ : ∀ v, ¬ F v) (p1_ : W b) (p2_ : st (sd b) = 0) (p3_ : en b = 0) (p4_ : lv (sd b) = 0) (p5_ : dl (sd b) = 0) (p6_ : om (sd b) = -1) (p7_ : ps (sd b) = 0) (p8_ : en (op b) ≠ 2) (p9_ : en (op b) = 0 ∨ en (op b) = 1) (p10_ : cl (ed b) = 0) (p11_ : en (op b) = 1 → om (sd (op b)) = (ed b) ∧ ps (sd (op b)) = 1 ∧ dl (sd (op b)) = lv (sd (op b)) ∧ lv (sd (op b)) = 0) (p12_ : 0 ≤ lv (sd (op b))) (p13_ : nm (sd b) = -1) (p14_ : 0 ≤ nL) (cN2e : pj_N2e W sd ed om) : pj_N2e W sd ed (pu om (sd b) (ed b)) := by
  obtain ⟨hop, hed⟩ := hG
  unfold pj_N2e at *
  intro n0
  simp only [pu]
  have g0 := hop b
  have cN2e_0 := cN2e (sd (op b))
  have cN2e_1 := cN2e n0
  have cN2e_2 := cN2e (sd b)
  have f0 := p0_ b
  have f1 := p0_ (op b)
  clear p0_
  clear hop hed cN2e
  grind (splits := 24)

set_option maxHeartbeats 1000000 in
theorem pt_wk_N2b {W : Int → Prop} {sd : Int → Int} {op : Int → Int} {ed : Int → Int} {st : Int → Int} {lv : Int → Int} {nm : Int → Int} {om : Int → Int} {ps : Int → Int} {dl : Int → Int} {en : Int → Int} {cl : Int → Int} {nL : Int} {F : Int → Prop} {b : Int} (hG : pj_G W sd op ed) (p0_ : ∀ v, ¬ F v) (p1_ : W b) (p2_ : st (sd b) = 0) (p3_ : en b = 0) (p4_ : lv (sd b) = 0) (p5_ : dl (sd b) = 0) (p6_ : om (sd b) = -1) (p7_ : ps (sd b) = 0) (p8_ : en (op b) ≠ 2) (p9_ : en (op b) = 0 ∨ en (op b) = 1) (p10_ : cl (ed b) = 0) (p11_ : en (op b) = 1 → om (sd (op b)) = (ed b) ∧ ps (sd (op b)) = 1 ∧ dl (sd (op b)) = lv (sd (op b)) ∧ lv (sd (op b)) = 0) (p12_ : 0 ≤ lv (sd (op b))) (p13_ : nm (sd b) = -1) (p14_ : 0 ≤ nL) (cN2b : pj_N2b W sd st om) : pj_N2b W sd (pu st (sd b) 2) (pu om (sd b) (ed b)) := by
  obtain ⟨hop, hed⟩ := hG
  unfold pj_N2b at *
  intro w0
  simp only [pu]
  have g0 := hop b
  have g1 := hop w0
  have g2 := hed b w0
  have cN2b_0 := cN2b b
  have cN2b_1 := cN2b w0
  have cN2b_2 := cN2b (op w0)
  have f0 := p0_ b
  have f1 := p0_ w0
  have f2 := p0_ (op w0)
  have f3 := p0_ (op b)
  clear p0_
  clear hop hed cN2b
  grind (splits := 24)

set_option maxHeartbeats 1000000 in
theorem pt_wk_N4b {W : Int → Prop} {sd : Int → Int} {op : Int → Int} {ed : Int → Int} {st : Int → Int} {lv : Int → Int} {nm : Int → Int} {inw : Int → Int} {tow : Int → Int} {bst : Int → Int} {om : Int → Int} {ps : Int → Int} {dl : Int → Int} {en : Int → Int} {cl : Int → Int} {nL : Int} {F : Int → Prop} {b : Int} (hG : pj_G W sd op ed) (p0_ : ∀ v, ¬ F v) (p1_ : W b) (p2_ : st (sd b) = 0) (p3_ : en b = 0) (p4_ : lv (sd b) = 0) (p5_ : dl (sd b) = 0) (p6_ : om (sd b) = -1) (p7_ : ps (sd b) = 0) (p8_ : en (op b) ≠ 2) (p9_ : en (op b) = 0 ∨ en (op b) = 1) (p10_ : cl (ed b) = 0) (p11_ : en (op b) = 1 → om (sd (op b)) = (ed b) ∧ ps (sd (op b)) = 1 ∧ dl (sd (op b)) = lv (sd (op b)) ∧ lv (sd (op b)) = 0) (p12_ : 0 ≤ lv (sd (op b))) (p13_ : nm (sd b) = -1) (p14_ : 0 ≤ nL) (cN4b : pj_N4b st lv nm inw tow bst om ps) : pj_N4b (pu st (sd b) 2) lv nm inw tow bst (pu om (sd b) (ed b)) (pu ps (sd b) 1) := by
  obtain ⟨hop, hed⟩ := hG
  unfold pj_N4b at *
  intro n0
  simp only [pu]
  have g0 := hop b
  have cN4b_0 := cN4b (sd (op b))
  have cN4b_1 := cN4b n0
  have cN4b_2 := cN4b (sd b)
  have f0 := p0_ b
  have f1 := p0_ (op b)
  clear p0_
  clear hop hed cN4b
  grind (splits := 24)

set_option maxHeartbeats 1000000 in
theorem pt_wk_N5 {W : Int → Prop} {sd : Int → Int} {op : Int → Int} {ed : Int → Int} {st : Int → Int} {lv : Int → Int} {nm : Int → Int} {inw : Int → Int} {om : Int → Int} {ps : Int → Int} {dl : Int → Int} {en : Int → Int} {cl : Int → Int} {nL : Int} {F : Int → Prop} {b : Int} (hG : pj_G W sd op ed) (p0_ : ∀ v, ¬ F v) (p1_ : W b) (p2_ : st (sd b) = 0) (p3_ : en b = 0) (p4_ : lv (sd b) = 0) (p5_ : dl (sd b) = 0) (p6_ : om (sd b) = -1) (p7_ : ps (sd b) = 0) (p8_ : en (op b) ≠ 2) (p9_ : en (op b) = 0 ∨ en (op b) = 1) (p10_ : cl (ed b) = 0) (p11_ : en (op b) = 1 → om (sd (op b)) = (ed b) ∧ ps (sd (op b)) = 1 ∧ dl (sd (op b)) = lv (sd (op b)) ∧ lv (sd (op b)) = 0) (p12_ : 0 ≤ lv (sd (op b))) (p13_ : nm (sd b) = -1) (p14_ : 0 ≤ nL) (cN5 : pj_N5 lv inw om ps) : pj_N5 lv inw (pu om (sd b) (ed b)) (pu ps (sd b) 1) := by
  obtain ⟨hop, hed⟩ := hG
  unfold pj_N5 at *
  intro n0
  simp only [pu]
  have g0 := hop b
  have cN5_0 := cN5 (sd (op b))
  have cN5_1 := cN5 n0
  have cN5_2 := cN5 (sd b)
  have f0 := p0_ b
  have f1 := p0_ (op b)
  clear p0_
  clear hop hed cN5
  grind (splits := 24)

set_option maxHeartbeats 1000000 in
theorem pt_wk_N7 {W : Int → Prop} {sd : Int → Int} {op : Int → Int} {ed : Int → Int} {st : Int → Int} {lv : Int → Int} {nm : Int → Int} {tst : Int → Int} {exp : Int → Int} {om : Int → Int} {ps : Int → Int} {dl : Int → Int} {en : Int → Int} {cl : Int → Int} {nL : Int} {F : Int → Prop} {b : Int} (hG : pj_G W sd op ed) (p0_ : ∀ v, ¬ F v) (p1_ : W b) (p2_ : st (sd b) = 0) (p3_ : en b = 0) (p4_ : lv (sd b) = 0) (p5_ : dl (sd b) = 0) (p6_ : om (sd b) = -1) (p7_ : ps (sd b) = 0) (p8_ : en (op b) ≠ 2) (p9_ : en (op b) = 0 ∨ en (op b) = 1) (p10_ : cl (ed b) = 0) (p11_ : en (op b) = 1 → om (sd (op b)) = (ed b) ∧ ps (sd (op b)) = 1 ∧ dl (sd (op b)) = lv (sd (op b)) ∧ lv (sd (op b)) = 0) (p12_ : 0 ≤ lv (sd (op b))) (p13_ : nm (sd b) = -1) (p14_ : 0 ≤ nL) (cN7 : pj_N7 st tst exp) : pj_N7 (pu st (sd b) 2) tst exp := by
  obtain ⟨hop, hed⟩ := hG
  unfold pj_N7 at *
  intro n0
  simp only [pu]
  have g0 := hop b
  have cN7_0 := cN7 (sd (op b))
  have cN7_1 := cN7 n0
  have cN7_2 := cN7 (sd b)
  have f0 := p0_ b
  have f1 := p0_ (op b)
  clear p0_
  clear hop hed cN7
  grind (splits := 24)

set_option maxHeartbeats 1000000 in
theorem pt_wk_R3a {W : Int → Prop} {sd : Int → Int} {op : Int → Int} {ed : Int → Int} {st : Int → Int} {lv : Int → Int} {nm : Int → Int} {om : Int → Int} {ps : Int → Int} {dl : Int → Int} {en : Int → Int} {cl : Int → Int} {nL : Int} {F : Int → Prop} {b : Int} (hG : pj_G W sd op ed) (p0_ : ∀ v, ¬ F v) (p1_ : W b) (p2_ : st (sd b) = 0) (p3_ : en b = 0) (p4_ : lv (sd b) = 0) (p5_ : dl (sd b) = 0) (p6_ : om (sd b) = -1) (p7_ : ps (sd b) = 0) (p8_ : en (op b) ≠ 2) (p9_ : en (op b) = 0 ∨ en (op b) = 1) (p10_ : cl (ed b) = 0) (p11_ : en (op b) = 1 → om (sd (op b)) = (ed b) ∧ ps (sd (op b)) = 1 ∧ dl (sd (op b)) = lv (sd (op b)) ∧ lv (sd (op b)) = 0) (p12_ : 0 ≤ lv (sd (op b))) (p13_ : nm (sd b) = -1) (p14_ : 0 ≤ nL) (cR3a : pj_R3a st lv dl) : pj_R3a (pu st (sd b) 2) lv dl := by
  obtain ⟨hop, hed⟩ := hG
  unfold pj_R3a at *
  intro n0
  simp only [pu]
  have g0 := hop b
  have cR3a_0 := cR3a (sd (op b))
  have cR3a_1 := cR3a n0
  have cR3a_2 := cR3a (sd b)
  have f0 := p0_ b
  have f1 := p0_ (op b)
  clear p0_
  clear hop hed cR3a
  grind (splits := 24)

set_option maxHeartbeats 1000000 in
theorem pt_wk_E1 {W : Int → Prop} {sd : Int → Int} {op : Int → Int} {ed : Int → Int} {st : Int → Int} {lv : Int → Int} {nm : Int → Int} {om : Int → Int} {ps : Int → Int} {dl : Int → Int} {en : Int → Int} {cl : Int → Int} {nL : Int} {kd : Int → Int} {wy : Int → Int} {ll : Int → Int} {wh : Int → Int} {F : Int → Prop} {b : Int} (hG : pj_G W sd op ed) (p0_ : ∀ v, ¬ F v) (p1_ : W b) (p2_ : st (sd b) = 0) (p3_ : en b = 0) (p4_ : lv (sd b) = 0) (p5_ : dl (sd b) = 0) (p6_ : om (sd b) = -1) (p7_ : ps (sd b) = 0) (p8_ : en (op b) ≠ 2) (p9_ : en (op b) = 0 ∨ en (op b) = 1) (p10_ : cl (ed b) = 0) (p11_ : en (op b) = 1 → om (sd (op b)) = (ed b) ∧ ps (sd (op b)) = 1 ∧ dl (sd (op b)) = lv (sd (op b)) ∧ lv (sd (op b)) = 0) (p12_ : 0 ≤ lv (sd (op b))) (p13_ : nm (sd b) = -1) (p14_ : 0 ≤ nL) (cE1 : pj_E1 sd op lv dl nL kd wy ll wh) : pj_E1 sd op lv dl (nL + 1) (pu kd nL 0) (pu wy nL b) (pu ll nL (0)) (pu wh nL 0) := by
  obtain ⟨hop, hed⟩ := hG
  unfold pj_E1 at *
  intro n0
  simp only [pu]
  have g0 := hop b
  have cE1_0 := cE1 (sd (op b))
  have cE1_1 := cE1 n0
  have cE1_2 := cE1 (sd b)
  have f0 := p0_ b
  have f1 := p0_ (op b)
  clear p0_
  clear hop hed cE1
  grind (splits := 24)

set_option maxHeartbeats 1000000 in
theorem pt_wk_U {W : Int → Prop} {sd : Int → Int} {op : Int → Int} {ed : Int → Int} {st : Int → Int} {lv : Int → Int} {nm : Int → Int} {om : Int → Int} {ps : Int → Int} {dl : Int → Int} {en : Int → Int} {cl : Int → Int} {nL : Int} {F : Int → Prop} {b : Int} (hG : pj_G W sd op ed) (p0_ : ∀ v, ¬ F v) (p1_ : W b) (p2_ : st (sd b) = 0) (p3_ : en b = 0) (p4_ : lv (sd b) = 0) (p5_ : dl (sd b) = 0) (p6_ : om (sd b) = -1) (p7_ : ps (sd b) = 0) (p8_ : en (op b) ≠ 2) (p9_ : en (op b) = 0 ∨ en (op b) = 1) (p10_ : cl (ed b) = 0) (p11_ : en (op b) = 1 → om (sd (op b)) = (ed b) ∧ ps (sd (op b)) = 1 ∧ dl (sd (op b)) = lv (sd (op b)) ∧ lv (sd (op b)) = 0) (p12_ : 0 ≤ lv (sd (op b))) (p13_ : nm (sd b) = -1) (p14_ : 0 ≤ nL) (cU : pj_U W sd op ed lv nm om ps dl en cl) : pj_U W sd op ed lv nm (pu om (sd b) (ed b)) (pu ps (sd b) 1) dl (pu en b 1) cl := by
  obtain ⟨hop, hed⟩ := hG
  unfold pj_U at *
  intro w0
  simp only [pu]
  have g0 := hop b
  have g1 := hop w0
  have g2 := hed b w0
  have cU_0 := cU b
  have cU_1 := cU w0
  have cU_2 := cU (op w0)
  have f0 := p0_ b
  have f1 := p0_ w0
  have f2 := p0_ (op w0)
  have f3 := p0_ (op b)
  clear p0_
  clear hop hed cU
  grind (splits := 24)

set_option maxHeartbeats 1000000 in
theorem pt_wk_A1 {W : Int → Prop} {sd : Int → Int} {op : Int → Int} {ed : Int → Int} {st : Int → Int} {lv : Int → Int} {nm : Int → Int} {om : Int → Int} {ps : Int → Int} {dl : Int → Int} {dn : Int → Int} {en : Int → Int} {cl : Int → Int} {nL : Int} {F : Int → Prop} {fl : Int} {fc : Int} {b : Int} (hG : pj_G W sd op ed) (p0_ : ∀ v, ¬ F v) (p1_ : W b) (p2_ : st (sd b) = 0) (p3_ : en b = 0) (p4_ : lv (sd b) = 0) (p5_ : dl (sd b) = 0) (p6_ : om (sd b) = -1) (p7_ : ps (sd b) = 0) (p8_ : en (op b) ≠ 2) (p9_ : en (op b) = 0 ∨ en (op b) = 1) (p10_ : cl (ed b) = 0) (p11_ : en (op b) = 1 → om (sd (op b)) = (ed b) ∧ ps (sd (op b)) = 1 ∧ dl (sd (op b)) = lv (sd (op b)) ∧ lv (sd (op b)) = 0) (p12_ : 0 ≤ lv (sd (op b))) (p13_ : nm (sd b) = -1) (p14_ : 0 ≤ nL) (cA1 : pj_A1 W sd op ed lv nm om dl dn en F fl fc) : pj_A1 W sd op ed lv nm (pu om (sd b) (ed b)) dl dn (pu en b 1) F fl fc := by
  obtain ⟨hop, hed⟩ := hG
  unfold pj_A1 at *
  intro w0
  simp only [pu]
  have g0 := hop b
  have g1 := hop w0
  have g2 := hed b w0
  have cA1_0 := cA1 b
  have cA1_1 := cA1 w0
  have cA1_2 := cA1 (op w0)
  have f0 := p0_ b
  have f1 := p0_ w0
  have f2 := p0_ (op w0)
  have f3 := p0_ (op b)
  clear p0_
  clear hop hed cA1
  grind (splits := 24)

set_option maxHeartbeats 1000000 in
theorem pt_wk_A2 {W : Int → Prop} {sd : Int → Int} {op : Int → Int} {ed : Int → Int} {st : Int → Int} {lv : Int → Int} {nm : Int → Int} {om : Int → Int} {ps : Int → Int} {dl : Int → Int} {dn : Int → Int} {en : Int → Int} {cl : Int → Int} {nL : Int} {F : Int → Prop} {b : Int} (hG : pj_G W sd op ed) (p0_ : ∀ v, ¬ F v) (p1_ : W b) (p2_ : st (sd b) = 0) (p3_ : en b = 0) (p4_ : lv (sd b) = 0) (p5_ : dl (sd b) = 0) (p6_ : om (sd b) = -1) (p7_ : ps (sd b) = 0) (p8_ : en (op b) ≠ 2) (p9_ : en (op b) = 0 ∨ en (op b) = 1) (p10_ : cl (ed b) = 0) (p11_ : en (op b) = 1 → om (sd (op b)) = (ed b) ∧ ps (sd (op b)) = 1 ∧ dl (sd (op b)) = lv (sd (op b)) ∧ lv (sd (op b)) = 0) (p12_ : 0 ≤ lv (sd (op b))) (p13_ : nm (sd b) = -1) (p14_ : 0 ≤ nL) (cA2 : pj_A2 W sd op ed st lv nm om ps dl dn cl) (cN2 : pj_N2 W sd ed om en) : pj_A2 W sd op ed (pu st (sd b) 2) lv nm (pu om (sd b) (ed b)) (pu ps (sd b) 1) dl dn cl := by
  obtain ⟨hop, hed⟩ := hG
  unfold pj_A2 pj_N2 at *
  intro w0
  simp only [pu]
  have g0 := hop b
  have g1 := hop w0
  have g2 := hed b w0
  have cA2_0 := cA2 b
  have cA2_1 := cA2 w0
  have cA2_2 := cA2 (op w0)
  have cN2_0 := cN2 b
  have cN2_1 := cN2 w0
  have cN2_2 := cN2 (op w0)
  have f0 := p0_ b
  have f1 := p0_ w0
  have f2 := p0_ (op w0)
  have f3 := p0_ (op b)
  clear p0_
  clear hop hed cA2 cN2
  grind (splits := 24)

set_option maxHeartbeats 1000000 in
theorem pt_wk_EC {W : Int → Prop} {sd : Int → Int} {op : Int → Int} {ed : Int → Int} {st : Int → Int} {lv : Int → Int} {nm : Int → Int} {om : Int → Int} {ps : Int → Int} {dl : Int → Int} {en : Int → Int} {cl : Int → Int} {nL : Int} {kd : Int → Int} {wy : Int → Int} {wh : Int → Int} {F : Int → Prop} {b : Int} (hG : pj_G W sd op ed) (p0_ : ∀ v, ¬ F v) (p1_ : W b) (p2_ : st (sd b) = 0) (p3_ : en b = 0) (p4_ : lv (sd b) = 0) (p5_ : dl (sd b) = 0) (p6_ : om (sd b) = -1) (p7_ : ps (sd b) = 0) (p8_ : en (op b) ≠ 2) (p9_ : en (op b) = 0 ∨ en (op b) = 1) (p10_ : cl (ed b) = 0) (p11_ : en (op b) = 1 → om (sd (op b)) = (ed b) ∧ ps (sd (op b)) = 1 ∧ dl (sd (op b)) = lv (sd (op b)) ∧ lv (sd (op b)) = 0) (p12_ : 0 ≤ lv (sd (op b))) (p13_ : nm (sd b) = -1) (p14_ : 0 ≤ nL) (cEC : pj_EC W sd op ed lv nm om ps dl nL kd wy wh F) (cN2 : pj_N2 W sd ed om en) : pj_EC W sd op ed lv nm (pu om (sd b) (ed b)) (pu ps (sd b) 1) dl (nL + 1) (pu kd nL 0) (pu wy nL b) (pu wh nL 0) F := by
  obtain ⟨hop, hed⟩ := hG
  unfold pj_EC pj_N2 at *
  intro w0
  simp only [pu]
  have g0 := hop b
  have g1 := hop w0
  have g2 := hed b w0
  have cEC_0 := cEC w0
  have cN2_0 := cN2 b
  have cN2_1 := cN2 w0
  have cN2_2 := cN2 (op w0)
  have f0 := p0_ b
  have f1 := p0_ w0
  have f2 := p0_ (op w0)
  have f3 := p0_ (op b)
  clear p0_
  clear hop hed cEC cN2
  intro h1 h2 h3 h4 h5
  by_cases hq : w0 = b
  · right; exact ⟨nL, by grind⟩
  · rcases cEC_0 h1 (by grind) (by grind) h4 h5 with h6 | ⟨k1, hk⟩
    · left; grind
    · right; exact ⟨k1, by grind⟩

set_option maxHeartbeats 1000000 in
theorem pt_wk_R3 {W : Int → Prop} {sd : Int → Int} {op : Int → Int} {ed : Int → Int} {st : Int → Int} {lv : Int → Int} {nm : Int → Int} {om : Int → Int} {ps : Int → Int} {dl : Int → Int} {en : Int → Int} {pd : Int → Int} {cl : Int → Int} {nL : Int} {F : Int → Prop} {b : Int} (hG : pj_G W sd op ed) (p0_ : ∀ v, ¬ F v) (p1_ : W b) (p2_ : st (sd b) = 0) (p3_ : en b = 0) (p4_ : lv (sd b) = 0) (p5_ : dl (sd b) = 0) (p6_ : om (sd b) = -1) (p7_ : ps (sd b) = 0) (p8_ : en (op b) ≠ 2) (p9_ : en (op b) = 0 ∨ en (op b) = 1) (p10_ : cl (ed b) = 0) (p11_ : en (op b) = 1 → om (sd (op b)) = (ed b) ∧ ps (sd (op b)) = 1 ∧ dl (sd (op b)) = lv (sd (op b)) ∧ lv (sd (op b)) = 0) (p12_ : 0 ≤ lv (sd (op b))) (p13_ : nm (sd b) = -1) (p14_ : 0 ≤ nL) (cR3 : pj_R3 W sd op ed st om pd) : pj_R3 W sd op ed (pu st (sd b) 2) (pu om (sd b) (ed b)) pd := by
  obtain ⟨hop, hed⟩ := hG
  unfold pj_R3 at *
  intro w0
  simp only [pu]
  have g0 := hop b
  have g1 := hop w0
  have g2 := hed b w0
  have cR3_0 := cR3 b
  have cR3_1 := cR3 w0
  have cR3_2 := cR3 (op w0)
  have f0 := p0_ b
  have f1 := p0_ w0
  have f2 := p0_ (op w0)
  have f3 := p0_ (op b)
  clear p0_
  clear hop hed cR3
  grind (splits := 24)

set_option maxHeartbeats 1000000 in
theorem pt_wk_N11 {W : Int → Prop} {sd : Int → Int} {op : Int → Int} {ed : Int → Int} {st : Int → Int} {lv : Int → Int} {nm : Int → Int} {tow : Int → Int} {tst : Int → Int} {om : Int → Int} {ps : Int → Int} {dl : Int → Int} {en : Int → Int} {cl : Int → Int} {nL : Int} {F : Int → Prop} {b : Int} (hG : pj_G W sd op ed) (p0_ : ∀ v, ¬ F v) (p1_ : W b) (p2_ : st (sd b) = 0) (p3_ : en b = 0) (p4_ : lv (sd b) = 0) (p5_ : dl (sd b) = 0) (p6_ : om (sd b) = -1) (p7_ : ps (sd b) = 0) (p8_ : en (op b) ≠ 2) (p9_ : en (op b) = 0 ∨ en (op b) = 1) (p10_ : cl (ed b) = 0) (p11_ : en (op b) = 1 → om (sd (op b)) = (ed b) ∧ ps (sd (op b)) = 1 ∧ dl (sd (op b)) = lv (sd (op b)) ∧ lv (sd (op b)) = 0) (p12_ : 0 ≤ lv (sd (op b))) (p13_ : nm (sd b) = -1) (p14_ : 0 ≤ nL) (cN11 : pj_N11 W sd op ed lv nm tow tst ps en) : pj_N11 W sd op ed lv nm tow tst (pu ps (sd b) 1) (pu en b 1) := by
  obtain ⟨hop, hed⟩ := hG
  unfold pj_N11 at *
  intro w0
  simp only [pu]
  have g0 := hop b
  have g1 := hop w0
  have g2 := hed b w0
  have cN11_0 := cN11 b
  have cN11_1 := cN11 w0
  have cN11_2 := cN11 (op w0)
  have f0 := p0_ b
  have f1 := p0_ w0
  have f2 := p0_ (op w0)
  have f3 := p0_ (op b)
  clear p0_
  clear hop hed cN11
  grind (splits := 24)

set_option maxHeartbeats 1000000 in
theorem pt_wk_N12 {W : Int → Prop} {sd : Int → Int} {op : Int → Int} {ed : Int → Int} {st : Int → Int} {lv : Int → Int} {nm : Int → Int} {inw : Int → Int} {tow : Int → Int} {om : Int → Int} {ps : Int → Int} {dl : Int → Int} {en : Int → Int} {cl : Int → Int} {nL : Int} {F : Int → Prop} {b : Int} (hG : pj_G W sd op ed) (p0_ : ∀ v, ¬ F v) (p1_ : W b) (p2_ : st (sd b) = 0) (p3_ : en b = 0) (p4_ : lv (sd b) = 0) (p5_ : dl (sd b) = 0) (p6_ : om (sd b) = -1) (p7_ : ps (sd b) = 0) (p8_ : en (op b) ≠ 2) (p9_ : en (op b) = 0 ∨ en (op b) = 1) (p10_ : cl (ed b) = 0) (p11_ : en (op b) = 1 → om (sd (op b)) = (ed b) ∧ ps (sd (op b)) = 1 ∧ dl (sd (op b)) = lv (sd (op b)) ∧ lv (sd (op b)) = 0) (p12_ : 0 ≤ lv (sd (op b))) (p13_ : nm (sd b) = -1) (p14_ : 0 ≤ nL) (cN12 : pj_N12 W sd op ed st lv nm inw tow om ps dl en) : pj_N12 W sd op ed (pu st (sd b) 2) lv nm inw tow (pu om (sd b) (ed b)) (pu ps (sd b) 1) dl (pu en b 1) := by
  obtain ⟨hop, hed⟩ := hG
  unfold pj_N12 at *
  intro w0
  simp only [pu]
  have g0 := hop b
  have g1 := hop w0
  have g2 := hed b w0
  have cN12_0 := cN12 b
  have cN12_1 := cN12 w0
  have cN12_2 := cN12 (op w0)
  have f0 := p0_ b
  have f1 := p0_ w0
  have f2 := p0_ (op w0)
  have f3 := p0_ (op b)
  clear p0_
  clear hop hed cN12
  grind (splits := 24)

set_option maxHeartbeats 1000000 in
theorem pt_wk_N3 {W : Int → Prop} {sd : Int → Int} {op : Int → Int} {ed : Int → Int} {st : Int → Int} {lv : Int → Int} {nm : Int → Int} {om : Int → Int} {ps : Int → Int} {dl : Int → Int} {en : Int → Int} {cl : Int → Int} {nL : Int} {F : Int → Prop} {b : Int} (hG : pj_G W sd op ed) (p0_ : ∀ v, ¬ F v) (p1_ : W b) (p2_ : st (sd b) = 0) (p3_ : en b = 0) (p4_ : lv (sd b) = 0) (p5_ : dl (sd b) = 0) (p6_ : om (sd b) = -1) (p7_ : ps (sd b) = 0) (p8_ : en (op b) ≠ 2) (p9_ : en (op b) = 0 ∨ en (op b) = 1) (p10_ : cl (ed b) = 0) (p11_ : en (op b) = 1 → om (sd (op b)) = (ed b) ∧ ps (sd (op b)) = 1 ∧ dl (sd (op b)) = lv (sd (op b)) ∧ lv (sd (op b)) = 0) (p12_ : 0 ≤ lv (sd (op b))) (p13_ : nm (sd b) = -1) (p14_ : 0 ≤ nL) (cN3 : pj_N3 W sd op ed om en) : pj_N3 W sd op ed (pu om (sd b) (ed b)) (pu en b 1) := by
  obtain ⟨hop, hed⟩ := hG
  unfold pj_N3 at *
  intro w0
  simp only [pu]
  have g0 := hop b
  have g1 := hop w0
  have g2 := hed b w0
  have cN3_0 := cN3 b
  have cN3_1 := cN3 w0
  have cN3_2 := cN3 (op w0)
  have f0 := p0_ b
  have f1 := p0_ w0
  have f2 := p0_ (op w0)
  have f3 := p0_ (op b)
  clear p0_
  clear hop hed cN3
  grind (splits := 24)

set_option maxHeartbeats 1000000 in
theorem pt_wk_RJ {W : Int → Prop} {sd : Int → Int} {op : Int → Int} {ed : Int → Int} {st : Int → Int} {lv : Int → Int} {nm : Int → Int} {tst : Int → Int} {om : Int → Int} {ps : Int → Int} {dl : Int → Int} {en : Int → Int} {fw : Int → Int} {cl : Int → Int} {nL : Int} {F : Int → Prop} {b : Int} (hG : pj_G W sd op ed) (p0_ : ∀ v, ¬ F v) (p1_ : W b) (p2_ : st (sd b) = 0) (p3_ : en b = 0) (p4_ : lv (sd b) = 0) (p5_ : dl (sd b) = 0) (p6_ : om (sd b) = -1) (p7_ : ps (sd b) = 0) (p8_ : en (op b) ≠ 2) (p9_ : en (op b) = 0 ∨ en (op b) = 1) (p10_ : cl (ed b) = 0) (p11_ : en (op b) = 1 → om (sd (op b)) = (ed b) ∧ ps (sd (op b)) = 1 ∧ dl (sd (op b)) = lv (sd (op b)) ∧ lv (sd (op b)) = 0) (p12_ : 0 ≤ lv (sd (op b))) (p13_ : nm (sd b) = -1) (p14_ : 0 ≤ nL) (cRJ : pj_RJ W sd op ed tst en fw) : pj_RJ W sd op ed tst (pu en b 1) fw := by
  obtain ⟨hop, hed⟩ := hG
  unfold pj_RJ at *
  intro w0
  simp only [pu]
  have g0 := hop b
  have g1 := hop w0
  have g2 := hed b w0
  have cRJ_0 := cRJ b
  have cRJ_1 := cRJ w0
  have cRJ_2 := cRJ (op w0)
  have f0 := p0_ b
  have f1 := p0_ w0
  have f2 := p0_ (op w0)
  have f3 := p0_ (op b)
  clear p0_
  clear hop hed cRJ
  grind (splits := 24)

set_option maxHeartbeats 1000000 in
theorem pt_wk_FW {W : Int → Prop} {sd : Int → Int} {op : Int → Int} {ed : Int → Int} {st : Int → Int} {lv : Int → Int} {nm : Int → Int} {tst : Int → Int} {om : Int → Int} {ps : Int → Int} {dl : Int → Int} {en : Int → Int} {fw : Int → Int} {cl : Int → Int} {nL : Int} {F : Int → Prop} {b : Int} (hG : pj_G W sd op ed) (p0_ : ∀ v, ¬ F v) (p1_ : W b) (p2_ : st (sd b) = 0) (p3_ : en b = 0) (p4_ : lv (sd b) = 0) (p5_ : dl (sd b) = 0) (p6_ : om (sd b) = -1) (p7_ : ps (sd b) = 0) (p8_ : en (op b) ≠ 2) (p9_ : en (op b) = 0 ∨ en (op b) = 1) (p10_ : cl (ed b) = 0) (p11_ : en (op b) = 1 → om (sd (op b)) = (ed b) ∧ ps (sd (op b)) = 1 ∧ dl (sd (op b)) = lv (sd (op b)) ∧ lv (sd (op b)) = 0) (p12_ : 0 ≤ lv (sd (op b))) (p13_ : nm (sd b) = -1) (p14_ : 0 ≤ nL) (cFW : pj_FW W sd ed tst en fw) : pj_FW W sd ed tst (pu en b 1) fw := by
  obtain ⟨hop, hed⟩ := hG
  unfold pj_FW at *
  intro w0
  simp only [pu]
  have g0 := hop b
  have g1 := hop w0
  have g2 := hed b w0
  have cFW_0 := cFW b
  have cFW_1 := cFW w0
  have cFW_2 := cFW (op w0)
  have f0 := p0_ b
  have f1 := p0_ w0
  have f2 := p0_ (op w0)
  have f3 := p0_ (op b)
  clear p0_
  clear hop hed cFW
  grind (splits := 24)

set_option maxHeartbeats 1000000 in
theorem pt_wk_PD {W : Int → Prop} {sd : Int → Int} {op : Int → Int} {ed : Int → Int} {st : Int → Int} {lv : Int → Int} {nm : Int → Int} {om : Int → Int} {ps : Int → Int} {dl : Int → Int} {en : Int → Int} {pd : Int → Int} {cl : Int → Int} {nL : Int} {F : Int → Prop} {b : Int} (hG : pj_G W sd op ed) (p0_ : ∀ v, ¬ F v) (p1_ : W b) (p2_ : st (sd b) = 0) (p3_ : en b = 0) (p4_ : lv (sd b) = 0) (p5_ : dl (sd b) = 0) (p6_ : om (sd b) = -1) (p7_ : ps (sd b) = 0) (p8_ : en (op b) ≠ 2) (p9_ : en (op b) = 0 ∨ en (op b) = 1) (p10_ : cl (ed b) = 0) (p11_ : en (op b) = 1 → om (sd (op b)) = (ed b) ∧ ps (sd (op b)) = 1 ∧ dl (sd (op b)) = lv (sd (op b)) ∧ lv (sd (op b)) = 0) (p12_ : 0 ≤ lv (sd (op b))) (p13_ : nm (sd b) = -1) (p14_ : 0 ≤ nL) (cPD : pj_PD W sd op ed st om en pd) : pj_PD W sd op ed (pu st (sd b) 2) (pu om (sd b) (ed b)) (pu en b 1) pd := by
  obtain ⟨hop, hed⟩ := hG
  unfold pj_PD at *
  intro w0
  simp only [pu]
  have g0 := hop b
  have g1 := hop w0
  have g2 := hed b w0
  have cPD_0 := cPD b
  have cPD_1 := cPD w0
  have cPD_2 := cPD (op w0)
  have f0 := p0_ b
  have f1 := p0_ w0
  have f2 := p0_ (op w0)
  have f3 := p0_ (op b)
  clear p0_
  clear hop hed cPD
  grind (splits := 24)

set_option maxHeartbeats 1000000 in
theorem pt_wk_CC {W : Int → Prop} {sd : Int → Int} {op : Int → Int} {ed : Int → Int} {st : Int → Int} {lv : Int → Int} {nm : Int → Int} {om : Int → Int} {ps : Int → Int} {dl : Int → Int} {en : Int → Int} {cl : Int → Int} {nL : Int} {F : Int → Prop} {b : Int} (hG : pj_G W sd op ed) (p0_ : ∀ v, ¬ F v) (p1_ : W b) (p2_ : st (sd b) = 0) (p3_ : en b = 0) (p4_ : lv (sd b) = 0) (p5_ : dl (sd b) = 0) (p6_ : om (sd b) = -1) (p7_ : ps (sd b) = 0) (p8_ : en (op b) ≠ 2) (p9_ : en (op b) = 0 ∨ en (op b) = 1) (p10_ : cl (ed b) = 0) (p11_ : en (op b) = 1 → om (sd (op b)) = (ed b) ∧ ps (sd (op b)) = 1 ∧ dl (sd (op b)) = lv (sd (op b)) ∧ lv (sd (op b)) = 0) (p12_ : 0 ≤ lv (sd (op b))) (p13_ : nm (sd b) = -1) (p14_ : 0 ≤ nL) (cCC : pj_CC W ed en cl) : pj_CC W ed (pu en b 1) cl := by
  obtain ⟨hop, hed⟩ := hG
  unfold pj_CC at *
  intro w0
  simp only [pu]
  have g0 := hop b
  have g1 := hop w0
  have g2 := hed b w0
  have cCC_0 := cCC b
  have cCC_1 := cCC w0
  have cCC_2 := cCC (op w0)
  have f0 := p0_ b
  have f1 := p0_ w0
  have f2 := p0_ (op w0)
  have f3 := p0_ (op b)
  clear p0_
  clear hop hed cCC
  grind (splits := 24)

set_option maxHeartbeats 1000000 in
theorem pt_wk_CD {W : Int → Prop} {sd : Int → Int} {op : Int → Int} {ed : Int → Int} {st : Int → Int} {lv : Int → Int} {nm : Int → Int} {om : Int → Int} {ps : Int → Int} {dl : Int → Int} {en : Int → Int} {cl : Int → Int} {nL : Int} {F : Int → Prop} {b : Int} (hG : pj_G W sd op ed) (p0_ : ∀ v, ¬ F v) (p1_ : W b) (p2_ : st (sd b) = 0) (p3_ : en b = 0) (p4_ : lv (sd b) = 0) (p5_ : dl (sd b) = 0) (p6_ : om (sd b) = -1) (p7_ : ps (sd b) = 0) (p8_ : en (op b) ≠ 2) (p9_ : en (op b) = 0 ∨ en (op b) = 1) (p10_ : cl (ed b) = 0) (p11_ : en (op b) = 1 → om (sd (op b)) = (ed b) ∧ ps (sd (op b)) = 1 ∧ dl (sd (op b)) = lv (sd (op b)) ∧ lv (sd (op b)) = 0) (p12_ : 0 ≤ lv (sd (op b))) (p13_ : nm (sd b) = -1) (p14_ : 0 ≤ nL) (cCD : pj_CD W sd op ed om dl cl) : pj_CD W sd op ed (pu om (sd b) (ed b)) dl cl := by
  obtain ⟨hop, hed⟩ := hG
  unfold pj_CD at *
  intro w0
  simp only [pu]
  have g0 := hop b
  have g1 := hop w0
  have g2 := hed b w0
  have cCD_0 := cCD b
  have cCD_1 := cCD w0
  have cCD_2 := cCD (op w0)
  have f0 := p0_ b
  have f1 := p0_ w0
  have f2 := p0_ (op w0)
  have f3 := p0_ (op b)
  clear p0_
  clear hop hed cCD
  grind (splits := 24)

set_option maxHeartbeats 1000000 in
theorem pt_wk_RP {W : Int → Prop} {sd : Int → Int} {op : Int → Int} {ed : Int → Int} {st : Int → Int} {lv : Int → Int} {nm : Int → Int} {bst : Int → Int} {om : Int → Int} {ps : Int → Int} {dl : Int → Int} {en : Int → Int} {rp : Int → Int} {rv : Int → Int} {cl : Int → Int} {nL : Int} {F : Int → Prop} {b : Int} (hG : pj_G W sd op ed) (p0_ : ∀ v, ¬ F v) (p1_ : W b) (p2_ : st (sd b) = 0) (p3_ : en b = 0) (p4_ : lv (sd b) = 0) (p5_ : dl (sd b) = 0) (p6_ : om (sd b) = -1) (p7_ : ps (sd b) = 0) (p8_ : en (op b) ≠ 2) (p9_ : en (op b) = 0 ∨ en (op b) = 1) (p10_ : cl (ed b) = 0) (p11_ : en (op b) = 1 → om (sd (op b)) = (ed b) ∧ ps (sd (op b)) = 1 ∧ dl (sd (op b)) = lv (sd (op b)) ∧ lv (sd (op b)) = 0) (p12_ : 0 ≤ lv (sd (op b))) (p13_ : nm (sd b) = -1) (p14_ : 0 ≤ nL) (cRP : pj_RP W sd ed st lv nm bst rp rv) : pj_RP W sd ed (pu st (sd b) 2) lv nm bst rp rv := by
  obtain ⟨hop, hed⟩ := hG
  unfold pj_RP at *
  intro w0
  simp only [pu]
  have g0 := hop b
  have g1 := hop w0
  have g2 := hed b w0
  have cRP_0 := cRP b
  have cRP_1 := cRP w0
  have cRP_2 := cRP (op w0)
  have f0 := p0_ b
  have f1 := p0_ w0
  have f2 := p0_ (op w0)
  have f3 := p0_ (op b)
  clear p0_
  clear hop hed cRP
  grind (splits := 24)

set_option maxHeartbeats 1000000 in
theorem pt_wk_Z0 {W : Int → Prop} {sd : Int → Int} {op : Int → Int} {ed : Int → Int} {st : Int → Int} {lv : Int → Int} {nm : Int → Int} {om : Int → Int} {ps : Int → Int} {dl : Int → Int} {c0 : Int → Int} {en : Int → Int} {cl : Int → Int} {nL : Int} {F : Int → Prop} {b : Int} (hG : pj_G W sd op ed) (p0_ : ∀ v, ¬ F v) (p1_ : W b) (p2_ : st (sd b) = 0) (p3_ : en b = 0) (p4_ : lv (sd b) = 0) (p5_ : dl (sd b) = 0) (p6_ : om (sd b) = -1) (p7_ : ps (sd b) = 0) (p8_ : en (op b) ≠ 2) (p9_ : en (op b) = 0 ∨ en (op b) = 1) (p10_ : cl (ed b) = 0) (p11_ : en (op b) = 1 → om (sd (op b)) = (ed b) ∧ ps (sd (op b)) = 1 ∧ dl (sd (op b)) = lv (sd (op b)) ∧ lv (sd (op b)) = 0) (p12_ : 0 ≤ lv (sd (op b))) (p13_ : nm (sd b) = -1) (p14_ : 0 ≤ nL) (cZ0 : pj_Z0 W sd ed c0 cl) (cCC : pj_CC W ed en cl) (cN1w : pj_N1w W sd st en) : pj_Z0 W sd ed (pu c0 (sd b) (ed b)) cl := by
  obtain ⟨hop, hed⟩ := hG
  unfold pj_Z0 pj_CC pj_N1w at *
  intro w0
  simp only [pu]
  have g0 := hop b
  have g1 := hop w0
  have g2 := hed b w0
  have cZ0_0 := cZ0 b
  have cZ0_1 := cZ0 w0
  have cZ0_2 := cZ0 (op w0)
  have cCC_0 := cCC b
  have cCC_1 := cCC w0
  have cCC_2 := cCC (op w0)
  have cN1w_0 := cN1w b
  have cN1w_1 := cN1w w0
  have cN1w_2 := cN1w (op w0)
  have f0 := p0_ b
  have f1 := p0_ w0
  have f2 := p0_ (op w0)
  have f3 := p0_ (op b)
  clear p0_
  clear hop hed cZ0 cCC cN1w
  grind (splits := 24)

set_option maxHeartbeats 1000000 in
theorem pt_wk_WH {W : Int → Prop} {sd : Int → Int} {op : Int → Int} {ed : Int → Int} {st : Int → Int} {lv : Int → Int} {nm : Int → Int} {om : Int → Int} {ps : Int → Int} {dl : Int → Int} {en : Int → Int} {cl : Int → Int} {nL : Int} {kd : Int → Int} {wy : Int → Int} {wh : Int → Int} {F : Int → Prop} {b : Int} (hG : pj_G W sd op ed) (p0_ : ∀ v, ¬ F v) (p1_ : W b) (p2_ : st (sd b) = 0) (p3_ : en b = 0) (p4_ : lv (sd b) = 0) (p5_ : dl (sd b) = 0) (p6_ : om (sd b) = -1) (p7_ : ps (sd b) = 0) (p8_ : en (op b) ≠ 2) (p9_ : en (op b) = 0 ∨ en (op b) = 1) (p10_ : cl (ed b) = 0) (p11_ : en (op b) = 1 → om (sd (op b)) = (ed b) ∧ ps (sd (op b)) = 1 ∧ dl (sd (op b)) = lv (sd (op b)) ∧ lv (sd (op b)) = 0) (p12_ : 0 ≤ lv (sd (op b))) (p13_ : nm (sd b) = -1) (p14_ : 0 ≤ nL) (cWH : pj_WH nL kd wh) (cR : pj_R W nL kd wy wh) : pj_WH (nL + 1) (pu kd nL 0) (pu wh nL 0) := by
  obtain ⟨hop, hed⟩ := hG
  unfold pj_WH pj_R at *
  intro k0
  simp only [pu]
  have g0 := hop b
  have g1 := hop (wy k0)
  have g2 := hed b (wy k0)
  have cWH_0 := cWH k0
  have cR_0 := cR k0
  have f0 := p0_ b
  have f1 := p0_ (wy k0)
  have f2 := p0_ (op (wy k0))
  have f3 := p0_ (op b)
  clear p0_
  clear hop hed cWH cR
  grind (splits := 24)

set_option maxHeartbeats 1000000 in
theorem pt_wk_FI {W : Int → Prop} {sd : Int → Int} {op : Int → Int} {ed : Int → Int} {st : Int → Int} {lv : Int → Int} {nm : Int → Int} {om : Int → Int} {ps : Int → Int} {dl : Int → Int} {en : Int → Int} {cl : Int → Int} {nL : Int} {kd : Int → Int} {wy : Int → Int} {wh : Int → Int} {F : Int → Prop} {b : Int} (hG : pj_G W sd op ed) (p0_ : ∀ v, ¬ F v) (p1_ : W b) (p2_ : st (sd b) = 0) (p3_ : en b = 0) (p4_ : lv (sd b) = 0) (p5_ : dl (sd b) = 0) (p6_ : om (sd b) = -1) (p7_ : ps (sd b) = 0) (p8_ : en (op b) ≠ 2) (p9_ : en (op b) = 0 ∨ en (op b) = 1) (p10_ : cl (ed b) = 0) (p11_ : en (op b) = 1 → om (sd (op b)) = (ed b) ∧ ps (sd (op b)) = 1 ∧ dl (sd (op b)) = lv (sd (op b)) ∧ lv (sd (op b)) = 0) (p12_ : 0 ≤ lv (sd (op b))) (p13_ : nm (sd b) = -1) (p14_ : 0 ≤ nL) (cFI : pj_FI nL wy wh) (cR : pj_R W nL kd wy wh) : pj_FI (nL + 1) (pu wy nL b) (pu wh nL 0) := by
  obtain ⟨hop, hed⟩ := hG
  unfold pj_FI pj_R at *
  intro j0 k0
  simp only [pu]
  have g0 := hop b
  have g1 := hop (wy j0)
  have g2 := hop (wy k0)
  have g3 := hed b (wy j0)
  have g4 := hed b (wy k0)
  have g5 := hed (wy j0) (wy k0)
  have cFI_0 := cFI j0 j0
  have cFI_1 := cFI j0 k0
  have cFI_2 := cFI k0 j0
  have cFI_3 := cFI k0 k0
  have cR_0 := cR j0
  have cR_1 := cR k0
  have f0 := p0_ b
  have f1 := p0_ (wy j0)
  have f2 := p0_ (op (wy j0))
  have f3 := p0_ (wy k0)
  have f4 := p0_ (op (wy k0))
  have f5 := p0_ (op b)
  clear p0_
  clear hop hed cFI cR
  grind (splits := 24)

set_option maxHeartbeats 1000000 in
theorem pt_wk_L0 {W : Int → Prop} {sd : Int → Int} {op : Int → Int} {ed : Int → Int} {st : Int → Int} {lv : Int → Int} {nm : Int → Int} {om : Int → Int} {ps : Int → Int} {dl : Int → Int} {c0 : Int → Int} {en : Int → Int} {cl : Int → Int} {cw : Int → Int} {nL : Int} {kd : Int → Int} {wy : Int → Int} {ll : Int → Int} {wh : Int → Int} {F : Int → Prop} {b : Int} (hG : pj_G W sd op ed) (p0_ : ∀ v, ¬ F v) (p1_ : W b) (p2_ : st (sd b) = 0) (p3_ : en b = 0) (p4_ : lv (sd b) = 0) (p5_ : dl (sd b) = 0) (p6_ : om (sd b) = -1) (p7_ : ps (sd b) = 0) (p8_ : en (op b) ≠ 2) (p9_ : en (op b) = 0 ∨ en (op b) = 1) (p10_ : cl (ed b) = 0) (p11_ : en (op b) = 1 → om (sd (op b)) = (ed b) ∧ ps (sd (op b)) = 1 ∧ dl (sd (op b)) = lv (sd (op b)) ∧ lv (sd (op b)) = 0) (p12_ : 0 ≤ lv (sd (op b))) (p13_ : nm (sd b) = -1) (p14_ : 0 ≤ nL) (cL0 : pj_L0 sd op ed lv nm om ps dl c0 en cw nL kd wy ll wh) (cR : pj_R W nL kd wy wh) : pj_L0 sd op ed lv nm (pu om (sd b) (ed b)) (pu ps (sd b) 1) dl (pu c0 (sd b) (ed b)) (pu en b 1) cw (nL + 1) (pu kd nL 0) (pu wy nL b) (pu ll nL (0)) (pu wh nL 0) := by
  obtain ⟨hop, hed⟩ := hG
  unfold pj_L0 pj_R at *
  intro k0
  simp only [pu]
  have g0 := hop b
  have g1 := hop (wy k0)
  have g2 := hed b (wy k0)
  have cL0_0 := cL0 k0
  have cR_0 := cR k0
  have f0 := p0_ b
  have f1 := p0_ (wy k0)
  have f2 := p0_ (op (wy k0))
  have f3 := p0_ (op b)
  clear p0_
  clear hop hed cL0 cR
  grind (splits := 24)

set_option maxHeartbeats 1000000 in
theorem pt_wk_FC {W : Int → Prop} {sd : Int → Int} {op : Int → Int} {ed : Int → Int} {st : Int → Int} {lv : Int → Int} {nm : Int → Int} {om : Int → Int} {ps : Int → Int} {dl : Int → Int} {en : Int → Int} {cl : Int → Int} {nL : Int} {kd : Int → Int} {wy : Int → Int} {wh : Int → Int} {F : Int → Prop} {b : Int} (hG : pj_G W sd op ed) (p0_ : ∀ v, ¬ F v) (p1_ : W b) (p2_ : st (sd b) = 0) (p3_ : en b = 0) (p4_ : lv (sd b) = 0) (p5_ : dl (sd b) = 0) (p6_ : om (sd b) = -1) (p7_ : ps (sd b) = 0) (p8_ : en (op b) ≠ 2) (p9_ : en (op b) = 0 ∨ en (op b) = 1) (p10_ : cl (ed b) = 0) (p11_ : en (op b) = 1 → om (sd (op b)) = (ed b) ∧ ps (sd (op b)) = 1 ∧ dl (sd (op b)) = lv (sd (op b)) ∧ lv (sd (op b)) = 0) (p12_ : 0 ≤ lv (sd (op b))) (p13_ : nm (sd b) = -1) (p14_ : 0 ≤ nL) (cFC : pj_FC op nL kd wy wh F) (cR : pj_R W nL kd wy wh) : pj_FC op (nL + 1) (pu kd nL 0) (pu wy nL b) (pu wh nL 0) F := by
  obtain ⟨hop, hed⟩ := hG
  unfold pj_FC pj_R at *
  intro k0
  simp only [pu]
  have g0 := hop b
  have g1 := hop (wy k0)
  have g2 := hed b (wy k0)
  have cFC_0 := cFC k0
  have cR_0 := cR k0
  have f0 := p0_ b
  have f1 := p0_ (wy k0)
  have f2 := p0_ (op (wy k0))
  have f3 := p0_ (op b)
  clear p0_
  clear hop hed cFC cR
  grind (splits := 24)

set_option maxHeartbeats 1000000 in
theorem pt_wk_L0u {W : Int → Prop} {sd : Int → Int} {op : Int → Int} {ed : Int → Int} {st : Int → Int} {lv : Int → Int} {nm : Int → Int} {om : Int → Int} {ps : Int → Int} {dl : Int → Int} {en : Int → Int} {cl : Int → Int} {nL : Int} {kd : Int → Int} {wy : Int → Int} {wh : Int → Int} {F : Int → Prop} {b : Int} (hG : pj_G W sd op ed) (p0_ : ∀ v, ¬ F v) (p1_ : W b) (p2_ : st (sd b) = 0) (p3_ : en b = 0) (p4_ : lv (sd b) = 0) (p5_ : dl (sd b) = 0) (p6_ : om (sd b) = -1) (p7_ : ps (sd b) = 0) (p8_ : en (op b) ≠ 2) (p9_ : en (op b) = 0 ∨ en (op b) = 1) (p10_ : cl (ed b) = 0) (p11_ : en (op b) = 1 → om (sd (op b)) = (ed b) ∧ ps (sd (op b)) = 1 ∧ dl (sd (op b)) = lv (sd (op b)) ∧ lv (sd (op b)) = 0) (p12_ : 0 ≤ lv (sd (op b))) (p13_ : nm (sd b) = -1) (p14_ : 0 ≤ nL) (cL0u : pj_L0u nL kd wy wh) (cR : pj_R W nL kd wy wh) (cN1c : pj_N1c sd op st nL wy wh) : pj_L0u (nL + 1) (pu kd nL 0) (pu wy nL b) (pu wh nL 0) := by
  obtain ⟨hop, hed⟩ := hG
  unfold pj_L0u pj_R pj_N1c at *
  intro j0 k0
  simp only [pu]
  have g0 := hop b
  have g1 := hop (wy j0)
  have g2 := hop (wy k0)
  have g3 := hed b (wy j0)
  have g4 := hed b (wy k0)
  have g5 := hed (wy j0) (wy k0)
  have cL0u_0 := cL0u j0 j0
  have cL0u_1 := cL0u j0 k0
  have cL0u_2 := cL0u k0 j0
  have cL0u_3 := cL0u k0 k0
  have cR_0 := cR j0
  have cR_1 := cR k0
  have cN1c_0 := cN1c j0
  have cN1c_1 := cN1c k0
  have f0 := p0_ b
  have f1 := p0_ (wy j0)
  have f2 := p0_ (op (wy j0))
  have f3 := p0_ (wy k0)
  have f4 := p0_ (op (wy k0))
  have f5 := p0_ (op b)
  clear p0_
  clear hop hed cL0u cR cN1c
  grind (splits := 24)

set_option maxHeartbeats 1000000 in
theorem pt_wk_OC {W : Int → Prop} {sd : Int → Int} {op : Int → Int} {ed : Int → Int} {st : Int → Int} {lv : Int → Int} {nm : Int → Int} {om : Int → Int} {ps : Int → Int} {dl : Int → Int} {en : Int → Int} {cl : Int → Int} {nL : Int} {kd : Int → Int} {wy : Int → Int} {wh : Int → Int} {F : Int → Prop} {b : Int} (hG : pj_G W sd op ed) (p0_ : ∀ v, ¬ F v) (p1_ : W b) (p2_ : st (sd b) = 0) (p3_ : en b = 0) (p4_ : lv (sd b) = 0) (p5_ : dl (sd b) = 0) (p6_ : om (sd b) = -1) (p7_ : ps (sd b) = 0) (p8_ : en (op b) ≠ 2) (p9_ : en (op b) = 0 ∨ en (op b) = 1) (p10_ : cl (ed b) = 0) (p11_ : en (op b) = 1 → om (sd (op b)) = (ed b) ∧ ps (sd (op b)) = 1 ∧ dl (sd (op b)) = lv (sd (op b)) ∧ lv (sd (op b)) = 0) (p12_ : 0 ≤ lv (sd (op b))) (p13_ : nm (sd b) = -1) (p14_ : 0 ≤ nL) (cOC : pj_OC nL kd wy wh) (cR : pj_R W nL kd wy wh) (cN1c : pj_N1c sd op st nL wy wh) : pj_OC (nL + 1) (pu kd nL 0) (pu wy nL b) (pu wh nL 0) := by
  obtain ⟨hop, hed⟩ := hG
  unfold pj_OC pj_R pj_N1c at *
  intro j0 k0
  simp only [pu]
  have g0 := hop b
  have g1 := hop (wy j0)
  have g2 := hop (wy k0)
  have g3 := hed b (wy j0)
  have g4 := hed b (wy k0)
  have g5 := hed (wy j0) (wy k0)
  have cOC_0 := cOC j0 j0
  have cOC_1 := cOC j0 k0
  have cOC_2 := cOC k0 j0
  have cOC_3 := cOC k0 k0
  have cR_0 := cR j0
  have cR_1 := cR k0
  have cN1c_0 := cN1c j0
  have cN1c_1 := cN1c k0
  have f0 := p0_ b
  have f1 := p0_ (wy j0)
  have f2 := p0_ (op (wy j0))
  have f3 := p0_ (wy k0)
  have f4 := p0_ (op (wy k0))
  have f5 := p0_ (op b)
  clear p0_
  clear hop hed cOC cR cN1c
  grind (splits := 24)

set_option maxHeartbeats 1000000 in
theorem pt_wk_CT {W : Int → Prop} {sd : Int → Int} {op : Int → Int} {ed : Int → Int} {st : Int → Int} {lv : Int → Int} {nm : Int → Int} {om : Int → Int} {ps : Int → Int} {dl : Int → Int} {en : Int → Int} {cl : Int → Int} {nL : Int} {kd : Int → Int} {wy : Int → Int} {wh : Int → Int} {F : Int → Prop} {b : Int} (hG : pj_G W sd op ed) (p0_ : ∀ v, ¬ F v) (p1_ : W b) (p2_ : st (sd b) = 0) (p3_ : en b = 0) (p4_ : lv (sd b) = 0) (p5_ : dl (sd b) = 0) (p6_ : om (sd b) = -1) (p7_ : ps (sd b) = 0) (p8_ : en (op b) ≠ 2) (p9_ : en (op b) = 0 ∨ en (op b) = 1) (p10_ : cl (ed b) = 0) (p11_ : en (op b) = 1 → om (sd (op b)) = (ed b) ∧ ps (sd (op b)) = 1 ∧ dl (sd (op b)) = lv (sd (op b)) ∧ lv (sd (op b)) = 0) (p12_ : 0 ≤ lv (sd (op b))) (p13_ : nm (sd b) = -1) (p14_ : 0 ≤ nL) (cCT : pj_CT nL kd wy wh) (cR : pj_R W nL kd wy wh) (cN1c : pj_N1c sd op st nL wy wh) : pj_CT (nL + 1) (pu kd nL 0) (pu wy nL b) (pu wh nL 0) := by
  obtain ⟨hop, hed⟩ := hG
  unfold pj_CT pj_R pj_N1c at *
  intro j0 k0
  simp only [pu]
  have g0 := hop b
  have g1 := hop (wy j0)
  have g2 := hop (wy k0)
  have g3 := hed b (wy j0)
  have g4 := hed b (wy k0)
  have g5 := hed (wy j0) (wy k0)
  have cCT_0 := cCT j0 j0
  have cCT_1 := cCT j0 k0
  have cCT_2 := cCT k0 j0
  have cCT_3 := cCT k0 k0
  have cR_0 := cR j0
  have cR_1 := cR k0
  have cN1c_0 := cN1c j0
  have cN1c_1 := cN1c k0
  have f0 := p0_ b
  have f1 := p0_ (wy j0)
  have f2 := p0_ (op (wy j0))
  have f3 := p0_ (wy k0)
  have f4 := p0_ (op (wy k0))
  have f5 := p0_ (op b)
  clear p0_
  clear hop hed cCT cR cN1c
  grind (splits := 24)

set_option maxHeartbeats 1000000 in
theorem pt_wk_L1 {W : Int → Prop} {sd : Int → Int} {op : Int → Int} {ed : Int → Int} {st : Int → Int} {lv : Int → Int} {nm : Int → Int} {om : Int → Int} {ps : Int → Int} {dl : Int → Int} {en : Int → Int} {cl : Int → Int} {nL : Int} {kd : Int → Int} {wy : Int → Int} {ll : Int → Int} {td : Int → Int} {ls : Int → Int} {wh : Int → Int} {F : Int → Prop} {b : Int} (hG : pj_G W sd op ed) (p0_ : ∀ v, ¬ F v) (p1_ : W b) (p2_ : st (sd b) = 0) (p3_ : en b = 0) (p4_ : lv (sd b) = 0) (p5_ : dl (sd b) = 0) (p6_ : om (sd b) = -1) (p7_ : ps (sd b) = 0) (p8_ : en (op b) ≠ 2) (p9_ : en (op b) = 0 ∨ en (op b) = 1) (p10_ : cl (ed b) = 0) (p11_ : en (op b) = 1 → om (sd (op b)) = (ed b) ∧ ps (sd (op b)) = 1 ∧ dl (sd (op b)) = lv (sd (op b)) ∧ lv (sd (op b)) = 0) (p12_ : 0 ≤ lv (sd (op b))) (p13_ : nm (sd b) = -1) (p14_ : 0 ≤ nL) (cL1 : pj_L1 sd op ed st lv om dl en cl nL kd wy ll td ls wh) (cR : pj_R W nL kd wy wh) : pj_L1 sd op ed (pu st (sd b) 2) lv (pu om (sd b) (ed b)) dl (pu en b 1) cl (nL + 1) (pu kd nL 0) (pu wy nL b) (pu ll nL (0)) (pu td nL (-1)) (pu ls nL (-1)) (pu wh nL 0) := by
  obtain ⟨hop, hed⟩ := hG
  unfold pj_L1 pj_R at *
  intro k0
  simp only [pu]
  have g0 := hop b
  have g1 := hop (wy k0)
  have g2 := hed b (wy k0)
  have cL1_0 := cL1 k0
  have cR_0 := cR k0
  have f0 := p0_ b
  have f1 := p0_ (wy k0)
  have f2 := p0_ (op (wy k0))
  have f3 := p0_ (op b)
  clear p0_
  clear hop hed cL1 cR
  grind (splits := 24)

set_option maxHeartbeats 1000000 in
theorem pt_wk_L1e {W : Int → Prop} {sd : Int → Int} {op : Int → Int} {ed : Int → Int} {st : Int → Int} {lv : Int → Int} {nm : Int → Int} {om : Int → Int} {ps : Int → Int} {dl : Int → Int} {dn : Int → Int} {en : Int → Int} {cl : Int → Int} {nL : Int} {kd : Int → Int} {wy : Int → Int} {ll : Int → Int} {td : Int → Int} {ls : Int → Int} {wh : Int → Int} {F : Int → Prop} {b : Int} (hG : pj_G W sd op ed) (p0_ : ∀ v, ¬ F v) (p1_ : W b) (p2_ : st (sd b) = 0) (p3_ : en b = 0) (p4_ : lv (sd b) = 0) (p5_ : dl (sd b) = 0) (p6_ : om (sd b) = -1) (p7_ : ps (sd b) = 0) (p8_ : en (op b) ≠ 2) (p9_ : en (op b) = 0 ∨ en (op b) = 1) (p10_ : cl (ed b) = 0) (p11_ : en (op b) = 1 → om (sd (op b)) = (ed b) ∧ ps (sd (op b)) = 1 ∧ dl (sd (op b)) = lv (sd (op b)) ∧ lv (sd (op b)) = 0) (p12_ : 0 ≤ lv (sd (op b))) (p13_ : nm (sd b) = -1) (p14_ : 0 ≤ nL) (cL1e : pj_L1e sd op dl dn nL kd wy ll td ls wh) (cR : pj_R W nL kd wy wh) : pj_L1e sd op dl dn (nL + 1) (pu kd nL 0) (pu wy nL b) (pu ll nL (0)) (pu td nL (-1)) (pu ls nL (-1)) (pu wh nL 0) := by
  obtain ⟨hop, hed⟩ := hG
  unfold pj_L1e pj_R at *
  intro k0
  simp only [pu]
  have g0 := hop b
  have g1 := hop (wy k0)
  have g2 := hed b (wy k0)
  have cL1e_0 := cL1e k0
  have cR_0 := cR k0
  have f0 := p0_ b
  have f1 := p0_ (wy k0)
  have f2 := p0_ (op (wy k0))
  have f3 := p0_ (op b)
  clear p0_
  clear hop hed cL1e cR
  grind (splits := 24)

set_option maxHeartbeats 1000000 in
theorem pt_wk_L1o {W : Int → Prop} {sd : Int → Int} {op : Int → Int} {ed : Int → Int} {st : Int → Int} {lv : Int → Int} {nm : Int → Int} {om : Int → Int} {ps : Int → Int} {dl : Int → Int} {en : Int → Int} {cl : Int → Int} {nL : Int} {kd : Int → Int} {wy : Int → Int} {ll : Int → Int} {wh : Int → Int} {F : Int → Prop} {b : Int} (hG : pj_G W sd op ed) (p0_ : ∀ v, ¬ F v) (p1_ : W b) (p2_ : st (sd b) = 0) (p3_ : en b = 0) (p4_ : lv (sd b) = 0) (p5_ : dl (sd b) = 0) (p6_ : om (sd b) = -1) (p7_ : ps (sd b) = 0) (p8_ : en (op b) ≠ 2) (p9_ : en (op b) = 0 ∨ en (op b) = 1) (p10_ : cl (ed b) = 0) (p11_ : en (op b) = 1 → om (sd (op b)) = (ed b) ∧ ps (sd (op b)) = 1 ∧ dl (sd (op b)) = lv (sd (op b)) ∧ lv (sd (op b)) = 0) (p12_ : 0 ≤ lv (sd (op b))) (p13_ : nm (sd b) = -1) (p14_ : 0 ≤ nL) (cL1o : pj_L1o nL kd wy ll wh) (cR : pj_R W nL kd wy wh) : pj_L1o (nL + 1) (pu kd nL 0) (pu wy nL b) (pu ll nL (0)) (pu wh nL 0) := by
  obtain ⟨hop, hed⟩ := hG
  unfold pj_L1o pj_R at *
  intro j0 k0
  simp only [pu]
  have g0 := hop b
  have g1 := hop (wy j0)
  have g2 := hop (wy k0)
  have g3 := hed b (wy j0)
  have g4 := hed b (wy k0)
  have g5 := hed (wy j0) (wy k0)
  have cL1o_0 := cL1o j0 j0
  have cL1o_1 := cL1o j0 k0
  have cL1o_2 := cL1o k0 j0
  have cL1o_3 := cL1o k0 k0
  have cR_0 := cR j0
  have cR_1 := cR k0
  have f0 := p0_ b
  have f1 := p0_ (wy j0)
  have f2 := p0_ (op (wy j0))
  have f3 := p0_ (wy k0)
  have f4 := p0_ (op (wy k0))
  have f5 := p0_ (op b)
  clear p0_
  clear hop hed cL1o cR
  grind (splits := 24)

set_option maxHeartbeats 1000000 in
theorem pt_wk_L1b {W : Int → Prop} {sd : Int → Int} {op : Int → Int} {ed : Int → Int} {st : Int → Int} {lv : Int → Int} {nm : Int → Int} {om : Int → Int} {ps : Int → Int} {dl : Int → Int} {en : Int → Int} {pd : Int → Int} {cl : Int → Int} {nL : Int} {kd : Int → Int} {wy : Int → Int} {td : Int → Int} {ls : Int → Int} {wh : Int → Int} {F : Int → Prop} {b : Int} (hG : pj_G W sd op ed) (p0_ : ∀ v, ¬ F v) (p1_ : W b) (p2_ : st (sd b) = 0) (p3_ : en b = 0) (p4_ : lv (sd b) = 0) (p5_ : dl (sd b) = 0) (p6_ : om (sd b) = -1) (p7_ : ps (sd b) = 0) (p8_ : en (op b) ≠ 2) (p9_ : en (op b) = 0 ∨ en (op b) = 1) (p10_ : cl (ed b) = 0) (p11_ : en (op b) = 1 → om (sd (op b)) = (ed b) ∧ ps (sd (op b)) = 1 ∧ dl (sd (op b)) = lv (sd (op b)) ∧ lv (sd (op b)) = 0) (p12_ : 0 ≤ lv (sd (op b))) (p13_ : nm (sd b) = -1) (p14_ : 0 ≤ nL) (cL1b : pj_L1b sd ed st om pd nL kd wy td ls wh) (cR : pj_R W nL kd wy wh) (cN1c : pj_N1c sd op st nL wy wh) : pj_L1b sd ed (pu st (sd b) 2) (pu om (sd b) (ed b)) pd (nL + 1) (pu kd nL 0) (pu wy nL b) (pu td nL (-1)) (pu ls nL (-1)) (pu wh nL 0) := by
  obtain ⟨hop, hed⟩ := hG
  unfold pj_L1b pj_R pj_N1c at *
  intro k0
  simp only [pu]
  have g0 := hop b
  have g1 := hop (wy k0)
  have g2 := hed b (wy k0)
  have cL1b_0 := cL1b k0
  have cR_0 := cR k0
  have cN1c_0 := cN1c k0
  have f0 := p0_ b
  have f1 := p0_ (wy k0)
  have f2 := p0_ (op (wy k0))
  have f3 := p0_ (op b)
  clear p0_
  clear hop hed cL1b cR cN1c
  grind (splits := 24)

set_option maxHeartbeats 1000000 in
theorem pt_wk_L1g {W : Int → Prop} {sd : Int → Int} {op : Int → Int} {ed : Int → Int} {st : Int → Int} {lv : Int → Int} {nm : Int → Int} {om : Int → Int} {ps : Int → Int} {dl : Int → Int} {en : Int → Int} {cl : Int → Int} {nL : Int} {kd : Int → Int} {wy : Int → Int} {td : Int → Int} {ls : Int → Int} {wh : Int → Int} {F : Int → Prop} {b : Int} (hG : pj_G W sd op ed) (p0_ : ∀ v, ¬ F v) (p1_ : W b) (p2_ : st (sd b) = 0) (p3_ : en b = 0) (p4_ : lv (sd b) = 0) (p5_ : dl (sd b) = 0) (p6_ : om (sd b) = -1) (p7_ : ps (sd b) = 0) (p8_ : en (op b) ≠ 2) (p9_ : en (op b) = 0 ∨ en (op b) = 1) (p10_ : cl (ed b) = 0) (p11_ : en (op b) = 1 → om (sd (op b)) = (ed b) ∧ ps (sd (op b)) = 1 ∧ dl (sd (op b)) = lv (sd (op b)) ∧ lv (sd (op b)) = 0) (p12_ : 0 ≤ lv (sd (op b))) (p13_ : nm (sd b) = -1) (p14_ : 0 ≤ nL) (cL1g : pj_L1g W sd op ed nL kd wy td ls wh) (cR : pj_R W nL kd wy wh) : pj_L1g W sd op ed (nL + 1) (pu kd nL 0) (pu wy nL b) (pu td nL (-1)) (pu ls nL (-1)) (pu wh nL 0) := by
  obtain ⟨hop, hed⟩ := hG
  unfold pj_L1g pj_R at *
  intro k0 v0
  simp only [pu]
  have g0 := hop b
  have g1 := hop (wy k0)
  have g2 := hop v0
  have g3 := hed b (wy k0)
  have g4 := hed b v0
  have g5 := hed (wy k0) v0
  have cL1g_0 := cL1g k0 b
  have cL1g_1 := cL1g k0 (wy k0)
  have cL1g_2 := cL1g k0 (op (wy k0))
  have cL1g_3 := cL1g k0 v0
  have cL1g_4 := cL1g k0 (op v0)
  have cR_0 := cR k0
  have f0 := p0_ b
  have f1 := p0_ (wy k0)
  have f2 := p0_ (op (wy k0))
  have f3 := p0_ v0
  have f4 := p0_ (op v0)
  have f5 := p0_ (op b)
  clear p0_
  clear hop hed cL1g cR
  grind (splits := 24)

set_option maxHeartbeats 1000000 in
theorem pt_wk_L2 {W : Int → Prop} {sd : Int → Int} {op : Int → Int} {ed : Int → Int} {st : Int → Int} {lv : Int → Int} {nm : Int → Int} {tst : Int → Int} {om : Int → Int} {ps : Int → Int} {dl : Int → Int} {en : Int → Int} {fw : Int → Int} {cl : Int → Int} {nL : Int} {kd : Int → Int} {wy : Int → Int} {ll : Int → Int} {td : Int → Int} {wh : Int → Int} {F : Int → Prop} {b : Int} (hG : pj_G W sd op ed) (p0_ : ∀ v, ¬ F v) (p1_ : W b) (p2_ : st (sd b) = 0) (p3_ : en b = 0) (p4_ : lv (sd b) = 0) (p5_ : dl (sd b) = 0) (p6_ : om (sd b) = -1) (p7_ : ps (sd b) = 0) (p8_ : en (op b) ≠ 2) (p9_ : en (op b) = 0 ∨ en (op b) = 1) (p10_ : cl (ed b) = 0) (p11_ : en (op b) = 1 → om (sd (op b)) = (ed b) ∧ ps (sd (op b)) = 1 ∧ dl (sd (op b)) = lv (sd (op b)) ∧ lv (sd (op b)) = 0) (p12_ : 0 ≤ lv (sd (op b))) (p13_ : nm (sd b) = -1) (p14_ : 0 ≤ nL) (cL2 : pj_L2 sd op ed st lv nm tst en fw nL kd wy ll td wh) (cR : pj_R W nL kd wy wh) : pj_L2 sd op ed (pu st (sd b) 2) lv nm tst (pu en b 1) fw (nL + 1) (pu kd nL 0) (pu wy nL b) (pu ll nL (0)) (pu td nL (-1)) (pu wh nL 0) := by
  obtain ⟨hop, hed⟩ := hG
  unfold pj_L2 pj_R at *
  intro k0
  simp only [pu]
  have g0 := hop b
  have g1 := hop (wy k0)
  have g2 := hed b (wy k0)
  have cL2_0 := cL2 k0
  have cR_0 := cR k0
  have f0 := p0_ b
  have f1 := p0_ (wy k0)
  have f2 := p0_ (op (wy k0))
  have f3 := p0_ (op b)
  clear p0_
  clear hop hed cL2 cR
  grind (splits := 24)

set_option maxHeartbeats 1000000 in
theorem pt_wk_L3 {W : Int → Prop} {sd : Int → Int} {op : Int → Int} {ed : Int → Int} {st : Int → Int} {lv : Int → Int} {nm : Int → Int} {tst : Int → Int} {om : Int → Int} {ps : Int → Int} {dl : Int → Int} {en : Int → Int} {fw : Int → Int} {cl : Int → Int} {nL : Int} {kd : Int → Int} {wy : Int → Int} {wh : Int → Int} {F : Int → Prop} {b : Int} (hG : pj_G W sd op ed) (p0_ : ∀ v, ¬ F v) (p1_ : W b) (p2_ : st (sd b) = 0) (p3_ : en b = 0) (p4_ : lv (sd b) = 0) (p5_ : dl (sd b) = 0) (p6_ : om (sd b) = -1) (p7_ : ps (sd b) = 0) (p8_ : en (op b) ≠ 2) (p9_ : en (op b) = 0 ∨ en (op b) = 1) (p10_ : cl (ed b) = 0) (p11_ : en (op b) = 1 → om (sd (op b)) = (ed b) ∧ ps (sd (op b)) = 1 ∧ dl (sd (op b)) = lv (sd (op b)) ∧ lv (sd (op b)) = 0) (p12_ : 0 ≤ lv (sd (op b))) (p13_ : nm (sd b) = -1) (p14_ : 0 ≤ nL) (cL3 : pj_L3 sd op ed st lv nm tst en fw nL kd wy wh) (cR : pj_R W nL kd wy wh) : pj_L3 sd op ed (pu st (sd b) 2) lv nm tst (pu en b 1) fw (nL + 1) (pu kd nL 0) (pu wy nL b) (pu wh nL 0) := by
  obtain ⟨hop, hed⟩ := hG
  unfold pj_L3 pj_R at *
  intro k0
  simp only [pu]
  have g0 := hop b
  have g1 := hop (wy k0)
  have g2 := hed b (wy k0)
  have cL3_0 := cL3 k0
  have cR_0 := cR k0
  have f0 := p0_ b
  have f1 := p0_ (wy k0)
  have f2 := p0_ (op (wy k0))
  have f3 := p0_ (op b)
  clear p0_
  clear hop hed cL3 cR
  grind (splits := 24)

set_option maxHeartbeats 1000000 in
theorem pt_wk_L4 {W : Int → Prop} {sd : Int → Int} {op : Int → Int} {ed : Int → Int} {st : Int → Int} {lv : Int → Int} {nm : Int → Int} {tst : Int → Int} {om : Int → Int} {ps : Int → Int} {dl : Int → Int} {en : Int → Int} {cl : Int → Int} {nL : Int} {kd : Int → Int} {wy : Int → Int} {wh : Int → Int} {F : Int → Prop} {b : Int} (hG : pj_G W sd op ed) (p0_ : ∀ v, ¬ F v) (p1_ : W b) (p2_ : st (sd b) = 0) (p3_ : en b = 0) (p4_ : lv (sd b) = 0) (p5_ : dl (sd b) = 0) (p6_ : om (sd b) = -1) (p7_ : ps (sd b) = 0) (p8_ : en (op b) ≠ 2) (p9_ : en (op b) = 0 ∨ en (op b) = 1) (p10_ : cl (ed b) = 0) (p11_ : en (op b) = 1 → om (sd (op b)) = (ed b) ∧ ps (sd (op b)) = 1 ∧ dl (sd (op b)) = lv (sd (op b)) ∧ lv (sd (op b)) = 0) (p12_ : 0 ≤ lv (sd (op b))) (p13_ : nm (sd b) = -1) (p14_ : 0 ≤ nL) (cL4 : pj_L4 sd op ed st tst en nL kd wy wh) (cR : pj_R W nL kd wy wh) : pj_L4 sd op ed (pu st (sd b) 2) tst (pu en b 1) (nL + 1) (pu kd nL 0) (pu wy nL b) (pu wh nL 0) := by
  obtain ⟨hop, hed⟩ := hG
  unfold pj_L4 pj_R at *
  intro k0
  simp only [pu]
  have g0 := hop b
  have g1 := hop (wy k0)
  have g2 := hed b (wy k0)
  have cL4_0 := cL4 k0
  have cR_0 := cR k0
  have f0 := p0_ b
  have f1 := p0_ (wy k0)
  have f2 := p0_ (op (wy k0))
  have f3 := p0_ (op b)
  clear p0_
  clear hop hed cL4 cR
  grind (splits := 24)

set_option maxHeartbeats 1000000 in
theorem pt_wk_AF {W : Int → Prop} {sd : Int → Int} {op : Int → Int} {ed : Int → Int} {st : Int → Int} {lv : Int → Int} {nm : Int → Int} {tst : Int → Int} {om : Int → Int} {ps : Int → Int} {dl : Int → Int} {af : Int → Int} {en : Int → Int} {cl : Int → Int} {nL : Int} {kd : Int → Int} {wy : Int → Int} {wh : Int → Int} {F : Int → Prop} {b : Int} (hG : pj_G W sd op ed) (p0_ : ∀ v, ¬ F v) (p1_ : W b) (p2_ : st (sd b) = 0) (p3_ : en b = 0) (p4_ : lv (sd b) = 0) (p5_ : dl (sd b) = 0) (p6_ : om (sd b) = -1) (p7_ : ps (sd b) = 0) (p8_ : en (op b) ≠ 2) (p9_ : en (op b) = 0 ∨ en (op b) = 1) (p10_ : cl (ed b) = 0) (p11_ : en (op b) = 1 → om (sd (op b)) = (ed b) ∧ ps (sd (op b)) = 1 ∧ dl (sd (op b)) = lv (sd (op b)) ∧ lv (sd (op b)) = 0) (p12_ : 0 ≤ lv (sd (op b))) (p13_ : nm (sd b) = -1) (p14_ : 0 ≤ nL) (cAF : pj_AF W sd op ed tst af nL kd wy wh) : pj_AF W sd op ed tst af (nL + 1) (pu kd nL 0) (pu wy nL b) (pu wh nL 0) := by
  obtain ⟨hop, hed⟩ := hG
  unfold pj_AF at *
  intro v0
  simp only [pu]
  have g0 := hop b
  have g1 := hop v0
  have g2 := hed b v0
  have cAF_0 := cAF b
  have cAF_1 := cAF v0
  have cAF_2 := cAF (op v0)
  have f0 := p0_ b
  have f1 := p0_ v0
  have f2 := p0_ (op v0)
  have f3 := p0_ (op b)
  clear p0_
  clear hop hed cAF
  grind (splits := 24)

set_option maxHeartbeats 1000000 in
theorem pt_wk_RT {W : Int → Prop} {sd : Int → Int} {op : Int → Int} {ed : Int → Int} {st : Int → Int} {lv : Int → Int} {nm : Int → Int} {tst : Int → Int} {om : Int → Int} {ps : Int → Int} {dl : Int → Int} {en : Int → Int} {cl : Int → Int} {nL : Int} {kd : Int → Int} {wy : Int → Int} {wh : Int → Int} {F : Int → Prop} {b : Int} (hG : pj_G W sd op ed) (p0_ : ∀ v, ¬ F v) (p1_ : W b) (p2_ : st (sd b) = 0) (p3_ : en b = 0) (p4_ : lv (sd b) = 0) (p5_ : dl (sd b) = 0) (p6_ : om (sd b) = -1) (p7_ : ps (sd b) = 0) (p8_ : en (op b) ≠ 2) (p9_ : en (op b) = 0 ∨ en (op b) = 1) (p10_ : cl (ed b) = 0) (p11_ : en (op b) = 1 → om (sd (op b)) = (ed b) ∧ ps (sd (op b)) = 1 ∧ dl (sd (op b)) = lv (sd (op b)) ∧ lv (sd (op b)) = 0) (p12_ : 0 ≤ lv (sd (op b))) (p13_ : nm (sd b) = -1) (p14_ : 0 ≤ nL) (cRT : pj_RT sd ed tst nL kd wy wh) (cR : pj_R W nL kd wy wh) : pj_RT sd ed tst (nL + 1) (pu kd nL 0) (pu wy nL b) (pu wh nL 0) := by
  obtain ⟨hop, hed⟩ := hG
  unfold pj_RT pj_R at *
  intro j0 k0
  simp only [pu]
  have g0 := hop b
  have g1 := hop (wy j0)
  have g2 := hop (wy k0)
  have g3 := hed b (wy j0)
  have g4 := hed b (wy k0)
  have g5 := hed (wy j0) (wy k0)
  have cRT_0 := cRT j0 j0
  have cRT_1 := cRT j0 k0
  have cRT_2 := cRT k0 j0
  have cRT_3 := cRT k0 k0
  have cR_0 := cR j0
  have cR_1 := cR k0
  have f0 := p0_ b
  have f1 := p0_ (wy j0)
  have f2 := p0_ (op (wy j0))
  have f3 := p0_ (wy k0)
  have f4 := p0_ (op (wy k0))
  have f5 := p0_ (op b)
  clear p0_
  clear hop hed cRT cR
  grind (splits := 24)

set_option maxHeartbeats 1000000 in
theorem pt_wk_CV {W : Int → Prop} {sd : Int → Int} {op : Int → Int} {ed : Int → Int} {st : Int → Int} {lv : Int → Int} {nm : Int → Int} {tst : Int → Int} {om : Int → Int} {ps : Int → Int} {dl : Int → Int} {en : Int → Int} {cl : Int → Int} {nL : Int} {kd : Int → Int} {wy : Int → Int} {wh : Int → Int} {F : Int → Prop} {b : Int} (hG : pj_G W sd op ed) (p0_ : ∀ v, ¬ F v) (p1_ : W b) (p2_ : st (sd b) = 0) (p3_ : en b = 0) (p4_ : lv (sd b) = 0) (p5_ : dl (sd b) = 0) (p6_ : om (sd b) = -1) (p7_ : ps (sd b) = 0) (p8_ : en (op b) ≠ 2) (p9_ : en (op b) = 0 ∨ en (op b) = 1) (p10_ : cl (ed b) = 0) (p11_ : en (op b) = 1 → om (sd (op b)) = (ed b) ∧ ps (sd (op b)) = 1 ∧ dl (sd (op b)) = lv (sd (op b)) ∧ lv (sd (op b)) = 0) (p12_ : 0 ≤ lv (sd (op b))) (p13_ : nm (sd b) = -1) (p14_ : 0 ≤ nL) (cCV : pj_CV W sd op ed tst nL kd wy wh) (cR : pj_R W nL kd wy wh) : pj_CV W sd op ed tst (nL + 1) (pu kd nL 0) (pu wy nL b) (pu wh nL 0) := by
  obtain ⟨hop, hed⟩ := hG
  unfold pj_CV pj_R at *
  intro v0 j0 k0
  simp only [pu]
  have g0 := hop b
  have g1 := hop v0
  have g2 := hop (wy j0)
  have g3 := hop (wy k0)
  have g4 := hed b v0
  have g5 := hed b (wy j0)
  have g6 := hed b (wy k0)
  have g7 := hed v0 (wy j0)
  have g8 := hed v0 (wy k0)
  have g9 := hed (wy j0) (wy k0)
  have cCV_0 := cCV v0 j0 k0
  have cR_0 := cR j0
  have cR_1 := cR k0
  have f0 := p0_ b
  have f1 := p0_ v0
  have f2 := p0_ (op v0)
  have f3 := p0_ (wy j0)
  have f4 := p0_ (op (wy j0))
  have f5 := p0_ (wy k0)
  have f6 := p0_ (op (wy k0))
  have f7 := p0_ (op b)
  clear p0_
  clear hop hed cCV cR
  grind (splits := 24)

set_option maxHeartbeats 1000000 in
theorem pt_wk_L5 {W : Int → Prop} {sd : Int → Int} {op : Int → Int} {ed : Int → Int} {st : Int → Int} {lv : Int → Int} {nm : Int → Int} {inw : Int → Int} {bst : Int → Int} {om : Int → Int} {ps : Int → Int} {dl : Int → Int} {en : Int → Int} {pd : Int → Int} {rp : Int → Int} {rv : Int → Int} {cl : Int → Int} {tk : Int → Int} {nL : Int} {kd : Int → Int} {wy : Int → Int} {td : Int → Int} {wh : Int → Int} {F : Int → Prop} {b : Int} (hG : pj_G W sd op ed) (p0_ : ∀ v, ¬ F v) (p1_ : W b) (p2_ : st (sd b) = 0) (p3_ : en b = 0) (p4_ : lv (sd b) = 0) (p5_ : dl (sd b) = 0) (p6_ : om (sd b) = -1) (p7_ : ps (sd b) = 0) (p8_ : en (op b) ≠ 2) (p9_ : en (op b) = 0 ∨ en (op b) = 1) (p10_ : cl (ed b) = 0) (p11_ : en (op b) = 1 → om (sd (op b)) = (ed b) ∧ ps (sd (op b)) = 1 ∧ dl (sd (op b)) = lv (sd (op b)) ∧ lv (sd (op b)) = 0) (p12_ : 0 ≤ lv (sd (op b))) (p13_ : nm (sd b) = -1) (p14_ : 0 ≤ nL) (cL5 : pj_L5 sd op ed st lv nm inw bst om ps dl pd rp rv cl tk nL kd wy td wh) (cR : pj_R W nL kd wy wh) : pj_L5 sd op ed (pu st (sd b) 2) lv nm inw bst (pu om (sd b) (ed b)) (pu ps (sd b) 1) dl pd rp rv cl tk (nL + 1) (pu kd nL 0) (pu wy nL b) (pu td nL (-1)) (pu wh nL 0) := by
  obtain ⟨hop, hed⟩ := hG
  unfold pj_L5 pj_R at *
  intro k0
  simp only [pu]
  have g0 := hop b
  have g1 := hop (wy k0)
  have g2 := hed b (wy k0)
  have cL5_0 := cL5 k0
  have cR_0 := cR k0
  have f0 := p0_ b
  have f1 := p0_ (wy k0)
  have f2 := p0_ (op (wy k0))
  have f3 := p0_ (op b)
  clear p0_
  clear hop hed cL5 cR
  grind (splits := 24)

set_option maxHeartbeats 1000000 in
theorem pt_wk_L5o {W : Int → Prop} {sd : Int → Int} {op : Int → Int} {ed : Int → Int} {st : Int → Int} {lv : Int → Int} {nm : Int → Int} {om : Int → Int} {ps : Int → Int} {dl : Int → Int} {en : Int → Int} {cl : Int → Int} {nL : Int} {kd : Int → Int} {wy : Int → Int} {wh : Int → Int} {F : Int → Prop} {b : Int} (hG : pj_G W sd op ed) (p0_ : ∀ v, ¬ F v) (p1_ : W b) (p2_ : st (sd b) = 0) (p3_ : en b = 0) (p4_ : lv (sd b) = 0) (p5_ : dl (sd b) = 0) (p6_ : om (sd b) = -1) (p7_ : ps (sd b) = 0) (p8_ : en (op b) ≠ 2) (p9_ : en (op b) = 0 ∨ en (op b) = 1) (p10_ : cl (ed b) = 0) (p11_ : en (op b) = 1 → om (sd (op b)) = (ed b) ∧ ps (sd (op b)) = 1 ∧ dl (sd (op b)) = lv (sd (op b)) ∧ lv (sd (op b)) = 0) (p12_ : 0 ≤ lv (sd (op b))) (p13_ : nm (sd b) = -1) (p14_ : 0 ≤ nL) (cL5o : pj_L5o sd op ed lv cl nL kd wy wh) (cR : pj_R W nL kd wy wh) : pj_L5o sd op ed lv cl (nL + 1) (pu kd nL 0) (pu wy nL b) (pu wh nL 0) := by
  obtain ⟨hop, hed⟩ := hG
  unfold pj_L5o pj_R at *
  intro j0 k0
  simp only [pu]
  have g0 := hop b
  have g1 := hop (wy j0)
  have g2 := hop (wy k0)
  have g3 := hed b (wy j0)
  have g4 := hed b (wy k0)
  have g5 := hed (wy j0) (wy k0)
  have cL5o_0 := cL5o j0 j0
  have cL5o_1 := cL5o j0 k0
  have cL5o_2 := cL5o k0 j0
  have cL5o_3 := cL5o k0 k0
  have cR_0 := cR j0
  have cR_1 := cR k0
  have f0 := p0_ b
  have f1 := p0_ (wy j0)
  have f2 := p0_ (op (wy j0))
  have f3 := p0_ (wy k0)
  have f4 := p0_ (op (wy k0))
  have f5 := p0_ (op b)
  clear p0_
  clear hop hed cL5o cR
  grind (splits := 24)

set_option maxHeartbeats 1000000 in
theorem pt_wk_L5u {W : Int → Prop} {sd : Int → Int} {op : Int → Int} {ed : Int → Int} {st : Int → Int} {lv : Int → Int} {nm : Int → Int} {om : Int → Int} {ps : Int → Int} {dl : Int → Int} {en : Int → Int} {cl : Int → Int} {nL : Int} {kd : Int → Int} {wy : Int → Int} {wh : Int → Int} {F : Int → Prop} {b : Int} (hG : pj_G W sd op ed) (p0_ : ∀ v, ¬ F v) (p1_ : W b) (p2_ : st (sd b) = 0) (p3_ : en b = 0) (p4_ : lv (sd b) = 0) (p5_ : dl (sd b) = 0) (p6_ : om (sd b) = -1) (p7_ : ps (sd b) = 0) (p8_ : en (op b) ≠ 2) (p9_ : en (op b) = 0 ∨ en (op b) = 1) (p10_ : cl (ed b) = 0) (p11_ : en (op b) = 1 → om (sd (op b)) = (ed b) ∧ ps (sd (op b)) = 1 ∧ dl (sd (op b)) = lv (sd (op b)) ∧ lv (sd (op b)) = 0) (p12_ : 0 ≤ lv (sd (op b))) (p13_ : nm (sd b) = -1) (p14_ : 0 ≤ nL) (cL5u : pj_L5u nL kd wy wh) (cR : pj_R W nL kd wy wh) : pj_L5u (nL + 1) (pu kd nL 0) (pu wy nL b) (pu wh nL 0) := by
  obtain ⟨hop, hed⟩ := hG
  unfold pj_L5u pj_R at *
  intro j0 k0
  simp only [pu]
  have g0 := hop b
  have g1 := hop (wy j0)
  have g2 := hop (wy k0)
  have g3 := hed b (wy j0)
  have g4 := hed b (wy k0)
  have g5 := hed (wy j0) (wy k0)
  have cL5u_0 := cL5u j0 j0
  have cL5u_1 := cL5u j0 k0
  have cL5u_2 := cL5u k0 j0
  have cL5u_3 := cL5u k0 k0
  have cR_0 := cR j0
  have cR_1 := cR k0
  have f0 := p0_ b
  have f1 := p0_ (wy j0)
  have f2 := p0_ (op (wy j0))
  have f3 := p0_ (wy k0)
  have f4 := p0_ (op (wy k0))
  have f5 := p0_ (op b)
  clear p0_
  clear hop hed cL5u cR
  grind (splits := 24)

set_option maxHeartbeats 1000000 in
theorem pt_wk_L6 {W : Int → Prop} {sd : Int → Int} {op : Int → Int} {ed : Int → Int} {st : Int → Int} {lv : Int → Int} {nm : Int → Int} {tow : Int → Int} {om : Int → Int} {ps : Int → Int} {dl : Int → Int} {en : Int → Int} {cl : Int → Int} {cw : Int → Int} {tk : Int → Int} {nL : Int} {kd : Int → Int} {wy : Int → Int} {wh : Int → Int} {F : Int → Prop} {b : Int} (hG : pj_G W sd op ed) (p0_ : ∀ v, ¬ F v) (p1_ : W b) (p2_ : st (sd b) = 0) (p3_ : en b = 0) (p4_ : lv (sd b) = 0) (p5_ : dl (sd b) = 0) (p6_ : om (sd b) = -1) (p7_ : ps (sd b) = 0) (p8_ : en (op b) ≠ 2) (p9_ : en (op b) = 0 ∨ en (op b) = 1) (p10_ : cl (ed b) = 0) (p11_ : en (op b) = 1 → om (sd (op b)) = (ed b) ∧ ps (sd (op b)) = 1 ∧ dl (sd (op b)) = lv (sd (op b)) ∧ lv (sd (op b)) = 0) (p12_ : 0 ≤ lv (sd (op b))) (p13_ : nm (sd b) = -1) (p14_ : 0 ≤ nL) (cL6 : pj_L6 sd op ed st lv nm tow om ps dl cw tk nL kd wy wh) (cR : pj_R W nL kd wy wh) : pj_L6 sd op ed (pu st (sd b) 2) lv nm tow (pu om (sd b) (ed b)) (pu ps (sd b) 1) dl cw tk (nL + 1) (pu kd nL 0) (pu wy nL b) (pu wh nL 0) := by
  obtain ⟨hop, hed⟩ := hG
  unfold pj_L6 pj_R at *
  intro k0
  simp only [pu]
  have g0 := hop b
  have g1 := hop (wy k0)
  have g2 := hed b (wy k0)
  have cL6_0 := cL6 k0
  have cR_0 := cR k0
  have f0 := p0_ b
  have f1 := p0_ (wy k0)
  have f2 := p0_ (op (wy k0))
  have f3 := p0_ (op b)
  clear p0_
  clear hop hed cL6 cR
  grind (splits := 24)

set_option maxHeartbeats 1000000 in
theorem pt_wk_L6u {W : Int → Prop} {sd : Int → Int} {op : Int → Int} {ed : Int → Int} {st : Int → Int} {lv : Int → Int} {nm : Int → Int} {om : Int → Int} {ps : Int → Int} {dl : Int → Int} {en : Int → Int} {cl : Int → Int} {nL : Int} {kd : Int → Int} {wy : Int → Int} {wh : Int → Int} {F : Int → Prop} {b : Int} (hG : pj_G W sd op ed) (p0_ : ∀ v, ¬ F v) (p1_ : W b) (p2_ : st (sd b) = 0) (p3_ : en b = 0) (p4_ : lv (sd b) = 0) (p5_ : dl (sd b) = 0) (p6_ : om (sd b) = -1) (p7_ : ps (sd b) = 0) (p8_ : en (op b) ≠ 2) (p9_ : en (op b) = 0 ∨ en (op b) = 1) (p10_ : cl (ed b) = 0) (p11_ : en (op b) = 1 → om (sd (op b)) = (ed b) ∧ ps (sd (op b)) = 1 ∧ dl (sd (op b)) = lv (sd (op b)) ∧ lv (sd (op b)) = 0) (p12_ : 0 ≤ lv (sd (op b))) (p13_ : nm (sd b) = -1) (p14_ : 0 ≤ nL) (cL6u : pj_L6u sd op nm nL kd wy wh) (cR : pj_R W nL kd wy wh) : pj_L6u sd op nm (nL + 1) (pu kd nL 0) (pu wy nL b) (pu wh nL 0) := by
  obtain ⟨hop, hed⟩ := hG
  unfold pj_L6u pj_R at *
  intro j0 k0
  simp only [pu]
  have g0 := hop b
  have g1 := hop (wy j0)
  have g2 := hop (wy k0)
  have g3 := hed b (wy j0)
  have g4 := hed b (wy k0)
  have g5 := hed (wy j0) (wy k0)
  have cL6u_0 := cL6u j0 j0
  have cL6u_1 := cL6u j0 k0
  have cL6u_2 := cL6u k0 j0
  have cL6u_3 := cL6u k0 k0
  have cR_0 := cR j0
  have cR_1 := cR k0
  have f0 := p0_ b
  have f1 := p0_ (wy j0)
  have f2 := p0_ (op (wy j0))
  have f3 := p0_ (wy k0)
  have f4 := p0_ (op (wy k0))
  have f5 := p0_ (op b)
  clear p0_
  clear hop hed cL6u cR
  grind (splits := 24)

theorem pj_wk {W : Int → Prop} {sd op ed : Int → Int} {li : Int → Int → Prop} {st lv nm inw tow bst tst exp om ps dl dn af c0 en pd rp rv fw cl cw tk kd wy ll td ls wh : Int → Int} {nL : Int} {F F2 : Int → Prop} {fl fc : Int} {b k : Int} (hG : pj_G W sd op ed) (p0_ : ∀ v, ¬ F v) (p1_ : W b) (p2_ : st (sd b) = 0) (p3_ : en b = 0) (p4_ : lv (sd b) = 0) (p5_ : dl (sd b) = 0) (p6_ : om (sd b) = -1) (p7_ : ps (sd b) = 0) (p8_ : en (op b) ≠ 2) (p9_ : en (op b) = 0 ∨ en (op b) = 1) (p10_ : cl (ed b) = 0) (p11_ : en (op b) = 1 → om (sd (op b)) = (ed b) ∧ ps (sd (op b)) = 1 ∧ dl (sd (op b)) = lv (sd (op b)) ∧ lv (sd (op b)) = 0) (p12_ : 0 ≤ lv (sd (op b))) (p13_ : nm (sd b) = -1) (p14_ : 0 ≤ nL) (h : pj_J W sd op ed li st lv nm inw tow bst tst exp om ps dl dn af c0 en pd rp rv fw cl cw tk nL kd wy ll td ls wh F fl fc) : pj_J W sd op ed li (pu st (sd b) 2) lv nm inw tow bst tst exp (pu om (sd b) (ed b)) (pu ps (sd b) 1) dl dn af (pu c0 (sd b) (ed b)) (pu en b 1) pd rp rv fw cl cw tk (nL + 1) (pu kd nL 0) (pu wy nL b) (pu ll nL (0)) (pu td nL (-1)) (pu ls nL (-1)) (pu wh nL 0) F fl fc := by
  obtain ⟨cR, cN0, cN1, cN1w, cER, cN1c, cN2, cN2e, cN2b, cN4e, cN4b, cN5, cN7, cN10, cN10e, cN13, cC1, cC2, cR3a, cE1, cU, cA1, cA2, cEC, cR3, cN11, cN12, cN3, cRJ, cFW, cPD, cCC, cCD, cRP, cRP1, cCR, cZ1, cZ0, cTK, cK2, cWH, cFI, cL0, cFC, cL0u, cOC, cCT, cL1, cL1e, cL1o, cL1b, cL1g, cL2, cL3, cL4, cAF, cRT, cCV, cL5, cL5o, cL5u, cL6, cL6u⟩ := h
  exact ⟨pt_wk_R hG p0_ p1_ p2_ p3_ p4_ p5_ p6_ p7_ p8_ p9_ p10_ p11_ p12_ p13_ p14_ cR, pt_wk_N0 hG p0_ p1_ p2_ p3_ p4_ p5_ p6_ p7_ p8_ p9_ p10_ p11_ p12_ p13_ p14_ cN0, pt_wk_N1 hG p0_ p1_ p2_ p3_ p4_ p5_ p6_ p7_ p8_ p9_ p10_ p11_ p12_ p13_ p14_ cN1, pt_wk_N1w hG p0_ p1_ p2_ p3_ p4_ p5_ p6_ p7_ p8_ p9_ p10_ p11_ p12_ p13_ p14_ cN1w, pt_wk_ER hG p0_ p1_ p2_ p3_ p4_ p5_ p6_ p7_ p8_ p9_ p10_ p11_ p12_ p13_ p14_ cER, pt_wk_N1c hG p0_ p1_ p2_ p3_ p4_ p5_ p6_ p7_ p8_ p9_ p10_ p11_ p12_ p13_ p14_ cN1c cR, pt_wk_N2 hG p0_ p1_ p2_ p3_ p4_ p5_ p6_ p7_ p8_ p9_ p10_ p11_ p12_ p13_ p14_ cN2, pt_wk_N2e hG p0_ p1_ p2_ p3_ p4_ p5_ p6_ p7_ p8_ p9_ p10_ p11_ p12_ p13_ p14_ cN2e, pt_wk_N2b hG p0_ p1_ p2_ p3_ p4_ p5_ p6_ p7_ p8_ p9_ p10_ p11_ p12_ p13_ p14_ cN2b, cN4e, pt_wk_N4b hG p0_ p1_ p2_ p3_ p4_ p5_ p6_ p7_ p8_ p9_ p10_ p11_ p12_ p13_ p14_ cN4b, pt_wk_N5 hG p0_ p1_ p2_ p3_ p4_ p5_ p6_ p7_ p8_ p9_ p10_ p11_ p12_ p13_ p14_ cN5, pt_wk_N7 hG p0_ p1_ p2_ p3_ p4_ p5_ p6_ p7_ p8_ p9_ p10_ p11_ p12_ p13_ p14_ cN7, cN10, cN10e, cN13, cC1, cC2, pt_wk_R3a hG p0_ p1_ p2_ p3_ p4_ p5_ p6_ p7_ p8_ p9_ p10_ p11_ p12_ p13_ p14_ cR3a, pt_wk_E1 hG p0_ p1_ p2_ p3_ p4_ p5_ p6_ p7_ p8_ p9_ p10_ p11_ p12_ p13_ p14_ cE1, pt_wk_U hG p0_ p1_ p2_ p3_ p4_ p5_ p6_ p7_ p8_ p9_ p10_ p11_ p12_ p13_ p14_ cU, pt_wk_A1 hG p0_ p1_ p2_ p3_ p4_ p5_ p6_ p7_ p8_ p9_ p10_ p11_ p12_ p13_ p14_ cA1, pt_wk_A2 hG p0_ p1_ p2_ p3_ p4_ p5_ p6_ p7_ p8_ p9_ p10_ p11_ p12_ p13_ p14_ cA2 cN2, pt_wk_EC hG p0_ p1_ p2_ p3_ p4_ p5_ p6_ p7_ p8_ p9_ p10_ p11_ p12_ p13_ p14_ cEC cN2, pt_wk_R3 hG p0_ p1_ p2_ p3_ p4_ p5_ p6_ p7_ p8_ p9_ p10_ p11_ p12_ p13_ p14_ cR3, pt_wk_N11 hG p0_ p1_ p2_ p3_ p4_ p5_ p6_ p7_ p8_ p9_ p10_ p11_ p12_ p13_ p14_ cN11, pt_wk_N12 hG p0_ p1_ p2_ p3_ p4_ p5_ p6_ p7_ p8_ p9_ p10_ p11_ p12_ p13_ p14_ cN12, pt_wk_N3 hG p0_ p1_ p2_ p3_ p4_ p5_ p6_ p7_ p8_ p9_ p10_ p11_ p12_ p13_ p14_ cN3, pt_wk_RJ hG p0_ p1_ p2_ p3_ p4_ p5_ p6_ p7_ p8_ p9_ p10_ p11_ p12_ p13_ p14_ cRJ, pt_wk_FW hG p0_ p1_ p2_ p3_ p4_ p5_ p6_ p7_ p8_ p9_ p10_ p11_ p12_ p13_ p14_ cFW, pt_wk_PD hG p0_ p1_ p2_ p3_ p4_ p5_ p6_ p7_ p8_ p9_ p10_ p11_ p12_ p13_ p14_ cPD, pt_wk_CC hG p0_ p1_ p2_ p3_ p4_ p5_ p6_ p7_ p8_ p9_ p10_ p11_ p12_ p13_ p14_ cCC, pt_wk_CD hG p0_ p1_ p2_ p3_ p4_ p5_ p6_ p7_ p8_ p9_ p10_ p11_ p12_ p13_ p14_ cCD, pt_wk_RP hG p0_ p1_ p2_ p3_ p4_ p5_ p6_ p7_ p8_ p9_ p10_ p11_ p12_ p13_ p14_ cRP, cRP1, cCR, cZ1, pt_wk_Z0 hG p0_ p1_ p2_ p3_ p4_ p5_ p6_ p7_ p8_ p9_ p10_ p11_ p12_ p13_ p14_ cZ0 cCC cN1w, cTK, cK2, pt_wk_WH hG p0_ p1_ p2_ p3_ p4_ p5_ p6_ p7_ p8_ p9_ p10_ p11_ p12_ p13_ p14_ cWH cR, pt_wk_FI hG p0_ p1_ p2_ p3_ p4_ p5_ p6_ p7_ p8_ p9_ p10_ p11_ p12_ p13_ p14_ cFI cR, pt_wk_L0 hG p0_ p1_ p2_ p3_ p4_ p5_ p6_ p7_ p8_ p9_ p10_ p11_ p12_ p13_ p14_ cL0 cR, pt_wk_FC hG p0_ p1_ p2_ p3_ p4_ p5_ p6_ p7_ p8_ p9_ p10_ p11_ p12_ p13_ p14_ cFC cR, pt_wk_L0u hG p0_ p1_ p2_ p3_ p4_ p5_ p6_ p7_ p8_ p9_ p10_ p11_ p12_ p13_ p14_ cL0u cR cN1c, pt_wk_OC hG p0_ p1_ p2_ p3_ p4_ p5_ p6_ p7_ p8_ p9_ p10_ p11_ p12_ p13_ p14_ cOC cR cN1c, pt_wk_CT hG p0_ p1_ p2_ p3_ p4_ p5_ p6_ p7_ p8_ p9_ p10_ p11_ p12_ p13_ p14_ cCT cR cN1c, pt_wk_L1 hG p0_ p1_ p2_ p3_ p4_ p5_ p6_ p7_ p8_ p9_ p10_ p11_ p12_ p13_ p14_ cL1 cR, pt_wk_L1e hG p0_ p1_ p2_ p3_ p4_ p5_ p6_ p7_ p8_ p9_ p10_ p11_ p12_ p13_ p14_ cL1e cR, pt_wk_L1o hG p0_ p1_ p2_ p3_ p4_ p5_ p6_ p7_ p8_ p9_ p10_ p11_ p12_ p13_ p14_ cL1o cR, pt_wk_L1b hG p0_ p1_ p2_ p3_ p4_ p5_ p6_ p7_ p8_ p9_ p10_ p11_ p12_ p13_ p14_ cL1b cR cN1c, pt_wk_L1g hG p0_ p1_ p2_ p3_ p4_ p5_ p6_ p7_ p8_ p9_ p10_ p11_ p12_ p13_ p14_ cL1g cR, pt_wk_L2 hG p0_ p1_ p2_ p3_ p4_ p5_ p6_ p7_ p8_ p9_ p10_ p11_ p12_ p13_ p14_ cL2 cR, pt_wk_L3 hG p0_ p1_ p2_ p3_ p4_ p5_ p6_ p7_ p8_ p9_ p10_ p11_ p12_ p13_ p14_ cL3 cR, pt_wk_L4 hG p0_ p1_ p2_ p3_ p4_ p5_ p6_ p7_ p8_ p9_ p10_ p11_ p12_ p13_ p14_ cL4 cR, pt_wk_AF hG p0_ p1_ p2_ p3_ p4_ p5_ p6_ p7_ p8_ p9_ p10_ p11_ p12_ p13_ p14_ cAF, pt_wk_RT hG p0_ p1_ p2_ p3_ p4_ p5_ p6_ p7_ p8_ p9_ p10_ p11_ p12_ p13_ p14_ cRT cR, pt_wk_CV hG p0_ p1_ p2_ p3_ p4_ p5_ p6_ p7_ p8_ p9_ p10_ p11_ p12_ p13_ p14_ cCV cR, pt_wk_L5 hG p0_ p1_ p2_ p3_ p4_ p5_ p6_ p7_ p8_ p9_ p10_ p11_ p12_ p13_ p14_ cL5 cR, pt_wk_L5o hG p0_ p1_ p2_ p3_ p4_ p5_ p6_ p7_ p8_ p9_ p10_ p11_ p12_ p13_ p14_ cL5o cR, pt_wk_L5u hG p0_ p1_ p2_ p3_ p4_ p5_ p6_ p7_ p8_ p9_ p10_ p11_ p12_ p13_ p14_ cL5u cR, pt_wk_L6 hG p0_ p1_ p2_ p3_ p4_ p5_ p6_ p7_ p8_ p9_ p10_ p11_ p12_ p13_ p14_ cL6 cR, pt_wk_L6u hG p0_ p1_ p2_ p3_ p4_ p5_ p6_ p7_ p8_ p9_ p10_ p11_ p12_ p13_ p14_ cL6u cR⟩

set_option maxHeartbeats 1000000 in
theorem pt_wn_N0 {W : Int → Prop} {sd : Int → Int} {op : Int → Int} {ed : Int → Int} {st : Int → Int} {lv : Int → Int} {ps : Int → Int} {dl : Int → Int} {af : Int → Int} {nL : Int} {b : Int} (hG : pj_G W sd op ed) (p0_ : st b = 0) (p1_ : ∀ w, W w → sd w ≠ b) (p2_ : 0 ≤ nL) (cN0 : pj_N0 st lv ps dl af) : pj_N0 (pu st b 2) lv ps dl af := by
  obtain ⟨hop, hed⟩ := hG
  unfold pj_N0 at *
  intro n0
  simp only [pu]
  have cN0_0 := cN0 b
  have cN0_1 := cN0 n0
  clear p1_
  clear hop hed cN0
  grind (splits := 24)

set_option maxHeartbeats 1000000 in
theorem pt_wn_N1 {W : Int → Prop} {sd : Int → Int} {op : Int → Int} {ed : Int → Int} {st : Int → Int} {lv : Int → Int} {om : Int → Int} {ps : Int → Int} {dl : Int → Int} {nL : Int} {b : Int} (hG : pj_G W sd op ed) (p0_ : st b = 0) (p1_ : ∀ w, W w → sd w ≠ b) (p2_ : 0 ≤ nL) (cN1 : pj_N1 st lv om ps dl) : pj_N1 (pu st b 2) lv om ps dl := by
  obtain ⟨hop, hed⟩ := hG
  unfold pj_N1 at *
  intro n0
  simp only [pu]
  have cN1_0 := cN1 b
  have cN1_1 := cN1 n0
  clear p1_
  clear hop hed cN1
  grind (splits := 24)

set_option maxHeartbeats 1000000 in
theorem pt_wn_N1w {W : Int → Prop} {sd : Int → Int} {op : Int → Int} {ed : Int → Int} {st : Int → Int} {en : Int → Int} {nL : Int} {b : Int} (hG : pj_G W sd op ed) (p0_ : st b = 0) (p1_ : ∀ w, W w → sd w ≠ b) (p2_ : 0 ≤ nL) (cN1w : pj_N1w W sd st en) : pj_N1w W sd (pu st b 2) en := by
  obtain ⟨hop, hed⟩ := hG
  unfold pj_N1w at *
  intro w0
  simp only [pu]
  have g0 := hop w0
  have cN1w_0 := cN1w w0
  have cN1w_1 := cN1w (op w0)
  have f0 := p1_ w0
  have f1 := p1_ (op w0)
  clear p1_
  clear hop hed cN1w
  grind (splits := 24)

set_option maxHeartbeats 1000000 in
theorem pt_wn_N1c {W : Int → Prop} {sd : Int → Int} {op : Int → Int} {ed : Int → Int} {st : Int → Int} {nL : Int} {kd : Int → Int} {wy : Int → Int} {wh : Int → Int} {b : Int} (hG : pj_G W sd op ed) (p0_ : st b = 0) (p1_ : ∀ w, W w → sd w ≠ b) (p2_ : 0 ≤ nL) (cN1c : pj_N1c sd op st nL wy wh) (cR : pj_R W nL kd wy wh) : pj_N1c sd op (pu st b 2) nL wy wh := by
  obtain ⟨hop, hed⟩ := hG
  unfold pj_N1c pj_R at *
  intro k0
  simp only [pu]
  have g0 := hop (wy k0)
  have cN1c_0 := cN1c k0
  have cR_0 := cR k0
  have f0 := p1_ (wy k0)
  have f1 := p1_ (op (wy k0))
  clear p1_
  clear hop hed cN1c cR
  grind (splits := 24)

set_option maxHeartbeats 1000000 in
theorem pt_wn_N2b {W : Int → Prop} {sd : Int → Int} {op : Int → Int} {ed : Int → Int} {st : Int → Int} {om : Int → Int} {nL : Int} {b : Int} (hG : pj_G W sd op ed) (p0_ : st b = 0) (p1_ : ∀ w, W w → sd w ≠ b) (p2_ : 0 ≤ nL) (cN2b : pj_N2b W sd st om) : pj_N2b W sd (pu st b 2) om := by
  obtain ⟨hop, hed⟩ := hG
  unfold pj_N2b at *
  intro w0
  simp only [pu]
  have g0 := hop w0
  have cN2b_0 := cN2b w0
  have cN2b_1 := cN2b (op w0)
  have f0 := p1_ w0
  have f1 := p1_ (op w0)
  clear p1_
  clear hop hed cN2b
  grind (splits := 24)

set_option maxHeartbeats 1000000 in
theorem pt_wn_N4b {W : Int → Prop} {sd : Int → Int} {op : Int → Int} {ed : Int → Int} {st : Int → Int} {lv : Int → Int} {nm : Int → Int} {inw : Int → Int} {tow : Int → Int} {bst : Int → Int} {om : Int → Int} {ps : Int → Int} {nL : Int} {b : Int} (hG : pj_G W sd op ed) (p0_ : st b = 0) (p1_ : ∀ w, W w → sd w ≠ b) (p2_ : 0 ≤ nL) (cN4b : pj_N4b st lv nm inw tow bst om ps) : pj_N4b (pu st b 2) lv nm inw tow bst om ps := by
  obtain ⟨hop, hed⟩ := hG
  unfold pj_N4b at *
  intro n0
  simp only [pu]
  have cN4b_0 := cN4b b
  have cN4b_1 := cN4b n0
  clear p1_
  clear hop hed cN4b
  grind (splits := 24)

set_option maxHeartbeats 1000000 in
theorem pt_wn_N7 {W : Int → Prop} {sd : Int → Int} {op : Int → Int} {ed : Int → Int} {st : Int → Int} {tst : Int → Int} {exp : Int → Int} {nL : Int} {b : Int} (hG : pj_G W sd op ed) (p0_ : st b = 0) (p1_ : ∀ w, W w → sd w ≠ b) (p2_ : 0 ≤ nL) (cN7 : pj_N7 st tst exp) : pj_N7 (pu st b 2) tst exp := by
  obtain ⟨hop, hed⟩ := hG
  unfold pj_N7 at *
  intro n0
  simp only [pu]
  have cN7_0 := cN7 b
  have cN7_1 := cN7 n0
  clear p1_
  clear hop hed cN7
  grind (splits := 24)

set_option maxHeartbeats 1000000 in
theorem pt_wn_R3a {W : Int → Prop} {sd : Int → Int} {op : Int → Int} {ed : Int → Int} {st : Int → Int} {lv : Int → Int} {dl : Int → Int} {nL : Int} {b : Int} (hG : pj_G W sd op ed) (p0_ : st b = 0) (p1_ : ∀ w, W w → sd w ≠ b) (p2_ : 0 ≤ nL) (cR3a : pj_R3a st lv dl) : pj_R3a (pu st b 2) lv dl := by
  obtain ⟨hop, hed⟩ := hG
  unfold pj_R3a at *
  intro n0
  simp only [pu]
  have cR3a_0 := cR3a b
  have cR3a_1 := cR3a n0
  clear p1_
  clear hop hed cR3a
  grind (splits := 24)

set_option maxHeartbeats 1000000 in
theorem pt_wn_A2 {W : Int → Prop} {sd : Int → Int} {op : Int → Int} {ed : Int → Int} {st : Int → Int} {lv : Int → Int} {nm : Int → Int} {om : Int → Int} {ps : Int → Int} {dl : Int → Int} {dn : Int → Int} {cl : Int → Int} {nL : Int} {b : Int} (hG : pj_G W sd op ed) (p0_ : st b = 0) (p1_ : ∀ w, W w → sd w ≠ b) (p2_ : 0 ≤ nL) (cA2 : pj_A2 W sd op ed st lv nm om ps dl dn cl) : pj_A2 W sd op ed (pu st b 2) lv nm om ps dl dn cl := by
  obtain ⟨hop, hed⟩ := hG
  unfold pj_A2 at *
  intro w0
  simp only [pu]
  have g0 := hop w0
  have cA2_0 := cA2 w0
  have cA2_1 := cA2 (op w0)
  have f0 := p1_ w0
  have f1 := p1_ (op w0)
  clear p1_
  clear hop hed cA2
  grind (splits := 24)

set_option maxHeartbeats 1000000 in
theorem pt_wn_R3 {W : Int → Prop} {sd : Int → Int} {op : Int → Int} {ed : Int → Int} {st : Int → Int} {om : Int → Int} {pd : Int → Int} {nL : Int} {b : Int} (hG : pj_G W sd op ed) (p0_ : st b = 0) (p1_ : ∀ w, W w → sd w ≠ b) (p2_ : 0 ≤ nL) (cR3 : pj_R3 W sd op ed st om pd) : pj_R3 W sd op ed (pu st b 2) om pd := by
  obtain ⟨hop, hed⟩ := hG
  unfold pj_R3 at *
  intro w0
  simp only [pu]
  have g0 := hop w0
  have cR3_0 := cR3 w0
  have cR3_1 := cR3 (op w0)
  have f0 := p1_ w0
  have f1 := p1_ (op w0)
  clear p1_
  clear hop hed cR3
  grind (splits := 24)

set_option maxHeartbeats 1000000 in
theorem pt_wn_N12 {W : Int → Prop} {sd : Int → Int} {op : Int → Int} {ed : Int → Int} {st : Int → Int} {lv : Int → Int} {nm : Int → Int} {inw : Int → Int} {tow : Int → Int} {om : Int → Int} {ps : Int → Int} {dl : Int → Int} {en : Int → Int} {nL : Int} {b : Int} (hG : pj_G W sd op ed) (p0_ : st b = 0) (p1_ : ∀ w, W w → sd w ≠ b) (p2_ : 0 ≤ nL) (cN12 : pj_N12 W sd op ed st lv nm inw tow om ps dl en) : pj_N12 W sd op ed (pu st b 2) lv nm inw tow om ps dl en := by
  obtain ⟨hop, hed⟩ := hG
  unfold pj_N12 at *
  intro w0
  simp only [pu]
  have g0 := hop w0
  have cN12_0 := cN12 w0
  have cN12_1 := cN12 (op w0)
  have f0 := p1_ w0
  have f1 := p1_ (op w0)
  clear p1_
  clear hop hed cN12
  grind (splits := 24)

set_option maxHeartbeats 1000000 in
theorem pt_wn_PD {W : Int → Prop} {sd : Int → Int} {op : Int → Int} {ed : Int → Int} {st : Int → Int} {om : Int → Int} {en : Int → Int} {pd : Int → Int} {nL : Int} {b : Int} (hG : pj_G W sd op ed) (p0_ : st b = 0) (p1_ : ∀ w, W w → sd w ≠ b) (p2_ : 0 ≤ nL) (cPD : pj_PD W sd op ed st om en pd) : pj_PD W sd op ed (pu st b 2) om en pd := by
  obtain ⟨hop, hed⟩ := hG
  unfold pj_PD at *
  intro w0
  simp only [pu]
  have g0 := hop w0
  have cPD_0 := cPD w0
  have cPD_1 := cPD (op w0)
  have f0 := p1_ w0
  have f1 := p1_ (op w0)
  clear p1_
  clear hop hed cPD
  grind (splits := 24)

set_option maxHeartbeats 1000000 in
theorem pt_wn_RP {W : Int → Prop} {sd : Int → Int} {op : Int → Int} {ed : Int → Int} {st : Int → Int} {lv : Int → Int} {nm : Int → Int} {bst : Int → Int} {rp : Int → Int} {rv : Int → Int} {nL : Int} {b : Int} (hG : pj_G W sd op ed) (p0_ : st b = 0) (p1_ : ∀ w, W w → sd w ≠ b) (p2_ : 0 ≤ nL) (cRP : pj_RP W sd ed st lv nm bst rp rv) : pj_RP W sd ed (pu st b 2) lv nm bst rp rv := by
  obtain ⟨hop, hed⟩ := hG
  unfold pj_RP at *
  intro w0
  simp only [pu]
  have g0 := hop w0
  have cRP_0 := cRP w0
  have cRP_1 := cRP (op w0)
  have f0 := p1_ w0
  have f1 := p1_ (op w0)
  clear p1_
  clear hop hed cRP
  grind (splits := 24)

set_option maxHeartbeats 1000000 in
theorem pt_wn_L1 {W : Int → Prop} {sd : Int → Int} {op : Int → Int} {ed : Int → Int} {st : Int → Int} {lv : Int → Int} {om : Int → Int} {dl : Int → Int} {en : Int → Int} {cl : Int → Int} {nL : Int} {kd : Int → Int} {wy : Int → Int} {ll : Int → Int} {td : Int → Int} {ls : Int → Int} {wh : Int → Int} {b : Int} (hG : pj_G W sd op ed) (p0_ : st b = 0) (p1_ : ∀ w, W w → sd w ≠ b) (p2_ : 0 ≤ nL) (cL1 : pj_L1 sd op ed st lv om dl en cl nL kd wy ll td ls wh) (cR : pj_R W nL kd wy wh) : pj_L1 sd op ed (pu st b 2) lv om dl en cl nL kd wy ll td ls wh := by
  obtain ⟨hop, hed⟩ := hG
  unfold pj_L1 pj_R at *
  intro k0
  simp only [pu]
  have g0 := hop (wy k0)
  have cL1_0 := cL1 k0
  have cR_0 := cR k0
  have f0 := p1_ (wy k0)
  have f1 := p1_ (op (wy k0))
  clear p1_
  clear hop hed cL1 cR
  grind (splits := 24)

set_option maxHeartbeats 1000000 in
theorem pt_wn_L1b {W : Int → Prop} {sd : Int → Int} {op : Int → Int} {ed : Int → Int} {st : Int → Int} {om : Int → Int} {pd : Int → Int} {nL : Int} {kd : Int → Int} {wy : Int → Int} {td : Int → Int} {ls : Int → Int} {wh : Int → Int} {b : Int} (hG : pj_G W sd op ed) (p0_ : st b = 0) (p1_ : ∀ w, W w → sd w ≠ b) (p2_ : 0 ≤ nL) (cL1b : pj_L1b sd ed st om pd nL kd wy td ls wh) (cR : pj_R W nL kd wy wh) : pj_L1b sd ed (pu st b 2) om pd nL kd wy td ls wh := by
  obtain ⟨hop, hed⟩ := hG
  unfold pj_L1b pj_R at *
  intro k0
  simp only [pu]
  have g0 := hop (wy k0)
  have cL1b_0 := cL1b k0
  have cR_0 := cR k0
  have f0 := p1_ (wy k0)
  have f1 := p1_ (op (wy k0))
  clear p1_
  clear hop hed cL1b cR
  grind (splits := 24)

set_option maxHeartbeats 1000000 in
theorem pt_wn_L2 {W : Int → Prop} {sd : Int → Int} {op : Int → Int} {ed : Int → Int} {st : Int → Int} {lv : Int → Int} {nm : Int → Int} {tst : Int → Int} {en : Int → Int} {fw : Int → Int} {nL : Int} {kd : Int → Int} {wy : Int → Int} {ll : Int → Int} {td : Int → Int} {wh : Int → Int} {b : Int} (hG : pj_G W sd op ed) (p0_ : st b = 0) (p1_ : ∀ w, W w → sd w ≠ b) (p2_ : 0 ≤ nL) (cL2 : pj_L2 sd op ed st lv nm tst en fw nL kd wy ll td wh) (cR : pj_R W nL kd wy wh) : pj_L2 sd op ed (pu st b 2) lv nm tst en fw nL kd wy ll td wh := by
  obtain ⟨hop, hed⟩ := hG
  unfold pj_L2 pj_R at *
  intro k0
  simp only [pu]
  have g0 := hop (wy k0)
  have cL2_0 := cL2 k0
  have cR_0 := cR k0
  have f0 := p1_ (wy k0)
  have f1 := p1_ (op (wy k0))
  clear p1_
  clear hop hed cL2 cR
  grind (splits := 24)

set_option maxHeartbeats 1000000 in
theorem pt_wn_L3 {W : Int → Prop} {sd : Int → Int} {op : Int → Int} {ed : Int → Int} {st : Int → Int} {lv : Int → Int} {nm : Int → Int} {tst : Int → Int} {en : Int → Int} {fw : Int → Int} {nL : Int} {kd : Int → Int} {wy : Int → Int} {wh : Int → Int} {b : Int} (hG : pj_G W sd op ed) (p0_ : st b = 0) (p1_ : ∀ w, W w → sd w ≠ b) (p2_ : 0 ≤ nL) (cL3 : pj_L3 sd op ed st lv nm tst en fw nL kd wy wh) (cR : pj_R W nL kd wy wh) : pj_L3 sd op ed (pu st b 2) lv nm tst en fw nL kd wy wh := by
  obtain ⟨hop, hed⟩ := hG
  unfold pj_L3 pj_R at *
  intro k0
  simp only [pu]
  have g0 := hop (wy k0)
  have cL3_0 := cL3 k0
  have cR_0 := cR k0
  have f0 := p1_ (wy k0)
  have f1 := p1_ (op (wy k0))
  clear p1_
  clear hop hed cL3 cR
  grind (splits := 24)

set_option maxHeartbeats 1000000 in
theorem pt_wn_L4 {W : Int → Prop} {sd : Int → Int} {op : Int → Int} {ed : Int → Int} {st : Int → Int} {tst : Int → Int} {en : Int → Int} {nL : Int} {kd : Int → Int} {wy : Int → Int} {wh : Int → Int} {b : Int} (hG : pj_G W sd op ed) (p0_ : st b = 0) (p1_ : ∀ w, W w → sd w ≠ b) (p2_ : 0 ≤ nL) (cL4 : pj_L4 sd op ed st tst en nL kd wy wh) (cR : pj_R W nL kd wy wh) : pj_L4 sd op ed (pu st b 2) tst en nL kd wy wh := by
  obtain ⟨hop, hed⟩ := hG
  unfold pj_L4 pj_R at *
  intro k0
  simp only [pu]
  have g0 := hop (wy k0)
  have cL4_0 := cL4 k0
  have cR_0 := cR k0
  have f0 := p1_ (wy k0)
  have f1 := p1_ (op (wy k0))
  clear p1_
  clear hop hed cL4 cR
  grind (splits := 24)

set_option maxHeartbeats 1000000 in
theorem pt_wn_L5 {W : Int → Prop} {sd : Int → Int} {op : Int → Int} {ed : Int → Int} {st : Int → Int} {lv : Int → Int} {nm : Int → Int} {inw : Int → Int} {bst : Int → Int} {om : Int → Int} {ps : Int → Int} {dl : Int → Int} {pd : Int → Int} {rp : Int → Int} {rv : Int → Int} {cl : Int → Int} {tk : Int → Int} {nL : Int} {kd : Int → Int} {wy : Int → Int} {td : Int → Int} {wh : Int → Int} {b : Int} (hG : pj_G W sd op ed) (p0_ : st b = 0) (p1_ : ∀ w, W w → sd w ≠ b) (p2_ : 0 ≤ nL) (cL5 : pj_L5 sd op ed st lv nm inw bst om ps dl pd rp rv cl tk nL kd wy td wh) (cR : pj_R W nL kd wy wh) : pj_L5 sd op ed (pu st b 2) lv nm inw bst om ps dl pd rp rv cl tk nL kd wy td wh := by
  obtain ⟨hop, hed⟩ := hG
  unfold pj_L5 pj_R at *
  intro k0
  simp only [pu]
  have g0 := hop (wy k0)
  have cL5_0 := cL5 k0
  have cR_0 := cR k0
  have f0 := p1_ (wy k0)
  have f1 := p1_ (op (wy k0))
  clear p1_
  clear hop hed cL5 cR
  grind (splits := 24)

set_option maxHeartbeats 1000000 in
theorem pt_wn_L6 {W : Int → Prop} {sd : Int → Int} {op : Int → Int} {ed : Int → Int} {st : Int → Int} {lv : Int → Int} {nm : Int → Int} {tow : Int → Int} {om : Int → Int} {ps : Int → Int} {dl : Int → Int} {cw : Int → Int} {tk : Int → Int} {nL : Int} {kd : Int → Int} {wy : Int → Int} {wh : Int → Int} {b : Int} (hG : pj_G W sd op ed) (p0_ : st b = 0) (p1_ : ∀ w, W w → sd w ≠ b) (p2_ : 0 ≤ nL) (cL6 : pj_L6 sd op ed st lv nm tow om ps dl cw tk nL kd wy wh) (cR : pj_R W nL kd wy wh) : pj_L6 sd op ed (pu st b 2) lv nm tow om ps dl cw tk nL kd wy wh := by
  obtain ⟨hop, hed⟩ := hG
  unfold pj_L6 pj_R at *
  intro k0
  simp only [pu]
  have g0 := hop (wy k0)
  have cL6_0 := cL6 k0
  have cR_0 := cR k0
  have f0 := p1_ (wy k0)
  have f1 := p1_ (op (wy k0))
  clear p1_
  clear hop hed cL6 cR
  grind (splits := 24)

theorem pj_wn {W : Int → Prop} {sd op ed : Int → Int} {li : Int → Int → Prop} {st lv nm inw tow bst tst exp om ps dl dn af c0 en pd rp rv fw cl cw tk kd wy ll td ls wh : Int → Int} {nL : Int} {F F2 : Int → Prop} {fl fc : Int} {b k : Int} (hG : pj_G W sd op ed) (p0_ : st b = 0) (p1_ : ∀ w, W w → sd w ≠ b) (p2_ : 0 ≤ nL) (h : pj_J W sd op ed li st lv nm inw tow bst tst exp om ps dl dn af c0 en pd rp rv fw cl cw tk nL kd wy ll td ls wh F fl fc) : pj_J W sd op ed li (pu st b 2) lv nm inw tow bst tst exp om ps dl dn af c0 en pd rp rv fw cl cw tk nL kd wy ll td ls wh F fl fc := by
  obtain ⟨cR, cN0, cN1, cN1w, cER, cN1c, cN2, cN2e, cN2b, cN4e, cN4b, cN5, cN7, cN10, cN10e, cN13, cC1, cC2, cR3a, cE1, cU, cA1, cA2, cEC, cR3, cN11, cN12, cN3, cRJ, cFW, cPD, cCC, cCD, cRP, cRP1, cCR, cZ1, cZ0, cTK, cK2, cWH, cFI, cL0, cFC, cL0u, cOC, cCT, cL1, cL1e, cL1o, cL1b, cL1g, cL2, cL3, cL4, cAF, cRT, cCV, cL5, cL5o, cL5u, cL6, cL6u⟩ := h
  exact ⟨cR, pt_wn_N0 hG p0_ p1_ p2_ cN0, pt_wn_N1 hG p0_ p1_ p2_ cN1, pt_wn_N1w hG p0_ p1_ p2_ cN1w, cER, pt_wn_N1c hG p0_ p1_ p2_ cN1c cR, cN2, cN2e, pt_wn_N2b hG p0_ p1_ p2_ cN2b, cN4e, pt_wn_N4b hG p0_ p1_ p2_ cN4b, cN5, pt_wn_N7 hG p0_ p1_ p2_ cN7, cN10, cN10e, cN13, cC1, cC2, pt_wn_R3a hG p0_ p1_ p2_ cR3a, cE1, cU, cA1, pt_wn_A2 hG p0_ p1_ p2_ cA2, cEC, pt_wn_R3 hG p0_ p1_ p2_ cR3, cN11, pt_wn_N12 hG p0_ p1_ p2_ cN12, cN3, cRJ, cFW, pt_wn_PD hG p0_ p1_ p2_ cPD, cCC, cCD, pt_wn_RP hG p0_ p1_ p2_ cRP, cRP1, cCR, cZ1, cZ0, cTK, cK2, cWH, cFI, cL0, cFC, cL0u, cOC, cCT, pt_wn_L1 hG p0_ p1_ p2_ cL1 cR, cL1e, cL1o, pt_wn_L1b hG p0_ p1_ p2_ cL1b cR, cL1g, pt_wn_L2 hG p0_ p1_ p2_ cL2 cR, pt_wn_L3 hG p0_ p1_ p2_ cL3 cR, pt_wn_L4 hG p0_ p1_ p2_ cL4 cR, cAF, cRT, cCV, pt_wn_L5 hG p0_ p1_ p2_ cL5 cR, cL5o, cL5u, pt_wn_L6 hG p0_ p1_ p2_ cL6 cR, cL6u⟩

