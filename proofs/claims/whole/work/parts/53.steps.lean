/-! pt: each step keeps each clause of the invariant (printed by wip/gen/gen50w.py) -/
set_option maxHeartbeats 1000000 in
theorem pt_bg_R {W : Int → Prop} {sd : Int → Int} {op : Int → Int} {ed : Int → Int} {st : Int → Int} {lv : Int → Int} {tst : Int → Int} {om : Int → Int} {ps : Int → Int} {dl : Int → Int} {dn : Int → Int} {en : Int → Int} {pd : Int → Int} {cl : Int → Int} {nL : Int} {kd : Int → Int} {wy : Int → Int} {ll : Int → Int} {td : Int → Int} {ls : Int → Int} {wh : Int → Int} {F : Int → Prop} {F2 : Int → Prop} {b k : Int} (hG : pj_G W sd op ed) (p0_ : W b) (p1_ : 0 ≤ k) (p2_ : k < nL) (p3_ : wh k ≠ 2) (p4_ : kd k = 1) (p5_ : wy k = op b) (p6_ : ∀ j, 0 ≤ j → j < k → wy j = wy k → wh j ≠ 0) (p7_ : ∀ v, ¬ F v) (p8_ : ∀ v, F2 v ↔ (W v ∧ sd v = (sd b) ∧ v ≠ b ∧ en v = 1)) (p9_ : om (sd b) = (ed b)) (p10_ : lv (sd b) < ll k) (p11_ : 0 ≤ lv (sd b)) (p12_ : ll k ≤ dl (sd b)) (p13_ : cl (td k) = ll k) (p14_ : ls k = 1 ∨ ls k = 2) (p15_ : st (sd b) = 2) (p16_ : tst (sd b) = -1) (p17_ : ∀ v, W v → sd v = (sd b) → pd v = 0) (p18_ : en (op b) = 1) (p19_ : en b = 1) (p20_ : ls k = 1 → ll k = dl (sd b)) (p21_ : ll k = dl (sd b) → td k = dn (sd b)) (p22_ : om (sd (op b)) = (ed b) → ls k = 1 ∧ td k = (ed b) ∧ cl (ed b) = ll k ∧ dl (sd (op b)) = ll k ∧ dn (sd (op b)) = (ed b) ∧ ((lv (sd (op b)) = dl (sd (op b)) ∧ ps (sd (op b)) = 0) ∨ (lv (sd (op b)) < dl (sd (op b)) ∧ ps (sd (op b)) = 1))) (p23_ : om (sd (op b)) ≠ (ed b) → ls k = 1 → st (sd (op b)) = 1 ∧ pd (op b) = 1) (p24_ : ∀ j, 0 ≤ j → j < nL → wh j ≠ 2 → kd j = 1 → wy j = op b → j ≠ k → ll k < ll j) (p25_ : ∀ j, 0 ≤ j → j < nL → wh j ≠ 2 → kd j = 0 → wy j ≠ op b) (p26_ : ∀ j, 0 ≤ j → j < nL → wh j ≠ 2 → kd j = 5 → wy j = op b → lv (sd b) < cl (ed b)) (p27_ : ∀ v, W v → sd v = (sd b) → ed v = td k → v = b ∧ ls k = 1) (p28_ : 0 ≤ nL) (cR : pj_R W nL kd wy wh) : pj_R W nL kd wy (pu wh k 2) := by
  obtain ⟨hop, hed⟩ := hG
  unfold pj_R at *
  intro k0
  simp only [pu]
  have g0 := hop b
  have g1 := hop (wy k0)
  have g2 := hed b (wy k0)
  have cR_0 := cR k
  have cR_1 := cR k0
  have f0 := p6_ k
  have f1 := p6_ k0
  have f2 := p7_ b
  have f3 := p7_ (wy k0)
  have f4 := p7_ (op (wy k0))
  have f5 := p7_ (op b)
  have f6 := p8_ b
  have f7 := p8_ (wy k0)
  have f8 := p8_ (op (wy k0))
  have f9 := p17_ b
  have f10 := p17_ (wy k0)
  have f11 := p17_ (op (wy k0))
  have f12 := p24_ k
  have f13 := p24_ k0
  have f14 := p25_ k
  have f15 := p25_ k0
  have f16 := p26_ k
  have f17 := p26_ k0
  have f18 := p27_ b
  have f19 := p27_ (wy k0)
  have f20 := p27_ (op (wy k0))
  clear p6_ p7_ p8_ p17_ p24_ p25_ p26_ p27_
  clear hop hed cR
  grind (splits := 24)

set_option maxHeartbeats 1000000 in
theorem pt_bg_N0 {W : Int → Prop} {sd : Int → Int} {op : Int → Int} {ed : Int → Int} {st : Int → Int} {lv : Int → Int} {tst : Int → Int} {om : Int → Int} {ps : Int → Int} {dl : Int → Int} {dn : Int → Int} {af : Int → Int} {en : Int → Int} {pd : Int → Int} {cl : Int → Int} {nL : Int} {kd : Int → Int} {wy : Int → Int} {ll : Int → Int} {td : Int → Int} {ls : Int → Int} {wh : Int → Int} {F : Int → Prop} {F2 : Int → Prop} {b k : Int} (hG : pj_G W sd op ed) (p0_ : W b) (p1_ : 0 ≤ k) (p2_ : k < nL) (p3_ : wh k ≠ 2) (p4_ : kd k = 1) (p5_ : wy k = op b) (p6_ : ∀ j, 0 ≤ j → j < k → wy j = wy k → wh j ≠ 0) (p7_ : ∀ v, ¬ F v) (p8_ : ∀ v, F2 v ↔ (W v ∧ sd v = (sd b) ∧ v ≠ b ∧ en v = 1)) (p9_ : om (sd b) = (ed b)) (p10_ : lv (sd b) < ll k) (p11_ : 0 ≤ lv (sd b)) (p12_ : ll k ≤ dl (sd b)) (p13_ : cl (td k) = ll k) (p14_ : ls k = 1 ∨ ls k = 2) (p15_ : st (sd b) = 2) (p16_ : tst (sd b) = -1) (p17_ : ∀ v, W v → sd v = (sd b) → pd v = 0) (p18_ : en (op b) = 1) (p19_ : en b = 1) (p20_ : ls k = 1 → ll k = dl (sd b)) (p21_ : ll k = dl (sd b) → td k = dn (sd b)) (p22_ : om (sd (op b)) = (ed b) → ls k = 1 ∧ td k = (ed b) ∧ cl (ed b) = ll k ∧ dl (sd (op b)) = ll k ∧ dn (sd (op b)) = (ed b) ∧ ((lv (sd (op b)) = dl (sd (op b)) ∧ ps (sd (op b)) = 0) ∨ (lv (sd (op b)) < dl (sd (op b)) ∧ ps (sd (op b)) = 1))) (p23_ : om (sd (op b)) ≠ (ed b) → ls k = 1 → st (sd (op b)) = 1 ∧ pd (op b) = 1) (p24_ : ∀ j, 0 ≤ j → j < nL → wh j ≠ 2 → kd j = 1 → wy j = op b → j ≠ k → ll k < ll j) (p25_ : ∀ j, 0 ≤ j → j < nL → wh j ≠ 2 → kd j = 0 → wy j ≠ op b) (p26_ : ∀ j, 0 ≤ j → j < nL → wh j ≠ 2 → kd j = 5 → wy j = op b → lv (sd b) < cl (ed b)) (p27_ : ∀ v, W v → sd v = (sd b) → ed v = td k → v = b ∧ ls k = 1) (p28_ : 0 ≤ nL) (cN0 : pj_N0 st lv ps dl af) : pj_N0 (pu st (sd b) (ls k)) (pu lv (sd b) (ll k)) (pu ps (sd b) 0) dl (pu af (sd b) 0) := by
  obtain ⟨hop, hed⟩ := hG
  unfold pj_N0 at *
  intro n0
  simp only [pu]
  have g0 := hop b
  have cN0_0 := cN0 (sd (op b))
  have cN0_1 := cN0 n0
  have cN0_2 := cN0 (sd b)
  have f0 := p6_ k
  have f1 := p7_ b
  have f2 := p7_ (op b)
  have f3 := p8_ b
  have f4 := p17_ b
  have f5 := p24_ k
  have f6 := p25_ k
  have f7 := p26_ k
  have f8 := p27_ b
  clear p6_ p7_ p8_ p17_ p24_ p25_ p26_ p27_
  clear hop hed cN0
  grind (splits := 24)

set_option maxHeartbeats 1000000 in
theorem pt_bg_N1 {W : Int → Prop} {sd : Int → Int} {op : Int → Int} {ed : Int → Int} {st : Int → Int} {lv : Int → Int} {tst : Int → Int} {om : Int → Int} {ps : Int → Int} {dl : Int → Int} {dn : Int → Int} {en : Int → Int} {pd : Int → Int} {cl : Int → Int} {nL : Int} {kd : Int → Int} {wy : Int → Int} {ll : Int → Int} {td : Int → Int} {ls : Int → Int} {wh : Int → Int} {F : Int → Prop} {F2 : Int → Prop} {b k : Int} (hG : pj_G W sd op ed) (p0_ : W b) (p1_ : 0 ≤ k) (p2_ : k < nL) (p3_ : wh k ≠ 2) (p4_ : kd k = 1) (p5_ : wy k = op b) (p6_ : ∀ j, 0 ≤ j → j < k → wy j = wy k → wh j ≠ 0) (p7_ : ∀ v, ¬ F v) (p8_ : ∀ v, F2 v ↔ (W v ∧ sd v = (sd b) ∧ v ≠ b ∧ en v = 1)) (p9_ : om (sd b) = (ed b)) (p10_ : lv (sd b) < ll k) (p11_ : 0 ≤ lv (sd b)) (p12_ : ll k ≤ dl (sd b)) (p13_ : cl (td k) = ll k) (p14_ : ls k = 1 ∨ ls k = 2) (p15_ : st (sd b) = 2) (p16_ : tst (sd b) = -1) (p17_ : ∀ v, W v → sd v = (sd b) → pd v = 0) (p18_ : en (op b) = 1) (p19_ : en b = 1) (p20_ : ls k = 1 → ll k = dl (sd b)) (p21_ : ll k = dl (sd b) → td k = dn (sd b)) (p22_ : om (sd (op b)) = (ed b) → ls k = 1 ∧ td k = (ed b) ∧ cl (ed b) = ll k ∧ dl (sd (op b)) = ll k ∧ dn (sd (op b)) = (ed b) ∧ ((lv (sd (op b)) = dl (sd (op b)) ∧ ps (sd (op b)) = 0) ∨ (lv (sd (op b)) < dl (sd (op b)) ∧ ps (sd (op b)) = 1))) (p23_ : om (sd (op b)) ≠ (ed b) → ls k = 1 → st (sd (op b)) = 1 ∧ pd (op b) = 1) (p24_ : ∀ j, 0 ≤ j → j < nL → wh j ≠ 2 → kd j = 1 → wy j = op b → j ≠ k → ll k < ll j) (p25_ : ∀ j, 0 ≤ j → j < nL → wh j ≠ 2 → kd j = 0 → wy j ≠ op b) (p26_ : ∀ j, 0 ≤ j → j < nL → wh j ≠ 2 → kd j = 5 → wy j = op b → lv (sd b) < cl (ed b)) (p27_ : ∀ v, W v → sd v = (sd b) → ed v = td k → v = b ∧ ls k = 1) (p28_ : 0 ≤ nL) (cN1 : pj_N1 st lv om ps dl) : pj_N1 (pu st (sd b) (ls k)) (pu lv (sd b) (ll k)) om (pu ps (sd b) 0) dl := by
  obtain ⟨hop, hed⟩ := hG
  unfold pj_N1 at *
  intro n0
  simp only [pu]
  have g0 := hop b
  have cN1_0 := cN1 (sd (op b))
  have cN1_1 := cN1 n0
  have cN1_2 := cN1 (sd b)
  have f0 := p6_ k
  have f1 := p7_ b
  have f2 := p7_ (op b)
  have f3 := p8_ b
  have f4 := p17_ b
  have f5 := p24_ k
  have f6 := p25_ k
  have f7 := p26_ k
  have f8 := p27_ b
  clear p6_ p7_ p8_ p17_ p24_ p25_ p26_ p27_
  clear hop hed cN1
  grind (splits := 24)

set_option maxHeartbeats 1000000 in
theorem pt_bg_N1w {W : Int → Prop} {sd : Int → Int} {op : Int → Int} {ed : Int → Int} {st : Int → Int} {lv : Int → Int} {tst : Int → Int} {om : Int → Int} {ps : Int → Int} {dl : Int → Int} {dn : Int → Int} {en : Int → Int} {pd : Int → Int} {cl : Int → Int} {nL : Int} {kd : Int → Int} {wy : Int → Int} {ll : Int → Int} {td : Int → Int} {ls : Int → Int} {wh : Int → Int} {F : Int → Prop} {F2 : Int → Prop} {b k : Int} (hG : pj_G W sd op ed) (p0_ : W b) (p1_ : 0 ≤ k) (p2_ : k < nL) (p3_ : wh k ≠ 2) (p4_ : kd k = 1) (p5_ : wy k = op b) (p6_ : ∀ j, 0 ≤ j → j < k → wy j = wy k → wh j ≠ 0) (p7_ : ∀ v, ¬ F v) (p8_ : ∀ v, F2 v ↔ (W v ∧ sd v = (sd b) ∧ v ≠ b ∧ en v = 1)) (p9_ : om (sd b) = (ed b)) (p10_ : lv (sd b) < ll k) (p11_ : 0 ≤ lv (sd b)) (p12_ : ll k ≤ dl (sd b)) (p13_ : cl (td k) = ll k) (p14_ : ls k = 1 ∨ ls k = 2) (p15_ : st (sd b) = 2) (p16_ : tst (sd b) = -1) (p17_ : ∀ v, W v → sd v = (sd b) → pd v = 0) (p18_ : en (op b) = 1) (p19_ : en b = 1) (p20_ : ls k = 1 → ll k = dl (sd b)) (p21_ : ll k = dl (sd b) → td k = dn (sd b)) (p22_ : om (sd (op b)) = (ed b) → ls k = 1 ∧ td k = (ed b) ∧ cl (ed b) = ll k ∧ dl (sd (op b)) = ll k ∧ dn (sd (op b)) = (ed b) ∧ ((lv (sd (op b)) = dl (sd (op b)) ∧ ps (sd (op b)) = 0) ∨ (lv (sd (op b)) < dl (sd (op b)) ∧ ps (sd (op b)) = 1))) (p23_ : om (sd (op b)) ≠ (ed b) → ls k = 1 → st (sd (op b)) = 1 ∧ pd (op b) = 1) (p24_ : ∀ j, 0 ≤ j → j < nL → wh j ≠ 2 → kd j = 1 → wy j = op b → j ≠ k → ll k < ll j) (p25_ : ∀ j, 0 ≤ j → j < nL → wh j ≠ 2 → kd j = 0 → wy j ≠ op b) (p26_ : ∀ j, 0 ≤ j → j < nL → wh j ≠ 2 → kd j = 5 → wy j = op b → lv (sd b) < cl (ed b)) (p27_ : ∀ v, W v → sd v = (sd b) → ed v = td k → v = b ∧ ls k = 1) (p28_ : 0 ≤ nL) (cN1w : pj_N1w W sd st en) : pj_N1w W sd (pu st (sd b) (ls k)) en := by
  obtain ⟨hop, hed⟩ := hG
  unfold pj_N1w at *
  intro w0
  simp only [pu]
  have g0 := hop b
  have g1 := hop w0
  have g2 := hed b w0
  have cN1w_0 := cN1w b
  have cN1w_1 := cN1w w0
  have cN1w_2 := cN1w (op w0)
  have f0 := p6_ k
  have f1 := p7_ b
  have f2 := p7_ w0
  have f3 := p7_ (op w0)
  have f4 := p7_ (op b)
  have f5 := p8_ b
  have f6 := p8_ w0
  have f7 := p8_ (op w0)
  have f8 := p17_ b
  have f9 := p17_ w0
  have f10 := p17_ (op w0)
  have f11 := p24_ k
  have f12 := p25_ k
  have f13 := p26_ k
  have f14 := p27_ b
  have f15 := p27_ w0
  have f16 := p27_ (op w0)
  clear p6_ p7_ p8_ p17_ p24_ p25_ p26_ p27_
  clear hop hed cN1w
  grind (splits := 24)

set_option maxHeartbeats 1000000 in
theorem pt_bg_N1c {W : Int → Prop} {sd : Int → Int} {op : Int → Int} {ed : Int → Int} {st : Int → Int} {lv : Int → Int} {tst : Int → Int} {om : Int → Int} {ps : Int → Int} {dl : Int → Int} {dn : Int → Int} {en : Int → Int} {pd : Int → Int} {cl : Int → Int} {nL : Int} {kd : Int → Int} {wy : Int → Int} {ll : Int → Int} {td : Int → Int} {ls : Int → Int} {wh : Int → Int} {F : Int → Prop} {F2 : Int → Prop} {b k : Int} (hG : pj_G W sd op ed) (p0_ : W b) (p1_ : 0 ≤ k) (p2_ : k < nL) (p3_ : wh k ≠ 2) (p4_ : kd k = 1) (p5_ : wy k = op b) (p6_ : ∀ j, 0 ≤ j → j < k → wy j = wy k → wh j ≠ 0) (p7_ : ∀ v, ¬ F v) (p8_ : ∀ v, F2 v ↔ (W v ∧ sd v = (sd b) ∧ v ≠ b ∧ en v = 1)) (p9_ : om (sd b) = (ed b)) (p10_ : lv (sd b) < ll k) (p11_ : 0 ≤ lv (sd b)) (p12_ : ll k ≤ dl (sd b)) (p13_ : cl (td k) = ll k) (p14_ : ls k = 1 ∨ ls k = 2) (p15_ : st (sd b) = 2) (p16_ : tst (sd b) = -1) (p17_ : ∀ v, W v → sd v = (sd b) → pd v = 0) (p18_ : en (op b) = 1) (p19_ : en b = 1) (p20_ : ls k = 1 → ll k = dl (sd b)) (p21_ : ll k = dl (sd b) → td k = dn (sd b)) (p22_ : om (sd (op b)) = (ed b) → ls k = 1 ∧ td k = (ed b) ∧ cl (ed b) = ll k ∧ dl (sd (op b)) = ll k ∧ dn (sd (op b)) = (ed b) ∧ ((lv (sd (op b)) = dl (sd (op b)) ∧ ps (sd (op b)) = 0) ∨ (lv (sd (op b)) < dl (sd (op b)) ∧ ps (sd (op b)) = 1))) (p23_ : om (sd (op b)) ≠ (ed b) → ls k = 1 → st (sd (op b)) = 1 ∧ pd (op b) = 1) (p24_ : ∀ j, 0 ≤ j → j < nL → wh j ≠ 2 → kd j = 1 → wy j = op b → j ≠ k → ll k < ll j) (p25_ : ∀ j, 0 ≤ j → j < nL → wh j ≠ 2 → kd j = 0 → wy j ≠ op b) (p26_ : ∀ j, 0 ≤ j → j < nL → wh j ≠ 2 → kd j = 5 → wy j = op b → lv (sd b) < cl (ed b)) (p27_ : ∀ v, W v → sd v = (sd b) → ed v = td k → v = b ∧ ls k = 1) (p28_ : 0 ≤ nL) (cN1c : pj_N1c sd op st nL wy wh) (cR : pj_R W nL kd wy wh) : pj_N1c sd op (pu st (sd b) (ls k)) nL wy (pu wh k 2) := by
  obtain ⟨hop, hed⟩ := hG
  unfold pj_N1c pj_R at *
  intro k0
  simp only [pu]
  have g0 := hop b
  have g1 := hop (wy k0)
  have g2 := hed b (wy k0)
  have cN1c_0 := cN1c k
  have cN1c_1 := cN1c k0
  have cR_0 := cR k0
  have f0 := p6_ k
  have f1 := p6_ k0
  have f2 := p7_ b
  have f3 := p7_ (wy k0)
  have f4 := p7_ (op (wy k0))
  have f5 := p7_ (op b)
  have f6 := p8_ b
  have f7 := p8_ (wy k0)
  have f8 := p8_ (op (wy k0))
  have f9 := p17_ b
  have f10 := p17_ (wy k0)
  have f11 := p17_ (op (wy k0))
  have f12 := p24_ k
  have f13 := p24_ k0
  have f14 := p25_ k
  have f15 := p25_ k0
  have f16 := p26_ k
  have f17 := p26_ k0
  have f18 := p27_ b
  have f19 := p27_ (wy k0)
  have f20 := p27_ (op (wy k0))
  clear p6_ p7_ p8_ p17_ p24_ p25_ p26_ p27_
  clear hop hed cN1c cR
  grind (splits := 24)

set_option maxHeartbeats 1000000 in
theorem pt_bg_N2b {W : Int → Prop} {sd : Int → Int} {op : Int → Int} {ed : Int → Int} {st : Int → Int} {lv : Int → Int} {tst : Int → Int} {om : Int → Int} {ps : Int → Int} {dl : Int → Int} {dn : Int → Int} {en : Int → Int} {pd : Int → Int} {cl : Int → Int} {nL : Int} {kd : Int → Int} {wy : Int → Int} {ll : Int → Int} {td : Int → Int} {ls : Int → Int} {wh : Int → Int} {F : Int → Prop} {F2 : Int → Prop} {b k : Int} (hG : pj_G W sd op ed) (p0_ : W b) (p1_ : 0 ≤ k) (p2_ : k < nL) (p3_ : wh k ≠ 2) (p4_ : kd k = 1) (p5_ : wy k = op b) (p6_ : ∀ j, 0 ≤ j → j < k → wy j = wy k → wh j ≠ 0) (p7_ : ∀ v, ¬ F v) (p8_ : ∀ v, F2 v ↔ (W v ∧ sd v = (sd b) ∧ v ≠ b ∧ en v = 1)) (p9_ : om (sd b) = (ed b)) (p10_ : lv (sd b) < ll k) (p11_ : 0 ≤ lv (sd b)) (p12_ : ll k ≤ dl (sd b)) (p13_ : cl (td k) = ll k) (p14_ : ls k = 1 ∨ ls k = 2) (p15_ : st (sd b) = 2) (p16_ : tst (sd b) = -1) (p17_ : ∀ v, W v → sd v = (sd b) → pd v = 0) (p18_ : en (op b) = 1) (p19_ : en b = 1) (p20_ : ls k = 1 → ll k = dl (sd b)) (p21_ : ll k = dl (sd b) → td k = dn (sd b)) (p22_ : om (sd (op b)) = (ed b) → ls k = 1 ∧ td k = (ed b) ∧ cl (ed b) = ll k ∧ dl (sd (op b)) = ll k ∧ dn (sd (op b)) = (ed b) ∧ ((lv (sd (op b)) = dl (sd (op b)) ∧ ps (sd (op b)) = 0) ∨ (lv (sd (op b)) < dl (sd (op b)) ∧ ps (sd (op b)) = 1))) (p23_ : om (sd (op b)) ≠ (ed b) → ls k = 1 → st (sd (op b)) = 1 ∧ pd (op b) = 1) (p24_ : ∀ j, 0 ≤ j → j < nL → wh j ≠ 2 → kd j = 1 → wy j = op b → j ≠ k → ll k < ll j) (p25_ : ∀ j, 0 ≤ j → j < nL → wh j ≠ 2 → kd j = 0 → wy j ≠ op b) (p26_ : ∀ j, 0 ≤ j → j < nL → wh j ≠ 2 → kd j = 5 → wy j = op b → lv (sd b) < cl (ed b)) (p27_ : ∀ v, W v → sd v = (sd b) → ed v = td k → v = b ∧ ls k = 1) (p28_ : 0 ≤ nL) (cN2b : pj_N2b W sd st om) : pj_N2b W sd (pu st (sd b) (ls k)) om := by
  obtain ⟨hop, hed⟩ := hG
  unfold pj_N2b at *
  intro w0
  simp only [pu]
  have g0 := hop b
  have g1 := hop w0
  have g2 := hed b w0
  have cN2b_0 := cN2b b
  have cN2b_1 := cN2b w0
  have cN2b_2 := cN2b (op w0)
  have f0 := p6_ k
  have f1 := p7_ b
  have f2 := p7_ w0
  have f3 := p7_ (op w0)
  have f4 := p7_ (op b)
  have f5 := p8_ b
  have f6 := p8_ w0
  have f7 := p8_ (op w0)
  have f8 := p17_ b
  have f9 := p17_ w0
  have f10 := p17_ (op w0)
  have f11 := p24_ k
  have f12 := p25_ k
  have f13 := p26_ k
  have f14 := p27_ b
  have f15 := p27_ w0
  have f16 := p27_ (op w0)
  clear p6_ p7_ p8_ p17_ p24_ p25_ p26_ p27_
  clear hop hed cN2b
  grind (splits := 24)

set_option maxHeartbeats 1000000 in
theorem pt_bg_N4e {W : Int → Prop} {sd : Int → Int} {op : Int → Int} {ed : Int → Int} {st : Int → Int} {lv : Int → Int} {inw : Int → Int} {tst : Int → Int} {om : Int → Int} {ps : Int → Int} {dl : Int → Int} {dn : Int → Int} {en : Int → Int} {pd : Int → Int} {cl : Int → Int} {nL : Int} {kd : Int → Int} {wy : Int → Int} {ll : Int → Int} {td : Int → Int} {ls : Int → Int} {wh : Int → Int} {F : Int → Prop} {F2 : Int → Prop} {b k : Int} (hG : pj_G W sd op ed) (p0_ : W b) (p1_ : 0 ≤ k) (p2_ : k < nL) (p3_ : wh k ≠ 2) (p4_ : kd k = 1) (p5_ : wy k = op b) (p6_ : ∀ j, 0 ≤ j → j < k → wy j = wy k → wh j ≠ 0) (p7_ : ∀ v, ¬ F v) (p8_ : ∀ v, F2 v ↔ (W v ∧ sd v = (sd b) ∧ v ≠ b ∧ en v = 1)) (p9_ : om (sd b) = (ed b)) (p10_ : lv (sd b) < ll k) (p11_ : 0 ≤ lv (sd b)) (p12_ : ll k ≤ dl (sd b)) (p13_ : cl (td k) = ll k) (p14_ : ls k = 1 ∨ ls k = 2) (p15_ : st (sd b) = 2) (p16_ : tst (sd b) = -1) (p17_ : ∀ v, W v → sd v = (sd b) → pd v = 0) (p18_ : en (op b) = 1) (p19_ : en b = 1) (p20_ : ls k = 1 → ll k = dl (sd b)) (p21_ : ll k = dl (sd b) → td k = dn (sd b)) (p22_ : om (sd (op b)) = (ed b) → ls k = 1 ∧ td k = (ed b) ∧ cl (ed b) = ll k ∧ dl (sd (op b)) = ll k ∧ dn (sd (op b)) = (ed b) ∧ ((lv (sd (op b)) = dl (sd (op b)) ∧ ps (sd (op b)) = 0) ∨ (lv (sd (op b)) < dl (sd (op b)) ∧ ps (sd (op b)) = 1))) (p23_ : om (sd (op b)) ≠ (ed b) → ls k = 1 → st (sd (op b)) = 1 ∧ pd (op b) = 1) (p24_ : ∀ j, 0 ≤ j → j < nL → wh j ≠ 2 → kd j = 1 → wy j = op b → j ≠ k → ll k < ll j) (p25_ : ∀ j, 0 ≤ j → j < nL → wh j ≠ 2 → kd j = 0 → wy j ≠ op b) (p26_ : ∀ j, 0 ≤ j → j < nL → wh j ≠ 2 → kd j = 5 → wy j = op b → lv (sd b) < cl (ed b)) (p27_ : ∀ v, W v → sd v = (sd b) → ed v = td k → v = b ∧ ls k = 1) (p28_ : 0 ≤ nL) (cN4e : pj_N4e W sd ed lv inw) : pj_N4e W sd ed (pu lv (sd b) (ll k)) (pu inw (sd b) (ed b)) := by
  obtain ⟨hop, hed⟩ := hG
  unfold pj_N4e at *
  intro n0
  simp only [pu]
  have g0 := hop b
  have cN4e_0 := cN4e (sd (op b))
  have cN4e_1 := cN4e n0
  have cN4e_2 := cN4e (sd b)
  have f0 := p6_ k
  have f1 := p7_ b
  have f2 := p7_ (op b)
  have f3 := p8_ b
  have f4 := p17_ b
  have f5 := p24_ k
  have f6 := p25_ k
  have f7 := p26_ k
  have f8 := p27_ b
  clear p6_ p7_ p8_ p17_ p24_ p25_ p26_ p27_
  clear hop hed cN4e
  grind (splits := 24)

set_option maxHeartbeats 1000000 in
theorem pt_bg_N4b {W : Int → Prop} {sd : Int → Int} {op : Int → Int} {ed : Int → Int} {st : Int → Int} {lv : Int → Int} {nm : Int → Int} {inw : Int → Int} {tow : Int → Int} {bst : Int → Int} {tst : Int → Int} {om : Int → Int} {ps : Int → Int} {dl : Int → Int} {dn : Int → Int} {en : Int → Int} {pd : Int → Int} {cl : Int → Int} {nL : Int} {kd : Int → Int} {wy : Int → Int} {ll : Int → Int} {td : Int → Int} {ls : Int → Int} {wh : Int → Int} {F : Int → Prop} {F2 : Int → Prop} {b k : Int} (hG : pj_G W sd op ed) (p0_ : W b) (p1_ : 0 ≤ k) (p2_ : k < nL) (p3_ : wh k ≠ 2) (p4_ : kd k = 1) (p5_ : wy k = op b) (p6_ : ∀ j, 0 ≤ j → j < k → wy j = wy k → wh j ≠ 0) (p7_ : ∀ v, ¬ F v) (p8_ : ∀ v, F2 v ↔ (W v ∧ sd v = (sd b) ∧ v ≠ b ∧ en v = 1)) (p9_ : om (sd b) = (ed b)) (p10_ : lv (sd b) < ll k) (p11_ : 0 ≤ lv (sd b)) (p12_ : ll k ≤ dl (sd b)) (p13_ : cl (td k) = ll k) (p14_ : ls k = 1 ∨ ls k = 2) (p15_ : st (sd b) = 2) (p16_ : tst (sd b) = -1) (p17_ : ∀ v, W v → sd v = (sd b) → pd v = 0) (p18_ : en (op b) = 1) (p19_ : en b = 1) (p20_ : ls k = 1 → ll k = dl (sd b)) (p21_ : ll k = dl (sd b) → td k = dn (sd b)) (p22_ : om (sd (op b)) = (ed b) → ls k = 1 ∧ td k = (ed b) ∧ cl (ed b) = ll k ∧ dl (sd (op b)) = ll k ∧ dn (sd (op b)) = (ed b) ∧ ((lv (sd (op b)) = dl (sd (op b)) ∧ ps (sd (op b)) = 0) ∨ (lv (sd (op b)) < dl (sd (op b)) ∧ ps (sd (op b)) = 1))) (p23_ : om (sd (op b)) ≠ (ed b) → ls k = 1 → st (sd (op b)) = 1 ∧ pd (op b) = 1) (p24_ : ∀ j, 0 ≤ j → j < nL → wh j ≠ 2 → kd j = 1 → wy j = op b → j ≠ k → ll k < ll j) (p25_ : ∀ j, 0 ≤ j → j < nL → wh j ≠ 2 → kd j = 0 → wy j ≠ op b) (p26_ : ∀ j, 0 ≤ j → j < nL → wh j ≠ 2 → kd j = 5 → wy j = op b → lv (sd b) < cl (ed b)) (p27_ : ∀ v, W v → sd v = (sd b) → ed v = td k → v = b ∧ ls k = 1) (p28_ : 0 ≤ nL) (cN4b : pj_N4b st lv nm inw tow bst om ps) : pj_N4b (pu st (sd b) (ls k)) (pu lv (sd b) (ll k)) (pu nm (sd b) (td k)) (pu inw (sd b) (ed b)) (pu tow (sd b) (-1)) (pu bst (sd b) (-1)) om (pu ps (sd b) 0) := by
  obtain ⟨hop, hed⟩ := hG
  unfold pj_N4b at *
  intro n0
  simp only [pu]
  have g0 := hop b
  have cN4b_0 := cN4b (sd (op b))
  have cN4b_1 := cN4b n0
  have cN4b_2 := cN4b (sd b)
  have f0 := p6_ k
  have f1 := p7_ b
  have f2 := p7_ (op b)
  have f3 := p8_ b
  have f4 := p17_ b
  have f5 := p24_ k
  have f6 := p25_ k
  have f7 := p26_ k
  have f8 := p27_ b
  clear p6_ p7_ p8_ p17_ p24_ p25_ p26_ p27_
  clear hop hed cN4b
  grind (splits := 24)

set_option maxHeartbeats 1000000 in
theorem pt_bg_N5 {W : Int → Prop} {sd : Int → Int} {op : Int → Int} {ed : Int → Int} {st : Int → Int} {lv : Int → Int} {inw : Int → Int} {tst : Int → Int} {om : Int → Int} {ps : Int → Int} {dl : Int → Int} {dn : Int → Int} {en : Int → Int} {pd : Int → Int} {cl : Int → Int} {nL : Int} {kd : Int → Int} {wy : Int → Int} {ll : Int → Int} {td : Int → Int} {ls : Int → Int} {wh : Int → Int} {F : Int → Prop} {F2 : Int → Prop} {b k : Int} (hG : pj_G W sd op ed) (p0_ : W b) (p1_ : 0 ≤ k) (p2_ : k < nL) (p3_ : wh k ≠ 2) (p4_ : kd k = 1) (p5_ : wy k = op b) (p6_ : ∀ j, 0 ≤ j → j < k → wy j = wy k → wh j ≠ 0) (p7_ : ∀ v, ¬ F v) (p8_ : ∀ v, F2 v ↔ (W v ∧ sd v = (sd b) ∧ v ≠ b ∧ en v = 1)) (p9_ : om (sd b) = (ed b)) (p10_ : lv (sd b) < ll k) (p11_ : 0 ≤ lv (sd b)) (p12_ : ll k ≤ dl (sd b)) (p13_ : cl (td k) = ll k) (p14_ : ls k = 1 ∨ ls k = 2) (p15_ : st (sd b) = 2) (p16_ : tst (sd b) = -1) (p17_ : ∀ v, W v → sd v = (sd b) → pd v = 0) (p18_ : en (op b) = 1) (p19_ : en b = 1) (p20_ : ls k = 1 → ll k = dl (sd b)) (p21_ : ll k = dl (sd b) → td k = dn (sd b)) (p22_ : om (sd (op b)) = (ed b) → ls k = 1 ∧ td k = (ed b) ∧ cl (ed b) = ll k ∧ dl (sd (op b)) = ll k ∧ dn (sd (op b)) = (ed b) ∧ ((lv (sd (op b)) = dl (sd (op b)) ∧ ps (sd (op b)) = 0) ∨ (lv (sd (op b)) < dl (sd (op b)) ∧ ps (sd (op b)) = 1))) (p23_ : om (sd (op b)) ≠ (ed b) → ls k = 1 → st (sd (op b)) = 1 ∧ pd (op b) = 1) (p24_ : ∀ j, 0 ≤ j → j < nL → wh j ≠ 2 → kd j = 1 → wy j = op b → j ≠ k → ll k < ll j) (p25_ : ∀ j, 0 ≤ j → j < nL → wh j ≠ 2 → kd j = 0 → wy j ≠ op b) (p26_ : ∀ j, 0 ≤ j → j < nL → wh j ≠ 2 → kd j = 5 → wy j = op b → lv (sd b) < cl (ed b)) (p27_ : ∀ v, W v → sd v = (sd b) → ed v = td k → v = b ∧ ls k = 1) (p28_ : 0 ≤ nL) (cN5 : pj_N5 lv inw om ps) : pj_N5 (pu lv (sd b) (ll k)) (pu inw (sd b) (ed b)) om (pu ps (sd b) 0) := by
  obtain ⟨hop, hed⟩ := hG
  unfold pj_N5 at *
  intro n0
  simp only [pu]
  have g0 := hop b
  have cN5_0 := cN5 (sd (op b))
  have cN5_1 := cN5 n0
  have cN5_2 := cN5 (sd b)
  have f0 := p6_ k
  have f1 := p7_ b
  have f2 := p7_ (op b)
  have f3 := p8_ b
  have f4 := p17_ b
  have f5 := p24_ k
  have f6 := p25_ k
  have f7 := p26_ k
  have f8 := p27_ b
  clear p6_ p7_ p8_ p17_ p24_ p25_ p26_ p27_
  clear hop hed cN5
  grind (splits := 24)

set_option maxHeartbeats 1000000 in
theorem pt_bg_N7 {W : Int → Prop} {sd : Int → Int} {op : Int → Int} {ed : Int → Int} {st : Int → Int} {lv : Int → Int} {tst : Int → Int} {exp : Int → Int} {om : Int → Int} {ps : Int → Int} {dl : Int → Int} {dn : Int → Int} {en : Int → Int} {pd : Int → Int} {cl : Int → Int} {nL : Int} {kd : Int → Int} {wy : Int → Int} {ll : Int → Int} {td : Int → Int} {ls : Int → Int} {wh : Int → Int} {F : Int → Prop} {F2 : Int → Prop} {b k : Int} (hG : pj_G W sd op ed) (p0_ : W b) (p1_ : 0 ≤ k) (p2_ : k < nL) (p3_ : wh k ≠ 2) (p4_ : kd k = 1) (p5_ : wy k = op b) (p6_ : ∀ j, 0 ≤ j → j < k → wy j = wy k → wh j ≠ 0) (p7_ : ∀ v, ¬ F v) (p8_ : ∀ v, F2 v ↔ (W v ∧ sd v = (sd b) ∧ v ≠ b ∧ en v = 1)) (p9_ : om (sd b) = (ed b)) (p10_ : lv (sd b) < ll k) (p11_ : 0 ≤ lv (sd b)) (p12_ : ll k ≤ dl (sd b)) (p13_ : cl (td k) = ll k) (p14_ : ls k = 1 ∨ ls k = 2) (p15_ : st (sd b) = 2) (p16_ : tst (sd b) = -1) (p17_ : ∀ v, W v → sd v = (sd b) → pd v = 0) (p18_ : en (op b) = 1) (p19_ : en b = 1) (p20_ : ls k = 1 → ll k = dl (sd b)) (p21_ : ll k = dl (sd b) → td k = dn (sd b)) (p22_ : om (sd (op b)) = (ed b) → ls k = 1 ∧ td k = (ed b) ∧ cl (ed b) = ll k ∧ dl (sd (op b)) = ll k ∧ dn (sd (op b)) = (ed b) ∧ ((lv (sd (op b)) = dl (sd (op b)) ∧ ps (sd (op b)) = 0) ∨ (lv (sd (op b)) < dl (sd (op b)) ∧ ps (sd (op b)) = 1))) (p23_ : om (sd (op b)) ≠ (ed b) → ls k = 1 → st (sd (op b)) = 1 ∧ pd (op b) = 1) (p24_ : ∀ j, 0 ≤ j → j < nL → wh j ≠ 2 → kd j = 1 → wy j = op b → j ≠ k → ll k < ll j) (p25_ : ∀ j, 0 ≤ j → j < nL → wh j ≠ 2 → kd j = 0 → wy j ≠ op b) (p26_ : ∀ j, 0 ≤ j → j < nL → wh j ≠ 2 → kd j = 5 → wy j = op b → lv (sd b) < cl (ed b)) (p27_ : ∀ v, W v → sd v = (sd b) → ed v = td k → v = b ∧ ls k = 1) (p28_ : 0 ≤ nL) (cN7 : pj_N7 st tst exp) : pj_N7 (pu st (sd b) (ls k)) tst exp := by
  obtain ⟨hop, hed⟩ := hG
  unfold pj_N7 at *
  intro n0
  simp only [pu]
  have g0 := hop b
  have cN7_0 := cN7 (sd (op b))
  have cN7_1 := cN7 n0
  have cN7_2 := cN7 (sd b)
  have f0 := p6_ k
  have f1 := p7_ b
  have f2 := p7_ (op b)
  have f3 := p8_ b
  have f4 := p17_ b
  have f5 := p24_ k
  have f6 := p25_ k
  have f7 := p26_ k
  have f8 := p27_ b
  clear p6_ p7_ p8_ p17_ p24_ p25_ p26_ p27_
  clear hop hed cN7
  grind (splits := 24)

set_option maxHeartbeats 1000000 in
theorem pt_bg_N10 {W : Int → Prop} {sd : Int → Int} {op : Int → Int} {ed : Int → Int} {st : Int → Int} {lv : Int → Int} {tow : Int → Int} {bst : Int → Int} {tst : Int → Int} {om : Int → Int} {ps : Int → Int} {dl : Int → Int} {dn : Int → Int} {en : Int → Int} {pd : Int → Int} {cl : Int → Int} {nL : Int} {kd : Int → Int} {wy : Int → Int} {ll : Int → Int} {td : Int → Int} {ls : Int → Int} {wh : Int → Int} {F : Int → Prop} {F2 : Int → Prop} {b k : Int} (hG : pj_G W sd op ed) (p0_ : W b) (p1_ : 0 ≤ k) (p2_ : k < nL) (p3_ : wh k ≠ 2) (p4_ : kd k = 1) (p5_ : wy k = op b) (p6_ : ∀ j, 0 ≤ j → j < k → wy j = wy k → wh j ≠ 0) (p7_ : ∀ v, ¬ F v) (p8_ : ∀ v, F2 v ↔ (W v ∧ sd v = (sd b) ∧ v ≠ b ∧ en v = 1)) (p9_ : om (sd b) = (ed b)) (p10_ : lv (sd b) < ll k) (p11_ : 0 ≤ lv (sd b)) (p12_ : ll k ≤ dl (sd b)) (p13_ : cl (td k) = ll k) (p14_ : ls k = 1 ∨ ls k = 2) (p15_ : st (sd b) = 2) (p16_ : tst (sd b) = -1) (p17_ : ∀ v, W v → sd v = (sd b) → pd v = 0) (p18_ : en (op b) = 1) (p19_ : en b = 1) (p20_ : ls k = 1 → ll k = dl (sd b)) (p21_ : ll k = dl (sd b) → td k = dn (sd b)) (p22_ : om (sd (op b)) = (ed b) → ls k = 1 ∧ td k = (ed b) ∧ cl (ed b) = ll k ∧ dl (sd (op b)) = ll k ∧ dn (sd (op b)) = (ed b) ∧ ((lv (sd (op b)) = dl (sd (op b)) ∧ ps (sd (op b)) = 0) ∨ (lv (sd (op b)) < dl (sd (op b)) ∧ ps (sd (op b)) = 1))) (p23_ : om (sd (op b)) ≠ (ed b) → ls k = 1 → st (sd (op b)) = 1 ∧ pd (op b) = 1) (p24_ : ∀ j, 0 ≤ j → j < nL → wh j ≠ 2 → kd j = 1 → wy j = op b → j ≠ k → ll k < ll j) (p25_ : ∀ j, 0 ≤ j → j < nL → wh j ≠ 2 → kd j = 0 → wy j ≠ op b) (p26_ : ∀ j, 0 ≤ j → j < nL → wh j ≠ 2 → kd j = 5 → wy j = op b → lv (sd b) < cl (ed b)) (p27_ : ∀ v, W v → sd v = (sd b) → ed v = td k → v = b ∧ ls k = 1) (p28_ : 0 ≤ nL) (cN10 : pj_N10 tow bst) : pj_N10 (pu tow (sd b) (-1)) (pu bst (sd b) (-1)) := by
  obtain ⟨hop, hed⟩ := hG
  unfold pj_N10 at *
  intro n0
  simp only [pu]
  have g0 := hop b
  have cN10_0 := cN10 (sd (op b))
  have cN10_1 := cN10 n0
  have cN10_2 := cN10 (sd b)
  have f0 := p6_ k
  have f1 := p7_ b
  have f2 := p7_ (op b)
  have f3 := p8_ b
  have f4 := p17_ b
  have f5 := p24_ k
  have f6 := p25_ k
  have f7 := p26_ k
  have f8 := p27_ b
  clear p6_ p7_ p8_ p17_ p24_ p25_ p26_ p27_
  clear hop hed cN10
  grind (splits := 24)

set_option maxHeartbeats 1000000 in
theorem pt_bg_N10e {W : Int → Prop} {sd : Int → Int} {op : Int → Int} {ed : Int → Int} {st : Int → Int} {lv : Int → Int} {tow : Int → Int} {tst : Int → Int} {om : Int → Int} {ps : Int → Int} {dl : Int → Int} {dn : Int → Int} {en : Int → Int} {pd : Int → Int} {cl : Int → Int} {nL : Int} {kd : Int → Int} {wy : Int → Int} {ll : Int → Int} {td : Int → Int} {ls : Int → Int} {wh : Int → Int} {F : Int → Prop} {F2 : Int → Prop} {b k : Int} (hG : pj_G W sd op ed) (p0_ : W b) (p1_ : 0 ≤ k) (p2_ : k < nL) (p3_ : wh k ≠ 2) (p4_ : kd k = 1) (p5_ : wy k = op b) (p6_ : ∀ j, 0 ≤ j → j < k → wy j = wy k → wh j ≠ 0) (p7_ : ∀ v, ¬ F v) (p8_ : ∀ v, F2 v ↔ (W v ∧ sd v = (sd b) ∧ v ≠ b ∧ en v = 1)) (p9_ : om (sd b) = (ed b)) (p10_ : lv (sd b) < ll k) (p11_ : 0 ≤ lv (sd b)) (p12_ : ll k ≤ dl (sd b)) (p13_ : cl (td k) = ll k) (p14_ : ls k = 1 ∨ ls k = 2) (p15_ : st (sd b) = 2) (p16_ : tst (sd b) = -1) (p17_ : ∀ v, W v → sd v = (sd b) → pd v = 0) (p18_ : en (op b) = 1) (p19_ : en b = 1) (p20_ : ls k = 1 → ll k = dl (sd b)) (p21_ : ll k = dl (sd b) → td k = dn (sd b)) (p22_ : om (sd (op b)) = (ed b) → ls k = 1 ∧ td k = (ed b) ∧ cl (ed b) = ll k ∧ dl (sd (op b)) = ll k ∧ dn (sd (op b)) = (ed b) ∧ ((lv (sd (op b)) = dl (sd (op b)) ∧ ps (sd (op b)) = 0) ∨ (lv (sd (op b)) < dl (sd (op b)) ∧ ps (sd (op b)) = 1))) (p23_ : om (sd (op b)) ≠ (ed b) → ls k = 1 → st (sd (op b)) = 1 ∧ pd (op b) = 1) (p24_ : ∀ j, 0 ≤ j → j < nL → wh j ≠ 2 → kd j = 1 → wy j = op b → j ≠ k → ll k < ll j) (p25_ : ∀ j, 0 ≤ j → j < nL → wh j ≠ 2 → kd j = 0 → wy j ≠ op b) (p26_ : ∀ j, 0 ≤ j → j < nL → wh j ≠ 2 → kd j = 5 → wy j = op b → lv (sd b) < cl (ed b)) (p27_ : ∀ v, W v → sd v = (sd b) → ed v = td k → v = b ∧ ls k = 1) (p28_ : 0 ≤ nL) (cN10e : pj_N10e W sd ed tow) : pj_N10e W sd ed (pu tow (sd b) (-1)) := by
  obtain ⟨hop, hed⟩ := hG
  unfold pj_N10e at *
  intro n0
  simp only [pu]
  have g0 := hop b
  have cN10e_0 := cN10e (sd (op b))
  have cN10e_1 := cN10e n0
  have cN10e_2 := cN10e (sd b)
  have f0 := p6_ k
  have f1 := p7_ b
  have f2 := p7_ (op b)
  have f3 := p8_ b
  have f4 := p17_ b
  have f5 := p24_ k
  have f6 := p25_ k
  have f7 := p26_ k
  have f8 := p27_ b
  clear p6_ p7_ p8_ p17_ p24_ p25_ p26_ p27_
  clear hop hed cN10e
  grind (splits := 24)

set_option maxHeartbeats 1000000 in
theorem pt_bg_N13 {W : Int → Prop} {sd : Int → Int} {op : Int → Int} {ed : Int → Int} {st : Int → Int} {lv : Int → Int} {nm : Int → Int} {inw : Int → Int} {tst : Int → Int} {om : Int → Int} {ps : Int → Int} {dl : Int → Int} {dn : Int → Int} {en : Int → Int} {pd : Int → Int} {cl : Int → Int} {nL : Int} {kd : Int → Int} {wy : Int → Int} {ll : Int → Int} {td : Int → Int} {ls : Int → Int} {wh : Int → Int} {F : Int → Prop} {F2 : Int → Prop} {b k : Int} (hG : pj_G W sd op ed) (p0_ : W b) (p1_ : 0 ≤ k) (p2_ : k < nL) (p3_ : wh k ≠ 2) (p4_ : kd k = 1) (p5_ : wy k = op b) (p6_ : ∀ j, 0 ≤ j → j < k → wy j = wy k → wh j ≠ 0) (p7_ : ∀ v, ¬ F v) (p8_ : ∀ v, F2 v ↔ (W v ∧ sd v = (sd b) ∧ v ≠ b ∧ en v = 1)) (p9_ : om (sd b) = (ed b)) (p10_ : lv (sd b) < ll k) (p11_ : 0 ≤ lv (sd b)) (p12_ : ll k ≤ dl (sd b)) (p13_ : cl (td k) = ll k) (p14_ : ls k = 1 ∨ ls k = 2) (p15_ : st (sd b) = 2) (p16_ : tst (sd b) = -1) (p17_ : ∀ v, W v → sd v = (sd b) → pd v = 0) (p18_ : en (op b) = 1) (p19_ : en b = 1) (p20_ : ls k = 1 → ll k = dl (sd b)) (p21_ : ll k = dl (sd b) → td k = dn (sd b)) (p22_ : om (sd (op b)) = (ed b) → ls k = 1 ∧ td k = (ed b) ∧ cl (ed b) = ll k ∧ dl (sd (op b)) = ll k ∧ dn (sd (op b)) = (ed b) ∧ ((lv (sd (op b)) = dl (sd (op b)) ∧ ps (sd (op b)) = 0) ∨ (lv (sd (op b)) < dl (sd (op b)) ∧ ps (sd (op b)) = 1))) (p23_ : om (sd (op b)) ≠ (ed b) → ls k = 1 → st (sd (op b)) = 1 ∧ pd (op b) = 1) (p24_ : ∀ j, 0 ≤ j → j < nL → wh j ≠ 2 → kd j = 1 → wy j = op b → j ≠ k → ll k < ll j) (p25_ : ∀ j, 0 ≤ j → j < nL → wh j ≠ 2 → kd j = 0 → wy j ≠ op b) (p26_ : ∀ j, 0 ≤ j → j < nL → wh j ≠ 2 → kd j = 5 → wy j = op b → lv (sd b) < cl (ed b)) (p27_ : ∀ v, W v → sd v = (sd b) → ed v = td k → v = b ∧ ls k = 1) (p28_ : 0 ≤ nL) (cN13 : pj_N13 W sd ed lv nm inw) : pj_N13 W sd ed (pu lv (sd b) (ll k)) (pu nm (sd b) (td k)) (pu inw (sd b) (ed b)) := by
  obtain ⟨hop, hed⟩ := hG
  unfold pj_N13 at *
  intro w0
  simp only [pu]
  have g0 := hop b
  have g1 := hop w0
  have g2 := hed b w0
  have cN13_0 := cN13 b
  have cN13_1 := cN13 w0
  have cN13_2 := cN13 (op w0)
  have f0 := p6_ k
  have f1 := p7_ b
  have f2 := p7_ w0
  have f3 := p7_ (op w0)
  have f4 := p7_ (op b)
  have f5 := p8_ b
  have f6 := p8_ w0
  have f7 := p8_ (op w0)
  have f8 := p17_ b
  have f9 := p17_ w0
  have f10 := p17_ (op w0)
  have f11 := p24_ k
  have f12 := p25_ k
  have f13 := p26_ k
  have f14 := p27_ b
  have f15 := p27_ w0
  have f16 := p27_ (op w0)
  clear p6_ p7_ p8_ p17_ p24_ p25_ p26_ p27_
  clear hop hed cN13
  grind (splits := 24)

set_option maxHeartbeats 1000000 in
theorem pt_bg_C1 {W : Int → Prop} {sd : Int → Int} {op : Int → Int} {ed : Int → Int} {st : Int → Int} {lv : Int → Int} {nm : Int → Int} {tst : Int → Int} {om : Int → Int} {ps : Int → Int} {dl : Int → Int} {dn : Int → Int} {en : Int → Int} {pd : Int → Int} {cl : Int → Int} {nL : Int} {kd : Int → Int} {wy : Int → Int} {ll : Int → Int} {td : Int → Int} {ls : Int → Int} {wh : Int → Int} {F : Int → Prop} {F2 : Int → Prop} {b k : Int} (hG : pj_G W sd op ed) (p0_ : W b) (p1_ : 0 ≤ k) (p2_ : k < nL) (p3_ : wh k ≠ 2) (p4_ : kd k = 1) (p5_ : wy k = op b) (p6_ : ∀ j, 0 ≤ j → j < k → wy j = wy k → wh j ≠ 0) (p7_ : ∀ v, ¬ F v) (p8_ : ∀ v, F2 v ↔ (W v ∧ sd v = (sd b) ∧ v ≠ b ∧ en v = 1)) (p9_ : om (sd b) = (ed b)) (p10_ : lv (sd b) < ll k) (p11_ : 0 ≤ lv (sd b)) (p12_ : ll k ≤ dl (sd b)) (p13_ : cl (td k) = ll k) (p14_ : ls k = 1 ∨ ls k = 2) (p15_ : st (sd b) = 2) (p16_ : tst (sd b) = -1) (p17_ : ∀ v, W v → sd v = (sd b) → pd v = 0) (p18_ : en (op b) = 1) (p19_ : en b = 1) (p20_ : ls k = 1 → ll k = dl (sd b)) (p21_ : ll k = dl (sd b) → td k = dn (sd b)) (p22_ : om (sd (op b)) = (ed b) → ls k = 1 ∧ td k = (ed b) ∧ cl (ed b) = ll k ∧ dl (sd (op b)) = ll k ∧ dn (sd (op b)) = (ed b) ∧ ((lv (sd (op b)) = dl (sd (op b)) ∧ ps (sd (op b)) = 0) ∨ (lv (sd (op b)) < dl (sd (op b)) ∧ ps (sd (op b)) = 1))) (p23_ : om (sd (op b)) ≠ (ed b) → ls k = 1 → st (sd (op b)) = 1 ∧ pd (op b) = 1) (p24_ : ∀ j, 0 ≤ j → j < nL → wh j ≠ 2 → kd j = 1 → wy j = op b → j ≠ k → ll k < ll j) (p25_ : ∀ j, 0 ≤ j → j < nL → wh j ≠ 2 → kd j = 0 → wy j ≠ op b) (p26_ : ∀ j, 0 ≤ j → j < nL → wh j ≠ 2 → kd j = 5 → wy j = op b → lv (sd b) < cl (ed b)) (p27_ : ∀ v, W v → sd v = (sd b) → ed v = td k → v = b ∧ ls k = 1) (p28_ : 0 ≤ nL) (cC1 : pj_C1 lv nm cl) : pj_C1 (pu lv (sd b) (ll k)) (pu nm (sd b) (td k)) cl := by
  obtain ⟨hop, hed⟩ := hG
  unfold pj_C1 at *
  intro n0
  simp only [pu]
  have g0 := hop b
  have cC1_0 := cC1 (sd (op b))
  have cC1_1 := cC1 n0
  have cC1_2 := cC1 (sd b)
  have f0 := p6_ k
  have f1 := p7_ b
  have f2 := p7_ (op b)
  have f3 := p8_ b
  have f4 := p17_ b
  have f5 := p24_ k
  have f6 := p25_ k
  have f7 := p26_ k
  have f8 := p27_ b
  clear p6_ p7_ p8_ p17_ p24_ p25_ p26_ p27_
  clear hop hed cC1
  grind (splits := 24)

set_option maxHeartbeats 1000000 in
theorem pt_bg_C2 {W : Int → Prop} {sd : Int → Int} {op : Int → Int} {ed : Int → Int} {st : Int → Int} {lv : Int → Int} {nm : Int → Int} {tst : Int → Int} {om : Int → Int} {ps : Int → Int} {dl : Int → Int} {dn : Int → Int} {en : Int → Int} {pd : Int → Int} {cl : Int → Int} {nL : Int} {kd : Int → Int} {wy : Int → Int} {ll : Int → Int} {td : Int → Int} {ls : Int → Int} {wh : Int → Int} {F : Int → Prop} {F2 : Int → Prop} {b k : Int} (hG : pj_G W sd op ed) (p0_ : W b) (p1_ : 0 ≤ k) (p2_ : k < nL) (p3_ : wh k ≠ 2) (p4_ : kd k = 1) (p5_ : wy k = op b) (p6_ : ∀ j, 0 ≤ j → j < k → wy j = wy k → wh j ≠ 0) (p7_ : ∀ v, ¬ F v) (p8_ : ∀ v, F2 v ↔ (W v ∧ sd v = (sd b) ∧ v ≠ b ∧ en v = 1)) (p9_ : om (sd b) = (ed b)) (p10_ : lv (sd b) < ll k) (p11_ : 0 ≤ lv (sd b)) (p12_ : ll k ≤ dl (sd b)) (p13_ : cl (td k) = ll k) (p14_ : ls k = 1 ∨ ls k = 2) (p15_ : st (sd b) = 2) (p16_ : tst (sd b) = -1) (p17_ : ∀ v, W v → sd v = (sd b) → pd v = 0) (p18_ : en (op b) = 1) (p19_ : en b = 1) (p20_ : ls k = 1 → ll k = dl (sd b)) (p21_ : ll k = dl (sd b) → td k = dn (sd b)) (p22_ : om (sd (op b)) = (ed b) → ls k = 1 ∧ td k = (ed b) ∧ cl (ed b) = ll k ∧ dl (sd (op b)) = ll k ∧ dn (sd (op b)) = (ed b) ∧ ((lv (sd (op b)) = dl (sd (op b)) ∧ ps (sd (op b)) = 0) ∨ (lv (sd (op b)) < dl (sd (op b)) ∧ ps (sd (op b)) = 1))) (p23_ : om (sd (op b)) ≠ (ed b) → ls k = 1 → st (sd (op b)) = 1 ∧ pd (op b) = 1) (p24_ : ∀ j, 0 ≤ j → j < nL → wh j ≠ 2 → kd j = 1 → wy j = op b → j ≠ k → ll k < ll j) (p25_ : ∀ j, 0 ≤ j → j < nL → wh j ≠ 2 → kd j = 0 → wy j ≠ op b) (p26_ : ∀ j, 0 ≤ j → j < nL → wh j ≠ 2 → kd j = 5 → wy j = op b → lv (sd b) < cl (ed b)) (p27_ : ∀ v, W v → sd v = (sd b) → ed v = td k → v = b ∧ ls k = 1) (p28_ : 0 ≤ nL) (cC2 : pj_C2 lv nm dl dn cl) : pj_C2 (pu lv (sd b) (ll k)) (pu nm (sd b) (td k)) dl dn cl := by
  obtain ⟨hop, hed⟩ := hG
  unfold pj_C2 at *
  intro n0
  simp only [pu]
  have g0 := hop b
  have cC2_0 := cC2 (sd (op b))
  have cC2_1 := cC2 n0
  have cC2_2 := cC2 (sd b)
  have f0 := p6_ k
  have f1 := p7_ b
  have f2 := p7_ (op b)
  have f3 := p8_ b
  have f4 := p17_ b
  have f5 := p24_ k
  have f6 := p25_ k
  have f7 := p26_ k
  have f8 := p27_ b
  clear p6_ p7_ p8_ p17_ p24_ p25_ p26_ p27_
  clear hop hed cC2
  grind (splits := 24)

set_option maxHeartbeats 1000000 in
theorem pt_bg_R3a {W : Int → Prop} {sd : Int → Int} {op : Int → Int} {ed : Int → Int} {st : Int → Int} {lv : Int → Int} {tst : Int → Int} {om : Int → Int} {ps : Int → Int} {dl : Int → Int} {dn : Int → Int} {en : Int → Int} {pd : Int → Int} {cl : Int → Int} {nL : Int} {kd : Int → Int} {wy : Int → Int} {ll : Int → Int} {td : Int → Int} {ls : Int → Int} {wh : Int → Int} {F : Int → Prop} {F2 : Int → Prop} {b k : Int} (hG : pj_G W sd op ed) (p0_ : W b) (p1_ : 0 ≤ k) (p2_ : k < nL) (p3_ : wh k ≠ 2) (p4_ : kd k = 1) (p5_ : wy k = op b) (p6_ : ∀ j, 0 ≤ j → j < k → wy j = wy k → wh j ≠ 0) (p7_ : ∀ v, ¬ F v) (p8_ : ∀ v, F2 v ↔ (W v ∧ sd v = (sd b) ∧ v ≠ b ∧ en v = 1)) (p9_ : om (sd b) = (ed b)) (p10_ : lv (sd b) < ll k) (p11_ : 0 ≤ lv (sd b)) (p12_ : ll k ≤ dl (sd b)) (p13_ : cl (td k) = ll k) (p14_ : ls k = 1 ∨ ls k = 2) (p15_ : st (sd b) = 2) (p16_ : tst (sd b) = -1) (p17_ : ∀ v, W v → sd v = (sd b) → pd v = 0) (p18_ : en (op b) = 1) (p19_ : en b = 1) (p20_ : ls k = 1 → ll k = dl (sd b)) (p21_ : ll k = dl (sd b) → td k = dn (sd b)) (p22_ : om (sd (op b)) = (ed b) → ls k = 1 ∧ td k = (ed b) ∧ cl (ed b) = ll k ∧ dl (sd (op b)) = ll k ∧ dn (sd (op b)) = (ed b) ∧ ((lv (sd (op b)) = dl (sd (op b)) ∧ ps (sd (op b)) = 0) ∨ (lv (sd (op b)) < dl (sd (op b)) ∧ ps (sd (op b)) = 1))) (p23_ : om (sd (op b)) ≠ (ed b) → ls k = 1 → st (sd (op b)) = 1 ∧ pd (op b) = 1) (p24_ : ∀ j, 0 ≤ j → j < nL → wh j ≠ 2 → kd j = 1 → wy j = op b → j ≠ k → ll k < ll j) (p25_ : ∀ j, 0 ≤ j → j < nL → wh j ≠ 2 → kd j = 0 → wy j ≠ op b) (p26_ : ∀ j, 0 ≤ j → j < nL → wh j ≠ 2 → kd j = 5 → wy j = op b → lv (sd b) < cl (ed b)) (p27_ : ∀ v, W v → sd v = (sd b) → ed v = td k → v = b ∧ ls k = 1) (p28_ : 0 ≤ nL) (cR3a : pj_R3a st lv dl) : pj_R3a (pu st (sd b) (ls k)) (pu lv (sd b) (ll k)) dl := by
  obtain ⟨hop, hed⟩ := hG
  unfold pj_R3a at *
  intro n0
  simp only [pu]
  have g0 := hop b
  have cR3a_0 := cR3a (sd (op b))
  have cR3a_1 := cR3a n0
  have cR3a_2 := cR3a (sd b)
  have f0 := p6_ k
  have f1 := p7_ b
  have f2 := p7_ (op b)
  have f3 := p8_ b
  have f4 := p17_ b
  have f5 := p24_ k
  have f6 := p25_ k
  have f7 := p26_ k
  have f8 := p27_ b
  clear p6_ p7_ p8_ p17_ p24_ p25_ p26_ p27_
  clear hop hed cR3a
  grind (splits := 24)

set_option maxHeartbeats 1000000 in
theorem pt_bg_E1 {W : Int → Prop} {sd : Int → Int} {op : Int → Int} {ed : Int → Int} {st : Int → Int} {lv : Int → Int} {tst : Int → Int} {om : Int → Int} {ps : Int → Int} {dl : Int → Int} {dn : Int → Int} {en : Int → Int} {pd : Int → Int} {cl : Int → Int} {nL : Int} {kd : Int → Int} {wy : Int → Int} {ll : Int → Int} {td : Int → Int} {ls : Int → Int} {wh : Int → Int} {F : Int → Prop} {F2 : Int → Prop} {b k : Int} (hG : pj_G W sd op ed) (p0_ : W b) (p1_ : 0 ≤ k) (p2_ : k < nL) (p3_ : wh k ≠ 2) (p4_ : kd k = 1) (p5_ : wy k = op b) (p6_ : ∀ j, 0 ≤ j → j < k → wy j = wy k → wh j ≠ 0) (p7_ : ∀ v, ¬ F v) (p8_ : ∀ v, F2 v ↔ (W v ∧ sd v = (sd b) ∧ v ≠ b ∧ en v = 1)) (p9_ : om (sd b) = (ed b)) (p10_ : lv (sd b) < ll k) (p11_ : 0 ≤ lv (sd b)) (p12_ : ll k ≤ dl (sd b)) (p13_ : cl (td k) = ll k) (p14_ : ls k = 1 ∨ ls k = 2) (p15_ : st (sd b) = 2) (p16_ : tst (sd b) = -1) (p17_ : ∀ v, W v → sd v = (sd b) → pd v = 0) (p18_ : en (op b) = 1) (p19_ : en b = 1) (p20_ : ls k = 1 → ll k = dl (sd b)) (p21_ : ll k = dl (sd b) → td k = dn (sd b)) (p22_ : om (sd (op b)) = (ed b) → ls k = 1 ∧ td k = (ed b) ∧ cl (ed b) = ll k ∧ dl (sd (op b)) = ll k ∧ dn (sd (op b)) = (ed b) ∧ ((lv (sd (op b)) = dl (sd (op b)) ∧ ps (sd (op b)) = 0) ∨ (lv (sd (op b)) < dl (sd (op b)) ∧ ps (sd (op b)) = 1))) (p23_ : om (sd (op b)) ≠ (ed b) → ls k = 1 → st (sd (op b)) = 1 ∧ pd (op b) = 1) (p24_ : ∀ j, 0 ≤ j → j < nL → wh j ≠ 2 → kd j = 1 → wy j = op b → j ≠ k → ll k < ll j) (p25_ : ∀ j, 0 ≤ j → j < nL → wh j ≠ 2 → kd j = 0 → wy j ≠ op b) (p26_ : ∀ j, 0 ≤ j → j < nL → wh j ≠ 2 → kd j = 5 → wy j = op b → lv (sd b) < cl (ed b)) (p27_ : ∀ v, W v → sd v = (sd b) → ed v = td k → v = b ∧ ls k = 1) (p28_ : 0 ≤ nL) (cE1 : pj_E1 sd op lv dl nL kd wy ll wh) : pj_E1 sd op (pu lv (sd b) (ll k)) dl nL kd wy ll (pu wh k 2) := by
  obtain ⟨hop, hed⟩ := hG
  unfold pj_E1 at *
  intro n0
  simp only [pu]
  have g0 := hop b
  have cE1_0 := cE1 (sd (op b))
  have cE1_1 := cE1 n0
  have cE1_2 := cE1 (sd b)
  have f0 := p6_ k
  have f1 := p7_ b
  have f2 := p7_ (op b)
  have f3 := p8_ b
  have f4 := p17_ b
  have f5 := p24_ k
  have f6 := p25_ k
  have f7 := p26_ k
  have f8 := p27_ b
  clear p6_ p7_ p8_ p17_ p24_ p25_ p26_ p27_
  clear hop hed cE1
  grind (splits := 24)

set_option maxHeartbeats 1000000 in
theorem pt_bg_U {W : Int → Prop} {sd : Int → Int} {op : Int → Int} {ed : Int → Int} {st : Int → Int} {lv : Int → Int} {nm : Int → Int} {tst : Int → Int} {om : Int → Int} {ps : Int → Int} {dl : Int → Int} {dn : Int → Int} {af : Int → Int} {en : Int → Int} {pd : Int → Int} {cl : Int → Int} {nL : Int} {kd : Int → Int} {wy : Int → Int} {ll : Int → Int} {td : Int → Int} {ls : Int → Int} {wh : Int → Int} {F : Int → Prop} {F2 : Int → Prop} {b k : Int} (hG : pj_G W sd op ed) (p0_ : W b) (p1_ : 0 ≤ k) (p2_ : k < nL) (p3_ : wh k ≠ 2) (p4_ : kd k = 1) (p5_ : wy k = op b) (p6_ : ∀ j, 0 ≤ j → j < k → wy j = wy k → wh j ≠ 0) (p7_ : ∀ v, ¬ F v) (p8_ : ∀ v, F2 v ↔ (W v ∧ sd v = (sd b) ∧ v ≠ b ∧ en v = 1)) (p9_ : om (sd b) = (ed b)) (p10_ : lv (sd b) < ll k) (p11_ : 0 ≤ lv (sd b)) (p12_ : ll k ≤ dl (sd b)) (p13_ : cl (td k) = ll k) (p14_ : ls k = 1 ∨ ls k = 2) (p15_ : st (sd b) = 2) (p16_ : tst (sd b) = -1) (p17_ : ∀ v, W v → sd v = (sd b) → pd v = 0) (p18_ : en (op b) = 1) (p19_ : en b = 1) (p20_ : ls k = 1 → ll k = dl (sd b)) (p21_ : ll k = dl (sd b) → td k = dn (sd b)) (p22_ : om (sd (op b)) = (ed b) → ls k = 1 ∧ td k = (ed b) ∧ cl (ed b) = ll k ∧ dl (sd (op b)) = ll k ∧ dn (sd (op b)) = (ed b) ∧ ((lv (sd (op b)) = dl (sd (op b)) ∧ ps (sd (op b)) = 0) ∨ (lv (sd (op b)) < dl (sd (op b)) ∧ ps (sd (op b)) = 1))) (p23_ : om (sd (op b)) ≠ (ed b) → ls k = 1 → st (sd (op b)) = 1 ∧ pd (op b) = 1) (p24_ : ∀ j, 0 ≤ j → j < nL → wh j ≠ 2 → kd j = 1 → wy j = op b → j ≠ k → ll k < ll j) (p25_ : ∀ j, 0 ≤ j → j < nL → wh j ≠ 2 → kd j = 0 → wy j ≠ op b) (p26_ : ∀ j, 0 ≤ j → j < nL → wh j ≠ 2 → kd j = 5 → wy j = op b → lv (sd b) < cl (ed b)) (p27_ : ∀ v, W v → sd v = (sd b) → ed v = td k → v = b ∧ ls k = 1) (p28_ : 0 ≤ nL) (cU : pj_U W sd op ed lv nm om ps dl en cl) (cC1 : pj_C1 lv nm cl) (cN0 : pj_N0 st lv ps dl af) : pj_U W sd op ed (pu lv (sd b) (ll k)) (pu nm (sd b) (td k)) om (pu ps (sd b) 0) dl en cl := by
  obtain ⟨hop, hed⟩ := hG
  unfold pj_U pj_C1 pj_N0 at *
  intro w0
  simp only [pu]
  have g0 := hop b
  have g1 := hop w0
  have g2 := hed b w0
  have cU_0 := cU b
  have cU_1 := cU w0
  have cU_2 := cU (op w0)
  have cC1_0 := cC1 (sd (op b))
  have cC1_1 := cC1 (sd b)
  have cC1_2 := cC1 (sd w0)
  have cC1_3 := cC1 (sd (op w0))
  have cN0_0 := cN0 (sd (op b))
  have cN0_1 := cN0 (sd b)
  have cN0_2 := cN0 (sd w0)
  have cN0_3 := cN0 (sd (op w0))
  have f0 := p6_ k
  have f1 := p7_ b
  have f2 := p7_ w0
  have f3 := p7_ (op w0)
  have f4 := p7_ (op b)
  have f5 := p8_ b
  have f6 := p8_ w0
  have f7 := p8_ (op w0)
  have f8 := p17_ b
  have f9 := p17_ w0
  have f10 := p17_ (op w0)
  have f11 := p24_ k
  have f12 := p25_ k
  have f13 := p26_ k
  have f14 := p27_ b
  have f15 := p27_ w0
  have f16 := p27_ (op w0)
  clear p6_ p7_ p8_ p17_ p24_ p25_ p26_ p27_
  clear hop hed cU cC1 cN0
  grind (splits := 24)

set_option maxHeartbeats 1000000 in
theorem pt_bg_A1 {W : Int → Prop} {sd : Int → Int} {op : Int → Int} {ed : Int → Int} {st : Int → Int} {lv : Int → Int} {nm : Int → Int} {tst : Int → Int} {om : Int → Int} {ps : Int → Int} {dl : Int → Int} {dn : Int → Int} {en : Int → Int} {pd : Int → Int} {cl : Int → Int} {nL : Int} {kd : Int → Int} {wy : Int → Int} {ll : Int → Int} {td : Int → Int} {ls : Int → Int} {wh : Int → Int} {F : Int → Prop} {fl : Int} {fc : Int} {F2 : Int → Prop} {b k : Int} (hG : pj_G W sd op ed) (p0_ : W b) (p1_ : 0 ≤ k) (p2_ : k < nL) (p3_ : wh k ≠ 2) (p4_ : kd k = 1) (p5_ : wy k = op b) (p6_ : ∀ j, 0 ≤ j → j < k → wy j = wy k → wh j ≠ 0) (p7_ : ∀ v, ¬ F v) (p8_ : ∀ v, F2 v ↔ (W v ∧ sd v = (sd b) ∧ v ≠ b ∧ en v = 1)) (p9_ : om (sd b) = (ed b)) (p10_ : lv (sd b) < ll k) (p11_ : 0 ≤ lv (sd b)) (p12_ : ll k ≤ dl (sd b)) (p13_ : cl (td k) = ll k) (p14_ : ls k = 1 ∨ ls k = 2) (p15_ : st (sd b) = 2) (p16_ : tst (sd b) = -1) (p17_ : ∀ v, W v → sd v = (sd b) → pd v = 0) (p18_ : en (op b) = 1) (p19_ : en b = 1) (p20_ : ls k = 1 → ll k = dl (sd b)) (p21_ : ll k = dl (sd b) → td k = dn (sd b)) (p22_ : om (sd (op b)) = (ed b) → ls k = 1 ∧ td k = (ed b) ∧ cl (ed b) = ll k ∧ dl (sd (op b)) = ll k ∧ dn (sd (op b)) = (ed b) ∧ ((lv (sd (op b)) = dl (sd (op b)) ∧ ps (sd (op b)) = 0) ∨ (lv (sd (op b)) < dl (sd (op b)) ∧ ps (sd (op b)) = 1))) (p23_ : om (sd (op b)) ≠ (ed b) → ls k = 1 → st (sd (op b)) = 1 ∧ pd (op b) = 1) (p24_ : ∀ j, 0 ≤ j → j < nL → wh j ≠ 2 → kd j = 1 → wy j = op b → j ≠ k → ll k < ll j) (p25_ : ∀ j, 0 ≤ j → j < nL → wh j ≠ 2 → kd j = 0 → wy j ≠ op b) (p26_ : ∀ j, 0 ≤ j → j < nL → wh j ≠ 2 → kd j = 5 → wy j = op b → lv (sd b) < cl (ed b)) (p27_ : ∀ v, W v → sd v = (sd b) → ed v = td k → v = b ∧ ls k = 1) (p28_ : 0 ≤ nL) (cA1 : pj_A1 W sd op ed lv nm om dl dn en F fl fc) : pj_A1 W sd op ed (pu lv (sd b) (ll k)) (pu nm (sd b) (td k)) om dl dn en (F2) (lv (sd b)) (nm (sd b)) := by
  obtain ⟨hop, hed⟩ := hG
  unfold pj_A1 at *
  intro w0
  simp only [pu]
  have g0 := hop b
  have g1 := hop w0
  have g2 := hed b w0
  have cA1_0 := cA1 b
  have cA1_1 := cA1 w0
  have cA1_2 := cA1 (op w0)
  have f0 := p6_ k
  have f1 := p7_ b
  have f2 := p7_ w0
  have f3 := p7_ (op w0)
  have f4 := p7_ (op b)
  have f5 := p8_ b
  have f6 := p8_ w0
  have f7 := p8_ (op w0)
  have f8 := p17_ b
  have f9 := p17_ w0
  have f10 := p17_ (op w0)
  have f11 := p24_ k
  have f12 := p25_ k
  have f13 := p26_ k
  have f14 := p27_ b
  have f15 := p27_ w0
  have f16 := p27_ (op w0)
  clear p6_ p7_ p8_ p17_ p24_ p25_ p26_ p27_
  clear hop hed cA1
  grind (splits := 24)

set_option maxHeartbeats 1000000 in
theorem pt_bg_A2 {W : Int → Prop} {sd : Int → Int} {op : Int → Int} {ed : Int → Int} {st : Int → Int} {lv : Int → Int} {nm : Int → Int} {tst : Int → Int} {om : Int → Int} {ps : Int → Int} {dl : Int → Int} {dn : Int → Int} {en : Int → Int} {pd : Int → Int} {cl : Int → Int} {nL : Int} {kd : Int → Int} {wy : Int → Int} {ll : Int → Int} {td : Int → Int} {ls : Int → Int} {wh : Int → Int} {F : Int → Prop} {F2 : Int → Prop} {b k : Int} (hG : pj_G W sd op ed) (p0_ : W b) (p1_ : 0 ≤ k) (p2_ : k < nL) (p3_ : wh k ≠ 2) (p4_ : kd k = 1) (p5_ : wy k = op b) (p6_ : ∀ j, 0 ≤ j → j < k → wy j = wy k → wh j ≠ 0) (p7_ : ∀ v, ¬ F v) (p8_ : ∀ v, F2 v ↔ (W v ∧ sd v = (sd b) ∧ v ≠ b ∧ en v = 1)) (p9_ : om (sd b) = (ed b)) (p10_ : lv (sd b) < ll k) (p11_ : 0 ≤ lv (sd b)) (p12_ : ll k ≤ dl (sd b)) (p13_ : cl (td k) = ll k) (p14_ : ls k = 1 ∨ ls k = 2) (p15_ : st (sd b) = 2) (p16_ : tst (sd b) = -1) (p17_ : ∀ v, W v → sd v = (sd b) → pd v = 0) (p18_ : en (op b) = 1) (p19_ : en b = 1) (p20_ : ls k = 1 → ll k = dl (sd b)) (p21_ : ll k = dl (sd b) → td k = dn (sd b)) (p22_ : om (sd (op b)) = (ed b) → ls k = 1 ∧ td k = (ed b) ∧ cl (ed b) = ll k ∧ dl (sd (op b)) = ll k ∧ dn (sd (op b)) = (ed b) ∧ ((lv (sd (op b)) = dl (sd (op b)) ∧ ps (sd (op b)) = 0) ∨ (lv (sd (op b)) < dl (sd (op b)) ∧ ps (sd (op b)) = 1))) (p23_ : om (sd (op b)) ≠ (ed b) → ls k = 1 → st (sd (op b)) = 1 ∧ pd (op b) = 1) (p24_ : ∀ j, 0 ≤ j → j < nL → wh j ≠ 2 → kd j = 1 → wy j = op b → j ≠ k → ll k < ll j) (p25_ : ∀ j, 0 ≤ j → j < nL → wh j ≠ 2 → kd j = 0 → wy j ≠ op b) (p26_ : ∀ j, 0 ≤ j → j < nL → wh j ≠ 2 → kd j = 5 → wy j = op b → lv (sd b) < cl (ed b)) (p27_ : ∀ v, W v → sd v = (sd b) → ed v = td k → v = b ∧ ls k = 1) (p28_ : 0 ≤ nL) (cA2 : pj_A2 W sd op ed st lv nm om ps dl dn cl) : pj_A2 W sd op ed (pu st (sd b) (ls k)) (pu lv (sd b) (ll k)) (pu nm (sd b) (td k)) om (pu ps (sd b) 0) dl dn cl := by
  obtain ⟨hop, hed⟩ := hG
  unfold pj_A2 at *
  intro w0
  simp only [pu]
  have g0 := hop b
  have g1 := hop w0
  have g2 := hed b w0
  have cA2_0 := cA2 b
  have cA2_1 := cA2 w0
  have cA2_2 := cA2 (op w0)
  have f0 := p6_ k
  have f1 := p7_ b
  have f2 := p7_ w0
  have f3 := p7_ (op w0)
  have f4 := p7_ (op b)
  have f5 := p8_ b
  have f6 := p8_ w0
  have f7 := p8_ (op w0)
  have f8 := p17_ b
  have f9 := p17_ w0
  have f10 := p17_ (op w0)
  have f11 := p24_ k
  have f12 := p25_ k
  have f13 := p26_ k
  have f14 := p27_ b
  have f15 := p27_ w0
  have f16 := p27_ (op w0)
  clear p6_ p7_ p8_ p17_ p24_ p25_ p26_ p27_
  clear hop hed cA2
  grind (splits := 24)

set_option maxHeartbeats 1000000 in
theorem pt_bg_EC {W : Int → Prop} {sd : Int → Int} {op : Int → Int} {ed : Int → Int} {st : Int → Int} {lv : Int → Int} {nm : Int → Int} {tst : Int → Int} {om : Int → Int} {ps : Int → Int} {dl : Int → Int} {dn : Int → Int} {en : Int → Int} {pd : Int → Int} {cl : Int → Int} {nL : Int} {kd : Int → Int} {wy : Int → Int} {ll : Int → Int} {td : Int → Int} {ls : Int → Int} {wh : Int → Int} {F : Int → Prop} {F2 : Int → Prop} {b k : Int} (hG : pj_G W sd op ed) (p0_ : W b) (p1_ : 0 ≤ k) (p2_ : k < nL) (p3_ : wh k ≠ 2) (p4_ : kd k = 1) (p5_ : wy k = op b) (p6_ : ∀ j, 0 ≤ j → j < k → wy j = wy k → wh j ≠ 0) (p7_ : ∀ v, ¬ F v) (p8_ : ∀ v, F2 v ↔ (W v ∧ sd v = (sd b) ∧ v ≠ b ∧ en v = 1)) (p9_ : om (sd b) = (ed b)) (p10_ : lv (sd b) < ll k) (p11_ : 0 ≤ lv (sd b)) (p12_ : ll k ≤ dl (sd b)) (p13_ : cl (td k) = ll k) (p14_ : ls k = 1 ∨ ls k = 2) (p15_ : st (sd b) = 2) (p16_ : tst (sd b) = -1) (p17_ : ∀ v, W v → sd v = (sd b) → pd v = 0) (p18_ : en (op b) = 1) (p19_ : en b = 1) (p20_ : ls k = 1 → ll k = dl (sd b)) (p21_ : ll k = dl (sd b) → td k = dn (sd b)) (p22_ : om (sd (op b)) = (ed b) → ls k = 1 ∧ td k = (ed b) ∧ cl (ed b) = ll k ∧ dl (sd (op b)) = ll k ∧ dn (sd (op b)) = (ed b) ∧ ((lv (sd (op b)) = dl (sd (op b)) ∧ ps (sd (op b)) = 0) ∨ (lv (sd (op b)) < dl (sd (op b)) ∧ ps (sd (op b)) = 1))) (p23_ : om (sd (op b)) ≠ (ed b) → ls k = 1 → st (sd (op b)) = 1 ∧ pd (op b) = 1) (p24_ : ∀ j, 0 ≤ j → j < nL → wh j ≠ 2 → kd j = 1 → wy j = op b → j ≠ k → ll k < ll j) (p25_ : ∀ j, 0 ≤ j → j < nL → wh j ≠ 2 → kd j = 0 → wy j ≠ op b) (p26_ : ∀ j, 0 ≤ j → j < nL → wh j ≠ 2 → kd j = 5 → wy j = op b → lv (sd b) < cl (ed b)) (p27_ : ∀ v, W v → sd v = (sd b) → ed v = td k → v = b ∧ ls k = 1) (p28_ : 0 ≤ nL) (cEC : pj_EC W sd op ed lv nm om ps dl nL kd wy wh F) (cU : pj_U W sd op ed lv nm om ps dl en cl) (cA2 : pj_A2 W sd op ed st lv nm om ps dl dn cl) : pj_EC W sd op ed (pu lv (sd b) (ll k)) (pu nm (sd b) (td k)) om (pu ps (sd b) 0) dl nL kd wy (pu wh k 2) (F2) := by
  obtain ⟨hop, hed⟩ := hG
  unfold pj_EC pj_U pj_A2 at *
  intro w0
  simp only [pu]
  have g0 := hop b
  have g1 := hop w0
  have g2 := hed b w0
  have cEC_0 := cEC b
  have cEC_1 := cEC w0
  have cEC_2 := cEC (op w0)
  have cU_0 := cU b
  have cU_1 := cU w0
  have cU_2 := cU (op w0)
  have cA2_0 := cA2 b
  have cA2_1 := cA2 w0
  have cA2_2 := cA2 (op w0)
  have f0 := p6_ k
  have f1 := p7_ b
  have f2 := p7_ w0
  have f3 := p7_ (op w0)
  have f4 := p7_ (op b)
  have f5 := p8_ b
  have f6 := p8_ w0
  have f7 := p8_ (op w0)
  have f8 := p17_ b
  have f9 := p17_ w0
  have f10 := p17_ (op w0)
  have f11 := p24_ k
  have f12 := p25_ k
  have f13 := p26_ k
  have f14 := p27_ b
  have f15 := p27_ w0
  have f16 := p27_ (op w0)
  clear p6_ p7_ p8_ p17_ p24_ p25_ p26_ p27_
  clear hop hed cEC cU cA2
  grind (splits := 24)

set_option maxHeartbeats 1000000 in
theorem pt_bg_R3 {W : Int → Prop} {sd : Int → Int} {op : Int → Int} {ed : Int → Int} {st : Int → Int} {lv : Int → Int} {tst : Int → Int} {om : Int → Int} {ps : Int → Int} {dl : Int → Int} {dn : Int → Int} {en : Int → Int} {pd : Int → Int} {cl : Int → Int} {nL : Int} {kd : Int → Int} {wy : Int → Int} {ll : Int → Int} {td : Int → Int} {ls : Int → Int} {wh : Int → Int} {F : Int → Prop} {F2 : Int → Prop} {b k : Int} (hG : pj_G W sd op ed) (p0_ : W b) (p1_ : 0 ≤ k) (p2_ : k < nL) (p3_ : wh k ≠ 2) (p4_ : kd k = 1) (p5_ : wy k = op b) (p6_ : ∀ j, 0 ≤ j → j < k → wy j = wy k → wh j ≠ 0) (p7_ : ∀ v, ¬ F v) (p8_ : ∀ v, F2 v ↔ (W v ∧ sd v = (sd b) ∧ v ≠ b ∧ en v = 1)) (p9_ : om (sd b) = (ed b)) (p10_ : lv (sd b) < ll k) (p11_ : 0 ≤ lv (sd b)) (p12_ : ll k ≤ dl (sd b)) (p13_ : cl (td k) = ll k) (p14_ : ls k = 1 ∨ ls k = 2) (p15_ : st (sd b) = 2) (p16_ : tst (sd b) = -1) (p17_ : ∀ v, W v → sd v = (sd b) → pd v = 0) (p18_ : en (op b) = 1) (p19_ : en b = 1) (p20_ : ls k = 1 → ll k = dl (sd b)) (p21_ : ll k = dl (sd b) → td k = dn (sd b)) (p22_ : om (sd (op b)) = (ed b) → ls k = 1 ∧ td k = (ed b) ∧ cl (ed b) = ll k ∧ dl (sd (op b)) = ll k ∧ dn (sd (op b)) = (ed b) ∧ ((lv (sd (op b)) = dl (sd (op b)) ∧ ps (sd (op b)) = 0) ∨ (lv (sd (op b)) < dl (sd (op b)) ∧ ps (sd (op b)) = 1))) (p23_ : om (sd (op b)) ≠ (ed b) → ls k = 1 → st (sd (op b)) = 1 ∧ pd (op b) = 1) (p24_ : ∀ j, 0 ≤ j → j < nL → wh j ≠ 2 → kd j = 1 → wy j = op b → j ≠ k → ll k < ll j) (p25_ : ∀ j, 0 ≤ j → j < nL → wh j ≠ 2 → kd j = 0 → wy j ≠ op b) (p26_ : ∀ j, 0 ≤ j → j < nL → wh j ≠ 2 → kd j = 5 → wy j = op b → lv (sd b) < cl (ed b)) (p27_ : ∀ v, W v → sd v = (sd b) → ed v = td k → v = b ∧ ls k = 1) (p28_ : 0 ≤ nL) (cR3 : pj_R3 W sd op ed st om pd) : pj_R3 W sd op ed (pu st (sd b) (ls k)) om pd := by
  obtain ⟨hop, hed⟩ := hG
  unfold pj_R3 at *
  intro w0
  simp only [pu]
  have g0 := hop b
  have g1 := hop w0
  have g2 := hed b w0
  have cR3_0 := cR3 b
  have cR3_1 := cR3 w0
  have cR3_2 := cR3 (op w0)
  have f0 := p6_ k
  have f1 := p7_ b
  have f2 := p7_ w0
  have f3 := p7_ (op w0)
  have f4 := p7_ (op b)
  have f5 := p8_ b
  have f6 := p8_ w0
  have f7 := p8_ (op w0)
  have f8 := p17_ b
  have f9 := p17_ w0
  have f10 := p17_ (op w0)
  have f11 := p24_ k
  have f12 := p25_ k
  have f13 := p26_ k
  have f14 := p27_ b
  have f15 := p27_ w0
  have f16 := p27_ (op w0)
  clear p6_ p7_ p8_ p17_ p24_ p25_ p26_ p27_
  clear hop hed cR3
  grind (splits := 24)

set_option maxHeartbeats 1000000 in
theorem pt_bg_N11 {W : Int → Prop} {sd : Int → Int} {op : Int → Int} {ed : Int → Int} {st : Int → Int} {lv : Int → Int} {nm : Int → Int} {tow : Int → Int} {tst : Int → Int} {om : Int → Int} {ps : Int → Int} {dl : Int → Int} {dn : Int → Int} {en : Int → Int} {pd : Int → Int} {cl : Int → Int} {nL : Int} {kd : Int → Int} {wy : Int → Int} {ll : Int → Int} {td : Int → Int} {ls : Int → Int} {wh : Int → Int} {F : Int → Prop} {F2 : Int → Prop} {b k : Int} (hG : pj_G W sd op ed) (p0_ : W b) (p1_ : 0 ≤ k) (p2_ : k < nL) (p3_ : wh k ≠ 2) (p4_ : kd k = 1) (p5_ : wy k = op b) (p6_ : ∀ j, 0 ≤ j → j < k → wy j = wy k → wh j ≠ 0) (p7_ : ∀ v, ¬ F v) (p8_ : ∀ v, F2 v ↔ (W v ∧ sd v = (sd b) ∧ v ≠ b ∧ en v = 1)) (p9_ : om (sd b) = (ed b)) (p10_ : lv (sd b) < ll k) (p11_ : 0 ≤ lv (sd b)) (p12_ : ll k ≤ dl (sd b)) (p13_ : cl (td k) = ll k) (p14_ : ls k = 1 ∨ ls k = 2) (p15_ : st (sd b) = 2) (p16_ : tst (sd b) = -1) (p17_ : ∀ v, W v → sd v = (sd b) → pd v = 0) (p18_ : en (op b) = 1) (p19_ : en b = 1) (p20_ : ls k = 1 → ll k = dl (sd b)) (p21_ : ll k = dl (sd b) → td k = dn (sd b)) (p22_ : om (sd (op b)) = (ed b) → ls k = 1 ∧ td k = (ed b) ∧ cl (ed b) = ll k ∧ dl (sd (op b)) = ll k ∧ dn (sd (op b)) = (ed b) ∧ ((lv (sd (op b)) = dl (sd (op b)) ∧ ps (sd (op b)) = 0) ∨ (lv (sd (op b)) < dl (sd (op b)) ∧ ps (sd (op b)) = 1))) (p23_ : om (sd (op b)) ≠ (ed b) → ls k = 1 → st (sd (op b)) = 1 ∧ pd (op b) = 1) (p24_ : ∀ j, 0 ≤ j → j < nL → wh j ≠ 2 → kd j = 1 → wy j = op b → j ≠ k → ll k < ll j) (p25_ : ∀ j, 0 ≤ j → j < nL → wh j ≠ 2 → kd j = 0 → wy j ≠ op b) (p26_ : ∀ j, 0 ≤ j → j < nL → wh j ≠ 2 → kd j = 5 → wy j = op b → lv (sd b) < cl (ed b)) (p27_ : ∀ v, W v → sd v = (sd b) → ed v = td k → v = b ∧ ls k = 1) (p28_ : 0 ≤ nL) (cN11 : pj_N11 W sd op ed lv nm tow tst ps en) (cC1 : pj_C1 lv nm cl) : pj_N11 W sd op ed (pu lv (sd b) (ll k)) (pu nm (sd b) (td k)) (pu tow (sd b) (-1)) tst (pu ps (sd b) 0) en := by
  obtain ⟨hop, hed⟩ := hG
  unfold pj_N11 pj_C1 at *
  intro w0
  simp only [pu]
  have g0 := hop b
  have g1 := hop w0
  have g2 := hed b w0
  have cN11_0 := cN11 b
  have cN11_1 := cN11 w0
  have cN11_2 := cN11 (op w0)
  have cC1_0 := cC1 (sd (op b))
  have cC1_1 := cC1 (sd b)
  have cC1_2 := cC1 (sd w0)
  have cC1_3 := cC1 (sd (op w0))
  have f0 := p6_ k
  have f1 := p7_ b
  have f2 := p7_ w0
  have f3 := p7_ (op w0)
  have f4 := p7_ (op b)
  have f5 := p8_ b
  have f6 := p8_ w0
  have f7 := p8_ (op w0)
  have f8 := p17_ b
  have f9 := p17_ w0
  have f10 := p17_ (op w0)
  have f11 := p24_ k
  have f12 := p25_ k
  have f13 := p26_ k
  have f14 := p27_ b
  have f15 := p27_ w0
  have f16 := p27_ (op w0)
  clear p6_ p7_ p8_ p17_ p24_ p25_ p26_ p27_
  clear hop hed cN11 cC1
  grind (splits := 24)

set_option maxHeartbeats 1000000 in
theorem pt_bg_N12 {W : Int → Prop} {sd : Int → Int} {op : Int → Int} {ed : Int → Int} {st : Int → Int} {lv : Int → Int} {nm : Int → Int} {inw : Int → Int} {tow : Int → Int} {tst : Int → Int} {om : Int → Int} {ps : Int → Int} {dl : Int → Int} {dn : Int → Int} {en : Int → Int} {pd : Int → Int} {cl : Int → Int} {nL : Int} {kd : Int → Int} {wy : Int → Int} {ll : Int → Int} {td : Int → Int} {ls : Int → Int} {wh : Int → Int} {F : Int → Prop} {F2 : Int → Prop} {b k : Int} (hG : pj_G W sd op ed) (p0_ : W b) (p1_ : 0 ≤ k) (p2_ : k < nL) (p3_ : wh k ≠ 2) (p4_ : kd k = 1) (p5_ : wy k = op b) (p6_ : ∀ j, 0 ≤ j → j < k → wy j = wy k → wh j ≠ 0) (p7_ : ∀ v, ¬ F v) (p8_ : ∀ v, F2 v ↔ (W v ∧ sd v = (sd b) ∧ v ≠ b ∧ en v = 1)) (p9_ : om (sd b) = (ed b)) (p10_ : lv (sd b) < ll k) (p11_ : 0 ≤ lv (sd b)) (p12_ : ll k ≤ dl (sd b)) (p13_ : cl (td k) = ll k) (p14_ : ls k = 1 ∨ ls k = 2) (p15_ : st (sd b) = 2) (p16_ : tst (sd b) = -1) (p17_ : ∀ v, W v → sd v = (sd b) → pd v = 0) (p18_ : en (op b) = 1) (p19_ : en b = 1) (p20_ : ls k = 1 → ll k = dl (sd b)) (p21_ : ll k = dl (sd b) → td k = dn (sd b)) (p22_ : om (sd (op b)) = (ed b) → ls k = 1 ∧ td k = (ed b) ∧ cl (ed b) = ll k ∧ dl (sd (op b)) = ll k ∧ dn (sd (op b)) = (ed b) ∧ ((lv (sd (op b)) = dl (sd (op b)) ∧ ps (sd (op b)) = 0) ∨ (lv (sd (op b)) < dl (sd (op b)) ∧ ps (sd (op b)) = 1))) (p23_ : om (sd (op b)) ≠ (ed b) → ls k = 1 → st (sd (op b)) = 1 ∧ pd (op b) = 1) (p24_ : ∀ j, 0 ≤ j → j < nL → wh j ≠ 2 → kd j = 1 → wy j = op b → j ≠ k → ll k < ll j) (p25_ : ∀ j, 0 ≤ j → j < nL → wh j ≠ 2 → kd j = 0 → wy j ≠ op b) (p26_ : ∀ j, 0 ≤ j → j < nL → wh j ≠ 2 → kd j = 5 → wy j = op b → lv (sd b) < cl (ed b)) (p27_ : ∀ v, W v → sd v = (sd b) → ed v = td k → v = b ∧ ls k = 1) (p28_ : 0 ≤ nL) (cN12 : pj_N12 W sd op ed st lv nm inw tow om ps dl en) : pj_N12 W sd op ed (pu st (sd b) (ls k)) (pu lv (sd b) (ll k)) (pu nm (sd b) (td k)) (pu inw (sd b) (ed b)) (pu tow (sd b) (-1)) om (pu ps (sd b) 0) dl en := by
  obtain ⟨hop, hed⟩ := hG
  unfold pj_N12 at *
  intro w0
  simp only [pu]
  have g0 := hop b
  have g1 := hop w0
  have g2 := hed b w0
  have cN12_0 := cN12 b
  have cN12_1 := cN12 w0
  have cN12_2 := cN12 (op w0)
  have f0 := p6_ k
  have f1 := p7_ b
  have f2 := p7_ w0
  have f3 := p7_ (op w0)
  have f4 := p7_ (op b)
  have f5 := p8_ b
  have f6 := p8_ w0
  have f7 := p8_ (op w0)
  have f8 := p17_ b
  have f9 := p17_ w0
  have f10 := p17_ (op w0)
  have f11 := p24_ k
  have f12 := p25_ k
  have f13 := p26_ k
  have f14 := p27_ b
  have f15 := p27_ w0
  have f16 := p27_ (op w0)
  clear p6_ p7_ p8_ p17_ p24_ p25_ p26_ p27_
  clear hop hed cN12
  grind (splits := 24)

set_option maxHeartbeats 1000000 in
theorem pt_bg_PD {W : Int → Prop} {sd : Int → Int} {op : Int → Int} {ed : Int → Int} {st : Int → Int} {lv : Int → Int} {tst : Int → Int} {om : Int → Int} {ps : Int → Int} {dl : Int → Int} {dn : Int → Int} {en : Int → Int} {pd : Int → Int} {cl : Int → Int} {nL : Int} {kd : Int → Int} {wy : Int → Int} {ll : Int → Int} {td : Int → Int} {ls : Int → Int} {wh : Int → Int} {F : Int → Prop} {F2 : Int → Prop} {b k : Int} (hG : pj_G W sd op ed) (p0_ : W b) (p1_ : 0 ≤ k) (p2_ : k < nL) (p3_ : wh k ≠ 2) (p4_ : kd k = 1) (p5_ : wy k = op b) (p6_ : ∀ j, 0 ≤ j → j < k → wy j = wy k → wh j ≠ 0) (p7_ : ∀ v, ¬ F v) (p8_ : ∀ v, F2 v ↔ (W v ∧ sd v = (sd b) ∧ v ≠ b ∧ en v = 1)) (p9_ : om (sd b) = (ed b)) (p10_ : lv (sd b) < ll k) (p11_ : 0 ≤ lv (sd b)) (p12_ : ll k ≤ dl (sd b)) (p13_ : cl (td k) = ll k) (p14_ : ls k = 1 ∨ ls k = 2) (p15_ : st (sd b) = 2) (p16_ : tst (sd b) = -1) (p17_ : ∀ v, W v → sd v = (sd b) → pd v = 0) (p18_ : en (op b) = 1) (p19_ : en b = 1) (p20_ : ls k = 1 → ll k = dl (sd b)) (p21_ : ll k = dl (sd b) → td k = dn (sd b)) (p22_ : om (sd (op b)) = (ed b) → ls k = 1 ∧ td k = (ed b) ∧ cl (ed b) = ll k ∧ dl (sd (op b)) = ll k ∧ dn (sd (op b)) = (ed b) ∧ ((lv (sd (op b)) = dl (sd (op b)) ∧ ps (sd (op b)) = 0) ∨ (lv (sd (op b)) < dl (sd (op b)) ∧ ps (sd (op b)) = 1))) (p23_ : om (sd (op b)) ≠ (ed b) → ls k = 1 → st (sd (op b)) = 1 ∧ pd (op b) = 1) (p24_ : ∀ j, 0 ≤ j → j < nL → wh j ≠ 2 → kd j = 1 → wy j = op b → j ≠ k → ll k < ll j) (p25_ : ∀ j, 0 ≤ j → j < nL → wh j ≠ 2 → kd j = 0 → wy j ≠ op b) (p26_ : ∀ j, 0 ≤ j → j < nL → wh j ≠ 2 → kd j = 5 → wy j = op b → lv (sd b) < cl (ed b)) (p27_ : ∀ v, W v → sd v = (sd b) → ed v = td k → v = b ∧ ls k = 1) (p28_ : 0 ≤ nL) (cPD : pj_PD W sd op ed st om en pd) : pj_PD W sd op ed (pu st (sd b) (ls k)) om en pd := by
  obtain ⟨hop, hed⟩ := hG
  unfold pj_PD at *
  intro w0
  simp only [pu]
  have g0 := hop b
  have g1 := hop w0
  have g2 := hed b w0
  have cPD_0 := cPD b
  have cPD_1 := cPD w0
  have cPD_2 := cPD (op w0)
  have f0 := p6_ k
  have f1 := p7_ b
  have f2 := p7_ w0
  have f3 := p7_ (op w0)
  have f4 := p7_ (op b)
  have f5 := p8_ b
  have f6 := p8_ w0
  have f7 := p8_ (op w0)
  have f8 := p17_ b
  have f9 := p17_ w0
  have f10 := p17_ (op w0)
  have f11 := p24_ k
  have f12 := p25_ k
  have f13 := p26_ k
  have f14 := p27_ b
  have f15 := p27_ w0
  have f16 := p27_ (op w0)
  clear p6_ p7_ p8_ p17_ p24_ p25_ p26_ p27_
  clear hop hed cPD
  grind (splits := 24)

set_option maxHeartbeats 1000000 in
theorem pt_bg_RP {W : Int → Prop} {sd : Int → Int} {op : Int → Int} {ed : Int → Int} {st : Int → Int} {lv : Int → Int} {nm : Int → Int} {bst : Int → Int} {tst : Int → Int} {om : Int → Int} {ps : Int → Int} {dl : Int → Int} {dn : Int → Int} {en : Int → Int} {pd : Int → Int} {rp : Int → Int} {rv : Int → Int} {cl : Int → Int} {nL : Int} {kd : Int → Int} {wy : Int → Int} {ll : Int → Int} {td : Int → Int} {ls : Int → Int} {wh : Int → Int} {F : Int → Prop} {F2 : Int → Prop} {b k : Int} (hG : pj_G W sd op ed) (p0_ : W b) (p1_ : 0 ≤ k) (p2_ : k < nL) (p3_ : wh k ≠ 2) (p4_ : kd k = 1) (p5_ : wy k = op b) (p6_ : ∀ j, 0 ≤ j → j < k → wy j = wy k → wh j ≠ 0) (p7_ : ∀ v, ¬ F v) (p8_ : ∀ v, F2 v ↔ (W v ∧ sd v = (sd b) ∧ v ≠ b ∧ en v = 1)) (p9_ : om (sd b) = (ed b)) (p10_ : lv (sd b) < ll k) (p11_ : 0 ≤ lv (sd b)) (p12_ : ll k ≤ dl (sd b)) (p13_ : cl (td k) = ll k) (p14_ : ls k = 1 ∨ ls k = 2) (p15_ : st (sd b) = 2) (p16_ : tst (sd b) = -1) (p17_ : ∀ v, W v → sd v = (sd b) → pd v = 0) (p18_ : en (op b) = 1) (p19_ : en b = 1) (p20_ : ls k = 1 → ll k = dl (sd b)) (p21_ : ll k = dl (sd b) → td k = dn (sd b)) (p22_ : om (sd (op b)) = (ed b) → ls k = 1 ∧ td k = (ed b) ∧ cl (ed b) = ll k ∧ dl (sd (op b)) = ll k ∧ dn (sd (op b)) = (ed b) ∧ ((lv (sd (op b)) = dl (sd (op b)) ∧ ps (sd (op b)) = 0) ∨ (lv (sd (op b)) < dl (sd (op b)) ∧ ps (sd (op b)) = 1))) (p23_ : om (sd (op b)) ≠ (ed b) → ls k = 1 → st (sd (op b)) = 1 ∧ pd (op b) = 1) (p24_ : ∀ j, 0 ≤ j → j < nL → wh j ≠ 2 → kd j = 1 → wy j = op b → j ≠ k → ll k < ll j) (p25_ : ∀ j, 0 ≤ j → j < nL → wh j ≠ 2 → kd j = 0 → wy j ≠ op b) (p26_ : ∀ j, 0 ≤ j → j < nL → wh j ≠ 2 → kd j = 5 → wy j = op b → lv (sd b) < cl (ed b)) (p27_ : ∀ v, W v → sd v = (sd b) → ed v = td k → v = b ∧ ls k = 1) (p28_ : 0 ≤ nL) (cRP : pj_RP W sd ed st lv nm bst rp rv) (cRP1 : pj_RP1 W sd ed lv rp cl) : pj_RP W sd ed (pu st (sd b) (ls k)) (pu lv (sd b) (ll k)) (pu nm (sd b) (td k)) (pu bst (sd b) (-1)) rp rv := by
  obtain ⟨hop, hed⟩ := hG
  unfold pj_RP pj_RP1 at *
  intro w0
  simp only [pu]
  have g0 := hop b
  have g1 := hop w0
  have g2 := hed b w0
  have cRP_0 := cRP b
  have cRP_1 := cRP w0
  have cRP_2 := cRP (op w0)
  have cRP1_0 := cRP1 b
  have cRP1_1 := cRP1 w0
  have cRP1_2 := cRP1 (op w0)
  have f0 := p6_ k
  have f1 := p7_ b
  have f2 := p7_ w0
  have f3 := p7_ (op w0)
  have f4 := p7_ (op b)
  have f5 := p8_ b
  have f6 := p8_ w0
  have f7 := p8_ (op w0)
  have f8 := p17_ b
  have f9 := p17_ w0
  have f10 := p17_ (op w0)
  have f11 := p24_ k
  have f12 := p25_ k
  have f13 := p26_ k
  have f14 := p27_ b
  have f15 := p27_ w0
  have f16 := p27_ (op w0)
  clear p6_ p7_ p8_ p17_ p24_ p25_ p26_ p27_
  clear hop hed cRP cRP1
  grind (splits := 24)

set_option maxHeartbeats 1000000 in
theorem pt_bg_RP1 {W : Int → Prop} {sd : Int → Int} {op : Int → Int} {ed : Int → Int} {st : Int → Int} {lv : Int → Int} {tst : Int → Int} {om : Int → Int} {ps : Int → Int} {dl : Int → Int} {dn : Int → Int} {en : Int → Int} {pd : Int → Int} {rp : Int → Int} {cl : Int → Int} {nL : Int} {kd : Int → Int} {wy : Int → Int} {ll : Int → Int} {td : Int → Int} {ls : Int → Int} {wh : Int → Int} {F : Int → Prop} {F2 : Int → Prop} {b k : Int} (hG : pj_G W sd op ed) (p0_ : W b) (p1_ : 0 ≤ k) (p2_ : k < nL) (p3_ : wh k ≠ 2) (p4_ : kd k = 1) (p5_ : wy k = op b) (p6_ : ∀ j, 0 ≤ j → j < k → wy j = wy k → wh j ≠ 0) (p7_ : ∀ v, ¬ F v) (p8_ : ∀ v, F2 v ↔ (W v ∧ sd v = (sd b) ∧ v ≠ b ∧ en v = 1)) (p9_ : om (sd b) = (ed b)) (p10_ : lv (sd b) < ll k) (p11_ : 0 ≤ lv (sd b)) (p12_ : ll k ≤ dl (sd b)) (p13_ : cl (td k) = ll k) (p14_ : ls k = 1 ∨ ls k = 2) (p15_ : st (sd b) = 2) (p16_ : tst (sd b) = -1) (p17_ : ∀ v, W v → sd v = (sd b) → pd v = 0) (p18_ : en (op b) = 1) (p19_ : en b = 1) (p20_ : ls k = 1 → ll k = dl (sd b)) (p21_ : ll k = dl (sd b) → td k = dn (sd b)) (p22_ : om (sd (op b)) = (ed b) → ls k = 1 ∧ td k = (ed b) ∧ cl (ed b) = ll k ∧ dl (sd (op b)) = ll k ∧ dn (sd (op b)) = (ed b) ∧ ((lv (sd (op b)) = dl (sd (op b)) ∧ ps (sd (op b)) = 0) ∨ (lv (sd (op b)) < dl (sd (op b)) ∧ ps (sd (op b)) = 1))) (p23_ : om (sd (op b)) ≠ (ed b) → ls k = 1 → st (sd (op b)) = 1 ∧ pd (op b) = 1) (p24_ : ∀ j, 0 ≤ j → j < nL → wh j ≠ 2 → kd j = 1 → wy j = op b → j ≠ k → ll k < ll j) (p25_ : ∀ j, 0 ≤ j → j < nL → wh j ≠ 2 → kd j = 0 → wy j ≠ op b) (p26_ : ∀ j, 0 ≤ j → j < nL → wh j ≠ 2 → kd j = 5 → wy j = op b → lv (sd b) < cl (ed b)) (p27_ : ∀ v, W v → sd v = (sd b) → ed v = td k → v = b ∧ ls k = 1) (p28_ : 0 ≤ nL) (cRP1 : pj_RP1 W sd ed lv rp cl) : pj_RP1 W sd ed (pu lv (sd b) (ll k)) rp cl := by
  obtain ⟨hop, hed⟩ := hG
  unfold pj_RP1 at *
  intro w0
  simp only [pu]
  have g0 := hop b
  have g1 := hop w0
  have g2 := hed b w0
  have cRP1_0 := cRP1 b
  have cRP1_1 := cRP1 w0
  have cRP1_2 := cRP1 (op w0)
  have f0 := p6_ k
  have f1 := p7_ b
  have f2 := p7_ w0
  have f3 := p7_ (op w0)
  have f4 := p7_ (op b)
  have f5 := p8_ b
  have f6 := p8_ w0
  have f7 := p8_ (op w0)
  have f8 := p17_ b
  have f9 := p17_ w0
  have f10 := p17_ (op w0)
  have f11 := p24_ k
  have f12 := p25_ k
  have f13 := p26_ k
  have f14 := p27_ b
  have f15 := p27_ w0
  have f16 := p27_ (op w0)
  clear p6_ p7_ p8_ p17_ p24_ p25_ p26_ p27_
  clear hop hed cRP1
  grind (splits := 24)

set_option maxHeartbeats 1000000 in
theorem pt_bg_WH {W : Int → Prop} {sd : Int → Int} {op : Int → Int} {ed : Int → Int} {st : Int → Int} {lv : Int → Int} {tst : Int → Int} {om : Int → Int} {ps : Int → Int} {dl : Int → Int} {dn : Int → Int} {en : Int → Int} {pd : Int → Int} {cl : Int → Int} {nL : Int} {kd : Int → Int} {wy : Int → Int} {ll : Int → Int} {td : Int → Int} {ls : Int → Int} {wh : Int → Int} {F : Int → Prop} {F2 : Int → Prop} {b k : Int} (hG : pj_G W sd op ed) (p0_ : W b) (p1_ : 0 ≤ k) (p2_ : k < nL) (p3_ : wh k ≠ 2) (p4_ : kd k = 1) (p5_ : wy k = op b) (p6_ : ∀ j, 0 ≤ j → j < k → wy j = wy k → wh j ≠ 0) (p7_ : ∀ v, ¬ F v) (p8_ : ∀ v, F2 v ↔ (W v ∧ sd v = (sd b) ∧ v ≠ b ∧ en v = 1)) (p9_ : om (sd b) = (ed b)) (p10_ : lv (sd b) < ll k) (p11_ : 0 ≤ lv (sd b)) (p12_ : ll k ≤ dl (sd b)) (p13_ : cl (td k) = ll k) (p14_ : ls k = 1 ∨ ls k = 2) (p15_ : st (sd b) = 2) (p16_ : tst (sd b) = -1) (p17_ : ∀ v, W v → sd v = (sd b) → pd v = 0) (p18_ : en (op b) = 1) (p19_ : en b = 1) (p20_ : ls k = 1 → ll k = dl (sd b)) (p21_ : ll k = dl (sd b) → td k = dn (sd b)) (p22_ : om (sd (op b)) = (ed b) → ls k = 1 ∧ td k = (ed b) ∧ cl (ed b) = ll k ∧ dl (sd (op b)) = ll k ∧ dn (sd (op b)) = (ed b) ∧ ((lv (sd (op b)) = dl (sd (op b)) ∧ ps (sd (op b)) = 0) ∨ (lv (sd (op b)) < dl (sd (op b)) ∧ ps (sd (op b)) = 1))) (p23_ : om (sd (op b)) ≠ (ed b) → ls k = 1 → st (sd (op b)) = 1 ∧ pd (op b) = 1) (p24_ : ∀ j, 0 ≤ j → j < nL → wh j ≠ 2 → kd j = 1 → wy j = op b → j ≠ k → ll k < ll j) (p25_ : ∀ j, 0 ≤ j → j < nL → wh j ≠ 2 → kd j = 0 → wy j ≠ op b) (p26_ : ∀ j, 0 ≤ j → j < nL → wh j ≠ 2 → kd j = 5 → wy j = op b → lv (sd b) < cl (ed b)) (p27_ : ∀ v, W v → sd v = (sd b) → ed v = td k → v = b ∧ ls k = 1) (p28_ : 0 ≤ nL) (cWH : pj_WH nL kd wh) (cR : pj_R W nL kd wy wh) : pj_WH nL kd (pu wh k 2) := by
  obtain ⟨hop, hed⟩ := hG
  unfold pj_WH pj_R at *
  intro k0
  simp only [pu]
  have g0 := hop b
  have g1 := hop (wy k0)
  have g2 := hed b (wy k0)
  have cWH_0 := cWH k
  have cWH_1 := cWH k0
  have cR_0 := cR k0
  have f0 := p6_ k
  have f1 := p6_ k0
  have f2 := p7_ b
  have f3 := p7_ (wy k0)
  have f4 := p7_ (op (wy k0))
  have f5 := p7_ (op b)
  have f6 := p8_ b
  have f7 := p8_ (wy k0)
  have f8 := p8_ (op (wy k0))
  have f9 := p17_ b
  have f10 := p17_ (wy k0)
  have f11 := p17_ (op (wy k0))
  have f12 := p24_ k
  have f13 := p24_ k0
  have f14 := p25_ k
  have f15 := p25_ k0
  have f16 := p26_ k
  have f17 := p26_ k0
  have f18 := p27_ b
  have f19 := p27_ (wy k0)
  have f20 := p27_ (op (wy k0))
  clear p6_ p7_ p8_ p17_ p24_ p25_ p26_ p27_
  clear hop hed cWH cR
  grind (splits := 24)

set_option maxHeartbeats 1000000 in
theorem pt_bg_FI {W : Int → Prop} {sd : Int → Int} {op : Int → Int} {ed : Int → Int} {st : Int → Int} {lv : Int → Int} {tst : Int → Int} {om : Int → Int} {ps : Int → Int} {dl : Int → Int} {dn : Int → Int} {en : Int → Int} {pd : Int → Int} {cl : Int → Int} {nL : Int} {kd : Int → Int} {wy : Int → Int} {ll : Int → Int} {td : Int → Int} {ls : Int → Int} {wh : Int → Int} {F : Int → Prop} {F2 : Int → Prop} {b k : Int} (hG : pj_G W sd op ed) (p0_ : W b) (p1_ : 0 ≤ k) (p2_ : k < nL) (p3_ : wh k ≠ 2) (p4_ : kd k = 1) (p5_ : wy k = op b) (p6_ : ∀ j, 0 ≤ j → j < k → wy j = wy k → wh j ≠ 0) (p7_ : ∀ v, ¬ F v) (p8_ : ∀ v, F2 v ↔ (W v ∧ sd v = (sd b) ∧ v ≠ b ∧ en v = 1)) (p9_ : om (sd b) = (ed b)) (p10_ : lv (sd b) < ll k) (p11_ : 0 ≤ lv (sd b)) (p12_ : ll k ≤ dl (sd b)) (p13_ : cl (td k) = ll k) (p14_ : ls k = 1 ∨ ls k = 2) (p15_ : st (sd b) = 2) (p16_ : tst (sd b) = -1) (p17_ : ∀ v, W v → sd v = (sd b) → pd v = 0) (p18_ : en (op b) = 1) (p19_ : en b = 1) (p20_ : ls k = 1 → ll k = dl (sd b)) (p21_ : ll k = dl (sd b) → td k = dn (sd b)) (p22_ : om (sd (op b)) = (ed b) → ls k = 1 ∧ td k = (ed b) ∧ cl (ed b) = ll k ∧ dl (sd (op b)) = ll k ∧ dn (sd (op b)) = (ed b) ∧ ((lv (sd (op b)) = dl (sd (op b)) ∧ ps (sd (op b)) = 0) ∨ (lv (sd (op b)) < dl (sd (op b)) ∧ ps (sd (op b)) = 1))) (p23_ : om (sd (op b)) ≠ (ed b) → ls k = 1 → st (sd (op b)) = 1 ∧ pd (op b) = 1) (p24_ : ∀ j, 0 ≤ j → j < nL → wh j ≠ 2 → kd j = 1 → wy j = op b → j ≠ k → ll k < ll j) (p25_ : ∀ j, 0 ≤ j → j < nL → wh j ≠ 2 → kd j = 0 → wy j ≠ op b) (p26_ : ∀ j, 0 ≤ j → j < nL → wh j ≠ 2 → kd j = 5 → wy j = op b → lv (sd b) < cl (ed b)) (p27_ : ∀ v, W v → sd v = (sd b) → ed v = td k → v = b ∧ ls k = 1) (p28_ : 0 ≤ nL) (cFI : pj_FI nL wy wh) (cR : pj_R W nL kd wy wh) : pj_FI nL wy (pu wh k 2) := by
  obtain ⟨hop, hed⟩ := hG
  unfold pj_FI pj_R at *
  intro j0 k0
  simp only [pu]
  have g0 := hop b
  have g1 := hop (wy j0)
  have g2 := hop (wy k0)
  have g3 := hed b (wy j0)
  have g4 := hed b (wy k0)
  have g5 := hed (wy j0) (wy k0)
  have cFI_0 := cFI k k
  have cFI_1 := cFI k j0
  have cFI_2 := cFI k k0
  have cFI_3 := cFI j0 k
  have cFI_4 := cFI j0 j0
  have cFI_5 := cFI j0 k0
  have cFI_6 := cFI k0 k
  have cFI_7 := cFI k0 j0
  have cFI_8 := cFI k0 k0
  have cR_0 := cR j0
  have cR_1 := cR k0
  have f0 := p6_ k
  have f1 := p6_ j0
  have f2 := p6_ k0
  have f3 := p7_ b
  have f4 := p7_ (wy j0)
  have f5 := p7_ (op (wy j0))
  have f6 := p7_ (wy k0)
  have f7 := p7_ (op (wy k0))
  have f8 := p7_ (op b)
  have f9 := p8_ b
  have f10 := p8_ (wy j0)
  have f11 := p8_ (op (wy j0))
  have f12 := p8_ (wy k0)
  have f13 := p8_ (op (wy k0))
  have f14 := p17_ b
  have f15 := p17_ (wy j0)
  have f16 := p17_ (op (wy j0))
  have f17 := p17_ (wy k0)
  have f18 := p17_ (op (wy k0))
  have f19 := p24_ k
  have f20 := p24_ j0
  have f21 := p24_ k0
  have f22 := p25_ k
  have f23 := p25_ j0
  have f24 := p25_ k0
  have f25 := p26_ k
  have f26 := p26_ j0
  have f27 := p26_ k0
  have f28 := p27_ b
  have f29 := p27_ (wy j0)
  have f30 := p27_ (op (wy j0))
  have f31 := p27_ (wy k0)
  have f32 := p27_ (op (wy k0))
  clear p6_ p7_ p8_ p17_ p24_ p25_ p26_ p27_
  clear hop hed cFI cR
  grind (splits := 24)

set_option maxHeartbeats 1000000 in
theorem pt_bg_L0 {W : Int → Prop} {sd : Int → Int} {op : Int → Int} {ed : Int → Int} {st : Int → Int} {lv : Int → Int} {nm : Int → Int} {tst : Int → Int} {om : Int → Int} {ps : Int → Int} {dl : Int → Int} {dn : Int → Int} {af : Int → Int} {c0 : Int → Int} {en : Int → Int} {pd : Int → Int} {cl : Int → Int} {cw : Int → Int} {nL : Int} {kd : Int → Int} {wy : Int → Int} {ll : Int → Int} {td : Int → Int} {ls : Int → Int} {wh : Int → Int} {F : Int → Prop} {F2 : Int → Prop} {b k : Int} (hG : pj_G W sd op ed) (p0_ : W b) (p1_ : 0 ≤ k) (p2_ : k < nL) (p3_ : wh k ≠ 2) (p4_ : kd k = 1) (p5_ : wy k = op b) (p6_ : ∀ j, 0 ≤ j → j < k → wy j = wy k → wh j ≠ 0) (p7_ : ∀ v, ¬ F v) (p8_ : ∀ v, F2 v ↔ (W v ∧ sd v = (sd b) ∧ v ≠ b ∧ en v = 1)) (p9_ : om (sd b) = (ed b)) (p10_ : lv (sd b) < ll k) (p11_ : 0 ≤ lv (sd b)) (p12_ : ll k ≤ dl (sd b)) (p13_ : cl (td k) = ll k) (p14_ : ls k = 1 ∨ ls k = 2) (p15_ : st (sd b) = 2) (p16_ : tst (sd b) = -1) (p17_ : ∀ v, W v → sd v = (sd b) → pd v = 0) (p18_ : en (op b) = 1) (p19_ : en b = 1) (p20_ : ls k = 1 → ll k = dl (sd b)) (p21_ : ll k = dl (sd b) → td k = dn (sd b)) (p22_ : om (sd (op b)) = (ed b) → ls k = 1 ∧ td k = (ed b) ∧ cl (ed b) = ll k ∧ dl (sd (op b)) = ll k ∧ dn (sd (op b)) = (ed b) ∧ ((lv (sd (op b)) = dl (sd (op b)) ∧ ps (sd (op b)) = 0) ∨ (lv (sd (op b)) < dl (sd (op b)) ∧ ps (sd (op b)) = 1))) (p23_ : om (sd (op b)) ≠ (ed b) → ls k = 1 → st (sd (op b)) = 1 ∧ pd (op b) = 1) (p24_ : ∀ j, 0 ≤ j → j < nL → wh j ≠ 2 → kd j = 1 → wy j = op b → j ≠ k → ll k < ll j) (p25_ : ∀ j, 0 ≤ j → j < nL → wh j ≠ 2 → kd j = 0 → wy j ≠ op b) (p26_ : ∀ j, 0 ≤ j → j < nL → wh j ≠ 2 → kd j = 5 → wy j = op b → lv (sd b) < cl (ed b)) (p27_ : ∀ v, W v → sd v = (sd b) → ed v = td k → v = b ∧ ls k = 1) (p28_ : 0 ≤ nL) (cL0 : pj_L0 sd op ed lv nm om ps dl c0 en cw nL kd wy ll wh) (cR : pj_R W nL kd wy wh) (cC1 : pj_C1 lv nm cl) (cC2 : pj_C2 lv nm dl dn cl) (cN0 : pj_N0 st lv ps dl af) : pj_L0 sd op ed (pu lv (sd b) (ll k)) (pu nm (sd b) (td k)) om (pu ps (sd b) 0) dl c0 en cw nL kd wy ll (pu wh k 2) := by
  obtain ⟨hop, hed⟩ := hG
  unfold pj_L0 pj_R pj_C1 pj_C2 pj_N0 at *
  intro k0
  simp only [pu]
  have g0 := hop b
  have g1 := hop (wy k0)
  have g2 := hed b (wy k0)
  have cL0_0 := cL0 k
  have cL0_1 := cL0 k0
  have cR_0 := cR k0
  have cC1_0 := cC1 (sd (op b))
  have cC1_1 := cC1 (sd b)
  have cC1_2 := cC1 (sd (wy k0))
  have cC1_3 := cC1 (sd (op (wy k0)))
  have cC2_0 := cC2 (sd (op b))
  have cC2_1 := cC2 (sd b)
  have cC2_2 := cC2 (sd (wy k0))
  have cC2_3 := cC2 (sd (op (wy k0)))
  have cN0_0 := cN0 (sd (op b))
  have cN0_1 := cN0 (sd b)
  have cN0_2 := cN0 (sd (wy k0))
  have cN0_3 := cN0 (sd (op (wy k0)))
  have f0 := p6_ k
  have f1 := p6_ k0
  have f2 := p7_ b
  have f3 := p7_ (wy k0)
  have f4 := p7_ (op (wy k0))
  have f5 := p7_ (op b)
  have f6 := p8_ b
  have f7 := p8_ (wy k0)
  have f8 := p8_ (op (wy k0))
  have f9 := p17_ b
  have f10 := p17_ (wy k0)
  have f11 := p17_ (op (wy k0))
  have f12 := p24_ k
  have f13 := p24_ k0
  have f14 := p25_ k
  have f15 := p25_ k0
  have f16 := p26_ k
  have f17 := p26_ k0
  have f18 := p27_ b
  have f19 := p27_ (wy k0)
  have f20 := p27_ (op (wy k0))
  clear p6_ p7_ p8_ p17_ p24_ p25_ p26_ p27_
  clear hop hed cL0 cR cC1 cC2 cN0
  grind (splits := 24)

set_option maxHeartbeats 1000000 in
theorem pt_bg_FC {W : Int → Prop} {sd : Int → Int} {op : Int → Int} {ed : Int → Int} {st : Int → Int} {lv : Int → Int} {nm : Int → Int} {tst : Int → Int} {om : Int → Int} {ps : Int → Int} {dl : Int → Int} {dn : Int → Int} {c0 : Int → Int} {en : Int → Int} {pd : Int → Int} {cl : Int → Int} {cw : Int → Int} {nL : Int} {kd : Int → Int} {wy : Int → Int} {ll : Int → Int} {td : Int → Int} {ls : Int → Int} {wh : Int → Int} {F : Int → Prop} {fl : Int} {fc : Int} {F2 : Int → Prop} {b k : Int} (hG : pj_G W sd op ed) (p0_ : W b) (p1_ : 0 ≤ k) (p2_ : k < nL) (p3_ : wh k ≠ 2) (p4_ : kd k = 1) (p5_ : wy k = op b) (p6_ : ∀ j, 0 ≤ j → j < k → wy j = wy k → wh j ≠ 0) (p7_ : ∀ v, ¬ F v) (p8_ : ∀ v, F2 v ↔ (W v ∧ sd v = (sd b) ∧ v ≠ b ∧ en v = 1)) (p9_ : om (sd b) = (ed b)) (p10_ : lv (sd b) < ll k) (p11_ : 0 ≤ lv (sd b)) (p12_ : ll k ≤ dl (sd b)) (p13_ : cl (td k) = ll k) (p14_ : ls k = 1 ∨ ls k = 2) (p15_ : st (sd b) = 2) (p16_ : tst (sd b) = -1) (p17_ : ∀ v, W v → sd v = (sd b) → pd v = 0) (p18_ : en (op b) = 1) (p19_ : en b = 1) (p20_ : ls k = 1 → ll k = dl (sd b)) (p21_ : ll k = dl (sd b) → td k = dn (sd b)) (p22_ : om (sd (op b)) = (ed b) → ls k = 1 ∧ td k = (ed b) ∧ cl (ed b) = ll k ∧ dl (sd (op b)) = ll k ∧ dn (sd (op b)) = (ed b) ∧ ((lv (sd (op b)) = dl (sd (op b)) ∧ ps (sd (op b)) = 0) ∨ (lv (sd (op b)) < dl (sd (op b)) ∧ ps (sd (op b)) = 1))) (p23_ : om (sd (op b)) ≠ (ed b) → ls k = 1 → st (sd (op b)) = 1 ∧ pd (op b) = 1) (p24_ : ∀ j, 0 ≤ j → j < nL → wh j ≠ 2 → kd j = 1 → wy j = op b → j ≠ k → ll k < ll j) (p25_ : ∀ j, 0 ≤ j → j < nL → wh j ≠ 2 → kd j = 0 → wy j ≠ op b) (p26_ : ∀ j, 0 ≤ j → j < nL → wh j ≠ 2 → kd j = 5 → wy j = op b → lv (sd b) < cl (ed b)) (p27_ : ∀ v, W v → sd v = (sd b) → ed v = td k → v = b ∧ ls k = 1) (p28_ : 0 ≤ nL) (cFC : pj_FC op nL kd wy wh F) (cR : pj_R W nL kd wy wh) (cL0 : pj_L0 sd op ed lv nm om ps dl c0 en cw nL kd wy ll wh) (cA1 : pj_A1 W sd op ed lv nm om dl dn en F fl fc) (cC2 : pj_C2 lv nm dl dn cl) : pj_FC op nL kd wy (pu wh k 2) (F2) := by
  obtain ⟨hop, hed⟩ := hG
  unfold pj_FC pj_R pj_L0 pj_A1 pj_C2 at *
  intro k0
  simp only [pu]
  have g0 := hop b
  have g1 := hop (wy k0)
  have g2 := hed b (wy k0)
  have cFC_0 := cFC k
  have cFC_1 := cFC k0
  have cR_0 := cR k0
  have cL0_0 := cL0 k
  have cL0_1 := cL0 k0
  have cA1_0 := cA1 b
  have cA1_1 := cA1 (wy k0)
  have cA1_2 := cA1 (op (wy k0))
  have cC2_0 := cC2 (sd (op b))
  have cC2_1 := cC2 (sd b)
  have cC2_2 := cC2 (sd (wy k0))
  have cC2_3 := cC2 (sd (op (wy k0)))
  have f0 := p6_ k
  have f1 := p6_ k0
  have f2 := p7_ b
  have f3 := p7_ (wy k0)
  have f4 := p7_ (op (wy k0))
  have f5 := p7_ (op b)
  have f6 := p8_ b
  have f7 := p8_ (wy k0)
  have f8 := p8_ (op (wy k0))
  have f9 := p17_ b
  have f10 := p17_ (wy k0)
  have f11 := p17_ (op (wy k0))
  have f12 := p24_ k
  have f13 := p24_ k0
  have f14 := p25_ k
  have f15 := p25_ k0
  have f16 := p26_ k
  have f17 := p26_ k0
  have f18 := p27_ b
  have f19 := p27_ (wy k0)
  have f20 := p27_ (op (wy k0))
  clear p6_ p7_ p8_ p17_ p24_ p25_ p26_ p27_
  clear hop hed cFC cR cL0 cA1 cC2
  grind (splits := 24)

set_option maxHeartbeats 1000000 in
theorem pt_bg_L0u {W : Int → Prop} {sd : Int → Int} {op : Int → Int} {ed : Int → Int} {st : Int → Int} {lv : Int → Int} {tst : Int → Int} {om : Int → Int} {ps : Int → Int} {dl : Int → Int} {dn : Int → Int} {en : Int → Int} {pd : Int → Int} {cl : Int → Int} {nL : Int} {kd : Int → Int} {wy : Int → Int} {ll : Int → Int} {td : Int → Int} {ls : Int → Int} {wh : Int → Int} {F : Int → Prop} {F2 : Int → Prop} {b k : Int} (hG : pj_G W sd op ed) (p0_ : W b) (p1_ : 0 ≤ k) (p2_ : k < nL) (p3_ : wh k ≠ 2) (p4_ : kd k = 1) (p5_ : wy k = op b) (p6_ : ∀ j, 0 ≤ j → j < k → wy j = wy k → wh j ≠ 0) (p7_ : ∀ v, ¬ F v) (p8_ : ∀ v, F2 v ↔ (W v ∧ sd v = (sd b) ∧ v ≠ b ∧ en v = 1)) (p9_ : om (sd b) = (ed b)) (p10_ : lv (sd b) < ll k) (p11_ : 0 ≤ lv (sd b)) (p12_ : ll k ≤ dl (sd b)) (p13_ : cl (td k) = ll k) (p14_ : ls k = 1 ∨ ls k = 2) (p15_ : st (sd b) = 2) (p16_ : tst (sd b) = -1) (p17_ : ∀ v, W v → sd v = (sd b) → pd v = 0) (p18_ : en (op b) = 1) (p19_ : en b = 1) (p20_ : ls k = 1 → ll k = dl (sd b)) (p21_ : ll k = dl (sd b) → td k = dn (sd b)) (p22_ : om (sd (op b)) = (ed b) → ls k = 1 ∧ td k = (ed b) ∧ cl (ed b) = ll k ∧ dl (sd (op b)) = ll k ∧ dn (sd (op b)) = (ed b) ∧ ((lv (sd (op b)) = dl (sd (op b)) ∧ ps (sd (op b)) = 0) ∨ (lv (sd (op b)) < dl (sd (op b)) ∧ ps (sd (op b)) = 1))) (p23_ : om (sd (op b)) ≠ (ed b) → ls k = 1 → st (sd (op b)) = 1 ∧ pd (op b) = 1) (p24_ : ∀ j, 0 ≤ j → j < nL → wh j ≠ 2 → kd j = 1 → wy j = op b → j ≠ k → ll k < ll j) (p25_ : ∀ j, 0 ≤ j → j < nL → wh j ≠ 2 → kd j = 0 → wy j ≠ op b) (p26_ : ∀ j, 0 ≤ j → j < nL → wh j ≠ 2 → kd j = 5 → wy j = op b → lv (sd b) < cl (ed b)) (p27_ : ∀ v, W v → sd v = (sd b) → ed v = td k → v = b ∧ ls k = 1) (p28_ : 0 ≤ nL) (cL0u : pj_L0u nL kd wy wh) (cR : pj_R W nL kd wy wh) : pj_L0u nL kd wy (pu wh k 2) := by
  obtain ⟨hop, hed⟩ := hG
  unfold pj_L0u pj_R at *
  intro j0 k0
  simp only [pu]
  have g0 := hop b
  have g1 := hop (wy j0)
  have g2 := hop (wy k0)
  have g3 := hed b (wy j0)
  have g4 := hed b (wy k0)
  have g5 := hed (wy j0) (wy k0)
  have cL0u_0 := cL0u k k
  have cL0u_1 := cL0u k j0
  have cL0u_2 := cL0u k k0
  have cL0u_3 := cL0u j0 k
  have cL0u_4 := cL0u j0 j0
  have cL0u_5 := cL0u j0 k0
  have cL0u_6 := cL0u k0 k
  have cL0u_7 := cL0u k0 j0
  have cL0u_8 := cL0u k0 k0
  have cR_0 := cR j0
  have cR_1 := cR k0
  have f0 := p6_ k
  have f1 := p6_ j0
  have f2 := p6_ k0
  have f3 := p7_ b
  have f4 := p7_ (wy j0)
  have f5 := p7_ (op (wy j0))
  have f6 := p7_ (wy k0)
  have f7 := p7_ (op (wy k0))
  have f8 := p7_ (op b)
  have f9 := p8_ b
  have f10 := p8_ (wy j0)
  have f11 := p8_ (op (wy j0))
  have f12 := p8_ (wy k0)
  have f13 := p8_ (op (wy k0))
  have f14 := p17_ b
  have f15 := p17_ (wy j0)
  have f16 := p17_ (op (wy j0))
  have f17 := p17_ (wy k0)
  have f18 := p17_ (op (wy k0))
  have f19 := p24_ k
  have f20 := p24_ j0
  have f21 := p24_ k0
  have f22 := p25_ k
  have f23 := p25_ j0
  have f24 := p25_ k0
  have f25 := p26_ k
  have f26 := p26_ j0
  have f27 := p26_ k0
  have f28 := p27_ b
  have f29 := p27_ (wy j0)
  have f30 := p27_ (op (wy j0))
  have f31 := p27_ (wy k0)
  have f32 := p27_ (op (wy k0))
  clear p6_ p7_ p8_ p17_ p24_ p25_ p26_ p27_
  clear hop hed cL0u cR
  grind (splits := 24)

set_option maxHeartbeats 1000000 in
theorem pt_bg_OC {W : Int → Prop} {sd : Int → Int} {op : Int → Int} {ed : Int → Int} {st : Int → Int} {lv : Int → Int} {tst : Int → Int} {om : Int → Int} {ps : Int → Int} {dl : Int → Int} {dn : Int → Int} {en : Int → Int} {pd : Int → Int} {cl : Int → Int} {nL : Int} {kd : Int → Int} {wy : Int → Int} {ll : Int → Int} {td : Int → Int} {ls : Int → Int} {wh : Int → Int} {F : Int → Prop} {F2 : Int → Prop} {b k : Int} (hG : pj_G W sd op ed) (p0_ : W b) (p1_ : 0 ≤ k) (p2_ : k < nL) (p3_ : wh k ≠ 2) (p4_ : kd k = 1) (p5_ : wy k = op b) (p6_ : ∀ j, 0 ≤ j → j < k → wy j = wy k → wh j ≠ 0) (p7_ : ∀ v, ¬ F v) (p8_ : ∀ v, F2 v ↔ (W v ∧ sd v = (sd b) ∧ v ≠ b ∧ en v = 1)) (p9_ : om (sd b) = (ed b)) (p10_ : lv (sd b) < ll k) (p11_ : 0 ≤ lv (sd b)) (p12_ : ll k ≤ dl (sd b)) (p13_ : cl (td k) = ll k) (p14_ : ls k = 1 ∨ ls k = 2) (p15_ : st (sd b) = 2) (p16_ : tst (sd b) = -1) (p17_ : ∀ v, W v → sd v = (sd b) → pd v = 0) (p18_ : en (op b) = 1) (p19_ : en b = 1) (p20_ : ls k = 1 → ll k = dl (sd b)) (p21_ : ll k = dl (sd b) → td k = dn (sd b)) (p22_ : om (sd (op b)) = (ed b) → ls k = 1 ∧ td k = (ed b) ∧ cl (ed b) = ll k ∧ dl (sd (op b)) = ll k ∧ dn (sd (op b)) = (ed b) ∧ ((lv (sd (op b)) = dl (sd (op b)) ∧ ps (sd (op b)) = 0) ∨ (lv (sd (op b)) < dl (sd (op b)) ∧ ps (sd (op b)) = 1))) (p23_ : om (sd (op b)) ≠ (ed b) → ls k = 1 → st (sd (op b)) = 1 ∧ pd (op b) = 1) (p24_ : ∀ j, 0 ≤ j → j < nL → wh j ≠ 2 → kd j = 1 → wy j = op b → j ≠ k → ll k < ll j) (p25_ : ∀ j, 0 ≤ j → j < nL → wh j ≠ 2 → kd j = 0 → wy j ≠ op b) (p26_ : ∀ j, 0 ≤ j → j < nL → wh j ≠ 2 → kd j = 5 → wy j = op b → lv (sd b) < cl (ed b)) (p27_ : ∀ v, W v → sd v = (sd b) → ed v = td k → v = b ∧ ls k = 1) (p28_ : 0 ≤ nL) (cOC : pj_OC nL kd wy wh) (cR : pj_R W nL kd wy wh) : pj_OC nL kd wy (pu wh k 2) := by
  obtain ⟨hop, hed⟩ := hG
  unfold pj_OC pj_R at *
  intro j0 k0
  simp only [pu]
  have g0 := hop b
  have g1 := hop (wy j0)
  have g2 := hop (wy k0)
  have g3 := hed b (wy j0)
  have g4 := hed b (wy k0)
  have g5 := hed (wy j0) (wy k0)
  have cOC_0 := cOC k k
  have cOC_1 := cOC k j0
  have cOC_2 := cOC k k0
  have cOC_3 := cOC j0 k
  have cOC_4 := cOC j0 j0
  have cOC_5 := cOC j0 k0
  have cOC_6 := cOC k0 k
  have cOC_7 := cOC k0 j0
  have cOC_8 := cOC k0 k0
  have cR_0 := cR j0
  have cR_1 := cR k0
  have f0 := p6_ k
  have f1 := p6_ j0
  have f2 := p6_ k0
  have f3 := p7_ b
  have f4 := p7_ (wy j0)
  have f5 := p7_ (op (wy j0))
  have f6 := p7_ (wy k0)
  have f7 := p7_ (op (wy k0))
  have f8 := p7_ (op b)
  have f9 := p8_ b
  have f10 := p8_ (wy j0)
  have f11 := p8_ (op (wy j0))
  have f12 := p8_ (wy k0)
  have f13 := p8_ (op (wy k0))
  have f14 := p17_ b
  have f15 := p17_ (wy j0)
  have f16 := p17_ (op (wy j0))
  have f17 := p17_ (wy k0)
  have f18 := p17_ (op (wy k0))
  have f19 := p24_ k
  have f20 := p24_ j0
  have f21 := p24_ k0
  have f22 := p25_ k
  have f23 := p25_ j0
  have f24 := p25_ k0
  have f25 := p26_ k
  have f26 := p26_ j0
  have f27 := p26_ k0
  have f28 := p27_ b
  have f29 := p27_ (wy j0)
  have f30 := p27_ (op (wy j0))
  have f31 := p27_ (wy k0)
  have f32 := p27_ (op (wy k0))
  clear p6_ p7_ p8_ p17_ p24_ p25_ p26_ p27_
  clear hop hed cOC cR
  grind (splits := 24)

set_option maxHeartbeats 1000000 in
theorem pt_bg_CT {W : Int → Prop} {sd : Int → Int} {op : Int → Int} {ed : Int → Int} {st : Int → Int} {lv : Int → Int} {tst : Int → Int} {om : Int → Int} {ps : Int → Int} {dl : Int → Int} {dn : Int → Int} {en : Int → Int} {pd : Int → Int} {cl : Int → Int} {nL : Int} {kd : Int → Int} {wy : Int → Int} {ll : Int → Int} {td : Int → Int} {ls : Int → Int} {wh : Int → Int} {F : Int → Prop} {F2 : Int → Prop} {b k : Int} (hG : pj_G W sd op ed) (p0_ : W b) (p1_ : 0 ≤ k) (p2_ : k < nL) (p3_ : wh k ≠ 2) (p4_ : kd k = 1) (p5_ : wy k = op b) (p6_ : ∀ j, 0 ≤ j → j < k → wy j = wy k → wh j ≠ 0) (p7_ : ∀ v, ¬ F v) (p8_ : ∀ v, F2 v ↔ (W v ∧ sd v = (sd b) ∧ v ≠ b ∧ en v = 1)) (p9_ : om (sd b) = (ed b)) (p10_ : lv (sd b) < ll k) (p11_ : 0 ≤ lv (sd b)) (p12_ : ll k ≤ dl (sd b)) (p13_ : cl (td k) = ll k) (p14_ : ls k = 1 ∨ ls k = 2) (p15_ : st (sd b) = 2) (p16_ : tst (sd b) = -1) (p17_ : ∀ v, W v → sd v = (sd b) → pd v = 0) (p18_ : en (op b) = 1) (p19_ : en b = 1) (p20_ : ls k = 1 → ll k = dl (sd b)) (p21_ : ll k = dl (sd b) → td k = dn (sd b)) (p22_ : om (sd (op b)) = (ed b) → ls k = 1 ∧ td k = (ed b) ∧ cl (ed b) = ll k ∧ dl (sd (op b)) = ll k ∧ dn (sd (op b)) = (ed b) ∧ ((lv (sd (op b)) = dl (sd (op b)) ∧ ps (sd (op b)) = 0) ∨ (lv (sd (op b)) < dl (sd (op b)) ∧ ps (sd (op b)) = 1))) (p23_ : om (sd (op b)) ≠ (ed b) → ls k = 1 → st (sd (op b)) = 1 ∧ pd (op b) = 1) (p24_ : ∀ j, 0 ≤ j → j < nL → wh j ≠ 2 → kd j = 1 → wy j = op b → j ≠ k → ll k < ll j) (p25_ : ∀ j, 0 ≤ j → j < nL → wh j ≠ 2 → kd j = 0 → wy j ≠ op b) (p26_ : ∀ j, 0 ≤ j → j < nL → wh j ≠ 2 → kd j = 5 → wy j = op b → lv (sd b) < cl (ed b)) (p27_ : ∀ v, W v → sd v = (sd b) → ed v = td k → v = b ∧ ls k = 1) (p28_ : 0 ≤ nL) (cCT : pj_CT nL kd wy wh) (cR : pj_R W nL kd wy wh) : pj_CT nL kd wy (pu wh k 2) := by
  obtain ⟨hop, hed⟩ := hG
  unfold pj_CT pj_R at *
  intro j0 k0
  simp only [pu]
  have g0 := hop b
  have g1 := hop (wy j0)
  have g2 := hop (wy k0)
  have g3 := hed b (wy j0)
  have g4 := hed b (wy k0)
  have g5 := hed (wy j0) (wy k0)
  have cCT_0 := cCT k k
  have cCT_1 := cCT k j0
  have cCT_2 := cCT k k0
  have cCT_3 := cCT j0 k
  have cCT_4 := cCT j0 j0
  have cCT_5 := cCT j0 k0
  have cCT_6 := cCT k0 k
  have cCT_7 := cCT k0 j0
  have cCT_8 := cCT k0 k0
  have cR_0 := cR j0
  have cR_1 := cR k0
  have f0 := p6_ k
  have f1 := p6_ j0
  have f2 := p6_ k0
  have f3 := p7_ b
  have f4 := p7_ (wy j0)
  have f5 := p7_ (op (wy j0))
  have f6 := p7_ (wy k0)
  have f7 := p7_ (op (wy k0))
  have f8 := p7_ (op b)
  have f9 := p8_ b
  have f10 := p8_ (wy j0)
  have f11 := p8_ (op (wy j0))
  have f12 := p8_ (wy k0)
  have f13 := p8_ (op (wy k0))
  have f14 := p17_ b
  have f15 := p17_ (wy j0)
  have f16 := p17_ (op (wy j0))
  have f17 := p17_ (wy k0)
  have f18 := p17_ (op (wy k0))
  have f19 := p24_ k
  have f20 := p24_ j0
  have f21 := p24_ k0
  have f22 := p25_ k
  have f23 := p25_ j0
  have f24 := p25_ k0
  have f25 := p26_ k
  have f26 := p26_ j0
  have f27 := p26_ k0
  have f28 := p27_ b
  have f29 := p27_ (wy j0)
  have f30 := p27_ (op (wy j0))
  have f31 := p27_ (wy k0)
  have f32 := p27_ (op (wy k0))
  clear p6_ p7_ p8_ p17_ p24_ p25_ p26_ p27_
  clear hop hed cCT cR
  grind (splits := 24)

set_option maxHeartbeats 1000000 in
theorem pt_bg_L1 {W : Int → Prop} {sd : Int → Int} {op : Int → Int} {ed : Int → Int} {st : Int → Int} {lv : Int → Int} {tst : Int → Int} {om : Int → Int} {ps : Int → Int} {dl : Int → Int} {dn : Int → Int} {en : Int → Int} {pd : Int → Int} {cl : Int → Int} {nL : Int} {kd : Int → Int} {wy : Int → Int} {ll : Int → Int} {td : Int → Int} {ls : Int → Int} {wh : Int → Int} {F : Int → Prop} {F2 : Int → Prop} {b k : Int} (hG : pj_G W sd op ed) (p0_ : W b) (p1_ : 0 ≤ k) (p2_ : k < nL) (p3_ : wh k ≠ 2) (p4_ : kd k = 1) (p5_ : wy k = op b) (p6_ : ∀ j, 0 ≤ j → j < k → wy j = wy k → wh j ≠ 0) (p7_ : ∀ v, ¬ F v) (p8_ : ∀ v, F2 v ↔ (W v ∧ sd v = (sd b) ∧ v ≠ b ∧ en v = 1)) (p9_ : om (sd b) = (ed b)) (p10_ : lv (sd b) < ll k) (p11_ : 0 ≤ lv (sd b)) (p12_ : ll k ≤ dl (sd b)) (p13_ : cl (td k) = ll k) (p14_ : ls k = 1 ∨ ls k = 2) (p15_ : st (sd b) = 2) (p16_ : tst (sd b) = -1) (p17_ : ∀ v, W v → sd v = (sd b) → pd v = 0) (p18_ : en (op b) = 1) (p19_ : en b = 1) (p20_ : ls k = 1 → ll k = dl (sd b)) (p21_ : ll k = dl (sd b) → td k = dn (sd b)) (p22_ : om (sd (op b)) = (ed b) → ls k = 1 ∧ td k = (ed b) ∧ cl (ed b) = ll k ∧ dl (sd (op b)) = ll k ∧ dn (sd (op b)) = (ed b) ∧ ((lv (sd (op b)) = dl (sd (op b)) ∧ ps (sd (op b)) = 0) ∨ (lv (sd (op b)) < dl (sd (op b)) ∧ ps (sd (op b)) = 1))) (p23_ : om (sd (op b)) ≠ (ed b) → ls k = 1 → st (sd (op b)) = 1 ∧ pd (op b) = 1) (p24_ : ∀ j, 0 ≤ j → j < nL → wh j ≠ 2 → kd j = 1 → wy j = op b → j ≠ k → ll k < ll j) (p25_ : ∀ j, 0 ≤ j → j < nL → wh j ≠ 2 → kd j = 0 → wy j ≠ op b) (p26_ : ∀ j, 0 ≤ j → j < nL → wh j ≠ 2 → kd j = 5 → wy j = op b → lv (sd b) < cl (ed b)) (p27_ : ∀ v, W v → sd v = (sd b) → ed v = td k → v = b ∧ ls k = 1) (p28_ : 0 ≤ nL) (cL1 : pj_L1 sd op ed st lv om dl en cl nL kd wy ll td ls wh) (cR : pj_R W nL kd wy wh) : pj_L1 sd op ed (pu st (sd b) (ls k)) (pu lv (sd b) (ll k)) om dl en cl nL kd wy ll td ls (pu wh k 2) := by
  obtain ⟨hop, hed⟩ := hG
  unfold pj_L1 pj_R at *
  intro k0
  simp only [pu]
  have g0 := hop b
  have g1 := hop (wy k0)
  have g2 := hed b (wy k0)
  have cL1_0 := cL1 k
  have cL1_1 := cL1 k0
  have cR_0 := cR k0
  have f0 := p6_ k
  have f1 := p6_ k0
  have f2 := p7_ b
  have f3 := p7_ (wy k0)
  have f4 := p7_ (op (wy k0))
  have f5 := p7_ (op b)
  have f6 := p8_ b
  have f7 := p8_ (wy k0)
  have f8 := p8_ (op (wy k0))
  have f9 := p17_ b
  have f10 := p17_ (wy k0)
  have f11 := p17_ (op (wy k0))
  have f12 := p24_ k
  have f13 := p24_ k0
  have f14 := p25_ k
  have f15 := p25_ k0
  have f16 := p26_ k
  have f17 := p26_ k0
  have f18 := p27_ b
  have f19 := p27_ (wy k0)
  have f20 := p27_ (op (wy k0))
  clear p6_ p7_ p8_ p17_ p24_ p25_ p26_ p27_
  clear hop hed cL1 cR
  grind (splits := 24)

set_option maxHeartbeats 1000000 in
theorem pt_bg_L1e {W : Int → Prop} {sd : Int → Int} {op : Int → Int} {ed : Int → Int} {st : Int → Int} {lv : Int → Int} {tst : Int → Int} {om : Int → Int} {ps : Int → Int} {dl : Int → Int} {dn : Int → Int} {en : Int → Int} {pd : Int → Int} {cl : Int → Int} {nL : Int} {kd : Int → Int} {wy : Int → Int} {ll : Int → Int} {td : Int → Int} {ls : Int → Int} {wh : Int → Int} {F : Int → Prop} {F2 : Int → Prop} {b k : Int} (hG : pj_G W sd op ed) (p0_ : W b) (p1_ : 0 ≤ k) (p2_ : k < nL) (p3_ : wh k ≠ 2) (p4_ : kd k = 1) (p5_ : wy k = op b) (p6_ : ∀ j, 0 ≤ j → j < k → wy j = wy k → wh j ≠ 0) (p7_ : ∀ v, ¬ F v) (p8_ : ∀ v, F2 v ↔ (W v ∧ sd v = (sd b) ∧ v ≠ b ∧ en v = 1)) (p9_ : om (sd b) = (ed b)) (p10_ : lv (sd b) < ll k) (p11_ : 0 ≤ lv (sd b)) (p12_ : ll k ≤ dl (sd b)) (p13_ : cl (td k) = ll k) (p14_ : ls k = 1 ∨ ls k = 2) (p15_ : st (sd b) = 2) (p16_ : tst (sd b) = -1) (p17_ : ∀ v, W v → sd v = (sd b) → pd v = 0) (p18_ : en (op b) = 1) (p19_ : en b = 1) (p20_ : ls k = 1 → ll k = dl (sd b)) (p21_ : ll k = dl (sd b) → td k = dn (sd b)) (p22_ : om (sd (op b)) = (ed b) → ls k = 1 ∧ td k = (ed b) ∧ cl (ed b) = ll k ∧ dl (sd (op b)) = ll k ∧ dn (sd (op b)) = (ed b) ∧ ((lv (sd (op b)) = dl (sd (op b)) ∧ ps (sd (op b)) = 0) ∨ (lv (sd (op b)) < dl (sd (op b)) ∧ ps (sd (op b)) = 1))) (p23_ : om (sd (op b)) ≠ (ed b) → ls k = 1 → st (sd (op b)) = 1 ∧ pd (op b) = 1) (p24_ : ∀ j, 0 ≤ j → j < nL → wh j ≠ 2 → kd j = 1 → wy j = op b → j ≠ k → ll k < ll j) (p25_ : ∀ j, 0 ≤ j → j < nL → wh j ≠ 2 → kd j = 0 → wy j ≠ op b) (p26_ : ∀ j, 0 ≤ j → j < nL → wh j ≠ 2 → kd j = 5 → wy j = op b → lv (sd b) < cl (ed b)) (p27_ : ∀ v, W v → sd v = (sd b) → ed v = td k → v = b ∧ ls k = 1) (p28_ : 0 ≤ nL) (cL1e : pj_L1e sd op dl dn nL kd wy ll td ls wh) (cR : pj_R W nL kd wy wh) : pj_L1e sd op dl dn nL kd wy ll td ls (pu wh k 2) := by
  obtain ⟨hop, hed⟩ := hG
  unfold pj_L1e pj_R at *
  intro k0
  simp only [pu]
  have g0 := hop b
  have g1 := hop (wy k0)
  have g2 := hed b (wy k0)
  have cL1e_0 := cL1e k
  have cL1e_1 := cL1e k0
  have cR_0 := cR k0
  have f0 := p6_ k
  have f1 := p6_ k0
  have f2 := p7_ b
  have f3 := p7_ (wy k0)
  have f4 := p7_ (op (wy k0))
  have f5 := p7_ (op b)
  have f6 := p8_ b
  have f7 := p8_ (wy k0)
  have f8 := p8_ (op (wy k0))
  have f9 := p17_ b
  have f10 := p17_ (wy k0)
  have f11 := p17_ (op (wy k0))
  have f12 := p24_ k
  have f13 := p24_ k0
  have f14 := p25_ k
  have f15 := p25_ k0
  have f16 := p26_ k
  have f17 := p26_ k0
  have f18 := p27_ b
  have f19 := p27_ (wy k0)
  have f20 := p27_ (op (wy k0))
  clear p6_ p7_ p8_ p17_ p24_ p25_ p26_ p27_
  clear hop hed cL1e cR
  grind (splits := 24)

set_option maxHeartbeats 1000000 in
theorem pt_bg_L1o {W : Int → Prop} {sd : Int → Int} {op : Int → Int} {ed : Int → Int} {st : Int → Int} {lv : Int → Int} {tst : Int → Int} {om : Int → Int} {ps : Int → Int} {dl : Int → Int} {dn : Int → Int} {en : Int → Int} {pd : Int → Int} {cl : Int → Int} {nL : Int} {kd : Int → Int} {wy : Int → Int} {ll : Int → Int} {td : Int → Int} {ls : Int → Int} {wh : Int → Int} {F : Int → Prop} {F2 : Int → Prop} {b k : Int} (hG : pj_G W sd op ed) (p0_ : W b) (p1_ : 0 ≤ k) (p2_ : k < nL) (p3_ : wh k ≠ 2) (p4_ : kd k = 1) (p5_ : wy k = op b) (p6_ : ∀ j, 0 ≤ j → j < k → wy j = wy k → wh j ≠ 0) (p7_ : ∀ v, ¬ F v) (p8_ : ∀ v, F2 v ↔ (W v ∧ sd v = (sd b) ∧ v ≠ b ∧ en v = 1)) (p9_ : om (sd b) = (ed b)) (p10_ : lv (sd b) < ll k) (p11_ : 0 ≤ lv (sd b)) (p12_ : ll k ≤ dl (sd b)) (p13_ : cl (td k) = ll k) (p14_ : ls k = 1 ∨ ls k = 2) (p15_ : st (sd b) = 2) (p16_ : tst (sd b) = -1) (p17_ : ∀ v, W v → sd v = (sd b) → pd v = 0) (p18_ : en (op b) = 1) (p19_ : en b = 1) (p20_ : ls k = 1 → ll k = dl (sd b)) (p21_ : ll k = dl (sd b) → td k = dn (sd b)) (p22_ : om (sd (op b)) = (ed b) → ls k = 1 ∧ td k = (ed b) ∧ cl (ed b) = ll k ∧ dl (sd (op b)) = ll k ∧ dn (sd (op b)) = (ed b) ∧ ((lv (sd (op b)) = dl (sd (op b)) ∧ ps (sd (op b)) = 0) ∨ (lv (sd (op b)) < dl (sd (op b)) ∧ ps (sd (op b)) = 1))) (p23_ : om (sd (op b)) ≠ (ed b) → ls k = 1 → st (sd (op b)) = 1 ∧ pd (op b) = 1) (p24_ : ∀ j, 0 ≤ j → j < nL → wh j ≠ 2 → kd j = 1 → wy j = op b → j ≠ k → ll k < ll j) (p25_ : ∀ j, 0 ≤ j → j < nL → wh j ≠ 2 → kd j = 0 → wy j ≠ op b) (p26_ : ∀ j, 0 ≤ j → j < nL → wh j ≠ 2 → kd j = 5 → wy j = op b → lv (sd b) < cl (ed b)) (p27_ : ∀ v, W v → sd v = (sd b) → ed v = td k → v = b ∧ ls k = 1) (p28_ : 0 ≤ nL) (cL1o : pj_L1o nL kd wy ll wh) (cR : pj_R W nL kd wy wh) : pj_L1o nL kd wy ll (pu wh k 2) := by
  obtain ⟨hop, hed⟩ := hG
  unfold pj_L1o pj_R at *
  intro j0 k0
  simp only [pu]
  have g0 := hop b
  have g1 := hop (wy j0)
  have g2 := hop (wy k0)
  have g3 := hed b (wy j0)
  have g4 := hed b (wy k0)
  have g5 := hed (wy j0) (wy k0)
  have cL1o_0 := cL1o k k
  have cL1o_1 := cL1o k j0
  have cL1o_2 := cL1o k k0
  have cL1o_3 := cL1o j0 k
  have cL1o_4 := cL1o j0 j0
  have cL1o_5 := cL1o j0 k0
  have cL1o_6 := cL1o k0 k
  have cL1o_7 := cL1o k0 j0
  have cL1o_8 := cL1o k0 k0
  have cR_0 := cR j0
  have cR_1 := cR k0
  have f0 := p6_ k
  have f1 := p6_ j0
  have f2 := p6_ k0
  have f3 := p7_ b
  have f4 := p7_ (wy j0)
  have f5 := p7_ (op (wy j0))
  have f6 := p7_ (wy k0)
  have f7 := p7_ (op (wy k0))
  have f8 := p7_ (op b)
  have f9 := p8_ b
  have f10 := p8_ (wy j0)
  have f11 := p8_ (op (wy j0))
  have f12 := p8_ (wy k0)
  have f13 := p8_ (op (wy k0))
  have f14 := p17_ b
  have f15 := p17_ (wy j0)
  have f16 := p17_ (op (wy j0))
  have f17 := p17_ (wy k0)
  have f18 := p17_ (op (wy k0))
  have f19 := p24_ k
  have f20 := p24_ j0
  have f21 := p24_ k0
  have f22 := p25_ k
  have f23 := p25_ j0
  have f24 := p25_ k0
  have f25 := p26_ k
  have f26 := p26_ j0
  have f27 := p26_ k0
  have f28 := p27_ b
  have f29 := p27_ (wy j0)
  have f30 := p27_ (op (wy j0))
  have f31 := p27_ (wy k0)
  have f32 := p27_ (op (wy k0))
  clear p6_ p7_ p8_ p17_ p24_ p25_ p26_ p27_
  clear hop hed cL1o cR
  grind (splits := 24)

set_option maxHeartbeats 1000000 in
theorem pt_bg_L1b {W : Int → Prop} {sd : Int → Int} {op : Int → Int} {ed : Int → Int} {st : Int → Int} {lv : Int → Int} {tst : Int → Int} {om : Int → Int} {ps : Int → Int} {dl : Int → Int} {dn : Int → Int} {en : Int → Int} {pd : Int → Int} {cl : Int → Int} {nL : Int} {kd : Int → Int} {wy : Int → Int} {ll : Int → Int} {td : Int → Int} {ls : Int → Int} {wh : Int → Int} {F : Int → Prop} {F2 : Int → Prop} {b k : Int} (hG : pj_G W sd op ed) (p0_ : W b) (p1_ : 0 ≤ k) (p2_ : k < nL) (p3_ : wh k ≠ 2) (p4_ : kd k = 1) (p5_ : wy k = op b) (p6_ : ∀ j, 0 ≤ j → j < k → wy j = wy k → wh j ≠ 0) (p7_ : ∀ v, ¬ F v) (p8_ : ∀ v, F2 v ↔ (W v ∧ sd v = (sd b) ∧ v ≠ b ∧ en v = 1)) (p9_ : om (sd b) = (ed b)) (p10_ : lv (sd b) < ll k) (p11_ : 0 ≤ lv (sd b)) (p12_ : ll k ≤ dl (sd b)) (p13_ : cl (td k) = ll k) (p14_ : ls k = 1 ∨ ls k = 2) (p15_ : st (sd b) = 2) (p16_ : tst (sd b) = -1) (p17_ : ∀ v, W v → sd v = (sd b) → pd v = 0) (p18_ : en (op b) = 1) (p19_ : en b = 1) (p20_ : ls k = 1 → ll k = dl (sd b)) (p21_ : ll k = dl (sd b) → td k = dn (sd b)) (p22_ : om (sd (op b)) = (ed b) → ls k = 1 ∧ td k = (ed b) ∧ cl (ed b) = ll k ∧ dl (sd (op b)) = ll k ∧ dn (sd (op b)) = (ed b) ∧ ((lv (sd (op b)) = dl (sd (op b)) ∧ ps (sd (op b)) = 0) ∨ (lv (sd (op b)) < dl (sd (op b)) ∧ ps (sd (op b)) = 1))) (p23_ : om (sd (op b)) ≠ (ed b) → ls k = 1 → st (sd (op b)) = 1 ∧ pd (op b) = 1) (p24_ : ∀ j, 0 ≤ j → j < nL → wh j ≠ 2 → kd j = 1 → wy j = op b → j ≠ k → ll k < ll j) (p25_ : ∀ j, 0 ≤ j → j < nL → wh j ≠ 2 → kd j = 0 → wy j ≠ op b) (p26_ : ∀ j, 0 ≤ j → j < nL → wh j ≠ 2 → kd j = 5 → wy j = op b → lv (sd b) < cl (ed b)) (p27_ : ∀ v, W v → sd v = (sd b) → ed v = td k → v = b ∧ ls k = 1) (p28_ : 0 ≤ nL) (cL1b : pj_L1b sd ed st om pd nL kd wy td ls wh) (cR : pj_R W nL kd wy wh) : pj_L1b sd ed (pu st (sd b) (ls k)) om pd nL kd wy td ls (pu wh k 2) := by
  obtain ⟨hop, hed⟩ := hG
  unfold pj_L1b pj_R at *
  intro k0
  simp only [pu]
  have g0 := hop b
  have g1 := hop (wy k0)
  have g2 := hed b (wy k0)
  have cL1b_0 := cL1b k
  have cL1b_1 := cL1b k0
  have cR_0 := cR k0
  have f0 := p6_ k
  have f1 := p6_ k0
  have f2 := p7_ b
  have f3 := p7_ (wy k0)
  have f4 := p7_ (op (wy k0))
  have f5 := p7_ (op b)
  have f6 := p8_ b
  have f7 := p8_ (wy k0)
  have f8 := p8_ (op (wy k0))
  have f9 := p17_ b
  have f10 := p17_ (wy k0)
  have f11 := p17_ (op (wy k0))
  have f12 := p24_ k
  have f13 := p24_ k0
  have f14 := p25_ k
  have f15 := p25_ k0
  have f16 := p26_ k
  have f17 := p26_ k0
  have f18 := p27_ b
  have f19 := p27_ (wy k0)
  have f20 := p27_ (op (wy k0))
  clear p6_ p7_ p8_ p17_ p24_ p25_ p26_ p27_
  clear hop hed cL1b cR
  grind (splits := 24)

set_option maxHeartbeats 1000000 in
theorem pt_bg_L1g {W : Int → Prop} {sd : Int → Int} {op : Int → Int} {ed : Int → Int} {st : Int → Int} {lv : Int → Int} {tst : Int → Int} {om : Int → Int} {ps : Int → Int} {dl : Int → Int} {dn : Int → Int} {en : Int → Int} {pd : Int → Int} {cl : Int → Int} {nL : Int} {kd : Int → Int} {wy : Int → Int} {ll : Int → Int} {td : Int → Int} {ls : Int → Int} {wh : Int → Int} {F : Int → Prop} {F2 : Int → Prop} {b k : Int} (hG : pj_G W sd op ed) (p0_ : W b) (p1_ : 0 ≤ k) (p2_ : k < nL) (p3_ : wh k ≠ 2) (p4_ : kd k = 1) (p5_ : wy k = op b) (p6_ : ∀ j, 0 ≤ j → j < k → wy j = wy k → wh j ≠ 0) (p7_ : ∀ v, ¬ F v) (p8_ : ∀ v, F2 v ↔ (W v ∧ sd v = (sd b) ∧ v ≠ b ∧ en v = 1)) (p9_ : om (sd b) = (ed b)) (p10_ : lv (sd b) < ll k) (p11_ : 0 ≤ lv (sd b)) (p12_ : ll k ≤ dl (sd b)) (p13_ : cl (td k) = ll k) (p14_ : ls k = 1 ∨ ls k = 2) (p15_ : st (sd b) = 2) (p16_ : tst (sd b) = -1) (p17_ : ∀ v, W v → sd v = (sd b) → pd v = 0) (p18_ : en (op b) = 1) (p19_ : en b = 1) (p20_ : ls k = 1 → ll k = dl (sd b)) (p21_ : ll k = dl (sd b) → td k = dn (sd b)) (p22_ : om (sd (op b)) = (ed b) → ls k = 1 ∧ td k = (ed b) ∧ cl (ed b) = ll k ∧ dl (sd (op b)) = ll k ∧ dn (sd (op b)) = (ed b) ∧ ((lv (sd (op b)) = dl (sd (op b)) ∧ ps (sd (op b)) = 0) ∨ (lv (sd (op b)) < dl (sd (op b)) ∧ ps (sd (op b)) = 1))) (p23_ : om (sd (op b)) ≠ (ed b) → ls k = 1 → st (sd (op b)) = 1 ∧ pd (op b) = 1) (p24_ : ∀ j, 0 ≤ j → j < nL → wh j ≠ 2 → kd j = 1 → wy j = op b → j ≠ k → ll k < ll j) (p25_ : ∀ j, 0 ≤ j → j < nL → wh j ≠ 2 → kd j = 0 → wy j ≠ op b) (p26_ : ∀ j, 0 ≤ j → j < nL → wh j ≠ 2 → kd j = 5 → wy j = op b → lv (sd b) < cl (ed b)) (p27_ : ∀ v, W v → sd v = (sd b) → ed v = td k → v = b ∧ ls k = 1) (p28_ : 0 ≤ nL) (cL1g : pj_L1g W sd op ed nL kd wy td ls wh) (cR : pj_R W nL kd wy wh) : pj_L1g W sd op ed nL kd wy td ls (pu wh k 2) := by
  obtain ⟨hop, hed⟩ := hG
  unfold pj_L1g pj_R at *
  intro k0 v0
  simp only [pu]
  have g0 := hop b
  have g1 := hop (wy k0)
  have g2 := hop v0
  have g3 := hed b (wy k0)
  have g4 := hed b v0
  have g5 := hed (wy k0) v0
  have cL1g_0 := cL1g k b
  have cL1g_1 := cL1g k (wy k0)
  have cL1g_2 := cL1g k (op (wy k0))
  have cL1g_3 := cL1g k v0
  have cL1g_4 := cL1g k (op v0)
  have cL1g_5 := cL1g k0 b
  have cL1g_6 := cL1g k0 (wy k0)
  have cL1g_7 := cL1g k0 (op (wy k0))
  have cL1g_8 := cL1g k0 v0
  have cL1g_9 := cL1g k0 (op v0)
  have cR_0 := cR k0
  have f0 := p6_ k
  have f1 := p6_ k0
  have f2 := p7_ b
  have f3 := p7_ (wy k0)
  have f4 := p7_ (op (wy k0))
  have f5 := p7_ v0
  have f6 := p7_ (op v0)
  have f7 := p7_ (op b)
  have f8 := p8_ b
  have f9 := p8_ (wy k0)
  have f10 := p8_ (op (wy k0))
  have f11 := p8_ v0
  have f12 := p8_ (op v0)
  have f13 := p17_ b
  have f14 := p17_ (wy k0)
  have f15 := p17_ (op (wy k0))
  have f16 := p17_ v0
  have f17 := p17_ (op v0)
  have f18 := p24_ k
  have f19 := p24_ k0
  have f20 := p25_ k
  have f21 := p25_ k0
  have f22 := p26_ k
  have f23 := p26_ k0
  have f24 := p27_ b
  have f25 := p27_ (wy k0)
  have f26 := p27_ (op (wy k0))
  have f27 := p27_ v0
  have f28 := p27_ (op v0)
  clear p6_ p7_ p8_ p17_ p24_ p25_ p26_ p27_
  clear hop hed cL1g cR
  grind (splits := 24)

set_option maxHeartbeats 1000000 in
theorem pt_bg_L2 {W : Int → Prop} {sd : Int → Int} {op : Int → Int} {ed : Int → Int} {st : Int → Int} {lv : Int → Int} {nm : Int → Int} {tst : Int → Int} {om : Int → Int} {ps : Int → Int} {dl : Int → Int} {dn : Int → Int} {en : Int → Int} {pd : Int → Int} {fw : Int → Int} {cl : Int → Int} {nL : Int} {kd : Int → Int} {wy : Int → Int} {ll : Int → Int} {td : Int → Int} {ls : Int → Int} {wh : Int → Int} {F : Int → Prop} {F2 : Int → Prop} {b k : Int} (hG : pj_G W sd op ed) (p0_ : W b) (p1_ : 0 ≤ k) (p2_ : k < nL) (p3_ : wh k ≠ 2) (p4_ : kd k = 1) (p5_ : wy k = op b) (p6_ : ∀ j, 0 ≤ j → j < k → wy j = wy k → wh j ≠ 0) (p7_ : ∀ v, ¬ F v) (p8_ : ∀ v, F2 v ↔ (W v ∧ sd v = (sd b) ∧ v ≠ b ∧ en v = 1)) (p9_ : om (sd b) = (ed b)) (p10_ : lv (sd b) < ll k) (p11_ : 0 ≤ lv (sd b)) (p12_ : ll k ≤ dl (sd b)) (p13_ : cl (td k) = ll k) (p14_ : ls k = 1 ∨ ls k = 2) (p15_ : st (sd b) = 2) (p16_ : tst (sd b) = -1) (p17_ : ∀ v, W v → sd v = (sd b) → pd v = 0) (p18_ : en (op b) = 1) (p19_ : en b = 1) (p20_ : ls k = 1 → ll k = dl (sd b)) (p21_ : ll k = dl (sd b) → td k = dn (sd b)) (p22_ : om (sd (op b)) = (ed b) → ls k = 1 ∧ td k = (ed b) ∧ cl (ed b) = ll k ∧ dl (sd (op b)) = ll k ∧ dn (sd (op b)) = (ed b) ∧ ((lv (sd (op b)) = dl (sd (op b)) ∧ ps (sd (op b)) = 0) ∨ (lv (sd (op b)) < dl (sd (op b)) ∧ ps (sd (op b)) = 1))) (p23_ : om (sd (op b)) ≠ (ed b) → ls k = 1 → st (sd (op b)) = 1 ∧ pd (op b) = 1) (p24_ : ∀ j, 0 ≤ j → j < nL → wh j ≠ 2 → kd j = 1 → wy j = op b → j ≠ k → ll k < ll j) (p25_ : ∀ j, 0 ≤ j → j < nL → wh j ≠ 2 → kd j = 0 → wy j ≠ op b) (p26_ : ∀ j, 0 ≤ j → j < nL → wh j ≠ 2 → kd j = 5 → wy j = op b → lv (sd b) < cl (ed b)) (p27_ : ∀ v, W v → sd v = (sd b) → ed v = td k → v = b ∧ ls k = 1) (p28_ : 0 ≤ nL) (cL2 : pj_L2 sd op ed st lv nm tst en fw nL kd wy ll td wh) (cR : pj_R W nL kd wy wh) : pj_L2 sd op ed (pu st (sd b) (ls k)) (pu lv (sd b) (ll k)) (pu nm (sd b) (td k)) tst en fw nL kd wy ll td (pu wh k 2) := by
  obtain ⟨hop, hed⟩ := hG
  unfold pj_L2 pj_R at *
  intro k0
  simp only [pu]
  have g0 := hop b
  have g1 := hop (wy k0)
  have g2 := hed b (wy k0)
  have cL2_0 := cL2 k
  have cL2_1 := cL2 k0
  have cR_0 := cR k0
  have f0 := p6_ k
  have f1 := p6_ k0
  have f2 := p7_ b
  have f3 := p7_ (wy k0)
  have f4 := p7_ (op (wy k0))
  have f5 := p7_ (op b)
  have f6 := p8_ b
  have f7 := p8_ (wy k0)
  have f8 := p8_ (op (wy k0))
  have f9 := p17_ b
  have f10 := p17_ (wy k0)
  have f11 := p17_ (op (wy k0))
  have f12 := p24_ k
  have f13 := p24_ k0
  have f14 := p25_ k
  have f15 := p25_ k0
  have f16 := p26_ k
  have f17 := p26_ k0
  have f18 := p27_ b
  have f19 := p27_ (wy k0)
  have f20 := p27_ (op (wy k0))
  clear p6_ p7_ p8_ p17_ p24_ p25_ p26_ p27_
  clear hop hed cL2 cR
  grind (splits := 24)

set_option maxHeartbeats 1000000 in
theorem pt_bg_L3 {W : Int → Prop} {sd : Int → Int} {op : Int → Int} {ed : Int → Int} {st : Int → Int} {lv : Int → Int} {nm : Int → Int} {tst : Int → Int} {om : Int → Int} {ps : Int → Int} {dl : Int → Int} {dn : Int → Int} {en : Int → Int} {pd : Int → Int} {fw : Int → Int} {cl : Int → Int} {nL : Int} {kd : Int → Int} {wy : Int → Int} {ll : Int → Int} {td : Int → Int} {ls : Int → Int} {wh : Int → Int} {F : Int → Prop} {F2 : Int → Prop} {b k : Int} (hG : pj_G W sd op ed) (p0_ : W b) (p1_ : 0 ≤ k) (p2_ : k < nL) (p3_ : wh k ≠ 2) (p4_ : kd k = 1) (p5_ : wy k = op b) (p6_ : ∀ j, 0 ≤ j → j < k → wy j = wy k → wh j ≠ 0) (p7_ : ∀ v, ¬ F v) (p8_ : ∀ v, F2 v ↔ (W v ∧ sd v = (sd b) ∧ v ≠ b ∧ en v = 1)) (p9_ : om (sd b) = (ed b)) (p10_ : lv (sd b) < ll k) (p11_ : 0 ≤ lv (sd b)) (p12_ : ll k ≤ dl (sd b)) (p13_ : cl (td k) = ll k) (p14_ : ls k = 1 ∨ ls k = 2) (p15_ : st (sd b) = 2) (p16_ : tst (sd b) = -1) (p17_ : ∀ v, W v → sd v = (sd b) → pd v = 0) (p18_ : en (op b) = 1) (p19_ : en b = 1) (p20_ : ls k = 1 → ll k = dl (sd b)) (p21_ : ll k = dl (sd b) → td k = dn (sd b)) (p22_ : om (sd (op b)) = (ed b) → ls k = 1 ∧ td k = (ed b) ∧ cl (ed b) = ll k ∧ dl (sd (op b)) = ll k ∧ dn (sd (op b)) = (ed b) ∧ ((lv (sd (op b)) = dl (sd (op b)) ∧ ps (sd (op b)) = 0) ∨ (lv (sd (op b)) < dl (sd (op b)) ∧ ps (sd (op b)) = 1))) (p23_ : om (sd (op b)) ≠ (ed b) → ls k = 1 → st (sd (op b)) = 1 ∧ pd (op b) = 1) (p24_ : ∀ j, 0 ≤ j → j < nL → wh j ≠ 2 → kd j = 1 → wy j = op b → j ≠ k → ll k < ll j) (p25_ : ∀ j, 0 ≤ j → j < nL → wh j ≠ 2 → kd j = 0 → wy j ≠ op b) (p26_ : ∀ j, 0 ≤ j → j < nL → wh j ≠ 2 → kd j = 5 → wy j = op b → lv (sd b) < cl (ed b)) (p27_ : ∀ v, W v → sd v = (sd b) → ed v = td k → v = b ∧ ls k = 1) (p28_ : 0 ≤ nL) (cL3 : pj_L3 sd op ed st lv nm tst en fw nL kd wy wh) (cR : pj_R W nL kd wy wh) (cC1 : pj_C1 lv nm cl) (cR3a : pj_R3a st lv dl) : pj_L3 sd op ed (pu st (sd b) (ls k)) (pu lv (sd b) (ll k)) (pu nm (sd b) (td k)) tst en fw nL kd wy (pu wh k 2) := by
  obtain ⟨hop, hed⟩ := hG
  unfold pj_L3 pj_R pj_C1 pj_R3a at *
  intro k0
  simp only [pu]
  have g0 := hop b
  have g1 := hop (wy k0)
  have g2 := hed b (wy k0)
  have cL3_0 := cL3 k
  have cL3_1 := cL3 k0
  have cR_0 := cR k0
  have cC1_0 := cC1 (sd (op b))
  have cC1_1 := cC1 (sd b)
  have cC1_2 := cC1 (sd (wy k0))
  have cC1_3 := cC1 (sd (op (wy k0)))
  have cR3a_0 := cR3a (sd (op b))
  have cR3a_1 := cR3a (sd b)
  have cR3a_2 := cR3a (sd (wy k0))
  have cR3a_3 := cR3a (sd (op (wy k0)))
  have f0 := p6_ k
  have f1 := p6_ k0
  have f2 := p7_ b
  have f3 := p7_ (wy k0)
  have f4 := p7_ (op (wy k0))
  have f5 := p7_ (op b)
  have f6 := p8_ b
  have f7 := p8_ (wy k0)
  have f8 := p8_ (op (wy k0))
  have f9 := p17_ b
  have f10 := p17_ (wy k0)
  have f11 := p17_ (op (wy k0))
  have f12 := p24_ k
  have f13 := p24_ k0
  have f14 := p25_ k
  have f15 := p25_ k0
  have f16 := p26_ k
  have f17 := p26_ k0
  have f18 := p27_ b
  have f19 := p27_ (wy k0)
  have f20 := p27_ (op (wy k0))
  clear p6_ p7_ p8_ p17_ p24_ p25_ p26_ p27_
  clear hop hed cL3 cR cC1 cR3a
  grind (splits := 24)

set_option maxHeartbeats 1000000 in
theorem pt_bg_L4 {W : Int → Prop} {sd : Int → Int} {op : Int → Int} {ed : Int → Int} {st : Int → Int} {lv : Int → Int} {tst : Int → Int} {om : Int → Int} {ps : Int → Int} {dl : Int → Int} {dn : Int → Int} {en : Int → Int} {pd : Int → Int} {cl : Int → Int} {nL : Int} {kd : Int → Int} {wy : Int → Int} {ll : Int → Int} {td : Int → Int} {ls : Int → Int} {wh : Int → Int} {F : Int → Prop} {F2 : Int → Prop} {b k : Int} (hG : pj_G W sd op ed) (p0_ : W b) (p1_ : 0 ≤ k) (p2_ : k < nL) (p3_ : wh k ≠ 2) (p4_ : kd k = 1) (p5_ : wy k = op b) (p6_ : ∀ j, 0 ≤ j → j < k → wy j = wy k → wh j ≠ 0) (p7_ : ∀ v, ¬ F v) (p8_ : ∀ v, F2 v ↔ (W v ∧ sd v = (sd b) ∧ v ≠ b ∧ en v = 1)) (p9_ : om (sd b) = (ed b)) (p10_ : lv (sd b) < ll k) (p11_ : 0 ≤ lv (sd b)) (p12_ : ll k ≤ dl (sd b)) (p13_ : cl (td k) = ll k) (p14_ : ls k = 1 ∨ ls k = 2) (p15_ : st (sd b) = 2) (p16_ : tst (sd b) = -1) (p17_ : ∀ v, W v → sd v = (sd b) → pd v = 0) (p18_ : en (op b) = 1) (p19_ : en b = 1) (p20_ : ls k = 1 → ll k = dl (sd b)) (p21_ : ll k = dl (sd b) → td k = dn (sd b)) (p22_ : om (sd (op b)) = (ed b) → ls k = 1 ∧ td k = (ed b) ∧ cl (ed b) = ll k ∧ dl (sd (op b)) = ll k ∧ dn (sd (op b)) = (ed b) ∧ ((lv (sd (op b)) = dl (sd (op b)) ∧ ps (sd (op b)) = 0) ∨ (lv (sd (op b)) < dl (sd (op b)) ∧ ps (sd (op b)) = 1))) (p23_ : om (sd (op b)) ≠ (ed b) → ls k = 1 → st (sd (op b)) = 1 ∧ pd (op b) = 1) (p24_ : ∀ j, 0 ≤ j → j < nL → wh j ≠ 2 → kd j = 1 → wy j = op b → j ≠ k → ll k < ll j) (p25_ : ∀ j, 0 ≤ j → j < nL → wh j ≠ 2 → kd j = 0 → wy j ≠ op b) (p26_ : ∀ j, 0 ≤ j → j < nL → wh j ≠ 2 → kd j = 5 → wy j = op b → lv (sd b) < cl (ed b)) (p27_ : ∀ v, W v → sd v = (sd b) → ed v = td k → v = b ∧ ls k = 1) (p28_ : 0 ≤ nL) (cL4 : pj_L4 sd op ed st tst en nL kd wy wh) (cR : pj_R W nL kd wy wh) : pj_L4 sd op ed (pu st (sd b) (ls k)) tst en nL kd wy (pu wh k 2) := by
  obtain ⟨hop, hed⟩ := hG
  unfold pj_L4 pj_R at *
  intro k0
  simp only [pu]
  have g0 := hop b
  have g1 := hop (wy k0)
  have g2 := hed b (wy k0)
  have cL4_0 := cL4 k
  have cL4_1 := cL4 k0
  have cR_0 := cR k0
  have f0 := p6_ k
  have f1 := p6_ k0
  have f2 := p7_ b
  have f3 := p7_ (wy k0)
  have f4 := p7_ (op (wy k0))
  have f5 := p7_ (op b)
  have f6 := p8_ b
  have f7 := p8_ (wy k0)
  have f8 := p8_ (op (wy k0))
  have f9 := p17_ b
  have f10 := p17_ (wy k0)
  have f11 := p17_ (op (wy k0))
  have f12 := p24_ k
  have f13 := p24_ k0
  have f14 := p25_ k
  have f15 := p25_ k0
  have f16 := p26_ k
  have f17 := p26_ k0
  have f18 := p27_ b
  have f19 := p27_ (wy k0)
  have f20 := p27_ (op (wy k0))
  clear p6_ p7_ p8_ p17_ p24_ p25_ p26_ p27_
  clear hop hed cL4 cR
  grind (splits := 24)

set_option maxHeartbeats 1000000 in
theorem pt_bg_AF {W : Int → Prop} {sd : Int → Int} {op : Int → Int} {ed : Int → Int} {st : Int → Int} {lv : Int → Int} {tst : Int → Int} {om : Int → Int} {ps : Int → Int} {dl : Int → Int} {dn : Int → Int} {af : Int → Int} {en : Int → Int} {pd : Int → Int} {cl : Int → Int} {nL : Int} {kd : Int → Int} {wy : Int → Int} {ll : Int → Int} {td : Int → Int} {ls : Int → Int} {wh : Int → Int} {F : Int → Prop} {F2 : Int → Prop} {b k : Int} (hG : pj_G W sd op ed) (p0_ : W b) (p1_ : 0 ≤ k) (p2_ : k < nL) (p3_ : wh k ≠ 2) (p4_ : kd k = 1) (p5_ : wy k = op b) (p6_ : ∀ j, 0 ≤ j → j < k → wy j = wy k → wh j ≠ 0) (p7_ : ∀ v, ¬ F v) (p8_ : ∀ v, F2 v ↔ (W v ∧ sd v = (sd b) ∧ v ≠ b ∧ en v = 1)) (p9_ : om (sd b) = (ed b)) (p10_ : lv (sd b) < ll k) (p11_ : 0 ≤ lv (sd b)) (p12_ : ll k ≤ dl (sd b)) (p13_ : cl (td k) = ll k) (p14_ : ls k = 1 ∨ ls k = 2) (p15_ : st (sd b) = 2) (p16_ : tst (sd b) = -1) (p17_ : ∀ v, W v → sd v = (sd b) → pd v = 0) (p18_ : en (op b) = 1) (p19_ : en b = 1) (p20_ : ls k = 1 → ll k = dl (sd b)) (p21_ : ll k = dl (sd b) → td k = dn (sd b)) (p22_ : om (sd (op b)) = (ed b) → ls k = 1 ∧ td k = (ed b) ∧ cl (ed b) = ll k ∧ dl (sd (op b)) = ll k ∧ dn (sd (op b)) = (ed b) ∧ ((lv (sd (op b)) = dl (sd (op b)) ∧ ps (sd (op b)) = 0) ∨ (lv (sd (op b)) < dl (sd (op b)) ∧ ps (sd (op b)) = 1))) (p23_ : om (sd (op b)) ≠ (ed b) → ls k = 1 → st (sd (op b)) = 1 ∧ pd (op b) = 1) (p24_ : ∀ j, 0 ≤ j → j < nL → wh j ≠ 2 → kd j = 1 → wy j = op b → j ≠ k → ll k < ll j) (p25_ : ∀ j, 0 ≤ j → j < nL → wh j ≠ 2 → kd j = 0 → wy j ≠ op b) (p26_ : ∀ j, 0 ≤ j → j < nL → wh j ≠ 2 → kd j = 5 → wy j = op b → lv (sd b) < cl (ed b)) (p27_ : ∀ v, W v → sd v = (sd b) → ed v = td k → v = b ∧ ls k = 1) (p28_ : 0 ≤ nL) (cAF : pj_AF W sd op ed tst af nL kd wy wh) : pj_AF W sd op ed tst (pu af (sd b) 0) nL kd wy (pu wh k 2) := by
  obtain ⟨hop, hed⟩ := hG
  unfold pj_AF at *
  intro v0
  simp only [pu]
  have g0 := hop b
  have g1 := hop v0
  have g2 := hed b v0
  have cAF_0 := cAF b
  have cAF_1 := cAF v0
  have cAF_2 := cAF (op v0)
  have f0 := p6_ k
  have f1 := p7_ b
  have f2 := p7_ v0
  have f3 := p7_ (op v0)
  have f4 := p7_ (op b)
  have f5 := p8_ b
  have f6 := p8_ v0
  have f7 := p8_ (op v0)
  have f8 := p17_ b
  have f9 := p17_ v0
  have f10 := p17_ (op v0)
  have f11 := p24_ k
  have f12 := p25_ k
  have f13 := p26_ k
  have f14 := p27_ b
  have f15 := p27_ v0
  have f16 := p27_ (op v0)
  clear p6_ p7_ p8_ p17_ p24_ p25_ p26_ p27_
  clear hop hed cAF
  grind (splits := 24)

set_option maxHeartbeats 1000000 in
theorem pt_bg_RT {W : Int → Prop} {sd : Int → Int} {op : Int → Int} {ed : Int → Int} {st : Int → Int} {lv : Int → Int} {tst : Int → Int} {om : Int → Int} {ps : Int → Int} {dl : Int → Int} {dn : Int → Int} {en : Int → Int} {pd : Int → Int} {cl : Int → Int} {nL : Int} {kd : Int → Int} {wy : Int → Int} {ll : Int → Int} {td : Int → Int} {ls : Int → Int} {wh : Int → Int} {F : Int → Prop} {F2 : Int → Prop} {b k : Int} (hG : pj_G W sd op ed) (p0_ : W b) (p1_ : 0 ≤ k) (p2_ : k < nL) (p3_ : wh k ≠ 2) (p4_ : kd k = 1) (p5_ : wy k = op b) (p6_ : ∀ j, 0 ≤ j → j < k → wy j = wy k → wh j ≠ 0) (p7_ : ∀ v, ¬ F v) (p8_ : ∀ v, F2 v ↔ (W v ∧ sd v = (sd b) ∧ v ≠ b ∧ en v = 1)) (p9_ : om (sd b) = (ed b)) (p10_ : lv (sd b) < ll k) (p11_ : 0 ≤ lv (sd b)) (p12_ : ll k ≤ dl (sd b)) (p13_ : cl (td k) = ll k) (p14_ : ls k = 1 ∨ ls k = 2) (p15_ : st (sd b) = 2) (p16_ : tst (sd b) = -1) (p17_ : ∀ v, W v → sd v = (sd b) → pd v = 0) (p18_ : en (op b) = 1) (p19_ : en b = 1) (p20_ : ls k = 1 → ll k = dl (sd b)) (p21_ : ll k = dl (sd b) → td k = dn (sd b)) (p22_ : om (sd (op b)) = (ed b) → ls k = 1 ∧ td k = (ed b) ∧ cl (ed b) = ll k ∧ dl (sd (op b)) = ll k ∧ dn (sd (op b)) = (ed b) ∧ ((lv (sd (op b)) = dl (sd (op b)) ∧ ps (sd (op b)) = 0) ∨ (lv (sd (op b)) < dl (sd (op b)) ∧ ps (sd (op b)) = 1))) (p23_ : om (sd (op b)) ≠ (ed b) → ls k = 1 → st (sd (op b)) = 1 ∧ pd (op b) = 1) (p24_ : ∀ j, 0 ≤ j → j < nL → wh j ≠ 2 → kd j = 1 → wy j = op b → j ≠ k → ll k < ll j) (p25_ : ∀ j, 0 ≤ j → j < nL → wh j ≠ 2 → kd j = 0 → wy j ≠ op b) (p26_ : ∀ j, 0 ≤ j → j < nL → wh j ≠ 2 → kd j = 5 → wy j = op b → lv (sd b) < cl (ed b)) (p27_ : ∀ v, W v → sd v = (sd b) → ed v = td k → v = b ∧ ls k = 1) (p28_ : 0 ≤ nL) (cRT : pj_RT sd ed tst nL kd wy wh) (cR : pj_R W nL kd wy wh) : pj_RT sd ed tst nL kd wy (pu wh k 2) := by
  obtain ⟨hop, hed⟩ := hG
  unfold pj_RT pj_R at *
  intro j0 k0
  simp only [pu]
  have g0 := hop b
  have g1 := hop (wy j0)
  have g2 := hop (wy k0)
  have g3 := hed b (wy j0)
  have g4 := hed b (wy k0)
  have g5 := hed (wy j0) (wy k0)
  have cRT_0 := cRT k k
  have cRT_1 := cRT k j0
  have cRT_2 := cRT k k0
  have cRT_3 := cRT j0 k
  have cRT_4 := cRT j0 j0
  have cRT_5 := cRT j0 k0
  have cRT_6 := cRT k0 k
  have cRT_7 := cRT k0 j0
  have cRT_8 := cRT k0 k0
  have cR_0 := cR j0
  have cR_1 := cR k0
  have f0 := p6_ k
  have f1 := p6_ j0
  have f2 := p6_ k0
  have f3 := p7_ b
  have f4 := p7_ (wy j0)
  have f5 := p7_ (op (wy j0))
  have f6 := p7_ (wy k0)
  have f7 := p7_ (op (wy k0))
  have f8 := p7_ (op b)
  have f9 := p8_ b
  have f10 := p8_ (wy j0)
  have f11 := p8_ (op (wy j0))
  have f12 := p8_ (wy k0)
  have f13 := p8_ (op (wy k0))
  have f14 := p17_ b
  have f15 := p17_ (wy j0)
  have f16 := p17_ (op (wy j0))
  have f17 := p17_ (wy k0)
  have f18 := p17_ (op (wy k0))
  have f19 := p24_ k
  have f20 := p24_ j0
  have f21 := p24_ k0
  have f22 := p25_ k
  have f23 := p25_ j0
  have f24 := p25_ k0
  have f25 := p26_ k
  have f26 := p26_ j0
  have f27 := p26_ k0
  have f28 := p27_ b
  have f29 := p27_ (wy j0)
  have f30 := p27_ (op (wy j0))
  have f31 := p27_ (wy k0)
  have f32 := p27_ (op (wy k0))
  clear p6_ p7_ p8_ p17_ p24_ p25_ p26_ p27_
  clear hop hed cRT cR
  grind (splits := 24)

set_option maxHeartbeats 1000000 in
theorem pt_bg_CV {W : Int → Prop} {sd : Int → Int} {op : Int → Int} {ed : Int → Int} {st : Int → Int} {lv : Int → Int} {tst : Int → Int} {om : Int → Int} {ps : Int → Int} {dl : Int → Int} {dn : Int → Int} {en : Int → Int} {pd : Int → Int} {cl : Int → Int} {nL : Int} {kd : Int → Int} {wy : Int → Int} {ll : Int → Int} {td : Int → Int} {ls : Int → Int} {wh : Int → Int} {F : Int → Prop} {F2 : Int → Prop} {b k : Int} (hG : pj_G W sd op ed) (p0_ : W b) (p1_ : 0 ≤ k) (p2_ : k < nL) (p3_ : wh k ≠ 2) (p4_ : kd k = 1) (p5_ : wy k = op b) (p6_ : ∀ j, 0 ≤ j → j < k → wy j = wy k → wh j ≠ 0) (p7_ : ∀ v, ¬ F v) (p8_ : ∀ v, F2 v ↔ (W v ∧ sd v = (sd b) ∧ v ≠ b ∧ en v = 1)) (p9_ : om (sd b) = (ed b)) (p10_ : lv (sd b) < ll k) (p11_ : 0 ≤ lv (sd b)) (p12_ : ll k ≤ dl (sd b)) (p13_ : cl (td k) = ll k) (p14_ : ls k = 1 ∨ ls k = 2) (p15_ : st (sd b) = 2) (p16_ : tst (sd b) = -1) (p17_ : ∀ v, W v → sd v = (sd b) → pd v = 0) (p18_ : en (op b) = 1) (p19_ : en b = 1) (p20_ : ls k = 1 → ll k = dl (sd b)) (p21_ : ll k = dl (sd b) → td k = dn (sd b)) (p22_ : om (sd (op b)) = (ed b) → ls k = 1 ∧ td k = (ed b) ∧ cl (ed b) = ll k ∧ dl (sd (op b)) = ll k ∧ dn (sd (op b)) = (ed b) ∧ ((lv (sd (op b)) = dl (sd (op b)) ∧ ps (sd (op b)) = 0) ∨ (lv (sd (op b)) < dl (sd (op b)) ∧ ps (sd (op b)) = 1))) (p23_ : om (sd (op b)) ≠ (ed b) → ls k = 1 → st (sd (op b)) = 1 ∧ pd (op b) = 1) (p24_ : ∀ j, 0 ≤ j → j < nL → wh j ≠ 2 → kd j = 1 → wy j = op b → j ≠ k → ll k < ll j) (p25_ : ∀ j, 0 ≤ j → j < nL → wh j ≠ 2 → kd j = 0 → wy j ≠ op b) (p26_ : ∀ j, 0 ≤ j → j < nL → wh j ≠ 2 → kd j = 5 → wy j = op b → lv (sd b) < cl (ed b)) (p27_ : ∀ v, W v → sd v = (sd b) → ed v = td k → v = b ∧ ls k = 1) (p28_ : 0 ≤ nL) (cCV : pj_CV W sd op ed tst nL kd wy wh) (cR : pj_R W nL kd wy wh) : pj_CV W sd op ed tst nL kd wy (pu wh k 2) := by
  obtain ⟨hop, hed⟩ := hG
  unfold pj_CV pj_R at *
  intro v0 j0 k0
  simp only [pu]
  have g0 := hop b
  have g1 := hop v0
  have g2 := hop (wy j0)
  have g3 := hop (wy k0)
  have g4 := hed b v0
  have g5 := hed b (wy j0)
  have g6 := hed b (wy k0)
  have g7 := hed v0 (wy j0)
  have g8 := hed v0 (wy k0)
  have g9 := hed (wy j0) (wy k0)
  have cCV_0 := cCV v0 j0 k0
  have cR_0 := cR j0
  have cR_1 := cR k0
  have f0 := p6_ k
  have f1 := p6_ j0
  have f2 := p6_ k0
  have f3 := p7_ b
  have f4 := p7_ v0
  have f5 := p7_ (op v0)
  have f6 := p7_ (wy j0)
  have f7 := p7_ (op (wy j0))
  have f8 := p7_ (wy k0)
  have f9 := p7_ (op (wy k0))
  have f10 := p7_ (op b)
  have f11 := p8_ b
  have f12 := p8_ v0
  have f13 := p8_ (op v0)
  have f14 := p8_ (wy j0)
  have f15 := p8_ (op (wy j0))
  have f16 := p8_ (wy k0)
  have f17 := p8_ (op (wy k0))
  have f18 := p17_ b
  have f19 := p17_ v0
  have f20 := p17_ (op v0)
  have f21 := p17_ (wy j0)
  have f22 := p17_ (op (wy j0))
  have f23 := p17_ (wy k0)
  have f24 := p17_ (op (wy k0))
  have f25 := p24_ k
  have f26 := p24_ j0
  have f27 := p24_ k0
  have f28 := p25_ k
  have f29 := p25_ j0
  have f30 := p25_ k0
  have f31 := p26_ k
  have f32 := p26_ j0
  have f33 := p26_ k0
  have f34 := p27_ b
  have f35 := p27_ v0
  have f36 := p27_ (op v0)
  have f37 := p27_ (wy j0)
  have f38 := p27_ (op (wy j0))
  have f39 := p27_ (wy k0)
  have f40 := p27_ (op (wy k0))
  clear p6_ p7_ p8_ p17_ p24_ p25_ p26_ p27_
  clear hop hed cCV cR
  grind (splits := 24)

set_option maxHeartbeats 1000000 in
theorem pt_bg_L5 {W : Int → Prop} {sd : Int → Int} {op : Int → Int} {ed : Int → Int} {st : Int → Int} {lv : Int → Int} {nm : Int → Int} {inw : Int → Int} {bst : Int → Int} {tst : Int → Int} {om : Int → Int} {ps : Int → Int} {dl : Int → Int} {dn : Int → Int} {af : Int → Int} {en : Int → Int} {pd : Int → Int} {rp : Int → Int} {rv : Int → Int} {cl : Int → Int} {tk : Int → Int} {nL : Int} {kd : Int → Int} {wy : Int → Int} {ll : Int → Int} {td : Int → Int} {ls : Int → Int} {wh : Int → Int} {F : Int → Prop} {F2 : Int → Prop} {b k : Int} (hG : pj_G W sd op ed) (p0_ : W b) (p1_ : 0 ≤ k) (p2_ : k < nL) (p3_ : wh k ≠ 2) (p4_ : kd k = 1) (p5_ : wy k = op b) (p6_ : ∀ j, 0 ≤ j → j < k → wy j = wy k → wh j ≠ 0) (p7_ : ∀ v, ¬ F v) (p8_ : ∀ v, F2 v ↔ (W v ∧ sd v = (sd b) ∧ v ≠ b ∧ en v = 1)) (p9_ : om (sd b) = (ed b)) (p10_ : lv (sd b) < ll k) (p11_ : 0 ≤ lv (sd b)) (p12_ : ll k ≤ dl (sd b)) (p13_ : cl (td k) = ll k) (p14_ : ls k = 1 ∨ ls k = 2) (p15_ : st (sd b) = 2) (p16_ : tst (sd b) = -1) (p17_ : ∀ v, W v → sd v = (sd b) → pd v = 0) (p18_ : en (op b) = 1) (p19_ : en b = 1) (p20_ : ls k = 1 → ll k = dl (sd b)) (p21_ : ll k = dl (sd b) → td k = dn (sd b)) (p22_ : om (sd (op b)) = (ed b) → ls k = 1 ∧ td k = (ed b) ∧ cl (ed b) = ll k ∧ dl (sd (op b)) = ll k ∧ dn (sd (op b)) = (ed b) ∧ ((lv (sd (op b)) = dl (sd (op b)) ∧ ps (sd (op b)) = 0) ∨ (lv (sd (op b)) < dl (sd (op b)) ∧ ps (sd (op b)) = 1))) (p23_ : om (sd (op b)) ≠ (ed b) → ls k = 1 → st (sd (op b)) = 1 ∧ pd (op b) = 1) (p24_ : ∀ j, 0 ≤ j → j < nL → wh j ≠ 2 → kd j = 1 → wy j = op b → j ≠ k → ll k < ll j) (p25_ : ∀ j, 0 ≤ j → j < nL → wh j ≠ 2 → kd j = 0 → wy j ≠ op b) (p26_ : ∀ j, 0 ≤ j → j < nL → wh j ≠ 2 → kd j = 5 → wy j = op b → lv (sd b) < cl (ed b)) (p27_ : ∀ v, W v → sd v = (sd b) → ed v = td k → v = b ∧ ls k = 1) (p28_ : 0 ≤ nL) (cL5 : pj_L5 sd op ed st lv nm inw bst om ps dl pd rp rv cl tk nL kd wy td wh) (cR : pj_R W nL kd wy wh) (cN13 : pj_N13 W sd ed lv nm inw) (cN5 : pj_N5 lv inw om ps) (cPD : pj_PD W sd op ed st om en pd) (cN0 : pj_N0 st lv ps dl af) (cRP1 : pj_RP1 W sd ed lv rp cl) : pj_L5 sd op ed (pu st (sd b) (ls k)) (pu lv (sd b) (ll k)) (pu nm (sd b) (td k)) (pu inw (sd b) (ed b)) (pu bst (sd b) (-1)) om (pu ps (sd b) 0) dl pd rp rv cl tk nL kd wy td (pu wh k 2) := by
  obtain ⟨hop, hed⟩ := hG
  unfold pj_L5 pj_R pj_N13 pj_N5 pj_PD pj_N0 pj_RP1 at *
  intro k0
  simp only [pu]
  have g0 := hop b
  have g1 := hop (wy k0)
  have g2 := hed b (wy k0)
  have cL5_0 := cL5 k
  have cL5_1 := cL5 k0
  have cR_0 := cR k0
  have cN13_0 := cN13 b
  have cN13_1 := cN13 (wy k0)
  have cN13_2 := cN13 (op (wy k0))
  have cN5_0 := cN5 (sd (op b))
  have cN5_1 := cN5 (sd b)
  have cN5_2 := cN5 (sd (wy k0))
  have cN5_3 := cN5 (sd (op (wy k0)))
  have cPD_0 := cPD b
  have cPD_1 := cPD (wy k0)
  have cPD_2 := cPD (op (wy k0))
  have cN0_0 := cN0 (sd (op b))
  have cN0_1 := cN0 (sd b)
  have cN0_2 := cN0 (sd (wy k0))
  have cN0_3 := cN0 (sd (op (wy k0)))
  have cRP1_0 := cRP1 b
  have cRP1_1 := cRP1 (wy k0)
  have cRP1_2 := cRP1 (op (wy k0))
  have f0 := p6_ k
  have f1 := p6_ k0
  have f2 := p7_ b
  have f3 := p7_ (wy k0)
  have f4 := p7_ (op (wy k0))
  have f5 := p7_ (op b)
  have f6 := p8_ b
  have f7 := p8_ (wy k0)
  have f8 := p8_ (op (wy k0))
  have f9 := p17_ b
  have f10 := p17_ (wy k0)
  have f11 := p17_ (op (wy k0))
  have f12 := p24_ k
  have f13 := p24_ k0
  have f14 := p25_ k
  have f15 := p25_ k0
  have f16 := p26_ k
  have f17 := p26_ k0
  have f18 := p27_ b
  have f19 := p27_ (wy k0)
  have f20 := p27_ (op (wy k0))
  clear p6_ p7_ p8_ p17_ p24_ p25_ p26_ p27_
  clear hop hed cL5 cR cN13 cN5 cPD cN0 cRP1
  grind (splits := 24)

set_option maxHeartbeats 1000000 in
theorem pt_bg_L5o {W : Int → Prop} {sd : Int → Int} {op : Int → Int} {ed : Int → Int} {st : Int → Int} {lv : Int → Int} {nm : Int → Int} {inw : Int → Int} {bst : Int → Int} {tst : Int → Int} {om : Int → Int} {ps : Int → Int} {dl : Int → Int} {dn : Int → Int} {af : Int → Int} {en : Int → Int} {pd : Int → Int} {rp : Int → Int} {rv : Int → Int} {cl : Int → Int} {tk : Int → Int} {nL : Int} {kd : Int → Int} {wy : Int → Int} {ll : Int → Int} {td : Int → Int} {ls : Int → Int} {wh : Int → Int} {F : Int → Prop} {F2 : Int → Prop} {b k : Int} (hG : pj_G W sd op ed) (p0_ : W b) (p1_ : 0 ≤ k) (p2_ : k < nL) (p3_ : wh k ≠ 2) (p4_ : kd k = 1) (p5_ : wy k = op b) (p6_ : ∀ j, 0 ≤ j → j < k → wy j = wy k → wh j ≠ 0) (p7_ : ∀ v, ¬ F v) (p8_ : ∀ v, F2 v ↔ (W v ∧ sd v = (sd b) ∧ v ≠ b ∧ en v = 1)) (p9_ : om (sd b) = (ed b)) (p10_ : lv (sd b) < ll k) (p11_ : 0 ≤ lv (sd b)) (p12_ : ll k ≤ dl (sd b)) (p13_ : cl (td k) = ll k) (p14_ : ls k = 1 ∨ ls k = 2) (p15_ : st (sd b) = 2) (p16_ : tst (sd b) = -1) (p17_ : ∀ v, W v → sd v = (sd b) → pd v = 0) (p18_ : en (op b) = 1) (p19_ : en b = 1) (p20_ : ls k = 1 → ll k = dl (sd b)) (p21_ : ll k = dl (sd b) → td k = dn (sd b)) (p22_ : om (sd (op b)) = (ed b) → ls k = 1 ∧ td k = (ed b) ∧ cl (ed b) = ll k ∧ dl (sd (op b)) = ll k ∧ dn (sd (op b)) = (ed b) ∧ ((lv (sd (op b)) = dl (sd (op b)) ∧ ps (sd (op b)) = 0) ∨ (lv (sd (op b)) < dl (sd (op b)) ∧ ps (sd (op b)) = 1))) (p23_ : om (sd (op b)) ≠ (ed b) → ls k = 1 → st (sd (op b)) = 1 ∧ pd (op b) = 1) (p24_ : ∀ j, 0 ≤ j → j < nL → wh j ≠ 2 → kd j = 1 → wy j = op b → j ≠ k → ll k < ll j) (p25_ : ∀ j, 0 ≤ j → j < nL → wh j ≠ 2 → kd j = 0 → wy j ≠ op b) (p26_ : ∀ j, 0 ≤ j → j < nL → wh j ≠ 2 → kd j = 5 → wy j = op b → lv (sd b) < cl (ed b)) (p27_ : ∀ v, W v → sd v = (sd b) → ed v = td k → v = b ∧ ls k = 1) (p28_ : 0 ≤ nL) (cL5o : pj_L5o sd op ed lv cl nL kd wy wh) (cR : pj_R W nL kd wy wh) (cL5 : pj_L5 sd op ed st lv nm inw bst om ps dl pd rp rv cl tk nL kd wy td wh) (cN13 : pj_N13 W sd ed lv nm inw) (cN5 : pj_N5 lv inw om ps) (cPD : pj_PD W sd op ed st om en pd) (cN0 : pj_N0 st lv ps dl af) (cRP1 : pj_RP1 W sd ed lv rp cl) (cL1 : pj_L1 sd op ed st lv om dl en cl nL kd wy ll td ls wh) : pj_L5o sd op ed (pu lv (sd b) (ll k)) cl nL kd wy (pu wh k 2) := by
  obtain ⟨hop, hed⟩ := hG
  unfold pj_L5o pj_R pj_L5 pj_N13 pj_N5 pj_PD pj_N0 pj_RP1 pj_L1 at *
  intro j0 k0
  simp only [pu]
  have g0 := hop b
  have g1 := hop (wy j0)
  have g2 := hop (wy k0)
  have g3 := hed b (wy j0)
  have g4 := hed b (wy k0)
  have g5 := hed (wy j0) (wy k0)
  have cL5o_0 := cL5o k k
  have cL5o_1 := cL5o k j0
  have cL5o_2 := cL5o k k0
  have cL5o_3 := cL5o j0 k
  have cL5o_4 := cL5o j0 j0
  have cL5o_5 := cL5o j0 k0
  have cL5o_6 := cL5o k0 k
  have cL5o_7 := cL5o k0 j0
  have cL5o_8 := cL5o k0 k0
  have cR_0 := cR j0
  have cR_1 := cR k0
  have cL5_0 := cL5 k
  have cL5_1 := cL5 j0
  have cL5_2 := cL5 k0
  have cN13_0 := cN13 b
  have cN13_1 := cN13 (wy j0)
  have cN13_2 := cN13 (op (wy j0))
  have cN13_3 := cN13 (wy k0)
  have cN13_4 := cN13 (op (wy k0))
  have cN5_0 := cN5 (sd (op b))
  have cN5_1 := cN5 (sd b)
  have cN5_2 := cN5 (sd (wy j0))
  have cN5_3 := cN5 (sd (op (wy j0)))
  have cN5_4 := cN5 (sd (wy k0))
  have cN5_5 := cN5 (sd (op (wy k0)))
  have cPD_0 := cPD b
  have cPD_1 := cPD (wy j0)
  have cPD_2 := cPD (op (wy j0))
  have cPD_3 := cPD (wy k0)
  have cPD_4 := cPD (op (wy k0))
  have cN0_0 := cN0 (sd (op b))
  have cN0_1 := cN0 (sd b)
  have cN0_2 := cN0 (sd (wy j0))
  have cN0_3 := cN0 (sd (op (wy j0)))
  have cN0_4 := cN0 (sd (wy k0))
  have cN0_5 := cN0 (sd (op (wy k0)))
  have cRP1_0 := cRP1 b
  have cRP1_1 := cRP1 (wy j0)
  have cRP1_2 := cRP1 (op (wy j0))
  have cRP1_3 := cRP1 (wy k0)
  have cRP1_4 := cRP1 (op (wy k0))
  have cL1_0 := cL1 k
  have cL1_1 := cL1 j0
  have cL1_2 := cL1 k0
  have f0 := p6_ k
  have f1 := p6_ j0
  have f2 := p6_ k0
  have f3 := p7_ b
  have f4 := p7_ (wy j0)
  have f5 := p7_ (op (wy j0))
  have f6 := p7_ (wy k0)
  have f7 := p7_ (op (wy k0))
  have f8 := p7_ (op b)
  have f9 := p8_ b
  have f10 := p8_ (wy j0)
  have f11 := p8_ (op (wy j0))
  have f12 := p8_ (wy k0)
  have f13 := p8_ (op (wy k0))
  have f14 := p17_ b
  have f15 := p17_ (wy j0)
  have f16 := p17_ (op (wy j0))
  have f17 := p17_ (wy k0)
  have f18 := p17_ (op (wy k0))
  have f19 := p24_ k
  have f20 := p24_ j0
  have f21 := p24_ k0
  have f22 := p25_ k
  have f23 := p25_ j0
  have f24 := p25_ k0
  have f25 := p26_ k
  have f26 := p26_ j0
  have f27 := p26_ k0
  have f28 := p27_ b
  have f29 := p27_ (wy j0)
  have f30 := p27_ (op (wy j0))
  have f31 := p27_ (wy k0)
  have f32 := p27_ (op (wy k0))
  clear p6_ p7_ p8_ p17_ p24_ p25_ p26_ p27_
  clear hop hed cL5o cR cL5 cN13 cN5 cPD cN0 cRP1 cL1
  grind (splits := 24)

set_option maxHeartbeats 1000000 in
theorem pt_bg_L5u {W : Int → Prop} {sd : Int → Int} {op : Int → Int} {ed : Int → Int} {st : Int → Int} {lv : Int → Int} {tst : Int → Int} {om : Int → Int} {ps : Int → Int} {dl : Int → Int} {dn : Int → Int} {en : Int → Int} {pd : Int → Int} {cl : Int → Int} {nL : Int} {kd : Int → Int} {wy : Int → Int} {ll : Int → Int} {td : Int → Int} {ls : Int → Int} {wh : Int → Int} {F : Int → Prop} {F2 : Int → Prop} {b k : Int} (hG : pj_G W sd op ed) (p0_ : W b) (p1_ : 0 ≤ k) (p2_ : k < nL) (p3_ : wh k ≠ 2) (p4_ : kd k = 1) (p5_ : wy k = op b) (p6_ : ∀ j, 0 ≤ j → j < k → wy j = wy k → wh j ≠ 0) (p7_ : ∀ v, ¬ F v) (p8_ : ∀ v, F2 v ↔ (W v ∧ sd v = (sd b) ∧ v ≠ b ∧ en v = 1)) (p9_ : om (sd b) = (ed b)) (p10_ : lv (sd b) < ll k) (p11_ : 0 ≤ lv (sd b)) (p12_ : ll k ≤ dl (sd b)) (p13_ : cl (td k) = ll k) (p14_ : ls k = 1 ∨ ls k = 2) (p15_ : st (sd b) = 2) (p16_ : tst (sd b) = -1) (p17_ : ∀ v, W v → sd v = (sd b) → pd v = 0) (p18_ : en (op b) = 1) (p19_ : en b = 1) (p20_ : ls k = 1 → ll k = dl (sd b)) (p21_ : ll k = dl (sd b) → td k = dn (sd b)) (p22_ : om (sd (op b)) = (ed b) → ls k = 1 ∧ td k = (ed b) ∧ cl (ed b) = ll k ∧ dl (sd (op b)) = ll k ∧ dn (sd (op b)) = (ed b) ∧ ((lv (sd (op b)) = dl (sd (op b)) ∧ ps (sd (op b)) = 0) ∨ (lv (sd (op b)) < dl (sd (op b)) ∧ ps (sd (op b)) = 1))) (p23_ : om (sd (op b)) ≠ (ed b) → ls k = 1 → st (sd (op b)) = 1 ∧ pd (op b) = 1) (p24_ : ∀ j, 0 ≤ j → j < nL → wh j ≠ 2 → kd j = 1 → wy j = op b → j ≠ k → ll k < ll j) (p25_ : ∀ j, 0 ≤ j → j < nL → wh j ≠ 2 → kd j = 0 → wy j ≠ op b) (p26_ : ∀ j, 0 ≤ j → j < nL → wh j ≠ 2 → kd j = 5 → wy j = op b → lv (sd b) < cl (ed b)) (p27_ : ∀ v, W v → sd v = (sd b) → ed v = td k → v = b ∧ ls k = 1) (p28_ : 0 ≤ nL) (cL5u : pj_L5u nL kd wy wh) (cR : pj_R W nL kd wy wh) : pj_L5u nL kd wy (pu wh k 2) := by
  obtain ⟨hop, hed⟩ := hG
  unfold pj_L5u pj_R at *
  intro j0 k0
  simp only [pu]
  have g0 := hop b
  have g1 := hop (wy j0)
  have g2 := hop (wy k0)
  have g3 := hed b (wy j0)
  have g4 := hed b (wy k0)
  have g5 := hed (wy j0) (wy k0)
  have cL5u_0 := cL5u k k
  have cL5u_1 := cL5u k j0
  have cL5u_2 := cL5u k k0
  have cL5u_3 := cL5u j0 k
  have cL5u_4 := cL5u j0 j0
  have cL5u_5 := cL5u j0 k0
  have cL5u_6 := cL5u k0 k
  have cL5u_7 := cL5u k0 j0
  have cL5u_8 := cL5u k0 k0
  have cR_0 := cR j0
  have cR_1 := cR k0
  have f0 := p6_ k
  have f1 := p6_ j0
  have f2 := p6_ k0
  have f3 := p7_ b
  have f4 := p7_ (wy j0)
  have f5 := p7_ (op (wy j0))
  have f6 := p7_ (wy k0)
  have f7 := p7_ (op (wy k0))
  have f8 := p7_ (op b)
  have f9 := p8_ b
  have f10 := p8_ (wy j0)
  have f11 := p8_ (op (wy j0))
  have f12 := p8_ (wy k0)
  have f13 := p8_ (op (wy k0))
  have f14 := p17_ b
  have f15 := p17_ (wy j0)
  have f16 := p17_ (op (wy j0))
  have f17 := p17_ (wy k0)
  have f18 := p17_ (op (wy k0))
  have f19 := p24_ k
  have f20 := p24_ j0
  have f21 := p24_ k0
  have f22 := p25_ k
  have f23 := p25_ j0
  have f24 := p25_ k0
  have f25 := p26_ k
  have f26 := p26_ j0
  have f27 := p26_ k0
  have f28 := p27_ b
  have f29 := p27_ (wy j0)
  have f30 := p27_ (op (wy j0))
  have f31 := p27_ (wy k0)
  have f32 := p27_ (op (wy k0))
  clear p6_ p7_ p8_ p17_ p24_ p25_ p26_ p27_
  clear hop hed cL5u cR
  grind (splits := 24)

set_option maxHeartbeats 1000000 in
theorem pt_bg_L6 {W : Int → Prop} {sd : Int → Int} {op : Int → Int} {ed : Int → Int} {st : Int → Int} {lv : Int → Int} {nm : Int → Int} {tow : Int → Int} {tst : Int → Int} {om : Int → Int} {ps : Int → Int} {dl : Int → Int} {dn : Int → Int} {en : Int → Int} {pd : Int → Int} {cl : Int → Int} {cw : Int → Int} {tk : Int → Int} {nL : Int} {kd : Int → Int} {wy : Int → Int} {ll : Int → Int} {td : Int → Int} {ls : Int → Int} {wh : Int → Int} {F : Int → Prop} {F2 : Int → Prop} {b k : Int} (hG : pj_G W sd op ed) (p0_ : W b) (p1_ : 0 ≤ k) (p2_ : k < nL) (p3_ : wh k ≠ 2) (p4_ : kd k = 1) (p5_ : wy k = op b) (p6_ : ∀ j, 0 ≤ j → j < k → wy j = wy k → wh j ≠ 0) (p7_ : ∀ v, ¬ F v) (p8_ : ∀ v, F2 v ↔ (W v ∧ sd v = (sd b) ∧ v ≠ b ∧ en v = 1)) (p9_ : om (sd b) = (ed b)) (p10_ : lv (sd b) < ll k) (p11_ : 0 ≤ lv (sd b)) (p12_ : ll k ≤ dl (sd b)) (p13_ : cl (td k) = ll k) (p14_ : ls k = 1 ∨ ls k = 2) (p15_ : st (sd b) = 2) (p16_ : tst (sd b) = -1) (p17_ : ∀ v, W v → sd v = (sd b) → pd v = 0) (p18_ : en (op b) = 1) (p19_ : en b = 1) (p20_ : ls k = 1 → ll k = dl (sd b)) (p21_ : ll k = dl (sd b) → td k = dn (sd b)) (p22_ : om (sd (op b)) = (ed b) → ls k = 1 ∧ td k = (ed b) ∧ cl (ed b) = ll k ∧ dl (sd (op b)) = ll k ∧ dn (sd (op b)) = (ed b) ∧ ((lv (sd (op b)) = dl (sd (op b)) ∧ ps (sd (op b)) = 0) ∨ (lv (sd (op b)) < dl (sd (op b)) ∧ ps (sd (op b)) = 1))) (p23_ : om (sd (op b)) ≠ (ed b) → ls k = 1 → st (sd (op b)) = 1 ∧ pd (op b) = 1) (p24_ : ∀ j, 0 ≤ j → j < nL → wh j ≠ 2 → kd j = 1 → wy j = op b → j ≠ k → ll k < ll j) (p25_ : ∀ j, 0 ≤ j → j < nL → wh j ≠ 2 → kd j = 0 → wy j ≠ op b) (p26_ : ∀ j, 0 ≤ j → j < nL → wh j ≠ 2 → kd j = 5 → wy j = op b → lv (sd b) < cl (ed b)) (p27_ : ∀ v, W v → sd v = (sd b) → ed v = td k → v = b ∧ ls k = 1) (p28_ : 0 ≤ nL) (cL6 : pj_L6 sd op ed st lv nm tow om ps dl cw tk nL kd wy wh) (cR : pj_R W nL kd wy wh) (cA2 : pj_A2 W sd op ed st lv nm om ps dl dn cl) (cC2 : pj_C2 lv nm dl dn cl) : pj_L6 sd op ed (pu st (sd b) (ls k)) (pu lv (sd b) (ll k)) (pu nm (sd b) (td k)) (pu tow (sd b) (-1)) om (pu ps (sd b) 0) dl cw tk nL kd wy (pu wh k 2) := by
  obtain ⟨hop, hed⟩ := hG
  unfold pj_L6 pj_R pj_A2 pj_C2 at *
  intro k0
  simp only [pu]
  have g0 := hop b
  have g1 := hop (wy k0)
  have g2 := hed b (wy k0)
  have cL6_0 := cL6 k
  have cL6_1 := cL6 k0
  have cR_0 := cR k0
  have cA2_0 := cA2 b
  have cA2_1 := cA2 (wy k0)
  have cA2_2 := cA2 (op (wy k0))
  have cC2_0 := cC2 (sd (op b))
  have cC2_1 := cC2 (sd b)
  have cC2_2 := cC2 (sd (wy k0))
  have cC2_3 := cC2 (sd (op (wy k0)))
  have f0 := p6_ k
  have f1 := p6_ k0
  have f2 := p7_ b
  have f3 := p7_ (wy k0)
  have f4 := p7_ (op (wy k0))
  have f5 := p7_ (op b)
  have f6 := p8_ b
  have f7 := p8_ (wy k0)
  have f8 := p8_ (op (wy k0))
  have f9 := p17_ b
  have f10 := p17_ (wy k0)
  have f11 := p17_ (op (wy k0))
  have f12 := p24_ k
  have f13 := p24_ k0
  have f14 := p25_ k
  have f15 := p25_ k0
  have f16 := p26_ k
  have f17 := p26_ k0
  have f18 := p27_ b
  have f19 := p27_ (wy k0)
  have f20 := p27_ (op (wy k0))
  clear p6_ p7_ p8_ p17_ p24_ p25_ p26_ p27_
  clear hop hed cL6 cR cA2 cC2
  grind (splits := 24)

set_option maxHeartbeats 1000000 in
theorem pt_bg_L6u {W : Int → Prop} {sd : Int → Int} {op : Int → Int} {ed : Int → Int} {st : Int → Int} {lv : Int → Int} {nm : Int → Int} {tow : Int → Int} {tst : Int → Int} {om : Int → Int} {ps : Int → Int} {dl : Int → Int} {dn : Int → Int} {en : Int → Int} {pd : Int → Int} {cl : Int → Int} {cw : Int → Int} {tk : Int → Int} {nL : Int} {kd : Int → Int} {wy : Int → Int} {ll : Int → Int} {td : Int → Int} {ls : Int → Int} {wh : Int → Int} {F : Int → Prop} {F2 : Int → Prop} {b k : Int} (hG : pj_G W sd op ed) (p0_ : W b) (p1_ : 0 ≤ k) (p2_ : k < nL) (p3_ : wh k ≠ 2) (p4_ : kd k = 1) (p5_ : wy k = op b) (p6_ : ∀ j, 0 ≤ j → j < k → wy j = wy k → wh j ≠ 0) (p7_ : ∀ v, ¬ F v) (p8_ : ∀ v, F2 v ↔ (W v ∧ sd v = (sd b) ∧ v ≠ b ∧ en v = 1)) (p9_ : om (sd b) = (ed b)) (p10_ : lv (sd b) < ll k) (p11_ : 0 ≤ lv (sd b)) (p12_ : ll k ≤ dl (sd b)) (p13_ : cl (td k) = ll k) (p14_ : ls k = 1 ∨ ls k = 2) (p15_ : st (sd b) = 2) (p16_ : tst (sd b) = -1) (p17_ : ∀ v, W v → sd v = (sd b) → pd v = 0) (p18_ : en (op b) = 1) (p19_ : en b = 1) (p20_ : ls k = 1 → ll k = dl (sd b)) (p21_ : ll k = dl (sd b) → td k = dn (sd b)) (p22_ : om (sd (op b)) = (ed b) → ls k = 1 ∧ td k = (ed b) ∧ cl (ed b) = ll k ∧ dl (sd (op b)) = ll k ∧ dn (sd (op b)) = (ed b) ∧ ((lv (sd (op b)) = dl (sd (op b)) ∧ ps (sd (op b)) = 0) ∨ (lv (sd (op b)) < dl (sd (op b)) ∧ ps (sd (op b)) = 1))) (p23_ : om (sd (op b)) ≠ (ed b) → ls k = 1 → st (sd (op b)) = 1 ∧ pd (op b) = 1) (p24_ : ∀ j, 0 ≤ j → j < nL → wh j ≠ 2 → kd j = 1 → wy j = op b → j ≠ k → ll k < ll j) (p25_ : ∀ j, 0 ≤ j → j < nL → wh j ≠ 2 → kd j = 0 → wy j ≠ op b) (p26_ : ∀ j, 0 ≤ j → j < nL → wh j ≠ 2 → kd j = 5 → wy j = op b → lv (sd b) < cl (ed b)) (p27_ : ∀ v, W v → sd v = (sd b) → ed v = td k → v = b ∧ ls k = 1) (p28_ : 0 ≤ nL) (cL6u : pj_L6u sd op nm nL kd wy wh) (cR : pj_R W nL kd wy wh) (cL6 : pj_L6 sd op ed st lv nm tow om ps dl cw tk nL kd wy wh) (cA2 : pj_A2 W sd op ed st lv nm om ps dl dn cl) (cC2 : pj_C2 lv nm dl dn cl) : pj_L6u sd op (pu nm (sd b) (td k)) nL kd wy (pu wh k 2) := by
  obtain ⟨hop, hed⟩ := hG
  unfold pj_L6u pj_R pj_L6 pj_A2 pj_C2 at *
  intro j0 k0
  simp only [pu]
  have g0 := hop b
  have g1 := hop (wy j0)
  have g2 := hop (wy k0)
  have g3 := hed b (wy j0)
  have g4 := hed b (wy k0)
  have g5 := hed (wy j0) (wy k0)
  have cL6u_0 := cL6u k k
  have cL6u_1 := cL6u k j0
  have cL6u_2 := cL6u k k0
  have cL6u_3 := cL6u j0 k
  have cL6u_4 := cL6u j0 j0
  have cL6u_5 := cL6u j0 k0
  have cL6u_6 := cL6u k0 k
  have cL6u_7 := cL6u k0 j0
  have cL6u_8 := cL6u k0 k0
  have cR_0 := cR j0
  have cR_1 := cR k0
  have cL6_0 := cL6 k
  have cL6_1 := cL6 j0
  have cL6_2 := cL6 k0
  have cA2_0 := cA2 b
  have cA2_1 := cA2 (wy j0)
  have cA2_2 := cA2 (op (wy j0))
  have cA2_3 := cA2 (wy k0)
  have cA2_4 := cA2 (op (wy k0))
  have cC2_0 := cC2 (sd (op b))
  have cC2_1 := cC2 (sd b)
  have cC2_2 := cC2 (sd (wy j0))
  have cC2_3 := cC2 (sd (op (wy j0)))
  have cC2_4 := cC2 (sd (wy k0))
  have cC2_5 := cC2 (sd (op (wy k0)))
  have f0 := p6_ k
  have f1 := p6_ j0
  have f2 := p6_ k0
  have f3 := p7_ b
  have f4 := p7_ (wy j0)
  have f5 := p7_ (op (wy j0))
  have f6 := p7_ (wy k0)
  have f7 := p7_ (op (wy k0))
  have f8 := p7_ (op b)
  have f9 := p8_ b
  have f10 := p8_ (wy j0)
  have f11 := p8_ (op (wy j0))
  have f12 := p8_ (wy k0)
  have f13 := p8_ (op (wy k0))
  have f14 := p17_ b
  have f15 := p17_ (wy j0)
  have f16 := p17_ (op (wy j0))
  have f17 := p17_ (wy k0)
  have f18 := p17_ (op (wy k0))
  have f19 := p24_ k
  have f20 := p24_ j0
  have f21 := p24_ k0
  have f22 := p25_ k
  have f23 := p25_ j0
  have f24 := p25_ k0
  have f25 := p26_ k
  have f26 := p26_ j0
  have f27 := p26_ k0
  have f28 := p27_ b
  have f29 := p27_ (wy j0)
  have f30 := p27_ (op (wy j0))
  have f31 := p27_ (wy k0)
  have f32 := p27_ (op (wy k0))
  clear p6_ p7_ p8_ p17_ p24_ p25_ p26_ p27_
  clear hop hed cL6u cR cL6 cA2 cC2
  grind (splits := 24)

theorem pj_bg {W : Int → Prop} {sd op ed : Int → Int} {li : Int → Int → Prop} {st lv nm inw tow bst tst exp om ps dl dn af c0 en pd rp rv fw cl cw tk kd wy ll td ls wh : Int → Int} {nL : Int} {F F2 : Int → Prop} {fl fc : Int} {b k : Int} (hG : pj_G W sd op ed) (p0_ : W b) (p1_ : 0 ≤ k) (p2_ : k < nL) (p3_ : wh k ≠ 2) (p4_ : kd k = 1) (p5_ : wy k = op b) (p6_ : ∀ j, 0 ≤ j → j < k → wy j = wy k → wh j ≠ 0) (p7_ : ∀ v, ¬ F v) (p8_ : ∀ v, F2 v ↔ (W v ∧ sd v = (sd b) ∧ v ≠ b ∧ en v = 1)) (p9_ : om (sd b) = (ed b)) (p10_ : lv (sd b) < ll k) (p11_ : 0 ≤ lv (sd b)) (p12_ : ll k ≤ dl (sd b)) (p13_ : cl (td k) = ll k) (p14_ : ls k = 1 ∨ ls k = 2) (p15_ : st (sd b) = 2) (p16_ : tst (sd b) = -1) (p17_ : ∀ v, W v → sd v = (sd b) → pd v = 0) (p18_ : en (op b) = 1) (p19_ : en b = 1) (p20_ : ls k = 1 → ll k = dl (sd b)) (p21_ : ll k = dl (sd b) → td k = dn (sd b)) (p22_ : om (sd (op b)) = (ed b) → ls k = 1 ∧ td k = (ed b) ∧ cl (ed b) = ll k ∧ dl (sd (op b)) = ll k ∧ dn (sd (op b)) = (ed b) ∧ ((lv (sd (op b)) = dl (sd (op b)) ∧ ps (sd (op b)) = 0) ∨ (lv (sd (op b)) < dl (sd (op b)) ∧ ps (sd (op b)) = 1))) (p23_ : om (sd (op b)) ≠ (ed b) → ls k = 1 → st (sd (op b)) = 1 ∧ pd (op b) = 1) (p24_ : ∀ j, 0 ≤ j → j < nL → wh j ≠ 2 → kd j = 1 → wy j = op b → j ≠ k → ll k < ll j) (p25_ : ∀ j, 0 ≤ j → j < nL → wh j ≠ 2 → kd j = 0 → wy j ≠ op b) (p26_ : ∀ j, 0 ≤ j → j < nL → wh j ≠ 2 → kd j = 5 → wy j = op b → lv (sd b) < cl (ed b)) (p27_ : ∀ v, W v → sd v = (sd b) → ed v = td k → v = b ∧ ls k = 1) (p28_ : 0 ≤ nL) (h : pj_J W sd op ed li st lv nm inw tow bst tst exp om ps dl dn af c0 en pd rp rv fw cl cw tk nL kd wy ll td ls wh F fl fc) : pj_J W sd op ed li (pu st (sd b) (ls k)) (pu lv (sd b) (ll k)) (pu nm (sd b) (td k)) (pu inw (sd b) (ed b)) (pu tow (sd b) (-1)) (pu bst (sd b) (-1)) tst exp om (pu ps (sd b) 0) dl dn (pu af (sd b) 0) c0 en pd rp rv fw cl cw tk nL kd wy ll td ls (pu wh k 2) (F2) (lv (sd b)) (nm (sd b)) := by
  obtain ⟨cR, cN0, cN1, cN1w, cER, cN1c, cN2, cN2e, cN2b, cN4e, cN4b, cN5, cN7, cN10, cN10e, cN13, cC1, cC2, cR3a, cE1, cU, cA1, cA2, cEC, cR3, cN11, cN12, cN3, cRJ, cFW, cPD, cCC, cCD, cRP, cRP1, cCR, cZ1, cZ0, cTK, cK2, cWH, cFI, cL0, cFC, cL0u, cOC, cCT, cL1, cL1e, cL1o, cL1b, cL1g, cL2, cL3, cL4, cAF, cRT, cCV, cL5, cL5o, cL5u, cL6, cL6u⟩ := h
  exact ⟨pt_bg_R hG p0_ p1_ p2_ p3_ p4_ p5_ p6_ p7_ p8_ p9_ p10_ p11_ p12_ p13_ p14_ p15_ p16_ p17_ p18_ p19_ p20_ p21_ p22_ p23_ p24_ p25_ p26_ p27_ p28_ cR, pt_bg_N0 hG p0_ p1_ p2_ p3_ p4_ p5_ p6_ p7_ p8_ p9_ p10_ p11_ p12_ p13_ p14_ p15_ p16_ p17_ p18_ p19_ p20_ p21_ p22_ p23_ p24_ p25_ p26_ p27_ p28_ cN0, pt_bg_N1 hG p0_ p1_ p2_ p3_ p4_ p5_ p6_ p7_ p8_ p9_ p10_ p11_ p12_ p13_ p14_ p15_ p16_ p17_ p18_ p19_ p20_ p21_ p22_ p23_ p24_ p25_ p26_ p27_ p28_ cN1, pt_bg_N1w hG p0_ p1_ p2_ p3_ p4_ p5_ p6_ p7_ p8_ p9_ p10_ p11_ p12_ p13_ p14_ p15_ p16_ p17_ p18_ p19_ p20_ p21_ p22_ p23_ p24_ p25_ p26_ p27_ p28_ cN1w, cER, pt_bg_N1c hG p0_ p1_ p2_ p3_ p4_ p5_ p6_ p7_ p8_ p9_ p10_ p11_ p12_ p13_ p14_ p15_ p16_ p17_ p18_ p19_ p20_ p21_ p22_ p23_ p24_ p25_ p26_ p27_ p28_ cN1c cR, cN2, cN2e, pt_bg_N2b hG p0_ p1_ p2_ p3_ p4_ p5_ p6_ p7_ p8_ p9_ p10_ p11_ p12_ p13_ p14_ p15_ p16_ p17_ p18_ p19_ p20_ p21_ p22_ p23_ p24_ p25_ p26_ p27_ p28_ cN2b, pt_bg_N4e hG p0_ p1_ p2_ p3_ p4_ p5_ p6_ p7_ p8_ p9_ p10_ p11_ p12_ p13_ p14_ p15_ p16_ p17_ p18_ p19_ p20_ p21_ p22_ p23_ p24_ p25_ p26_ p27_ p28_ cN4e, pt_bg_N4b hG p0_ p1_ p2_ p3_ p4_ p5_ p6_ p7_ p8_ p9_ p10_ p11_ p12_ p13_ p14_ p15_ p16_ p17_ p18_ p19_ p20_ p21_ p22_ p23_ p24_ p25_ p26_ p27_ p28_ cN4b, pt_bg_N5 hG p0_ p1_ p2_ p3_ p4_ p5_ p6_ p7_ p8_ p9_ p10_ p11_ p12_ p13_ p14_ p15_ p16_ p17_ p18_ p19_ p20_ p21_ p22_ p23_ p24_ p25_ p26_ p27_ p28_ cN5, pt_bg_N7 hG p0_ p1_ p2_ p3_ p4_ p5_ p6_ p7_ p8_ p9_ p10_ p11_ p12_ p13_ p14_ p15_ p16_ p17_ p18_ p19_ p20_ p21_ p22_ p23_ p24_ p25_ p26_ p27_ p28_ cN7, pt_bg_N10 hG p0_ p1_ p2_ p3_ p4_ p5_ p6_ p7_ p8_ p9_ p10_ p11_ p12_ p13_ p14_ p15_ p16_ p17_ p18_ p19_ p20_ p21_ p22_ p23_ p24_ p25_ p26_ p27_ p28_ cN10, pt_bg_N10e hG p0_ p1_ p2_ p3_ p4_ p5_ p6_ p7_ p8_ p9_ p10_ p11_ p12_ p13_ p14_ p15_ p16_ p17_ p18_ p19_ p20_ p21_ p22_ p23_ p24_ p25_ p26_ p27_ p28_ cN10e, pt_bg_N13 hG p0_ p1_ p2_ p3_ p4_ p5_ p6_ p7_ p8_ p9_ p10_ p11_ p12_ p13_ p14_ p15_ p16_ p17_ p18_ p19_ p20_ p21_ p22_ p23_ p24_ p25_ p26_ p27_ p28_ cN13, pt_bg_C1 hG p0_ p1_ p2_ p3_ p4_ p5_ p6_ p7_ p8_ p9_ p10_ p11_ p12_ p13_ p14_ p15_ p16_ p17_ p18_ p19_ p20_ p21_ p22_ p23_ p24_ p25_ p26_ p27_ p28_ cC1, pt_bg_C2 hG p0_ p1_ p2_ p3_ p4_ p5_ p6_ p7_ p8_ p9_ p10_ p11_ p12_ p13_ p14_ p15_ p16_ p17_ p18_ p19_ p20_ p21_ p22_ p23_ p24_ p25_ p26_ p27_ p28_ cC2, pt_bg_R3a hG p0_ p1_ p2_ p3_ p4_ p5_ p6_ p7_ p8_ p9_ p10_ p11_ p12_ p13_ p14_ p15_ p16_ p17_ p18_ p19_ p20_ p21_ p22_ p23_ p24_ p25_ p26_ p27_ p28_ cR3a, pt_bg_E1 hG p0_ p1_ p2_ p3_ p4_ p5_ p6_ p7_ p8_ p9_ p10_ p11_ p12_ p13_ p14_ p15_ p16_ p17_ p18_ p19_ p20_ p21_ p22_ p23_ p24_ p25_ p26_ p27_ p28_ cE1, pt_bg_U hG p0_ p1_ p2_ p3_ p4_ p5_ p6_ p7_ p8_ p9_ p10_ p11_ p12_ p13_ p14_ p15_ p16_ p17_ p18_ p19_ p20_ p21_ p22_ p23_ p24_ p25_ p26_ p27_ p28_ cU cC1 cN0, pt_bg_A1 hG p0_ p1_ p2_ p3_ p4_ p5_ p6_ p7_ p8_ p9_ p10_ p11_ p12_ p13_ p14_ p15_ p16_ p17_ p18_ p19_ p20_ p21_ p22_ p23_ p24_ p25_ p26_ p27_ p28_ cA1, pt_bg_A2 hG p0_ p1_ p2_ p3_ p4_ p5_ p6_ p7_ p8_ p9_ p10_ p11_ p12_ p13_ p14_ p15_ p16_ p17_ p18_ p19_ p20_ p21_ p22_ p23_ p24_ p25_ p26_ p27_ p28_ cA2, pt_bg_EC hG p0_ p1_ p2_ p3_ p4_ p5_ p6_ p7_ p8_ p9_ p10_ p11_ p12_ p13_ p14_ p15_ p16_ p17_ p18_ p19_ p20_ p21_ p22_ p23_ p24_ p25_ p26_ p27_ p28_ cEC cU cA2, pt_bg_R3 hG p0_ p1_ p2_ p3_ p4_ p5_ p6_ p7_ p8_ p9_ p10_ p11_ p12_ p13_ p14_ p15_ p16_ p17_ p18_ p19_ p20_ p21_ p22_ p23_ p24_ p25_ p26_ p27_ p28_ cR3, pt_bg_N11 hG p0_ p1_ p2_ p3_ p4_ p5_ p6_ p7_ p8_ p9_ p10_ p11_ p12_ p13_ p14_ p15_ p16_ p17_ p18_ p19_ p20_ p21_ p22_ p23_ p24_ p25_ p26_ p27_ p28_ cN11 cC1, pt_bg_N12 hG p0_ p1_ p2_ p3_ p4_ p5_ p6_ p7_ p8_ p9_ p10_ p11_ p12_ p13_ p14_ p15_ p16_ p17_ p18_ p19_ p20_ p21_ p22_ p23_ p24_ p25_ p26_ p27_ p28_ cN12, cN3, cRJ, cFW, pt_bg_PD hG p0_ p1_ p2_ p3_ p4_ p5_ p6_ p7_ p8_ p9_ p10_ p11_ p12_ p13_ p14_ p15_ p16_ p17_ p18_ p19_ p20_ p21_ p22_ p23_ p24_ p25_ p26_ p27_ p28_ cPD, cCC, cCD, pt_bg_RP hG p0_ p1_ p2_ p3_ p4_ p5_ p6_ p7_ p8_ p9_ p10_ p11_ p12_ p13_ p14_ p15_ p16_ p17_ p18_ p19_ p20_ p21_ p22_ p23_ p24_ p25_ p26_ p27_ p28_ cRP cRP1, pt_bg_RP1 hG p0_ p1_ p2_ p3_ p4_ p5_ p6_ p7_ p8_ p9_ p10_ p11_ p12_ p13_ p14_ p15_ p16_ p17_ p18_ p19_ p20_ p21_ p22_ p23_ p24_ p25_ p26_ p27_ p28_ cRP1, cCR, cZ1, cZ0, cTK, cK2, pt_bg_WH hG p0_ p1_ p2_ p3_ p4_ p5_ p6_ p7_ p8_ p9_ p10_ p11_ p12_ p13_ p14_ p15_ p16_ p17_ p18_ p19_ p20_ p21_ p22_ p23_ p24_ p25_ p26_ p27_ p28_ cWH cR, pt_bg_FI hG p0_ p1_ p2_ p3_ p4_ p5_ p6_ p7_ p8_ p9_ p10_ p11_ p12_ p13_ p14_ p15_ p16_ p17_ p18_ p19_ p20_ p21_ p22_ p23_ p24_ p25_ p26_ p27_ p28_ cFI cR, pt_bg_L0 hG p0_ p1_ p2_ p3_ p4_ p5_ p6_ p7_ p8_ p9_ p10_ p11_ p12_ p13_ p14_ p15_ p16_ p17_ p18_ p19_ p20_ p21_ p22_ p23_ p24_ p25_ p26_ p27_ p28_ cL0 cR cC1 cC2 cN0, pt_bg_FC hG p0_ p1_ p2_ p3_ p4_ p5_ p6_ p7_ p8_ p9_ p10_ p11_ p12_ p13_ p14_ p15_ p16_ p17_ p18_ p19_ p20_ p21_ p22_ p23_ p24_ p25_ p26_ p27_ p28_ cFC cR cL0 cA1 cC2, pt_bg_L0u hG p0_ p1_ p2_ p3_ p4_ p5_ p6_ p7_ p8_ p9_ p10_ p11_ p12_ p13_ p14_ p15_ p16_ p17_ p18_ p19_ p20_ p21_ p22_ p23_ p24_ p25_ p26_ p27_ p28_ cL0u cR, pt_bg_OC hG p0_ p1_ p2_ p3_ p4_ p5_ p6_ p7_ p8_ p9_ p10_ p11_ p12_ p13_ p14_ p15_ p16_ p17_ p18_ p19_ p20_ p21_ p22_ p23_ p24_ p25_ p26_ p27_ p28_ cOC cR, pt_bg_CT hG p0_ p1_ p2_ p3_ p4_ p5_ p6_ p7_ p8_ p9_ p10_ p11_ p12_ p13_ p14_ p15_ p16_ p17_ p18_ p19_ p20_ p21_ p22_ p23_ p24_ p25_ p26_ p27_ p28_ cCT cR, pt_bg_L1 hG p0_ p1_ p2_ p3_ p4_ p5_ p6_ p7_ p8_ p9_ p10_ p11_ p12_ p13_ p14_ p15_ p16_ p17_ p18_ p19_ p20_ p21_ p22_ p23_ p24_ p25_ p26_ p27_ p28_ cL1 cR, pt_bg_L1e hG p0_ p1_ p2_ p3_ p4_ p5_ p6_ p7_ p8_ p9_ p10_ p11_ p12_ p13_ p14_ p15_ p16_ p17_ p18_ p19_ p20_ p21_ p22_ p23_ p24_ p25_ p26_ p27_ p28_ cL1e cR, pt_bg_L1o hG p0_ p1_ p2_ p3_ p4_ p5_ p6_ p7_ p8_ p9_ p10_ p11_ p12_ p13_ p14_ p15_ p16_ p17_ p18_ p19_ p20_ p21_ p22_ p23_ p24_ p25_ p26_ p27_ p28_ cL1o cR, pt_bg_L1b hG p0_ p1_ p2_ p3_ p4_ p5_ p6_ p7_ p8_ p9_ p10_ p11_ p12_ p13_ p14_ p15_ p16_ p17_ p18_ p19_ p20_ p21_ p22_ p23_ p24_ p25_ p26_ p27_ p28_ cL1b cR, pt_bg_L1g hG p0_ p1_ p2_ p3_ p4_ p5_ p6_ p7_ p8_ p9_ p10_ p11_ p12_ p13_ p14_ p15_ p16_ p17_ p18_ p19_ p20_ p21_ p22_ p23_ p24_ p25_ p26_ p27_ p28_ cL1g cR, pt_bg_L2 hG p0_ p1_ p2_ p3_ p4_ p5_ p6_ p7_ p8_ p9_ p10_ p11_ p12_ p13_ p14_ p15_ p16_ p17_ p18_ p19_ p20_ p21_ p22_ p23_ p24_ p25_ p26_ p27_ p28_ cL2 cR, pt_bg_L3 hG p0_ p1_ p2_ p3_ p4_ p5_ p6_ p7_ p8_ p9_ p10_ p11_ p12_ p13_ p14_ p15_ p16_ p17_ p18_ p19_ p20_ p21_ p22_ p23_ p24_ p25_ p26_ p27_ p28_ cL3 cR cC1 cR3a, pt_bg_L4 hG p0_ p1_ p2_ p3_ p4_ p5_ p6_ p7_ p8_ p9_ p10_ p11_ p12_ p13_ p14_ p15_ p16_ p17_ p18_ p19_ p20_ p21_ p22_ p23_ p24_ p25_ p26_ p27_ p28_ cL4 cR, pt_bg_AF hG p0_ p1_ p2_ p3_ p4_ p5_ p6_ p7_ p8_ p9_ p10_ p11_ p12_ p13_ p14_ p15_ p16_ p17_ p18_ p19_ p20_ p21_ p22_ p23_ p24_ p25_ p26_ p27_ p28_ cAF, pt_bg_RT hG p0_ p1_ p2_ p3_ p4_ p5_ p6_ p7_ p8_ p9_ p10_ p11_ p12_ p13_ p14_ p15_ p16_ p17_ p18_ p19_ p20_ p21_ p22_ p23_ p24_ p25_ p26_ p27_ p28_ cRT cR, pt_bg_CV hG p0_ p1_ p2_ p3_ p4_ p5_ p6_ p7_ p8_ p9_ p10_ p11_ p12_ p13_ p14_ p15_ p16_ p17_ p18_ p19_ p20_ p21_ p22_ p23_ p24_ p25_ p26_ p27_ p28_ cCV cR, pt_bg_L5 hG p0_ p1_ p2_ p3_ p4_ p5_ p6_ p7_ p8_ p9_ p10_ p11_ p12_ p13_ p14_ p15_ p16_ p17_ p18_ p19_ p20_ p21_ p22_ p23_ p24_ p25_ p26_ p27_ p28_ cL5 cR cN13 cN5 cPD cN0 cRP1, pt_bg_L5o hG p0_ p1_ p2_ p3_ p4_ p5_ p6_ p7_ p8_ p9_ p10_ p11_ p12_ p13_ p14_ p15_ p16_ p17_ p18_ p19_ p20_ p21_ p22_ p23_ p24_ p25_ p26_ p27_ p28_ cL5o cR cL5 cN13 cN5 cPD cN0 cRP1 cL1, pt_bg_L5u hG p0_ p1_ p2_ p3_ p4_ p5_ p6_ p7_ p8_ p9_ p10_ p11_ p12_ p13_ p14_ p15_ p16_ p17_ p18_ p19_ p20_ p21_ p22_ p23_ p24_ p25_ p26_ p27_ p28_ cL5u cR, pt_bg_L6 hG p0_ p1_ p2_ p3_ p4_ p5_ p6_ p7_ p8_ p9_ p10_ p11_ p12_ p13_ p14_ p15_ p16_ p17_ p18_ p19_ p20_ p21_ p22_ p23_ p24_ p25_ p26_ p27_ p28_ cL6 cR cA2 cC2, pt_bg_L6u hG p0_ p1_ p2_ p3_ p4_ p5_ p6_ p7_ p8_ p9_ p10_ p11_ p12_ p13_ p14_ p15_ p16_ p17_ p18_ p19_ p20_ p21_ p22_ p23_ p24_ p25_ p26_ p27_ p28_ cL6u cR cL6 cA2 cC2⟩

set_option maxHeartbeats 1000000 in
theorem pt_ta_R {W : Int → Prop} {sd : Int → Int} {op : Int → Int} {ed : Int → Int} {st : Int → Int} {lv : Int → Int} {nm : Int → Int} {tst : Int → Int} {af : Int → Int} {en : Int → Int} {fw : Int → Int} {nL : Int} {kd : Int → Int} {wy : Int → Int} {ll : Int → Int} {td : Int → Int} {wh : Int → Int} {b k : Int} (hG : pj_G W sd op ed) (p0_ : W b) (p1_ : 0 ≤ k) (p2_ : k < nL) (p3_ : wh k ≠ 2) (p4_ : kd k = 2) (p5_ : wy k = op b) (p6_ : ∀ j, 0 ≤ j → j < k → wy j = wy k → wh j ≠ 0) (p7_ : tst (sd (op b)) = (ed b)) (p8_ : ll k = lv (sd (op b))) (p9_ : td k = nm (sd (op b))) (p10_ : st (sd (op b)) = 1) (p11_ : en b ≠ 2) (p12_ : fw b = 0) (p13_ : af (sd (op b)) = 0) (p14_ : nm (sd b) ≠ nm (sd (op b))) (p15_ : lv (sd (op b)) ≤ lv (sd b)) (p16_ : en (op b) = 0) (p17_ : st (sd b) ≠ 0) (p18_ : 0 ≤ nL) (cR : pj_R W nL kd wy wh) : pj_R W (nL + 1) (pu kd nL 3) (pu wy nL b) (pu (pu wh k 2) nL 0) := by
  obtain ⟨hop, hed⟩ := hG
  unfold pj_R at *
  intro k0
  simp only [pu]
  have g0 := hop b
  have g1 := hop (wy k0)
  have g2 := hed b (wy k0)
  have cR_0 := cR k
  have cR_1 := cR k0
  have f0 := p6_ k
  have f1 := p6_ k0
  clear p6_
  clear hop hed cR
  grind (splits := 24)

set_option maxHeartbeats 1000000 in
theorem pt_ta_N0 {W : Int → Prop} {sd : Int → Int} {op : Int → Int} {ed : Int → Int} {st : Int → Int} {lv : Int → Int} {nm : Int → Int} {tst : Int → Int} {ps : Int → Int} {dl : Int → Int} {af : Int → Int} {en : Int → Int} {fw : Int → Int} {nL : Int} {kd : Int → Int} {wy : Int → Int} {ll : Int → Int} {td : Int → Int} {wh : Int → Int} {b k : Int} (hG : pj_G W sd op ed) (p0_ : W b) (p1_ : 0 ≤ k) (p2_ : k < nL) (p3_ : wh k ≠ 2) (p4_ : kd k = 2) (p5_ : wy k = op b) (p6_ : ∀ j, 0 ≤ j → j < k → wy j = wy k → wh j ≠ 0) (p7_ : tst (sd (op b)) = (ed b)) (p8_ : ll k = lv (sd (op b))) (p9_ : td k = nm (sd (op b))) (p10_ : st (sd (op b)) = 1) (p11_ : en b ≠ 2) (p12_ : fw b = 0) (p13_ : af (sd (op b)) = 0) (p14_ : nm (sd b) ≠ nm (sd (op b))) (p15_ : lv (sd (op b)) ≤ lv (sd b)) (p16_ : en (op b) = 0) (p17_ : st (sd b) ≠ 0) (p18_ : 0 ≤ nL) (cN0 : pj_N0 st lv ps dl af) : pj_N0 st lv ps dl (pu af (sd (op b)) 1) := by
  obtain ⟨hop, hed⟩ := hG
  unfold pj_N0 at *
  intro n0
  simp only [pu]
  have g0 := hop b
  have cN0_0 := cN0 (sd (op b))
  have cN0_1 := cN0 n0
  have cN0_2 := cN0 (sd b)
  have f0 := p6_ k
  clear p6_
  clear hop hed cN0
  grind (splits := 24)

set_option maxHeartbeats 1000000 in
theorem pt_ta_N1c {W : Int → Prop} {sd : Int → Int} {op : Int → Int} {ed : Int → Int} {st : Int → Int} {lv : Int → Int} {nm : Int → Int} {tst : Int → Int} {af : Int → Int} {en : Int → Int} {fw : Int → Int} {nL : Int} {kd : Int → Int} {wy : Int → Int} {ll : Int → Int} {td : Int → Int} {wh : Int → Int} {b k : Int} (hG : pj_G W sd op ed) (p0_ : W b) (p1_ : 0 ≤ k) (p2_ : k < nL) (p3_ : wh k ≠ 2) (p4_ : kd k = 2) (p5_ : wy k = op b) (p6_ : ∀ j, 0 ≤ j → j < k → wy j = wy k → wh j ≠ 0) (p7_ : tst (sd (op b)) = (ed b)) (p8_ : ll k = lv (sd (op b))) (p9_ : td k = nm (sd (op b))) (p10_ : st (sd (op b)) = 1) (p11_ : en b ≠ 2) (p12_ : fw b = 0) (p13_ : af (sd (op b)) = 0) (p14_ : nm (sd b) ≠ nm (sd (op b))) (p15_ : lv (sd (op b)) ≤ lv (sd b)) (p16_ : en (op b) = 0) (p17_ : st (sd b) ≠ 0) (p18_ : 0 ≤ nL) (cN1c : pj_N1c sd op st nL wy wh) (cR : pj_R W nL kd wy wh) : pj_N1c sd op st (nL + 1) (pu wy nL b) (pu (pu wh k 2) nL 0) := by
  obtain ⟨hop, hed⟩ := hG
  unfold pj_N1c pj_R at *
  intro k0
  simp only [pu]
  have g0 := hop b
  have g1 := hop (wy k0)
  have g2 := hed b (wy k0)
  have cN1c_0 := cN1c k
  have cN1c_1 := cN1c k0
  have cR_0 := cR k0
  have f0 := p6_ k
  have f1 := p6_ k0
  clear p6_
  clear hop hed cN1c cR
  grind (splits := 24)

set_option maxHeartbeats 1000000 in
theorem pt_ta_E1 {W : Int → Prop} {sd : Int → Int} {op : Int → Int} {ed : Int → Int} {st : Int → Int} {lv : Int → Int} {nm : Int → Int} {tst : Int → Int} {dl : Int → Int} {af : Int → Int} {en : Int → Int} {fw : Int → Int} {nL : Int} {kd : Int → Int} {wy : Int → Int} {ll : Int → Int} {td : Int → Int} {wh : Int → Int} {b k : Int} (hG : pj_G W sd op ed) (p0_ : W b) (p1_ : 0 ≤ k) (p2_ : k < nL) (p3_ : wh k ≠ 2) (p4_ : kd k = 2) (p5_ : wy k = op b) (p6_ : ∀ j, 0 ≤ j → j < k → wy j = wy k → wh j ≠ 0) (p7_ : tst (sd (op b)) = (ed b)) (p8_ : ll k = lv (sd (op b))) (p9_ : td k = nm (sd (op b))) (p10_ : st (sd (op b)) = 1) (p11_ : en b ≠ 2) (p12_ : fw b = 0) (p13_ : af (sd (op b)) = 0) (p14_ : nm (sd b) ≠ nm (sd (op b))) (p15_ : lv (sd (op b)) ≤ lv (sd b)) (p16_ : en (op b) = 0) (p17_ : st (sd b) ≠ 0) (p18_ : 0 ≤ nL) (cE1 : pj_E1 sd op lv dl nL kd wy ll wh) : pj_E1 sd op lv dl (nL + 1) (pu kd nL 3) (pu wy nL b) (pu ll nL (-1)) (pu (pu wh k 2) nL 0) := by
  obtain ⟨hop, hed⟩ := hG
  unfold pj_E1 at *
  intro n0
  simp only [pu]
  have g0 := hop b
  have cE1_0 := cE1 (sd (op b))
  have cE1_1 := cE1 n0
  have cE1_2 := cE1 (sd b)
  have f0 := p6_ k
  clear p6_
  clear hop hed cE1
  grind (splits := 24)

set_option maxHeartbeats 1000000 in
theorem pt_ta_EC {W : Int → Prop} {sd : Int → Int} {op : Int → Int} {ed : Int → Int} {st : Int → Int} {lv : Int → Int} {nm : Int → Int} {tst : Int → Int} {om : Int → Int} {ps : Int → Int} {dl : Int → Int} {af : Int → Int} {en : Int → Int} {fw : Int → Int} {nL : Int} {kd : Int → Int} {wy : Int → Int} {ll : Int → Int} {td : Int → Int} {wh : Int → Int} {F : Int → Prop} {b k : Int} (hG : pj_G W sd op ed) (p0_ : W b) (p1_ : 0 ≤ k) (p2_ : k < nL) (p3_ : wh k ≠ 2) (p4_ : kd k = 2) (p5_ : wy k = op b) (p6_ : ∀ j, 0 ≤ j → j < k → wy j = wy k → wh j ≠ 0) (p7_ : tst (sd (op b)) = (ed b)) (p8_ : ll k = lv (sd (op b))) (p9_ : td k = nm (sd (op b))) (p10_ : st (sd (op b)) = 1) (p11_ : en b ≠ 2) (p12_ : fw b = 0) (p13_ : af (sd (op b)) = 0) (p14_ : nm (sd b) ≠ nm (sd (op b))) (p15_ : lv (sd (op b)) ≤ lv (sd b)) (p16_ : en (op b) = 0) (p17_ : st (sd b) ≠ 0) (p18_ : 0 ≤ nL) (cEC : pj_EC W sd op ed lv nm om ps dl nL kd wy wh F) : pj_EC W sd op ed lv nm om ps dl (nL + 1) (pu kd nL 3) (pu wy nL b) (pu (pu wh k 2) nL 0) F := by
  obtain ⟨hop, hed⟩ := hG
  unfold pj_EC at *
  intro w0
  simp only [pu]
  have g0 := hop b
  have g1 := hop w0
  have g2 := hed b w0
  have cEC_0 := cEC b
  have cEC_1 := cEC w0
  have cEC_2 := cEC (op w0)
  have f0 := p6_ k
  clear p6_
  clear hop hed cEC
  grind (splits := 24)

set_option maxHeartbeats 1000000 in
theorem pt_ta_WH {W : Int → Prop} {sd : Int → Int} {op : Int → Int} {ed : Int → Int} {st : Int → Int} {lv : Int → Int} {nm : Int → Int} {tst : Int → Int} {af : Int → Int} {en : Int → Int} {fw : Int → Int} {nL : Int} {kd : Int → Int} {wy : Int → Int} {ll : Int → Int} {td : Int → Int} {wh : Int → Int} {b k : Int} (hG : pj_G W sd op ed) (p0_ : W b) (p1_ : 0 ≤ k) (p2_ : k < nL) (p3_ : wh k ≠ 2) (p4_ : kd k = 2) (p5_ : wy k = op b) (p6_ : ∀ j, 0 ≤ j → j < k → wy j = wy k → wh j ≠ 0) (p7_ : tst (sd (op b)) = (ed b)) (p8_ : ll k = lv (sd (op b))) (p9_ : td k = nm (sd (op b))) (p10_ : st (sd (op b)) = 1) (p11_ : en b ≠ 2) (p12_ : fw b = 0) (p13_ : af (sd (op b)) = 0) (p14_ : nm (sd b) ≠ nm (sd (op b))) (p15_ : lv (sd (op b)) ≤ lv (sd b)) (p16_ : en (op b) = 0) (p17_ : st (sd b) ≠ 0) (p18_ : 0 ≤ nL) (cWH : pj_WH nL kd wh) (cR : pj_R W nL kd wy wh) : pj_WH (nL + 1) (pu kd nL 3) (pu (pu wh k 2) nL 0) := by
  obtain ⟨hop, hed⟩ := hG
  unfold pj_WH pj_R at *
  intro k0
  simp only [pu]
  have g0 := hop b
  have g1 := hop (wy k0)
  have g2 := hed b (wy k0)
  have cWH_0 := cWH k
  have cWH_1 := cWH k0
  have cR_0 := cR k0
  have f0 := p6_ k
  have f1 := p6_ k0
  clear p6_
  clear hop hed cWH cR
  grind (splits := 24)

set_option maxHeartbeats 1000000 in
theorem pt_ta_FI {W : Int → Prop} {sd : Int → Int} {op : Int → Int} {ed : Int → Int} {st : Int → Int} {lv : Int → Int} {nm : Int → Int} {tst : Int → Int} {af : Int → Int} {en : Int → Int} {fw : Int → Int} {nL : Int} {kd : Int → Int} {wy : Int → Int} {ll : Int → Int} {td : Int → Int} {wh : Int → Int} {b k : Int} (hG : pj_G W sd op ed) (p0_ : W b) (p1_ : 0 ≤ k) (p2_ : k < nL) (p3_ : wh k ≠ 2) (p4_ : kd k = 2) (p5_ : wy k = op b) (p6_ : ∀ j, 0 ≤ j → j < k → wy j = wy k → wh j ≠ 0) (p7_ : tst (sd (op b)) = (ed b)) (p8_ : ll k = lv (sd (op b))) (p9_ : td k = nm (sd (op b))) (p10_ : st (sd (op b)) = 1) (p11_ : en b ≠ 2) (p12_ : fw b = 0) (p13_ : af (sd (op b)) = 0) (p14_ : nm (sd b) ≠ nm (sd (op b))) (p15_ : lv (sd (op b)) ≤ lv (sd b)) (p16_ : en (op b) = 0) (p17_ : st (sd b) ≠ 0) (p18_ : 0 ≤ nL) (cFI : pj_FI nL wy wh) (cR : pj_R W nL kd wy wh) : pj_FI (nL + 1) (pu wy nL b) (pu (pu wh k 2) nL 0) := by
  obtain ⟨hop, hed⟩ := hG
  unfold pj_FI pj_R at *
  intro j0 k0
  simp only [pu]
  have g0 := hop b
  have g1 := hop (wy j0)
  have g2 := hop (wy k0)
  have g3 := hed b (wy j0)
  have g4 := hed b (wy k0)
  have g5 := hed (wy j0) (wy k0)
  have cFI_0 := cFI k k
  have cFI_1 := cFI k j0
  have cFI_2 := cFI k k0
  have cFI_3 := cFI j0 k
  have cFI_4 := cFI j0 j0
  have cFI_5 := cFI j0 k0
  have cFI_6 := cFI k0 k
  have cFI_7 := cFI k0 j0
  have cFI_8 := cFI k0 k0
  have cR_0 := cR j0
  have cR_1 := cR k0
  have f0 := p6_ k
  have f1 := p6_ j0
  have f2 := p6_ k0
  clear p6_
  clear hop hed cFI cR
  grind (splits := 24)

set_option maxHeartbeats 1000000 in
theorem pt_ta_L0 {W : Int → Prop} {sd : Int → Int} {op : Int → Int} {ed : Int → Int} {st : Int → Int} {lv : Int → Int} {nm : Int → Int} {tst : Int → Int} {om : Int → Int} {ps : Int → Int} {dl : Int → Int} {af : Int → Int} {c0 : Int → Int} {en : Int → Int} {fw : Int → Int} {cw : Int → Int} {nL : Int} {kd : Int → Int} {wy : Int → Int} {ll : Int → Int} {td : Int → Int} {wh : Int → Int} {b k : Int} (hG : pj_G W sd op ed) (p0_ : W b) (p1_ : 0 ≤ k) (p2_ : k < nL) (p3_ : wh k ≠ 2) (p4_ : kd k = 2) (p5_ : wy k = op b) (p6_ : ∀ j, 0 ≤ j → j < k → wy j = wy k → wh j ≠ 0) (p7_ : tst (sd (op b)) = (ed b)) (p8_ : ll k = lv (sd (op b))) (p9_ : td k = nm (sd (op b))) (p10_ : st (sd (op b)) = 1) (p11_ : en b ≠ 2) (p12_ : fw b = 0) (p13_ : af (sd (op b)) = 0) (p14_ : nm (sd b) ≠ nm (sd (op b))) (p15_ : lv (sd (op b)) ≤ lv (sd b)) (p16_ : en (op b) = 0) (p17_ : st (sd b) ≠ 0) (p18_ : 0 ≤ nL) (cL0 : pj_L0 sd op ed lv nm om ps dl c0 en cw nL kd wy ll wh) (cR : pj_R W nL kd wy wh) : pj_L0 sd op ed lv nm om ps dl c0 en cw (nL + 1) (pu kd nL 3) (pu wy nL b) (pu ll nL (-1)) (pu (pu wh k 2) nL 0) := by
  obtain ⟨hop, hed⟩ := hG
  unfold pj_L0 pj_R at *
  intro k0
  simp only [pu]
  have g0 := hop b
  have g1 := hop (wy k0)
  have g2 := hed b (wy k0)
  have cL0_0 := cL0 k
  have cL0_1 := cL0 k0
  have cR_0 := cR k0
  have f0 := p6_ k
  have f1 := p6_ k0
  clear p6_
  clear hop hed cL0 cR
  grind (splits := 24)

set_option maxHeartbeats 1000000 in
theorem pt_ta_FC {W : Int → Prop} {sd : Int → Int} {op : Int → Int} {ed : Int → Int} {st : Int → Int} {lv : Int → Int} {nm : Int → Int} {tst : Int → Int} {af : Int → Int} {en : Int → Int} {fw : Int → Int} {nL : Int} {kd : Int → Int} {wy : Int → Int} {ll : Int → Int} {td : Int → Int} {wh : Int → Int} {F : Int → Prop} {b k : Int} (hG : pj_G W sd op ed) (p0_ : W b) (p1_ : 0 ≤ k) (p2_ : k < nL) (p3_ : wh k ≠ 2) (p4_ : kd k = 2) (p5_ : wy k = op b) (p6_ : ∀ j, 0 ≤ j → j < k → wy j = wy k → wh j ≠ 0) (p7_ : tst (sd (op b)) = (ed b)) (p8_ : ll k = lv (sd (op b))) (p9_ : td k = nm (sd (op b))) (p10_ : st (sd (op b)) = 1) (p11_ : en b ≠ 2) (p12_ : fw b = 0) (p13_ : af (sd (op b)) = 0) (p14_ : nm (sd b) ≠ nm (sd (op b))) (p15_ : lv (sd (op b)) ≤ lv (sd b)) (p16_ : en (op b) = 0) (p17_ : st (sd b) ≠ 0) (p18_ : 0 ≤ nL) (cFC : pj_FC op nL kd wy wh F) (cR : pj_R W nL kd wy wh) : pj_FC op (nL + 1) (pu kd nL 3) (pu wy nL b) (pu (pu wh k 2) nL 0) F := by
  obtain ⟨hop, hed⟩ := hG
  unfold pj_FC pj_R at *
  intro k0
  simp only [pu]
  have g0 := hop b
  have g1 := hop (wy k0)
  have g2 := hed b (wy k0)
  have cFC_0 := cFC k
  have cFC_1 := cFC k0
  have cR_0 := cR k0
  have f0 := p6_ k
  have f1 := p6_ k0
  clear p6_
  clear hop hed cFC cR
  grind (splits := 24)

set_option maxHeartbeats 1000000 in
theorem pt_ta_L0u {W : Int → Prop} {sd : Int → Int} {op : Int → Int} {ed : Int → Int} {st : Int → Int} {lv : Int → Int} {nm : Int → Int} {tst : Int → Int} {af : Int → Int} {en : Int → Int} {fw : Int → Int} {nL : Int} {kd : Int → Int} {wy : Int → Int} {ll : Int → Int} {td : Int → Int} {wh : Int → Int} {b k : Int} (hG : pj_G W sd op ed) (p0_ : W b) (p1_ : 0 ≤ k) (p2_ : k < nL) (p3_ : wh k ≠ 2) (p4_ : kd k = 2) (p5_ : wy k = op b) (p6_ : ∀ j, 0 ≤ j → j < k → wy j = wy k → wh j ≠ 0) (p7_ : tst (sd (op b)) = (ed b)) (p8_ : ll k = lv (sd (op b))) (p9_ : td k = nm (sd (op b))) (p10_ : st (sd (op b)) = 1) (p11_ : en b ≠ 2) (p12_ : fw b = 0) (p13_ : af (sd (op b)) = 0) (p14_ : nm (sd b) ≠ nm (sd (op b))) (p15_ : lv (sd (op b)) ≤ lv (sd b)) (p16_ : en (op b) = 0) (p17_ : st (sd b) ≠ 0) (p18_ : 0 ≤ nL) (cL0u : pj_L0u nL kd wy wh) (cR : pj_R W nL kd wy wh) : pj_L0u (nL + 1) (pu kd nL 3) (pu wy nL b) (pu (pu wh k 2) nL 0) := by
  obtain ⟨hop, hed⟩ := hG
  unfold pj_L0u pj_R at *
  intro j0 k0
  simp only [pu]
  have g0 := hop b
  have g1 := hop (wy j0)
  have g2 := hop (wy k0)
  have g3 := hed b (wy j0)
  have g4 := hed b (wy k0)
  have g5 := hed (wy j0) (wy k0)
  have cL0u_0 := cL0u k k
  have cL0u_1 := cL0u k j0
  have cL0u_2 := cL0u k k0
  have cL0u_3 := cL0u j0 k
  have cL0u_4 := cL0u j0 j0
  have cL0u_5 := cL0u j0 k0
  have cL0u_6 := cL0u k0 k
  have cL0u_7 := cL0u k0 j0
  have cL0u_8 := cL0u k0 k0
  have cR_0 := cR j0
  have cR_1 := cR k0
  have f0 := p6_ k
  have f1 := p6_ j0
  have f2 := p6_ k0
  clear p6_
  clear hop hed cL0u cR
  grind (splits := 24)

set_option maxHeartbeats 1000000 in
theorem pt_ta_OC {W : Int → Prop} {sd : Int → Int} {op : Int → Int} {ed : Int → Int} {st : Int → Int} {lv : Int → Int} {nm : Int → Int} {tst : Int → Int} {af : Int → Int} {en : Int → Int} {fw : Int → Int} {nL : Int} {kd : Int → Int} {wy : Int → Int} {ll : Int → Int} {td : Int → Int} {wh : Int → Int} {b k : Int} (hG : pj_G W sd op ed) (p0_ : W b) (p1_ : 0 ≤ k) (p2_ : k < nL) (p3_ : wh k ≠ 2) (p4_ : kd k = 2) (p5_ : wy k = op b) (p6_ : ∀ j, 0 ≤ j → j < k → wy j = wy k → wh j ≠ 0) (p7_ : tst (sd (op b)) = (ed b)) (p8_ : ll k = lv (sd (op b))) (p9_ : td k = nm (sd (op b))) (p10_ : st (sd (op b)) = 1) (p11_ : en b ≠ 2) (p12_ : fw b = 0) (p13_ : af (sd (op b)) = 0) (p14_ : nm (sd b) ≠ nm (sd (op b))) (p15_ : lv (sd (op b)) ≤ lv (sd b)) (p16_ : en (op b) = 0) (p17_ : st (sd b) ≠ 0) (p18_ : 0 ≤ nL) (cOC : pj_OC nL kd wy wh) (cR : pj_R W nL kd wy wh) : pj_OC (nL + 1) (pu kd nL 3) (pu wy nL b) (pu (pu wh k 2) nL 0) := by
  obtain ⟨hop, hed⟩ := hG
  unfold pj_OC pj_R at *
  intro j0 k0
  simp only [pu]
  have g0 := hop b
  have g1 := hop (wy j0)
  have g2 := hop (wy k0)
  have g3 := hed b (wy j0)
  have g4 := hed b (wy k0)
  have g5 := hed (wy j0) (wy k0)
  have cOC_0 := cOC k k
  have cOC_1 := cOC k j0
  have cOC_2 := cOC k k0
  have cOC_3 := cOC j0 k
  have cOC_4 := cOC j0 j0
  have cOC_5 := cOC j0 k0
  have cOC_6 := cOC k0 k
  have cOC_7 := cOC k0 j0
  have cOC_8 := cOC k0 k0
  have cR_0 := cR j0
  have cR_1 := cR k0
  have f0 := p6_ k
  have f1 := p6_ j0
  have f2 := p6_ k0
  clear p6_
  clear hop hed cOC cR
  grind (splits := 24)

set_option maxHeartbeats 1000000 in
theorem pt_ta_CT {W : Int → Prop} {sd : Int → Int} {op : Int → Int} {ed : Int → Int} {st : Int → Int} {lv : Int → Int} {nm : Int → Int} {tst : Int → Int} {af : Int → Int} {en : Int → Int} {fw : Int → Int} {nL : Int} {kd : Int → Int} {wy : Int → Int} {ll : Int → Int} {td : Int → Int} {wh : Int → Int} {b k : Int} (hG : pj_G W sd op ed) (p0_ : W b) (p1_ : 0 ≤ k) (p2_ : k < nL) (p3_ : wh k ≠ 2) (p4_ : kd k = 2) (p5_ : wy k = op b) (p6_ : ∀ j, 0 ≤ j → j < k → wy j = wy k → wh j ≠ 0) (p7_ : tst (sd (op b)) = (ed b)) (p8_ : ll k = lv (sd (op b))) (p9_ : td k = nm (sd (op b))) (p10_ : st (sd (op b)) = 1) (p11_ : en b ≠ 2) (p12_ : fw b = 0) (p13_ : af (sd (op b)) = 0) (p14_ : nm (sd b) ≠ nm (sd (op b))) (p15_ : lv (sd (op b)) ≤ lv (sd b)) (p16_ : en (op b) = 0) (p17_ : st (sd b) ≠ 0) (p18_ : 0 ≤ nL) (cCT : pj_CT nL kd wy wh) (cR : pj_R W nL kd wy wh) : pj_CT (nL + 1) (pu kd nL 3) (pu wy nL b) (pu (pu wh k 2) nL 0) := by
  obtain ⟨hop, hed⟩ := hG
  unfold pj_CT pj_R at *
  intro j0 k0
  simp only [pu]
  have g0 := hop b
  have g1 := hop (wy j0)
  have g2 := hop (wy k0)
  have g3 := hed b (wy j0)
  have g4 := hed b (wy k0)
  have g5 := hed (wy j0) (wy k0)
  have cCT_0 := cCT k k
  have cCT_1 := cCT k j0
  have cCT_2 := cCT k k0
  have cCT_3 := cCT j0 k
  have cCT_4 := cCT j0 j0
  have cCT_5 := cCT j0 k0
  have cCT_6 := cCT k0 k
  have cCT_7 := cCT k0 j0
  have cCT_8 := cCT k0 k0
  have cR_0 := cR j0
  have cR_1 := cR k0
  have f0 := p6_ k
  have f1 := p6_ j0
  have f2 := p6_ k0
  clear p6_
  clear hop hed cCT cR
  grind (splits := 24)

set_option maxHeartbeats 1000000 in
theorem pt_ta_L1 {W : Int → Prop} {sd : Int → Int} {op : Int → Int} {ed : Int → Int} {st : Int → Int} {lv : Int → Int} {nm : Int → Int} {tst : Int → Int} {om : Int → Int} {dl : Int → Int} {af : Int → Int} {en : Int → Int} {fw : Int → Int} {cl : Int → Int} {nL : Int} {kd : Int → Int} {wy : Int → Int} {ll : Int → Int} {td : Int → Int} {ls : Int → Int} {wh : Int → Int} {b k : Int} (hG : pj_G W sd op ed) (p0_ : W b) (p1_ : 0 ≤ k) (p2_ : k < nL) (p3_ : wh k ≠ 2) (p4_ : kd k = 2) (p5_ : wy k = op b) (p6_ : ∀ j, 0 ≤ j → j < k → wy j = wy k → wh j ≠ 0) (p7_ : tst (sd (op b)) = (ed b)) (p8_ : ll k = lv (sd (op b))) (p9_ : td k = nm (sd (op b))) (p10_ : st (sd (op b)) = 1) (p11_ : en b ≠ 2) (p12_ : fw b = 0) (p13_ : af (sd (op b)) = 0) (p14_ : nm (sd b) ≠ nm (sd (op b))) (p15_ : lv (sd (op b)) ≤ lv (sd b)) (p16_ : en (op b) = 0) (p17_ : st (sd b) ≠ 0) (p18_ : 0 ≤ nL) (cL1 : pj_L1 sd op ed st lv om dl en cl nL kd wy ll td ls wh) (cR : pj_R W nL kd wy wh) : pj_L1 sd op ed st lv om dl en cl (nL + 1) (pu kd nL 3) (pu wy nL b) (pu ll nL (-1)) (pu td nL (-1)) (pu ls nL (-1)) (pu (pu wh k 2) nL 0) := by
  obtain ⟨hop, hed⟩ := hG
  unfold pj_L1 pj_R at *
  intro k0
  simp only [pu]
  have g0 := hop b
  have g1 := hop (wy k0)
  have g2 := hed b (wy k0)
  have cL1_0 := cL1 k
  have cL1_1 := cL1 k0
  have cR_0 := cR k0
  have f0 := p6_ k
  have f1 := p6_ k0
  clear p6_
  clear hop hed cL1 cR
  grind (splits := 24)

set_option maxHeartbeats 1000000 in
theorem pt_ta_L1e {W : Int → Prop} {sd : Int → Int} {op : Int → Int} {ed : Int → Int} {st : Int → Int} {lv : Int → Int} {nm : Int → Int} {tst : Int → Int} {dl : Int → Int} {dn : Int → Int} {af : Int → Int} {en : Int → Int} {fw : Int → Int} {nL : Int} {kd : Int → Int} {wy : Int → Int} {ll : Int → Int} {td : Int → Int} {ls : Int → Int} {wh : Int → Int} {b k : Int} (hG : pj_G W sd op ed) (p0_ : W b) (p1_ : 0 ≤ k) (p2_ : k < nL) (p3_ : wh k ≠ 2) (p4_ : kd k = 2) (p5_ : wy k = op b) (p6_ : ∀ j, 0 ≤ j → j < k → wy j = wy k → wh j ≠ 0) (p7_ : tst (sd (op b)) = (ed b)) (p8_ : ll k = lv (sd (op b))) (p9_ : td k = nm (sd (op b))) (p10_ : st (sd (op b)) = 1) (p11_ : en b ≠ 2) (p12_ : fw b = 0) (p13_ : af (sd (op b)) = 0) (p14_ : nm (sd b) ≠ nm (sd (op b))) (p15_ : lv (sd (op b)) ≤ lv (sd b)) (p16_ : en (op b) = 0) (p17_ : st (sd b) ≠ 0) (p18_ : 0 ≤ nL) (cL1e : pj_L1e sd op dl dn nL kd wy ll td ls wh) (cR : pj_R W nL kd wy wh) : pj_L1e sd op dl dn (nL + 1) (pu kd nL 3) (pu wy nL b) (pu ll nL (-1)) (pu td nL (-1)) (pu ls nL (-1)) (pu (pu wh k 2) nL 0) := by
  obtain ⟨hop, hed⟩ := hG
  unfold pj_L1e pj_R at *
  intro k0
  simp only [pu]
  have g0 := hop b
  have g1 := hop (wy k0)
  have g2 := hed b (wy k0)
  have cL1e_0 := cL1e k
  have cL1e_1 := cL1e k0
  have cR_0 := cR k0
  have f0 := p6_ k
  have f1 := p6_ k0
  clear p6_
  clear hop hed cL1e cR
  grind (splits := 24)

set_option maxHeartbeats 1000000 in
theorem pt_ta_L1o {W : Int → Prop} {sd : Int → Int} {op : Int → Int} {ed : Int → Int} {st : Int → Int} {lv : Int → Int} {nm : Int → Int} {tst : Int → Int} {af : Int → Int} {en : Int → Int} {fw : Int → Int} {nL : Int} {kd : Int → Int} {wy : Int → Int} {ll : Int → Int} {td : Int → Int} {wh : Int → Int} {b k : Int} (hG : pj_G W sd op ed) (p0_ : W b) (p1_ : 0 ≤ k) (p2_ : k < nL) (p3_ : wh k ≠ 2) (p4_ : kd k = 2) (p5_ : wy k = op b) (p6_ : ∀ j, 0 ≤ j → j < k → wy j = wy k → wh j ≠ 0) (p7_ : tst (sd (op b)) = (ed b)) (p8_ : ll k = lv (sd (op b))) (p9_ : td k = nm (sd (op b))) (p10_ : st (sd (op b)) = 1) (p11_ : en b ≠ 2) (p12_ : fw b = 0) (p13_ : af (sd (op b)) = 0) (p14_ : nm (sd b) ≠ nm (sd (op b))) (p15_ : lv (sd (op b)) ≤ lv (sd b)) (p16_ : en (op b) = 0) (p17_ : st (sd b) ≠ 0) (p18_ : 0 ≤ nL) (cL1o : pj_L1o nL kd wy ll wh) (cR : pj_R W nL kd wy wh) : pj_L1o (nL + 1) (pu kd nL 3) (pu wy nL b) (pu ll nL (-1)) (pu (pu wh k 2) nL 0) := by
  obtain ⟨hop, hed⟩ := hG
  unfold pj_L1o pj_R at *
  intro j0 k0
  simp only [pu]
  have g0 := hop b
  have g1 := hop (wy j0)
  have g2 := hop (wy k0)
  have g3 := hed b (wy j0)
  have g4 := hed b (wy k0)
  have g5 := hed (wy j0) (wy k0)
  have cL1o_0 := cL1o k k
  have cL1o_1 := cL1o k j0
  have cL1o_2 := cL1o k k0
  have cL1o_3 := cL1o j0 k
  have cL1o_4 := cL1o j0 j0
  have cL1o_5 := cL1o j0 k0
  have cL1o_6 := cL1o k0 k
  have cL1o_7 := cL1o k0 j0
  have cL1o_8 := cL1o k0 k0
  have cR_0 := cR j0
  have cR_1 := cR k0
  have f0 := p6_ k
  have f1 := p6_ j0
  have f2 := p6_ k0
  clear p6_
  clear hop hed cL1o cR
  grind (splits := 24)

set_option maxHeartbeats 1000000 in
theorem pt_ta_L1b {W : Int → Prop} {sd : Int → Int} {op : Int → Int} {ed : Int → Int} {st : Int → Int} {lv : Int → Int} {nm : Int → Int} {tst : Int → Int} {om : Int → Int} {af : Int → Int} {en : Int → Int} {pd : Int → Int} {fw : Int → Int} {nL : Int} {kd : Int → Int} {wy : Int → Int} {ll : Int → Int} {td : Int → Int} {ls : Int → Int} {wh : Int → Int} {b k : Int} (hG : pj_G W sd op ed) (p0_ : W b) (p1_ : 0 ≤ k) (p2_ : k < nL) (p3_ : wh k ≠ 2) (p4_ : kd k = 2) (p5_ : wy k = op b) (p6_ : ∀ j, 0 ≤ j → j < k → wy j = wy k → wh j ≠ 0) (p7_ : tst (sd (op b)) = (ed b)) (p8_ : ll k = lv (sd (op b))) (p9_ : td k = nm (sd (op b))) (p10_ : st (sd (op b)) = 1) (p11_ : en b ≠ 2) (p12_ : fw b = 0) (p13_ : af (sd (op b)) = 0) (p14_ : nm (sd b) ≠ nm (sd (op b))) (p15_ : lv (sd (op b)) ≤ lv (sd b)) (p16_ : en (op b) = 0) (p17_ : st (sd b) ≠ 0) (p18_ : 0 ≤ nL) (cL1b : pj_L1b sd ed st om pd nL kd wy td ls wh) (cR : pj_R W nL kd wy wh) : pj_L1b sd ed st om pd (nL + 1) (pu kd nL 3) (pu wy nL b) (pu td nL (-1)) (pu ls nL (-1)) (pu (pu wh k 2) nL 0) := by
  obtain ⟨hop, hed⟩ := hG
  unfold pj_L1b pj_R at *
  intro k0
  simp only [pu]
  have g0 := hop b
  have g1 := hop (wy k0)
  have g2 := hed b (wy k0)
  have cL1b_0 := cL1b k
  have cL1b_1 := cL1b k0
  have cR_0 := cR k0
  have f0 := p6_ k
  have f1 := p6_ k0
  clear p6_
  clear hop hed cL1b cR
  grind (splits := 24)

set_option maxHeartbeats 1000000 in
theorem pt_ta_L1g {W : Int → Prop} {sd : Int → Int} {op : Int → Int} {ed : Int → Int} {st : Int → Int} {lv : Int → Int} {nm : Int → Int} {tst : Int → Int} {af : Int → Int} {en : Int → Int} {fw : Int → Int} {nL : Int} {kd : Int → Int} {wy : Int → Int} {ll : Int → Int} {td : Int → Int} {ls : Int → Int} {wh : Int → Int} {b k : Int} (hG : pj_G W sd op ed) (p0_ : W b) (p1_ : 0 ≤ k) (p2_ : k < nL) (p3_ : wh k ≠ 2) (p4_ : kd k = 2) (p5_ : wy k = op b) (p6_ : ∀ j, 0 ≤ j → j < k → wy j = wy k → wh j ≠ 0) (p7_ : tst (sd (op b)) = (ed b)) (p8_ : ll k = lv (sd (op b))) (p9_ : td k = nm (sd (op b))) (p10_ : st (sd (op b)) = 1) (p11_ : en b ≠ 2) (p12_ : fw b = 0) (p13_ : af (sd (op b)) = 0) (p14_ : nm (sd b) ≠ nm (sd (op b))) (p15_ : lv (sd (op b)) ≤ lv (sd b)) (p16_ : en (op b) = 0) (p17_ : st (sd b) ≠ 0) (p18_ : 0 ≤ nL) (cL1g : pj_L1g W sd op ed nL kd wy td ls wh) (cR : pj_R W nL kd wy wh) : pj_L1g W sd op ed (nL + 1) (pu kd nL 3) (pu wy nL b) (pu td nL (-1)) (pu ls nL (-1)) (pu (pu wh k 2) nL 0) := by
  obtain ⟨hop, hed⟩ := hG
  unfold pj_L1g pj_R at *
  intro k0 v0
  simp only [pu]
  have g0 := hop b
  have g1 := hop (wy k0)
  have g2 := hop v0
  have g3 := hed b (wy k0)
  have g4 := hed b v0
  have g5 := hed (wy k0) v0
  have cL1g_0 := cL1g k b
  have cL1g_1 := cL1g k (wy k0)
  have cL1g_2 := cL1g k (op (wy k0))
  have cL1g_3 := cL1g k v0
  have cL1g_4 := cL1g k (op v0)
  have cL1g_5 := cL1g k0 b
  have cL1g_6 := cL1g k0 (wy k0)
  have cL1g_7 := cL1g k0 (op (wy k0))
  have cL1g_8 := cL1g k0 v0
  have cL1g_9 := cL1g k0 (op v0)
  have cR_0 := cR k0
  have f0 := p6_ k
  have f1 := p6_ k0
  clear p6_
  clear hop hed cL1g cR
  grind (splits := 24)

set_option maxHeartbeats 1000000 in
theorem pt_ta_L2 {W : Int → Prop} {sd : Int → Int} {op : Int → Int} {ed : Int → Int} {st : Int → Int} {lv : Int → Int} {nm : Int → Int} {tst : Int → Int} {af : Int → Int} {en : Int → Int} {fw : Int → Int} {nL : Int} {kd : Int → Int} {wy : Int → Int} {ll : Int → Int} {td : Int → Int} {wh : Int → Int} {b k : Int} (hG : pj_G W sd op ed) (p0_ : W b) (p1_ : 0 ≤ k) (p2_ : k < nL) (p3_ : wh k ≠ 2) (p4_ : kd k = 2) (p5_ : wy k = op b) (p6_ : ∀ j, 0 ≤ j → j < k → wy j = wy k → wh j ≠ 0) (p7_ : tst (sd (op b)) = (ed b)) (p8_ : ll k = lv (sd (op b))) (p9_ : td k = nm (sd (op b))) (p10_ : st (sd (op b)) = 1) (p11_ : en b ≠ 2) (p12_ : fw b = 0) (p13_ : af (sd (op b)) = 0) (p14_ : nm (sd b) ≠ nm (sd (op b))) (p15_ : lv (sd (op b)) ≤ lv (sd b)) (p16_ : en (op b) = 0) (p17_ : st (sd b) ≠ 0) (p18_ : 0 ≤ nL) (cR : pj_R W nL kd wy wh) (cCV : pj_CV W sd op ed tst nL kd wy wh) (cL3 : pj_L3 sd op ed st lv nm tst en fw nL kd wy wh) (cL4 : pj_L4 sd op ed st tst en nL kd wy wh) (cL2 : pj_L2 sd op ed st lv nm tst en fw nL kd wy ll td wh) : pj_L2 sd op ed st lv nm tst en fw (nL + 1) (pu kd nL 3) (pu wy nL b) (pu ll nL (-1)) (pu td nL (-1)) (pu (pu wh k 2) nL 0) := by
  obtain ⟨hop, hed⟩ := hG
  unfold pj_R pj_CV pj_L3 pj_L4 pj_L2 at *
  intro k0
  simp only [pu]
  have g0 := hop b
  have g1 := hop (wy k0)
  have g2 := hed b (wy k0)
  have cR_0 := cR k0
  have cCV_0 := cCV b k0 k
  have cCV_1 := cCV (op b) k0 k
  have cL3_0 := cL3 k0
  have cL4_0 := cL4 k0
  have cL2_0 := cL2 k0
  have f0 := p6_ k
  have f1 := p6_ k0
  clear p6_
  clear hop hed cR cCV cL3 cL4 cL2
  grind (splits := 24)

set_option maxHeartbeats 1000000 in
theorem pt_ta_L3 {W : Int → Prop} {sd : Int → Int} {op : Int → Int} {ed : Int → Int} {st : Int → Int} {lv : Int → Int} {nm : Int → Int} {tst : Int → Int} {af : Int → Int} {en : Int → Int} {fw : Int → Int} {nL : Int} {kd : Int → Int} {wy : Int → Int} {ll : Int → Int} {td : Int → Int} {wh : Int → Int} {b k : Int} (hG : pj_G W sd op ed) (p0_ : W b) (p1_ : 0 ≤ k) (p2_ : k < nL) (p3_ : wh k ≠ 2) (p4_ : kd k = 2) (p5_ : wy k = op b) (p6_ : ∀ j, 0 ≤ j → j < k → wy j = wy k → wh j ≠ 0) (p7_ : tst (sd (op b)) = (ed b)) (p8_ : ll k = lv (sd (op b))) (p9_ : td k = nm (sd (op b))) (p10_ : st (sd (op b)) = 1) (p11_ : en b ≠ 2) (p12_ : fw b = 0) (p13_ : af (sd (op b)) = 0) (p14_ : nm (sd b) ≠ nm (sd (op b))) (p15_ : lv (sd (op b)) ≤ lv (sd b)) (p16_ : en (op b) = 0) (p17_ : st (sd b) ≠ 0) (p18_ : 0 ≤ nL) (cR : pj_R W nL kd wy wh) (cCV : pj_CV W sd op ed tst nL kd wy wh) (cL3 : pj_L3 sd op ed st lv nm tst en fw nL kd wy wh) (cL4 : pj_L4 sd op ed st tst en nL kd wy wh) (cL2 : pj_L2 sd op ed st lv nm tst en fw nL kd wy ll td wh) : pj_L3 sd op ed st lv nm tst en fw (nL + 1) (pu kd nL 3) (pu wy nL b) (pu (pu wh k 2) nL 0) := by
  obtain ⟨hop, hed⟩ := hG
  unfold pj_R pj_CV pj_L3 pj_L4 pj_L2 at *
  intro k0
  simp only [pu]
  have g0 := hop b
  have g1 := hop (wy k0)
  have g2 := hed b (wy k0)
  have cR_0 := cR k0
  have cCV_0 := cCV b k0 k
  have cCV_1 := cCV (op b) k0 k
  have cL3_0 := cL3 k0
  have cL4_0 := cL4 k0
  have cL2_0 := cL2 k0
  have f0 := p6_ k
  have f1 := p6_ k0
  clear p6_
  clear hop hed cR cCV cL3 cL4 cL2
  grind (splits := 24)

set_option maxHeartbeats 1000000 in
theorem pt_ta_L4 {W : Int → Prop} {sd : Int → Int} {op : Int → Int} {ed : Int → Int} {st : Int → Int} {lv : Int → Int} {nm : Int → Int} {tst : Int → Int} {af : Int → Int} {en : Int → Int} {fw : Int → Int} {nL : Int} {kd : Int → Int} {wy : Int → Int} {ll : Int → Int} {td : Int → Int} {wh : Int → Int} {b k : Int} (hG : pj_G W sd op ed) (p0_ : W b) (p1_ : 0 ≤ k) (p2_ : k < nL) (p3_ : wh k ≠ 2) (p4_ : kd k = 2) (p5_ : wy k = op b) (p6_ : ∀ j, 0 ≤ j → j < k → wy j = wy k → wh j ≠ 0) (p7_ : tst (sd (op b)) = (ed b)) (p8_ : ll k = lv (sd (op b))) (p9_ : td k = nm (sd (op b))) (p10_ : st (sd (op b)) = 1) (p11_ : en b ≠ 2) (p12_ : fw b = 0) (p13_ : af (sd (op b)) = 0) (p14_ : nm (sd b) ≠ nm (sd (op b))) (p15_ : lv (sd (op b)) ≤ lv (sd b)) (p16_ : en (op b) = 0) (p17_ : st (sd b) ≠ 0) (p18_ : 0 ≤ nL) (cR : pj_R W nL kd wy wh) (cCV : pj_CV W sd op ed tst nL kd wy wh) (cL3 : pj_L3 sd op ed st lv nm tst en fw nL kd wy wh) (cL4 : pj_L4 sd op ed st tst en nL kd wy wh) (cL2 : pj_L2 sd op ed st lv nm tst en fw nL kd wy ll td wh) : pj_L4 sd op ed st tst en (nL + 1) (pu kd nL 3) (pu wy nL b) (pu (pu wh k 2) nL 0) := by
  obtain ⟨hop, hed⟩ := hG
  unfold pj_R pj_CV pj_L3 pj_L4 pj_L2 at *
  intro k0
  simp only [pu]
  have g0 := hop b
  have g1 := hop (wy k0)
  have g2 := hed b (wy k0)
  have cR_0 := cR k0
  have cCV_0 := cCV b k0 k
  have cCV_1 := cCV (op b) k0 k
  have cL3_0 := cL3 k0
  have cL4_0 := cL4 k0
  have cL2_0 := cL2 k0
  have f0 := p6_ k
  have f1 := p6_ k0
  clear p6_
  clear hop hed cR cCV cL3 cL4 cL2
  grind (splits := 24)

set_option maxHeartbeats 1000000 in
theorem pt_ta_AF {W : Int → Prop} {sd : Int → Int} {op : Int → Int} {ed : Int → Int} {st : Int → Int} {lv : Int → Int} {nm : Int → Int} {tst : Int → Int} {af : Int → Int} {en : Int → Int} {fw : Int → Int} {nL : Int} {kd : Int → Int} {wy : Int → Int} {ll : Int → Int} {td : Int → Int} {wh : Int → Int} {b k : Int} (hG : pj_G W sd op ed) (p0_ : W b) (p1_ : 0 ≤ k) (p2_ : k < nL) (p3_ : wh k ≠ 2) (p4_ : kd k = 2) (p5_ : wy k = op b) (p6_ : ∀ j, 0 ≤ j → j < k → wy j = wy k → wh j ≠ 0) (p7_ : tst (sd (op b)) = (ed b)) (p8_ : ll k = lv (sd (op b))) (p9_ : td k = nm (sd (op b))) (p10_ : st (sd (op b)) = 1) (p11_ : en b ≠ 2) (p12_ : fw b = 0) (p13_ : af (sd (op b)) = 0) (p14_ : nm (sd b) ≠ nm (sd (op b))) (p15_ : lv (sd (op b)) ≤ lv (sd b)) (p16_ : en (op b) = 0) (p17_ : st (sd b) ≠ 0) (p18_ : 0 ≤ nL) (cAF : pj_AF W sd op ed tst af nL kd wy wh) : pj_AF W sd op ed tst (pu af (sd (op b)) 1) (nL + 1) (pu kd nL 3) (pu wy nL b) (pu (pu wh k 2) nL 0) := by
  obtain ⟨hop, hed⟩ := hG
  unfold pj_AF at *
  intro v0
  simp only [pu]
  have g0 := hop b
  have g1 := hop v0
  have g2 := hed b v0
  have cAF_0 := cAF v0
  have f0 := p6_ k
  clear p6_
  clear hop hed cAF
  intro h1 h2
  by_cases hq : v0 = op b
  · right; exact ⟨nL, by grind⟩
  · rcases cAF_0 h1 h2 with h3 | ⟨k1, hk⟩
    · left; grind
    · right; exact ⟨k1, by grind⟩

set_option maxHeartbeats 1000000 in
theorem pt_ta_RT {W : Int → Prop} {sd : Int → Int} {op : Int → Int} {ed : Int → Int} {st : Int → Int} {lv : Int → Int} {nm : Int → Int} {tst : Int → Int} {af : Int → Int} {en : Int → Int} {fw : Int → Int} {nL : Int} {kd : Int → Int} {wy : Int → Int} {ll : Int → Int} {td : Int → Int} {wh : Int → Int} {b k : Int} (hG : pj_G W sd op ed) (p0_ : W b) (p1_ : 0 ≤ k) (p2_ : k < nL) (p3_ : wh k ≠ 2) (p4_ : kd k = 2) (p5_ : wy k = op b) (p6_ : ∀ j, 0 ≤ j → j < k → wy j = wy k → wh j ≠ 0) (p7_ : tst (sd (op b)) = (ed b)) (p8_ : ll k = lv (sd (op b))) (p9_ : td k = nm (sd (op b))) (p10_ : st (sd (op b)) = 1) (p11_ : en b ≠ 2) (p12_ : fw b = 0) (p13_ : af (sd (op b)) = 0) (p14_ : nm (sd b) ≠ nm (sd (op b))) (p15_ : lv (sd (op b)) ≤ lv (sd b)) (p16_ : en (op b) = 0) (p17_ : st (sd b) ≠ 0) (p18_ : 0 ≤ nL) (cRT : pj_RT sd ed tst nL kd wy wh) (cR : pj_R W nL kd wy wh) (cCV : pj_CV W sd op ed tst nL kd wy wh) (cL2 : pj_L2 sd op ed st lv nm tst en fw nL kd wy ll td wh) (cL4 : pj_L4 sd op ed st tst en nL kd wy wh) : pj_RT sd ed tst (nL + 1) (pu kd nL 3) (pu wy nL b) (pu (pu wh k 2) nL 0) := by
  obtain ⟨hop, hed⟩ := hG
  unfold pj_RT pj_R pj_CV pj_L2 pj_L4 at *
  intro j0 k0
  simp only [pu]
  have g0 := hop b
  have g1 := hop (wy j0)
  have g2 := hop (wy k0)
  have g3 := hed b (wy j0)
  have g4 := hed b (wy k0)
  have g5 := hed (wy j0) (wy k0)
  have cRT_0 := cRT k k
  have cRT_1 := cRT k j0
  have cRT_2 := cRT k k0
  have cRT_3 := cRT j0 k
  have cRT_4 := cRT j0 j0
  have cRT_5 := cRT j0 k0
  have cRT_6 := cRT k0 k
  have cRT_7 := cRT k0 j0
  have cRT_8 := cRT k0 k0
  have cR_0 := cR j0
  have cR_1 := cR k0
  have cCV_0 := cCV b j0 k
  have cCV_1 := cCV (op b) j0 k
  have cCV_2 := cCV b k0 k
  have cCV_3 := cCV (op b) k0 k
  have cL2_0 := cL2 k
  have cL2_1 := cL2 j0
  have cL2_2 := cL2 k0
  have cL4_0 := cL4 k
  have cL4_1 := cL4 j0
  have cL4_2 := cL4 k0
  have f0 := p6_ k
  have f1 := p6_ j0
  have f2 := p6_ k0
  clear p6_
  clear hop hed cRT cR cCV cL2 cL4
  grind (splits := 24)

set_option maxHeartbeats 1000000 in
theorem pt_ta_CV {W : Int → Prop} {sd : Int → Int} {op : Int → Int} {ed : Int → Int} {st : Int → Int} {lv : Int → Int} {nm : Int → Int} {tst : Int → Int} {af : Int → Int} {en : Int → Int} {fw : Int → Int} {nL : Int} {kd : Int → Int} {wy : Int → Int} {ll : Int → Int} {td : Int → Int} {wh : Int → Int} {b k : Int} (hG : pj_G W sd op ed) (p0_ : W b) (p1_ : 0 ≤ k) (p2_ : k < nL) (p3_ : wh k ≠ 2) (p4_ : kd k = 2) (p5_ : wy k = op b) (p6_ : ∀ j, 0 ≤ j → j < k → wy j = wy k → wh j ≠ 0) (p7_ : tst (sd (op b)) = (ed b)) (p8_ : ll k = lv (sd (op b))) (p9_ : td k = nm (sd (op b))) (p10_ : st (sd (op b)) = 1) (p11_ : en b ≠ 2) (p12_ : fw b = 0) (p13_ : af (sd (op b)) = 0) (p14_ : nm (sd b) ≠ nm (sd (op b))) (p15_ : lv (sd (op b)) ≤ lv (sd b)) (p16_ : en (op b) = 0) (p17_ : st (sd b) ≠ 0) (p18_ : 0 ≤ nL) (cR : pj_R W nL kd wy wh) (cCV : pj_CV W sd op ed tst nL kd wy wh) : pj_CV W sd op ed tst (nL + 1) (pu kd nL 3) (pu wy nL b) (pu (pu wh k 2) nL 0) := by
  obtain ⟨hop, hed⟩ := hG
  unfold pj_R pj_CV at *
  intro v0 j0 k0
  simp only [pu]
  have g0 := hop b
  have g1 := hop v0
  have g2 := hop (wy j0)
  have g3 := hop (wy k0)
  have g4 := hed b v0
  have g5 := hed b (wy j0)
  have g6 := hed b (wy k0)
  have g7 := hed v0 (wy j0)
  have g8 := hed v0 (wy k0)
  have g9 := hed (wy j0) (wy k0)
  have cR_0 := cR j0
  have cR_1 := cR k0
  have cCV_0 := cCV v0 j0 k0
  have cCV_1 := cCV b j0 k
  have cCV_2 := cCV b k0 k
  have cCV_3 := cCV (op b) j0 k
  have cCV_4 := cCV (op b) k0 k
  have f0 := p6_ k
  have f1 := p6_ j0
  have f2 := p6_ k0
  clear p6_
  clear hop hed cR cCV
  grind (splits := 24)

set_option maxHeartbeats 1000000 in
theorem pt_ta_L5 {W : Int → Prop} {sd : Int → Int} {op : Int → Int} {ed : Int → Int} {st : Int → Int} {lv : Int → Int} {nm : Int → Int} {inw : Int → Int} {bst : Int → Int} {tst : Int → Int} {om : Int → Int} {ps : Int → Int} {dl : Int → Int} {af : Int → Int} {en : Int → Int} {pd : Int → Int} {rp : Int → Int} {rv : Int → Int} {fw : Int → Int} {cl : Int → Int} {tk : Int → Int} {nL : Int} {kd : Int → Int} {wy : Int → Int} {ll : Int → Int} {td : Int → Int} {wh : Int → Int} {b k : Int} (hG : pj_G W sd op ed) (p0_ : W b) (p1_ : 0 ≤ k) (p2_ : k < nL) (p3_ : wh k ≠ 2) (p4_ : kd k = 2) (p5_ : wy k = op b) (p6_ : ∀ j, 0 ≤ j → j < k → wy j = wy k → wh j ≠ 0) (p7_ : tst (sd (op b)) = (ed b)) (p8_ : ll k = lv (sd (op b))) (p9_ : td k = nm (sd (op b))) (p10_ : st (sd (op b)) = 1) (p11_ : en b ≠ 2) (p12_ : fw b = 0) (p13_ : af (sd (op b)) = 0) (p14_ : nm (sd b) ≠ nm (sd (op b))) (p15_ : lv (sd (op b)) ≤ lv (sd b)) (p16_ : en (op b) = 0) (p17_ : st (sd b) ≠ 0) (p18_ : 0 ≤ nL) (cL5 : pj_L5 sd op ed st lv nm inw bst om ps dl pd rp rv cl tk nL kd wy td wh) (cR : pj_R W nL kd wy wh) : pj_L5 sd op ed st lv nm inw bst om ps dl pd rp rv cl tk (nL + 1) (pu kd nL 3) (pu wy nL b) (pu td nL (-1)) (pu (pu wh k 2) nL 0) := by
  obtain ⟨hop, hed⟩ := hG
  unfold pj_L5 pj_R at *
  intro k0
  simp only [pu]
  have g0 := hop b
  have g1 := hop (wy k0)
  have g2 := hed b (wy k0)
  have cL5_0 := cL5 k
  have cL5_1 := cL5 k0
  have cR_0 := cR k0
  have f0 := p6_ k
  have f1 := p6_ k0
  clear p6_
  clear hop hed cL5 cR
  grind (splits := 24)

set_option maxHeartbeats 1000000 in
theorem pt_ta_L5o {W : Int → Prop} {sd : Int → Int} {op : Int → Int} {ed : Int → Int} {st : Int → Int} {lv : Int → Int} {nm : Int → Int} {tst : Int → Int} {af : Int → Int} {en : Int → Int} {fw : Int → Int} {cl : Int → Int} {nL : Int} {kd : Int → Int} {wy : Int → Int} {ll : Int → Int} {td : Int → Int} {wh : Int → Int} {b k : Int} (hG : pj_G W sd op ed) (p0_ : W b) (p1_ : 0 ≤ k) (p2_ : k < nL) (p3_ : wh k ≠ 2) (p4_ : kd k = 2) (p5_ : wy k = op b) (p6_ : ∀ j, 0 ≤ j → j < k → wy j = wy k → wh j ≠ 0) (p7_ : tst (sd (op b)) = (ed b)) (p8_ : ll k = lv (sd (op b))) (p9_ : td k = nm (sd (op b))) (p10_ : st (sd (op b)) = 1) (p11_ : en b ≠ 2) (p12_ : fw b = 0) (p13_ : af (sd (op b)) = 0) (p14_ : nm (sd b) ≠ nm (sd (op b))) (p15_ : lv (sd (op b)) ≤ lv (sd b)) (p16_ : en (op b) = 0) (p17_ : st (sd b) ≠ 0) (p18_ : 0 ≤ nL) (cL5o : pj_L5o sd op ed lv cl nL kd wy wh) (cR : pj_R W nL kd wy wh) : pj_L5o sd op ed lv cl (nL + 1) (pu kd nL 3) (pu wy nL b) (pu (pu wh k 2) nL 0) := by
  obtain ⟨hop, hed⟩ := hG
  unfold pj_L5o pj_R at *
  intro j0 k0
  simp only [pu]
  have g0 := hop b
  have g1 := hop (wy j0)
  have g2 := hop (wy k0)
  have g3 := hed b (wy j0)
  have g4 := hed b (wy k0)
  have g5 := hed (wy j0) (wy k0)
  have cL5o_0 := cL5o k k
  have cL5o_1 := cL5o k j0
  have cL5o_2 := cL5o k k0
  have cL5o_3 := cL5o j0 k
  have cL5o_4 := cL5o j0 j0
  have cL5o_5 := cL5o j0 k0
  have cL5o_6 := cL5o k0 k
  have cL5o_7 := cL5o k0 j0
  have cL5o_8 := cL5o k0 k0
  have cR_0 := cR j0
  have cR_1 := cR k0
  have f0 := p6_ k
  have f1 := p6_ j0
  have f2 := p6_ k0
  clear p6_
  clear hop hed cL5o cR
  grind (splits := 24)

set_option maxHeartbeats 1000000 in
theorem pt_ta_L5u {W : Int → Prop} {sd : Int → Int} {op : Int → Int} {ed : Int → Int} {st : Int → Int} {lv : Int → Int} {nm : Int → Int} {tst : Int → Int} {af : Int → Int} {en : Int → Int} {fw : Int → Int} {nL : Int} {kd : Int → Int} {wy : Int → Int} {ll : Int → Int} {td : Int → Int} {wh : Int → Int} {b k : Int} (hG : pj_G W sd op ed) (p0_ : W b) (p1_ : 0 ≤ k) (p2_ : k < nL) (p3_ : wh k ≠ 2) (p4_ : kd k = 2) (p5_ : wy k = op b) (p6_ : ∀ j, 0 ≤ j → j < k → wy j = wy k → wh j ≠ 0) (p7_ : tst (sd (op b)) = (ed b)) (p8_ : ll k = lv (sd (op b))) (p9_ : td k = nm (sd (op b))) (p10_ : st (sd (op b)) = 1) (p11_ : en b ≠ 2) (p12_ : fw b = 0) (p13_ : af (sd (op b)) = 0) (p14_ : nm (sd b) ≠ nm (sd (op b))) (p15_ : lv (sd (op b)) ≤ lv (sd b)) (p16_ : en (op b) = 0) (p17_ : st (sd b) ≠ 0) (p18_ : 0 ≤ nL) (cL5u : pj_L5u nL kd wy wh) (cR : pj_R W nL kd wy wh) : pj_L5u (nL + 1) (pu kd nL 3) (pu wy nL b) (pu (pu wh k 2) nL 0) := by
  obtain ⟨hop, hed⟩ := hG
  unfold pj_L5u pj_R at *
  intro j0 k0
  simp only [pu]
  have g0 := hop b
  have g1 := hop (wy j0)
  have g2 := hop (wy k0)
  have g3 := hed b (wy j0)
  have g4 := hed b (wy k0)
  have g5 := hed (wy j0) (wy k0)
  have cL5u_0 := cL5u k k
  have cL5u_1 := cL5u k j0
  have cL5u_2 := cL5u k k0
  have cL5u_3 := cL5u j0 k
  have cL5u_4 := cL5u j0 j0
  have cL5u_5 := cL5u j0 k0
  have cL5u_6 := cL5u k0 k
  have cL5u_7 := cL5u k0 j0
  have cL5u_8 := cL5u k0 k0
  have cR_0 := cR j0
  have cR_1 := cR k0
  have f0 := p6_ k
  have f1 := p6_ j0
  have f2 := p6_ k0
  clear p6_
  clear hop hed cL5u cR
  grind (splits := 24)

set_option maxHeartbeats 1000000 in
theorem pt_ta_L6 {W : Int → Prop} {sd : Int → Int} {op : Int → Int} {ed : Int → Int} {st : Int → Int} {lv : Int → Int} {nm : Int → Int} {tow : Int → Int} {tst : Int → Int} {om : Int → Int} {ps : Int → Int} {dl : Int → Int} {af : Int → Int} {en : Int → Int} {fw : Int → Int} {cw : Int → Int} {tk : Int → Int} {nL : Int} {kd : Int → Int} {wy : Int → Int} {ll : Int → Int} {td : Int → Int} {wh : Int → Int} {b k : Int} (hG : pj_G W sd op ed) (p0_ : W b) (p1_ : 0 ≤ k) (p2_ : k < nL) (p3_ : wh k ≠ 2) (p4_ : kd k = 2) (p5_ : wy k = op b) (p6_ : ∀ j, 0 ≤ j → j < k → wy j = wy k → wh j ≠ 0) (p7_ : tst (sd (op b)) = (ed b)) (p8_ : ll k = lv (sd (op b))) (p9_ : td k = nm (sd (op b))) (p10_ : st (sd (op b)) = 1) (p11_ : en b ≠ 2) (p12_ : fw b = 0) (p13_ : af (sd (op b)) = 0) (p14_ : nm (sd b) ≠ nm (sd (op b))) (p15_ : lv (sd (op b)) ≤ lv (sd b)) (p16_ : en (op b) = 0) (p17_ : st (sd b) ≠ 0) (p18_ : 0 ≤ nL) (cL6 : pj_L6 sd op ed st lv nm tow om ps dl cw tk nL kd wy wh) (cR : pj_R W nL kd wy wh) : pj_L6 sd op ed st lv nm tow om ps dl cw tk (nL + 1) (pu kd nL 3) (pu wy nL b) (pu (pu wh k 2) nL 0) := by
  obtain ⟨hop, hed⟩ := hG
  unfold pj_L6 pj_R at *
  intro k0
  simp only [pu]
  have g0 := hop b
  have g1 := hop (wy k0)
  have g2 := hed b (wy k0)
  have cL6_0 := cL6 k
  have cL6_1 := cL6 k0
  have cR_0 := cR k0
  have f0 := p6_ k
  have f1 := p6_ k0
  clear p6_
  clear hop hed cL6 cR
  grind (splits := 24)

set_option maxHeartbeats 1000000 in
theorem pt_ta_L6u {W : Int → Prop} {sd : Int → Int} {op : Int → Int} {ed : Int → Int} {st : Int → Int} {lv : Int → Int} {nm : Int → Int} {tst : Int → Int} {af : Int → Int} {en : Int → Int} {fw : Int → Int} {nL : Int} {kd : Int → Int} {wy : Int → Int} {ll : Int → Int} {td : Int → Int} {wh : Int → Int} {b k : Int} (hG : pj_G W sd op ed) (p0_ : W b) (p1_ : 0 ≤ k) (p2_ : k < nL) (p3_ : wh k ≠ 2) (p4_ : kd k = 2) (p5_ : wy k = op b) (p6_ : ∀ j, 0 ≤ j → j < k → wy j = wy k → wh j ≠ 0) (p7_ : tst (sd (op b)) = (ed b)) (p8_ : ll k = lv (sd (op b))) (p9_ : td k = nm (sd (op b))) (p10_ : st (sd (op b)) = 1) (p11_ : en b ≠ 2) (p12_ : fw b = 0) (p13_ : af (sd (op b)) = 0) (p14_ : nm (sd b) ≠ nm (sd (op b))) (p15_ : lv (sd (op b)) ≤ lv (sd b)) (p16_ : en (op b) = 0) (p17_ : st (sd b) ≠ 0) (p18_ : 0 ≤ nL) (cL6u : pj_L6u sd op nm nL kd wy wh) (cR : pj_R W nL kd wy wh) : pj_L6u sd op nm (nL + 1) (pu kd nL 3) (pu wy nL b) (pu (pu wh k 2) nL 0) := by
  obtain ⟨hop, hed⟩ := hG
  unfold pj_L6u pj_R at *
  intro j0 k0
  simp only [pu]
  have g0 := hop b
  have g1 := hop (wy j0)
  have g2 := hop (wy k0)
  have g3 := hed b (wy j0)
  have g4 := hed b (wy k0)
  have g5 := hed (wy j0) (wy k0)
  have cL6u_0 := cL6u k k
  have cL6u_1 := cL6u k j0
  have cL6u_2 := cL6u k k0
  have cL6u_3 := cL6u j0 k
  have cL6u_4 := cL6u j0 j0
  have cL6u_5 := cL6u j0 k0
  have cL6u_6 := cL6u k0 k
  have cL6u_7 := cL6u k0 j0
  have cL6u_8 := cL6u k0 k0
  have cR_0 := cR j0
  have cR_1 := cR k0
  have f0 := p6_ k
  have f1 := p6_ j0
  have f2 := p6_ k0
  clear p6_
  clear hop hed cL6u cR
  grind (splits := 24)

theorem pj_ta {W : Int → Prop} {sd op ed : Int → Int} {li : Int → Int → Prop} {st lv nm inw tow bst tst exp om ps dl dn af c0 en pd rp rv fw cl cw tk kd wy ll td ls wh : Int → Int} {nL : Int} {F F2 : Int → Prop} {fl fc : Int} {b k : Int} (hG : pj_G W sd op ed) (p0_ : W b) (p1_ : 0 ≤ k) (p2_ : k < nL) (p3_ : wh k ≠ 2) (p4_ : kd k = 2) (p5_ : wy k = op b) (p6_ : ∀ j, 0 ≤ j → j < k → wy j = wy k → wh j ≠ 0) (p7_ : tst (sd (op b)) = (ed b)) (p8_ : ll k = lv (sd (op b))) (p9_ : td k = nm (sd (op b))) (p10_ : st (sd (op b)) = 1) (p11_ : en b ≠ 2) (p12_ : fw b = 0) (p13_ : af (sd (op b)) = 0) (p14_ : nm (sd b) ≠ nm (sd (op b))) (p15_ : lv (sd (op b)) ≤ lv (sd b)) (p16_ : en (op b) = 0) (p17_ : st (sd b) ≠ 0) (p18_ : 0 ≤ nL) (h : pj_J W sd op ed li st lv nm inw tow bst tst exp om ps dl dn af c0 en pd rp rv fw cl cw tk nL kd wy ll td ls wh F fl fc) : pj_J W sd op ed li st lv nm inw tow bst tst exp om ps dl dn (pu af (sd (op b)) 1) c0 en pd rp rv fw cl cw tk (nL + 1) (pu kd nL 3) (pu wy nL b) (pu ll nL (-1)) (pu td nL (-1)) (pu ls nL (-1)) (pu (pu wh k 2) nL 0) F fl fc := by
  obtain ⟨cR, cN0, cN1, cN1w, cER, cN1c, cN2, cN2e, cN2b, cN4e, cN4b, cN5, cN7, cN10, cN10e, cN13, cC1, cC2, cR3a, cE1, cU, cA1, cA2, cEC, cR3, cN11, cN12, cN3, cRJ, cFW, cPD, cCC, cCD, cRP, cRP1, cCR, cZ1, cZ0, cTK, cK2, cWH, cFI, cL0, cFC, cL0u, cOC, cCT, cL1, cL1e, cL1o, cL1b, cL1g, cL2, cL3, cL4, cAF, cRT, cCV, cL5, cL5o, cL5u, cL6, cL6u⟩ := h
  exact ⟨pt_ta_R hG p0_ p1_ p2_ p3_ p4_ p5_ p6_ p7_ p8_ p9_ p10_ p11_ p12_ p13_ p14_ p15_ p16_ p17_ p18_ cR, pt_ta_N0 hG p0_ p1_ p2_ p3_ p4_ p5_ p6_ p7_ p8_ p9_ p10_ p11_ p12_ p13_ p14_ p15_ p16_ p17_ p18_ cN0, cN1, cN1w, cER, pt_ta_N1c hG p0_ p1_ p2_ p3_ p4_ p5_ p6_ p7_ p8_ p9_ p10_ p11_ p12_ p13_ p14_ p15_ p16_ p17_ p18_ cN1c cR, cN2, cN2e, cN2b, cN4e, cN4b, cN5, cN7, cN10, cN10e, cN13, cC1, cC2, cR3a, pt_ta_E1 hG p0_ p1_ p2_ p3_ p4_ p5_ p6_ p7_ p8_ p9_ p10_ p11_ p12_ p13_ p14_ p15_ p16_ p17_ p18_ cE1, cU, cA1, cA2, pt_ta_EC hG p0_ p1_ p2_ p3_ p4_ p5_ p6_ p7_ p8_ p9_ p10_ p11_ p12_ p13_ p14_ p15_ p16_ p17_ p18_ cEC, cR3, cN11, cN12, cN3, cRJ, cFW, cPD, cCC, cCD, cRP, cRP1, cCR, cZ1, cZ0, cTK, cK2, pt_ta_WH hG p0_ p1_ p2_ p3_ p4_ p5_ p6_ p7_ p8_ p9_ p10_ p11_ p12_ p13_ p14_ p15_ p16_ p17_ p18_ cWH cR, pt_ta_FI hG p0_ p1_ p2_ p3_ p4_ p5_ p6_ p7_ p8_ p9_ p10_ p11_ p12_ p13_ p14_ p15_ p16_ p17_ p18_ cFI cR, pt_ta_L0 hG p0_ p1_ p2_ p3_ p4_ p5_ p6_ p7_ p8_ p9_ p10_ p11_ p12_ p13_ p14_ p15_ p16_ p17_ p18_ cL0 cR, pt_ta_FC hG p0_ p1_ p2_ p3_ p4_ p5_ p6_ p7_ p8_ p9_ p10_ p11_ p12_ p13_ p14_ p15_ p16_ p17_ p18_ cFC cR, pt_ta_L0u hG p0_ p1_ p2_ p3_ p4_ p5_ p6_ p7_ p8_ p9_ p10_ p11_ p12_ p13_ p14_ p15_ p16_ p17_ p18_ cL0u cR, pt_ta_OC hG p0_ p1_ p2_ p3_ p4_ p5_ p6_ p7_ p8_ p9_ p10_ p11_ p12_ p13_ p14_ p15_ p16_ p17_ p18_ cOC cR, pt_ta_CT hG p0_ p1_ p2_ p3_ p4_ p5_ p6_ p7_ p8_ p9_ p10_ p11_ p12_ p13_ p14_ p15_ p16_ p17_ p18_ cCT cR, pt_ta_L1 hG p0_ p1_ p2_ p3_ p4_ p5_ p6_ p7_ p8_ p9_ p10_ p11_ p12_ p13_ p14_ p15_ p16_ p17_ p18_ cL1 cR, pt_ta_L1e hG p0_ p1_ p2_ p3_ p4_ p5_ p6_ p7_ p8_ p9_ p10_ p11_ p12_ p13_ p14_ p15_ p16_ p17_ p18_ cL1e cR, pt_ta_L1o hG p0_ p1_ p2_ p3_ p4_ p5_ p6_ p7_ p8_ p9_ p10_ p11_ p12_ p13_ p14_ p15_ p16_ p17_ p18_ cL1o cR, pt_ta_L1b hG p0_ p1_ p2_ p3_ p4_ p5_ p6_ p7_ p8_ p9_ p10_ p11_ p12_ p13_ p14_ p15_ p16_ p17_ p18_ cL1b cR, pt_ta_L1g hG p0_ p1_ p2_ p3_ p4_ p5_ p6_ p7_ p8_ p9_ p10_ p11_ p12_ p13_ p14_ p15_ p16_ p17_ p18_ cL1g cR, pt_ta_L2 hG p0_ p1_ p2_ p3_ p4_ p5_ p6_ p7_ p8_ p9_ p10_ p11_ p12_ p13_ p14_ p15_ p16_ p17_ p18_ cR cCV cL3 cL4 cL2, pt_ta_L3 hG p0_ p1_ p2_ p3_ p4_ p5_ p6_ p7_ p8_ p9_ p10_ p11_ p12_ p13_ p14_ p15_ p16_ p17_ p18_ cR cCV cL3 cL4 cL2, pt_ta_L4 hG p0_ p1_ p2_ p3_ p4_ p5_ p6_ p7_ p8_ p9_ p10_ p11_ p12_ p13_ p14_ p15_ p16_ p17_ p18_ cR cCV cL3 cL4 cL2, pt_ta_AF hG p0_ p1_ p2_ p3_ p4_ p5_ p6_ p7_ p8_ p9_ p10_ p11_ p12_ p13_ p14_ p15_ p16_ p17_ p18_ cAF, pt_ta_RT hG p0_ p1_ p2_ p3_ p4_ p5_ p6_ p7_ p8_ p9_ p10_ p11_ p12_ p13_ p14_ p15_ p16_ p17_ p18_ cRT cR cCV cL2 cL4, pt_ta_CV hG p0_ p1_ p2_ p3_ p4_ p5_ p6_ p7_ p8_ p9_ p10_ p11_ p12_ p13_ p14_ p15_ p16_ p17_ p18_ cR cCV, pt_ta_L5 hG p0_ p1_ p2_ p3_ p4_ p5_ p6_ p7_ p8_ p9_ p10_ p11_ p12_ p13_ p14_ p15_ p16_ p17_ p18_ cL5 cR, pt_ta_L5o hG p0_ p1_ p2_ p3_ p4_ p5_ p6_ p7_ p8_ p9_ p10_ p11_ p12_ p13_ p14_ p15_ p16_ p17_ p18_ cL5o cR, pt_ta_L5u hG p0_ p1_ p2_ p3_ p4_ p5_ p6_ p7_ p8_ p9_ p10_ p11_ p12_ p13_ p14_ p15_ p16_ p17_ p18_ cL5u cR, pt_ta_L6 hG p0_ p1_ p2_ p3_ p4_ p5_ p6_ p7_ p8_ p9_ p10_ p11_ p12_ p13_ p14_ p15_ p16_ p17_ p18_ cL6 cR, pt_ta_L6u hG p0_ p1_ p2_ p3_ p4_ p5_ p6_ p7_ p8_ p9_ p10_ p11_ p12_ p13_ p14_ p15_ p16_ p17_ p18_ cL6u cR⟩

set_option maxHeartbeats 1000000 in
theorem pt_tra_R {W : Int → Prop} {sd : Int → Int} {op : Int → Int} {ed : Int → Int} {st : Int → Int} {lv : Int → Int} {nm : Int → Int} {tst : Int → Int} {om : Int → Int} {en : Int → Int} {fw : Int → Int} {nL : Int} {kd : Int → Int} {wy : Int → Int} {ll : Int → Int} {td : Int → Int} {wh : Int → Int} {b k : Int} (hG : pj_G W sd op ed) (p0_ : W b) (p1_ : 0 ≤ k) (p2_ : k < nL) (p3_ : wh k ≠ 2) (p4_ : kd k = 2) (p5_ : wy k = op b) (p6_ : ∀ j, 0 ≤ j → j < k → wy j = wy k → wh j ≠ 0) (p7_ : tst (sd (op b)) = (ed b)) (p8_ : ll k = lv (sd (op b))) (p9_ : td k = nm (sd (op b))) (p10_ : st (sd (op b)) = 1) (p11_ : en b = 0) (p12_ : en b ≠ 2) (p13_ : fw b = 0) (p14_ : nm (sd b) = nm (sd (op b))) (p15_ : lv (sd b) = lv (sd (op b))) (p16_ : 1 ≤ lv (sd b)) (p17_ : tst (sd b) ≠ (ed b)) (p18_ : st (sd b) ≠ 0) (p19_ : om (sd (op b)) ≠ (ed b)) (p20_ : 0 ≤ nL) (cR : pj_R W nL kd wy wh) : pj_R W (nL + 1) (pu kd nL 4) (pu wy nL b) (pu (pu wh k 2) nL 0) := by
  obtain ⟨hop, hed⟩ := hG
  unfold pj_R at *
  intro k0
  simp only [pu]
  have g0 := hop b
  have g1 := hop (wy k0)
  have g2 := hed b (wy k0)
  have cR_0 := cR k
  have cR_1 := cR k0
  have f0 := p6_ k
  have f1 := p6_ k0
  clear p6_
  clear hop hed cR
  grind (splits := 24)

set_option maxHeartbeats 1000000 in
theorem pt_tra_N1w {W : Int → Prop} {sd : Int → Int} {op : Int → Int} {ed : Int → Int} {st : Int → Int} {lv : Int → Int} {nm : Int → Int} {tst : Int → Int} {om : Int → Int} {en : Int → Int} {fw : Int → Int} {nL : Int} {kd : Int → Int} {wy : Int → Int} {ll : Int → Int} {td : Int → Int} {wh : Int → Int} {b k : Int} (hG : pj_G W sd op ed) (p0_ : W b) (p1_ : 0 ≤ k) (p2_ : k < nL) (p3_ : wh k ≠ 2) (p4_ : kd k = 2) (p5_ : wy k = op b) (p6_ : ∀ j, 0 ≤ j → j < k → wy j = wy k → wh j ≠ 0) (p7_ : tst (sd (op b)) = (ed b)) (p8_ : ll k = lv (sd (op b))) (p9_ : td k = nm (sd (op b))) (p10_ : st (sd (op b)) = 1) (p11_ : en b = 0) (p12_ : en b ≠ 2) (p13_ : fw b = 0) (p14_ : nm (sd b) = nm (sd (op b))) (p15_ : lv (sd b) = lv (sd (op b))) (p16_ : 1 ≤ lv (sd b)) (p17_ : tst (sd b) ≠ (ed b)) (p18_ : st (sd b) ≠ 0) (p19_ : om (sd (op b)) ≠ (ed b)) (p20_ : 0 ≤ nL) (cN1w : pj_N1w W sd st en) : pj_N1w W sd st (pu en b 2) := by
  obtain ⟨hop, hed⟩ := hG
  unfold pj_N1w at *
  intro w0
  simp only [pu]
  have g0 := hop b
  have g1 := hop w0
  have g2 := hed b w0
  have cN1w_0 := cN1w b
  have cN1w_1 := cN1w w0
  have cN1w_2 := cN1w (op w0)
  have f0 := p6_ k
  clear p6_
  clear hop hed cN1w
  grind (splits := 24)

set_option maxHeartbeats 1000000 in
theorem pt_tra_ER {W : Int → Prop} {sd : Int → Int} {op : Int → Int} {ed : Int → Int} {st : Int → Int} {lv : Int → Int} {nm : Int → Int} {tst : Int → Int} {om : Int → Int} {en : Int → Int} {fw : Int → Int} {nL : Int} {kd : Int → Int} {wy : Int → Int} {ll : Int → Int} {td : Int → Int} {wh : Int → Int} {b k : Int} (hG : pj_G W sd op ed) (p0_ : W b) (p1_ : 0 ≤ k) (p2_ : k < nL) (p3_ : wh k ≠ 2) (p4_ : kd k = 2) (p5_ : wy k = op b) (p6_ : ∀ j, 0 ≤ j → j < k → wy j = wy k → wh j ≠ 0) (p7_ : tst (sd (op b)) = (ed b)) (p8_ : ll k = lv (sd (op b))) (p9_ : td k = nm (sd (op b))) (p10_ : st (sd (op b)) = 1) (p11_ : en b = 0) (p12_ : en b ≠ 2) (p13_ : fw b = 0) (p14_ : nm (sd b) = nm (sd (op b))) (p15_ : lv (sd b) = lv (sd (op b))) (p16_ : 1 ≤ lv (sd b)) (p17_ : tst (sd b) ≠ (ed b)) (p18_ : st (sd b) ≠ 0) (p19_ : om (sd (op b)) ≠ (ed b)) (p20_ : 0 ≤ nL) (cER : pj_ER W en) : pj_ER W (pu en b 2) := by
  obtain ⟨hop, hed⟩ := hG
  unfold pj_ER at *
  intro w0
  simp only [pu]
  have g0 := hop b
  have g1 := hop w0
  have g2 := hed b w0
  have cER_0 := cER b
  have cER_1 := cER w0
  have cER_2 := cER (op w0)
  have f0 := p6_ k
  clear p6_
  clear hop hed cER
  grind (splits := 24)

set_option maxHeartbeats 1000000 in
theorem pt_tra_N1c {W : Int → Prop} {sd : Int → Int} {op : Int → Int} {ed : Int → Int} {st : Int → Int} {lv : Int → Int} {nm : Int → Int} {tst : Int → Int} {om : Int → Int} {en : Int → Int} {fw : Int → Int} {nL : Int} {kd : Int → Int} {wy : Int → Int} {ll : Int → Int} {td : Int → Int} {wh : Int → Int} {b k : Int} (hG : pj_G W sd op ed) (p0_ : W b) (p1_ : 0 ≤ k) (p2_ : k < nL) (p3_ : wh k ≠ 2) (p4_ : kd k = 2) (p5_ : wy k = op b) (p6_ : ∀ j, 0 ≤ j → j < k → wy j = wy k → wh j ≠ 0) (p7_ : tst (sd (op b)) = (ed b)) (p8_ : ll k = lv (sd (op b))) (p9_ : td k = nm (sd (op b))) (p10_ : st (sd (op b)) = 1) (p11_ : en b = 0) (p12_ : en b ≠ 2) (p13_ : fw b = 0) (p14_ : nm (sd b) = nm (sd (op b))) (p15_ : lv (sd b) = lv (sd (op b))) (p16_ : 1 ≤ lv (sd b)) (p17_ : tst (sd b) ≠ (ed b)) (p18_ : st (sd b) ≠ 0) (p19_ : om (sd (op b)) ≠ (ed b)) (p20_ : 0 ≤ nL) (cN1c : pj_N1c sd op st nL wy wh) (cR : pj_R W nL kd wy wh) : pj_N1c sd op st (nL + 1) (pu wy nL b) (pu (pu wh k 2) nL 0) := by
  obtain ⟨hop, hed⟩ := hG
  unfold pj_N1c pj_R at *
  intro k0
  simp only [pu]
  have g0 := hop b
  have g1 := hop (wy k0)
  have g2 := hed b (wy k0)
  have cN1c_0 := cN1c k
  have cN1c_1 := cN1c k0
  have cR_0 := cR k0
  have f0 := p6_ k
  have f1 := p6_ k0
  clear p6_
  clear hop hed cN1c cR
  grind (splits := 24)

set_option maxHeartbeats 1000000 in
theorem pt_tra_N2 {W : Int → Prop} {sd : Int → Int} {op : Int → Int} {ed : Int → Int} {st : Int → Int} {lv : Int → Int} {nm : Int → Int} {tst : Int → Int} {om : Int → Int} {en : Int → Int} {fw : Int → Int} {nL : Int} {kd : Int → Int} {wy : Int → Int} {ll : Int → Int} {td : Int → Int} {wh : Int → Int} {b k : Int} (hG : pj_G W sd op ed) (p0_ : W b) (p1_ : 0 ≤ k) (p2_ : k < nL) (p3_ : wh k ≠ 2) (p4_ : kd k = 2) (p5_ : wy k = op b) (p6_ : ∀ j, 0 ≤ j → j < k → wy j = wy k → wh j ≠ 0) (p7_ : tst (sd (op b)) = (ed b)) (p8_ : ll k = lv (sd (op b))) (p9_ : td k = nm (sd (op b))) (p10_ : st (sd (op b)) = 1) (p11_ : en b = 0) (p12_ : en b ≠ 2) (p13_ : fw b = 0) (p14_ : nm (sd b) = nm (sd (op b))) (p15_ : lv (sd b) = lv (sd (op b))) (p16_ : 1 ≤ lv (sd b)) (p17_ : tst (sd b) ≠ (ed b)) (p18_ : st (sd b) ≠ 0) (p19_ : om (sd (op b)) ≠ (ed b)) (p20_ : 0 ≤ nL) (cN2 : pj_N2 W sd ed om en) : pj_N2 W sd ed om (pu en b 2) := by
  obtain ⟨hop, hed⟩ := hG
  unfold pj_N2 at *
  intro w0
  simp only [pu]
  have g0 := hop b
  have g1 := hop w0
  have g2 := hed b w0
  have cN2_0 := cN2 b
  have cN2_1 := cN2 w0
  have cN2_2 := cN2 (op w0)
  have f0 := p6_ k
  clear p6_
  clear hop hed cN2
  grind (splits := 24)

set_option maxHeartbeats 1000000 in
theorem pt_tra_E1 {W : Int → Prop} {sd : Int → Int} {op : Int → Int} {ed : Int → Int} {st : Int → Int} {lv : Int → Int} {nm : Int → Int} {tst : Int → Int} {om : Int → Int} {dl : Int → Int} {en : Int → Int} {fw : Int → Int} {nL : Int} {kd : Int → Int} {wy : Int → Int} {ll : Int → Int} {td : Int → Int} {wh : Int → Int} {b k : Int} (hG : pj_G W sd op ed) (p0_ : W b) (p1_ : 0 ≤ k) (p2_ : k < nL) (p3_ : wh k ≠ 2) (p4_ : kd k = 2) (p5_ : wy k = op b) (p6_ : ∀ j, 0 ≤ j → j < k → wy j = wy k → wh j ≠ 0) (p7_ : tst (sd (op b)) = (ed b)) (p8_ : ll k = lv (sd (op b))) (p9_ : td k = nm (sd (op b))) (p10_ : st (sd (op b)) = 1) (p11_ : en b = 0) (p12_ : en b ≠ 2) (p13_ : fw b = 0) (p14_ : nm (sd b) = nm (sd (op b))) (p15_ : lv (sd b) = lv (sd (op b))) (p16_ : 1 ≤ lv (sd b)) (p17_ : tst (sd b) ≠ (ed b)) (p18_ : st (sd b) ≠ 0) (p19_ : om (sd (op b)) ≠ (ed b)) (p20_ : 0 ≤ nL) (cE1 : pj_E1 sd op lv dl nL kd wy ll wh) : pj_E1 sd op lv dl (nL + 1) (pu kd nL 4) (pu wy nL b) (pu ll nL (-1)) (pu (pu wh k 2) nL 0) := by
  obtain ⟨hop, hed⟩ := hG
  unfold pj_E1 at *
  intro n0
  simp only [pu]
  have g0 := hop b
  have cE1_0 := cE1 (sd (op b))
  have cE1_1 := cE1 n0
  have cE1_2 := cE1 (sd b)
  have f0 := p6_ k
  clear p6_
  clear hop hed cE1
  grind (splits := 24)

set_option maxHeartbeats 1000000 in
theorem pt_tra_U {W : Int → Prop} {sd : Int → Int} {op : Int → Int} {ed : Int → Int} {st : Int → Int} {lv : Int → Int} {nm : Int → Int} {tst : Int → Int} {om : Int → Int} {ps : Int → Int} {dl : Int → Int} {en : Int → Int} {fw : Int → Int} {cl : Int → Int} {nL : Int} {kd : Int → Int} {wy : Int → Int} {ll : Int → Int} {td : Int → Int} {wh : Int → Int} {b k : Int} (hG : pj_G W sd op ed) (p0_ : W b) (p1_ : 0 ≤ k) (p2_ : k < nL) (p3_ : wh k ≠ 2) (p4_ : kd k = 2) (p5_ : wy k = op b) (p6_ : ∀ j, 0 ≤ j → j < k → wy j = wy k → wh j ≠ 0) (p7_ : tst (sd (op b)) = (ed b)) (p8_ : ll k = lv (sd (op b))) (p9_ : td k = nm (sd (op b))) (p10_ : st (sd (op b)) = 1) (p11_ : en b = 0) (p12_ : en b ≠ 2) (p13_ : fw b = 0) (p14_ : nm (sd b) = nm (sd (op b))) (p15_ : lv (sd b) = lv (sd (op b))) (p16_ : 1 ≤ lv (sd b)) (p17_ : tst (sd b) ≠ (ed b)) (p18_ : st (sd b) ≠ 0) (p19_ : om (sd (op b)) ≠ (ed b)) (p20_ : 0 ≤ nL) (cU : pj_U W sd op ed lv nm om ps dl en cl) : pj_U W sd op ed lv nm om ps dl (pu en b 2) cl := by
  obtain ⟨hop, hed⟩ := hG
  unfold pj_U at *
  intro w0
  simp only [pu]
  have g0 := hop b
  have g1 := hop w0
  have g2 := hed b w0
  have cU_0 := cU b
  have cU_1 := cU w0
  have cU_2 := cU (op w0)
  have f0 := p6_ k
  clear p6_
  clear hop hed cU
  grind (splits := 24)

set_option maxHeartbeats 1000000 in
theorem pt_tra_A1 {W : Int → Prop} {sd : Int → Int} {op : Int → Int} {ed : Int → Int} {st : Int → Int} {lv : Int → Int} {nm : Int → Int} {tst : Int → Int} {om : Int → Int} {dl : Int → Int} {dn : Int → Int} {en : Int → Int} {fw : Int → Int} {nL : Int} {kd : Int → Int} {wy : Int → Int} {ll : Int → Int} {td : Int → Int} {wh : Int → Int} {F : Int → Prop} {fl : Int} {fc : Int} {b k : Int} (hG : pj_G W sd op ed) (p0_ : W b) (p1_ : 0 ≤ k) (p2_ : k < nL) (p3_ : wh k ≠ 2) (p4_ : kd k = 2) (p5_ : wy k = op b) (p6_ : ∀ j, 0 ≤ j → j < k → wy j = wy k → wh j ≠ 0) (p7_ : tst (sd (op b)) = (ed b)) (p8_ : ll k = lv (sd (op b))) (p9_ : td k = nm (sd (op b))) (p10_ : st (sd (op b)) = 1) (p11_ : en b = 0) (p12_ : en b ≠ 2) (p13_ : fw b = 0) (p14_ : nm (sd b) = nm (sd (op b))) (p15_ : lv (sd b) = lv (sd (op b))) (p16_ : 1 ≤ lv (sd b)) (p17_ : tst (sd b) ≠ (ed b)) (p18_ : st (sd b) ≠ 0) (p19_ : om (sd (op b)) ≠ (ed b)) (p20_ : 0 ≤ nL) (cA1 : pj_A1 W sd op ed lv nm om dl dn en F fl fc) : pj_A1 W sd op ed lv nm om dl dn (pu en b 2) F fl fc := by
  obtain ⟨hop, hed⟩ := hG
  unfold pj_A1 at *
  intro w0
  simp only [pu]
  have g0 := hop b
  have g1 := hop w0
  have g2 := hed b w0
  have cA1_0 := cA1 b
  have cA1_1 := cA1 w0
  have cA1_2 := cA1 (op w0)
  have f0 := p6_ k
  clear p6_
  clear hop hed cA1
  grind (splits := 24)

set_option maxHeartbeats 1000000 in
theorem pt_tra_EC {W : Int → Prop} {sd : Int → Int} {op : Int → Int} {ed : Int → Int} {st : Int → Int} {lv : Int → Int} {nm : Int → Int} {tst : Int → Int} {om : Int → Int} {ps : Int → Int} {dl : Int → Int} {en : Int → Int} {fw : Int → Int} {nL : Int} {kd : Int → Int} {wy : Int → Int} {ll : Int → Int} {td : Int → Int} {wh : Int → Int} {F : Int → Prop} {b k : Int} (hG : pj_G W sd op ed) (p0_ : W b) (p1_ : 0 ≤ k) (p2_ : k < nL) (p3_ : wh k ≠ 2) (p4_ : kd k = 2) (p5_ : wy k = op b) (p6_ : ∀ j, 0 ≤ j → j < k → wy j = wy k → wh j ≠ 0) (p7_ : tst (sd (op b)) = (ed b)) (p8_ : ll k = lv (sd (op b))) (p9_ : td k = nm (sd (op b))) (p10_ : st (sd (op b)) = 1) (p11_ : en b = 0) (p12_ : en b ≠ 2) (p13_ : fw b = 0) (p14_ : nm (sd b) = nm (sd (op b))) (p15_ : lv (sd b) = lv (sd (op b))) (p16_ : 1 ≤ lv (sd b)) (p17_ : tst (sd b) ≠ (ed b)) (p18_ : st (sd b) ≠ 0) (p19_ : om (sd (op b)) ≠ (ed b)) (p20_ : 0 ≤ nL) (cEC : pj_EC W sd op ed lv nm om ps dl nL kd wy wh F) : pj_EC W sd op ed lv nm om ps dl (nL + 1) (pu kd nL 4) (pu wy nL b) (pu (pu wh k 2) nL 0) F := by
  obtain ⟨hop, hed⟩ := hG
  unfold pj_EC at *
  intro w0
  simp only [pu]
  have g0 := hop b
  have g1 := hop w0
  have g2 := hed b w0
  have cEC_0 := cEC b
  have cEC_1 := cEC w0
  have cEC_2 := cEC (op w0)
  have f0 := p6_ k
  clear p6_
  clear hop hed cEC
  grind (splits := 24)

set_option maxHeartbeats 1000000 in
theorem pt_tra_N11 {W : Int → Prop} {sd : Int → Int} {op : Int → Int} {ed : Int → Int} {st : Int → Int} {lv : Int → Int} {nm : Int → Int} {tow : Int → Int} {tst : Int → Int} {om : Int → Int} {ps : Int → Int} {en : Int → Int} {fw : Int → Int} {nL : Int} {kd : Int → Int} {wy : Int → Int} {ll : Int → Int} {td : Int → Int} {wh : Int → Int} {b k : Int} (hG : pj_G W sd op ed) (p0_ : W b) (p1_ : 0 ≤ k) (p2_ : k < nL) (p3_ : wh k ≠ 2) (p4_ : kd k = 2) (p5_ : wy k = op b) (p6_ : ∀ j, 0 ≤ j → j < k → wy j = wy k → wh j ≠ 0) (p7_ : tst (sd (op b)) = (ed b)) (p8_ : ll k = lv (sd (op b))) (p9_ : td k = nm (sd (op b))) (p10_ : st (sd (op b)) = 1) (p11_ : en b = 0) (p12_ : en b ≠ 2) (p13_ : fw b = 0) (p14_ : nm (sd b) = nm (sd (op b))) (p15_ : lv (sd b) = lv (sd (op b))) (p16_ : 1 ≤ lv (sd b)) (p17_ : tst (sd b) ≠ (ed b)) (p18_ : st (sd b) ≠ 0) (p19_ : om (sd (op b)) ≠ (ed b)) (p20_ : 0 ≤ nL) (cN11 : pj_N11 W sd op ed lv nm tow tst ps en) : pj_N11 W sd op ed lv nm tow tst ps (pu en b 2) := by
  obtain ⟨hop, hed⟩ := hG
  unfold pj_N11 at *
  intro w0
  simp only [pu]
  have g0 := hop b
  have g1 := hop w0
  have g2 := hed b w0
  have cN11_0 := cN11 b
  have cN11_1 := cN11 w0
  have cN11_2 := cN11 (op w0)
  have f0 := p6_ k
  clear p6_
  clear hop hed cN11
  grind (splits := 24)

set_option maxHeartbeats 1000000 in
theorem pt_tra_N12 {W : Int → Prop} {sd : Int → Int} {op : Int → Int} {ed : Int → Int} {st : Int → Int} {lv : Int → Int} {nm : Int → Int} {inw : Int → Int} {tow : Int → Int} {tst : Int → Int} {om : Int → Int} {ps : Int → Int} {dl : Int → Int} {en : Int → Int} {fw : Int → Int} {nL : Int} {kd : Int → Int} {wy : Int → Int} {ll : Int → Int} {td : Int → Int} {wh : Int → Int} {b k : Int} (hG : pj_G W sd op ed) (p0_ : W b) (p1_ : 0 ≤ k) (p2_ : k < nL) (p3_ : wh k ≠ 2) (p4_ : kd k = 2) (p5_ : wy k = op b) (p6_ : ∀ j, 0 ≤ j → j < k → wy j = wy k → wh j ≠ 0) (p7_ : tst (sd (op b)) = (ed b)) (p8_ : ll k = lv (sd (op b))) (p9_ : td k = nm (sd (op b))) (p10_ : st (sd (op b)) = 1) (p11_ : en b = 0) (p12_ : en b ≠ 2) (p13_ : fw b = 0) (p14_ : nm (sd b) = nm (sd (op b))) (p15_ : lv (sd b) = lv (sd (op b))) (p16_ : 1 ≤ lv (sd b)) (p17_ : tst (sd b) ≠ (ed b)) (p18_ : st (sd b) ≠ 0) (p19_ : om (sd (op b)) ≠ (ed b)) (p20_ : 0 ≤ nL) (cN12 : pj_N12 W sd op ed st lv nm inw tow om ps dl en) : pj_N12 W sd op ed st lv nm inw tow om ps dl (pu en b 2) := by
  obtain ⟨hop, hed⟩ := hG
  unfold pj_N12 at *
  intro w0
  simp only [pu]
  have g0 := hop b
  have g1 := hop w0
  have g2 := hed b w0
  have cN12_0 := cN12 b
  have cN12_1 := cN12 w0
  have cN12_2 := cN12 (op w0)
  have f0 := p6_ k
  clear p6_
  clear hop hed cN12
  grind (splits := 24)

set_option maxHeartbeats 1000000 in
theorem pt_tra_N3 {W : Int → Prop} {sd : Int → Int} {op : Int → Int} {ed : Int → Int} {st : Int → Int} {lv : Int → Int} {nm : Int → Int} {tst : Int → Int} {om : Int → Int} {en : Int → Int} {fw : Int → Int} {nL : Int} {kd : Int → Int} {wy : Int → Int} {ll : Int → Int} {td : Int → Int} {wh : Int → Int} {b k : Int} (hG : pj_G W sd op ed) (p0_ : W b) (p1_ : 0 ≤ k) (p2_ : k < nL) (p3_ : wh k ≠ 2) (p4_ : kd k = 2) (p5_ : wy k = op b) (p6_ : ∀ j, 0 ≤ j → j < k → wy j = wy k → wh j ≠ 0) (p7_ : tst (sd (op b)) = (ed b)) (p8_ : ll k = lv (sd (op b))) (p9_ : td k = nm (sd (op b))) (p10_ : st (sd (op b)) = 1) (p11_ : en b = 0) (p12_ : en b ≠ 2) (p13_ : fw b = 0) (p14_ : nm (sd b) = nm (sd (op b))) (p15_ : lv (sd b) = lv (sd (op b))) (p16_ : 1 ≤ lv (sd b)) (p17_ : tst (sd b) ≠ (ed b)) (p18_ : st (sd b) ≠ 0) (p19_ : om (sd (op b)) ≠ (ed b)) (p20_ : 0 ≤ nL) (cN3 : pj_N3 W sd op ed om en) : pj_N3 W sd op ed om (pu en b 2) := by
  obtain ⟨hop, hed⟩ := hG
  unfold pj_N3 at *
  intro w0
  simp only [pu]
  have g0 := hop b
  have g1 := hop w0
  have g2 := hed b w0
  have cN3_0 := cN3 b
  have cN3_1 := cN3 w0
  have cN3_2 := cN3 (op w0)
  have f0 := p6_ k
  clear p6_
  clear hop hed cN3
  grind (splits := 24)

set_option maxHeartbeats 1000000 in
theorem pt_tra_RJ {W : Int → Prop} {sd : Int → Int} {op : Int → Int} {ed : Int → Int} {st : Int → Int} {lv : Int → Int} {nm : Int → Int} {tst : Int → Int} {om : Int → Int} {en : Int → Int} {fw : Int → Int} {nL : Int} {kd : Int → Int} {wy : Int → Int} {ll : Int → Int} {td : Int → Int} {wh : Int → Int} {b k : Int} (hG : pj_G W sd op ed) (p0_ : W b) (p1_ : 0 ≤ k) (p2_ : k < nL) (p3_ : wh k ≠ 2) (p4_ : kd k = 2) (p5_ : wy k = op b) (p6_ : ∀ j, 0 ≤ j → j < k → wy j = wy k → wh j ≠ 0) (p7_ : tst (sd (op b)) = (ed b)) (p8_ : ll k = lv (sd (op b))) (p9_ : td k = nm (sd (op b))) (p10_ : st (sd (op b)) = 1) (p11_ : en b = 0) (p12_ : en b ≠ 2) (p13_ : fw b = 0) (p14_ : nm (sd b) = nm (sd (op b))) (p15_ : lv (sd b) = lv (sd (op b))) (p16_ : 1 ≤ lv (sd b)) (p17_ : tst (sd b) ≠ (ed b)) (p18_ : st (sd b) ≠ 0) (p19_ : om (sd (op b)) ≠ (ed b)) (p20_ : 0 ≤ nL) (cRJ : pj_RJ W sd op ed tst en fw) : pj_RJ W sd op ed tst (pu en b 2) (pu fw b 1) := by
  obtain ⟨hop, hed⟩ := hG
  unfold pj_RJ at *
  intro w0
  simp only [pu]
  have g0 := hop b
  have g1 := hop w0
  have g2 := hed b w0
  have cRJ_0 := cRJ b
  have cRJ_1 := cRJ w0
  have cRJ_2 := cRJ (op w0)
  have f0 := p6_ k
  clear p6_
  clear hop hed cRJ
  grind (splits := 24)

set_option maxHeartbeats 1000000 in
theorem pt_tra_FW {W : Int → Prop} {sd : Int → Int} {op : Int → Int} {ed : Int → Int} {st : Int → Int} {lv : Int → Int} {nm : Int → Int} {tst : Int → Int} {om : Int → Int} {en : Int → Int} {fw : Int → Int} {nL : Int} {kd : Int → Int} {wy : Int → Int} {ll : Int → Int} {td : Int → Int} {wh : Int → Int} {b k : Int} (hG : pj_G W sd op ed) (p0_ : W b) (p1_ : 0 ≤ k) (p2_ : k < nL) (p3_ : wh k ≠ 2) (p4_ : kd k = 2) (p5_ : wy k = op b) (p6_ : ∀ j, 0 ≤ j → j < k → wy j = wy k → wh j ≠ 0) (p7_ : tst (sd (op b)) = (ed b)) (p8_ : ll k = lv (sd (op b))) (p9_ : td k = nm (sd (op b))) (p10_ : st (sd (op b)) = 1) (p11_ : en b = 0) (p12_ : en b ≠ 2) (p13_ : fw b = 0) (p14_ : nm (sd b) = nm (sd (op b))) (p15_ : lv (sd b) = lv (sd (op b))) (p16_ : 1 ≤ lv (sd b)) (p17_ : tst (sd b) ≠ (ed b)) (p18_ : st (sd b) ≠ 0) (p19_ : om (sd (op b)) ≠ (ed b)) (p20_ : 0 ≤ nL) (cFW : pj_FW W sd ed tst en fw) : pj_FW W sd ed tst (pu en b 2) (pu fw b 1) := by
  obtain ⟨hop, hed⟩ := hG
  unfold pj_FW at *
  intro w0
  simp only [pu]
  have g0 := hop b
  have g1 := hop w0
  have g2 := hed b w0
  have cFW_0 := cFW b
  have cFW_1 := cFW w0
  have cFW_2 := cFW (op w0)
  have f0 := p6_ k
  clear p6_
  clear hop hed cFW
  grind (splits := 24)

set_option maxHeartbeats 1000000 in
theorem pt_tra_PD {W : Int → Prop} {sd : Int → Int} {op : Int → Int} {ed : Int → Int} {st : Int → Int} {lv : Int → Int} {nm : Int → Int} {tst : Int → Int} {om : Int → Int} {en : Int → Int} {pd : Int → Int} {fw : Int → Int} {nL : Int} {kd : Int → Int} {wy : Int → Int} {ll : Int → Int} {td : Int → Int} {wh : Int → Int} {b k : Int} (hG : pj_G W sd op ed) (p0_ : W b) (p1_ : 0 ≤ k) (p2_ : k < nL) (p3_ : wh k ≠ 2) (p4_ : kd k = 2) (p5_ : wy k = op b) (p6_ : ∀ j, 0 ≤ j → j < k → wy j = wy k → wh j ≠ 0) (p7_ : tst (sd (op b)) = (ed b)) (p8_ : ll k = lv (sd (op b))) (p9_ : td k = nm (sd (op b))) (p10_ : st (sd (op b)) = 1) (p11_ : en b = 0) (p12_ : en b ≠ 2) (p13_ : fw b = 0) (p14_ : nm (sd b) = nm (sd (op b))) (p15_ : lv (sd b) = lv (sd (op b))) (p16_ : 1 ≤ lv (sd b)) (p17_ : tst (sd b) ≠ (ed b)) (p18_ : st (sd b) ≠ 0) (p19_ : om (sd (op b)) ≠ (ed b)) (p20_ : 0 ≤ nL) (cPD : pj_PD W sd op ed st om en pd) : pj_PD W sd op ed st om (pu en b 2) pd := by
  obtain ⟨hop, hed⟩ := hG
  unfold pj_PD at *
  intro w0
  simp only [pu]
  have g0 := hop b
  have g1 := hop w0
  have g2 := hed b w0
  have cPD_0 := cPD b
  have cPD_1 := cPD w0
  have cPD_2 := cPD (op w0)
  have f0 := p6_ k
  clear p6_
  clear hop hed cPD
  grind (splits := 24)

set_option maxHeartbeats 1000000 in
theorem pt_tra_CC {W : Int → Prop} {sd : Int → Int} {op : Int → Int} {ed : Int → Int} {st : Int → Int} {lv : Int → Int} {nm : Int → Int} {tst : Int → Int} {om : Int → Int} {en : Int → Int} {fw : Int → Int} {cl : Int → Int} {nL : Int} {kd : Int → Int} {wy : Int → Int} {ll : Int → Int} {td : Int → Int} {wh : Int → Int} {b k : Int} (hG : pj_G W sd op ed) (p0_ : W b) (p1_ : 0 ≤ k) (p2_ : k < nL) (p3_ : wh k ≠ 2) (p4_ : kd k = 2) (p5_ : wy k = op b) (p6_ : ∀ j, 0 ≤ j → j < k → wy j = wy k → wh j ≠ 0) (p7_ : tst (sd (op b)) = (ed b)) (p8_ : ll k = lv (sd (op b))) (p9_ : td k = nm (sd (op b))) (p10_ : st (sd (op b)) = 1) (p11_ : en b = 0) (p12_ : en b ≠ 2) (p13_ : fw b = 0) (p14_ : nm (sd b) = nm (sd (op b))) (p15_ : lv (sd b) = lv (sd (op b))) (p16_ : 1 ≤ lv (sd b)) (p17_ : tst (sd b) ≠ (ed b)) (p18_ : st (sd b) ≠ 0) (p19_ : om (sd (op b)) ≠ (ed b)) (p20_ : 0 ≤ nL) (cCC : pj_CC W ed en cl) : pj_CC W ed (pu en b 2) cl := by
  obtain ⟨hop, hed⟩ := hG
  unfold pj_CC at *
  intro w0
  simp only [pu]
  have g0 := hop b
  have g1 := hop w0
  have g2 := hed b w0
  have cCC_0 := cCC b
  have cCC_1 := cCC w0
  have cCC_2 := cCC (op w0)
  have f0 := p6_ k
  clear p6_
  clear hop hed cCC
  grind (splits := 24)

set_option maxHeartbeats 1000000 in
theorem pt_tra_WH {W : Int → Prop} {sd : Int → Int} {op : Int → Int} {ed : Int → Int} {st : Int → Int} {lv : Int → Int} {nm : Int → Int} {tst : Int → Int} {om : Int → Int} {en : Int → Int} {fw : Int → Int} {nL : Int} {kd : Int → Int} {wy : Int → Int} {ll : Int → Int} {td : Int → Int} {wh : Int → Int} {b k : Int} (hG : pj_G W sd op ed) (p0_ : W b) (p1_ : 0 ≤ k) (p2_ : k < nL) (p3_ : wh k ≠ 2) (p4_ : kd k = 2) (p5_ : wy k = op b) (p6_ : ∀ j, 0 ≤ j → j < k → wy j = wy k → wh j ≠ 0) (p7_ : tst (sd (op b)) = (ed b)) (p8_ : ll k = lv (sd (op b))) (p9_ : td k = nm (sd (op b))) (p10_ : st (sd (op b)) = 1) (p11_ : en b = 0) (p12_ : en b ≠ 2) (p13_ : fw b = 0) (p14_ : nm (sd b) = nm (sd (op b))) (p15_ : lv (sd b) = lv (sd (op b))) (p16_ : 1 ≤ lv (sd b)) (p17_ : tst (sd b) ≠ (ed b)) (p18_ : st (sd b) ≠ 0) (p19_ : om (sd (op b)) ≠ (ed b)) (p20_ : 0 ≤ nL) (cWH : pj_WH nL kd wh) (cR : pj_R W nL kd wy wh) : pj_WH (nL + 1) (pu kd nL 4) (pu (pu wh k 2) nL 0) := by
  obtain ⟨hop, hed⟩ := hG
  unfold pj_WH pj_R at *
  intro k0
  simp only [pu]
  have g0 := hop b
  have g1 := hop (wy k0)
  have g2 := hed b (wy k0)
  have cWH_0 := cWH k
  have cWH_1 := cWH k0
  have cR_0 := cR k0
  have f0 := p6_ k
  have f1 := p6_ k0
  clear p6_
  clear hop hed cWH cR
  grind (splits := 24)

set_option maxHeartbeats 1000000 in
theorem pt_tra_FI {W : Int → Prop} {sd : Int → Int} {op : Int → Int} {ed : Int → Int} {st : Int → Int} {lv : Int → Int} {nm : Int → Int} {tst : Int → Int} {om : Int → Int} {en : Int → Int} {fw : Int → Int} {nL : Int} {kd : Int → Int} {wy : Int → Int} {ll : Int → Int} {td : Int → Int} {wh : Int → Int} {b k : Int} (hG : pj_G W sd op ed) (p0_ : W b) (p1_ : 0 ≤ k) (p2_ : k < nL) (p3_ : wh k ≠ 2) (p4_ : kd k = 2) (p5_ : wy k = op b) (p6_ : ∀ j, 0 ≤ j → j < k → wy j = wy k → wh j ≠ 0) (p7_ : tst (sd (op b)) = (ed b)) (p8_ : ll k = lv (sd (op b))) (p9_ : td k = nm (sd (op b))) (p10_ : st (sd (op b)) = 1) (p11_ : en b = 0) (p12_ : en b ≠ 2) (p13_ : fw b = 0) (p14_ : nm (sd b) = nm (sd (op b))) (p15_ : lv (sd b) = lv (sd (op b))) (p16_ : 1 ≤ lv (sd b)) (p17_ : tst (sd b) ≠ (ed b)) (p18_ : st (sd b) ≠ 0) (p19_ : om (sd (op b)) ≠ (ed b)) (p20_ : 0 ≤ nL) (cFI : pj_FI nL wy wh) (cR : pj_R W nL kd wy wh) : pj_FI (nL + 1) (pu wy nL b) (pu (pu wh k 2) nL 0) := by
  obtain ⟨hop, hed⟩ := hG
  unfold pj_FI pj_R at *
  intro j0 k0
  simp only [pu]
  have g0 := hop b
  have g1 := hop (wy j0)
  have g2 := hop (wy k0)
  have g3 := hed b (wy j0)
  have g4 := hed b (wy k0)
  have g5 := hed (wy j0) (wy k0)
  have cFI_0 := cFI k k
  have cFI_1 := cFI k j0
  have cFI_2 := cFI k k0
  have cFI_3 := cFI j0 k
  have cFI_4 := cFI j0 j0
  have cFI_5 := cFI j0 k0
  have cFI_6 := cFI k0 k
  have cFI_7 := cFI k0 j0
  have cFI_8 := cFI k0 k0
  have cR_0 := cR j0
  have cR_1 := cR k0
  have f0 := p6_ k
  have f1 := p6_ j0
  have f2 := p6_ k0
  clear p6_
  clear hop hed cFI cR
  grind (splits := 24)

set_option maxHeartbeats 1000000 in
theorem pt_tra_L0 {W : Int → Prop} {sd : Int → Int} {op : Int → Int} {ed : Int → Int} {st : Int → Int} {lv : Int → Int} {nm : Int → Int} {tst : Int → Int} {om : Int → Int} {ps : Int → Int} {dl : Int → Int} {af : Int → Int} {c0 : Int → Int} {en : Int → Int} {fw : Int → Int} {cw : Int → Int} {nL : Int} {kd : Int → Int} {wy : Int → Int} {ll : Int → Int} {td : Int → Int} {wh : Int → Int} {b k : Int} (hG : pj_G W sd op ed) (p0_ : W b) (p1_ : 0 ≤ k) (p2_ : k < nL) (p3_ : wh k ≠ 2) (p4_ : kd k = 2) (p5_ : wy k = op b) (p6_ : ∀ j, 0 ≤ j → j < k → wy j = wy k → wh j ≠ 0) (p7_ : tst (sd (op b)) = (ed b)) (p8_ : ll k = lv (sd (op b))) (p9_ : td k = nm (sd (op b))) (p10_ : st (sd (op b)) = 1) (p11_ : en b = 0) (p12_ : en b ≠ 2) (p13_ : fw b = 0) (p14_ : nm (sd b) = nm (sd (op b))) (p15_ : lv (sd b) = lv (sd (op b))) (p16_ : 1 ≤ lv (sd b)) (p17_ : tst (sd b) ≠ (ed b)) (p18_ : st (sd b) ≠ 0) (p19_ : om (sd (op b)) ≠ (ed b)) (p20_ : 0 ≤ nL) (cL0 : pj_L0 sd op ed lv nm om ps dl c0 en cw nL kd wy ll wh) (cR : pj_R W nL kd wy wh) (cN0 : pj_N0 st lv ps dl af) : pj_L0 sd op ed lv nm om ps dl c0 (pu en b 2) cw (nL + 1) (pu kd nL 4) (pu wy nL b) (pu ll nL (-1)) (pu (pu wh k 2) nL 0) := by
  obtain ⟨hop, hed⟩ := hG
  unfold pj_L0 pj_R pj_N0 at *
  intro k0
  simp only [pu]
  have g0 := hop b
  have g1 := hop (wy k0)
  have g2 := hed b (wy k0)
  have cL0_0 := cL0 k
  have cL0_1 := cL0 k0
  have cR_0 := cR k0
  have cN0_0 := cN0 (sd (op b))
  have f0 := p6_ k
  have f1 := p6_ k0
  clear p6_
  clear hop hed cL0 cR cN0
  grind (splits := 24)

set_option maxHeartbeats 1000000 in
theorem pt_tra_FC {W : Int → Prop} {sd : Int → Int} {op : Int → Int} {ed : Int → Int} {st : Int → Int} {lv : Int → Int} {nm : Int → Int} {tst : Int → Int} {om : Int → Int} {en : Int → Int} {fw : Int → Int} {nL : Int} {kd : Int → Int} {wy : Int → Int} {ll : Int → Int} {td : Int → Int} {wh : Int → Int} {F : Int → Prop} {b k : Int} (hG : pj_G W sd op ed) (p0_ : W b) (p1_ : 0 ≤ k) (p2_ : k < nL) (p3_ : wh k ≠ 2) (p4_ : kd k = 2) (p5_ : wy k = op b) (p6_ : ∀ j, 0 ≤ j → j < k → wy j = wy k → wh j ≠ 0) (p7_ : tst (sd (op b)) = (ed b)) (p8_ : ll k = lv (sd (op b))) (p9_ : td k = nm (sd (op b))) (p10_ : st (sd (op b)) = 1) (p11_ : en b = 0) (p12_ : en b ≠ 2) (p13_ : fw b = 0) (p14_ : nm (sd b) = nm (sd (op b))) (p15_ : lv (sd b) = lv (sd (op b))) (p16_ : 1 ≤ lv (sd b)) (p17_ : tst (sd b) ≠ (ed b)) (p18_ : st (sd b) ≠ 0) (p19_ : om (sd (op b)) ≠ (ed b)) (p20_ : 0 ≤ nL) (cFC : pj_FC op nL kd wy wh F) (cR : pj_R W nL kd wy wh) : pj_FC op (nL + 1) (pu kd nL 4) (pu wy nL b) (pu (pu wh k 2) nL 0) F := by
  obtain ⟨hop, hed⟩ := hG
  unfold pj_FC pj_R at *
  intro k0
  simp only [pu]
  have g0 := hop b
  have g1 := hop (wy k0)
  have g2 := hed b (wy k0)
  have cFC_0 := cFC k
  have cFC_1 := cFC k0
  have cR_0 := cR k0
  have f0 := p6_ k
  have f1 := p6_ k0
  clear p6_
  clear hop hed cFC cR
  grind (splits := 24)

set_option maxHeartbeats 1000000 in
theorem pt_tra_L0u {W : Int → Prop} {sd : Int → Int} {op : Int → Int} {ed : Int → Int} {st : Int → Int} {lv : Int → Int} {nm : Int → Int} {tst : Int → Int} {om : Int → Int} {en : Int → Int} {fw : Int → Int} {nL : Int} {kd : Int → Int} {wy : Int → Int} {ll : Int → Int} {td : Int → Int} {wh : Int → Int} {b k : Int} (hG : pj_G W sd op ed) (p0_ : W b) (p1_ : 0 ≤ k) (p2_ : k < nL) (p3_ : wh k ≠ 2) (p4_ : kd k = 2) (p5_ : wy k = op b) (p6_ : ∀ j, 0 ≤ j → j < k → wy j = wy k → wh j ≠ 0) (p7_ : tst (sd (op b)) = (ed b)) (p8_ : ll k = lv (sd (op b))) (p9_ : td k = nm (sd (op b))) (p10_ : st (sd (op b)) = 1) (p11_ : en b = 0) (p12_ : en b ≠ 2) (p13_ : fw b = 0) (p14_ : nm (sd b) = nm (sd (op b))) (p15_ : lv (sd b) = lv (sd (op b))) (p16_ : 1 ≤ lv (sd b)) (p17_ : tst (sd b) ≠ (ed b)) (p18_ : st (sd b) ≠ 0) (p19_ : om (sd (op b)) ≠ (ed b)) (p20_ : 0 ≤ nL) (cL0u : pj_L0u nL kd wy wh) (cR : pj_R W nL kd wy wh) : pj_L0u (nL + 1) (pu kd nL 4) (pu wy nL b) (pu (pu wh k 2) nL 0) := by
  obtain ⟨hop, hed⟩ := hG
  unfold pj_L0u pj_R at *
  intro j0 k0
  simp only [pu]
  have g0 := hop b
  have g1 := hop (wy j0)
  have g2 := hop (wy k0)
  have g3 := hed b (wy j0)
  have g4 := hed b (wy k0)
  have g5 := hed (wy j0) (wy k0)
  have cL0u_0 := cL0u k k
  have cL0u_1 := cL0u k j0
  have cL0u_2 := cL0u k k0
  have cL0u_3 := cL0u j0 k
  have cL0u_4 := cL0u j0 j0
  have cL0u_5 := cL0u j0 k0
  have cL0u_6 := cL0u k0 k
  have cL0u_7 := cL0u k0 j0
  have cL0u_8 := cL0u k0 k0
  have cR_0 := cR j0
  have cR_1 := cR k0
  have f0 := p6_ k
  have f1 := p6_ j0
  have f2 := p6_ k0
  clear p6_
  clear hop hed cL0u cR
  grind (splits := 24)

set_option maxHeartbeats 1000000 in
theorem pt_tra_OC {W : Int → Prop} {sd : Int → Int} {op : Int → Int} {ed : Int → Int} {st : Int → Int} {lv : Int → Int} {nm : Int → Int} {tst : Int → Int} {om : Int → Int} {en : Int → Int} {fw : Int → Int} {nL : Int} {kd : Int → Int} {wy : Int → Int} {ll : Int → Int} {td : Int → Int} {wh : Int → Int} {b k : Int} (hG : pj_G W sd op ed) (p0_ : W b) (p1_ : 0 ≤ k) (p2_ : k < nL) (p3_ : wh k ≠ 2) (p4_ : kd k = 2) (p5_ : wy k = op b) (p6_ : ∀ j, 0 ≤ j → j < k → wy j = wy k → wh j ≠ 0) (p7_ : tst (sd (op b)) = (ed b)) (p8_ : ll k = lv (sd (op b))) (p9_ : td k = nm (sd (op b))) (p10_ : st (sd (op b)) = 1) (p11_ : en b = 0) (p12_ : en b ≠ 2) (p13_ : fw b = 0) (p14_ : nm (sd b) = nm (sd (op b))) (p15_ : lv (sd b) = lv (sd (op b))) (p16_ : 1 ≤ lv (sd b)) (p17_ : tst (sd b) ≠ (ed b)) (p18_ : st (sd b) ≠ 0) (p19_ : om (sd (op b)) ≠ (ed b)) (p20_ : 0 ≤ nL) (cOC : pj_OC nL kd wy wh) (cR : pj_R W nL kd wy wh) : pj_OC (nL + 1) (pu kd nL 4) (pu wy nL b) (pu (pu wh k 2) nL 0) := by
  obtain ⟨hop, hed⟩ := hG
  unfold pj_OC pj_R at *
  intro j0 k0
  simp only [pu]
  have g0 := hop b
  have g1 := hop (wy j0)
  have g2 := hop (wy k0)
  have g3 := hed b (wy j0)
  have g4 := hed b (wy k0)
  have g5 := hed (wy j0) (wy k0)
  have cOC_0 := cOC k k
  have cOC_1 := cOC k j0
  have cOC_2 := cOC k k0
  have cOC_3 := cOC j0 k
  have cOC_4 := cOC j0 j0
  have cOC_5 := cOC j0 k0
  have cOC_6 := cOC k0 k
  have cOC_7 := cOC k0 j0
  have cOC_8 := cOC k0 k0
  have cR_0 := cR j0
  have cR_1 := cR k0
  have f0 := p6_ k
  have f1 := p6_ j0
  have f2 := p6_ k0
  clear p6_
  clear hop hed cOC cR
  grind (splits := 24)

set_option maxHeartbeats 1000000 in
theorem pt_tra_CT {W : Int → Prop} {sd : Int → Int} {op : Int → Int} {ed : Int → Int} {st : Int → Int} {lv : Int → Int} {nm : Int → Int} {tst : Int → Int} {om : Int → Int} {ps : Int → Int} {dl : Int → Int} {c0 : Int → Int} {en : Int → Int} {fw : Int → Int} {cw : Int → Int} {nL : Int} {kd : Int → Int} {wy : Int → Int} {ll : Int → Int} {td : Int → Int} {wh : Int → Int} {b k : Int} (hG : pj_G W sd op ed) (p0_ : W b) (p1_ : 0 ≤ k) (p2_ : k < nL) (p3_ : wh k ≠ 2) (p4_ : kd k = 2) (p5_ : wy k = op b) (p6_ : ∀ j, 0 ≤ j → j < k → wy j = wy k → wh j ≠ 0) (p7_ : tst (sd (op b)) = (ed b)) (p8_ : ll k = lv (sd (op b))) (p9_ : td k = nm (sd (op b))) (p10_ : st (sd (op b)) = 1) (p11_ : en b = 0) (p12_ : en b ≠ 2) (p13_ : fw b = 0) (p14_ : nm (sd b) = nm (sd (op b))) (p15_ : lv (sd b) = lv (sd (op b))) (p16_ : 1 ≤ lv (sd b)) (p17_ : tst (sd b) ≠ (ed b)) (p18_ : st (sd b) ≠ 0) (p19_ : om (sd (op b)) ≠ (ed b)) (p20_ : 0 ≤ nL) (cCT : pj_CT nL kd wy wh) (cR : pj_R W nL kd wy wh) (cL0 : pj_L0 sd op ed lv nm om ps dl c0 en cw nL kd wy ll wh) : pj_CT (nL + 1) (pu kd nL 4) (pu wy nL b) (pu (pu wh k 2) nL 0) := by
  obtain ⟨hop, hed⟩ := hG
  unfold pj_CT pj_R pj_L0 at *
  intro j0 k0
  simp only [pu]
  have g0 := hop b
  have g1 := hop (wy j0)
  have g2 := hop (wy k0)
  have g3 := hed b (wy j0)
  have g4 := hed b (wy k0)
  have g5 := hed (wy j0) (wy k0)
  have cCT_0 := cCT k k
  have cCT_1 := cCT k j0
  have cCT_2 := cCT k k0
  have cCT_3 := cCT j0 k
  have cCT_4 := cCT j0 j0
  have cCT_5 := cCT j0 k0
  have cCT_6 := cCT k0 k
  have cCT_7 := cCT k0 j0
  have cCT_8 := cCT k0 k0
  have cR_0 := cR j0
  have cR_1 := cR k0
  have cL0_0 := cL0 j0
  have f0 := p6_ k
  have f1 := p6_ j0
  have f2 := p6_ k0
  clear p6_
  clear hop hed cCT cR cL0
  grind (splits := 24)

set_option maxHeartbeats 1000000 in
theorem pt_tra_L1 {W : Int → Prop} {sd : Int → Int} {op : Int → Int} {ed : Int → Int} {st : Int → Int} {lv : Int → Int} {nm : Int → Int} {tst : Int → Int} {om : Int → Int} {dl : Int → Int} {en : Int → Int} {fw : Int → Int} {cl : Int → Int} {nL : Int} {kd : Int → Int} {wy : Int → Int} {ll : Int → Int} {td : Int → Int} {ls : Int → Int} {wh : Int → Int} {b k : Int} (hG : pj_G W sd op ed) (p0_ : W b) (p1_ : 0 ≤ k) (p2_ : k < nL) (p3_ : wh k ≠ 2) (p4_ : kd k = 2) (p5_ : wy k = op b) (p6_ : ∀ j, 0 ≤ j → j < k → wy j = wy k → wh j ≠ 0) (p7_ : tst (sd (op b)) = (ed b)) (p8_ : ll k = lv (sd (op b))) (p9_ : td k = nm (sd (op b))) (p10_ : st (sd (op b)) = 1) (p11_ : en b = 0) (p12_ : en b ≠ 2) (p13_ : fw b = 0) (p14_ : nm (sd b) = nm (sd (op b))) (p15_ : lv (sd b) = lv (sd (op b))) (p16_ : 1 ≤ lv (sd b)) (p17_ : tst (sd b) ≠ (ed b)) (p18_ : st (sd b) ≠ 0) (p19_ : om (sd (op b)) ≠ (ed b)) (p20_ : 0 ≤ nL) (cL1 : pj_L1 sd op ed st lv om dl en cl nL kd wy ll td ls wh) (cR : pj_R W nL kd wy wh) : pj_L1 sd op ed st lv om dl (pu en b 2) cl (nL + 1) (pu kd nL 4) (pu wy nL b) (pu ll nL (-1)) (pu td nL (-1)) (pu ls nL (-1)) (pu (pu wh k 2) nL 0) := by
  obtain ⟨hop, hed⟩ := hG
  unfold pj_L1 pj_R at *
  intro k0
  simp only [pu]
  have g0 := hop b
  have g1 := hop (wy k0)
  have g2 := hed b (wy k0)
  have cL1_0 := cL1 k
  have cL1_1 := cL1 k0
  have cR_0 := cR k0
  have f0 := p6_ k
  have f1 := p6_ k0
  clear p6_
  clear hop hed cL1 cR
  grind (splits := 24)

set_option maxHeartbeats 1000000 in
theorem pt_tra_L1e {W : Int → Prop} {sd : Int → Int} {op : Int → Int} {ed : Int → Int} {st : Int → Int} {lv : Int → Int} {nm : Int → Int} {tst : Int → Int} {om : Int → Int} {dl : Int → Int} {dn : Int → Int} {en : Int → Int} {fw : Int → Int} {nL : Int} {kd : Int → Int} {wy : Int → Int} {ll : Int → Int} {td : Int → Int} {ls : Int → Int} {wh : Int → Int} {b k : Int} (hG : pj_G W sd op ed) (p0_ : W b) (p1_ : 0 ≤ k) (p2_ : k < nL) (p3_ : wh k ≠ 2) (p4_ : kd k = 2) (p5_ : wy k = op b) (p6_ : ∀ j, 0 ≤ j → j < k → wy j = wy k → wh j ≠ 0) (p7_ : tst (sd (op b)) = (ed b)) (p8_ : ll k = lv (sd (op b))) (p9_ : td k = nm (sd (op b))) (p10_ : st (sd (op b)) = 1) (p11_ : en b = 0) (p12_ : en b ≠ 2) (p13_ : fw b = 0) (p14_ : nm (sd b) = nm (sd (op b))) (p15_ : lv (sd b) = lv (sd (op b))) (p16_ : 1 ≤ lv (sd b)) (p17_ : tst (sd b) ≠ (ed b)) (p18_ : st (sd b) ≠ 0) (p19_ : om (sd (op b)) ≠ (ed b)) (p20_ : 0 ≤ nL) (cL1e : pj_L1e sd op dl dn nL kd wy ll td ls wh) (cR : pj_R W nL kd wy wh) : pj_L1e sd op dl dn (nL + 1) (pu kd nL 4) (pu wy nL b) (pu ll nL (-1)) (pu td nL (-1)) (pu ls nL (-1)) (pu (pu wh k 2) nL 0) := by
  obtain ⟨hop, hed⟩ := hG
  unfold pj_L1e pj_R at *
  intro k0
  simp only [pu]
  have g0 := hop b
  have g1 := hop (wy k0)
  have g2 := hed b (wy k0)
  have cL1e_0 := cL1e k
  have cL1e_1 := cL1e k0
  have cR_0 := cR k0
  have f0 := p6_ k
  have f1 := p6_ k0
  clear p6_
  clear hop hed cL1e cR
  grind (splits := 24)

set_option maxHeartbeats 1000000 in
theorem pt_tra_L1o {W : Int → Prop} {sd : Int → Int} {op : Int → Int} {ed : Int → Int} {st : Int → Int} {lv : Int → Int} {nm : Int → Int} {tst : Int → Int} {om : Int → Int} {en : Int → Int} {fw : Int → Int} {nL : Int} {kd : Int → Int} {wy : Int → Int} {ll : Int → Int} {td : Int → Int} {wh : Int → Int} {b k : Int} (hG : pj_G W sd op ed) (p0_ : W b) (p1_ : 0 ≤ k) (p2_ : k < nL) (p3_ : wh k ≠ 2) (p4_ : kd k = 2) (p5_ : wy k = op b) (p6_ : ∀ j, 0 ≤ j → j < k → wy j = wy k → wh j ≠ 0) (p7_ : tst (sd (op b)) = (ed b)) (p8_ : ll k = lv (sd (op b))) (p9_ : td k = nm (sd (op b))) (p10_ : st (sd (op b)) = 1) (p11_ : en b = 0) (p12_ : en b ≠ 2) (p13_ : fw b = 0) (p14_ : nm (sd b) = nm (sd (op b))) (p15_ : lv (sd b) = lv (sd (op b))) (p16_ : 1 ≤ lv (sd b)) (p17_ : tst (sd b) ≠ (ed b)) (p18_ : st (sd b) ≠ 0) (p19_ : om (sd (op b)) ≠ (ed b)) (p20_ : 0 ≤ nL) (cL1o : pj_L1o nL kd wy ll wh) (cR : pj_R W nL kd wy wh) : pj_L1o (nL + 1) (pu kd nL 4) (pu wy nL b) (pu ll nL (-1)) (pu (pu wh k 2) nL 0) := by
  obtain ⟨hop, hed⟩ := hG
  unfold pj_L1o pj_R at *
  intro j0 k0
  simp only [pu]
  have g0 := hop b
  have g1 := hop (wy j0)
  have g2 := hop (wy k0)
  have g3 := hed b (wy j0)
  have g4 := hed b (wy k0)
  have g5 := hed (wy j0) (wy k0)
  have cL1o_0 := cL1o k k
  have cL1o_1 := cL1o k j0
  have cL1o_2 := cL1o k k0
  have cL1o_3 := cL1o j0 k
  have cL1o_4 := cL1o j0 j0
  have cL1o_5 := cL1o j0 k0
  have cL1o_6 := cL1o k0 k
  have cL1o_7 := cL1o k0 j0
  have cL1o_8 := cL1o k0 k0
  have cR_0 := cR j0
  have cR_1 := cR k0
  have f0 := p6_ k
  have f1 := p6_ j0
  have f2 := p6_ k0
  clear p6_
  clear hop hed cL1o cR
  grind (splits := 24)

set_option maxHeartbeats 1000000 in
theorem pt_tra_L1b {W : Int → Prop} {sd : Int → Int} {op : Int → Int} {ed : Int → Int} {st : Int → Int} {lv : Int → Int} {nm : Int → Int} {tst : Int → Int} {om : Int → Int} {en : Int → Int} {pd : Int → Int} {fw : Int → Int} {nL : Int} {kd : Int → Int} {wy : Int → Int} {ll : Int → Int} {td : Int → Int} {ls : Int → Int} {wh : Int → Int} {b k : Int} (hG : pj_G W sd op ed) (p0_ : W b) (p1_ : 0 ≤ k) (p2_ : k < nL) (p3_ : wh k ≠ 2) (p4_ : kd k = 2) (p5_ : wy k = op b) (p6_ : ∀ j, 0 ≤ j → j < k → wy j = wy k → wh j ≠ 0) (p7_ : tst (sd (op b)) = (ed b)) (p8_ : ll k = lv (sd (op b))) (p9_ : td k = nm (sd (op b))) (p10_ : st (sd (op b)) = 1) (p11_ : en b = 0) (p12_ : en b ≠ 2) (p13_ : fw b = 0) (p14_ : nm (sd b) = nm (sd (op b))) (p15_ : lv (sd b) = lv (sd (op b))) (p16_ : 1 ≤ lv (sd b)) (p17_ : tst (sd b) ≠ (ed b)) (p18_ : st (sd b) ≠ 0) (p19_ : om (sd (op b)) ≠ (ed b)) (p20_ : 0 ≤ nL) (cL1b : pj_L1b sd ed st om pd nL kd wy td ls wh) (cR : pj_R W nL kd wy wh) : pj_L1b sd ed st om pd (nL + 1) (pu kd nL 4) (pu wy nL b) (pu td nL (-1)) (pu ls nL (-1)) (pu (pu wh k 2) nL 0) := by
  obtain ⟨hop, hed⟩ := hG
  unfold pj_L1b pj_R at *
  intro k0
  simp only [pu]
  have g0 := hop b
  have g1 := hop (wy k0)
  have g2 := hed b (wy k0)
  have cL1b_0 := cL1b k
  have cL1b_1 := cL1b k0
  have cR_0 := cR k0
  have f0 := p6_ k
  have f1 := p6_ k0
  clear p6_
  clear hop hed cL1b cR
  grind (splits := 24)

set_option maxHeartbeats 1000000 in
theorem pt_tra_L1g {W : Int → Prop} {sd : Int → Int} {op : Int → Int} {ed : Int → Int} {st : Int → Int} {lv : Int → Int} {nm : Int → Int} {tst : Int → Int} {om : Int → Int} {en : Int → Int} {fw : Int → Int} {nL : Int} {kd : Int → Int} {wy : Int → Int} {ll : Int → Int} {td : Int → Int} {ls : Int → Int} {wh : Int → Int} {b k : Int} (hG : pj_G W sd op ed) (p0_ : W b) (p1_ : 0 ≤ k) (p2_ : k < nL) (p3_ : wh k ≠ 2) (p4_ : kd k = 2) (p5_ : wy k = op b) (p6_ : ∀ j, 0 ≤ j → j < k → wy j = wy k → wh j ≠ 0) (p7_ : tst (sd (op b)) = (ed b)) (p8_ : ll k = lv (sd (op b))) (p9_ : td k = nm (sd (op b))) (p10_ : st (sd (op b)) = 1) (p11_ : en b = 0) (p12_ : en b ≠ 2) (p13_ : fw b = 0) (p14_ : nm (sd b) = nm (sd (op b))) (p15_ : lv (sd b) = lv (sd (op b))) (p16_ : 1 ≤ lv (sd b)) (p17_ : tst (sd b) ≠ (ed b)) (p18_ : st (sd b) ≠ 0) (p19_ : om (sd (op b)) ≠ (ed b)) (p20_ : 0 ≤ nL) (cL1g : pj_L1g W sd op ed nL kd wy td ls wh) (cR : pj_R W nL kd wy wh) : pj_L1g W sd op ed (nL + 1) (pu kd nL 4) (pu wy nL b) (pu td nL (-1)) (pu ls nL (-1)) (pu (pu wh k 2) nL 0) := by
  obtain ⟨hop, hed⟩ := hG
  unfold pj_L1g pj_R at *
  intro k0 v0
  simp only [pu]
  have g0 := hop b
  have g1 := hop (wy k0)
  have g2 := hop v0
  have g3 := hed b (wy k0)
  have g4 := hed b v0
  have g5 := hed (wy k0) v0
  have cL1g_0 := cL1g k b
  have cL1g_1 := cL1g k (wy k0)
  have cL1g_2 := cL1g k (op (wy k0))
  have cL1g_3 := cL1g k v0
  have cL1g_4 := cL1g k (op v0)
  have cL1g_5 := cL1g k0 b
  have cL1g_6 := cL1g k0 (wy k0)
  have cL1g_7 := cL1g k0 (op (wy k0))
  have cL1g_8 := cL1g k0 v0
  have cL1g_9 := cL1g k0 (op v0)
  have cR_0 := cR k0
  have f0 := p6_ k
  have f1 := p6_ k0
  clear p6_
  clear hop hed cL1g cR
  grind (splits := 24)

set_option maxHeartbeats 1000000 in
theorem pt_tra_L2 {W : Int → Prop} {sd : Int → Int} {op : Int → Int} {ed : Int → Int} {st : Int → Int} {lv : Int → Int} {nm : Int → Int} {tst : Int → Int} {om : Int → Int} {en : Int → Int} {fw : Int → Int} {nL : Int} {kd : Int → Int} {wy : Int → Int} {ll : Int → Int} {td : Int → Int} {wh : Int → Int} {b k : Int} (hG : pj_G W sd op ed) (p0_ : W b) (p1_ : 0 ≤ k) (p2_ : k < nL) (p3_ : wh k ≠ 2) (p4_ : kd k = 2) (p5_ : wy k = op b) (p6_ : ∀ j, 0 ≤ j → j < k → wy j = wy k → wh j ≠ 0) (p7_ : tst (sd (op b)) = (ed b)) (p8_ : ll k = lv (sd (op b))) (p9_ : td k = nm (sd (op b))) (p10_ : st (sd (op b)) = 1) (p11_ : en b = 0) (p12_ : en b ≠ 2) (p13_ : fw b = 0) (p14_ : nm (sd b) = nm (sd (op b))) (p15_ : lv (sd b) = lv (sd (op b))) (p16_ : 1 ≤ lv (sd b)) (p17_ : tst (sd b) ≠ (ed b)) (p18_ : st (sd b) ≠ 0) (p19_ : om (sd (op b)) ≠ (ed b)) (p20_ : 0 ≤ nL) (cR : pj_R W nL kd wy wh) (cCV : pj_CV W sd op ed tst nL kd wy wh) (cL3 : pj_L3 sd op ed st lv nm tst en fw nL kd wy wh) (cL4 : pj_L4 sd op ed st tst en nL kd wy wh) (cL2 : pj_L2 sd op ed st lv nm tst en fw nL kd wy ll td wh) : pj_L2 sd op ed st lv nm tst (pu en b 2) (pu fw b 1) (nL + 1) (pu kd nL 4) (pu wy nL b) (pu ll nL (-1)) (pu td nL (-1)) (pu (pu wh k 2) nL 0) := by
  obtain ⟨hop, hed⟩ := hG
  unfold pj_R pj_CV pj_L3 pj_L4 pj_L2 at *
  intro k0
  simp only [pu]
  have g0 := hop b
  have g1 := hop (wy k0)
  have g2 := hed b (wy k0)
  have cR_0 := cR k0
  have cCV_0 := cCV b k0 k
  have cCV_1 := cCV (op b) k0 k
  have cL3_0 := cL3 k0
  have cL4_0 := cL4 k0
  have cL2_0 := cL2 k0
  have f0 := p6_ k
  have f1 := p6_ k0
  clear p6_
  clear hop hed cR cCV cL3 cL4 cL2
  grind (splits := 24)

set_option maxHeartbeats 1000000 in
theorem pt_tra_L3 {W : Int → Prop} {sd : Int → Int} {op : Int → Int} {ed : Int → Int} {st : Int → Int} {lv : Int → Int} {nm : Int → Int} {tst : Int → Int} {om : Int → Int} {en : Int → Int} {fw : Int → Int} {nL : Int} {kd : Int → Int} {wy : Int → Int} {ll : Int → Int} {td : Int → Int} {wh : Int → Int} {b k : Int} (hG : pj_G W sd op ed) (p0_ : W b) (p1_ : 0 ≤ k) (p2_ : k < nL) (p3_ : wh k ≠ 2) (p4_ : kd k = 2) (p5_ : wy k = op b) (p6_ : ∀ j, 0 ≤ j → j < k → wy j = wy k → wh j ≠ 0) (p7_ : tst (sd (op b)) = (ed b)) (p8_ : ll k = lv (sd (op b))) (p9_ : td k = nm (sd (op b))) (p10_ : st (sd (op b)) = 1) (p11_ : en b = 0) (p12_ : en b ≠ 2) (p13_ : fw b = 0) (p14_ : nm (sd b) = nm (sd (op b))) (p15_ : lv (sd b) = lv (sd (op b))) (p16_ : 1 ≤ lv (sd b)) (p17_ : tst (sd b) ≠ (ed b)) (p18_ : st (sd b) ≠ 0) (p19_ : om (sd (op b)) ≠ (ed b)) (p20_ : 0 ≤ nL) (cR : pj_R W nL kd wy wh) (cCV : pj_CV W sd op ed tst nL kd wy wh) (cL3 : pj_L3 sd op ed st lv nm tst en fw nL kd wy wh) (cL4 : pj_L4 sd op ed st tst en nL kd wy wh) (cL2 : pj_L2 sd op ed st lv nm tst en fw nL kd wy ll td wh) : pj_L3 sd op ed st lv nm tst (pu en b 2) (pu fw b 1) (nL + 1) (pu kd nL 4) (pu wy nL b) (pu (pu wh k 2) nL 0) := by
  obtain ⟨hop, hed⟩ := hG
  unfold pj_R pj_CV pj_L3 pj_L4 pj_L2 at *
  intro k0
  simp only [pu]
  have g0 := hop b
  have g1 := hop (wy k0)
  have g2 := hed b (wy k0)
  have cR_0 := cR k0
  have cCV_0 := cCV b k0 k
  have cCV_1 := cCV (op b) k0 k
  have cL3_0 := cL3 k0
  have cL4_0 := cL4 k0
  have cL2_0 := cL2 k0
  have f0 := p6_ k
  have f1 := p6_ k0
  clear p6_
  clear hop hed cR cCV cL3 cL4 cL2
  grind (splits := 24)

set_option maxHeartbeats 1000000 in
theorem pt_tra_L4 {W : Int → Prop} {sd : Int → Int} {op : Int → Int} {ed : Int → Int} {st : Int → Int} {lv : Int → Int} {nm : Int → Int} {tst : Int → Int} {om : Int → Int} {en : Int → Int} {fw : Int → Int} {nL : Int} {kd : Int → Int} {wy : Int → Int} {ll : Int → Int} {td : Int → Int} {wh : Int → Int} {b k : Int} (hG : pj_G W sd op ed) (p0_ : W b) (p1_ : 0 ≤ k) (p2_ : k < nL) (p3_ : wh k ≠ 2) (p4_ : kd k = 2) (p5_ : wy k = op b) (p6_ : ∀ j, 0 ≤ j → j < k → wy j = wy k → wh j ≠ 0) (p7_ : tst (sd (op b)) = (ed b)) (p8_ : ll k = lv (sd (op b))) (p9_ : td k = nm (sd (op b))) (p10_ : st (sd (op b)) = 1) (p11_ : en b = 0) (p12_ : en b ≠ 2) (p13_ : fw b = 0) (p14_ : nm (sd b) = nm (sd (op b))) (p15_ : lv (sd b) = lv (sd (op b))) (p16_ : 1 ≤ lv (sd b)) (p17_ : tst (sd b) ≠ (ed b)) (p18_ : st (sd b) ≠ 0) (p19_ : om (sd (op b)) ≠ (ed b)) (p20_ : 0 ≤ nL) (cR : pj_R W nL kd wy wh) (cCV : pj_CV W sd op ed tst nL kd wy wh) (cL3 : pj_L3 sd op ed st lv nm tst en fw nL kd wy wh) (cL4 : pj_L4 sd op ed st tst en nL kd wy wh) (cL2 : pj_L2 sd op ed st lv nm tst en fw nL kd wy ll td wh) : pj_L4 sd op ed st tst (pu en b 2) (nL + 1) (pu kd nL 4) (pu wy nL b) (pu (pu wh k 2) nL 0) := by
  obtain ⟨hop, hed⟩ := hG
  unfold pj_R pj_CV pj_L3 pj_L4 pj_L2 at *
  intro k0
  simp only [pu]
  have g0 := hop b
  have g1 := hop (wy k0)
  have g2 := hed b (wy k0)
  have cR_0 := cR k0
  have cCV_0 := cCV b k0 k
  have cCV_1 := cCV (op b) k0 k
  have cL3_0 := cL3 k0
  have cL4_0 := cL4 k0
  have cL2_0 := cL2 k0
  have f0 := p6_ k
  have f1 := p6_ k0
  clear p6_
  clear hop hed cR cCV cL3 cL4 cL2
  grind (splits := 24)

set_option maxHeartbeats 1000000 in
theorem pt_tra_AF {W : Int → Prop} {sd : Int → Int} {op : Int → Int} {ed : Int → Int} {st : Int → Int} {lv : Int → Int} {nm : Int → Int} {tst : Int → Int} {om : Int → Int} {af : Int → Int} {en : Int → Int} {fw : Int → Int} {nL : Int} {kd : Int → Int} {wy : Int → Int} {ll : Int → Int} {td : Int → Int} {wh : Int → Int} {b k : Int} (hG : pj_G W sd op ed) (p0_ : W b) (p1_ : 0 ≤ k) (p2_ : k < nL) (p3_ : wh k ≠ 2) (p4_ : kd k = 2) (p5_ : wy k = op b) (p6_ : ∀ j, 0 ≤ j → j < k → wy j = wy k → wh j ≠ 0) (p7_ : tst (sd (op b)) = (ed b)) (p8_ : ll k = lv (sd (op b))) (p9_ : td k = nm (sd (op b))) (p10_ : st (sd (op b)) = 1) (p11_ : en b = 0) (p12_ : en b ≠ 2) (p13_ : fw b = 0) (p14_ : nm (sd b) = nm (sd (op b))) (p15_ : lv (sd b) = lv (sd (op b))) (p16_ : 1 ≤ lv (sd b)) (p17_ : tst (sd b) ≠ (ed b)) (p18_ : st (sd b) ≠ 0) (p19_ : om (sd (op b)) ≠ (ed b)) (p20_ : 0 ≤ nL) (cAF : pj_AF W sd op ed tst af nL kd wy wh) : pj_AF W sd op ed tst af (nL + 1) (pu kd nL 4) (pu wy nL b) (pu (pu wh k 2) nL 0) := by
  obtain ⟨hop, hed⟩ := hG
  unfold pj_AF at *
  intro v0
  simp only [pu]
  have g0 := hop b
  have g1 := hop v0
  have g2 := hed b v0
  have cAF_0 := cAF b
  have cAF_1 := cAF v0
  have cAF_2 := cAF (op v0)
  have f0 := p6_ k
  clear p6_
  clear hop hed cAF
  grind (splits := 24)

set_option maxHeartbeats 1000000 in
theorem pt_tra_RT {W : Int → Prop} {sd : Int → Int} {op : Int → Int} {ed : Int → Int} {st : Int → Int} {lv : Int → Int} {nm : Int → Int} {tst : Int → Int} {om : Int → Int} {en : Int → Int} {fw : Int → Int} {nL : Int} {kd : Int → Int} {wy : Int → Int} {ll : Int → Int} {td : Int → Int} {wh : Int → Int} {b k : Int} (hG : pj_G W sd op ed) (p0_ : W b) (p1_ : 0 ≤ k) (p2_ : k < nL) (p3_ : wh k ≠ 2) (p4_ : kd k = 2) (p5_ : wy k = op b) (p6_ : ∀ j, 0 ≤ j → j < k → wy j = wy k → wh j ≠ 0) (p7_ : tst (sd (op b)) = (ed b)) (p8_ : ll k = lv (sd (op b))) (p9_ : td k = nm (sd (op b))) (p10_ : st (sd (op b)) = 1) (p11_ : en b = 0) (p12_ : en b ≠ 2) (p13_ : fw b = 0) (p14_ : nm (sd b) = nm (sd (op b))) (p15_ : lv (sd b) = lv (sd (op b))) (p16_ : 1 ≤ lv (sd b)) (p17_ : tst (sd b) ≠ (ed b)) (p18_ : st (sd b) ≠ 0) (p19_ : om (sd (op b)) ≠ (ed b)) (p20_ : 0 ≤ nL) (cRT : pj_RT sd ed tst nL kd wy wh) (cR : pj_R W nL kd wy wh) (cCV : pj_CV W sd op ed tst nL kd wy wh) (cL2 : pj_L2 sd op ed st lv nm tst en fw nL kd wy ll td wh) (cL4 : pj_L4 sd op ed st tst en nL kd wy wh) : pj_RT sd ed tst (nL + 1) (pu kd nL 4) (pu wy nL b) (pu (pu wh k 2) nL 0) := by
  obtain ⟨hop, hed⟩ := hG
  unfold pj_RT pj_R pj_CV pj_L2 pj_L4 at *
  intro j0 k0
  simp only [pu]
  have g0 := hop b
  have g1 := hop (wy j0)
  have g2 := hop (wy k0)
  have g3 := hed b (wy j0)
  have g4 := hed b (wy k0)
  have g5 := hed (wy j0) (wy k0)
  have cRT_0 := cRT k k
  have cRT_1 := cRT k j0
  have cRT_2 := cRT k k0
  have cRT_3 := cRT j0 k
  have cRT_4 := cRT j0 j0
  have cRT_5 := cRT j0 k0
  have cRT_6 := cRT k0 k
  have cRT_7 := cRT k0 j0
  have cRT_8 := cRT k0 k0
  have cR_0 := cR j0
  have cR_1 := cR k0
  have cCV_0 := cCV b j0 k
  have cCV_1 := cCV (op b) j0 k
  have cCV_2 := cCV b k0 k
  have cCV_3 := cCV (op b) k0 k
  have cL2_0 := cL2 k
  have cL2_1 := cL2 j0
  have cL2_2 := cL2 k0
  have cL4_0 := cL4 k
  have cL4_1 := cL4 j0
  have cL4_2 := cL4 k0
  have f0 := p6_ k
  have f1 := p6_ j0
  have f2 := p6_ k0
  clear p6_
  clear hop hed cRT cR cCV cL2 cL4
  grind (splits := 24)

set_option maxHeartbeats 1000000 in
theorem pt_tra_CV {W : Int → Prop} {sd : Int → Int} {op : Int → Int} {ed : Int → Int} {st : Int → Int} {lv : Int → Int} {nm : Int → Int} {tst : Int → Int} {om : Int → Int} {en : Int → Int} {fw : Int → Int} {nL : Int} {kd : Int → Int} {wy : Int → Int} {ll : Int → Int} {td : Int → Int} {wh : Int → Int} {b k : Int} (hG : pj_G W sd op ed) (p0_ : W b) (p1_ : 0 ≤ k) (p2_ : k < nL) (p3_ : wh k ≠ 2) (p4_ : kd k = 2) (p5_ : wy k = op b) (p6_ : ∀ j, 0 ≤ j → j < k → wy j = wy k → wh j ≠ 0) (p7_ : tst (sd (op b)) = (ed b)) (p8_ : ll k = lv (sd (op b))) (p9_ : td k = nm (sd (op b))) (p10_ : st (sd (op b)) = 1) (p11_ : en b = 0) (p12_ : en b ≠ 2) (p13_ : fw b = 0) (p14_ : nm (sd b) = nm (sd (op b))) (p15_ : lv (sd b) = lv (sd (op b))) (p16_ : 1 ≤ lv (sd b)) (p17_ : tst (sd b) ≠ (ed b)) (p18_ : st (sd b) ≠ 0) (p19_ : om (sd (op b)) ≠ (ed b)) (p20_ : 0 ≤ nL) (cR : pj_R W nL kd wy wh) (cCV : pj_CV W sd op ed tst nL kd wy wh) : pj_CV W sd op ed tst (nL + 1) (pu kd nL 4) (pu wy nL b) (pu (pu wh k 2) nL 0) := by
  obtain ⟨hop, hed⟩ := hG
  unfold pj_R pj_CV at *
  intro v0 j0 k0
  simp only [pu]
  have g0 := hop b
  have g1 := hop v0
  have g2 := hop (wy j0)
  have g3 := hop (wy k0)
  have g4 := hed b v0
  have g5 := hed b (wy j0)
  have g6 := hed b (wy k0)
  have g7 := hed v0 (wy j0)
  have g8 := hed v0 (wy k0)
  have g9 := hed (wy j0) (wy k0)
  have cR_0 := cR j0
  have cR_1 := cR k0
  have cCV_0 := cCV v0 j0 k0
  have cCV_1 := cCV b j0 k
  have cCV_2 := cCV b k0 k
  have cCV_3 := cCV (op b) j0 k
  have cCV_4 := cCV (op b) k0 k
  have f0 := p6_ k
  have f1 := p6_ j0
  have f2 := p6_ k0
  clear p6_
  clear hop hed cR cCV
  grind (splits := 24)

set_option maxHeartbeats 1000000 in
theorem pt_tra_L5 {W : Int → Prop} {sd : Int → Int} {op : Int → Int} {ed : Int → Int} {st : Int → Int} {lv : Int → Int} {nm : Int → Int} {inw : Int → Int} {bst : Int → Int} {tst : Int → Int} {om : Int → Int} {ps : Int → Int} {dl : Int → Int} {en : Int → Int} {pd : Int → Int} {rp : Int → Int} {rv : Int → Int} {fw : Int → Int} {cl : Int → Int} {tk : Int → Int} {nL : Int} {kd : Int → Int} {wy : Int → Int} {ll : Int → Int} {td : Int → Int} {wh : Int → Int} {b k : Int} (hG : pj_G W sd op ed) (p0_ : W b) (p1_ : 0 ≤ k) (p2_ : k < nL) (p3_ : wh k ≠ 2) (p4_ : kd k = 2) (p5_ : wy k = op b) (p6_ : ∀ j, 0 ≤ j → j < k → wy j = wy k → wh j ≠ 0) (p7_ : tst (sd (op b)) = (ed b)) (p8_ : ll k = lv (sd (op b))) (p9_ : td k = nm (sd (op b))) (p10_ : st (sd (op b)) = 1) (p11_ : en b = 0) (p12_ : en b ≠ 2) (p13_ : fw b = 0) (p14_ : nm (sd b) = nm (sd (op b))) (p15_ : lv (sd b) = lv (sd (op b))) (p16_ : 1 ≤ lv (sd b)) (p17_ : tst (sd b) ≠ (ed b)) (p18_ : st (sd b) ≠ 0) (p19_ : om (sd (op b)) ≠ (ed b)) (p20_ : 0 ≤ nL) (cL5 : pj_L5 sd op ed st lv nm inw bst om ps dl pd rp rv cl tk nL kd wy td wh) (cR : pj_R W nL kd wy wh) : pj_L5 sd op ed st lv nm inw bst om ps dl pd rp rv cl tk (nL + 1) (pu kd nL 4) (pu wy nL b) (pu td nL (-1)) (pu (pu wh k 2) nL 0) := by
  obtain ⟨hop, hed⟩ := hG
  unfold pj_L5 pj_R at *
  intro k0
  simp only [pu]
  have g0 := hop b
  have g1 := hop (wy k0)
  have g2 := hed b (wy k0)
  have cL5_0 := cL5 k
  have cL5_1 := cL5 k0
  have cR_0 := cR k0
  have f0 := p6_ k
  have f1 := p6_ k0
  clear p6_
  clear hop hed cL5 cR
  grind (splits := 24)

set_option maxHeartbeats 1000000 in
theorem pt_tra_L5o {W : Int → Prop} {sd : Int → Int} {op : Int → Int} {ed : Int → Int} {st : Int → Int} {lv : Int → Int} {nm : Int → Int} {tst : Int → Int} {om : Int → Int} {en : Int → Int} {fw : Int → Int} {cl : Int → Int} {nL : Int} {kd : Int → Int} {wy : Int → Int} {ll : Int → Int} {td : Int → Int} {wh : Int → Int} {b k : Int} (hG : pj_G W sd op ed) (p0_ : W b) (p1_ : 0 ≤ k) (p2_ : k < nL) (p3_ : wh k ≠ 2) (p4_ : kd k = 2) (p5_ : wy k = op b) (p6_ : ∀ j, 0 ≤ j → j < k → wy j = wy k → wh j ≠ 0) (p7_ : tst (sd (op b)) = (ed b)) (p8_ : ll k = lv (sd (op b))) (p9_ : td k = nm (sd (op b))) (p10_ : st (sd (op b)) = 1) (p11_ : en b = 0) (p12_ : en b ≠ 2) (p13_ : fw b = 0) (p14_ : nm (sd b) = nm (sd (op b))) (p15_ : lv (sd b) = lv (sd (op b))) (p16_ : 1 ≤ lv (sd b)) (p17_ : tst (sd b) ≠ (ed b)) (p18_ : st (sd b) ≠ 0) (p19_ : om (sd (op b)) ≠ (ed b)) (p20_ : 0 ≤ nL) (cL5o : pj_L5o sd op ed lv cl nL kd wy wh) (cR : pj_R W nL kd wy wh) : pj_L5o sd op ed lv cl (nL + 1) (pu kd nL 4) (pu wy nL b) (pu (pu wh k 2) nL 0) := by
  obtain ⟨hop, hed⟩ := hG
  unfold pj_L5o pj_R at *
  intro j0 k0
  simp only [pu]
  have g0 := hop b
  have g1 := hop (wy j0)
  have g2 := hop (wy k0)
  have g3 := hed b (wy j0)
  have g4 := hed b (wy k0)
  have g5 := hed (wy j0) (wy k0)
  have cL5o_0 := cL5o k k
  have cL5o_1 := cL5o k j0
  have cL5o_2 := cL5o k k0
  have cL5o_3 := cL5o j0 k
  have cL5o_4 := cL5o j0 j0
  have cL5o_5 := cL5o j0 k0
  have cL5o_6 := cL5o k0 k
  have cL5o_7 := cL5o k0 j0
  have cL5o_8 := cL5o k0 k0
  have cR_0 := cR j0
  have cR_1 := cR k0
  have f0 := p6_ k
  have f1 := p6_ j0
  have f2 := p6_ k0
  clear p6_
  clear hop hed cL5o cR
  grind (splits := 24)

set_option maxHeartbeats 1000000 in
theorem pt_tra_L5u {W : Int → Prop} {sd : Int → Int} {op : Int → Int} {ed : Int → Int} {st : Int → Int} {lv : Int → Int} {nm : Int → Int} {tst : Int → Int} {om : Int → Int} {en : Int → Int} {fw : Int → Int} {nL : Int} {kd : Int → Int} {wy : Int → Int} {ll : Int → Int} {td : Int → Int} {wh : Int → Int} {b k : Int} (hG : pj_G W sd op ed) (p0_ : W b) (p1_ : 0 ≤ k) (p2_ : k < nL) (p3_ : wh k ≠ 2) (p4_ : kd k = 2) (p5_ : wy k = op b) (p6_ : ∀ j, 0 ≤ j → j < k → wy j = wy k → wh j ≠ 0) (p7_ : tst (sd (op b)) = (ed b)) (p8_ : ll k = lv (sd (op b))) (p9_ : td k = nm (sd (op b))) (p10_ : st (sd (op b)) = 1) (p11_ : en b = 0) (p12_ : en b ≠ 2) (p13_ : fw b = 0) (p14_ : nm (sd b) = nm (sd (op b))) (p15_ : lv (sd b) = lv (sd (op b))) (p16_ : 1 ≤ lv (sd b)) (p17_ : tst (sd b) ≠ (ed b)) (p18_ : st (sd b) ≠ 0) (p19_ : om (sd (op b)) ≠ (ed b)) (p20_ : 0 ≤ nL) (cL5u : pj_L5u nL kd wy wh) (cR : pj_R W nL kd wy wh) : pj_L5u (nL + 1) (pu kd nL 4) (pu wy nL b) (pu (pu wh k 2) nL 0) := by
  obtain ⟨hop, hed⟩ := hG
  unfold pj_L5u pj_R at *
  intro j0 k0
  simp only [pu]
  have g0 := hop b
  have g1 := hop (wy j0)
  have g2 := hop (wy k0)
  have g3 := hed b (wy j0)
  have g4 := hed b (wy k0)
  have g5 := hed (wy j0) (wy k0)
  have cL5u_0 := cL5u k k
  have cL5u_1 := cL5u k j0
  have cL5u_2 := cL5u k k0
  have cL5u_3 := cL5u j0 k
  have cL5u_4 := cL5u j0 j0
  have cL5u_5 := cL5u j0 k0
  have cL5u_6 := cL5u k0 k
  have cL5u_7 := cL5u k0 j0
  have cL5u_8 := cL5u k0 k0
  have cR_0 := cR j0
  have cR_1 := cR k0
  have f0 := p6_ k
  have f1 := p6_ j0
  have f2 := p6_ k0
  clear p6_
  clear hop hed cL5u cR
  grind (splits := 24)

set_option maxHeartbeats 1000000 in
theorem pt_tra_L6 {W : Int → Prop} {sd : Int → Int} {op : Int → Int} {ed : Int → Int} {st : Int → Int} {lv : Int → Int} {nm : Int → Int} {tow : Int → Int} {tst : Int → Int} {om : Int → Int} {ps : Int → Int} {dl : Int → Int} {en : Int → Int} {fw : Int → Int} {cw : Int → Int} {tk : Int → Int} {nL : Int} {kd : Int → Int} {wy : Int → Int} {ll : Int → Int} {td : Int → Int} {wh : Int → Int} {b k : Int} (hG : pj_G W sd op ed) (p0_ : W b) (p1_ : 0 ≤ k) (p2_ : k < nL) (p3_ : wh k ≠ 2) (p4_ : kd k = 2) (p5_ : wy k = op b) (p6_ : ∀ j, 0 ≤ j → j < k → wy j = wy k → wh j ≠ 0) (p7_ : tst (sd (op b)) = (ed b)) (p8_ : ll k = lv (sd (op b))) (p9_ : td k = nm (sd (op b))) (p10_ : st (sd (op b)) = 1) (p11_ : en b = 0) (p12_ : en b ≠ 2) (p13_ : fw b = 0) (p14_ : nm (sd b) = nm (sd (op b))) (p15_ : lv (sd b) = lv (sd (op b))) (p16_ : 1 ≤ lv (sd b)) (p17_ : tst (sd b) ≠ (ed b)) (p18_ : st (sd b) ≠ 0) (p19_ : om (sd (op b)) ≠ (ed b)) (p20_ : 0 ≤ nL) (cL6 : pj_L6 sd op ed st lv nm tow om ps dl cw tk nL kd wy wh) (cR : pj_R W nL kd wy wh) : pj_L6 sd op ed st lv nm tow om ps dl cw tk (nL + 1) (pu kd nL 4) (pu wy nL b) (pu (pu wh k 2) nL 0) := by
  obtain ⟨hop, hed⟩ := hG
  unfold pj_L6 pj_R at *
  intro k0
  simp only [pu]
  have g0 := hop b
  have g1 := hop (wy k0)
  have g2 := hed b (wy k0)
  have cL6_0 := cL6 k
  have cL6_1 := cL6 k0
  have cR_0 := cR k0
  have f0 := p6_ k
  have f1 := p6_ k0
  clear p6_
  clear hop hed cL6 cR
  grind (splits := 24)

set_option maxHeartbeats 1000000 in
theorem pt_tra_L6u {W : Int → Prop} {sd : Int → Int} {op : Int → Int} {ed : Int → Int} {st : Int → Int} {lv : Int → Int} {nm : Int → Int} {tst : Int → Int} {om : Int → Int} {en : Int → Int} {fw : Int → Int} {nL : Int} {kd : Int → Int} {wy : Int → Int} {ll : Int → Int} {td : Int → Int} {wh : Int → Int} {b k : Int} (hG : pj_G W sd op ed) (p0_ : W b) (p1_ : 0 ≤ k) (p2_ : k < nL) (p3_ : wh k ≠ 2) (p4_ : kd k = 2) (p5_ : wy k = op b) (p6_ : ∀ j, 0 ≤ j → j < k → wy j = wy k → wh j ≠ 0) (p7_ : tst (sd (op b)) = (ed b)) (p8_ : ll k = lv (sd (op b))) (p9_ : td k = nm (sd (op b))) (p10_ : st (sd (op b)) = 1) (p11_ : en b = 0) (p12_ : en b ≠ 2) (p13_ : fw b = 0) (p14_ : nm (sd b) = nm (sd (op b))) (p15_ : lv (sd b) = lv (sd (op b))) (p16_ : 1 ≤ lv (sd b)) (p17_ : tst (sd b) ≠ (ed b)) (p18_ : st (sd b) ≠ 0) (p19_ : om (sd (op b)) ≠ (ed b)) (p20_ : 0 ≤ nL) (cL6u : pj_L6u sd op nm nL kd wy wh) (cR : pj_R W nL kd wy wh) : pj_L6u sd op nm (nL + 1) (pu kd nL 4) (pu wy nL b) (pu (pu wh k 2) nL 0) := by
  obtain ⟨hop, hed⟩ := hG
  unfold pj_L6u pj_R at *
  intro j0 k0
  simp only [pu]
  have g0 := hop b
  have g1 := hop (wy j0)
  have g2 := hop (wy k0)
  have g3 := hed b (wy j0)
  have g4 := hed b (wy k0)
  have g5 := hed (wy j0) (wy k0)
  have cL6u_0 := cL6u k k
  have cL6u_1 := cL6u k j0
  have cL6u_2 := cL6u k k0
  have cL6u_3 := cL6u j0 k
  have cL6u_4 := cL6u j0 j0
  have cL6u_5 := cL6u j0 k0
  have cL6u_6 := cL6u k0 k
  have cL6u_7 := cL6u k0 j0
  have cL6u_8 := cL6u k0 k0
  have cR_0 := cR j0
  have cR_1 := cR k0
  have f0 := p6_ k
  have f1 := p6_ j0
  have f2 := p6_ k0
  clear p6_
  clear hop hed cL6u cR
  grind (splits := 24)

theorem pj_tra {W : Int → Prop} {sd op ed : Int → Int} {li : Int → Int → Prop} {st lv nm inw tow bst tst exp om ps dl dn af c0 en pd rp rv fw cl cw tk kd wy ll td ls wh : Int → Int} {nL : Int} {F F2 : Int → Prop} {fl fc : Int} {b k : Int} (hG : pj_G W sd op ed) (p0_ : W b) (p1_ : 0 ≤ k) (p2_ : k < nL) (p3_ : wh k ≠ 2) (p4_ : kd k = 2) (p5_ : wy k = op b) (p6_ : ∀ j, 0 ≤ j → j < k → wy j = wy k → wh j ≠ 0) (p7_ : tst (sd (op b)) = (ed b)) (p8_ : ll k = lv (sd (op b))) (p9_ : td k = nm (sd (op b))) (p10_ : st (sd (op b)) = 1) (p11_ : en b = 0) (p12_ : en b ≠ 2) (p13_ : fw b = 0) (p14_ : nm (sd b) = nm (sd (op b))) (p15_ : lv (sd b) = lv (sd (op b))) (p16_ : 1 ≤ lv (sd b)) (p17_ : tst (sd b) ≠ (ed b)) (p18_ : st (sd b) ≠ 0) (p19_ : om (sd (op b)) ≠ (ed b)) (p20_ : 0 ≤ nL) (h : pj_J W sd op ed li st lv nm inw tow bst tst exp om ps dl dn af c0 en pd rp rv fw cl cw tk nL kd wy ll td ls wh F fl fc) : pj_J W sd op ed li st lv nm inw tow bst tst exp om ps dl dn af c0 (pu en b 2) pd rp rv (pu fw b 1) cl cw tk (nL + 1) (pu kd nL 4) (pu wy nL b) (pu ll nL (-1)) (pu td nL (-1)) (pu ls nL (-1)) (pu (pu wh k 2) nL 0) F fl fc := by
  obtain ⟨cR, cN0, cN1, cN1w, cER, cN1c, cN2, cN2e, cN2b, cN4e, cN4b, cN5, cN7, cN10, cN10e, cN13, cC1, cC2, cR3a, cE1, cU, cA1, cA2, cEC, cR3, cN11, cN12, cN3, cRJ, cFW, cPD, cCC, cCD, cRP, cRP1, cCR, cZ1, cZ0, cTK, cK2, cWH, cFI, cL0, cFC, cL0u, cOC, cCT, cL1, cL1e, cL1o, cL1b, cL1g, cL2, cL3, cL4, cAF, cRT, cCV, cL5, cL5o, cL5u, cL6, cL6u⟩ := h
  exact ⟨pt_tra_R hG p0_ p1_ p2_ p3_ p4_ p5_ p6_ p7_ p8_ p9_ p10_ p11_ p12_ p13_ p14_ p15_ p16_ p17_ p18_ p19_ p20_ cR, cN0, cN1, pt_tra_N1w hG p0_ p1_ p2_ p3_ p4_ p5_ p6_ p7_ p8_ p9_ p10_ p11_ p12_ p13_ p14_ p15_ p16_ p17_ p18_ p19_ p20_ cN1w, pt_tra_ER hG p0_ p1_ p2_ p3_ p4_ p5_ p6_ p7_ p8_ p9_ p10_ p11_ p12_ p13_ p14_ p15_ p16_ p17_ p18_ p19_ p20_ cER, pt_tra_N1c hG p0_ p1_ p2_ p3_ p4_ p5_ p6_ p7_ p8_ p9_ p10_ p11_ p12_ p13_ p14_ p15_ p16_ p17_ p18_ p19_ p20_ cN1c cR, pt_tra_N2 hG p0_ p1_ p2_ p3_ p4_ p5_ p6_ p7_ p8_ p9_ p10_ p11_ p12_ p13_ p14_ p15_ p16_ p17_ p18_ p19_ p20_ cN2, cN2e, cN2b, cN4e, cN4b, cN5, cN7, cN10, cN10e, cN13, cC1, cC2, cR3a, pt_tra_E1 hG p0_ p1_ p2_ p3_ p4_ p5_ p6_ p7_ p8_ p9_ p10_ p11_ p12_ p13_ p14_ p15_ p16_ p17_ p18_ p19_ p20_ cE1, pt_tra_U hG p0_ p1_ p2_ p3_ p4_ p5_ p6_ p7_ p8_ p9_ p10_ p11_ p12_ p13_ p14_ p15_ p16_ p17_ p18_ p19_ p20_ cU, pt_tra_A1 hG p0_ p1_ p2_ p3_ p4_ p5_ p6_ p7_ p8_ p9_ p10_ p11_ p12_ p13_ p14_ p15_ p16_ p17_ p18_ p19_ p20_ cA1, cA2, pt_tra_EC hG p0_ p1_ p2_ p3_ p4_ p5_ p6_ p7_ p8_ p9_ p10_ p11_ p12_ p13_ p14_ p15_ p16_ p17_ p18_ p19_ p20_ cEC, cR3, pt_tra_N11 hG p0_ p1_ p2_ p3_ p4_ p5_ p6_ p7_ p8_ p9_ p10_ p11_ p12_ p13_ p14_ p15_ p16_ p17_ p18_ p19_ p20_ cN11, pt_tra_N12 hG p0_ p1_ p2_ p3_ p4_ p5_ p6_ p7_ p8_ p9_ p10_ p11_ p12_ p13_ p14_ p15_ p16_ p17_ p18_ p19_ p20_ cN12, pt_tra_N3 hG p0_ p1_ p2_ p3_ p4_ p5_ p6_ p7_ p8_ p9_ p10_ p11_ p12_ p13_ p14_ p15_ p16_ p17_ p18_ p19_ p20_ cN3, pt_tra_RJ hG p0_ p1_ p2_ p3_ p4_ p5_ p6_ p7_ p8_ p9_ p10_ p11_ p12_ p13_ p14_ p15_ p16_ p17_ p18_ p19_ p20_ cRJ, pt_tra_FW hG p0_ p1_ p2_ p3_ p4_ p5_ p6_ p7_ p8_ p9_ p10_ p11_ p12_ p13_ p14_ p15_ p16_ p17_ p18_ p19_ p20_ cFW, pt_tra_PD hG p0_ p1_ p2_ p3_ p4_ p5_ p6_ p7_ p8_ p9_ p10_ p11_ p12_ p13_ p14_ p15_ p16_ p17_ p18_ p19_ p20_ cPD, pt_tra_CC hG p0_ p1_ p2_ p3_ p4_ p5_ p6_ p7_ p8_ p9_ p10_ p11_ p12_ p13_ p14_ p15_ p16_ p17_ p18_ p19_ p20_ cCC, cCD, cRP, cRP1, cCR, cZ1, cZ0, cTK, cK2, pt_tra_WH hG p0_ p1_ p2_ p3_ p4_ p5_ p6_ p7_ p8_ p9_ p10_ p11_ p12_ p13_ p14_ p15_ p16_ p17_ p18_ p19_ p20_ cWH cR, pt_tra_FI hG p0_ p1_ p2_ p3_ p4_ p5_ p6_ p7_ p8_ p9_ p10_ p11_ p12_ p13_ p14_ p15_ p16_ p17_ p18_ p19_ p20_ cFI cR, pt_tra_L0 hG p0_ p1_ p2_ p3_ p4_ p5_ p6_ p7_ p8_ p9_ p10_ p11_ p12_ p13_ p14_ p15_ p16_ p17_ p18_ p19_ p20_ cL0 cR cN0, pt_tra_FC hG p0_ p1_ p2_ p3_ p4_ p5_ p6_ p7_ p8_ p9_ p10_ p11_ p12_ p13_ p14_ p15_ p16_ p17_ p18_ p19_ p20_ cFC cR, pt_tra_L0u hG p0_ p1_ p2_ p3_ p4_ p5_ p6_ p7_ p8_ p9_ p10_ p11_ p12_ p13_ p14_ p15_ p16_ p17_ p18_ p19_ p20_ cL0u cR, pt_tra_OC hG p0_ p1_ p2_ p3_ p4_ p5_ p6_ p7_ p8_ p9_ p10_ p11_ p12_ p13_ p14_ p15_ p16_ p17_ p18_ p19_ p20_ cOC cR, pt_tra_CT hG p0_ p1_ p2_ p3_ p4_ p5_ p6_ p7_ p8_ p9_ p10_ p11_ p12_ p13_ p14_ p15_ p16_ p17_ p18_ p19_ p20_ cCT cR cL0, pt_tra_L1 hG p0_ p1_ p2_ p3_ p4_ p5_ p6_ p7_ p8_ p9_ p10_ p11_ p12_ p13_ p14_ p15_ p16_ p17_ p18_ p19_ p20_ cL1 cR, pt_tra_L1e hG p0_ p1_ p2_ p3_ p4_ p5_ p6_ p7_ p8_ p9_ p10_ p11_ p12_ p13_ p14_ p15_ p16_ p17_ p18_ p19_ p20_ cL1e cR, pt_tra_L1o hG p0_ p1_ p2_ p3_ p4_ p5_ p6_ p7_ p8_ p9_ p10_ p11_ p12_ p13_ p14_ p15_ p16_ p17_ p18_ p19_ p20_ cL1o cR, pt_tra_L1b hG p0_ p1_ p2_ p3_ p4_ p5_ p6_ p7_ p8_ p9_ p10_ p11_ p12_ p13_ p14_ p15_ p16_ p17_ p18_ p19_ p20_ cL1b cR, pt_tra_L1g hG p0_ p1_ p2_ p3_ p4_ p5_ p6_ p7_ p8_ p9_ p10_ p11_ p12_ p13_ p14_ p15_ p16_ p17_ p18_ p19_ p20_ cL1g cR, pt_tra_L2 hG p0_ p1_ p2_ p3_ p4_ p5_ p6_ p7_ p8_ p9_ p10_ p11_ p12_ p13_ p14_ p15_ p16_ p17_ p18_ p19_ p20_ cR cCV cL3 cL4 cL2, pt_tra_L3 hG p0_ p1_ p2_ p3_ p4_ p5_ p6_ p7_ p8_ p9_ p10_ p11_ p12_ p13_ p14_ p15_ p16_ p17_ p18_ p19_ p20_ cR cCV cL3 cL4 cL2, pt_tra_L4 hG p0_ p1_ p2_ p3_ p4_ p5_ p6_ p7_ p8_ p9_ p10_ p11_ p12_ p13_ p14_ p15_ p16_ p17_ p18_ p19_ p20_ cR cCV cL3 cL4 cL2, pt_tra_AF hG p0_ p1_ p2_ p3_ p4_ p5_ p6_ p7_ p8_ p9_ p10_ p11_ p12_ p13_ p14_ p15_ p16_ p17_ p18_ p19_ p20_ cAF, pt_tra_RT hG p0_ p1_ p2_ p3_ p4_ p5_ p6_ p7_ p8_ p9_ p10_ p11_ p12_ p13_ p14_ p15_ p16_ p17_ p18_ p19_ p20_ cRT cR cCV cL2 cL4, pt_tra_CV hG p0_ p1_ p2_ p3_ p4_ p5_ p6_ p7_ p8_ p9_ p10_ p11_ p12_ p13_ p14_ p15_ p16_ p17_ p18_ p19_ p20_ cR cCV, pt_tra_L5 hG p0_ p1_ p2_ p3_ p4_ p5_ p6_ p7_ p8_ p9_ p10_ p11_ p12_ p13_ p14_ p15_ p16_ p17_ p18_ p19_ p20_ cL5 cR, pt_tra_L5o hG p0_ p1_ p2_ p3_ p4_ p5_ p6_ p7_ p8_ p9_ p10_ p11_ p12_ p13_ p14_ p15_ p16_ p17_ p18_ p19_ p20_ cL5o cR, pt_tra_L5u hG p0_ p1_ p2_ p3_ p4_ p5_ p6_ p7_ p8_ p9_ p10_ p11_ p12_ p13_ p14_ p15_ p16_ p17_ p18_ p19_ p20_ cL5u cR, pt_tra_L6 hG p0_ p1_ p2_ p3_ p4_ p5_ p6_ p7_ p8_ p9_ p10_ p11_ p12_ p13_ p14_ p15_ p16_ p17_ p18_ p19_ p20_ cL6 cR, pt_tra_L6u hG p0_ p1_ p2_ p3_ p4_ p5_ p6_ p7_ p8_ p9_ p10_ p11_ p12_ p13_ p14_ p15_ p16_ p17_ p18_ p19_ p20_ cL6u cR⟩

set_option maxHeartbeats 1000000 in
theorem pt_trb_R {W : Int → Prop} {sd : Int → Int} {op : Int → Int} {ed : Int → Int} {st : Int → Int} {lv : Int → Int} {nm : Int → Int} {tst : Int → Int} {en : Int → Int} {fw : Int → Int} {nL : Int} {kd : Int → Int} {wy : Int → Int} {ll : Int → Int} {td : Int → Int} {wh : Int → Int} {b k : Int} (hG : pj_G W sd op ed) (p0_ : W b) (p1_ : 0 ≤ k) (p2_ : k < nL) (p3_ : wh k ≠ 2) (p4_ : kd k = 2) (p5_ : wy k = op b) (p6_ : ∀ j, 0 ≤ j → j < k → wy j = wy k → wh j ≠ 0) (p7_ : tst (sd (op b)) = (ed b)) (p8_ : ll k = lv (sd (op b))) (p9_ : td k = nm (sd (op b))) (p10_ : st (sd (op b)) = 1) (p11_ : en b ≠ 0) (p12_ : en b ≠ 2) (p13_ : fw b = 0) (p14_ : nm (sd b) = nm (sd (op b))) (p15_ : lv (sd b) = lv (sd (op b))) (p16_ : 1 ≤ lv (sd b)) (p17_ : tst (sd b) ≠ (ed b)) (p18_ : st (sd b) ≠ 0) (p19_ : 0 ≤ nL) (cR : pj_R W nL kd wy wh) : pj_R W (nL + 1) (pu kd nL 4) (pu wy nL b) (pu (pu wh k 2) nL 0) := by
  obtain ⟨hop, hed⟩ := hG
  unfold pj_R at *
  intro k0
  simp only [pu]
  have g0 := hop b
  have g1 := hop (wy k0)
  have g2 := hed b (wy k0)
  have cR_0 := cR k
  have cR_1 := cR k0
  have f0 := p6_ k
  have f1 := p6_ k0
  clear p6_
  clear hop hed cR
  grind (splits := 24)

set_option maxHeartbeats 1000000 in
theorem pt_trb_N1c {W : Int → Prop} {sd : Int → Int} {op : Int → Int} {ed : Int → Int} {st : Int → Int} {lv : Int → Int} {nm : Int → Int} {tst : Int → Int} {en : Int → Int} {fw : Int → Int} {nL : Int} {kd : Int → Int} {wy : Int → Int} {ll : Int → Int} {td : Int → Int} {wh : Int → Int} {b k : Int} (hG : pj_G W sd op ed) (p0_ : W b) (p1_ : 0 ≤ k) (p2_ : k < nL) (p3_ : wh k ≠ 2) (p4_ : kd k = 2) (p5_ : wy k = op b) (p6_ : ∀ j, 0 ≤ j → j < k → wy j = wy k → wh j ≠ 0) (p7_ : tst (sd (op b)) = (ed b)) (p8_ : ll k = lv (sd (op b))) (p9_ : td k = nm (sd (op b))) (p10_ : st (sd (op b)) = 1) (p11_ : en b ≠ 0) (p12_ : en b ≠ 2) (p13_ : fw b = 0) (p14_ : nm (sd b) = nm (sd (op b))) (p15_ : lv (sd b) = lv (sd (op b))) (p16_ : 1 ≤ lv (sd b)) (p17_ : tst (sd b) ≠ (ed b)) (p18_ : st (sd b) ≠ 0) (p19_ : 0 ≤ nL) (cN1c : pj_N1c sd op st nL wy wh) (cR : pj_R W nL kd wy wh) : pj_N1c sd op st (nL + 1) (pu wy nL b) (pu (pu wh k 2) nL 0) := by
  obtain ⟨hop, hed⟩ := hG
  unfold pj_N1c pj_R at *
  intro k0
  simp only [pu]
  have g0 := hop b
  have g1 := hop (wy k0)
  have g2 := hed b (wy k0)
  have cN1c_0 := cN1c k
  have cN1c_1 := cN1c k0
  have cR_0 := cR k0
  have f0 := p6_ k
  have f1 := p6_ k0
  clear p6_
  clear hop hed cN1c cR
  grind (splits := 24)

set_option maxHeartbeats 1000000 in
theorem pt_trb_E1 {W : Int → Prop} {sd : Int → Int} {op : Int → Int} {ed : Int → Int} {st : Int → Int} {lv : Int → Int} {nm : Int → Int} {tst : Int → Int} {dl : Int → Int} {en : Int → Int} {fw : Int → Int} {nL : Int} {kd : Int → Int} {wy : Int → Int} {ll : Int → Int} {td : Int → Int} {wh : Int → Int} {b k : Int} (hG : pj_G W sd op ed) (p0_ : W b) (p1_ : 0 ≤ k) (p2_ : k < nL) (p3_ : wh k ≠ 2) (p4_ : kd k = 2) (p5_ : wy k = op b) (p6_ : ∀ j, 0 ≤ j → j < k → wy j = wy k → wh j ≠ 0) (p7_ : tst (sd (op b)) = (ed b)) (p8_ : ll k = lv (sd (op b))) (p9_ : td k = nm (sd (op b))) (p10_ : st (sd (op b)) = 1) (p11_ : en b ≠ 0) (p12_ : en b ≠ 2) (p13_ : fw b = 0) (p14_ : nm (sd b) = nm (sd (op b))) (p15_ : lv (sd b) = lv (sd (op b))) (p16_ : 1 ≤ lv (sd b)) (p17_ : tst (sd b) ≠ (ed b)) (p18_ : st (sd b) ≠ 0) (p19_ : 0 ≤ nL) (cE1 : pj_E1 sd op lv dl nL kd wy ll wh) : pj_E1 sd op lv dl (nL + 1) (pu kd nL 4) (pu wy nL b) (pu ll nL (-1)) (pu (pu wh k 2) nL 0) := by
  obtain ⟨hop, hed⟩ := hG
  unfold pj_E1 at *
  intro n0
  simp only [pu]
  have g0 := hop b
  have cE1_0 := cE1 (sd (op b))
  have cE1_1 := cE1 n0
  have cE1_2 := cE1 (sd b)
  have f0 := p6_ k
  clear p6_
  clear hop hed cE1
  grind (splits := 24)

set_option maxHeartbeats 1000000 in
theorem pt_trb_EC {W : Int → Prop} {sd : Int → Int} {op : Int → Int} {ed : Int → Int} {st : Int → Int} {lv : Int → Int} {nm : Int → Int} {tst : Int → Int} {om : Int → Int} {ps : Int → Int} {dl : Int → Int} {en : Int → Int} {fw : Int → Int} {nL : Int} {kd : Int → Int} {wy : Int → Int} {ll : Int → Int} {td : Int → Int} {wh : Int → Int} {F : Int → Prop} {b k : Int} (hG : pj_G W sd op ed) (p0_ : W b) (p1_ : 0 ≤ k) (p2_ : k < nL) (p3_ : wh k ≠ 2) (p4_ : kd k = 2) (p5_ : wy k = op b) (p6_ : ∀ j, 0 ≤ j → j < k → wy j = wy k → wh j ≠ 0) (p7_ : tst (sd (op b)) = (ed b)) (p8_ : ll k = lv (sd (op b))) (p9_ : td k = nm (sd (op b))) (p10_ : st (sd (op b)) = 1) (p11_ : en b ≠ 0) (p12_ : en b ≠ 2) (p13_ : fw b = 0) (p14_ : nm (sd b) = nm (sd (op b))) (p15_ : lv (sd b) = lv (sd (op b))) (p16_ : 1 ≤ lv (sd b)) (p17_ : tst (sd b) ≠ (ed b)) (p18_ : st (sd b) ≠ 0) (p19_ : 0 ≤ nL) (cEC : pj_EC W sd op ed lv nm om ps dl nL kd wy wh F) : pj_EC W sd op ed lv nm om ps dl (nL + 1) (pu kd nL 4) (pu wy nL b) (pu (pu wh k 2) nL 0) F := by
  obtain ⟨hop, hed⟩ := hG
  unfold pj_EC at *
  intro w0
  simp only [pu]
  have g0 := hop b
  have g1 := hop w0
  have g2 := hed b w0
  have cEC_0 := cEC b
  have cEC_1 := cEC w0
  have cEC_2 := cEC (op w0)
  have f0 := p6_ k
  clear p6_
  clear hop hed cEC
  grind (splits := 24)

set_option maxHeartbeats 1000000 in
theorem pt_trb_RJ {W : Int → Prop} {sd : Int → Int} {op : Int → Int} {ed : Int → Int} {st : Int → Int} {lv : Int → Int} {nm : Int → Int} {tst : Int → Int} {en : Int → Int} {fw : Int → Int} {nL : Int} {kd : Int → Int} {wy : Int → Int} {ll : Int → Int} {td : Int → Int} {wh : Int → Int} {b k : Int} (hG : pj_G W sd op ed) (p0_ : W b) (p1_ : 0 ≤ k) (p2_ : k < nL) (p3_ : wh k ≠ 2) (p4_ : kd k = 2) (p5_ : wy k = op b) (p6_ : ∀ j, 0 ≤ j → j < k → wy j = wy k → wh j ≠ 0) (p7_ : tst (sd (op b)) = (ed b)) (p8_ : ll k = lv (sd (op b))) (p9_ : td k = nm (sd (op b))) (p10_ : st (sd (op b)) = 1) (p11_ : en b ≠ 0) (p12_ : en b ≠ 2) (p13_ : fw b = 0) (p14_ : nm (sd b) = nm (sd (op b))) (p15_ : lv (sd b) = lv (sd (op b))) (p16_ : 1 ≤ lv (sd b)) (p17_ : tst (sd b) ≠ (ed b)) (p18_ : st (sd b) ≠ 0) (p19_ : 0 ≤ nL) (cRJ : pj_RJ W sd op ed tst en fw) : pj_RJ W sd op ed tst en (pu fw b 1) := by
  obtain ⟨hop, hed⟩ := hG
  unfold pj_RJ at *
  intro w0
  simp only [pu]
  have g0 := hop b
  have g1 := hop w0
  have g2 := hed b w0
  have cRJ_0 := cRJ b
  have cRJ_1 := cRJ w0
  have cRJ_2 := cRJ (op w0)
  have f0 := p6_ k
  clear p6_
  clear hop hed cRJ
  grind (splits := 24)

set_option maxHeartbeats 1000000 in
theorem pt_trb_FW {W : Int → Prop} {sd : Int → Int} {op : Int → Int} {ed : Int → Int} {st : Int → Int} {lv : Int → Int} {nm : Int → Int} {tst : Int → Int} {en : Int → Int} {fw : Int → Int} {nL : Int} {kd : Int → Int} {wy : Int → Int} {ll : Int → Int} {td : Int → Int} {wh : Int → Int} {b k : Int} (hG : pj_G W sd op ed) (p0_ : W b) (p1_ : 0 ≤ k) (p2_ : k < nL) (p3_ : wh k ≠ 2) (p4_ : kd k = 2) (p5_ : wy k = op b) (p6_ : ∀ j, 0 ≤ j → j < k → wy j = wy k → wh j ≠ 0) (p7_ : tst (sd (op b)) = (ed b)) (p8_ : ll k = lv (sd (op b))) (p9_ : td k = nm (sd (op b))) (p10_ : st (sd (op b)) = 1) (p11_ : en b ≠ 0) (p12_ : en b ≠ 2) (p13_ : fw b = 0) (p14_ : nm (sd b) = nm (sd (op b))) (p15_ : lv (sd b) = lv (sd (op b))) (p16_ : 1 ≤ lv (sd b)) (p17_ : tst (sd b) ≠ (ed b)) (p18_ : st (sd b) ≠ 0) (p19_ : 0 ≤ nL) (cFW : pj_FW W sd ed tst en fw) : pj_FW W sd ed tst en (pu fw b 1) := by
  obtain ⟨hop, hed⟩ := hG
  unfold pj_FW at *
  intro w0
  simp only [pu]
  have g0 := hop b
  have g1 := hop w0
  have g2 := hed b w0
  have cFW_0 := cFW b
  have cFW_1 := cFW w0
  have cFW_2 := cFW (op w0)
  have f0 := p6_ k
  clear p6_
  clear hop hed cFW
  grind (splits := 24)

set_option maxHeartbeats 1000000 in
theorem pt_trb_WH {W : Int → Prop} {sd : Int → Int} {op : Int → Int} {ed : Int → Int} {st : Int → Int} {lv : Int → Int} {nm : Int → Int} {tst : Int → Int} {en : Int → Int} {fw : Int → Int} {nL : Int} {kd : Int → Int} {wy : Int → Int} {ll : Int → Int} {td : Int → Int} {wh : Int → Int} {b k : Int} (hG : pj_G W sd op ed) (p0_ : W b) (p1_ : 0 ≤ k) (p2_ : k < nL) (p3_ : wh k ≠ 2) (p4_ : kd k = 2) (p5_ : wy k = op b) (p6_ : ∀ j, 0 ≤ j → j < k → wy j = wy k → wh j ≠ 0) (p7_ : tst (sd (op b)) = (ed b)) (p8_ : ll k = lv (sd (op b))) (p9_ : td k = nm (sd (op b))) (p10_ : st (sd (op b)) = 1) (p11_ : en b ≠ 0) (p12_ : en b ≠ 2) (p13_ : fw b = 0) (p14_ : nm (sd b) = nm (sd (op b))) (p15_ : lv (sd b) = lv (sd (op b))) (p16_ : 1 ≤ lv (sd b)) (p17_ : tst (sd b) ≠ (ed b)) (p18_ : st (sd b) ≠ 0) (p19_ : 0 ≤ nL) (cWH : pj_WH nL kd wh) (cR : pj_R W nL kd wy wh) : pj_WH (nL + 1) (pu kd nL 4) (pu (pu wh k 2) nL 0) := by
  obtain ⟨hop, hed⟩ := hG
  unfold pj_WH pj_R at *
  intro k0
  simp only [pu]
  have g0 := hop b
  have g1 := hop (wy k0)
  have g2 := hed b (wy k0)
  have cWH_0 := cWH k
  have cWH_1 := cWH k0
  have cR_0 := cR k0
  have f0 := p6_ k
  have f1 := p6_ k0
  clear p6_
  clear hop hed cWH cR
  grind (splits := 24)

set_option maxHeartbeats 1000000 in
theorem pt_trb_FI {W : Int → Prop} {sd : Int → Int} {op : Int → Int} {ed : Int → Int} {st : Int → Int} {lv : Int → Int} {nm : Int → Int} {tst : Int → Int} {en : Int → Int} {fw : Int → Int} {nL : Int} {kd : Int → Int} {wy : Int → Int} {ll : Int → Int} {td : Int → Int} {wh : Int → Int} {b k : Int} (hG : pj_G W sd op ed) (p0_ : W b) (p1_ : 0 ≤ k) (p2_ : k < nL) (p3_ : wh k ≠ 2) (p4_ : kd k = 2) (p5_ : wy k = op b) (p6_ : ∀ j, 0 ≤ j → j < k → wy j = wy k → wh j ≠ 0) (p7_ : tst (sd (op b)) = (ed b)) (p8_ : ll k = lv (sd (op b))) (p9_ : td k = nm (sd (op b))) (p10_ : st (sd (op b)) = 1) (p11_ : en b ≠ 0) (p12_ : en b ≠ 2) (p13_ : fw b = 0) (p14_ : nm (sd b) = nm (sd (op b))) (p15_ : lv (sd b) = lv (sd (op b))) (p16_ : 1 ≤ lv (sd b)) (p17_ : tst (sd b) ≠ (ed b)) (p18_ : st (sd b) ≠ 0) (p19_ : 0 ≤ nL) (cFI : pj_FI nL wy wh) (cR : pj_R W nL kd wy wh) : pj_FI (nL + 1) (pu wy nL b) (pu (pu wh k 2) nL 0) := by
  obtain ⟨hop, hed⟩ := hG
  unfold pj_FI pj_R at *
  intro j0 k0
  simp only [pu]
  have g0 := hop b
  have g1 := hop (wy j0)
  have g2 := hop (wy k0)
  have g3 := hed b (wy j0)
  have g4 := hed b (wy k0)
  have g5 := hed (wy j0) (wy k0)
  have cFI_0 := cFI k k
  have cFI_1 := cFI k j0
  have cFI_2 := cFI k k0
  have cFI_3 := cFI j0 k
  have cFI_4 := cFI j0 j0
  have cFI_5 := cFI j0 k0
  have cFI_6 := cFI k0 k
  have cFI_7 := cFI k0 j0
  have cFI_8 := cFI k0 k0
  have cR_0 := cR j0
  have cR_1 := cR k0
  have f0 := p6_ k
  have f1 := p6_ j0
  have f2 := p6_ k0
  clear p6_
  clear hop hed cFI cR
  grind (splits := 24)

set_option maxHeartbeats 1000000 in
theorem pt_trb_L0 {W : Int → Prop} {sd : Int → Int} {op : Int → Int} {ed : Int → Int} {st : Int → Int} {lv : Int → Int} {nm : Int → Int} {tst : Int → Int} {om : Int → Int} {ps : Int → Int} {dl : Int → Int} {c0 : Int → Int} {en : Int → Int} {fw : Int → Int} {cw : Int → Int} {nL : Int} {kd : Int → Int} {wy : Int → Int} {ll : Int → Int} {td : Int → Int} {wh : Int → Int} {b k : Int} (hG : pj_G W sd op ed) (p0_ : W b) (p1_ : 0 ≤ k) (p2_ : k < nL) (p3_ : wh k ≠ 2) (p4_ : kd k = 2) (p5_ : wy k = op b) (p6_ : ∀ j, 0 ≤ j → j < k → wy j = wy k → wh j ≠ 0) (p7_ : tst (sd (op b)) = (ed b)) (p8_ : ll k = lv (sd (op b))) (p9_ : td k = nm (sd (op b))) (p10_ : st (sd (op b)) = 1) (p11_ : en b ≠ 0) (p12_ : en b ≠ 2) (p13_ : fw b = 0) (p14_ : nm (sd b) = nm (sd (op b))) (p15_ : lv (sd b) = lv (sd (op b))) (p16_ : 1 ≤ lv (sd b)) (p17_ : tst (sd b) ≠ (ed b)) (p18_ : st (sd b) ≠ 0) (p19_ : 0 ≤ nL) (cL0 : pj_L0 sd op ed lv nm om ps dl c0 en cw nL kd wy ll wh) (cR : pj_R W nL kd wy wh) : pj_L0 sd op ed lv nm om ps dl c0 en cw (nL + 1) (pu kd nL 4) (pu wy nL b) (pu ll nL (-1)) (pu (pu wh k 2) nL 0) := by
  obtain ⟨hop, hed⟩ := hG
  unfold pj_L0 pj_R at *
  intro k0
  simp only [pu]
  have g0 := hop b
  have g1 := hop (wy k0)
  have g2 := hed b (wy k0)
  have cL0_0 := cL0 k
  have cL0_1 := cL0 k0
  have cR_0 := cR k0
  have f0 := p6_ k
  have f1 := p6_ k0
  clear p6_
  clear hop hed cL0 cR
  grind (splits := 24)

set_option maxHeartbeats 1000000 in
theorem pt_trb_FC {W : Int → Prop} {sd : Int → Int} {op : Int → Int} {ed : Int → Int} {st : Int → Int} {lv : Int → Int} {nm : Int → Int} {tst : Int → Int} {en : Int → Int} {fw : Int → Int} {nL : Int} {kd : Int → Int} {wy : Int → Int} {ll : Int → Int} {td : Int → Int} {wh : Int → Int} {F : Int → Prop} {b k : Int} (hG : pj_G W sd op ed) (p0_ : W b) (p1_ : 0 ≤ k) (p2_ : k < nL) (p3_ : wh k ≠ 2) (p4_ : kd k = 2) (p5_ : wy k = op b) (p6_ : ∀ j, 0 ≤ j → j < k → wy j = wy k → wh j ≠ 0) (p7_ : tst (sd (op b)) = (ed b)) (p8_ : ll k = lv (sd (op b))) (p9_ : td k = nm (sd (op b))) (p10_ : st (sd (op b)) = 1) (p11_ : en b ≠ 0) (p12_ : en b ≠ 2) (p13_ : fw b = 0) (p14_ : nm (sd b) = nm (sd (op b))) (p15_ : lv (sd b) = lv (sd (op b))) (p16_ : 1 ≤ lv (sd b)) (p17_ : tst (sd b) ≠ (ed b)) (p18_ : st (sd b) ≠ 0) (p19_ : 0 ≤ nL) (cFC : pj_FC op nL kd wy wh F) (cR : pj_R W nL kd wy wh) : pj_FC op (nL + 1) (pu kd nL 4) (pu wy nL b) (pu (pu wh k 2) nL 0) F := by
  obtain ⟨hop, hed⟩ := hG
  unfold pj_FC pj_R at *
  intro k0
  simp only [pu]
  have g0 := hop b
  have g1 := hop (wy k0)
  have g2 := hed b (wy k0)
  have cFC_0 := cFC k
  have cFC_1 := cFC k0
  have cR_0 := cR k0
  have f0 := p6_ k
  have f1 := p6_ k0
  clear p6_
  clear hop hed cFC cR
  grind (splits := 24)

set_option maxHeartbeats 1000000 in
theorem pt_trb_L0u {W : Int → Prop} {sd : Int → Int} {op : Int → Int} {ed : Int → Int} {st : Int → Int} {lv : Int → Int} {nm : Int → Int} {tst : Int → Int} {en : Int → Int} {fw : Int → Int} {nL : Int} {kd : Int → Int} {wy : Int → Int} {ll : Int → Int} {td : Int → Int} {wh : Int → Int} {b k : Int} (hG : pj_G W sd op ed) (p0_ : W b) (p1_ : 0 ≤ k) (p2_ : k < nL) (p3_ : wh k ≠ 2) (p4_ : kd k = 2) (p5_ : wy k = op b) (p6_ : ∀ j, 0 ≤ j → j < k → wy j = wy k → wh j ≠ 0) (p7_ : tst (sd (op b)) = (ed b)) (p8_ : ll k = lv (sd (op b))) (p9_ : td k = nm (sd (op b))) (p10_ : st (sd (op b)) = 1) (p11_ : en b ≠ 0) (p12_ : en b ≠ 2) (p13_ : fw b = 0) (p14_ : nm (sd b) = nm (sd (op b))) (p15_ : lv (sd b) = lv (sd (op b))) (p16_ : 1 ≤ lv (sd b)) (p17_ : tst (sd b) ≠ (ed b)) (p18_ : st (sd b) ≠ 0) (p19_ : 0 ≤ nL) (cL0u : pj_L0u nL kd wy wh) (cR : pj_R W nL kd wy wh) : pj_L0u (nL + 1) (pu kd nL 4) (pu wy nL b) (pu (pu wh k 2) nL 0) := by
  obtain ⟨hop, hed⟩ := hG
  unfold pj_L0u pj_R at *
  intro j0 k0
  simp only [pu]
  have g0 := hop b
  have g1 := hop (wy j0)
  have g2 := hop (wy k0)
  have g3 := hed b (wy j0)
  have g4 := hed b (wy k0)
  have g5 := hed (wy j0) (wy k0)
  have cL0u_0 := cL0u k k
  have cL0u_1 := cL0u k j0
  have cL0u_2 := cL0u k k0
  have cL0u_3 := cL0u j0 k
  have cL0u_4 := cL0u j0 j0
  have cL0u_5 := cL0u j0 k0
  have cL0u_6 := cL0u k0 k
  have cL0u_7 := cL0u k0 j0
  have cL0u_8 := cL0u k0 k0
  have cR_0 := cR j0
  have cR_1 := cR k0
  have f0 := p6_ k
  have f1 := p6_ j0
  have f2 := p6_ k0
  clear p6_
  clear hop hed cL0u cR
  grind (splits := 24)

set_option maxHeartbeats 1000000 in
theorem pt_trb_OC {W : Int → Prop} {sd : Int → Int} {op : Int → Int} {ed : Int → Int} {st : Int → Int} {lv : Int → Int} {nm : Int → Int} {tst : Int → Int} {en : Int → Int} {fw : Int → Int} {nL : Int} {kd : Int → Int} {wy : Int → Int} {ll : Int → Int} {td : Int → Int} {wh : Int → Int} {b k : Int} (hG : pj_G W sd op ed) (p0_ : W b) (p1_ : 0 ≤ k) (p2_ : k < nL) (p3_ : wh k ≠ 2) (p4_ : kd k = 2) (p5_ : wy k = op b) (p6_ : ∀ j, 0 ≤ j → j < k → wy j = wy k → wh j ≠ 0) (p7_ : tst (sd (op b)) = (ed b)) (p8_ : ll k = lv (sd (op b))) (p9_ : td k = nm (sd (op b))) (p10_ : st (sd (op b)) = 1) (p11_ : en b ≠ 0) (p12_ : en b ≠ 2) (p13_ : fw b = 0) (p14_ : nm (sd b) = nm (sd (op b))) (p15_ : lv (sd b) = lv (sd (op b))) (p16_ : 1 ≤ lv (sd b)) (p17_ : tst (sd b) ≠ (ed b)) (p18_ : st (sd b) ≠ 0) (p19_ : 0 ≤ nL) (cOC : pj_OC nL kd wy wh) (cR : pj_R W nL kd wy wh) : pj_OC (nL + 1) (pu kd nL 4) (pu wy nL b) (pu (pu wh k 2) nL 0) := by
  obtain ⟨hop, hed⟩ := hG
  unfold pj_OC pj_R at *
  intro j0 k0
  simp only [pu]
  have g0 := hop b
  have g1 := hop (wy j0)
  have g2 := hop (wy k0)
  have g3 := hed b (wy j0)
  have g4 := hed b (wy k0)
  have g5 := hed (wy j0) (wy k0)
  have cOC_0 := cOC k k
  have cOC_1 := cOC k j0
  have cOC_2 := cOC k k0
  have cOC_3 := cOC j0 k
  have cOC_4 := cOC j0 j0
  have cOC_5 := cOC j0 k0
  have cOC_6 := cOC k0 k
  have cOC_7 := cOC k0 j0
  have cOC_8 := cOC k0 k0
  have cR_0 := cR j0
  have cR_1 := cR k0
  have f0 := p6_ k
  have f1 := p6_ j0
  have f2 := p6_ k0
  clear p6_
  clear hop hed cOC cR
  grind (splits := 24)

set_option maxHeartbeats 1000000 in
theorem pt_trb_CT {W : Int → Prop} {sd : Int → Int} {op : Int → Int} {ed : Int → Int} {st : Int → Int} {lv : Int → Int} {nm : Int → Int} {tst : Int → Int} {om : Int → Int} {ps : Int → Int} {dl : Int → Int} {c0 : Int → Int} {en : Int → Int} {fw : Int → Int} {cw : Int → Int} {nL : Int} {kd : Int → Int} {wy : Int → Int} {ll : Int → Int} {td : Int → Int} {wh : Int → Int} {b k : Int} (hG : pj_G W sd op ed) (p0_ : W b) (p1_ : 0 ≤ k) (p2_ : k < nL) (p3_ : wh k ≠ 2) (p4_ : kd k = 2) (p5_ : wy k = op b) (p6_ : ∀ j, 0 ≤ j → j < k → wy j = wy k → wh j ≠ 0) (p7_ : tst (sd (op b)) = (ed b)) (p8_ : ll k = lv (sd (op b))) (p9_ : td k = nm (sd (op b))) (p10_ : st (sd (op b)) = 1) (p11_ : en b ≠ 0) (p12_ : en b ≠ 2) (p13_ : fw b = 0) (p14_ : nm (sd b) = nm (sd (op b))) (p15_ : lv (sd b) = lv (sd (op b))) (p16_ : 1 ≤ lv (sd b)) (p17_ : tst (sd b) ≠ (ed b)) (p18_ : st (sd b) ≠ 0) (p19_ : 0 ≤ nL) (cCT : pj_CT nL kd wy wh) (cR : pj_R W nL kd wy wh) (cL0 : pj_L0 sd op ed lv nm om ps dl c0 en cw nL kd wy ll wh) : pj_CT (nL + 1) (pu kd nL 4) (pu wy nL b) (pu (pu wh k 2) nL 0) := by
  obtain ⟨hop, hed⟩ := hG
  unfold pj_CT pj_R pj_L0 at *
  intro j0 k0
  simp only [pu]
  have g0 := hop b
  have g1 := hop (wy j0)
  have g2 := hop (wy k0)
  have g3 := hed b (wy j0)
  have g4 := hed b (wy k0)
  have g5 := hed (wy j0) (wy k0)
  have cCT_0 := cCT k k
  have cCT_1 := cCT k j0
  have cCT_2 := cCT k k0
  have cCT_3 := cCT j0 k
  have cCT_4 := cCT j0 j0
  have cCT_5 := cCT j0 k0
  have cCT_6 := cCT k0 k
  have cCT_7 := cCT k0 j0
  have cCT_8 := cCT k0 k0
  have cR_0 := cR j0
  have cR_1 := cR k0
  have cL0_0 := cL0 j0
  have f0 := p6_ k
  have f1 := p6_ j0
  have f2 := p6_ k0
  clear p6_
  clear hop hed cCT cR cL0
  grind (splits := 24)

set_option maxHeartbeats 1000000 in
theorem pt_trb_L1 {W : Int → Prop} {sd : Int → Int} {op : Int → Int} {ed : Int → Int} {st : Int → Int} {lv : Int → Int} {nm : Int → Int} {tst : Int → Int} {om : Int → Int} {dl : Int → Int} {en : Int → Int} {fw : Int → Int} {cl : Int → Int} {nL : Int} {kd : Int → Int} {wy : Int → Int} {ll : Int → Int} {td : Int → Int} {ls : Int → Int} {wh : Int → Int} {b k : Int} (hG : pj_G W sd op ed) (p0_ : W b) (p1_ : 0 ≤ k) (p2_ : k < nL) (p3_ : wh k ≠ 2) (p4_ : kd k = 2) (p5_ : wy k = op b) (p6_ : ∀ j, 0 ≤ j → j < k → wy j = wy k → wh j ≠ 0) (p7_ : tst (sd (op b)) = (ed b)) (p8_ : ll k = lv (sd (op b))) (p9_ : td k = nm (sd (op b))) (p10_ : st (sd (op b)) = 1) (p11_ : en b ≠ 0) (p12_ : en b ≠ 2) (p13_ : fw b = 0) (p14_ : nm (sd b) = nm (sd (op b))) (p15_ : lv (sd b) = lv (sd (op b))) (p16_ : 1 ≤ lv (sd b)) (p17_ : tst (sd b) ≠ (ed b)) (p18_ : st (sd b) ≠ 0) (p19_ : 0 ≤ nL) (cL1 : pj_L1 sd op ed st lv om dl en cl nL kd wy ll td ls wh) (cR : pj_R W nL kd wy wh) : pj_L1 sd op ed st lv om dl en cl (nL + 1) (pu kd nL 4) (pu wy nL b) (pu ll nL (-1)) (pu td nL (-1)) (pu ls nL (-1)) (pu (pu wh k 2) nL 0) := by
  obtain ⟨hop, hed⟩ := hG
  unfold pj_L1 pj_R at *
  intro k0
  simp only [pu]
  have g0 := hop b
  have g1 := hop (wy k0)
  have g2 := hed b (wy k0)
  have cL1_0 := cL1 k
  have cL1_1 := cL1 k0
  have cR_0 := cR k0
  have f0 := p6_ k
  have f1 := p6_ k0
  clear p6_
  clear hop hed cL1 cR
  grind (splits := 24)

set_option maxHeartbeats 1000000 in
theorem pt_trb_L1e {W : Int → Prop} {sd : Int → Int} {op : Int → Int} {ed : Int → Int} {st : Int → Int} {lv : Int → Int} {nm : Int → Int} {tst : Int → Int} {dl : Int → Int} {dn : Int → Int} {en : Int → Int} {fw : Int → Int} {nL : Int} {kd : Int → Int} {wy : Int → Int} {ll : Int → Int} {td : Int → Int} {ls : Int → Int} {wh : Int → Int} {b k : Int} (hG : pj_G W sd op ed) (p0_ : W b) (p1_ : 0 ≤ k) (p2_ : k < nL) (p3_ : wh k ≠ 2) (p4_ : kd k = 2) (p5_ : wy k = op b) (p6_ : ∀ j, 0 ≤ j → j < k → wy j = wy k → wh j ≠ 0) (p7_ : tst (sd (op b)) = (ed b)) (p8_ : ll k = lv (sd (op b))) (p9_ : td k = nm (sd (op b))) (p10_ : st (sd (op b)) = 1) (p11_ : en b ≠ 0) (p12_ : en b ≠ 2) (p13_ : fw b = 0) (p14_ : nm (sd b) = nm (sd (op b))) (p15_ : lv (sd b) = lv (sd (op b))) (p16_ : 1 ≤ lv (sd b)) (p17_ : tst (sd b) ≠ (ed b)) (p18_ : st (sd b) ≠ 0) (p19_ : 0 ≤ nL) (cL1e : pj_L1e sd op dl dn nL kd wy ll td ls wh) (cR : pj_R W nL kd wy wh) : pj_L1e sd op dl dn (nL + 1) (pu kd nL 4) (pu wy nL b) (pu ll nL (-1)) (pu td nL (-1)) (pu ls nL (-1)) (pu (pu wh k 2) nL 0) := by
  obtain ⟨hop, hed⟩ := hG
  unfold pj_L1e pj_R at *
  intro k0
  simp only [pu]
  have g0 := hop b
  have g1 := hop (wy k0)
  have g2 := hed b (wy k0)
  have cL1e_0 := cL1e k
  have cL1e_1 := cL1e k0
  have cR_0 := cR k0
  have f0 := p6_ k
  have f1 := p6_ k0
  clear p6_
  clear hop hed cL1e cR
  grind (splits := 24)

set_option maxHeartbeats 1000000 in
theorem pt_trb_L1o {W : Int → Prop} {sd : Int → Int} {op : Int → Int} {ed : Int → Int} {st : Int → Int} {lv : Int → Int} {nm : Int → Int} {tst : Int → Int} {en : Int → Int} {fw : Int → Int} {nL : Int} {kd : Int → Int} {wy : Int → Int} {ll : Int → Int} {td : Int → Int} {wh : Int → Int} {b k : Int} (hG : pj_G W sd op ed) (p0_ : W b) (p1_ : 0 ≤ k) (p2_ : k < nL) (p3_ : wh k ≠ 2) (p4_ : kd k = 2) (p5_ : wy k = op b) (p6_ : ∀ j, 0 ≤ j → j < k → wy j = wy k → wh j ≠ 0) (p7_ : tst (sd (op b)) = (ed b)) (p8_ : ll k = lv (sd (op b))) (p9_ : td k = nm (sd (op b))) (p10_ : st (sd (op b)) = 1) (p11_ : en b ≠ 0) (p12_ : en b ≠ 2) (p13_ : fw b = 0) (p14_ : nm (sd b) = nm (sd (op b))) (p15_ : lv (sd b) = lv (sd (op b))) (p16_ : 1 ≤ lv (sd b)) (p17_ : tst (sd b) ≠ (ed b)) (p18_ : st (sd b) ≠ 0) (p19_ : 0 ≤ nL) (cL1o : pj_L1o nL kd wy ll wh) (cR : pj_R W nL kd wy wh) : pj_L1o (nL + 1) (pu kd nL 4) (pu wy nL b) (pu ll nL (-1)) (pu (pu wh k 2) nL 0) := by
  obtain ⟨hop, hed⟩ := hG
  unfold pj_L1o pj_R at *
  intro j0 k0
  simp only [pu]
  have g0 := hop b
  have g1 := hop (wy j0)
  have g2 := hop (wy k0)
  have g3 := hed b (wy j0)
  have g4 := hed b (wy k0)
  have g5 := hed (wy j0) (wy k0)
  have cL1o_0 := cL1o k k
  have cL1o_1 := cL1o k j0
  have cL1o_2 := cL1o k k0
  have cL1o_3 := cL1o j0 k
  have cL1o_4 := cL1o j0 j0
  have cL1o_5 := cL1o j0 k0
  have cL1o_6 := cL1o k0 k
  have cL1o_7 := cL1o k0 j0
  have cL1o_8 := cL1o k0 k0
  have cR_0 := cR j0
  have cR_1 := cR k0
  have f0 := p6_ k
  have f1 := p6_ j0
  have f2 := p6_ k0
  clear p6_
  clear hop hed cL1o cR
  grind (splits := 24)

set_option maxHeartbeats 1000000 in
theorem pt_trb_L1b {W : Int → Prop} {sd : Int → Int} {op : Int → Int} {ed : Int → Int} {st : Int → Int} {lv : Int → Int} {nm : Int → Int} {tst : Int → Int} {om : Int → Int} {en : Int → Int} {pd : Int → Int} {fw : Int → Int} {nL : Int} {kd : Int → Int} {wy : Int → Int} {ll : Int → Int} {td : Int → Int} {ls : Int → Int} {wh : Int → Int} {b k : Int} (hG : pj_G W sd op ed) (p0_ : W b) (p1_ : 0 ≤ k) (p2_ : k < nL) (p3_ : wh k ≠ 2) (p4_ : kd k = 2) (p5_ : wy k = op b) (p6_ : ∀ j, 0 ≤ j → j < k → wy j = wy k → wh j ≠ 0) (p7_ : tst (sd (op b)) = (ed b)) (p8_ : ll k = lv (sd (op b))) (p9_ : td k = nm (sd (op b))) (p10_ : st (sd (op b)) = 1) (p11_ : en b ≠ 0) (p12_ : en b ≠ 2) (p13_ : fw b = 0) (p14_ : nm (sd b) = nm (sd (op b))) (p15_ : lv (sd b) = lv (sd (op b))) (p16_ : 1 ≤ lv (sd b)) (p17_ : tst (sd b) ≠ (ed b)) (p18_ : st (sd b) ≠ 0) (p19_ : 0 ≤ nL) (cL1b : pj_L1b sd ed st om pd nL kd wy td ls wh) (cR : pj_R W nL kd wy wh) : pj_L1b sd ed st om pd (nL + 1) (pu kd nL 4) (pu wy nL b) (pu td nL (-1)) (pu ls nL (-1)) (pu (pu wh k 2) nL 0) := by
  obtain ⟨hop, hed⟩ := hG
  unfold pj_L1b pj_R at *
  intro k0
  simp only [pu]
  have g0 := hop b
  have g1 := hop (wy k0)
  have g2 := hed b (wy k0)
  have cL1b_0 := cL1b k
  have cL1b_1 := cL1b k0
  have cR_0 := cR k0
  have f0 := p6_ k
  have f1 := p6_ k0
  clear p6_
  clear hop hed cL1b cR
  grind (splits := 24)

set_option maxHeartbeats 1000000 in
theorem pt_trb_L1g {W : Int → Prop} {sd : Int → Int} {op : Int → Int} {ed : Int → Int} {st : Int → Int} {lv : Int → Int} {nm : Int → Int} {tst : Int → Int} {en : Int → Int} {fw : Int → Int} {nL : Int} {kd : Int → Int} {wy : Int → Int} {ll : Int → Int} {td : Int → Int} {ls : Int → Int} {wh : Int → Int} {b k : Int} (hG : pj_G W sd op ed) (p0_ : W b) (p1_ : 0 ≤ k) (p2_ : k < nL) (p3_ : wh k ≠ 2) (p4_ : kd k = 2) (p5_ : wy k = op b) (p6_ : ∀ j, 0 ≤ j → j < k → wy j = wy k → wh j ≠ 0) (p7_ : tst (sd (op b)) = (ed b)) (p8_ : ll k = lv (sd (op b))) (p9_ : td k = nm (sd (op b))) (p10_ : st (sd (op b)) = 1) (p11_ : en b ≠ 0) (p12_ : en b ≠ 2) (p13_ : fw b = 0) (p14_ : nm (sd b) = nm (sd (op b))) (p15_ : lv (sd b) = lv (sd (op b))) (p16_ : 1 ≤ lv (sd b)) (p17_ : tst (sd b) ≠ (ed b)) (p18_ : st (sd b) ≠ 0) (p19_ : 0 ≤ nL) (cL1g : pj_L1g W sd op ed nL kd wy td ls wh) (cR : pj_R W nL kd wy wh) : pj_L1g W sd op ed (nL + 1) (pu kd nL 4) (pu wy nL b) (pu td nL (-1)) (pu ls nL (-1)) (pu (pu wh k 2) nL 0) := by
  obtain ⟨hop, hed⟩ := hG
  unfold pj_L1g pj_R at *
  intro k0 v0
  simp only [pu]
  have g0 := hop b
  have g1 := hop (wy k0)
  have g2 := hop v0
  have g3 := hed b (wy k0)
  have g4 := hed b v0
  have g5 := hed (wy k0) v0
  have cL1g_0 := cL1g k b
  have cL1g_1 := cL1g k (wy k0)
  have cL1g_2 := cL1g k (op (wy k0))
  have cL1g_3 := cL1g k v0
  have cL1g_4 := cL1g k (op v0)
  have cL1g_5 := cL1g k0 b
  have cL1g_6 := cL1g k0 (wy k0)
  have cL1g_7 := cL1g k0 (op (wy k0))
  have cL1g_8 := cL1g k0 v0
  have cL1g_9 := cL1g k0 (op v0)
  have cR_0 := cR k0
  have f0 := p6_ k
  have f1 := p6_ k0
  clear p6_
  clear hop hed cL1g cR
  grind (splits := 24)

set_option maxHeartbeats 1000000 in
theorem pt_trb_L2 {W : Int → Prop} {sd : Int → Int} {op : Int → Int} {ed : Int → Int} {st : Int → Int} {lv : Int → Int} {nm : Int → Int} {tst : Int → Int} {en : Int → Int} {fw : Int → Int} {nL : Int} {kd : Int → Int} {wy : Int → Int} {ll : Int → Int} {td : Int → Int} {wh : Int → Int} {b k : Int} (hG : pj_G W sd op ed) (p0_ : W b) (p1_ : 0 ≤ k) (p2_ : k < nL) (p3_ : wh k ≠ 2) (p4_ : kd k = 2) (p5_ : wy k = op b) (p6_ : ∀ j, 0 ≤ j → j < k → wy j = wy k → wh j ≠ 0) (p7_ : tst (sd (op b)) = (ed b)) (p8_ : ll k = lv (sd (op b))) (p9_ : td k = nm (sd (op b))) (p10_ : st (sd (op b)) = 1) (p11_ : en b ≠ 0) (p12_ : en b ≠ 2) (p13_ : fw b = 0) (p14_ : nm (sd b) = nm (sd (op b))) (p15_ : lv (sd b) = lv (sd (op b))) (p16_ : 1 ≤ lv (sd b)) (p17_ : tst (sd b) ≠ (ed b)) (p18_ : st (sd b) ≠ 0) (p19_ : 0 ≤ nL) (cR : pj_R W nL kd wy wh) (cCV : pj_CV W sd op ed tst nL kd wy wh) (cL3 : pj_L3 sd op ed st lv nm tst en fw nL kd wy wh) (cL4 : pj_L4 sd op ed st tst en nL kd wy wh) (cL2 : pj_L2 sd op ed st lv nm tst en fw nL kd wy ll td wh) : pj_L2 sd op ed st lv nm tst en (pu fw b 1) (nL + 1) (pu kd nL 4) (pu wy nL b) (pu ll nL (-1)) (pu td nL (-1)) (pu (pu wh k 2) nL 0) := by
  obtain ⟨hop, hed⟩ := hG
  unfold pj_R pj_CV pj_L3 pj_L4 pj_L2 at *
  intro k0
  simp only [pu]
  have g0 := hop b
  have g1 := hop (wy k0)
  have g2 := hed b (wy k0)
  have cR_0 := cR k0
  have cCV_0 := cCV b k0 k
  have cCV_1 := cCV (op b) k0 k
  have cL3_0 := cL3 k0
  have cL4_0 := cL4 k0
  have cL2_0 := cL2 k0
  have f0 := p6_ k
  have f1 := p6_ k0
  clear p6_
  clear hop hed cR cCV cL3 cL4 cL2
  grind (splits := 24)

set_option maxHeartbeats 1000000 in
theorem pt_trb_L3 {W : Int → Prop} {sd : Int → Int} {op : Int → Int} {ed : Int → Int} {st : Int → Int} {lv : Int → Int} {nm : Int → Int} {tst : Int → Int} {en : Int → Int} {fw : Int → Int} {nL : Int} {kd : Int → Int} {wy : Int → Int} {ll : Int → Int} {td : Int → Int} {wh : Int → Int} {b k : Int} (hG : pj_G W sd op ed) (p0_ : W b) (p1_ : 0 ≤ k) (p2_ : k < nL) (p3_ : wh k ≠ 2) (p4_ : kd k = 2) (p5_ : wy k = op b) (p6_ : ∀ j, 0 ≤ j → j < k → wy j = wy k → wh j ≠ 0) (p7_ : tst (sd (op b)) = (ed b)) (p8_ : ll k = lv (sd (op b))) (p9_ : td k = nm (sd (op b))) (p10_ : st (sd (op b)) = 1) (p11_ : en b ≠ 0) (p12_ : en b ≠ 2) (p13_ : fw b = 0) (p14_ : nm (sd b) = nm (sd (op b))) (p15_ : lv (sd b) = lv (sd (op b))) (p16_ : 1 ≤ lv (sd b)) (p17_ : tst (sd b) ≠ (ed b)) (p18_ : st (sd b) ≠ 0) (p19_ : 0 ≤ nL) (cR : pj_R W nL kd wy wh) (cCV : pj_CV W sd op ed tst nL kd wy wh) (cL3 : pj_L3 sd op ed st lv nm tst en fw nL kd wy wh) (cL4 : pj_L4 sd op ed st tst en nL kd wy wh) (cL2 : pj_L2 sd op ed st lv nm tst en fw nL kd wy ll td wh) : pj_L3 sd op ed st lv nm tst en (pu fw b 1) (nL + 1) (pu kd nL 4) (pu wy nL b) (pu (pu wh k 2) nL 0) := by
  obtain ⟨hop, hed⟩ := hG
  unfold pj_R pj_CV pj_L3 pj_L4 pj_L2 at *
  intro k0
  simp only [pu]
  have g0 := hop b
  have g1 := hop (wy k0)
  have g2 := hed b (wy k0)
  have cR_0 := cR k0
  have cCV_0 := cCV b k0 k
  have cCV_1 := cCV (op b) k0 k
  have cL3_0 := cL3 k0
  have cL4_0 := cL4 k0
  have cL2_0 := cL2 k0
  have f0 := p6_ k
  have f1 := p6_ k0
  clear p6_
  clear hop hed cR cCV cL3 cL4 cL2
  grind (splits := 24)

set_option maxHeartbeats 1000000 in
theorem pt_trb_L4 {W : Int → Prop} {sd : Int → Int} {op : Int → Int} {ed : Int → Int} {st : Int → Int} {lv : Int → Int} {nm : Int → Int} {tst : Int → Int} {en : Int → Int} {fw : Int → Int} {nL : Int} {kd : Int → Int} {wy : Int → Int} {ll : Int → Int} {td : Int → Int} {wh : Int → Int} {b k : Int} (hG : pj_G W sd op ed) (p0_ : W b) (p1_ : 0 ≤ k) (p2_ : k < nL) (p3_ : wh k ≠ 2) (p4_ : kd k = 2) (p5_ : wy k = op b) (p6_ : ∀ j, 0 ≤ j → j < k → wy j = wy k → wh j ≠ 0) (p7_ : tst (sd (op b)) = (ed b)) (p8_ : ll k = lv (sd (op b))) (p9_ : td k = nm (sd (op b))) (p10_ : st (sd (op b)) = 1) (p11_ : en b ≠ 0) (p12_ : en b ≠ 2) (p13_ : fw b = 0) (p14_ : nm (sd b) = nm (sd (op b))) (p15_ : lv (sd b) = lv (sd (op b))) (p16_ : 1 ≤ lv (sd b)) (p17_ : tst (sd b) ≠ (ed b)) (p18_ : st (sd b) ≠ 0) (p19_ : 0 ≤ nL) (cR : pj_R W nL kd wy wh) (cCV : pj_CV W sd op ed tst nL kd wy wh) (cL3 : pj_L3 sd op ed st lv nm tst en fw nL kd wy wh) (cL4 : pj_L4 sd op ed st tst en nL kd wy wh) (cL2 : pj_L2 sd op ed st lv nm tst en fw nL kd wy ll td wh) : pj_L4 sd op ed st tst en (nL + 1) (pu kd nL 4) (pu wy nL b) (pu (pu wh k 2) nL 0) := by
  obtain ⟨hop, hed⟩ := hG
  unfold pj_R pj_CV pj_L3 pj_L4 pj_L2 at *
  intro k0
  simp only [pu]
  have g0 := hop b
  have g1 := hop (wy k0)
  have g2 := hed b (wy k0)
  have cR_0 := cR k0
  have cCV_0 := cCV b k0 k
  have cCV_1 := cCV (op b) k0 k
  have cL3_0 := cL3 k0
  have cL4_0 := cL4 k0
  have cL2_0 := cL2 k0
  have f0 := p6_ k
  have f1 := p6_ k0
  clear p6_
  clear hop hed cR cCV cL3 cL4 cL2
  grind (splits := 24)

set_option maxHeartbeats 1000000 in
theorem pt_trb_AF {W : Int → Prop} {sd : Int → Int} {op : Int → Int} {ed : Int → Int} {st : Int → Int} {lv : Int → Int} {nm : Int → Int} {tst : Int → Int} {af : Int → Int} {en : Int → Int} {fw : Int → Int} {nL : Int} {kd : Int → Int} {wy : Int → Int} {ll : Int → Int} {td : Int → Int} {wh : Int → Int} {b k : Int} (hG : pj_G W sd op ed) (p0_ : W b) (p1_ : 0 ≤ k) (p2_ : k < nL) (p3_ : wh k ≠ 2) (p4_ : kd k = 2) (p5_ : wy k = op b) (p6_ : ∀ j, 0 ≤ j → j < k → wy j = wy k → wh j ≠ 0) (p7_ : tst (sd (op b)) = (ed b)) (p8_ : ll k = lv (sd (op b))) (p9_ : td k = nm (sd (op b))) (p10_ : st (sd (op b)) = 1) (p11_ : en b ≠ 0) (p12_ : en b ≠ 2) (p13_ : fw b = 0) (p14_ : nm (sd b) = nm (sd (op b))) (p15_ : lv (sd b) = lv (sd (op b))) (p16_ : 1 ≤ lv (sd b)) (p17_ : tst (sd b) ≠ (ed b)) (p18_ : st (sd b) ≠ 0) (p19_ : 0 ≤ nL) (cAF : pj_AF W sd op ed tst af nL kd wy wh) : pj_AF W sd op ed tst af (nL + 1) (pu kd nL 4) (pu wy nL b) (pu (pu wh k 2) nL 0) := by
  obtain ⟨hop, hed⟩ := hG
  unfold pj_AF at *
  intro v0
  simp only [pu]
  have g0 := hop b
  have g1 := hop v0
  have g2 := hed b v0
  have cAF_0 := cAF b
  have cAF_1 := cAF v0
  have cAF_2 := cAF (op v0)
  have f0 := p6_ k
  clear p6_
  clear hop hed cAF
  grind (splits := 24)

set_option maxHeartbeats 1000000 in
theorem pt_trb_RT {W : Int → Prop} {sd : Int → Int} {op : Int → Int} {ed : Int → Int} {st : Int → Int} {lv : Int → Int} {nm : Int → Int} {tst : Int → Int} {en : Int → Int} {fw : Int → Int} {nL : Int} {kd : Int → Int} {wy : Int → Int} {ll : Int → Int} {td : Int → Int} {wh : Int → Int} {b k : Int} (hG : pj_G W sd op ed) (p0_ : W b) (p1_ : 0 ≤ k) (p2_ : k < nL) (p3_ : wh k ≠ 2) (p4_ : kd k = 2) (p5_ : wy k = op b) (p6_ : ∀ j, 0 ≤ j → j < k → wy j = wy k → wh j ≠ 0) (p7_ : tst (sd (op b)) = (ed b)) (p8_ : ll k = lv (sd (op b))) (p9_ : td k = nm (sd (op b))) (p10_ : st (sd (op b)) = 1) (p11_ : en b ≠ 0) (p12_ : en b ≠ 2) (p13_ : fw b = 0) (p14_ : nm (sd b) = nm (sd (op b))) (p15_ : lv (sd b) = lv (sd (op b))) (p16_ : 1 ≤ lv (sd b)) (p17_ : tst (sd b) ≠ (ed b)) (p18_ : st (sd b) ≠ 0) (p19_ : 0 ≤ nL) (cRT : pj_RT sd ed tst nL kd wy wh) (cR : pj_R W nL kd wy wh) (cCV : pj_CV W sd op ed tst nL kd wy wh) (cL2 : pj_L2 sd op ed st lv nm tst en fw nL kd wy ll td wh) (cL4 : pj_L4 sd op ed st tst en nL kd wy wh) : pj_RT sd ed tst (nL + 1) (pu kd nL 4) (pu wy nL b) (pu (pu wh k 2) nL 0) := by
  obtain ⟨hop, hed⟩ := hG
  unfold pj_RT pj_R pj_CV pj_L2 pj_L4 at *
  intro j0 k0
  simp only [pu]
  have g0 := hop b
  have g1 := hop (wy j0)
  have g2 := hop (wy k0)
  have g3 := hed b (wy j0)
  have g4 := hed b (wy k0)
  have g5 := hed (wy j0) (wy k0)
  have cRT_0 := cRT k k
  have cRT_1 := cRT k j0
  have cRT_2 := cRT k k0
  have cRT_3 := cRT j0 k
  have cRT_4 := cRT j0 j0
  have cRT_5 := cRT j0 k0
  have cRT_6 := cRT k0 k
  have cRT_7 := cRT k0 j0
  have cRT_8 := cRT k0 k0
  have cR_0 := cR j0
  have cR_1 := cR k0
  have cCV_0 := cCV b j0 k
  have cCV_1 := cCV (op b) j0 k
  have cCV_2 := cCV b k0 k
  have cCV_3 := cCV (op b) k0 k
  have cL2_0 := cL2 k
  have cL2_1 := cL2 j0
  have cL2_2 := cL2 k0
  have cL4_0 := cL4 k
  have cL4_1 := cL4 j0
  have cL4_2 := cL4 k0
  have f0 := p6_ k
  have f1 := p6_ j0
  have f2 := p6_ k0
  clear p6_
  clear hop hed cRT cR cCV cL2 cL4
  grind (splits := 24)

set_option maxHeartbeats 1000000 in
theorem pt_trb_CV {W : Int → Prop} {sd : Int → Int} {op : Int → Int} {ed : Int → Int} {st : Int → Int} {lv : Int → Int} {nm : Int → Int} {tst : Int → Int} {en : Int → Int} {fw : Int → Int} {nL : Int} {kd : Int → Int} {wy : Int → Int} {ll : Int → Int} {td : Int → Int} {wh : Int → Int} {b k : Int} (hG : pj_G W sd op ed) (p0_ : W b) (p1_ : 0 ≤ k) (p2_ : k < nL) (p3_ : wh k ≠ 2) (p4_ : kd k = 2) (p5_ : wy k = op b) (p6_ : ∀ j, 0 ≤ j → j < k → wy j = wy k → wh j ≠ 0) (p7_ : tst (sd (op b)) = (ed b)) (p8_ : ll k = lv (sd (op b))) (p9_ : td k = nm (sd (op b))) (p10_ : st (sd (op b)) = 1) (p11_ : en b ≠ 0) (p12_ : en b ≠ 2) (p13_ : fw b = 0) (p14_ : nm (sd b) = nm (sd (op b))) (p15_ : lv (sd b) = lv (sd (op b))) (p16_ : 1 ≤ lv (sd b)) (p17_ : tst (sd b) ≠ (ed b)) (p18_ : st (sd b) ≠ 0) (p19_ : 0 ≤ nL) (cR : pj_R W nL kd wy wh) (cCV : pj_CV W sd op ed tst nL kd wy wh) : pj_CV W sd op ed tst (nL + 1) (pu kd nL 4) (pu wy nL b) (pu (pu wh k 2) nL 0) := by
  obtain ⟨hop, hed⟩ := hG
  unfold pj_R pj_CV at *
  intro v0 j0 k0
  simp only [pu]
  have g0 := hop b
  have g1 := hop v0
  have g2 := hop (wy j0)
  have g3 := hop (wy k0)
  have g4 := hed b v0
  have g5 := hed b (wy j0)
  have g6 := hed b (wy k0)
  have g7 := hed v0 (wy j0)
  have g8 := hed v0 (wy k0)
  have g9 := hed (wy j0) (wy k0)
  have cR_0 := cR j0
  have cR_1 := cR k0
  have cCV_0 := cCV v0 j0 k0
  have cCV_1 := cCV b j0 k
  have cCV_2 := cCV b k0 k
  have cCV_3 := cCV (op b) j0 k
  have cCV_4 := cCV (op b) k0 k
  have f0 := p6_ k
  have f1 := p6_ j0
  have f2 := p6_ k0
  clear p6_
  clear hop hed cR cCV
  grind (splits := 24)

set_option maxHeartbeats 1000000 in
theorem pt_trb_L5 {W : Int → Prop} {sd : Int → Int} {op : Int → Int} {ed : Int → Int} {st : Int → Int} {lv : Int → Int} {nm : Int → Int} {inw : Int → Int} {bst : Int → Int} {tst : Int → Int} {om : Int → Int} {ps : Int → Int} {dl : Int → Int} {en : Int → Int} {pd : Int → Int} {rp : Int → Int} {rv : Int → Int} {fw : Int → Int} {cl : Int → Int} {tk : Int → Int} {nL : Int} {kd : Int → Int} {wy : Int → Int} {ll : Int → Int} {td : Int → Int} {wh : Int → Int} {b k : Int} (hG : pj_G W sd op ed) (p0_ : W b) (p1_ : 0 ≤ k) (p2_ : k < nL) (p3_ : wh k ≠ 2) (p4_ : kd k = 2) (p5_ : wy k = op b) (p6_ : ∀ j, 0 ≤ j → j < k → wy j = wy k → wh j ≠ 0) (p7_ : tst (sd (op b)) = (ed b)) (p8_ : ll k = lv (sd (op b))) (p9_ : td k = nm (sd (op b))) (p10_ : st (sd (op b)) = 1) (p11_ : en b ≠ 0) (p12_ : en b ≠ 2) (p13_ : fw b = 0) (p14_ : nm (sd b) = nm (sd (op b))) (p15_ : lv (sd b) = lv (sd (op b))) (p16_ : 1 ≤ lv (sd b)) (p17_ : tst (sd b) ≠ (ed b)) (p18_ : st (sd b) ≠ 0) (p19_ : 0 ≤ nL) (cL5 : pj_L5 sd op ed st lv nm inw bst om ps dl pd rp rv cl tk nL kd wy td wh) (cR : pj_R W nL kd wy wh) : pj_L5 sd op ed st lv nm inw bst om ps dl pd rp rv cl tk (nL + 1) (pu kd nL 4) (pu wy nL b) (pu td nL (-1)) (pu (pu wh k 2) nL 0) := by
  obtain ⟨hop, hed⟩ := hG
  unfold pj_L5 pj_R at *
  intro k0
  simp only [pu]
  have g0 := hop b
  have g1 := hop (wy k0)
  have g2 := hed b (wy k0)
  have cL5_0 := cL5 k
  have cL5_1 := cL5 k0
  have cR_0 := cR k0
  have f0 := p6_ k
  have f1 := p6_ k0
  clear p6_
  clear hop hed cL5 cR
  grind (splits := 24)

set_option maxHeartbeats 1000000 in
theorem pt_trb_L5o {W : Int → Prop} {sd : Int → Int} {op : Int → Int} {ed : Int → Int} {st : Int → Int} {lv : Int → Int} {nm : Int → Int} {tst : Int → Int} {en : Int → Int} {fw : Int → Int} {cl : Int → Int} {nL : Int} {kd : Int → Int} {wy : Int → Int} {ll : Int → Int} {td : Int → Int} {wh : Int → Int} {b k : Int} (hG : pj_G W sd op ed) (p0_ : W b) (p1_ : 0 ≤ k) (p2_ : k < nL) (p3_ : wh k ≠ 2) (p4_ : kd k = 2) (p5_ : wy k = op b) (p6_ : ∀ j, 0 ≤ j → j < k → wy j = wy k → wh j ≠ 0) (p7_ : tst (sd (op b)) = (ed b)) (p8_ : ll k = lv (sd (op b))) (p9_ : td k = nm (sd (op b))) (p10_ : st (sd (op b)) = 1) (p11_ : en b ≠ 0) (p12_ : en b ≠ 2) (p13_ : fw b = 0) (p14_ : nm (sd b) = nm (sd (op b))) (p15_ : lv (sd b) = lv (sd (op b))) (p16_ : 1 ≤ lv (sd b)) (p17_ : tst (sd b) ≠ (ed b)) (p18_ : st (sd b) ≠ 0) (p19_ : 0 ≤ nL) (cL5o : pj_L5o sd op ed lv cl nL kd wy wh) (cR : pj_R W nL kd wy wh) : pj_L5o sd op ed lv cl (nL + 1) (pu kd nL 4) (pu wy nL b) (pu (pu wh k 2) nL 0) := by
  obtain ⟨hop, hed⟩ := hG
  unfold pj_L5o pj_R at *
  intro j0 k0
  simp only [pu]
  have g0 := hop b
  have g1 := hop (wy j0)
  have g2 := hop (wy k0)
  have g3 := hed b (wy j0)
  have g4 := hed b (wy k0)
  have g5 := hed (wy j0) (wy k0)
  have cL5o_0 := cL5o k k
  have cL5o_1 := cL5o k j0
  have cL5o_2 := cL5o k k0
  have cL5o_3 := cL5o j0 k
  have cL5o_4 := cL5o j0 j0
  have cL5o_5 := cL5o j0 k0
  have cL5o_6 := cL5o k0 k
  have cL5o_7 := cL5o k0 j0
  have cL5o_8 := cL5o k0 k0
  have cR_0 := cR j0
  have cR_1 := cR k0
  have f0 := p6_ k
  have f1 := p6_ j0
  have f2 := p6_ k0
  clear p6_
  clear hop hed cL5o cR
  grind (splits := 24)

set_option maxHeartbeats 1000000 in
theorem pt_trb_L5u {W : Int → Prop} {sd : Int → Int} {op : Int → Int} {ed : Int → Int} {st : Int → Int} {lv : Int → Int} {nm : Int → Int} {tst : Int → Int} {en : Int → Int} {fw : Int → Int} {nL : Int} {kd : Int → Int} {wy : Int → Int} {ll : Int → Int} {td : Int → Int} {wh : Int → Int} {b k : Int} (hG : pj_G W sd op ed) (p0_ : W b) (p1_ : 0 ≤ k) (p2_ : k < nL) (p3_ : wh k ≠ 2) (p4_ : kd k = 2) (p5_ : wy k = op b) (p6_ : ∀ j, 0 ≤ j → j < k → wy j = wy k → wh j ≠ 0) (p7_ : tst (sd (op b)) = (ed b)) (p8_ : ll k = lv (sd (op b))) (p9_ : td k = nm (sd (op b))) (p10_ : st (sd (op b)) = 1) (p11_ : en b ≠ 0) (p12_ : en b ≠ 2) (p13_ : fw b = 0) (p14_ : nm (sd b) = nm (sd (op b))) (p15_ : lv (sd b) = lv (sd (op b))) (p16_ : 1 ≤ lv (sd b)) (p17_ : tst (sd b) ≠ (ed b)) (p18_ : st (sd b) ≠ 0) (p19_ : 0 ≤ nL) (cL5u : pj_L5u nL kd wy wh) (cR : pj_R W nL kd wy wh) : pj_L5u (nL + 1) (pu kd nL 4) (pu wy nL b) (pu (pu wh k 2) nL 0) := by
  obtain ⟨hop, hed⟩ := hG
  unfold pj_L5u pj_R at *
  intro j0 k0
  simp only [pu]
  have g0 := hop b
  have g1 := hop (wy j0)
  have g2 := hop (wy k0)
  have g3 := hed b (wy j0)
  have g4 := hed b (wy k0)
  have g5 := hed (wy j0) (wy k0)
  have cL5u_0 := cL5u k k
  have cL5u_1 := cL5u k j0
  have cL5u_2 := cL5u k k0
  have cL5u_3 := cL5u j0 k
  have cL5u_4 := cL5u j0 j0
  have cL5u_5 := cL5u j0 k0
  have cL5u_6 := cL5u k0 k
  have cL5u_7 := cL5u k0 j0
  have cL5u_8 := cL5u k0 k0
  have cR_0 := cR j0
  have cR_1 := cR k0
  have f0 := p6_ k
  have f1 := p6_ j0
  have f2 := p6_ k0
  clear p6_
  clear hop hed cL5u cR
  grind (splits := 24)

set_option maxHeartbeats 1000000 in
theorem pt_trb_L6 {W : Int → Prop} {sd : Int → Int} {op : Int → Int} {ed : Int → Int} {st : Int → Int} {lv : Int → Int} {nm : Int → Int} {tow : Int → Int} {tst : Int → Int} {om : Int → Int} {ps : Int → Int} {dl : Int → Int} {en : Int → Int} {fw : Int → Int} {cw : Int → Int} {tk : Int → Int} {nL : Int} {kd : Int → Int} {wy : Int → Int} {ll : Int → Int} {td : Int → Int} {wh : Int → Int} {b k : Int} (hG : pj_G W sd op ed) (p0_ : W b) (p1_ : 0 ≤ k) (p2_ : k < nL) (p3_ : wh k ≠ 2) (p4_ : kd k = 2) (p5_ : wy k = op b) (p6_ : ∀ j, 0 ≤ j → j < k → wy j = wy k → wh j ≠ 0) (p7_ : tst (sd (op b)) = (ed b)) (p8_ : ll k = lv (sd (op b))) (p9_ : td k = nm (sd (op b))) (p10_ : st (sd (op b)) = 1) (p11_ : en b ≠ 0) (p12_ : en b ≠ 2) (p13_ : fw b = 0) (p14_ : nm (sd b) = nm (sd (op b))) (p15_ : lv (sd b) = lv (sd (op b))) (p16_ : 1 ≤ lv (sd b)) (p17_ : tst (sd b) ≠ (ed b)) (p18_ : st (sd b) ≠ 0) (p19_ : 0 ≤ nL) (cL6 : pj_L6 sd op ed st lv nm tow om ps dl cw tk nL kd wy wh) (cR : pj_R W nL kd wy wh) : pj_L6 sd op ed st lv nm tow om ps dl cw tk (nL + 1) (pu kd nL 4) (pu wy nL b) (pu (pu wh k 2) nL 0) := by
  obtain ⟨hop, hed⟩ := hG
  unfold pj_L6 pj_R at *
  intro k0
  simp only [pu]
  have g0 := hop b
  have g1 := hop (wy k0)
  have g2 := hed b (wy k0)
  have cL6_0 := cL6 k
  have cL6_1 := cL6 k0
  have cR_0 := cR k0
  have f0 := p6_ k
  have f1 := p6_ k0
  clear p6_
  clear hop hed cL6 cR
  grind (splits := 24)

set_option maxHeartbeats 1000000 in
theorem pt_trb_L6u {W : Int → Prop} {sd : Int → Int} {op : Int → Int} {ed : Int → Int} {st : Int → Int} {lv : Int → Int} {nm : Int → Int} {tst : Int → Int} {en : Int → Int} {fw : Int → Int} {nL : Int} {kd : Int → Int} {wy : Int → Int} {ll : Int → Int} {td : Int → Int} {wh : Int → Int} {b k : Int} (hG : pj_G W sd op ed) (p0_ : W b) (p1_ : 0 ≤ k) (p2_ : k < nL) (p3_ : wh k ≠ 2) (p4_ : kd k = 2) (p5_ : wy k = op b) (p6_ : ∀ j, 0 ≤ j → j < k → wy j = wy k → wh j ≠ 0) (p7_ : tst (sd (op b)) = (ed b)) (p8_ : ll k = lv (sd (op b))) (p9_ : td k = nm (sd (op b))) (p10_ : st (sd (op b)) = 1) (p11_ : en b ≠ 0) (p12_ : en b ≠ 2) (p13_ : fw b = 0) (p14_ : nm (sd b) = nm (sd (op b))) (p15_ : lv (sd b) = lv (sd (op b))) (p16_ : 1 ≤ lv (sd b)) (p17_ : tst (sd b) ≠ (ed b)) (p18_ : st (sd b) ≠ 0) (p19_ : 0 ≤ nL) (cL6u : pj_L6u sd op nm nL kd wy wh) (cR : pj_R W nL kd wy wh) : pj_L6u sd op nm (nL + 1) (pu kd nL 4) (pu wy nL b) (pu (pu wh k 2) nL 0) := by
  obtain ⟨hop, hed⟩ := hG
  unfold pj_L6u pj_R at *
  intro j0 k0
  simp only [pu]
  have g0 := hop b
  have g1 := hop (wy j0)
  have g2 := hop (wy k0)
  have g3 := hed b (wy j0)
  have g4 := hed b (wy k0)
  have g5 := hed (wy j0) (wy k0)
  have cL6u_0 := cL6u k k
  have cL6u_1 := cL6u k j0
  have cL6u_2 := cL6u k k0
  have cL6u_3 := cL6u j0 k
  have cL6u_4 := cL6u j0 j0
  have cL6u_5 := cL6u j0 k0
  have cL6u_6 := cL6u k0 k
  have cL6u_7 := cL6u k0 j0
  have cL6u_8 := cL6u k0 k0
  have cR_0 := cR j0
  have cR_1 := cR k0
  have f0 := p6_ k
  have f1 := p6_ j0
  have f2 := p6_ k0
  clear p6_
  clear hop hed cL6u cR
  grind (splits := 24)

theorem pj_trb {W : Int → Prop} {sd op ed : Int → Int} {li : Int → Int → Prop} {st lv nm inw tow bst tst exp om ps dl dn af c0 en pd rp rv fw cl cw tk kd wy ll td ls wh : Int → Int} {nL : Int} {F F2 : Int → Prop} {fl fc : Int} {b k : Int} (hG : pj_G W sd op ed) (p0_ : W b) (p1_ : 0 ≤ k) (p2_ : k < nL) (p3_ : wh k ≠ 2) (p4_ : kd k = 2) (p5_ : wy k = op b) (p6_ : ∀ j, 0 ≤ j → j < k → wy j = wy k → wh j ≠ 0) (p7_ : tst (sd (op b)) = (ed b)) (p8_ : ll k = lv (sd (op b))) (p9_ : td k = nm (sd (op b))) (p10_ : st (sd (op b)) = 1) (p11_ : en b ≠ 0) (p12_ : en b ≠ 2) (p13_ : fw b = 0) (p14_ : nm (sd b) = nm (sd (op b))) (p15_ : lv (sd b) = lv (sd (op b))) (p16_ : 1 ≤ lv (sd b)) (p17_ : tst (sd b) ≠ (ed b)) (p18_ : st (sd b) ≠ 0) (p19_ : 0 ≤ nL) (h : pj_J W sd op ed li st lv nm inw tow bst tst exp om ps dl dn af c0 en pd rp rv fw cl cw tk nL kd wy ll td ls wh F fl fc) : pj_J W sd op ed li st lv nm inw tow bst tst exp om ps dl dn af c0 en pd rp rv (pu fw b 1) cl cw tk (nL + 1) (pu kd nL 4) (pu wy nL b) (pu ll nL (-1)) (pu td nL (-1)) (pu ls nL (-1)) (pu (pu wh k 2) nL 0) F fl fc := by
  obtain ⟨cR, cN0, cN1, cN1w, cER, cN1c, cN2, cN2e, cN2b, cN4e, cN4b, cN5, cN7, cN10, cN10e, cN13, cC1, cC2, cR3a, cE1, cU, cA1, cA2, cEC, cR3, cN11, cN12, cN3, cRJ, cFW, cPD, cCC, cCD, cRP, cRP1, cCR, cZ1, cZ0, cTK, cK2, cWH, cFI, cL0, cFC, cL0u, cOC, cCT, cL1, cL1e, cL1o, cL1b, cL1g, cL2, cL3, cL4, cAF, cRT, cCV, cL5, cL5o, cL5u, cL6, cL6u⟩ := h
  exact ⟨pt_trb_R hG p0_ p1_ p2_ p3_ p4_ p5_ p6_ p7_ p8_ p9_ p10_ p11_ p12_ p13_ p14_ p15_ p16_ p17_ p18_ p19_ cR, cN0, cN1, cN1w, cER, pt_trb_N1c hG p0_ p1_ p2_ p3_ p4_ p5_ p6_ p7_ p8_ p9_ p10_ p11_ p12_ p13_ p14_ p15_ p16_ p17_ p18_ p19_ cN1c cR, cN2, cN2e, cN2b, cN4e, cN4b, cN5, cN7, cN10, cN10e, cN13, cC1, cC2, cR3a, pt_trb_E1 hG p0_ p1_ p2_ p3_ p4_ p5_ p6_ p7_ p8_ p9_ p10_ p11_ p12_ p13_ p14_ p15_ p16_ p17_ p18_ p19_ cE1, cU, cA1, cA2, pt_trb_EC hG p0_ p1_ p2_ p3_ p4_ p5_ p6_ p7_ p8_ p9_ p10_ p11_ p12_ p13_ p14_ p15_ p16_ p17_ p18_ p19_ cEC, cR3, cN11, cN12, cN3, pt_trb_RJ hG p0_ p1_ p2_ p3_ p4_ p5_ p6_ p7_ p8_ p9_ p10_ p11_ p12_ p13_ p14_ p15_ p16_ p17_ p18_ p19_ cRJ, pt_trb_FW hG p0_ p1_ p2_ p3_ p4_ p5_ p6_ p7_ p8_ p9_ p10_ p11_ p12_ p13_ p14_ p15_ p16_ p17_ p18_ p19_ cFW, cPD, cCC, cCD, cRP, cRP1, cCR, cZ1, cZ0, cTK, cK2, pt_trb_WH hG p0_ p1_ p2_ p3_ p4_ p5_ p6_ p7_ p8_ p9_ p10_ p11_ p12_ p13_ p14_ p15_ p16_ p17_ p18_ p19_ cWH cR, pt_trb_FI hG p0_ p1_ p2_ p3_ p4_ p5_ p6_ p7_ p8_ p9_ p10_ p11_ p12_ p13_ p14_ p15_ p16_ p17_ p18_ p19_ cFI cR, pt_trb_L0 hG p0_ p1_ p2_ p3_ p4_ p5_ p6_ p7_ p8_ p9_ p10_ p11_ p12_ p13_ p14_ p15_ p16_ p17_ p18_ p19_ cL0 cR, pt_trb_FC hG p0_ p1_ p2_ p3_ p4_ p5_ p6_ p7_ p8_ p9_ p10_ p11_ p12_ p13_ p14_ p15_ p16_ p17_ p18_ p19_ cFC cR, pt_trb_L0u hG p0_ p1_ p2_ p3_ p4_ p5_ p6_ p7_ p8_ p9_ p10_ p11_ p12_ p13_ p14_ p15_ p16_ p17_ p18_ p19_ cL0u cR, pt_trb_OC hG p0_ p1_ p2_ p3_ p4_ p5_ p6_ p7_ p8_ p9_ p10_ p11_ p12_ p13_ p14_ p15_ p16_ p17_ p18_ p19_ cOC cR, pt_trb_CT hG p0_ p1_ p2_ p3_ p4_ p5_ p6_ p7_ p8_ p9_ p10_ p11_ p12_ p13_ p14_ p15_ p16_ p17_ p18_ p19_ cCT cR cL0, pt_trb_L1 hG p0_ p1_ p2_ p3_ p4_ p5_ p6_ p7_ p8_ p9_ p10_ p11_ p12_ p13_ p14_ p15_ p16_ p17_ p18_ p19_ cL1 cR, pt_trb_L1e hG p0_ p1_ p2_ p3_ p4_ p5_ p6_ p7_ p8_ p9_ p10_ p11_ p12_ p13_ p14_ p15_ p16_ p17_ p18_ p19_ cL1e cR, pt_trb_L1o hG p0_ p1_ p2_ p3_ p4_ p5_ p6_ p7_ p8_ p9_ p10_ p11_ p12_ p13_ p14_ p15_ p16_ p17_ p18_ p19_ cL1o cR, pt_trb_L1b hG p0_ p1_ p2_ p3_ p4_ p5_ p6_ p7_ p8_ p9_ p10_ p11_ p12_ p13_ p14_ p15_ p16_ p17_ p18_ p19_ cL1b cR, pt_trb_L1g hG p0_ p1_ p2_ p3_ p4_ p5_ p6_ p7_ p8_ p9_ p10_ p11_ p12_ p13_ p14_ p15_ p16_ p17_ p18_ p19_ cL1g cR, pt_trb_L2 hG p0_ p1_ p2_ p3_ p4_ p5_ p6_ p7_ p8_ p9_ p10_ p11_ p12_ p13_ p14_ p15_ p16_ p17_ p18_ p19_ cR cCV cL3 cL4 cL2, pt_trb_L3 hG p0_ p1_ p2_ p3_ p4_ p5_ p6_ p7_ p8_ p9_ p10_ p11_ p12_ p13_ p14_ p15_ p16_ p17_ p18_ p19_ cR cCV cL3 cL4 cL2, pt_trb_L4 hG p0_ p1_ p2_ p3_ p4_ p5_ p6_ p7_ p8_ p9_ p10_ p11_ p12_ p13_ p14_ p15_ p16_ p17_ p18_ p19_ cR cCV cL3 cL4 cL2, pt_trb_AF hG p0_ p1_ p2_ p3_ p4_ p5_ p6_ p7_ p8_ p9_ p10_ p11_ p12_ p13_ p14_ p15_ p16_ p17_ p18_ p19_ cAF, pt_trb_RT hG p0_ p1_ p2_ p3_ p4_ p5_ p6_ p7_ p8_ p9_ p10_ p11_ p12_ p13_ p14_ p15_ p16_ p17_ p18_ p19_ cRT cR cCV cL2 cL4, pt_trb_CV hG p0_ p1_ p2_ p3_ p4_ p5_ p6_ p7_ p8_ p9_ p10_ p11_ p12_ p13_ p14_ p15_ p16_ p17_ p18_ p19_ cR cCV, pt_trb_L5 hG p0_ p1_ p2_ p3_ p4_ p5_ p6_ p7_ p8_ p9_ p10_ p11_ p12_ p13_ p14_ p15_ p16_ p17_ p18_ p19_ cL5 cR, pt_trb_L5o hG p0_ p1_ p2_ p3_ p4_ p5_ p6_ p7_ p8_ p9_ p10_ p11_ p12_ p13_ p14_ p15_ p16_ p17_ p18_ p19_ cL5o cR, pt_trb_L5u hG p0_ p1_ p2_ p3_ p4_ p5_ p6_ p7_ p8_ p9_ p10_ p11_ p12_ p13_ p14_ p15_ p16_ p17_ p18_ p19_ cL5u cR, pt_trb_L6 hG p0_ p1_ p2_ p3_ p4_ p5_ p6_ p7_ p8_ p9_ p10_ p11_ p12_ p13_ p14_ p15_ p16_ p17_ p18_ p19_ cL6 cR, pt_trb_L6u hG p0_ p1_ p2_ p3_ p4_ p5_ p6_ p7_ p8_ p9_ p10_ p11_ p12_ p13_ p14_ p15_ p16_ p17_ p18_ p19_ cL6u cR⟩

set_option maxHeartbeats 1000000 in
theorem pt_txa_R {W : Int → Prop} {sd : Int → Int} {op : Int → Int} {ed : Int → Int} {st : Int → Int} {lv : Int → Int} {nm : Int → Int} {tst : Int → Int} {om : Int → Int} {en : Int → Int} {fw : Int → Int} {nL : Int} {kd : Int → Int} {wy : Int → Int} {ll : Int → Int} {td : Int → Int} {wh : Int → Int} {b k : Int} (hG : pj_G W sd op ed) (p0_ : W b) (p1_ : 0 ≤ k) (p2_ : k < nL) (p3_ : wh k ≠ 2) (p4_ : kd k = 2) (p5_ : wy k = op b) (p6_ : ∀ j, 0 ≤ j → j < k → wy j = wy k → wh j ≠ 0) (p7_ : en b = 0) (p8_ : td k = nm (sd b)) (p9_ : ll k ≤ lv (sd b)) (p10_ : tst (sd b) = (ed b)) (p11_ : st (sd b) = 1) (p12_ : fw b = 0) (p13_ : (tst (sd (op b)) = (ed b) ∧ ll k = lv (sd (op b)) ∧ td k = nm (sd (op b)) ∧ st (sd (op b)) = 1 ∧ lv (sd (op b)) = lv (sd b)) ∨ (tst (sd (op b)) ≠ (ed b) ∧ en (op b) ≠ 0)) (p14_ : om (sd (op b)) ≠ (ed b)) (p15_ : 0 ≤ nL) (cR : pj_R W nL kd wy wh) : pj_R W nL kd wy (pu wh k 2) := by
  obtain ⟨hop, hed⟩ := hG
  unfold pj_R at *
  intro k0
  simp only [pu]
  have g0 := hop b
  have g1 := hop (wy k0)
  have g2 := hed b (wy k0)
  have cR_0 := cR k
  have cR_1 := cR k0
  have f0 := p6_ k
  have f1 := p6_ k0
  clear p6_
  clear hop hed cR
  grind (splits := 24)

set_option maxHeartbeats 1000000 in
theorem pt_txa_N1w {W : Int → Prop} {sd : Int → Int} {op : Int → Int} {ed : Int → Int} {st : Int → Int} {lv : Int → Int} {nm : Int → Int} {tst : Int → Int} {om : Int → Int} {en : Int → Int} {fw : Int → Int} {nL : Int} {kd : Int → Int} {wy : Int → Int} {ll : Int → Int} {td : Int → Int} {wh : Int → Int} {b k : Int} (hG : pj_G W sd op ed) (p0_ : W b) (p1_ : 0 ≤ k) (p2_ : k < nL) (p3_ : wh k ≠ 2) (p4_ : kd k = 2) (p5_ : wy k = op b) (p6_ : ∀ j, 0 ≤ j → j < k → wy j = wy k → wh j ≠ 0) (p7_ : en b = 0) (p8_ : td k = nm (sd b)) (p9_ : ll k ≤ lv (sd b)) (p10_ : tst (sd b) = (ed b)) (p11_ : st (sd b) = 1) (p12_ : fw b = 0) (p13_ : (tst (sd (op b)) = (ed b) ∧ ll k = lv (sd (op b)) ∧ td k = nm (sd (op b)) ∧ st (sd (op b)) = 1 ∧ lv (sd (op b)) = lv (sd b)) ∨ (tst (sd (op b)) ≠ (ed b) ∧ en (op b) ≠ 0)) (p14_ : om (sd (op b)) ≠ (ed b)) (p15_ : 0 ≤ nL) (cN1w : pj_N1w W sd st en) : pj_N1w W sd st (pu en b 2) := by
  obtain ⟨hop, hed⟩ := hG
  unfold pj_N1w at *
  intro w0
  simp only [pu]
  have g0 := hop b
  have g1 := hop w0
  have g2 := hed b w0
  have cN1w_0 := cN1w b
  have cN1w_1 := cN1w w0
  have cN1w_2 := cN1w (op w0)
  have f0 := p6_ k
  clear p6_
  clear hop hed cN1w
  grind (splits := 24)

set_option maxHeartbeats 1000000 in
theorem pt_txa_ER {W : Int → Prop} {sd : Int → Int} {op : Int → Int} {ed : Int → Int} {st : Int → Int} {lv : Int → Int} {nm : Int → Int} {tst : Int → Int} {om : Int → Int} {en : Int → Int} {fw : Int → Int} {nL : Int} {kd : Int → Int} {wy : Int → Int} {ll : Int → Int} {td : Int → Int} {wh : Int → Int} {b k : Int} (hG : pj_G W sd op ed) (p0_ : W b) (p1_ : 0 ≤ k) (p2_ : k < nL) (p3_ : wh k ≠ 2) (p4_ : kd k = 2) (p5_ : wy k = op b) (p6_ : ∀ j, 0 ≤ j → j < k → wy j = wy k → wh j ≠ 0) (p7_ : en b = 0) (p8_ : td k = nm (sd b)) (p9_ : ll k ≤ lv (sd b)) (p10_ : tst (sd b) = (ed b)) (p11_ : st (sd b) = 1) (p12_ : fw b = 0) (p13_ : (tst (sd (op b)) = (ed b) ∧ ll k = lv (sd (op b)) ∧ td k = nm (sd (op b)) ∧ st (sd (op b)) = 1 ∧ lv (sd (op b)) = lv (sd b)) ∨ (tst (sd (op b)) ≠ (ed b) ∧ en (op b) ≠ 0)) (p14_ : om (sd (op b)) ≠ (ed b)) (p15_ : 0 ≤ nL) (cER : pj_ER W en) : pj_ER W (pu en b 2) := by
  obtain ⟨hop, hed⟩ := hG
  unfold pj_ER at *
  intro w0
  simp only [pu]
  have g0 := hop b
  have g1 := hop w0
  have g2 := hed b w0
  have cER_0 := cER b
  have cER_1 := cER w0
  have cER_2 := cER (op w0)
  have f0 := p6_ k
  clear p6_
  clear hop hed cER
  grind (splits := 24)

set_option maxHeartbeats 1000000 in
theorem pt_txa_N1c {W : Int → Prop} {sd : Int → Int} {op : Int → Int} {ed : Int → Int} {st : Int → Int} {lv : Int → Int} {nm : Int → Int} {tst : Int → Int} {om : Int → Int} {en : Int → Int} {fw : Int → Int} {nL : Int} {kd : Int → Int} {wy : Int → Int} {ll : Int → Int} {td : Int → Int} {wh : Int → Int} {b k : Int} (hG : pj_G W sd op ed) (p0_ : W b) (p1_ : 0 ≤ k) (p2_ : k < nL) (p3_ : wh k ≠ 2) (p4_ : kd k = 2) (p5_ : wy k = op b) (p6_ : ∀ j, 0 ≤ j → j < k → wy j = wy k → wh j ≠ 0) (p7_ : en b = 0) (p8_ : td k = nm (sd b)) (p9_ : ll k ≤ lv (sd b)) (p10_ : tst (sd b) = (ed b)) (p11_ : st (sd b) = 1) (p12_ : fw b = 0) (p13_ : (tst (sd (op b)) = (ed b) ∧ ll k = lv (sd (op b)) ∧ td k = nm (sd (op b)) ∧ st (sd (op b)) = 1 ∧ lv (sd (op b)) = lv (sd b)) ∨ (tst (sd (op b)) ≠ (ed b) ∧ en (op b) ≠ 0)) (p14_ : om (sd (op b)) ≠ (ed b)) (p15_ : 0 ≤ nL) (cN1c : pj_N1c sd op st nL wy wh) (cR : pj_R W nL kd wy wh) : pj_N1c sd op st nL wy (pu wh k 2) := by
  obtain ⟨hop, hed⟩ := hG
  unfold pj_N1c pj_R at *
  intro k0
  simp only [pu]
  have g0 := hop b
  have g1 := hop (wy k0)
  have g2 := hed b (wy k0)
  have cN1c_0 := cN1c k
  have cN1c_1 := cN1c k0
  have cR_0 := cR k0
  have f0 := p6_ k
  have f1 := p6_ k0
  clear p6_
  clear hop hed cN1c cR
  grind (splits := 24)

set_option maxHeartbeats 1000000 in
theorem pt_txa_N2 {W : Int → Prop} {sd : Int → Int} {op : Int → Int} {ed : Int → Int} {st : Int → Int} {lv : Int → Int} {nm : Int → Int} {tst : Int → Int} {om : Int → Int} {en : Int → Int} {fw : Int → Int} {nL : Int} {kd : Int → Int} {wy : Int → Int} {ll : Int → Int} {td : Int → Int} {wh : Int → Int} {b k : Int} (hG : pj_G W sd op ed) (p0_ : W b) (p1_ : 0 ≤ k) (p2_ : k < nL) (p3_ : wh k ≠ 2) (p4_ : kd k = 2) (p5_ : wy k = op b) (p6_ : ∀ j, 0 ≤ j → j < k → wy j = wy k → wh j ≠ 0) (p7_ : en b = 0) (p8_ : td k = nm (sd b)) (p9_ : ll k ≤ lv (sd b)) (p10_ : tst (sd b) = (ed b)) (p11_ : st (sd b) = 1) (p12_ : fw b = 0) (p13_ : (tst (sd (op b)) = (ed b) ∧ ll k = lv (sd (op b)) ∧ td k = nm (sd (op b)) ∧ st (sd (op b)) = 1 ∧ lv (sd (op b)) = lv (sd b)) ∨ (tst (sd (op b)) ≠ (ed b) ∧ en (op b) ≠ 0)) (p14_ : om (sd (op b)) ≠ (ed b)) (p15_ : 0 ≤ nL) (cN2 : pj_N2 W sd ed om en) : pj_N2 W sd ed om (pu en b 2) := by
  obtain ⟨hop, hed⟩ := hG
  unfold pj_N2 at *
  intro w0
  simp only [pu]
  have g0 := hop b
  have g1 := hop w0
  have g2 := hed b w0
  have cN2_0 := cN2 b
  have cN2_1 := cN2 w0
  have cN2_2 := cN2 (op w0)
  have f0 := p6_ k
  clear p6_
  clear hop hed cN2
  grind (splits := 24)

set_option maxHeartbeats 1000000 in
theorem pt_txa_N7 {W : Int → Prop} {sd : Int → Int} {op : Int → Int} {ed : Int → Int} {st : Int → Int} {lv : Int → Int} {nm : Int → Int} {tst : Int → Int} {exp : Int → Int} {om : Int → Int} {en : Int → Int} {fw : Int → Int} {nL : Int} {kd : Int → Int} {wy : Int → Int} {ll : Int → Int} {td : Int → Int} {wh : Int → Int} {b k : Int} (hG : pj_G W sd op ed) (p0_ : W b) (p1_ : 0 ≤ k) (p2_ : k < nL) (p3_ : wh k ≠ 2) (p4_ : kd k = 2) (p5_ : wy k = op b) (p6_ : ∀ j, 0 ≤ j → j < k → wy j = wy k → wh j ≠ 0) (p7_ : en b = 0) (p8_ : td k = nm (sd b)) (p9_ : ll k ≤ lv (sd b)) (p10_ : tst (sd b) = (ed b)) (p11_ : st (sd b) = 1) (p12_ : fw b = 0) (p13_ : (tst (sd (op b)) = (ed b) ∧ ll k = lv (sd (op b)) ∧ td k = nm (sd (op b)) ∧ st (sd (op b)) = 1 ∧ lv (sd (op b)) = lv (sd b)) ∨ (tst (sd (op b)) ≠ (ed b) ∧ en (op b) ≠ 0)) (p14_ : om (sd (op b)) ≠ (ed b)) (p15_ : 0 ≤ nL) (cN7 : pj_N7 st tst exp) : pj_N7 st (pu tst (sd b) (-1)) exp := by
  obtain ⟨hop, hed⟩ := hG
  unfold pj_N7 at *
  intro n0
  simp only [pu]
  have g0 := hop b
  have cN7_0 := cN7 (sd (op b))
  have cN7_1 := cN7 n0
  have cN7_2 := cN7 (sd b)
  have f0 := p6_ k
  clear p6_
  clear hop hed cN7
  grind (splits := 24)

set_option maxHeartbeats 1000000 in
theorem pt_txa_E1 {W : Int → Prop} {sd : Int → Int} {op : Int → Int} {ed : Int → Int} {st : Int → Int} {lv : Int → Int} {nm : Int → Int} {tst : Int → Int} {om : Int → Int} {dl : Int → Int} {en : Int → Int} {fw : Int → Int} {nL : Int} {kd : Int → Int} {wy : Int → Int} {ll : Int → Int} {td : Int → Int} {wh : Int → Int} {b k : Int} (hG : pj_G W sd op ed) (p0_ : W b) (p1_ : 0 ≤ k) (p2_ : k < nL) (p3_ : wh k ≠ 2) (p4_ : kd k = 2) (p5_ : wy k = op b) (p6_ : ∀ j, 0 ≤ j → j < k → wy j = wy k → wh j ≠ 0) (p7_ : en b = 0) (p8_ : td k = nm (sd b)) (p9_ : ll k ≤ lv (sd b)) (p10_ : tst (sd b) = (ed b)) (p11_ : st (sd b) = 1) (p12_ : fw b = 0) (p13_ : (tst (sd (op b)) = (ed b) ∧ ll k = lv (sd (op b)) ∧ td k = nm (sd (op b)) ∧ st (sd (op b)) = 1 ∧ lv (sd (op b)) = lv (sd b)) ∨ (tst (sd (op b)) ≠ (ed b) ∧ en (op b) ≠ 0)) (p14_ : om (sd (op b)) ≠ (ed b)) (p15_ : 0 ≤ nL) (cE1 : pj_E1 sd op lv dl nL kd wy ll wh) : pj_E1 sd op lv dl nL kd wy ll (pu wh k 2) := by
  obtain ⟨hop, hed⟩ := hG
  unfold pj_E1 at *
  intro n0
  simp only [pu]
  have g0 := hop b
  have cE1_0 := cE1 (sd (op b))
  have cE1_1 := cE1 n0
  have cE1_2 := cE1 (sd b)
  have f0 := p6_ k
  clear p6_
  clear hop hed cE1
  grind (splits := 24)

set_option maxHeartbeats 1000000 in
theorem pt_txa_U {W : Int → Prop} {sd : Int → Int} {op : Int → Int} {ed : Int → Int} {st : Int → Int} {lv : Int → Int} {nm : Int → Int} {tst : Int → Int} {om : Int → Int} {ps : Int → Int} {dl : Int → Int} {en : Int → Int} {fw : Int → Int} {cl : Int → Int} {nL : Int} {kd : Int → Int} {wy : Int → Int} {ll : Int → Int} {td : Int → Int} {wh : Int → Int} {b k : Int} (hG : pj_G W sd op ed) (p0_ : W b) (p1_ : 0 ≤ k) (p2_ : k < nL) (p3_ : wh k ≠ 2) (p4_ : kd k = 2) (p5_ : wy k = op b) (p6_ : ∀ j, 0 ≤ j → j < k → wy j = wy k → wh j ≠ 0) (p7_ : en b = 0) (p8_ : td k = nm (sd b)) (p9_ : ll k ≤ lv (sd b)) (p10_ : tst (sd b) = (ed b)) (p11_ : st (sd b) = 1) (p12_ : fw b = 0) (p13_ : (tst (sd (op b)) = (ed b) ∧ ll k = lv (sd (op b)) ∧ td k = nm (sd (op b)) ∧ st (sd (op b)) = 1 ∧ lv (sd (op b)) = lv (sd b)) ∨ (tst (sd (op b)) ≠ (ed b) ∧ en (op b) ≠ 0)) (p14_ : om (sd (op b)) ≠ (ed b)) (p15_ : 0 ≤ nL) (cU : pj_U W sd op ed lv nm om ps dl en cl) : pj_U W sd op ed lv nm om ps dl (pu en b 2) cl := by
  obtain ⟨hop, hed⟩ := hG
  unfold pj_U at *
  intro w0
  simp only [pu]
  have g0 := hop b
  have g1 := hop w0
  have g2 := hed b w0
  have cU_0 := cU b
  have cU_1 := cU w0
  have cU_2 := cU (op w0)
  have f0 := p6_ k
  clear p6_
  clear hop hed cU
  grind (splits := 24)

set_option maxHeartbeats 1000000 in
theorem pt_txa_A1 {W : Int → Prop} {sd : Int → Int} {op : Int → Int} {ed : Int → Int} {st : Int → Int} {lv : Int → Int} {nm : Int → Int} {tst : Int → Int} {om : Int → Int} {dl : Int → Int} {dn : Int → Int} {en : Int → Int} {fw : Int → Int} {nL : Int} {kd : Int → Int} {wy : Int → Int} {ll : Int → Int} {td : Int → Int} {wh : Int → Int} {F : Int → Prop} {fl : Int} {fc : Int} {b k : Int} (hG : pj_G W sd op ed) (p0_ : W b) (p1_ : 0 ≤ k) (p2_ : k < nL) (p3_ : wh k ≠ 2) (p4_ : kd k = 2) (p5_ : wy k = op b) (p6_ : ∀ j, 0 ≤ j → j < k → wy j = wy k → wh j ≠ 0) (p7_ : en b = 0) (p8_ : td k = nm (sd b)) (p9_ : ll k ≤ lv (sd b)) (p10_ : tst (sd b) = (ed b)) (p11_ : st (sd b) = 1) (p12_ : fw b = 0) (p13_ : (tst (sd (op b)) = (ed b) ∧ ll k = lv (sd (op b)) ∧ td k = nm (sd (op b)) ∧ st (sd (op b)) = 1 ∧ lv (sd (op b)) = lv (sd b)) ∨ (tst (sd (op b)) ≠ (ed b) ∧ en (op b) ≠ 0)) (p14_ : om (sd (op b)) ≠ (ed b)) (p15_ : 0 ≤ nL) (cA1 : pj_A1 W sd op ed lv nm om dl dn en F fl fc) : pj_A1 W sd op ed lv nm om dl dn (pu en b 2) F fl fc := by
  obtain ⟨hop, hed⟩ := hG
  unfold pj_A1 at *
  intro w0
  simp only [pu]
  have g0 := hop b
  have g1 := hop w0
  have g2 := hed b w0
  have cA1_0 := cA1 b
  have cA1_1 := cA1 w0
  have cA1_2 := cA1 (op w0)
  have f0 := p6_ k
  clear p6_
  clear hop hed cA1
  grind (splits := 24)

set_option maxHeartbeats 1000000 in
theorem pt_txa_EC {W : Int → Prop} {sd : Int → Int} {op : Int → Int} {ed : Int → Int} {st : Int → Int} {lv : Int → Int} {nm : Int → Int} {tst : Int → Int} {om : Int → Int} {ps : Int → Int} {dl : Int → Int} {en : Int → Int} {fw : Int → Int} {nL : Int} {kd : Int → Int} {wy : Int → Int} {ll : Int → Int} {td : Int → Int} {wh : Int → Int} {F : Int → Prop} {b k : Int} (hG : pj_G W sd op ed) (p0_ : W b) (p1_ : 0 ≤ k) (p2_ : k < nL) (p3_ : wh k ≠ 2) (p4_ : kd k = 2) (p5_ : wy k = op b) (p6_ : ∀ j, 0 ≤ j → j < k → wy j = wy k → wh j ≠ 0) (p7_ : en b = 0) (p8_ : td k = nm (sd b)) (p9_ : ll k ≤ lv (sd b)) (p10_ : tst (sd b) = (ed b)) (p11_ : st (sd b) = 1) (p12_ : fw b = 0) (p13_ : (tst (sd (op b)) = (ed b) ∧ ll k = lv (sd (op b)) ∧ td k = nm (sd (op b)) ∧ st (sd (op b)) = 1 ∧ lv (sd (op b)) = lv (sd b)) ∨ (tst (sd (op b)) ≠ (ed b) ∧ en (op b) ≠ 0)) (p14_ : om (sd (op b)) ≠ (ed b)) (p15_ : 0 ≤ nL) (cEC : pj_EC W sd op ed lv nm om ps dl nL kd wy wh F) : pj_EC W sd op ed lv nm om ps dl nL kd wy (pu wh k 2) F := by
  obtain ⟨hop, hed⟩ := hG
  unfold pj_EC at *
  intro w0
  simp only [pu]
  have g0 := hop b
  have g1 := hop w0
  have g2 := hed b w0
  have cEC_0 := cEC b
  have cEC_1 := cEC w0
  have cEC_2 := cEC (op w0)
  have f0 := p6_ k
  clear p6_
  clear hop hed cEC
  grind (splits := 24)

set_option maxHeartbeats 1000000 in
theorem pt_txa_N11 {W : Int → Prop} {sd : Int → Int} {op : Int → Int} {ed : Int → Int} {st : Int → Int} {lv : Int → Int} {nm : Int → Int} {tow : Int → Int} {tst : Int → Int} {om : Int → Int} {ps : Int → Int} {en : Int → Int} {fw : Int → Int} {nL : Int} {kd : Int → Int} {wy : Int → Int} {ll : Int → Int} {td : Int → Int} {wh : Int → Int} {b k : Int} (hG : pj_G W sd op ed) (p0_ : W b) (p1_ : 0 ≤ k) (p2_ : k < nL) (p3_ : wh k ≠ 2) (p4_ : kd k = 2) (p5_ : wy k = op b) (p6_ : ∀ j, 0 ≤ j → j < k → wy j = wy k → wh j ≠ 0) (p7_ : en b = 0) (p8_ : td k = nm (sd b)) (p9_ : ll k ≤ lv (sd b)) (p10_ : tst (sd b) = (ed b)) (p11_ : st (sd b) = 1) (p12_ : fw b = 0) (p13_ : (tst (sd (op b)) = (ed b) ∧ ll k = lv (sd (op b)) ∧ td k = nm (sd (op b)) ∧ st (sd (op b)) = 1 ∧ lv (sd (op b)) = lv (sd b)) ∨ (tst (sd (op b)) ≠ (ed b) ∧ en (op b) ≠ 0)) (p14_ : om (sd (op b)) ≠ (ed b)) (p15_ : 0 ≤ nL) (cN11 : pj_N11 W sd op ed lv nm tow tst ps en) : pj_N11 W sd op ed lv nm tow (pu tst (sd b) (-1)) ps (pu en b 2) := by
  obtain ⟨hop, hed⟩ := hG
  unfold pj_N11 at *
  intro w0
  simp only [pu]
  have g0 := hop b
  have g1 := hop w0
  have g2 := hed b w0
  have cN11_0 := cN11 b
  have cN11_1 := cN11 w0
  have cN11_2 := cN11 (op w0)
  have f0 := p6_ k
  clear p6_
  clear hop hed cN11
  grind (splits := 24)

set_option maxHeartbeats 1000000 in
theorem pt_txa_N12 {W : Int → Prop} {sd : Int → Int} {op : Int → Int} {ed : Int → Int} {st : Int → Int} {lv : Int → Int} {nm : Int → Int} {inw : Int → Int} {tow : Int → Int} {tst : Int → Int} {om : Int → Int} {ps : Int → Int} {dl : Int → Int} {en : Int → Int} {fw : Int → Int} {nL : Int} {kd : Int → Int} {wy : Int → Int} {ll : Int → Int} {td : Int → Int} {wh : Int → Int} {b k : Int} (hG : pj_G W sd op ed) (p0_ : W b) (p1_ : 0 ≤ k) (p2_ : k < nL) (p3_ : wh k ≠ 2) (p4_ : kd k = 2) (p5_ : wy k = op b) (p6_ : ∀ j, 0 ≤ j → j < k → wy j = wy k → wh j ≠ 0) (p7_ : en b = 0) (p8_ : td k = nm (sd b)) (p9_ : ll k ≤ lv (sd b)) (p10_ : tst (sd b) = (ed b)) (p11_ : st (sd b) = 1) (p12_ : fw b = 0) (p13_ : (tst (sd (op b)) = (ed b) ∧ ll k = lv (sd (op b)) ∧ td k = nm (sd (op b)) ∧ st (sd (op b)) = 1 ∧ lv (sd (op b)) = lv (sd b)) ∨ (tst (sd (op b)) ≠ (ed b) ∧ en (op b) ≠ 0)) (p14_ : om (sd (op b)) ≠ (ed b)) (p15_ : 0 ≤ nL) (cN12 : pj_N12 W sd op ed st lv nm inw tow om ps dl en) : pj_N12 W sd op ed st lv nm inw tow om ps dl (pu en b 2) := by
  obtain ⟨hop, hed⟩ := hG
  unfold pj_N12 at *
  intro w0
  simp only [pu]
  have g0 := hop b
  have g1 := hop w0
  have g2 := hed b w0
  have cN12_0 := cN12 b
  have cN12_1 := cN12 w0
  have cN12_2 := cN12 (op w0)
  have f0 := p6_ k
  clear p6_
  clear hop hed cN12
  grind (splits := 24)

set_option maxHeartbeats 1000000 in
theorem pt_txa_N3 {W : Int → Prop} {sd : Int → Int} {op : Int → Int} {ed : Int → Int} {st : Int → Int} {lv : Int → Int} {nm : Int → Int} {tst : Int → Int} {om : Int → Int} {en : Int → Int} {fw : Int → Int} {nL : Int} {kd : Int → Int} {wy : Int → Int} {ll : Int → Int} {td : Int → Int} {wh : Int → Int} {b k : Int} (hG : pj_G W sd op ed) (p0_ : W b) (p1_ : 0 ≤ k) (p2_ : k < nL) (p3_ : wh k ≠ 2) (p4_ : kd k = 2) (p5_ : wy k = op b) (p6_ : ∀ j, 0 ≤ j → j < k → wy j = wy k → wh j ≠ 0) (p7_ : en b = 0) (p8_ : td k = nm (sd b)) (p9_ : ll k ≤ lv (sd b)) (p10_ : tst (sd b) = (ed b)) (p11_ : st (sd b) = 1) (p12_ : fw b = 0) (p13_ : (tst (sd (op b)) = (ed b) ∧ ll k = lv (sd (op b)) ∧ td k = nm (sd (op b)) ∧ st (sd (op b)) = 1 ∧ lv (sd (op b)) = lv (sd b)) ∨ (tst (sd (op b)) ≠ (ed b) ∧ en (op b) ≠ 0)) (p14_ : om (sd (op b)) ≠ (ed b)) (p15_ : 0 ≤ nL) (cN3 : pj_N3 W sd op ed om en) : pj_N3 W sd op ed om (pu en b 2) := by
  obtain ⟨hop, hed⟩ := hG
  unfold pj_N3 at *
  intro w0
  simp only [pu]
  have g0 := hop b
  have g1 := hop w0
  have g2 := hed b w0
  have cN3_0 := cN3 b
  have cN3_1 := cN3 w0
  have cN3_2 := cN3 (op w0)
  have f0 := p6_ k
  clear p6_
  clear hop hed cN3
  grind (splits := 24)

set_option maxHeartbeats 1000000 in
theorem pt_txa_RJ {W : Int → Prop} {sd : Int → Int} {op : Int → Int} {ed : Int → Int} {st : Int → Int} {lv : Int → Int} {nm : Int → Int} {tst : Int → Int} {om : Int → Int} {en : Int → Int} {fw : Int → Int} {nL : Int} {kd : Int → Int} {wy : Int → Int} {ll : Int → Int} {td : Int → Int} {wh : Int → Int} {b k : Int} (hG : pj_G W sd op ed) (p0_ : W b) (p1_ : 0 ≤ k) (p2_ : k < nL) (p3_ : wh k ≠ 2) (p4_ : kd k = 2) (p5_ : wy k = op b) (p6_ : ∀ j, 0 ≤ j → j < k → wy j = wy k → wh j ≠ 0) (p7_ : en b = 0) (p8_ : td k = nm (sd b)) (p9_ : ll k ≤ lv (sd b)) (p10_ : tst (sd b) = (ed b)) (p11_ : st (sd b) = 1) (p12_ : fw b = 0) (p13_ : (tst (sd (op b)) = (ed b) ∧ ll k = lv (sd (op b)) ∧ td k = nm (sd (op b)) ∧ st (sd (op b)) = 1 ∧ lv (sd (op b)) = lv (sd b)) ∨ (tst (sd (op b)) ≠ (ed b) ∧ en (op b) ≠ 0)) (p14_ : om (sd (op b)) ≠ (ed b)) (p15_ : 0 ≤ nL) (cRJ : pj_RJ W sd op ed tst en fw) : pj_RJ W sd op ed (pu tst (sd b) (-1)) (pu en b 2) (pu fw b 1) := by
  obtain ⟨hop, hed⟩ := hG
  unfold pj_RJ at *
  intro w0
  simp only [pu]
  have g0 := hop b
  have g1 := hop w0
  have g2 := hed b w0
  have cRJ_0 := cRJ b
  have cRJ_1 := cRJ w0
  have cRJ_2 := cRJ (op w0)
  have f0 := p6_ k
  clear p6_
  clear hop hed cRJ
  grind (splits := 24)

set_option maxHeartbeats 1000000 in
theorem pt_txa_FW {W : Int → Prop} {sd : Int → Int} {op : Int → Int} {ed : Int → Int} {st : Int → Int} {lv : Int → Int} {nm : Int → Int} {tst : Int → Int} {om : Int → Int} {en : Int → Int} {fw : Int → Int} {nL : Int} {kd : Int → Int} {wy : Int → Int} {ll : Int → Int} {td : Int → Int} {wh : Int → Int} {b k : Int} (hG : pj_G W sd op ed) (p0_ : W b) (p1_ : 0 ≤ k) (p2_ : k < nL) (p3_ : wh k ≠ 2) (p4_ : kd k = 2) (p5_ : wy k = op b) (p6_ : ∀ j, 0 ≤ j → j < k → wy j = wy k → wh j ≠ 0) (p7_ : en b = 0) (p8_ : td k = nm (sd b)) (p9_ : ll k ≤ lv (sd b)) (p10_ : tst (sd b) = (ed b)) (p11_ : st (sd b) = 1) (p12_ : fw b = 0) (p13_ : (tst (sd (op b)) = (ed b) ∧ ll k = lv (sd (op b)) ∧ td k = nm (sd (op b)) ∧ st (sd (op b)) = 1 ∧ lv (sd (op b)) = lv (sd b)) ∨ (tst (sd (op b)) ≠ (ed b) ∧ en (op b) ≠ 0)) (p14_ : om (sd (op b)) ≠ (ed b)) (p15_ : 0 ≤ nL) (cFW : pj_FW W sd ed tst en fw) : pj_FW W sd ed (pu tst (sd b) (-1)) (pu en b 2) (pu fw b 1) := by
  obtain ⟨hop, hed⟩ := hG
  unfold pj_FW at *
  intro w0
  simp only [pu]
  have g0 := hop b
  have g1 := hop w0
  have g2 := hed b w0
  have cFW_0 := cFW b
  have cFW_1 := cFW w0
  have cFW_2 := cFW (op w0)
  have f0 := p6_ k
  clear p6_
  clear hop hed cFW
  grind (splits := 24)

set_option maxHeartbeats 1000000 in
theorem pt_txa_PD {W : Int → Prop} {sd : Int → Int} {op : Int → Int} {ed : Int → Int} {st : Int → Int} {lv : Int → Int} {nm : Int → Int} {tst : Int → Int} {om : Int → Int} {en : Int → Int} {pd : Int → Int} {fw : Int → Int} {nL : Int} {kd : Int → Int} {wy : Int → Int} {ll : Int → Int} {td : Int → Int} {wh : Int → Int} {b k : Int} (hG : pj_G W sd op ed) (p0_ : W b) (p1_ : 0 ≤ k) (p2_ : k < nL) (p3_ : wh k ≠ 2) (p4_ : kd k = 2) (p5_ : wy k = op b) (p6_ : ∀ j, 0 ≤ j → j < k → wy j = wy k → wh j ≠ 0) (p7_ : en b = 0) (p8_ : td k = nm (sd b)) (p9_ : ll k ≤ lv (sd b)) (p10_ : tst (sd b) = (ed b)) (p11_ : st (sd b) = 1) (p12_ : fw b = 0) (p13_ : (tst (sd (op b)) = (ed b) ∧ ll k = lv (sd (op b)) ∧ td k = nm (sd (op b)) ∧ st (sd (op b)) = 1 ∧ lv (sd (op b)) = lv (sd b)) ∨ (tst (sd (op b)) ≠ (ed b) ∧ en (op b) ≠ 0)) (p14_ : om (sd (op b)) ≠ (ed b)) (p15_ : 0 ≤ nL) (cPD : pj_PD W sd op ed st om en pd) : pj_PD W sd op ed st om (pu en b 2) pd := by
  obtain ⟨hop, hed⟩ := hG
  unfold pj_PD at *
  intro w0
  simp only [pu]
  have g0 := hop b
  have g1 := hop w0
  have g2 := hed b w0
  have cPD_0 := cPD b
  have cPD_1 := cPD w0
  have cPD_2 := cPD (op w0)
  have f0 := p6_ k
  clear p6_
  clear hop hed cPD
  grind (splits := 24)

set_option maxHeartbeats 1000000 in
theorem pt_txa_CC {W : Int → Prop} {sd : Int → Int} {op : Int → Int} {ed : Int → Int} {st : Int → Int} {lv : Int → Int} {nm : Int → Int} {tst : Int → Int} {om : Int → Int} {en : Int → Int} {fw : Int → Int} {cl : Int → Int} {nL : Int} {kd : Int → Int} {wy : Int → Int} {ll : Int → Int} {td : Int → Int} {wh : Int → Int} {b k : Int} (hG : pj_G W sd op ed) (p0_ : W b) (p1_ : 0 ≤ k) (p2_ : k < nL) (p3_ : wh k ≠ 2) (p4_ : kd k = 2) (p5_ : wy k = op b) (p6_ : ∀ j, 0 ≤ j → j < k → wy j = wy k → wh j ≠ 0) (p7_ : en b = 0) (p8_ : td k = nm (sd b)) (p9_ : ll k ≤ lv (sd b)) (p10_ : tst (sd b) = (ed b)) (p11_ : st (sd b) = 1) (p12_ : fw b = 0) (p13_ : (tst (sd (op b)) = (ed b) ∧ ll k = lv (sd (op b)) ∧ td k = nm (sd (op b)) ∧ st (sd (op b)) = 1 ∧ lv (sd (op b)) = lv (sd b)) ∨ (tst (sd (op b)) ≠ (ed b) ∧ en (op b) ≠ 0)) (p14_ : om (sd (op b)) ≠ (ed b)) (p15_ : 0 ≤ nL) (cCC : pj_CC W ed en cl) : pj_CC W ed (pu en b 2) cl := by
  obtain ⟨hop, hed⟩ := hG
  unfold pj_CC at *
  intro w0
  simp only [pu]
  have g0 := hop b
  have g1 := hop w0
  have g2 := hed b w0
  have cCC_0 := cCC b
  have cCC_1 := cCC w0
  have cCC_2 := cCC (op w0)
  have f0 := p6_ k
  clear p6_
  clear hop hed cCC
  grind (splits := 24)

set_option maxHeartbeats 1000000 in
theorem pt_txa_WH {W : Int → Prop} {sd : Int → Int} {op : Int → Int} {ed : Int → Int} {st : Int → Int} {lv : Int → Int} {nm : Int → Int} {tst : Int → Int} {om : Int → Int} {en : Int → Int} {fw : Int → Int} {nL : Int} {kd : Int → Int} {wy : Int → Int} {ll : Int → Int} {td : Int → Int} {wh : Int → Int} {b k : Int} (hG : pj_G W sd op ed) (p0_ : W b) (p1_ : 0 ≤ k) (p2_ : k < nL) (p3_ : wh k ≠ 2) (p4_ : kd k = 2) (p5_ : wy k = op b) (p6_ : ∀ j, 0 ≤ j → j < k → wy j = wy k → wh j ≠ 0) (p7_ : en b = 0) (p8_ : td k = nm (sd b)) (p9_ : ll k ≤ lv (sd b)) (p10_ : tst (sd b) = (ed b)) (p11_ : st (sd b) = 1) (p12_ : fw b = 0) (p13_ : (tst (sd (op b)) = (ed b) ∧ ll k = lv (sd (op b)) ∧ td k = nm (sd (op b)) ∧ st (sd (op b)) = 1 ∧ lv (sd (op b)) = lv (sd b)) ∨ (tst (sd (op b)) ≠ (ed b) ∧ en (op b) ≠ 0)) (p14_ : om (sd (op b)) ≠ (ed b)) (p15_ : 0 ≤ nL) (cWH : pj_WH nL kd wh) (cR : pj_R W nL kd wy wh) : pj_WH nL kd (pu wh k 2) := by
  obtain ⟨hop, hed⟩ := hG
  unfold pj_WH pj_R at *
  intro k0
  simp only [pu]
  have g0 := hop b
  have g1 := hop (wy k0)
  have g2 := hed b (wy k0)
  have cWH_0 := cWH k
  have cWH_1 := cWH k0
  have cR_0 := cR k0
  have f0 := p6_ k
  have f1 := p6_ k0
  clear p6_
  clear hop hed cWH cR
  grind (splits := 24)

set_option maxHeartbeats 1000000 in
theorem pt_txa_FI {W : Int → Prop} {sd : Int → Int} {op : Int → Int} {ed : Int → Int} {st : Int → Int} {lv : Int → Int} {nm : Int → Int} {tst : Int → Int} {om : Int → Int} {en : Int → Int} {fw : Int → Int} {nL : Int} {kd : Int → Int} {wy : Int → Int} {ll : Int → Int} {td : Int → Int} {wh : Int → Int} {b k : Int} (hG : pj_G W sd op ed) (p0_ : W b) (p1_ : 0 ≤ k) (p2_ : k < nL) (p3_ : wh k ≠ 2) (p4_ : kd k = 2) (p5_ : wy k = op b) (p6_ : ∀ j, 0 ≤ j → j < k → wy j = wy k → wh j ≠ 0) (p7_ : en b = 0) (p8_ : td k = nm (sd b)) (p9_ : ll k ≤ lv (sd b)) (p10_ : tst (sd b) = (ed b)) (p11_ : st (sd b) = 1) (p12_ : fw b = 0) (p13_ : (tst (sd (op b)) = (ed b) ∧ ll k = lv (sd (op b)) ∧ td k = nm (sd (op b)) ∧ st (sd (op b)) = 1 ∧ lv (sd (op b)) = lv (sd b)) ∨ (tst (sd (op b)) ≠ (ed b) ∧ en (op b) ≠ 0)) (p14_ : om (sd (op b)) ≠ (ed b)) (p15_ : 0 ≤ nL) (cFI : pj_FI nL wy wh) (cR : pj_R W nL kd wy wh) : pj_FI nL wy (pu wh k 2) := by
  obtain ⟨hop, hed⟩ := hG
  unfold pj_FI pj_R at *
  intro j0 k0
  simp only [pu]
  have g0 := hop b
  have g1 := hop (wy j0)
  have g2 := hop (wy k0)
  have g3 := hed b (wy j0)
  have g4 := hed b (wy k0)
  have g5 := hed (wy j0) (wy k0)
  have cFI_0 := cFI k k
  have cFI_1 := cFI k j0
  have cFI_2 := cFI k k0
  have cFI_3 := cFI j0 k
  have cFI_4 := cFI j0 j0
  have cFI_5 := cFI j0 k0
  have cFI_6 := cFI k0 k
  have cFI_7 := cFI k0 j0
  have cFI_8 := cFI k0 k0
  have cR_0 := cR j0
  have cR_1 := cR k0
  have f0 := p6_ k
  have f1 := p6_ j0
  have f2 := p6_ k0
  clear p6_
  clear hop hed cFI cR
  grind (splits := 24)

set_option maxHeartbeats 1000000 in
theorem pt_txa_L0 {W : Int → Prop} {sd : Int → Int} {op : Int → Int} {ed : Int → Int} {st : Int → Int} {lv : Int → Int} {nm : Int → Int} {tst : Int → Int} {om : Int → Int} {ps : Int → Int} {dl : Int → Int} {c0 : Int → Int} {en : Int → Int} {fw : Int → Int} {cw : Int → Int} {nL : Int} {kd : Int → Int} {wy : Int → Int} {ll : Int → Int} {td : Int → Int} {wh : Int → Int} {b k : Int} (hG : pj_G W sd op ed) (p0_ : W b) (p1_ : 0 ≤ k) (p2_ : k < nL) (p3_ : wh k ≠ 2) (p4_ : kd k = 2) (p5_ : wy k = op b) (p6_ : ∀ j, 0 ≤ j → j < k → wy j = wy k → wh j ≠ 0) (p7_ : en b = 0) (p8_ : td k = nm (sd b)) (p9_ : ll k ≤ lv (sd b)) (p10_ : tst (sd b) = (ed b)) (p11_ : st (sd b) = 1) (p12_ : fw b = 0) (p13_ : (tst (sd (op b)) = (ed b) ∧ ll k = lv (sd (op b)) ∧ td k = nm (sd (op b)) ∧ st (sd (op b)) = 1 ∧ lv (sd (op b)) = lv (sd b)) ∨ (tst (sd (op b)) ≠ (ed b) ∧ en (op b) ≠ 0)) (p14_ : om (sd (op b)) ≠ (ed b)) (p15_ : 0 ≤ nL) (cL0 : pj_L0 sd op ed lv nm om ps dl c0 en cw nL kd wy ll wh) (cR : pj_R W nL kd wy wh) : pj_L0 sd op ed lv nm om ps dl c0 (pu en b 2) cw nL kd wy ll (pu wh k 2) := by
  obtain ⟨hop, hed⟩ := hG
  unfold pj_L0 pj_R at *
  intro k0
  simp only [pu]
  have g0 := hop b
  have g1 := hop (wy k0)
  have g2 := hed b (wy k0)
  have cL0_0 := cL0 k
  have cL0_1 := cL0 k0
  have cR_0 := cR k0
  have f0 := p6_ k
  have f1 := p6_ k0
  clear p6_
  clear hop hed cL0 cR
  grind (splits := 24)

set_option maxHeartbeats 1000000 in
theorem pt_txa_FC {W : Int → Prop} {sd : Int → Int} {op : Int → Int} {ed : Int → Int} {st : Int → Int} {lv : Int → Int} {nm : Int → Int} {tst : Int → Int} {om : Int → Int} {en : Int → Int} {fw : Int → Int} {nL : Int} {kd : Int → Int} {wy : Int → Int} {ll : Int → Int} {td : Int → Int} {wh : Int → Int} {F : Int → Prop} {b k : Int} (hG : pj_G W sd op ed) (p0_ : W b) (p1_ : 0 ≤ k) (p2_ : k < nL) (p3_ : wh k ≠ 2) (p4_ : kd k = 2) (p5_ : wy k = op b) (p6_ : ∀ j, 0 ≤ j → j < k → wy j = wy k → wh j ≠ 0) (p7_ : en b = 0) (p8_ : td k = nm (sd b)) (p9_ : ll k ≤ lv (sd b)) (p10_ : tst (sd b) = (ed b)) (p11_ : st (sd b) = 1) (p12_ : fw b = 0) (p13_ : (tst (sd (op b)) = (ed b) ∧ ll k = lv (sd (op b)) ∧ td k = nm (sd (op b)) ∧ st (sd (op b)) = 1 ∧ lv (sd (op b)) = lv (sd b)) ∨ (tst (sd (op b)) ≠ (ed b) ∧ en (op b) ≠ 0)) (p14_ : om (sd (op b)) ≠ (ed b)) (p15_ : 0 ≤ nL) (cFC : pj_FC op nL kd wy wh F) (cR : pj_R W nL kd wy wh) : pj_FC op nL kd wy (pu wh k 2) F := by
  obtain ⟨hop, hed⟩ := hG
  unfold pj_FC pj_R at *
  intro k0
  simp only [pu]
  have g0 := hop b
  have g1 := hop (wy k0)
  have g2 := hed b (wy k0)
  have cFC_0 := cFC k
  have cFC_1 := cFC k0
  have cR_0 := cR k0
  have f0 := p6_ k
  have f1 := p6_ k0
  clear p6_
  clear hop hed cFC cR
  grind (splits := 24)

set_option maxHeartbeats 1000000 in
theorem pt_txa_L0u {W : Int → Prop} {sd : Int → Int} {op : Int → Int} {ed : Int → Int} {st : Int → Int} {lv : Int → Int} {nm : Int → Int} {tst : Int → Int} {om : Int → Int} {en : Int → Int} {fw : Int → Int} {nL : Int} {kd : Int → Int} {wy : Int → Int} {ll : Int → Int} {td : Int → Int} {wh : Int → Int} {b k : Int} (hG : pj_G W sd op ed) (p0_ : W b) (p1_ : 0 ≤ k) (p2_ : k < nL) (p3_ : wh k ≠ 2) (p4_ : kd k = 2) (p5_ : wy k = op b) (p6_ : ∀ j, 0 ≤ j → j < k → wy j = wy k → wh j ≠ 0) (p7_ : en b = 0) (p8_ : td k = nm (sd b)) (p9_ : ll k ≤ lv (sd b)) (p10_ : tst (sd b) = (ed b)) (p11_ : st (sd b) = 1) (p12_ : fw b = 0) (p13_ : (tst (sd (op b)) = (ed b) ∧ ll k = lv (sd (op b)) ∧ td k = nm (sd (op b)) ∧ st (sd (op b)) = 1 ∧ lv (sd (op b)) = lv (sd b)) ∨ (tst (sd (op b)) ≠ (ed b) ∧ en (op b) ≠ 0)) (p14_ : om (sd (op b)) ≠ (ed b)) (p15_ : 0 ≤ nL) (cL0u : pj_L0u nL kd wy wh) (cR : pj_R W nL kd wy wh) : pj_L0u nL kd wy (pu wh k 2) := by
  obtain ⟨hop, hed⟩ := hG
  unfold pj_L0u pj_R at *
  intro j0 k0
  simp only [pu]
  have g0 := hop b
  have g1 := hop (wy j0)
  have g2 := hop (wy k0)
  have g3 := hed b (wy j0)
  have g4 := hed b (wy k0)
  have g5 := hed (wy j0) (wy k0)
  have cL0u_0 := cL0u k k
  have cL0u_1 := cL0u k j0
  have cL0u_2 := cL0u k k0
  have cL0u_3 := cL0u j0 k
  have cL0u_4 := cL0u j0 j0
  have cL0u_5 := cL0u j0 k0
  have cL0u_6 := cL0u k0 k
  have cL0u_7 := cL0u k0 j0
  have cL0u_8 := cL0u k0 k0
  have cR_0 := cR j0
  have cR_1 := cR k0
  have f0 := p6_ k
  have f1 := p6_ j0
  have f2 := p6_ k0
  clear p6_
  clear hop hed cL0u cR
  grind (splits := 24)

set_option maxHeartbeats 1000000 in
theorem pt_txa_OC {W : Int → Prop} {sd : Int → Int} {op : Int → Int} {ed : Int → Int} {st : Int → Int} {lv : Int → Int} {nm : Int → Int} {tst : Int → Int} {om : Int → Int} {en : Int → Int} {fw : Int → Int} {nL : Int} {kd : Int → Int} {wy : Int → Int} {ll : Int → Int} {td : Int → Int} {wh : Int → Int} {b k : Int} (hG : pj_G W sd op ed) (p0_ : W b) (p1_ : 0 ≤ k) (p2_ : k < nL) (p3_ : wh k ≠ 2) (p4_ : kd k = 2) (p5_ : wy k = op b) (p6_ : ∀ j, 0 ≤ j → j < k → wy j = wy k → wh j ≠ 0) (p7_ : en b = 0) (p8_ : td k = nm (sd b)) (p9_ : ll k ≤ lv (sd b)) (p10_ : tst (sd b) = (ed b)) (p11_ : st (sd b) = 1) (p12_ : fw b = 0) (p13_ : (tst (sd (op b)) = (ed b) ∧ ll k = lv (sd (op b)) ∧ td k = nm (sd (op b)) ∧ st (sd (op b)) = 1 ∧ lv (sd (op b)) = lv (sd b)) ∨ (tst (sd (op b)) ≠ (ed b) ∧ en (op b) ≠ 0)) (p14_ : om (sd (op b)) ≠ (ed b)) (p15_ : 0 ≤ nL) (cOC : pj_OC nL kd wy wh) (cR : pj_R W nL kd wy wh) : pj_OC nL kd wy (pu wh k 2) := by
  obtain ⟨hop, hed⟩ := hG
  unfold pj_OC pj_R at *
  intro j0 k0
  simp only [pu]
  have g0 := hop b
  have g1 := hop (wy j0)
  have g2 := hop (wy k0)
  have g3 := hed b (wy j0)
  have g4 := hed b (wy k0)
  have g5 := hed (wy j0) (wy k0)
  have cOC_0 := cOC k k
  have cOC_1 := cOC k j0
  have cOC_2 := cOC k k0
  have cOC_3 := cOC j0 k
  have cOC_4 := cOC j0 j0
  have cOC_5 := cOC j0 k0
  have cOC_6 := cOC k0 k
  have cOC_7 := cOC k0 j0
  have cOC_8 := cOC k0 k0
  have cR_0 := cR j0
  have cR_1 := cR k0
  have f0 := p6_ k
  have f1 := p6_ j0
  have f2 := p6_ k0
  clear p6_
  clear hop hed cOC cR
  grind (splits := 24)

set_option maxHeartbeats 1000000 in
theorem pt_txa_CT {W : Int → Prop} {sd : Int → Int} {op : Int → Int} {ed : Int → Int} {st : Int → Int} {lv : Int → Int} {nm : Int → Int} {tst : Int → Int} {om : Int → Int} {en : Int → Int} {fw : Int → Int} {nL : Int} {kd : Int → Int} {wy : Int → Int} {ll : Int → Int} {td : Int → Int} {wh : Int → Int} {b k : Int} (hG : pj_G W sd op ed) (p0_ : W b) (p1_ : 0 ≤ k) (p2_ : k < nL) (p3_ : wh k ≠ 2) (p4_ : kd k = 2) (p5_ : wy k = op b) (p6_ : ∀ j, 0 ≤ j → j < k → wy j = wy k → wh j ≠ 0) (p7_ : en b = 0) (p8_ : td k = nm (sd b)) (p9_ : ll k ≤ lv (sd b)) (p10_ : tst (sd b) = (ed b)) (p11_ : st (sd b) = 1) (p12_ : fw b = 0) (p13_ : (tst (sd (op b)) = (ed b) ∧ ll k = lv (sd (op b)) ∧ td k = nm (sd (op b)) ∧ st (sd (op b)) = 1 ∧ lv (sd (op b)) = lv (sd b)) ∨ (tst (sd (op b)) ≠ (ed b) ∧ en (op b) ≠ 0)) (p14_ : om (sd (op b)) ≠ (ed b)) (p15_ : 0 ≤ nL) (cCT : pj_CT nL kd wy wh) (cR : pj_R W nL kd wy wh) : pj_CT nL kd wy (pu wh k 2) := by
  obtain ⟨hop, hed⟩ := hG
  unfold pj_CT pj_R at *
  intro j0 k0
  simp only [pu]
  have g0 := hop b
  have g1 := hop (wy j0)
  have g2 := hop (wy k0)
  have g3 := hed b (wy j0)
  have g4 := hed b (wy k0)
  have g5 := hed (wy j0) (wy k0)
  have cCT_0 := cCT k k
  have cCT_1 := cCT k j0
  have cCT_2 := cCT k k0
  have cCT_3 := cCT j0 k
  have cCT_4 := cCT j0 j0
  have cCT_5 := cCT j0 k0
  have cCT_6 := cCT k0 k
  have cCT_7 := cCT k0 j0
  have cCT_8 := cCT k0 k0
  have cR_0 := cR j0
  have cR_1 := cR k0
  have f0 := p6_ k
  have f1 := p6_ j0
  have f2 := p6_ k0
  clear p6_
  clear hop hed cCT cR
  grind (splits := 24)

set_option maxHeartbeats 1000000 in
theorem pt_txa_L1 {W : Int → Prop} {sd : Int → Int} {op : Int → Int} {ed : Int → Int} {st : Int → Int} {lv : Int → Int} {nm : Int → Int} {tst : Int → Int} {om : Int → Int} {dl : Int → Int} {en : Int → Int} {fw : Int → Int} {cl : Int → Int} {nL : Int} {kd : Int → Int} {wy : Int → Int} {ll : Int → Int} {td : Int → Int} {ls : Int → Int} {wh : Int → Int} {b k : Int} (hG : pj_G W sd op ed) (p0_ : W b) (p1_ : 0 ≤ k) (p2_ : k < nL) (p3_ : wh k ≠ 2) (p4_ : kd k = 2) (p5_ : wy k = op b) (p6_ : ∀ j, 0 ≤ j → j < k → wy j = wy k → wh j ≠ 0) (p7_ : en b = 0) (p8_ : td k = nm (sd b)) (p9_ : ll k ≤ lv (sd b)) (p10_ : tst (sd b) = (ed b)) (p11_ : st (sd b) = 1) (p12_ : fw b = 0) (p13_ : (tst (sd (op b)) = (ed b) ∧ ll k = lv (sd (op b)) ∧ td k = nm (sd (op b)) ∧ st (sd (op b)) = 1 ∧ lv (sd (op b)) = lv (sd b)) ∨ (tst (sd (op b)) ≠ (ed b) ∧ en (op b) ≠ 0)) (p14_ : om (sd (op b)) ≠ (ed b)) (p15_ : 0 ≤ nL) (cL1 : pj_L1 sd op ed st lv om dl en cl nL kd wy ll td ls wh) (cR : pj_R W nL kd wy wh) : pj_L1 sd op ed st lv om dl (pu en b 2) cl nL kd wy ll td ls (pu wh k 2) := by
  obtain ⟨hop, hed⟩ := hG
  unfold pj_L1 pj_R at *
  intro k0
  simp only [pu]
  have g0 := hop b
  have g1 := hop (wy k0)
  have g2 := hed b (wy k0)
  have cL1_0 := cL1 k
  have cL1_1 := cL1 k0
  have cR_0 := cR k0
  have f0 := p6_ k
  have f1 := p6_ k0
  clear p6_
  clear hop hed cL1 cR
  grind (splits := 24)

set_option maxHeartbeats 1000000 in
theorem pt_txa_L1e {W : Int → Prop} {sd : Int → Int} {op : Int → Int} {ed : Int → Int} {st : Int → Int} {lv : Int → Int} {nm : Int → Int} {tst : Int → Int} {om : Int → Int} {dl : Int → Int} {dn : Int → Int} {en : Int → Int} {fw : Int → Int} {nL : Int} {kd : Int → Int} {wy : Int → Int} {ll : Int → Int} {td : Int → Int} {ls : Int → Int} {wh : Int → Int} {b k : Int} (hG : pj_G W sd op ed) (p0_ : W b) (p1_ : 0 ≤ k) (p2_ : k < nL) (p3_ : wh k ≠ 2) (p4_ : kd k = 2) (p5_ : wy k = op b) (p6_ : ∀ j, 0 ≤ j → j < k → wy j = wy k → wh j ≠ 0) (p7_ : en b = 0) (p8_ : td k = nm (sd b)) (p9_ : ll k ≤ lv (sd b)) (p10_ : tst (sd b) = (ed b)) (p11_ : st (sd b) = 1) (p12_ : fw b = 0) (p13_ : (tst (sd (op b)) = (ed b) ∧ ll k = lv (sd (op b)) ∧ td k = nm (sd (op b)) ∧ st (sd (op b)) = 1 ∧ lv (sd (op b)) = lv (sd b)) ∨ (tst (sd (op b)) ≠ (ed b) ∧ en (op b) ≠ 0)) (p14_ : om (sd (op b)) ≠ (ed b)) (p15_ : 0 ≤ nL) (cL1e : pj_L1e sd op dl dn nL kd wy ll td ls wh) (cR : pj_R W nL kd wy wh) : pj_L1e sd op dl dn nL kd wy ll td ls (pu wh k 2) := by
  obtain ⟨hop, hed⟩ := hG
  unfold pj_L1e pj_R at *
  intro k0
  simp only [pu]
  have g0 := hop b
  have g1 := hop (wy k0)
  have g2 := hed b (wy k0)
  have cL1e_0 := cL1e k
  have cL1e_1 := cL1e k0
  have cR_0 := cR k0
  have f0 := p6_ k
  have f1 := p6_ k0
  clear p6_
  clear hop hed cL1e cR
  grind (splits := 24)

set_option maxHeartbeats 1000000 in
theorem pt_txa_L1o {W : Int → Prop} {sd : Int → Int} {op : Int → Int} {ed : Int → Int} {st : Int → Int} {lv : Int → Int} {nm : Int → Int} {tst : Int → Int} {om : Int → Int} {en : Int → Int} {fw : Int → Int} {nL : Int} {kd : Int → Int} {wy : Int → Int} {ll : Int → Int} {td : Int → Int} {wh : Int → Int} {b k : Int} (hG : pj_G W sd op ed) (p0_ : W b) (p1_ : 0 ≤ k) (p2_ : k < nL) (p3_ : wh k ≠ 2) (p4_ : kd k = 2) (p5_ : wy k = op b) (p6_ : ∀ j, 0 ≤ j → j < k → wy j = wy k → wh j ≠ 0) (p7_ : en b = 0) (p8_ : td k = nm (sd b)) (p9_ : ll k ≤ lv (sd b)) (p10_ : tst (sd b) = (ed b)) (p11_ : st (sd b) = 1) (p12_ : fw b = 0) (p13_ : (tst (sd (op b)) = (ed b) ∧ ll k = lv (sd (op b)) ∧ td k = nm (sd (op b)) ∧ st (sd (op b)) = 1 ∧ lv (sd (op b)) = lv (sd b)) ∨ (tst (sd (op b)) ≠ (ed b) ∧ en (op b) ≠ 0)) (p14_ : om (sd (op b)) ≠ (ed b)) (p15_ : 0 ≤ nL) (cL1o : pj_L1o nL kd wy ll wh) (cR : pj_R W nL kd wy wh) : pj_L1o nL kd wy ll (pu wh k 2) := by
  obtain ⟨hop, hed⟩ := hG
  unfold pj_L1o pj_R at *
  intro j0 k0
  simp only [pu]
  have g0 := hop b
  have g1 := hop (wy j0)
  have g2 := hop (wy k0)
  have g3 := hed b (wy j0)
  have g4 := hed b (wy k0)
  have g5 := hed (wy j0) (wy k0)
  have cL1o_0 := cL1o k k
  have cL1o_1 := cL1o k j0
  have cL1o_2 := cL1o k k0
  have cL1o_3 := cL1o j0 k
  have cL1o_4 := cL1o j0 j0
  have cL1o_5 := cL1o j0 k0
  have cL1o_6 := cL1o k0 k
  have cL1o_7 := cL1o k0 j0
  have cL1o_8 := cL1o k0 k0
  have cR_0 := cR j0
  have cR_1 := cR k0
  have f0 := p6_ k
  have f1 := p6_ j0
  have f2 := p6_ k0
  clear p6_
  clear hop hed cL1o cR
  grind (splits := 24)

set_option maxHeartbeats 1000000 in
theorem pt_txa_L1b {W : Int → Prop} {sd : Int → Int} {op : Int → Int} {ed : Int → Int} {st : Int → Int} {lv : Int → Int} {nm : Int → Int} {tst : Int → Int} {om : Int → Int} {en : Int → Int} {pd : Int → Int} {fw : Int → Int} {nL : Int} {kd : Int → Int} {wy : Int → Int} {ll : Int → Int} {td : Int → Int} {ls : Int → Int} {wh : Int → Int} {b k : Int} (hG : pj_G W sd op ed) (p0_ : W b) (p1_ : 0 ≤ k) (p2_ : k < nL) (p3_ : wh k ≠ 2) (p4_ : kd k = 2) (p5_ : wy k = op b) (p6_ : ∀ j, 0 ≤ j → j < k → wy j = wy k → wh j ≠ 0) (p7_ : en b = 0) (p8_ : td k = nm (sd b)) (p9_ : ll k ≤ lv (sd b)) (p10_ : tst (sd b) = (ed b)) (p11_ : st (sd b) = 1) (p12_ : fw b = 0) (p13_ : (tst (sd (op b)) = (ed b) ∧ ll k = lv (sd (op b)) ∧ td k = nm (sd (op b)) ∧ st (sd (op b)) = 1 ∧ lv (sd (op b)) = lv (sd b)) ∨ (tst (sd (op b)) ≠ (ed b) ∧ en (op b) ≠ 0)) (p14_ : om (sd (op b)) ≠ (ed b)) (p15_ : 0 ≤ nL) (cL1b : pj_L1b sd ed st om pd nL kd wy td ls wh) (cR : pj_R W nL kd wy wh) : pj_L1b sd ed st om pd nL kd wy td ls (pu wh k 2) := by
  obtain ⟨hop, hed⟩ := hG
  unfold pj_L1b pj_R at *
  intro k0
  simp only [pu]
  have g0 := hop b
  have g1 := hop (wy k0)
  have g2 := hed b (wy k0)
  have cL1b_0 := cL1b k
  have cL1b_1 := cL1b k0
  have cR_0 := cR k0
  have f0 := p6_ k
  have f1 := p6_ k0
  clear p6_
  clear hop hed cL1b cR
  grind (splits := 24)

set_option maxHeartbeats 1000000 in
theorem pt_txa_L1g {W : Int → Prop} {sd : Int → Int} {op : Int → Int} {ed : Int → Int} {st : Int → Int} {lv : Int → Int} {nm : Int → Int} {tst : Int → Int} {om : Int → Int} {en : Int → Int} {fw : Int → Int} {nL : Int} {kd : Int → Int} {wy : Int → Int} {ll : Int → Int} {td : Int → Int} {ls : Int → Int} {wh : Int → Int} {b k : Int} (hG : pj_G W sd op ed) (p0_ : W b) (p1_ : 0 ≤ k) (p2_ : k < nL) (p3_ : wh k ≠ 2) (p4_ : kd k = 2) (p5_ : wy k = op b) (p6_ : ∀ j, 0 ≤ j → j < k → wy j = wy k → wh j ≠ 0) (p7_ : en b = 0) (p8_ : td k = nm (sd b)) (p9_ : ll k ≤ lv (sd b)) (p10_ : tst (sd b) = (ed b)) (p11_ : st (sd b) = 1) (p12_ : fw b = 0) (p13_ : (tst (sd (op b)) = (ed b) ∧ ll k = lv (sd (op b)) ∧ td k = nm (sd (op b)) ∧ st (sd (op b)) = 1 ∧ lv (sd (op b)) = lv (sd b)) ∨ (tst (sd (op b)) ≠ (ed b) ∧ en (op b) ≠ 0)) (p14_ : om (sd (op b)) ≠ (ed b)) (p15_ : 0 ≤ nL) (cL1g : pj_L1g W sd op ed nL kd wy td ls wh) (cR : pj_R W nL kd wy wh) : pj_L1g W sd op ed nL kd wy td ls (pu wh k 2) := by
  obtain ⟨hop, hed⟩ := hG
  unfold pj_L1g pj_R at *
  intro k0 v0
  simp only [pu]
  have g0 := hop b
  have g1 := hop (wy k0)
  have g2 := hop v0
  have g3 := hed b (wy k0)
  have g4 := hed b v0
  have g5 := hed (wy k0) v0
  have cL1g_0 := cL1g k b
  have cL1g_1 := cL1g k (wy k0)
  have cL1g_2 := cL1g k (op (wy k0))
  have cL1g_3 := cL1g k v0
  have cL1g_4 := cL1g k (op v0)
  have cL1g_5 := cL1g k0 b
  have cL1g_6 := cL1g k0 (wy k0)
  have cL1g_7 := cL1g k0 (op (wy k0))
  have cL1g_8 := cL1g k0 v0
  have cL1g_9 := cL1g k0 (op v0)
  have cR_0 := cR k0
  have f0 := p6_ k
  have f1 := p6_ k0
  clear p6_
  clear hop hed cL1g cR
  grind (splits := 24)

set_option maxHeartbeats 1000000 in
theorem pt_txa_L2 {W : Int → Prop} {sd : Int → Int} {op : Int → Int} {ed : Int → Int} {st : Int → Int} {lv : Int → Int} {nm : Int → Int} {tst : Int → Int} {om : Int → Int} {en : Int → Int} {fw : Int → Int} {nL : Int} {kd : Int → Int} {wy : Int → Int} {ll : Int → Int} {td : Int → Int} {wh : Int → Int} {b k : Int} (hG : pj_G W sd op ed) (p0_ : W b) (p1_ : 0 ≤ k) (p2_ : k < nL) (p3_ : wh k ≠ 2) (p4_ : kd k = 2) (p5_ : wy k = op b) (p6_ : ∀ j, 0 ≤ j → j < k → wy j = wy k → wh j ≠ 0) (p7_ : en b = 0) (p8_ : td k = nm (sd b)) (p9_ : ll k ≤ lv (sd b)) (p10_ : tst (sd b) = (ed b)) (p11_ : st (sd b) = 1) (p12_ : fw b = 0) (p13_ : (tst (sd (op b)) = (ed b) ∧ ll k = lv (sd (op b)) ∧ td k = nm (sd (op b)) ∧ st (sd (op b)) = 1 ∧ lv (sd (op b)) = lv (sd b)) ∨ (tst (sd (op b)) ≠ (ed b) ∧ en (op b) ≠ 0)) (p14_ : om (sd (op b)) ≠ (ed b)) (p15_ : 0 ≤ nL) (cR : pj_R W nL kd wy wh) (cCV : pj_CV W sd op ed tst nL kd wy wh) (cL3 : pj_L3 sd op ed st lv nm tst en fw nL kd wy wh) (cL4 : pj_L4 sd op ed st tst en nL kd wy wh) (cL2 : pj_L2 sd op ed st lv nm tst en fw nL kd wy ll td wh) (cRT : pj_RT sd ed tst nL kd wy wh) : pj_L2 sd op ed st lv nm (pu tst (sd b) (-1)) (pu en b 2) (pu fw b 1) nL kd wy ll td (pu wh k 2) := by
  obtain ⟨hop, hed⟩ := hG
  unfold pj_R pj_CV pj_L3 pj_L4 pj_L2 pj_RT at *
  intro k0
  simp only [pu]
  have g0 := hop b
  have g1 := hop (wy k0)
  have g2 := hed b (wy k0)
  have cR_0 := cR k0
  have cCV_0 := cCV b k0 k
  have cCV_1 := cCV (op b) k0 k
  have cL3_0 := cL3 k0
  have cL4_0 := cL4 k0
  have cL2_0 := cL2 k0
  have cRT_0 := cRT k0 k
  have cRT_1 := cRT k k0
  have f0 := p6_ k
  have f1 := p6_ k0
  clear p6_
  clear hop hed cR cCV cL3 cL4 cL2 cRT
  grind (splits := 24)

set_option maxHeartbeats 1000000 in
theorem pt_txa_L3 {W : Int → Prop} {sd : Int → Int} {op : Int → Int} {ed : Int → Int} {st : Int → Int} {lv : Int → Int} {nm : Int → Int} {tst : Int → Int} {om : Int → Int} {en : Int → Int} {fw : Int → Int} {nL : Int} {kd : Int → Int} {wy : Int → Int} {ll : Int → Int} {td : Int → Int} {wh : Int → Int} {b k : Int} (hG : pj_G W sd op ed) (p0_ : W b) (p1_ : 0 ≤ k) (p2_ : k < nL) (p3_ : wh k ≠ 2) (p4_ : kd k = 2) (p5_ : wy k = op b) (p6_ : ∀ j, 0 ≤ j → j < k → wy j = wy k → wh j ≠ 0) (p7_ : en b = 0) (p8_ : td k = nm (sd b)) (p9_ : ll k ≤ lv (sd b)) (p10_ : tst (sd b) = (ed b)) (p11_ : st (sd b) = 1) (p12_ : fw b = 0) (p13_ : (tst (sd (op b)) = (ed b) ∧ ll k = lv (sd (op b)) ∧ td k = nm (sd (op b)) ∧ st (sd (op b)) = 1 ∧ lv (sd (op b)) = lv (sd b)) ∨ (tst (sd (op b)) ≠ (ed b) ∧ en (op b) ≠ 0)) (p14_ : om (sd (op b)) ≠ (ed b)) (p15_ : 0 ≤ nL) (cR : pj_R W nL kd wy wh) (cCV : pj_CV W sd op ed tst nL kd wy wh) (cL3 : pj_L3 sd op ed st lv nm tst en fw nL kd wy wh) (cL4 : pj_L4 sd op ed st tst en nL kd wy wh) (cL2 : pj_L2 sd op ed st lv nm tst en fw nL kd wy ll td wh) (cRT : pj_RT sd ed tst nL kd wy wh) : pj_L3 sd op ed st lv nm (pu tst (sd b) (-1)) (pu en b 2) (pu fw b 1) nL kd wy (pu wh k 2) := by
  obtain ⟨hop, hed⟩ := hG
  unfold pj_R pj_CV pj_L3 pj_L4 pj_L2 pj_RT at *
  intro k0
  simp only [pu]
  have g0 := hop b
  have g1 := hop (wy k0)
  have g2 := hed b (wy k0)
  have cR_0 := cR k0
  have cCV_0 := cCV b k0 k
  have cCV_1 := cCV (op b) k0 k
  have cL3_0 := cL3 k0
  have cL4_0 := cL4 k0
  have cL2_0 := cL2 k0
  have cRT_0 := cRT k0 k
  have cRT_1 := cRT k k0
  have f0 := p6_ k
  have f1 := p6_ k0
  clear p6_
  clear hop hed cR cCV cL3 cL4 cL2 cRT
  grind (splits := 24)

set_option maxHeartbeats 1000000 in
theorem pt_txa_L4 {W : Int → Prop} {sd : Int → Int} {op : Int → Int} {ed : Int → Int} {st : Int → Int} {lv : Int → Int} {nm : Int → Int} {tst : Int → Int} {om : Int → Int} {en : Int → Int} {fw : Int → Int} {nL : Int} {kd : Int → Int} {wy : Int → Int} {ll : Int → Int} {td : Int → Int} {wh : Int → Int} {b k : Int} (hG : pj_G W sd op ed) (p0_ : W b) (p1_ : 0 ≤ k) (p2_ : k < nL) (p3_ : wh k ≠ 2) (p4_ : kd k = 2) (p5_ : wy k = op b) (p6_ : ∀ j, 0 ≤ j → j < k → wy j = wy k → wh j ≠ 0) (p7_ : en b = 0) (p8_ : td k = nm (sd b)) (p9_ : ll k ≤ lv (sd b)) (p10_ : tst (sd b) = (ed b)) (p11_ : st (sd b) = 1) (p12_ : fw b = 0) (p13_ : (tst (sd (op b)) = (ed b) ∧ ll k = lv (sd (op b)) ∧ td k = nm (sd (op b)) ∧ st (sd (op b)) = 1 ∧ lv (sd (op b)) = lv (sd b)) ∨ (tst (sd (op b)) ≠ (ed b) ∧ en (op b) ≠ 0)) (p14_ : om (sd (op b)) ≠ (ed b)) (p15_ : 0 ≤ nL) (cR : pj_R W nL kd wy wh) (cCV : pj_CV W sd op ed tst nL kd wy wh) (cL3 : pj_L3 sd op ed st lv nm tst en fw nL kd wy wh) (cL4 : pj_L4 sd op ed st tst en nL kd wy wh) (cL2 : pj_L2 sd op ed st lv nm tst en fw nL kd wy ll td wh) (cRT : pj_RT sd ed tst nL kd wy wh) : pj_L4 sd op ed st (pu tst (sd b) (-1)) (pu en b 2) nL kd wy (pu wh k 2) := by
  obtain ⟨hop, hed⟩ := hG
  unfold pj_R pj_CV pj_L3 pj_L4 pj_L2 pj_RT at *
  intro k0
  simp only [pu]
  have g0 := hop b
  have g1 := hop (wy k0)
  have g2 := hed b (wy k0)
  have cR_0 := cR k0
  have cCV_0 := cCV b k0 k
  have cCV_1 := cCV (op b) k0 k
  have cL3_0 := cL3 k0
  have cL4_0 := cL4 k0
  have cL2_0 := cL2 k0
  have cRT_0 := cRT k0 k
  have cRT_1 := cRT k k0
  have f0 := p6_ k
  have f1 := p6_ k0
  clear p6_
  clear hop hed cR cCV cL3 cL4 cL2 cRT
  grind (splits := 24)

set_option maxHeartbeats 1000000 in
theorem pt_txa_AF {W : Int → Prop} {sd : Int → Int} {op : Int → Int} {ed : Int → Int} {st : Int → Int} {lv : Int → Int} {nm : Int → Int} {tst : Int → Int} {om : Int → Int} {af : Int → Int} {en : Int → Int} {fw : Int → Int} {nL : Int} {kd : Int → Int} {wy : Int → Int} {ll : Int → Int} {td : Int → Int} {wh : Int → Int} {b k : Int} (hG : pj_G W sd op ed) (p0_ : W b) (p1_ : 0 ≤ k) (p2_ : k < nL) (p3_ : wh k ≠ 2) (p4_ : kd k = 2) (p5_ : wy k = op b) (p6_ : ∀ j, 0 ≤ j → j < k → wy j = wy k → wh j ≠ 0) (p7_ : en b = 0) (p8_ : td k = nm (sd b)) (p9_ : ll k ≤ lv (sd b)) (p10_ : tst (sd b) = (ed b)) (p11_ : st (sd b) = 1) (p12_ : fw b = 0) (p13_ : (tst (sd (op b)) = (ed b) ∧ ll k = lv (sd (op b)) ∧ td k = nm (sd (op b)) ∧ st (sd (op b)) = 1 ∧ lv (sd (op b)) = lv (sd b)) ∨ (tst (sd (op b)) ≠ (ed b) ∧ en (op b) ≠ 0)) (p14_ : om (sd (op b)) ≠ (ed b)) (p15_ : 0 ≤ nL) (cAF : pj_AF W sd op ed tst af nL kd wy wh) : pj_AF W sd op ed (pu tst (sd b) (-1)) af nL kd wy (pu wh k 2) := by
  obtain ⟨hop, hed⟩ := hG
  unfold pj_AF at *
  intro v0
  simp only [pu]
  have g0 := hop b
  have g1 := hop v0
  have g2 := hed b v0
  have cAF_0 := cAF b
  have cAF_1 := cAF v0
  have cAF_2 := cAF (op v0)
  have f0 := p6_ k
  clear p6_
  clear hop hed cAF
  grind (splits := 24)

set_option maxHeartbeats 1000000 in
theorem pt_txa_RT {W : Int → Prop} {sd : Int → Int} {op : Int → Int} {ed : Int → Int} {st : Int → Int} {lv : Int → Int} {nm : Int → Int} {tst : Int → Int} {om : Int → Int} {en : Int → Int} {fw : Int → Int} {nL : Int} {kd : Int → Int} {wy : Int → Int} {ll : Int → Int} {td : Int → Int} {wh : Int → Int} {b k : Int} (hG : pj_G W sd op ed) (p0_ : W b) (p1_ : 0 ≤ k) (p2_ : k < nL) (p3_ : wh k ≠ 2) (p4_ : kd k = 2) (p5_ : wy k = op b) (p6_ : ∀ j, 0 ≤ j → j < k → wy j = wy k → wh j ≠ 0) (p7_ : en b = 0) (p8_ : td k = nm (sd b)) (p9_ : ll k ≤ lv (sd b)) (p10_ : tst (sd b) = (ed b)) (p11_ : st (sd b) = 1) (p12_ : fw b = 0) (p13_ : (tst (sd (op b)) = (ed b) ∧ ll k = lv (sd (op b)) ∧ td k = nm (sd (op b)) ∧ st (sd (op b)) = 1 ∧ lv (sd (op b)) = lv (sd b)) ∨ (tst (sd (op b)) ≠ (ed b) ∧ en (op b) ≠ 0)) (p14_ : om (sd (op b)) ≠ (ed b)) (p15_ : 0 ≤ nL) (cRT : pj_RT sd ed tst nL kd wy wh) (cR : pj_R W nL kd wy wh) (cCV : pj_CV W sd op ed tst nL kd wy wh) (cL2 : pj_L2 sd op ed st lv nm tst en fw nL kd wy ll td wh) (cL4 : pj_L4 sd op ed st tst en nL kd wy wh) : pj_RT sd ed (pu tst (sd b) (-1)) nL kd wy (pu wh k 2) := by
  obtain ⟨hop, hed⟩ := hG
  unfold pj_RT pj_R pj_CV pj_L2 pj_L4 at *
  intro j0 k0
  simp only [pu]
  have g0 := hop b
  have g1 := hop (wy j0)
  have g2 := hop (wy k0)
  have g3 := hed b (wy j0)
  have g4 := hed b (wy k0)
  have g5 := hed (wy j0) (wy k0)
  have cRT_0 := cRT k k
  have cRT_1 := cRT k j0
  have cRT_2 := cRT k k0
  have cRT_3 := cRT j0 k
  have cRT_4 := cRT j0 j0
  have cRT_5 := cRT j0 k0
  have cRT_6 := cRT k0 k
  have cRT_7 := cRT k0 j0
  have cRT_8 := cRT k0 k0
  have cR_0 := cR j0
  have cR_1 := cR k0
  have cCV_0 := cCV b j0 k
  have cCV_1 := cCV (op b) j0 k
  have cCV_2 := cCV b k0 k
  have cCV_3 := cCV (op b) k0 k
  have cL2_0 := cL2 k
  have cL2_1 := cL2 j0
  have cL2_2 := cL2 k0
  have cL4_0 := cL4 k
  have cL4_1 := cL4 j0
  have cL4_2 := cL4 k0
  have f0 := p6_ k
  have f1 := p6_ j0
  have f2 := p6_ k0
  clear p6_
  clear hop hed cRT cR cCV cL2 cL4
  grind (splits := 24)

set_option maxHeartbeats 1000000 in
theorem pt_txa_CV {W : Int → Prop} {sd : Int → Int} {op : Int → Int} {ed : Int → Int} {st : Int → Int} {lv : Int → Int} {nm : Int → Int} {tst : Int → Int} {om : Int → Int} {en : Int → Int} {fw : Int → Int} {nL : Int} {kd : Int → Int} {wy : Int → Int} {ll : Int → Int} {td : Int → Int} {wh : Int → Int} {b k : Int} (hG : pj_G W sd op ed) (p0_ : W b) (p1_ : 0 ≤ k) (p2_ : k < nL) (p3_ : wh k ≠ 2) (p4_ : kd k = 2) (p5_ : wy k = op b) (p6_ : ∀ j, 0 ≤ j → j < k → wy j = wy k → wh j ≠ 0) (p7_ : en b = 0) (p8_ : td k = nm (sd b)) (p9_ : ll k ≤ lv (sd b)) (p10_ : tst (sd b) = (ed b)) (p11_ : st (sd b) = 1) (p12_ : fw b = 0) (p13_ : (tst (sd (op b)) = (ed b) ∧ ll k = lv (sd (op b)) ∧ td k = nm (sd (op b)) ∧ st (sd (op b)) = 1 ∧ lv (sd (op b)) = lv (sd b)) ∨ (tst (sd (op b)) ≠ (ed b) ∧ en (op b) ≠ 0)) (p14_ : om (sd (op b)) ≠ (ed b)) (p15_ : 0 ≤ nL) (cR : pj_R W nL kd wy wh) (cCV : pj_CV W sd op ed tst nL kd wy wh) (cL3 : pj_L3 sd op ed st lv nm tst en fw nL kd wy wh) (cL4 : pj_L4 sd op ed st tst en nL kd wy wh) : pj_CV W sd op ed (pu tst (sd b) (-1)) nL kd wy (pu wh k 2) := by
  obtain ⟨hop, hed⟩ := hG
  unfold pj_R pj_CV pj_L3 pj_L4 at *
  intro v0 j0 k0
  simp only [pu]
  have g0 := hop b
  have g1 := hop v0
  have g2 := hop (wy j0)
  have g3 := hop (wy k0)
  have g4 := hed b v0
  have g5 := hed b (wy j0)
  have g6 := hed b (wy k0)
  have g7 := hed v0 (wy j0)
  have g8 := hed v0 (wy k0)
  have g9 := hed (wy j0) (wy k0)
  have cR_0 := cR j0
  have cR_1 := cR k0
  have cCV_0 := cCV v0 j0 k0
  have cCV_1 := cCV b j0 k0
  have cCV_2 := cCV (op b) j0 k0
  have cCV_3 := cCV b j0 k
  have cCV_4 := cCV b k0 k
  have cCV_5 := cCV (op b) j0 k
  have cCV_6 := cCV (op b) k0 k
  have cL3_0 := cL3 j0
  have cL3_1 := cL3 k0
  have cL4_0 := cL4 j0
  have cL4_1 := cL4 k0
  have f0 := p6_ k
  have f1 := p6_ j0
  have f2 := p6_ k0
  clear p6_
  clear hop hed cR cCV cL3 cL4
  grind (splits := 24)

set_option maxHeartbeats 1000000 in
theorem pt_txa_L5 {W : Int → Prop} {sd : Int → Int} {op : Int → Int} {ed : Int → Int} {st : Int → Int} {lv : Int → Int} {nm : Int → Int} {inw : Int → Int} {bst : Int → Int} {tst : Int → Int} {om : Int → Int} {ps : Int → Int} {dl : Int → Int} {en : Int → Int} {pd : Int → Int} {rp : Int → Int} {rv : Int → Int} {fw : Int → Int} {cl : Int → Int} {tk : Int → Int} {nL : Int} {kd : Int → Int} {wy : Int → Int} {ll : Int → Int} {td : Int → Int} {wh : Int → Int} {b k : Int} (hG : pj_G W sd op ed) (p0_ : W b) (p1_ : 0 ≤ k) (p2_ : k < nL) (p3_ : wh k ≠ 2) (p4_ : kd k = 2) (p5_ : wy k = op b) (p6_ : ∀ j, 0 ≤ j → j < k → wy j = wy k → wh j ≠ 0) (p7_ : en b = 0) (p8_ : td k = nm (sd b)) (p9_ : ll k ≤ lv (sd b)) (p10_ : tst (sd b) = (ed b)) (p11_ : st (sd b) = 1) (p12_ : fw b = 0) (p13_ : (tst (sd (op b)) = (ed b) ∧ ll k = lv (sd (op b)) ∧ td k = nm (sd (op b)) ∧ st (sd (op b)) = 1 ∧ lv (sd (op b)) = lv (sd b)) ∨ (tst (sd (op b)) ≠ (ed b) ∧ en (op b) ≠ 0)) (p14_ : om (sd (op b)) ≠ (ed b)) (p15_ : 0 ≤ nL) (cL5 : pj_L5 sd op ed st lv nm inw bst om ps dl pd rp rv cl tk nL kd wy td wh) (cR : pj_R W nL kd wy wh) : pj_L5 sd op ed st lv nm inw bst om ps dl pd rp rv cl tk nL kd wy td (pu wh k 2) := by
  obtain ⟨hop, hed⟩ := hG
  unfold pj_L5 pj_R at *
  intro k0
  simp only [pu]
  have g0 := hop b
  have g1 := hop (wy k0)
  have g2 := hed b (wy k0)
  have cL5_0 := cL5 k
  have cL5_1 := cL5 k0
  have cR_0 := cR k0
  have f0 := p6_ k
  have f1 := p6_ k0
  clear p6_
  clear hop hed cL5 cR
  grind (splits := 24)

set_option maxHeartbeats 1000000 in
theorem pt_txa_L5o {W : Int → Prop} {sd : Int → Int} {op : Int → Int} {ed : Int → Int} {st : Int → Int} {lv : Int → Int} {nm : Int → Int} {tst : Int → Int} {om : Int → Int} {en : Int → Int} {fw : Int → Int} {cl : Int → Int} {nL : Int} {kd : Int → Int} {wy : Int → Int} {ll : Int → Int} {td : Int → Int} {wh : Int → Int} {b k : Int} (hG : pj_G W sd op ed) (p0_ : W b) (p1_ : 0 ≤ k) (p2_ : k < nL) (p3_ : wh k ≠ 2) (p4_ : kd k = 2) (p5_ : wy k = op b) (p6_ : ∀ j, 0 ≤ j → j < k → wy j = wy k → wh j ≠ 0) (p7_ : en b = 0) (p8_ : td k = nm (sd b)) (p9_ : ll k ≤ lv (sd b)) (p10_ : tst (sd b) = (ed b)) (p11_ : st (sd b) = 1) (p12_ : fw b = 0) (p13_ : (tst (sd (op b)) = (ed b) ∧ ll k = lv (sd (op b)) ∧ td k = nm (sd (op b)) ∧ st (sd (op b)) = 1 ∧ lv (sd (op b)) = lv (sd b)) ∨ (tst (sd (op b)) ≠ (ed b) ∧ en (op b) ≠ 0)) (p14_ : om (sd (op b)) ≠ (ed b)) (p15_ : 0 ≤ nL) (cL5o : pj_L5o sd op ed lv cl nL kd wy wh) (cR : pj_R W nL kd wy wh) : pj_L5o sd op ed lv cl nL kd wy (pu wh k 2) := by
  obtain ⟨hop, hed⟩ := hG
  unfold pj_L5o pj_R at *
  intro j0 k0
  simp only [pu]
  have g0 := hop b
  have g1 := hop (wy j0)
  have g2 := hop (wy k0)
  have g3 := hed b (wy j0)
  have g4 := hed b (wy k0)
  have g5 := hed (wy j0) (wy k0)
  have cL5o_0 := cL5o k k
  have cL5o_1 := cL5o k j0
  have cL5o_2 := cL5o k k0
  have cL5o_3 := cL5o j0 k
  have cL5o_4 := cL5o j0 j0
  have cL5o_5 := cL5o j0 k0
  have cL5o_6 := cL5o k0 k
  have cL5o_7 := cL5o k0 j0
  have cL5o_8 := cL5o k0 k0
  have cR_0 := cR j0
  have cR_1 := cR k0
  have f0 := p6_ k
  have f1 := p6_ j0
  have f2 := p6_ k0
  clear p6_
  clear hop hed cL5o cR
  grind (splits := 24)

set_option maxHeartbeats 1000000 in
theorem pt_txa_L5u {W : Int → Prop} {sd : Int → Int} {op : Int → Int} {ed : Int → Int} {st : Int → Int} {lv : Int → Int} {nm : Int → Int} {tst : Int → Int} {om : Int → Int} {en : Int → Int} {fw : Int → Int} {nL : Int} {kd : Int → Int} {wy : Int → Int} {ll : Int → Int} {td : Int → Int} {wh : Int → Int} {b k : Int} (hG : pj_G W sd op ed) (p0_ : W b) (p1_ : 0 ≤ k) (p2_ : k < nL) (p3_ : wh k ≠ 2) (p4_ : kd k = 2) (p5_ : wy k = op b) (p6_ : ∀ j, 0 ≤ j → j < k → wy j = wy k → wh j ≠ 0) (p7_ : en b = 0) (p8_ : td k = nm (sd b)) (p9_ : ll k ≤ lv (sd b)) (p10_ : tst (sd b) = (ed b)) (p11_ : st (sd b) = 1) (p12_ : fw b = 0) (p13_ : (tst (sd (op b)) = (ed b) ∧ ll k = lv (sd (op b)) ∧ td k = nm (sd (op b)) ∧ st (sd (op b)) = 1 ∧ lv (sd (op b)) = lv (sd b)) ∨ (tst (sd (op b)) ≠ (ed b) ∧ en (op b) ≠ 0)) (p14_ : om (sd (op b)) ≠ (ed b)) (p15_ : 0 ≤ nL) (cL5u : pj_L5u nL kd wy wh) (cR : pj_R W nL kd wy wh) : pj_L5u nL kd wy (pu wh k 2) := by
  obtain ⟨hop, hed⟩ := hG
  unfold pj_L5u pj_R at *
  intro j0 k0
  simp only [pu]
  have g0 := hop b
  have g1 := hop (wy j0)
  have g2 := hop (wy k0)
  have g3 := hed b (wy j0)
  have g4 := hed b (wy k0)
  have g5 := hed (wy j0) (wy k0)
  have cL5u_0 := cL5u k k
  have cL5u_1 := cL5u k j0
  have cL5u_2 := cL5u k k0
  have cL5u_3 := cL5u j0 k
  have cL5u_4 := cL5u j0 j0
  have cL5u_5 := cL5u j0 k0
  have cL5u_6 := cL5u k0 k
  have cL5u_7 := cL5u k0 j0
  have cL5u_8 := cL5u k0 k0
  have cR_0 := cR j0
  have cR_1 := cR k0
  have f0 := p6_ k
  have f1 := p6_ j0
  have f2 := p6_ k0
  clear p6_
  clear hop hed cL5u cR
  grind (splits := 24)

set_option maxHeartbeats 1000000 in
theorem pt_txa_L6 {W : Int → Prop} {sd : Int → Int} {op : Int → Int} {ed : Int → Int} {st : Int → Int} {lv : Int → Int} {nm : Int → Int} {tow : Int → Int} {tst : Int → Int} {om : Int → Int} {ps : Int → Int} {dl : Int → Int} {en : Int → Int} {fw : Int → Int} {cw : Int → Int} {tk : Int → Int} {nL : Int} {kd : Int → Int} {wy : Int → Int} {ll : Int → Int} {td : Int → Int} {wh : Int → Int} {b k : Int} (hG : pj_G W sd op ed) (p0_ : W b) (p1_ : 0 ≤ k) (p2_ : k < nL) (p3_ : wh k ≠ 2) (p4_ : kd k = 2) (p5_ : wy k = op b) (p6_ : ∀ j, 0 ≤ j → j < k → wy j = wy k → wh j ≠ 0) (p7_ : en b = 0) (p8_ : td k = nm (sd b)) (p9_ : ll k ≤ lv (sd b)) (p10_ : tst (sd b) = (ed b)) (p11_ : st (sd b) = 1) (p12_ : fw b = 0) (p13_ : (tst (sd (op b)) = (ed b) ∧ ll k = lv (sd (op b)) ∧ td k = nm (sd (op b)) ∧ st (sd (op b)) = 1 ∧ lv (sd (op b)) = lv (sd b)) ∨ (tst (sd (op b)) ≠ (ed b) ∧ en (op b) ≠ 0)) (p14_ : om (sd (op b)) ≠ (ed b)) (p15_ : 0 ≤ nL) (cL6 : pj_L6 sd op ed st lv nm tow om ps dl cw tk nL kd wy wh) (cR : pj_R W nL kd wy wh) : pj_L6 sd op ed st lv nm tow om ps dl cw tk nL kd wy (pu wh k 2) := by
  obtain ⟨hop, hed⟩ := hG
  unfold pj_L6 pj_R at *
  intro k0
  simp only [pu]
  have g0 := hop b
  have g1 := hop (wy k0)
  have g2 := hed b (wy k0)
  have cL6_0 := cL6 k
  have cL6_1 := cL6 k0
  have cR_0 := cR k0
  have f0 := p6_ k
  have f1 := p6_ k0
  clear p6_
  clear hop hed cL6 cR
  grind (splits := 24)

set_option maxHeartbeats 1000000 in
theorem pt_txa_L6u {W : Int → Prop} {sd : Int → Int} {op : Int → Int} {ed : Int → Int} {st : Int → Int} {lv : Int → Int} {nm : Int → Int} {tst : Int → Int} {om : Int → Int} {en : Int → Int} {fw : Int → Int} {nL : Int} {kd : Int → Int} {wy : Int → Int} {ll : Int → Int} {td : Int → Int} {wh : Int → Int} {b k : Int} (hG : pj_G W sd op ed) (p0_ : W b) (p1_ : 0 ≤ k) (p2_ : k < nL) (p3_ : wh k ≠ 2) (p4_ : kd k = 2) (p5_ : wy k = op b) (p6_ : ∀ j, 0 ≤ j → j < k → wy j = wy k → wh j ≠ 0) (p7_ : en b = 0) (p8_ : td k = nm (sd b)) (p9_ : ll k ≤ lv (sd b)) (p10_ : tst (sd b) = (ed b)) (p11_ : st (sd b) = 1) (p12_ : fw b = 0) (p13_ : (tst (sd (op b)) = (ed b) ∧ ll k = lv (sd (op b)) ∧ td k = nm (sd (op b)) ∧ st (sd (op b)) = 1 ∧ lv (sd (op b)) = lv (sd b)) ∨ (tst (sd (op b)) ≠ (ed b) ∧ en (op b) ≠ 0)) (p14_ : om (sd (op b)) ≠ (ed b)) (p15_ : 0 ≤ nL) (cL6u : pj_L6u sd op nm nL kd wy wh) (cR : pj_R W nL kd wy wh) : pj_L6u sd op nm nL kd wy (pu wh k 2) := by
  obtain ⟨hop, hed⟩ := hG
  unfold pj_L6u pj_R at *
  intro j0 k0
  simp only [pu]
  have g0 := hop b
  have g1 := hop (wy j0)
  have g2 := hop (wy k0)
  have g3 := hed b (wy j0)
  have g4 := hed b (wy k0)
  have g5 := hed (wy j0) (wy k0)
  have cL6u_0 := cL6u k k
  have cL6u_1 := cL6u k j0
  have cL6u_2 := cL6u k k0
  have cL6u_3 := cL6u j0 k
  have cL6u_4 := cL6u j0 j0
  have cL6u_5 := cL6u j0 k0
  have cL6u_6 := cL6u k0 k
  have cL6u_7 := cL6u k0 j0
  have cL6u_8 := cL6u k0 k0
  have cR_0 := cR j0
  have cR_1 := cR k0
  have f0 := p6_ k
  have f1 := p6_ j0
  have f2 := p6_ k0
  clear p6_
  clear hop hed cL6u cR
  grind (splits := 24)

theorem pj_txa {W : Int → Prop} {sd op ed : Int → Int} {li : Int → Int → Prop} {st lv nm inw tow bst tst exp om ps dl dn af c0 en pd rp rv fw cl cw tk kd wy ll td ls wh : Int → Int} {nL : Int} {F F2 : Int → Prop} {fl fc : Int} {b k : Int} (hG : pj_G W sd op ed) (p0_ : W b) (p1_ : 0 ≤ k) (p2_ : k < nL) (p3_ : wh k ≠ 2) (p4_ : kd k = 2) (p5_ : wy k = op b) (p6_ : ∀ j, 0 ≤ j → j < k → wy j = wy k → wh j ≠ 0) (p7_ : en b = 0) (p8_ : td k = nm (sd b)) (p9_ : ll k ≤ lv (sd b)) (p10_ : tst (sd b) = (ed b)) (p11_ : st (sd b) = 1) (p12_ : fw b = 0) (p13_ : (tst (sd (op b)) = (ed b) ∧ ll k = lv (sd (op b)) ∧ td k = nm (sd (op b)) ∧ st (sd (op b)) = 1 ∧ lv (sd (op b)) = lv (sd b)) ∨ (tst (sd (op b)) ≠ (ed b) ∧ en (op b) ≠ 0)) (p14_ : om (sd (op b)) ≠ (ed b)) (p15_ : 0 ≤ nL) (h : pj_J W sd op ed li st lv nm inw tow bst tst exp om ps dl dn af c0 en pd rp rv fw cl cw tk nL kd wy ll td ls wh F fl fc) : pj_J W sd op ed li st lv nm inw tow bst (pu tst (sd b) (-1)) exp om ps dl dn af c0 (pu en b 2) pd rp rv (pu fw b 1) cl cw tk nL kd wy ll td ls (pu wh k 2) F fl fc := by
  obtain ⟨cR, cN0, cN1, cN1w, cER, cN1c, cN2, cN2e, cN2b, cN4e, cN4b, cN5, cN7, cN10, cN10e, cN13, cC1, cC2, cR3a, cE1, cU, cA1, cA2, cEC, cR3, cN11, cN12, cN3, cRJ, cFW, cPD, cCC, cCD, cRP, cRP1, cCR, cZ1, cZ0, cTK, cK2, cWH, cFI, cL0, cFC, cL0u, cOC, cCT, cL1, cL1e, cL1o, cL1b, cL1g, cL2, cL3, cL4, cAF, cRT, cCV, cL5, cL5o, cL5u, cL6, cL6u⟩ := h
  exact ⟨pt_txa_R hG p0_ p1_ p2_ p3_ p4_ p5_ p6_ p7_ p8_ p9_ p10_ p11_ p12_ p13_ p14_ p15_ cR, cN0, cN1, pt_txa_N1w hG p0_ p1_ p2_ p3_ p4_ p5_ p6_ p7_ p8_ p9_ p10_ p11_ p12_ p13_ p14_ p15_ cN1w, pt_txa_ER hG p0_ p1_ p2_ p3_ p4_ p5_ p6_ p7_ p8_ p9_ p10_ p11_ p12_ p13_ p14_ p15_ cER, pt_txa_N1c hG p0_ p1_ p2_ p3_ p4_ p5_ p6_ p7_ p8_ p9_ p10_ p11_ p12_ p13_ p14_ p15_ cN1c cR, pt_txa_N2 hG p0_ p1_ p2_ p3_ p4_ p5_ p6_ p7_ p8_ p9_ p10_ p11_ p12_ p13_ p14_ p15_ cN2, cN2e, cN2b, cN4e, cN4b, cN5, pt_txa_N7 hG p0_ p1_ p2_ p3_ p4_ p5_ p6_ p7_ p8_ p9_ p10_ p11_ p12_ p13_ p14_ p15_ cN7, cN10, cN10e, cN13, cC1, cC2, cR3a, pt_txa_E1 hG p0_ p1_ p2_ p3_ p4_ p5_ p6_ p7_ p8_ p9_ p10_ p11_ p12_ p13_ p14_ p15_ cE1, pt_txa_U hG p0_ p1_ p2_ p3_ p4_ p5_ p6_ p7_ p8_ p9_ p10_ p11_ p12_ p13_ p14_ p15_ cU, pt_txa_A1 hG p0_ p1_ p2_ p3_ p4_ p5_ p6_ p7_ p8_ p9_ p10_ p11_ p12_ p13_ p14_ p15_ cA1, cA2, pt_txa_EC hG p0_ p1_ p2_ p3_ p4_ p5_ p6_ p7_ p8_ p9_ p10_ p11_ p12_ p13_ p14_ p15_ cEC, cR3, pt_txa_N11 hG p0_ p1_ p2_ p3_ p4_ p5_ p6_ p7_ p8_ p9_ p10_ p11_ p12_ p13_ p14_ p15_ cN11, pt_txa_N12 hG p0_ p1_ p2_ p3_ p4_ p5_ p6_ p7_ p8_ p9_ p10_ p11_ p12_ p13_ p14_ p15_ cN12, pt_txa_N3 hG p0_ p1_ p2_ p3_ p4_ p5_ p6_ p7_ p8_ p9_ p10_ p11_ p12_ p13_ p14_ p15_ cN3, pt_txa_RJ hG p0_ p1_ p2_ p3_ p4_ p5_ p6_ p7_ p8_ p9_ p10_ p11_ p12_ p13_ p14_ p15_ cRJ, pt_txa_FW hG p0_ p1_ p2_ p3_ p4_ p5_ p6_ p7_ p8_ p9_ p10_ p11_ p12_ p13_ p14_ p15_ cFW, pt_txa_PD hG p0_ p1_ p2_ p3_ p4_ p5_ p6_ p7_ p8_ p9_ p10_ p11_ p12_ p13_ p14_ p15_ cPD, pt_txa_CC hG p0_ p1_ p2_ p3_ p4_ p5_ p6_ p7_ p8_ p9_ p10_ p11_ p12_ p13_ p14_ p15_ cCC, cCD, cRP, cRP1, cCR, cZ1, cZ0, cTK, cK2, pt_txa_WH hG p0_ p1_ p2_ p3_ p4_ p5_ p6_ p7_ p8_ p9_ p10_ p11_ p12_ p13_ p14_ p15_ cWH cR, pt_txa_FI hG p0_ p1_ p2_ p3_ p4_ p5_ p6_ p7_ p8_ p9_ p10_ p11_ p12_ p13_ p14_ p15_ cFI cR, pt_txa_L0 hG p0_ p1_ p2_ p3_ p4_ p5_ p6_ p7_ p8_ p9_ p10_ p11_ p12_ p13_ p14_ p15_ cL0 cR, pt_txa_FC hG p0_ p1_ p2_ p3_ p4_ p5_ p6_ p7_ p8_ p9_ p10_ p11_ p12_ p13_ p14_ p15_ cFC cR, pt_txa_L0u hG p0_ p1_ p2_ p3_ p4_ p5_ p6_ p7_ p8_ p9_ p10_ p11_ p12_ p13_ p14_ p15_ cL0u cR, pt_txa_OC hG p0_ p1_ p2_ p3_ p4_ p5_ p6_ p7_ p8_ p9_ p10_ p11_ p12_ p13_ p14_ p15_ cOC cR, pt_txa_CT hG p0_ p1_ p2_ p3_ p4_ p5_ p6_ p7_ p8_ p9_ p10_ p11_ p12_ p13_ p14_ p15_ cCT cR, pt_txa_L1 hG p0_ p1_ p2_ p3_ p4_ p5_ p6_ p7_ p8_ p9_ p10_ p11_ p12_ p13_ p14_ p15_ cL1 cR, pt_txa_L1e hG p0_ p1_ p2_ p3_ p4_ p5_ p6_ p7_ p8_ p9_ p10_ p11_ p12_ p13_ p14_ p15_ cL1e cR, pt_txa_L1o hG p0_ p1_ p2_ p3_ p4_ p5_ p6_ p7_ p8_ p9_ p10_ p11_ p12_ p13_ p14_ p15_ cL1o cR, pt_txa_L1b hG p0_ p1_ p2_ p3_ p4_ p5_ p6_ p7_ p8_ p9_ p10_ p11_ p12_ p13_ p14_ p15_ cL1b cR, pt_txa_L1g hG p0_ p1_ p2_ p3_ p4_ p5_ p6_ p7_ p8_ p9_ p10_ p11_ p12_ p13_ p14_ p15_ cL1g cR, pt_txa_L2 hG p0_ p1_ p2_ p3_ p4_ p5_ p6_ p7_ p8_ p9_ p10_ p11_ p12_ p13_ p14_ p15_ cR cCV cL3 cL4 cL2 cRT, pt_txa_L3 hG p0_ p1_ p2_ p3_ p4_ p5_ p6_ p7_ p8_ p9_ p10_ p11_ p12_ p13_ p14_ p15_ cR cCV cL3 cL4 cL2 cRT, pt_txa_L4 hG p0_ p1_ p2_ p3_ p4_ p5_ p6_ p7_ p8_ p9_ p10_ p11_ p12_ p13_ p14_ p15_ cR cCV cL3 cL4 cL2 cRT, pt_txa_AF hG p0_ p1_ p2_ p3_ p4_ p5_ p6_ p7_ p8_ p9_ p10_ p11_ p12_ p13_ p14_ p15_ cAF, pt_txa_RT hG p0_ p1_ p2_ p3_ p4_ p5_ p6_ p7_ p8_ p9_ p10_ p11_ p12_ p13_ p14_ p15_ cRT cR cCV cL2 cL4, pt_txa_CV hG p0_ p1_ p2_ p3_ p4_ p5_ p6_ p7_ p8_ p9_ p10_ p11_ p12_ p13_ p14_ p15_ cR cCV cL3 cL4, pt_txa_L5 hG p0_ p1_ p2_ p3_ p4_ p5_ p6_ p7_ p8_ p9_ p10_ p11_ p12_ p13_ p14_ p15_ cL5 cR, pt_txa_L5o hG p0_ p1_ p2_ p3_ p4_ p5_ p6_ p7_ p8_ p9_ p10_ p11_ p12_ p13_ p14_ p15_ cL5o cR, pt_txa_L5u hG p0_ p1_ p2_ p3_ p4_ p5_ p6_ p7_ p8_ p9_ p10_ p11_ p12_ p13_ p14_ p15_ cL5u cR, pt_txa_L6 hG p0_ p1_ p2_ p3_ p4_ p5_ p6_ p7_ p8_ p9_ p10_ p11_ p12_ p13_ p14_ p15_ cL6 cR, pt_txa_L6u hG p0_ p1_ p2_ p3_ p4_ p5_ p6_ p7_ p8_ p9_ p10_ p11_ p12_ p13_ p14_ p15_ cL6u cR⟩

set_option maxHeartbeats 1000000 in
theorem pt_txb_R {W : Int → Prop} {sd : Int → Int} {op : Int → Int} {ed : Int → Int} {st : Int → Int} {lv : Int → Int} {nm : Int → Int} {tst : Int → Int} {en : Int → Int} {fw : Int → Int} {nL : Int} {kd : Int → Int} {wy : Int → Int} {ll : Int → Int} {td : Int → Int} {wh : Int → Int} {b k : Int} (hG : pj_G W sd op ed) (p0_ : W b) (p1_ : 0 ≤ k) (p2_ : k < nL) (p3_ : wh k ≠ 2) (p4_ : kd k = 2) (p5_ : wy k = op b) (p6_ : ∀ j, 0 ≤ j → j < k → wy j = wy k → wh j ≠ 0) (p7_ : en b ≠ 0) (p8_ : td k = nm (sd b)) (p9_ : ll k ≤ lv (sd b)) (p10_ : tst (sd b) = (ed b)) (p11_ : st (sd b) = 1) (p12_ : fw b = 0) (p13_ : (tst (sd (op b)) = (ed b) ∧ ll k = lv (sd (op b)) ∧ td k = nm (sd (op b)) ∧ st (sd (op b)) = 1 ∧ lv (sd (op b)) = lv (sd b)) ∨ (tst (sd (op b)) ≠ (ed b) ∧ en (op b) ≠ 0)) (p14_ : 0 ≤ nL) (cR : pj_R W nL kd wy wh) : pj_R W nL kd wy (pu wh k 2) := by
  obtain ⟨hop, hed⟩ := hG
  unfold pj_R at *
  intro k0
  simp only [pu]
  have g0 := hop b
  have g1 := hop (wy k0)
  have g2 := hed b (wy k0)
  have cR_0 := cR k
  have cR_1 := cR k0
  have f0 := p6_ k
  have f1 := p6_ k0
  clear p6_
  clear hop hed cR
  grind (splits := 24)

set_option maxHeartbeats 1000000 in
theorem pt_txb_N1c {W : Int → Prop} {sd : Int → Int} {op : Int → Int} {ed : Int → Int} {st : Int → Int} {lv : Int → Int} {nm : Int → Int} {tst : Int → Int} {en : Int → Int} {fw : Int → Int} {nL : Int} {kd : Int → Int} {wy : Int → Int} {ll : Int → Int} {td : Int → Int} {wh : Int → Int} {b k : Int} (hG : pj_G W sd op ed) (p0_ : W b) (p1_ : 0 ≤ k) (p2_ : k < nL) (p3_ : wh k ≠ 2) (p4_ : kd k = 2) (p5_ : wy k = op b) (p6_ : ∀ j, 0 ≤ j → j < k → wy j = wy k → wh j ≠ 0) (p7_ : en b ≠ 0) (p8_ : td k = nm (sd b)) (p9_ : ll k ≤ lv (sd b)) (p10_ : tst (sd b) = (ed b)) (p11_ : st (sd b) = 1) (p12_ : fw b = 0) (p13_ : (tst (sd (op b)) = (ed b) ∧ ll k = lv (sd (op b)) ∧ td k = nm (sd (op b)) ∧ st (sd (op b)) = 1 ∧ lv (sd (op b)) = lv (sd b)) ∨ (tst (sd (op b)) ≠ (ed b) ∧ en (op b) ≠ 0)) (p14_ : 0 ≤ nL) (cN1c : pj_N1c sd op st nL wy wh) (cR : pj_R W nL kd wy wh) : pj_N1c sd op st nL wy (pu wh k 2) := by
  obtain ⟨hop, hed⟩ := hG
  unfold pj_N1c pj_R at *
  intro k0
  simp only [pu]
  have g0 := hop b
  have g1 := hop (wy k0)
  have g2 := hed b (wy k0)
  have cN1c_0 := cN1c k
  have cN1c_1 := cN1c k0
  have cR_0 := cR k0
  have f0 := p6_ k
  have f1 := p6_ k0
  clear p6_
  clear hop hed cN1c cR
  grind (splits := 24)

set_option maxHeartbeats 1000000 in
theorem pt_txb_N7 {W : Int → Prop} {sd : Int → Int} {op : Int → Int} {ed : Int → Int} {st : Int → Int} {lv : Int → Int} {nm : Int → Int} {tst : Int → Int} {exp : Int → Int} {en : Int → Int} {fw : Int → Int} {nL : Int} {kd : Int → Int} {wy : Int → Int} {ll : Int → Int} {td : Int → Int} {wh : Int → Int} {b k : Int} (hG : pj_G W sd op ed) (p0_ : W b) (p1_ : 0 ≤ k) (p2_ : k < nL) (p3_ : wh k ≠ 2) (p4_ : kd k = 2) (p5_ : wy k = op b) (p6_ : ∀ j, 0 ≤ j → j < k → wy j = wy k → wh j ≠ 0) (p7_ : en b ≠ 0) (p8_ : td k = nm (sd b)) (p9_ : ll k ≤ lv (sd b)) (p10_ : tst (sd b) = (ed b)) (p11_ : st (sd b) = 1) (p12_ : fw b = 0) (p13_ : (tst (sd (op b)) = (ed b) ∧ ll k = lv (sd (op b)) ∧ td k = nm (sd (op b)) ∧ st (sd (op b)) = 1 ∧ lv (sd (op b)) = lv (sd b)) ∨ (tst (sd (op b)) ≠ (ed b) ∧ en (op b) ≠ 0)) (p14_ : 0 ≤ nL) (cN7 : pj_N7 st tst exp) : pj_N7 st (pu tst (sd b) (-1)) exp := by
  obtain ⟨hop, hed⟩ := hG
  unfold pj_N7 at *
  intro n0
  simp only [pu]
  have g0 := hop b
  have cN7_0 := cN7 (sd (op b))
  have cN7_1 := cN7 n0
  have cN7_2 := cN7 (sd b)
  have f0 := p6_ k
  clear p6_
  clear hop hed cN7
  grind (splits := 24)

set_option maxHeartbeats 1000000 in
theorem pt_txb_E1 {W : Int → Prop} {sd : Int → Int} {op : Int → Int} {ed : Int → Int} {st : Int → Int} {lv : Int → Int} {nm : Int → Int} {tst : Int → Int} {dl : Int → Int} {en : Int → Int} {fw : Int → Int} {nL : Int} {kd : Int → Int} {wy : Int → Int} {ll : Int → Int} {td : Int → Int} {wh : Int → Int} {b k : Int} (hG : pj_G W sd op ed) (p0_ : W b) (p1_ : 0 ≤ k) (p2_ : k < nL) (p3_ : wh k ≠ 2) (p4_ : kd k = 2) (p5_ : wy k = op b) (p6_ : ∀ j, 0 ≤ j → j < k → wy j = wy k → wh j ≠ 0) (p7_ : en b ≠ 0) (p8_ : td k = nm (sd b)) (p9_ : ll k ≤ lv (sd b)) (p10_ : tst (sd b) = (ed b)) (p11_ : st (sd b) = 1) (p12_ : fw b = 0) (p13_ : (tst (sd (op b)) = (ed b) ∧ ll k = lv (sd (op b)) ∧ td k = nm (sd (op b)) ∧ st (sd (op b)) = 1 ∧ lv (sd (op b)) = lv (sd b)) ∨ (tst (sd (op b)) ≠ (ed b) ∧ en (op b) ≠ 0)) (p14_ : 0 ≤ nL) (cE1 : pj_E1 sd op lv dl nL kd wy ll wh) : pj_E1 sd op lv dl nL kd wy ll (pu wh k 2) := by
  obtain ⟨hop, hed⟩ := hG
  unfold pj_E1 at *
  intro n0
  simp only [pu]
  have g0 := hop b
  have cE1_0 := cE1 (sd (op b))
  have cE1_1 := cE1 n0
  have cE1_2 := cE1 (sd b)
  have f0 := p6_ k
  clear p6_
  clear hop hed cE1
  grind (splits := 24)

set_option maxHeartbeats 1000000 in
theorem pt_txb_EC {W : Int → Prop} {sd : Int → Int} {op : Int → Int} {ed : Int → Int} {st : Int → Int} {lv : Int → Int} {nm : Int → Int} {tst : Int → Int} {om : Int → Int} {ps : Int → Int} {dl : Int → Int} {en : Int → Int} {fw : Int → Int} {nL : Int} {kd : Int → Int} {wy : Int → Int} {ll : Int → Int} {td : Int → Int} {wh : Int → Int} {F : Int → Prop} {b k : Int} (hG : pj_G W sd op ed) (p0_ : W b) (p1_ : 0 ≤ k) (p2_ : k < nL) (p3_ : wh k ≠ 2) (p4_ : kd k = 2) (p5_ : wy k = op b) (p6_ : ∀ j, 0 ≤ j → j < k → wy j = wy k → wh j ≠ 0) (p7_ : en b ≠ 0) (p8_ : td k = nm (sd b)) (p9_ : ll k ≤ lv (sd b)) (p10_ : tst (sd b) = (ed b)) (p11_ : st (sd b) = 1) (p12_ : fw b = 0) (p13_ : (tst (sd (op b)) = (ed b) ∧ ll k = lv (sd (op b)) ∧ td k = nm (sd (op b)) ∧ st (sd (op b)) = 1 ∧ lv (sd (op b)) = lv (sd b)) ∨ (tst (sd (op b)) ≠ (ed b) ∧ en (op b) ≠ 0)) (p14_ : 0 ≤ nL) (cEC : pj_EC W sd op ed lv nm om ps dl nL kd wy wh F) : pj_EC W sd op ed lv nm om ps dl nL kd wy (pu wh k 2) F := by
  obtain ⟨hop, hed⟩ := hG
  unfold pj_EC at *
  intro w0
  simp only [pu]
  have g0 := hop b
  have g1 := hop w0
  have g2 := hed b w0
  have cEC_0 := cEC b
  have cEC_1 := cEC w0
  have cEC_2 := cEC (op w0)
  have f0 := p6_ k
  clear p6_
  clear hop hed cEC
  grind (splits := 24)

set_option maxHeartbeats 1000000 in
theorem pt_txb_N11 {W : Int → Prop} {sd : Int → Int} {op : Int → Int} {ed : Int → Int} {st : Int → Int} {lv : Int → Int} {nm : Int → Int} {tow : Int → Int} {tst : Int → Int} {ps : Int → Int} {en : Int → Int} {fw : Int → Int} {nL : Int} {kd : Int → Int} {wy : Int → Int} {ll : Int → Int} {td : Int → Int} {wh : Int → Int} {b k : Int} (hG : pj_G W sd op ed) (p0_ : W b) (p1_ : 0 ≤ k) (p2_ : k < nL) (p3_ : wh k ≠ 2) (p4_ : kd k = 2) (p5_ : wy k = op b) (p6_ : ∀ j, 0 ≤ j → j < k → wy j = wy k → wh j ≠ 0) (p7_ : en b ≠ 0) (p8_ : td k = nm (sd b)) (p9_ : ll k ≤ lv (sd b)) (p10_ : tst (sd b) = (ed b)) (p11_ : st (sd b) = 1) (p12_ : fw b = 0) (p13_ : (tst (sd (op b)) = (ed b) ∧ ll k = lv (sd (op b)) ∧ td k = nm (sd (op b)) ∧ st (sd (op b)) = 1 ∧ lv (sd (op b)) = lv (sd b)) ∨ (tst (sd (op b)) ≠ (ed b) ∧ en (op b) ≠ 0)) (p14_ : 0 ≤ nL) (cN11 : pj_N11 W sd op ed lv nm tow tst ps en) : pj_N11 W sd op ed lv nm tow (pu tst (sd b) (-1)) ps en := by
  obtain ⟨hop, hed⟩ := hG
  unfold pj_N11 at *
  intro w0
  simp only [pu]
  have g0 := hop b
  have g1 := hop w0
  have g2 := hed b w0
  have cN11_0 := cN11 b
  have cN11_1 := cN11 w0
  have cN11_2 := cN11 (op w0)
  have f0 := p6_ k
  clear p6_
  clear hop hed cN11
  grind (splits := 24)

set_option maxHeartbeats 1000000 in
theorem pt_txb_RJ {W : Int → Prop} {sd : Int → Int} {op : Int → Int} {ed : Int → Int} {st : Int → Int} {lv : Int → Int} {nm : Int → Int} {tst : Int → Int} {en : Int → Int} {fw : Int → Int} {nL : Int} {kd : Int → Int} {wy : Int → Int} {ll : Int → Int} {td : Int → Int} {wh : Int → Int} {b k : Int} (hG : pj_G W sd op ed) (p0_ : W b) (p1_ : 0 ≤ k) (p2_ : k < nL) (p3_ : wh k ≠ 2) (p4_ : kd k = 2) (p5_ : wy k = op b) (p6_ : ∀ j, 0 ≤ j → j < k → wy j = wy k → wh j ≠ 0) (p7_ : en b ≠ 0) (p8_ : td k = nm (sd b)) (p9_ : ll k ≤ lv (sd b)) (p10_ : tst (sd b) = (ed b)) (p11_ : st (sd b) = 1) (p12_ : fw b = 0) (p13_ : (tst (sd (op b)) = (ed b) ∧ ll k = lv (sd (op b)) ∧ td k = nm (sd (op b)) ∧ st (sd (op b)) = 1 ∧ lv (sd (op b)) = lv (sd b)) ∨ (tst (sd (op b)) ≠ (ed b) ∧ en (op b) ≠ 0)) (p14_ : 0 ≤ nL) (cRJ : pj_RJ W sd op ed tst en fw) : pj_RJ W sd op ed (pu tst (sd b) (-1)) en (pu fw b 1) := by
  obtain ⟨hop, hed⟩ := hG
  unfold pj_RJ at *
  intro w0
  simp only [pu]
  have g0 := hop b
  have g1 := hop w0
  have g2 := hed b w0
  have cRJ_0 := cRJ b
  have cRJ_1 := cRJ w0
  have cRJ_2 := cRJ (op w0)
  have f0 := p6_ k
  clear p6_
  clear hop hed cRJ
  grind (splits := 24)

set_option maxHeartbeats 1000000 in
theorem pt_txb_FW {W : Int → Prop} {sd : Int → Int} {op : Int → Int} {ed : Int → Int} {st : Int → Int} {lv : Int → Int} {nm : Int → Int} {tst : Int → Int} {en : Int → Int} {fw : Int → Int} {nL : Int} {kd : Int → Int} {wy : Int → Int} {ll : Int → Int} {td : Int → Int} {wh : Int → Int} {b k : Int} (hG : pj_G W sd op ed) (p0_ : W b) (p1_ : 0 ≤ k) (p2_ : k < nL) (p3_ : wh k ≠ 2) (p4_ : kd k = 2) (p5_ : wy k = op b) (p6_ : ∀ j, 0 ≤ j → j < k → wy j = wy k → wh j ≠ 0) (p7_ : en b ≠ 0) (p8_ : td k = nm (sd b)) (p9_ : ll k ≤ lv (sd b)) (p10_ : tst (sd b) = (ed b)) (p11_ : st (sd b) = 1) (p12_ : fw b = 0) (p13_ : (tst (sd (op b)) = (ed b) ∧ ll k = lv (sd (op b)) ∧ td k = nm (sd (op b)) ∧ st (sd (op b)) = 1 ∧ lv (sd (op b)) = lv (sd b)) ∨ (tst (sd (op b)) ≠ (ed b) ∧ en (op b) ≠ 0)) (p14_ : 0 ≤ nL) (cFW : pj_FW W sd ed tst en fw) : pj_FW W sd ed (pu tst (sd b) (-1)) en (pu fw b 1) := by
  obtain ⟨hop, hed⟩ := hG
  unfold pj_FW at *
  intro w0
  simp only [pu]
  have g0 := hop b
  have g1 := hop w0
  have g2 := hed b w0
  have cFW_0 := cFW b
  have cFW_1 := cFW w0
  have cFW_2 := cFW (op w0)
  have f0 := p6_ k
  clear p6_
  clear hop hed cFW
  grind (splits := 24)

set_option maxHeartbeats 1000000 in
theorem pt_txb_WH {W : Int → Prop} {sd : Int → Int} {op : Int → Int} {ed : Int → Int} {st : Int → Int} {lv : Int → Int} {nm : Int → Int} {tst : Int → Int} {en : Int → Int} {fw : Int → Int} {nL : Int} {kd : Int → Int} {wy : Int → Int} {ll : Int → Int} {td : Int → Int} {wh : Int → Int} {b k : Int} (hG : pj_G W sd op ed) (p0_ : W b) (p1_ : 0 ≤ k) (p2_ : k < nL) (p3_ : wh k ≠ 2) (p4_ : kd k = 2) (p5_ : wy k = op b) (p6_ : ∀ j, 0 ≤ j → j < k → wy j = wy k → wh j ≠ 0) (p7_ : en b ≠ 0) (p8_ : td k = nm (sd b)) (p9_ : ll k ≤ lv (sd b)) (p10_ : tst (sd b) = (ed b)) (p11_ : st (sd b) = 1) (p12_ : fw b = 0) (p13_ : (tst (sd (op b)) = (ed b) ∧ ll k = lv (sd (op b)) ∧ td k = nm (sd (op b)) ∧ st (sd (op b)) = 1 ∧ lv (sd (op b)) = lv (sd b)) ∨ (tst (sd (op b)) ≠ (ed b) ∧ en (op b) ≠ 0)) (p14_ : 0 ≤ nL) (cWH : pj_WH nL kd wh) (cR : pj_R W nL kd wy wh) : pj_WH nL kd (pu wh k 2) := by
  obtain ⟨hop, hed⟩ := hG
  unfold pj_WH pj_R at *
  intro k0
  simp only [pu]
  have g0 := hop b
  have g1 := hop (wy k0)
  have g2 := hed b (wy k0)
  have cWH_0 := cWH k
  have cWH_1 := cWH k0
  have cR_0 := cR k0
  have f0 := p6_ k
  have f1 := p6_ k0
  clear p6_
  clear hop hed cWH cR
  grind (splits := 24)

set_option maxHeartbeats 1000000 in
theorem pt_txb_FI {W : Int → Prop} {sd : Int → Int} {op : Int → Int} {ed : Int → Int} {st : Int → Int} {lv : Int → Int} {nm : Int → Int} {tst : Int → Int} {en : Int → Int} {fw : Int → Int} {nL : Int} {kd : Int → Int} {wy : Int → Int} {ll : Int → Int} {td : Int → Int} {wh : Int → Int} {b k : Int} (hG : pj_G W sd op ed) (p0_ : W b) (p1_ : 0 ≤ k) (p2_ : k < nL) (p3_ : wh k ≠ 2) (p4_ : kd k = 2) (p5_ : wy k = op b) (p6_ : ∀ j, 0 ≤ j → j < k → wy j = wy k → wh j ≠ 0) (p7_ : en b ≠ 0) (p8_ : td k = nm (sd b)) (p9_ : ll k ≤ lv (sd b)) (p10_ : tst (sd b) = (ed b)) (p11_ : st (sd b) = 1) (p12_ : fw b = 0) (p13_ : (tst (sd (op b)) = (ed b) ∧ ll k = lv (sd (op b)) ∧ td k = nm (sd (op b)) ∧ st (sd (op b)) = 1 ∧ lv (sd (op b)) = lv (sd b)) ∨ (tst (sd (op b)) ≠ (ed b) ∧ en (op b) ≠ 0)) (p14_ : 0 ≤ nL) (cFI : pj_FI nL wy wh) (cR : pj_R W nL kd wy wh) : pj_FI nL wy (pu wh k 2) := by
  obtain ⟨hop, hed⟩ := hG
  unfold pj_FI pj_R at *
  intro j0 k0
  simp only [pu]
  have g0 := hop b
  have g1 := hop (wy j0)
  have g2 := hop (wy k0)
  have g3 := hed b (wy j0)
  have g4 := hed b (wy k0)
  have g5 := hed (wy j0) (wy k0)
  have cFI_0 := cFI k k
  have cFI_1 := cFI k j0
  have cFI_2 := cFI k k0
  have cFI_3 := cFI j0 k
  have cFI_4 := cFI j0 j0
  have cFI_5 := cFI j0 k0
  have cFI_6 := cFI k0 k
  have cFI_7 := cFI k0 j0
  have cFI_8 := cFI k0 k0
  have cR_0 := cR j0
  have cR_1 := cR k0
  have f0 := p6_ k
  have f1 := p6_ j0
  have f2 := p6_ k0
  clear p6_
  clear hop hed cFI cR
  grind (splits := 24)

set_option maxHeartbeats 1000000 in
theorem pt_txb_L0 {W : Int → Prop} {sd : Int → Int} {op : Int → Int} {ed : Int → Int} {st : Int → Int} {lv : Int → Int} {nm : Int → Int} {tst : Int → Int} {om : Int → Int} {ps : Int → Int} {dl : Int → Int} {c0 : Int → Int} {en : Int → Int} {fw : Int → Int} {cw : Int → Int} {nL : Int} {kd : Int → Int} {wy : Int → Int} {ll : Int → Int} {td : Int → Int} {wh : Int → Int} {b k : Int} (hG : pj_G W sd op ed) (p0_ : W b) (p1_ : 0 ≤ k) (p2_ : k < nL) (p3_ : wh k ≠ 2) (p4_ : kd k = 2) (p5_ : wy k = op b) (p6_ : ∀ j, 0 ≤ j → j < k → wy j = wy k → wh j ≠ 0) (p7_ : en b ≠ 0) (p8_ : td k = nm (sd b)) (p9_ : ll k ≤ lv (sd b)) (p10_ : tst (sd b) = (ed b)) (p11_ : st (sd b) = 1) (p12_ : fw b = 0) (p13_ : (tst (sd (op b)) = (ed b) ∧ ll k = lv (sd (op b)) ∧ td k = nm (sd (op b)) ∧ st (sd (op b)) = 1 ∧ lv (sd (op b)) = lv (sd b)) ∨ (tst (sd (op b)) ≠ (ed b) ∧ en (op b) ≠ 0)) (p14_ : 0 ≤ nL) (cL0 : pj_L0 sd op ed lv nm om ps dl c0 en cw nL kd wy ll wh) (cR : pj_R W nL kd wy wh) : pj_L0 sd op ed lv nm om ps dl c0 en cw nL kd wy ll (pu wh k 2) := by
  obtain ⟨hop, hed⟩ := hG
  unfold pj_L0 pj_R at *
  intro k0
  simp only [pu]
  have g0 := hop b
  have g1 := hop (wy k0)
  have g2 := hed b (wy k0)
  have cL0_0 := cL0 k
  have cL0_1 := cL0 k0
  have cR_0 := cR k0
  have f0 := p6_ k
  have f1 := p6_ k0
  clear p6_
  clear hop hed cL0 cR
  grind (splits := 24)

set_option maxHeartbeats 1000000 in
theorem pt_txb_FC {W : Int → Prop} {sd : Int → Int} {op : Int → Int} {ed : Int → Int} {st : Int → Int} {lv : Int → Int} {nm : Int → Int} {tst : Int → Int} {en : Int → Int} {fw : Int → Int} {nL : Int} {kd : Int → Int} {wy : Int → Int} {ll : Int → Int} {td : Int → Int} {wh : Int → Int} {F : Int → Prop} {b k : Int} (hG : pj_G W sd op ed) (p0_ : W b) (p1_ : 0 ≤ k) (p2_ : k < nL) (p3_ : wh k ≠ 2) (p4_ : kd k = 2) (p5_ : wy k = op b) (p6_ : ∀ j, 0 ≤ j → j < k → wy j = wy k → wh j ≠ 0) (p7_ : en b ≠ 0) (p8_ : td k = nm (sd b)) (p9_ : ll k ≤ lv (sd b)) (p10_ : tst (sd b) = (ed b)) (p11_ : st (sd b) = 1) (p12_ : fw b = 0) (p13_ : (tst (sd (op b)) = (ed b) ∧ ll k = lv (sd (op b)) ∧ td k = nm (sd (op b)) ∧ st (sd (op b)) = 1 ∧ lv (sd (op b)) = lv (sd b)) ∨ (tst (sd (op b)) ≠ (ed b) ∧ en (op b) ≠ 0)) (p14_ : 0 ≤ nL) (cFC : pj_FC op nL kd wy wh F) (cR : pj_R W nL kd wy wh) : pj_FC op nL kd wy (pu wh k 2) F := by
  obtain ⟨hop, hed⟩ := hG
  unfold pj_FC pj_R at *
  intro k0
  simp only [pu]
  have g0 := hop b
  have g1 := hop (wy k0)
  have g2 := hed b (wy k0)
  have cFC_0 := cFC k
  have cFC_1 := cFC k0
  have cR_0 := cR k0
  have f0 := p6_ k
  have f1 := p6_ k0
  clear p6_
  clear hop hed cFC cR
  grind (splits := 24)

set_option maxHeartbeats 1000000 in
theorem pt_txb_L0u {W : Int → Prop} {sd : Int → Int} {op : Int → Int} {ed : Int → Int} {st : Int → Int} {lv : Int → Int} {nm : Int → Int} {tst : Int → Int} {en : Int → Int} {fw : Int → Int} {nL : Int} {kd : Int → Int} {wy : Int → Int} {ll : Int → Int} {td : Int → Int} {wh : Int → Int} {b k : Int} (hG : pj_G W sd op ed) (p0_ : W b) (p1_ : 0 ≤ k) (p2_ : k < nL) (p3_ : wh k ≠ 2) (p4_ : kd k = 2) (p5_ : wy k = op b) (p6_ : ∀ j, 0 ≤ j → j < k → wy j = wy k → wh j ≠ 0) (p7_ : en b ≠ 0) (p8_ : td k = nm (sd b)) (p9_ : ll k ≤ lv (sd b)) (p10_ : tst (sd b) = (ed b)) (p11_ : st (sd b) = 1) (p12_ : fw b = 0) (p13_ : (tst (sd (op b)) = (ed b) ∧ ll k = lv (sd (op b)) ∧ td k = nm (sd (op b)) ∧ st (sd (op b)) = 1 ∧ lv (sd (op b)) = lv (sd b)) ∨ (tst (sd (op b)) ≠ (ed b) ∧ en (op b) ≠ 0)) (p14_ : 0 ≤ nL) (cL0u : pj_L0u nL kd wy wh) (cR : pj_R W nL kd wy wh) : pj_L0u nL kd wy (pu wh k 2) := by
  obtain ⟨hop, hed⟩ := hG
  unfold pj_L0u pj_R at *
  intro j0 k0
  simp only [pu]
  have g0 := hop b
  have g1 := hop (wy j0)
  have g2 := hop (wy k0)
  have g3 := hed b (wy j0)
  have g4 := hed b (wy k0)
  have g5 := hed (wy j0) (wy k0)
  have cL0u_0 := cL0u k k
  have cL0u_1 := cL0u k j0
  have cL0u_2 := cL0u k k0
  have cL0u_3 := cL0u j0 k
  have cL0u_4 := cL0u j0 j0
  have cL0u_5 := cL0u j0 k0
  have cL0u_6 := cL0u k0 k
  have cL0u_7 := cL0u k0 j0
  have cL0u_8 := cL0u k0 k0
  have cR_0 := cR j0
  have cR_1 := cR k0
  have f0 := p6_ k
  have f1 := p6_ j0
  have f2 := p6_ k0
  clear p6_
  clear hop hed cL0u cR
  grind (splits := 24)

set_option maxHeartbeats 1000000 in
theorem pt_txb_OC {W : Int → Prop} {sd : Int → Int} {op : Int → Int} {ed : Int → Int} {st : Int → Int} {lv : Int → Int} {nm : Int → Int} {tst : Int → Int} {en : Int → Int} {fw : Int → Int} {nL : Int} {kd : Int → Int} {wy : Int → Int} {ll : Int → Int} {td : Int → Int} {wh : Int → Int} {b k : Int} (hG : pj_G W sd op ed) (p0_ : W b) (p1_ : 0 ≤ k) (p2_ : k < nL) (p3_ : wh k ≠ 2) (p4_ : kd k = 2) (p5_ : wy k = op b) (p6_ : ∀ j, 0 ≤ j → j < k → wy j = wy k → wh j ≠ 0) (p7_ : en b ≠ 0) (p8_ : td k = nm (sd b)) (p9_ : ll k ≤ lv (sd b)) (p10_ : tst (sd b) = (ed b)) (p11_ : st (sd b) = 1) (p12_ : fw b = 0) (p13_ : (tst (sd (op b)) = (ed b) ∧ ll k = lv (sd (op b)) ∧ td k = nm (sd (op b)) ∧ st (sd (op b)) = 1 ∧ lv (sd (op b)) = lv (sd b)) ∨ (tst (sd (op b)) ≠ (ed b) ∧ en (op b) ≠ 0)) (p14_ : 0 ≤ nL) (cOC : pj_OC nL kd wy wh) (cR : pj_R W nL kd wy wh) : pj_OC nL kd wy (pu wh k 2) := by
  obtain ⟨hop, hed⟩ := hG
  unfold pj_OC pj_R at *
  intro j0 k0
  simp only [pu]
  have g0 := hop b
  have g1 := hop (wy j0)
  have g2 := hop (wy k0)
  have g3 := hed b (wy j0)
  have g4 := hed b (wy k0)
  have g5 := hed (wy j0) (wy k0)
  have cOC_0 := cOC k k
  have cOC_1 := cOC k j0
  have cOC_2 := cOC k k0
  have cOC_3 := cOC j0 k
  have cOC_4 := cOC j0 j0
  have cOC_5 := cOC j0 k0
  have cOC_6 := cOC k0 k
  have cOC_7 := cOC k0 j0
  have cOC_8 := cOC k0 k0
  have cR_0 := cR j0
  have cR_1 := cR k0
  have f0 := p6_ k
  have f1 := p6_ j0
  have f2 := p6_ k0
  clear p6_
  clear hop hed cOC cR
  grind (splits := 24)

set_option maxHeartbeats 1000000 in
theorem pt_txb_CT {W : Int → Prop} {sd : Int → Int} {op : Int → Int} {ed : Int → Int} {st : Int → Int} {lv : Int → Int} {nm : Int → Int} {tst : Int → Int} {en : Int → Int} {fw : Int → Int} {nL : Int} {kd : Int → Int} {wy : Int → Int} {ll : Int → Int} {td : Int → Int} {wh : Int → Int} {b k : Int} (hG : pj_G W sd op ed) (p0_ : W b) (p1_ : 0 ≤ k) (p2_ : k < nL) (p3_ : wh k ≠ 2) (p4_ : kd k = 2) (p5_ : wy k = op b) (p6_ : ∀ j, 0 ≤ j → j < k → wy j = wy k → wh j ≠ 0) (p7_ : en b ≠ 0) (p8_ : td k = nm (sd b)) (p9_ : ll k ≤ lv (sd b)) (p10_ : tst (sd b) = (ed b)) (p11_ : st (sd b) = 1) (p12_ : fw b = 0) (p13_ : (tst (sd (op b)) = (ed b) ∧ ll k = lv (sd (op b)) ∧ td k = nm (sd (op b)) ∧ st (sd (op b)) = 1 ∧ lv (sd (op b)) = lv (sd b)) ∨ (tst (sd (op b)) ≠ (ed b) ∧ en (op b) ≠ 0)) (p14_ : 0 ≤ nL) (cCT : pj_CT nL kd wy wh) (cR : pj_R W nL kd wy wh) : pj_CT nL kd wy (pu wh k 2) := by
  obtain ⟨hop, hed⟩ := hG
  unfold pj_CT pj_R at *
  intro j0 k0
  simp only [pu]
  have g0 := hop b
  have g1 := hop (wy j0)
  have g2 := hop (wy k0)
  have g3 := hed b (wy j0)
  have g4 := hed b (wy k0)
  have g5 := hed (wy j0) (wy k0)
  have cCT_0 := cCT k k
  have cCT_1 := cCT k j0
  have cCT_2 := cCT k k0
  have cCT_3 := cCT j0 k
  have cCT_4 := cCT j0 j0
  have cCT_5 := cCT j0 k0
  have cCT_6 := cCT k0 k
  have cCT_7 := cCT k0 j0
  have cCT_8 := cCT k0 k0
  have cR_0 := cR j0
  have cR_1 := cR k0
  have f0 := p6_ k
  have f1 := p6_ j0
  have f2 := p6_ k0
  clear p6_
  clear hop hed cCT cR
  grind (splits := 24)

set_option maxHeartbeats 1000000 in
theorem pt_txb_L1 {W : Int → Prop} {sd : Int → Int} {op : Int → Int} {ed : Int → Int} {st : Int → Int} {lv : Int → Int} {nm : Int → Int} {tst : Int → Int} {om : Int → Int} {dl : Int → Int} {en : Int → Int} {fw : Int → Int} {cl : Int → Int} {nL : Int} {kd : Int → Int} {wy : Int → Int} {ll : Int → Int} {td : Int → Int} {ls : Int → Int} {wh : Int → Int} {b k : Int} (hG : pj_G W sd op ed) (p0_ : W b) (p1_ : 0 ≤ k) (p2_ : k < nL) (p3_ : wh k ≠ 2) (p4_ : kd k = 2) (p5_ : wy k = op b) (p6_ : ∀ j, 0 ≤ j → j < k → wy j = wy k → wh j ≠ 0) (p7_ : en b ≠ 0) (p8_ : td k = nm (sd b)) (p9_ : ll k ≤ lv (sd b)) (p10_ : tst (sd b) = (ed b)) (p11_ : st (sd b) = 1) (p12_ : fw b = 0) (p13_ : (tst (sd (op b)) = (ed b) ∧ ll k = lv (sd (op b)) ∧ td k = nm (sd (op b)) ∧ st (sd (op b)) = 1 ∧ lv (sd (op b)) = lv (sd b)) ∨ (tst (sd (op b)) ≠ (ed b) ∧ en (op b) ≠ 0)) (p14_ : 0 ≤ nL) (cL1 : pj_L1 sd op ed st lv om dl en cl nL kd wy ll td ls wh) (cR : pj_R W nL kd wy wh) : pj_L1 sd op ed st lv om dl en cl nL kd wy ll td ls (pu wh k 2) := by
  obtain ⟨hop, hed⟩ := hG
  unfold pj_L1 pj_R at *
  intro k0
  simp only [pu]
  have g0 := hop b
  have g1 := hop (wy k0)
  have g2 := hed b (wy k0)
  have cL1_0 := cL1 k
  have cL1_1 := cL1 k0
  have cR_0 := cR k0
  have f0 := p6_ k
  have f1 := p6_ k0
  clear p6_
  clear hop hed cL1 cR
  grind (splits := 24)

set_option maxHeartbeats 1000000 in
theorem pt_txb_L1e {W : Int → Prop} {sd : Int → Int} {op : Int → Int} {ed : Int → Int} {st : Int → Int} {lv : Int → Int} {nm : Int → Int} {tst : Int → Int} {dl : Int → Int} {dn : Int → Int} {en : Int → Int} {fw : Int → Int} {nL : Int} {kd : Int → Int} {wy : Int → Int} {ll : Int → Int} {td : Int → Int} {ls : Int → Int} {wh : Int → Int} {b k : Int} (hG : pj_G W sd op ed) (p0_ : W b) (p1_ : 0 ≤ k) (p2_ : k < nL) (p3_ : wh k ≠ 2) (p4_ : kd k = 2) (p5_ : wy k = op b) (p6_ : ∀ j, 0 ≤ j → j < k → wy j = wy k → wh j ≠ 0) (p7_ : en b ≠ 0) (p8_ : td k = nm (sd b)) (p9_ : ll k ≤ lv (sd b)) (p10_ : tst (sd b) = (ed b)) (p11_ : st (sd b) = 1) (p12_ : fw b = 0) (p13_ : (tst (sd (op b)) = (ed b) ∧ ll k = lv (sd (op b)) ∧ td k = nm (sd (op b)) ∧ st (sd (op b)) = 1 ∧ lv (sd (op b)) = lv (sd b)) ∨ (tst (sd (op b)) ≠ (ed b) ∧ en (op b) ≠ 0)) (p14_ : 0 ≤ nL) (cL1e : pj_L1e sd op dl dn nL kd wy ll td ls wh) (cR : pj_R W nL kd wy wh) : pj_L1e sd op dl dn nL kd wy ll td ls (pu wh k 2) := by
  obtain ⟨hop, hed⟩ := hG
  unfold pj_L1e pj_R at *
  intro k0
  simp only [pu]
  have g0 := hop b
  have g1 := hop (wy k0)
  have g2 := hed b (wy k0)
  have cL1e_0 := cL1e k
  have cL1e_1 := cL1e k0
  have cR_0 := cR k0
  have f0 := p6_ k
  have f1 := p6_ k0
  clear p6_
  clear hop hed cL1e cR
  grind (splits := 24)

set_option maxHeartbeats 1000000 in
theorem pt_txb_L1o {W : Int → Prop} {sd : Int → Int} {op : Int → Int} {ed : Int → Int} {st : Int → Int} {lv : Int → Int} {nm : Int → Int} {tst : Int → Int} {en : Int → Int} {fw : Int → Int} {nL : Int} {kd : Int → Int} {wy : Int → Int} {ll : Int → Int} {td : Int → Int} {wh : Int → Int} {b k : Int} (hG : pj_G W sd op ed) (p0_ : W b) (p1_ : 0 ≤ k) (p2_ : k < nL) (p3_ : wh k ≠ 2) (p4_ : kd k = 2) (p5_ : wy k = op b) (p6_ : ∀ j, 0 ≤ j → j < k → wy j = wy k → wh j ≠ 0) (p7_ : en b ≠ 0) (p8_ : td k = nm (sd b)) (p9_ : ll k ≤ lv (sd b)) (p10_ : tst (sd b) = (ed b)) (p11_ : st (sd b) = 1) (p12_ : fw b = 0) (p13_ : (tst (sd (op b)) = (ed b) ∧ ll k = lv (sd (op b)) ∧ td k = nm (sd (op b)) ∧ st (sd (op b)) = 1 ∧ lv (sd (op b)) = lv (sd b)) ∨ (tst (sd (op b)) ≠ (ed b) ∧ en (op b) ≠ 0)) (p14_ : 0 ≤ nL) (cL1o : pj_L1o nL kd wy ll wh) (cR : pj_R W nL kd wy wh) : pj_L1o nL kd wy ll (pu wh k 2) := by
  obtain ⟨hop, hed⟩ := hG
  unfold pj_L1o pj_R at *
  intro j0 k0
  simp only [pu]
  have g0 := hop b
  have g1 := hop (wy j0)
  have g2 := hop (wy k0)
  have g3 := hed b (wy j0)
  have g4 := hed b (wy k0)
  have g5 := hed (wy j0) (wy k0)
  have cL1o_0 := cL1o k k
  have cL1o_1 := cL1o k j0
  have cL1o_2 := cL1o k k0
  have cL1o_3 := cL1o j0 k
  have cL1o_4 := cL1o j0 j0
  have cL1o_5 := cL1o j0 k0
  have cL1o_6 := cL1o k0 k
  have cL1o_7 := cL1o k0 j0
  have cL1o_8 := cL1o k0 k0
  have cR_0 := cR j0
  have cR_1 := cR k0
  have f0 := p6_ k
  have f1 := p6_ j0
  have f2 := p6_ k0
  clear p6_
  clear hop hed cL1o cR
  grind (splits := 24)

set_option maxHeartbeats 1000000 in
theorem pt_txb_L1b {W : Int → Prop} {sd : Int → Int} {op : Int → Int} {ed : Int → Int} {st : Int → Int} {lv : Int → Int} {nm : Int → Int} {tst : Int → Int} {om : Int → Int} {en : Int → Int} {pd : Int → Int} {fw : Int → Int} {nL : Int} {kd : Int → Int} {wy : Int → Int} {ll : Int → Int} {td : Int → Int} {ls : Int → Int} {wh : Int → Int} {b k : Int} (hG : pj_G W sd op ed) (p0_ : W b) (p1_ : 0 ≤ k) (p2_ : k < nL) (p3_ : wh k ≠ 2) (p4_ : kd k = 2) (p5_ : wy k = op b) (p6_ : ∀ j, 0 ≤ j → j < k → wy j = wy k → wh j ≠ 0) (p7_ : en b ≠ 0) (p8_ : td k = nm (sd b)) (p9_ : ll k ≤ lv (sd b)) (p10_ : tst (sd b) = (ed b)) (p11_ : st (sd b) = 1) (p12_ : fw b = 0) (p13_ : (tst (sd (op b)) = (ed b) ∧ ll k = lv (sd (op b)) ∧ td k = nm (sd (op b)) ∧ st (sd (op b)) = 1 ∧ lv (sd (op b)) = lv (sd b)) ∨ (tst (sd (op b)) ≠ (ed b) ∧ en (op b) ≠ 0)) (p14_ : 0 ≤ nL) (cL1b : pj_L1b sd ed st om pd nL kd wy td ls wh) (cR : pj_R W nL kd wy wh) : pj_L1b sd ed st om pd nL kd wy td ls (pu wh k 2) := by
  obtain ⟨hop, hed⟩ := hG
  unfold pj_L1b pj_R at *
  intro k0
  simp only [pu]
  have g0 := hop b
  have g1 := hop (wy k0)
  have g2 := hed b (wy k0)
  have cL1b_0 := cL1b k
  have cL1b_1 := cL1b k0
  have cR_0 := cR k0
  have f0 := p6_ k
  have f1 := p6_ k0
  clear p6_
  clear hop hed cL1b cR
  grind (splits := 24)

set_option maxHeartbeats 1000000 in
theorem pt_txb_L1g {W : Int → Prop} {sd : Int → Int} {op : Int → Int} {ed : Int → Int} {st : Int → Int} {lv : Int → Int} {nm : Int → Int} {tst : Int → Int} {en : Int → Int} {fw : Int → Int} {nL : Int} {kd : Int → Int} {wy : Int → Int} {ll : Int → Int} {td : Int → Int} {ls : Int → Int} {wh : Int → Int} {b k : Int} (hG : pj_G W sd op ed) (p0_ : W b) (p1_ : 0 ≤ k) (p2_ : k < nL) (p3_ : wh k ≠ 2) (p4_ : kd k = 2) (p5_ : wy k = op b) (p6_ : ∀ j, 0 ≤ j → j < k → wy j = wy k → wh j ≠ 0) (p7_ : en b ≠ 0) (p8_ : td k = nm (sd b)) (p9_ : ll k ≤ lv (sd b)) (p10_ : tst (sd b) = (ed b)) (p11_ : st (sd b) = 1) (p12_ : fw b = 0) (p13_ : (tst (sd (op b)) = (ed b) ∧ ll k = lv (sd (op b)) ∧ td k = nm (sd (op b)) ∧ st (sd (op b)) = 1 ∧ lv (sd (op b)) = lv (sd b)) ∨ (tst (sd (op b)) ≠ (ed b) ∧ en (op b) ≠ 0)) (p14_ : 0 ≤ nL) (cL1g : pj_L1g W sd op ed nL kd wy td ls wh) (cR : pj_R W nL kd wy wh) : pj_L1g W sd op ed nL kd wy td ls (pu wh k 2) := by
  obtain ⟨hop, hed⟩ := hG
  unfold pj_L1g pj_R at *
  intro k0 v0
  simp only [pu]
  have g0 := hop b
  have g1 := hop (wy k0)
  have g2 := hop v0
  have g3 := hed b (wy k0)
  have g4 := hed b v0
  have g5 := hed (wy k0) v0
  have cL1g_0 := cL1g k b
  have cL1g_1 := cL1g k (wy k0)
  have cL1g_2 := cL1g k (op (wy k0))
  have cL1g_3 := cL1g k v0
  have cL1g_4 := cL1g k (op v0)
  have cL1g_5 := cL1g k0 b
  have cL1g_6 := cL1g k0 (wy k0)
  have cL1g_7 := cL1g k0 (op (wy k0))
  have cL1g_8 := cL1g k0 v0
  have cL1g_9 := cL1g k0 (op v0)
  have cR_0 := cR k0
  have f0 := p6_ k
  have f1 := p6_ k0
  clear p6_
  clear hop hed cL1g cR
  grind (splits := 24)

set_option maxHeartbeats 1000000 in
theorem pt_txb_L2 {W : Int → Prop} {sd : Int → Int} {op : Int → Int} {ed : Int → Int} {st : Int → Int} {lv : Int → Int} {nm : Int → Int} {tst : Int → Int} {en : Int → Int} {fw : Int → Int} {nL : Int} {kd : Int → Int} {wy : Int → Int} {ll : Int → Int} {td : Int → Int} {wh : Int → Int} {b k : Int} (hG : pj_G W sd op ed) (p0_ : W b) (p1_ : 0 ≤ k) (p2_ : k < nL) (p3_ : wh k ≠ 2) (p4_ : kd k = 2) (p5_ : wy k = op b) (p6_ : ∀ j, 0 ≤ j → j < k → wy j = wy k → wh j ≠ 0) (p7_ : en b ≠ 0) (p8_ : td k = nm (sd b)) (p9_ : ll k ≤ lv (sd b)) (p10_ : tst (sd b) = (ed b)) (p11_ : st (sd b) = 1) (p12_ : fw b = 0) (p13_ : (tst (sd (op b)) = (ed b) ∧ ll k = lv (sd (op b)) ∧ td k = nm (sd (op b)) ∧ st (sd (op b)) = 1 ∧ lv (sd (op b)) = lv (sd b)) ∨ (tst (sd (op b)) ≠ (ed b) ∧ en (op b) ≠ 0)) (p14_ : 0 ≤ nL) (cR : pj_R W nL kd wy wh) (cCV : pj_CV W sd op ed tst nL kd wy wh) (cL3 : pj_L3 sd op ed st lv nm tst en fw nL kd wy wh) (cL4 : pj_L4 sd op ed st tst en nL kd wy wh) (cL2 : pj_L2 sd op ed st lv nm tst en fw nL kd wy ll td wh) (cRT : pj_RT sd ed tst nL kd wy wh) : pj_L2 sd op ed st lv nm (pu tst (sd b) (-1)) en (pu fw b 1) nL kd wy ll td (pu wh k 2) := by
  obtain ⟨hop, hed⟩ := hG
  unfold pj_R pj_CV pj_L3 pj_L4 pj_L2 pj_RT at *
  intro k0
  simp only [pu]
  have g0 := hop b
  have g1 := hop (wy k0)
  have g2 := hed b (wy k0)
  have cR_0 := cR k0
  have cCV_0 := cCV b k0 k
  have cCV_1 := cCV (op b) k0 k
  have cL3_0 := cL3 k0
  have cL4_0 := cL4 k0
  have cL2_0 := cL2 k0
  have cRT_0 := cRT k0 k
  have cRT_1 := cRT k k0
  have f0 := p6_ k
  have f1 := p6_ k0
  clear p6_
  clear hop hed cR cCV cL3 cL4 cL2 cRT
  grind (splits := 24)

set_option maxHeartbeats 1000000 in
theorem pt_txb_L3 {W : Int → Prop} {sd : Int → Int} {op : Int → Int} {ed : Int → Int} {st : Int → Int} {lv : Int → Int} {nm : Int → Int} {tst : Int → Int} {en : Int → Int} {fw : Int → Int} {nL : Int} {kd : Int → Int} {wy : Int → Int} {ll : Int → Int} {td : Int → Int} {wh : Int → Int} {b k : Int} (hG : pj_G W sd op ed) (p0_ : W b) (p1_ : 0 ≤ k) (p2_ : k < nL) (p3_ : wh k ≠ 2) (p4_ : kd k = 2) (p5_ : wy k = op b) (p6_ : ∀ j, 0 ≤ j → j < k → wy j = wy k → wh j ≠ 0) (p7_ : en b ≠ 0) (p8_ : td k = nm (sd b)) (p9_ : ll k ≤ lv (sd b)) (p10_ : tst (sd b) = (ed b)) (p11_ : st (sd b) = 1) (p12_ : fw b = 0) (p13_ : (tst (sd (op b)) = (ed b) ∧ ll k = lv (sd (op b)) ∧ td k = nm (sd (op b)) ∧ st (sd (op b)) = 1 ∧ lv (sd (op b)) = lv (sd b)) ∨ (tst (sd (op b)) ≠ (ed b) ∧ en (op b) ≠ 0)) (p14_ : 0 ≤ nL) (cR : pj_R W nL kd wy wh) (cCV : pj_CV W sd op ed tst nL kd wy wh) (cL3 : pj_L3 sd op ed st lv nm tst en fw nL kd wy wh) (cL4 : pj_L4 sd op ed st tst en nL kd wy wh) (cL2 : pj_L2 sd op ed st lv nm tst en fw nL kd wy ll td wh) (cRT : pj_RT sd ed tst nL kd wy wh) : pj_L3 sd op ed st lv nm (pu tst (sd b) (-1)) en (pu fw b 1) nL kd wy (pu wh k 2) := by
  obtain ⟨hop, hed⟩ := hG
  unfold pj_R pj_CV pj_L3 pj_L4 pj_L2 pj_RT at *
  intro k0
  simp only [pu]
  have g0 := hop b
  have g1 := hop (wy k0)
  have g2 := hed b (wy k0)
  have cR_0 := cR k0
  have cCV_0 := cCV b k0 k
  have cCV_1 := cCV (op b) k0 k
  have cL3_0 := cL3 k0
  have cL4_0 := cL4 k0
  have cL2_0 := cL2 k0
  have cRT_0 := cRT k0 k
  have cRT_1 := cRT k k0
  have f0 := p6_ k
  have f1 := p6_ k0
  clear p6_
  clear hop hed cR cCV cL3 cL4 cL2 cRT
  grind (splits := 24)

set_option maxHeartbeats 1000000 in
theorem pt_txb_L4 {W : Int → Prop} {sd : Int → Int} {op : Int → Int} {ed : Int → Int} {st : Int → Int} {lv : Int → Int} {nm : Int → Int} {tst : Int → Int} {en : Int → Int} {fw : Int → Int} {nL : Int} {kd : Int → Int} {wy : Int → Int} {ll : Int → Int} {td : Int → Int} {wh : Int → Int} {b k : Int} (hG : pj_G W sd op ed) (p0_ : W b) (p1_ : 0 ≤ k) (p2_ : k < nL) (p3_ : wh k ≠ 2) (p4_ : kd k = 2) (p5_ : wy k = op b) (p6_ : ∀ j, 0 ≤ j → j < k → wy j = wy k → wh j ≠ 0) (p7_ : en b ≠ 0) (p8_ : td k = nm (sd b)) (p9_ : ll k ≤ lv (sd b)) (p10_ : tst (sd b) = (ed b)) (p11_ : st (sd b) = 1) (p12_ : fw b = 0) (p13_ : (tst (sd (op b)) = (ed b) ∧ ll k = lv (sd (op b)) ∧ td k = nm (sd (op b)) ∧ st (sd (op b)) = 1 ∧ lv (sd (op b)) = lv (sd b)) ∨ (tst (sd (op b)) ≠ (ed b) ∧ en (op b) ≠ 0)) (p14_ : 0 ≤ nL) (cR : pj_R W nL kd wy wh) (cCV : pj_CV W sd op ed tst nL kd wy wh) (cL3 : pj_L3 sd op ed st lv nm tst en fw nL kd wy wh) (cL4 : pj_L4 sd op ed st tst en nL kd wy wh) (cL2 : pj_L2 sd op ed st lv nm tst en fw nL kd wy ll td wh) (cRT : pj_RT sd ed tst nL kd wy wh) : pj_L4 sd op ed st (pu tst (sd b) (-1)) en nL kd wy (pu wh k 2) := by
  obtain ⟨hop, hed⟩ := hG
  unfold pj_R pj_CV pj_L3 pj_L4 pj_L2 pj_RT at *
  intro k0
  simp only [pu]
  have g0 := hop b
  have g1 := hop (wy k0)
  have g2 := hed b (wy k0)
  have cR_0 := cR k0
  have cCV_0 := cCV b k0 k
  have cCV_1 := cCV (op b) k0 k
  have cL3_0 := cL3 k0
  have cL4_0 := cL4 k0
  have cL2_0 := cL2 k0
  have cRT_0 := cRT k0 k
  have cRT_1 := cRT k k0
  have f0 := p6_ k
  have f1 := p6_ k0
  clear p6_
  clear hop hed cR cCV cL3 cL4 cL2 cRT
  grind (splits := 24)

set_option maxHeartbeats 1000000 in
theorem pt_txb_AF {W : Int → Prop} {sd : Int → Int} {op : Int → Int} {ed : Int → Int} {st : Int → Int} {lv : Int → Int} {nm : Int → Int} {tst : Int → Int} {af : Int → Int} {en : Int → Int} {fw : Int → Int} {nL : Int} {kd : Int → Int} {wy : Int → Int} {ll : Int → Int} {td : Int → Int} {wh : Int → Int} {b k : Int} (hG : pj_G W sd op ed) (p0_ : W b) (p1_ : 0 ≤ k) (p2_ : k < nL) (p3_ : wh k ≠ 2) (p4_ : kd k = 2) (p5_ : wy k = op b) (p6_ : ∀ j, 0 ≤ j → j < k → wy j = wy k → wh j ≠ 0) (p7_ : en b ≠ 0) (p8_ : td k = nm (sd b)) (p9_ : ll k ≤ lv (sd b)) (p10_ : tst (sd b) = (ed b)) (p11_ : st (sd b) = 1) (p12_ : fw b = 0) (p13_ : (tst (sd (op b)) = (ed b) ∧ ll k = lv (sd (op b)) ∧ td k = nm (sd (op b)) ∧ st (sd (op b)) = 1 ∧ lv (sd (op b)) = lv (sd b)) ∨ (tst (sd (op b)) ≠ (ed b) ∧ en (op b) ≠ 0)) (p14_ : 0 ≤ nL) (cAF : pj_AF W sd op ed tst af nL kd wy wh) : pj_AF W sd op ed (pu tst (sd b) (-1)) af nL kd wy (pu wh k 2) := by
  obtain ⟨hop, hed⟩ := hG
  unfold pj_AF at *
  intro v0
  simp only [pu]
  have g0 := hop b
  have g1 := hop v0
  have g2 := hed b v0
  have cAF_0 := cAF b
  have cAF_1 := cAF v0
  have cAF_2 := cAF (op v0)
  have f0 := p6_ k
  clear p6_
  clear hop hed cAF
  grind (splits := 24)

set_option maxHeartbeats 1000000 in
theorem pt_txb_RT {W : Int → Prop} {sd : Int → Int} {op : Int → Int} {ed : Int → Int} {st : Int → Int} {lv : Int → Int} {nm : Int → Int} {tst : Int → Int} {en : Int → Int} {fw : Int → Int} {nL : Int} {kd : Int → Int} {wy : Int → Int} {ll : Int → Int} {td : Int → Int} {wh : Int → Int} {b k : Int} (hG : pj_G W sd op ed) (p0_ : W b) (p1_ : 0 ≤ k) (p2_ : k < nL) (p3_ : wh k ≠ 2) (p4_ : kd k = 2) (p5_ : wy k = op b) (p6_ : ∀ j, 0 ≤ j → j < k → wy j = wy k → wh j ≠ 0) (p7_ : en b ≠ 0) (p8_ : td k = nm (sd b)) (p9_ : ll k ≤ lv (sd b)) (p10_ : tst (sd b) = (ed b)) (p11_ : st (sd b) = 1) (p12_ : fw b = 0) (p13_ : (tst (sd (op b)) = (ed b) ∧ ll k = lv (sd (op b)) ∧ td k = nm (sd (op b)) ∧ st (sd (op b)) = 1 ∧ lv (sd (op b)) = lv (sd b)) ∨ (tst (sd (op b)) ≠ (ed b) ∧ en (op b) ≠ 0)) (p14_ : 0 ≤ nL) (cRT : pj_RT sd ed tst nL kd wy wh) (cR : pj_R W nL kd wy wh) (cCV : pj_CV W sd op ed tst nL kd wy wh) (cL2 : pj_L2 sd op ed st lv nm tst en fw nL kd wy ll td wh) (cL4 : pj_L4 sd op ed st tst en nL kd wy wh) : pj_RT sd ed (pu tst (sd b) (-1)) nL kd wy (pu wh k 2) := by
  obtain ⟨hop, hed⟩ := hG
  unfold pj_RT pj_R pj_CV pj_L2 pj_L4 at *
  intro j0 k0
  simp only [pu]
  have g0 := hop b
  have g1 := hop (wy j0)
  have g2 := hop (wy k0)
  have g3 := hed b (wy j0)
  have g4 := hed b (wy k0)
  have g5 := hed (wy j0) (wy k0)
  have cRT_0 := cRT k k
  have cRT_1 := cRT k j0
  have cRT_2 := cRT k k0
  have cRT_3 := cRT j0 k
  have cRT_4 := cRT j0 j0
  have cRT_5 := cRT j0 k0
  have cRT_6 := cRT k0 k
  have cRT_7 := cRT k0 j0
  have cRT_8 := cRT k0 k0
  have cR_0 := cR j0
  have cR_1 := cR k0
  have cCV_0 := cCV b j0 k
  have cCV_1 := cCV (op b) j0 k
  have cCV_2 := cCV b k0 k
  have cCV_3 := cCV (op b) k0 k
  have cL2_0 := cL2 k
  have cL2_1 := cL2 j0
  have cL2_2 := cL2 k0
  have cL4_0 := cL4 k
  have cL4_1 := cL4 j0
  have cL4_2 := cL4 k0
  have f0 := p6_ k
  have f1 := p6_ j0
  have f2 := p6_ k0
  clear p6_
  clear hop hed cRT cR cCV cL2 cL4
  grind (splits := 24)

set_option maxHeartbeats 1000000 in
theorem pt_txb_CV {W : Int → Prop} {sd : Int → Int} {op : Int → Int} {ed : Int → Int} {st : Int → Int} {lv : Int → Int} {nm : Int → Int} {tst : Int → Int} {en : Int → Int} {fw : Int → Int} {nL : Int} {kd : Int → Int} {wy : Int → Int} {ll : Int → Int} {td : Int → Int} {wh : Int → Int} {b k : Int} (hG : pj_G W sd op ed) (p0_ : W b) (p1_ : 0 ≤ k) (p2_ : k < nL) (p3_ : wh k ≠ 2) (p4_ : kd k = 2) (p5_ : wy k = op b) (p6_ : ∀ j, 0 ≤ j → j < k → wy j = wy k → wh j ≠ 0) (p7_ : en b ≠ 0) (p8_ : td k = nm (sd b)) (p9_ : ll k ≤ lv (sd b)) (p10_ : tst (sd b) = (ed b)) (p11_ : st (sd b) = 1) (p12_ : fw b = 0) (p13_ : (tst (sd (op b)) = (ed b) ∧ ll k = lv (sd (op b)) ∧ td k = nm (sd (op b)) ∧ st (sd (op b)) = 1 ∧ lv (sd (op b)) = lv (sd b)) ∨ (tst (sd (op b)) ≠ (ed b) ∧ en (op b) ≠ 0)) (p14_ : 0 ≤ nL) (cR : pj_R W nL kd wy wh) (cCV : pj_CV W sd op ed tst nL kd wy wh) (cL3 : pj_L3 sd op ed st lv nm tst en fw nL kd wy wh) (cL4 : pj_L4 sd op ed st tst en nL kd wy wh) : pj_CV W sd op ed (pu tst (sd b) (-1)) nL kd wy (pu wh k 2) := by
  obtain ⟨hop, hed⟩ := hG
  unfold pj_R pj_CV pj_L3 pj_L4 at *
  intro v0 j0 k0
  simp only [pu]
  have g0 := hop b
  have g1 := hop v0
  have g2 := hop (wy j0)
  have g3 := hop (wy k0)
  have g4 := hed b v0
  have g5 := hed b (wy j0)
  have g6 := hed b (wy k0)
  have g7 := hed v0 (wy j0)
  have g8 := hed v0 (wy k0)
  have g9 := hed (wy j0) (wy k0)
  have cR_0 := cR j0
  have cR_1 := cR k0
  have cCV_0 := cCV v0 j0 k0
  have cCV_1 := cCV b j0 k0
  have cCV_2 := cCV (op b) j0 k0
  have cCV_3 := cCV b j0 k
  have cCV_4 := cCV b k0 k
  have cCV_5 := cCV (op b) j0 k
  have cCV_6 := cCV (op b) k0 k
  have cL3_0 := cL3 j0
  have cL3_1 := cL3 k0
  have cL4_0 := cL4 j0
  have cL4_1 := cL4 k0
  have f0 := p6_ k
  have f1 := p6_ j0
  have f2 := p6_ k0
  clear p6_
  clear hop hed cR cCV cL3 cL4
  grind (splits := 24)

set_option maxHeartbeats 1000000 in
theorem pt_txb_L5 {W : Int → Prop} {sd : Int → Int} {op : Int → Int} {ed : Int → Int} {st : Int → Int} {lv : Int → Int} {nm : Int → Int} {inw : Int → Int} {bst : Int → Int} {tst : Int → Int} {om : Int → Int} {ps : Int → Int} {dl : Int → Int} {en : Int → Int} {pd : Int → Int} {rp : Int → Int} {rv : Int → Int} {fw : Int → Int} {cl : Int → Int} {tk : Int → Int} {nL : Int} {kd : Int → Int} {wy : Int → Int} {ll : Int → Int} {td : Int → Int} {wh : Int → Int} {b k : Int} (hG : pj_G W sd op ed) (p0_ : W b) (p1_ : 0 ≤ k) (p2_ : k < nL) (p3_ : wh k ≠ 2) (p4_ : kd k = 2) (p5_ : wy k = op b) (p6_ : ∀ j, 0 ≤ j → j < k → wy j = wy k → wh j ≠ 0) (p7_ : en b ≠ 0) (p8_ : td k = nm (sd b)) (p9_ : ll k ≤ lv (sd b)) (p10_ : tst (sd b) = (ed b)) (p11_ : st (sd b) = 1) (p12_ : fw b = 0) (p13_ : (tst (sd (op b)) = (ed b) ∧ ll k = lv (sd (op b)) ∧ td k = nm (sd (op b)) ∧ st (sd (op b)) = 1 ∧ lv (sd (op b)) = lv (sd b)) ∨ (tst (sd (op b)) ≠ (ed b) ∧ en (op b) ≠ 0)) (p14_ : 0 ≤ nL) (cL5 : pj_L5 sd op ed st lv nm inw bst om ps dl pd rp rv cl tk nL kd wy td wh) (cR : pj_R W nL kd wy wh) : pj_L5 sd op ed st lv nm inw bst om ps dl pd rp rv cl tk nL kd wy td (pu wh k 2) := by
  obtain ⟨hop, hed⟩ := hG
  unfold pj_L5 pj_R at *
  intro k0
  simp only [pu]
  have g0 := hop b
  have g1 := hop (wy k0)
  have g2 := hed b (wy k0)
  have cL5_0 := cL5 k
  have cL5_1 := cL5 k0
  have cR_0 := cR k0
  have f0 := p6_ k
  have f1 := p6_ k0
  clear p6_
  clear hop hed cL5 cR
  grind (splits := 24)

set_option maxHeartbeats 1000000 in
theorem pt_txb_L5o {W : Int → Prop} {sd : Int → Int} {op : Int → Int} {ed : Int → Int} {st : Int → Int} {lv : Int → Int} {nm : Int → Int} {tst : Int → Int} {en : Int → Int} {fw : Int → Int} {cl : Int → Int} {nL : Int} {kd : Int → Int} {wy : Int → Int} {ll : Int → Int} {td : Int → Int} {wh : Int → Int} {b k : Int} (hG : pj_G W sd op ed) (p0_ : W b) (p1_ : 0 ≤ k) (p2_ : k < nL) (p3_ : wh k ≠ 2) (p4_ : kd k = 2) (p5_ : wy k = op b) (p6_ : ∀ j, 0 ≤ j → j < k → wy j = wy k → wh j ≠ 0) (p7_ : en b ≠ 0) (p8_ : td k = nm (sd b)) (p9_ : ll k ≤ lv (sd b)) (p10_ : tst (sd b) = (ed b)) (p11_ : st (sd b) = 1) (p12_ : fw b = 0) (p13_ : (tst (sd (op b)) = (ed b) ∧ ll k = lv (sd (op b)) ∧ td k = nm (sd (op b)) ∧ st (sd (op b)) = 1 ∧ lv (sd (op b)) = lv (sd b)) ∨ (tst (sd (op b)) ≠ (ed b) ∧ en (op b) ≠ 0)) (p14_ : 0 ≤ nL) (cL5o : pj_L5o sd op ed lv cl nL kd wy wh) (cR : pj_R W nL kd wy wh) : pj_L5o sd op ed lv cl nL kd wy (pu wh k 2) := by
  obtain ⟨hop, hed⟩ := hG
  unfold pj_L5o pj_R at *
  intro j0 k0
  simp only [pu]
  have g0 := hop b
  have g1 := hop (wy j0)
  have g2 := hop (wy k0)
  have g3 := hed b (wy j0)
  have g4 := hed b (wy k0)
  have g5 := hed (wy j0) (wy k0)
  have cL5o_0 := cL5o k k
  have cL5o_1 := cL5o k j0
  have cL5o_2 := cL5o k k0
  have cL5o_3 := cL5o j0 k
  have cL5o_4 := cL5o j0 j0
  have cL5o_5 := cL5o j0 k0
  have cL5o_6 := cL5o k0 k
  have cL5o_7 := cL5o k0 j0
  have cL5o_8 := cL5o k0 k0
  have cR_0 := cR j0
  have cR_1 := cR k0
  have f0 := p6_ k
  have f1 := p6_ j0
  have f2 := p6_ k0
  clear p6_
  clear hop hed cL5o cR
  grind (splits := 24)

set_option maxHeartbeats 1000000 in
theorem pt_txb_L5u {W : Int → Prop} {sd : Int → Int} {op : Int → Int} {ed : Int → Int} {st : Int → Int} {lv : Int → Int} {nm : Int → Int} {tst : Int → Int} {en : Int → Int} {fw : Int → Int} {nL : Int} {kd : Int → Int} {wy : Int → Int} {ll : Int → Int} {td : Int → Int} {wh : Int → Int} {b k : Int} (hG : pj_G W sd op ed) (p0_ : W b) (p1_ : 0 ≤ k) (p2_ : k < nL) (p3_ : wh k ≠ 2) (p4_ : kd k = 2) (p5_ : wy k = op b) (p6_ : ∀ j, 0 ≤ j → j < k → wy j = wy k → wh j ≠ 0) (p7_ : en b ≠ 0) (p8_ : td k = nm (sd b)) (p9_ : ll k ≤ lv (sd b)) (p10_ : tst (sd b) = (ed b)) (p11_ : st (sd b) = 1) (p12_ : fw b = 0) (p13_ : (tst (sd (op b)) = (ed b) ∧ ll k = lv (sd (op b)) ∧ td k = nm (sd (op b)) ∧ st (sd (op b)) = 1 ∧ lv (sd (op b)) = lv (sd b)) ∨ (tst (sd (op b)) ≠ (ed b) ∧ en (op b) ≠ 0)) (p14_ : 0 ≤ nL) (cL5u : pj_L5u nL kd wy wh) (cR : pj_R W nL kd wy wh) : pj_L5u nL kd wy (pu wh k 2) := by
  obtain ⟨hop, hed⟩ := hG
  unfold pj_L5u pj_R at *
  intro j0 k0
  simp only [pu]
  have g0 := hop b
  have g1 := hop (wy j0)
  have g2 := hop (wy k0)
  have g3 := hed b (wy j0)
  have g4 := hed b (wy k0)
  have g5 := hed (wy j0) (wy k0)
  have cL5u_0 := cL5u k k
  have cL5u_1 := cL5u k j0
  have cL5u_2 := cL5u k k0
  have cL5u_3 := cL5u j0 k
  have cL5u_4 := cL5u j0 j0
  have cL5u_5 := cL5u j0 k0
  have cL5u_6 := cL5u k0 k
  have cL5u_7 := cL5u k0 j0
  have cL5u_8 := cL5u k0 k0
  have cR_0 := cR j0
  have cR_1 := cR k0
  have f0 := p6_ k
  have f1 := p6_ j0
  have f2 := p6_ k0
  clear p6_
  clear hop hed cL5u cR
  grind (splits := 24)

set_option maxHeartbeats 1000000 in
theorem pt_txb_L6 {W : Int → Prop} {sd : Int → Int} {op : Int → Int} {ed : Int → Int} {st : Int → Int} {lv : Int → Int} {nm : Int → Int} {tow : Int → Int} {tst : Int → Int} {om : Int → Int} {ps : Int → Int} {dl : Int → Int} {en : Int → Int} {fw : Int → Int} {cw : Int → Int} {tk : Int → Int} {nL : Int} {kd : Int → Int} {wy : Int → Int} {ll : Int → Int} {td : Int → Int} {wh : Int → Int} {b k : Int} (hG : pj_G W sd op ed) (p0_ : W b) (p1_ : 0 ≤ k) (p2_ : k < nL) (p3_ : wh k ≠ 2) (p4_ : kd k = 2) (p5_ : wy k = op b) (p6_ : ∀ j, 0 ≤ j → j < k → wy j = wy k → wh j ≠ 0) (p7_ : en b ≠ 0) (p8_ : td k = nm (sd b)) (p9_ : ll k ≤ lv (sd b)) (p10_ : tst (sd b) = (ed b)) (p11_ : st (sd b) = 1) (p12_ : fw b = 0) (p13_ : (tst (sd (op b)) = (ed b) ∧ ll k = lv (sd (op b)) ∧ td k = nm (sd (op b)) ∧ st (sd (op b)) = 1 ∧ lv (sd (op b)) = lv (sd b)) ∨ (tst (sd (op b)) ≠ (ed b) ∧ en (op b) ≠ 0)) (p14_ : 0 ≤ nL) (cL6 : pj_L6 sd op ed st lv nm tow om ps dl cw tk nL kd wy wh) (cR : pj_R W nL kd wy wh) : pj_L6 sd op ed st lv nm tow om ps dl cw tk nL kd wy (pu wh k 2) := by
  obtain ⟨hop, hed⟩ := hG
  unfold pj_L6 pj_R at *
  intro k0
  simp only [pu]
  have g0 := hop b
  have g1 := hop (wy k0)
  have g2 := hed b (wy k0)
  have cL6_0 := cL6 k
  have cL6_1 := cL6 k0
  have cR_0 := cR k0
  have f0 := p6_ k
  have f1 := p6_ k0
  clear p6_
  clear hop hed cL6 cR
  grind (splits := 24)

set_option maxHeartbeats 1000000 in
theorem pt_txb_L6u {W : Int → Prop} {sd : Int → Int} {op : Int → Int} {ed : Int → Int} {st : Int → Int} {lv : Int → Int} {nm : Int → Int} {tst : Int → Int} {en : Int → Int} {fw : Int → Int} {nL : Int} {kd : Int → Int} {wy : Int → Int} {ll : Int → Int} {td : Int → Int} {wh : Int → Int} {b k : Int} (hG : pj_G W sd op ed) (p0_ : W b) (p1_ : 0 ≤ k) (p2_ : k < nL) (p3_ : wh k ≠ 2) (p4_ : kd k = 2) (p5_ : wy k = op b) (p6_ : ∀ j, 0 ≤ j → j < k → wy j = wy k → wh j ≠ 0) (p7_ : en b ≠ 0) (p8_ : td k = nm (sd b)) (p9_ : ll k ≤ lv (sd b)) (p10_ : tst (sd b) = (ed b)) (p11_ : st (sd b) = 1) (p12_ : fw b = 0) (p13_ : (tst (sd (op b)) = (ed b) ∧ ll k = lv (sd (op b)) ∧ td k = nm (sd (op b)) ∧ st (sd (op b)) = 1 ∧ lv (sd (op b)) = lv (sd b)) ∨ (tst (sd (op b)) ≠ (ed b) ∧ en (op b) ≠ 0)) (p14_ : 0 ≤ nL) (cL6u : pj_L6u sd op nm nL kd wy wh) (cR : pj_R W nL kd wy wh) : pj_L6u sd op nm nL kd wy (pu wh k 2) := by
  obtain ⟨hop, hed⟩ := hG
  unfold pj_L6u pj_R at *
  intro j0 k0
  simp only [pu]
  have g0 := hop b
  have g1 := hop (wy j0)
  have g2 := hop (wy k0)
  have g3 := hed b (wy j0)
  have g4 := hed b (wy k0)
  have g5 := hed (wy j0) (wy k0)
  have cL6u_0 := cL6u k k
  have cL6u_1 := cL6u k j0
  have cL6u_2 := cL6u k k0
  have cL6u_3 := cL6u j0 k
  have cL6u_4 := cL6u j0 j0
  have cL6u_5 := cL6u j0 k0
  have cL6u_6 := cL6u k0 k
  have cL6u_7 := cL6u k0 j0
  have cL6u_8 := cL6u k0 k0
  have cR_0 := cR j0
  have cR_1 := cR k0
  have f0 := p6_ k
  have f1 := p6_ j0
  have f2 := p6_ k0
  clear p6_
  clear hop hed cL6u cR
  grind (splits := 24)

theorem pj_txb {W : Int → Prop} {sd op ed : Int → Int} {li : Int → Int → Prop} {st lv nm inw tow bst tst exp om ps dl dn af c0 en pd rp rv fw cl cw tk kd wy ll td ls wh : Int → Int} {nL : Int} {F F2 : Int → Prop} {fl fc : Int} {b k : Int} (hG : pj_G W sd op ed) (p0_ : W b) (p1_ : 0 ≤ k) (p2_ : k < nL) (p3_ : wh k ≠ 2) (p4_ : kd k = 2) (p5_ : wy k = op b) (p6_ : ∀ j, 0 ≤ j → j < k → wy j = wy k → wh j ≠ 0) (p7_ : en b ≠ 0) (p8_ : td k = nm (sd b)) (p9_ : ll k ≤ lv (sd b)) (p10_ : tst (sd b) = (ed b)) (p11_ : st (sd b) = 1) (p12_ : fw b = 0) (p13_ : (tst (sd (op b)) = (ed b) ∧ ll k = lv (sd (op b)) ∧ td k = nm (sd (op b)) ∧ st (sd (op b)) = 1 ∧ lv (sd (op b)) = lv (sd b)) ∨ (tst (sd (op b)) ≠ (ed b) ∧ en (op b) ≠ 0)) (p14_ : 0 ≤ nL) (h : pj_J W sd op ed li st lv nm inw tow bst tst exp om ps dl dn af c0 en pd rp rv fw cl cw tk nL kd wy ll td ls wh F fl fc) : pj_J W sd op ed li st lv nm inw tow bst (pu tst (sd b) (-1)) exp om ps dl dn af c0 en pd rp rv (pu fw b 1) cl cw tk nL kd wy ll td ls (pu wh k 2) F fl fc := by
  obtain ⟨cR, cN0, cN1, cN1w, cER, cN1c, cN2, cN2e, cN2b, cN4e, cN4b, cN5, cN7, cN10, cN10e, cN13, cC1, cC2, cR3a, cE1, cU, cA1, cA2, cEC, cR3, cN11, cN12, cN3, cRJ, cFW, cPD, cCC, cCD, cRP, cRP1, cCR, cZ1, cZ0, cTK, cK2, cWH, cFI, cL0, cFC, cL0u, cOC, cCT, cL1, cL1e, cL1o, cL1b, cL1g, cL2, cL3, cL4, cAF, cRT, cCV, cL5, cL5o, cL5u, cL6, cL6u⟩ := h
  exact ⟨pt_txb_R hG p0_ p1_ p2_ p3_ p4_ p5_ p6_ p7_ p8_ p9_ p10_ p11_ p12_ p13_ p14_ cR, cN0, cN1, cN1w, cER, pt_txb_N1c hG p0_ p1_ p2_ p3_ p4_ p5_ p6_ p7_ p8_ p9_ p10_ p11_ p12_ p13_ p14_ cN1c cR, cN2, cN2e, cN2b, cN4e, cN4b, cN5, pt_txb_N7 hG p0_ p1_ p2_ p3_ p4_ p5_ p6_ p7_ p8_ p9_ p10_ p11_ p12_ p13_ p14_ cN7, cN10, cN10e, cN13, cC1, cC2, cR3a, pt_txb_E1 hG p0_ p1_ p2_ p3_ p4_ p5_ p6_ p7_ p8_ p9_ p10_ p11_ p12_ p13_ p14_ cE1, cU, cA1, cA2, pt_txb_EC hG p0_ p1_ p2_ p3_ p4_ p5_ p6_ p7_ p8_ p9_ p10_ p11_ p12_ p13_ p14_ cEC, cR3, pt_txb_N11 hG p0_ p1_ p2_ p3_ p4_ p5_ p6_ p7_ p8_ p9_ p10_ p11_ p12_ p13_ p14_ cN11, cN12, cN3, pt_txb_RJ hG p0_ p1_ p2_ p3_ p4_ p5_ p6_ p7_ p8_ p9_ p10_ p11_ p12_ p13_ p14_ cRJ, pt_txb_FW hG p0_ p1_ p2_ p3_ p4_ p5_ p6_ p7_ p8_ p9_ p10_ p11_ p12_ p13_ p14_ cFW, cPD, cCC, cCD, cRP, cRP1, cCR, cZ1, cZ0, cTK, cK2, pt_txb_WH hG p0_ p1_ p2_ p3_ p4_ p5_ p6_ p7_ p8_ p9_ p10_ p11_ p12_ p13_ p14_ cWH cR, pt_txb_FI hG p0_ p1_ p2_ p3_ p4_ p5_ p6_ p7_ p8_ p9_ p10_ p11_ p12_ p13_ p14_ cFI cR, pt_txb_L0 hG p0_ p1_ p2_ p3_ p4_ p5_ p6_ p7_ p8_ p9_ p10_ p11_ p12_ p13_ p14_ cL0 cR, pt_txb_FC hG p0_ p1_ p2_ p3_ p4_ p5_ p6_ p7_ p8_ p9_ p10_ p11_ p12_ p13_ p14_ cFC cR, pt_txb_L0u hG p0_ p1_ p2_ p3_ p4_ p5_ p6_ p7_ p8_ p9_ p10_ p11_ p12_ p13_ p14_ cL0u cR, pt_txb_OC hG p0_ p1_ p2_ p3_ p4_ p5_ p6_ p7_ p8_ p9_ p10_ p11_ p12_ p13_ p14_ cOC cR, pt_txb_CT hG p0_ p1_ p2_ p3_ p4_ p5_ p6_ p7_ p8_ p9_ p10_ p11_ p12_ p13_ p14_ cCT cR, pt_txb_L1 hG p0_ p1_ p2_ p3_ p4_ p5_ p6_ p7_ p8_ p9_ p10_ p11_ p12_ p13_ p14_ cL1 cR, pt_txb_L1e hG p0_ p1_ p2_ p3_ p4_ p5_ p6_ p7_ p8_ p9_ p10_ p11_ p12_ p13_ p14_ cL1e cR, pt_txb_L1o hG p0_ p1_ p2_ p3_ p4_ p5_ p6_ p7_ p8_ p9_ p10_ p11_ p12_ p13_ p14_ cL1o cR, pt_txb_L1b hG p0_ p1_ p2_ p3_ p4_ p5_ p6_ p7_ p8_ p9_ p10_ p11_ p12_ p13_ p14_ cL1b cR, pt_txb_L1g hG p0_ p1_ p2_ p3_ p4_ p5_ p6_ p7_ p8_ p9_ p10_ p11_ p12_ p13_ p14_ cL1g cR, pt_txb_L2 hG p0_ p1_ p2_ p3_ p4_ p5_ p6_ p7_ p8_ p9_ p10_ p11_ p12_ p13_ p14_ cR cCV cL3 cL4 cL2 cRT, pt_txb_L3 hG p0_ p1_ p2_ p3_ p4_ p5_ p6_ p7_ p8_ p9_ p10_ p11_ p12_ p13_ p14_ cR cCV cL3 cL4 cL2 cRT, pt_txb_L4 hG p0_ p1_ p2_ p3_ p4_ p5_ p6_ p7_ p8_ p9_ p10_ p11_ p12_ p13_ p14_ cR cCV cL3 cL4 cL2 cRT, pt_txb_AF hG p0_ p1_ p2_ p3_ p4_ p5_ p6_ p7_ p8_ p9_ p10_ p11_ p12_ p13_ p14_ cAF, pt_txb_RT hG p0_ p1_ p2_ p3_ p4_ p5_ p6_ p7_ p8_ p9_ p10_ p11_ p12_ p13_ p14_ cRT cR cCV cL2 cL4, pt_txb_CV hG p0_ p1_ p2_ p3_ p4_ p5_ p6_ p7_ p8_ p9_ p10_ p11_ p12_ p13_ p14_ cR cCV cL3 cL4, pt_txb_L5 hG p0_ p1_ p2_ p3_ p4_ p5_ p6_ p7_ p8_ p9_ p10_ p11_ p12_ p13_ p14_ cL5 cR, pt_txb_L5o hG p0_ p1_ p2_ p3_ p4_ p5_ p6_ p7_ p8_ p9_ p10_ p11_ p12_ p13_ p14_ cL5o cR, pt_txb_L5u hG p0_ p1_ p2_ p3_ p4_ p5_ p6_ p7_ p8_ p9_ p10_ p11_ p12_ p13_ p14_ cL5u cR, pt_txb_L6 hG p0_ p1_ p2_ p3_ p4_ p5_ p6_ p7_ p8_ p9_ p10_ p11_ p12_ p13_ p14_ cL6 cR, pt_txb_L6u hG p0_ p1_ p2_ p3_ p4_ p5_ p6_ p7_ p8_ p9_ p10_ p11_ p12_ p13_ p14_ cL6u cR⟩

