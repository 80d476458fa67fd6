/-! pk: each step keeps the invariant, from its raw conditions (printed by wip/gen/gen54.py) -/
theorem pg_R {W : Int → Prop} {sd : Int → Int} {op : Int → Int} {ed : Int → Int} {li : Int → Int → Prop} {st : Int → Int} {lv : Int → Int} {nm : Int → Int} {inw : Int → Int} {tow : Int → Int} {bst : Int → Int} {tst : Int → Int} {exp : Int → Int} {om : Int → Int} {ps : Int → Int} {dl : Int → Int} {dn : Int → Int} {af : Int → Int} {c0 : Int → Int} {en : Int → Int} {pd : Int → Int} {rp : Int → Int} {rv : Int → Int} {fw : Int → Int} {cl : Int → Int} {cw : Int → Int} {tk : Int → Int} {nL : Int} {kd : Int → Int} {wy : Int → Int} {ll : Int → Int} {td : Int → Int} {ls : Int → Int} {wh : Int → Int} {F : Int → Prop} {fl : Int} {fc : Int} (h : pj_J W sd op ed li st lv nm inw tow bst tst exp om ps dl dn af c0 en pd rp rv fw cl cw tk nL kd wy ll td ls wh F fl fc) : pj_R W nL kd wy wh := by
  obtain ⟨cR, cN0, cN1, cN1w, cER, cN1c, cN2, cN2e, cN2b, cN4e, cN4b, cN5, cN7, cN10, cN10e, cN13, cC1, cC2, cR3a, cE1, cU, cA1, cA2, cEC, cR3, cN11, cN12, cN3, cRJ, cFW, cPD, cCC, cCD, cRP, cRP1, cCR, cZ1, cZ0, cTK, cK2, cWH, cFI, cL0, cFC, cL0u, cOC, cCT, cL1, cL1e, cL1o, cL1b, cL1g, cL2, cL3, cL4, cAF, cRT, cCV, cL5, cL5o, cL5u, cL6, cL6u⟩ := h
  exact cR
theorem pg_N0 {W : Int → Prop} {sd : Int → Int} {op : Int → Int} {ed : Int → Int} {li : Int → Int → Prop} {st : Int → Int} {lv : Int → Int} {nm : Int → Int} {inw : Int → Int} {tow : Int → Int} {bst : Int → Int} {tst : Int → Int} {exp : Int → Int} {om : Int → Int} {ps : Int → Int} {dl : Int → Int} {dn : Int → Int} {af : Int → Int} {c0 : Int → Int} {en : Int → Int} {pd : Int → Int} {rp : Int → Int} {rv : Int → Int} {fw : Int → Int} {cl : Int → Int} {cw : Int → Int} {tk : Int → Int} {nL : Int} {kd : Int → Int} {wy : Int → Int} {ll : Int → Int} {td : Int → Int} {ls : Int → Int} {wh : Int → Int} {F : Int → Prop} {fl : Int} {fc : Int} (h : pj_J W sd op ed li st lv nm inw tow bst tst exp om ps dl dn af c0 en pd rp rv fw cl cw tk nL kd wy ll td ls wh F fl fc) : pj_N0 st lv ps dl af := by
  obtain ⟨cR, cN0, cN1, cN1w, cER, cN1c, cN2, cN2e, cN2b, cN4e, cN4b, cN5, cN7, cN10, cN10e, cN13, cC1, cC2, cR3a, cE1, cU, cA1, cA2, cEC, cR3, cN11, cN12, cN3, cRJ, cFW, cPD, cCC, cCD, cRP, cRP1, cCR, cZ1, cZ0, cTK, cK2, cWH, cFI, cL0, cFC, cL0u, cOC, cCT, cL1, cL1e, cL1o, cL1b, cL1g, cL2, cL3, cL4, cAF, cRT, cCV, cL5, cL5o, cL5u, cL6, cL6u⟩ := h
  exact cN0
theorem pg_N1 {W : Int → Prop} {sd : Int → Int} {op : Int → Int} {ed : Int → Int} {li : Int → Int → Prop} {st : Int → Int} {lv : Int → Int} {nm : Int → Int} {inw : Int → Int} {tow : Int → Int} {bst : Int → Int} {tst : Int → Int} {exp : Int → Int} {om : Int → Int} {ps : Int → Int} {dl : Int → Int} {dn : Int → Int} {af : Int → Int} {c0 : Int → Int} {en : Int → Int} {pd : Int → Int} {rp : Int → Int} {rv : Int → Int} {fw : Int → Int} {cl : Int → Int} {cw : Int → Int} {tk : Int → Int} {nL : Int} {kd : Int → Int} {wy : Int → Int} {ll : Int → Int} {td : Int → Int} {ls : Int → Int} {wh : Int → Int} {F : Int → Prop} {fl : Int} {fc : Int} (h : pj_J W sd op ed li st lv nm inw tow bst tst exp om ps dl dn af c0 en pd rp rv fw cl cw tk nL kd wy ll td ls wh F fl fc) : pj_N1 st lv om ps dl := by
  obtain ⟨cR, cN0, cN1, cN1w, cER, cN1c, cN2, cN2e, cN2b, cN4e, cN4b, cN5, cN7, cN10, cN10e, cN13, cC1, cC2, cR3a, cE1, cU, cA1, cA2, cEC, cR3, cN11, cN12, cN3, cRJ, cFW, cPD, cCC, cCD, cRP, cRP1, cCR, cZ1, cZ0, cTK, cK2, cWH, cFI, cL0, cFC, cL0u, cOC, cCT, cL1, cL1e, cL1o, cL1b, cL1g, cL2, cL3, cL4, cAF, cRT, cCV, cL5, cL5o, cL5u, cL6, cL6u⟩ := h
  exact cN1
theorem pg_N1w {W : Int → Prop} {sd : Int → Int} {op : Int → Int} {ed : Int → Int} {li : Int → Int → Prop} {st : Int → Int} {lv : Int → Int} {nm : Int → Int} {inw : Int → Int} {tow : Int → Int} {bst : Int → Int} {tst : Int → Int} {exp : Int → Int} {om : Int → Int} {ps : Int → Int} {dl : Int → Int} {dn : Int → Int} {af : Int → Int} {c0 : Int → Int} {en : Int → Int} {pd : Int → Int} {rp : Int → Int} {rv : Int → Int} {fw : Int → Int} {cl : Int → Int} {cw : Int → Int} {tk : Int → Int} {nL : Int} {kd : Int → Int} {wy : Int → Int} {ll : Int → Int} {td : Int → Int} {ls : Int → Int} {wh : Int → Int} {F : Int → Prop} {fl : Int} {fc : Int} (h : pj_J W sd op ed li st lv nm inw tow bst tst exp om ps dl dn af c0 en pd rp rv fw cl cw tk nL kd wy ll td ls wh F fl fc) : pj_N1w W sd st en := by
  obtain ⟨cR, cN0, cN1, cN1w, cER, cN1c, cN2, cN2e, cN2b, cN4e, cN4b, cN5, cN7, cN10, cN10e, cN13, cC1, cC2, cR3a, cE1, cU, cA1, cA2, cEC, cR3, cN11, cN12, cN3, cRJ, cFW, cPD, cCC, cCD, cRP, cRP1, cCR, cZ1, cZ0, cTK, cK2, cWH, cFI, cL0, cFC, cL0u, cOC, cCT, cL1, cL1e, cL1o, cL1b, cL1g, cL2, cL3, cL4, cAF, cRT, cCV, cL5, cL5o, cL5u, cL6, cL6u⟩ := h
  exact cN1w
theorem pg_ER {W : Int → Prop} {sd : Int → Int} {op : Int → Int} {ed : Int → Int} {li : Int → Int → Prop} {st : Int → Int} {lv : Int → Int} {nm : Int → Int} {inw : Int → Int} {tow : Int → Int} {bst : Int → Int} {tst : Int → Int} {exp : Int → Int} {om : Int → Int} {ps : Int → Int} {dl : Int → Int} {dn : Int → Int} {af : Int → Int} {c0 : Int → Int} {en : Int → Int} {pd : Int → Int} {rp : Int → Int} {rv : Int → Int} {fw : Int → Int} {cl : Int → Int} {cw : Int → Int} {tk : Int → Int} {nL : Int} {kd : Int → Int} {wy : Int → Int} {ll : Int → Int} {td : Int → Int} {ls : Int → Int} {wh : Int → Int} {F : Int → Prop} {fl : Int} {fc : Int} (h : pj_J W sd op ed li st lv nm inw tow bst tst exp om ps dl dn af c0 en pd rp rv fw cl cw tk nL kd wy ll td ls wh F fl fc) : pj_ER W en := by
  obtain ⟨cR, cN0, cN1, cN1w, cER, cN1c, cN2, cN2e, cN2b, cN4e, cN4b, cN5, cN7, cN10, cN10e, cN13, cC1, cC2, cR3a, cE1, cU, cA1, cA2, cEC, cR3, cN11, cN12, cN3, cRJ, cFW, cPD, cCC, cCD, cRP, cRP1, cCR, cZ1, cZ0, cTK, cK2, cWH, cFI, cL0, cFC, cL0u, cOC, cCT, cL1, cL1e, cL1o, cL1b, cL1g, cL2, cL3, cL4, cAF, cRT, cCV, cL5, cL5o, cL5u, cL6, cL6u⟩ := h
  exact cER
theorem pg_N1c {W : Int → Prop} {sd : Int → Int} {op : Int → Int} {ed : Int → Int} {li : Int → Int → Prop} {st : Int → Int} {lv : Int → Int} {nm : Int → Int} {inw : Int → Int} {tow : Int → Int} {bst : Int → Int} {tst : Int → Int} {exp : Int → Int} {om : Int → Int} {ps : Int → Int} {dl : Int → Int} {dn : Int → Int} {af : Int → Int} {c0 : Int → Int} {en : Int → Int} {pd : Int → Int} {rp : Int → Int} {rv : Int → Int} {fw : Int → Int} {cl : Int → Int} {cw : Int → Int} {tk : Int → Int} {nL : Int} {kd : Int → Int} {wy : Int → Int} {ll : Int → Int} {td : Int → Int} {ls : Int → Int} {wh : Int → Int} {F : Int → Prop} {fl : Int} {fc : Int} (h : pj_J W sd op ed li st lv nm inw tow bst tst exp om ps dl dn af c0 en pd rp rv fw cl cw tk nL kd wy ll td ls wh F fl fc) : pj_N1c sd op st nL wy wh := by
  obtain ⟨cR, cN0, cN1, cN1w, cER, cN1c, cN2, cN2e, cN2b, cN4e, cN4b, cN5, cN7, cN10, cN10e, cN13, cC1, cC2, cR3a, cE1, cU, cA1, cA2, cEC, cR3, cN11, cN12, cN3, cRJ, cFW, cPD, cCC, cCD, cRP, cRP1, cCR, cZ1, cZ0, cTK, cK2, cWH, cFI, cL0, cFC, cL0u, cOC, cCT, cL1, cL1e, cL1o, cL1b, cL1g, cL2, cL3, cL4, cAF, cRT, cCV, cL5, cL5o, cL5u, cL6, cL6u⟩ := h
  exact cN1c
theorem pg_N2 {W : Int → Prop} {sd : Int → Int} {op : Int → Int} {ed : Int → Int} {li : Int → Int → Prop} {st : Int → Int} {lv : Int → Int} {nm : Int → Int} {inw : Int → Int} {tow : Int → Int} {bst : Int → Int} {tst : Int → Int} {exp : Int → Int} {om : Int → Int} {ps : Int → Int} {dl : Int → Int} {dn : Int → Int} {af : Int → Int} {c0 : Int → Int} {en : Int → Int} {pd : Int → Int} {rp : Int → Int} {rv : Int → Int} {fw : Int → Int} {cl : Int → Int} {cw : Int → Int} {tk : Int → Int} {nL : Int} {kd : Int → Int} {wy : Int → Int} {ll : Int → Int} {td : Int → Int} {ls : Int → Int} {wh : Int → Int} {F : Int → Prop} {fl : Int} {fc : Int} (h : pj_J W sd op ed li st lv nm inw tow bst tst exp om ps dl dn af c0 en pd rp rv fw cl cw tk nL kd wy ll td ls wh F fl fc) : pj_N2 W sd ed om en := by
  obtain ⟨cR, cN0, cN1, cN1w, cER, cN1c, cN2, cN2e, cN2b, cN4e, cN4b, cN5, cN7, cN10, cN10e, cN13, cC1, cC2, cR3a, cE1, cU, cA1, cA2, cEC, cR3, cN11, cN12, cN3, cRJ, cFW, cPD, cCC, cCD, cRP, cRP1, cCR, cZ1, cZ0, cTK, cK2, cWH, cFI, cL0, cFC, cL0u, cOC, cCT, cL1, cL1e, cL1o, cL1b, cL1g, cL2, cL3, cL4, cAF, cRT, cCV, cL5, cL5o, cL5u, cL6, cL6u⟩ := h
  exact cN2
theorem pg_N2e {W : Int → Prop} {sd : Int → Int} {op : Int → Int} {ed : Int → Int} {li : Int → Int → Prop} {st : Int → Int} {lv : Int → Int} {nm : Int → Int} {inw : Int → Int} {tow : Int → Int} {bst : Int → Int} {tst : Int → Int} {exp : Int → Int} {om : Int → Int} {ps : Int → Int} {dl : Int → Int} {dn : Int → Int} {af : Int → Int} {c0 : Int → Int} {en : Int → Int} {pd : Int → Int} {rp : Int → Int} {rv : Int → Int} {fw : Int → Int} {cl : Int → Int} {cw : Int → Int} {tk : Int → Int} {nL : Int} {kd : Int → Int} {wy : Int → Int} {ll : Int → Int} {td : Int → Int} {ls : Int → Int} {wh : Int → Int} {F : Int → Prop} {fl : Int} {fc : Int} (h : pj_J W sd op ed li st lv nm inw tow bst tst exp om ps dl dn af c0 en pd rp rv fw cl cw tk nL kd wy ll td ls wh F fl fc) : pj_N2e W sd ed om := by
  obtain ⟨cR, cN0, cN1, cN1w, cER, cN1c, cN2, cN2e, cN2b, cN4e, cN4b, cN5, cN7, cN10, cN10e, cN13, cC1, cC2, cR3a, cE1, cU, cA1, cA2, cEC, cR3, cN11, cN12, cN3, cRJ, cFW, cPD, cCC, cCD, cRP, cRP1, cCR, cZ1, cZ0, cTK, cK2, cWH, cFI, cL0, cFC, cL0u, cOC, cCT, cL1, cL1e, cL1o, cL1b, cL1g, cL2, cL3, cL4, cAF, cRT, cCV, cL5, cL5o, cL5u, cL6, cL6u⟩ := h
  exact cN2e
theorem pg_N2b {W : Int → Prop} {sd : Int → Int} {op : Int → Int} {ed : Int → Int} {li : Int → Int → Prop} {st : Int → Int} {lv : Int → Int} {nm : Int → Int} {inw : Int → Int} {tow : Int → Int} {bst : Int → Int} {tst : Int → Int} {exp : Int → Int} {om : Int → Int} {ps : Int → Int} {dl : Int → Int} {dn : Int → Int} {af : Int → Int} {c0 : Int → Int} {en : Int → Int} {pd : Int → Int} {rp : Int → Int} {rv : Int → Int} {fw : Int → Int} {cl : Int → Int} {cw : Int → Int} {tk : Int → Int} {nL : Int} {kd : Int → Int} {wy : Int → Int} {ll : Int → Int} {td : Int → Int} {ls : Int → Int} {wh : Int → Int} {F : Int → Prop} {fl : Int} {fc : Int} (h : pj_J W sd op ed li st lv nm inw tow bst tst exp om ps dl dn af c0 en pd rp rv fw cl cw tk nL kd wy ll td ls wh F fl fc) : pj_N2b W sd st om := by
  obtain ⟨cR, cN0, cN1, cN1w, cER, cN1c, cN2, cN2e, cN2b, cN4e, cN4b, cN5, cN7, cN10, cN10e, cN13, cC1, cC2, cR3a, cE1, cU, cA1, cA2, cEC, cR3, cN11, cN12, cN3, cRJ, cFW, cPD, cCC, cCD, cRP, cRP1, cCR, cZ1, cZ0, cTK, cK2, cWH, cFI, cL0, cFC, cL0u, cOC, cCT, cL1, cL1e, cL1o, cL1b, cL1g, cL2, cL3, cL4, cAF, cRT, cCV, cL5, cL5o, cL5u, cL6, cL6u⟩ := h
  exact cN2b
theorem pg_N4e {W : Int → Prop} {sd : Int → Int} {op : Int → Int} {ed : Int → Int} {li : Int → Int → Prop} {st : Int → Int} {lv : Int → Int} {nm : Int → Int} {inw : Int → Int} {tow : Int → Int} {bst : Int → Int} {tst : Int → Int} {exp : Int → Int} {om : Int → Int} {ps : Int → Int} {dl : Int → Int} {dn : Int → Int} {af : Int → Int} {c0 : Int → Int} {en : Int → Int} {pd : Int → Int} {rp : Int → Int} {rv : Int → Int} {fw : Int → Int} {cl : Int → Int} {cw : Int → Int} {tk : Int → Int} {nL : Int} {kd : Int → Int} {wy : Int → Int} {ll : Int → Int} {td : Int → Int} {ls : Int → Int} {wh : Int → Int} {F : Int → Prop} {fl : Int} {fc : Int} (h : pj_J W sd op ed li st lv nm inw tow bst tst exp om ps dl dn af c0 en pd rp rv fw cl cw tk nL kd wy ll td ls wh F fl fc) : pj_N4e W sd ed lv inw := by
  obtain ⟨cR, cN0, cN1, cN1w, cER, cN1c, cN2, cN2e, cN2b, cN4e, cN4b, cN5, cN7, cN10, cN10e, cN13, cC1, cC2, cR3a, cE1, cU, cA1, cA2, cEC, cR3, cN11, cN12, cN3, cRJ, cFW, cPD, cCC, cCD, cRP, cRP1, cCR, cZ1, cZ0, cTK, cK2, cWH, cFI, cL0, cFC, cL0u, cOC, cCT, cL1, cL1e, cL1o, cL1b, cL1g, cL2, cL3, cL4, cAF, cRT, cCV, cL5, cL5o, cL5u, cL6, cL6u⟩ := h
  exact cN4e
theorem pg_N4b {W : Int → Prop} {sd : Int → Int} {op : Int → Int} {ed : Int → Int} {li : Int → Int → Prop} {st : Int → Int} {lv : Int → Int} {nm : Int → Int} {inw : Int → Int} {tow : Int → Int} {bst : Int → Int} {tst : Int → Int} {exp : Int → Int} {om : Int → Int} {ps : Int → Int} {dl : Int → Int} {dn : Int → Int} {af : Int → Int} {c0 : Int → Int} {en : Int → Int} {pd : Int → Int} {rp : Int → Int} {rv : Int → Int} {fw : Int → Int} {cl : Int → Int} {cw : Int → Int} {tk : Int → Int} {nL : Int} {kd : Int → Int} {wy : Int → Int} {ll : Int → Int} {td : Int → Int} {ls : Int → Int} {wh : Int → Int} {F : Int → Prop} {fl : Int} {fc : Int} (h : pj_J W sd op ed li st lv nm inw tow bst tst exp om ps dl dn af c0 en pd rp rv fw cl cw tk nL kd wy ll td ls wh F fl fc) : pj_N4b st lv nm inw tow bst om ps := by
  obtain ⟨cR, cN0, cN1, cN1w, cER, cN1c, cN2, cN2e, cN2b, cN4e, cN4b, cN5, cN7, cN10, cN10e, cN13, cC1, cC2, cR3a, cE1, cU, cA1, cA2, cEC, cR3, cN11, cN12, cN3, cRJ, cFW, cPD, cCC, cCD, cRP, cRP1, cCR, cZ1, cZ0, cTK, cK2, cWH, cFI, cL0, cFC, cL0u, cOC, cCT, cL1, cL1e, cL1o, cL1b, cL1g, cL2, cL3, cL4, cAF, cRT, cCV, cL5, cL5o, cL5u, cL6, cL6u⟩ := h
  exact cN4b
theorem pg_N5 {W : Int → Prop} {sd : Int → Int} {op : Int → Int} {ed : Int → Int} {li : Int → Int → Prop} {st : Int → Int} {lv : Int → Int} {nm : Int → Int} {inw : Int → Int} {tow : Int → Int} {bst : Int → Int} {tst : Int → Int} {exp : Int → Int} {om : Int → Int} {ps : Int → Int} {dl : Int → Int} {dn : Int → Int} {af : Int → Int} {c0 : Int → Int} {en : Int → Int} {pd : Int → Int} {rp : Int → Int} {rv : Int → Int} {fw : Int → Int} {cl : Int → Int} {cw : Int → Int} {tk : Int → Int} {nL : Int} {kd : Int → Int} {wy : Int → Int} {ll : Int → Int} {td : Int → Int} {ls : Int → Int} {wh : Int → Int} {F : Int → Prop} {fl : Int} {fc : Int} (h : pj_J W sd op ed li st lv nm inw tow bst tst exp om ps dl dn af c0 en pd rp rv fw cl cw tk nL kd wy ll td ls wh F fl fc) : pj_N5 lv inw om ps := by
  obtain ⟨cR, cN0, cN1, cN1w, cER, cN1c, cN2, cN2e, cN2b, cN4e, cN4b, cN5, cN7, cN10, cN10e, cN13, cC1, cC2, cR3a, cE1, cU, cA1, cA2, cEC, cR3, cN11, cN12, cN3, cRJ, cFW, cPD, cCC, cCD, cRP, cRP1, cCR, cZ1, cZ0, cTK, cK2, cWH, cFI, cL0, cFC, cL0u, cOC, cCT, cL1, cL1e, cL1o, cL1b, cL1g, cL2, cL3, cL4, cAF, cRT, cCV, cL5, cL5o, cL5u, cL6, cL6u⟩ := h
  exact cN5
theorem pg_N7 {W : Int → Prop} {sd : Int → Int} {op : Int → Int} {ed : Int → Int} {li : Int → Int → Prop} {st : Int → Int} {lv : Int → Int} {nm : Int → Int} {inw : Int → Int} {tow : Int → Int} {bst : Int → Int} {tst : Int → Int} {exp : Int → Int} {om : Int → Int} {ps : Int → Int} {dl : Int → Int} {dn : Int → Int} {af : Int → Int} {c0 : Int → Int} {en : Int → Int} {pd : Int → Int} {rp : Int → Int} {rv : Int → Int} {fw : Int → Int} {cl : Int → Int} {cw : Int → Int} {tk : Int → Int} {nL : Int} {kd : Int → Int} {wy : Int → Int} {ll : Int → Int} {td : Int → Int} {ls : Int → Int} {wh : Int → Int} {F : Int → Prop} {fl : Int} {fc : Int} (h : pj_J W sd op ed li st lv nm inw tow bst tst exp om ps dl dn af c0 en pd rp rv fw cl cw tk nL kd wy ll td ls wh F fl fc) : pj_N7 st tst exp := by
  obtain ⟨cR, cN0, cN1, cN1w, cER, cN1c, cN2, cN2e, cN2b, cN4e, cN4b, cN5, cN7, cN10, cN10e, cN13, cC1, cC2, cR3a, cE1, cU, cA1, cA2, cEC, cR3, cN11, cN12, cN3, cRJ, cFW, cPD, cCC, cCD, cRP, cRP1, cCR, cZ1, cZ0, cTK, cK2, cWH, cFI, cL0, cFC, cL0u, cOC, cCT, cL1, cL1e, cL1o, cL1b, cL1g, cL2, cL3, cL4, cAF, cRT, cCV, cL5, cL5o, cL5u, cL6, cL6u⟩ := h
  exact cN7
theorem pg_N10 {W : Int → Prop} {sd : Int → Int} {op : Int → Int} {ed : Int → Int} {li : Int → Int → Prop} {st : Int → Int} {lv : Int → Int} {nm : Int → Int} {inw : Int → Int} {tow : Int → Int} {bst : Int → Int} {tst : Int → Int} {exp : Int → Int} {om : Int → Int} {ps : Int → Int} {dl : Int → Int} {dn : Int → Int} {af : Int → Int} {c0 : Int → Int} {en : Int → Int} {pd : Int → Int} {rp : Int → Int} {rv : Int → Int} {fw : Int → Int} {cl : Int → Int} {cw : Int → Int} {tk : Int → Int} {nL : Int} {kd : Int → Int} {wy : Int → Int} {ll : Int → Int} {td : Int → Int} {ls : Int → Int} {wh : Int → Int} {F : Int → Prop} {fl : Int} {fc : Int} (h : pj_J W sd op ed li st lv nm inw tow bst tst exp om ps dl dn af c0 en pd rp rv fw cl cw tk nL kd wy ll td ls wh F fl fc) : pj_N10 tow bst := by
  obtain ⟨cR, cN0, cN1, cN1w, cER, cN1c, cN2, cN2e, cN2b, cN4e, cN4b, cN5, cN7, cN10, cN10e, cN13, cC1, cC2, cR3a, cE1, cU, cA1, cA2, cEC, cR3, cN11, cN12, cN3, cRJ, cFW, cPD, cCC, cCD, cRP, cRP1, cCR, cZ1, cZ0, cTK, cK2, cWH, cFI, cL0, cFC, cL0u, cOC, cCT, cL1, cL1e, cL1o, cL1b, cL1g, cL2, cL3, cL4, cAF, cRT, cCV, cL5, cL5o, cL5u, cL6, cL6u⟩ := h
  exact cN10
theorem pg_N10e {W : Int → Prop} {sd : Int → Int} {op : Int → Int} {ed : Int → Int} {li : Int → Int → Prop} {st : Int → Int} {lv : Int → Int} {nm : Int → Int} {inw : Int → Int} {tow : Int → Int} {bst : Int → Int} {tst : Int → Int} {exp : Int → Int} {om : Int → Int} {ps : Int → Int} {dl : Int → Int} {dn : Int → Int} {af : Int → Int} {c0 : Int → Int} {en : Int → Int} {pd : Int → Int} {rp : Int → Int} {rv : Int → Int} {fw : Int → Int} {cl : Int → Int} {cw : Int → Int} {tk : Int → Int} {nL : Int} {kd : Int → Int} {wy : Int → Int} {ll : Int → Int} {td : Int → Int} {ls : Int → Int} {wh : Int → Int} {F : Int → Prop} {fl : Int} {fc : Int} (h : pj_J W sd op ed li st lv nm inw tow bst tst exp om ps dl dn af c0 en pd rp rv fw cl cw tk nL kd wy ll td ls wh F fl fc) : pj_N10e W sd ed tow := by
  obtain ⟨cR, cN0, cN1, cN1w, cER, cN1c, cN2, cN2e, cN2b, cN4e, cN4b, cN5, cN7, cN10, cN10e, cN13, cC1, cC2, cR3a, cE1, cU, cA1, cA2, cEC, cR3, cN11, cN12, cN3, cRJ, cFW, cPD, cCC, cCD, cRP, cRP1, cCR, cZ1, cZ0, cTK, cK2, cWH, cFI, cL0, cFC, cL0u, cOC, cCT, cL1, cL1e, cL1o, cL1b, cL1g, cL2, cL3, cL4, cAF, cRT, cCV, cL5, cL5o, cL5u, cL6, cL6u⟩ := h
  exact cN10e
theorem pg_N13 {W : Int → Prop} {sd : Int → Int} {op : Int → Int} {ed : Int → Int} {li : Int → Int → Prop} {st : Int → Int} {lv : Int → Int} {nm : Int → Int} {inw : Int → Int} {tow : Int → Int} {bst : Int → Int} {tst : Int → Int} {exp : Int → Int} {om : Int → Int} {ps : Int → Int} {dl : Int → Int} {dn : Int → Int} {af : Int → Int} {c0 : Int → Int} {en : Int → Int} {pd : Int → Int} {rp : Int → Int} {rv : Int → Int} {fw : Int → Int} {cl : Int → Int} {cw : Int → Int} {tk : Int → Int} {nL : Int} {kd : Int → Int} {wy : Int → Int} {ll : Int → Int} {td : Int → Int} {ls : Int → Int} {wh : Int → Int} {F : Int → Prop} {fl : Int} {fc : Int} (h : pj_J W sd op ed li st lv nm inw tow bst tst exp om ps dl dn af c0 en pd rp rv fw cl cw tk nL kd wy ll td ls wh F fl fc) : pj_N13 W sd ed lv nm inw := by
  obtain ⟨cR, cN0, cN1, cN1w, cER, cN1c, cN2, cN2e, cN2b, cN4e, cN4b, cN5, cN7, cN10, cN10e, cN13, cC1, cC2, cR3a, cE1, cU, cA1, cA2, cEC, cR3, cN11, cN12, cN3, cRJ, cFW, cPD, cCC, cCD, cRP, cRP1, cCR, cZ1, cZ0, cTK, cK2, cWH, cFI, cL0, cFC, cL0u, cOC, cCT, cL1, cL1e, cL1o, cL1b, cL1g, cL2, cL3, cL4, cAF, cRT, cCV, cL5, cL5o, cL5u, cL6, cL6u⟩ := h
  exact cN13
theorem pg_C1 {W : Int → Prop} {sd : Int → Int} {op : Int → Int} {ed : Int → Int} {li : Int → Int → Prop} {st : Int → Int} {lv : Int → Int} {nm : Int → Int} {inw : Int → Int} {tow : Int → Int} {bst : Int → Int} {tst : Int → Int} {exp : Int → Int} {om : Int → Int} {ps : Int → Int} {dl : Int → Int} {dn : Int → Int} {af : Int → Int} {c0 : Int → Int} {en : Int → Int} {pd : Int → Int} {rp : Int → Int} {rv : Int → Int} {fw : Int → Int} {cl : Int → Int} {cw : Int → Int} {tk : Int → Int} {nL : Int} {kd : Int → Int} {wy : Int → Int} {ll : Int → Int} {td : Int → Int} {ls : Int → Int} {wh : Int → Int} {F : Int → Prop} {fl : Int} {fc : Int} (h : pj_J W sd op ed li st lv nm inw tow bst tst exp om ps dl dn af c0 en pd rp rv fw cl cw tk nL kd wy ll td ls wh F fl fc) : pj_C1 lv nm cl := by
  obtain ⟨cR, cN0, cN1, cN1w, cER, cN1c, cN2, cN2e, cN2b, cN4e, cN4b, cN5, cN7, cN10, cN10e, cN13, cC1, cC2, cR3a, cE1, cU, cA1, cA2, cEC, cR3, cN11, cN12, cN3, cRJ, cFW, cPD, cCC, cCD, cRP, cRP1, cCR, cZ1, cZ0, cTK, cK2, cWH, cFI, cL0, cFC, cL0u, cOC, cCT, cL1, cL1e, cL1o, cL1b, cL1g, cL2, cL3, cL4, cAF, cRT, cCV, cL5, cL5o, cL5u, cL6, cL6u⟩ := h
  exact cC1
theorem pg_C2 {W : Int → Prop} {sd : Int → Int} {op : Int → Int} {ed : Int → Int} {li : Int → Int → Prop} {st : Int → Int} {lv : Int → Int} {nm : Int → Int} {inw : Int → Int} {tow : Int → Int} {bst : Int → Int} {tst : Int → Int} {exp : Int → Int} {om : Int → Int} {ps : Int → Int} {dl : Int → Int} {dn : Int → Int} {af : Int → Int} {c0 : Int → Int} {en : Int → Int} {pd : Int → Int} {rp : Int → Int} {rv : Int → Int} {fw : Int → Int} {cl : Int → Int} {cw : Int → Int} {tk : Int → Int} {nL : Int} {kd : Int → Int} {wy : Int → Int} {ll : Int → Int} {td : Int → Int} {ls : Int → Int} {wh : Int → Int} {F : Int → Prop} {fl : Int} {fc : Int} (h : pj_J W sd op ed li st lv nm inw tow bst tst exp om ps dl dn af c0 en pd rp rv fw cl cw tk nL kd wy ll td ls wh F fl fc) : pj_C2 lv nm dl dn cl := by
  obtain ⟨cR, cN0, cN1, cN1w, cER, cN1c, cN2, cN2e, cN2b, cN4e, cN4b, cN5, cN7, cN10, cN10e, cN13, cC1, cC2, cR3a, cE1, cU, cA1, cA2, cEC, cR3, cN11, cN12, cN3, cRJ, cFW, cPD, cCC, cCD, cRP, cRP1, cCR, cZ1, cZ0, cTK, cK2, cWH, cFI, cL0, cFC, cL0u, cOC, cCT, cL1, cL1e, cL1o, cL1b, cL1g, cL2, cL3, cL4, cAF, cRT, cCV, cL5, cL5o, cL5u, cL6, cL6u⟩ := h
  exact cC2
theorem pg_R3a {W : Int → Prop} {sd : Int → Int} {op : Int → Int} {ed : Int → Int} {li : Int → Int → Prop} {st : Int → Int} {lv : Int → Int} {nm : Int → Int} {inw : Int → Int} {tow : Int → Int} {bst : Int → Int} {tst : Int → Int} {exp : Int → Int} {om : Int → Int} {ps : Int → Int} {dl : Int → Int} {dn : Int → Int} {af : Int → Int} {c0 : Int → Int} {en : Int → Int} {pd : Int → Int} {rp : Int → Int} {rv : Int → Int} {fw : Int → Int} {cl : Int → Int} {cw : Int → Int} {tk : Int → Int} {nL : Int} {kd : Int → Int} {wy : Int → Int} {ll : Int → Int} {td : Int → Int} {ls : Int → Int} {wh : Int → Int} {F : Int → Prop} {fl : Int} {fc : Int} (h : pj_J W sd op ed li st lv nm inw tow bst tst exp om ps dl dn af c0 en pd rp rv fw cl cw tk nL kd wy ll td ls wh F fl fc) : pj_R3a st lv dl := by
  obtain ⟨cR, cN0, cN1, cN1w, cER, cN1c, cN2, cN2e, cN2b, cN4e, cN4b, cN5, cN7, cN10, cN10e, cN13, cC1, cC2, cR3a, cE1, cU, cA1, cA2, cEC, cR3, cN11, cN12, cN3, cRJ, cFW, cPD, cCC, cCD, cRP, cRP1, cCR, cZ1, cZ0, cTK, cK2, cWH, cFI, cL0, cFC, cL0u, cOC, cCT, cL1, cL1e, cL1o, cL1b, cL1g, cL2, cL3, cL4, cAF, cRT, cCV, cL5, cL5o, cL5u, cL6, cL6u⟩ := h
  exact cR3a
theorem pg_E1 {W : Int → Prop} {sd : Int → Int} {op : Int → Int} {ed : Int → Int} {li : Int → Int → Prop} {st : Int → Int} {lv : Int → Int} {nm : Int → Int} {inw : Int → Int} {tow : Int → Int} {bst : Int → Int} {tst : Int → Int} {exp : Int → Int} {om : Int → Int} {ps : Int → Int} {dl : Int → Int} {dn : Int → Int} {af : Int → Int} {c0 : Int → Int} {en : Int → Int} {pd : Int → Int} {rp : Int → Int} {rv : Int → Int} {fw : Int → Int} {cl : Int → Int} {cw : Int → Int} {tk : Int → Int} {nL : Int} {kd : Int → Int} {wy : Int → Int} {ll : Int → Int} {td : Int → Int} {ls : Int → Int} {wh : Int → Int} {F : Int → Prop} {fl : Int} {fc : Int} (h : pj_J W sd op ed li st lv nm inw tow bst tst exp om ps dl dn af c0 en pd rp rv fw cl cw tk nL kd wy ll td ls wh F fl fc) : pj_E1 sd op lv dl nL kd wy ll wh := by
  obtain ⟨cR, cN0, cN1, cN1w, cER, cN1c, cN2, cN2e, cN2b, cN4e, cN4b, cN5, cN7, cN10, cN10e, cN13, cC1, cC2, cR3a, cE1, cU, cA1, cA2, cEC, cR3, cN11, cN12, cN3, cRJ, cFW, cPD, cCC, cCD, cRP, cRP1, cCR, cZ1, cZ0, cTK, cK2, cWH, cFI, cL0, cFC, cL0u, cOC, cCT, cL1, cL1e, cL1o, cL1b, cL1g, cL2, cL3, cL4, cAF, cRT, cCV, cL5, cL5o, cL5u, cL6, cL6u⟩ := h
  exact cE1
theorem pg_U {W : Int → Prop} {sd : Int → Int} {op : Int → Int} {ed : Int → Int} {li : Int → Int → Prop} {st : Int → Int} {lv : Int → Int} {nm : Int → Int} {inw : Int → Int} {tow : Int → Int} {bst : Int → Int} {tst : Int → Int} {exp : Int → Int} {om : Int → Int} {ps : Int → Int} {dl : Int → Int} {dn : Int → Int} {af : Int → Int} {c0 : Int → Int} {en : Int → Int} {pd : Int → Int} {rp : Int → Int} {rv : Int → Int} {fw : Int → Int} {cl : Int → Int} {cw : Int → Int} {tk : Int → Int} {nL : Int} {kd : Int → Int} {wy : Int → Int} {ll : Int → Int} {td : Int → Int} {ls : Int → Int} {wh : Int → Int} {F : Int → Prop} {fl : Int} {fc : Int} (h : pj_J W sd op ed li st lv nm inw tow bst tst exp om ps dl dn af c0 en pd rp rv fw cl cw tk nL kd wy ll td ls wh F fl fc) : pj_U W sd op ed lv nm om ps dl en cl := by
  obtain ⟨cR, cN0, cN1, cN1w, cER, cN1c, cN2, cN2e, cN2b, cN4e, cN4b, cN5, cN7, cN10, cN10e, cN13, cC1, cC2, cR3a, cE1, cU, cA1, cA2, cEC, cR3, cN11, cN12, cN3, cRJ, cFW, cPD, cCC, cCD, cRP, cRP1, cCR, cZ1, cZ0, cTK, cK2, cWH, cFI, cL0, cFC, cL0u, cOC, cCT, cL1, cL1e, cL1o, cL1b, cL1g, cL2, cL3, cL4, cAF, cRT, cCV, cL5, cL5o, cL5u, cL6, cL6u⟩ := h
  exact cU
theorem pg_A1 {W : Int → Prop} {sd : Int → Int} {op : Int → Int} {ed : Int → Int} {li : Int → Int → Prop} {st : Int → Int} {lv : Int → Int} {nm : Int → Int} {inw : Int → Int} {tow : Int → Int} {bst : Int → Int} {tst : Int → Int} {exp : Int → Int} {om : Int → Int} {ps : Int → Int} {dl : Int → Int} {dn : Int → Int} {af : Int → Int} {c0 : Int → Int} {en : Int → Int} {pd : Int → Int} {rp : Int → Int} {rv : Int → Int} {fw : Int → Int} {cl : Int → Int} {cw : Int → Int} {tk : Int → Int} {nL : Int} {kd : Int → Int} {wy : Int → Int} {ll : Int → Int} {td : Int → Int} {ls : Int → Int} {wh : Int → Int} {F : Int → Prop} {fl : Int} {fc : Int} (h : pj_J W sd op ed li st lv nm inw tow bst tst exp om ps dl dn af c0 en pd rp rv fw cl cw tk nL kd wy ll td ls wh F fl fc) : pj_A1 W sd op ed lv nm om dl dn en F fl fc := by
  obtain ⟨cR, cN0, cN1, cN1w, cER, cN1c, cN2, cN2e, cN2b, cN4e, cN4b, cN5, cN7, cN10, cN10e, cN13, cC1, cC2, cR3a, cE1, cU, cA1, cA2, cEC, cR3, cN11, cN12, cN3, cRJ, cFW, cPD, cCC, cCD, cRP, cRP1, cCR, cZ1, cZ0, cTK, cK2, cWH, cFI, cL0, cFC, cL0u, cOC, cCT, cL1, cL1e, cL1o, cL1b, cL1g, cL2, cL3, cL4, cAF, cRT, cCV, cL5, cL5o, cL5u, cL6, cL6u⟩ := h
  exact cA1
theorem pg_A2 {W : Int → Prop} {sd : Int → Int} {op : Int → Int} {ed : Int → Int} {li : Int → Int → Prop} {st : Int → Int} {lv : Int → Int} {nm : Int → Int} {inw : Int → Int} {tow : Int → Int} {bst : Int → Int} {tst : Int → Int} {exp : Int → Int} {om : Int → Int} {ps : Int → Int} {dl : Int → Int} {dn : Int → Int} {af : Int → Int} {c0 : Int → Int} {en : Int → Int} {pd : Int → Int} {rp : Int → Int} {rv : Int → Int} {fw : Int → Int} {cl : Int → Int} {cw : Int → Int} {tk : Int → Int} {nL : Int} {kd : Int → Int} {wy : Int → Int} {ll : Int → Int} {td : Int → Int} {ls : Int → Int} {wh : Int → Int} {F : Int → Prop} {fl : Int} {fc : Int} (h : pj_J W sd op ed li st lv nm inw tow bst tst exp om ps dl dn af c0 en pd rp rv fw cl cw tk nL kd wy ll td ls wh F fl fc) : pj_A2 W sd op ed st lv nm om ps dl dn cl := by
  obtain ⟨cR, cN0, cN1, cN1w, cER, cN1c, cN2, cN2e, cN2b, cN4e, cN4b, cN5, cN7, cN10, cN10e, cN13, cC1, cC2, cR3a, cE1, cU, cA1, cA2, cEC, cR3, cN11, cN12, cN3, cRJ, cFW, cPD, cCC, cCD, cRP, cRP1, cCR, cZ1, cZ0, cTK, cK2, cWH, cFI, cL0, cFC, cL0u, cOC, cCT, cL1, cL1e, cL1o, cL1b, cL1g, cL2, cL3, cL4, cAF, cRT, cCV, cL5, cL5o, cL5u, cL6, cL6u⟩ := h
  exact cA2
theorem pg_EC {W : Int → Prop} {sd : Int → Int} {op : Int → Int} {ed : Int → Int} {li : Int → Int → Prop} {st : Int → Int} {lv : Int → Int} {nm : Int → Int} {inw : Int → Int} {tow : Int → Int} {bst : Int → Int} {tst : Int → Int} {exp : Int → Int} {om : Int → Int} {ps : Int → Int} {dl : Int → Int} {dn : Int → Int} {af : Int → Int} {c0 : Int → Int} {en : Int → Int} {pd : Int → Int} {rp : Int → Int} {rv : Int → Int} {fw : Int → Int} {cl : Int → Int} {cw : Int → Int} {tk : Int → Int} {nL : Int} {kd : Int → Int} {wy : Int → Int} {ll : Int → Int} {td : Int → Int} {ls : Int → Int} {wh : Int → Int} {F : Int → Prop} {fl : Int} {fc : Int} (h : pj_J W sd op ed li st lv nm inw tow bst tst exp om ps dl dn af c0 en pd rp rv fw cl cw tk nL kd wy ll td ls wh F fl fc) : pj_EC W sd op ed lv nm om ps dl nL kd wy wh F := by
  obtain ⟨cR, cN0, cN1, cN1w, cER, cN1c, cN2, cN2e, cN2b, cN4e, cN4b, cN5, cN7, cN10, cN10e, cN13, cC1, cC2, cR3a, cE1, cU, cA1, cA2, cEC, cR3, cN11, cN12, cN3, cRJ, cFW, cPD, cCC, cCD, cRP, cRP1, cCR, cZ1, cZ0, cTK, cK2, cWH, cFI, cL0, cFC, cL0u, cOC, cCT, cL1, cL1e, cL1o, cL1b, cL1g, cL2, cL3, cL4, cAF, cRT, cCV, cL5, cL5o, cL5u, cL6, cL6u⟩ := h
  exact cEC
theorem pg_R3 {W : Int → Prop} {sd : Int → Int} {op : Int → Int} {ed : Int → Int} {li : Int → Int → Prop} {st : Int → Int} {lv : Int → Int} {nm : Int → Int} {inw : Int → Int} {tow : Int → Int} {bst : Int → Int} {tst : Int → Int} {exp : Int → Int} {om : Int → Int} {ps : Int → Int} {dl : Int → Int} {dn : Int → Int} {af : Int → Int} {c0 : Int → Int} {en : Int → Int} {pd : Int → Int} {rp : Int → Int} {rv : Int → Int} {fw : Int → Int} {cl : Int → Int} {cw : Int → Int} {tk : Int → Int} {nL : Int} {kd : Int → Int} {wy : Int → Int} {ll : Int → Int} {td : Int → Int} {ls : Int → Int} {wh : Int → Int} {F : Int → Prop} {fl : Int} {fc : Int} (h : pj_J W sd op ed li st lv nm inw tow bst tst exp om ps dl dn af c0 en pd rp rv fw cl cw tk nL kd wy ll td ls wh F fl fc) : pj_R3 W sd op ed st om pd := by
  obtain ⟨cR, cN0, cN1, cN1w, cER, cN1c, cN2, cN2e, cN2b, cN4e, cN4b, cN5, cN7, cN10, cN10e, cN13, cC1, cC2, cR3a, cE1, cU, cA1, cA2, cEC, cR3, cN11, cN12, cN3, cRJ, cFW, cPD, cCC, cCD, cRP, cRP1, cCR, cZ1, cZ0, cTK, cK2, cWH, cFI, cL0, cFC, cL0u, cOC, cCT, cL1, cL1e, cL1o, cL1b, cL1g, cL2, cL3, cL4, cAF, cRT, cCV, cL5, cL5o, cL5u, cL6, cL6u⟩ := h
  exact cR3
theorem pg_N11 {W : Int → Prop} {sd : Int → Int} {op : Int → Int} {ed : Int → Int} {li : Int → Int → Prop} {st : Int → Int} {lv : Int → Int} {nm : Int → Int} {inw : Int → Int} {tow : Int → Int} {bst : Int → Int} {tst : Int → Int} {exp : Int → Int} {om : Int → Int} {ps : Int → Int} {dl : Int → Int} {dn : Int → Int} {af : Int → Int} {c0 : Int → Int} {en : Int → Int} {pd : Int → Int} {rp : Int → Int} {rv : Int → Int} {fw : Int → Int} {cl : Int → Int} {cw : Int → Int} {tk : Int → Int} {nL : Int} {kd : Int → Int} {wy : Int → Int} {ll : Int → Int} {td : Int → Int} {ls : Int → Int} {wh : Int → Int} {F : Int → Prop} {fl : Int} {fc : Int} (h : pj_J W sd op ed li st lv nm inw tow bst tst exp om ps dl dn af c0 en pd rp rv fw cl cw tk nL kd wy ll td ls wh F fl fc) : pj_N11 W sd op ed lv nm tow tst ps en := by
  obtain ⟨cR, cN0, cN1, cN1w, cER, cN1c, cN2, cN2e, cN2b, cN4e, cN4b, cN5, cN7, cN10, cN10e, cN13, cC1, cC2, cR3a, cE1, cU, cA1, cA2, cEC, cR3, cN11, cN12, cN3, cRJ, cFW, cPD, cCC, cCD, cRP, cRP1, cCR, cZ1, cZ0, cTK, cK2, cWH, cFI, cL0, cFC, cL0u, cOC, cCT, cL1, cL1e, cL1o, cL1b, cL1g, cL2, cL3, cL4, cAF, cRT, cCV, cL5, cL5o, cL5u, cL6, cL6u⟩ := h
  exact cN11
theorem pg_N12 {W : Int → Prop} {sd : Int → Int} {op : Int → Int} {ed : Int → Int} {li : Int → Int → Prop} {st : Int → Int} {lv : Int → Int} {nm : Int → Int} {inw : Int → Int} {tow : Int → Int} {bst : Int → Int} {tst : Int → Int} {exp : Int → Int} {om : Int → Int} {ps : Int → Int} {dl : Int → Int} {dn : Int → Int} {af : Int → Int} {c0 : Int → Int} {en : Int → Int} {pd : Int → Int} {rp : Int → Int} {rv : Int → Int} {fw : Int → Int} {cl : Int → Int} {cw : Int → Int} {tk : Int → Int} {nL : Int} {kd : Int → Int} {wy : Int → Int} {ll : Int → Int} {td : Int → Int} {ls : Int → Int} {wh : Int → Int} {F : Int → Prop} {fl : Int} {fc : Int} (h : pj_J W sd op ed li st lv nm inw tow bst tst exp om ps dl dn af c0 en pd rp rv fw cl cw tk nL kd wy ll td ls wh F fl fc) : pj_N12 W sd op ed st lv nm inw tow om ps dl en := by
  obtain ⟨cR, cN0, cN1, cN1w, cER, cN1c, cN2, cN2e, cN2b, cN4e, cN4b, cN5, cN7, cN10, cN10e, cN13, cC1, cC2, cR3a, cE1, cU, cA1, cA2, cEC, cR3, cN11, cN12, cN3, cRJ, cFW, cPD, cCC, cCD, cRP, cRP1, cCR, cZ1, cZ0, cTK, cK2, cWH, cFI, cL0, cFC, cL0u, cOC, cCT, cL1, cL1e, cL1o, cL1b, cL1g, cL2, cL3, cL4, cAF, cRT, cCV, cL5, cL5o, cL5u, cL6, cL6u⟩ := h
  exact cN12
theorem pg_N3 {W : Int → Prop} {sd : Int → Int} {op : Int → Int} {ed : Int → Int} {li : Int → Int → Prop} {st : Int → Int} {lv : Int → Int} {nm : Int → Int} {inw : Int → Int} {tow : Int → Int} {bst : Int → Int} {tst : Int → Int} {exp : Int → Int} {om : Int → Int} {ps : Int → Int} {dl : Int → Int} {dn : Int → Int} {af : Int → Int} {c0 : Int → Int} {en : Int → Int} {pd : Int → Int} {rp : Int → Int} {rv : Int → Int} {fw : Int → Int} {cl : Int → Int} {cw : Int → Int} {tk : Int → Int} {nL : Int} {kd : Int → Int} {wy : Int → Int} {ll : Int → Int} {td : Int → Int} {ls : Int → Int} {wh : Int → Int} {F : Int → Prop} {fl : Int} {fc : Int} (h : pj_J W sd op ed li st lv nm inw tow bst tst exp om ps dl dn af c0 en pd rp rv fw cl cw tk nL kd wy ll td ls wh F fl fc) : pj_N3 W sd op ed om en := by
  obtain ⟨cR, cN0, cN1, cN1w, cER, cN1c, cN2, cN2e, cN2b, cN4e, cN4b, cN5, cN7, cN10, cN10e, cN13, cC1, cC2, cR3a, cE1, cU, cA1, cA2, cEC, cR3, cN11, cN12, cN3, cRJ, cFW, cPD, cCC, cCD, cRP, cRP1, cCR, cZ1, cZ0, cTK, cK2, cWH, cFI, cL0, cFC, cL0u, cOC, cCT, cL1, cL1e, cL1o, cL1b, cL1g, cL2, cL3, cL4, cAF, cRT, cCV, cL5, cL5o, cL5u, cL6, cL6u⟩ := h
  exact cN3
theorem pg_RJ {W : Int → Prop} {sd : Int → Int} {op : Int → Int} {ed : Int → Int} {li : Int → Int → Prop} {st : Int → Int} {lv : Int → Int} {nm : Int → Int} {inw : Int → Int} {tow : Int → Int} {bst : Int → Int} {tst : Int → Int} {exp : Int → Int} {om : Int → Int} {ps : Int → Int} {dl : Int → Int} {dn : Int → Int} {af : Int → Int} {c0 : Int → Int} {en : Int → Int} {pd : Int → Int} {rp : Int → Int} {rv : Int → Int} {fw : Int → Int} {cl : Int → Int} {cw : Int → Int} {tk : Int → Int} {nL : Int} {kd : Int → Int} {wy : Int → Int} {ll : Int → Int} {td : Int → Int} {ls : Int → Int} {wh : Int → Int} {F : Int → Prop} {fl : Int} {fc : Int} (h : pj_J W sd op ed li st lv nm inw tow bst tst exp om ps dl dn af c0 en pd rp rv fw cl cw tk nL kd wy ll td ls wh F fl fc) : pj_RJ W sd op ed tst en fw := by
  obtain ⟨cR, cN0, cN1, cN1w, cER, cN1c, cN2, cN2e, cN2b, cN4e, cN4b, cN5, cN7, cN10, cN10e, cN13, cC1, cC2, cR3a, cE1, cU, cA1, cA2, cEC, cR3, cN11, cN12, cN3, cRJ, cFW, cPD, cCC, cCD, cRP, cRP1, cCR, cZ1, cZ0, cTK, cK2, cWH, cFI, cL0, cFC, cL0u, cOC, cCT, cL1, cL1e, cL1o, cL1b, cL1g, cL2, cL3, cL4, cAF, cRT, cCV, cL5, cL5o, cL5u, cL6, cL6u⟩ := h
  exact cRJ
theorem pg_FW {W : Int → Prop} {sd : Int → Int} {op : Int → Int} {ed : Int → Int} {li : Int → Int → Prop} {st : Int → Int} {lv : Int → Int} {nm : Int → Int} {inw : Int → Int} {tow : Int → Int} {bst : Int → Int} {tst : Int → Int} {exp : Int → Int} {om : Int → Int} {ps : Int → Int} {dl : Int → Int} {dn : Int → Int} {af : Int → Int} {c0 : Int → Int} {en : Int → Int} {pd : Int → Int} {rp : Int → Int} {rv : Int → Int} {fw : Int → Int} {cl : Int → Int} {cw : Int → Int} {tk : Int → Int} {nL : Int} {kd : Int → Int} {wy : Int → Int} {ll : Int → Int} {td : Int → Int} {ls : Int → Int} {wh : Int → Int} {F : Int → Prop} {fl : Int} {fc : Int} (h : pj_J W sd op ed li st lv nm inw tow bst tst exp om ps dl dn af c0 en pd rp rv fw cl cw tk nL kd wy ll td ls wh F fl fc) : pj_FW W sd ed tst en fw := by
  obtain ⟨cR, cN0, cN1, cN1w, cER, cN1c, cN2, cN2e, cN2b, cN4e, cN4b, cN5, cN7, cN10, cN10e, cN13, cC1, cC2, cR3a, cE1, cU, cA1, cA2, cEC, cR3, cN11, cN12, cN3, cRJ, cFW, cPD, cCC, cCD, cRP, cRP1, cCR, cZ1, cZ0, cTK, cK2, cWH, cFI, cL0, cFC, cL0u, cOC, cCT, cL1, cL1e, cL1o, cL1b, cL1g, cL2, cL3, cL4, cAF, cRT, cCV, cL5, cL5o, cL5u, cL6, cL6u⟩ := h
  exact cFW
theorem pg_PD {W : Int → Prop} {sd : Int → Int} {op : Int → Int} {ed : Int → Int} {li : Int → Int → Prop} {st : Int → Int} {lv : Int → Int} {nm : Int → Int} {inw : Int → Int} {tow : Int → Int} {bst : Int → Int} {tst : Int → Int} {exp : Int → Int} {om : Int → Int} {ps : Int → Int} {dl : Int → Int} {dn : Int → Int} {af : Int → Int} {c0 : Int → Int} {en : Int → Int} {pd : Int → Int} {rp : Int → Int} {rv : Int → Int} {fw : Int → Int} {cl : Int → Int} {cw : Int → Int} {tk : Int → Int} {nL : Int} {kd : Int → Int} {wy : Int → Int} {ll : Int → Int} {td : Int → Int} {ls : Int → Int} {wh : Int → Int} {F : Int → Prop} {fl : Int} {fc : Int} (h : pj_J W sd op ed li st lv nm inw tow bst tst exp om ps dl dn af c0 en pd rp rv fw cl cw tk nL kd wy ll td ls wh F fl fc) : pj_PD W sd op ed st om en pd := by
  obtain ⟨cR, cN0, cN1, cN1w, cER, cN1c, cN2, cN2e, cN2b, cN4e, cN4b, cN5, cN7, cN10, cN10e, cN13, cC1, cC2, cR3a, cE1, cU, cA1, cA2, cEC, cR3, cN11, cN12, cN3, cRJ, cFW, cPD, cCC, cCD, cRP, cRP1, cCR, cZ1, cZ0, cTK, cK2, cWH, cFI, cL0, cFC, cL0u, cOC, cCT, cL1, cL1e, cL1o, cL1b, cL1g, cL2, cL3, cL4, cAF, cRT, cCV, cL5, cL5o, cL5u, cL6, cL6u⟩ := h
  exact cPD
theorem pg_CC {W : Int → Prop} {sd : Int → Int} {op : Int → Int} {ed : Int → Int} {li : Int → Int → Prop} {st : Int → Int} {lv : Int → Int} {nm : Int → Int} {inw : Int → Int} {tow : Int → Int} {bst : Int → Int} {tst : Int → Int} {exp : Int → Int} {om : Int → Int} {ps : Int → Int} {dl : Int → Int} {dn : Int → Int} {af : Int → Int} {c0 : Int → Int} {en : Int → Int} {pd : Int → Int} {rp : Int → Int} {rv : Int → Int} {fw : Int → Int} {cl : Int → Int} {cw : Int → Int} {tk : Int → Int} {nL : Int} {kd : Int → Int} {wy : Int → Int} {ll : Int → Int} {td : Int → Int} {ls : Int → Int} {wh : Int → Int} {F : Int → Prop} {fl : Int} {fc : Int} (h : pj_J W sd op ed li st lv nm inw tow bst tst exp om ps dl dn af c0 en pd rp rv fw cl cw tk nL kd wy ll td ls wh F fl fc) : pj_CC W ed en cl := by
  obtain ⟨cR, cN0, cN1, cN1w, cER, cN1c, cN2, cN2e, cN2b, cN4e, cN4b, cN5, cN7, cN10, cN10e, cN13, cC1, cC2, cR3a, cE1, cU, cA1, cA2, cEC, cR3, cN11, cN12, cN3, cRJ, cFW, cPD, cCC, cCD, cRP, cRP1, cCR, cZ1, cZ0, cTK, cK2, cWH, cFI, cL0, cFC, cL0u, cOC, cCT, cL1, cL1e, cL1o, cL1b, cL1g, cL2, cL3, cL4, cAF, cRT, cCV, cL5, cL5o, cL5u, cL6, cL6u⟩ := h
  exact cCC
theorem pg_CD {W : Int → Prop} {sd : Int → Int} {op : Int → Int} {ed : Int → Int} {li : Int → Int → Prop} {st : Int → Int} {lv : Int → Int} {nm : Int → Int} {inw : Int → Int} {tow : Int → Int} {bst : Int → Int} {tst : Int → Int} {exp : Int → Int} {om : Int → Int} {ps : Int → Int} {dl : Int → Int} {dn : Int → Int} {af : Int → Int} {c0 : Int → Int} {en : Int → Int} {pd : Int → Int} {rp : Int → Int} {rv : Int → Int} {fw : Int → Int} {cl : Int → Int} {cw : Int → Int} {tk : Int → Int} {nL : Int} {kd : Int → Int} {wy : Int → Int} {ll : Int → Int} {td : Int → Int} {ls : Int → Int} {wh : Int → Int} {F : Int → Prop} {fl : Int} {fc : Int} (h : pj_J W sd op ed li st lv nm inw tow bst tst exp om ps dl dn af c0 en pd rp rv fw cl cw tk nL kd wy ll td ls wh F fl fc) : pj_CD W sd op ed om dl cl := by
  obtain ⟨cR, cN0, cN1, cN1w, cER, cN1c, cN2, cN2e, cN2b, cN4e, cN4b, cN5, cN7, cN10, cN10e, cN13, cC1, cC2, cR3a, cE1, cU, cA1, cA2, cEC, cR3, cN11, cN12, cN3, cRJ, cFW, cPD, cCC, cCD, cRP, cRP1, cCR, cZ1, cZ0, cTK, cK2, cWH, cFI, cL0, cFC, cL0u, cOC, cCT, cL1, cL1e, cL1o, cL1b, cL1g, cL2, cL3, cL4, cAF, cRT, cCV, cL5, cL5o, cL5u, cL6, cL6u⟩ := h
  exact cCD
theorem pg_RP {W : Int → Prop} {sd : Int → Int} {op : Int → Int} {ed : Int → Int} {li : Int → Int → Prop} {st : Int → Int} {lv : Int → Int} {nm : Int → Int} {inw : Int → Int} {tow : Int → Int} {bst : Int → Int} {tst : Int → Int} {exp : Int → Int} {om : Int → Int} {ps : Int → Int} {dl : Int → Int} {dn : Int → Int} {af : Int → Int} {c0 : Int → Int} {en : Int → Int} {pd : Int → Int} {rp : Int → Int} {rv : Int → Int} {fw : Int → Int} {cl : Int → Int} {cw : Int → Int} {tk : Int → Int} {nL : Int} {kd : Int → Int} {wy : Int → Int} {ll : Int → Int} {td : Int → Int} {ls : Int → Int} {wh : Int → Int} {F : Int → Prop} {fl : Int} {fc : Int} (h : pj_J W sd op ed li st lv nm inw tow bst tst exp om ps dl dn af c0 en pd rp rv fw cl cw tk nL kd wy ll td ls wh F fl fc) : pj_RP W sd ed st lv nm bst rp rv := by
  obtain ⟨cR, cN0, cN1, cN1w, cER, cN1c, cN2, cN2e, cN2b, cN4e, cN4b, cN5, cN7, cN10, cN10e, cN13, cC1, cC2, cR3a, cE1, cU, cA1, cA2, cEC, cR3, cN11, cN12, cN3, cRJ, cFW, cPD, cCC, cCD, cRP, cRP1, cCR, cZ1, cZ0, cTK, cK2, cWH, cFI, cL0, cFC, cL0u, cOC, cCT, cL1, cL1e, cL1o, cL1b, cL1g, cL2, cL3, cL4, cAF, cRT, cCV, cL5, cL5o, cL5u, cL6, cL6u⟩ := h
  exact cRP
theorem pg_RP1 {W : Int → Prop} {sd : Int → Int} {op : Int → Int} {ed : Int → Int} {li : Int → Int → Prop} {st : Int → Int} {lv : Int → Int} {nm : Int → Int} {inw : Int → Int} {tow : Int → Int} {bst : Int → Int} {tst : Int → Int} {exp : Int → Int} {om : Int → Int} {ps : Int → Int} {dl : Int → Int} {dn : Int → Int} {af : Int → Int} {c0 : Int → Int} {en : Int → Int} {pd : Int → Int} {rp : Int → Int} {rv : Int → Int} {fw : Int → Int} {cl : Int → Int} {cw : Int → Int} {tk : Int → Int} {nL : Int} {kd : Int → Int} {wy : Int → Int} {ll : Int → Int} {td : Int → Int} {ls : Int → Int} {wh : Int → Int} {F : Int → Prop} {fl : Int} {fc : Int} (h : pj_J W sd op ed li st lv nm inw tow bst tst exp om ps dl dn af c0 en pd rp rv fw cl cw tk nL kd wy ll td ls wh F fl fc) : pj_RP1 W sd ed lv rp cl := by
  obtain ⟨cR, cN0, cN1, cN1w, cER, cN1c, cN2, cN2e, cN2b, cN4e, cN4b, cN5, cN7, cN10, cN10e, cN13, cC1, cC2, cR3a, cE1, cU, cA1, cA2, cEC, cR3, cN11, cN12, cN3, cRJ, cFW, cPD, cCC, cCD, cRP, cRP1, cCR, cZ1, cZ0, cTK, cK2, cWH, cFI, cL0, cFC, cL0u, cOC, cCT, cL1, cL1e, cL1o, cL1b, cL1g, cL2, cL3, cL4, cAF, cRT, cCV, cL5, cL5o, cL5u, cL6, cL6u⟩ := h
  exact cRP1
theorem pg_CR {W : Int → Prop} {sd : Int → Int} {op : Int → Int} {ed : Int → Int} {li : Int → Int → Prop} {st : Int → Int} {lv : Int → Int} {nm : Int → Int} {inw : Int → Int} {tow : Int → Int} {bst : Int → Int} {tst : Int → Int} {exp : Int → Int} {om : Int → Int} {ps : Int → Int} {dl : Int → Int} {dn : Int → Int} {af : Int → Int} {c0 : Int → Int} {en : Int → Int} {pd : Int → Int} {rp : Int → Int} {rv : Int → Int} {fw : Int → Int} {cl : Int → Int} {cw : Int → Int} {tk : Int → Int} {nL : Int} {kd : Int → Int} {wy : Int → Int} {ll : Int → Int} {td : Int → Int} {ls : Int → Int} {wh : Int → Int} {F : Int → Prop} {fl : Int} {fc : Int} (h : pj_J W sd op ed li st lv nm inw tow bst tst exp om ps dl dn af c0 en pd rp rv fw cl cw tk nL kd wy ll td ls wh F fl fc) : pj_CR W ed cl := by
  obtain ⟨cR, cN0, cN1, cN1w, cER, cN1c, cN2, cN2e, cN2b, cN4e, cN4b, cN5, cN7, cN10, cN10e, cN13, cC1, cC2, cR3a, cE1, cU, cA1, cA2, cEC, cR3, cN11, cN12, cN3, cRJ, cFW, cPD, cCC, cCD, cRP, cRP1, cCR, cZ1, cZ0, cTK, cK2, cWH, cFI, cL0, cFC, cL0u, cOC, cCT, cL1, cL1e, cL1o, cL1b, cL1g, cL2, cL3, cL4, cAF, cRT, cCV, cL5, cL5o, cL5u, cL6, cL6u⟩ := h
  exact cCR
theorem pg_Z1 {W : Int → Prop} {sd : Int → Int} {op : Int → Int} {ed : Int → Int} {li : Int → Int → Prop} {st : Int → Int} {lv : Int → Int} {nm : Int → Int} {inw : Int → Int} {tow : Int → Int} {bst : Int → Int} {tst : Int → Int} {exp : Int → Int} {om : Int → Int} {ps : Int → Int} {dl : Int → Int} {dn : Int → Int} {af : Int → Int} {c0 : Int → Int} {en : Int → Int} {pd : Int → Int} {rp : Int → Int} {rv : Int → Int} {fw : Int → Int} {cl : Int → Int} {cw : Int → Int} {tk : Int → Int} {nL : Int} {kd : Int → Int} {wy : Int → Int} {ll : Int → Int} {td : Int → Int} {ls : Int → Int} {wh : Int → Int} {F : Int → Prop} {fl : Int} {fc : Int} (h : pj_J W sd op ed li st lv nm inw tow bst tst exp om ps dl dn af c0 en pd rp rv fw cl cw tk nL kd wy ll td ls wh F fl fc) : pj_Z1 W ed cl cw := by
  obtain ⟨cR, cN0, cN1, cN1w, cER, cN1c, cN2, cN2e, cN2b, cN4e, cN4b, cN5, cN7, cN10, cN10e, cN13, cC1, cC2, cR3a, cE1, cU, cA1, cA2, cEC, cR3, cN11, cN12, cN3, cRJ, cFW, cPD, cCC, cCD, cRP, cRP1, cCR, cZ1, cZ0, cTK, cK2, cWH, cFI, cL0, cFC, cL0u, cOC, cCT, cL1, cL1e, cL1o, cL1b, cL1g, cL2, cL3, cL4, cAF, cRT, cCV, cL5, cL5o, cL5u, cL6, cL6u⟩ := h
  exact cZ1
theorem pg_Z0 {W : Int → Prop} {sd : Int → Int} {op : Int → Int} {ed : Int → Int} {li : Int → Int → Prop} {st : Int → Int} {lv : Int → Int} {nm : Int → Int} {inw : Int → Int} {tow : Int → Int} {bst : Int → Int} {tst : Int → Int} {exp : Int → Int} {om : Int → Int} {ps : Int → Int} {dl : Int → Int} {dn : Int → Int} {af : Int → Int} {c0 : Int → Int} {en : Int → Int} {pd : Int → Int} {rp : Int → Int} {rv : Int → Int} {fw : Int → Int} {cl : Int → Int} {cw : Int → Int} {tk : Int → Int} {nL : Int} {kd : Int → Int} {wy : Int → Int} {ll : Int → Int} {td : Int → Int} {ls : Int → Int} {wh : Int → Int} {F : Int → Prop} {fl : Int} {fc : Int} (h : pj_J W sd op ed li st lv nm inw tow bst tst exp om ps dl dn af c0 en pd rp rv fw cl cw tk nL kd wy ll td ls wh F fl fc) : pj_Z0 W sd ed c0 cl := by
  obtain ⟨cR, cN0, cN1, cN1w, cER, cN1c, cN2, cN2e, cN2b, cN4e, cN4b, cN5, cN7, cN10, cN10e, cN13, cC1, cC2, cR3a, cE1, cU, cA1, cA2, cEC, cR3, cN11, cN12, cN3, cRJ, cFW, cPD, cCC, cCD, cRP, cRP1, cCR, cZ1, cZ0, cTK, cK2, cWH, cFI, cL0, cFC, cL0u, cOC, cCT, cL1, cL1e, cL1o, cL1b, cL1g, cL2, cL3, cL4, cAF, cRT, cCV, cL5, cL5o, cL5u, cL6, cL6u⟩ := h
  exact cZ0
theorem pg_TK {W : Int → Prop} {sd : Int → Int} {op : Int → Int} {ed : Int → Int} {li : Int → Int → Prop} {st : Int → Int} {lv : Int → Int} {nm : Int → Int} {inw : Int → Int} {tow : Int → Int} {bst : Int → Int} {tst : Int → Int} {exp : Int → Int} {om : Int → Int} {ps : Int → Int} {dl : Int → Int} {dn : Int → Int} {af : Int → Int} {c0 : Int → Int} {en : Int → Int} {pd : Int → Int} {rp : Int → Int} {rv : Int → Int} {fw : Int → Int} {cl : Int → Int} {cw : Int → Int} {tk : Int → Int} {nL : Int} {kd : Int → Int} {wy : Int → Int} {ll : Int → Int} {td : Int → Int} {ls : Int → Int} {wh : Int → Int} {F : Int → Prop} {fl : Int} {fc : Int} (h : pj_J W sd op ed li st lv nm inw tow bst tst exp om ps dl dn af c0 en pd rp rv fw cl cw tk nL kd wy ll td ls wh F fl fc) : pj_TK cw tk := by
  obtain ⟨cR, cN0, cN1, cN1w, cER, cN1c, cN2, cN2e, cN2b, cN4e, cN4b, cN5, cN7, cN10, cN10e, cN13, cC1, cC2, cR3a, cE1, cU, cA1, cA2, cEC, cR3, cN11, cN12, cN3, cRJ, cFW, cPD, cCC, cCD, cRP, cRP1, cCR, cZ1, cZ0, cTK, cK2, cWH, cFI, cL0, cFC, cL0u, cOC, cCT, cL1, cL1e, cL1o, cL1b, cL1g, cL2, cL3, cL4, cAF, cRT, cCV, cL5, cL5o, cL5u, cL6, cL6u⟩ := h
  exact cTK
theorem pg_K2 {W : Int → Prop} {sd : Int → Int} {op : Int → Int} {ed : Int → Int} {li : Int → Int → Prop} {st : Int → Int} {lv : Int → Int} {nm : Int → Int} {inw : Int → Int} {tow : Int → Int} {bst : Int → Int} {tst : Int → Int} {exp : Int → Int} {om : Int → Int} {ps : Int → Int} {dl : Int → Int} {dn : Int → Int} {af : Int → Int} {c0 : Int → Int} {en : Int → Int} {pd : Int → Int} {rp : Int → Int} {rv : Int → Int} {fw : Int → Int} {cl : Int → Int} {cw : Int → Int} {tk : Int → Int} {nL : Int} {kd : Int → Int} {wy : Int → Int} {ll : Int → Int} {td : Int → Int} {ls : Int → Int} {wh : Int → Int} {F : Int → Prop} {fl : Int} {fc : Int} (h : pj_J W sd op ed li st lv nm inw tow bst tst exp om ps dl dn af c0 en pd rp rv fw cl cw tk nL kd wy ll td ls wh F fl fc) : pj_K2 W op ed li rp rv tk := by
  obtain ⟨cR, cN0, cN1, cN1w, cER, cN1c, cN2, cN2e, cN2b, cN4e, cN4b, cN5, cN7, cN10, cN10e, cN13, cC1, cC2, cR3a, cE1, cU, cA1, cA2, cEC, cR3, cN11, cN12, cN3, cRJ, cFW, cPD, cCC, cCD, cRP, cRP1, cCR, cZ1, cZ0, cTK, cK2, cWH, cFI, cL0, cFC, cL0u, cOC, cCT, cL1, cL1e, cL1o, cL1b, cL1g, cL2, cL3, cL4, cAF, cRT, cCV, cL5, cL5o, cL5u, cL6, cL6u⟩ := h
  exact cK2
theorem pg_WH {W : Int → Prop} {sd : Int → Int} {op : Int → Int} {ed : Int → Int} {li : Int → Int → Prop} {st : Int → Int} {lv : Int → Int} {nm : Int → Int} {inw : Int → Int} {tow : Int → Int} {bst : Int → Int} {tst : Int → Int} {exp : Int → Int} {om : Int → Int} {ps : Int → Int} {dl : Int → Int} {dn : Int → Int} {af : Int → Int} {c0 : Int → Int} {en : Int → Int} {pd : Int → Int} {rp : Int → Int} {rv : Int → Int} {fw : Int → Int} {cl : Int → Int} {cw : Int → Int} {tk : Int → Int} {nL : Int} {kd : Int → Int} {wy : Int → Int} {ll : Int → Int} {td : Int → Int} {ls : Int → Int} {wh : Int → Int} {F : Int → Prop} {fl : Int} {fc : Int} (h : pj_J W sd op ed li st lv nm inw tow bst tst exp om ps dl dn af c0 en pd rp rv fw cl cw tk nL kd wy ll td ls wh F fl fc) : pj_WH nL kd wh := by
  obtain ⟨cR, cN0, cN1, cN1w, cER, cN1c, cN2, cN2e, cN2b, cN4e, cN4b, cN5, cN7, cN10, cN10e, cN13, cC1, cC2, cR3a, cE1, cU, cA1, cA2, cEC, cR3, cN11, cN12, cN3, cRJ, cFW, cPD, cCC, cCD, cRP, cRP1, cCR, cZ1, cZ0, cTK, cK2, cWH, cFI, cL0, cFC, cL0u, cOC, cCT, cL1, cL1e, cL1o, cL1b, cL1g, cL2, cL3, cL4, cAF, cRT, cCV, cL5, cL5o, cL5u, cL6, cL6u⟩ := h
  exact cWH
theorem pg_FI {W : Int → Prop} {sd : Int → Int} {op : Int → Int} {ed : Int → Int} {li : Int → Int → Prop} {st : Int → Int} {lv : Int → Int} {nm : Int → Int} {inw : Int → Int} {tow : Int → Int} {bst : Int → Int} {tst : Int → Int} {exp : Int → Int} {om : Int → Int} {ps : Int → Int} {dl : Int → Int} {dn : Int → Int} {af : Int → Int} {c0 : Int → Int} {en : Int → Int} {pd : Int → Int} {rp : Int → Int} {rv : Int → Int} {fw : Int → Int} {cl : Int → Int} {cw : Int → Int} {tk : Int → Int} {nL : Int} {kd : Int → Int} {wy : Int → Int} {ll : Int → Int} {td : Int → Int} {ls : Int → Int} {wh : Int → Int} {F : Int → Prop} {fl : Int} {fc : Int} (h : pj_J W sd op ed li st lv nm inw tow bst tst exp om ps dl dn af c0 en pd rp rv fw cl cw tk nL kd wy ll td ls wh F fl fc) : pj_FI nL wy wh := by
  obtain ⟨cR, cN0, cN1, cN1w, cER, cN1c, cN2, cN2e, cN2b, cN4e, cN4b, cN5, cN7, cN10, cN10e, cN13, cC1, cC2, cR3a, cE1, cU, cA1, cA2, cEC, cR3, cN11, cN12, cN3, cRJ, cFW, cPD, cCC, cCD, cRP, cRP1, cCR, cZ1, cZ0, cTK, cK2, cWH, cFI, cL0, cFC, cL0u, cOC, cCT, cL1, cL1e, cL1o, cL1b, cL1g, cL2, cL3, cL4, cAF, cRT, cCV, cL5, cL5o, cL5u, cL6, cL6u⟩ := h
  exact cFI
theorem pg_L0 {W : Int → Prop} {sd : Int → Int} {op : Int → Int} {ed : Int → Int} {li : Int → Int → Prop} {st : Int → Int} {lv : Int → Int} {nm : Int → Int} {inw : Int → Int} {tow : Int → Int} {bst : Int → Int} {tst : Int → Int} {exp : Int → Int} {om : Int → Int} {ps : Int → Int} {dl : Int → Int} {dn : Int → Int} {af : Int → Int} {c0 : Int → Int} {en : Int → Int} {pd : Int → Int} {rp : Int → Int} {rv : Int → Int} {fw : Int → Int} {cl : Int → Int} {cw : Int → Int} {tk : Int → Int} {nL : Int} {kd : Int → Int} {wy : Int → Int} {ll : Int → Int} {td : Int → Int} {ls : Int → Int} {wh : Int → Int} {F : Int → Prop} {fl : Int} {fc : Int} (h : pj_J W sd op ed li st lv nm inw tow bst tst exp om ps dl dn af c0 en pd rp rv fw cl cw tk nL kd wy ll td ls wh F fl fc) : pj_L0 sd op ed lv nm om ps dl c0 en cw nL kd wy ll wh := by
  obtain ⟨cR, cN0, cN1, cN1w, cER, cN1c, cN2, cN2e, cN2b, cN4e, cN4b, cN5, cN7, cN10, cN10e, cN13, cC1, cC2, cR3a, cE1, cU, cA1, cA2, cEC, cR3, cN11, cN12, cN3, cRJ, cFW, cPD, cCC, cCD, cRP, cRP1, cCR, cZ1, cZ0, cTK, cK2, cWH, cFI, cL0, cFC, cL0u, cOC, cCT, cL1, cL1e, cL1o, cL1b, cL1g, cL2, cL3, cL4, cAF, cRT, cCV, cL5, cL5o, cL5u, cL6, cL6u⟩ := h
  exact cL0
theorem pg_FC {W : Int → Prop} {sd : Int → Int} {op : Int → Int} {ed : Int → Int} {li : Int → Int → Prop} {st : Int → Int} {lv : Int → Int} {nm : Int → Int} {inw : Int → Int} {tow : Int → Int} {bst : Int → Int} {tst : Int → Int} {exp : Int → Int} {om : Int → Int} {ps : Int → Int} {dl : Int → Int} {dn : Int → Int} {af : Int → Int} {c0 : Int → Int} {en : Int → Int} {pd : Int → Int} {rp : Int → Int} {rv : Int → Int} {fw : Int → Int} {cl : Int → Int} {cw : Int → Int} {tk : Int → Int} {nL : Int} {kd : Int → Int} {wy : Int → Int} {ll : Int → Int} {td : Int → Int} {ls : Int → Int} {wh : Int → Int} {F : Int → Prop} {fl : Int} {fc : Int} (h : pj_J W sd op ed li st lv nm inw tow bst tst exp om ps dl dn af c0 en pd rp rv fw cl cw tk nL kd wy ll td ls wh F fl fc) : pj_FC op nL kd wy wh F := by
  obtain ⟨cR, cN0, cN1, cN1w, cER, cN1c, cN2, cN2e, cN2b, cN4e, cN4b, cN5, cN7, cN10, cN10e, cN13, cC1, cC2, cR3a, cE1, cU, cA1, cA2, cEC, cR3, cN11, cN12, cN3, cRJ, cFW, cPD, cCC, cCD, cRP, cRP1, cCR, cZ1, cZ0, cTK, cK2, cWH, cFI, cL0, cFC, cL0u, cOC, cCT, cL1, cL1e, cL1o, cL1b, cL1g, cL2, cL3, cL4, cAF, cRT, cCV, cL5, cL5o, cL5u, cL6, cL6u⟩ := h
  exact cFC
theorem pg_L0u {W : Int → Prop} {sd : Int → Int} {op : Int → Int} {ed : Int → Int} {li : Int → Int → Prop} {st : Int → Int} {lv : Int → Int} {nm : Int → Int} {inw : Int → Int} {tow : Int → Int} {bst : Int → Int} {tst : Int → Int} {exp : Int → Int} {om : Int → Int} {ps : Int → Int} {dl : Int → Int} {dn : Int → Int} {af : Int → Int} {c0 : Int → Int} {en : Int → Int} {pd : Int → Int} {rp : Int → Int} {rv : Int → Int} {fw : Int → Int} {cl : Int → Int} {cw : Int → Int} {tk : Int → Int} {nL : Int} {kd : Int → Int} {wy : Int → Int} {ll : Int → Int} {td : Int → Int} {ls : Int → Int} {wh : Int → Int} {F : Int → Prop} {fl : Int} {fc : Int} (h : pj_J W sd op ed li st lv nm inw tow bst tst exp om ps dl dn af c0 en pd rp rv fw cl cw tk nL kd wy ll td ls wh F fl fc) : pj_L0u nL kd wy wh := by
  obtain ⟨cR, cN0, cN1, cN1w, cER, cN1c, cN2, cN2e, cN2b, cN4e, cN4b, cN5, cN7, cN10, cN10e, cN13, cC1, cC2, cR3a, cE1, cU, cA1, cA2, cEC, cR3, cN11, cN12, cN3, cRJ, cFW, cPD, cCC, cCD, cRP, cRP1, cCR, cZ1, cZ0, cTK, cK2, cWH, cFI, cL0, cFC, cL0u, cOC, cCT, cL1, cL1e, cL1o, cL1b, cL1g, cL2, cL3, cL4, cAF, cRT, cCV, cL5, cL5o, cL5u, cL6, cL6u⟩ := h
  exact cL0u
theorem pg_OC {W : Int → Prop} {sd : Int → Int} {op : Int → Int} {ed : Int → Int} {li : Int → Int → Prop} {st : Int → Int} {lv : Int → Int} {nm : Int → Int} {inw : Int → Int} {tow : Int → Int} {bst : Int → Int} {tst : Int → Int} {exp : Int → Int} {om : Int → Int} {ps : Int → Int} {dl : Int → Int} {dn : Int → Int} {af : Int → Int} {c0 : Int → Int} {en : Int → Int} {pd : Int → Int} {rp : Int → Int} {rv : Int → Int} {fw : Int → Int} {cl : Int → Int} {cw : Int → Int} {tk : Int → Int} {nL : Int} {kd : Int → Int} {wy : Int → Int} {ll : Int → Int} {td : Int → Int} {ls : Int → Int} {wh : Int → Int} {F : Int → Prop} {fl : Int} {fc : Int} (h : pj_J W sd op ed li st lv nm inw tow bst tst exp om ps dl dn af c0 en pd rp rv fw cl cw tk nL kd wy ll td ls wh F fl fc) : pj_OC nL kd wy wh := by
  obtain ⟨cR, cN0, cN1, cN1w, cER, cN1c, cN2, cN2e, cN2b, cN4e, cN4b, cN5, cN7, cN10, cN10e, cN13, cC1, cC2, cR3a, cE1, cU, cA1, cA2, cEC, cR3, cN11, cN12, cN3, cRJ, cFW, cPD, cCC, cCD, cRP, cRP1, cCR, cZ1, cZ0, cTK, cK2, cWH, cFI, cL0, cFC, cL0u, cOC, cCT, cL1, cL1e, cL1o, cL1b, cL1g, cL2, cL3, cL4, cAF, cRT, cCV, cL5, cL5o, cL5u, cL6, cL6u⟩ := h
  exact cOC
theorem pg_CT {W : Int → Prop} {sd : Int → Int} {op : Int → Int} {ed : Int → Int} {li : Int → Int → Prop} {st : Int → Int} {lv : Int → Int} {nm : Int → Int} {inw : Int → Int} {tow : Int → Int} {bst : Int → Int} {tst : Int → Int} {exp : Int → Int} {om : Int → Int} {ps : Int → Int} {dl : Int → Int} {dn : Int → Int} {af : Int → Int} {c0 : Int → Int} {en : Int → Int} {pd : Int → Int} {rp : Int → Int} {rv : Int → Int} {fw : Int → Int} {cl : Int → Int} {cw : Int → Int} {tk : Int → Int} {nL : Int} {kd : Int → Int} {wy : Int → Int} {ll : Int → Int} {td : Int → Int} {ls : Int → Int} {wh : Int → Int} {F : Int → Prop} {fl : Int} {fc : Int} (h : pj_J W sd op ed li st lv nm inw tow bst tst exp om ps dl dn af c0 en pd rp rv fw cl cw tk nL kd wy ll td ls wh F fl fc) : pj_CT nL kd wy wh := by
  obtain ⟨cR, cN0, cN1, cN1w, cER, cN1c, cN2, cN2e, cN2b, cN4e, cN4b, cN5, cN7, cN10, cN10e, cN13, cC1, cC2, cR3a, cE1, cU, cA1, cA2, cEC, cR3, cN11, cN12, cN3, cRJ, cFW, cPD, cCC, cCD, cRP, cRP1, cCR, cZ1, cZ0, cTK, cK2, cWH, cFI, cL0, cFC, cL0u, cOC, cCT, cL1, cL1e, cL1o, cL1b, cL1g, cL2, cL3, cL4, cAF, cRT, cCV, cL5, cL5o, cL5u, cL6, cL6u⟩ := h
  exact cCT
theorem pg_L1 {W : Int → Prop} {sd : Int → Int} {op : Int → Int} {ed : Int → Int} {li : Int → Int → Prop} {st : Int → Int} {lv : Int → Int} {nm : Int → Int} {inw : Int → Int} {tow : Int → Int} {bst : Int → Int} {tst : Int → Int} {exp : Int → Int} {om : Int → Int} {ps : Int → Int} {dl : Int → Int} {dn : Int → Int} {af : Int → Int} {c0 : Int → Int} {en : Int → Int} {pd : Int → Int} {rp : Int → Int} {rv : Int → Int} {fw : Int → Int} {cl : Int → Int} {cw : Int → Int} {tk : Int → Int} {nL : Int} {kd : Int → Int} {wy : Int → Int} {ll : Int → Int} {td : Int → Int} {ls : Int → Int} {wh : Int → Int} {F : Int → Prop} {fl : Int} {fc : Int} (h : pj_J W sd op ed li st lv nm inw tow bst tst exp om ps dl dn af c0 en pd rp rv fw cl cw tk nL kd wy ll td ls wh F fl fc) : pj_L1 sd op ed st lv om dl en cl nL kd wy ll td ls wh := by
  obtain ⟨cR, cN0, cN1, cN1w, cER, cN1c, cN2, cN2e, cN2b, cN4e, cN4b, cN5, cN7, cN10, cN10e, cN13, cC1, cC2, cR3a, cE1, cU, cA1, cA2, cEC, cR3, cN11, cN12, cN3, cRJ, cFW, cPD, cCC, cCD, cRP, cRP1, cCR, cZ1, cZ0, cTK, cK2, cWH, cFI, cL0, cFC, cL0u, cOC, cCT, cL1, cL1e, cL1o, cL1b, cL1g, cL2, cL3, cL4, cAF, cRT, cCV, cL5, cL5o, cL5u, cL6, cL6u⟩ := h
  exact cL1
theorem pg_L1e {W : Int → Prop} {sd : Int → Int} {op : Int → Int} {ed : Int → Int} {li : Int → Int → Prop} {st : Int → Int} {lv : Int → Int} {nm : Int → Int} {inw : Int → Int} {tow : Int → Int} {bst : Int → Int} {tst : Int → Int} {exp : Int → Int} {om : Int → Int} {ps : Int → Int} {dl : Int → Int} {dn : Int → Int} {af : Int → Int} {c0 : Int → Int} {en : Int → Int} {pd : Int → Int} {rp : Int → Int} {rv : Int → Int} {fw : Int → Int} {cl : Int → Int} {cw : Int → Int} {tk : Int → Int} {nL : Int} {kd : Int → Int} {wy : Int → Int} {ll : Int → Int} {td : Int → Int} {ls : Int → Int} {wh : Int → Int} {F : Int → Prop} {fl : Int} {fc : Int} (h : pj_J W sd op ed li st lv nm inw tow bst tst exp om ps dl dn af c0 en pd rp rv fw cl cw tk nL kd wy ll td ls wh F fl fc) : pj_L1e sd op dl dn nL kd wy ll td ls wh := by
  obtain ⟨cR, cN0, cN1, cN1w, cER, cN1c, cN2, cN2e, cN2b, cN4e, cN4b, cN5, cN7, cN10, cN10e, cN13, cC1, cC2, cR3a, cE1, cU, cA1, cA2, cEC, cR3, cN11, cN12, cN3, cRJ, cFW, cPD, cCC, cCD, cRP, cRP1, cCR, cZ1, cZ0, cTK, cK2, cWH, cFI, cL0, cFC, cL0u, cOC, cCT, cL1, cL1e, cL1o, cL1b, cL1g, cL2, cL3, cL4, cAF, cRT, cCV, cL5, cL5o, cL5u, cL6, cL6u⟩ := h
  exact cL1e
theorem pg_L1o {W : Int → Prop} {sd : Int → Int} {op : Int → Int} {ed : Int → Int} {li : Int → Int → Prop} {st : Int → Int} {lv : Int → Int} {nm : Int → Int} {inw : Int → Int} {tow : Int → Int} {bst : Int → Int} {tst : Int → Int} {exp : Int → Int} {om : Int → Int} {ps : Int → Int} {dl : Int → Int} {dn : Int → Int} {af : Int → Int} {c0 : Int → Int} {en : Int → Int} {pd : Int → Int} {rp : Int → Int} {rv : Int → Int} {fw : Int → Int} {cl : Int → Int} {cw : Int → Int} {tk : Int → Int} {nL : Int} {kd : Int → Int} {wy : Int → Int} {ll : Int → Int} {td : Int → Int} {ls : Int → Int} {wh : Int → Int} {F : Int → Prop} {fl : Int} {fc : Int} (h : pj_J W sd op ed li st lv nm inw tow bst tst exp om ps dl dn af c0 en pd rp rv fw cl cw tk nL kd wy ll td ls wh F fl fc) : pj_L1o nL kd wy ll wh := by
  obtain ⟨cR, cN0, cN1, cN1w, cER, cN1c, cN2, cN2e, cN2b, cN4e, cN4b, cN5, cN7, cN10, cN10e, cN13, cC1, cC2, cR3a, cE1, cU, cA1, cA2, cEC, cR3, cN11, cN12, cN3, cRJ, cFW, cPD, cCC, cCD, cRP, cRP1, cCR, cZ1, cZ0, cTK, cK2, cWH, cFI, cL0, cFC, cL0u, cOC, cCT, cL1, cL1e, cL1o, cL1b, cL1g, cL2, cL3, cL4, cAF, cRT, cCV, cL5, cL5o, cL5u, cL6, cL6u⟩ := h
  exact cL1o
theorem pg_L1b {W : Int → Prop} {sd : Int → Int} {op : Int → Int} {ed : Int → Int} {li : Int → Int → Prop} {st : Int → Int} {lv : Int → Int} {nm : Int → Int} {inw : Int → Int} {tow : Int → Int} {bst : Int → Int} {tst : Int → Int} {exp : Int → Int} {om : Int → Int} {ps : Int → Int} {dl : Int → Int} {dn : Int → Int} {af : Int → Int} {c0 : Int → Int} {en : Int → Int} {pd : Int → Int} {rp : Int → Int} {rv : Int → Int} {fw : Int → Int} {cl : Int → Int} {cw : Int → Int} {tk : Int → Int} {nL : Int} {kd : Int → Int} {wy : Int → Int} {ll : Int → Int} {td : Int → Int} {ls : Int → Int} {wh : Int → Int} {F : Int → Prop} {fl : Int} {fc : Int} (h : pj_J W sd op ed li st lv nm inw tow bst tst exp om ps dl dn af c0 en pd rp rv fw cl cw tk nL kd wy ll td ls wh F fl fc) : pj_L1b sd ed st om pd nL kd wy td ls wh := by
  obtain ⟨cR, cN0, cN1, cN1w, cER, cN1c, cN2, cN2e, cN2b, cN4e, cN4b, cN5, cN7, cN10, cN10e, cN13, cC1, cC2, cR3a, cE1, cU, cA1, cA2, cEC, cR3, cN11, cN12, cN3, cRJ, cFW, cPD, cCC, cCD, cRP, cRP1, cCR, cZ1, cZ0, cTK, cK2, cWH, cFI, cL0, cFC, cL0u, cOC, cCT, cL1, cL1e, cL1o, cL1b, cL1g, cL2, cL3, cL4, cAF, cRT, cCV, cL5, cL5o, cL5u, cL6, cL6u⟩ := h
  exact cL1b
theorem pg_L1g {W : Int → Prop} {sd : Int → Int} {op : Int → Int} {ed : Int → Int} {li : Int → Int → Prop} {st : Int → Int} {lv : Int → Int} {nm : Int → Int} {inw : Int → Int} {tow : Int → Int} {bst : Int → Int} {tst : Int → Int} {exp : Int → Int} {om : Int → Int} {ps : Int → Int} {dl : Int → Int} {dn : Int → Int} {af : Int → Int} {c0 : Int → Int} {en : Int → Int} {pd : Int → Int} {rp : Int → Int} {rv : Int → Int} {fw : Int → Int} {cl : Int → Int} {cw : Int → Int} {tk : Int → Int} {nL : Int} {kd : Int → Int} {wy : Int → Int} {ll : Int → Int} {td : Int → Int} {ls : Int → Int} {wh : Int → Int} {F : Int → Prop} {fl : Int} {fc : Int} (h : pj_J W sd op ed li st lv nm inw tow bst tst exp om ps dl dn af c0 en pd rp rv fw cl cw tk nL kd wy ll td ls wh F fl fc) : pj_L1g W sd op ed nL kd wy td ls wh := by
  obtain ⟨cR, cN0, cN1, cN1w, cER, cN1c, cN2, cN2e, cN2b, cN4e, cN4b, cN5, cN7, cN10, cN10e, cN13, cC1, cC2, cR3a, cE1, cU, cA1, cA2, cEC, cR3, cN11, cN12, cN3, cRJ, cFW, cPD, cCC, cCD, cRP, cRP1, cCR, cZ1, cZ0, cTK, cK2, cWH, cFI, cL0, cFC, cL0u, cOC, cCT, cL1, cL1e, cL1o, cL1b, cL1g, cL2, cL3, cL4, cAF, cRT, cCV, cL5, cL5o, cL5u, cL6, cL6u⟩ := h
  exact cL1g
theorem pg_L2 {W : Int → Prop} {sd : Int → Int} {op : Int → Int} {ed : Int → Int} {li : Int → Int → Prop} {st : Int → Int} {lv : Int → Int} {nm : Int → Int} {inw : Int → Int} {tow : Int → Int} {bst : Int → Int} {tst : Int → Int} {exp : Int → Int} {om : Int → Int} {ps : Int → Int} {dl : Int → Int} {dn : Int → Int} {af : Int → Int} {c0 : Int → Int} {en : Int → Int} {pd : Int → Int} {rp : Int → Int} {rv : Int → Int} {fw : Int → Int} {cl : Int → Int} {cw : Int → Int} {tk : Int → Int} {nL : Int} {kd : Int → Int} {wy : Int → Int} {ll : Int → Int} {td : Int → Int} {ls : Int → Int} {wh : Int → Int} {F : Int → Prop} {fl : Int} {fc : Int} (h : pj_J W sd op ed li st lv nm inw tow bst tst exp om ps dl dn af c0 en pd rp rv fw cl cw tk nL kd wy ll td ls wh F fl fc) : pj_L2 sd op ed st lv nm tst en fw nL kd wy ll td wh := by
  obtain ⟨cR, cN0, cN1, cN1w, cER, cN1c, cN2, cN2e, cN2b, cN4e, cN4b, cN5, cN7, cN10, cN10e, cN13, cC1, cC2, cR3a, cE1, cU, cA1, cA2, cEC, cR3, cN11, cN12, cN3, cRJ, cFW, cPD, cCC, cCD, cRP, cRP1, cCR, cZ1, cZ0, cTK, cK2, cWH, cFI, cL0, cFC, cL0u, cOC, cCT, cL1, cL1e, cL1o, cL1b, cL1g, cL2, cL3, cL4, cAF, cRT, cCV, cL5, cL5o, cL5u, cL6, cL6u⟩ := h
  exact cL2
theorem pg_L3 {W : Int → Prop} {sd : Int → Int} {op : Int → Int} {ed : Int → Int} {li : Int → Int → Prop} {st : Int → Int} {lv : Int → Int} {nm : Int → Int} {inw : Int → Int} {tow : Int → Int} {bst : Int → Int} {tst : Int → Int} {exp : Int → Int} {om : Int → Int} {ps : Int → Int} {dl : Int → Int} {dn : Int → Int} {af : Int → Int} {c0 : Int → Int} {en : Int → Int} {pd : Int → Int} {rp : Int → Int} {rv : Int → Int} {fw : Int → Int} {cl : Int → Int} {cw : Int → Int} {tk : Int → Int} {nL : Int} {kd : Int → Int} {wy : Int → Int} {ll : Int → Int} {td : Int → Int} {ls : Int → Int} {wh : Int → Int} {F : Int → Prop} {fl : Int} {fc : Int} (h : pj_J W sd op ed li st lv nm inw tow bst tst exp om ps dl dn af c0 en pd rp rv fw cl cw tk nL kd wy ll td ls wh F fl fc) : pj_L3 sd op ed st lv nm tst en fw nL kd wy wh := by
  obtain ⟨cR, cN0, cN1, cN1w, cER, cN1c, cN2, cN2e, cN2b, cN4e, cN4b, cN5, cN7, cN10, cN10e, cN13, cC1, cC2, cR3a, cE1, cU, cA1, cA2, cEC, cR3, cN11, cN12, cN3, cRJ, cFW, cPD, cCC, cCD, cRP, cRP1, cCR, cZ1, cZ0, cTK, cK2, cWH, cFI, cL0, cFC, cL0u, cOC, cCT, cL1, cL1e, cL1o, cL1b, cL1g, cL2, cL3, cL4, cAF, cRT, cCV, cL5, cL5o, cL5u, cL6, cL6u⟩ := h
  exact cL3
theorem pg_L4 {W : Int → Prop} {sd : Int → Int} {op : Int → Int} {ed : Int → Int} {li : Int → Int → Prop} {st : Int → Int} {lv : Int → Int} {nm : Int → Int} {inw : Int → Int} {tow : Int → Int} {bst : Int → Int} {tst : Int → Int} {exp : Int → Int} {om : Int → Int} {ps : Int → Int} {dl : Int → Int} {dn : Int → Int} {af : Int → Int} {c0 : Int → Int} {en : Int → Int} {pd : Int → Int} {rp : Int → Int} {rv : Int → Int} {fw : Int → Int} {cl : Int → Int} {cw : Int → Int} {tk : Int → Int} {nL : Int} {kd : Int → Int} {wy : Int → Int} {ll : Int → Int} {td : Int → Int} {ls : Int → Int} {wh : Int → Int} {F : Int → Prop} {fl : Int} {fc : Int} (h : pj_J W sd op ed li st lv nm inw tow bst tst exp om ps dl dn af c0 en pd rp rv fw cl cw tk nL kd wy ll td ls wh F fl fc) : pj_L4 sd op ed st tst en nL kd wy wh := by
  obtain ⟨cR, cN0, cN1, cN1w, cER, cN1c, cN2, cN2e, cN2b, cN4e, cN4b, cN5, cN7, cN10, cN10e, cN13, cC1, cC2, cR3a, cE1, cU, cA1, cA2, cEC, cR3, cN11, cN12, cN3, cRJ, cFW, cPD, cCC, cCD, cRP, cRP1, cCR, cZ1, cZ0, cTK, cK2, cWH, cFI, cL0, cFC, cL0u, cOC, cCT, cL1, cL1e, cL1o, cL1b, cL1g, cL2, cL3, cL4, cAF, cRT, cCV, cL5, cL5o, cL5u, cL6, cL6u⟩ := h
  exact cL4
theorem pg_AF {W : Int → Prop} {sd : Int → Int} {op : Int → Int} {ed : Int → Int} {li : Int → Int → Prop} {st : Int → Int} {lv : Int → Int} {nm : Int → Int} {inw : Int → Int} {tow : Int → Int} {bst : Int → Int} {tst : Int → Int} {exp : Int → Int} {om : Int → Int} {ps : Int → Int} {dl : Int → Int} {dn : Int → Int} {af : Int → Int} {c0 : Int → Int} {en : Int → Int} {pd : Int → Int} {rp : Int → Int} {rv : Int → Int} {fw : Int → Int} {cl : Int → Int} {cw : Int → Int} {tk : Int → Int} {nL : Int} {kd : Int → Int} {wy : Int → Int} {ll : Int → Int} {td : Int → Int} {ls : Int → Int} {wh : Int → Int} {F : Int → Prop} {fl : Int} {fc : Int} (h : pj_J W sd op ed li st lv nm inw tow bst tst exp om ps dl dn af c0 en pd rp rv fw cl cw tk nL kd wy ll td ls wh F fl fc) : pj_AF W sd op ed tst af nL kd wy wh := by
  obtain ⟨cR, cN0, cN1, cN1w, cER, cN1c, cN2, cN2e, cN2b, cN4e, cN4b, cN5, cN7, cN10, cN10e, cN13, cC1, cC2, cR3a, cE1, cU, cA1, cA2, cEC, cR3, cN11, cN12, cN3, cRJ, cFW, cPD, cCC, cCD, cRP, cRP1, cCR, cZ1, cZ0, cTK, cK2, cWH, cFI, cL0, cFC, cL0u, cOC, cCT, cL1, cL1e, cL1o, cL1b, cL1g, cL2, cL3, cL4, cAF, cRT, cCV, cL5, cL5o, cL5u, cL6, cL6u⟩ := h
  exact cAF
theorem pg_RT {W : Int → Prop} {sd : Int → Int} {op : Int → Int} {ed : Int → Int} {li : Int → Int → Prop} {st : Int → Int} {lv : Int → Int} {nm : Int → Int} {inw : Int → Int} {tow : Int → Int} {bst : Int → Int} {tst : Int → Int} {exp : Int → Int} {om : Int → Int} {ps : Int → Int} {dl : Int → Int} {dn : Int → Int} {af : Int → Int} {c0 : Int → Int} {en : Int → Int} {pd : Int → Int} {rp : Int → Int} {rv : Int → Int} {fw : Int → Int} {cl : Int → Int} {cw : Int → Int} {tk : Int → Int} {nL : Int} {kd : Int → Int} {wy : Int → Int} {ll : Int → Int} {td : Int → Int} {ls : Int → Int} {wh : Int → Int} {F : Int → Prop} {fl : Int} {fc : Int} (h : pj_J W sd op ed li st lv nm inw tow bst tst exp om ps dl dn af c0 en pd rp rv fw cl cw tk nL kd wy ll td ls wh F fl fc) : pj_RT sd ed tst nL kd wy wh := by
  obtain ⟨cR, cN0, cN1, cN1w, cER, cN1c, cN2, cN2e, cN2b, cN4e, cN4b, cN5, cN7, cN10, cN10e, cN13, cC1, cC2, cR3a, cE1, cU, cA1, cA2, cEC, cR3, cN11, cN12, cN3, cRJ, cFW, cPD, cCC, cCD, cRP, cRP1, cCR, cZ1, cZ0, cTK, cK2, cWH, cFI, cL0, cFC, cL0u, cOC, cCT, cL1, cL1e, cL1o, cL1b, cL1g, cL2, cL3, cL4, cAF, cRT, cCV, cL5, cL5o, cL5u, cL6, cL6u⟩ := h
  exact cRT
theorem pg_CV {W : Int → Prop} {sd : Int → Int} {op : Int → Int} {ed : Int → Int} {li : Int → Int → Prop} {st : Int → Int} {lv : Int → Int} {nm : Int → Int} {inw : Int → Int} {tow : Int → Int} {bst : Int → Int} {tst : Int → Int} {exp : Int → Int} {om : Int → Int} {ps : Int → Int} {dl : Int → Int} {dn : Int → Int} {af : Int → Int} {c0 : Int → Int} {en : Int → Int} {pd : Int → Int} {rp : Int → Int} {rv : Int → Int} {fw : Int → Int} {cl : Int → Int} {cw : Int → Int} {tk : Int → Int} {nL : Int} {kd : Int → Int} {wy : Int → Int} {ll : Int → Int} {td : Int → Int} {ls : Int → Int} {wh : Int → Int} {F : Int → Prop} {fl : Int} {fc : Int} (h : pj_J W sd op ed li st lv nm inw tow bst tst exp om ps dl dn af c0 en pd rp rv fw cl cw tk nL kd wy ll td ls wh F fl fc) : pj_CV W sd op ed tst nL kd wy wh := by
  obtain ⟨cR, cN0, cN1, cN1w, cER, cN1c, cN2, cN2e, cN2b, cN4e, cN4b, cN5, cN7, cN10, cN10e, cN13, cC1, cC2, cR3a, cE1, cU, cA1, cA2, cEC, cR3, cN11, cN12, cN3, cRJ, cFW, cPD, cCC, cCD, cRP, cRP1, cCR, cZ1, cZ0, cTK, cK2, cWH, cFI, cL0, cFC, cL0u, cOC, cCT, cL1, cL1e, cL1o, cL1b, cL1g, cL2, cL3, cL4, cAF, cRT, cCV, cL5, cL5o, cL5u, cL6, cL6u⟩ := h
  exact cCV
theorem pg_L5 {W : Int → Prop} {sd : Int → Int} {op : Int → Int} {ed : Int → Int} {li : Int → Int → Prop} {st : Int → Int} {lv : Int → Int} {nm : Int → Int} {inw : Int → Int} {tow : Int → Int} {bst : Int → Int} {tst : Int → Int} {exp : Int → Int} {om : Int → Int} {ps : Int → Int} {dl : Int → Int} {dn : Int → Int} {af : Int → Int} {c0 : Int → Int} {en : Int → Int} {pd : Int → Int} {rp : Int → Int} {rv : Int → Int} {fw : Int → Int} {cl : Int → Int} {cw : Int → Int} {tk : Int → Int} {nL : Int} {kd : Int → Int} {wy : Int → Int} {ll : Int → Int} {td : Int → Int} {ls : Int → Int} {wh : Int → Int} {F : Int → Prop} {fl : Int} {fc : Int} (h : pj_J W sd op ed li st lv nm inw tow bst tst exp om ps dl dn af c0 en pd rp rv fw cl cw tk nL kd wy ll td ls wh F fl fc) : pj_L5 sd op ed st lv nm inw bst om ps dl pd rp rv cl tk nL kd wy td wh := by
  obtain ⟨cR, cN0, cN1, cN1w, cER, cN1c, cN2, cN2e, cN2b, cN4e, cN4b, cN5, cN7, cN10, cN10e, cN13, cC1, cC2, cR3a, cE1, cU, cA1, cA2, cEC, cR3, cN11, cN12, cN3, cRJ, cFW, cPD, cCC, cCD, cRP, cRP1, cCR, cZ1, cZ0, cTK, cK2, cWH, cFI, cL0, cFC, cL0u, cOC, cCT, cL1, cL1e, cL1o, cL1b, cL1g, cL2, cL3, cL4, cAF, cRT, cCV, cL5, cL5o, cL5u, cL6, cL6u⟩ := h
  exact cL5
theorem pg_L5o {W : Int → Prop} {sd : Int → Int} {op : Int → Int} {ed : Int → Int} {li : Int → Int → Prop} {st : Int → Int} {lv : Int → Int} {nm : Int → Int} {inw : Int → Int} {tow : Int → Int} {bst : Int → Int} {tst : Int → Int} {exp : Int → Int} {om : Int → Int} {ps : Int → Int} {dl : Int → Int} {dn : Int → Int} {af : Int → Int} {c0 : Int → Int} {en : Int → Int} {pd : Int → Int} {rp : Int → Int} {rv : Int → Int} {fw : Int → Int} {cl : Int → Int} {cw : Int → Int} {tk : Int → Int} {nL : Int} {kd : Int → Int} {wy : Int → Int} {ll : Int → Int} {td : Int → Int} {ls : Int → Int} {wh : Int → Int} {F : Int → Prop} {fl : Int} {fc : Int} (h : pj_J W sd op ed li st lv nm inw tow bst tst exp om ps dl dn af c0 en pd rp rv fw cl cw tk nL kd wy ll td ls wh F fl fc) : pj_L5o sd op ed lv cl nL kd wy wh := by
  obtain ⟨cR, cN0, cN1, cN1w, cER, cN1c, cN2, cN2e, cN2b, cN4e, cN4b, cN5, cN7, cN10, cN10e, cN13, cC1, cC2, cR3a, cE1, cU, cA1, cA2, cEC, cR3, cN11, cN12, cN3, cRJ, cFW, cPD, cCC, cCD, cRP, cRP1, cCR, cZ1, cZ0, cTK, cK2, cWH, cFI, cL0, cFC, cL0u, cOC, cCT, cL1, cL1e, cL1o, cL1b, cL1g, cL2, cL3, cL4, cAF, cRT, cCV, cL5, cL5o, cL5u, cL6, cL6u⟩ := h
  exact cL5o
theorem pg_L5u {W : Int → Prop} {sd : Int → Int} {op : Int → Int} {ed : Int → Int} {li : Int → Int → Prop} {st : Int → Int} {lv : Int → Int} {nm : Int → Int} {inw : Int → Int} {tow : Int → Int} {bst : Int → Int} {tst : Int → Int} {exp : Int → Int} {om : Int → Int} {ps : Int → Int} {dl : Int → Int} {dn : Int → Int} {af : Int → Int} {c0 : Int → Int} {en : Int → Int} {pd : Int → Int} {rp : Int → Int} {rv : Int → Int} {fw : Int → Int} {cl : Int → Int} {cw : Int → Int} {tk : Int → Int} {nL : Int} {kd : Int → Int} {wy : Int → Int} {ll : Int → Int} {td : Int → Int} {ls : Int → Int} {wh : Int → Int} {F : Int → Prop} {fl : Int} {fc : Int} (h : pj_J W sd op ed li st lv nm inw tow bst tst exp om ps dl dn af c0 en pd rp rv fw cl cw tk nL kd wy ll td ls wh F fl fc) : pj_L5u nL kd wy wh := by
  obtain ⟨cR, cN0, cN1, cN1w, cER, cN1c, cN2, cN2e, cN2b, cN4e, cN4b, cN5, cN7, cN10, cN10e, cN13, cC1, cC2, cR3a, cE1, cU, cA1, cA2, cEC, cR3, cN11, cN12, cN3, cRJ, cFW, cPD, cCC, cCD, cRP, cRP1, cCR, cZ1, cZ0, cTK, cK2, cWH, cFI, cL0, cFC, cL0u, cOC, cCT, cL1, cL1e, cL1o, cL1b, cL1g, cL2, cL3, cL4, cAF, cRT, cCV, cL5, cL5o, cL5u, cL6, cL6u⟩ := h
  exact cL5u
theorem pg_L6 {W : Int → Prop} {sd : Int → Int} {op : Int → Int} {ed : Int → Int} {li : Int → Int → Prop} {st : Int → Int} {lv : Int → Int} {nm : Int → Int} {inw : Int → Int} {tow : Int → Int} {bst : Int → Int} {tst : Int → Int} {exp : Int → Int} {om : Int → Int} {ps : Int → Int} {dl : Int → Int} {dn : Int → Int} {af : Int → Int} {c0 : Int → Int} {en : Int → Int} {pd : Int → Int} {rp : Int → Int} {rv : Int → Int} {fw : Int → Int} {cl : Int → Int} {cw : Int → Int} {tk : Int → Int} {nL : Int} {kd : Int → Int} {wy : Int → Int} {ll : Int → Int} {td : Int → Int} {ls : Int → Int} {wh : Int → Int} {F : Int → Prop} {fl : Int} {fc : Int} (h : pj_J W sd op ed li st lv nm inw tow bst tst exp om ps dl dn af c0 en pd rp rv fw cl cw tk nL kd wy ll td ls wh F fl fc) : pj_L6 sd op ed st lv nm tow om ps dl cw tk nL kd wy wh := by
  obtain ⟨cR, cN0, cN1, cN1w, cER, cN1c, cN2, cN2e, cN2b, cN4e, cN4b, cN5, cN7, cN10, cN10e, cN13, cC1, cC2, cR3a, cE1, cU, cA1, cA2, cEC, cR3, cN11, cN12, cN3, cRJ, cFW, cPD, cCC, cCD, cRP, cRP1, cCR, cZ1, cZ0, cTK, cK2, cWH, cFI, cL0, cFC, cL0u, cOC, cCT, cL1, cL1e, cL1o, cL1b, cL1g, cL2, cL3, cL4, cAF, cRT, cCV, cL5, cL5o, cL5u, cL6, cL6u⟩ := h
  exact cL6
theorem pg_L6u {W : Int → Prop} {sd : Int → Int} {op : Int → Int} {ed : Int → Int} {li : Int → Int → Prop} {st : Int → Int} {lv : Int → Int} {nm : Int → Int} {inw : Int → Int} {tow : Int → Int} {bst : Int → Int} {tst : Int → Int} {exp : Int → Int} {om : Int → Int} {ps : Int → Int} {dl : Int → Int} {dn : Int → Int} {af : Int → Int} {c0 : Int → Int} {en : Int → Int} {pd : Int → Int} {rp : Int → Int} {rv : Int → Int} {fw : Int → Int} {cl : Int → Int} {cw : Int → Int} {tk : Int → Int} {nL : Int} {kd : Int → Int} {wy : Int → Int} {ll : Int → Int} {td : Int → Int} {ls : Int → Int} {wh : Int → Int} {F : Int → Prop} {fl : Int} {fc : Int} (h : pj_J W sd op ed li st lv nm inw tow bst tst exp om ps dl dn af c0 en pd rp rv fw cl cw tk nL kd wy ll td ls wh F fl fc) : pj_L6u sd op nm nL kd wy wh := by
  obtain ⟨cR, cN0, cN1, cN1w, cER, cN1c, cN2, cN2e, cN2b, cN4e, cN4b, cN5, cN7, cN10, cN10e, cN13, cC1, cC2, cR3a, cE1, cU, cA1, cA2, cEC, cR3, cN11, cN12, cN3, cRJ, cFW, cPD, cCC, cCD, cRP, cRP1, cCR, cZ1, cZ0, cTK, cK2, cWH, cFI, cL0, cFC, cL0u, cOC, cCT, cL1, cL1e, cL1o, cL1b, cL1g, cL2, cL3, cL4, cAF, cRT, cCV, cL5, cL5o, cL5u, cL6, cL6u⟩ := h
  exact cL6u
set_option maxHeartbeats 1000000 in
theorem pt_ex_N7 {W : Int → Prop} {sd : Int → Int} {op : Int → Int} {ed : Int → Int} {st : Int → Int} {tst : Int → Int} {exp : Int → Int} {nL : Int} {b k : Int} (hG : pj_G W sd op ed) (p0_ : st b = 1) (p1_ : 0 ≤ nL) (cN7 : pj_N7 st tst exp) : pj_N7 st tst (pu exp b k) := by
  obtain ⟨hop, hed⟩ := hG
  unfold pj_N7 at *
  intro n0
  simp only [pu]
  have cN7_0 := cN7 b
  have cN7_1 := cN7 n0
  clear hop hed cN7
  grind (splits := 24)

theorem pj_ex {W : Int → Prop} {sd op ed : Int → Int} {li : Int → Int → Prop} {st lv nm inw tow bst tst exp om ps dl dn af c0 en pd rp rv fw cl cw tk kd wy ll td ls wh : Int → Int} {nL : Int} {F F2 : Int → Prop} {fl fc : Int} {b k : Int} (hG : pj_G W sd op ed) (p0_ : st b = 1) (p1_ : 0 ≤ nL) (h : pj_J W sd op ed li st lv nm inw tow bst tst exp om ps dl dn af c0 en pd rp rv fw cl cw tk nL kd wy ll td ls wh F fl fc) : pj_J W sd op ed li st lv nm inw tow bst tst (pu exp b k) om ps dl dn af c0 en pd rp rv fw cl cw tk nL kd wy ll td ls wh F fl fc := by
  obtain ⟨cR, cN0, cN1, cN1w, cER, cN1c, cN2, cN2e, cN2b, cN4e, cN4b, cN5, cN7, cN10, cN10e, cN13, cC1, cC2, cR3a, cE1, cU, cA1, cA2, cEC, cR3, cN11, cN12, cN3, cRJ, cFW, cPD, cCC, cCD, cRP, cRP1, cCR, cZ1, cZ0, cTK, cK2, cWH, cFI, cL0, cFC, cL0u, cOC, cCT, cL1, cL1e, cL1o, cL1b, cL1g, cL2, cL3, cL4, cAF, cRT, cCV, cL5, cL5o, cL5u, cL6, cL6u⟩ := h
  exact ⟨cR, cN0, cN1, cN1w, cER, cN1c, cN2, cN2e, cN2b, cN4e, cN4b, cN5, pt_ex_N7 hG p0_ p1_ cN7, cN10, cN10e, cN13, cC1, cC2, cR3a, cE1, cU, cA1, cA2, cEC, cR3, cN11, cN12, cN3, cRJ, cFW, cPD, cCC, cCD, cRP, cRP1, cCR, cZ1, cZ0, cTK, cK2, cWH, cFI, cL0, cFC, cL0u, cOC, cCT, cL1, cL1e, cL1o, cL1b, cL1g, cL2, cL3, cL4, cAF, cRT, cCV, cL5, cL5o, cL5u, cL6, cL6u⟩

set_option maxHeartbeats 1000000 in
theorem pf_ab {W : Int → Prop} {sd : Int → Int} {op : Int → Int} {ed : Int → Int} {st : Int → Int} {lv : Int → Int} {nm : Int → Int} {om : Int → Int} {ps : Int → Int} {dl : Int → Int} {dn : Int → Int} {af : Int → Int} {c0 : Int → Int} {en : Int → Int} {cl : Int → Int} {cw : Int → Int} {nL : Int} {kd : Int → Int} {wy : Int → Int} {ll : Int → Int} {wh : Int → Int} {F : Int → Prop} {fl : Int} {fc : Int} {F2 : Int → Prop} {b k : Int} (hG : pj_G W sd op ed) (nL0 : 0 ≤ nL) (hb : W b) (k0 : 0 ≤ k) (k1 : k < nL) (k2 : wh k ≠ 2) (k3 : kd k = 0) (k4 : wy k = op b) (hf : ∀ j, 0 ≤ j → j < k → wy j = wy k → wh j ≠ 0) (nf : ∀ v, ¬ F v) (r2 : ∀ v, F2 v ↔ v = b) (r3 : ll k < lv (sd b)) (cN0 : pj_N0 st lv ps dl af) (cN1 : pj_N1 st lv om ps dl) (cN2 : pj_N2 W sd ed om en) (cC2 : pj_C2 lv nm dl dn cl) (cU : pj_U W sd op ed lv nm om ps dl en cl) (cA1 : pj_A1 W sd op ed lv nm om dl dn en F fl fc) (cA2 : pj_A2 W sd op ed st lv nm om ps dl dn cl) (cL0 : pj_L0 sd op ed lv nm om ps dl c0 en cw nL kd wy ll wh) : (om (sd (op b)) = (ed b)) ∧ (ps (sd (op b)) = 1) ∧ (dl (sd (op b)) = lv (sd (op b))) ∧ (ll k = lv (sd (op b))) ∧ (lv (sd (op b)) < lv (sd b)) ∧ (lv (sd (op b)) = 0 ∨ nm (sd (op b)) ≠ nm (sd b)) ∧ (en b ≠ 2) ∧ (en b ≠ 1) ∧ (om (sd b) ≠ (ed b)) ∧ (st (sd b) ≠ 0) ∧ (st (sd (op b)) = 2) ∧ (cl (ed b) = 0) := by
  have hop := hG.1
  have hed := hG.2
  unfold pj_N0 pj_N1 pj_N2 pj_C2 pj_U pj_A1 pj_A2 pj_L0 at *
  have g0 := hop b hb
  have i0 := cL0 k
  have i1 := cN0 (sd b)
  have i2 := cN0 (sd (op b))
  have i3 := cN1 (sd b)
  have i4 := cA1 (op b)
  have i5 := cA2 (op b)
  have i6 := cA2 b
  have i7 := cN2 b
  have i8 := cN2 (op b)
  have i9 := cU (op b)
  have i10 := cC2 (sd b)
  have i11 := cC2 (sd (op b))
  have in1 := nf b
  have in2 := nf (op b)
  clear hG hop hed cN0 cN1 cN2 cC2 cU cA1 cA2 cL0
  refine ⟨?_, ?_, ?_, ?_, ?_, ?_, ?_, ?_, ?_, ?_, ?_, ?_⟩ <;> first | assumption | (clear hf nf r2; grind (splits := 24))

theorem pk_ab {W : Int → Prop} {sd : Int → Int} {op : Int → Int} {ed : Int → Int} {li : Int → Int → Prop} {st : Int → Int} {lv : Int → Int} {nm : Int → Int} {inw : Int → Int} {tow : Int → Int} {bst : Int → Int} {tst : Int → Int} {exp : Int → Int} {om : Int → Int} {ps : Int → Int} {dl : Int → Int} {dn : Int → Int} {af : Int → Int} {c0 : Int → Int} {en : Int → Int} {pd : Int → Int} {rp : Int → Int} {rv : Int → Int} {fw : Int → Int} {cl : Int → Int} {cw : Int → Int} {tk : Int → Int} {nL : Int} {kd : Int → Int} {wy : Int → Int} {ll : Int → Int} {td : Int → Int} {ls : Int → Int} {wh : Int → Int} {F : Int → Prop} {fl : Int} {fc : Int} {F2 : Int → Prop} {b k : Int} (hG : pj_G W sd op ed) (nL0 : 0 ≤ nL) (hb : W b) (k0 : 0 ≤ k) (k1 : k < nL) (k2 : wh k ≠ 2) (k3 : kd k = 0) (k4 : wy k = op b) (hf : ∀ j, 0 ≤ j → j < k → wy j = wy k → wh j ≠ 0) (nf : ∀ v, ¬ F v) (r2 : ∀ v, F2 v ↔ v = b) (r3 : ll k < lv (sd b)) (h : pj_J W sd op ed li st lv nm inw tow bst tst exp om ps dl dn af c0 en pd rp rv fw cl cw tk nL kd wy ll td ls wh F fl fc) : pj_J W sd op ed li st lv nm inw tow bst tst exp om ps dl dn af c0 (pu en b 1) pd rp rv fw cl cw tk nL kd wy ll td ls (pu wh k 2) (F2) (lv (sd (op b))) (nm (sd (op b))) := by
  have H := h
  obtain ⟨cR, cN0, cN1, cN1w, cER, cN1c, cN2, cN2e, cN2b, cN4e, cN4b, cN5, cN7, cN10, cN10e, cN13, cC1, cC2, cR3a, cE1, cU, cA1, cA2, cEC, cR3, cN11, cN12, cN3, cRJ, cFW, cPD, cCC, cCD, cRP, cRP1, cCR, cZ1, cZ0, cTK, cK2, cWH, cFI, cL0, cFC, cL0u, cOC, cCT, cL1, cL1e, cL1o, cL1b, cL1g, cL2, cL3, cL4, cAF, cRT, cCV, cL5, cL5o, cL5u, cL6, cL6u⟩ := h
  have X := pf_ab hG nL0 hb k0 k1 k2 k3 k4 hf nf r2 r3 cN0 cN1 cN2 cC2 cU cA1 cA2 cL0
  obtain ⟨f0, f1, f2, f3, f4, f5, f6, f7, f8, f9, f10, f11⟩ := X
  exact pj_ab hG hb k0 k1 k2 k3 k4 hf nf r2 f0 f1 f2 f3 f4 f5 f6 f7 f8 f9 f10 f11 nL0 H

set_option maxHeartbeats 1000000 in
theorem pf_sf {W : Int → Prop} {sd : Int → Int} {op : Int → Int} {ed : Int → Int} {st : Int → Int} {lv : Int → Int} {nm : Int → Int} {om : Int → Int} {ps : Int → Int} {dl : Int → Int} {dn : Int → Int} {af : Int → Int} {en : Int → Int} {pd : Int → Int} {cl : Int → Int} {nL : Int} {kd : Int → Int} {wy : Int → Int} {wh : Int → Int} {F : Int → Prop} {fl : Int} {fc : Int} {F2 : Int → Prop} {b : Int} (hG : pj_G W sd op ed) (nL0 : 0 ≤ nL) (hb : W b) (hF : F b) (r2 : ∀ v, F2 v ↔ (F v ∧ v ≠ b)) (r3 : om (sd b) ≠ (ed b)) (r4 : en b = 1) (r5 : pd b = 0) (r6 : nm (sd b) ≠ (ed b)) (r7 : st (sd b) = 1) (cN0 : pj_N0 st lv ps dl af) (cN1 : pj_N1 st lv om ps dl) (cC1 : pj_C1 lv nm cl) (cR3a : pj_R3a st lv dl) (cA1 : pj_A1 W sd op ed lv nm om dl dn en F fl fc) (cR3 : pj_R3 W sd op ed st om pd) (cN3 : pj_N3 W sd op ed om en) (cFC : pj_FC op nL kd wy wh F) : (om (sd (op b)) = (ed b)) ∧ (dl (sd (op b)) = fl) ∧ (dn (sd (op b)) = fc) ∧ (fl < lv (sd b)) ∧ (0 ≤ fl) ∧ (st (sd (op b)) = 2) ∧ (cl (nm (sd b)) = lv (sd b)) ∧ (lv (sd (op b)) ≤ fl) ∧ (∀ j, 0 ≤ j → j < nL → wh j ≠ 2 → kd j = 0 → wy j ≠ op b) ∧ (dl (sd b) = lv (sd b) ∨ st (sd b) = 2) := by
  have hop := hG.1
  have hed := hG.2
  unfold pj_N0 pj_N1 pj_C1 pj_R3a pj_A1 pj_R3 pj_N3 pj_FC at *
  have x1 : ∀ j, 0 ≤ j → j < nL → wh j ≠ 2 → kd j = 0 → wy j ≠ op b := by
    intro j h1 h2 h3 h4 h5
    have h6 := cFC j h1 h2 h3 h4
    rw [h5, (hop b hb).2.1] at h6
    exact h6 hF
  have g0 := hop b hb
  have i0 := cA1 (op b)
  have i1 := cN3 b
  have i2 := cN0 (sd b)
  have i3 := cN0 (sd (op b))
  have i4 := cR3 (op b)
  have i5 := cN1 (sd (op b))
  have i6 := cC1 (sd b)
  have i7 := cR3a (sd b)
  clear hG hop hed cN0 cN1 cC1 cR3a cA1 cR3 cN3 cFC
  refine ⟨?_, ?_, ?_, ?_, ?_, ?_, ?_, ?_, ?_, ?_⟩ <;> first | assumption | (clear r2 x1; grind (splits := 24))

theorem pk_sf {W : Int → Prop} {sd : Int → Int} {op : Int → Int} {ed : Int → Int} {li : Int → Int → Prop} {st : Int → Int} {lv : Int → Int} {nm : Int → Int} {inw : Int → Int} {tow : Int → Int} {bst : Int → Int} {tst : Int → Int} {exp : Int → Int} {om : Int → Int} {ps : Int → Int} {dl : Int → Int} {dn : Int → Int} {af : Int → Int} {c0 : Int → Int} {en : Int → Int} {pd : Int → Int} {rp : Int → Int} {rv : Int → Int} {fw : Int → Int} {cl : Int → Int} {cw : Int → Int} {tk : Int → Int} {nL : Int} {kd : Int → Int} {wy : Int → Int} {ll : Int → Int} {td : Int → Int} {ls : Int → Int} {wh : Int → Int} {F : Int → Prop} {fl : Int} {fc : Int} {F2 : Int → Prop} {b : Int} (hG : pj_G W sd op ed) (nL0 : 0 ≤ nL) (hb : W b) (hF : F b) (r2 : ∀ v, F2 v ↔ (F v ∧ v ≠ b)) (r3 : om (sd b) ≠ (ed b)) (r4 : en b = 1) (r5 : pd b = 0) (r6 : nm (sd b) ≠ (ed b)) (r7 : st (sd b) = 1) (h : pj_J W sd op ed li st lv nm inw tow bst tst exp om ps dl dn af c0 en pd rp rv fw cl cw tk nL kd wy ll td ls wh F fl fc) : pj_J W sd op ed li st lv nm inw tow bst tst exp om ps (pu dl (sd (op b)) (lv (sd b))) (pu dn (sd (op b)) (nm (sd b))) af c0 en (pu pd b 1) rp rv fw cl cw tk (nL + 1) (pu kd nL 1) (pu wy nL b) (pu ll nL (lv (sd b))) (pu td nL (nm (sd b))) (pu ls nL (st (sd b))) (pu wh nL 0) (F2) fl fc := by
  have H := h
  obtain ⟨cR, cN0, cN1, cN1w, cER, cN1c, cN2, cN2e, cN2b, cN4e, cN4b, cN5, cN7, cN10, cN10e, cN13, cC1, cC2, cR3a, cE1, cU, cA1, cA2, cEC, cR3, cN11, cN12, cN3, cRJ, cFW, cPD, cCC, cCD, cRP, cRP1, cCR, cZ1, cZ0, cTK, cK2, cWH, cFI, cL0, cFC, cL0u, cOC, cCT, cL1, cL1e, cL1o, cL1b, cL1g, cL2, cL3, cL4, cAF, cRT, cCV, cL5, cL5o, cL5u, cL6, cL6u⟩ := h
  have X := pf_sf hG nL0 hb hF r2 r3 r4 r5 r6 r7 cN0 cN1 cC1 cR3a cA1 cR3 cN3 cFC
  obtain ⟨f0, f1, f2, f3, f4, f5, f6, f7, f8, f9⟩ := X
  exact pj_sf (k := 0) hG hb hF r2 f0 f1 f2 f3 f4 r3 r4 r5 r7 f5 r6 f6 f7 f8 f9 nL0 H

set_option maxHeartbeats 1000000 in
theorem pf_sg {W : Int → Prop} {sd : Int → Int} {op : Int → Int} {ed : Int → Int} {st : Int → Int} {lv : Int → Int} {nm : Int → Int} {om : Int → Int} {ps : Int → Int} {dl : Int → Int} {dn : Int → Int} {af : Int → Int} {en : Int → Int} {pd : Int → Int} {cl : Int → Int} {nL : Int} {kd : Int → Int} {wy : Int → Int} {wh : Int → Int} {F : Int → Prop} {fl : Int} {fc : Int} {F2 : Int → Prop} {b : Int} (hG : pj_G W sd op ed) (nL0 : 0 ≤ nL) (hb : W b) (hF : F b) (r2 : ∀ v, F2 v ↔ (F v ∧ v ≠ b)) (r3 : om (sd b) ≠ (ed b)) (r4 : en b = 1) (r5 : pd b = 0) (r6 : nm (sd b) ≠ (ed b)) (r7 : st (sd b) = 2) (cN0 : pj_N0 st lv ps dl af) (cN1 : pj_N1 st lv om ps dl) (cC1 : pj_C1 lv nm cl) (cR3a : pj_R3a st lv dl) (cA1 : pj_A1 W sd op ed lv nm om dl dn en F fl fc) (cR3 : pj_R3 W sd op ed st om pd) (cN3 : pj_N3 W sd op ed om en) (cFC : pj_FC op nL kd wy wh F) : (om (sd (op b)) = (ed b)) ∧ (dl (sd (op b)) = fl) ∧ (dn (sd (op b)) = fc) ∧ (fl < lv (sd b)) ∧ (0 ≤ fl) ∧ (st (sd (op b)) = 2) ∧ (cl (nm (sd b)) = lv (sd b)) ∧ (lv (sd (op b)) ≤ fl) ∧ (∀ j, 0 ≤ j → j < nL → wh j ≠ 2 → kd j = 0 → wy j ≠ op b) ∧ (dl (sd b) = lv (sd b) ∨ st (sd b) = 2) := by
  have hop := hG.1
  have hed := hG.2
  unfold pj_N0 pj_N1 pj_C1 pj_R3a pj_A1 pj_R3 pj_N3 pj_FC at *
  have x1 : ∀ j, 0 ≤ j → j < nL → wh j ≠ 2 → kd j = 0 → wy j ≠ op b := by
    intro j h1 h2 h3 h4 h5
    have h6 := cFC j h1 h2 h3 h4
    rw [h5, (hop b hb).2.1] at h6
    exact h6 hF
  have g0 := hop b hb
  have i0 := cA1 (op b)
  have i1 := cN3 b
  have i2 := cN0 (sd b)
  have i3 := cN0 (sd (op b))
  have i4 := cR3 (op b)
  have i5 := cN1 (sd (op b))
  have i6 := cC1 (sd b)
  have i7 := cR3a (sd b)
  clear hG hop hed cN0 cN1 cC1 cR3a cA1 cR3 cN3 cFC
  refine ⟨?_, ?_, ?_, ?_, ?_, ?_, ?_, ?_, ?_, ?_⟩ <;> first | assumption | (clear r2 x1; grind (splits := 24))

theorem pk_sg {W : Int → Prop} {sd : Int → Int} {op : Int → Int} {ed : Int → Int} {li : Int → Int → Prop} {st : Int → Int} {lv : Int → Int} {nm : Int → Int} {inw : Int → Int} {tow : Int → Int} {bst : Int → Int} {tst : Int → Int} {exp : Int → Int} {om : Int → Int} {ps : Int → Int} {dl : Int → Int} {dn : Int → Int} {af : Int → Int} {c0 : Int → Int} {en : Int → Int} {pd : Int → Int} {rp : Int → Int} {rv : Int → Int} {fw : Int → Int} {cl : Int → Int} {cw : Int → Int} {tk : Int → Int} {nL : Int} {kd : Int → Int} {wy : Int → Int} {ll : Int → Int} {td : Int → Int} {ls : Int → Int} {wh : Int → Int} {F : Int → Prop} {fl : Int} {fc : Int} {F2 : Int → Prop} {b : Int} (hG : pj_G W sd op ed) (nL0 : 0 ≤ nL) (hb : W b) (hF : F b) (r2 : ∀ v, F2 v ↔ (F v ∧ v ≠ b)) (r3 : om (sd b) ≠ (ed b)) (r4 : en b = 1) (r5 : pd b = 0) (r6 : nm (sd b) ≠ (ed b)) (r7 : st (sd b) = 2) (h : pj_J W sd op ed li st lv nm inw tow bst tst exp om ps dl dn af c0 en pd rp rv fw cl cw tk nL kd wy ll td ls wh F fl fc) : pj_J W sd op ed li st lv nm inw tow bst tst exp om ps (pu dl (sd (op b)) (lv (sd b))) (pu dn (sd (op b)) (nm (sd b))) af c0 en pd rp rv fw cl cw tk (nL + 1) (pu kd nL 1) (pu wy nL b) (pu ll nL (lv (sd b))) (pu td nL (nm (sd b))) (pu ls nL (st (sd b))) (pu wh nL 0) (F2) fl fc := by
  have H := h
  obtain ⟨cR, cN0, cN1, cN1w, cER, cN1c, cN2, cN2e, cN2b, cN4e, cN4b, cN5, cN7, cN10, cN10e, cN13, cC1, cC2, cR3a, cE1, cU, cA1, cA2, cEC, cR3, cN11, cN12, cN3, cRJ, cFW, cPD, cCC, cCD, cRP, cRP1, cCR, cZ1, cZ0, cTK, cK2, cWH, cFI, cL0, cFC, cL0u, cOC, cCT, cL1, cL1e, cL1o, cL1b, cL1g, cL2, cL3, cL4, cAF, cRT, cCV, cL5, cL5o, cL5u, cL6, cL6u⟩ := h
  have X := pf_sg hG nL0 hb hF r2 r3 r4 r5 r6 r7 cN0 cN1 cC1 cR3a cA1 cR3 cN3 cFC
  obtain ⟨f0, f1, f2, f3, f4, f5, f6, f7, f8, f9⟩ := X
  exact pj_sg (k := 0) hG hb hF r2 f0 f1 f2 f3 f4 r3 r4 r5 r7 f5 r6 f6 f7 f8 f9 nL0 H

set_option maxHeartbeats 1000000 in
theorem pf_mg {W : Int → Prop} {sd : Int → Int} {op : Int → Int} {ed : Int → Int} {st : Int → Int} {lv : Int → Int} {nm : Int → Int} {om : Int → Int} {ps : Int → Int} {dl : Int → Int} {dn : Int → Int} {af : Int → Int} {c0 : Int → Int} {en : Int → Int} {cl : Int → Int} {cw : Int → Int} {nL : Int} {kd : Int → Int} {wy : Int → Int} {ll : Int → Int} {wh : Int → Int} {F : Int → Prop} {fl : Int} {fc : Int} {b k : Int} (hG : pj_G W sd op ed) (nL0 : 0 ≤ nL) (hb : W b) (k0 : 0 ≤ k) (k1 : k < nL) (k2 : wh k ≠ 2) (k3 : kd k = 0) (k4 : wy k = op b) (hf : ∀ j, 0 ≤ j → j < k → wy j = wy k → wh j ≠ 0) (nf : ∀ v, ¬ F v) (r2 : ¬ ll k < lv (sd b)) (r3 : en b ≠ 0) (cN0 : pj_N0 st lv ps dl af) (cER : pj_ER W en) (cN2 : pj_N2 W sd ed om en) (cC1 : pj_C1 lv nm cl) (cC2 : pj_C2 lv nm dl dn cl) (cA1 : pj_A1 W sd op ed lv nm om dl dn en F fl fc) (cA2 : pj_A2 W sd op ed st lv nm om ps dl dn cl) (cEC : pj_EC W sd op ed lv nm om ps dl nL kd wy wh F) (cZ0 : pj_Z0 W sd ed c0 cl) (cL0 : pj_L0 sd op ed lv nm om ps dl c0 en cw nL kd wy ll wh) : (om (sd (op b)) = (ed b)) ∧ (om (sd b) = (ed b)) ∧ (ps (sd (op b)) = 1) ∧ (ps (sd b) = 1) ∧ (dl (sd (op b)) = lv (sd (op b))) ∧ (lv (sd (op b)) = lv (sd b)) ∧ (lv (sd (op b)) = 0 ∨ nm (sd (op b)) ≠ nm (sd b)) ∧ (en b = 1) ∧ (en (op b) = 1) ∧ (st (sd (op b)) = 2) ∧ (st (sd b) = 2) ∧ ((cl (ed b) = 0 ∧ dl (sd b) = lv (sd b)) ∨ (cl (ed b) = lv (sd b) + 1 ∧ dl (sd b) = cl (ed b) ∧ dn (sd b) = (ed b))) ∧ (1 ≤ lv (sd b) → cl (ed b) = 0 → cw (nm (sd b)) = b ∧ cw (nm (sd (op b))) = op b ∧ cl (nm (sd b)) = lv (sd b) ∧ cl (nm (sd (op b))) = lv (sd b)) ∧ (lv (sd b) = 0 → c0 (sd b) = (ed b) ∧ c0 (sd (op b)) = (ed b)) ∧ (0 ≤ lv (sd b)) := by
  have hop := hG.1
  have hed := hG.2
  unfold pj_N0 pj_ER pj_N2 pj_C1 pj_C2 pj_A1 pj_A2 pj_EC pj_Z0 pj_L0 at *
  have x1 : om (sd b) = (ed b) → ps (sd b) = 1 → dl (sd b) = lv (sd b) → (lv (sd b) = 0 ∨ nm (sd b) ≠ nm (sd (op b))) → (1 ≤ lv (sd b) → cw (nm (sd b)) = b) ∧ (lv (sd b) = 0 → c0 (sd b) = (ed b)) := by
    intro h1 h2 h3 h4
    rcases cEC b hb h1 h2 h3 h4 with h5 | ⟨j, h5, h6, h7, h8, h9⟩
    · exact absurd h5 (nf _)
    · have h10 := cL0 j h5 h6 h7 h8
      rw [h9] at h10
      exact ⟨h10.2.2.2.2.2.2.2.1, h10.2.2.2.2.2.2.2.2⟩
  have g0 := hop b hb
  have i0 := cL0 k
  have i1 := cN0 (sd b)
  have i2 := cN0 (sd (op b))
  have i3 := cA1 (op b)
  have i4 := cA2 (op b)
  have i5 := cA2 b
  have i6 := cN2 b
  have i7 := cN2 (op b)
  have i8 := cC2 (sd b)
  have i9 := cC2 (sd (op b))
  have i10 := cER b
  have i11 := cC1 (sd b)
  have i12 := cC1 (sd (op b))
  have i13 := cZ0 b
  have i14 := cEC b
  have in1 := nf b
  have in2 := nf (op b)
  clear hG hop hed cN0 cER cN2 cC1 cC2 cA1 cA2 cEC cZ0 cL0
  refine ⟨?_, ?_, ?_, ?_, ?_, ?_, ?_, ?_, ?_, ?_, ?_, ?_, ?_, ?_, ?_⟩ <;> first | assumption | (clear hf nf; grind (splits := 24))

theorem pk_mg {W : Int → Prop} {sd : Int → Int} {op : Int → Int} {ed : Int → Int} {li : Int → Int → Prop} {st : Int → Int} {lv : Int → Int} {nm : Int → Int} {inw : Int → Int} {tow : Int → Int} {bst : Int → Int} {tst : Int → Int} {exp : Int → Int} {om : Int → Int} {ps : Int → Int} {dl : Int → Int} {dn : Int → Int} {af : Int → Int} {c0 : Int → Int} {en : Int → Int} {pd : Int → Int} {rp : Int → Int} {rv : Int → Int} {fw : Int → Int} {cl : Int → Int} {cw : Int → Int} {tk : Int → Int} {nL : Int} {kd : Int → Int} {wy : Int → Int} {ll : Int → Int} {td : Int → Int} {ls : Int → Int} {wh : Int → Int} {F : Int → Prop} {fl : Int} {fc : Int} {b k : Int} (hG : pj_G W sd op ed) (nL0 : 0 ≤ nL) (hb : W b) (k0 : 0 ≤ k) (k1 : k < nL) (k2 : wh k ≠ 2) (k3 : kd k = 0) (k4 : wy k = op b) (hf : ∀ j, 0 ≤ j → j < k → wy j = wy k → wh j ≠ 0) (nf : ∀ v, ¬ F v) (r2 : ¬ ll k < lv (sd b)) (r3 : en b ≠ 0) (h : pj_J W sd op ed li st lv nm inw tow bst tst exp om ps dl dn af c0 en pd rp rv fw cl cw tk nL kd wy ll td ls wh F fl fc) : pj_J W sd op ed li st lv nm inw tow bst tst exp om ps (pu dl (sd (op b)) (lv (sd b) + 1)) (pu dn (sd (op b)) (ed b)) af c0 en pd rp rv fw (pu cl (ed b) (lv (sd b) + 1)) cw tk (nL + 1) (pu kd nL 1) (pu wy nL b) (pu ll nL (lv (sd b) + 1)) (pu td nL ((ed b))) (pu ls nL (1)) (pu (pu wh k 2) nL 0) F fl fc := by
  have H := h
  obtain ⟨cR, cN0, cN1, cN1w, cER, cN1c, cN2, cN2e, cN2b, cN4e, cN4b, cN5, cN7, cN10, cN10e, cN13, cC1, cC2, cR3a, cE1, cU, cA1, cA2, cEC, cR3, cN11, cN12, cN3, cRJ, cFW, cPD, cCC, cCD, cRP, cRP1, cCR, cZ1, cZ0, cTK, cK2, cWH, cFI, cL0, cFC, cL0u, cOC, cCT, cL1, cL1e, cL1o, cL1b, cL1g, cL2, cL3, cL4, cAF, cRT, cCV, cL5, cL5o, cL5u, cL6, cL6u⟩ := h
  have X := pf_mg hG nL0 hb k0 k1 k2 k3 k4 hf nf r2 r3 cN0 cER cN2 cC1 cC2 cA1 cA2 cEC cZ0 cL0
  obtain ⟨f0, f1, f2, f3, f4, f5, f6, f7, f8, f9, f10, f11, f12, f13, f14⟩ := X
  exact pj_mg (F2 := F) hG hb k0 k1 k2 k3 k4 hf f0 f1 f2 f3 f4 f5 f6 f7 f8 f9 f10 f11 f12 f13 f14 nL0 H

set_option maxHeartbeats 1000000 in
theorem pf_bg {W : Int → Prop} {sd : Int → Int} {op : Int → Int} {ed : Int → Int} {st : Int → Int} {lv : Int → Int} {nm : Int → Int} {inw : Int → Int} {bst : Int → Int} {tst : Int → Int} {exp : Int → Int} {om : Int → Int} {ps : Int → Int} {dl : Int → Int} {dn : Int → Int} {af : Int → Int} {en : Int → Int} {pd : Int → Int} {rp : Int → Int} {rv : Int → Int} {cl : Int → Int} {tk : Int → Int} {nL : Int} {kd : Int → Int} {wy : Int → Int} {ll : Int → Int} {td : Int → Int} {ls : Int → Int} {wh : Int → Int} {F : Int → Prop} {F2 : Int → Prop} {b k : Int} (hG : pj_G W sd op ed) (nL0 : 0 ≤ nL) (hb : W b) (k0 : 0 ≤ k) (k1 : k < nL) (k2 : wh k ≠ 2) (k3 : kd k = 1) (k4 : wy k = op b) (hf : ∀ j, 0 ≤ j → j < k → wy j = wy k → wh j ≠ 0) (nf : ∀ v, ¬ F v) (r2 : ∀ v, F2 v ↔ (W v ∧ sd v = (sd b) ∧ v ≠ b ∧ en v = 1)) (r1 : ∀ j, 0 ≤ j → j < nL → wh j = 1 → sd (op (wy j)) = (sd b) → (kd j = 0 → ¬ ll j < lv (sd b) ∧ en (op (wy j)) = 0) ∧ (kd j = 5 → st (sd b) = 1)) (cR : pj_R W nL kd wy wh) (cN0 : pj_N0 st lv ps dl af) (cN2 : pj_N2 W sd ed om en) (cN7 : pj_N7 st tst exp) (cA2 : pj_A2 W sd op ed st lv nm om ps dl dn cl) (cEC : pj_EC W sd op ed lv nm om ps dl nL kd wy wh F) (cPD : pj_PD W sd op ed st om en pd) (cWH : pj_WH nL kd wh) (cOC : pj_OC nL kd wy wh) (cL1 : pj_L1 sd op ed st lv om dl en cl nL kd wy ll td ls wh) (cL1e : pj_L1e sd op dl dn nL kd wy ll td ls wh) (cL1o : pj_L1o nL kd wy ll wh) (cL1b : pj_L1b sd ed st om pd nL kd wy td ls wh) (cL1g : pj_L1g W sd op ed nL kd wy td ls wh) (cL5 : pj_L5 sd op ed st lv nm inw bst om ps dl pd rp rv cl tk nL kd wy td wh) (cL5o : pj_L5o sd op ed lv cl nL kd wy wh) : (om (sd b) = (ed b)) ∧ (lv (sd b) < ll k) ∧ (0 ≤ lv (sd b)) ∧ (ll k ≤ dl (sd b)) ∧ (cl (td k) = ll k) ∧ (ls k = 1 ∨ ls k = 2) ∧ (st (sd b) = 2) ∧ (tst (sd b) = -1) ∧ (∀ v, W v → sd v = (sd b) → pd v = 0) ∧ (en (op b) = 1) ∧ (en b = 1) ∧ (ls k = 1 → ll k = dl (sd b)) ∧ (ll k = dl (sd b) → td k = dn (sd b)) ∧ (om (sd (op b)) = (ed b) → ls k = 1 ∧ td k = (ed b) ∧ cl (ed b) = ll k ∧ dl (sd (op b)) = ll k ∧ dn (sd (op b)) = (ed b) ∧ ((lv (sd (op b)) = dl (sd (op b)) ∧ ps (sd (op b)) = 0) ∨ (lv (sd (op b)) < dl (sd (op b)) ∧ ps (sd (op b)) = 1))) ∧ (om (sd (op b)) ≠ (ed b) → ls k = 1 → st (sd (op b)) = 1 ∧ pd (op b) = 1) ∧ (∀ j, 0 ≤ j → j < nL → wh j ≠ 2 → kd j = 1 → wy j = op b → j ≠ k → ll k < ll j) ∧ (∀ j, 0 ≤ j → j < nL → wh j ≠ 2 → kd j = 0 → wy j ≠ op b) ∧ (∀ j, 0 ≤ j → j < nL → wh j ≠ 2 → kd j = 5 → wy j = op b → lv (sd b) < cl (ed b)) ∧ (∀ v, W v → sd v = (sd b) → ed v = td k → v = b ∧ ls k = 1) := by
  have hop := hG.1
  have hed := hG.2
  unfold pj_R pj_N0 pj_N2 pj_N7 pj_A2 pj_EC pj_PD pj_WH pj_OC pj_L1 pj_L1e pj_L1o pj_L1b pj_L1g pj_L5 pj_L5o at *
  have y1 : ∀ j, 0 ≤ j → j < k → wy j = op b → wh j = 1 ∨ wh j = 2 := by
    intro j h1 h2 h3
    have h4 := hf j h1 h2 (by rw [h3, k4])
    have h5 := (cR j h1 (by omega)).2.2.2
    rcases h5 with h5 | h5 | h5
    · exact absurd h5 h4
    · exact Or.inl h5
    · exact Or.inr h5
  have y2 : ∀ j, 0 ≤ j → j < nL → wh j ≠ 2 → kd j = 0 → wy j = op b → en b = 1 → False := by
    intro j h1 h2 h3 h4 h5 h6
    have h7 := cOC j k h1 h2 h3 h4 k0 k1 k2 k3 (by rw [h5, k4])
    rcases y1 j h1 h7 h5 with h8 | h8
    · have h9 := (r1 j h1 h2 h8 (by rw [h5, (hop b hb).2.1])).1 h4
      rw [h5, (hop b hb).2.1] at h9
      omega
    · exact h3 h8
  have y3 : om (sd (op b)) = (ed b) → ps (sd (op b)) = 1 → dl (sd (op b)) = lv (sd (op b)) → (lv (sd (op b)) = 0 ∨ nm (sd (op b)) ≠ nm (sd b)) → en b = 1 → False := by
    intro h1 h2 h3 h4 h6
    have g := hop b hb
    rcases cEC (op b) g.1 (by rw [g.2.2.1]; exact h1) h2 h3 (by rw [g.2.1]; exact h4) with h5 | ⟨j, h7, h8, h9, h10, h11⟩
    · exact absurd h5 (nf _)
    · exact y2 j h7 h8 h9 h10 h11 h6
  have x1 : ∀ j, 0 ≤ j → j < nL → wh j ≠ 2 → kd j = 1 → wy j = op b → j ≠ k → ll k < ll j := by
    intro j h1 h2 h3 h4 h5 h6
    rcases Int.lt_trichotomy j k with h7 | h7 | h7
    · exfalso
      rcases y1 j h1 h7 h5 with h8 | h8
      · have h9 := cWH j h1 h2 h8
        omega
      · exact h3 h8
    · exact absurd h7 h6
    · exact cL1o k j k0 k1 k2 k3 h1 h2 h3 h4 h7 (by rw [h5, k4])
  have x2 : en b = 1 → ∀ j, 0 ≤ j → j < nL → wh j ≠ 2 → kd j = 0 → wy j ≠ op b := by
    intro h6 j h1 h2 h3 h4 h5
    exact y2 j h1 h2 h3 h4 h5 h6
  have x3 : st (sd b) ≠ 1 → ∀ j, 0 ≤ j → j < nL → wh j ≠ 2 → kd j = 5 → wy j = op b → lv (sd b) < cl (ed b) := by
    intro h6 j h1 h2 h3 h4 h5
    have g := hop b hb
    have h7 := cL5 j h1 h2 h3 h4
    rw [h5, g.2.1, g.2.2.1] at h7
    have h8 := cL5o k j k0 k1 k2 k3 h1 h2 h3 h4 (by rw [h5, k4])
    rw [h5, g.2.1, g.2.2.1] at h8
    rcases h7 with h7 | h7
    · exact absurd ((cPD b hb).2 h7.1).1 h6
    · rcases h7.2.2.2.2 with h9 | h9
      · exfalso
        have h10 := h8.2 (by omega)
        rcases y1 j h1 h10 h5 with h11 | h11
        · exact h6 ((r1 j h1 h2 h11 (by rw [h5, g.2.1])).2 h4)
        · exact h3 h11
      · exact h9.1
  have x4 : ∀ v, W v → sd v = (sd b) → ed v = td k → v = b ∧ ls k = 1 := by
    intro v h1 h2 h3
    have g := hop b hb
    have h4 := cL1g k v k0 k1 k2 k3 h1 (by rw [k4, g.2.1]; exact h2) h3
    rw [k4, g.2.1] at h4
    exact h4
  have x5 : st (sd b) ≠ 1 → ∀ v, W v → sd v = (sd b) → pd v = 0 := by
    intro h1 v h2 h3
    have h4 := cPD v h2
    rw [h3] at h4
    rcases h4.1 with h5 | h5
    · exact h5
    · exact absurd (h4.2 h5).1 h1
  have g0 := hop b hb
  have i0 := cL1 k
  have i1 := cL1e k
  have i2 := cL1b k
  have i3 := cN0 (sd b)
  have i4 := cN0 (sd (op b))
  have i5 := cN2 b
  have i6 := cN7 (sd b)
  have i7 := cA2 b
  have i8 := cEC (op b)
  have i9 := cPD b
  have in1 := nf b
  have in2 := nf (op b)
  clear hG hop hed cR cN0 cN2 cN7 cA2 cEC cPD cWH cOC cL1 cL1e cL1o cL1b cL1g cL5 cL5o
  refine ⟨?_, ?_, ?_, ?_, ?_, ?_, ?_, ?_, ?_, ?_, ?_, ?_, ?_, ?_, ?_, ?_, ?_, ?_, ?_⟩ <;> first | assumption | exact x2 (by clear x1 x2 x3 x4 x5 y1 y2 nf r1 hf r2; grind (splits := 24)) | exact x3 (by clear x1 x2 x3 x4 x5 y1 y2 nf r1 hf r2; grind (splits := 24)) | exact x5 (by clear x1 x2 x3 x4 x5 y1 y2 nf r1 hf r2; grind (splits := 24)) | (clear hf nf r2 r1 y1 y2 x1 x2 x3 x4 x5; grind (splits := 24))

theorem pk_bg {W : Int → Prop} {sd : Int → Int} {op : Int → Int} {ed : Int → Int} {li : Int → Int → Prop} {st : Int → Int} {lv : Int → Int} {nm : Int → Int} {inw : Int → Int} {tow : Int → Int} {bst : Int → Int} {tst : Int → Int} {exp : Int → Int} {om : Int → Int} {ps : Int → Int} {dl : Int → Int} {dn : Int → Int} {af : Int → Int} {c0 : Int → Int} {en : Int → Int} {pd : Int → Int} {rp : Int → Int} {rv : Int → Int} {fw : Int → Int} {cl : Int → Int} {cw : Int → Int} {tk : Int → Int} {nL : Int} {kd : Int → Int} {wy : Int → Int} {ll : Int → Int} {td : Int → Int} {ls : Int → Int} {wh : Int → Int} {F : Int → Prop} {fl : Int} {fc : Int} {F2 : Int → Prop} {b k : Int} (hG : pj_G W sd op ed) (nL0 : 0 ≤ nL) (hb : W b) (k0 : 0 ≤ k) (k1 : k < nL) (k2 : wh k ≠ 2) (k3 : kd k = 1) (k4 : wy k = op b) (hf : ∀ j, 0 ≤ j → j < k → wy j = wy k → wh j ≠ 0) (nf : ∀ v, ¬ F v) (r2 : ∀ v, F2 v ↔ (W v ∧ sd v = (sd b) ∧ v ≠ b ∧ en v = 1)) (r1 : ∀ j, 0 ≤ j → j < nL → wh j = 1 → sd (op (wy j)) = (sd b) → (kd j = 0 → ¬ ll j < lv (sd b) ∧ en (op (wy j)) = 0) ∧ (kd j = 5 → st (sd b) = 1)) (h : pj_J W sd op ed li st lv nm inw tow bst tst exp om ps dl dn af c0 en pd rp rv fw cl cw tk nL kd wy ll td ls wh F fl fc) : pj_J W sd op ed li (pu st (sd b) (ls k)) (pu lv (sd b) (ll k)) (pu nm (sd b) (td k)) (pu inw (sd b) (ed b)) (pu tow (sd b) (-1)) (pu bst (sd b) (-1)) tst exp om (pu ps (sd b) 0) dl dn (pu af (sd b) 0) c0 en pd rp rv fw cl cw tk nL kd wy ll td ls (pu wh k 2) (F2) (lv (sd b)) (nm (sd b)) := by
  have H := h
  obtain ⟨cR, cN0, cN1, cN1w, cER, cN1c, cN2, cN2e, cN2b, cN4e, cN4b, cN5, cN7, cN10, cN10e, cN13, cC1, cC2, cR3a, cE1, cU, cA1, cA2, cEC, cR3, cN11, cN12, cN3, cRJ, cFW, cPD, cCC, cCD, cRP, cRP1, cCR, cZ1, cZ0, cTK, cK2, cWH, cFI, cL0, cFC, cL0u, cOC, cCT, cL1, cL1e, cL1o, cL1b, cL1g, cL2, cL3, cL4, cAF, cRT, cCV, cL5, cL5o, cL5u, cL6, cL6u⟩ := h
  have X := pf_bg hG nL0 hb k0 k1 k2 k3 k4 hf nf r2 r1 cR cN0 cN2 cN7 cA2 cEC cPD cWH cOC cL1 cL1e cL1o cL1b cL1g cL5 cL5o
  obtain ⟨f0, f1, f2, f3, f4, f5, f6, f7, f8, f9, f10, f11, f12, f13, f14, f15, f16, f17, f18⟩ := X
  exact pj_bg hG hb k0 k1 k2 k3 k4 hf nf r2 f0 f1 f2 f3 f4 f5 f6 f7 f8 f9 f10 f11 f12 f13 f14 f15 f16 f17 f18 nL0 H

set_option maxHeartbeats 1000000 in
theorem pf_ta {W : Int → Prop} {sd : Int → Int} {op : Int → Int} {ed : Int → Int} {st : Int → Int} {lv : Int → Int} {nm : Int → Int} {tst : Int → Int} {om : Int → Int} {ps : Int → Int} {dl : Int → Int} {dn : Int → Int} {af : Int → Int} {en : Int → Int} {fw : Int → Int} {cl : Int → Int} {nL : Int} {kd : Int → Int} {wy : Int → Int} {ll : Int → Int} {td : Int → Int} {wh : Int → Int} {F : Int → Prop} {fl : Int} {fc : Int} {b k : Int} (hG : pj_G W sd op ed) (nL0 : 0 ≤ nL) (hb : W b) (k0 : 0 ≤ k) (k1 : k < nL) (k2 : wh k ≠ 2) (k3 : kd k = 2) (k4 : wy k = op b) (hf : ∀ j, 0 ≤ j → j < k → wy j = wy k → wh j ≠ 0) (nf : ∀ v, ¬ F v) (r2 : td k ≠ nm (sd b)) (r3 : ll k ≤ lv (sd b)) (cN0 : pj_N0 st lv ps dl af) (cN1 : pj_N1 st lv om ps dl) (cER : pj_ER W en) (cN2 : pj_N2 W sd ed om en) (cC2 : pj_C2 lv nm dl dn cl) (cR3a : pj_R3a st lv dl) (cU : pj_U W sd op ed lv nm om ps dl en cl) (cA1 : pj_A1 W sd op ed lv nm om dl dn en F fl fc) (cA2 : pj_A2 W sd op ed st lv nm om ps dl dn cl) (cN3 : pj_N3 W sd op ed om en) (cL2 : pj_L2 sd op ed st lv nm tst en fw nL kd wy ll td wh) (cAF : pj_AF W sd op ed tst af nL kd wy wh) (cCV : pj_CV W sd op ed tst nL kd wy wh) : (tst (sd (op b)) = (ed b)) ∧ (ll k = lv (sd (op b))) ∧ (td k = nm (sd (op b))) ∧ (st (sd (op b)) = 1) ∧ (en b ≠ 2) ∧ (fw b = 0) ∧ (af (sd (op b)) = 0) ∧ (nm (sd b) ≠ nm (sd (op b))) ∧ (lv (sd (op b)) ≤ lv (sd b)) ∧ (en (op b) = 0) ∧ (st (sd b) ≠ 0) := by
  have hop := hG.1
  have hed := hG.2
  unfold pj_N0 pj_N1 pj_ER pj_N2 pj_C2 pj_R3a pj_U pj_A1 pj_A2 pj_N3 pj_L2 pj_AF pj_CV at *
  have x1 : tst (sd (op b)) = (ed b) → af (sd (op b)) = 1 → False := by
    intro h1 h2
    have g := hop b hb
    rcases cAF (op b) g.1 (by rw [g.2.2.1]; exact h1) with h3 | ⟨j, h3, h4, h5, h6, h7⟩
    · omega
    · have h8 := cCV (op b) j k g.1 h3 h4 h5 k0 k1 k2 (Or.inr (Or.inl ⟨Or.inl h6, h7⟩)) (Or.inl ⟨k3, k4, by rw [g.2.2.1]; exact h1⟩)
      rw [h8] at h6
      omega
  have g0 := hop b hb
  have i0 := cL2 k
  have i1 := cN0 (sd b)
  have i2 := cN0 (sd (op b))
  have i3 := cN1 (sd b)
  have i4 := cN3 (op b)
  have i5 := cA1 b
  have i6 := cA1 (op b)
  have i7 := cA2 b
  have i8 := cR3a (sd (op b))
  have i9 := cC2 (sd b)
  have i10 := cC2 (sd (op b))
  have i11 := cU (op b)
  have i12 := cER (op b)
  have i13 := cER b
  have i14 := cAF (op b)
  have i15 := cN2 b
  have i16 := cN2 (op b)
  have in1 := nf b
  have in2 := nf (op b)
  clear hG hop hed cN0 cN1 cER cN2 cC2 cR3a cU cA1 cA2 cN3 cL2 cAF cCV
  refine ⟨?_, ?_, ?_, ?_, ?_, ?_, ?_, ?_, ?_, ?_, ?_⟩ <;> first | assumption | (clear hf nf; grind (splits := 24))

theorem pk_ta {W : Int → Prop} {sd : Int → Int} {op : Int → Int} {ed : Int → Int} {li : Int → Int → Prop} {st : Int → Int} {lv : Int → Int} {nm : Int → Int} {inw : Int → Int} {tow : Int → Int} {bst : Int → Int} {tst : Int → Int} {exp : Int → Int} {om : Int → Int} {ps : Int → Int} {dl : Int → Int} {dn : Int → Int} {af : Int → Int} {c0 : Int → Int} {en : Int → Int} {pd : Int → Int} {rp : Int → Int} {rv : Int → Int} {fw : Int → Int} {cl : Int → Int} {cw : Int → Int} {tk : Int → Int} {nL : Int} {kd : Int → Int} {wy : Int → Int} {ll : Int → Int} {td : Int → Int} {ls : Int → Int} {wh : Int → Int} {F : Int → Prop} {fl : Int} {fc : Int} {b k : Int} (hG : pj_G W sd op ed) (nL0 : 0 ≤ nL) (hb : W b) (k0 : 0 ≤ k) (k1 : k < nL) (k2 : wh k ≠ 2) (k3 : kd k = 2) (k4 : wy k = op b) (hf : ∀ j, 0 ≤ j → j < k → wy j = wy k → wh j ≠ 0) (nf : ∀ v, ¬ F v) (r2 : td k ≠ nm (sd b)) (r3 : ll k ≤ lv (sd b)) (h : pj_J W sd op ed li st lv nm inw tow bst tst exp om ps dl dn af c0 en pd rp rv fw cl cw tk nL kd wy ll td ls wh F fl fc) : pj_J W sd op ed li st lv nm inw tow bst tst exp om ps dl dn (pu af (sd (op b)) 1) c0 en pd rp rv fw cl cw tk (nL + 1) (pu kd nL 3) (pu wy nL b) (pu ll nL (-1)) (pu td nL (-1)) (pu ls nL (-1)) (pu (pu wh k 2) nL 0) F fl fc := by
  have H := h
  obtain ⟨cR, cN0, cN1, cN1w, cER, cN1c, cN2, cN2e, cN2b, cN4e, cN4b, cN5, cN7, cN10, cN10e, cN13, cC1, cC2, cR3a, cE1, cU, cA1, cA2, cEC, cR3, cN11, cN12, cN3, cRJ, cFW, cPD, cCC, cCD, cRP, cRP1, cCR, cZ1, cZ0, cTK, cK2, cWH, cFI, cL0, cFC, cL0u, cOC, cCT, cL1, cL1e, cL1o, cL1b, cL1g, cL2, cL3, cL4, cAF, cRT, cCV, cL5, cL5o, cL5u, cL6, cL6u⟩ := h
  have X := pf_ta hG nL0 hb k0 k1 k2 k3 k4 hf nf r2 r3 cN0 cN1 cER cN2 cC2 cR3a cU cA1 cA2 cN3 cL2 cAF cCV
  obtain ⟨f0, f1, f2, f3, f4, f5, f6, f7, f8, f9, f10⟩ := X
  exact pj_ta (F2 := F) hG hb k0 k1 k2 k3 k4 hf f0 f1 f2 f3 f4 f5 f6 f7 f8 f9 f10 nL0 H

set_option maxHeartbeats 1000000 in
theorem pf_tra {W : Int → Prop} {sd : Int → Int} {op : Int → Int} {ed : Int → Int} {st : Int → Int} {lv : Int → Int} {nm : Int → Int} {tst : Int → Int} {om : Int → Int} {ps : Int → Int} {dl : Int → Int} {af : Int → Int} {en : Int → Int} {fw : Int → Int} {cl : Int → Int} {nL : Int} {kd : Int → Int} {wy : Int → Int} {ll : Int → Int} {td : Int → Int} {wh : Int → Int} {b k : Int} (hG : pj_G W sd op ed) (nL0 : 0 ≤ nL) (hb : W b) (k0 : 0 ≤ k) (k1 : k < nL) (k2 : wh k ≠ 2) (k3 : kd k = 2) (k4 : wy k = op b) (hf : ∀ j, 0 ≤ j → j < k → wy j = wy k → wh j ≠ 0) (r2 : td k = nm (sd b)) (r3 : ll k ≤ lv (sd b)) (r4 : tst (sd b) ≠ (ed b)) (r5 : en b = 0) (cN0 : pj_N0 st lv ps dl af) (cN1 : pj_N1 st lv om ps dl) (cC1 : pj_C1 lv nm cl) (cU : pj_U W sd op ed lv nm om ps dl en cl) (cL2 : pj_L2 sd op ed st lv nm tst en fw nL kd wy ll td wh) : (tst (sd (op b)) = (ed b)) ∧ (ll k = lv (sd (op b))) ∧ (td k = nm (sd (op b))) ∧ (st (sd (op b)) = 1) ∧ (en b ≠ 2) ∧ (fw b = 0) ∧ (nm (sd b) = nm (sd (op b))) ∧ (lv (sd b) = lv (sd (op b))) ∧ (1 ≤ lv (sd b)) ∧ (st (sd b) ≠ 0) ∧ (om (sd (op b)) ≠ (ed b)) := by
  have hop := hG.1
  have hed := hG.2
  unfold pj_N0 pj_N1 pj_C1 pj_U pj_L2 at *
  have g0 := hop b hb
  have i0 := cL2 k
  have i1 := cN0 (sd b)
  have i2 := cN0 (sd (op b))
  have i3 := cN1 (sd b)
  have i4 := cC1 (sd b)
  have i5 := cC1 (sd (op b))
  have i6 := cU (op b)
  clear hG hop hed cN0 cN1 cC1 cU cL2
  refine ⟨?_, ?_, ?_, ?_, ?_, ?_, ?_, ?_, ?_, ?_, ?_⟩ <;> first | assumption | (clear hf; grind (splits := 24))

theorem pk_tra {W : Int → Prop} {sd : Int → Int} {op : Int → Int} {ed : Int → Int} {li : Int → Int → Prop} {st : Int → Int} {lv : Int → Int} {nm : Int → Int} {inw : Int → Int} {tow : Int → Int} {bst : Int → Int} {tst : Int → Int} {exp : Int → Int} {om : Int → Int} {ps : Int → Int} {dl : Int → Int} {dn : Int → Int} {af : Int → Int} {c0 : Int → Int} {en : Int → Int} {pd : Int → Int} {rp : Int → Int} {rv : Int → Int} {fw : Int → Int} {cl : Int → Int} {cw : Int → Int} {tk : Int → Int} {nL : Int} {kd : Int → Int} {wy : Int → Int} {ll : Int → Int} {td : Int → Int} {ls : Int → Int} {wh : Int → Int} {F : Int → Prop} {fl : Int} {fc : Int} {b k : Int} (hG : pj_G W sd op ed) (nL0 : 0 ≤ nL) (hb : W b) (k0 : 0 ≤ k) (k1 : k < nL) (k2 : wh k ≠ 2) (k3 : kd k = 2) (k4 : wy k = op b) (hf : ∀ j, 0 ≤ j → j < k → wy j = wy k → wh j ≠ 0) (r2 : td k = nm (sd b)) (r3 : ll k ≤ lv (sd b)) (r4 : tst (sd b) ≠ (ed b)) (r5 : en b = 0) (h : pj_J W sd op ed li st lv nm inw tow bst tst exp om ps dl dn af c0 en pd rp rv fw cl cw tk nL kd wy ll td ls wh F fl fc) : pj_J W sd op ed li st lv nm inw tow bst tst exp om ps dl dn af c0 (pu en b 2) pd rp rv (pu fw b 1) cl cw tk (nL + 1) (pu kd nL 4) (pu wy nL b) (pu ll nL (-1)) (pu td nL (-1)) (pu ls nL (-1)) (pu (pu wh k 2) nL 0) F fl fc := by
  have H := h
  obtain ⟨cR, cN0, cN1, cN1w, cER, cN1c, cN2, cN2e, cN2b, cN4e, cN4b, cN5, cN7, cN10, cN10e, cN13, cC1, cC2, cR3a, cE1, cU, cA1, cA2, cEC, cR3, cN11, cN12, cN3, cRJ, cFW, cPD, cCC, cCD, cRP, cRP1, cCR, cZ1, cZ0, cTK, cK2, cWH, cFI, cL0, cFC, cL0u, cOC, cCT, cL1, cL1e, cL1o, cL1b, cL1g, cL2, cL3, cL4, cAF, cRT, cCV, cL5, cL5o, cL5u, cL6, cL6u⟩ := h
  have X := pf_tra hG nL0 hb k0 k1 k2 k3 k4 hf r2 r3 r4 r5 cN0 cN1 cC1 cU cL2
  obtain ⟨f0, f1, f2, f3, f4, f5, f6, f7, f8, f9, f10⟩ := X
  exact pj_tra (F2 := F) hG hb k0 k1 k2 k3 k4 hf f0 f1 f2 f3 r5 f4 f5 f6 f7 f8 r4 f9 f10 nL0 H

set_option maxHeartbeats 1000000 in
theorem pf_txa {W : Int → Prop} {sd : Int → Int} {op : Int → Int} {ed : Int → Int} {st : Int → Int} {lv : Int → Int} {nm : Int → Int} {tst : Int → Int} {exp : Int → Int} {om : Int → Int} {ps : Int → Int} {dl : Int → Int} {af : Int → Int} {en : Int → Int} {fw : Int → Int} {cl : Int → Int} {nL : Int} {kd : Int → Int} {wy : Int → Int} {ll : Int → Int} {td : Int → Int} {wh : Int → Int} {F : Int → Prop} {b k : Int} (hG : pj_G W sd op ed) (nL0 : 0 ≤ nL) (hb : W b) (k0 : 0 ≤ k) (k1 : k < nL) (k2 : wh k ≠ 2) (k3 : kd k = 2) (k4 : wy k = op b) (hf : ∀ j, 0 ≤ j → j < k → wy j = wy k → wh j ≠ 0) (nf : ∀ v, ¬ F v) (r2 : td k = nm (sd b)) (r3 : ll k ≤ lv (sd b)) (r4 : tst (sd b) = (ed b)) (r5 : en b = 0) (cN0 : pj_N0 st lv ps dl af) (cN7 : pj_N7 st tst exp) (cC1 : pj_C1 lv nm cl) (cU : pj_U W sd op ed lv nm om ps dl en cl) (cEC : pj_EC W sd op ed lv nm om ps dl nL kd wy wh F) (cFW : pj_FW W sd ed tst en fw) (cCT : pj_CT nL kd wy wh) (cL2 : pj_L2 sd op ed st lv nm tst en fw nL kd wy ll td wh) : (st (sd b) = 1) ∧ (fw b = 0) ∧ ((tst (sd (op b)) = (ed b) ∧ ll k = lv (sd (op b)) ∧ td k = nm (sd (op b)) ∧ st (sd (op b)) = 1 ∧ lv (sd (op b)) = lv (sd b)) ∨ (tst (sd (op b)) ≠ (ed b) ∧ en (op b) ≠ 0)) ∧ (om (sd (op b)) ≠ (ed b)) := by
  have hop := hG.1
  have hed := hG.2
  unfold pj_N0 pj_N7 pj_C1 pj_U pj_EC pj_FW pj_CT pj_L2 at *
  have x1 : en b = 0 → om (sd (op b)) = (ed b) → ps (sd (op b)) = 1 → dl (sd (op b)) = lv (sd (op b)) → (lv (sd (op b)) = 0 ∨ nm (sd (op b)) ≠ nm (sd b)) → False := by
    intro h0 h1 h2 h3 h4
    have g := hop b hb
    rcases cEC (op b) g.1 (by rw [g.2.2.1]; exact h1) h2 h3 (by rw [g.2.1]; exact h4) with h5 | ⟨j, h5, h6, h7, h8, h9⟩
    · exact absurd h5 (nf _)
    · exact cCT j k h5 h6 h7 h8 k0 k1 k2 (Or.inl k3) (by rw [h9, k4])
  have g0 := hop b hb
  have i0 := cL2 k
  have i1 := cN0 (sd b)
  have i2 := cN0 (sd (op b))
  have i3 := cN7 (sd b)
  have i4 := cFW b
  have i5 := cC1 (sd b)
  have i6 := cC1 (sd (op b))
  have i7 := cU (op b)
  have i8 := cEC (op b)
  have in1 := nf b
  have in2 := nf (op b)
  clear hG hop hed cN0 cN7 cC1 cU cEC cFW cCT cL2
  refine ⟨?_, ?_, ?_, ?_⟩ <;> first | assumption | (clear hf nf; grind (splits := 24))

theorem pk_txa {W : Int → Prop} {sd : Int → Int} {op : Int → Int} {ed : Int → Int} {li : Int → Int → Prop} {st : Int → Int} {lv : Int → Int} {nm : Int → Int} {inw : Int → Int} {tow : Int → Int} {bst : Int → Int} {tst : Int → Int} {exp : Int → Int} {om : Int → Int} {ps : Int → Int} {dl : Int → Int} {dn : Int → Int} {af : Int → Int} {c0 : Int → Int} {en : Int → Int} {pd : Int → Int} {rp : Int → Int} {rv : Int → Int} {fw : Int → Int} {cl : Int → Int} {cw : Int → Int} {tk : Int → Int} {nL : Int} {kd : Int → Int} {wy : Int → Int} {ll : Int → Int} {td : Int → Int} {ls : Int → Int} {wh : Int → Int} {F : Int → Prop} {fl : Int} {fc : Int} {b k : Int} (hG : pj_G W sd op ed) (nL0 : 0 ≤ nL) (hb : W b) (k0 : 0 ≤ k) (k1 : k < nL) (k2 : wh k ≠ 2) (k3 : kd k = 2) (k4 : wy k = op b) (hf : ∀ j, 0 ≤ j → j < k → wy j = wy k → wh j ≠ 0) (nf : ∀ v, ¬ F v) (r2 : td k = nm (sd b)) (r3 : ll k ≤ lv (sd b)) (r4 : tst (sd b) = (ed b)) (r5 : en b = 0) (h : pj_J W sd op ed li st lv nm inw tow bst tst exp om ps dl dn af c0 en pd rp rv fw cl cw tk nL kd wy ll td ls wh F fl fc) : pj_J W sd op ed li st lv nm inw tow bst (pu tst (sd b) (-1)) exp om ps dl dn af c0 (pu en b 2) pd rp rv (pu fw b 1) cl cw tk nL kd wy ll td ls (pu wh k 2) F fl fc := by
  have H := h
  obtain ⟨cR, cN0, cN1, cN1w, cER, cN1c, cN2, cN2e, cN2b, cN4e, cN4b, cN5, cN7, cN10, cN10e, cN13, cC1, cC2, cR3a, cE1, cU, cA1, cA2, cEC, cR3, cN11, cN12, cN3, cRJ, cFW, cPD, cCC, cCD, cRP, cRP1, cCR, cZ1, cZ0, cTK, cK2, cWH, cFI, cL0, cFC, cL0u, cOC, cCT, cL1, cL1e, cL1o, cL1b, cL1g, cL2, cL3, cL4, cAF, cRT, cCV, cL5, cL5o, cL5u, cL6, cL6u⟩ := h
  have X := pf_txa hG nL0 hb k0 k1 k2 k3 k4 hf nf r2 r3 r4 r5 cN0 cN7 cC1 cU cEC cFW cCT cL2
  obtain ⟨f0, f1, f2, f3⟩ := X
  exact pj_txa (F2 := F) hG hb k0 k1 k2 k3 k4 hf r5 r2 r3 r4 f0 f1 f2 f3 nL0 H

set_option maxHeartbeats 1000000 in
theorem pf_rja {W : Int → Prop} {sd : Int → Int} {op : Int → Int} {ed : Int → Int} {st : Int → Int} {lv : Int → Int} {nm : Int → Int} {tst : Int → Int} {om : Int → Int} {ps : Int → Int} {dl : Int → Int} {en : Int → Int} {fw : Int → Int} {cl : Int → Int} {nL : Int} {kd : Int → Int} {wy : Int → Int} {wh : Int → Int} {F : Int → Prop} {b k : Int} (hG : pj_G W sd op ed) (nL0 : 0 ≤ nL) (hb : W b) (k0 : 0 ≤ k) (k1 : k < nL) (k2 : wh k ≠ 2) (k3 : kd k = 4) (k4 : wy k = op b) (hf : ∀ j, 0 ≤ j → j < k → wy j = wy k → wh j ≠ 0) (nf : ∀ v, ¬ F v) (r2 : en b = 0) (cU : pj_U W sd op ed lv nm om ps dl en cl) (cEC : pj_EC W sd op ed lv nm om ps dl nL kd wy wh F) (cFW : pj_FW W sd ed tst en fw) (cCT : pj_CT nL kd wy wh) (cL4 : pj_L4 sd op ed st tst en nL kd wy wh) : (tst (sd b) = (ed b)) ∧ (st (sd b) = 1) ∧ (en (op b) ≠ 0) ∧ (fw b = 0) ∧ (om (sd (op b)) ≠ (ed b)) := by
  have hop := hG.1
  have hed := hG.2
  unfold pj_U pj_EC pj_FW pj_CT pj_L4 at *
  have x1 : en b = 0 → om (sd (op b)) = (ed b) → ps (sd (op b)) = 1 → dl (sd (op b)) = lv (sd (op b)) → (lv (sd (op b)) = 0 ∨ nm (sd (op b)) ≠ nm (sd b)) → False := by
    intro h0 h1 h2 h3 h4
    have g := hop b hb
    rcases cEC (op b) g.1 (by rw [g.2.2.1]; exact h1) h2 h3 (by rw [g.2.1]; exact h4) with h5 | ⟨j, h5, h6, h7, h8, h9⟩
    · exact absurd h5 (nf _)
    · exact cCT j k h5 h6 h7 h8 k0 k1 k2 (Or.inr k3) (by rw [h9, k4])
  have g0 := hop b hb
  have i0 := cL4 k
  have i1 := cFW b
  have i2 := cU (op b)
  have i3 := cEC (op b)
  have in1 := nf b
  have in2 := nf (op b)
  clear hG hop hed cU cEC cFW cCT cL4
  refine ⟨?_, ?_, ?_, ?_, ?_⟩ <;> first | assumption | (clear hf nf; grind (splits := 24))

theorem pk_rja {W : Int → Prop} {sd : Int → Int} {op : Int → Int} {ed : Int → Int} {li : Int → Int → Prop} {st : Int → Int} {lv : Int → Int} {nm : Int → Int} {inw : Int → Int} {tow : Int → Int} {bst : Int → Int} {tst : Int → Int} {exp : Int → Int} {om : Int → Int} {ps : Int → Int} {dl : Int → Int} {dn : Int → Int} {af : Int → Int} {c0 : Int → Int} {en : Int → Int} {pd : Int → Int} {rp : Int → Int} {rv : Int → Int} {fw : Int → Int} {cl : Int → Int} {cw : Int → Int} {tk : Int → Int} {nL : Int} {kd : Int → Int} {wy : Int → Int} {ll : Int → Int} {td : Int → Int} {ls : Int → Int} {wh : Int → Int} {F : Int → Prop} {fl : Int} {fc : Int} {b k : Int} (hG : pj_G W sd op ed) (nL0 : 0 ≤ nL) (hb : W b) (k0 : 0 ≤ k) (k1 : k < nL) (k2 : wh k ≠ 2) (k3 : kd k = 4) (k4 : wy k = op b) (hf : ∀ j, 0 ≤ j → j < k → wy j = wy k → wh j ≠ 0) (nf : ∀ v, ¬ F v) (r2 : en b = 0) (h : pj_J W sd op ed li st lv nm inw tow bst tst exp om ps dl dn af c0 en pd rp rv fw cl cw tk nL kd wy ll td ls wh F fl fc) : pj_J W sd op ed li st lv nm inw tow bst (pu tst (sd b) (-1)) exp om ps dl dn af c0 (pu en b 2) pd rp rv (pu fw b 1) cl cw tk nL kd wy ll td ls (pu wh k 2) F fl fc := by
  have H := h
  obtain ⟨cR, cN0, cN1, cN1w, cER, cN1c, cN2, cN2e, cN2b, cN4e, cN4b, cN5, cN7, cN10, cN10e, cN13, cC1, cC2, cR3a, cE1, cU, cA1, cA2, cEC, cR3, cN11, cN12, cN3, cRJ, cFW, cPD, cCC, cCD, cRP, cRP1, cCR, cZ1, cZ0, cTK, cK2, cWH, cFI, cL0, cFC, cL0u, cOC, cCT, cL1, cL1e, cL1o, cL1b, cL1g, cL2, cL3, cL4, cAF, cRT, cCV, cL5, cL5o, cL5u, cL6, cL6u⟩ := h
  have X := pf_rja hG nL0 hb k0 k1 k2 k3 k4 hf nf r2 cU cEC cFW cCT cL4
  obtain ⟨f0, f1, f2, f3, f4⟩ := X
  exact pj_rja (F2 := F) hG hb k0 k1 k2 k3 k4 hf r2 f0 f1 f2 f3 f4 nL0 H

set_option maxHeartbeats 1000000 in
theorem pf_aca {W : Int → Prop} {sd : Int → Int} {op : Int → Int} {ed : Int → Int} {st : Int → Int} {lv : Int → Int} {nm : Int → Int} {tst : Int → Int} {ps : Int → Int} {dl : Int → Int} {af : Int → Int} {en : Int → Int} {fw : Int → Int} {nL : Int} {kd : Int → Int} {wy : Int → Int} {wh : Int → Int} {b k : Int} (hG : pj_G W sd op ed) (nL0 : 0 ≤ nL) (hb : W b) (k0 : 0 ≤ k) (k1 : k < nL) (k2 : wh k ≠ 2) (k3 : kd k = 3) (k4 : wy k = op b) (hf : ∀ j, 0 ≤ j → j < k → wy j = wy k → wh j ≠ 0) (cN0 : pj_N0 st lv ps dl af) (cR3a : pj_R3a st lv dl) (cL3 : pj_L3 sd op ed st lv nm tst en fw nL kd wy wh) : (tst (sd b) = (ed b)) ∧ (st (sd b) = 1) ∧ (nm (sd (op b)) ≠ nm (sd b)) ∧ (lv (sd b) ≤ lv (sd (op b))) ∧ (en b = 0) ∧ (en (op b) ≠ 2) ∧ (fw (op b) = 0) ∧ (ps (sd b) = 0) ∧ (1 ≤ lv (sd b)) := by
  have hop := hG.1
  have hed := hG.2
  unfold pj_N0 pj_R3a pj_L3 at *
  have g0 := hop b hb
  have i0 := cL3 k
  have i1 := cN0 (sd b)
  have i2 := cR3a (sd b)
  clear hG hop hed cN0 cR3a cL3
  refine ⟨?_, ?_, ?_, ?_, ?_, ?_, ?_, ?_, ?_⟩ <;> first | assumption | (clear hf; grind (splits := 24))

theorem pk_aca {W : Int → Prop} {sd : Int → Int} {op : Int → Int} {ed : Int → Int} {li : Int → Int → Prop} {st : Int → Int} {lv : Int → Int} {nm : Int → Int} {inw : Int → Int} {tow : Int → Int} {bst : Int → Int} {tst : Int → Int} {exp : Int → Int} {om : Int → Int} {ps : Int → Int} {dl : Int → Int} {dn : Int → Int} {af : Int → Int} {c0 : Int → Int} {en : Int → Int} {pd : Int → Int} {rp : Int → Int} {rv : Int → Int} {fw : Int → Int} {cl : Int → Int} {cw : Int → Int} {tk : Int → Int} {nL : Int} {kd : Int → Int} {wy : Int → Int} {ll : Int → Int} {td : Int → Int} {ls : Int → Int} {wh : Int → Int} {F : Int → Prop} {fl : Int} {fc : Int} {b k : Int} (hG : pj_G W sd op ed) (nL0 : 0 ≤ nL) (hb : W b) (k0 : 0 ≤ k) (k1 : k < nL) (k2 : wh k ≠ 2) (k3 : kd k = 3) (k4 : wy k = op b) (hf : ∀ j, 0 ≤ j → j < k → wy j = wy k → wh j ≠ 0) (h : pj_J W sd op ed li st lv nm inw tow bst tst exp om ps dl dn af c0 en pd rp rv fw cl cw tk nL kd wy ll td ls wh F fl fc) : pj_J W sd op ed li st lv nm inw (pu tow (sd b) (ed b)) (pu bst (sd b) (ed b)) (pu tst (sd b) (-1)) exp om ps dl dn af c0 en pd rp rv fw cl cw tk nL kd wy ll td ls (pu wh k 2) F fl fc := by
  have H := h
  obtain ⟨cR, cN0, cN1, cN1w, cER, cN1c, cN2, cN2e, cN2b, cN4e, cN4b, cN5, cN7, cN10, cN10e, cN13, cC1, cC2, cR3a, cE1, cU, cA1, cA2, cEC, cR3, cN11, cN12, cN3, cRJ, cFW, cPD, cCC, cCD, cRP, cRP1, cCR, cZ1, cZ0, cTK, cK2, cWH, cFI, cL0, cFC, cL0u, cOC, cCT, cL1, cL1e, cL1o, cL1b, cL1g, cL2, cL3, cL4, cAF, cRT, cCV, cL5, cL5o, cL5u, cL6, cL6u⟩ := h
  have X := pf_aca hG nL0 hb k0 k1 k2 k3 k4 hf cN0 cR3a cL3
  obtain ⟨f0, f1, f2, f3, f4, f5, f6, f7, f8⟩ := X
  exact pj_aca (F2 := F) hG hb k0 k1 k2 k3 k4 hf f0 f1 f2 f3 f4 f5 f6 f7 f8 nL0 H

set_option maxHeartbeats 1000000 in
theorem pf_rca {W : Int → Prop} {sd : Int → Int} {op : Int → Int} {ed : Int → Int} {li : Int → Int → Prop} {st : Int → Int} {lv : Int → Int} {nm : Int → Int} {inw : Int → Int} {tow : Int → Int} {bst : Int → Int} {om : Int → Int} {ps : Int → Int} {dl : Int → Int} {af : Int → Int} {en : Int → Int} {pd : Int → Int} {rp : Int → Int} {rv : Int → Int} {cl : Int → Int} {tk : Int → Int} {nL : Int} {kd : Int → Int} {wy : Int → Int} {ll : Int → Int} {td : Int → Int} {ls : Int → Int} {wh : Int → Int} {b k : Int} (hG : pj_G W sd op ed) (nL0 : 0 ≤ nL) (hb : W b) (k0 : 0 ≤ k) (k1 : k < nL) (k2 : wh k ≠ 2) (k3 : kd k = 5) (k4 : wy k = op b) (hf : ∀ j, 0 ≤ j → j < k → wy j = wy k → wh j ≠ 0) (r2 : inw (sd b) ≠ (ed b)) (r3 : li (td k) (bst (sd b))) (hli : ∀ x y, li x y → x ≠ -1 ∧ ¬ li y x) (cR : pj_R W nL kd wy wh) (cN0 : pj_N0 st lv ps dl af) (cN10 : pj_N10 tow bst) (cN13 : pj_N13 W sd ed lv nm inw) (cR3a : pj_R3a st lv dl) (cE1 : pj_E1 sd op lv dl nL kd wy ll wh) (cPD : pj_PD W sd op ed st om en pd) (cCC : pj_CC W ed en cl) (cRP1 : pj_RP1 W sd ed lv rp cl) (cWH : pj_WH nL kd wh) (cL1 : pj_L1 sd op ed st lv om dl en cl nL kd wy ll td ls wh) (cL5 : pj_L5 sd op ed st lv nm inw bst om ps dl pd rp rv cl tk nL kd wy td wh) (cL5o : pj_L5o sd op ed lv cl nL kd wy wh) : (pd b = 1) ∧ (om (sd (op b)) = (ed b)) ∧ (inw (sd (op b)) = (ed b)) ∧ (ps (sd (op b)) = 0) ∧ (lv (sd (op b)) = lv (sd b)) ∧ (nm (sd (op b)) = nm (sd b)) ∧ (dl (sd (op b)) = lv (sd (op b))) ∧ (st (sd (op b)) = 2) ∧ (td k = bst (sd (op b))) ∧ (st (sd b) = 1) ∧ (en b = 1) ∧ (om (sd b) ≠ (ed b)) ∧ (1 ≤ lv (sd b)) ∧ (ps (sd b) = 0) ∧ (td k ≠ -1) ∧ (tow (sd (op b)) ≠ -1) := by
  have hop := hG.1
  have hed := hG.2
  unfold pj_R pj_N0 pj_N10 pj_N13 pj_R3a pj_E1 pj_PD pj_CC pj_RP1 pj_WH pj_L1 pj_L5 pj_L5o at *
  have x1 : om (sd b) = (ed b) → lv (sd b) < cl (ed b) → lv (sd b) < dl (sd b) → False := by
    intro h1 h2 h3
    have g := hop b hb
    obtain ⟨j, h4, h5, h6, h7, h8, h9⟩ := cE1 (sd b) h3
    have h10 := cL1 j h4 h5 h6 h7
    have g2 := hop (wy j) (cR j h4 h5).1
    have h11 : wy j = op b := by
      rcases hed b (wy j) hb (cR j h4 h5).1 (by rw [← h1, ← h8]; exact h10.1) with h | h
      · rw [h] at h8; exact absurd h8 g.2.2.2.1
      · exact h
    have h12 := (cL5o j k h4 h5 h6 h7 k0 k1 k2 k3 (by rw [h11, k4])).1
    rw [k4, g.2.1, g.2.2.1] at h12
    have h13 := h12 h2
    have h14 := hf j h4 h13 (by rw [h11, k4])
    have h15 := cWH j h4 h5
    have h16 := (cR j h4 h5).2.2.2
    omega
  have g0 := hop b hb
  have i0 := cL5 k
  have i1 := cPD b
  have i2 := cN0 (sd b)
  have i3 := cN0 (sd (op b))
  have i4 := cR3a (sd b)
  have i5 := cN13 b
  have i6 := cRP1 (op b)
  have i7 := cCC b
  have i8 := cE1 (sd b)
  have i9 := cN10 (sd (op b))
  have il := hli (td k) (bst (sd b))
  clear hG hop hed cR cN0 cN10 cN13 cR3a cE1 cPD cCC cRP1 cWH cL1 cL5 cL5o
  refine ⟨?_, ?_, ?_, ?_, ?_, ?_, ?_, ?_, ?_, ?_, ?_, ?_, ?_, ?_, ?_, ?_⟩ <;> first | assumption | (clear hf hli; grind (splits := 24))

theorem pk_rca {W : Int → Prop} {sd : Int → Int} {op : Int → Int} {ed : Int → Int} {li : Int → Int → Prop} {st : Int → Int} {lv : Int → Int} {nm : Int → Int} {inw : Int → Int} {tow : Int → Int} {bst : Int → Int} {tst : Int → Int} {exp : Int → Int} {om : Int → Int} {ps : Int → Int} {dl : Int → Int} {dn : Int → Int} {af : Int → Int} {c0 : Int → Int} {en : Int → Int} {pd : Int → Int} {rp : Int → Int} {rv : Int → Int} {fw : Int → Int} {cl : Int → Int} {cw : Int → Int} {tk : Int → Int} {nL : Int} {kd : Int → Int} {wy : Int → Int} {ll : Int → Int} {td : Int → Int} {ls : Int → Int} {wh : Int → Int} {F : Int → Prop} {fl : Int} {fc : Int} {b k : Int} (hG : pj_G W sd op ed) (nL0 : 0 ≤ nL) (hb : W b) (k0 : 0 ≤ k) (k1 : k < nL) (k2 : wh k ≠ 2) (k3 : kd k = 5) (k4 : wy k = op b) (hf : ∀ j, 0 ≤ j → j < k → wy j = wy k → wh j ≠ 0) (r2 : inw (sd b) ≠ (ed b)) (r3 : li (td k) (bst (sd b))) (hli : ∀ x y, li x y → x ≠ -1 ∧ ¬ li y x) (h : pj_J W sd op ed li st lv nm inw tow bst tst exp om ps dl dn af c0 en pd rp rv fw cl cw tk nL kd wy ll td ls wh F fl fc) : pj_J W sd op ed li st lv nm inw (pu tow (sd b) (ed b)) (pu bst (sd b) (td k)) tst exp om ps dl dn af c0 en (pu pd b 0) rp rv fw cl cw tk nL kd wy ll td ls (pu wh k 2) F fl fc := by
  have H := h
  obtain ⟨cR, cN0, cN1, cN1w, cER, cN1c, cN2, cN2e, cN2b, cN4e, cN4b, cN5, cN7, cN10, cN10e, cN13, cC1, cC2, cR3a, cE1, cU, cA1, cA2, cEC, cR3, cN11, cN12, cN3, cRJ, cFW, cPD, cCC, cCD, cRP, cRP1, cCR, cZ1, cZ0, cTK, cK2, cWH, cFI, cL0, cFC, cL0u, cOC, cCT, cL1, cL1e, cL1o, cL1b, cL1g, cL2, cL3, cL4, cAF, cRT, cCV, cL5, cL5o, cL5u, cL6, cL6u⟩ := h
  have X := pf_rca hG nL0 hb k0 k1 k2 k3 k4 hf r2 r3 hli cR cN0 cN10 cN13 cR3a cE1 cPD cCC cRP1 cWH cL1 cL5 cL5o
  obtain ⟨f0, f1, f2, f3, f4, f5, f6, f7, f8, f9, f10, f11, f12, f13, f14, f15⟩ := X
  exact pj_rca (F2 := F) hG hb k0 k1 k2 k3 k4 hf f0 f1 f2 f3 f4 f5 f6 f7 f8 f9 f10 f11 f12 f13 f14 f15 nL0 H

set_option maxHeartbeats 1000000 in
theorem pf_trb {W : Int → Prop} {sd : Int → Int} {op : Int → Int} {ed : Int → Int} {st : Int → Int} {lv : Int → Int} {nm : Int → Int} {tst : Int → Int} {om : Int → Int} {ps : Int → Int} {dl : Int → Int} {af : Int → Int} {en : Int → Int} {fw : Int → Int} {cl : Int → Int} {nL : Int} {kd : Int → Int} {wy : Int → Int} {ll : Int → Int} {td : Int → Int} {wh : Int → Int} {b k : Int} (hG : pj_G W sd op ed) (nL0 : 0 ≤ nL) (hb : W b) (k0 : 0 ≤ k) (k1 : k < nL) (k2 : wh k ≠ 2) (k3 : kd k = 2) (k4 : wy k = op b) (hf : ∀ j, 0 ≤ j → j < k → wy j = wy k → wh j ≠ 0) (r2 : td k = nm (sd b)) (r3 : ll k ≤ lv (sd b)) (r4 : tst (sd b) ≠ (ed b)) (r5 : en b ≠ 0) (cN0 : pj_N0 st lv ps dl af) (cN1 : pj_N1 st lv om ps dl) (cC1 : pj_C1 lv nm cl) (cU : pj_U W sd op ed lv nm om ps dl en cl) (cL2 : pj_L2 sd op ed st lv nm tst en fw nL kd wy ll td wh) : (tst (sd (op b)) = (ed b)) ∧ (ll k = lv (sd (op b))) ∧ (td k = nm (sd (op b))) ∧ (st (sd (op b)) = 1) ∧ (en b ≠ 2) ∧ (fw b = 0) ∧ (nm (sd b) = nm (sd (op b))) ∧ (lv (sd b) = lv (sd (op b))) ∧ (1 ≤ lv (sd b)) ∧ (st (sd b) ≠ 0) := by
  have hop := hG.1
  have hed := hG.2
  unfold pj_N0 pj_N1 pj_C1 pj_U pj_L2 at *
  have g0 := hop b hb
  have i0 := cL2 k
  have i1 := cN0 (sd b)
  have i2 := cN0 (sd (op b))
  have i3 := cN1 (sd b)
  have i4 := cC1 (sd b)
  have i5 := cC1 (sd (op b))
  have i6 := cU (op b)
  clear hG hop hed cN0 cN1 cC1 cU cL2
  refine ⟨?_, ?_, ?_, ?_, ?_, ?_, ?_, ?_, ?_, ?_⟩ <;> first | assumption | (clear hf; grind (splits := 24))

theorem pk_trb {W : Int → Prop} {sd : Int → Int} {op : Int → Int} {ed : Int → Int} {li : Int → Int → Prop} {st : Int → Int} {lv : Int → Int} {nm : Int → Int} {inw : Int → Int} {tow : Int → Int} {bst : Int → Int} {tst : Int → Int} {exp : Int → Int} {om : Int → Int} {ps : Int → Int} {dl : Int → Int} {dn : Int → Int} {af : Int → Int} {c0 : Int → Int} {en : Int → Int} {pd : Int → Int} {rp : Int → Int} {rv : Int → Int} {fw : Int → Int} {cl : Int → Int} {cw : Int → Int} {tk : Int → Int} {nL : Int} {kd : Int → Int} {wy : Int → Int} {ll : Int → Int} {td : Int → Int} {ls : Int → Int} {wh : Int → Int} {F : Int → Prop} {fl : Int} {fc : Int} {b k : Int} (hG : pj_G W sd op ed) (nL0 : 0 ≤ nL) (hb : W b) (k0 : 0 ≤ k) (k1 : k < nL) (k2 : wh k ≠ 2) (k3 : kd k = 2) (k4 : wy k = op b) (hf : ∀ j, 0 ≤ j → j < k → wy j = wy k → wh j ≠ 0) (r2 : td k = nm (sd b)) (r3 : ll k ≤ lv (sd b)) (r4 : tst (sd b) ≠ (ed b)) (r5 : en b ≠ 0) (h : pj_J W sd op ed li st lv nm inw tow bst tst exp om ps dl dn af c0 en pd rp rv fw cl cw tk nL kd wy ll td ls wh F fl fc) : pj_J W sd op ed li st lv nm inw tow bst tst exp om ps dl dn af c0 en pd rp rv (pu fw b 1) cl cw tk (nL + 1) (pu kd nL 4) (pu wy nL b) (pu ll nL (-1)) (pu td nL (-1)) (pu ls nL (-1)) (pu (pu wh k 2) nL 0) F fl fc := by
  have H := h
  obtain ⟨cR, cN0, cN1, cN1w, cER, cN1c, cN2, cN2e, cN2b, cN4e, cN4b, cN5, cN7, cN10, cN10e, cN13, cC1, cC2, cR3a, cE1, cU, cA1, cA2, cEC, cR3, cN11, cN12, cN3, cRJ, cFW, cPD, cCC, cCD, cRP, cRP1, cCR, cZ1, cZ0, cTK, cK2, cWH, cFI, cL0, cFC, cL0u, cOC, cCT, cL1, cL1e, cL1o, cL1b, cL1g, cL2, cL3, cL4, cAF, cRT, cCV, cL5, cL5o, cL5u, cL6, cL6u⟩ := h
  have X := pf_trb hG nL0 hb k0 k1 k2 k3 k4 hf r2 r3 r4 r5 cN0 cN1 cC1 cU cL2
  obtain ⟨f0, f1, f2, f3, f4, f5, f6, f7, f8, f9⟩ := X
  exact pj_trb (F2 := F) hG hb k0 k1 k2 k3 k4 hf f0 f1 f2 f3 r5 f4 f5 f6 f7 f8 r4 f9 nL0 H

set_option maxHeartbeats 1000000 in
theorem pf_txb {W : Int → Prop} {sd : Int → Int} {op : Int → Int} {ed : Int → Int} {st : Int → Int} {lv : Int → Int} {nm : Int → Int} {tst : Int → Int} {exp : Int → Int} {om : Int → Int} {ps : Int → Int} {dl : Int → Int} {af : Int → Int} {en : Int → Int} {fw : Int → Int} {cl : Int → Int} {nL : Int} {kd : Int → Int} {wy : Int → Int} {ll : Int → Int} {td : Int → Int} {wh : Int → Int} {F : Int → Prop} {b k : Int} (hG : pj_G W sd op ed) (nL0 : 0 ≤ nL) (hb : W b) (k0 : 0 ≤ k) (k1 : k < nL) (k2 : wh k ≠ 2) (k3 : kd k = 2) (k4 : wy k = op b) (hf : ∀ j, 0 ≤ j → j < k → wy j = wy k → wh j ≠ 0) (nf : ∀ v, ¬ F v) (r2 : td k = nm (sd b)) (r3 : ll k ≤ lv (sd b)) (r4 : tst (sd b) = (ed b)) (r5 : en b ≠ 0) (cN0 : pj_N0 st lv ps dl af) (cN7 : pj_N7 st tst exp) (cC1 : pj_C1 lv nm cl) (cU : pj_U W sd op ed lv nm om ps dl en cl) (cEC : pj_EC W sd op ed lv nm om ps dl nL kd wy wh F) (cFW : pj_FW W sd ed tst en fw) (cCT : pj_CT nL kd wy wh) (cL2 : pj_L2 sd op ed st lv nm tst en fw nL kd wy ll td wh) : (st (sd b) = 1) ∧ (fw b = 0) ∧ ((tst (sd (op b)) = (ed b) ∧ ll k = lv (sd (op b)) ∧ td k = nm (sd (op b)) ∧ st (sd (op b)) = 1 ∧ lv (sd (op b)) = lv (sd b)) ∨ (tst (sd (op b)) ≠ (ed b) ∧ en (op b) ≠ 0)) := by
  have hop := hG.1
  have hed := hG.2
  unfold pj_N0 pj_N7 pj_C1 pj_U pj_EC pj_FW pj_CT pj_L2 at *
  have x1 : en b = 0 → om (sd (op b)) = (ed b) → ps (sd (op b)) = 1 → dl (sd (op b)) = lv (sd (op b)) → (lv (sd (op b)) = 0 ∨ nm (sd (op b)) ≠ nm (sd b)) → False := by
    intro h0 h1 h2 h3 h4
    have g := hop b hb
    rcases cEC (op b) g.1 (by rw [g.2.2.1]; exact h1) h2 h3 (by rw [g.2.1]; exact h4) with h5 | ⟨j, h5, h6, h7, h8, h9⟩
    · exact absurd h5 (nf _)
    · exact cCT j k h5 h6 h7 h8 k0 k1 k2 (Or.inl k3) (by rw [h9, k4])
  have g0 := hop b hb
  have i0 := cL2 k
  have i1 := cN0 (sd b)
  have i2 := cN0 (sd (op b))
  have i3 := cN7 (sd b)
  have i4 := cFW b
  have i5 := cC1 (sd b)
  have i6 := cC1 (sd (op b))
  have i7 := cU (op b)
  have i8 := cEC (op b)
  have in1 := nf b
  have in2 := nf (op b)
  clear hG hop hed cN0 cN7 cC1 cU cEC cFW cCT cL2
  refine ⟨?_, ?_, ?_⟩ <;> first | assumption | (clear hf nf; grind (splits := 24))

theorem pk_txb {W : Int → Prop} {sd : Int → Int} {op : Int → Int} {ed : Int → Int} {li : Int → Int → Prop} {st : Int → Int} {lv : Int → Int} {nm : Int → Int} {inw : Int → Int} {tow : Int → Int} {bst : Int → Int} {tst : Int → Int} {exp : Int → Int} {om : Int → Int} {ps : Int → Int} {dl : Int → Int} {dn : Int → Int} {af : Int → Int} {c0 : Int → Int} {en : Int → Int} {pd : Int → Int} {rp : Int → Int} {rv : Int → Int} {fw : Int → Int} {cl : Int → Int} {cw : Int → Int} {tk : Int → Int} {nL : Int} {kd : Int → Int} {wy : Int → Int} {ll : Int → Int} {td : Int → Int} {ls : Int → Int} {wh : Int → Int} {F : Int → Prop} {fl : Int} {fc : Int} {b k : Int} (hG : pj_G W sd op ed) (nL0 : 0 ≤ nL) (hb : W b) (k0 : 0 ≤ k) (k1 : k < nL) (k2 : wh k ≠ 2) (k3 : kd k = 2) (k4 : wy k = op b) (hf : ∀ j, 0 ≤ j → j < k → wy j = wy k → wh j ≠ 0) (nf : ∀ v, ¬ F v) (r2 : td k = nm (sd b)) (r3 : ll k ≤ lv (sd b)) (r4 : tst (sd b) = (ed b)) (r5 : en b ≠ 0) (h : pj_J W sd op ed li st lv nm inw tow bst tst exp om ps dl dn af c0 en pd rp rv fw cl cw tk nL kd wy ll td ls wh F fl fc) : pj_J W sd op ed li st lv nm inw tow bst (pu tst (sd b) (-1)) exp om ps dl dn af c0 en pd rp rv (pu fw b 1) cl cw tk nL kd wy ll td ls (pu wh k 2) F fl fc := by
  have H := h
  obtain ⟨cR, cN0, cN1, cN1w, cER, cN1c, cN2, cN2e, cN2b, cN4e, cN4b, cN5, cN7, cN10, cN10e, cN13, cC1, cC2, cR3a, cE1, cU, cA1, cA2, cEC, cR3, cN11, cN12, cN3, cRJ, cFW, cPD, cCC, cCD, cRP, cRP1, cCR, cZ1, cZ0, cTK, cK2, cWH, cFI, cL0, cFC, cL0u, cOC, cCT, cL1, cL1e, cL1o, cL1b, cL1g, cL2, cL3, cL4, cAF, cRT, cCV, cL5, cL5o, cL5u, cL6, cL6u⟩ := h
  have X := pf_txb hG nL0 hb k0 k1 k2 k3 k4 hf nf r2 r3 r4 r5 cN0 cN7 cC1 cU cEC cFW cCT cL2
  obtain ⟨f0, f1, f2⟩ := X
  exact pj_txb (F2 := F) hG hb k0 k1 k2 k3 k4 hf r5 r2 r3 r4 f0 f1 f2 nL0 H

set_option maxHeartbeats 1000000 in
theorem pf_rjb {W : Int → Prop} {sd : Int → Int} {op : Int → Int} {ed : Int → Int} {st : Int → Int} {lv : Int → Int} {nm : Int → Int} {tst : Int → Int} {om : Int → Int} {ps : Int → Int} {dl : Int → Int} {en : Int → Int} {fw : Int → Int} {cl : Int → Int} {nL : Int} {kd : Int → Int} {wy : Int → Int} {wh : Int → Int} {F : Int → Prop} {b k : Int} (hG : pj_G W sd op ed) (nL0 : 0 ≤ nL) (hb : W b) (k0 : 0 ≤ k) (k1 : k < nL) (k2 : wh k ≠ 2) (k3 : kd k = 4) (k4 : wy k = op b) (hf : ∀ j, 0 ≤ j → j < k → wy j = wy k → wh j ≠ 0) (nf : ∀ v, ¬ F v) (r2 : en b ≠ 0) (cU : pj_U W sd op ed lv nm om ps dl en cl) (cEC : pj_EC W sd op ed lv nm om ps dl nL kd wy wh F) (cFW : pj_FW W sd ed tst en fw) (cCT : pj_CT nL kd wy wh) (cL4 : pj_L4 sd op ed st tst en nL kd wy wh) : (tst (sd b) = (ed b)) ∧ (st (sd b) = 1) ∧ (en (op b) ≠ 0) ∧ (fw b = 0) := by
  have hop := hG.1
  have hed := hG.2
  unfold pj_U pj_EC pj_FW pj_CT pj_L4 at *
  have x1 : en b = 0 → om (sd (op b)) = (ed b) → ps (sd (op b)) = 1 → dl (sd (op b)) = lv (sd (op b)) → (lv (sd (op b)) = 0 ∨ nm (sd (op b)) ≠ nm (sd b)) → False := by
    intro h0 h1 h2 h3 h4
    have g := hop b hb
    rcases cEC (op b) g.1 (by rw [g.2.2.1]; exact h1) h2 h3 (by rw [g.2.1]; exact h4) with h5 | ⟨j, h5, h6, h7, h8, h9⟩
    · exact absurd h5 (nf _)
    · exact cCT j k h5 h6 h7 h8 k0 k1 k2 (Or.inr k3) (by rw [h9, k4])
  have g0 := hop b hb
  have i0 := cL4 k
  have i1 := cFW b
  have i2 := cU (op b)
  have i3 := cEC (op b)
  have in1 := nf b
  have in2 := nf (op b)
  clear hG hop hed cU cEC cFW cCT cL4
  refine ⟨?_, ?_, ?_, ?_⟩ <;> first | assumption | (clear hf nf; grind (splits := 24))

theorem pk_rjb {W : Int → Prop} {sd : Int → Int} {op : Int → Int} {ed : Int → Int} {li : Int → Int → Prop} {st : Int → Int} {lv : Int → Int} {nm : Int → Int} {inw : Int → Int} {tow : Int → Int} {bst : Int → Int} {tst : Int → Int} {exp : Int → Int} {om : Int → Int} {ps : Int → Int} {dl : Int → Int} {dn : Int → Int} {af : Int → Int} {c0 : Int → Int} {en : Int → Int} {pd : Int → Int} {rp : Int → Int} {rv : Int → Int} {fw : Int → Int} {cl : Int → Int} {cw : Int → Int} {tk : Int → Int} {nL : Int} {kd : Int → Int} {wy : Int → Int} {ll : Int → Int} {td : Int → Int} {ls : Int → Int} {wh : Int → Int} {F : Int → Prop} {fl : Int} {fc : Int} {b k : Int} (hG : pj_G W sd op ed) (nL0 : 0 ≤ nL) (hb : W b) (k0 : 0 ≤ k) (k1 : k < nL) (k2 : wh k ≠ 2) (k3 : kd k = 4) (k4 : wy k = op b) (hf : ∀ j, 0 ≤ j → j < k → wy j = wy k → wh j ≠ 0) (nf : ∀ v, ¬ F v) (r2 : en b ≠ 0) (h : pj_J W sd op ed li st lv nm inw tow bst tst exp om ps dl dn af c0 en pd rp rv fw cl cw tk nL kd wy ll td ls wh F fl fc) : pj_J W sd op ed li st lv nm inw tow bst (pu tst (sd b) (-1)) exp om ps dl dn af c0 en pd rp rv (pu fw b 1) cl cw tk nL kd wy ll td ls (pu wh k 2) F fl fc := by
  have H := h
  obtain ⟨cR, cN0, cN1, cN1w, cER, cN1c, cN2, cN2e, cN2b, cN4e, cN4b, cN5, cN7, cN10, cN10e, cN13, cC1, cC2, cR3a, cE1, cU, cA1, cA2, cEC, cR3, cN11, cN12, cN3, cRJ, cFW, cPD, cCC, cCD, cRP, cRP1, cCR, cZ1, cZ0, cTK, cK2, cWH, cFI, cL0, cFC, cL0u, cOC, cCT, cL1, cL1e, cL1o, cL1b, cL1g, cL2, cL3, cL4, cAF, cRT, cCV, cL5, cL5o, cL5u, cL6, cL6u⟩ := h
  have X := pf_rjb hG nL0 hb k0 k1 k2 k3 k4 hf nf r2 cU cEC cFW cCT cL4
  obtain ⟨f0, f1, f2, f3⟩ := X
  exact pj_rjb (F2 := F) hG hb k0 k1 k2 k3 k4 hf r2 f0 f1 f2 f3 nL0 H

set_option maxHeartbeats 1000000 in
theorem pf_acb {W : Int → Prop} {sd : Int → Int} {op : Int → Int} {ed : Int → Int} {st : Int → Int} {lv : Int → Int} {nm : Int → Int} {tst : Int → Int} {ps : Int → Int} {dl : Int → Int} {af : Int → Int} {en : Int → Int} {fw : Int → Int} {nL : Int} {kd : Int → Int} {wy : Int → Int} {wh : Int → Int} {b k : Int} (hG : pj_G W sd op ed) (nL0 : 0 ≤ nL) (hb : W b) (k0 : 0 ≤ k) (k1 : k < nL) (k2 : wh k ≠ 2) (k3 : kd k = 3) (k4 : wy k = op b) (hf : ∀ j, 0 ≤ j → j < k → wy j = wy k → wh j ≠ 0) (cN0 : pj_N0 st lv ps dl af) (cR3a : pj_R3a st lv dl) (cL3 : pj_L3 sd op ed st lv nm tst en fw nL kd wy wh) : (tst (sd b) = (ed b)) ∧ (st (sd b) = 1) ∧ (nm (sd (op b)) ≠ nm (sd b)) ∧ (lv (sd b) ≤ lv (sd (op b))) ∧ (en b = 0) ∧ (en (op b) ≠ 2) ∧ (fw (op b) = 0) ∧ (ps (sd b) = 0) ∧ (1 ≤ lv (sd b)) := by
  have hop := hG.1
  have hed := hG.2
  unfold pj_N0 pj_R3a pj_L3 at *
  have g0 := hop b hb
  have i0 := cL3 k
  have i1 := cN0 (sd b)
  have i2 := cR3a (sd b)
  clear hG hop hed cN0 cR3a cL3
  refine ⟨?_, ?_, ?_, ?_, ?_, ?_, ?_, ?_, ?_⟩ <;> first | assumption | (clear hf; grind (splits := 24))

theorem pk_acb {W : Int → Prop} {sd : Int → Int} {op : Int → Int} {ed : Int → Int} {li : Int → Int → Prop} {st : Int → Int} {lv : Int → Int} {nm : Int → Int} {inw : Int → Int} {tow : Int → Int} {bst : Int → Int} {tst : Int → Int} {exp : Int → Int} {om : Int → Int} {ps : Int → Int} {dl : Int → Int} {dn : Int → Int} {af : Int → Int} {c0 : Int → Int} {en : Int → Int} {pd : Int → Int} {rp : Int → Int} {rv : Int → Int} {fw : Int → Int} {cl : Int → Int} {cw : Int → Int} {tk : Int → Int} {nL : Int} {kd : Int → Int} {wy : Int → Int} {ll : Int → Int} {td : Int → Int} {ls : Int → Int} {wh : Int → Int} {F : Int → Prop} {fl : Int} {fc : Int} {b k : Int} (hG : pj_G W sd op ed) (nL0 : 0 ≤ nL) (hb : W b) (k0 : 0 ≤ k) (k1 : k < nL) (k2 : wh k ≠ 2) (k3 : kd k = 3) (k4 : wy k = op b) (hf : ∀ j, 0 ≤ j → j < k → wy j = wy k → wh j ≠ 0) (h : pj_J W sd op ed li st lv nm inw tow bst tst exp om ps dl dn af c0 en pd rp rv fw cl cw tk nL kd wy ll td ls wh F fl fc) : pj_J W sd op ed li st lv nm inw tow bst (pu tst (sd b) (-1)) exp om ps dl dn af c0 en pd rp rv fw cl cw tk nL kd wy ll td ls (pu wh k 2) F fl fc := by
  have H := h
  obtain ⟨cR, cN0, cN1, cN1w, cER, cN1c, cN2, cN2e, cN2b, cN4e, cN4b, cN5, cN7, cN10, cN10e, cN13, cC1, cC2, cR3a, cE1, cU, cA1, cA2, cEC, cR3, cN11, cN12, cN3, cRJ, cFW, cPD, cCC, cCD, cRP, cRP1, cCR, cZ1, cZ0, cTK, cK2, cWH, cFI, cL0, cFC, cL0u, cOC, cCT, cL1, cL1e, cL1o, cL1b, cL1g, cL2, cL3, cL4, cAF, cRT, cCV, cL5, cL5o, cL5u, cL6, cL6u⟩ := h
  have X := pf_acb hG nL0 hb k0 k1 k2 k3 k4 hf cN0 cR3a cL3
  obtain ⟨f0, f1, f2, f3, f4, f5, f6, f7, f8⟩ := X
  exact pj_acb (F2 := F) hG hb k0 k1 k2 k3 k4 hf f0 f1 f2 f3 f4 f5 f6 f7 f8 nL0 H

set_option maxHeartbeats 1000000 in
theorem pf_rcb {W : Int → Prop} {sd : Int → Int} {op : Int → Int} {ed : Int → Int} {st : Int → Int} {lv : Int → Int} {nm : Int → Int} {inw : Int → Int} {tow : Int → Int} {bst : Int → Int} {om : Int → Int} {ps : Int → Int} {dl : Int → Int} {af : Int → Int} {en : Int → Int} {pd : Int → Int} {rp : Int → Int} {rv : Int → Int} {cl : Int → Int} {tk : Int → Int} {nL : Int} {kd : Int → Int} {wy : Int → Int} {ll : Int → Int} {td : Int → Int} {ls : Int → Int} {wh : Int → Int} {b k : Int} (hG : pj_G W sd op ed) (nL0 : 0 ≤ nL) (hb : W b) (k0 : 0 ≤ k) (k1 : k < nL) (k2 : wh k ≠ 2) (k3 : kd k = 5) (k4 : wy k = op b) (hf : ∀ j, 0 ≤ j → j < k → wy j = wy k → wh j ≠ 0) (r2 : inw (sd b) ≠ (ed b)) (cR : pj_R W nL kd wy wh) (cN0 : pj_N0 st lv ps dl af) (cN10 : pj_N10 tow bst) (cN13 : pj_N13 W sd ed lv nm inw) (cR3a : pj_R3a st lv dl) (cE1 : pj_E1 sd op lv dl nL kd wy ll wh) (cPD : pj_PD W sd op ed st om en pd) (cCC : pj_CC W ed en cl) (cRP1 : pj_RP1 W sd ed lv rp cl) (cWH : pj_WH nL kd wh) (cL1 : pj_L1 sd op ed st lv om dl en cl nL kd wy ll td ls wh) (cL5 : pj_L5 sd op ed st lv nm inw bst om ps dl pd rp rv cl tk nL kd wy td wh) (cL5o : pj_L5o sd op ed lv cl nL kd wy wh) : (pd b = 1) ∧ (om (sd (op b)) = (ed b)) ∧ (inw (sd (op b)) = (ed b)) ∧ (ps (sd (op b)) = 0) ∧ (lv (sd (op b)) = lv (sd b)) ∧ (nm (sd (op b)) = nm (sd b)) ∧ (dl (sd (op b)) = lv (sd (op b))) ∧ (st (sd (op b)) = 2) ∧ (td k = bst (sd (op b))) ∧ (st (sd b) = 1) ∧ (en b = 1) ∧ (om (sd b) ≠ (ed b)) ∧ (1 ≤ lv (sd b)) ∧ (ps (sd b) = 0) := by
  have hop := hG.1
  have hed := hG.2
  unfold pj_R pj_N0 pj_N10 pj_N13 pj_R3a pj_E1 pj_PD pj_CC pj_RP1 pj_WH pj_L1 pj_L5 pj_L5o at *
  have x1 : om (sd b) = (ed b) → lv (sd b) < cl (ed b) → lv (sd b) < dl (sd b) → False := by
    intro h1 h2 h3
    have g := hop b hb
    obtain ⟨j, h4, h5, h6, h7, h8, h9⟩ := cE1 (sd b) h3
    have h10 := cL1 j h4 h5 h6 h7
    have g2 := hop (wy j) (cR j h4 h5).1
    have h11 : wy j = op b := by
      rcases hed b (wy j) hb (cR j h4 h5).1 (by rw [← h1, ← h8]; exact h10.1) with h | h
      · rw [h] at h8; exact absurd h8 g.2.2.2.1
      · exact h
    have h12 := (cL5o j k h4 h5 h6 h7 k0 k1 k2 k3 (by rw [h11, k4])).1
    rw [k4, g.2.1, g.2.2.1] at h12
    have h13 := h12 h2
    have h14 := hf j h4 h13 (by rw [h11, k4])
    have h15 := cWH j h4 h5
    have h16 := (cR j h4 h5).2.2.2
    omega
  have g0 := hop b hb
  have i0 := cL5 k
  have i1 := cPD b
  have i2 := cN0 (sd b)
  have i3 := cN0 (sd (op b))
  have i4 := cR3a (sd b)
  have i5 := cN13 b
  have i6 := cRP1 (op b)
  have i7 := cCC b
  have i8 := cE1 (sd b)
  have i9 := cN10 (sd (op b))
  clear hG hop hed cR cN0 cN10 cN13 cR3a cE1 cPD cCC cRP1 cWH cL1 cL5 cL5o
  refine ⟨?_, ?_, ?_, ?_, ?_, ?_, ?_, ?_, ?_, ?_, ?_, ?_, ?_, ?_⟩ <;> first | assumption | (clear hf; grind (splits := 24))

theorem pk_rcb {W : Int → Prop} {sd : Int → Int} {op : Int → Int} {ed : Int → Int} {li : Int → Int → Prop} {st : Int → Int} {lv : Int → Int} {nm : Int → Int} {inw : Int → Int} {tow : Int → Int} {bst : Int → Int} {tst : Int → Int} {exp : Int → Int} {om : Int → Int} {ps : Int → Int} {dl : Int → Int} {dn : Int → Int} {af : Int → Int} {c0 : Int → Int} {en : Int → Int} {pd : Int → Int} {rp : Int → Int} {rv : Int → Int} {fw : Int → Int} {cl : Int → Int} {cw : Int → Int} {tk : Int → Int} {nL : Int} {kd : Int → Int} {wy : Int → Int} {ll : Int → Int} {td : Int → Int} {ls : Int → Int} {wh : Int → Int} {F : Int → Prop} {fl : Int} {fc : Int} {b k : Int} (hG : pj_G W sd op ed) (nL0 : 0 ≤ nL) (hb : W b) (k0 : 0 ≤ k) (k1 : k < nL) (k2 : wh k ≠ 2) (k3 : kd k = 5) (k4 : wy k = op b) (hf : ∀ j, 0 ≤ j → j < k → wy j = wy k → wh j ≠ 0) (r2 : inw (sd b) ≠ (ed b)) (h : pj_J W sd op ed li st lv nm inw tow bst tst exp om ps dl dn af c0 en pd rp rv fw cl cw tk nL kd wy ll td ls wh F fl fc) : pj_J W sd op ed li st lv nm inw tow bst tst exp om ps dl dn af c0 en (pu pd b 0) rp rv fw cl cw tk nL kd wy ll td ls (pu wh k 2) F fl fc := by
  have H := h
  obtain ⟨cR, cN0, cN1, cN1w, cER, cN1c, cN2, cN2e, cN2b, cN4e, cN4b, cN5, cN7, cN10, cN10e, cN13, cC1, cC2, cR3a, cE1, cU, cA1, cA2, cEC, cR3, cN11, cN12, cN3, cRJ, cFW, cPD, cCC, cCD, cRP, cRP1, cCR, cZ1, cZ0, cTK, cK2, cWH, cFI, cL0, cFC, cL0u, cOC, cCT, cL1, cL1e, cL1o, cL1b, cL1g, cL2, cL3, cL4, cAF, cRT, cCV, cL5, cL5o, cL5u, cL6, cL6u⟩ := h
  have X := pf_rcb hG nL0 hb k0 k1 k2 k3 k4 hf r2 cR cN0 cN10 cN13 cR3a cE1 cPD cCC cRP1 cWH cL1 cL5 cL5o
  obtain ⟨f0, f1, f2, f3, f4, f5, f6, f7, f8, f9, f10, f11, f12, f13⟩ := X
  exact pj_rcb (F2 := F) hG hb k0 k1 k2 k3 k4 hf f0 f1 f2 f3 f4 f5 f6 f7 f8 f9 f10 f11 f12 f13 nL0 H

set_option maxHeartbeats 1000000 in
theorem pf_rh {W : Int → Prop} {sd : Int → Int} {op : Int → Int} {ed : Int → Int} {st : Int → Int} {lv : Int → Int} {nm : Int → Int} {inw : Int → Int} {bst : Int → Int} {om : Int → Int} {ps : Int → Int} {dl : Int → Int} {af : Int → Int} {en : Int → Int} {pd : Int → Int} {rp : Int → Int} {rv : Int → Int} {cl : Int → Int} {tk : Int → Int} {nL : Int} {kd : Int → Int} {wy : Int → Int} {ll : Int → Int} {td : Int → Int} {ls : Int → Int} {wh : Int → Int} {b k : Int} (hG : pj_G W sd op ed) (nL0 : 0 ≤ nL) (hb : W b) (k0 : 0 ≤ k) (k1 : k < nL) (k2 : wh k ≠ 2) (k3 : kd k = 5) (k4 : wy k = op b) (hf : ∀ j, 0 ≤ j → j < k → wy j = wy k → wh j ≠ 0) (r2 : inw (sd b) = (ed b)) (r3 : st (sd b) ≠ 1) (cR : pj_R W nL kd wy wh) (cN0 : pj_N0 st lv ps dl af) (cN1 : pj_N1 st lv om ps dl) (cE1 : pj_E1 sd op lv dl nL kd wy ll wh) (cPD : pj_PD W sd op ed st om en pd) (cCC : pj_CC W ed en cl) (cRP1 : pj_RP1 W sd ed lv rp cl) (cWH : pj_WH nL kd wh) (cL1 : pj_L1 sd op ed st lv om dl en cl nL kd wy ll td ls wh) (cL5 : pj_L5 sd op ed st lv nm inw bst om ps dl pd rp rv cl tk nL kd wy td wh) (cL5o : pj_L5o sd op ed lv cl nL kd wy wh) : (rp (op b) = 1) ∧ (rv (op b) = td k) ∧ (lv (sd b) = cl (ed b)) ∧ (nm (sd b) = (ed b)) ∧ (ps (sd b) = 0) ∧ (st (sd b) = 2) ∧ (1 ≤ lv (sd b)) := by
  have hop := hG.1
  have hed := hG.2
  unfold pj_R pj_N0 pj_N1 pj_E1 pj_PD pj_CC pj_RP1 pj_WH pj_L1 pj_L5 pj_L5o at *
  have x1 : om (sd b) = (ed b) → lv (sd b) < cl (ed b) → lv (sd b) < dl (sd b) → False := by
    intro h1 h2 h3
    have g := hop b hb
    obtain ⟨j, h4, h5, h6, h7, h8, h9⟩ := cE1 (sd b) h3
    have h10 := cL1 j h4 h5 h6 h7
    have g2 := hop (wy j) (cR j h4 h5).1
    have h11 : wy j = op b := by
      rcases hed b (wy j) hb (cR j h4 h5).1 (by rw [← h1, ← h8]; exact h10.1) with h | h
      · rw [h] at h8; exact absurd h8 g.2.2.2.1
      · exact h
    have h12 := (cL5o j k h4 h5 h6 h7 k0 k1 k2 k3 (by rw [h11, k4])).1
    rw [k4, g.2.1, g.2.2.1] at h12
    have h13 := h12 h2
    have h14 := hf j h4 h13 (by rw [h11, k4])
    have h15 := cWH j h4 h5
    have h16 := (cR j h4 h5).2.2.2
    omega
  have g0 := hop b hb
  have i0 := cL5 k
  have i1 := cPD b
  have i2 := cN0 (sd b)
  have i3 := cN1 (sd b)
  have i4 := cRP1 (op b)
  have i5 := cCC b
  have i6 := cE1 (sd b)
  clear hG hop hed cR cN0 cN1 cE1 cPD cCC cRP1 cWH cL1 cL5 cL5o
  refine ⟨?_, ?_, ?_, ?_, ?_, ?_, ?_⟩ <;> first | assumption | (clear hf; grind (splits := 24))

theorem pk_rh {W : Int → Prop} {sd : Int → Int} {op : Int → Int} {ed : Int → Int} {li : Int → Int → Prop} {st : Int → Int} {lv : Int → Int} {nm : Int → Int} {inw : Int → Int} {tow : Int → Int} {bst : Int → Int} {tst : Int → Int} {exp : Int → Int} {om : Int → Int} {ps : Int → Int} {dl : Int → Int} {dn : Int → Int} {af : Int → Int} {c0 : Int → Int} {en : Int → Int} {pd : Int → Int} {rp : Int → Int} {rv : Int → Int} {fw : Int → Int} {cl : Int → Int} {cw : Int → Int} {tk : Int → Int} {nL : Int} {kd : Int → Int} {wy : Int → Int} {ll : Int → Int} {td : Int → Int} {ls : Int → Int} {wh : Int → Int} {F : Int → Prop} {fl : Int} {fc : Int} {b k : Int} (hG : pj_G W sd op ed) (nL0 : 0 ≤ nL) (hb : W b) (k0 : 0 ≤ k) (k1 : k < nL) (k2 : wh k ≠ 2) (k3 : kd k = 5) (k4 : wy k = op b) (hf : ∀ j, 0 ≤ j → j < k → wy j = wy k → wh j ≠ 0) (r2 : inw (sd b) = (ed b)) (r3 : st (sd b) ≠ 1) (h : pj_J W sd op ed li st lv nm inw tow bst tst exp om ps dl dn af c0 en pd rp rv fw cl cw tk nL kd wy ll td ls wh F fl fc) : pj_J W sd op ed li st lv nm inw tow bst tst exp om ps dl dn af c0 en pd (pu rp (op b) 2) rv fw cl cw tk nL kd wy ll td ls (pu wh k 2) F fl fc := by
  have H := h
  obtain ⟨cR, cN0, cN1, cN1w, cER, cN1c, cN2, cN2e, cN2b, cN4e, cN4b, cN5, cN7, cN10, cN10e, cN13, cC1, cC2, cR3a, cE1, cU, cA1, cA2, cEC, cR3, cN11, cN12, cN3, cRJ, cFW, cPD, cCC, cCD, cRP, cRP1, cCR, cZ1, cZ0, cTK, cK2, cWH, cFI, cL0, cFC, cL0u, cOC, cCT, cL1, cL1e, cL1o, cL1b, cL1g, cL2, cL3, cL4, cAF, cRT, cCV, cL5, cL5o, cL5u, cL6, cL6u⟩ := h
  have X := pf_rh hG nL0 hb k0 k1 k2 k3 k4 hf r2 r3 cR cN0 cN1 cE1 cPD cCC cRP1 cWH cL1 cL5 cL5o
  obtain ⟨f0, f1, f2, f3, f4, f5, f6⟩ := X
  exact pj_rh (F2 := F) hG hb k0 k1 k2 k3 k4 hf f0 f1 f2 f3 f4 f5 f6 nL0 H

set_option maxHeartbeats 1000000 in
theorem pf_rs {W : Int → Prop} {sd : Int → Int} {op : Int → Int} {ed : Int → Int} {li : Int → Int → Prop} {st : Int → Int} {lv : Int → Int} {nm : Int → Int} {inw : Int → Int} {bst : Int → Int} {om : Int → Int} {ps : Int → Int} {dl : Int → Int} {af : Int → Int} {en : Int → Int} {pd : Int → Int} {rp : Int → Int} {rv : Int → Int} {cl : Int → Int} {tk : Int → Int} {nL : Int} {kd : Int → Int} {wy : Int → Int} {ll : Int → Int} {td : Int → Int} {ls : Int → Int} {wh : Int → Int} {b k : Int} (hG : pj_G W sd op ed) (nL0 : 0 ≤ nL) (hb : W b) (k0 : 0 ≤ k) (k1 : k < nL) (k2 : wh k ≠ 2) (k3 : kd k = 5) (k4 : wy k = op b) (hf : ∀ j, 0 ≤ j → j < k → wy j = wy k → wh j ≠ 0) (r2 : inw (sd b) = (ed b)) (r3 : st (sd b) ≠ 1) (r4 : li (bst (sd b)) (td k)) (cR : pj_R W nL kd wy wh) (cN0 : pj_N0 st lv ps dl af) (cN1 : pj_N1 st lv om ps dl) (cE1 : pj_E1 sd op lv dl nL kd wy ll wh) (cPD : pj_PD W sd op ed st om en pd) (cCC : pj_CC W ed en cl) (cRP : pj_RP W sd ed st lv nm bst rp rv) (cRP1 : pj_RP1 W sd ed lv rp cl) (cWH : pj_WH nL kd wh) (cL1 : pj_L1 sd op ed st lv om dl en cl nL kd wy ll td ls wh) (cL5 : pj_L5 sd op ed st lv nm inw bst om ps dl pd rp rv cl tk nL kd wy td wh) (cL5o : pj_L5o sd op ed lv cl nL kd wy wh) : (rp (op b) = 1) ∧ (rv (op b) = td k) ∧ (lv (sd b) = cl (ed b)) ∧ (nm (sd b) = (ed b)) ∧ (ps (sd b) = 0) ∧ (st (sd b) = 2) ∧ (1 ≤ lv (sd b)) ∧ (1 ≤ rp b) ∧ (rv b = bst (sd b)) := by
  have hop := hG.1
  have hed := hG.2
  unfold pj_R pj_N0 pj_N1 pj_E1 pj_PD pj_CC pj_RP pj_RP1 pj_WH pj_L1 pj_L5 pj_L5o at *
  have x1 : om (sd b) = (ed b) → lv (sd b) < cl (ed b) → lv (sd b) < dl (sd b) → False := by
    intro h1 h2 h3
    have g := hop b hb
    obtain ⟨j, h4, h5, h6, h7, h8, h9⟩ := cE1 (sd b) h3
    have h10 := cL1 j h4 h5 h6 h7
    have g2 := hop (wy j) (cR j h4 h5).1
    have h11 : wy j = op b := by
      rcases hed b (wy j) hb (cR j h4 h5).1 (by rw [← h1, ← h8]; exact h10.1) with h | h
      · rw [h] at h8; exact absurd h8 g.2.2.2.1
      · exact h
    have h12 := (cL5o j k h4 h5 h6 h7 k0 k1 k2 k3 (by rw [h11, k4])).1
    rw [k4, g.2.1, g.2.2.1] at h12
    have h13 := h12 h2
    have h14 := hf j h4 h13 (by rw [h11, k4])
    have h15 := cWH j h4 h5
    have h16 := (cR j h4 h5).2.2.2
    omega
  have g0 := hop b hb
  have i0 := cL5 k
  have i1 := cPD b
  have i2 := cN0 (sd b)
  have i3 := cN1 (sd b)
  have i4 := cRP1 (op b)
  have i5 := cCC b
  have i6 := cE1 (sd b)
  have i7 := cRP b
  clear hG hop hed cR cN0 cN1 cE1 cPD cCC cRP cRP1 cWH cL1 cL5 cL5o
  refine ⟨?_, ?_, ?_, ?_, ?_, ?_, ?_, ?_, ?_⟩ <;> first | assumption | (clear hf; grind (splits := 24))

theorem pk_rs {W : Int → Prop} {sd : Int → Int} {op : Int → Int} {ed : Int → Int} {li : Int → Int → Prop} {st : Int → Int} {lv : Int → Int} {nm : Int → Int} {inw : Int → Int} {tow : Int → Int} {bst : Int → Int} {tst : Int → Int} {exp : Int → Int} {om : Int → Int} {ps : Int → Int} {dl : Int → Int} {dn : Int → Int} {af : Int → Int} {c0 : Int → Int} {en : Int → Int} {pd : Int → Int} {rp : Int → Int} {rv : Int → Int} {fw : Int → Int} {cl : Int → Int} {cw : Int → Int} {tk : Int → Int} {nL : Int} {kd : Int → Int} {wy : Int → Int} {ll : Int → Int} {td : Int → Int} {ls : Int → Int} {wh : Int → Int} {F : Int → Prop} {fl : Int} {fc : Int} {b k : Int} (hG : pj_G W sd op ed) (nL0 : 0 ≤ nL) (hb : W b) (k0 : 0 ≤ k) (k1 : k < nL) (k2 : wh k ≠ 2) (k3 : kd k = 5) (k4 : wy k = op b) (hf : ∀ j, 0 ≤ j → j < k → wy j = wy k → wh j ≠ 0) (r2 : inw (sd b) = (ed b)) (r3 : st (sd b) ≠ 1) (r4 : li (bst (sd b)) (td k)) (h : pj_J W sd op ed li st lv nm inw tow bst tst exp om ps dl dn af c0 en pd rp rv fw cl cw tk nL kd wy ll td ls wh F fl fc) : pj_J W sd op ed li st lv nm inw tow bst tst exp om ps dl dn af c0 en pd (pu rp (op b) 2) rv fw cl cw (pu tk (nm (sd b)) 1) nL kd wy ll td ls (pu wh k 2) F fl fc := by
  have H := h
  obtain ⟨cR, cN0, cN1, cN1w, cER, cN1c, cN2, cN2e, cN2b, cN4e, cN4b, cN5, cN7, cN10, cN10e, cN13, cC1, cC2, cR3a, cE1, cU, cA1, cA2, cEC, cR3, cN11, cN12, cN3, cRJ, cFW, cPD, cCC, cCD, cRP, cRP1, cCR, cZ1, cZ0, cTK, cK2, cWH, cFI, cL0, cFC, cL0u, cOC, cCT, cL1, cL1e, cL1o, cL1b, cL1g, cL2, cL3, cL4, cAF, cRT, cCV, cL5, cL5o, cL5u, cL6, cL6u⟩ := h
  have X := pf_rs hG nL0 hb k0 k1 k2 k3 k4 hf r2 r3 r4 cR cN0 cN1 cE1 cPD cCC cRP cRP1 cWH cL1 cL5 cL5o
  obtain ⟨f0, f1, f2, f3, f4, f5, f6, f7, f8⟩ := X
  exact pj_rs (F2 := F) hG hb k0 k1 k2 k3 k4 hf f0 f1 f2 f3 f4 f5 f6 f7 f8 r4 nL0 H

set_option maxHeartbeats 1000000 in
theorem pf_ch {W : Int → Prop} {sd : Int → Int} {op : Int → Int} {ed : Int → Int} {st : Int → Int} {lv : Int → Int} {nm : Int → Int} {tow : Int → Int} {om : Int → Int} {ps : Int → Int} {dl : Int → Int} {cw : Int → Int} {tk : Int → Int} {nL : Int} {kd : Int → Int} {wy : Int → Int} {wh : Int → Int} {b k : Int} (hG : pj_G W sd op ed) (nL0 : 0 ≤ nL) (hb : W b) (k0 : 0 ≤ k) (k1 : k < nL) (k2 : wh k ≠ 2) (k3 : kd k = 6) (k4 : wy k = op b) (hf : ∀ j, 0 ≤ j → j < k → wy j = wy k → wh j ≠ 0) (cL6 : pj_L6 sd op ed st lv nm tow om ps dl cw tk nL kd wy wh) : (st (sd b) = 2) := by
  have hop := hG.1
  have hed := hG.2
  unfold pj_L6 at *
  have g0 := hop b hb
  have i0 := cL6 k
  clear hG hop hed cL6
  first | assumption | (clear hf; grind (splits := 24))

theorem pk_ch {W : Int → Prop} {sd : Int → Int} {op : Int → Int} {ed : Int → Int} {li : Int → Int → Prop} {st : Int → Int} {lv : Int → Int} {nm : Int → Int} {inw : Int → Int} {tow : Int → Int} {bst : Int → Int} {tst : Int → Int} {exp : Int → Int} {om : Int → Int} {ps : Int → Int} {dl : Int → Int} {dn : Int → Int} {af : Int → Int} {c0 : Int → Int} {en : Int → Int} {pd : Int → Int} {rp : Int → Int} {rv : Int → Int} {fw : Int → Int} {cl : Int → Int} {cw : Int → Int} {tk : Int → Int} {nL : Int} {kd : Int → Int} {wy : Int → Int} {ll : Int → Int} {td : Int → Int} {ls : Int → Int} {wh : Int → Int} {F : Int → Prop} {fl : Int} {fc : Int} {b k : Int} (hG : pj_G W sd op ed) (nL0 : 0 ≤ nL) (hb : W b) (k0 : 0 ≤ k) (k1 : k < nL) (k2 : wh k ≠ 2) (k3 : kd k = 6) (k4 : wy k = op b) (hf : ∀ j, 0 ≤ j → j < k → wy j = wy k → wh j ≠ 0) (h : pj_J W sd op ed li st lv nm inw tow bst tst exp om ps dl dn af c0 en pd rp rv fw cl cw tk nL kd wy ll td ls wh F fl fc) : pj_J W sd op ed li st lv nm inw tow bst tst exp om ps dl dn af c0 en pd rp rv fw cl cw tk nL kd wy ll td ls (pu wh k 2) F fl fc := by
  have H := h
  obtain ⟨cR, cN0, cN1, cN1w, cER, cN1c, cN2, cN2e, cN2b, cN4e, cN4b, cN5, cN7, cN10, cN10e, cN13, cC1, cC2, cR3a, cE1, cU, cA1, cA2, cEC, cR3, cN11, cN12, cN3, cRJ, cFW, cPD, cCC, cCD, cRP, cRP1, cCR, cZ1, cZ0, cTK, cK2, cWH, cFI, cL0, cFC, cL0u, cOC, cCT, cL1, cL1e, cL1o, cL1b, cL1g, cL2, cL3, cL4, cAF, cRT, cCV, cL5, cL5o, cL5u, cL6, cL6u⟩ := h
  have X := pf_ch hG nL0 hb k0 k1 k2 k3 k4 hf cL6
  have f0 := X
  exact pj_ch (F2 := F) hG hb k0 k1 k2 k3 k4 hf f0 nL0 H

set_option maxHeartbeats 1000000 in
theorem pf_df {W : Int → Prop} {sd : Int → Int} {op : Int → Int} {ed : Int → Int} {st : Int → Int} {lv : Int → Int} {nm : Int → Int} {inw : Int → Int} {bst : Int → Int} {om : Int → Int} {ps : Int → Int} {dl : Int → Int} {af : Int → Int} {en : Int → Int} {pd : Int → Int} {rp : Int → Int} {rv : Int → Int} {cl : Int → Int} {tk : Int → Int} {nL : Int} {kd : Int → Int} {wy : Int → Int} {td : Int → Int} {wh : Int → Int} {b k : Int} (hG : pj_G W sd op ed) (nL0 : 0 ≤ nL) (hb : W b) (k0 : 0 ≤ k) (k1 : k < nL) (r2 : wh k = 0) (r3 : kd k = 0 ∨ kd k = 2 ∨ (kd k = 5 ∧ inw (sd b) = (ed b) ∧ st (sd b) = 1)) (k4 : wy k = op b) (hf : ∀ j, 0 ≤ j → j < k → wy j = wy k → wh j ≠ 0) (r4 : st (sd b) ≠ 0) (cN0 : pj_N0 st lv ps dl af) (cN5 : pj_N5 lv inw om ps) (cR3a : pj_R3a st lv dl) (cPD : pj_PD W sd op ed st om en pd) (cL5 : pj_L5 sd op ed st lv nm inw bst om ps dl pd rp rv cl tk nL kd wy td wh) : (kd k = 0 ∨ kd k = 2 ∨ (kd k = 5 ∧ pd b = 0)) := by
  have hop := hG.1
  have hed := hG.2
  unfold pj_N0 pj_N5 pj_R3a pj_PD pj_L5 at *
  have g0 := hop b hb
  have i0 := cL5 k
  have i1 := cPD b
  have i2 := cN0 (sd b)
  have i3 := cN5 (sd b)
  have i4 := cR3a (sd b)
  clear hG hop hed cN0 cN5 cR3a cPD cL5
  first | assumption | (clear hf; grind (splits := 24))

theorem pk_df {W : Int → Prop} {sd : Int → Int} {op : Int → Int} {ed : Int → Int} {li : Int → Int → Prop} {st : Int → Int} {lv : Int → Int} {nm : Int → Int} {inw : Int → Int} {tow : Int → Int} {bst : Int → Int} {tst : Int → Int} {exp : Int → Int} {om : Int → Int} {ps : Int → Int} {dl : Int → Int} {dn : Int → Int} {af : Int → Int} {c0 : Int → Int} {en : Int → Int} {pd : Int → Int} {rp : Int → Int} {rv : Int → Int} {fw : Int → Int} {cl : Int → Int} {cw : Int → Int} {tk : Int → Int} {nL : Int} {kd : Int → Int} {wy : Int → Int} {ll : Int → Int} {td : Int → Int} {ls : Int → Int} {wh : Int → Int} {F : Int → Prop} {fl : Int} {fc : Int} {b k : Int} (hG : pj_G W sd op ed) (nL0 : 0 ≤ nL) (hb : W b) (k0 : 0 ≤ k) (k1 : k < nL) (r2 : wh k = 0) (r3 : kd k = 0 ∨ kd k = 2 ∨ (kd k = 5 ∧ inw (sd b) = (ed b) ∧ st (sd b) = 1)) (k4 : wy k = op b) (hf : ∀ j, 0 ≤ j → j < k → wy j = wy k → wh j ≠ 0) (r4 : st (sd b) ≠ 0) (h : pj_J W sd op ed li st lv nm inw tow bst tst exp om ps dl dn af c0 en pd rp rv fw cl cw tk nL kd wy ll td ls wh F fl fc) : pj_J W sd op ed li st lv nm inw tow bst tst exp om ps dl dn af c0 en pd rp rv fw cl cw tk nL kd wy ll td ls (pu wh k 1) F fl fc := by
  have H := h
  obtain ⟨cR, cN0, cN1, cN1w, cER, cN1c, cN2, cN2e, cN2b, cN4e, cN4b, cN5, cN7, cN10, cN10e, cN13, cC1, cC2, cR3a, cE1, cU, cA1, cA2, cEC, cR3, cN11, cN12, cN3, cRJ, cFW, cPD, cCC, cCD, cRP, cRP1, cCR, cZ1, cZ0, cTK, cK2, cWH, cFI, cL0, cFC, cL0u, cOC, cCT, cL1, cL1e, cL1o, cL1b, cL1g, cL2, cL3, cL4, cAF, cRT, cCV, cL5, cL5o, cL5u, cL6, cL6u⟩ := h
  have X := pf_df hG nL0 hb k0 k1 r2 r3 k4 hf r4 cN0 cN5 cR3a cPD cL5
  have f0 := X
  exact pj_df (F2 := F) hG hb k0 k1 r2 f0 k4 hf r4 nL0 H

set_option maxHeartbeats 1000000 in
theorem pf_ca {W : Int → Prop} {sd : Int → Int} {op : Int → Int} {ed : Int → Int} {st : Int → Int} {lv : Int → Int} {nm : Int → Int} {inw : Int → Int} {tow : Int → Int} {om : Int → Int} {ps : Int → Int} {dl : Int → Int} {dn : Int → Int} {en : Int → Int} {cl : Int → Int} {cw : Int → Int} {tk : Int → Int} {nL : Int} {kd : Int → Int} {wy : Int → Int} {wh : Int → Int} {F : Int → Prop} {a b : Int} (hG : pj_G W sd op ed) (nL0 : 0 ≤ nL) (nf : ∀ v, ¬ F v) (ha : W a) (r2 : sd a = (sd b)) (r3 : om (sd b) = ed a) (r4 : om (sd (op a)) = ed a) (r5 : st (sd b) = 2) (r6 : ps (sd b) = 0) (r7 : dl (sd b) = lv (sd b)) (r8 : 1 ≤ lv (sd b)) (r9 : tk (nm (sd b)) = 1) (r10 : cw (nm (sd b)) = -1) (r11 : st (sd (op a)) ≠ 1) (r12 : dl (sd (op a)) = lv (sd (op a))) (r13 : dl (sd (op a)) = lv (sd b)) (r14 : dn (sd (op a)) = nm (sd b)) (r15 : en a = 1) (r16 : en (op a) = 1) (r17 : cl (ed a) ≤ lv (sd b)) (r18 : ∀ j, 0 ≤ j → j < nL → wh j ≠ 2 → kd j = 6 → nm (sd (op (wy j))) ≠ nm (sd b)) (r19 : ∀ j, 0 ≤ j → j < nL → wh j ≠ 2 → kd j = 5 → wy j ≠ op a) (r20 : nm (sd b) = ed a → tk (ed a) = 1) (hb : W b) (r21 : tow (sd b) = (ed b)) (r22 : en b = 1) (cN5 : pj_N5 lv inw om ps) (cN13 : pj_N13 W sd ed lv nm inw) (cN12 : pj_N12 W sd op ed st lv nm inw tow om ps dl en) : (a ≠ b) ∧ (b ≠ -1) ∧ (om (sd b) ≠ (ed b)) ∧ (nm (sd b) ≠ (ed b)) ∧ (om (sd (op b)) = (ed b)) ∧ (inw (sd (op b)) = (ed b)) ∧ (ps (sd (op b)) = 0) ∧ (dl (sd (op b)) = lv (sd (op b))) ∧ (lv (sd (op b)) = lv (sd b)) ∧ (nm (sd (op b)) = nm (sd b)) ∧ (st (sd (op b)) = 2) ∧ (tow (sd (op b)) ≠ -1) := by
  have hop := hG.1
  have hed := hG.2
  unfold pj_N5 pj_N13 pj_N12 at *
  have g0 := hop b hb
  have ga := hop a ha
  have gab := hed a b ha hb
  have i0 := cN12 b
  have i1 := cN13 b
  have i2 := cN5 (sd b)
  have in1 := nf b
  have in2 := nf (op b)
  clear hG hop hed cN5 cN13 cN12
  refine ⟨?_, ?_, ?_, ?_, ?_, ?_, ?_, ?_, ?_, ?_, ?_, ?_⟩ <;> first | assumption | (clear nf r18 r19; grind (splits := 24))

theorem pk_ca {W : Int → Prop} {sd : Int → Int} {op : Int → Int} {ed : Int → Int} {li : Int → Int → Prop} {st : Int → Int} {lv : Int → Int} {nm : Int → Int} {inw : Int → Int} {tow : Int → Int} {bst : Int → Int} {tst : Int → Int} {exp : Int → Int} {om : Int → Int} {ps : Int → Int} {dl : Int → Int} {dn : Int → Int} {af : Int → Int} {c0 : Int → Int} {en : Int → Int} {pd : Int → Int} {rp : Int → Int} {rv : Int → Int} {fw : Int → Int} {cl : Int → Int} {cw : Int → Int} {tk : Int → Int} {nL : Int} {kd : Int → Int} {wy : Int → Int} {ll : Int → Int} {td : Int → Int} {ls : Int → Int} {wh : Int → Int} {F : Int → Prop} {fl : Int} {fc : Int} {a b : Int} (hG : pj_G W sd op ed) (nL0 : 0 ≤ nL) (nf : ∀ v, ¬ F v) (ha : W a) (r2 : sd a = (sd b)) (r3 : om (sd b) = ed a) (r4 : om (sd (op a)) = ed a) (r5 : st (sd b) = 2) (r6 : ps (sd b) = 0) (r7 : dl (sd b) = lv (sd b)) (r8 : 1 ≤ lv (sd b)) (r9 : tk (nm (sd b)) = 1) (r10 : cw (nm (sd b)) = -1) (r11 : st (sd (op a)) ≠ 1) (r12 : dl (sd (op a)) = lv (sd (op a))) (r13 : dl (sd (op a)) = lv (sd b)) (r14 : dn (sd (op a)) = nm (sd b)) (r15 : en a = 1) (r16 : en (op a) = 1) (r17 : cl (ed a) ≤ lv (sd b)) (r18 : ∀ j, 0 ≤ j → j < nL → wh j ≠ 2 → kd j = 6 → nm (sd (op (wy j))) ≠ nm (sd b)) (r19 : ∀ j, 0 ≤ j → j < nL → wh j ≠ 2 → kd j = 5 → wy j ≠ op a) (r20 : nm (sd b) = ed a → tk (ed a) = 1) (hb : W b) (r21 : tow (sd b) = (ed b)) (r22 : en b = 1) (h : pj_J W sd op ed li st lv nm inw tow bst tst exp om ps dl dn af c0 en pd rp rv fw cl cw tk nL kd wy ll td ls wh F fl fc) : pj_J W sd op ed li st lv nm inw tow bst tst exp (pu om (sd b) (ed b)) (pu ps (sd b) 1) dl dn af c0 en pd rp rv fw cl cw tk (nL + 1) (pu kd nL 6) (pu wy nL b) (pu ll nL (-1)) (pu td nL (-1)) (pu ls nL (-1)) (pu wh nL 0) F fl fc := by
  have H := h
  obtain ⟨cR, cN0, cN1, cN1w, cER, cN1c, cN2, cN2e, cN2b, cN4e, cN4b, cN5, cN7, cN10, cN10e, cN13, cC1, cC2, cR3a, cE1, cU, cA1, cA2, cEC, cR3, cN11, cN12, cN3, cRJ, cFW, cPD, cCC, cCD, cRP, cRP1, cCR, cZ1, cZ0, cTK, cK2, cWH, cFI, cL0, cFC, cL0u, cOC, cCT, cL1, cL1e, cL1o, cL1b, cL1g, cL2, cL3, cL4, cAF, cRT, cCV, cL5, cL5o, cL5u, cL6, cL6u⟩ := h
  have X := pf_ca hG nL0 nf ha r2 r3 r4 r5 r6 r7 r8 r9 r10 r11 r12 r13 r14 r15 r16 r17 r18 r19 r20 hb r21 r22 cN5 cN13 cN12
  obtain ⟨f0, f1, f2, f3, f4, f5, f6, f7, f8, f9, f10, f11⟩ := X
  exact pj_ca (F2 := F) (k := 0) hG nf hb ha r2 r3 r4 r5 r6 r7 r8 r9 r10 r11 r12 r13 r14 r15 r16 r17 f0 f1 r18 r19 r21 f2 f3 r20 r22 f4 f5 f6 f7 f8 f9 f10 f11 nL0 H

set_option maxHeartbeats 1000000 in
theorem pf_cb {W : Int → Prop} {sd : Int → Int} {op : Int → Int} {ed : Int → Int} {st : Int → Int} {lv : Int → Int} {nm : Int → Int} {tow : Int → Int} {tst : Int → Int} {exp : Int → Int} {om : Int → Int} {ps : Int → Int} {dl : Int → Int} {dn : Int → Int} {en : Int → Int} {fw : Int → Int} {cl : Int → Int} {cw : Int → Int} {tk : Int → Int} {nL : Int} {kd : Int → Int} {wy : Int → Int} {wh : Int → Int} {F : Int → Prop} {a b : Int} (hG : pj_G W sd op ed) (nL0 : 0 ≤ nL) (nf : ∀ v, ¬ F v) (ha : W a) (r2 : sd a = (sd b)) (r3 : om (sd b) = ed a) (r4 : om (sd (op a)) = ed a) (r5 : st (sd b) = 2) (r6 : ps (sd b) = 0) (r7 : dl (sd b) = lv (sd b)) (r8 : 1 ≤ lv (sd b)) (r9 : tk (nm (sd b)) = 1) (r10 : cw (nm (sd b)) = -1) (r11 : st (sd (op a)) ≠ 1) (r12 : dl (sd (op a)) = lv (sd (op a))) (r13 : dl (sd (op a)) = lv (sd b)) (r14 : dn (sd (op a)) = nm (sd b)) (r15 : en a = 1) (r16 : en (op a) = 1) (r17 : cl (ed a) ≤ lv (sd b)) (r18 : ∀ j, 0 ≤ j → j < nL → wh j ≠ 2 → kd j = 6 → nm (sd (op (wy j))) ≠ nm (sd b)) (r19 : ∀ j, 0 ≤ j → j < nL → wh j ≠ 2 → kd j = 5 → wy j ≠ op a) (r20 : nm (sd b) = ed a → tk (ed a) = 1) (hb : W b) (r21 : tow (sd b) = (ed b)) (r22 : en b ≠ 1) (cER : pj_ER W en) (cN2 : pj_N2 W sd ed om en) (cN7 : pj_N7 st tst exp) (cC1 : pj_C1 lv nm cl) (cU : pj_U W sd op ed lv nm om ps dl en cl) (cN11 : pj_N11 W sd op ed lv nm tow tst ps en) (cN3 : pj_N3 W sd op ed om en) (cRJ : pj_RJ W sd op ed tst en fw) (cCC : pj_CC W ed en cl) : (a ≠ b) ∧ (b ≠ -1) ∧ (om (sd b) ≠ (ed b)) ∧ (nm (sd b) ≠ (ed b)) ∧ (en b = 0) ∧ (nm (sd (op b)) ≠ nm (sd b)) ∧ (lv (sd b) ≤ lv (sd (op b))) ∧ (en (op b) ≠ 2) ∧ (en (op b) = 0 ∨ en (op b) = 1) ∧ (cl (ed b) = 0) ∧ (en (op b) = 1 → om (sd (op b)) = (ed b) ∧ ps (sd (op b)) = 1 ∧ dl (sd (op b)) = lv (sd (op b)) ∧ lv (sd (op b)) = lv (sd b)) := by
  have hop := hG.1
  have hed := hG.2
  unfold pj_ER pj_N2 pj_N7 pj_C1 pj_U pj_N11 pj_N3 pj_RJ pj_CC at *
  have g0 := hop b hb
  have ga := hop a ha
  have gab := hed a b ha hb
  have i0 := cN11 b
  have i1 := cN2 b
  have i2 := cRJ (op b)
  have i3 := cN7 (sd b)
  have i4 := cER (op b)
  have i5 := cCC b
  have i6 := cN3 (op b)
  have i7 := cU (op b)
  have i8 := cC1 (sd b)
  have in1 := nf b
  have in2 := nf (op b)
  clear hG hop hed cER cN2 cN7 cC1 cU cN11 cN3 cRJ cCC
  refine ⟨?_, ?_, ?_, ?_, ?_, ?_, ?_, ?_, ?_, ?_, ?_⟩ <;> first | assumption | (clear nf r18 r19; grind (splits := 24))

theorem pk_cb {W : Int → Prop} {sd : Int → Int} {op : Int → Int} {ed : Int → Int} {li : Int → Int → Prop} {st : Int → Int} {lv : Int → Int} {nm : Int → Int} {inw : Int → Int} {tow : Int → Int} {bst : Int → Int} {tst : Int → Int} {exp : Int → Int} {om : Int → Int} {ps : Int → Int} {dl : Int → Int} {dn : Int → Int} {af : Int → Int} {c0 : Int → Int} {en : Int → Int} {pd : Int → Int} {rp : Int → Int} {rv : Int → Int} {fw : Int → Int} {cl : Int → Int} {cw : Int → Int} {tk : Int → Int} {nL : Int} {kd : Int → Int} {wy : Int → Int} {ll : Int → Int} {td : Int → Int} {ls : Int → Int} {wh : Int → Int} {F : Int → Prop} {fl : Int} {fc : Int} {a b : Int} (hG : pj_G W sd op ed) (nL0 : 0 ≤ nL) (nf : ∀ v, ¬ F v) (ha : W a) (r2 : sd a = (sd b)) (r3 : om (sd b) = ed a) (r4 : om (sd (op a)) = ed a) (r5 : st (sd b) = 2) (r6 : ps (sd b) = 0) (r7 : dl (sd b) = lv (sd b)) (r8 : 1 ≤ lv (sd b)) (r9 : tk (nm (sd b)) = 1) (r10 : cw (nm (sd b)) = -1) (r11 : st (sd (op a)) ≠ 1) (r12 : dl (sd (op a)) = lv (sd (op a))) (r13 : dl (sd (op a)) = lv (sd b)) (r14 : dn (sd (op a)) = nm (sd b)) (r15 : en a = 1) (r16 : en (op a) = 1) (r17 : cl (ed a) ≤ lv (sd b)) (r18 : ∀ j, 0 ≤ j → j < nL → wh j ≠ 2 → kd j = 6 → nm (sd (op (wy j))) ≠ nm (sd b)) (r19 : ∀ j, 0 ≤ j → j < nL → wh j ≠ 2 → kd j = 5 → wy j ≠ op a) (r20 : nm (sd b) = ed a → tk (ed a) = 1) (hb : W b) (r21 : tow (sd b) = (ed b)) (r22 : en b ≠ 1) (h : pj_J W sd op ed li st lv nm inw tow bst tst exp om ps dl dn af c0 en pd rp rv fw cl cw tk nL kd wy ll td ls wh F fl fc) : pj_J W sd op ed li st lv nm inw tow bst tst exp (pu om (sd b) (ed b)) (pu ps (sd b) 1) dl dn af c0 (pu en b 1) pd rp rv fw cl (pu cw (nm (sd b)) b) tk (nL + 1) (pu kd nL 0) (pu wy nL b) (pu ll nL (lv (sd b))) (pu td nL (-1)) (pu ls nL (-1)) (pu wh nL 0) F fl fc := by
  have H := h
  obtain ⟨cR, cN0, cN1, cN1w, cER, cN1c, cN2, cN2e, cN2b, cN4e, cN4b, cN5, cN7, cN10, cN10e, cN13, cC1, cC2, cR3a, cE1, cU, cA1, cA2, cEC, cR3, cN11, cN12, cN3, cRJ, cFW, cPD, cCC, cCD, cRP, cRP1, cCR, cZ1, cZ0, cTK, cK2, cWH, cFI, cL0, cFC, cL0u, cOC, cCT, cL1, cL1e, cL1o, cL1b, cL1g, cL2, cL3, cL4, cAF, cRT, cCV, cL5, cL5o, cL5u, cL6, cL6u⟩ := h
  have X := pf_cb hG nL0 nf ha r2 r3 r4 r5 r6 r7 r8 r9 r10 r11 r12 r13 r14 r15 r16 r17 r18 r19 r20 hb r21 r22 cER cN2 cN7 cC1 cU cN11 cN3 cRJ cCC
  obtain ⟨f0, f1, f2, f3, f4, f5, f6, f7, f8, f9, f10⟩ := X
  exact pj_cb (F2 := F) (k := 0) hG nf hb ha r2 r3 r4 r5 r6 r7 r8 r9 r10 r11 r12 r13 r14 r15 r16 r17 f0 f1 r18 r19 r21 f2 f3 r20 f4 f5 f6 f7 f8 f9 f10 nL0 H

set_option maxHeartbeats 1000000 in
theorem pf_ts {W : Int → Prop} {sd : Int → Int} {op : Int → Int} {ed : Int → Int} {st : Int → Int} {lv : Int → Int} {tow : Int → Int} {tst : Int → Int} {ps : Int → Int} {dl : Int → Int} {af : Int → Int} {en : Int → Int} {fw : Int → Int} {nL : Int} {b : Int} (hG : pj_G W sd op ed) (nL0 : 0 ≤ nL) (hb : W b) (r2 : st (sd b) = 1) (r3 : tst (sd b) = -1) (r4 : en b = 0) (r5 : ∀ w, W w → sd w = (sd b) → tow (sd b) = ed w → en w = 1) (r6 : af (sd b) = 0) (cN0 : pj_N0 st lv ps dl af) (cR3a : pj_R3a st lv dl) (cRJ : pj_RJ W sd op ed tst en fw) (cFW : pj_FW W sd ed tst en fw) : (1 ≤ lv (sd b)) ∧ (fw b = 0) ∧ (fw (op b) = 0) ∧ (en (op b) ≠ 2) ∧ (ps (sd b) = 0) := by
  have hop := hG.1
  have hed := hG.2
  unfold pj_N0 pj_R3a pj_RJ pj_FW at *
  have g0 := hop b hb
  have i0 := cN0 (sd b)
  have i1 := cR3a (sd b)
  have i2 := cFW b
  have i3 := cFW (op b)
  have i4 := cRJ (op b)
  have it := r5 b
  clear hG hop hed cN0 cR3a cRJ cFW
  refine ⟨?_, ?_, ?_, ?_, ?_⟩ <;> first | assumption | (clear r5; grind (splits := 24))

theorem pk_ts {W : Int → Prop} {sd : Int → Int} {op : Int → Int} {ed : Int → Int} {li : Int → Int → Prop} {st : Int → Int} {lv : Int → Int} {nm : Int → Int} {inw : Int → Int} {tow : Int → Int} {bst : Int → Int} {tst : Int → Int} {exp : Int → Int} {om : Int → Int} {ps : Int → Int} {dl : Int → Int} {dn : Int → Int} {af : Int → Int} {c0 : Int → Int} {en : Int → Int} {pd : Int → Int} {rp : Int → Int} {rv : Int → Int} {fw : Int → Int} {cl : Int → Int} {cw : Int → Int} {tk : Int → Int} {nL : Int} {kd : Int → Int} {wy : Int → Int} {ll : Int → Int} {td : Int → Int} {ls : Int → Int} {wh : Int → Int} {F : Int → Prop} {fl : Int} {fc : Int} {b : Int} (hG : pj_G W sd op ed) (nL0 : 0 ≤ nL) (hb : W b) (r2 : st (sd b) = 1) (r3 : tst (sd b) = -1) (r4 : en b = 0) (r5 : ∀ w, W w → sd w = (sd b) → tow (sd b) = ed w → en w = 1) (r6 : af (sd b) = 0) (h : pj_J W sd op ed li st lv nm inw tow bst tst exp om ps dl dn af c0 en pd rp rv fw cl cw tk nL kd wy ll td ls wh F fl fc) : pj_J W sd op ed li st lv nm inw tow bst (pu tst (sd b) (ed b)) exp om ps dl dn af c0 en pd rp rv fw cl cw tk (nL + 1) (pu kd nL 2) (pu wy nL b) (pu ll nL (lv (sd b))) (pu td nL (nm (sd b))) (pu ls nL (-1)) (pu wh nL 0) F fl fc := by
  have H := h
  obtain ⟨cR, cN0, cN1, cN1w, cER, cN1c, cN2, cN2e, cN2b, cN4e, cN4b, cN5, cN7, cN10, cN10e, cN13, cC1, cC2, cR3a, cE1, cU, cA1, cA2, cEC, cR3, cN11, cN12, cN3, cRJ, cFW, cPD, cCC, cCD, cRP, cRP1, cCR, cZ1, cZ0, cTK, cK2, cWH, cFI, cL0, cFC, cL0u, cOC, cCT, cL1, cL1e, cL1o, cL1b, cL1g, cL2, cL3, cL4, cAF, cRT, cCV, cL5, cL5o, cL5u, cL6, cL6u⟩ := h
  have X := pf_ts hG nL0 hb r2 r3 r4 r5 r6 cN0 cR3a cRJ cFW
  obtain ⟨f0, f1, f2, f3, f4⟩ := X
  exact pj_ts (F2 := F) (k := 0) hG hb r2 r3 r4 r5 r6 f0 f1 f2 f3 f4 nL0 H

set_option maxHeartbeats 1000000 in
theorem pf_rea {W : Int → Prop} {sd : Int → Int} {op : Int → Int} {ed : Int → Int} {st : Int → Int} {lv : Int → Int} {nm : Int → Int} {inw : Int → Int} {bst : Int → Int} {tst : Int → Int} {exp : Int → Int} {om : Int → Int} {ps : Int → Int} {dl : Int → Int} {dn : Int → Int} {af : Int → Int} {en : Int → Int} {pd : Int → Int} {rp : Int → Int} {rv : Int → Int} {cl : Int → Int} {nL : Int} {F : Int → Prop} {fl : Int} {fc : Int} {b : Int} (hG : pj_G W sd op ed) (nL0 : 0 ≤ nL) (nf : ∀ v, ¬ F v) (hb : W b) (r2 : st (sd b) = 1) (r3 : tst (sd b) = -1) (r4 : exp (sd b) = 0) (r5 : ∀ v, W v → sd v = (sd b) → pd v = 0) (r6 : inw (sd b) = (ed b)) (r7 : nm (sd b) ≠ (ed b)) (cN0 : pj_N0 st lv ps dl af) (cN1 : pj_N1 st lv om ps dl) (cN5 : pj_N5 lv inw om ps) (cN13 : pj_N13 W sd ed lv nm inw) (cC1 : pj_C1 lv nm cl) (cC2 : pj_C2 lv nm dl dn cl) (cR3a : pj_R3a st lv dl) (cU : pj_U W sd op ed lv nm om ps dl en cl) (cA1 : pj_A1 W sd op ed lv nm om dl dn en F fl fc) (cA2 : pj_A2 W sd op ed st lv nm om ps dl dn cl) (cR3 : pj_R3 W sd op ed st om pd) (cPD : pj_PD W sd op ed st om en pd) (cRP : pj_RP W sd ed st lv nm bst rp rv) : (om (sd b) = (ed b)) ∧ (ps (sd b) = 0) ∧ (dl (sd b) = lv (sd b)) ∧ (1 ≤ lv (sd b)) ∧ (om (sd (op b)) ≠ (ed b)) ∧ (st (sd (op b)) = 1) ∧ (pd (op b) = 1) ∧ (lv (sd (op b)) = lv (sd b)) ∧ (nm (sd (op b)) = nm (sd b)) := by
  have hop := hG.1
  have hed := hG.2
  unfold pj_N0 pj_N1 pj_N5 pj_N13 pj_C1 pj_C2 pj_R3a pj_U pj_A1 pj_A2 pj_R3 pj_PD pj_RP at *
  have g0 := hop b hb
  have i0 := cN0 (sd b)
  have i1 := cN0 (sd (op b))
  have i2 := cN5 (sd b)
  have i3 := cN5 (sd (op b))
  have i4 := cR3a (sd b)
  have i5 := cR3a (sd (op b))
  have i6 := cA2 b
  have i7 := cR3 b
  have i8 := cA1 b
  have i9 := cU b
  have i10 := cC2 (sd b)
  have i11 := cC2 (sd (op b))
  have i12 := cN13 (op b)
  have i13 := cRP b
  have i14 := cC1 (sd b)
  have i15 := cPD (op b)
  have i16 := cN1 (sd (op b))
  have in1 := nf b
  have in2 := nf (op b)
  clear hG hop hed cN0 cN1 cN5 cN13 cC1 cC2 cR3a cU cA1 cA2 cR3 cPD cRP
  refine ⟨?_, ?_, ?_, ?_, ?_, ?_, ?_, ?_, ?_⟩ <;> first | assumption | (clear nf r5; grind (splits := 24))

theorem pk_rea {W : Int → Prop} {sd : Int → Int} {op : Int → Int} {ed : Int → Int} {li : Int → Int → Prop} {st : Int → Int} {lv : Int → Int} {nm : Int → Int} {inw : Int → Int} {tow : Int → Int} {bst : Int → Int} {tst : Int → Int} {exp : Int → Int} {om : Int → Int} {ps : Int → Int} {dl : Int → Int} {dn : Int → Int} {af : Int → Int} {c0 : Int → Int} {en : Int → Int} {pd : Int → Int} {rp : Int → Int} {rv : Int → Int} {fw : Int → Int} {cl : Int → Int} {cw : Int → Int} {tk : Int → Int} {nL : Int} {kd : Int → Int} {wy : Int → Int} {ll : Int → Int} {td : Int → Int} {ls : Int → Int} {wh : Int → Int} {F : Int → Prop} {fl : Int} {fc : Int} {b : Int} (hG : pj_G W sd op ed) (nL0 : 0 ≤ nL) (nf : ∀ v, ¬ F v) (hb : W b) (r2 : st (sd b) = 1) (r3 : tst (sd b) = -1) (r4 : exp (sd b) = 0) (r5 : ∀ v, W v → sd v = (sd b) → pd v = 0) (r6 : inw (sd b) = (ed b)) (r7 : nm (sd b) ≠ (ed b)) (h : pj_J W sd op ed li st lv nm inw tow bst tst exp om ps dl dn af c0 en pd rp rv fw cl cw tk nL kd wy ll td ls wh F fl fc) : pj_J W sd op ed li (pu st (sd b) 2) lv nm inw tow bst tst exp om ps dl dn af c0 en pd rp rv fw cl cw tk (nL + 1) (pu kd nL 5) (pu wy nL b) (pu ll nL (-1)) (pu td nL (bst (sd b))) (pu ls nL (-1)) (pu wh nL 0) F fl fc := by
  have H := h
  obtain ⟨cR, cN0, cN1, cN1w, cER, cN1c, cN2, cN2e, cN2b, cN4e, cN4b, cN5, cN7, cN10, cN10e, cN13, cC1, cC2, cR3a, cE1, cU, cA1, cA2, cEC, cR3, cN11, cN12, cN3, cRJ, cFW, cPD, cCC, cCD, cRP, cRP1, cCR, cZ1, cZ0, cTK, cK2, cWH, cFI, cL0, cFC, cL0u, cOC, cCT, cL1, cL1e, cL1o, cL1b, cL1g, cL2, cL3, cL4, cAF, cRT, cCV, cL5, cL5o, cL5u, cL6, cL6u⟩ := h
  have X := pf_rea hG nL0 nf hb r2 r3 r4 r5 r6 r7 cN0 cN1 cN5 cN13 cC1 cC2 cR3a cU cA1 cA2 cR3 cPD cRP
  obtain ⟨f0, f1, f2, f3, f4, f5, f6, f7, f8⟩ := X
  exact pj_rea (F2 := F) (k := 0) hG hb r2 r3 r4 r5 r6 f0 f1 f2 f3 r7 f4 f5 f6 f7 f8 nL0 H

set_option maxHeartbeats 1000000 in
theorem pf_reb {W : Int → Prop} {sd : Int → Int} {op : Int → Int} {ed : Int → Int} {st : Int → Int} {lv : Int → Int} {nm : Int → Int} {inw : Int → Int} {bst : Int → Int} {tst : Int → Int} {exp : Int → Int} {om : Int → Int} {ps : Int → Int} {dl : Int → Int} {dn : Int → Int} {af : Int → Int} {en : Int → Int} {pd : Int → Int} {rp : Int → Int} {rv : Int → Int} {cl : Int → Int} {nL : Int} {F : Int → Prop} {fl : Int} {fc : Int} {b : Int} (hG : pj_G W sd op ed) (nL0 : 0 ≤ nL) (nf : ∀ v, ¬ F v) (hb : W b) (r2 : st (sd b) = 1) (r3 : tst (sd b) = -1) (r4 : exp (sd b) = 0) (r5 : ∀ v, W v → sd v = (sd b) → pd v = 0) (r6 : inw (sd b) = (ed b)) (r7 : nm (sd b) = (ed b)) (cN0 : pj_N0 st lv ps dl af) (cN1 : pj_N1 st lv om ps dl) (cN5 : pj_N5 lv inw om ps) (cN13 : pj_N13 W sd ed lv nm inw) (cC1 : pj_C1 lv nm cl) (cC2 : pj_C2 lv nm dl dn cl) (cR3a : pj_R3a st lv dl) (cU : pj_U W sd op ed lv nm om ps dl en cl) (cA1 : pj_A1 W sd op ed lv nm om dl dn en F fl fc) (cA2 : pj_A2 W sd op ed st lv nm om ps dl dn cl) (cR3 : pj_R3 W sd op ed st om pd) (cPD : pj_PD W sd op ed st om en pd) (cRP : pj_RP W sd ed st lv nm bst rp rv) : (om (sd b) = (ed b)) ∧ (ps (sd b) = 0) ∧ (dl (sd b) = lv (sd b)) ∧ (1 ≤ lv (sd b)) ∧ (om (sd (op b)) = (ed b)) ∧ (rp b = 0) ∧ (cl (ed b) = lv (sd b)) ∧ (pd (op b) = 0) ∧ ((lv (sd (op b)) = lv (sd b) ∧ nm (sd (op b)) = (ed b) ∧ ps (sd (op b)) = 0 ∧ dl (sd (op b)) = lv (sd (op b))) ∨ (lv (sd (op b)) < lv (sd b) ∧ dl (sd (op b)) = lv (sd b))) := by
  have hop := hG.1
  have hed := hG.2
  unfold pj_N0 pj_N1 pj_N5 pj_N13 pj_C1 pj_C2 pj_R3a pj_U pj_A1 pj_A2 pj_R3 pj_PD pj_RP at *
  have g0 := hop b hb
  have i0 := cN0 (sd b)
  have i1 := cN0 (sd (op b))
  have i2 := cN5 (sd b)
  have i3 := cN5 (sd (op b))
  have i4 := cR3a (sd b)
  have i5 := cR3a (sd (op b))
  have i6 := cA2 b
  have i7 := cR3 b
  have i8 := cA1 b
  have i9 := cU b
  have i10 := cC2 (sd b)
  have i11 := cC2 (sd (op b))
  have i12 := cN13 (op b)
  have i13 := cRP b
  have i14 := cC1 (sd b)
  have i15 := cPD (op b)
  have i16 := cN1 (sd (op b))
  have in1 := nf b
  have in2 := nf (op b)
  clear hG hop hed cN0 cN1 cN5 cN13 cC1 cC2 cR3a cU cA1 cA2 cR3 cPD cRP
  refine ⟨?_, ?_, ?_, ?_, ?_, ?_, ?_, ?_, ?_⟩ <;> first | assumption | (clear nf r5; grind (splits := 24))

theorem pk_reb {W : Int → Prop} {sd : Int → Int} {op : Int → Int} {ed : Int → Int} {li : Int → Int → Prop} {st : Int → Int} {lv : Int → Int} {nm : Int → Int} {inw : Int → Int} {tow : Int → Int} {bst : Int → Int} {tst : Int → Int} {exp : Int → Int} {om : Int → Int} {ps : Int → Int} {dl : Int → Int} {dn : Int → Int} {af : Int → Int} {c0 : Int → Int} {en : Int → Int} {pd : Int → Int} {rp : Int → Int} {rv : Int → Int} {fw : Int → Int} {cl : Int → Int} {cw : Int → Int} {tk : Int → Int} {nL : Int} {kd : Int → Int} {wy : Int → Int} {ll : Int → Int} {td : Int → Int} {ls : Int → Int} {wh : Int → Int} {F : Int → Prop} {fl : Int} {fc : Int} {b : Int} (hG : pj_G W sd op ed) (nL0 : 0 ≤ nL) (nf : ∀ v, ¬ F v) (hb : W b) (r2 : st (sd b) = 1) (r3 : tst (sd b) = -1) (r4 : exp (sd b) = 0) (r5 : ∀ v, W v → sd v = (sd b) → pd v = 0) (r6 : inw (sd b) = (ed b)) (r7 : nm (sd b) = (ed b)) (h : pj_J W sd op ed li st lv nm inw tow bst tst exp om ps dl dn af c0 en pd rp rv fw cl cw tk nL kd wy ll td ls wh F fl fc) : pj_J W sd op ed li (pu st (sd b) 2) lv nm inw tow bst tst exp om ps dl dn af c0 en pd (pu rp b 1) (pu rv b (bst (sd b))) fw cl cw tk (nL + 1) (pu kd nL 5) (pu wy nL b) (pu ll nL (-1)) (pu td nL (bst (sd b))) (pu ls nL (-1)) (pu wh nL 0) F fl fc := by
  have H := h
  obtain ⟨cR, cN0, cN1, cN1w, cER, cN1c, cN2, cN2e, cN2b, cN4e, cN4b, cN5, cN7, cN10, cN10e, cN13, cC1, cC2, cR3a, cE1, cU, cA1, cA2, cEC, cR3, cN11, cN12, cN3, cRJ, cFW, cPD, cCC, cCD, cRP, cRP1, cCR, cZ1, cZ0, cTK, cK2, cWH, cFI, cL0, cFC, cL0u, cOC, cCT, cL1, cL1e, cL1o, cL1b, cL1g, cL2, cL3, cL4, cAF, cRT, cCV, cL5, cL5o, cL5u, cL6, cL6u⟩ := h
  have X := pf_reb hG nL0 nf hb r2 r3 r4 r5 r6 r7 cN0 cN1 cN5 cN13 cC1 cC2 cR3a cU cA1 cA2 cR3 cPD cRP
  obtain ⟨f0, f1, f2, f3, f4, f5, f6, f7, f8⟩ := X
  exact pj_reb (F2 := F) (k := 0) hG hb r2 r3 r4 r5 r6 f0 f1 f2 f3 r7 f4 f5 f6 f7 f8 nL0 H

set_option maxHeartbeats 1000000 in
theorem pf_wk {W : Int → Prop} {sd : Int → Int} {op : Int → Int} {ed : Int → Int} {st : Int → Int} {lv : Int → Int} {nm : Int → Int} {inw : Int → Int} {tow : Int → Int} {bst : Int → Int} {tst : Int → Int} {exp : Int → Int} {om : Int → Int} {ps : Int → Int} {dl : Int → Int} {af : Int → Int} {en : Int → Int} {fw : Int → Int} {cl : Int → Int} {nL : Int} {F : Int → Prop} {b : Int} (hG : pj_G W sd op ed) (nL0 : 0 ≤ nL) (nf : ∀ v, ¬ F v) (hb : W b) (r2 : st (sd b) = 0) (r3 : en b = 0) (cN0 : pj_N0 st lv ps dl af) (cN1 : pj_N1 st lv om ps dl) (cER : pj_ER W en) (cN4b : pj_N4b st lv nm inw tow bst om ps) (cN7 : pj_N7 st tst exp) (cU : pj_U W sd op ed lv nm om ps dl en cl) (cN3 : pj_N3 W sd op ed om en) (cRJ : pj_RJ W sd op ed tst en fw) (cCC : pj_CC W ed en cl) : (lv (sd b) = 0) ∧ (dl (sd b) = 0) ∧ (om (sd b) = -1) ∧ (ps (sd b) = 0) ∧ (en (op b) ≠ 2) ∧ (en (op b) = 0 ∨ en (op b) = 1) ∧ (cl (ed b) = 0) ∧ (en (op b) = 1 → om (sd (op b)) = (ed b) ∧ ps (sd (op b)) = 1 ∧ dl (sd (op b)) = lv (sd (op b)) ∧ lv (sd (op b)) = 0) ∧ (0 ≤ lv (sd (op b))) ∧ (nm (sd b) = -1) := by
  have hop := hG.1
  have hed := hG.2
  unfold pj_N0 pj_N1 pj_ER pj_N4b pj_N7 pj_U pj_N3 pj_RJ pj_CC at *
  have g0 := hop b hb
  have i0 := cN1 (sd b)
  have i1 := cN0 (sd b)
  have i2 := cN0 (sd (op b))
  have i3 := cN4b (sd b)
  have i4 := cRJ (op b)
  have i5 := cN7 (sd b)
  have i6 := cER (op b)
  have i7 := cCC b
  have i8 := cN3 (op b)
  have i9 := cU (op b)
  have in1 := nf b
  have in2 := nf (op b)
  clear hG hop hed cN0 cN1 cER cN4b cN7 cU cN3 cRJ cCC
  refine ⟨?_, ?_, ?_, ?_, ?_, ?_, ?_, ?_, ?_, ?_⟩ <;> first | assumption | (clear nf; grind (splits := 24))

theorem pk_wk {W : Int → Prop} {sd : Int → Int} {op : Int → Int} {ed : Int → Int} {li : Int → Int → Prop} {st : Int → Int} {lv : Int → Int} {nm : Int → Int} {inw : Int → Int} {tow : Int → Int} {bst : Int → Int} {tst : Int → Int} {exp : Int → Int} {om : Int → Int} {ps : Int → Int} {dl : Int → Int} {dn : Int → Int} {af : Int → Int} {c0 : Int → Int} {en : Int → Int} {pd : Int → Int} {rp : Int → Int} {rv : Int → Int} {fw : Int → Int} {cl : Int → Int} {cw : Int → Int} {tk : Int → Int} {nL : Int} {kd : Int → Int} {wy : Int → Int} {ll : Int → Int} {td : Int → Int} {ls : Int → Int} {wh : Int → Int} {F : Int → Prop} {fl : Int} {fc : Int} {b : Int} (hG : pj_G W sd op ed) (nL0 : 0 ≤ nL) (nf : ∀ v, ¬ F v) (hb : W b) (r2 : st (sd b) = 0) (r3 : en b = 0) (h : pj_J W sd op ed li st lv nm inw tow bst tst exp om ps dl dn af c0 en pd rp rv fw cl cw tk nL kd wy ll td ls wh F fl fc) : pj_J W sd op ed li (pu st (sd b) 2) lv nm inw tow bst tst exp (pu om (sd b) (ed b)) (pu ps (sd b) 1) dl dn af (pu c0 (sd b) (ed b)) (pu en b 1) pd rp rv fw cl cw tk (nL + 1) (pu kd nL 0) (pu wy nL b) (pu ll nL (0)) (pu td nL (-1)) (pu ls nL (-1)) (pu wh nL 0) F fl fc := by
  have H := h
  obtain ⟨cR, cN0, cN1, cN1w, cER, cN1c, cN2, cN2e, cN2b, cN4e, cN4b, cN5, cN7, cN10, cN10e, cN13, cC1, cC2, cR3a, cE1, cU, cA1, cA2, cEC, cR3, cN11, cN12, cN3, cRJ, cFW, cPD, cCC, cCD, cRP, cRP1, cCR, cZ1, cZ0, cTK, cK2, cWH, cFI, cL0, cFC, cL0u, cOC, cCT, cL1, cL1e, cL1o, cL1b, cL1g, cL2, cL3, cL4, cAF, cRT, cCV, cL5, cL5o, cL5u, cL6, cL6u⟩ := h
  have X := pf_wk hG nL0 nf hb r2 r3 cN0 cN1 cER cN4b cN7 cU cN3 cRJ cCC
  obtain ⟨f0, f1, f2, f3, f4, f5, f6, f7, f8, f9⟩ := X
  exact pj_wk (F2 := F) (k := 0) hG nf hb r2 r3 f0 f1 f2 f3 f4 f5 f6 f7 f8 f9 nL0 H

theorem pk_wn {W : Int → Prop} {sd : Int → Int} {op : Int → Int} {ed : Int → Int} {li : Int → Int → Prop} {st : Int → Int} {lv : Int → Int} {nm : Int → Int} {inw : Int → Int} {tow : Int → Int} {bst : Int → Int} {tst : Int → Int} {exp : Int → Int} {om : Int → Int} {ps : Int → Int} {dl : Int → Int} {dn : Int → Int} {af : Int → Int} {c0 : Int → Int} {en : Int → Int} {pd : Int → Int} {rp : Int → Int} {rv : Int → Int} {fw : Int → Int} {cl : Int → Int} {cw : Int → Int} {tk : Int → Int} {nL : Int} {kd : Int → Int} {wy : Int → Int} {ll : Int → Int} {td : Int → Int} {ls : Int → Int} {wh : Int → Int} {F : Int → Prop} {fl : Int} {fc : Int} {b : Int} (hG : pj_G W sd op ed) (nL0 : 0 ≤ nL) (r2 : st b = 0) (r3 : ∀ w, W w → sd w ≠ b) (h : pj_J W sd op ed li st lv nm inw tow bst tst exp om ps dl dn af c0 en pd rp rv fw cl cw tk nL kd wy ll td ls wh F fl fc) : pj_J W sd op ed li (pu st b 2) lv nm inw tow bst tst exp om ps dl dn af c0 en pd rp rv fw cl cw tk nL kd wy ll td ls wh F fl fc := by
  have H := h
  obtain ⟨cR, cN0, cN1, cN1w, cER, cN1c, cN2, cN2e, cN2b, cN4e, cN4b, cN5, cN7, cN10, cN10e, cN13, cC1, cC2, cR3a, cE1, cU, cA1, cA2, cEC, cR3, cN11, cN12, cN3, cRJ, cFW, cPD, cCC, cCD, cRP, cRP1, cCR, cZ1, cZ0, cTK, cK2, cWH, cFI, cL0, cFC, cL0u, cOC, cCT, cL1, cL1e, cL1o, cL1b, cL1g, cL2, cL3, cL4, cAF, cRT, cCV, cL5, cL5o, cL5u, cL6, cL6u⟩ := h
  exact pj_wn (F2 := F) (k := 0) hG r2 r3 nL0 H

theorem pk_ex {W : Int → Prop} {sd : Int → Int} {op : Int → Int} {ed : Int → Int} {li : Int → Int → Prop} {st : Int → Int} {lv : Int → Int} {nm : Int → Int} {inw : Int → Int} {tow : Int → Int} {bst : Int → Int} {tst : Int → Int} {exp : Int → Int} {om : Int → Int} {ps : Int → Int} {dl : Int → Int} {dn : Int → Int} {af : Int → Int} {c0 : Int → Int} {en : Int → Int} {pd : Int → Int} {rp : Int → Int} {rv : Int → Int} {fw : Int → Int} {cl : Int → Int} {cw : Int → Int} {tk : Int → Int} {nL : Int} {kd : Int → Int} {wy : Int → Int} {ll : Int → Int} {td : Int → Int} {ls : Int → Int} {wh : Int → Int} {F : Int → Prop} {fl : Int} {fc : Int} {b k : Int} (hG : pj_G W sd op ed) (nL0 : 0 ≤ nL) (r2 : st b = 1) (h : pj_J W sd op ed li st lv nm inw tow bst tst exp om ps dl dn af c0 en pd rp rv fw cl cw tk nL kd wy ll td ls wh F fl fc) : pj_J W sd op ed li st lv nm inw tow bst tst (pu exp b k) om ps dl dn af c0 en pd rp rv fw cl cw tk nL kd wy ll td ls wh F fl fc := by
  have H := h
  obtain ⟨cR, cN0, cN1, cN1w, cER, cN1c, cN2, cN2e, cN2b, cN4e, cN4b, cN5, cN7, cN10, cN10e, cN13, cC1, cC2, cR3a, cE1, cU, cA1, cA2, cEC, cR3, cN11, cN12, cN3, cRJ, cFW, cPD, cCC, cCD, cRP, cRP1, cCR, cZ1, cZ0, cTK, cK2, cWH, cFI, cL0, cFC, cL0u, cOC, cCT, cL1, cL1e, cL1o, cL1b, cL1g, cL2, cL3, cL4, cAF, cRT, cCV, cL5, cL5o, cL5u, cL6, cL6u⟩ := h
  exact pj_ex (F2 := F) hG r2 nL0 H

