/-! s: what holds where the law starts: no two texts are one -/
theorem kf_L {w a b : Jvm.Cond} (h : w ∈ flatC a) : w ∈ flatC (Jvm.Cond.and a b) := by
  simp only [flatC]
  exact List.mem_append_left _ h
theorem kf_R {w a b : Jvm.Cond} (h : w ∈ flatC b) : w ∈ flatC (Jvm.Cond.and a b) := by
  simp only [flatC]
  exact List.mem_append_right _ h
theorem kf_z {t : Jvm.Cond} : Jvm.Cond.not t ∈ flatC (Jvm.Cond.not t) := by
  simp [flatC]
theorem kf_0_1 : Jvm.Cond.not (Jvm.Cond.eq (.string "AskingFragments" 351) (.string "AskingFragments" 353)) ∈ flatC narrow_1 := by
  unfold narrow_1
  exact kf_L (kf_L (kf_R (kf_L (kf_L (kf_L (kf_R (kf_L (kf_R kf_z))))))))
theorem kf_0_2 : Jvm.Cond.not (Jvm.Cond.eq (.string "AskingFragments" 351) (.string "AskingFragments" 355)) ∈ flatC narrow_1 := by
  unfold narrow_1
  exact kf_L (kf_L (kf_R (kf_L (kf_L (kf_R (kf_R (kf_R (kf_R kf_z))))))))
theorem kf_0_3 : Jvm.Cond.not (Jvm.Cond.eq (.string "AskingFragments" 351) (.string "AskingFragments" 357)) ∈ flatC narrow_1 := by
  unfold narrow_1
  exact kf_L (kf_L (kf_R (kf_L (kf_R (kf_R (kf_R (kf_L (kf_R kf_z))))))))
theorem kf_0_4 : Jvm.Cond.not (Jvm.Cond.eq (.string "AskingFragments" 351) (.string "AskingFragments" 359)) ∈ flatC narrow_1 := by
  unfold narrow_1
  exact kf_L (kf_L (kf_R (kf_R (kf_L (kf_R (kf_R (kf_L (kf_L kf_z))))))))
theorem kf_0_5 : Jvm.Cond.not (Jvm.Cond.eq (.string "AskingFragments" 351) (.string "AskingFragments" 361)) ∈ flatC narrow_1 := by
  unfold narrow_1
  exact kf_L (kf_L (kf_R (kf_R (kf_R (kf_R (kf_L (kf_R (kf_R kf_z))))))))
theorem kf_0_6 : Jvm.Cond.not (Jvm.Cond.eq (.string "AskingFragments" 351) (.string "AskingFragments" 363)) ∈ flatC narrow_1 := by
  unfold narrow_1
  exact kf_L (kf_R (kf_L (kf_L (kf_L (kf_R (kf_R (kf_L (kf_L kf_z))))))))
theorem kf_0_7 : Jvm.Cond.not (Jvm.Cond.eq (.string "AskingFragments" 351) (.string "AskingFragments" 365)) ∈ flatC narrow_1 := by
  unfold narrow_1
  exact kf_L (kf_R (kf_L (kf_L (kf_R (kf_R (kf_L (kf_R (kf_R kf_z))))))))
theorem kf_0_8 : Jvm.Cond.not (Jvm.Cond.eq (.string "AskingFragments" 351) (.string "AskingFragments" 367)) ∈ flatC narrow_1 := by
  unfold narrow_1
  exact kf_L (kf_R (kf_L (kf_R (kf_L (kf_R (kf_L (kf_R (kf_R kf_z))))))))
theorem kf_0_9 : Jvm.Cond.not (Jvm.Cond.eq (.string "AskingFragments" 351) (.string "AskingFragments" 369)) ∈ flatC narrow_1 := by
  unfold narrow_1
  exact kf_L (kf_R (kf_L (kf_R (kf_R (kf_R (kf_R (kf_L (kf_L kf_z))))))))
theorem kf_0_10 : Jvm.Cond.not (Jvm.Cond.eq (.string "AskingFragments" 351) (.string "AskingFragments" 371)) ∈ flatC narrow_1 := by
  unfold narrow_1
  exact kf_L (kf_R (kf_R (kf_L (kf_R (kf_L (kf_L (kf_L kf_z)))))))
theorem kf_0_11 : Jvm.Cond.not (Jvm.Cond.eq (.string "AskingFragments" 351) (.string "AskingFragments" 373)) ∈ flatC narrow_1 := by
  unfold narrow_1
  exact kf_L (kf_R (kf_R (kf_R (kf_L (kf_L (kf_R (kf_R (kf_L kf_z))))))))
theorem kf_0_12 : Jvm.Cond.not (Jvm.Cond.eq (.string "AskingFragments" 351) (.string "AskingFragments" 375)) ∈ flatC narrow_1 := by
  unfold narrow_1
  exact kf_L (kf_R (kf_R (kf_R (kf_R (kf_R (kf_L (kf_R (kf_L kf_z))))))))
theorem kf_0_13 : Jvm.Cond.not (Jvm.Cond.eq (.string "AskingFragments" 351) (.string "AskingFragments" 377)) ∈ flatC narrow_1 := by
  unfold narrow_1
  exact kf_R (kf_L (kf_L (kf_L (kf_R (kf_L (kf_L (kf_L kf_z)))))))
theorem kf_0_14 : Jvm.Cond.not (Jvm.Cond.eq (.string "AskingFragments" 351) (.string "AskingFragments" 379)) ∈ flatC narrow_1 := by
  unfold narrow_1
  exact kf_R (kf_L (kf_L (kf_R (kf_L (kf_R (kf_L (kf_L kf_z)))))))
theorem kf_0_15 : Jvm.Cond.not (Jvm.Cond.eq (.string "AskingFragments" 351) (.string "AskingFragments" 381)) ∈ flatC narrow_1 := by
  unfold narrow_1
  exact kf_R (kf_L (kf_R (kf_L (kf_L (kf_L (kf_L (kf_R (kf_L kf_z))))))))
theorem kf_0_16 : Jvm.Cond.not (Jvm.Cond.eq (.string "AskingFragments" 351) (.string "AskingFragments" 383)) ∈ flatC narrow_1 := by
  unfold narrow_1
  exact kf_R (kf_L (kf_R (kf_L (kf_R (kf_R (kf_L (kf_R (kf_L kf_z))))))))
theorem kf_0_17 : Jvm.Cond.not (Jvm.Cond.eq (.string "AskingFragments" 351) (.string "AskingFragments" 385)) ∈ flatC narrow_1 := by
  unfold narrow_1
  exact kf_R (kf_L (kf_R (kf_R (kf_R (kf_L (kf_R (kf_R (kf_L kf_z))))))))
theorem kf_0_18 : Jvm.Cond.not (Jvm.Cond.eq (.string "AskingFragments" 351) (.string "AskingFragments" 387)) ∈ flatC narrow_1 := by
  unfold narrow_1
  exact kf_R (kf_R (kf_L (kf_L (kf_R (kf_L (kf_L (kf_R (kf_L kf_z))))))))
theorem kf_0_19 : Jvm.Cond.not (Jvm.Cond.eq (.string "AskingFragments" 351) (.string "AskingFragments" 389)) ∈ flatC narrow_1 := by
  unfold narrow_1
  exact kf_R (kf_R (kf_L (kf_R (kf_L (kf_R (kf_R (kf_R (kf_R kf_z))))))))
theorem kf_0_20 : Jvm.Cond.not (Jvm.Cond.eq (.string "AskingFragments" 351) (.string "AskingFragments" 391)) ∈ flatC narrow_1 := by
  unfold narrow_1
  exact kf_R (kf_R (kf_R (kf_L (kf_L (kf_R (kf_R (kf_R (kf_L kf_z))))))))
theorem kf_0_21 : Jvm.Cond.not (Jvm.Cond.eq (.string "AskingFragments" 351) (.string "AskingFragments" 393)) ∈ flatC narrow_1 := by
  unfold narrow_1
  exact kf_R (kf_R (kf_R (kf_R (kf_L (kf_R (kf_L (kf_R (kf_L kf_z))))))))
theorem kf_0 : ∀ j, 0 < j → j < 22 → (Jvm.Cond.not (Jvm.Cond.eq (la_tm 0) (la_tm j))) ∈ flatC (Jvm.Cond.and given_1 narrow_1) := fun j h hj => match j, h, hj with
  | 0, h, _ => absurd h (by decide)
  | 1, _, _ => kf_R kf_0_1
  | 2, _, _ => kf_R kf_0_2
  | 3, _, _ => kf_R kf_0_3
  | 4, _, _ => kf_R kf_0_4
  | 5, _, _ => kf_R kf_0_5
  | 6, _, _ => kf_R kf_0_6
  | 7, _, _ => kf_R kf_0_7
  | 8, _, _ => kf_R kf_0_8
  | 9, _, _ => kf_R kf_0_9
  | 10, _, _ => kf_R kf_0_10
  | 11, _, _ => kf_R kf_0_11
  | 12, _, _ => kf_R kf_0_12
  | 13, _, _ => kf_R kf_0_13
  | 14, _, _ => kf_R kf_0_14
  | 15, _, _ => kf_R kf_0_15
  | 16, _, _ => kf_R kf_0_16
  | 17, _, _ => kf_R kf_0_17
  | 18, _, _ => kf_R kf_0_18
  | 19, _, _ => kf_R kf_0_19
  | 20, _, _ => kf_R kf_0_20
  | 21, _, _ => kf_R kf_0_21
  | j + 22, _, h => absurd h (by omega)
theorem kf_1_2 : Jvm.Cond.not (Jvm.Cond.eq (.string "AskingFragments" 353) (.string "AskingFragments" 355)) ∈ flatC narrow_1 := by
  unfold narrow_1
  exact kf_L (kf_L (kf_R (kf_L (kf_R (kf_L (kf_L (kf_L kf_z)))))))
theorem kf_1_3 : Jvm.Cond.not (Jvm.Cond.eq (.string "AskingFragments" 353) (.string "AskingFragments" 357)) ∈ flatC narrow_1 := by
  unfold narrow_1
  exact kf_L (kf_L (kf_R (kf_L (kf_R (kf_R (kf_R (kf_R (kf_L kf_z))))))))
theorem kf_1_4 : Jvm.Cond.not (Jvm.Cond.eq (.string "AskingFragments" 353) (.string "AskingFragments" 359)) ∈ flatC narrow_1 := by
  unfold narrow_1
  exact kf_L (kf_L (kf_R (kf_R (kf_L (kf_R (kf_R (kf_L (kf_R kf_z))))))))
theorem kf_1_5 : Jvm.Cond.not (Jvm.Cond.eq (.string "AskingFragments" 353) (.string "AskingFragments" 361)) ∈ flatC narrow_1 := by
  unfold narrow_1
  exact kf_L (kf_L (kf_R (kf_R (kf_R (kf_R (kf_R (kf_L (kf_L kf_z))))))))
theorem kf_1_6 : Jvm.Cond.not (Jvm.Cond.eq (.string "AskingFragments" 353) (.string "AskingFragments" 363)) ∈ flatC narrow_1 := by
  unfold narrow_1
  exact kf_L (kf_R (kf_L (kf_L (kf_L (kf_R (kf_R (kf_L (kf_R kf_z))))))))
theorem kf_1_7 : Jvm.Cond.not (Jvm.Cond.eq (.string "AskingFragments" 353) (.string "AskingFragments" 365)) ∈ flatC narrow_1 := by
  unfold narrow_1
  exact kf_L (kf_R (kf_L (kf_L (kf_R (kf_R (kf_R (kf_L (kf_L kf_z))))))))
theorem kf_1_8 : Jvm.Cond.not (Jvm.Cond.eq (.string "AskingFragments" 353) (.string "AskingFragments" 367)) ∈ flatC narrow_1 := by
  unfold narrow_1
  exact kf_L (kf_R (kf_L (kf_R (kf_L (kf_R (kf_R (kf_L (kf_L kf_z))))))))
theorem kf_1_9 : Jvm.Cond.not (Jvm.Cond.eq (.string "AskingFragments" 353) (.string "AskingFragments" 369)) ∈ flatC narrow_1 := by
  unfold narrow_1
  exact kf_L (kf_R (kf_L (kf_R (kf_R (kf_R (kf_R (kf_L (kf_R kf_z))))))))
theorem kf_1_10 : Jvm.Cond.not (Jvm.Cond.eq (.string "AskingFragments" 353) (.string "AskingFragments" 371)) ∈ flatC narrow_1 := by
  unfold narrow_1
  exact kf_L (kf_R (kf_R (kf_L (kf_R (kf_L (kf_L (kf_R (kf_L kf_z))))))))
theorem kf_1_11 : Jvm.Cond.not (Jvm.Cond.eq (.string "AskingFragments" 353) (.string "AskingFragments" 373)) ∈ flatC narrow_1 := by
  unfold narrow_1
  exact kf_L (kf_R (kf_R (kf_R (kf_L (kf_L (kf_R (kf_R (kf_R kf_z))))))))
theorem kf_1_12 : Jvm.Cond.not (Jvm.Cond.eq (.string "AskingFragments" 353) (.string "AskingFragments" 375)) ∈ flatC narrow_1 := by
  unfold narrow_1
  exact kf_L (kf_R (kf_R (kf_R (kf_R (kf_R (kf_L (kf_R (kf_R kf_z))))))))
theorem kf_1_13 : Jvm.Cond.not (Jvm.Cond.eq (.string "AskingFragments" 353) (.string "AskingFragments" 377)) ∈ flatC narrow_1 := by
  unfold narrow_1
  exact kf_R (kf_L (kf_L (kf_L (kf_R (kf_L (kf_L (kf_R (kf_L kf_z))))))))
theorem kf_1_14 : Jvm.Cond.not (Jvm.Cond.eq (.string "AskingFragments" 353) (.string "AskingFragments" 379)) ∈ flatC narrow_1 := by
  unfold narrow_1
  exact kf_R (kf_L (kf_L (kf_R (kf_L (kf_R (kf_L (kf_R (kf_L kf_z))))))))
theorem kf_1_15 : Jvm.Cond.not (Jvm.Cond.eq (.string "AskingFragments" 353) (.string "AskingFragments" 381)) ∈ flatC narrow_1 := by
  unfold narrow_1
  exact kf_R (kf_L (kf_R (kf_L (kf_L (kf_L (kf_L (kf_R (kf_R kf_z))))))))
theorem kf_1_16 : Jvm.Cond.not (Jvm.Cond.eq (.string "AskingFragments" 353) (.string "AskingFragments" 383)) ∈ flatC narrow_1 := by
  unfold narrow_1
  exact kf_R (kf_L (kf_R (kf_L (kf_R (kf_R (kf_L (kf_R (kf_R kf_z))))))))
theorem kf_1_17 : Jvm.Cond.not (Jvm.Cond.eq (.string "AskingFragments" 353) (.string "AskingFragments" 385)) ∈ flatC narrow_1 := by
  unfold narrow_1
  exact kf_R (kf_L (kf_R (kf_R (kf_R (kf_L (kf_R (kf_R (kf_R kf_z))))))))
theorem kf_1_18 : Jvm.Cond.not (Jvm.Cond.eq (.string "AskingFragments" 353) (.string "AskingFragments" 387)) ∈ flatC narrow_1 := by
  unfold narrow_1
  exact kf_R (kf_R (kf_L (kf_L (kf_R (kf_L (kf_L (kf_R (kf_R kf_z))))))))
theorem kf_1_19 : Jvm.Cond.not (Jvm.Cond.eq (.string "AskingFragments" 353) (.string "AskingFragments" 389)) ∈ flatC narrow_1 := by
  unfold narrow_1
  exact kf_R (kf_R (kf_L (kf_R (kf_R (kf_L (kf_L (kf_L kf_z)))))))
theorem kf_1_20 : Jvm.Cond.not (Jvm.Cond.eq (.string "AskingFragments" 353) (.string "AskingFragments" 391)) ∈ flatC narrow_1 := by
  unfold narrow_1
  exact kf_R (kf_R (kf_R (kf_L (kf_L (kf_R (kf_R (kf_R (kf_R kf_z))))))))
theorem kf_1_21 : Jvm.Cond.not (Jvm.Cond.eq (.string "AskingFragments" 353) (.string "AskingFragments" 393)) ∈ flatC narrow_1 := by
  unfold narrow_1
  exact kf_R (kf_R (kf_R (kf_R (kf_L (kf_R (kf_L (kf_R (kf_R kf_z))))))))
theorem kf_1 : ∀ j, 1 < j → j < 22 → (Jvm.Cond.not (Jvm.Cond.eq (la_tm 1) (la_tm j))) ∈ flatC (Jvm.Cond.and given_1 narrow_1) := fun j h hj => match j, h, hj with
  | 0, h, _ => absurd h (by decide)
  | 1, h, _ => absurd h (by decide)
  | 2, _, _ => kf_R kf_1_2
  | 3, _, _ => kf_R kf_1_3
  | 4, _, _ => kf_R kf_1_4
  | 5, _, _ => kf_R kf_1_5
  | 6, _, _ => kf_R kf_1_6
  | 7, _, _ => kf_R kf_1_7
  | 8, _, _ => kf_R kf_1_8
  | 9, _, _ => kf_R kf_1_9
  | 10, _, _ => kf_R kf_1_10
  | 11, _, _ => kf_R kf_1_11
  | 12, _, _ => kf_R kf_1_12
  | 13, _, _ => kf_R kf_1_13
  | 14, _, _ => kf_R kf_1_14
  | 15, _, _ => kf_R kf_1_15
  | 16, _, _ => kf_R kf_1_16
  | 17, _, _ => kf_R kf_1_17
  | 18, _, _ => kf_R kf_1_18
  | 19, _, _ => kf_R kf_1_19
  | 20, _, _ => kf_R kf_1_20
  | 21, _, _ => kf_R kf_1_21
  | j + 22, _, h => absurd h (by omega)
theorem kf_2_3 : Jvm.Cond.not (Jvm.Cond.eq (.string "AskingFragments" 355) (.string "AskingFragments" 357)) ∈ flatC narrow_1 := by
  unfold narrow_1
  exact kf_L (kf_L (kf_R (kf_L (kf_R (kf_R (kf_R (kf_R (kf_R kf_z))))))))
theorem kf_2_4 : Jvm.Cond.not (Jvm.Cond.eq (.string "AskingFragments" 355) (.string "AskingFragments" 359)) ∈ flatC narrow_1 := by
  unfold narrow_1
  exact kf_L (kf_L (kf_R (kf_R (kf_L (kf_R (kf_R (kf_R (kf_L kf_z))))))))
theorem kf_2_5 : Jvm.Cond.not (Jvm.Cond.eq (.string "AskingFragments" 355) (.string "AskingFragments" 361)) ∈ flatC narrow_1 := by
  unfold narrow_1
  exact kf_L (kf_L (kf_R (kf_R (kf_R (kf_R (kf_R (kf_L (kf_R kf_z))))))))
theorem kf_2_6 : Jvm.Cond.not (Jvm.Cond.eq (.string "AskingFragments" 355) (.string "AskingFragments" 363)) ∈ flatC narrow_1 := by
  unfold narrow_1
  exact kf_L (kf_R (kf_L (kf_L (kf_L (kf_R (kf_R (kf_R (kf_L kf_z))))))))
theorem kf_2_7 : Jvm.Cond.not (Jvm.Cond.eq (.string "AskingFragments" 355) (.string "AskingFragments" 365)) ∈ flatC narrow_1 := by
  unfold narrow_1
  exact kf_L (kf_R (kf_L (kf_L (kf_R (kf_R (kf_R (kf_L (kf_R kf_z))))))))
theorem kf_2_8 : Jvm.Cond.not (Jvm.Cond.eq (.string "AskingFragments" 355) (.string "AskingFragments" 367)) ∈ flatC narrow_1 := by
  unfold narrow_1
  exact kf_L (kf_R (kf_L (kf_R (kf_L (kf_R (kf_R (kf_L (kf_R kf_z))))))))
theorem kf_2_9 : Jvm.Cond.not (Jvm.Cond.eq (.string "AskingFragments" 355) (.string "AskingFragments" 369)) ∈ flatC narrow_1 := by
  unfold narrow_1
  exact kf_L (kf_R (kf_L (kf_R (kf_R (kf_R (kf_R (kf_R (kf_L kf_z))))))))
theorem kf_2_10 : Jvm.Cond.not (Jvm.Cond.eq (.string "AskingFragments" 355) (.string "AskingFragments" 371)) ∈ flatC narrow_1 := by
  unfold narrow_1
  exact kf_L (kf_R (kf_R (kf_L (kf_R (kf_L (kf_L (kf_R (kf_R kf_z))))))))
theorem kf_2_11 : Jvm.Cond.not (Jvm.Cond.eq (.string "AskingFragments" 355) (.string "AskingFragments" 373)) ∈ flatC narrow_1 := by
  unfold narrow_1
  exact kf_L (kf_R (kf_R (kf_R (kf_L (kf_R (kf_L (kf_L kf_z)))))))
theorem kf_2_12 : Jvm.Cond.not (Jvm.Cond.eq (.string "AskingFragments" 355) (.string "AskingFragments" 375)) ∈ flatC narrow_1 := by
  unfold narrow_1
  exact kf_L (kf_R (kf_R (kf_R (kf_R (kf_R (kf_R (kf_L (kf_L kf_z))))))))
theorem kf_2_13 : Jvm.Cond.not (Jvm.Cond.eq (.string "AskingFragments" 355) (.string "AskingFragments" 377)) ∈ flatC narrow_1 := by
  unfold narrow_1
  exact kf_R (kf_L (kf_L (kf_L (kf_R (kf_L (kf_L (kf_R (kf_R kf_z))))))))
theorem kf_2_14 : Jvm.Cond.not (Jvm.Cond.eq (.string "AskingFragments" 355) (.string "AskingFragments" 379)) ∈ flatC narrow_1 := by
  unfold narrow_1
  exact kf_R (kf_L (kf_L (kf_R (kf_L (kf_R (kf_L (kf_R (kf_R kf_z))))))))
theorem kf_2_15 : Jvm.Cond.not (Jvm.Cond.eq (.string "AskingFragments" 355) (.string "AskingFragments" 381)) ∈ flatC narrow_1 := by
  unfold narrow_1
  exact kf_R (kf_L (kf_R (kf_L (kf_L (kf_L (kf_R (kf_L (kf_L kf_z))))))))
theorem kf_2_16 : Jvm.Cond.not (Jvm.Cond.eq (.string "AskingFragments" 355) (.string "AskingFragments" 383)) ∈ flatC narrow_1 := by
  unfold narrow_1
  exact kf_R (kf_L (kf_R (kf_L (kf_R (kf_R (kf_R (kf_L (kf_L kf_z))))))))
theorem kf_2_17 : Jvm.Cond.not (Jvm.Cond.eq (.string "AskingFragments" 355) (.string "AskingFragments" 385)) ∈ flatC narrow_1 := by
  unfold narrow_1
  exact kf_R (kf_L (kf_R (kf_R (kf_R (kf_R (kf_L (kf_L (kf_L kf_z))))))))
theorem kf_2_18 : Jvm.Cond.not (Jvm.Cond.eq (.string "AskingFragments" 355) (.string "AskingFragments" 387)) ∈ flatC narrow_1 := by
  unfold narrow_1
  exact kf_R (kf_R (kf_L (kf_L (kf_R (kf_L (kf_R (kf_L (kf_L kf_z))))))))
theorem kf_2_19 : Jvm.Cond.not (Jvm.Cond.eq (.string "AskingFragments" 355) (.string "AskingFragments" 389)) ∈ flatC narrow_1 := by
  unfold narrow_1
  exact kf_R (kf_R (kf_L (kf_R (kf_R (kf_L (kf_L (kf_R (kf_L kf_z))))))))
theorem kf_2_20 : Jvm.Cond.not (Jvm.Cond.eq (.string "AskingFragments" 355) (.string "AskingFragments" 391)) ∈ flatC narrow_1 := by
  unfold narrow_1
  exact kf_R (kf_R (kf_R (kf_L (kf_R (kf_L (kf_L (kf_L kf_z)))))))
theorem kf_2_21 : Jvm.Cond.not (Jvm.Cond.eq (.string "AskingFragments" 355) (.string "AskingFragments" 393)) ∈ flatC narrow_1 := by
  unfold narrow_1
  exact kf_R (kf_R (kf_R (kf_R (kf_L (kf_R (kf_R (kf_L (kf_L kf_z))))))))
theorem kf_2 : ∀ j, 2 < j → j < 22 → (Jvm.Cond.not (Jvm.Cond.eq (la_tm 2) (la_tm j))) ∈ flatC (Jvm.Cond.and given_1 narrow_1) := fun j h hj => match j, h, hj with
  | 0, h, _ => absurd h (by decide)
  | 1, h, _ => absurd h (by decide)
  | 2, h, _ => absurd h (by decide)
  | 3, _, _ => kf_R kf_2_3
  | 4, _, _ => kf_R kf_2_4
  | 5, _, _ => kf_R kf_2_5
  | 6, _, _ => kf_R kf_2_6
  | 7, _, _ => kf_R kf_2_7
  | 8, _, _ => kf_R kf_2_8
  | 9, _, _ => kf_R kf_2_9
  | 10, _, _ => kf_R kf_2_10
  | 11, _, _ => kf_R kf_2_11
  | 12, _, _ => kf_R kf_2_12
  | 13, _, _ => kf_R kf_2_13
  | 14, _, _ => kf_R kf_2_14
  | 15, _, _ => kf_R kf_2_15
  | 16, _, _ => kf_R kf_2_16
  | 17, _, _ => kf_R kf_2_17
  | 18, _, _ => kf_R kf_2_18
  | 19, _, _ => kf_R kf_2_19
  | 20, _, _ => kf_R kf_2_20
  | 21, _, _ => kf_R kf_2_21
  | j + 22, _, h => absurd h (by omega)
theorem kf_3_4 : Jvm.Cond.not (Jvm.Cond.eq (.string "AskingFragments" 357) (.string "AskingFragments" 359)) ∈ flatC narrow_1 := by
  unfold narrow_1
  exact kf_L (kf_L (kf_R (kf_R (kf_L (kf_R (kf_R (kf_R (kf_R kf_z))))))))
theorem kf_3_5 : Jvm.Cond.not (Jvm.Cond.eq (.string "AskingFragments" 357) (.string "AskingFragments" 361)) ∈ flatC narrow_1 := by
  unfold narrow_1
  exact kf_L (kf_L (kf_R (kf_R (kf_R (kf_R (kf_R (kf_R (kf_L kf_z))))))))
theorem kf_3_6 : Jvm.Cond.not (Jvm.Cond.eq (.string "AskingFragments" 357) (.string "AskingFragments" 363)) ∈ flatC narrow_1 := by
  unfold narrow_1
  exact kf_L (kf_R (kf_L (kf_L (kf_L (kf_R (kf_R (kf_R (kf_R kf_z))))))))
theorem kf_3_7 : Jvm.Cond.not (Jvm.Cond.eq (.string "AskingFragments" 357) (.string "AskingFragments" 365)) ∈ flatC narrow_1 := by
  unfold narrow_1
  exact kf_L (kf_R (kf_L (kf_L (kf_R (kf_R (kf_R (kf_R (kf_L kf_z))))))))
theorem kf_3_8 : Jvm.Cond.not (Jvm.Cond.eq (.string "AskingFragments" 357) (.string "AskingFragments" 367)) ∈ flatC narrow_1 := by
  unfold narrow_1
  exact kf_L (kf_R (kf_L (kf_R (kf_L (kf_R (kf_R (kf_R (kf_L kf_z))))))))
theorem kf_3_9 : Jvm.Cond.not (Jvm.Cond.eq (.string "AskingFragments" 357) (.string "AskingFragments" 369)) ∈ flatC narrow_1 := by
  unfold narrow_1
  exact kf_L (kf_R (kf_L (kf_R (kf_R (kf_R (kf_R (kf_R (kf_R kf_z))))))))
theorem kf_3_10 : Jvm.Cond.not (Jvm.Cond.eq (.string "AskingFragments" 357) (.string "AskingFragments" 371)) ∈ flatC narrow_1 := by
  unfold narrow_1
  exact kf_L (kf_R (kf_R (kf_L (kf_R (kf_L (kf_R (kf_L (kf_L kf_z))))))))
theorem kf_3_11 : Jvm.Cond.not (Jvm.Cond.eq (.string "AskingFragments" 357) (.string "AskingFragments" 373)) ∈ flatC narrow_1 := by
  unfold narrow_1
  exact kf_L (kf_R (kf_R (kf_R (kf_L (kf_R (kf_L (kf_R (kf_L kf_z))))))))
theorem kf_3_12 : Jvm.Cond.not (Jvm.Cond.eq (.string "AskingFragments" 357) (.string "AskingFragments" 375)) ∈ flatC narrow_1 := by
  unfold narrow_1
  exact kf_L (kf_R (kf_R (kf_R (kf_R (kf_R (kf_R (kf_L (kf_R kf_z))))))))
theorem kf_3_13 : Jvm.Cond.not (Jvm.Cond.eq (.string "AskingFragments" 357) (.string "AskingFragments" 377)) ∈ flatC narrow_1 := by
  unfold narrow_1
  exact kf_R (kf_L (kf_L (kf_L (kf_R (kf_L (kf_R (kf_L (kf_L kf_z))))))))
theorem kf_3_14 : Jvm.Cond.not (Jvm.Cond.eq (.string "AskingFragments" 357) (.string "AskingFragments" 379)) ∈ flatC narrow_1 := by
  unfold narrow_1
  exact kf_R (kf_L (kf_L (kf_R (kf_L (kf_R (kf_R (kf_L (kf_L kf_z))))))))
theorem kf_3_15 : Jvm.Cond.not (Jvm.Cond.eq (.string "AskingFragments" 357) (.string "AskingFragments" 381)) ∈ flatC narrow_1 := by
  unfold narrow_1
  exact kf_R (kf_L (kf_R (kf_L (kf_L (kf_L (kf_R (kf_L (kf_R kf_z))))))))
theorem kf_3_16 : Jvm.Cond.not (Jvm.Cond.eq (.string "AskingFragments" 357) (.string "AskingFragments" 383)) ∈ flatC narrow_1 := by
  unfold narrow_1
  exact kf_R (kf_L (kf_R (kf_L (kf_R (kf_R (kf_R (kf_L (kf_R kf_z))))))))
theorem kf_3_17 : Jvm.Cond.not (Jvm.Cond.eq (.string "AskingFragments" 357) (.string "AskingFragments" 385)) ∈ flatC narrow_1 := by
  unfold narrow_1
  exact kf_R (kf_L (kf_R (kf_R (kf_R (kf_R (kf_L (kf_L (kf_R kf_z))))))))
theorem kf_3_18 : Jvm.Cond.not (Jvm.Cond.eq (.string "AskingFragments" 357) (.string "AskingFragments" 387)) ∈ flatC narrow_1 := by
  unfold narrow_1
  exact kf_R (kf_R (kf_L (kf_L (kf_R (kf_L (kf_R (kf_L (kf_R kf_z))))))))
theorem kf_3_19 : Jvm.Cond.not (Jvm.Cond.eq (.string "AskingFragments" 357) (.string "AskingFragments" 389)) ∈ flatC narrow_1 := by
  unfold narrow_1
  exact kf_R (kf_R (kf_L (kf_R (kf_R (kf_L (kf_L (kf_R (kf_R kf_z))))))))
theorem kf_3_20 : Jvm.Cond.not (Jvm.Cond.eq (.string "AskingFragments" 357) (.string "AskingFragments" 391)) ∈ flatC narrow_1 := by
  unfold narrow_1
  exact kf_R (kf_R (kf_R (kf_L (kf_R (kf_L (kf_L (kf_R (kf_L kf_z))))))))
theorem kf_3_21 : Jvm.Cond.not (Jvm.Cond.eq (.string "AskingFragments" 357) (.string "AskingFragments" 393)) ∈ flatC narrow_1 := by
  unfold narrow_1
  exact kf_R (kf_R (kf_R (kf_R (kf_L (kf_R (kf_R (kf_L (kf_R kf_z))))))))
theorem kf_3 : ∀ j, 3 < j → j < 22 → (Jvm.Cond.not (Jvm.Cond.eq (la_tm 3) (la_tm j))) ∈ flatC (Jvm.Cond.and given_1 narrow_1) := fun j h hj => match j, h, hj with
  | 0, h, _ => absurd h (by decide)
  | 1, h, _ => absurd h (by decide)
  | 2, h, _ => absurd h (by decide)
  | 3, h, _ => absurd h (by decide)
  | 4, _, _ => kf_R kf_3_4
  | 5, _, _ => kf_R kf_3_5
  | 6, _, _ => kf_R kf_3_6
  | 7, _, _ => kf_R kf_3_7
  | 8, _, _ => kf_R kf_3_8
  | 9, _, _ => kf_R kf_3_9
  | 10, _, _ => kf_R kf_3_10
  | 11, _, _ => kf_R kf_3_11
  | 12, _, _ => kf_R kf_3_12
  | 13, _, _ => kf_R kf_3_13
  | 14, _, _ => kf_R kf_3_14
  | 15, _, _ => kf_R kf_3_15
  | 16, _, _ => kf_R kf_3_16
  | 17, _, _ => kf_R kf_3_17
  | 18, _, _ => kf_R kf_3_18
  | 19, _, _ => kf_R kf_3_19
  | 20, _, _ => kf_R kf_3_20
  | 21, _, _ => kf_R kf_3_21
  | j + 22, _, h => absurd h (by omega)
theorem kf_4_5 : Jvm.Cond.not (Jvm.Cond.eq (.string "AskingFragments" 359) (.string "AskingFragments" 361)) ∈ flatC narrow_1 := by
  unfold narrow_1
  exact kf_L (kf_L (kf_R (kf_R (kf_R (kf_R (kf_R (kf_R (kf_R kf_z))))))))
theorem kf_4_6 : Jvm.Cond.not (Jvm.Cond.eq (.string "AskingFragments" 359) (.string "AskingFragments" 363)) ∈ flatC narrow_1 := by
  unfold narrow_1
  exact kf_L (kf_R (kf_L (kf_L (kf_R (kf_L (kf_L (kf_L kf_z)))))))
theorem kf_4_7 : Jvm.Cond.not (Jvm.Cond.eq (.string "AskingFragments" 359) (.string "AskingFragments" 365)) ∈ flatC narrow_1 := by
  unfold narrow_1
  exact kf_L (kf_R (kf_L (kf_L (kf_R (kf_R (kf_R (kf_R (kf_R kf_z))))))))
theorem kf_4_8 : Jvm.Cond.not (Jvm.Cond.eq (.string "AskingFragments" 359) (.string "AskingFragments" 367)) ∈ flatC narrow_1 := by
  unfold narrow_1
  exact kf_L (kf_R (kf_L (kf_R (kf_L (kf_R (kf_R (kf_R (kf_R kf_z))))))))
theorem kf_4_9 : Jvm.Cond.not (Jvm.Cond.eq (.string "AskingFragments" 359) (.string "AskingFragments" 369)) ∈ flatC narrow_1 := by
  unfold narrow_1
  exact kf_L (kf_R (kf_R (kf_L (kf_L (kf_L (kf_L (kf_L kf_z)))))))
theorem kf_4_10 : Jvm.Cond.not (Jvm.Cond.eq (.string "AskingFragments" 359) (.string "AskingFragments" 371)) ∈ flatC narrow_1 := by
  unfold narrow_1
  exact kf_L (kf_R (kf_R (kf_L (kf_R (kf_L (kf_R (kf_L (kf_R kf_z))))))))
theorem kf_4_11 : Jvm.Cond.not (Jvm.Cond.eq (.string "AskingFragments" 359) (.string "AskingFragments" 373)) ∈ flatC narrow_1 := by
  unfold narrow_1
  exact kf_L (kf_R (kf_R (kf_R (kf_L (kf_R (kf_L (kf_R (kf_R kf_z))))))))
theorem kf_4_12 : Jvm.Cond.not (Jvm.Cond.eq (.string "AskingFragments" 359) (.string "AskingFragments" 375)) ∈ flatC narrow_1 := by
  unfold narrow_1
  exact kf_L (kf_R (kf_R (kf_R (kf_R (kf_R (kf_R (kf_R (kf_L kf_z))))))))
theorem kf_4_13 : Jvm.Cond.not (Jvm.Cond.eq (.string "AskingFragments" 359) (.string "AskingFragments" 377)) ∈ flatC narrow_1 := by
  unfold narrow_1
  exact kf_R (kf_L (kf_L (kf_L (kf_R (kf_L (kf_R (kf_L (kf_R kf_z))))))))
theorem kf_4_14 : Jvm.Cond.not (Jvm.Cond.eq (.string "AskingFragments" 359) (.string "AskingFragments" 379)) ∈ flatC narrow_1 := by
  unfold narrow_1
  exact kf_R (kf_L (kf_L (kf_R (kf_L (kf_R (kf_R (kf_L (kf_R kf_z))))))))
theorem kf_4_15 : Jvm.Cond.not (Jvm.Cond.eq (.string "AskingFragments" 359) (.string "AskingFragments" 381)) ∈ flatC narrow_1 := by
  unfold narrow_1
  exact kf_R (kf_L (kf_R (kf_L (kf_L (kf_L (kf_R (kf_R (kf_L kf_z))))))))
theorem kf_4_16 : Jvm.Cond.not (Jvm.Cond.eq (.string "AskingFragments" 359) (.string "AskingFragments" 383)) ∈ flatC narrow_1 := by
  unfold narrow_1
  exact kf_R (kf_L (kf_R (kf_L (kf_R (kf_R (kf_R (kf_R (kf_L kf_z))))))))
theorem kf_4_17 : Jvm.Cond.not (Jvm.Cond.eq (.string "AskingFragments" 359) (.string "AskingFragments" 385)) ∈ flatC narrow_1 := by
  unfold narrow_1
  exact kf_R (kf_L (kf_R (kf_R (kf_R (kf_R (kf_L (kf_R (kf_L kf_z))))))))
theorem kf_4_18 : Jvm.Cond.not (Jvm.Cond.eq (.string "AskingFragments" 359) (.string "AskingFragments" 387)) ∈ flatC narrow_1 := by
  unfold narrow_1
  exact kf_R (kf_R (kf_L (kf_L (kf_R (kf_L (kf_R (kf_R (kf_L kf_z))))))))
theorem kf_4_19 : Jvm.Cond.not (Jvm.Cond.eq (.string "AskingFragments" 359) (.string "AskingFragments" 389)) ∈ flatC narrow_1 := by
  unfold narrow_1
  exact kf_R (kf_R (kf_L (kf_R (kf_R (kf_L (kf_R (kf_L (kf_L kf_z))))))))
theorem kf_4_20 : Jvm.Cond.not (Jvm.Cond.eq (.string "AskingFragments" 359) (.string "AskingFragments" 391)) ∈ flatC narrow_1 := by
  unfold narrow_1
  exact kf_R (kf_R (kf_R (kf_L (kf_R (kf_L (kf_L (kf_R (kf_R kf_z))))))))
theorem kf_4_21 : Jvm.Cond.not (Jvm.Cond.eq (.string "AskingFragments" 359) (.string "AskingFragments" 393)) ∈ flatC narrow_1 := by
  unfold narrow_1
  exact kf_R (kf_R (kf_R (kf_R (kf_L (kf_R (kf_R (kf_R (kf_L kf_z))))))))
theorem kf_4 : ∀ j, 4 < j → j < 22 → (Jvm.Cond.not (Jvm.Cond.eq (la_tm 4) (la_tm j))) ∈ flatC (Jvm.Cond.and given_1 narrow_1) := fun j h hj => match j, h, hj with
  | 0, h, _ => absurd h (by decide)
  | 1, h, _ => absurd h (by decide)
  | 2, h, _ => absurd h (by decide)
  | 3, h, _ => absurd h (by decide)
  | 4, h, _ => absurd h (by decide)
  | 5, _, _ => kf_R kf_4_5
  | 6, _, _ => kf_R kf_4_6
  | 7, _, _ => kf_R kf_4_7
  | 8, _, _ => kf_R kf_4_8
  | 9, _, _ => kf_R kf_4_9
  | 10, _, _ => kf_R kf_4_10
  | 11, _, _ => kf_R kf_4_11
  | 12, _, _ => kf_R kf_4_12
  | 13, _, _ => kf_R kf_4_13
  | 14, _, _ => kf_R kf_4_14
  | 15, _, _ => kf_R kf_4_15
  | 16, _, _ => kf_R kf_4_16
  | 17, _, _ => kf_R kf_4_17
  | 18, _, _ => kf_R kf_4_18
  | 19, _, _ => kf_R kf_4_19
  | 20, _, _ => kf_R kf_4_20
  | 21, _, _ => kf_R kf_4_21
  | j + 22, _, h => absurd h (by omega)
theorem kf_5_6 : Jvm.Cond.not (Jvm.Cond.eq (.string "AskingFragments" 361) (.string "AskingFragments" 363)) ∈ flatC narrow_1 := by
  unfold narrow_1
  exact kf_L (kf_R (kf_L (kf_L (kf_R (kf_L (kf_L (kf_R (kf_L kf_z))))))))
theorem kf_5_7 : Jvm.Cond.not (Jvm.Cond.eq (.string "AskingFragments" 361) (.string "AskingFragments" 365)) ∈ flatC narrow_1 := by
  unfold narrow_1
  exact kf_L (kf_R (kf_L (kf_R (kf_L (kf_L (kf_L (kf_L kf_z)))))))
theorem kf_5_8 : Jvm.Cond.not (Jvm.Cond.eq (.string "AskingFragments" 361) (.string "AskingFragments" 367)) ∈ flatC narrow_1 := by
  unfold narrow_1
  exact kf_L (kf_R (kf_L (kf_R (kf_R (kf_L (kf_L (kf_L kf_z)))))))
theorem kf_5_9 : Jvm.Cond.not (Jvm.Cond.eq (.string "AskingFragments" 361) (.string "AskingFragments" 369)) ∈ flatC narrow_1 := by
  unfold narrow_1
  exact kf_L (kf_R (kf_R (kf_L (kf_L (kf_L (kf_L (kf_R (kf_L kf_z))))))))
theorem kf_5_10 : Jvm.Cond.not (Jvm.Cond.eq (.string "AskingFragments" 361) (.string "AskingFragments" 371)) ∈ flatC narrow_1 := by
  unfold narrow_1
  exact kf_L (kf_R (kf_R (kf_L (kf_R (kf_L (kf_R (kf_R (kf_L kf_z))))))))
theorem kf_5_11 : Jvm.Cond.not (Jvm.Cond.eq (.string "AskingFragments" 361) (.string "AskingFragments" 373)) ∈ flatC narrow_1 := by
  unfold narrow_1
  exact kf_L (kf_R (kf_R (kf_R (kf_L (kf_R (kf_R (kf_L (kf_L kf_z))))))))
theorem kf_5_12 : Jvm.Cond.not (Jvm.Cond.eq (.string "AskingFragments" 361) (.string "AskingFragments" 375)) ∈ flatC narrow_1 := by
  unfold narrow_1
  exact kf_L (kf_R (kf_R (kf_R (kf_R (kf_R (kf_R (kf_R (kf_R kf_z))))))))
theorem kf_5_13 : Jvm.Cond.not (Jvm.Cond.eq (.string "AskingFragments" 361) (.string "AskingFragments" 377)) ∈ flatC narrow_1 := by
  unfold narrow_1
  exact kf_R (kf_L (kf_L (kf_L (kf_R (kf_L (kf_R (kf_R (kf_L kf_z))))))))
theorem kf_5_14 : Jvm.Cond.not (Jvm.Cond.eq (.string "AskingFragments" 361) (.string "AskingFragments" 379)) ∈ flatC narrow_1 := by
  unfold narrow_1
  exact kf_R (kf_L (kf_L (kf_R (kf_L (kf_R (kf_R (kf_R (kf_L kf_z))))))))
theorem kf_5_15 : Jvm.Cond.not (Jvm.Cond.eq (.string "AskingFragments" 361) (.string "AskingFragments" 381)) ∈ flatC narrow_1 := by
  unfold narrow_1
  exact kf_R (kf_L (kf_R (kf_L (kf_L (kf_L (kf_R (kf_R (kf_R kf_z))))))))
theorem kf_5_16 : Jvm.Cond.not (Jvm.Cond.eq (.string "AskingFragments" 361) (.string "AskingFragments" 383)) ∈ flatC narrow_1 := by
  unfold narrow_1
  exact kf_R (kf_L (kf_R (kf_L (kf_R (kf_R (kf_R (kf_R (kf_R kf_z))))))))
theorem kf_5_17 : Jvm.Cond.not (Jvm.Cond.eq (.string "AskingFragments" 361) (.string "AskingFragments" 385)) ∈ flatC narrow_1 := by
  unfold narrow_1
  exact kf_R (kf_L (kf_R (kf_R (kf_R (kf_R (kf_L (kf_R (kf_R kf_z))))))))
theorem kf_5_18 : Jvm.Cond.not (Jvm.Cond.eq (.string "AskingFragments" 361) (.string "AskingFragments" 387)) ∈ flatC narrow_1 := by
  unfold narrow_1
  exact kf_R (kf_R (kf_L (kf_L (kf_R (kf_L (kf_R (kf_R (kf_R kf_z))))))))
theorem kf_5_19 : Jvm.Cond.not (Jvm.Cond.eq (.string "AskingFragments" 361) (.string "AskingFragments" 389)) ∈ flatC narrow_1 := by
  unfold narrow_1
  exact kf_R (kf_R (kf_L (kf_R (kf_R (kf_L (kf_R (kf_L (kf_R kf_z))))))))
theorem kf_5_20 : Jvm.Cond.not (Jvm.Cond.eq (.string "AskingFragments" 361) (.string "AskingFragments" 391)) ∈ flatC narrow_1 := by
  unfold narrow_1
  exact kf_R (kf_R (kf_R (kf_L (kf_R (kf_L (kf_R (kf_L (kf_L kf_z))))))))
theorem kf_5_21 : Jvm.Cond.not (Jvm.Cond.eq (.string "AskingFragments" 361) (.string "AskingFragments" 393)) ∈ flatC narrow_1 := by
  unfold narrow_1
  exact kf_R (kf_R (kf_R (kf_R (kf_L (kf_R (kf_R (kf_R (kf_R kf_z))))))))
theorem kf_5 : ∀ j, 5 < j → j < 22 → (Jvm.Cond.not (Jvm.Cond.eq (la_tm 5) (la_tm j))) ∈ flatC (Jvm.Cond.and given_1 narrow_1) := fun j h hj => match j, h, hj with
  | 0, h, _ => absurd h (by decide)
  | 1, h, _ => absurd h (by decide)
  | 2, h, _ => absurd h (by decide)
  | 3, h, _ => absurd h (by decide)
  | 4, h, _ => absurd h (by decide)
  | 5, h, _ => absurd h (by decide)
  | 6, _, _ => kf_R kf_5_6
  | 7, _, _ => kf_R kf_5_7
  | 8, _, _ => kf_R kf_5_8
  | 9, _, _ => kf_R kf_5_9
  | 10, _, _ => kf_R kf_5_10
  | 11, _, _ => kf_R kf_5_11
  | 12, _, _ => kf_R kf_5_12
  | 13, _, _ => kf_R kf_5_13
  | 14, _, _ => kf_R kf_5_14
  | 15, _, _ => kf_R kf_5_15
  | 16, _, _ => kf_R kf_5_16
  | 17, _, _ => kf_R kf_5_17
  | 18, _, _ => kf_R kf_5_18
  | 19, _, _ => kf_R kf_5_19
  | 20, _, _ => kf_R kf_5_20
  | 21, _, _ => kf_R kf_5_21
  | j + 22, _, h => absurd h (by omega)
theorem kf_6_7 : Jvm.Cond.not (Jvm.Cond.eq (.string "AskingFragments" 363) (.string "AskingFragments" 365)) ∈ flatC narrow_1 := by
  unfold narrow_1
  exact kf_L (kf_R (kf_L (kf_R (kf_L (kf_L (kf_L (kf_R (kf_L kf_z))))))))
theorem kf_6_8 : Jvm.Cond.not (Jvm.Cond.eq (.string "AskingFragments" 363) (.string "AskingFragments" 367)) ∈ flatC narrow_1 := by
  unfold narrow_1
  exact kf_L (kf_R (kf_L (kf_R (kf_R (kf_L (kf_L (kf_R (kf_L kf_z))))))))
theorem kf_6_9 : Jvm.Cond.not (Jvm.Cond.eq (.string "AskingFragments" 363) (.string "AskingFragments" 369)) ∈ flatC narrow_1 := by
  unfold narrow_1
  exact kf_L (kf_R (kf_R (kf_L (kf_L (kf_L (kf_L (kf_R (kf_R kf_z))))))))
theorem kf_6_10 : Jvm.Cond.not (Jvm.Cond.eq (.string "AskingFragments" 363) (.string "AskingFragments" 371)) ∈ flatC narrow_1 := by
  unfold narrow_1
  exact kf_L (kf_R (kf_R (kf_L (kf_R (kf_L (kf_R (kf_R (kf_R kf_z))))))))
theorem kf_6_11 : Jvm.Cond.not (Jvm.Cond.eq (.string "AskingFragments" 363) (.string "AskingFragments" 373)) ∈ flatC narrow_1 := by
  unfold narrow_1
  exact kf_L (kf_R (kf_R (kf_R (kf_L (kf_R (kf_R (kf_L (kf_R kf_z))))))))
theorem kf_6_12 : Jvm.Cond.not (Jvm.Cond.eq (.string "AskingFragments" 363) (.string "AskingFragments" 375)) ∈ flatC narrow_1 := by
  unfold narrow_1
  exact kf_R (kf_L (kf_L (kf_L (kf_L (kf_L (kf_L (kf_L kf_z)))))))
theorem kf_6_13 : Jvm.Cond.not (Jvm.Cond.eq (.string "AskingFragments" 363) (.string "AskingFragments" 377)) ∈ flatC narrow_1 := by
  unfold narrow_1
  exact kf_R (kf_L (kf_L (kf_L (kf_R (kf_L (kf_R (kf_R (kf_R kf_z))))))))
theorem kf_6_14 : Jvm.Cond.not (Jvm.Cond.eq (.string "AskingFragments" 363) (.string "AskingFragments" 379)) ∈ flatC narrow_1 := by
  unfold narrow_1
  exact kf_R (kf_L (kf_L (kf_R (kf_L (kf_R (kf_R (kf_R (kf_R kf_z))))))))
theorem kf_6_15 : Jvm.Cond.not (Jvm.Cond.eq (.string "AskingFragments" 363) (.string "AskingFragments" 381)) ∈ flatC narrow_1 := by
  unfold narrow_1
  exact kf_R (kf_L (kf_R (kf_L (kf_L (kf_R (kf_L (kf_L kf_z)))))))
theorem kf_6_16 : Jvm.Cond.not (Jvm.Cond.eq (.string "AskingFragments" 363) (.string "AskingFragments" 383)) ∈ flatC narrow_1 := by
  unfold narrow_1
  exact kf_R (kf_L (kf_R (kf_R (kf_L (kf_L (kf_L (kf_L kf_z)))))))
theorem kf_6_17 : Jvm.Cond.not (Jvm.Cond.eq (.string "AskingFragments" 363) (.string "AskingFragments" 385)) ∈ flatC narrow_1 := by
  unfold narrow_1
  exact kf_R (kf_L (kf_R (kf_R (kf_R (kf_R (kf_R (kf_L (kf_L kf_z))))))))
theorem kf_6_18 : Jvm.Cond.not (Jvm.Cond.eq (.string "AskingFragments" 363) (.string "AskingFragments" 387)) ∈ flatC narrow_1 := by
  unfold narrow_1
  exact kf_R (kf_R (kf_L (kf_L (kf_R (kf_R (kf_L (kf_L kf_z)))))))
theorem kf_6_19 : Jvm.Cond.not (Jvm.Cond.eq (.string "AskingFragments" 363) (.string "AskingFragments" 389)) ∈ flatC narrow_1 := by
  unfold narrow_1
  exact kf_R (kf_R (kf_L (kf_R (kf_R (kf_L (kf_R (kf_R (kf_L kf_z))))))))
theorem kf_6_20 : Jvm.Cond.not (Jvm.Cond.eq (.string "AskingFragments" 363) (.string "AskingFragments" 391)) ∈ flatC narrow_1 := by
  unfold narrow_1
  exact kf_R (kf_R (kf_R (kf_L (kf_R (kf_L (kf_R (kf_L (kf_R kf_z))))))))
theorem kf_6_21 : Jvm.Cond.not (Jvm.Cond.eq (.string "AskingFragments" 363) (.string "AskingFragments" 393)) ∈ flatC narrow_1 := by
  unfold narrow_1
  exact kf_R (kf_R (kf_R (kf_R (kf_R (kf_L (kf_L (kf_L kf_z)))))))
theorem kf_6 : ∀ j, 6 < j → j < 22 → (Jvm.Cond.not (Jvm.Cond.eq (la_tm 6) (la_tm j))) ∈ flatC (Jvm.Cond.and given_1 narrow_1) := fun j h hj => match j, h, hj with
  | 0, h, _ => absurd h (by decide)
  | 1, h, _ => absurd h (by decide)
  | 2, h, _ => absurd h (by decide)
  | 3, h, _ => absurd h (by decide)
  | 4, h, _ => absurd h (by decide)
  | 5, h, _ => absurd h (by decide)
  | 6, h, _ => absurd h (by decide)
  | 7, _, _ => kf_R kf_6_7
  | 8, _, _ => kf_R kf_6_8
  | 9, _, _ => kf_R kf_6_9
  | 10, _, _ => kf_R kf_6_10
  | 11, _, _ => kf_R kf_6_11
  | 12, _, _ => kf_R kf_6_12
  | 13, _, _ => kf_R kf_6_13
  | 14, _, _ => kf_R kf_6_14
  | 15, _, _ => kf_R kf_6_15
  | 16, _, _ => kf_R kf_6_16
  | 17, _, _ => kf_R kf_6_17
  | 18, _, _ => kf_R kf_6_18
  | 19, _, _ => kf_R kf_6_19
  | 20, _, _ => kf_R kf_6_20
  | 21, _, _ => kf_R kf_6_21
  | j + 22, _, h => absurd h (by omega)
theorem kf_7_8 : Jvm.Cond.not (Jvm.Cond.eq (.string "AskingFragments" 365) (.string "AskingFragments" 367)) ∈ flatC narrow_1 := by
  unfold narrow_1
  exact kf_L (kf_R (kf_L (kf_R (kf_R (kf_L (kf_L (kf_R (kf_R kf_z))))))))
theorem kf_7_9 : Jvm.Cond.not (Jvm.Cond.eq (.string "AskingFragments" 365) (.string "AskingFragments" 369)) ∈ flatC narrow_1 := by
  unfold narrow_1
  exact kf_L (kf_R (kf_R (kf_L (kf_L (kf_L (kf_R (kf_L (kf_L kf_z))))))))
theorem kf_7_10 : Jvm.Cond.not (Jvm.Cond.eq (.string "AskingFragments" 365) (.string "AskingFragments" 371)) ∈ flatC narrow_1 := by
  unfold narrow_1
  exact kf_L (kf_R (kf_R (kf_L (kf_R (kf_R (kf_L (kf_L kf_z)))))))
theorem kf_7_11 : Jvm.Cond.not (Jvm.Cond.eq (.string "AskingFragments" 365) (.string "AskingFragments" 373)) ∈ flatC narrow_1 := by
  unfold narrow_1
  exact kf_L (kf_R (kf_R (kf_R (kf_L (kf_R (kf_R (kf_R (kf_L kf_z))))))))
theorem kf_7_12 : Jvm.Cond.not (Jvm.Cond.eq (.string "AskingFragments" 365) (.string "AskingFragments" 375)) ∈ flatC narrow_1 := by
  unfold narrow_1
  exact kf_R (kf_L (kf_L (kf_L (kf_L (kf_L (kf_L (kf_R (kf_L kf_z))))))))
theorem kf_7_13 : Jvm.Cond.not (Jvm.Cond.eq (.string "AskingFragments" 365) (.string "AskingFragments" 377)) ∈ flatC narrow_1 := by
  unfold narrow_1
  exact kf_R (kf_L (kf_L (kf_L (kf_R (kf_R (kf_L (kf_L kf_z)))))))
theorem kf_7_14 : Jvm.Cond.not (Jvm.Cond.eq (.string "AskingFragments" 365) (.string "AskingFragments" 379)) ∈ flatC narrow_1 := by
  unfold narrow_1
  exact kf_R (kf_L (kf_L (kf_R (kf_R (kf_L (kf_L (kf_L kf_z)))))))
theorem kf_7_15 : Jvm.Cond.not (Jvm.Cond.eq (.string "AskingFragments" 365) (.string "AskingFragments" 381)) ∈ flatC narrow_1 := by
  unfold narrow_1
  exact kf_R (kf_L (kf_R (kf_L (kf_L (kf_R (kf_L (kf_R (kf_L kf_z))))))))
theorem kf_7_16 : Jvm.Cond.not (Jvm.Cond.eq (.string "AskingFragments" 365) (.string "AskingFragments" 383)) ∈ flatC narrow_1 := by
  unfold narrow_1
  exact kf_R (kf_L (kf_R (kf_R (kf_L (kf_L (kf_L (kf_R (kf_L kf_z))))))))
theorem kf_7_17 : Jvm.Cond.not (Jvm.Cond.eq (.string "AskingFragments" 365) (.string "AskingFragments" 385)) ∈ flatC narrow_1 := by
  unfold narrow_1
  exact kf_R (kf_L (kf_R (kf_R (kf_R (kf_R (kf_R (kf_L (kf_R kf_z))))))))
theorem kf_7_18 : Jvm.Cond.not (Jvm.Cond.eq (.string "AskingFragments" 365) (.string "AskingFragments" 387)) ∈ flatC narrow_1 := by
  unfold narrow_1
  exact kf_R (kf_R (kf_L (kf_L (kf_R (kf_R (kf_L (kf_R (kf_L kf_z))))))))
theorem kf_7_19 : Jvm.Cond.not (Jvm.Cond.eq (.string "AskingFragments" 365) (.string "AskingFragments" 389)) ∈ flatC narrow_1 := by
  unfold narrow_1
  exact kf_R (kf_R (kf_L (kf_R (kf_R (kf_L (kf_R (kf_R (kf_R kf_z))))))))
theorem kf_7_20 : Jvm.Cond.not (Jvm.Cond.eq (.string "AskingFragments" 365) (.string "AskingFragments" 391)) ∈ flatC narrow_1 := by
  unfold narrow_1
  exact kf_R (kf_R (kf_R (kf_L (kf_R (kf_L (kf_R (kf_R (kf_L kf_z))))))))
theorem kf_7_21 : Jvm.Cond.not (Jvm.Cond.eq (.string "AskingFragments" 365) (.string "AskingFragments" 393)) ∈ flatC narrow_1 := by
  unfold narrow_1
  exact kf_R (kf_R (kf_R (kf_R (kf_R (kf_L (kf_L (kf_R (kf_L kf_z))))))))
theorem kf_7 : ∀ j, 7 < j → j < 22 → (Jvm.Cond.not (Jvm.Cond.eq (la_tm 7) (la_tm j))) ∈ flatC (Jvm.Cond.and given_1 narrow_1) := fun j h hj => match j, h, hj with
  | 0, h, _ => absurd h (by decide)
  | 1, h, _ => absurd h (by decide)
  | 2, h, _ => absurd h (by decide)
  | 3, h, _ => absurd h (by decide)
  | 4, h, _ => absurd h (by decide)
  | 5, h, _ => absurd h (by decide)
  | 6, h, _ => absurd h (by decide)
  | 7, h, _ => absurd h (by decide)
  | 8, _, _ => kf_R kf_7_8
  | 9, _, _ => kf_R kf_7_9
  | 10, _, _ => kf_R kf_7_10
  | 11, _, _ => kf_R kf_7_11
  | 12, _, _ => kf_R kf_7_12
  | 13, _, _ => kf_R kf_7_13
  | 14, _, _ => kf_R kf_7_14
  | 15, _, _ => kf_R kf_7_15
  | 16, _, _ => kf_R kf_7_16
  | 17, _, _ => kf_R kf_7_17
  | 18, _, _ => kf_R kf_7_18
  | 19, _, _ => kf_R kf_7_19
  | 20, _, _ => kf_R kf_7_20
  | 21, _, _ => kf_R kf_7_21
  | j + 22, _, h => absurd h (by omega)
theorem kf_8_9 : Jvm.Cond.not (Jvm.Cond.eq (.string "AskingFragments" 367) (.string "AskingFragments" 369)) ∈ flatC narrow_1 := by
  unfold narrow_1
  exact kf_L (kf_R (kf_R (kf_L (kf_L (kf_L (kf_R (kf_L (kf_R kf_z))))))))
theorem kf_8_10 : Jvm.Cond.not (Jvm.Cond.eq (.string "AskingFragments" 367) (.string "AskingFragments" 371)) ∈ flatC narrow_1 := by
  unfold narrow_1
  exact kf_L (kf_R (kf_R (kf_L (kf_R (kf_R (kf_L (kf_R (kf_L kf_z))))))))
theorem kf_8_11 : Jvm.Cond.not (Jvm.Cond.eq (.string "AskingFragments" 367) (.string "AskingFragments" 373)) ∈ flatC narrow_1 := by
  unfold narrow_1
  exact kf_L (kf_R (kf_R (kf_R (kf_L (kf_R (kf_R (kf_R (kf_R kf_z))))))))
theorem kf_8_12 : Jvm.Cond.not (Jvm.Cond.eq (.string "AskingFragments" 367) (.string "AskingFragments" 375)) ∈ flatC narrow_1 := by
  unfold narrow_1
  exact kf_R (kf_L (kf_L (kf_L (kf_L (kf_L (kf_L (kf_R (kf_R kf_z))))))))
theorem kf_8_13 : Jvm.Cond.not (Jvm.Cond.eq (.string "AskingFragments" 367) (.string "AskingFragments" 377)) ∈ flatC narrow_1 := by
  unfold narrow_1
  exact kf_R (kf_L (kf_L (kf_L (kf_R (kf_R (kf_L (kf_R (kf_L kf_z))))))))
theorem kf_8_14 : Jvm.Cond.not (Jvm.Cond.eq (.string "AskingFragments" 367) (.string "AskingFragments" 379)) ∈ flatC narrow_1 := by
  unfold narrow_1
  exact kf_R (kf_L (kf_L (kf_R (kf_R (kf_L (kf_L (kf_R (kf_L kf_z))))))))
theorem kf_8_15 : Jvm.Cond.not (Jvm.Cond.eq (.string "AskingFragments" 367) (.string "AskingFragments" 381)) ∈ flatC narrow_1 := by
  unfold narrow_1
  exact kf_R (kf_L (kf_R (kf_L (kf_L (kf_R (kf_L (kf_R (kf_R kf_z))))))))
theorem kf_8_16 : Jvm.Cond.not (Jvm.Cond.eq (.string "AskingFragments" 367) (.string "AskingFragments" 383)) ∈ flatC narrow_1 := by
  unfold narrow_1
  exact kf_R (kf_L (kf_R (kf_R (kf_L (kf_L (kf_L (kf_R (kf_R kf_z))))))))
theorem kf_8_17 : Jvm.Cond.not (Jvm.Cond.eq (.string "AskingFragments" 367) (.string "AskingFragments" 385)) ∈ flatC narrow_1 := by
  unfold narrow_1
  exact kf_R (kf_L (kf_R (kf_R (kf_R (kf_R (kf_R (kf_R (kf_L kf_z))))))))
theorem kf_8_18 : Jvm.Cond.not (Jvm.Cond.eq (.string "AskingFragments" 367) (.string "AskingFragments" 387)) ∈ flatC narrow_1 := by
  unfold narrow_1
  exact kf_R (kf_R (kf_L (kf_L (kf_R (kf_R (kf_L (kf_R (kf_R kf_z))))))))
theorem kf_8_19 : Jvm.Cond.not (Jvm.Cond.eq (.string "AskingFragments" 367) (.string "AskingFragments" 389)) ∈ flatC narrow_1 := by
  unfold narrow_1
  exact kf_R (kf_R (kf_L (kf_R (kf_R (kf_R (kf_L (kf_L kf_z)))))))
theorem kf_8_20 : Jvm.Cond.not (Jvm.Cond.eq (.string "AskingFragments" 367) (.string "AskingFragments" 391)) ∈ flatC narrow_1 := by
  unfold narrow_1
  exact kf_R (kf_R (kf_R (kf_L (kf_R (kf_L (kf_R (kf_R (kf_R kf_z))))))))
theorem kf_8_21 : Jvm.Cond.not (Jvm.Cond.eq (.string "AskingFragments" 367) (.string "AskingFragments" 393)) ∈ flatC narrow_1 := by
  unfold narrow_1
  exact kf_R (kf_R (kf_R (kf_R (kf_R (kf_L (kf_L (kf_R (kf_R kf_z))))))))
theorem kf_8 : ∀ j, 8 < j → j < 22 → (Jvm.Cond.not (Jvm.Cond.eq (la_tm 8) (la_tm j))) ∈ flatC (Jvm.Cond.and given_1 narrow_1) := fun j h hj => match j, h, hj with
  | 0, h, _ => absurd h (by decide)
  | 1, h, _ => absurd h (by decide)
  | 2, h, _ => absurd h (by decide)
  | 3, h, _ => absurd h (by decide)
  | 4, h, _ => absurd h (by decide)
  | 5, h, _ => absurd h (by decide)
  | 6, h, _ => absurd h (by decide)
  | 7, h, _ => absurd h (by decide)
  | 8, h, _ => absurd h (by decide)
  | 9, _, _ => kf_R kf_8_9
  | 10, _, _ => kf_R kf_8_10
  | 11, _, _ => kf_R kf_8_11
  | 12, _, _ => kf_R kf_8_12
  | 13, _, _ => kf_R kf_8_13
  | 14, _, _ => kf_R kf_8_14
  | 15, _, _ => kf_R kf_8_15
  | 16, _, _ => kf_R kf_8_16
  | 17, _, _ => kf_R kf_8_17
  | 18, _, _ => kf_R kf_8_18
  | 19, _, _ => kf_R kf_8_19
  | 20, _, _ => kf_R kf_8_20
  | 21, _, _ => kf_R kf_8_21
  | j + 22, _, h => absurd h (by omega)
theorem kf_9_10 : Jvm.Cond.not (Jvm.Cond.eq (.string "AskingFragments" 369) (.string "AskingFragments" 371)) ∈ flatC narrow_1 := by
  unfold narrow_1
  exact kf_L (kf_R (kf_R (kf_L (kf_R (kf_R (kf_L (kf_R (kf_R kf_z))))))))
theorem kf_9_11 : Jvm.Cond.not (Jvm.Cond.eq (.string "AskingFragments" 369) (.string "AskingFragments" 373)) ∈ flatC narrow_1 := by
  unfold narrow_1
  exact kf_L (kf_R (kf_R (kf_R (kf_R (kf_L (kf_L (kf_L kf_z)))))))
theorem kf_9_12 : Jvm.Cond.not (Jvm.Cond.eq (.string "AskingFragments" 369) (.string "AskingFragments" 375)) ∈ flatC narrow_1 := by
  unfold narrow_1
  exact kf_R (kf_L (kf_L (kf_L (kf_L (kf_L (kf_R (kf_L (kf_L kf_z))))))))
theorem kf_9_13 : Jvm.Cond.not (Jvm.Cond.eq (.string "AskingFragments" 369) (.string "AskingFragments" 377)) ∈ flatC narrow_1 := by
  unfold narrow_1
  exact kf_R (kf_L (kf_L (kf_L (kf_R (kf_R (kf_L (kf_R (kf_R kf_z))))))))
theorem kf_9_14 : Jvm.Cond.not (Jvm.Cond.eq (.string "AskingFragments" 369) (.string "AskingFragments" 379)) ∈ flatC narrow_1 := by
  unfold narrow_1
  exact kf_R (kf_L (kf_L (kf_R (kf_R (kf_L (kf_L (kf_R (kf_R kf_z))))))))
theorem kf_9_15 : Jvm.Cond.not (Jvm.Cond.eq (.string "AskingFragments" 369) (.string "AskingFragments" 381)) ∈ flatC narrow_1 := by
  unfold narrow_1
  exact kf_R (kf_L (kf_R (kf_L (kf_L (kf_R (kf_R (kf_L (kf_L kf_z))))))))
theorem kf_9_16 : Jvm.Cond.not (Jvm.Cond.eq (.string "AskingFragments" 369) (.string "AskingFragments" 383)) ∈ flatC narrow_1 := by
  unfold narrow_1
  exact kf_R (kf_L (kf_R (kf_R (kf_L (kf_L (kf_R (kf_L (kf_L kf_z))))))))
theorem kf_9_17 : Jvm.Cond.not (Jvm.Cond.eq (.string "AskingFragments" 369) (.string "AskingFragments" 385)) ∈ flatC narrow_1 := by
  unfold narrow_1
  exact kf_R (kf_L (kf_R (kf_R (kf_R (kf_R (kf_R (kf_R (kf_R kf_z))))))))
theorem kf_9_18 : Jvm.Cond.not (Jvm.Cond.eq (.string "AskingFragments" 369) (.string "AskingFragments" 387)) ∈ flatC narrow_1 := by
  unfold narrow_1
  exact kf_R (kf_R (kf_L (kf_L (kf_R (kf_R (kf_R (kf_L (kf_L kf_z))))))))
theorem kf_9_19 : Jvm.Cond.not (Jvm.Cond.eq (.string "AskingFragments" 369) (.string "AskingFragments" 389)) ∈ flatC narrow_1 := by
  unfold narrow_1
  exact kf_R (kf_R (kf_L (kf_R (kf_R (kf_R (kf_L (kf_R (kf_L kf_z))))))))
theorem kf_9_20 : Jvm.Cond.not (Jvm.Cond.eq (.string "AskingFragments" 369) (.string "AskingFragments" 391)) ∈ flatC narrow_1 := by
  unfold narrow_1
  exact kf_R (kf_R (kf_R (kf_L (kf_R (kf_R (kf_L (kf_L kf_z)))))))
theorem kf_9_21 : Jvm.Cond.not (Jvm.Cond.eq (.string "AskingFragments" 369) (.string "AskingFragments" 393)) ∈ flatC narrow_1 := by
  unfold narrow_1
  exact kf_R (kf_R (kf_R (kf_R (kf_R (kf_L (kf_R (kf_L (kf_L kf_z))))))))
theorem kf_9 : ∀ j, 9 < j → j < 22 → (Jvm.Cond.not (Jvm.Cond.eq (la_tm 9) (la_tm j))) ∈ flatC (Jvm.Cond.and given_1 narrow_1) := fun j h hj => match j, h, hj with
  | 0, h, _ => absurd h (by decide)
  | 1, h, _ => absurd h (by decide)
  | 2, h, _ => absurd h (by decide)
  | 3, h, _ => absurd h (by decide)
  | 4, h, _ => absurd h (by decide)
  | 5, h, _ => absurd h (by decide)
  | 6, h, _ => absurd h (by decide)
  | 7, h, _ => absurd h (by decide)
  | 8, h, _ => absurd h (by decide)
  | 9, h, _ => absurd h (by decide)
  | 10, _, _ => kf_R kf_9_10
  | 11, _, _ => kf_R kf_9_11
  | 12, _, _ => kf_R kf_9_12
  | 13, _, _ => kf_R kf_9_13
  | 14, _, _ => kf_R kf_9_14
  | 15, _, _ => kf_R kf_9_15
  | 16, _, _ => kf_R kf_9_16
  | 17, _, _ => kf_R kf_9_17
  | 18, _, _ => kf_R kf_9_18
  | 19, _, _ => kf_R kf_9_19
  | 20, _, _ => kf_R kf_9_20
  | 21, _, _ => kf_R kf_9_21
  | j + 22, _, h => absurd h (by omega)
theorem kf_10_11 : Jvm.Cond.not (Jvm.Cond.eq (.string "AskingFragments" 371) (.string "AskingFragments" 373)) ∈ flatC narrow_1 := by
  unfold narrow_1
  exact kf_L (kf_R (kf_R (kf_R (kf_R (kf_L (kf_L (kf_R (kf_L kf_z))))))))
theorem kf_10_12 : Jvm.Cond.not (Jvm.Cond.eq (.string "AskingFragments" 371) (.string "AskingFragments" 375)) ∈ flatC narrow_1 := by
  unfold narrow_1
  exact kf_R (kf_L (kf_L (kf_L (kf_L (kf_L (kf_R (kf_L (kf_R kf_z))))))))
theorem kf_10_13 : Jvm.Cond.not (Jvm.Cond.eq (.string "AskingFragments" 371) (.string "AskingFragments" 377)) ∈ flatC narrow_1 := by
  unfold narrow_1
  exact kf_R (kf_L (kf_L (kf_L (kf_R (kf_R (kf_R (kf_L (kf_L kf_z))))))))
theorem kf_10_14 : Jvm.Cond.not (Jvm.Cond.eq (.string "AskingFragments" 371) (.string "AskingFragments" 379)) ∈ flatC narrow_1 := by
  unfold narrow_1
  exact kf_R (kf_L (kf_L (kf_R (kf_R (kf_L (kf_R (kf_L (kf_L kf_z))))))))
theorem kf_10_15 : Jvm.Cond.not (Jvm.Cond.eq (.string "AskingFragments" 371) (.string "AskingFragments" 381)) ∈ flatC narrow_1 := by
  unfold narrow_1
  exact kf_R (kf_L (kf_R (kf_L (kf_L (kf_R (kf_R (kf_L (kf_R kf_z))))))))
theorem kf_10_16 : Jvm.Cond.not (Jvm.Cond.eq (.string "AskingFragments" 371) (.string "AskingFragments" 383)) ∈ flatC narrow_1 := by
  unfold narrow_1
  exact kf_R (kf_L (kf_R (kf_R (kf_L (kf_L (kf_R (kf_L (kf_R kf_z))))))))
theorem kf_10_17 : Jvm.Cond.not (Jvm.Cond.eq (.string "AskingFragments" 371) (.string "AskingFragments" 385)) ∈ flatC narrow_1 := by
  unfold narrow_1
  exact kf_R (kf_R (kf_L (kf_L (kf_L (kf_L (kf_L (kf_L kf_z)))))))
theorem kf_10_18 : Jvm.Cond.not (Jvm.Cond.eq (.string "AskingFragments" 371) (.string "AskingFragments" 387)) ∈ flatC narrow_1 := by
  unfold narrow_1
  exact kf_R (kf_R (kf_L (kf_L (kf_R (kf_R (kf_R (kf_L (kf_R kf_z))))))))
theorem kf_10_19 : Jvm.Cond.not (Jvm.Cond.eq (.string "AskingFragments" 371) (.string "AskingFragments" 389)) ∈ flatC narrow_1 := by
  unfold narrow_1
  exact kf_R (kf_R (kf_L (kf_R (kf_R (kf_R (kf_L (kf_R (kf_R kf_z))))))))
theorem kf_10_20 : Jvm.Cond.not (Jvm.Cond.eq (.string "AskingFragments" 371) (.string "AskingFragments" 391)) ∈ flatC narrow_1 := by
  unfold narrow_1
  exact kf_R (kf_R (kf_R (kf_L (kf_R (kf_R (kf_L (kf_R (kf_L kf_z))))))))
theorem kf_10_21 : Jvm.Cond.not (Jvm.Cond.eq (.string "AskingFragments" 371) (.string "AskingFragments" 393)) ∈ flatC narrow_1 := by
  unfold narrow_1
  exact kf_R (kf_R (kf_R (kf_R (kf_R (kf_L (kf_R (kf_L (kf_R kf_z))))))))
theorem kf_10 : ∀ j, 10 < j → j < 22 → (Jvm.Cond.not (Jvm.Cond.eq (la_tm 10) (la_tm j))) ∈ flatC (Jvm.Cond.and given_1 narrow_1) := fun j h hj => match j, h, hj with
  | 0, h, _ => absurd h (by decide)
  | 1, h, _ => absurd h (by decide)
  | 2, h, _ => absurd h (by decide)
  | 3, h, _ => absurd h (by decide)
  | 4, h, _ => absurd h (by decide)
  | 5, h, _ => absurd h (by decide)
  | 6, h, _ => absurd h (by decide)
  | 7, h, _ => absurd h (by decide)
  | 8, h, _ => absurd h (by decide)
  | 9, h, _ => absurd h (by decide)
  | 10, h, _ => absurd h (by decide)
  | 11, _, _ => kf_R kf_10_11
  | 12, _, _ => kf_R kf_10_12
  | 13, _, _ => kf_R kf_10_13
  | 14, _, _ => kf_R kf_10_14
  | 15, _, _ => kf_R kf_10_15
  | 16, _, _ => kf_R kf_10_16
  | 17, _, _ => kf_R kf_10_17
  | 18, _, _ => kf_R kf_10_18
  | 19, _, _ => kf_R kf_10_19
  | 20, _, _ => kf_R kf_10_20
  | 21, _, _ => kf_R kf_10_21
  | j + 22, _, h => absurd h (by omega)
theorem kf_11_12 : Jvm.Cond.not (Jvm.Cond.eq (.string "AskingFragments" 373) (.string "AskingFragments" 375)) ∈ flatC narrow_1 := by
  unfold narrow_1
  exact kf_R (kf_L (kf_L (kf_L (kf_L (kf_L (kf_R (kf_R (kf_L kf_z))))))))
theorem kf_11_13 : Jvm.Cond.not (Jvm.Cond.eq (.string "AskingFragments" 373) (.string "AskingFragments" 377)) ∈ flatC narrow_1 := by
  unfold narrow_1
  exact kf_R (kf_L (kf_L (kf_L (kf_R (kf_R (kf_R (kf_L (kf_R kf_z))))))))
theorem kf_11_14 : Jvm.Cond.not (Jvm.Cond.eq (.string "AskingFragments" 373) (.string "AskingFragments" 379)) ∈ flatC narrow_1 := by
  unfold narrow_1
  exact kf_R (kf_L (kf_L (kf_R (kf_R (kf_L (kf_R (kf_L (kf_R kf_z))))))))
theorem kf_11_15 : Jvm.Cond.not (Jvm.Cond.eq (.string "AskingFragments" 373) (.string "AskingFragments" 381)) ∈ flatC narrow_1 := by
  unfold narrow_1
  exact kf_R (kf_L (kf_R (kf_L (kf_L (kf_R (kf_R (kf_R (kf_L kf_z))))))))
theorem kf_11_16 : Jvm.Cond.not (Jvm.Cond.eq (.string "AskingFragments" 373) (.string "AskingFragments" 383)) ∈ flatC narrow_1 := by
  unfold narrow_1
  exact kf_R (kf_L (kf_R (kf_R (kf_L (kf_L (kf_R (kf_R (kf_L kf_z))))))))
theorem kf_11_17 : Jvm.Cond.not (Jvm.Cond.eq (.string "AskingFragments" 373) (.string "AskingFragments" 385)) ∈ flatC narrow_1 := by
  unfold narrow_1
  exact kf_R (kf_R (kf_L (kf_L (kf_L (kf_L (kf_L (kf_R (kf_L kf_z))))))))
theorem kf_11_18 : Jvm.Cond.not (Jvm.Cond.eq (.string "AskingFragments" 373) (.string "AskingFragments" 387)) ∈ flatC narrow_1 := by
  unfold narrow_1
  exact kf_R (kf_R (kf_L (kf_L (kf_R (kf_R (kf_R (kf_R (kf_L kf_z))))))))
theorem kf_11_19 : Jvm.Cond.not (Jvm.Cond.eq (.string "AskingFragments" 373) (.string "AskingFragments" 389)) ∈ flatC narrow_1 := by
  unfold narrow_1
  exact kf_R (kf_R (kf_L (kf_R (kf_R (kf_R (kf_R (kf_L (kf_L kf_z))))))))
theorem kf_11_20 : Jvm.Cond.not (Jvm.Cond.eq (.string "AskingFragments" 373) (.string "AskingFragments" 391)) ∈ flatC narrow_1 := by
  unfold narrow_1
  exact kf_R (kf_R (kf_R (kf_L (kf_R (kf_R (kf_L (kf_R (kf_R kf_z))))))))
theorem kf_11_21 : Jvm.Cond.not (Jvm.Cond.eq (.string "AskingFragments" 373) (.string "AskingFragments" 393)) ∈ flatC narrow_1 := by
  unfold narrow_1
  exact kf_R (kf_R (kf_R (kf_R (kf_R (kf_L (kf_R (kf_R (kf_L kf_z))))))))
theorem kf_11 : ∀ j, 11 < j → j < 22 → (Jvm.Cond.not (Jvm.Cond.eq (la_tm 11) (la_tm j))) ∈ flatC (Jvm.Cond.and given_1 narrow_1) := fun j h hj => match j, h, hj with
  | 0, h, _ => absurd h (by decide)
  | 1, h, _ => absurd h (by decide)
  | 2, h, _ => absurd h (by decide)
  | 3, h, _ => absurd h (by decide)
  | 4, h, _ => absurd h (by decide)
  | 5, h, _ => absurd h (by decide)
  | 6, h, _ => absurd h (by decide)
  | 7, h, _ => absurd h (by decide)
  | 8, h, _ => absurd h (by decide)
  | 9, h, _ => absurd h (by decide)
  | 10, h, _ => absurd h (by decide)
  | 11, h, _ => absurd h (by decide)
  | 12, _, _ => kf_R kf_11_12
  | 13, _, _ => kf_R kf_11_13
  | 14, _, _ => kf_R kf_11_14
  | 15, _, _ => kf_R kf_11_15
  | 16, _, _ => kf_R kf_11_16
  | 17, _, _ => kf_R kf_11_17
  | 18, _, _ => kf_R kf_11_18
  | 19, _, _ => kf_R kf_11_19
  | 20, _, _ => kf_R kf_11_20
  | 21, _, _ => kf_R kf_11_21
  | j + 22, _, h => absurd h (by omega)
theorem kf_12_13 : Jvm.Cond.not (Jvm.Cond.eq (.string "AskingFragments" 375) (.string "AskingFragments" 377)) ∈ flatC narrow_1 := by
  unfold narrow_1
  exact kf_R (kf_L (kf_L (kf_L (kf_R (kf_R (kf_R (kf_R (kf_L kf_z))))))))
theorem kf_12_14 : Jvm.Cond.not (Jvm.Cond.eq (.string "AskingFragments" 375) (.string "AskingFragments" 379)) ∈ flatC narrow_1 := by
  unfold narrow_1
  exact kf_R (kf_L (kf_L (kf_R (kf_R (kf_L (kf_R (kf_R (kf_L kf_z))))))))
theorem kf_12_15 : Jvm.Cond.not (Jvm.Cond.eq (.string "AskingFragments" 375) (.string "AskingFragments" 381)) ∈ flatC narrow_1 := by
  unfold narrow_1
  exact kf_R (kf_L (kf_R (kf_L (kf_L (kf_R (kf_R (kf_R (kf_R kf_z))))))))
theorem kf_12_16 : Jvm.Cond.not (Jvm.Cond.eq (.string "AskingFragments" 375) (.string "AskingFragments" 383)) ∈ flatC narrow_1 := by
  unfold narrow_1
  exact kf_R (kf_L (kf_R (kf_R (kf_L (kf_L (kf_R (kf_R (kf_R kf_z))))))))
theorem kf_12_17 : Jvm.Cond.not (Jvm.Cond.eq (.string "AskingFragments" 375) (.string "AskingFragments" 385)) ∈ flatC narrow_1 := by
  unfold narrow_1
  exact kf_R (kf_R (kf_L (kf_L (kf_L (kf_L (kf_L (kf_R (kf_R kf_z))))))))
theorem kf_12_18 : Jvm.Cond.not (Jvm.Cond.eq (.string "AskingFragments" 375) (.string "AskingFragments" 387)) ∈ flatC narrow_1 := by
  unfold narrow_1
  exact kf_R (kf_R (kf_L (kf_L (kf_R (kf_R (kf_R (kf_R (kf_R kf_z))))))))
theorem kf_12_19 : Jvm.Cond.not (Jvm.Cond.eq (.string "AskingFragments" 375) (.string "AskingFragments" 389)) ∈ flatC narrow_1 := by
  unfold narrow_1
  exact kf_R (kf_R (kf_L (kf_R (kf_R (kf_R (kf_R (kf_L (kf_R kf_z))))))))
theorem kf_12_20 : Jvm.Cond.not (Jvm.Cond.eq (.string "AskingFragments" 375) (.string "AskingFragments" 391)) ∈ flatC narrow_1 := by
  unfold narrow_1
  exact kf_R (kf_R (kf_R (kf_L (kf_R (kf_R (kf_R (kf_L (kf_L kf_z))))))))
theorem kf_12_21 : Jvm.Cond.not (Jvm.Cond.eq (.string "AskingFragments" 375) (.string "AskingFragments" 393)) ∈ flatC narrow_1 := by
  unfold narrow_1
  exact kf_R (kf_R (kf_R (kf_R (kf_R (kf_L (kf_R (kf_R (kf_R kf_z))))))))
theorem kf_12 : ∀ j, 12 < j → j < 22 → (Jvm.Cond.not (Jvm.Cond.eq (la_tm 12) (la_tm j))) ∈ flatC (Jvm.Cond.and given_1 narrow_1) := fun j h hj => match j, h, hj with
  | 0, h, _ => absurd h (by decide)
  | 1, h, _ => absurd h (by decide)
  | 2, h, _ => absurd h (by decide)
  | 3, h, _ => absurd h (by decide)
  | 4, h, _ => absurd h (by decide)
  | 5, h, _ => absurd h (by decide)
  | 6, h, _ => absurd h (by decide)
  | 7, h, _ => absurd h (by decide)
  | 8, h, _ => absurd h (by decide)
  | 9, h, _ => absurd h (by decide)
  | 10, h, _ => absurd h (by decide)
  | 11, h, _ => absurd h (by decide)
  | 12, h, _ => absurd h (by decide)
  | 13, _, _ => kf_R kf_12_13
  | 14, _, _ => kf_R kf_12_14
  | 15, _, _ => kf_R kf_12_15
  | 16, _, _ => kf_R kf_12_16
  | 17, _, _ => kf_R kf_12_17
  | 18, _, _ => kf_R kf_12_18
  | 19, _, _ => kf_R kf_12_19
  | 20, _, _ => kf_R kf_12_20
  | 21, _, _ => kf_R kf_12_21
  | j + 22, _, h => absurd h (by omega)
theorem kf_13_14 : Jvm.Cond.not (Jvm.Cond.eq (.string "AskingFragments" 377) (.string "AskingFragments" 379)) ∈ flatC narrow_1 := by
  unfold narrow_1
  exact kf_R (kf_L (kf_L (kf_R (kf_R (kf_L (kf_R (kf_R (kf_R kf_z))))))))
theorem kf_13_15 : Jvm.Cond.not (Jvm.Cond.eq (.string "AskingFragments" 377) (.string "AskingFragments" 381)) ∈ flatC narrow_1 := by
  unfold narrow_1
  exact kf_R (kf_L (kf_R (kf_L (kf_R (kf_L (kf_L (kf_L kf_z)))))))
theorem kf_13_16 : Jvm.Cond.not (Jvm.Cond.eq (.string "AskingFragments" 377) (.string "AskingFragments" 383)) ∈ flatC narrow_1 := by
  unfold narrow_1
  exact kf_R (kf_L (kf_R (kf_R (kf_L (kf_R (kf_L (kf_L kf_z)))))))
theorem kf_13_17 : Jvm.Cond.not (Jvm.Cond.eq (.string "AskingFragments" 377) (.string "AskingFragments" 385)) ∈ flatC narrow_1 := by
  unfold narrow_1
  exact kf_R (kf_R (kf_L (kf_L (kf_L (kf_L (kf_R (kf_L (kf_L kf_z))))))))
theorem kf_13_18 : Jvm.Cond.not (Jvm.Cond.eq (.string "AskingFragments" 377) (.string "AskingFragments" 387)) ∈ flatC narrow_1 := by
  unfold narrow_1
  exact kf_R (kf_R (kf_L (kf_R (kf_L (kf_L (kf_L (kf_L kf_z)))))))
theorem kf_13_19 : Jvm.Cond.not (Jvm.Cond.eq (.string "AskingFragments" 377) (.string "AskingFragments" 389)) ∈ flatC narrow_1 := by
  unfold narrow_1
  exact kf_R (kf_R (kf_L (kf_R (kf_R (kf_R (kf_R (kf_R (kf_L kf_z))))))))
theorem kf_13_20 : Jvm.Cond.not (Jvm.Cond.eq (.string "AskingFragments" 377) (.string "AskingFragments" 391)) ∈ flatC narrow_1 := by
  unfold narrow_1
  exact kf_R (kf_R (kf_R (kf_L (kf_R (kf_R (kf_R (kf_L (kf_R kf_z))))))))
theorem kf_13_21 : Jvm.Cond.not (Jvm.Cond.eq (.string "AskingFragments" 377) (.string "AskingFragments" 393)) ∈ flatC narrow_1 := by
  unfold narrow_1
  exact kf_R (kf_R (kf_R (kf_R (kf_R (kf_R (kf_L (kf_L (kf_L kf_z))))))))
theorem kf_13 : ∀ j, 13 < j → j < 22 → (Jvm.Cond.not (Jvm.Cond.eq (la_tm 13) (la_tm j))) ∈ flatC (Jvm.Cond.and given_1 narrow_1) := fun j h hj => match j, h, hj with
  | 0, h, _ => absurd h (by decide)
  | 1, h, _ => absurd h (by decide)
  | 2, h, _ => absurd h (by decide)
  | 3, h, _ => absurd h (by decide)
  | 4, h, _ => absurd h (by decide)
  | 5, h, _ => absurd h (by decide)
  | 6, h, _ => absurd h (by decide)
  | 7, h, _ => absurd h (by decide)
  | 8, h, _ => absurd h (by decide)
  | 9, h, _ => absurd h (by decide)
  | 10, h, _ => absurd h (by decide)
  | 11, h, _ => absurd h (by decide)
  | 12, h, _ => absurd h (by decide)
  | 13, h, _ => absurd h (by decide)
  | 14, _, _ => kf_R kf_13_14
  | 15, _, _ => kf_R kf_13_15
  | 16, _, _ => kf_R kf_13_16
  | 17, _, _ => kf_R kf_13_17
  | 18, _, _ => kf_R kf_13_18
  | 19, _, _ => kf_R kf_13_19
  | 20, _, _ => kf_R kf_13_20
  | 21, _, _ => kf_R kf_13_21
  | j + 22, _, h => absurd h (by omega)
theorem kf_14_15 : Jvm.Cond.not (Jvm.Cond.eq (.string "AskingFragments" 379) (.string "AskingFragments" 381)) ∈ flatC narrow_1 := by
  unfold narrow_1
  exact kf_R (kf_L (kf_R (kf_L (kf_R (kf_L (kf_L (kf_R (kf_L kf_z))))))))
theorem kf_14_16 : Jvm.Cond.not (Jvm.Cond.eq (.string "AskingFragments" 379) (.string "AskingFragments" 383)) ∈ flatC narrow_1 := by
  unfold narrow_1
  exact kf_R (kf_L (kf_R (kf_R (kf_L (kf_R (kf_L (kf_R (kf_L kf_z))))))))
theorem kf_14_17 : Jvm.Cond.not (Jvm.Cond.eq (.string "AskingFragments" 379) (.string "AskingFragments" 385)) ∈ flatC narrow_1 := by
  unfold narrow_1
  exact kf_R (kf_R (kf_L (kf_L (kf_L (kf_L (kf_R (kf_L (kf_R kf_z))))))))
theorem kf_14_18 : Jvm.Cond.not (Jvm.Cond.eq (.string "AskingFragments" 379) (.string "AskingFragments" 387)) ∈ flatC narrow_1 := by
  unfold narrow_1
  exact kf_R (kf_R (kf_L (kf_R (kf_L (kf_L (kf_L (kf_R (kf_L kf_z))))))))
theorem kf_14_19 : Jvm.Cond.not (Jvm.Cond.eq (.string "AskingFragments" 379) (.string "AskingFragments" 389)) ∈ flatC narrow_1 := by
  unfold narrow_1
  exact kf_R (kf_R (kf_L (kf_R (kf_R (kf_R (kf_R (kf_R (kf_R kf_z))))))))
theorem kf_14_20 : Jvm.Cond.not (Jvm.Cond.eq (.string "AskingFragments" 379) (.string "AskingFragments" 391)) ∈ flatC narrow_1 := by
  unfold narrow_1
  exact kf_R (kf_R (kf_R (kf_L (kf_R (kf_R (kf_R (kf_R (kf_L kf_z))))))))
theorem kf_14_21 : Jvm.Cond.not (Jvm.Cond.eq (.string "AskingFragments" 379) (.string "AskingFragments" 393)) ∈ flatC narrow_1 := by
  unfold narrow_1
  exact kf_R (kf_R (kf_R (kf_R (kf_R (kf_R (kf_L (kf_L (kf_R kf_z))))))))
theorem kf_14 : ∀ j, 14 < j → j < 22 → (Jvm.Cond.not (Jvm.Cond.eq (la_tm 14) (la_tm j))) ∈ flatC (Jvm.Cond.and given_1 narrow_1) := fun j h hj => match j, h, hj with
  | 0, h, _ => absurd h (by decide)
  | 1, h, _ => absurd h (by decide)
  | 2, h, _ => absurd h (by decide)
  | 3, h, _ => absurd h (by decide)
  | 4, h, _ => absurd h (by decide)
  | 5, h, _ => absurd h (by decide)
  | 6, h, _ => absurd h (by decide)
  | 7, h, _ => absurd h (by decide)
  | 8, h, _ => absurd h (by decide)
  | 9, h, _ => absurd h (by decide)
  | 10, h, _ => absurd h (by decide)
  | 11, h, _ => absurd h (by decide)
  | 12, h, _ => absurd h (by decide)
  | 13, h, _ => absurd h (by decide)
  | 14, h, _ => absurd h (by decide)
  | 15, _, _ => kf_R kf_14_15
  | 16, _, _ => kf_R kf_14_16
  | 17, _, _ => kf_R kf_14_17
  | 18, _, _ => kf_R kf_14_18
  | 19, _, _ => kf_R kf_14_19
  | 20, _, _ => kf_R kf_14_20
  | 21, _, _ => kf_R kf_14_21
  | j + 22, _, h => absurd h (by omega)
theorem kf_15_16 : Jvm.Cond.not (Jvm.Cond.eq (.string "AskingFragments" 381) (.string "AskingFragments" 383)) ∈ flatC narrow_1 := by
  unfold narrow_1
  exact kf_R (kf_L (kf_R (kf_R (kf_L (kf_R (kf_L (kf_R (kf_R kf_z))))))))
theorem kf_15_17 : Jvm.Cond.not (Jvm.Cond.eq (.string "AskingFragments" 381) (.string "AskingFragments" 385)) ∈ flatC narrow_1 := by
  unfold narrow_1
  exact kf_R (kf_R (kf_L (kf_L (kf_L (kf_L (kf_R (kf_R (kf_L kf_z))))))))
theorem kf_15_18 : Jvm.Cond.not (Jvm.Cond.eq (.string "AskingFragments" 381) (.string "AskingFragments" 387)) ∈ flatC narrow_1 := by
  unfold narrow_1
  exact kf_R (kf_R (kf_L (kf_R (kf_L (kf_L (kf_L (kf_R (kf_R kf_z))))))))
theorem kf_15_19 : Jvm.Cond.not (Jvm.Cond.eq (.string "AskingFragments" 381) (.string "AskingFragments" 389)) ∈ flatC narrow_1 := by
  unfold narrow_1
  exact kf_R (kf_R (kf_R (kf_L (kf_L (kf_L (kf_L (kf_L kf_z)))))))
theorem kf_15_20 : Jvm.Cond.not (Jvm.Cond.eq (.string "AskingFragments" 381) (.string "AskingFragments" 391)) ∈ flatC narrow_1 := by
  unfold narrow_1
  exact kf_R (kf_R (kf_R (kf_L (kf_R (kf_R (kf_R (kf_R (kf_R kf_z))))))))
theorem kf_15_21 : Jvm.Cond.not (Jvm.Cond.eq (.string "AskingFragments" 381) (.string "AskingFragments" 393)) ∈ flatC narrow_1 := by
  unfold narrow_1
  exact kf_R (kf_R (kf_R (kf_R (kf_R (kf_R (kf_L (kf_R (kf_L kf_z))))))))
theorem kf_15 : ∀ j, 15 < j → j < 22 → (Jvm.Cond.not (Jvm.Cond.eq (la_tm 15) (la_tm j))) ∈ flatC (Jvm.Cond.and given_1 narrow_1) := fun j h hj => match j, h, hj with
  | 0, h, _ => absurd h (by decide)
  | 1, h, _ => absurd h (by decide)
  | 2, h, _ => absurd h (by decide)
  | 3, h, _ => absurd h (by decide)
  | 4, h, _ => absurd h (by decide)
  | 5, h, _ => absurd h (by decide)
  | 6, h, _ => absurd h (by decide)
  | 7, h, _ => absurd h (by decide)
  | 8, h, _ => absurd h (by decide)
  | 9, h, _ => absurd h (by decide)
  | 10, h, _ => absurd h (by decide)
  | 11, h, _ => absurd h (by decide)
  | 12, h, _ => absurd h (by decide)
  | 13, h, _ => absurd h (by decide)
  | 14, h, _ => absurd h (by decide)
  | 15, h, _ => absurd h (by decide)
  | 16, _, _ => kf_R kf_15_16
  | 17, _, _ => kf_R kf_15_17
  | 18, _, _ => kf_R kf_15_18
  | 19, _, _ => kf_R kf_15_19
  | 20, _, _ => kf_R kf_15_20
  | 21, _, _ => kf_R kf_15_21
  | j + 22, _, h => absurd h (by omega)
theorem kf_16_17 : Jvm.Cond.not (Jvm.Cond.eq (.string "AskingFragments" 383) (.string "AskingFragments" 385)) ∈ flatC narrow_1 := by
  unfold narrow_1
  exact kf_R (kf_R (kf_L (kf_L (kf_L (kf_L (kf_R (kf_R (kf_R kf_z))))))))
theorem kf_16_18 : Jvm.Cond.not (Jvm.Cond.eq (.string "AskingFragments" 383) (.string "AskingFragments" 387)) ∈ flatC narrow_1 := by
  unfold narrow_1
  exact kf_R (kf_R (kf_L (kf_R (kf_L (kf_L (kf_R (kf_L (kf_L kf_z))))))))
theorem kf_16_19 : Jvm.Cond.not (Jvm.Cond.eq (.string "AskingFragments" 383) (.string "AskingFragments" 389)) ∈ flatC narrow_1 := by
  unfold narrow_1
  exact kf_R (kf_R (kf_R (kf_L (kf_L (kf_L (kf_L (kf_R (kf_L kf_z))))))))
theorem kf_16_20 : Jvm.Cond.not (Jvm.Cond.eq (.string "AskingFragments" 383) (.string "AskingFragments" 391)) ∈ flatC narrow_1 := by
  unfold narrow_1
  exact kf_R (kf_R (kf_R (kf_R (kf_L (kf_L (kf_L (kf_L kf_z)))))))
theorem kf_16_21 : Jvm.Cond.not (Jvm.Cond.eq (.string "AskingFragments" 383) (.string "AskingFragments" 393)) ∈ flatC narrow_1 := by
  unfold narrow_1
  exact kf_R (kf_R (kf_R (kf_R (kf_R (kf_R (kf_L (kf_R (kf_R kf_z))))))))
theorem kf_16 : ∀ j, 16 < j → j < 22 → (Jvm.Cond.not (Jvm.Cond.eq (la_tm 16) (la_tm j))) ∈ flatC (Jvm.Cond.and given_1 narrow_1) := fun j h hj => match j, h, hj with
  | 0, h, _ => absurd h (by decide)
  | 1, h, _ => absurd h (by decide)
  | 2, h, _ => absurd h (by decide)
  | 3, h, _ => absurd h (by decide)
  | 4, h, _ => absurd h (by decide)
  | 5, h, _ => absurd h (by decide)
  | 6, h, _ => absurd h (by decide)
  | 7, h, _ => absurd h (by decide)
  | 8, h, _ => absurd h (by decide)
  | 9, h, _ => absurd h (by decide)
  | 10, h, _ => absurd h (by decide)
  | 11, h, _ => absurd h (by decide)
  | 12, h, _ => absurd h (by decide)
  | 13, h, _ => absurd h (by decide)
  | 14, h, _ => absurd h (by decide)
  | 15, h, _ => absurd h (by decide)
  | 16, h, _ => absurd h (by decide)
  | 17, _, _ => kf_R kf_16_17
  | 18, _, _ => kf_R kf_16_18
  | 19, _, _ => kf_R kf_16_19
  | 20, _, _ => kf_R kf_16_20
  | 21, _, _ => kf_R kf_16_21
  | j + 22, _, h => absurd h (by omega)
theorem kf_17_18 : Jvm.Cond.not (Jvm.Cond.eq (.string "AskingFragments" 385) (.string "AskingFragments" 387)) ∈ flatC narrow_1 := by
  unfold narrow_1
  exact kf_R (kf_R (kf_L (kf_R (kf_L (kf_L (kf_R (kf_L (kf_R kf_z))))))))
theorem kf_17_19 : Jvm.Cond.not (Jvm.Cond.eq (.string "AskingFragments" 385) (.string "AskingFragments" 389)) ∈ flatC narrow_1 := by
  unfold narrow_1
  exact kf_R (kf_R (kf_R (kf_L (kf_L (kf_L (kf_L (kf_R (kf_R kf_z))))))))
theorem kf_17_20 : Jvm.Cond.not (Jvm.Cond.eq (.string "AskingFragments" 385) (.string "AskingFragments" 391)) ∈ flatC narrow_1 := by
  unfold narrow_1
  exact kf_R (kf_R (kf_R (kf_R (kf_L (kf_L (kf_L (kf_R (kf_L kf_z))))))))
theorem kf_17_21 : Jvm.Cond.not (Jvm.Cond.eq (.string "AskingFragments" 385) (.string "AskingFragments" 393)) ∈ flatC narrow_1 := by
  unfold narrow_1
  exact kf_R (kf_R (kf_R (kf_R (kf_R (kf_R (kf_R (kf_L (kf_L kf_z))))))))
theorem kf_17 : ∀ j, 17 < j → j < 22 → (Jvm.Cond.not (Jvm.Cond.eq (la_tm 17) (la_tm j))) ∈ flatC (Jvm.Cond.and given_1 narrow_1) := fun j h hj => match j, h, hj with
  | 0, h, _ => absurd h (by decide)
  | 1, h, _ => absurd h (by decide)
  | 2, h, _ => absurd h (by decide)
  | 3, h, _ => absurd h (by decide)
  | 4, h, _ => absurd h (by decide)
  | 5, h, _ => absurd h (by decide)
  | 6, h, _ => absurd h (by decide)
  | 7, h, _ => absurd h (by decide)
  | 8, h, _ => absurd h (by decide)
  | 9, h, _ => absurd h (by decide)
  | 10, h, _ => absurd h (by decide)
  | 11, h, _ => absurd h (by decide)
  | 12, h, _ => absurd h (by decide)
  | 13, h, _ => absurd h (by decide)
  | 14, h, _ => absurd h (by decide)
  | 15, h, _ => absurd h (by decide)
  | 16, h, _ => absurd h (by decide)
  | 17, h, _ => absurd h (by decide)
  | 18, _, _ => kf_R kf_17_18
  | 19, _, _ => kf_R kf_17_19
  | 20, _, _ => kf_R kf_17_20
  | 21, _, _ => kf_R kf_17_21
  | j + 22, _, h => absurd h (by omega)
theorem kf_18_19 : Jvm.Cond.not (Jvm.Cond.eq (.string "AskingFragments" 387) (.string "AskingFragments" 389)) ∈ flatC narrow_1 := by
  unfold narrow_1
  exact kf_R (kf_R (kf_R (kf_L (kf_L (kf_L (kf_R (kf_L (kf_L kf_z))))))))
theorem kf_18_20 : Jvm.Cond.not (Jvm.Cond.eq (.string "AskingFragments" 387) (.string "AskingFragments" 391)) ∈ flatC narrow_1 := by
  unfold narrow_1
  exact kf_R (kf_R (kf_R (kf_R (kf_L (kf_L (kf_L (kf_R (kf_R kf_z))))))))
theorem kf_18_21 : Jvm.Cond.not (Jvm.Cond.eq (.string "AskingFragments" 387) (.string "AskingFragments" 393)) ∈ flatC narrow_1 := by
  unfold narrow_1
  exact kf_R (kf_R (kf_R (kf_R (kf_R (kf_R (kf_R (kf_L (kf_R kf_z))))))))
theorem kf_18 : ∀ j, 18 < j → j < 22 → (Jvm.Cond.not (Jvm.Cond.eq (la_tm 18) (la_tm j))) ∈ flatC (Jvm.Cond.and given_1 narrow_1) := fun j h hj => match j, h, hj with
  | 0, h, _ => absurd h (by decide)
  | 1, h, _ => absurd h (by decide)
  | 2, h, _ => absurd h (by decide)
  | 3, h, _ => absurd h (by decide)
  | 4, h, _ => absurd h (by decide)
  | 5, h, _ => absurd h (by decide)
  | 6, h, _ => absurd h (by decide)
  | 7, h, _ => absurd h (by decide)
  | 8, h, _ => absurd h (by decide)
  | 9, h, _ => absurd h (by decide)
  | 10, h, _ => absurd h (by decide)
  | 11, h, _ => absurd h (by decide)
  | 12, h, _ => absurd h (by decide)
  | 13, h, _ => absurd h (by decide)
  | 14, h, _ => absurd h (by decide)
  | 15, h, _ => absurd h (by decide)
  | 16, h, _ => absurd h (by decide)
  | 17, h, _ => absurd h (by decide)
  | 18, h, _ => absurd h (by decide)
  | 19, _, _ => kf_R kf_18_19
  | 20, _, _ => kf_R kf_18_20
  | 21, _, _ => kf_R kf_18_21
  | j + 22, _, h => absurd h (by omega)
theorem kf_19_20 : Jvm.Cond.not (Jvm.Cond.eq (.string "AskingFragments" 389) (.string "AskingFragments" 391)) ∈ flatC narrow_1 := by
  unfold narrow_1
  exact kf_R (kf_R (kf_R (kf_R (kf_L (kf_L (kf_R (kf_L (kf_L kf_z))))))))
theorem kf_19_21 : Jvm.Cond.not (Jvm.Cond.eq (.string "AskingFragments" 389) (.string "AskingFragments" 393)) ∈ flatC narrow_1 := by
  unfold narrow_1
  exact kf_R (kf_R (kf_R (kf_R (kf_R (kf_R (kf_R (kf_R (kf_L kf_z))))))))
theorem kf_19 : ∀ j, 19 < j → j < 22 → (Jvm.Cond.not (Jvm.Cond.eq (la_tm 19) (la_tm j))) ∈ flatC (Jvm.Cond.and given_1 narrow_1) := fun j h hj => match j, h, hj with
  | 0, h, _ => absurd h (by decide)
  | 1, h, _ => absurd h (by decide)
  | 2, h, _ => absurd h (by decide)
  | 3, h, _ => absurd h (by decide)
  | 4, h, _ => absurd h (by decide)
  | 5, h, _ => absurd h (by decide)
  | 6, h, _ => absurd h (by decide)
  | 7, h, _ => absurd h (by decide)
  | 8, h, _ => absurd h (by decide)
  | 9, h, _ => absurd h (by decide)
  | 10, h, _ => absurd h (by decide)
  | 11, h, _ => absurd h (by decide)
  | 12, h, _ => absurd h (by decide)
  | 13, h, _ => absurd h (by decide)
  | 14, h, _ => absurd h (by decide)
  | 15, h, _ => absurd h (by decide)
  | 16, h, _ => absurd h (by decide)
  | 17, h, _ => absurd h (by decide)
  | 18, h, _ => absurd h (by decide)
  | 19, h, _ => absurd h (by decide)
  | 20, _, _ => kf_R kf_19_20
  | 21, _, _ => kf_R kf_19_21
  | j + 22, _, h => absurd h (by omega)
theorem kf_20_21 : Jvm.Cond.not (Jvm.Cond.eq (.string "AskingFragments" 391) (.string "AskingFragments" 393)) ∈ flatC narrow_1 := by
  unfold narrow_1
  exact kf_R (kf_R (kf_R (kf_R (kf_R (kf_R (kf_R (kf_R (kf_R kf_z))))))))
theorem kf_20 : ∀ j, 20 < j → j < 22 → (Jvm.Cond.not (Jvm.Cond.eq (la_tm 20) (la_tm j))) ∈ flatC (Jvm.Cond.and given_1 narrow_1) := fun j h hj => match j, h, hj with
  | 0, h, _ => absurd h (by decide)
  | 1, h, _ => absurd h (by decide)
  | 2, h, _ => absurd h (by decide)
  | 3, h, _ => absurd h (by decide)
  | 4, h, _ => absurd h (by decide)
  | 5, h, _ => absurd h (by decide)
  | 6, h, _ => absurd h (by decide)
  | 7, h, _ => absurd h (by decide)
  | 8, h, _ => absurd h (by decide)
  | 9, h, _ => absurd h (by decide)
  | 10, h, _ => absurd h (by decide)
  | 11, h, _ => absurd h (by decide)
  | 12, h, _ => absurd h (by decide)
  | 13, h, _ => absurd h (by decide)
  | 14, h, _ => absurd h (by decide)
  | 15, h, _ => absurd h (by decide)
  | 16, h, _ => absurd h (by decide)
  | 17, h, _ => absurd h (by decide)
  | 18, h, _ => absurd h (by decide)
  | 19, h, _ => absurd h (by decide)
  | 20, h, _ => absurd h (by decide)
  | 21, _, _ => kf_R kf_20_21
  | j + 22, _, h => absurd h (by omega)
theorem kf_all : ∀ i, i < 22 → ∀ j, j < 22 → i < j → (Jvm.Cond.not (Jvm.Cond.eq (la_tm i) (la_tm j))) ∈ flatC (Jvm.Cond.and given_1 narrow_1) := fun i hi j hj h => match i, hi, h with
  | 0, _, h => kf_0 j h hj
  | 1, _, h => kf_1 j h hj
  | 2, _, h => kf_2 j h hj
  | 3, _, h => kf_3 j h hj
  | 4, _, h => kf_4 j h hj
  | 5, _, h => kf_5 j h hj
  | 6, _, h => kf_6 j h hj
  | 7, _, h => kf_7 j h hj
  | 8, _, h => kf_8 j h hj
  | 9, _, h => kf_9 j h hj
  | 10, _, h => kf_10 j h hj
  | 11, _, h => kf_11 j h hj
  | 12, _, h => kf_12 j h hj
  | 13, _, h => kf_13 j h hj
  | 14, _, h => kf_14 j h hj
  | 15, _, h => kf_15 j h hj
  | 16, _, h => kf_16 j h hj
  | 17, _, h => kf_17 j h hj
  | 18, _, h => kf_18 j h hj
  | 19, _, h => kf_19 j h hj
  | 20, _, h => kf_20 j h hj
  | 21, _, h => absurd h (by omega)
  | i + 22, h, _ => absurd h (by omega)
theorem la_refs {s : State} {b : Nat} (hts : ∀ w ∈ lw_tbl, w.before #[Value.ref b] s = true) : ∀ (j ix : Nat) (tx : String), ax_SL[j]? = some (ix, tx) → (Jvm.Cond.stringRef "AskingFragments" ix tx).before #[Value.ref b] s = true := fun j ix tx h => match j, h with
  | 0, h => by
    cases h
    exact hts _ (ax_wl_at (k := 2) (j := 162) rfl)
  | 1, h => by
    cases h
    exact hts _ (ax_wl_at (k := 2) (j := 163) rfl)
  | 2, h => by
    cases h
    exact hts _ (ax_wl_at (k := 2) (j := 164) rfl)
  | 3, h => by
    cases h
    exact hts _ (ax_wl_at (k := 2) (j := 165) rfl)
  | 4, h => by
    cases h
    exact hts _ (ax_wl_at (k := 2) (j := 166) rfl)
  | 5, h => by
    cases h
    exact hts _ (ax_wl_at (k := 2) (j := 167) rfl)
  | 6, h => by
    cases h
    exact hts _ (ax_wl_at (k := 2) (j := 168) rfl)
  | 7, h => by
    cases h
    exact hts _ (ax_wl_at (k := 2) (j := 169) rfl)
  | 8, h => by
    cases h
    exact hts _ (ax_wl_at (k := 2) (j := 170) rfl)
  | 9, h => by
    cases h
    exact hts _ (ax_wl_at (k := 2) (j := 171) rfl)
  | 10, h => by
    cases h
    exact hts _ (ax_wl_at (k := 2) (j := 172) rfl)
  | 11, h => by
    cases h
    exact hts _ (ax_wl_at (k := 2) (j := 173) rfl)
  | 12, h => by
    cases h
    exact hts _ (ax_wl_at (k := 2) (j := 174) rfl)
  | 13, h => by
    cases h
    exact hts _ (ax_wl_at (k := 2) (j := 175) rfl)
  | 14, h => by
    cases h
    exact hts _ (ax_wl_at (k := 2) (j := 176) rfl)
  | 15, h => by
    cases h
    exact hts _ (ax_wl_at (k := 2) (j := 177) rfl)
  | 16, h => by
    cases h
    exact hts _ (ax_wl_at (k := 2) (j := 178) rfl)
  | 17, h => by
    cases h
    exact hts _ (ax_wl_at (k := 2) (j := 179) rfl)
  | 18, h => by
    cases h
    exact hts _ (ax_wl_at (k := 2) (j := 180) rfl)
  | 19, h => by
    cases h
    exact hts _ (ax_wl_at (k := 2) (j := 181) rfl)
  | 20, h => by
    cases h
    exact hts _ (ax_wl_at (k := 2) (j := 182) rfl)
  | 21, h => by
    cases h
    exact hts _ (ax_wl_at (k := 2) (j := 183) rfl)
  | j + 22, h => by
    exact absurd h (by simp [ax_SL])
theorem la_tm_at {j ix : Nat} {tx : String} (h : ax_SL[j]? = some (ix, tx)) : j < 22 ∧ la_tm j = Jvm.Term.string "AskingFragments" ix := by
  refine ⟨?_, ?_⟩
  · have := (List.getElem?_eq_some_iff.mp h).1
    exact this
  · unfold la_tm
    rw [List.getD_eq_getElem?_getD, h]
    rfl
theorem la_AX {s : State} {b : Nat} (hts : ∀ w ∈ lw_tbl, w.before #[Value.ref b] s = true) (hgv : (Jvm.Cond.and given_1 narrow_1).before #[Value.ref b] s = true) : ∃ (adT adV : Nat → Nat) (vF : Value), ∀ (ad : Nat → Nat) (oa : Nat), (∀ j, ad (1000 + j) = adT (1000 + j)) → ax_X ad adV (la_A s oa) vF s := by
  have hA : ∀ a : Nat, a < s.heap.size → ¬ (fun q : Nat => s.heap.size ≤ q) a := fun a h => Nat.not_le.mpr h
  obtain ⟨adK, adV, hS, hK⟩ := la_txt (A := fun q : Nat => s.heap.size ≤ q) hgv hA kf_all
  have hF : ∃ vF : Value, va_Z "jdk/internal/util/Preconditions" "SIOOBE_FORMATTER" "Ljava/util/function/BiFunction;" vF (fun q : Nat => s.heap.size ≤ q) s s.heap ∧ (vF = .null ∨ ∃ t, vF = .ref t) := by
    rcases la_sio hts hgv hA with h | ⟨t, h⟩
    · exact ⟨.null, h, Or.inl rfl⟩
    · exact ⟨.ref t, h, Or.inr ⟨t, rfl⟩⟩
  obtain ⟨vF, hF1, hF2⟩ := hF
  refine ⟨fun o => adK (o - 1000), adV, vF, fun ad oa had => ?_⟩
  have had2 : ∀ j, ad (1000 + j) = adK j := fun j => by
    rw [had j]
    show adK (1000 + j - 1000) = adK j
    rw [Nat.add_sub_cancel_left]
  have e : (fun i => ad (1000 + i)) = adK := funext had2
  refine ⟨la_nl hts, fun j ix tx hj => ?_, ?_, (la_cmp hts hgv hA).narrow (fun q h => h.1), hF1.narrow (fun q h => h.1), hF2⟩
  · obtain ⟨h22, htm⟩ := la_tm_at hj
    have h2 := hK j h22
    rw [htm] at h2
    rw [had2]
    exact vk_R.of (la_refs hts j ix tx hj) h2
  · rw [e]
    exact hS.narrow (fun q h => h.1)
