/-! the program at hand: all checks -/
theorem ax_wl_in : ∀ (k : Nat) (w : Jvm.Cond), w ∈ ax_wl k → w ∈ lw_tbl := by
  intro k w h
  have key : w ∈ k2_sels lw_privs ∨ w ∈ tables_1 := by
    match k, h with
    | 0, h => exact Or.inl h
    | 1, h => exact Or.inr (show w ∈ tables_1_1 ++ (tables_1_2 ++ (tables_1_3 ++ (tables_1_4 ++ (tables_1_5 ++ (tables_1_6 ++ (tables_1_7 ++ (tables_1_8))))))) from List.mem_append_left _ h)
    | 2, h => exact Or.inr (show w ∈ tables_1_1 ++ (tables_1_2 ++ (tables_1_3 ++ (tables_1_4 ++ (tables_1_5 ++ (tables_1_6 ++ (tables_1_7 ++ (tables_1_8))))))) from List.mem_append_right _ (List.mem_append_left _ h))
    | 3, h => exact Or.inr (show w ∈ tables_1_1 ++ (tables_1_2 ++ (tables_1_3 ++ (tables_1_4 ++ (tables_1_5 ++ (tables_1_6 ++ (tables_1_7 ++ (tables_1_8))))))) from List.mem_append_right _ (List.mem_append_right _ (List.mem_append_left _ h)))
    | 4, h => exact Or.inr (show w ∈ tables_1_1 ++ (tables_1_2 ++ (tables_1_3 ++ (tables_1_4 ++ (tables_1_5 ++ (tables_1_6 ++ (tables_1_7 ++ (tables_1_8))))))) from List.mem_append_right _ (List.mem_append_right _ (List.mem_append_right _ (List.mem_append_left _ h))))
    | 5, h => exact Or.inr (show w ∈ tables_1_1 ++ (tables_1_2 ++ (tables_1_3 ++ (tables_1_4 ++ (tables_1_5 ++ (tables_1_6 ++ (tables_1_7 ++ (tables_1_8))))))) from List.mem_append_right _ (List.mem_append_right _ (List.mem_append_right _ (List.mem_append_right _ (List.mem_append_left _ h)))))
    | 6, h => exact Or.inr (show w ∈ tables_1_1 ++ (tables_1_2 ++ (tables_1_3 ++ (tables_1_4 ++ (tables_1_5 ++ (tables_1_6 ++ (tables_1_7 ++ (tables_1_8))))))) from List.mem_append_right _ (List.mem_append_right _ (List.mem_append_right _ (List.mem_append_right _ (List.mem_append_right _ (List.mem_append_left _ h))))))
    | 7, h => exact Or.inr (show w ∈ tables_1_1 ++ (tables_1_2 ++ (tables_1_3 ++ (tables_1_4 ++ (tables_1_5 ++ (tables_1_6 ++ (tables_1_7 ++ (tables_1_8))))))) from List.mem_append_right _ (List.mem_append_right _ (List.mem_append_right _ (List.mem_append_right _ (List.mem_append_right _ (List.mem_append_right _ (List.mem_append_left _ h)))))))
    | 8, h => exact Or.inr (show w ∈ tables_1_1 ++ (tables_1_2 ++ (tables_1_3 ++ (tables_1_4 ++ (tables_1_5 ++ (tables_1_6 ++ (tables_1_7 ++ (tables_1_8))))))) from List.mem_append_right _ (List.mem_append_right _ (List.mem_append_right _ (List.mem_append_right _ (List.mem_append_right _ (List.mem_append_right _ (List.mem_append_right _ (h))))))))
    | k + 9, h => cases h
  rcases key with h | h
  · exact List.mem_append_left _ h
  · exact List.mem_append_right _ h
theorem ax_wd_in : ∀ k j w, ax_wd k j = some w → (w.onTables && w.keeps) = true → w ∈ ax_Ts := by
  intro k j w h hg
  exact List.mem_filter.mpr ⟨ax_wl_in k w (List.mem_of_getElem? h), hg⟩
theorem ax_hint {ws : List Jvm.Cond} {hs : List (Nat × Nat)} (h1 : ws.map some = hs.map (fun q => ax_wd q.1 q.2)) (h2 : ws.all (fun w => w.onTables && w.keeps) = true) : ∀ w ∈ ws, w ∈ ax_Ts := by
  intro w hw
  obtain ⟨i, hi⟩ := List.getElem?_of_mem hw
  have h3 : (ws.map some)[i]? = some (some w) := by rw [List.getElem?_map, hi]; rfl
  rw [h1, List.getElem?_map] at h3
  cases hq : hs[i]? with
  | none => rw [hq] at h3; cases h3
  | some q =>
    rw [hq] at h3
    exact ax_wd_in q.1 q.2 w (Option.some.inj h3) (List.all_eq_true.mp h2 w hw)
set_option maxRecDepth 20000 in
theorem aU_F : ∀ w ∈ u_ws "AskingFragments" aT_F 17, w ∈ ax_Ts := ax_hint (hs := [(2, 71), (2, 73), (2, 75), (2, 77), (2, 79), (2, 81), (2, 83), (2, 85), (2, 87), (2, 89), (2, 91), (2, 93), (2, 95), (2, 97), (2, 99), (2, 101), (2, 103)]) (by decide +kernel) (by decide +kernel)
theorem aY_F : ∀ k, k < 17 → (parseFieldDescriptor (aT_F k).2.2.1).isSome = true := by decide +kernel
theorem aN_F : ∀ a, a < 17 → ∀ b, b < 17 → a ≠ b → (aT_F a).2.1 ≠ (aT_F b).2.1 := by decide +kernel
set_option maxRecDepth 20000 in
theorem aU_Forest : ∀ w ∈ u_ws "AskingFragments$Forest" aT_Forest 6, w ∈ ax_Ts := ax_hint (hs := [(2, 27), (2, 29), (2, 31), (2, 33), (2, 35), (2, 37)]) (by decide +kernel) (by decide +kernel)
theorem aY_Forest : ∀ k, k < 6 → (parseFieldDescriptor (aT_Forest k).2.2.1).isSome = true := by decide +kernel
theorem aN_Forest : ∀ a, a < 6 → ∀ b, b < 6 → a ≠ b → (aT_Forest a).2.1 ≠ (aT_Forest b).2.1 := by decide +kernel
set_option maxRecDepth 20000 in
theorem aU_Image : ∀ w ∈ u_ws "AskingFragments$Image" aT_Image 4, w ∈ ax_Ts := ax_hint (hs := [(2, 3), (2, 5), (2, 7), (2, 9)]) (by decide +kernel) (by decide +kernel)
theorem aY_Image : ∀ k, k < 4 → (parseFieldDescriptor (aT_Image k).2.2.1).isSome = true := by decide +kernel
theorem aN_Image : ∀ a, a < 4 → ∀ b, b < 4 → a ≠ b → (aT_Image a).2.1 ≠ (aT_Image b).2.1 := by decide +kernel
set_option maxRecDepth 20000 in
theorem aU_Net : ∀ w ∈ u_ws "AskingFragments$Net" aT_Net 6, w ∈ ax_Ts := ax_hint (hs := [(1, 94), (1, 96), (1, 98), (1, 100), (1, 102), (1, 104)]) (by decide +kernel) (by decide +kernel)
theorem aY_Net : ∀ k, k < 6 → (parseFieldDescriptor (aT_Net k).2.2.1).isSome = true := by decide +kernel
theorem aN_Net : ∀ a, a < 6 → ∀ b, b < 6 → a ≠ b → (aT_Net a).2.1 ≠ (aT_Net b).2.1 := by decide +kernel
set_option maxRecDepth 20000 in
theorem aU_Reader : ∀ w ∈ u_ws "AskingFragments$Reader" aT_Reader 10, w ∈ ax_Ts := ax_hint (hs := [(1, 47), (1, 49), (1, 51), (1, 53), (1, 55), (1, 57), (1, 59), (1, 61), (1, 63), (1, 65)]) (by decide +kernel) (by decide +kernel)
theorem aY_Reader : ∀ k, k < 10 → (parseFieldDescriptor (aT_Reader k).2.2.1).isSome = true := by decide +kernel
theorem aN_Reader : ∀ a, a < 10 → ∀ b, b < 10 → a ≠ b → (aT_Reader a).2.1 ≠ (aT_Reader b).2.1 := by decide +kernel
set_option maxRecDepth 20000 in
theorem aU_Rule : ∀ w ∈ u_ws "AskingFragments$Rule" aT_Rule 9, w ∈ ax_Ts := ax_hint (hs := [(1, 125), (1, 127), (1, 129), (1, 131), (1, 133), (1, 135), (1, 137), (1, 139), (1, 141)]) (by decide +kernel) (by decide +kernel)
theorem aY_Rule : ∀ k, k < 9 → (parseFieldDescriptor (aT_Rule k).2.2.1).isSome = true := by decide +kernel
theorem aN_Rule : ∀ a, a < 9 → ∀ b, b < 9 → a ≠ b → (aT_Rule a).2.1 ≠ (aT_Rule b).2.1 := by decide +kernel
set_option maxRecDepth 20000 in
theorem aU_Run : ∀ w ∈ u_ws "AskingFragments$Run" aT_Run 18, w ∈ ax_Ts := ax_hint (hs := [(1, 185), (1, 187), (1, 189), (1, 191), (1, 193), (1, 195), (1, 197), (1, 199), (1, 201), (1, 203), (1, 205), (1, 207), (1, 209), (1, 211), (1, 213), (1, 215), (1, 217), (1, 219)]) (by decide +kernel) (by decide +kernel)
theorem aY_Run : ∀ k, k < 18 → (parseFieldDescriptor (aT_Run k).2.2.1).isSome = true := by decide +kernel
theorem aN_Run : ∀ a, a < 18 → ∀ b, b < 18 → a ≠ b → (aT_Run a).2.1 ≠ (aT_Run b).2.1 := by decide +kernel
set_option maxRecDepth 20000 in
theorem aU_Spell : ∀ w ∈ u_ws "AskingFragments$Spelling" aT_Spell 2, w ∈ ax_Ts := ax_hint (hs := [(2, 49), (2, 51)]) (by decide +kernel) (by decide +kernel)
theorem aY_Spell : ∀ k, k < 2 → (parseFieldDescriptor (aT_Spell k).2.2.1).isSome = true := by decide +kernel
theorem aN_Spell : ∀ a, a < 2 → ∀ b, b < 2 → a ≠ b → (aT_Spell a).2.1 ≠ (aT_Spell b).2.1 := by decide +kernel
set_option maxRecDepth 20000 in
theorem aU_M : ∀ w ∈ u_ws "AskingFragmentsModel" aT_M 35, w ∈ ax_Ts := ax_hint (hs := [(6, 12), (6, 14), (6, 16), (6, 18), (6, 20), (6, 22), (6, 24), (6, 26), (6, 28), (6, 30), (6, 32), (6, 34), (6, 36), (6, 38), (6, 40), (6, 42), (6, 44), (6, 46), (6, 48), (6, 50), (6, 52), (6, 54), (6, 56), (6, 58), (6, 60), (6, 62), (6, 64), (6, 66), (6, 68), (6, 70), (6, 72), (6, 74), (6, 76), (6, 78), (6, 80)]) (by decide +kernel) (by decide +kernel)
theorem aY_M : ∀ k, k < 35 → (parseFieldDescriptor (aT_M k).2.2.1).isSome = true := by decide +kernel
theorem aN_M : ∀ a, a < 35 → ∀ b, b < 35 → a ≠ b → (aT_M a).2.1 ≠ (aT_M b).2.1 := by decide +kernel
set_option maxRecDepth 20000 in
theorem aM_0 : ∀ w ∈ ((ax_mtl.drop 0).take 32).flatMap (fun d => [Jvm.Cond.code d.1 d.2.1 d.2.2.1 d.2.2.2.1, Jvm.Cond.initialized d.1.cls]), w ∈ ax_Ts := ax_hint (hs := [(5, 198), (1, 9), (6, 199), (1, 9), (6, 155), (1, 9), (5, 207), (1, 9), (5, 202), (1, 9), (5, 211), (1, 9), (6, 96), (1, 9), (6, 110), (1, 9), (6, 106), (1, 9), (6, 103), (1, 9), (6, 100), (1, 9), (6, 122), (1, 9), (6, 119), (1, 9), (6, 138), (1, 9), (6, 116), (1, 9), (6, 134), (1, 9), (6, 130), (1, 9), (6, 152), (1, 9), (6, 159), (1, 9), (6, 92), (1, 9), (6, 163), (1, 9), (6, 167), (1, 9), (6, 141), (1, 9), (6, 126), (1, 9), (6, 148), (1, 9), (6, 145), (1, 9), (6, 88), (1, 9), (6, 183), (1, 9), (6, 179), (1, 9), (6, 175), (1, 9), (6, 171), (1, 9), (6, 187), (1, 9)]) (by decide +kernel) (by decide +kernel)
set_option maxRecDepth 20000 in
theorem aM_1 : ∀ w ∈ ((ax_mtl.drop 32).take 32).flatMap (fun d => [Jvm.Cond.code d.1 d.2.1 d.2.2.1 d.2.2.2.1, Jvm.Cond.initialized d.1.cls]), w ∈ ax_Ts := ax_hint (hs := [(6, 195), (1, 9), (6, 227), (1, 9), (7, 43), (1, 9), (7, 51), (1, 9), (6, 215), (1, 9), (6, 211), (1, 9), (7, 55), (1, 9), (7, 47), (1, 9), (7, 59), (1, 9), (7, 39), (1, 9), (6, 219), (1, 9), (7, 35), (1, 9), (6, 207), (1, 9), (7, 63), (1, 9), (7, 71), (1, 9), (7, 11), (1, 9), (7, 135), (1, 9), (7, 31), (1, 9), (7, 95), (1, 9), (7, 99), (1, 9), (7, 119), (1, 9), (7, 79), (1, 9), (7, 83), (1, 9), (7, 87), (1, 9), (7, 91), (1, 9), (7, 107), (1, 9), (7, 103), (1, 9), (7, 111), (1, 9), (7, 115), (1, 9), (6, 203), (1, 9), (7, 123), (1, 9), (7, 75), (1, 9)]) (by decide +kernel) (by decide +kernel)
set_option maxRecDepth 20000 in
theorem aM_2 : ∀ w ∈ ((ax_mtl.drop 64).take 32).flatMap (fun d => [Jvm.Cond.code d.1 d.2.1 d.2.2.1 d.2.2.2.1, Jvm.Cond.initialized d.1.cls]), w ∈ ax_Ts := ax_hint (hs := [(7, 131), (1, 9), (7, 139), (1, 9), (7, 163), (1, 9), (7, 171), (1, 9), (7, 175), (1, 9), (7, 167), (1, 9), (7, 159), (1, 9), (7, 155), (1, 9), (6, 191), (1, 9), (6, 223), (1, 9), (6, 239), (1, 9), (7, 7), (1, 9), (7, 3), (1, 9), (7, 15), (1, 9), (7, 27), (1, 9), (7, 147), (1, 9), (7, 23), (1, 9), (7, 143), (1, 9), (7, 19), (1, 9), (7, 67), (1, 9), (7, 127), (1, 9), (7, 151), (1, 9), (7, 179), (1, 9), (7, 187), (1, 9), (7, 183), (1, 9), (7, 191), (1, 9), (7, 195), (1, 9), (7, 199), (1, 9), (7, 214), (1, 9), (7, 218), (1, 9), (6, 235), (1, 9), (7, 207), (1, 9)]) (by decide +kernel) (by decide +kernel)
set_option maxRecDepth 20000 in
theorem aM_3 : ∀ w ∈ ((ax_mtl.drop 96).take 32).flatMap (fun d => [Jvm.Cond.code d.1 d.2.1 d.2.2.1 d.2.2.2.1, Jvm.Cond.initialized d.1.cls]), w ∈ ax_Ts := ax_hint (hs := [(7, 210), (1, 9), (7, 203), (1, 9), (7, 237), (1, 9), (7, 222), (1, 9), (6, 231), (1, 9), (7, 230), (1, 9), (7, 234), (1, 9), (7, 226), (1, 9), (8, 1), (1, 9), (8, 5), (1, 9), (8, 9), (1, 9), (8, 13), (1, 9), (8, 17), (1, 9), (8, 33), (1, 9), (8, 21), (1, 9), (8, 29), (1, 9), (8, 25), (1, 9), (8, 37), (1, 9), (8, 53), (1, 9), (8, 49), (1, 9), (8, 45), (1, 9), (8, 41), (1, 9), (8, 62), (1, 9), (8, 58), (1, 9), (8, 74), (1, 9), (8, 70), (1, 9), (8, 70), (1, 9), (8, 70), (1, 9), (8, 70), (1, 9), (8, 70), (1, 9), (8, 70), (1, 9), (8, 70), (1, 9)]) (by decide +kernel) (by decide +kernel)
set_option maxRecDepth 20000 in
theorem aM_4 : ∀ w ∈ ((ax_mtl.drop 128).take 32).flatMap (fun d => [Jvm.Cond.code d.1 d.2.1 d.2.2.1 d.2.2.2.1, Jvm.Cond.initialized d.1.cls]), w ∈ ax_Ts := ax_hint (hs := [(8, 70), (1, 9), (8, 78), (1, 9), (8, 66), (1, 9), (8, 82), (1, 9), (8, 86), (1, 9), (8, 90), (1, 9), (8, 94), (1, 9), (2, 109), (1, 1), (2, 117), (1, 1), (2, 121), (1, 1), (3, 95), (1, 1), (3, 138), (1, 1), (5, 90), (1, 1), (5, 158), (1, 1), (5, 169), (1, 1), (3, 142), (1, 1), (3, 151), (1, 1), (3, 177), (1, 1), (3, 225), (1, 1), (4, 59), (1, 1), (4, 68), (1, 1), (4, 103), (1, 1), (4, 107), (1, 1), (4, 121), (1, 1), (4, 126), (1, 1), (4, 130), (1, 1), (4, 173), (1, 1), (4, 177), (1, 1), (5, 176), (1, 1), (4, 181), (1, 1), (4, 196), (1, 1), (4, 204), (1, 1)]) (by decide +kernel) (by decide +kernel)
set_option maxRecDepth 20000 in
theorem aM_5 : ∀ w ∈ ((ax_mtl.drop 160).take 32).flatMap (fun d => [Jvm.Cond.code d.1 d.2.1 d.2.2.1 d.2.2.2.1, Jvm.Cond.initialized d.1.cls]), w ∈ ax_Ts := ax_hint (hs := [(4, 213), (1, 1), (4, 219), (1, 1), (4, 223), (1, 1), (4, 227), (1, 1), (4, 235), (1, 1), (4, 239), (1, 1), (5, 22), (1, 1), (5, 26), (1, 1), (5, 62), (1, 1), (5, 70), (1, 1), (5, 78), (1, 1), (5, 82), (1, 1), (2, 113), (1, 1), (3, 155), (1, 1), (4, 111), (1, 1), (3, 146), (1, 1), (5, 30), (1, 1), (3, 189), (1, 1), (5, 74), (1, 1), (3, 185), (1, 1), (3, 221), (1, 1), (4, 72), (1, 1), (4, 231), (1, 1), (5, 3), (1, 1), (5, 6), (1, 1), (5, 14), (1, 1), (3, 173), (1, 1), (3, 14), (1, 1), (3, 25), (1, 1), (3, 66), (1, 1), (3, 86), (1, 1), (2, 161), (1, 1)]) (by decide +kernel) (by decide +kernel)
set_option maxRecDepth 20000 in
theorem aM_6 : ∀ w ∈ ((ax_mtl.drop 192).take 32).flatMap (fun d => [Jvm.Cond.code d.1 d.2.1 d.2.2.1 d.2.2.2.1, Jvm.Cond.initialized d.1.cls]), w ∈ ax_Ts := ax_hint (hs := [(4, 142), (1, 7), (4, 151), (1, 7), (4, 159), (1, 7), (4, 189), (1, 7), (4, 185), (1, 7), (4, 200), (1, 7), (5, 162), (1, 7), (4, 208), (1, 7), (4, 146), (1, 7), (4, 138), (1, 7), (5, 181), (1, 7), (5, 185), (1, 7), (5, 189), (1, 7), (5, 194), (1, 7), (2, 125), (1, 3), (3, 63), (1, 3), (4, 155), (1, 3), (4, 163), (1, 3), (3, 45), (1, 3), (3, 50), (1, 3), (3, 210), (1, 3), (3, 18), (1, 3), (3, 22), (1, 3), (3, 58), (1, 3), (3, 41), (1, 3), (2, 129), (1, 2), (3, 99), (1, 2), (2, 133), (1, 2), (2, 235), (1, 2), (3, 3), (1, 2), (3, 33), (1, 2), (3, 107), (1, 2)]) (by decide +kernel) (by decide +kernel)
set_option maxRecDepth 20000 in
theorem aM_7 : ∀ w ∈ ((ax_mtl.drop 224).take 32).flatMap (fun d => [Jvm.Cond.code d.1 d.2.1 d.2.2.1 d.2.2.2.1, Jvm.Cond.initialized d.1.cls]), w ∈ ax_Ts := ax_hint (hs := [(3, 120), (1, 2), (3, 124), (1, 2), (3, 29), (1, 2), (3, 37), (1, 2), (3, 54), (1, 2), (2, 239), (1, 2), (3, 7), (1, 2), (3, 111), (1, 2), (3, 103), (1, 2), (3, 11), (1, 2), (2, 141), (1, 2), (2, 137), (1, 2), (2, 148), (1, 2), (2, 158), (1, 2), (2, 151), (1, 2), (2, 154), (1, 2), (3, 74), (1, 4), (3, 133), (1, 4), (3, 115), (1, 4), (3, 128), (1, 4), (4, 76), (1, 4), (4, 98), (1, 4), (4, 81), (1, 4), (4, 90), (1, 4), (4, 94), (1, 4), (3, 193), (1, 5), (3, 78), (1, 5), (3, 83), (1, 5), (3, 181), (1, 5), (3, 90), (1, 5), (3, 168), (1, 5), (4, 10), (1, 5)]) (by decide +kernel) (by decide +kernel)
set_option maxRecDepth 20000 in
theorem aM_8 : ∀ w ∈ ((ax_mtl.drop 256).take 32).flatMap (fun d => [Jvm.Cond.code d.1 d.2.1 d.2.2.1 d.2.2.2.1, Jvm.Cond.initialized d.1.cls]), w ∈ ax_Ts := ax_hint (hs := [(4, 85), (1, 5), (3, 237), (1, 5), (3, 206), (1, 5), (4, 115), (1, 5), (4, 169), (1, 5), (4, 134), (1, 5), (5, 11), (1, 5), (5, 18), (1, 5), (3, 159), (1, 5), (3, 164), (1, 5), (4, 63), (1, 5), (3, 197), (1, 5), (3, 202), (1, 5), (3, 214), (1, 5), (3, 233), (1, 5), (3, 229), (1, 5), (4, 6), (1, 5), (4, 55), (1, 5), (4, 2), (1, 5), (4, 15), (1, 5), (4, 19), (1, 5), (4, 23), (1, 5), (4, 27), (1, 5), (4, 35), (1, 5), (4, 31), (1, 5), (4, 39), (1, 5), (4, 43), (1, 5), (4, 47), (1, 5), (4, 51), (1, 5), (5, 66), (1, 8), (5, 34), (1, 8), (5, 46), (1, 8)]) (by decide +kernel) (by decide +kernel)
set_option maxRecDepth 20000 in
theorem aM_9 : ∀ w ∈ ((ax_mtl.drop 288).take 32).flatMap (fun d => [Jvm.Cond.code d.1 d.2.1 d.2.2.1 d.2.2.2.1, Jvm.Cond.initialized d.1.cls]), w ∈ ax_Ts := ax_hint (hs := [(5, 40), (1, 8), (5, 52), (1, 8), (5, 58), (1, 8)]) (by decide +kernel) (by decide +kernel)
theorem aMs : ∀ d ∈ ax_mtl, d.2.2.1 ≤ 40 ∧ plainName d.1.cls = true ∧ d.1.cls ≠ "java/lang/invoke/MethodHandle" ∧ d.1.cls ≠ "java/lang/invoke/VarHandle" := by decide +kernel
theorem aI_math : ∀ w ∈ [Jvm.Cond.initialized "java/lang/Math", Jvm.Cond.initialized "java/lang/System"], w ∈ ax_Ts := ax_hint (hs := [(1, 10), (1, 15)]) (by decide +kernel) (by decide +kernel)
theorem ax_chunk {α : Type} {l : List α} {k n : Nat} {x : α} (h : l[k]? = some x) (hn : 0 < n) : x ∈ (l.drop (k / n * n)).take n := by
  have h1 : ((l.drop (k / n * n)).take n)[k % n]? = some x := by
    rw [List.getElem?_take_of_lt (Nat.mod_lt _ hn), List.getElem?_drop]
    rw [Nat.div_add_mod' k n]
    exact h
  exact List.mem_of_getElem? h1
theorem ax_mt_ok : ∀ z, z < ax_NM → Jvm.Cond.code (ax_MT z).1 (ax_MT z).2.1 (ax_MT z).2.2.1 (ax_MT z).2.2.2.1 ∈ ax_Ts ∧ Jvm.Cond.initialized (ax_MT z).1.cls ∈ ax_Ts ∧ (ax_MT z).2.2.1 ≤ 40 ∧ plainName (ax_MT z).1.cls = true ∧ (ax_MT z).1.cls ≠ "java/lang/invoke/MethodHandle" ∧ (ax_MT z).1.cls ≠ "java/lang/invoke/VarHandle" := by
  intro z hz
  have hlen : ax_mtl.length = ax_NM := by decide +kernel
  have h1 : ax_mtl[z]? = some (ax_MT z) := by
    unfold ax_MT
    rw [List.getD_eq_getElem?_getD]
    rw [List.getElem?_eq_getElem (by omega)]
    rfl
  have h2 := ax_chunk (n := 32) h1 (by decide)
  have h3 : ∀ w ∈ [Jvm.Cond.code (ax_MT z).1 (ax_MT z).2.1 (ax_MT z).2.2.1 (ax_MT z).2.2.2.1, Jvm.Cond.initialized (ax_MT z).1.cls], w ∈ ax_Ts := by
    intro w hw
    have hk : z / 32 < 10 := by have : ax_NM = 291 := rfl; omega
    have h4 : w ∈ ((ax_mtl.drop (z / 32 * 32)).take 32).flatMap (fun d => [Jvm.Cond.code d.1 d.2.1 d.2.2.1 d.2.2.2.1, Jvm.Cond.initialized d.1.cls]) := List.mem_flatMap.mpr ⟨_, h2, hw⟩
    generalize z / 32 = k at hk h4
    match k, hk, h4 with
    | 0, _, h4 => exact aM_0 w h4
    | 1, _, h4 => exact aM_1 w h4
    | 2, _, h4 => exact aM_2 w h4
    | 3, _, h4 => exact aM_3 w h4
    | 4, _, h4 => exact aM_4 w h4
    | 5, _, h4 => exact aM_5 w h4
    | 6, _, h4 => exact aM_6 w h4
    | 7, _, h4 => exact aM_7 w h4
    | 8, _, h4 => exact aM_8 w h4
    | 9, _, h4 => exact aM_9 w h4
  exact ⟨h3 _ List.mem_cons_self, h3 _ (List.mem_cons_of_mem _ List.mem_cons_self), aMs _ (List.mem_of_getElem? h1)⟩
theorem ax_cl_ok : ∀ (ci : Nat) (r : vw_C), ax_cl[ci]? = some r → (∀ w ∈ u_ws r.1 r.2.1 r.2.2, w ∈ ax_Ts) ∧ (∃ ty : Nat → FieldType, ∀ k, k < r.2.2 → parseFieldDescriptor (r.2.1 k).2.2.1 = some (ty k)) ∧ ∀ a, a < r.2.2 → ∀ b, b < r.2.2 → a ≠ b → (r.2.1 a).2.1 ≠ (r.2.1 b).2.1 := by
  intro ci r h
  have hty : ∀ (T : u_T) (N : Nat), (∀ k, k < N → (parseFieldDescriptor (T k).2.2.1).isSome = true) → ∃ ty : Nat → FieldType, ∀ k, k < N → parseFieldDescriptor (T k).2.2.1 = some (ty k) := by
    intro T N hT
    refine ⟨fun k => (parseFieldDescriptor (T k).2.2.1).getD .int, fun k hk => ?_⟩
    obtain ⟨x, hx⟩ := Option.isSome_iff_exists.mp (hT k hk)
    rw [hx]
    rfl
  match ci, h with
  | 0, h => cases h; exact ⟨aU_F, hty _ _ aY_F, aN_F⟩
  | 1, h => cases h; exact ⟨aU_Forest, hty _ _ aY_Forest, aN_Forest⟩
  | 2, h => cases h; exact ⟨aU_Image, hty _ _ aY_Image, aN_Image⟩
  | 3, h => cases h; exact ⟨aU_Net, hty _ _ aY_Net, aN_Net⟩
  | 4, h => cases h; exact ⟨aU_Reader, hty _ _ aY_Reader, aN_Reader⟩
  | 5, h => cases h; exact ⟨aU_Rule, hty _ _ aY_Rule, aN_Rule⟩
  | 6, h => cases h; exact ⟨aU_Run, hty _ _ aY_Run, aN_Run⟩
  | 7, h => cases h; exact ⟨aU_Spell, hty _ _ aY_Spell, aN_Spell⟩
  | 8, h => cases h; exact ⟨aU_M, hty _ _ aY_M, aN_M⟩
  | k + 9, h => simp [ax_cl] at h
def ax_shb (o : Nat) : Bool := !((ax_sh o).1 == 0) || (match ax_cl[(ax_sh o).2.1]? with
  | some r => decide ((ax_sh o).2.2.length = r.2.2) && ((ax_sh o).2.2.zipIdx).all (fun q => (!(q.1.1 == 0) || decide ((r.2.1 q.2).2.2.1 = "I")) && (!(q.1.1 == 1) || decide ((r.2.1 q.2).2.2.1 = "J")) && (!(q.1.1 == 3) || decide ((r.2.1 q.2).2.2.1 = "Z")))
  | none => true)
set_option maxRecDepth 20000 in
theorem ax_shb_ok : (List.range ax_NC).all ax_shb = true := by decide +kernel
theorem ax_sh_out {o : Nat} (h : ax_NC ≤ o) : ax_sh o = (9, 0, []) := by
  have hlen : ax_shl.length = ax_NC := by decide +kernel
  unfold ax_sh
  rw [List.getD_eq_getElem?_getD, List.getElem?_eq_none (by omega)]
  rfl
theorem ax_sh_in : ∀ o, (ax_sh o).1 ≤ 6 → o < ax_NC := by
  intro o h
  rcases Nat.lt_or_ge o ax_NC with q | q
  · exact q
  · rw [ax_sh_out q] at h
    exact absurd h (by decide)
theorem ax_sh_ok : ∀ o, (ax_sh o).1 = 0 → ∀ r : vw_C, ax_cl[(ax_sh o).2.1]? = some r → (ax_sh o).2.2.length = r.2.2 ∧ ∀ (k : Nat) (q : Nat × Nat), (ax_sh o).2.2[k]? = some q → (q.1 = 0 → (r.2.1 k).2.2.1 = "I") ∧ (q.1 = 1 → (r.2.1 k).2.2.1 = "J") ∧ (q.1 = 3 → (r.2.1 k).2.2.1 = "Z") := by
  intro o h0 r hr
  have h1 := List.all_eq_true.mp ax_shb_ok o (List.mem_range.mpr (ax_sh_in o (by omega)))
  unfold ax_shb at h1
  rw [h0, hr] at h1
  simp only [Bool.and_eq_true, decide_eq_true_eq, List.all_eq_true, Bool.or_eq_true, Bool.not_eq_true', beq_eq_false_iff_ne, ne_eq, beq_self_eq_true, Bool.not_true, Bool.false_eq_true, false_or] at h1
  refine ⟨h1.1, fun k q hq => ?_⟩
  have h2 := h1.2 (q, k) (List.mem_of_getElem? (i := k) (by rw [List.getElem?_zipIdx, hq]; simp))
  exact ⟨fun e => h2.1.1.resolve_left (fun n => n e), fun e => h2.1.2.resolve_left (fun n => n e), fun e => h2.2.resolve_left (fun n => n e)⟩
theorem ax_ok : ax_OK ax_cl ax_sh ax_NC ax_Ts ax_wd ax_NM ax_MT :=
  ⟨ax_wd_in, fun w hw => (List.mem_filter.mp hw).2, ax_sh_in, ax_cl_ok, ax_sh_ok, ax_mt_ok, aI_math _ List.mem_cons_self, aI_math _ (List.mem_cons_of_mem _ List.mem_cons_self), by decide +kernel⟩
set_option maxRecDepth 100000 in
theorem av_0 : ax_bl_0.all (fun b => ax_vb ax_cl ax_wd ax_NM ax_MT ax_BL b.1 b.2.1 b.2.2.2) = true := by decide +kernel
set_option maxRecDepth 100000 in
theorem av_1 : ax_bl_1.all (fun b => ax_vb ax_cl ax_wd ax_NM ax_MT ax_BL b.1 b.2.1 b.2.2.2) = true := by decide +kernel
set_option maxRecDepth 100000 in
theorem av_2 : ax_bl_2.all (fun b => ax_vb ax_cl ax_wd ax_NM ax_MT ax_BL b.1 b.2.1 b.2.2.2) = true := by decide +kernel
set_option maxRecDepth 100000 in
theorem av_3 : ax_bl_3.all (fun b => ax_vb ax_cl ax_wd ax_NM ax_MT ax_BL b.1 b.2.1 b.2.2.2) = true := by decide +kernel
set_option maxRecDepth 100000 in
theorem av_4 : ax_bl_4.all (fun b => ax_vb ax_cl ax_wd ax_NM ax_MT ax_BL b.1 b.2.1 b.2.2.2) = true := by decide +kernel
set_option maxRecDepth 100000 in
theorem av_5 : ax_bl_5.all (fun b => ax_vb ax_cl ax_wd ax_NM ax_MT ax_BL b.1 b.2.1 b.2.2.2) = true := by decide +kernel
set_option maxRecDepth 100000 in
theorem av_6 : ax_bl_6.all (fun b => ax_vb ax_cl ax_wd ax_NM ax_MT ax_BL b.1 b.2.1 b.2.2.2) = true := by decide +kernel
set_option maxRecDepth 100000 in
theorem av_7 : ax_bl_7.all (fun b => ax_vb ax_cl ax_wd ax_NM ax_MT ax_BL b.1 b.2.1 b.2.2.2) = true := by decide +kernel
set_option maxRecDepth 100000 in
theorem av_8 : ax_bl_8.all (fun b => ax_vb ax_cl ax_wd ax_NM ax_MT ax_BL b.1 b.2.1 b.2.2.2) = true := by decide +kernel
set_option maxRecDepth 100000 in
theorem av_9 : ax_bl_9.all (fun b => ax_vb ax_cl ax_wd ax_NM ax_MT ax_BL b.1 b.2.1 b.2.2.2) = true := by decide +kernel
set_option maxRecDepth 100000 in
theorem av_10 : ax_bl_10.all (fun b => ax_vb ax_cl ax_wd ax_NM ax_MT ax_BL b.1 b.2.1 b.2.2.2) = true := by decide +kernel
set_option maxRecDepth 100000 in
theorem av_11 : ax_bl_11.all (fun b => ax_vb ax_cl ax_wd ax_NM ax_MT ax_BL b.1 b.2.1 b.2.2.2) = true := by decide +kernel
set_option maxRecDepth 100000 in
theorem av_12 : ax_bl_12.all (fun b => ax_vb ax_cl ax_wd ax_NM ax_MT ax_BL b.1 b.2.1 b.2.2.2) = true := by decide +kernel
set_option maxRecDepth 100000 in
theorem av_13 : ax_bl_13.all (fun b => ax_vb ax_cl ax_wd ax_NM ax_MT ax_BL b.1 b.2.1 b.2.2.2) = true := by decide +kernel
set_option maxRecDepth 100000 in
theorem av_14 : ax_bl_14.all (fun b => ax_vb ax_cl ax_wd ax_NM ax_MT ax_BL b.1 b.2.1 b.2.2.2) = true := by decide +kernel
set_option maxRecDepth 100000 in
theorem av_15 : ax_bl_15.all (fun b => ax_vb ax_cl ax_wd ax_NM ax_MT ax_BL b.1 b.2.1 b.2.2.2) = true := by decide +kernel
set_option maxRecDepth 100000 in
theorem av_16 : ax_bl_16.all (fun b => ax_vb ax_cl ax_wd ax_NM ax_MT ax_BL b.1 b.2.1 b.2.2.2) = true := by decide +kernel
set_option maxRecDepth 100000 in
theorem av_17 : ax_bl_17.all (fun b => ax_vb ax_cl ax_wd ax_NM ax_MT ax_BL b.1 b.2.1 b.2.2.2) = true := by decide +kernel
set_option maxRecDepth 100000 in
theorem av_18 : ax_bl_18.all (fun b => ax_vb ax_cl ax_wd ax_NM ax_MT ax_BL b.1 b.2.1 b.2.2.2) = true := by decide +kernel
set_option maxRecDepth 100000 in
theorem av_19 : ax_bl_19.all (fun b => ax_vb ax_cl ax_wd ax_NM ax_MT ax_BL b.1 b.2.1 b.2.2.2) = true := by decide +kernel
set_option maxRecDepth 100000 in
theorem av_20 : ax_bl_20.all (fun b => ax_vb ax_cl ax_wd ax_NM ax_MT ax_BL b.1 b.2.1 b.2.2.2) = true := by decide +kernel
theorem ax_bl_ok : ∀ lb, (ax_BL lb).1 < ax_NM → ax_vb ax_cl ax_wd ax_NM ax_MT ax_BL (ax_BL lb).1 (ax_BL lb).2.1 (ax_BL lb).2.2.2 = true := by
  intro lb h
  have hall : ∀ c ∈ ax_bl, ∀ b ∈ c, ax_vb ax_cl ax_wd ax_NM ax_MT ax_BL b.1 b.2.1 b.2.2.2 = true := by
    intro c hc
    simp only [ax_bl, List.mem_cons, List.not_mem_nil, or_false] at hc
    rcases hc with rfl | rfl | rfl | rfl | rfl | rfl | rfl | rfl | rfl | rfl | rfl | rfl | rfl | rfl | rfl | rfl | rfl | rfl | rfl | rfl | rfl
    · exact List.all_eq_true.mp av_0
    · exact List.all_eq_true.mp av_1
    · exact List.all_eq_true.mp av_2
    · exact List.all_eq_true.mp av_3
    · exact List.all_eq_true.mp av_4
    · exact List.all_eq_true.mp av_5
    · exact List.all_eq_true.mp av_6
    · exact List.all_eq_true.mp av_7
    · exact List.all_eq_true.mp av_8
    · exact List.all_eq_true.mp av_9
    · exact List.all_eq_true.mp av_10
    · exact List.all_eq_true.mp av_11
    · exact List.all_eq_true.mp av_12
    · exact List.all_eq_true.mp av_13
    · exact List.all_eq_true.mp av_14
    · exact List.all_eq_true.mp av_15
    · exact List.all_eq_true.mp av_16
    · exact List.all_eq_true.mp av_17
    · exact List.all_eq_true.mp av_18
    · exact List.all_eq_true.mp av_19
    · exact List.all_eq_true.mp av_20
  cases h1 : ax_bl[lb / 64]? with
  | none =>
    have e : ax_BL lb = (1000000, 0, [], []) := by
      unfold ax_BL
      rw [List.getD_eq_getElem?_getD (l := ax_bl), h1]
      rfl
    rw [e] at h
    exact absurd h (by decide)
  | some c =>
    cases h2 : c[lb % 64]? with
    | none =>
      have e : ax_BL lb = (1000000, 0, [], []) := by
        unfold ax_BL
        rw [List.getD_eq_getElem?_getD (l := ax_bl), h1]
        show c.getD (lb % 64) _ = _
        rw [List.getD_eq_getElem?_getD, h2]
        rfl
      rw [e] at h
      exact absurd h (by decide)
    | some b =>
      have e : ax_BL lb = b := by
        unfold ax_BL
        rw [List.getD_eq_getElem?_getD (l := ax_bl), h1]
        show c.getD (lb % 64) _ = _
        rw [List.getD_eq_getElem?_getD, h2]
        rfl
      rw [e]
      exact hall c (List.mem_of_getElem? h1) b (List.mem_of_getElem? h2)
def ax_enb (z : Nat) : Bool := decide ((ax_BL (ax_EN z)).1 = z) && decide ((ax_BL (ax_EN z)).2.1 = 0) && decide ((ax_BL (ax_EN z)).2.2.1 = [999, (ax_MT z).2.2.1]) && decide (1 ≤ (ax_MT z).2.2.2.2.1)
set_option maxRecDepth 20000 in
theorem ax_enb_ok : (List.range ax_NM).all ax_enb = true := by decide +kernel
theorem ax_en_ok : ∀ z, z < ax_NM → (ax_BL (ax_EN z)).1 = z ∧ (ax_BL (ax_EN z)).2.1 = 0 ∧ (ax_BL (ax_EN z)).2.2.1 = [999, (ax_MT z).2.2.1] ∧ 1 ≤ (ax_MT z).2.2.2.2.1 := by
  intro z hz
  have h := List.all_eq_true.mp ax_enb_ok z (List.mem_range.mpr hz)
  unfold ax_enb at h
  simp only [Bool.and_eq_true, decide_eq_true_eq] at h
  exact ⟨h.1.1.1, h.1.1.2, h.1.2, h.2⟩
