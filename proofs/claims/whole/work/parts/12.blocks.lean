/-! the blocks, checked -/
set_option maxRecDepth 100000 in
theorem av_0 : (List.range 64).all (fun i => ax_vb ax_cl ax_wd ax_NM ax_MT ax_BL ax_SL (ax_BL_0 i).1 (ax_BL_0 i).2.1 (ax_BL_0 i).2.2.2 || Nat.ble 291 (ax_BL_0 i).1) = true := by decide +kernel
set_option maxRecDepth 100000 in
theorem av_1 : (List.range 64).all (fun i => ax_vb ax_cl ax_wd ax_NM ax_MT ax_BL ax_SL (ax_BL_1 i).1 (ax_BL_1 i).2.1 (ax_BL_1 i).2.2.2 || Nat.ble 291 (ax_BL_1 i).1) = true := by decide +kernel
set_option maxRecDepth 100000 in
theorem av_2 : (List.range 64).all (fun i => ax_vb ax_cl ax_wd ax_NM ax_MT ax_BL ax_SL (ax_BL_2 i).1 (ax_BL_2 i).2.1 (ax_BL_2 i).2.2.2 || Nat.ble 291 (ax_BL_2 i).1) = true := by decide +kernel
set_option maxRecDepth 100000 in
theorem av_3 : (List.range 64).all (fun i => ax_vb ax_cl ax_wd ax_NM ax_MT ax_BL ax_SL (ax_BL_3 i).1 (ax_BL_3 i).2.1 (ax_BL_3 i).2.2.2 || Nat.ble 291 (ax_BL_3 i).1) = true := by decide +kernel
set_option maxRecDepth 100000 in
theorem av_4 : (List.range 64).all (fun i => ax_vb ax_cl ax_wd ax_NM ax_MT ax_BL ax_SL (ax_BL_4 i).1 (ax_BL_4 i).2.1 (ax_BL_4 i).2.2.2 || Nat.ble 291 (ax_BL_4 i).1) = true := by decide +kernel
set_option maxRecDepth 100000 in
theorem av_5 : (List.range 64).all (fun i => ax_vb ax_cl ax_wd ax_NM ax_MT ax_BL ax_SL (ax_BL_5 i).1 (ax_BL_5 i).2.1 (ax_BL_5 i).2.2.2 || Nat.ble 291 (ax_BL_5 i).1) = true := by decide +kernel
set_option maxRecDepth 100000 in
theorem av_6 : (List.range 64).all (fun i => ax_vb ax_cl ax_wd ax_NM ax_MT ax_BL ax_SL (ax_BL_6 i).1 (ax_BL_6 i).2.1 (ax_BL_6 i).2.2.2 || Nat.ble 291 (ax_BL_6 i).1) = true := by decide +kernel
set_option maxRecDepth 100000 in
theorem av_7 : (List.range 64).all (fun i => ax_vb ax_cl ax_wd ax_NM ax_MT ax_BL ax_SL (ax_BL_7 i).1 (ax_BL_7 i).2.1 (ax_BL_7 i).2.2.2 || Nat.ble 291 (ax_BL_7 i).1) = true := by decide +kernel
set_option maxRecDepth 100000 in
theorem av_8 : (List.range 64).all (fun i => ax_vb ax_cl ax_wd ax_NM ax_MT ax_BL ax_SL (ax_BL_8 i).1 (ax_BL_8 i).2.1 (ax_BL_8 i).2.2.2 || Nat.ble 291 (ax_BL_8 i).1) = true := by decide +kernel
set_option maxRecDepth 100000 in
theorem av_9 : (List.range 64).all (fun i => ax_vb ax_cl ax_wd ax_NM ax_MT ax_BL ax_SL (ax_BL_9 i).1 (ax_BL_9 i).2.1 (ax_BL_9 i).2.2.2 || Nat.ble 291 (ax_BL_9 i).1) = true := by decide +kernel
set_option maxRecDepth 100000 in
theorem av_10 : (List.range 64).all (fun i => ax_vb ax_cl ax_wd ax_NM ax_MT ax_BL ax_SL (ax_BL_10 i).1 (ax_BL_10 i).2.1 (ax_BL_10 i).2.2.2 || Nat.ble 291 (ax_BL_10 i).1) = true := by decide +kernel
set_option maxRecDepth 100000 in
theorem av_11 : (List.range 64).all (fun i => ax_vb ax_cl ax_wd ax_NM ax_MT ax_BL ax_SL (ax_BL_11 i).1 (ax_BL_11 i).2.1 (ax_BL_11 i).2.2.2 || Nat.ble 291 (ax_BL_11 i).1) = true := by decide +kernel
set_option maxRecDepth 100000 in
theorem av_12 : (List.range 64).all (fun i => ax_vb ax_cl ax_wd ax_NM ax_MT ax_BL ax_SL (ax_BL_12 i).1 (ax_BL_12 i).2.1 (ax_BL_12 i).2.2.2 || Nat.ble 291 (ax_BL_12 i).1) = true := by decide +kernel
set_option maxRecDepth 100000 in
theorem av_13 : (List.range 64).all (fun i => ax_vb ax_cl ax_wd ax_NM ax_MT ax_BL ax_SL (ax_BL_13 i).1 (ax_BL_13 i).2.1 (ax_BL_13 i).2.2.2 || Nat.ble 291 (ax_BL_13 i).1) = true := by decide +kernel
set_option maxRecDepth 100000 in
theorem av_14 : (List.range 64).all (fun i => ax_vb ax_cl ax_wd ax_NM ax_MT ax_BL ax_SL (ax_BL_14 i).1 (ax_BL_14 i).2.1 (ax_BL_14 i).2.2.2 || Nat.ble 291 (ax_BL_14 i).1) = true := by decide +kernel
set_option maxRecDepth 100000 in
theorem av_15 : (List.range 64).all (fun i => ax_vb ax_cl ax_wd ax_NM ax_MT ax_BL ax_SL (ax_BL_15 i).1 (ax_BL_15 i).2.1 (ax_BL_15 i).2.2.2 || Nat.ble 291 (ax_BL_15 i).1) = true := by decide +kernel
set_option maxRecDepth 100000 in
theorem av_16 : (List.range 64).all (fun i => ax_vb ax_cl ax_wd ax_NM ax_MT ax_BL ax_SL (ax_BL_16 i).1 (ax_BL_16 i).2.1 (ax_BL_16 i).2.2.2 || Nat.ble 291 (ax_BL_16 i).1) = true := by decide +kernel
set_option maxRecDepth 100000 in
theorem av_17 : (List.range 64).all (fun i => ax_vb ax_cl ax_wd ax_NM ax_MT ax_BL ax_SL (ax_BL_17 i).1 (ax_BL_17 i).2.1 (ax_BL_17 i).2.2.2 || Nat.ble 291 (ax_BL_17 i).1) = true := by decide +kernel
set_option maxRecDepth 100000 in
theorem av_18 : (List.range 64).all (fun i => ax_vb ax_cl ax_wd ax_NM ax_MT ax_BL ax_SL (ax_BL_18 i).1 (ax_BL_18 i).2.1 (ax_BL_18 i).2.2.2 || Nat.ble 291 (ax_BL_18 i).1) = true := by decide +kernel
set_option maxRecDepth 100000 in
theorem av_19 : (List.range 64).all (fun i => ax_vb ax_cl ax_wd ax_NM ax_MT ax_BL ax_SL (ax_BL_19 i).1 (ax_BL_19 i).2.1 (ax_BL_19 i).2.2.2 || Nat.ble 291 (ax_BL_19 i).1) = true := by decide +kernel
set_option maxRecDepth 100000 in
theorem av_20 : (List.range 64).all (fun i => ax_vb ax_cl ax_wd ax_NM ax_MT ax_BL ax_SL (ax_BL_20 i).1 (ax_BL_20 i).2.1 (ax_BL_20 i).2.2.2 || Nat.ble 291 (ax_BL_20 i).1) = true := by decide +kernel
theorem ax_av {f : Nat → ax_B} (h : (List.range 64).all (fun i => ax_vb ax_cl ax_wd ax_NM ax_MT ax_BL ax_SL (f i).1 (f i).2.1 (f i).2.2.2 || Nat.ble 291 (f i).1) = true) {i : Nat} (hi : i < 64) (hl : (f i).1 < ax_NP) : ax_vb ax_cl ax_wd ax_NM ax_MT ax_BL ax_SL (f i).1 (f i).2.1 (f i).2.2.2 = true := by
  have h1 := List.all_eq_true.mp h i (List.mem_range.mpr hi)
  rw [Bool.or_eq_true] at h1
  rcases h1 with h1 | h1
  · exact h1
  · have h2 := Nat.le_of_ble_eq_true h1
    have : ax_NP = 291 := rfl
    omega
theorem ax_bl_ok : ∀ lb, (ax_BL lb).1 < ax_NP → ax_vb ax_cl ax_wd ax_NM ax_MT ax_BL ax_SL (ax_BL lb).1 (ax_BL lb).2.1 (ax_BL lb).2.2.2 = true := by
  intro lb h
  have h2 : lb % 64 < 64 := Nat.mod_lt _ (by decide)
  have e : ax_BL lb = ax_BL_c (lb / 64) (lb % 64) := rfl
  rw [e] at h ⊢
  generalize lb / 64 = c at h ⊢
  generalize lb % 64 = i at h h2 ⊢
  match c, h with
  | 0, h => exact ax_av av_0 h2 h
  | 1, h => exact ax_av av_1 h2 h
  | 2, h => exact ax_av av_2 h2 h
  | 3, h => exact ax_av av_3 h2 h
  | 4, h => exact ax_av av_4 h2 h
  | 5, h => exact ax_av av_5 h2 h
  | 6, h => exact ax_av av_6 h2 h
  | 7, h => exact ax_av av_7 h2 h
  | 8, h => exact ax_av av_8 h2 h
  | 9, h => exact ax_av av_9 h2 h
  | 10, h => exact ax_av av_10 h2 h
  | 11, h => exact ax_av av_11 h2 h
  | 12, h => exact ax_av av_12 h2 h
  | 13, h => exact ax_av av_13 h2 h
  | 14, h => exact ax_av av_14 h2 h
  | 15, h => exact ax_av av_15 h2 h
  | 16, h => exact ax_av av_16 h2 h
  | 17, h => exact ax_av av_17 h2 h
  | 18, h => exact ax_av av_18 h2 h
  | 19, h => exact ax_av av_19 h2 h
  | 20, h => exact ax_av av_20 h2 h
  | c + 21, h => exact absurd h (by show ¬ (1000000 < ax_NP); decide)
def ax_enb (z : Nat) : Bool := decide ((ax_BL (ax_EN z)).1 = z) && decide ((ax_BL (ax_EN z)).2.1 = 0) && decide ((ax_BL (ax_EN z)).2.2.1 = [999, (ax_MT z).2.2.1]) && decide (1 ≤ (ax_MT z).2.2.2.2.1)
set_option maxRecDepth 20000 in
theorem ax_enb_ok : (List.range ax_NM).all ax_enb = true := by decide +kernel
theorem ax_en_ok : ∀ z, z < ax_NM → (ax_BL (ax_EN z)).1 = z ∧ (ax_BL (ax_EN z)).2.1 = 0 ∧ (ax_BL (ax_EN z)).2.2.1 = [999, (ax_MT z).2.2.1] ∧ 1 ≤ (ax_MT z).2.2.2.2.1 := by
  intro z hz
  have h := List.all_eq_true.mp ax_enb_ok z (List.mem_range.mpr hz)
  unfold ax_enb at h
  simp only [Bool.and_eq_true, decide_eq_true_eq] at h
  exact ⟨h.1.1.1, h.1.1.2, h.1.2, h.2⟩
