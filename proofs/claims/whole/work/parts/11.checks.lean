/-! the program at hand: all checks -/
theorem ax_wl_in : ∀ (k : Nat) (w : Jvm.Cond), w ∈ ax_wl k → w ∈ lw_tbl := by
  intro k w h
  have key : w ∈ k2_sels lw_privs ∨ w ∈ tables_1 := by
    match k, h with
    | 0, h => exact Or.inl h
    | 1, h => exact Or.inr (show w ∈ tables_1_1 ++ (tables_1_2 ++ (tables_1_3 ++ (tables_1_4 ++ (tables_1_5 ++ (tables_1_6 ++ (tables_1_7 ++ (tables_1_8))))))) from List.mem_append_left _ h)
    | 2, h => exact Or.inr (show w ∈ tables_1_1 ++ (tables_1_2 ++ (tables_1_3 ++ (tables_1_4 ++ (tables_1_5 ++ (tables_1_6 ++ (tables_1_7 ++ (tables_1_8))))))) from List.mem_append_right _ (List.mem_append_left _ h))
    | 3, h => exact Or.inr (show w ∈ tables_1_1 ++ (tables_1_2 ++ (tables_1_3 ++ (tables_1_4 ++ (tables_1_5 ++ (tables_1_6 ++ (tables_1_7 ++ (tables_1_8))))))) from List.mem_append_right _ (List.mem_append_right _ (List.mem_append_left _ h)))
    | 4, h => exact Or.inr (show w ∈ tables_1_1 ++ (tables_1_2 ++ (tables_1_3 ++ (tables_1_4 ++ (tables_1_5 ++ (tables_1_6 ++ (tables_1_7 ++ (tables_1_8))))))) from List.mem_append_right _ (List.mem_append_right _ (List.mem_append_right _ (List.mem_append_left _ h))))
    | 5, h => exact Or.inr (show w ∈ tables_1_1 ++ (tables_1_2 ++ (tables_1_3 ++ (tables_1_4 ++ (tables_1_5 ++ (tables_1_6 ++ (tables_1_7 ++ (tables_1_8))))))) from List.mem_append_right _ (List.mem_append_right _ (List.mem_append_right _ (List.mem_append_right _ (List.mem_append_left _ h)))))
    | 6, h => exact Or.inr (show w ∈ tables_1_1 ++ (tables_1_2 ++ (tables_1_3 ++ (tables_1_4 ++ (tables_1_5 ++ (tables_1_6 ++ (tables_1_7 ++ (tables_1_8))))))) from List.mem_append_right _ (List.mem_append_right _ (List.mem_append_right _ (List.mem_append_right _ (List.mem_append_right _ (List.mem_append_left _ h))))))
    | 7, h => exact Or.inr (show w ∈ tables_1_1 ++ (tables_1_2 ++ (tables_1_3 ++ (tables_1_4 ++ (tables_1_5 ++ (tables_1_6 ++ (tables_1_7 ++ (tables_1_8))))))) from List.mem_append_right _ (List.mem_append_right _ (List.mem_append_right _ (List.mem_append_right _ (List.mem_append_right _ (List.mem_append_right _ (List.mem_append_left _ h)))))))
    | 8, h => exact Or.inr (show w ∈ tables_1_1 ++ (tables_1_2 ++ (tables_1_3 ++ (tables_1_4 ++ (tables_1_5 ++ (tables_1_6 ++ (tables_1_7 ++ (tables_1_8))))))) from List.mem_append_right _ (List.mem_append_right _ (List.mem_append_right _ (List.mem_append_right _ (List.mem_append_right _ (List.mem_append_right _ (List.mem_append_right _ (h))))))))
    | k + 9, h => cases h
  rcases key with h | h
  · exact List.mem_append_left _ h
  · exact List.mem_append_right _ h
theorem ax_wl_at {k j : Nat} {w : Jvm.Cond} (h : (ax_wl k)[j]? = some w) : w ∈ lw_tbl := ax_wl_in k w (List.mem_of_getElem? h)
theorem ax_bif {b : Bool} {x y : Option Jvm.Cond} {Q : Jvm.Cond → Prop} (hx : ∀ w, x = some w → Q w) (hy : ∀ w, y = some w → Q w) : ∀ w, (bif b then x else y) = some w → Q w := by
  cases b
  · exact hy
  · exact hx
theorem ax_lf {w0 : Jvm.Cond} {Q : Jvm.Cond → Prop} (h : Q w0) : ∀ w, some w0 = some w → Q w := fun w e => Option.some.inj e ▸ h
theorem ax_lf0 {Q : Jvm.Cond → Prop} : ∀ w, none = some w → Q w := fun w e => by cases e
theorem aw_0_in : aw_0 ∈ lw_tbl := (ax_wl_at (k := 5) (j := 217) rfl)
theorem aw_1_in : aw_1 ∈ lw_tbl := (ax_wl_at (k := 5) (j := 218) rfl)
theorem aw_2_in : aw_2 ∈ lw_tbl := (ax_wl_at (k := 5) (j := 219) rfl)
theorem aw_3_in : aw_3 ∈ lw_tbl := (ax_wl_at (k := 5) (j := 203) rfl)
theorem aw_4_in : aw_4 ∈ lw_tbl := (ax_wl_at (k := 5) (j := 205) rfl)
theorem aw_5_in : aw_5 ∈ lw_tbl := (ax_wl_at (k := 0) (j := 61) rfl)
theorem aw_6_in : aw_6 ∈ lw_tbl := (ax_wl_at (k := 5) (j := 220) rfl)
theorem aw_7_in : aw_7 ∈ lw_tbl := (ax_wl_at (k := 5) (j := 222) rfl)
theorem aw_8_in : aw_8 ∈ lw_tbl := (ax_wl_at (k := 5) (j := 223) rfl)
theorem aw_9_in : aw_9 ∈ lw_tbl := (ax_wl_at (k := 5) (j := 221) rfl)
theorem aw_10_in : aw_10 ∈ lw_tbl := (ax_wl_at (k := 5) (j := 224) rfl)
theorem aw_11_in : aw_11 ∈ lw_tbl := (ax_wl_at (k := 6) (j := 101) rfl)
theorem aw_12_in : aw_12 ∈ lw_tbl := (ax_wl_at (k := 6) (j := 102) rfl)
theorem aw_13_in : aw_13 ∈ lw_tbl := (ax_wl_at (k := 6) (j := 104) rfl)
theorem aw_14_in : aw_14 ∈ lw_tbl := (ax_wl_at (k := 6) (j := 105) rfl)
theorem aw_15_in : aw_15 ∈ lw_tbl := (ax_wl_at (k := 5) (j := 229) rfl)
theorem aw_16_in : aw_16 ∈ lw_tbl := (ax_wl_at (k := 5) (j := 225) rfl)
theorem aw_17_in : aw_17 ∈ lw_tbl := (ax_wl_at (k := 6) (j := 107) rfl)
theorem aw_18_in : aw_18 ∈ lw_tbl := (ax_wl_at (k := 6) (j := 109) rfl)
theorem aw_19_in : aw_19 ∈ lw_tbl := (ax_wl_at (k := 0) (j := 65) rfl)
theorem aw_20_in : aw_20 ∈ lw_tbl := (ax_wl_at (k := 6) (j := 111) rfl)
theorem aw_21_in : aw_21 ∈ lw_tbl := (ax_wl_at (k := 6) (j := 112) rfl)
theorem aw_22_in : aw_22 ∈ lw_tbl := (ax_wl_at (k := 6) (j := 120) rfl)
theorem aw_23_in : aw_23 ∈ lw_tbl := (ax_wl_at (k := 6) (j := 121) rfl)
theorem aw_24_in : aw_24 ∈ lw_tbl := (ax_wl_at (k := 6) (j := 117) rfl)
theorem aw_25_in : aw_25 ∈ lw_tbl := (ax_wl_at (k := 6) (j := 118) rfl)
theorem aw_26_in : aw_26 ∈ lw_tbl := (ax_wl_at (k := 6) (j := 135) rfl)
theorem aw_27_in : aw_27 ∈ lw_tbl := (ax_wl_at (k := 6) (j := 137) rfl)
theorem aw_28_in : aw_28 ∈ lw_tbl := (ax_wl_at (k := 0) (j := 70) rfl)
theorem aw_29_in : aw_29 ∈ lw_tbl := (ax_wl_at (k := 5) (j := 226) rfl)
theorem aw_30_in : aw_30 ∈ lw_tbl := (ax_wl_at (k := 5) (j := 228) rfl)
theorem aw_31_in : aw_31 ∈ lw_tbl := (ax_wl_at (k := 6) (j := 127) rfl)
theorem aw_32_in : aw_32 ∈ lw_tbl := (ax_wl_at (k := 6) (j := 129) rfl)
theorem aw_33_in : aw_33 ∈ lw_tbl := (ax_wl_at (k := 0) (j := 68) rfl)
theorem aw_34_in : aw_34 ∈ lw_tbl := (ax_wl_at (k := 6) (j := 153) rfl)
theorem aw_35_in : aw_35 ∈ lw_tbl := (ax_wl_at (k := 6) (j := 154) rfl)
theorem aw_36_in : aw_36 ∈ lw_tbl := (ax_wl_at (k := 5) (j := 230) rfl)
theorem aw_37_in : aw_37 ∈ lw_tbl := (ax_wl_at (k := 6) (j := 97) rfl)
theorem aw_38_in : aw_38 ∈ lw_tbl := (ax_wl_at (k := 6) (j := 99) rfl)
theorem aw_39_in : aw_39 ∈ lw_tbl := (ax_wl_at (k := 0) (j := 64) rfl)
theorem aw_40_in : aw_40 ∈ lw_tbl := (ax_wl_at (k := 6) (j := 93) rfl)
theorem aw_41_in : aw_41 ∈ lw_tbl := (ax_wl_at (k := 6) (j := 95) rfl)
theorem aw_42_in : aw_42 ∈ lw_tbl := (ax_wl_at (k := 0) (j := 63) rfl)
theorem aw_43_in : aw_43 ∈ lw_tbl := (ax_wl_at (k := 5) (j := 227) rfl)
theorem aw_44_in : aw_44 ∈ lw_tbl := (ax_wl_at (k := 5) (j := 231) rfl)
theorem aw_45_in : aw_45 ∈ lw_tbl := (ax_wl_at (k := 5) (j := 232) rfl)
theorem aw_46_in : aw_46 ∈ lw_tbl := (ax_wl_at (k := 6) (j := 131) rfl)
theorem aw_47_in : aw_47 ∈ lw_tbl := (ax_wl_at (k := 6) (j := 133) rfl)
theorem aw_48_in : aw_48 ∈ lw_tbl := (ax_wl_at (k := 0) (j := 69) rfl)
theorem aw_49_in : aw_49 ∈ lw_tbl := (ax_wl_at (k := 5) (j := 238) rfl)
theorem aw_50_in : aw_50 ∈ lw_tbl := (ax_wl_at (k := 6) (j := 139) rfl)
theorem aw_51_in : aw_51 ∈ lw_tbl := (ax_wl_at (k := 6) (j := 140) rfl)
theorem aw_52_in : aw_52 ∈ lw_tbl := (ax_wl_at (k := 6) (j := 146) rfl)
theorem aw_53_in : aw_53 ∈ lw_tbl := (ax_wl_at (k := 6) (j := 147) rfl)
theorem aw_54_in : aw_54 ∈ lw_tbl := (ax_wl_at (k := 6) (j := 149) rfl)
theorem aw_55_in : aw_55 ∈ lw_tbl := (ax_wl_at (k := 6) (j := 151) rfl)
theorem aw_56_in : aw_56 ∈ lw_tbl := (ax_wl_at (k := 0) (j := 72) rfl)
theorem aw_57_in : aw_57 ∈ lw_tbl := (ax_wl_at (k := 6) (j := 2) rfl)
theorem aw_58_in : aw_58 ∈ lw_tbl := (ax_wl_at (k := 6) (j := 89) rfl)
theorem aw_59_in : aw_59 ∈ lw_tbl := (ax_wl_at (k := 6) (j := 91) rfl)
theorem aw_60_in : aw_60 ∈ lw_tbl := (ax_wl_at (k := 0) (j := 62) rfl)
theorem aw_61_in : aw_61 ∈ lw_tbl := (ax_wl_at (k := 6) (j := 113) rfl)
theorem aw_62_in : aw_62 ∈ lw_tbl := (ax_wl_at (k := 6) (j := 115) rfl)
theorem aw_63_in : aw_63 ∈ lw_tbl := (ax_wl_at (k := 0) (j := 66) rfl)
theorem aw_64_in : aw_64 ∈ lw_tbl := (ax_wl_at (k := 6) (j := 123) rfl)
theorem aw_65_in : aw_65 ∈ lw_tbl := (ax_wl_at (k := 6) (j := 125) rfl)
theorem aw_66_in : aw_66 ∈ lw_tbl := (ax_wl_at (k := 0) (j := 67) rfl)
theorem aw_67_in : aw_67 ∈ lw_tbl := (ax_wl_at (k := 6) (j := 142) rfl)
theorem aw_68_in : aw_68 ∈ lw_tbl := (ax_wl_at (k := 6) (j := 144) rfl)
theorem aw_69_in : aw_69 ∈ lw_tbl := (ax_wl_at (k := 0) (j := 71) rfl)
theorem aw_70_in : aw_70 ∈ lw_tbl := (ax_wl_at (k := 6) (j := 156) rfl)
theorem aw_71_in : aw_71 ∈ lw_tbl := (ax_wl_at (k := 6) (j := 158) rfl)
theorem aw_72_in : aw_72 ∈ lw_tbl := (ax_wl_at (k := 0) (j := 73) rfl)
theorem aw_73_in : aw_73 ∈ lw_tbl := (ax_wl_at (k := 6) (j := 160) rfl)
theorem aw_74_in : aw_74 ∈ lw_tbl := (ax_wl_at (k := 6) (j := 162) rfl)
theorem aw_75_in : aw_75 ∈ lw_tbl := (ax_wl_at (k := 0) (j := 74) rfl)
theorem aw_76_in : aw_76 ∈ lw_tbl := (ax_wl_at (k := 5) (j := 237) rfl)
theorem aw_77_in : aw_77 ∈ lw_tbl := (ax_wl_at (k := 6) (j := 164) rfl)
theorem aw_78_in : aw_78 ∈ lw_tbl := (ax_wl_at (k := 6) (j := 166) rfl)
theorem aw_79_in : aw_79 ∈ lw_tbl := (ax_wl_at (k := 0) (j := 75) rfl)
theorem aw_80_in : aw_80 ∈ lw_tbl := (ax_wl_at (k := 6) (j := 1) rfl)
theorem aw_81_in : aw_81 ∈ lw_tbl := (ax_wl_at (k := 6) (j := 180) rfl)
theorem aw_82_in : aw_82 ∈ lw_tbl := (ax_wl_at (k := 6) (j := 182) rfl)
theorem aw_83_in : aw_83 ∈ lw_tbl := (ax_wl_at (k := 0) (j := 78) rfl)
theorem aw_84_in : aw_84 ∈ lw_tbl := (ax_wl_at (k := 6) (j := 176) rfl)
theorem aw_85_in : aw_85 ∈ lw_tbl := (ax_wl_at (k := 6) (j := 178) rfl)
theorem aw_86_in : aw_86 ∈ lw_tbl := (ax_wl_at (k := 0) (j := 77) rfl)
theorem aw_87_in : aw_87 ∈ lw_tbl := (ax_wl_at (k := 6) (j := 172) rfl)
theorem aw_88_in : aw_88 ∈ lw_tbl := (ax_wl_at (k := 6) (j := 174) rfl)
theorem aw_89_in : aw_89 ∈ lw_tbl := (ax_wl_at (k := 0) (j := 76) rfl)
theorem aw_90_in : aw_90 ∈ lw_tbl := (ax_wl_at (k := 6) (j := 212) rfl)
theorem aw_91_in : aw_91 ∈ lw_tbl := (ax_wl_at (k := 6) (j := 214) rfl)
theorem aw_92_in : aw_92 ∈ lw_tbl := (ax_wl_at (k := 0) (j := 84) rfl)
theorem aw_93_in : aw_93 ∈ lw_tbl := (ax_wl_at (k := 7) (j := 48) rfl)
theorem aw_94_in : aw_94 ∈ lw_tbl := (ax_wl_at (k := 7) (j := 50) rfl)
theorem aw_95_in : aw_95 ∈ lw_tbl := (ax_wl_at (k := 0) (j := 98) rfl)
theorem aw_96_in : aw_96 ∈ lw_tbl := (ax_wl_at (k := 7) (j := 40) rfl)
theorem aw_97_in : aw_97 ∈ lw_tbl := (ax_wl_at (k := 7) (j := 42) rfl)
theorem aw_98_in : aw_98 ∈ lw_tbl := (ax_wl_at (k := 0) (j := 96) rfl)
theorem aw_99_in : aw_99 ∈ lw_tbl := (ax_wl_at (k := 7) (j := 44) rfl)
theorem aw_100_in : aw_100 ∈ lw_tbl := (ax_wl_at (k := 7) (j := 46) rfl)
theorem aw_101_in : aw_101 ∈ lw_tbl := (ax_wl_at (k := 0) (j := 97) rfl)
theorem aw_102_in : aw_102 ∈ lw_tbl := (ax_wl_at (k := 7) (j := 52) rfl)
theorem aw_103_in : aw_103 ∈ lw_tbl := (ax_wl_at (k := 7) (j := 54) rfl)
theorem aw_104_in : aw_104 ∈ lw_tbl := (ax_wl_at (k := 0) (j := 99) rfl)
theorem aw_105_in : aw_105 ∈ lw_tbl := (ax_wl_at (k := 6) (j := 216) rfl)
theorem aw_106_in : aw_106 ∈ lw_tbl := (ax_wl_at (k := 6) (j := 218) rfl)
theorem aw_107_in : aw_107 ∈ lw_tbl := (ax_wl_at (k := 0) (j := 85) rfl)
theorem aw_108_in : aw_108 ∈ lw_tbl := (ax_wl_at (k := 6) (j := 204) rfl)
theorem aw_109_in : aw_109 ∈ lw_tbl := (ax_wl_at (k := 6) (j := 206) rfl)
theorem aw_110_in : aw_110 ∈ lw_tbl := (ax_wl_at (k := 0) (j := 82) rfl)
theorem aw_111_in : aw_111 ∈ lw_tbl := (ax_wl_at (k := 7) (j := 32) rfl)
theorem aw_112_in : aw_112 ∈ lw_tbl := (ax_wl_at (k := 7) (j := 34) rfl)
theorem aw_113_in : aw_113 ∈ lw_tbl := (ax_wl_at (k := 0) (j := 94) rfl)
theorem aw_114_in : aw_114 ∈ lw_tbl := (ax_wl_at (k := 7) (j := 36) rfl)
theorem aw_115_in : aw_115 ∈ lw_tbl := (ax_wl_at (k := 7) (j := 38) rfl)
theorem aw_116_in : aw_116 ∈ lw_tbl := (ax_wl_at (k := 0) (j := 95) rfl)
theorem aw_117_in : aw_117 ∈ lw_tbl := (ax_wl_at (k := 7) (j := 56) rfl)
theorem aw_118_in : aw_118 ∈ lw_tbl := (ax_wl_at (k := 7) (j := 58) rfl)
theorem aw_119_in : aw_119 ∈ lw_tbl := (ax_wl_at (k := 0) (j := 100) rfl)
theorem aw_120_in : aw_120 ∈ lw_tbl := (ax_wl_at (k := 7) (j := 60) rfl)
theorem aw_121_in : aw_121 ∈ lw_tbl := (ax_wl_at (k := 7) (j := 62) rfl)
theorem aw_122_in : aw_122 ∈ lw_tbl := (ax_wl_at (k := 0) (j := 101) rfl)
theorem aw_123_in : aw_123 ∈ lw_tbl := (ax_wl_at (k := 7) (j := 96) rfl)
theorem aw_124_in : aw_124 ∈ lw_tbl := (ax_wl_at (k := 7) (j := 98) rfl)
theorem aw_125_in : aw_125 ∈ lw_tbl := (ax_wl_at (k := 0) (j := 109) rfl)
theorem aw_126_in : aw_126 ∈ lw_tbl := (ax_wl_at (k := 6) (j := 208) rfl)
theorem aw_127_in : aw_127 ∈ lw_tbl := (ax_wl_at (k := 6) (j := 210) rfl)
theorem aw_128_in : aw_128 ∈ lw_tbl := (ax_wl_at (k := 0) (j := 83) rfl)
theorem aw_129_in : aw_129 ∈ lw_tbl := (ax_wl_at (k := 7) (j := 84) rfl)
theorem aw_130_in : aw_130 ∈ lw_tbl := (ax_wl_at (k := 7) (j := 86) rfl)
theorem aw_131_in : aw_131 ∈ lw_tbl := (ax_wl_at (k := 0) (j := 106) rfl)
theorem aw_132_in : aw_132 ∈ lw_tbl := (ax_wl_at (k := 7) (j := 88) rfl)
theorem aw_133_in : aw_133 ∈ lw_tbl := (ax_wl_at (k := 7) (j := 90) rfl)
theorem aw_134_in : aw_134 ∈ lw_tbl := (ax_wl_at (k := 0) (j := 107) rfl)
theorem aw_135_in : aw_135 ∈ lw_tbl := (ax_wl_at (k := 7) (j := 100) rfl)
theorem aw_136_in : aw_136 ∈ lw_tbl := (ax_wl_at (k := 7) (j := 102) rfl)
theorem aw_137_in : aw_137 ∈ lw_tbl := (ax_wl_at (k := 0) (j := 110) rfl)
theorem aw_138_in : aw_138 ∈ lw_tbl := (ax_wl_at (k := 7) (j := 108) rfl)
theorem aw_139_in : aw_139 ∈ lw_tbl := (ax_wl_at (k := 7) (j := 110) rfl)
theorem aw_140_in : aw_140 ∈ lw_tbl := (ax_wl_at (k := 0) (j := 112) rfl)
theorem aw_141_in : aw_141 ∈ lw_tbl := (ax_wl_at (k := 7) (j := 104) rfl)
theorem aw_142_in : aw_142 ∈ lw_tbl := (ax_wl_at (k := 7) (j := 106) rfl)
theorem aw_143_in : aw_143 ∈ lw_tbl := (ax_wl_at (k := 0) (j := 111) rfl)
theorem aw_144_in : aw_144 ∈ lw_tbl := (ax_wl_at (k := 7) (j := 92) rfl)
theorem aw_145_in : aw_145 ∈ lw_tbl := (ax_wl_at (k := 7) (j := 94) rfl)
theorem aw_146_in : aw_146 ∈ lw_tbl := (ax_wl_at (k := 0) (j := 108) rfl)
theorem aw_147_in : aw_147 ∈ lw_tbl := (ax_wl_at (k := 7) (j := 112) rfl)
theorem aw_148_in : aw_148 ∈ lw_tbl := (ax_wl_at (k := 7) (j := 114) rfl)
theorem aw_149_in : aw_149 ∈ lw_tbl := (ax_wl_at (k := 0) (j := 113) rfl)
theorem aw_150_in : aw_150 ∈ lw_tbl := (ax_wl_at (k := 7) (j := 116) rfl)
theorem aw_151_in : aw_151 ∈ lw_tbl := (ax_wl_at (k := 7) (j := 118) rfl)
theorem aw_152_in : aw_152 ∈ lw_tbl := (ax_wl_at (k := 0) (j := 114) rfl)
theorem aw_153_in : aw_153 ∈ lw_tbl := (ax_wl_at (k := 6) (j := 200) rfl)
theorem aw_154_in : aw_154 ∈ lw_tbl := (ax_wl_at (k := 6) (j := 202) rfl)
theorem aw_155_in : aw_155 ∈ lw_tbl := (ax_wl_at (k := 0) (j := 81) rfl)
theorem aw_156_in : aw_156 ∈ lw_tbl := (ax_wl_at (k := 7) (j := 76) rfl)
theorem aw_157_in : aw_157 ∈ lw_tbl := (ax_wl_at (k := 7) (j := 78) rfl)
theorem aw_158_in : aw_158 ∈ lw_tbl := (ax_wl_at (k := 0) (j := 104) rfl)
theorem aw_159_in : aw_159 ∈ lw_tbl := (ax_wl_at (k := 7) (j := 68) rfl)
theorem aw_160_in : aw_160 ∈ lw_tbl := (ax_wl_at (k := 7) (j := 70) rfl)
theorem aw_161_in : aw_161 ∈ lw_tbl := (ax_wl_at (k := 0) (j := 102) rfl)
theorem aw_162_in : aw_162 ∈ lw_tbl := (ax_wl_at (k := 7) (j := 28) rfl)
theorem aw_163_in : aw_163 ∈ lw_tbl := (ax_wl_at (k := 7) (j := 30) rfl)
theorem aw_164_in : aw_164 ∈ lw_tbl := (ax_wl_at (k := 0) (j := 93) rfl)
theorem aw_165_in : aw_165 ∈ lw_tbl := (ax_wl_at (k := 7) (j := 80) rfl)
theorem aw_166_in : aw_166 ∈ lw_tbl := (ax_wl_at (k := 7) (j := 82) rfl)
theorem aw_167_in : aw_167 ∈ lw_tbl := (ax_wl_at (k := 0) (j := 105) rfl)
theorem aw_168_in : aw_168 ∈ lw_tbl := (ax_wl_at (k := 7) (j := 120) rfl)
theorem aw_169_in : aw_169 ∈ lw_tbl := (ax_wl_at (k := 7) (j := 122) rfl)
theorem aw_170_in : aw_170 ∈ lw_tbl := (ax_wl_at (k := 0) (j := 115) rfl)
theorem aw_171_in : aw_171 ∈ lw_tbl := (ax_wl_at (k := 7) (j := 132) rfl)
theorem aw_172_in : aw_172 ∈ lw_tbl := (ax_wl_at (k := 7) (j := 134) rfl)
theorem aw_173_in : aw_173 ∈ lw_tbl := (ax_wl_at (k := 0) (j := 117) rfl)
theorem aw_174_in : aw_174 ∈ lw_tbl := (ax_wl_at (k := 6) (j := 3) rfl)
theorem aw_175_in : aw_175 ∈ lw_tbl := (ax_wl_at (k := 7) (j := 8) rfl)
theorem aw_176_in : aw_176 ∈ lw_tbl := (ax_wl_at (k := 7) (j := 10) rfl)
theorem aw_177_in : aw_177 ∈ lw_tbl := (ax_wl_at (k := 0) (j := 90) rfl)
theorem aw_178_in : aw_178 ∈ lw_tbl := (ax_wl_at (k := 7) (j := 72) rfl)
theorem aw_179_in : aw_179 ∈ lw_tbl := (ax_wl_at (k := 7) (j := 74) rfl)
theorem aw_180_in : aw_180 ∈ lw_tbl := (ax_wl_at (k := 0) (j := 103) rfl)
theorem aw_181_in : aw_181 ∈ lw_tbl := (ax_wl_at (k := 6) (j := 6) rfl)
theorem aw_182_in : aw_182 ∈ lw_tbl := (ax_wl_at (k := 7) (j := 168) rfl)
theorem aw_183_in : aw_183 ∈ lw_tbl := (ax_wl_at (k := 7) (j := 170) rfl)
theorem aw_184_in : aw_184 ∈ lw_tbl := (ax_wl_at (k := 0) (j := 125) rfl)
theorem aw_185_in : aw_185 ∈ lw_tbl := (ax_wl_at (k := 6) (j := 4) rfl)
theorem aw_186_in : aw_186 ∈ lw_tbl := (ax_wl_at (k := 7) (j := 172) rfl)
theorem aw_187_in : aw_187 ∈ lw_tbl := (ax_wl_at (k := 7) (j := 174) rfl)
theorem aw_188_in : aw_188 ∈ lw_tbl := (ax_wl_at (k := 0) (j := 126) rfl)
theorem aw_189_in : aw_189 ∈ lw_tbl := (ax_wl_at (k := 7) (j := 160) rfl)
theorem aw_190_in : aw_190 ∈ lw_tbl := (ax_wl_at (k := 7) (j := 162) rfl)
theorem aw_191_in : aw_191 ∈ lw_tbl := (ax_wl_at (k := 0) (j := 123) rfl)
theorem aw_192_in : aw_192 ∈ lw_tbl := (ax_wl_at (k := 6) (j := 5) rfl)
theorem aw_193_in : aw_193 ∈ lw_tbl := (ax_wl_at (k := 7) (j := 164) rfl)
theorem aw_194_in : aw_194 ∈ lw_tbl := (ax_wl_at (k := 7) (j := 166) rfl)
theorem aw_195_in : aw_195 ∈ lw_tbl := (ax_wl_at (k := 0) (j := 124) rfl)
theorem aw_196_in : aw_196 ∈ lw_tbl := (ax_wl_at (k := 7) (j := 156) rfl)
theorem aw_197_in : aw_197 ∈ lw_tbl := (ax_wl_at (k := 7) (j := 158) rfl)
theorem aw_198_in : aw_198 ∈ lw_tbl := (ax_wl_at (k := 0) (j := 122) rfl)
theorem aw_199_in : aw_199 ∈ lw_tbl := (ax_wl_at (k := 6) (j := 192) rfl)
theorem aw_200_in : aw_200 ∈ lw_tbl := (ax_wl_at (k := 6) (j := 194) rfl)
theorem aw_201_in : aw_201 ∈ lw_tbl := (ax_wl_at (k := 0) (j := 79) rfl)
theorem aw_202_in : aw_202 ∈ lw_tbl := (ax_wl_at (k := 6) (j := 196) rfl)
theorem aw_203_in : aw_203 ∈ lw_tbl := (ax_wl_at (k := 6) (j := 198) rfl)
theorem aw_204_in : aw_204 ∈ lw_tbl := (ax_wl_at (k := 0) (j := 80) rfl)
theorem aw_205_in : aw_205 ∈ lw_tbl := (ax_wl_at (k := 6) (j := 224) rfl)
theorem aw_206_in : aw_206 ∈ lw_tbl := (ax_wl_at (k := 6) (j := 226) rfl)
theorem aw_207_in : aw_207 ∈ lw_tbl := (ax_wl_at (k := 0) (j := 86) rfl)
theorem aw_208_in : aw_208 ∈ lw_tbl := (ax_wl_at (k := 6) (j := 228) rfl)
theorem aw_209_in : aw_209 ∈ lw_tbl := (ax_wl_at (k := 6) (j := 230) rfl)
theorem aw_210_in : aw_210 ∈ lw_tbl := (ax_wl_at (k := 0) (j := 87) rfl)
theorem aw_211_in : aw_211 ∈ lw_tbl := (ax_wl_at (k := 7) (j := 4) rfl)
theorem aw_212_in : aw_212 ∈ lw_tbl := (ax_wl_at (k := 7) (j := 6) rfl)
theorem aw_213_in : aw_213 ∈ lw_tbl := (ax_wl_at (k := 0) (j := 89) rfl)
theorem aw_214_in : aw_214 ∈ lw_tbl := (ax_wl_at (k := 5) (j := 234) rfl)
theorem aw_215_in : aw_215 ∈ lw_tbl := (ax_wl_at (k := 7) (j := 24) rfl)
theorem aw_216_in : aw_216 ∈ lw_tbl := (ax_wl_at (k := 7) (j := 26) rfl)
theorem aw_217_in : aw_217 ∈ lw_tbl := (ax_wl_at (k := 0) (j := 92) rfl)
theorem aw_218_in : aw_218 ∈ lw_tbl := (ax_wl_at (k := 5) (j := 235) rfl)
theorem aw_219_in : aw_219 ∈ lw_tbl := (ax_wl_at (k := 5) (j := 236) rfl)
theorem aw_220_in : aw_220 ∈ lw_tbl := (ax_wl_at (k := 7) (j := 144) rfl)
theorem aw_221_in : aw_221 ∈ lw_tbl := (ax_wl_at (k := 7) (j := 146) rfl)
theorem aw_222_in : aw_222 ∈ lw_tbl := (ax_wl_at (k := 0) (j := 120) rfl)
theorem aw_223_in : aw_223 ∈ lw_tbl := (ax_wl_at (k := 7) (j := 20) rfl)
theorem aw_224_in : aw_224 ∈ lw_tbl := (ax_wl_at (k := 7) (j := 22) rfl)
theorem aw_225_in : aw_225 ∈ lw_tbl := (ax_wl_at (k := 0) (j := 91) rfl)
theorem aw_226_in : aw_226 ∈ lw_tbl := (ax_wl_at (k := 7) (j := 128) rfl)
theorem aw_227_in : aw_227 ∈ lw_tbl := (ax_wl_at (k := 7) (j := 130) rfl)
theorem aw_228_in : aw_228 ∈ lw_tbl := (ax_wl_at (k := 0) (j := 116) rfl)
theorem aw_229_in : aw_229 ∈ lw_tbl := (ax_wl_at (k := 7) (j := 136) rfl)
theorem aw_230_in : aw_230 ∈ lw_tbl := (ax_wl_at (k := 7) (j := 138) rfl)
theorem aw_231_in : aw_231 ∈ lw_tbl := (ax_wl_at (k := 0) (j := 118) rfl)
theorem aw_232_in : aw_232 ∈ lw_tbl := (ax_wl_at (k := 7) (j := 140) rfl)
theorem aw_233_in : aw_233 ∈ lw_tbl := (ax_wl_at (k := 7) (j := 142) rfl)
theorem aw_234_in : aw_234 ∈ lw_tbl := (ax_wl_at (k := 0) (j := 119) rfl)
theorem aw_235_in : aw_235 ∈ lw_tbl := (ax_wl_at (k := 7) (j := 152) rfl)
theorem aw_236_in : aw_236 ∈ lw_tbl := (ax_wl_at (k := 7) (j := 154) rfl)
theorem aw_237_in : aw_237 ∈ lw_tbl := (ax_wl_at (k := 0) (j := 121) rfl)
theorem aw_238_in : aw_238 ∈ lw_tbl := (ax_wl_at (k := 7) (j := 184) rfl)
theorem aw_239_in : aw_239 ∈ lw_tbl := (ax_wl_at (k := 7) (j := 186) rfl)
theorem aw_240_in : aw_240 ∈ lw_tbl := (ax_wl_at (k := 0) (j := 127) rfl)
theorem aw_241_in : aw_241 ∈ lw_tbl := (ax_wl_at (k := 7) (j := 200) rfl)
theorem aw_242_in : aw_242 ∈ lw_tbl := (ax_wl_at (k := 7) (j := 202) rfl)
theorem aw_243_in : aw_243 ∈ lw_tbl := (ax_wl_at (k := 0) (j := 128) rfl)
theorem aw_244_in : aw_244 ∈ lw_tbl := (ax_wl_at (k := 7) (j := 204) rfl)
theorem aw_245_in : aw_245 ∈ lw_tbl := (ax_wl_at (k := 7) (j := 206) rfl)
theorem aw_246_in : aw_246 ∈ lw_tbl := (ax_wl_at (k := 0) (j := 129) rfl)
theorem aw_247_in : aw_247 ∈ lw_tbl := (ax_wl_at (k := 6) (j := 232) rfl)
theorem aw_248_in : aw_248 ∈ lw_tbl := (ax_wl_at (k := 6) (j := 234) rfl)
theorem aw_249_in : aw_249 ∈ lw_tbl := (ax_wl_at (k := 0) (j := 88) rfl)
theorem aw_250_in : aw_250 ∈ lw_tbl := (ax_wl_at (k := 7) (j := 208) rfl)
theorem aw_251_in : aw_251 ∈ lw_tbl := (ax_wl_at (k := 7) (j := 209) rfl)
theorem aw_252_in : aw_252 ∈ lw_tbl := (ax_wl_at (k := 7) (j := 227) rfl)
theorem aw_253_in : aw_253 ∈ lw_tbl := (ax_wl_at (k := 7) (j := 229) rfl)
theorem aw_254_in : aw_254 ∈ lw_tbl := (ax_wl_at (k := 0) (j := 130) rfl)
theorem aw_255_in : aw_255 ∈ lw_tbl := (ax_wl_at (k := 7) (j := 231) rfl)
theorem aw_256_in : aw_256 ∈ lw_tbl := (ax_wl_at (k := 7) (j := 233) rfl)
theorem aw_257_in : aw_257 ∈ lw_tbl := (ax_wl_at (k := 0) (j := 131) rfl)
theorem aw_258_in : aw_258 ∈ lw_tbl := (ax_wl_at (k := 7) (j := 235) rfl)
theorem aw_259_in : aw_259 ∈ lw_tbl := (ax_wl_at (k := 7) (j := 236) rfl)
theorem aw_260_in : aw_260 ∈ lw_tbl := (ax_wl_at (k := 8) (j := 10) rfl)
theorem aw_261_in : aw_261 ∈ lw_tbl := (ax_wl_at (k := 8) (j := 12) rfl)
theorem aw_262_in : aw_262 ∈ lw_tbl := (ax_wl_at (k := 0) (j := 132) rfl)
theorem aw_263_in : aw_263 ∈ lw_tbl := (ax_wl_at (k := 6) (j := 8) rfl)
theorem aw_264_in : aw_264 ∈ lw_tbl := (ax_wl_at (k := 6) (j := 7) rfl)
theorem aw_265_in : aw_265 ∈ lw_tbl := (ax_wl_at (k := 8) (j := 30) rfl)
theorem aw_266_in : aw_266 ∈ lw_tbl := (ax_wl_at (k := 8) (j := 32) rfl)
theorem aw_267_in : aw_267 ∈ lw_tbl := (ax_wl_at (k := 0) (j := 134) rfl)
theorem aw_268_in : aw_268 ∈ lw_tbl := (ax_wl_at (k := 8) (j := 26) rfl)
theorem aw_269_in : aw_269 ∈ lw_tbl := (ax_wl_at (k := 8) (j := 28) rfl)
theorem aw_270_in : aw_270 ∈ lw_tbl := (ax_wl_at (k := 0) (j := 133) rfl)
theorem aw_271_in : aw_271 ∈ lw_tbl := (ax_wl_at (k := 6) (j := 9) rfl)
theorem aw_272_in : aw_272 ∈ lw_tbl := (ax_wl_at (k := 8) (j := 54) rfl)
theorem aw_273_in : aw_273 ∈ lw_tbl := (ax_wl_at (k := 8) (j := 46) rfl)
theorem aw_274_in : aw_274 ∈ lw_tbl := (ax_wl_at (k := 8) (j := 48) rfl)
theorem aw_275_in : aw_275 ∈ lw_tbl := (ax_wl_at (k := 0) (j := 136) rfl)
theorem aw_276_in : aw_276 ∈ lw_tbl := (ax_wl_at (k := 8) (j := 50) rfl)
theorem aw_277_in : aw_277 ∈ lw_tbl := (ax_wl_at (k := 8) (j := 52) rfl)
theorem aw_278_in : aw_278 ∈ lw_tbl := (ax_wl_at (k := 0) (j := 137) rfl)
theorem aw_279_in : aw_279 ∈ lw_tbl := (ax_wl_at (k := 8) (j := 42) rfl)
theorem aw_280_in : aw_280 ∈ lw_tbl := (ax_wl_at (k := 8) (j := 44) rfl)
theorem aw_281_in : aw_281 ∈ lw_tbl := (ax_wl_at (k := 0) (j := 135) rfl)
theorem aw_282_in : aw_282 ∈ lw_tbl := (ax_wl_at (k := 8) (j := 59) rfl)
theorem aw_283_in : aw_283 ∈ lw_tbl := (ax_wl_at (k := 8) (j := 61) rfl)
theorem aw_284_in : aw_284 ∈ lw_tbl := (ax_wl_at (k := 0) (j := 138) rfl)
theorem aw_285_in : aw_285 ∈ lw_tbl := (ax_wl_at (k := 6) (j := 10) rfl)
theorem aw_286_in : aw_286 ∈ lw_tbl := (ax_wl_at (k := 6) (j := 11) rfl)
theorem aw_287_in : aw_287 ∈ lw_tbl := (ax_wl_at (k := 8) (j := 71) rfl)
theorem aw_288_in : aw_288 ∈ lw_tbl := (ax_wl_at (k := 8) (j := 73) rfl)
theorem aw_289_in : aw_289 ∈ lw_tbl := (ax_wl_at (k := 0) (j := 140) rfl)
theorem aw_290_in : aw_290 ∈ lw_tbl := (ax_wl_at (k := 8) (j := 67) rfl)
theorem aw_291_in : aw_291 ∈ lw_tbl := (ax_wl_at (k := 8) (j := 69) rfl)
theorem aw_292_in : aw_292 ∈ lw_tbl := (ax_wl_at (k := 0) (j := 139) rfl)
theorem aw_293_in : aw_293 ∈ lw_tbl := (ax_wl_at (k := 8) (j := 75) rfl)
theorem aw_294_in : aw_294 ∈ lw_tbl := (ax_wl_at (k := 8) (j := 77) rfl)
theorem aw_295_in : aw_295 ∈ lw_tbl := (ax_wl_at (k := 0) (j := 141) rfl)
theorem aw_296_in : aw_296 ∈ lw_tbl := (ax_wl_at (k := 5) (j := 233) rfl)
theorem aw_297_in : aw_297 ∈ lw_tbl := (ax_wl_at (k := 5) (j := 239) rfl)
theorem aw_298_in : aw_298 ∈ lw_tbl := (ax_wl_at (k := 6) (j := 0) rfl)
theorem aw_299_in : aw_299 ∈ lw_tbl := (ax_wl_at (k := 2) (j := 55) rfl)
theorem aw_300_in : aw_300 ∈ lw_tbl := (ax_wl_at (k := 2) (j := 110) rfl)
theorem aw_301_in : aw_301 ∈ lw_tbl := (ax_wl_at (k := 2) (j := 112) rfl)
theorem aw_302_in : aw_302 ∈ lw_tbl := (ax_wl_at (k := 0) (j := 0) rfl)
theorem aw_303_in : aw_303 ∈ lw_tbl := (ax_wl_at (k := 2) (j := 58) rfl)
theorem aw_304_in : aw_304 ∈ lw_tbl := (ax_wl_at (k := 2) (j := 122) rfl)
theorem aw_305_in : aw_305 ∈ lw_tbl := (ax_wl_at (k := 2) (j := 123) rfl)
theorem aw_306_in : aw_306 ∈ lw_tbl := (ax_wl_at (k := 2) (j := 124) rfl)
theorem aw_307_in : aw_307 ∈ lw_tbl := (ax_wl_at (k := 2) (j := 56) rfl)
theorem aw_308_in : aw_308 ∈ lw_tbl := (ax_wl_at (k := 2) (j := 126) rfl)
theorem aw_309_in : aw_309 ∈ lw_tbl := (ax_wl_at (k := 2) (j := 127) rfl)
theorem aw_310_in : aw_310 ∈ lw_tbl := (ax_wl_at (k := 2) (j := 128) rfl)
theorem aw_311_in : aw_311 ∈ lw_tbl := (ax_wl_at (k := 1) (j := 46) rfl)
theorem aw_312_in : aw_312 ∈ lw_tbl := (ax_wl_at (k := 2) (j := 57) rfl)
theorem aw_313_in : aw_313 ∈ lw_tbl := (ax_wl_at (k := 3) (j := 60) rfl)
theorem aw_314_in : aw_314 ∈ lw_tbl := (ax_wl_at (k := 3) (j := 61) rfl)
theorem aw_315_in : aw_315 ∈ lw_tbl := (ax_wl_at (k := 3) (j := 62) rfl)
theorem aw_316_in : aw_316 ∈ lw_tbl := (ax_wl_at (k := 2) (j := 59) rfl)
theorem aw_317_in : aw_317 ∈ lw_tbl := (ax_wl_at (k := 3) (j := 71) rfl)
theorem aw_318_in : aw_318 ∈ lw_tbl := (ax_wl_at (k := 3) (j := 72) rfl)
theorem aw_319_in : aw_319 ∈ lw_tbl := (ax_wl_at (k := 3) (j := 73) rfl)
theorem aw_320_in : aw_320 ∈ lw_tbl := (ax_wl_at (k := 2) (j := 61) rfl)
theorem aw_321_in : aw_321 ∈ lw_tbl := (ax_wl_at (k := 3) (j := 75) rfl)
theorem aw_322_in : aw_322 ∈ lw_tbl := (ax_wl_at (k := 3) (j := 76) rfl)
theorem aw_323_in : aw_323 ∈ lw_tbl := (ax_wl_at (k := 3) (j := 77) rfl)
theorem aw_324_in : aw_324 ∈ lw_tbl := (ax_wl_at (k := 2) (j := 65) rfl)
theorem aw_325_in : aw_325 ∈ lw_tbl := (ax_wl_at (k := 1) (j := 42) rfl)
theorem aw_326_in : aw_326 ∈ lw_tbl := (ax_wl_at (k := 2) (j := 60) rfl)
theorem aw_327_in : aw_327 ∈ lw_tbl := (ax_wl_at (k := 3) (j := 96) rfl)
theorem aw_328_in : aw_328 ∈ lw_tbl := (ax_wl_at (k := 3) (j := 97) rfl)
theorem aw_329_in : aw_329 ∈ lw_tbl := (ax_wl_at (k := 3) (j := 98) rfl)
theorem aw_330_in : aw_330 ∈ lw_tbl := (ax_wl_at (k := 3) (j := 130) rfl)
theorem aw_331_in : aw_331 ∈ lw_tbl := (ax_wl_at (k := 3) (j := 131) rfl)
theorem aw_332_in : aw_332 ∈ lw_tbl := (ax_wl_at (k := 3) (j := 132) rfl)
theorem aw_333_in : aw_333 ∈ lw_tbl := (ax_wl_at (k := 1) (j := 44) rfl)
theorem aw_334_in : aw_334 ∈ lw_tbl := (ax_wl_at (k := 3) (j := 152) rfl)
theorem aw_335_in : aw_335 ∈ lw_tbl := (ax_wl_at (k := 3) (j := 154) rfl)
theorem aw_336_in : aw_336 ∈ lw_tbl := (ax_wl_at (k := 0) (j := 21) rfl)
theorem aw_337_in : aw_337 ∈ lw_tbl := (ax_wl_at (k := 3) (j := 178) rfl)
theorem aw_338_in : aw_338 ∈ lw_tbl := (ax_wl_at (k := 3) (j := 179) rfl)
theorem aw_339_in : aw_339 ∈ lw_tbl := (ax_wl_at (k := 3) (j := 180) rfl)
theorem aw_340_in : aw_340 ∈ lw_tbl := (ax_wl_at (k := 4) (j := 108) rfl)
theorem aw_341_in : aw_341 ∈ lw_tbl := (ax_wl_at (k := 4) (j := 110) rfl)
theorem aw_342_in : aw_342 ∈ lw_tbl := (ax_wl_at (k := 0) (j := 47) rfl)
theorem aw_343_in : aw_343 ∈ lw_tbl := (ax_wl_at (k := 4) (j := 214) rfl)
theorem aw_344_in : aw_344 ∈ lw_tbl := (ax_wl_at (k := 4) (j := 153) rfl)
theorem aw_345_in : aw_345 ∈ lw_tbl := (ax_wl_at (k := 4) (j := 154) rfl)
theorem aw_346_in : aw_346 ∈ lw_tbl := (ax_wl_at (k := 4) (j := 215) rfl)
theorem aw_347_in : aw_347 ∈ lw_tbl := (ax_wl_at (k := 4) (j := 161) rfl)
theorem aw_348_in : aw_348 ∈ lw_tbl := (ax_wl_at (k := 4) (j := 162) rfl)
theorem aw_349_in : aw_349 ∈ lw_tbl := (ax_wl_at (k := 4) (j := 116) rfl)
theorem aw_350_in : aw_350 ∈ lw_tbl := (ax_wl_at (k := 4) (j := 83) rfl)
theorem aw_351_in : aw_351 ∈ lw_tbl := (ax_wl_at (k := 4) (j := 84) rfl)
theorem aw_352_in : aw_352 ∈ lw_tbl := (ax_wl_at (k := 1) (j := 157) rfl)
theorem aw_353_in : aw_353 ∈ lw_tbl := (ax_wl_at (k := 3) (j := 147) rfl)
theorem aw_354_in : aw_354 ∈ lw_tbl := (ax_wl_at (k := 3) (j := 13) rfl)
theorem aw_355_in : aw_355 ∈ lw_tbl := (ax_wl_at (k := 2) (j := 67) rfl)
theorem aw_356_in : aw_356 ∈ lw_tbl := (ax_wl_at (k := 5) (j := 159) rfl)
theorem aw_357_in : aw_357 ∈ lw_tbl := (ax_wl_at (k := 5) (j := 160) rfl)
theorem aw_358_in : aw_358 ∈ lw_tbl := (ax_wl_at (k := 5) (j := 161) rfl)
theorem aw_359_in : aw_359 ∈ lw_tbl := (ax_wl_at (k := 5) (j := 27) rfl)
theorem aw_360_in : aw_360 ∈ lw_tbl := (ax_wl_at (k := 5) (j := 29) rfl)
theorem aw_361_in : aw_361 ∈ lw_tbl := (ax_wl_at (k := 0) (j := 54) rfl)
theorem aw_362_in : aw_362 ∈ lw_tbl := (ax_wl_at (k := 3) (j := 170) rfl)
theorem aw_363_in : aw_363 ∈ lw_tbl := (ax_wl_at (k := 3) (j := 166) rfl)
theorem aw_364_in : aw_364 ∈ lw_tbl := (ax_wl_at (k := 3) (j := 167) rfl)
theorem aw_365_in : aw_365 ∈ lw_tbl := (ax_wl_at (k := 3) (j := 143) rfl)
theorem aw_366_in : aw_366 ∈ lw_tbl := (ax_wl_at (k := 3) (j := 145) rfl)
theorem aw_367_in : aw_367 ∈ lw_tbl := (ax_wl_at (k := 0) (j := 20) rfl)
theorem aw_368_in : aw_368 ∈ lw_tbl := (ax_wl_at (k := 1) (j := 166) rfl)
theorem aw_369_in : aw_369 ∈ lw_tbl := (ax_wl_at (k := 3) (j := 156) rfl)
theorem aw_370_in : aw_370 ∈ lw_tbl := (ax_wl_at (k := 3) (j := 157) rfl)
theorem aw_371_in : aw_371 ∈ lw_tbl := (ax_wl_at (k := 3) (j := 158) rfl)
theorem aw_372_in : aw_372 ∈ lw_tbl := (ax_wl_at (k := 3) (j := 171) rfl)
theorem aw_373_in : aw_373 ∈ lw_tbl := (ax_wl_at (k := 3) (j := 172) rfl)
theorem aw_374_in : aw_374 ∈ lw_tbl := (ax_wl_at (k := 3) (j := 182) rfl)
theorem aw_375_in : aw_375 ∈ lw_tbl := (ax_wl_at (k := 3) (j := 184) rfl)
theorem aw_376_in : aw_376 ∈ lw_tbl := (ax_wl_at (k := 0) (j := 23) rfl)
theorem aw_377_in : aw_377 ∈ lw_tbl := (ax_wl_at (k := 3) (j := 194) rfl)
theorem aw_378_in : aw_378 ∈ lw_tbl := (ax_wl_at (k := 3) (j := 195) rfl)
theorem aw_379_in : aw_379 ∈ lw_tbl := (ax_wl_at (k := 3) (j := 196) rfl)
theorem aw_380_in : aw_380 ∈ lw_tbl := (ax_wl_at (k := 3) (j := 218) rfl)
theorem aw_381_in : aw_381 ∈ lw_tbl := (ax_wl_at (k := 3) (j := 220) rfl)
theorem aw_382_in : aw_382 ∈ lw_tbl := (ax_wl_at (k := 0) (j := 27) rfl)
theorem aw_383_in : aw_383 ∈ lw_tbl := (ax_wl_at (k := 3) (j := 226) rfl)
theorem aw_384_in : aw_384 ∈ lw_tbl := (ax_wl_at (k := 3) (j := 227) rfl)
theorem aw_385_in : aw_385 ∈ lw_tbl := (ax_wl_at (k := 3) (j := 228) rfl)
theorem aw_386_in : aw_386 ∈ lw_tbl := (ax_wl_at (k := 1) (j := 174) rfl)
theorem aw_387_in : aw_387 ∈ lw_tbl := (ax_wl_at (k := 4) (j := 60) rfl)
theorem aw_388_in : aw_388 ∈ lw_tbl := (ax_wl_at (k := 4) (j := 61) rfl)
theorem aw_389_in : aw_389 ∈ lw_tbl := (ax_wl_at (k := 4) (j := 62) rfl)
theorem aw_390_in : aw_390 ∈ lw_tbl := (ax_wl_at (k := 4) (j := 69) rfl)
theorem aw_391_in : aw_391 ∈ lw_tbl := (ax_wl_at (k := 4) (j := 71) rfl)
theorem aw_392_in : aw_392 ∈ lw_tbl := (ax_wl_at (k := 0) (j := 42) rfl)
theorem aw_393_in : aw_393 ∈ lw_tbl := (ax_wl_at (k := 4) (j := 73) rfl)
theorem aw_394_in : aw_394 ∈ lw_tbl := (ax_wl_at (k := 4) (j := 74) rfl)
theorem aw_395_in : aw_395 ∈ lw_tbl := (ax_wl_at (k := 4) (j := 75) rfl)
theorem aw_396_in : aw_396 ∈ lw_tbl := (ax_wl_at (k := 4) (j := 112) rfl)
theorem aw_397_in : aw_397 ∈ lw_tbl := (ax_wl_at (k := 4) (j := 113) rfl)
theorem aw_398_in : aw_398 ∈ lw_tbl := (ax_wl_at (k := 4) (j := 114) rfl)
theorem aw_399_in : aw_399 ∈ lw_tbl := (ax_wl_at (k := 1) (j := 154) rfl)
theorem aw_400_in : aw_400 ∈ lw_tbl := (ax_wl_at (k := 4) (j := 117) rfl)
theorem aw_401_in : aw_401 ∈ lw_tbl := (ax_wl_at (k := 3) (j := 24) rfl)
theorem aw_402_in : aw_402 ∈ lw_tbl := (ax_wl_at (k := 4) (j := 122) rfl)
theorem aw_403_in : aw_403 ∈ lw_tbl := (ax_wl_at (k := 3) (j := 81) rfl)
theorem aw_404_in : aw_404 ∈ lw_tbl := (ax_wl_at (k := 3) (j := 82) rfl)
theorem aw_405_in : aw_405 ∈ lw_tbl := (ax_wl_at (k := 2) (j := 64) rfl)
theorem aw_406_in : aw_406 ∈ lw_tbl := (ax_wl_at (k := 3) (j := 186) rfl)
theorem aw_407_in : aw_407 ∈ lw_tbl := (ax_wl_at (k := 3) (j := 188) rfl)
theorem aw_408_in : aw_408 ∈ lw_tbl := (ax_wl_at (k := 0) (j := 24) rfl)
theorem aw_409_in : aw_409 ∈ lw_tbl := (ax_wl_at (k := 3) (j := 190) rfl)
theorem aw_410_in : aw_410 ∈ lw_tbl := (ax_wl_at (k := 3) (j := 191) rfl)
theorem aw_411_in : aw_411 ∈ lw_tbl := (ax_wl_at (k := 3) (j := 192) rfl)
theorem aw_412_in : aw_412 ∈ lw_tbl := (ax_wl_at (k := 1) (j := 172) rfl)
theorem aw_413_in : aw_413 ∈ lw_tbl := (ax_wl_at (k := 1) (j := 176) rfl)
theorem aw_414_in : aw_414 ∈ lw_tbl := (ax_wl_at (k := 1) (j := 178) rfl)
theorem aw_415_in : aw_415 ∈ lw_tbl := (ax_wl_at (k := 1) (j := 180) rfl)
theorem aw_416_in : aw_416 ∈ lw_tbl := (ax_wl_at (k := 4) (j := 131) rfl)
theorem aw_417_in : aw_417 ∈ lw_tbl := (ax_wl_at (k := 4) (j := 132) rfl)
theorem aw_418_in : aw_418 ∈ lw_tbl := (ax_wl_at (k := 4) (j := 133) rfl)
theorem aw_419_in : aw_419 ∈ lw_tbl := (ax_wl_at (k := 4) (j := 135) rfl)
theorem aw_420_in : aw_420 ∈ lw_tbl := (ax_wl_at (k := 4) (j := 136) rfl)
theorem aw_421_in : aw_421 ∈ lw_tbl := (ax_wl_at (k := 4) (j := 137) rfl)
theorem aw_422_in : aw_422 ∈ lw_tbl := (ax_wl_at (k := 4) (j := 166) rfl)
theorem aw_423_in : aw_423 ∈ lw_tbl := (ax_wl_at (k := 4) (j := 167) rfl)
theorem aw_424_in : aw_424 ∈ lw_tbl := (ax_wl_at (k := 4) (j := 168) rfl)
theorem aw_425_in : aw_425 ∈ lw_tbl := (ax_wl_at (k := 1) (j := 182) rfl)
theorem aw_426_in : aw_426 ∈ lw_tbl := (ax_wl_at (k := 1) (j := 184) rfl)
theorem aw_427_in : aw_427 ∈ lw_tbl := (ax_wl_at (k := 1) (j := 170) rfl)
theorem aw_428_in : aw_428 ∈ lw_tbl := (ax_wl_at (k := 1) (j := 79) rfl)
theorem aw_429_in : aw_429 ∈ lw_tbl := (ax_wl_at (k := 1) (j := 84) rfl)
theorem aw_430_in : aw_430 ∈ lw_tbl := (ax_wl_at (k := 5) (j := 177) rfl)
theorem aw_431_in : aw_431 ∈ lw_tbl := (ax_wl_at (k := 4) (j := 157) rfl)
theorem aw_432_in : aw_432 ∈ lw_tbl := (ax_wl_at (k := 4) (j := 158) rfl)
theorem aw_433_in : aw_433 ∈ lw_tbl := (ax_wl_at (k := 5) (j := 178) rfl)
theorem aw_434_in : aw_434 ∈ lw_tbl := (ax_wl_at (k := 5) (j := 179) rfl)
theorem aw_435_in : aw_435 ∈ lw_tbl := (ax_wl_at (k := 5) (j := 180) rfl)
theorem aw_436_in : aw_436 ∈ lw_tbl := (ax_wl_at (k := 5) (j := 182) rfl)
theorem aw_437_in : aw_437 ∈ lw_tbl := (ax_wl_at (k := 5) (j := 183) rfl)
theorem aw_438_in : aw_438 ∈ lw_tbl := (ax_wl_at (k := 5) (j := 184) rfl)
theorem aw_439_in : aw_439 ∈ lw_tbl := (ax_wl_at (k := 5) (j := 186) rfl)
theorem aw_440_in : aw_440 ∈ lw_tbl := (ax_wl_at (k := 5) (j := 187) rfl)
theorem aw_441_in : aw_441 ∈ lw_tbl := (ax_wl_at (k := 5) (j := 188) rfl)
theorem aw_442_in : aw_442 ∈ lw_tbl := (ax_wl_at (k := 5) (j := 191) rfl)
theorem aw_443_in : aw_443 ∈ lw_tbl := (ax_wl_at (k := 5) (j := 192) rfl)
theorem aw_444_in : aw_444 ∈ lw_tbl := (ax_wl_at (k := 5) (j := 193) rfl)
theorem aw_445_in : aw_445 ∈ lw_tbl := (ax_wl_at (k := 4) (j := 182) rfl)
theorem aw_446_in : aw_446 ∈ lw_tbl := (ax_wl_at (k := 4) (j := 183) rfl)
theorem aw_447_in : aw_447 ∈ lw_tbl := (ax_wl_at (k := 4) (j := 184) rfl)
theorem aw_448_in : aw_448 ∈ lw_tbl := (ax_wl_at (k := 2) (j := 22) rfl)
theorem aw_449_in : aw_449 ∈ lw_tbl := (ax_wl_at (k := 2) (j := 24) rfl)
theorem aw_450_in : aw_450 ∈ lw_tbl := (ax_wl_at (k := 2) (j := 26) rfl)
theorem aw_451_in : aw_451 ∈ lw_tbl := (ax_wl_at (k := 4) (j := 197) rfl)
theorem aw_452_in : aw_452 ∈ lw_tbl := (ax_wl_at (k := 4) (j := 198) rfl)
theorem aw_453_in : aw_453 ∈ lw_tbl := (ax_wl_at (k := 4) (j := 199) rfl)
theorem aw_454_in : aw_454 ∈ lw_tbl := (ax_wl_at (k := 4) (j := 205) rfl)
theorem aw_455_in : aw_455 ∈ lw_tbl := (ax_wl_at (k := 4) (j := 206) rfl)
theorem aw_456_in : aw_456 ∈ lw_tbl := (ax_wl_at (k := 4) (j := 207) rfl)
theorem aw_457_in : aw_457 ∈ lw_tbl := (ax_wl_at (k := 2) (j := 69) rfl)
theorem aw_458_in : aw_458 ∈ lw_tbl := (ax_wl_at (k := 2) (j := 70) rfl)
theorem aw_459_in : aw_459 ∈ lw_tbl := (ax_wl_at (k := 2) (j := 62) rfl)
theorem aw_460_in : aw_460 ∈ lw_tbl := (ax_wl_at (k := 4) (j := 228) rfl)
theorem aw_461_in : aw_461 ∈ lw_tbl := (ax_wl_at (k := 4) (j := 230) rfl)
theorem aw_462_in : aw_462 ∈ lw_tbl := (ax_wl_at (k := 0) (j := 52) rfl)
theorem aw_463_in : aw_463 ∈ lw_tbl := (ax_wl_at (k := 5) (j := 0) rfl)
theorem aw_464_in : aw_464 ∈ lw_tbl := (ax_wl_at (k := 5) (j := 2) rfl)
theorem aw_465_in : aw_465 ∈ lw_tbl := (ax_wl_at (k := 0) (j := 53) rfl)
theorem aw_466_in : aw_466 ∈ lw_tbl := (ax_wl_at (k := 5) (j := 4) rfl)
theorem aw_467_in : aw_467 ∈ lw_tbl := (ax_wl_at (k := 5) (j := 5) rfl)
theorem aw_468_in : aw_468 ∈ lw_tbl := (ax_wl_at (k := 5) (j := 12) rfl)
theorem aw_469_in : aw_469 ∈ lw_tbl := (ax_wl_at (k := 5) (j := 13) rfl)
theorem aw_470_in : aw_470 ∈ lw_tbl := (ax_wl_at (k := 5) (j := 8) rfl)
theorem aw_471_in : aw_471 ∈ lw_tbl := (ax_wl_at (k := 5) (j := 9) rfl)
theorem aw_472_in : aw_472 ∈ lw_tbl := (ax_wl_at (k := 5) (j := 10) rfl)
theorem aw_473_in : aw_473 ∈ lw_tbl := (ax_wl_at (k := 5) (j := 15) rfl)
theorem aw_474_in : aw_474 ∈ lw_tbl := (ax_wl_at (k := 5) (j := 16) rfl)
theorem aw_475_in : aw_475 ∈ lw_tbl := (ax_wl_at (k := 5) (j := 17) rfl)
theorem aw_476_in : aw_476 ∈ lw_tbl := (ax_wl_at (k := 2) (j := 68) rfl)
theorem aw_477_in : aw_477 ∈ lw_tbl := (ax_wl_at (k := 5) (j := 31) rfl)
theorem aw_478_in : aw_478 ∈ lw_tbl := (ax_wl_at (k := 5) (j := 32) rfl)
theorem aw_479_in : aw_479 ∈ lw_tbl := (ax_wl_at (k := 5) (j := 33) rfl)
theorem aw_480_in : aw_480 ∈ lw_tbl := (ax_wl_at (k := 2) (j := 48) rfl)
theorem aw_481_in : aw_481 ∈ lw_tbl := (ax_wl_at (k := 5) (j := 63) rfl)
theorem aw_482_in : aw_482 ∈ lw_tbl := (ax_wl_at (k := 5) (j := 64) rfl)
theorem aw_483_in : aw_483 ∈ lw_tbl := (ax_wl_at (k := 5) (j := 65) rfl)
theorem aw_484_in : aw_484 ∈ lw_tbl := (ax_wl_at (k := 5) (j := 71) rfl)
theorem aw_485_in : aw_485 ∈ lw_tbl := (ax_wl_at (k := 5) (j := 73) rfl)
theorem aw_486_in : aw_486 ∈ lw_tbl := (ax_wl_at (k := 0) (j := 59) rfl)
theorem aw_487_in : aw_487 ∈ lw_tbl := (ax_wl_at (k := 1) (j := 237) rfl)
theorem aw_488_in : aw_488 ∈ lw_tbl := (ax_wl_at (k := 1) (j := 239) rfl)
theorem aw_489_in : aw_489 ∈ lw_tbl := (ax_wl_at (k := 2) (j := 1) rfl)
theorem aw_490_in : aw_490 ∈ lw_tbl := (ax_wl_at (k := 2) (j := 2) rfl)
theorem aw_491_in : aw_491 ∈ lw_tbl := (ax_wl_at (k := 1) (j := 116) rfl)
theorem aw_492_in : aw_492 ∈ lw_tbl := (ax_wl_at (k := 2) (j := 54) rfl)
theorem aw_493_in : aw_493 ∈ lw_tbl := (ax_wl_at (k := 2) (j := 63) rfl)
theorem aw_494_in : aw_494 ∈ lw_tbl := (ax_wl_at (k := 2) (j := 66) rfl)
theorem aw_495_in : aw_495 ∈ lw_tbl := (ax_wl_at (k := 3) (j := 67) rfl)
theorem aw_496_in : aw_496 ∈ lw_tbl := (ax_wl_at (k := 2) (j := 143) rfl)
theorem aw_497_in : aw_497 ∈ lw_tbl := (ax_wl_at (k := 2) (j := 144) rfl)
theorem aw_498_in : aw_498 ∈ lw_tbl := (ax_wl_at (k := 5) (j := 7) rfl)
theorem aw_499_in : aw_499 ∈ lw_tbl := (ax_wl_at (k := 3) (j := 68) rfl)
theorem aw_500_in : aw_500 ∈ lw_tbl := (ax_wl_at (k := 3) (j := 69) rfl)
theorem aw_501_in : aw_501 ∈ lw_tbl := (ax_wl_at (k := 3) (j := 70) rfl)
theorem aw_502_in : aw_502 ∈ lw_tbl := (ax_wl_at (k := 2) (j := 20) rfl)
theorem aw_503_in : aw_503 ∈ lw_tbl := (ax_wl_at (k := 2) (j := 18) rfl)
theorem aw_504_in : aw_504 ∈ lw_tbl := (ax_wl_at (k := 1) (j := 76) rfl)
theorem aw_505_in : aw_505 ∈ lw_tbl := (ax_wl_at (k := 2) (j := 25) rfl)
theorem aw_506_in : aw_506 ∈ lw_tbl := (ax_wl_at (k := 4) (j := 152) rfl)
theorem aw_507_in : aw_507 ∈ lw_tbl := (ax_wl_at (k := 4) (j := 156) rfl)
theorem aw_508_in : aw_508 ∈ lw_tbl := (ax_wl_at (k := 4) (j := 160) rfl)
theorem aw_509_in : aw_509 ∈ lw_tbl := (ax_wl_at (k := 4) (j := 164) rfl)
theorem aw_510_in : aw_510 ∈ lw_tbl := (ax_wl_at (k := 4) (j := 165) rfl)
theorem aw_511_in : aw_511 ∈ lw_tbl := (ax_wl_at (k := 3) (j := 216) rfl)
theorem aw_512_in : aw_512 ∈ lw_tbl := (ax_wl_at (k := 3) (j := 217) rfl)
theorem aw_513_in : aw_513 ∈ lw_tbl := (ax_wl_at (k := 4) (j := 147) rfl)
theorem aw_514_in : aw_514 ∈ lw_tbl := (ax_wl_at (k := 1) (j := 81) rfl)
theorem aw_515_in : aw_515 ∈ lw_tbl := (ax_wl_at (k := 2) (j := 19) rfl)
theorem aw_516_in : aw_516 ∈ lw_tbl := (ax_wl_at (k := 4) (j := 190) rfl)
theorem aw_517_in : aw_517 ∈ lw_tbl := (ax_wl_at (k := 3) (j := 204) rfl)
theorem aw_518_in : aw_518 ∈ lw_tbl := (ax_wl_at (k := 3) (j := 205) rfl)
theorem aw_519_in : aw_519 ∈ lw_tbl := (ax_wl_at (k := 4) (j := 191) rfl)
theorem aw_520_in : aw_520 ∈ lw_tbl := (ax_wl_at (k := 4) (j := 186) rfl)
theorem aw_521_in : aw_521 ∈ lw_tbl := (ax_wl_at (k := 4) (j := 188) rfl)
theorem aw_522_in : aw_522 ∈ lw_tbl := (ax_wl_at (k := 0) (j := 51) rfl)
theorem aw_523_in : aw_523 ∈ lw_tbl := (ax_wl_at (k := 4) (j := 139) rfl)
theorem aw_524_in : aw_524 ∈ lw_tbl := (ax_wl_at (k := 4) (j := 141) rfl)
theorem aw_525_in : aw_525 ∈ lw_tbl := (ax_wl_at (k := 0) (j := 48) rfl)
theorem aw_526_in : aw_526 ∈ lw_tbl := (ax_wl_at (k := 2) (j := 21) rfl)
theorem aw_527_in : aw_527 ∈ lw_tbl := (ax_wl_at (k := 2) (j := 23) rfl)
theorem aw_528_in : aw_528 ∈ lw_tbl := (ax_wl_at (k := 4) (j := 148) rfl)
theorem aw_529_in : aw_529 ∈ lw_tbl := (ax_wl_at (k := 4) (j := 150) rfl)
theorem aw_530_in : aw_530 ∈ lw_tbl := (ax_wl_at (k := 0) (j := 50) rfl)
theorem aw_531_in : aw_531 ∈ lw_tbl := (ax_wl_at (k := 4) (j := 192) rfl)
theorem aw_532_in : aw_532 ∈ lw_tbl := (ax_wl_at (k := 4) (j := 209) rfl)
theorem aw_533_in : aw_533 ∈ lw_tbl := (ax_wl_at (k := 1) (j := 158) rfl)
theorem aw_534_in : aw_534 ∈ lw_tbl := (ax_wl_at (k := 4) (j := 143) rfl)
theorem aw_535_in : aw_535 ∈ lw_tbl := (ax_wl_at (k := 4) (j := 145) rfl)
theorem aw_536_in : aw_536 ∈ lw_tbl := (ax_wl_at (k := 0) (j := 49) rfl)
theorem aw_537_in : aw_537 ∈ lw_tbl := (ax_wl_at (k := 5) (j := 190) rfl)
theorem aw_538_in : aw_538 ∈ lw_tbl := (ax_wl_at (k := 1) (j := 75) rfl)
theorem aw_539_in : aw_539 ∈ lw_tbl := (ax_wl_at (k := 1) (j := 80) rfl)
theorem aw_540_in : aw_540 ∈ lw_tbl := (ax_wl_at (k := 1) (j := 85) rfl)
theorem aw_541_in : aw_541 ∈ lw_tbl := (ax_wl_at (k := 1) (j := 86) rfl)
theorem aw_542_in : aw_542 ∈ lw_tbl := (ax_wl_at (k := 3) (j := 64) rfl)
theorem aw_543_in : aw_543 ∈ lw_tbl := (ax_wl_at (k := 3) (j := 65) rfl)
theorem aw_544_in : aw_544 ∈ lw_tbl := (ax_wl_at (k := 1) (j := 89) rfl)
theorem aw_545_in : aw_545 ∈ lw_tbl := (ax_wl_at (k := 1) (j := 92) rfl)
theorem aw_546_in : aw_546 ∈ lw_tbl := (ax_wl_at (k := 3) (j := 46) rfl)
theorem aw_547_in : aw_547 ∈ lw_tbl := (ax_wl_at (k := 3) (j := 59) rfl)
theorem aw_548_in : aw_548 ∈ lw_tbl := (ax_wl_at (k := 3) (j := 42) rfl)
theorem aw_549_in : aw_549 ∈ lw_tbl := (ax_wl_at (k := 3) (j := 43) rfl)
theorem aw_550_in : aw_550 ∈ lw_tbl := (ax_wl_at (k := 3) (j := 44) rfl)
theorem aw_551_in : aw_551 ∈ lw_tbl := (ax_wl_at (k := 3) (j := 47) rfl)
theorem aw_552_in : aw_552 ∈ lw_tbl := (ax_wl_at (k := 3) (j := 48) rfl)
theorem aw_553_in : aw_553 ∈ lw_tbl := (ax_wl_at (k := 3) (j := 49) rfl)
theorem aw_554_in : aw_554 ∈ lw_tbl := (ax_wl_at (k := 2) (j := 130) rfl)
theorem aw_555_in : aw_555 ∈ lw_tbl := (ax_wl_at (k := 2) (j := 132) rfl)
theorem aw_556_in : aw_556 ∈ lw_tbl := (ax_wl_at (k := 0) (j := 1) rfl)
theorem aw_557_in : aw_557 ∈ lw_tbl := (ax_wl_at (k := 2) (j := 134) rfl)
theorem aw_558_in : aw_558 ∈ lw_tbl := (ax_wl_at (k := 2) (j := 136) rfl)
theorem aw_559_in : aw_559 ∈ lw_tbl := (ax_wl_at (k := 0) (j := 2) rfl)
theorem aw_560_in : aw_560 ∈ lw_tbl := (ax_wl_at (k := 1) (j := 38) rfl)
theorem aw_561_in : aw_561 ∈ lw_tbl := (ax_wl_at (k := 1) (j := 35) rfl)
theorem aw_562_in : aw_562 ∈ lw_tbl := (ax_wl_at (k := 1) (j := 36) rfl)
theorem aw_563_in : aw_563 ∈ lw_tbl := (ax_wl_at (k := 2) (j := 232) rfl)
theorem aw_564_in : aw_564 ∈ lw_tbl := (ax_wl_at (k := 2) (j := 234) rfl)
theorem aw_565_in : aw_565 ∈ lw_tbl := (ax_wl_at (k := 0) (j := 6) rfl)
theorem aw_566_in : aw_566 ∈ lw_tbl := (ax_wl_at (k := 2) (j := 236) rfl)
theorem aw_567_in : aw_567 ∈ lw_tbl := (ax_wl_at (k := 2) (j := 238) rfl)
theorem aw_568_in : aw_568 ∈ lw_tbl := (ax_wl_at (k := 0) (j := 7) rfl)
theorem aw_569_in : aw_569 ∈ lw_tbl := (ax_wl_at (k := 3) (j := 0) rfl)
theorem aw_570_in : aw_570 ∈ lw_tbl := (ax_wl_at (k := 3) (j := 2) rfl)
theorem aw_571_in : aw_571 ∈ lw_tbl := (ax_wl_at (k := 0) (j := 8) rfl)
theorem aw_572_in : aw_572 ∈ lw_tbl := (ax_wl_at (k := 3) (j := 30) rfl)
theorem aw_573_in : aw_573 ∈ lw_tbl := (ax_wl_at (k := 3) (j := 32) rfl)
theorem aw_574_in : aw_574 ∈ lw_tbl := (ax_wl_at (k := 0) (j := 12) rfl)
theorem aw_575_in : aw_575 ∈ lw_tbl := (ax_wl_at (k := 1) (j := 41) rfl)
theorem aw_576_in : aw_576 ∈ lw_tbl := (ax_wl_at (k := 3) (j := 100) rfl)
theorem aw_577_in : aw_577 ∈ lw_tbl := (ax_wl_at (k := 3) (j := 102) rfl)
theorem aw_578_in : aw_578 ∈ lw_tbl := (ax_wl_at (k := 0) (j := 15) rfl)
theorem aw_579_in : aw_579 ∈ lw_tbl := (ax_wl_at (k := 3) (j := 104) rfl)
theorem aw_580_in : aw_580 ∈ lw_tbl := (ax_wl_at (k := 3) (j := 106) rfl)
theorem aw_581_in : aw_581 ∈ lw_tbl := (ax_wl_at (k := 0) (j := 16) rfl)
theorem aw_582_in : aw_582 ∈ lw_tbl := (ax_wl_at (k := 3) (j := 26) rfl)
theorem aw_583_in : aw_583 ∈ lw_tbl := (ax_wl_at (k := 3) (j := 28) rfl)
theorem aw_584_in : aw_584 ∈ lw_tbl := (ax_wl_at (k := 0) (j := 11) rfl)
theorem aw_585_in : aw_585 ∈ lw_tbl := (ax_wl_at (k := 3) (j := 117) rfl)
theorem aw_586_in : aw_586 ∈ lw_tbl := (ax_wl_at (k := 3) (j := 119) rfl)
theorem aw_587_in : aw_587 ∈ lw_tbl := (ax_wl_at (k := 0) (j := 18) rfl)
theorem aw_588_in : aw_588 ∈ lw_tbl := (ax_wl_at (k := 1) (j := 37) rfl)
theorem aw_589_in : aw_589 ∈ lw_tbl := (ax_wl_at (k := 1) (j := 43) rfl)
theorem aw_590_in : aw_590 ∈ lw_tbl := (ax_wl_at (k := 1) (j := 45) rfl)
theorem aw_591_in : aw_591 ∈ lw_tbl := (ax_wl_at (k := 1) (j := 39) rfl)
theorem aw_592_in : aw_592 ∈ lw_tbl := (ax_wl_at (k := 1) (j := 77) rfl)
theorem aw_593_in : aw_593 ∈ lw_tbl := (ax_wl_at (k := 3) (j := 4) rfl)
theorem aw_594_in : aw_594 ∈ lw_tbl := (ax_wl_at (k := 3) (j := 6) rfl)
theorem aw_595_in : aw_595 ∈ lw_tbl := (ax_wl_at (k := 0) (j := 9) rfl)
theorem aw_596_in : aw_596 ∈ lw_tbl := (ax_wl_at (k := 3) (j := 8) rfl)
theorem aw_597_in : aw_597 ∈ lw_tbl := (ax_wl_at (k := 3) (j := 10) rfl)
theorem aw_598_in : aw_598 ∈ lw_tbl := (ax_wl_at (k := 0) (j := 10) rfl)
theorem aw_599_in : aw_599 ∈ lw_tbl := (ax_wl_at (k := 2) (j := 138) rfl)
theorem aw_600_in : aw_600 ∈ lw_tbl := (ax_wl_at (k := 2) (j := 140) rfl)
theorem aw_601_in : aw_601 ∈ lw_tbl := (ax_wl_at (k := 0) (j := 3) rfl)
theorem aw_602_in : aw_602 ∈ lw_tbl := (ax_wl_at (k := 3) (j := 19) rfl)
theorem aw_603_in : aw_603 ∈ lw_tbl := (ax_wl_at (k := 3) (j := 20) rfl)
theorem aw_604_in : aw_604 ∈ lw_tbl := (ax_wl_at (k := 3) (j := 21) rfl)
theorem aw_605_in : aw_605 ∈ lw_tbl := (ax_wl_at (k := 1) (j := 88) rfl)
theorem aw_606_in : aw_606 ∈ lw_tbl := (ax_wl_at (k := 3) (j := 23) rfl)
theorem aw_607_in : aw_607 ∈ lw_tbl := (ax_wl_at (k := 1) (j := 82) rfl)
theorem aw_608_in : aw_608 ∈ lw_tbl := (ax_wl_at (k := 3) (j := 34) rfl)
theorem aw_609_in : aw_609 ∈ lw_tbl := (ax_wl_at (k := 3) (j := 36) rfl)
theorem aw_610_in : aw_610 ∈ lw_tbl := (ax_wl_at (k := 0) (j := 13) rfl)
theorem aw_611_in : aw_611 ∈ lw_tbl := (ax_wl_at (k := 3) (j := 38) rfl)
theorem aw_612_in : aw_612 ∈ lw_tbl := (ax_wl_at (k := 3) (j := 39) rfl)
theorem aw_613_in : aw_613 ∈ lw_tbl := (ax_wl_at (k := 3) (j := 40) rfl)
theorem aw_614_in : aw_614 ∈ lw_tbl := (ax_wl_at (k := 3) (j := 51) rfl)
theorem aw_615_in : aw_615 ∈ lw_tbl := (ax_wl_at (k := 3) (j := 53) rfl)
theorem aw_616_in : aw_616 ∈ lw_tbl := (ax_wl_at (k := 0) (j := 14) rfl)
theorem aw_617_in : aw_617 ∈ lw_tbl := (ax_wl_at (k := 3) (j := 55) rfl)
theorem aw_618_in : aw_618 ∈ lw_tbl := (ax_wl_at (k := 3) (j := 56) rfl)
theorem aw_619_in : aw_619 ∈ lw_tbl := (ax_wl_at (k := 3) (j := 57) rfl)
theorem aw_620_in : aw_620 ∈ lw_tbl := (ax_wl_at (k := 3) (j := 108) rfl)
theorem aw_621_in : aw_621 ∈ lw_tbl := (ax_wl_at (k := 3) (j := 110) rfl)
theorem aw_622_in : aw_622 ∈ lw_tbl := (ax_wl_at (k := 0) (j := 17) rfl)
theorem aw_623_in : aw_623 ∈ lw_tbl := (ax_wl_at (k := 1) (j := 115) rfl)
theorem aw_624_in : aw_624 ∈ lw_tbl := (ax_wl_at (k := 1) (j := 40) rfl)
theorem aw_625_in : aw_625 ∈ lw_tbl := (ax_wl_at (k := 3) (j := 112) rfl)
theorem aw_626_in : aw_626 ∈ lw_tbl := (ax_wl_at (k := 3) (j := 113) rfl)
theorem aw_627_in : aw_627 ∈ lw_tbl := (ax_wl_at (k := 3) (j := 114) rfl)
theorem aw_628_in : aw_628 ∈ lw_tbl := (ax_wl_at (k := 3) (j := 121) rfl)
theorem aw_629_in : aw_629 ∈ lw_tbl := (ax_wl_at (k := 3) (j := 123) rfl)
theorem aw_630_in : aw_630 ∈ lw_tbl := (ax_wl_at (k := 0) (j := 19) rfl)
theorem aw_631_in : aw_631 ∈ lw_tbl := (ax_wl_at (k := 3) (j := 125) rfl)
theorem aw_632_in : aw_632 ∈ lw_tbl := (ax_wl_at (k := 3) (j := 126) rfl)
theorem aw_633_in : aw_633 ∈ lw_tbl := (ax_wl_at (k := 3) (j := 127) rfl)
theorem aw_634_in : aw_634 ∈ lw_tbl := (ax_wl_at (k := 3) (j := 12) rfl)
theorem aw_635_in : aw_635 ∈ lw_tbl := (ax_wl_at (k := 3) (j := 15) rfl)
theorem aw_636_in : aw_636 ∈ lw_tbl := (ax_wl_at (k := 3) (j := 16) rfl)
theorem aw_637_in : aw_637 ∈ lw_tbl := (ax_wl_at (k := 3) (j := 17) rfl)
theorem aw_638_in : aw_638 ∈ lw_tbl := (ax_wl_at (k := 1) (j := 34) rfl)
theorem aw_639_in : aw_639 ∈ lw_tbl := (ax_wl_at (k := 2) (j := 142) rfl)
theorem aw_640_in : aw_640 ∈ lw_tbl := (ax_wl_at (k := 2) (j := 145) rfl)
theorem aw_641_in : aw_641 ∈ lw_tbl := (ax_wl_at (k := 2) (j := 147) rfl)
theorem aw_642_in : aw_642 ∈ lw_tbl := (ax_wl_at (k := 0) (j := 4) rfl)
theorem aw_643_in : aw_643 ∈ lw_tbl := (ax_wl_at (k := 2) (j := 155) rfl)
theorem aw_644_in : aw_644 ∈ lw_tbl := (ax_wl_at (k := 2) (j := 157) rfl)
theorem aw_645_in : aw_645 ∈ lw_tbl := (ax_wl_at (k := 0) (j := 5) rfl)
theorem aw_646_in : aw_646 ∈ lw_tbl := (ax_wl_at (k := 2) (j := 149) rfl)
theorem aw_647_in : aw_647 ∈ lw_tbl := (ax_wl_at (k := 2) (j := 150) rfl)
theorem aw_648_in : aw_648 ∈ lw_tbl := (ax_wl_at (k := 2) (j := 152) rfl)
theorem aw_649_in : aw_649 ∈ lw_tbl := (ax_wl_at (k := 2) (j := 153) rfl)
theorem aw_650_in : aw_650 ∈ lw_tbl := (ax_wl_at (k := 2) (j := 159) rfl)
theorem aw_651_in : aw_651 ∈ lw_tbl := (ax_wl_at (k := 2) (j := 160) rfl)
theorem aw_652_in : aw_652 ∈ lw_tbl := (ax_wl_at (k := 2) (j := 184) rfl)
theorem aw_653_in : aw_653 ∈ lw_tbl := (ax_wl_at (k := 2) (j := 185) rfl)
theorem aw_654_in : aw_654 ∈ lw_tbl := (ax_wl_at (k := 2) (j := 186) rfl)
theorem aw_655_in : aw_655 ∈ lw_tbl := (ax_wl_at (k := 2) (j := 194) rfl)
theorem aw_656_in : aw_656 ∈ lw_tbl := (ax_wl_at (k := 2) (j := 195) rfl)
theorem aw_657_in : aw_657 ∈ lw_tbl := (ax_wl_at (k := 2) (j := 196) rfl)
theorem aw_658_in : aw_658 ∈ lw_tbl := (ax_wl_at (k := 1) (j := 114) rfl)
theorem aw_659_in : aw_659 ∈ lw_tbl := (ax_wl_at (k := 1) (j := 117) rfl)
theorem aw_660_in : aw_660 ∈ lw_tbl := (ax_wl_at (k := 3) (j := 134) rfl)
theorem aw_661_in : aw_661 ∈ lw_tbl := (ax_wl_at (k := 1) (j := 118) rfl)
theorem aw_662_in : aw_662 ∈ lw_tbl := (ax_wl_at (k := 1) (j := 119) rfl)
theorem aw_663_in : aw_663 ∈ lw_tbl := (ax_wl_at (k := 1) (j := 120) rfl)
theorem aw_664_in : aw_664 ∈ lw_tbl := (ax_wl_at (k := 1) (j := 121) rfl)
theorem aw_665_in : aw_665 ∈ lw_tbl := (ax_wl_at (k := 3) (j := 116) rfl)
theorem aw_666_in : aw_666 ∈ lw_tbl := (ax_wl_at (k := 3) (j := 129) rfl)
theorem aw_667_in : aw_667 ∈ lw_tbl := (ax_wl_at (k := 1) (j := 124) rfl)
theorem aw_668_in : aw_668 ∈ lw_tbl := (ax_wl_at (k := 4) (j := 77) rfl)
theorem aw_669_in : aw_669 ∈ lw_tbl := (ax_wl_at (k := 3) (j := 235) rfl)
theorem aw_670_in : aw_670 ∈ lw_tbl := (ax_wl_at (k := 3) (j := 236) rfl)
theorem aw_671_in : aw_671 ∈ lw_tbl := (ax_wl_at (k := 1) (j := 165) rfl)
theorem aw_672_in : aw_672 ∈ lw_tbl := (ax_wl_at (k := 1) (j := 122) rfl)
theorem aw_673_in : aw_673 ∈ lw_tbl := (ax_wl_at (k := 1) (j := 123) rfl)
theorem aw_674_in : aw_674 ∈ lw_tbl := (ax_wl_at (k := 4) (j := 78) rfl)
theorem aw_675_in : aw_675 ∈ lw_tbl := (ax_wl_at (k := 4) (j := 80) rfl)
theorem aw_676_in : aw_676 ∈ lw_tbl := (ax_wl_at (k := 0) (j := 43) rfl)
theorem aw_677_in : aw_677 ∈ lw_tbl := (ax_wl_at (k := 4) (j := 95) rfl)
theorem aw_678_in : aw_678 ∈ lw_tbl := (ax_wl_at (k := 4) (j := 97) rfl)
theorem aw_679_in : aw_679 ∈ lw_tbl := (ax_wl_at (k := 0) (j := 46) rfl)
theorem aw_680_in : aw_680 ∈ lw_tbl := (ax_wl_at (k := 4) (j := 99) rfl)
theorem aw_681_in : aw_681 ∈ lw_tbl := (ax_wl_at (k := 1) (j := 162) rfl)
theorem aw_682_in : aw_682 ∈ lw_tbl := (ax_wl_at (k := 4) (j := 82) rfl)
theorem aw_683_in : aw_683 ∈ lw_tbl := (ax_wl_at (k := 4) (j := 86) rfl)
theorem aw_684_in : aw_684 ∈ lw_tbl := (ax_wl_at (k := 4) (j := 87) rfl)
theorem aw_685_in : aw_685 ∈ lw_tbl := (ax_wl_at (k := 4) (j := 89) rfl)
theorem aw_686_in : aw_686 ∈ lw_tbl := (ax_wl_at (k := 0) (j := 44) rfl)
theorem aw_687_in : aw_687 ∈ lw_tbl := (ax_wl_at (k := 4) (j := 91) rfl)
theorem aw_688_in : aw_688 ∈ lw_tbl := (ax_wl_at (k := 4) (j := 93) rfl)
theorem aw_689_in : aw_689 ∈ lw_tbl := (ax_wl_at (k := 0) (j := 45) rfl)
theorem aw_690_in : aw_690 ∈ lw_tbl := (ax_wl_at (k := 1) (j := 151) rfl)
theorem aw_691_in : aw_691 ∈ lw_tbl := (ax_wl_at (k := 1) (j := 90) rfl)
theorem aw_692_in : aw_692 ∈ lw_tbl := (ax_wl_at (k := 1) (j := 160) rfl)
theorem aw_693_in : aw_693 ∈ lw_tbl := (ax_wl_at (k := 1) (j := 153) rfl)
theorem aw_694_in : aw_694 ∈ lw_tbl := (ax_wl_at (k := 1) (j := 152) rfl)
theorem aw_695_in : aw_695 ∈ lw_tbl := (ax_wl_at (k := 3) (j := 79) rfl)
theorem aw_696_in : aw_696 ∈ lw_tbl := (ax_wl_at (k := 1) (j := 155) rfl)
theorem aw_697_in : aw_697 ∈ lw_tbl := (ax_wl_at (k := 1) (j := 156) rfl)
theorem aw_698_in : aw_698 ∈ lw_tbl := (ax_wl_at (k := 1) (j := 159) rfl)
theorem aw_699_in : aw_699 ∈ lw_tbl := (ax_wl_at (k := 1) (j := 171) rfl)
theorem aw_700_in : aw_700 ∈ lw_tbl := (ax_wl_at (k := 1) (j := 161) rfl)
theorem aw_701_in : aw_701 ∈ lw_tbl := (ax_wl_at (k := 1) (j := 163) rfl)
theorem aw_702_in : aw_702 ∈ lw_tbl := (ax_wl_at (k := 1) (j := 164) rfl)
theorem aw_703_in : aw_703 ∈ lw_tbl := (ax_wl_at (k := 1) (j := 168) rfl)
theorem aw_704_in : aw_704 ∈ lw_tbl := (ax_wl_at (k := 1) (j := 175) rfl)
theorem aw_705_in : aw_705 ∈ lw_tbl := (ax_wl_at (k := 1) (j := 169) rfl)
theorem aw_706_in : aw_706 ∈ lw_tbl := (ax_wl_at (k := 1) (j := 173) rfl)
theorem aw_707_in : aw_707 ∈ lw_tbl := (ax_wl_at (k := 1) (j := 177) rfl)
theorem aw_708_in : aw_708 ∈ lw_tbl := (ax_wl_at (k := 1) (j := 179) rfl)
theorem aw_709_in : aw_709 ∈ lw_tbl := (ax_wl_at (k := 1) (j := 181) rfl)
theorem aw_710_in : aw_710 ∈ lw_tbl := (ax_wl_at (k := 1) (j := 183) rfl)
theorem aw_711_in : aw_711 ∈ lw_tbl := (ax_wl_at (k := 1) (j := 150) rfl)
theorem aw_712_in : aw_712 ∈ lw_tbl := (ax_wl_at (k := 1) (j := 93) rfl)
theorem aw_713_in : aw_713 ∈ lw_tbl := (ax_wl_at (k := 3) (j := 80) rfl)
theorem aw_714_in : aw_714 ∈ lw_tbl := (ax_wl_at (k := 3) (j := 84) rfl)
theorem aw_715_in : aw_715 ∈ lw_tbl := (ax_wl_at (k := 3) (j := 85) rfl)
theorem aw_716_in : aw_716 ∈ lw_tbl := (ax_wl_at (k := 3) (j := 87) rfl)
theorem aw_717_in : aw_717 ∈ lw_tbl := (ax_wl_at (k := 3) (j := 88) rfl)
theorem aw_718_in : aw_718 ∈ lw_tbl := (ax_wl_at (k := 3) (j := 89) rfl)
theorem aw_719_in : aw_719 ∈ lw_tbl := (ax_wl_at (k := 3) (j := 160) rfl)
theorem aw_720_in : aw_720 ∈ lw_tbl := (ax_wl_at (k := 3) (j := 91) rfl)
theorem aw_721_in : aw_721 ∈ lw_tbl := (ax_wl_at (k := 1) (j := 83) rfl)
theorem aw_722_in : aw_722 ∈ lw_tbl := (ax_wl_at (k := 1) (j := 78) rfl)
theorem aw_723_in : aw_723 ∈ lw_tbl := (ax_wl_at (k := 3) (j := 198) rfl)
theorem aw_724_in : aw_724 ∈ lw_tbl := (ax_wl_at (k := 3) (j := 215) rfl)
theorem aw_725_in : aw_725 ∈ lw_tbl := (ax_wl_at (k := 3) (j := 234) rfl)
theorem aw_726_in : aw_726 ∈ lw_tbl := (ax_wl_at (k := 3) (j := 161) rfl)
theorem aw_727_in : aw_727 ∈ lw_tbl := (ax_wl_at (k := 3) (j := 163) rfl)
theorem aw_728_in : aw_728 ∈ lw_tbl := (ax_wl_at (k := 0) (j := 22) rfl)
theorem aw_729_in : aw_729 ∈ lw_tbl := (ax_wl_at (k := 3) (j := 165) rfl)
theorem aw_730_in : aw_730 ∈ lw_tbl := (ax_wl_at (k := 3) (j := 169) rfl)
theorem aw_731_in : aw_731 ∈ lw_tbl := (ax_wl_at (k := 1) (j := 167) rfl)
theorem aw_732_in : aw_732 ∈ lw_tbl := (ax_wl_at (k := 4) (j := 64) rfl)
theorem aw_733_in : aw_733 ∈ lw_tbl := (ax_wl_at (k := 3) (j := 199) rfl)
theorem aw_734_in : aw_734 ∈ lw_tbl := (ax_wl_at (k := 3) (j := 201) rfl)
theorem aw_735_in : aw_735 ∈ lw_tbl := (ax_wl_at (k := 0) (j := 25) rfl)
theorem aw_736_in : aw_736 ∈ lw_tbl := (ax_wl_at (k := 3) (j := 207) rfl)
theorem aw_737_in : aw_737 ∈ lw_tbl := (ax_wl_at (k := 3) (j := 208) rfl)
theorem aw_738_in : aw_738 ∈ lw_tbl := (ax_wl_at (k := 3) (j := 209) rfl)
theorem aw_739_in : aw_739 ∈ lw_tbl := (ax_wl_at (k := 3) (j := 211) rfl)
theorem aw_740_in : aw_740 ∈ lw_tbl := (ax_wl_at (k := 3) (j := 213) rfl)
theorem aw_741_in : aw_741 ∈ lw_tbl := (ax_wl_at (k := 0) (j := 26) rfl)
theorem aw_742_in : aw_742 ∈ lw_tbl := (ax_wl_at (k := 1) (j := 91) rfl)
theorem aw_743_in : aw_743 ∈ lw_tbl := (ax_wl_at (k := 3) (j := 203) rfl)
theorem aw_744_in : aw_744 ∈ lw_tbl := (ax_wl_at (k := 3) (j := 230) rfl)
theorem aw_745_in : aw_745 ∈ lw_tbl := (ax_wl_at (k := 3) (j := 232) rfl)
theorem aw_746_in : aw_746 ∈ lw_tbl := (ax_wl_at (k := 0) (j := 28) rfl)
theorem aw_747_in : aw_747 ∈ lw_tbl := (ax_wl_at (k := 3) (j := 238) rfl)
theorem aw_748_in : aw_748 ∈ lw_tbl := (ax_wl_at (k := 3) (j := 239) rfl)
theorem aw_749_in : aw_749 ∈ lw_tbl := (ax_wl_at (k := 4) (j := 1) rfl)
theorem aw_750_in : aw_750 ∈ lw_tbl := (ax_wl_at (k := 0) (j := 29) rfl)
theorem aw_751_in : aw_751 ∈ lw_tbl := (ax_wl_at (k := 4) (j := 3) rfl)
theorem aw_752_in : aw_752 ∈ lw_tbl := (ax_wl_at (k := 4) (j := 5) rfl)
theorem aw_753_in : aw_753 ∈ lw_tbl := (ax_wl_at (k := 0) (j := 30) rfl)
theorem aw_754_in : aw_754 ∈ lw_tbl := (ax_wl_at (k := 4) (j := 11) rfl)
theorem aw_755_in : aw_755 ∈ lw_tbl := (ax_wl_at (k := 4) (j := 12) rfl)
theorem aw_756_in : aw_756 ∈ lw_tbl := (ax_wl_at (k := 4) (j := 14) rfl)
theorem aw_757_in : aw_757 ∈ lw_tbl := (ax_wl_at (k := 0) (j := 31) rfl)
theorem aw_758_in : aw_758 ∈ lw_tbl := (ax_wl_at (k := 4) (j := 52) rfl)
theorem aw_759_in : aw_759 ∈ lw_tbl := (ax_wl_at (k := 4) (j := 54) rfl)
theorem aw_760_in : aw_760 ∈ lw_tbl := (ax_wl_at (k := 0) (j := 41) rfl)
theorem aw_761_in : aw_761 ∈ lw_tbl := (ax_wl_at (k := 4) (j := 7) rfl)
theorem aw_762_in : aw_762 ∈ lw_tbl := (ax_wl_at (k := 4) (j := 8) rfl)
theorem aw_763_in : aw_763 ∈ lw_tbl := (ax_wl_at (k := 4) (j := 9) rfl)
theorem aw_764_in : aw_764 ∈ lw_tbl := (ax_wl_at (k := 4) (j := 16) rfl)
theorem aw_765_in : aw_765 ∈ lw_tbl := (ax_wl_at (k := 4) (j := 18) rfl)
theorem aw_766_in : aw_766 ∈ lw_tbl := (ax_wl_at (k := 0) (j := 32) rfl)
theorem aw_767_in : aw_767 ∈ lw_tbl := (ax_wl_at (k := 4) (j := 20) rfl)
theorem aw_768_in : aw_768 ∈ lw_tbl := (ax_wl_at (k := 4) (j := 22) rfl)
theorem aw_769_in : aw_769 ∈ lw_tbl := (ax_wl_at (k := 0) (j := 33) rfl)
theorem aw_770_in : aw_770 ∈ lw_tbl := (ax_wl_at (k := 4) (j := 24) rfl)
theorem aw_771_in : aw_771 ∈ lw_tbl := (ax_wl_at (k := 4) (j := 26) rfl)
theorem aw_772_in : aw_772 ∈ lw_tbl := (ax_wl_at (k := 0) (j := 34) rfl)
theorem aw_773_in : aw_773 ∈ lw_tbl := (ax_wl_at (k := 4) (j := 32) rfl)
theorem aw_774_in : aw_774 ∈ lw_tbl := (ax_wl_at (k := 4) (j := 34) rfl)
theorem aw_775_in : aw_775 ∈ lw_tbl := (ax_wl_at (k := 0) (j := 36) rfl)
theorem aw_776_in : aw_776 ∈ lw_tbl := (ax_wl_at (k := 4) (j := 28) rfl)
theorem aw_777_in : aw_777 ∈ lw_tbl := (ax_wl_at (k := 4) (j := 30) rfl)
theorem aw_778_in : aw_778 ∈ lw_tbl := (ax_wl_at (k := 0) (j := 35) rfl)
theorem aw_779_in : aw_779 ∈ lw_tbl := (ax_wl_at (k := 4) (j := 36) rfl)
theorem aw_780_in : aw_780 ∈ lw_tbl := (ax_wl_at (k := 4) (j := 38) rfl)
theorem aw_781_in : aw_781 ∈ lw_tbl := (ax_wl_at (k := 0) (j := 37) rfl)
theorem aw_782_in : aw_782 ∈ lw_tbl := (ax_wl_at (k := 4) (j := 40) rfl)
theorem aw_783_in : aw_783 ∈ lw_tbl := (ax_wl_at (k := 4) (j := 42) rfl)
theorem aw_784_in : aw_784 ∈ lw_tbl := (ax_wl_at (k := 0) (j := 38) rfl)
theorem aw_785_in : aw_785 ∈ lw_tbl := (ax_wl_at (k := 4) (j := 44) rfl)
theorem aw_786_in : aw_786 ∈ lw_tbl := (ax_wl_at (k := 4) (j := 46) rfl)
theorem aw_787_in : aw_787 ∈ lw_tbl := (ax_wl_at (k := 0) (j := 39) rfl)
theorem aw_788_in : aw_788 ∈ lw_tbl := (ax_wl_at (k := 4) (j := 48) rfl)
theorem aw_789_in : aw_789 ∈ lw_tbl := (ax_wl_at (k := 4) (j := 50) rfl)
theorem aw_790_in : aw_790 ∈ lw_tbl := (ax_wl_at (k := 0) (j := 40) rfl)
theorem aw_791_in : aw_791 ∈ lw_tbl := (ax_wl_at (k := 2) (j := 47) rfl)
theorem aw_792_in : aw_792 ∈ lw_tbl := (ax_wl_at (k := 2) (j := 46) rfl)
theorem aw_793_in : aw_793 ∈ lw_tbl := (ax_wl_at (k := 5) (j := 35) rfl)
theorem aw_794_in : aw_794 ∈ lw_tbl := (ax_wl_at (k := 5) (j := 36) rfl)
theorem aw_795_in : aw_795 ∈ lw_tbl := (ax_wl_at (k := 5) (j := 37) rfl)
theorem aw_796_in : aw_796 ∈ lw_tbl := (ax_wl_at (k := 5) (j := 39) rfl)
theorem aw_797_in : aw_797 ∈ lw_tbl := (ax_wl_at (k := 0) (j := 55) rfl)
theorem aw_798_in : aw_798 ∈ lw_tbl := (ax_wl_at (k := 5) (j := 43) rfl)
theorem aw_799_in : aw_799 ∈ lw_tbl := (ax_wl_at (k := 5) (j := 45) rfl)
theorem aw_800_in : aw_800 ∈ lw_tbl := (ax_wl_at (k := 0) (j := 56) rfl)
theorem aw_801_in : aw_801 ∈ lw_tbl := (ax_wl_at (k := 5) (j := 47) rfl)
theorem aw_802_in : aw_802 ∈ lw_tbl := (ax_wl_at (k := 5) (j := 48) rfl)
theorem aw_803_in : aw_803 ∈ lw_tbl := (ax_wl_at (k := 5) (j := 49) rfl)
theorem aw_804_in : aw_804 ∈ lw_tbl := (ax_wl_at (k := 5) (j := 51) rfl)
theorem aw_805_in : aw_805 ∈ lw_tbl := (ax_wl_at (k := 0) (j := 57) rfl)
theorem aw_806_in : aw_806 ∈ lw_tbl := (ax_wl_at (k := 5) (j := 55) rfl)
theorem aw_807_in : aw_807 ∈ lw_tbl := (ax_wl_at (k := 5) (j := 57) rfl)
theorem aw_808_in : aw_808 ∈ lw_tbl := (ax_wl_at (k := 0) (j := 58) rfl)
theorem aw_809_in : aw_809 ∈ lw_tbl := (ax_wl_at (k := 1) (j := 87) rfl)
theorem aw_810_in : aw_810 ∈ lw_tbl := (ax_wl_at (k := 5) (j := 41) rfl)
theorem aw_811_in : aw_811 ∈ lw_tbl := (ax_wl_at (k := 5) (j := 42) rfl)
theorem aw_812_in : aw_812 ∈ lw_tbl := (ax_wl_at (k := 5) (j := 53) rfl)
theorem aw_813_in : aw_813 ∈ lw_tbl := (ax_wl_at (k := 5) (j := 54) rfl)
theorem ax_wt_0_in (i : Nat) : ∀ w, ax_wt_0 i = some w → w ∈ lw_tbl := (ax_bif (ax_bif (ax_bif (ax_bif (ax_bif (ax_bif (ax_lf aw_0_in) (ax_lf aw_1_in)) (ax_bif (ax_lf aw_2_in) (ax_lf aw_3_in))) (ax_bif (ax_bif (ax_lf aw_4_in) (ax_lf aw_5_in)) (ax_bif (ax_lf aw_6_in) (ax_lf aw_7_in)))) (ax_bif (ax_bif (ax_bif (ax_lf aw_8_in) (ax_lf aw_9_in)) (ax_bif (ax_lf aw_10_in) (ax_lf aw_11_in))) (ax_bif (ax_bif (ax_lf aw_12_in) (ax_lf aw_13_in)) (ax_bif (ax_lf aw_14_in) (ax_lf aw_15_in))))) (ax_bif (ax_bif (ax_bif (ax_bif (ax_lf aw_16_in) (ax_lf aw_17_in)) (ax_bif (ax_lf aw_18_in) (ax_lf aw_19_in))) (ax_bif (ax_bif (ax_lf aw_20_in) (ax_lf aw_21_in)) (ax_bif (ax_lf aw_22_in) (ax_lf aw_23_in)))) (ax_bif (ax_bif (ax_bif (ax_lf aw_24_in) (ax_lf aw_25_in)) (ax_bif (ax_lf aw_26_in) (ax_lf aw_27_in))) (ax_bif (ax_bif (ax_lf aw_28_in) (ax_lf aw_29_in)) (ax_bif (ax_lf aw_30_in) (ax_lf aw_31_in)))))) (ax_bif (ax_bif (ax_bif (ax_bif (ax_bif (ax_lf aw_32_in) (ax_lf aw_33_in)) (ax_bif (ax_lf aw_34_in) (ax_lf aw_35_in))) (ax_bif (ax_bif (ax_lf aw_36_in) (ax_lf aw_37_in)) (ax_bif (ax_lf aw_38_in) (ax_lf aw_39_in)))) (ax_bif (ax_bif (ax_bif (ax_lf aw_40_in) (ax_lf aw_41_in)) (ax_bif (ax_lf aw_42_in) (ax_lf aw_43_in))) (ax_bif (ax_bif (ax_lf aw_44_in) (ax_lf aw_45_in)) (ax_bif (ax_lf aw_46_in) (ax_lf aw_47_in))))) (ax_bif (ax_bif (ax_bif (ax_bif (ax_lf aw_48_in) (ax_lf aw_49_in)) (ax_bif (ax_lf aw_50_in) (ax_lf aw_51_in))) (ax_bif (ax_bif (ax_lf aw_52_in) (ax_lf aw_53_in)) (ax_bif (ax_lf aw_54_in) (ax_lf aw_55_in)))) (ax_bif (ax_bif (ax_bif (ax_lf aw_56_in) (ax_lf aw_57_in)) (ax_bif (ax_lf aw_58_in) (ax_lf aw_59_in))) (ax_bif (ax_bif (ax_lf aw_60_in) (ax_lf aw_61_in)) (ax_bif (ax_lf aw_62_in) (ax_lf aw_63_in)))))))
theorem ax_wt_1_in (i : Nat) : ∀ w, ax_wt_1 i = some w → w ∈ lw_tbl := (ax_bif (ax_bif (ax_bif (ax_bif (ax_bif (ax_bif (ax_lf aw_64_in) (ax_lf aw_65_in)) (ax_bif (ax_lf aw_66_in) (ax_lf aw_67_in))) (ax_bif (ax_bif (ax_lf aw_68_in) (ax_lf aw_69_in)) (ax_bif (ax_lf aw_70_in) (ax_lf aw_71_in)))) (ax_bif (ax_bif (ax_bif (ax_lf aw_72_in) (ax_lf aw_73_in)) (ax_bif (ax_lf aw_74_in) (ax_lf aw_75_in))) (ax_bif (ax_bif (ax_lf aw_76_in) (ax_lf aw_77_in)) (ax_bif (ax_lf aw_78_in) (ax_lf aw_79_in))))) (ax_bif (ax_bif (ax_bif (ax_bif (ax_lf aw_80_in) (ax_lf aw_81_in)) (ax_bif (ax_lf aw_82_in) (ax_lf aw_83_in))) (ax_bif (ax_bif (ax_lf aw_84_in) (ax_lf aw_85_in)) (ax_bif (ax_lf aw_86_in) (ax_lf aw_87_in)))) (ax_bif (ax_bif (ax_bif (ax_lf aw_88_in) (ax_lf aw_89_in)) (ax_bif (ax_lf aw_90_in) (ax_lf aw_91_in))) (ax_bif (ax_bif (ax_lf aw_92_in) (ax_lf aw_93_in)) (ax_bif (ax_lf aw_94_in) (ax_lf aw_95_in)))))) (ax_bif (ax_bif (ax_bif (ax_bif (ax_bif (ax_lf aw_96_in) (ax_lf aw_97_in)) (ax_bif (ax_lf aw_98_in) (ax_lf aw_99_in))) (ax_bif (ax_bif (ax_lf aw_100_in) (ax_lf aw_101_in)) (ax_bif (ax_lf aw_102_in) (ax_lf aw_103_in)))) (ax_bif (ax_bif (ax_bif (ax_lf aw_104_in) (ax_lf aw_105_in)) (ax_bif (ax_lf aw_106_in) (ax_lf aw_107_in))) (ax_bif (ax_bif (ax_lf aw_108_in) (ax_lf aw_109_in)) (ax_bif (ax_lf aw_110_in) (ax_lf aw_111_in))))) (ax_bif (ax_bif (ax_bif (ax_bif (ax_lf aw_112_in) (ax_lf aw_113_in)) (ax_bif (ax_lf aw_114_in) (ax_lf aw_115_in))) (ax_bif (ax_bif (ax_lf aw_116_in) (ax_lf aw_117_in)) (ax_bif (ax_lf aw_118_in) (ax_lf aw_119_in)))) (ax_bif (ax_bif (ax_bif (ax_lf aw_120_in) (ax_lf aw_121_in)) (ax_bif (ax_lf aw_122_in) (ax_lf aw_123_in))) (ax_bif (ax_bif (ax_lf aw_124_in) (ax_lf aw_125_in)) (ax_bif (ax_lf aw_126_in) (ax_lf aw_127_in)))))))
theorem ax_wt_2_in (i : Nat) : ∀ w, ax_wt_2 i = some w → w ∈ lw_tbl := (ax_bif (ax_bif (ax_bif (ax_bif (ax_bif (ax_bif (ax_lf aw_128_in) (ax_lf aw_129_in)) (ax_bif (ax_lf aw_130_in) (ax_lf aw_131_in))) (ax_bif (ax_bif (ax_lf aw_132_in) (ax_lf aw_133_in)) (ax_bif (ax_lf aw_134_in) (ax_lf aw_135_in)))) (ax_bif (ax_bif (ax_bif (ax_lf aw_136_in) (ax_lf aw_137_in)) (ax_bif (ax_lf aw_138_in) (ax_lf aw_139_in))) (ax_bif (ax_bif (ax_lf aw_140_in) (ax_lf aw_141_in)) (ax_bif (ax_lf aw_142_in) (ax_lf aw_143_in))))) (ax_bif (ax_bif (ax_bif (ax_bif (ax_lf aw_144_in) (ax_lf aw_145_in)) (ax_bif (ax_lf aw_146_in) (ax_lf aw_147_in))) (ax_bif (ax_bif (ax_lf aw_148_in) (ax_lf aw_149_in)) (ax_bif (ax_lf aw_150_in) (ax_lf aw_151_in)))) (ax_bif (ax_bif (ax_bif (ax_lf aw_152_in) (ax_lf aw_153_in)) (ax_bif (ax_lf aw_154_in) (ax_lf aw_155_in))) (ax_bif (ax_bif (ax_lf aw_156_in) (ax_lf aw_157_in)) (ax_bif (ax_lf aw_158_in) (ax_lf aw_159_in)))))) (ax_bif (ax_bif (ax_bif (ax_bif (ax_bif (ax_lf aw_160_in) (ax_lf aw_161_in)) (ax_bif (ax_lf aw_162_in) (ax_lf aw_163_in))) (ax_bif (ax_bif (ax_lf aw_164_in) (ax_lf aw_165_in)) (ax_bif (ax_lf aw_166_in) (ax_lf aw_167_in)))) (ax_bif (ax_bif (ax_bif (ax_lf aw_168_in) (ax_lf aw_169_in)) (ax_bif (ax_lf aw_170_in) (ax_lf aw_171_in))) (ax_bif (ax_bif (ax_lf aw_172_in) (ax_lf aw_173_in)) (ax_bif (ax_lf aw_174_in) (ax_lf aw_175_in))))) (ax_bif (ax_bif (ax_bif (ax_bif (ax_lf aw_176_in) (ax_lf aw_177_in)) (ax_bif (ax_lf aw_178_in) (ax_lf aw_179_in))) (ax_bif (ax_bif (ax_lf aw_180_in) (ax_lf aw_181_in)) (ax_bif (ax_lf aw_182_in) (ax_lf aw_183_in)))) (ax_bif (ax_bif (ax_bif (ax_lf aw_184_in) (ax_lf aw_185_in)) (ax_bif (ax_lf aw_186_in) (ax_lf aw_187_in))) (ax_bif (ax_bif (ax_lf aw_188_in) (ax_lf aw_189_in)) (ax_bif (ax_lf aw_190_in) (ax_lf aw_191_in)))))))
theorem ax_wt_3_in (i : Nat) : ∀ w, ax_wt_3 i = some w → w ∈ lw_tbl := (ax_bif (ax_bif (ax_bif (ax_bif (ax_bif (ax_bif (ax_lf aw_192_in) (ax_lf aw_193_in)) (ax_bif (ax_lf aw_194_in) (ax_lf aw_195_in))) (ax_bif (ax_bif (ax_lf aw_196_in) (ax_lf aw_197_in)) (ax_bif (ax_lf aw_198_in) (ax_lf aw_199_in)))) (ax_bif (ax_bif (ax_bif (ax_lf aw_200_in) (ax_lf aw_201_in)) (ax_bif (ax_lf aw_202_in) (ax_lf aw_203_in))) (ax_bif (ax_bif (ax_lf aw_204_in) (ax_lf aw_205_in)) (ax_bif (ax_lf aw_206_in) (ax_lf aw_207_in))))) (ax_bif (ax_bif (ax_bif (ax_bif (ax_lf aw_208_in) (ax_lf aw_209_in)) (ax_bif (ax_lf aw_210_in) (ax_lf aw_211_in))) (ax_bif (ax_bif (ax_lf aw_212_in) (ax_lf aw_213_in)) (ax_bif (ax_lf aw_214_in) (ax_lf aw_215_in)))) (ax_bif (ax_bif (ax_bif (ax_lf aw_216_in) (ax_lf aw_217_in)) (ax_bif (ax_lf aw_218_in) (ax_lf aw_219_in))) (ax_bif (ax_bif (ax_lf aw_220_in) (ax_lf aw_221_in)) (ax_bif (ax_lf aw_222_in) (ax_lf aw_223_in)))))) (ax_bif (ax_bif (ax_bif (ax_bif (ax_bif (ax_lf aw_224_in) (ax_lf aw_225_in)) (ax_bif (ax_lf aw_226_in) (ax_lf aw_227_in))) (ax_bif (ax_bif (ax_lf aw_228_in) (ax_lf aw_229_in)) (ax_bif (ax_lf aw_230_in) (ax_lf aw_231_in)))) (ax_bif (ax_bif (ax_bif (ax_lf aw_232_in) (ax_lf aw_233_in)) (ax_bif (ax_lf aw_234_in) (ax_lf aw_235_in))) (ax_bif (ax_bif (ax_lf aw_236_in) (ax_lf aw_237_in)) (ax_bif (ax_lf aw_238_in) (ax_lf aw_239_in))))) (ax_bif (ax_bif (ax_bif (ax_bif (ax_lf aw_240_in) (ax_lf aw_241_in)) (ax_bif (ax_lf aw_242_in) (ax_lf aw_243_in))) (ax_bif (ax_bif (ax_lf aw_244_in) (ax_lf aw_245_in)) (ax_bif (ax_lf aw_246_in) (ax_lf aw_247_in)))) (ax_bif (ax_bif (ax_bif (ax_lf aw_248_in) (ax_lf aw_249_in)) (ax_bif (ax_lf aw_250_in) (ax_lf aw_251_in))) (ax_bif (ax_bif (ax_lf aw_252_in) (ax_lf aw_253_in)) (ax_bif (ax_lf aw_254_in) (ax_lf aw_255_in)))))))
theorem ax_wt_4_in (i : Nat) : ∀ w, ax_wt_4 i = some w → w ∈ lw_tbl := (ax_bif (ax_bif (ax_bif (ax_bif (ax_bif (ax_bif (ax_lf aw_256_in) (ax_lf aw_257_in)) (ax_bif (ax_lf aw_258_in) (ax_lf aw_259_in))) (ax_bif (ax_bif (ax_lf aw_260_in) (ax_lf aw_261_in)) (ax_bif (ax_lf aw_262_in) (ax_lf aw_263_in)))) (ax_bif (ax_bif (ax_bif (ax_lf aw_264_in) (ax_lf aw_265_in)) (ax_bif (ax_lf aw_266_in) (ax_lf aw_267_in))) (ax_bif (ax_bif (ax_lf aw_268_in) (ax_lf aw_269_in)) (ax_bif (ax_lf aw_270_in) (ax_lf aw_271_in))))) (ax_bif (ax_bif (ax_bif (ax_bif (ax_lf aw_272_in) (ax_lf aw_273_in)) (ax_bif (ax_lf aw_274_in) (ax_lf aw_275_in))) (ax_bif (ax_bif (ax_lf aw_276_in) (ax_lf aw_277_in)) (ax_bif (ax_lf aw_278_in) (ax_lf aw_279_in)))) (ax_bif (ax_bif (ax_bif (ax_lf aw_280_in) (ax_lf aw_281_in)) (ax_bif (ax_lf aw_282_in) (ax_lf aw_283_in))) (ax_bif (ax_bif (ax_lf aw_284_in) (ax_lf aw_285_in)) (ax_bif (ax_lf aw_286_in) (ax_lf aw_287_in)))))) (ax_bif (ax_bif (ax_bif (ax_bif (ax_bif (ax_lf aw_288_in) (ax_lf aw_289_in)) (ax_bif (ax_lf aw_290_in) (ax_lf aw_291_in))) (ax_bif (ax_bif (ax_lf aw_292_in) (ax_lf aw_293_in)) (ax_bif (ax_lf aw_294_in) (ax_lf aw_295_in)))) (ax_bif (ax_bif (ax_bif (ax_lf aw_296_in) (ax_lf aw_297_in)) (ax_bif (ax_lf aw_298_in) (ax_lf aw_299_in))) (ax_bif (ax_bif (ax_lf aw_300_in) (ax_lf aw_301_in)) (ax_bif (ax_lf aw_302_in) (ax_lf aw_303_in))))) (ax_bif (ax_bif (ax_bif (ax_bif (ax_lf aw_304_in) (ax_lf aw_305_in)) (ax_bif (ax_lf aw_306_in) (ax_lf aw_307_in))) (ax_bif (ax_bif (ax_lf aw_308_in) (ax_lf aw_309_in)) (ax_bif (ax_lf aw_310_in) (ax_lf aw_311_in)))) (ax_bif (ax_bif (ax_bif (ax_lf aw_312_in) (ax_lf aw_313_in)) (ax_bif (ax_lf aw_314_in) (ax_lf aw_315_in))) (ax_bif (ax_bif (ax_lf aw_316_in) (ax_lf aw_317_in)) (ax_bif (ax_lf aw_318_in) (ax_lf aw_319_in)))))))
theorem ax_wt_5_in (i : Nat) : ∀ w, ax_wt_5 i = some w → w ∈ lw_tbl := (ax_bif (ax_bif (ax_bif (ax_bif (ax_bif (ax_bif (ax_lf aw_320_in) (ax_lf aw_321_in)) (ax_bif (ax_lf aw_322_in) (ax_lf aw_323_in))) (ax_bif (ax_bif (ax_lf aw_324_in) (ax_lf aw_325_in)) (ax_bif (ax_lf aw_326_in) (ax_lf aw_327_in)))) (ax_bif (ax_bif (ax_bif (ax_lf aw_328_in) (ax_lf aw_329_in)) (ax_bif (ax_lf aw_330_in) (ax_lf aw_331_in))) (ax_bif (ax_bif (ax_lf aw_332_in) (ax_lf aw_333_in)) (ax_bif (ax_lf aw_334_in) (ax_lf aw_335_in))))) (ax_bif (ax_bif (ax_bif (ax_bif (ax_lf aw_336_in) (ax_lf aw_337_in)) (ax_bif (ax_lf aw_338_in) (ax_lf aw_339_in))) (ax_bif (ax_bif (ax_lf aw_340_in) (ax_lf aw_341_in)) (ax_bif (ax_lf aw_342_in) (ax_lf aw_343_in)))) (ax_bif (ax_bif (ax_bif (ax_lf aw_344_in) (ax_lf aw_345_in)) (ax_bif (ax_lf aw_346_in) (ax_lf aw_347_in))) (ax_bif (ax_bif (ax_lf aw_348_in) (ax_lf aw_349_in)) (ax_bif (ax_lf aw_350_in) (ax_lf aw_351_in)))))) (ax_bif (ax_bif (ax_bif (ax_bif (ax_bif (ax_lf aw_352_in) (ax_lf aw_353_in)) (ax_bif (ax_lf aw_354_in) (ax_lf aw_355_in))) (ax_bif (ax_bif (ax_lf aw_356_in) (ax_lf aw_357_in)) (ax_bif (ax_lf aw_358_in) (ax_lf aw_359_in)))) (ax_bif (ax_bif (ax_bif (ax_lf aw_360_in) (ax_lf aw_361_in)) (ax_bif (ax_lf aw_362_in) (ax_lf aw_363_in))) (ax_bif (ax_bif (ax_lf aw_364_in) (ax_lf aw_365_in)) (ax_bif (ax_lf aw_366_in) (ax_lf aw_367_in))))) (ax_bif (ax_bif (ax_bif (ax_bif (ax_lf aw_368_in) (ax_lf aw_369_in)) (ax_bif (ax_lf aw_370_in) (ax_lf aw_371_in))) (ax_bif (ax_bif (ax_lf aw_372_in) (ax_lf aw_373_in)) (ax_bif (ax_lf aw_374_in) (ax_lf aw_375_in)))) (ax_bif (ax_bif (ax_bif (ax_lf aw_376_in) (ax_lf aw_377_in)) (ax_bif (ax_lf aw_378_in) (ax_lf aw_379_in))) (ax_bif (ax_bif (ax_lf aw_380_in) (ax_lf aw_381_in)) (ax_bif (ax_lf aw_382_in) (ax_lf aw_383_in)))))))
theorem ax_wt_6_in (i : Nat) : ∀ w, ax_wt_6 i = some w → w ∈ lw_tbl := (ax_bif (ax_bif (ax_bif (ax_bif (ax_bif (ax_bif (ax_lf aw_384_in) (ax_lf aw_385_in)) (ax_bif (ax_lf aw_386_in) (ax_lf aw_387_in))) (ax_bif (ax_bif (ax_lf aw_388_in) (ax_lf aw_389_in)) (ax_bif (ax_lf aw_390_in) (ax_lf aw_391_in)))) (ax_bif (ax_bif (ax_bif (ax_lf aw_392_in) (ax_lf aw_393_in)) (ax_bif (ax_lf aw_394_in) (ax_lf aw_395_in))) (ax_bif (ax_bif (ax_lf aw_396_in) (ax_lf aw_397_in)) (ax_bif (ax_lf aw_398_in) (ax_lf aw_399_in))))) (ax_bif (ax_bif (ax_bif (ax_bif (ax_lf aw_400_in) (ax_lf aw_401_in)) (ax_bif (ax_lf aw_402_in) (ax_lf aw_403_in))) (ax_bif (ax_bif (ax_lf aw_404_in) (ax_lf aw_405_in)) (ax_bif (ax_lf aw_406_in) (ax_lf aw_407_in)))) (ax_bif (ax_bif (ax_bif (ax_lf aw_408_in) (ax_lf aw_409_in)) (ax_bif (ax_lf aw_410_in) (ax_lf aw_411_in))) (ax_bif (ax_bif (ax_lf aw_412_in) (ax_lf aw_413_in)) (ax_bif (ax_lf aw_414_in) (ax_lf aw_415_in)))))) (ax_bif (ax_bif (ax_bif (ax_bif (ax_bif (ax_lf aw_416_in) (ax_lf aw_417_in)) (ax_bif (ax_lf aw_418_in) (ax_lf aw_419_in))) (ax_bif (ax_bif (ax_lf aw_420_in) (ax_lf aw_421_in)) (ax_bif (ax_lf aw_422_in) (ax_lf aw_423_in)))) (ax_bif (ax_bif (ax_bif (ax_lf aw_424_in) (ax_lf aw_425_in)) (ax_bif (ax_lf aw_426_in) (ax_lf aw_427_in))) (ax_bif (ax_bif (ax_lf aw_428_in) (ax_lf aw_429_in)) (ax_bif (ax_lf aw_430_in) (ax_lf aw_431_in))))) (ax_bif (ax_bif (ax_bif (ax_bif (ax_lf aw_432_in) (ax_lf aw_433_in)) (ax_bif (ax_lf aw_434_in) (ax_lf aw_435_in))) (ax_bif (ax_bif (ax_lf aw_436_in) (ax_lf aw_437_in)) (ax_bif (ax_lf aw_438_in) (ax_lf aw_439_in)))) (ax_bif (ax_bif (ax_bif (ax_lf aw_440_in) (ax_lf aw_441_in)) (ax_bif (ax_lf aw_442_in) (ax_lf aw_443_in))) (ax_bif (ax_bif (ax_lf aw_444_in) (ax_lf aw_445_in)) (ax_bif (ax_lf aw_446_in) (ax_lf aw_447_in)))))))
theorem ax_wt_7_in (i : Nat) : ∀ w, ax_wt_7 i = some w → w ∈ lw_tbl := (ax_bif (ax_bif (ax_bif (ax_bif (ax_bif (ax_bif (ax_lf aw_448_in) (ax_lf aw_449_in)) (ax_bif (ax_lf aw_450_in) (ax_lf aw_451_in))) (ax_bif (ax_bif (ax_lf aw_452_in) (ax_lf aw_453_in)) (ax_bif (ax_lf aw_454_in) (ax_lf aw_455_in)))) (ax_bif (ax_bif (ax_bif (ax_lf aw_456_in) (ax_lf aw_457_in)) (ax_bif (ax_lf aw_458_in) (ax_lf aw_459_in))) (ax_bif (ax_bif (ax_lf aw_460_in) (ax_lf aw_461_in)) (ax_bif (ax_lf aw_462_in) (ax_lf aw_463_in))))) (ax_bif (ax_bif (ax_bif (ax_bif (ax_lf aw_464_in) (ax_lf aw_465_in)) (ax_bif (ax_lf aw_466_in) (ax_lf aw_467_in))) (ax_bif (ax_bif (ax_lf aw_468_in) (ax_lf aw_469_in)) (ax_bif (ax_lf aw_470_in) (ax_lf aw_471_in)))) (ax_bif (ax_bif (ax_bif (ax_lf aw_472_in) (ax_lf aw_473_in)) (ax_bif (ax_lf aw_474_in) (ax_lf aw_475_in))) (ax_bif (ax_bif (ax_lf aw_476_in) (ax_lf aw_477_in)) (ax_bif (ax_lf aw_478_in) (ax_lf aw_479_in)))))) (ax_bif (ax_bif (ax_bif (ax_bif (ax_bif (ax_lf aw_480_in) (ax_lf aw_481_in)) (ax_bif (ax_lf aw_482_in) (ax_lf aw_483_in))) (ax_bif (ax_bif (ax_lf aw_484_in) (ax_lf aw_485_in)) (ax_bif (ax_lf aw_486_in) (ax_lf aw_487_in)))) (ax_bif (ax_bif (ax_bif (ax_lf aw_488_in) (ax_lf aw_489_in)) (ax_bif (ax_lf aw_490_in) (ax_lf aw_491_in))) (ax_bif (ax_bif (ax_lf aw_492_in) (ax_lf aw_493_in)) (ax_bif (ax_lf aw_494_in) (ax_lf aw_495_in))))) (ax_bif (ax_bif (ax_bif (ax_bif (ax_lf aw_496_in) (ax_lf aw_497_in)) (ax_bif (ax_lf aw_498_in) (ax_lf aw_499_in))) (ax_bif (ax_bif (ax_lf aw_500_in) (ax_lf aw_501_in)) (ax_bif (ax_lf aw_502_in) (ax_lf aw_503_in)))) (ax_bif (ax_bif (ax_bif (ax_lf aw_504_in) (ax_lf aw_505_in)) (ax_bif (ax_lf aw_506_in) (ax_lf aw_507_in))) (ax_bif (ax_bif (ax_lf aw_508_in) (ax_lf aw_509_in)) (ax_bif (ax_lf aw_510_in) (ax_lf aw_511_in)))))))
theorem ax_wt_8_in (i : Nat) : ∀ w, ax_wt_8 i = some w → w ∈ lw_tbl := (ax_bif (ax_bif (ax_bif (ax_bif (ax_bif (ax_bif (ax_lf aw_512_in) (ax_lf aw_513_in)) (ax_bif (ax_lf aw_514_in) (ax_lf aw_515_in))) (ax_bif (ax_bif (ax_lf aw_516_in) (ax_lf aw_517_in)) (ax_bif (ax_lf aw_518_in) (ax_lf aw_519_in)))) (ax_bif (ax_bif (ax_bif (ax_lf aw_520_in) (ax_lf aw_521_in)) (ax_bif (ax_lf aw_522_in) (ax_lf aw_523_in))) (ax_bif (ax_bif (ax_lf aw_524_in) (ax_lf aw_525_in)) (ax_bif (ax_lf aw_526_in) (ax_lf aw_527_in))))) (ax_bif (ax_bif (ax_bif (ax_bif (ax_lf aw_528_in) (ax_lf aw_529_in)) (ax_bif (ax_lf aw_530_in) (ax_lf aw_531_in))) (ax_bif (ax_bif (ax_lf aw_532_in) (ax_lf aw_533_in)) (ax_bif (ax_lf aw_534_in) (ax_lf aw_535_in)))) (ax_bif (ax_bif (ax_bif (ax_lf aw_536_in) (ax_lf aw_537_in)) (ax_bif (ax_lf aw_538_in) (ax_lf aw_539_in))) (ax_bif (ax_bif (ax_lf aw_540_in) (ax_lf aw_541_in)) (ax_bif (ax_lf aw_542_in) (ax_lf aw_543_in)))))) (ax_bif (ax_bif (ax_bif (ax_bif (ax_bif (ax_lf aw_544_in) (ax_lf aw_545_in)) (ax_bif (ax_lf aw_546_in) (ax_lf aw_547_in))) (ax_bif (ax_bif (ax_lf aw_548_in) (ax_lf aw_549_in)) (ax_bif (ax_lf aw_550_in) (ax_lf aw_551_in)))) (ax_bif (ax_bif (ax_bif (ax_lf aw_552_in) (ax_lf aw_553_in)) (ax_bif (ax_lf aw_554_in) (ax_lf aw_555_in))) (ax_bif (ax_bif (ax_lf aw_556_in) (ax_lf aw_557_in)) (ax_bif (ax_lf aw_558_in) (ax_lf aw_559_in))))) (ax_bif (ax_bif (ax_bif (ax_bif (ax_lf aw_560_in) (ax_lf aw_561_in)) (ax_bif (ax_lf aw_562_in) (ax_lf aw_563_in))) (ax_bif (ax_bif (ax_lf aw_564_in) (ax_lf aw_565_in)) (ax_bif (ax_lf aw_566_in) (ax_lf aw_567_in)))) (ax_bif (ax_bif (ax_bif (ax_lf aw_568_in) (ax_lf aw_569_in)) (ax_bif (ax_lf aw_570_in) (ax_lf aw_571_in))) (ax_bif (ax_bif (ax_lf aw_572_in) (ax_lf aw_573_in)) (ax_bif (ax_lf aw_574_in) (ax_lf aw_575_in)))))))
theorem ax_wt_9_in (i : Nat) : ∀ w, ax_wt_9 i = some w → w ∈ lw_tbl := (ax_bif (ax_bif (ax_bif (ax_bif (ax_bif (ax_bif (ax_lf aw_576_in) (ax_lf aw_577_in)) (ax_bif (ax_lf aw_578_in) (ax_lf aw_579_in))) (ax_bif (ax_bif (ax_lf aw_580_in) (ax_lf aw_581_in)) (ax_bif (ax_lf aw_582_in) (ax_lf aw_583_in)))) (ax_bif (ax_bif (ax_bif (ax_lf aw_584_in) (ax_lf aw_585_in)) (ax_bif (ax_lf aw_586_in) (ax_lf aw_587_in))) (ax_bif (ax_bif (ax_lf aw_588_in) (ax_lf aw_589_in)) (ax_bif (ax_lf aw_590_in) (ax_lf aw_591_in))))) (ax_bif (ax_bif (ax_bif (ax_bif (ax_lf aw_592_in) (ax_lf aw_593_in)) (ax_bif (ax_lf aw_594_in) (ax_lf aw_595_in))) (ax_bif (ax_bif (ax_lf aw_596_in) (ax_lf aw_597_in)) (ax_bif (ax_lf aw_598_in) (ax_lf aw_599_in)))) (ax_bif (ax_bif (ax_bif (ax_lf aw_600_in) (ax_lf aw_601_in)) (ax_bif (ax_lf aw_602_in) (ax_lf aw_603_in))) (ax_bif (ax_bif (ax_lf aw_604_in) (ax_lf aw_605_in)) (ax_bif (ax_lf aw_606_in) (ax_lf aw_607_in)))))) (ax_bif (ax_bif (ax_bif (ax_bif (ax_bif (ax_lf aw_608_in) (ax_lf aw_609_in)) (ax_bif (ax_lf aw_610_in) (ax_lf aw_611_in))) (ax_bif (ax_bif (ax_lf aw_612_in) (ax_lf aw_613_in)) (ax_bif (ax_lf aw_614_in) (ax_lf aw_615_in)))) (ax_bif (ax_bif (ax_bif (ax_lf aw_616_in) (ax_lf aw_617_in)) (ax_bif (ax_lf aw_618_in) (ax_lf aw_619_in))) (ax_bif (ax_bif (ax_lf aw_620_in) (ax_lf aw_621_in)) (ax_bif (ax_lf aw_622_in) (ax_lf aw_623_in))))) (ax_bif (ax_bif (ax_bif (ax_bif (ax_lf aw_624_in) (ax_lf aw_625_in)) (ax_bif (ax_lf aw_626_in) (ax_lf aw_627_in))) (ax_bif (ax_bif (ax_lf aw_628_in) (ax_lf aw_629_in)) (ax_bif (ax_lf aw_630_in) (ax_lf aw_631_in)))) (ax_bif (ax_bif (ax_bif (ax_lf aw_632_in) (ax_lf aw_633_in)) (ax_bif (ax_lf aw_634_in) (ax_lf aw_635_in))) (ax_bif (ax_bif (ax_lf aw_636_in) (ax_lf aw_637_in)) (ax_bif (ax_lf aw_638_in) (ax_lf aw_639_in)))))))
theorem ax_wt_10_in (i : Nat) : ∀ w, ax_wt_10 i = some w → w ∈ lw_tbl := (ax_bif (ax_bif (ax_bif (ax_bif (ax_bif (ax_bif (ax_lf aw_640_in) (ax_lf aw_641_in)) (ax_bif (ax_lf aw_642_in) (ax_lf aw_643_in))) (ax_bif (ax_bif (ax_lf aw_644_in) (ax_lf aw_645_in)) (ax_bif (ax_lf aw_646_in) (ax_lf aw_647_in)))) (ax_bif (ax_bif (ax_bif (ax_lf aw_648_in) (ax_lf aw_649_in)) (ax_bif (ax_lf aw_650_in) (ax_lf aw_651_in))) (ax_bif (ax_bif (ax_lf aw_652_in) (ax_lf aw_653_in)) (ax_bif (ax_lf aw_654_in) (ax_lf aw_655_in))))) (ax_bif (ax_bif (ax_bif (ax_bif (ax_lf aw_656_in) (ax_lf aw_657_in)) (ax_bif (ax_lf aw_658_in) (ax_lf aw_659_in))) (ax_bif (ax_bif (ax_lf aw_660_in) (ax_lf aw_661_in)) (ax_bif (ax_lf aw_662_in) (ax_lf aw_663_in)))) (ax_bif (ax_bif (ax_bif (ax_lf aw_664_in) (ax_lf aw_665_in)) (ax_bif (ax_lf aw_666_in) (ax_lf aw_667_in))) (ax_bif (ax_bif (ax_lf aw_668_in) (ax_lf aw_669_in)) (ax_bif (ax_lf aw_670_in) (ax_lf aw_671_in)))))) (ax_bif (ax_bif (ax_bif (ax_bif (ax_bif (ax_lf aw_672_in) (ax_lf aw_673_in)) (ax_bif (ax_lf aw_674_in) (ax_lf aw_675_in))) (ax_bif (ax_bif (ax_lf aw_676_in) (ax_lf aw_677_in)) (ax_bif (ax_lf aw_678_in) (ax_lf aw_679_in)))) (ax_bif (ax_bif (ax_bif (ax_lf aw_680_in) (ax_lf aw_681_in)) (ax_bif (ax_lf aw_682_in) (ax_lf aw_683_in))) (ax_bif (ax_bif (ax_lf aw_684_in) (ax_lf aw_685_in)) (ax_bif (ax_lf aw_686_in) (ax_lf aw_687_in))))) (ax_bif (ax_bif (ax_bif (ax_bif (ax_lf aw_688_in) (ax_lf aw_689_in)) (ax_bif (ax_lf aw_690_in) (ax_lf aw_691_in))) (ax_bif (ax_bif (ax_lf aw_692_in) (ax_lf aw_693_in)) (ax_bif (ax_lf aw_694_in) (ax_lf aw_695_in)))) (ax_bif (ax_bif (ax_bif (ax_lf aw_696_in) (ax_lf aw_697_in)) (ax_bif (ax_lf aw_698_in) (ax_lf aw_699_in))) (ax_bif (ax_bif (ax_lf aw_700_in) (ax_lf aw_701_in)) (ax_bif (ax_lf aw_702_in) (ax_lf aw_703_in)))))))
theorem ax_wt_11_in (i : Nat) : ∀ w, ax_wt_11 i = some w → w ∈ lw_tbl := (ax_bif (ax_bif (ax_bif (ax_bif (ax_bif (ax_bif (ax_lf aw_704_in) (ax_lf aw_705_in)) (ax_bif (ax_lf aw_706_in) (ax_lf aw_707_in))) (ax_bif (ax_bif (ax_lf aw_708_in) (ax_lf aw_709_in)) (ax_bif (ax_lf aw_710_in) (ax_lf aw_711_in)))) (ax_bif (ax_bif (ax_bif (ax_lf aw_712_in) (ax_lf aw_713_in)) (ax_bif (ax_lf aw_714_in) (ax_lf aw_715_in))) (ax_bif (ax_bif (ax_lf aw_716_in) (ax_lf aw_717_in)) (ax_bif (ax_lf aw_718_in) (ax_lf aw_719_in))))) (ax_bif (ax_bif (ax_bif (ax_bif (ax_lf aw_720_in) (ax_lf aw_721_in)) (ax_bif (ax_lf aw_722_in) (ax_lf aw_723_in))) (ax_bif (ax_bif (ax_lf aw_724_in) (ax_lf aw_725_in)) (ax_bif (ax_lf aw_726_in) (ax_lf aw_727_in)))) (ax_bif (ax_bif (ax_bif (ax_lf aw_728_in) (ax_lf aw_729_in)) (ax_bif (ax_lf aw_730_in) (ax_lf aw_731_in))) (ax_bif (ax_bif (ax_lf aw_732_in) (ax_lf aw_733_in)) (ax_bif (ax_lf aw_734_in) (ax_lf aw_735_in)))))) (ax_bif (ax_bif (ax_bif (ax_bif (ax_bif (ax_lf aw_736_in) (ax_lf aw_737_in)) (ax_bif (ax_lf aw_738_in) (ax_lf aw_739_in))) (ax_bif (ax_bif (ax_lf aw_740_in) (ax_lf aw_741_in)) (ax_bif (ax_lf aw_742_in) (ax_lf aw_743_in)))) (ax_bif (ax_bif (ax_bif (ax_lf aw_744_in) (ax_lf aw_745_in)) (ax_bif (ax_lf aw_746_in) (ax_lf aw_747_in))) (ax_bif (ax_bif (ax_lf aw_748_in) (ax_lf aw_749_in)) (ax_bif (ax_lf aw_750_in) (ax_lf aw_751_in))))) (ax_bif (ax_bif (ax_bif (ax_bif (ax_lf aw_752_in) (ax_lf aw_753_in)) (ax_bif (ax_lf aw_754_in) (ax_lf aw_755_in))) (ax_bif (ax_bif (ax_lf aw_756_in) (ax_lf aw_757_in)) (ax_bif (ax_lf aw_758_in) (ax_lf aw_759_in)))) (ax_bif (ax_bif (ax_bif (ax_lf aw_760_in) (ax_lf aw_761_in)) (ax_bif (ax_lf aw_762_in) (ax_lf aw_763_in))) (ax_bif (ax_bif (ax_lf aw_764_in) (ax_lf aw_765_in)) (ax_bif (ax_lf aw_766_in) (ax_lf aw_767_in)))))))
theorem ax_wt_12_in (i : Nat) : ∀ w, ax_wt_12 i = some w → w ∈ lw_tbl := (ax_bif (ax_bif (ax_bif (ax_bif (ax_bif (ax_bif (ax_lf aw_768_in) (ax_lf aw_769_in)) (ax_bif (ax_lf aw_770_in) (ax_lf aw_771_in))) (ax_bif (ax_bif (ax_lf aw_772_in) (ax_lf aw_773_in)) (ax_bif (ax_lf aw_774_in) (ax_lf aw_775_in)))) (ax_bif (ax_bif (ax_bif (ax_lf aw_776_in) (ax_lf aw_777_in)) (ax_bif (ax_lf aw_778_in) (ax_lf aw_779_in))) (ax_bif (ax_bif (ax_lf aw_780_in) (ax_lf aw_781_in)) (ax_bif (ax_lf aw_782_in) (ax_lf aw_783_in))))) (ax_bif (ax_bif (ax_bif (ax_bif (ax_lf aw_784_in) (ax_lf aw_785_in)) (ax_bif (ax_lf aw_786_in) (ax_lf aw_787_in))) (ax_bif (ax_bif (ax_lf aw_788_in) (ax_lf aw_789_in)) (ax_bif (ax_lf aw_790_in) (ax_lf aw_791_in)))) (ax_bif (ax_bif (ax_bif (ax_lf aw_792_in) (ax_lf aw_793_in)) (ax_bif (ax_lf aw_794_in) (ax_lf aw_795_in))) (ax_bif (ax_bif (ax_lf aw_796_in) (ax_lf aw_797_in)) (ax_bif (ax_lf aw_798_in) (ax_lf aw_799_in)))))) (ax_bif (ax_bif (ax_bif (ax_bif (ax_bif (ax_lf aw_800_in) (ax_lf aw_801_in)) (ax_bif (ax_lf aw_802_in) (ax_lf aw_803_in))) (ax_bif (ax_bif (ax_lf aw_804_in) (ax_lf aw_805_in)) (ax_bif (ax_lf aw_806_in) (ax_lf aw_807_in)))) (ax_bif (ax_bif (ax_bif (ax_lf aw_808_in) (ax_lf aw_809_in)) (ax_bif (ax_lf aw_810_in) (ax_lf aw_811_in))) (ax_bif (ax_bif (ax_lf aw_812_in) (ax_lf aw_813_in)) (ax_bif ax_lf0 ax_lf0)))) (ax_bif (ax_bif (ax_bif (ax_bif ax_lf0 ax_lf0) (ax_bif ax_lf0 ax_lf0)) (ax_bif (ax_bif ax_lf0 ax_lf0) (ax_bif ax_lf0 ax_lf0))) (ax_bif (ax_bif (ax_bif ax_lf0 ax_lf0) (ax_bif ax_lf0 ax_lf0)) (ax_bif (ax_bif ax_lf0 ax_lf0) (ax_bif ax_lf0 ax_lf0))))))
theorem ax_wd_in : ∀ k j w, ax_wd k j = some w → (w.onTables && w.keeps) = true → w ∈ ax_Ts := by
  intro k j w h hg
  refine List.mem_filter.mpr ⟨?_, hg⟩
  match k, h with
  | 0, h =>
    have h : ax_wt_c (j / 64) (j % 64) = some w := h
    generalize j / 64 = c at h
    match c, h with
    | 0, h => exact ax_wt_0_in _ w h
    | 1, h => exact ax_wt_1_in _ w h
    | 2, h => exact ax_wt_2_in _ w h
    | 3, h => exact ax_wt_3_in _ w h
    | 4, h => exact ax_wt_4_in _ w h
    | 5, h => exact ax_wt_5_in _ w h
    | 6, h => exact ax_wt_6_in _ w h
    | 7, h => exact ax_wt_7_in _ w h
    | 8, h => exact ax_wt_8_in _ w h
    | 9, h => exact ax_wt_9_in _ w h
    | 10, h => exact ax_wt_10_in _ w h
    | 11, h => exact ax_wt_11_in _ w h
    | 12, h => exact ax_wt_12_in _ w h
    | c + 13, h => cases h
  | k + 1, h => cases h
theorem ax_in {w : Jvm.Cond} (h : w ∈ lw_tbl) (hg : (w.onTables && w.keeps) = true) : w ∈ ax_Ts := List.mem_filter.mpr ⟨h, hg⟩
theorem ax_list {ws : List Jvm.Cond} (h : ∀ w ∈ ws, w ∈ lw_tbl) (h2 : ws.all (fun w => w.onTables && w.keeps) = true) : ∀ w ∈ ws, w ∈ ax_Ts := fun w hw => ax_in (h w hw) (List.all_eq_true.mp h2 w hw)
theorem aU_F : ∀ w ∈ u_ws "AskingFragments" aT_F 17, w ∈ ax_Ts := ax_list (show ∀ w ∈ u_ws "AskingFragments" aT_F 17, w ∈ lw_tbl from List.forall_mem_cons.mpr ⟨(ax_wl_at (k := 2) (j := 71) rfl), List.forall_mem_cons.mpr ⟨(ax_wl_at (k := 2) (j := 73) rfl), List.forall_mem_cons.mpr ⟨(ax_wl_at (k := 2) (j := 75) rfl), List.forall_mem_cons.mpr ⟨(ax_wl_at (k := 2) (j := 77) rfl), List.forall_mem_cons.mpr ⟨(ax_wl_at (k := 2) (j := 79) rfl), List.forall_mem_cons.mpr ⟨(ax_wl_at (k := 2) (j := 81) rfl), List.forall_mem_cons.mpr ⟨(ax_wl_at (k := 2) (j := 83) rfl), List.forall_mem_cons.mpr ⟨(ax_wl_at (k := 2) (j := 85) rfl), List.forall_mem_cons.mpr ⟨(ax_wl_at (k := 2) (j := 87) rfl), List.forall_mem_cons.mpr ⟨(ax_wl_at (k := 2) (j := 89) rfl), List.forall_mem_cons.mpr ⟨(ax_wl_at (k := 2) (j := 91) rfl), List.forall_mem_cons.mpr ⟨(ax_wl_at (k := 2) (j := 93) rfl), List.forall_mem_cons.mpr ⟨(ax_wl_at (k := 2) (j := 95) rfl), List.forall_mem_cons.mpr ⟨(ax_wl_at (k := 2) (j := 97) rfl), List.forall_mem_cons.mpr ⟨(ax_wl_at (k := 2) (j := 99) rfl), List.forall_mem_cons.mpr ⟨(ax_wl_at (k := 2) (j := 101) rfl), List.forall_mem_cons.mpr ⟨(ax_wl_at (k := 2) (j := 103) rfl), fun _ h => absurd h List.not_mem_nil⟩⟩⟩⟩⟩⟩⟩⟩⟩⟩⟩⟩⟩⟩⟩⟩⟩) (by decide +kernel)
theorem aY_F : ∀ k, k < 17 → (parseFieldDescriptor (aT_F k).2.2.1).isSome = true := by decide +kernel
theorem aN_F : ∀ a, a < 17 → ∀ b, b < 17 → a ≠ b → (aT_F a).2.1 ≠ (aT_F b).2.1 := by decide +kernel
theorem aU_Forest : ∀ w ∈ u_ws "AskingFragments$Forest" aT_Forest 6, w ∈ ax_Ts := ax_list (show ∀ w ∈ u_ws "AskingFragments$Forest" aT_Forest 6, w ∈ lw_tbl from List.forall_mem_cons.mpr ⟨(ax_wl_at (k := 2) (j := 27) rfl), List.forall_mem_cons.mpr ⟨(ax_wl_at (k := 2) (j := 29) rfl), List.forall_mem_cons.mpr ⟨(ax_wl_at (k := 2) (j := 31) rfl), List.forall_mem_cons.mpr ⟨(ax_wl_at (k := 2) (j := 33) rfl), List.forall_mem_cons.mpr ⟨(ax_wl_at (k := 2) (j := 35) rfl), List.forall_mem_cons.mpr ⟨(ax_wl_at (k := 2) (j := 37) rfl), fun _ h => absurd h List.not_mem_nil⟩⟩⟩⟩⟩⟩) (by decide +kernel)
theorem aY_Forest : ∀ k, k < 6 → (parseFieldDescriptor (aT_Forest k).2.2.1).isSome = true := by decide +kernel
theorem aN_Forest : ∀ a, a < 6 → ∀ b, b < 6 → a ≠ b → (aT_Forest a).2.1 ≠ (aT_Forest b).2.1 := by decide +kernel
theorem aU_Image : ∀ w ∈ u_ws "AskingFragments$Image" aT_Image 4, w ∈ ax_Ts := ax_list (show ∀ w ∈ u_ws "AskingFragments$Image" aT_Image 4, w ∈ lw_tbl from List.forall_mem_cons.mpr ⟨(ax_wl_at (k := 2) (j := 3) rfl), List.forall_mem_cons.mpr ⟨(ax_wl_at (k := 2) (j := 5) rfl), List.forall_mem_cons.mpr ⟨(ax_wl_at (k := 2) (j := 7) rfl), List.forall_mem_cons.mpr ⟨(ax_wl_at (k := 2) (j := 9) rfl), fun _ h => absurd h List.not_mem_nil⟩⟩⟩⟩) (by decide +kernel)
theorem aY_Image : ∀ k, k < 4 → (parseFieldDescriptor (aT_Image k).2.2.1).isSome = true := by decide +kernel
theorem aN_Image : ∀ a, a < 4 → ∀ b, b < 4 → a ≠ b → (aT_Image a).2.1 ≠ (aT_Image b).2.1 := by decide +kernel
theorem aU_Net : ∀ w ∈ u_ws "AskingFragments$Net" aT_Net 6, w ∈ ax_Ts := ax_list (show ∀ w ∈ u_ws "AskingFragments$Net" aT_Net 6, w ∈ lw_tbl from List.forall_mem_cons.mpr ⟨(ax_wl_at (k := 1) (j := 94) rfl), List.forall_mem_cons.mpr ⟨(ax_wl_at (k := 1) (j := 96) rfl), List.forall_mem_cons.mpr ⟨(ax_wl_at (k := 1) (j := 98) rfl), List.forall_mem_cons.mpr ⟨(ax_wl_at (k := 1) (j := 100) rfl), List.forall_mem_cons.mpr ⟨(ax_wl_at (k := 1) (j := 102) rfl), List.forall_mem_cons.mpr ⟨(ax_wl_at (k := 1) (j := 104) rfl), fun _ h => absurd h List.not_mem_nil⟩⟩⟩⟩⟩⟩) (by decide +kernel)
theorem aY_Net : ∀ k, k < 6 → (parseFieldDescriptor (aT_Net k).2.2.1).isSome = true := by decide +kernel
theorem aN_Net : ∀ a, a < 6 → ∀ b, b < 6 → a ≠ b → (aT_Net a).2.1 ≠ (aT_Net b).2.1 := by decide +kernel
theorem aU_Reader : ∀ w ∈ u_ws "AskingFragments$Reader" aT_Reader 10, w ∈ ax_Ts := ax_list (show ∀ w ∈ u_ws "AskingFragments$Reader" aT_Reader 10, w ∈ lw_tbl from List.forall_mem_cons.mpr ⟨(ax_wl_at (k := 1) (j := 47) rfl), List.forall_mem_cons.mpr ⟨(ax_wl_at (k := 1) (j := 49) rfl), List.forall_mem_cons.mpr ⟨(ax_wl_at (k := 1) (j := 51) rfl), List.forall_mem_cons.mpr ⟨(ax_wl_at (k := 1) (j := 53) rfl), List.forall_mem_cons.mpr ⟨(ax_wl_at (k := 1) (j := 55) rfl), List.forall_mem_cons.mpr ⟨(ax_wl_at (k := 1) (j := 57) rfl), List.forall_mem_cons.mpr ⟨(ax_wl_at (k := 1) (j := 59) rfl), List.forall_mem_cons.mpr ⟨(ax_wl_at (k := 1) (j := 61) rfl), List.forall_mem_cons.mpr ⟨(ax_wl_at (k := 1) (j := 63) rfl), List.forall_mem_cons.mpr ⟨(ax_wl_at (k := 1) (j := 65) rfl), fun _ h => absurd h List.not_mem_nil⟩⟩⟩⟩⟩⟩⟩⟩⟩⟩) (by decide +kernel)
theorem aY_Reader : ∀ k, k < 10 → (parseFieldDescriptor (aT_Reader k).2.2.1).isSome = true := by decide +kernel
theorem aN_Reader : ∀ a, a < 10 → ∀ b, b < 10 → a ≠ b → (aT_Reader a).2.1 ≠ (aT_Reader b).2.1 := by decide +kernel
theorem aU_Rule : ∀ w ∈ u_ws "AskingFragments$Rule" aT_Rule 9, w ∈ ax_Ts := ax_list (show ∀ w ∈ u_ws "AskingFragments$Rule" aT_Rule 9, w ∈ lw_tbl from List.forall_mem_cons.mpr ⟨(ax_wl_at (k := 1) (j := 125) rfl), List.forall_mem_cons.mpr ⟨(ax_wl_at (k := 1) (j := 127) rfl), List.forall_mem_cons.mpr ⟨(ax_wl_at (k := 1) (j := 129) rfl), List.forall_mem_cons.mpr ⟨(ax_wl_at (k := 1) (j := 131) rfl), List.forall_mem_cons.mpr ⟨(ax_wl_at (k := 1) (j := 133) rfl), List.forall_mem_cons.mpr ⟨(ax_wl_at (k := 1) (j := 135) rfl), List.forall_mem_cons.mpr ⟨(ax_wl_at (k := 1) (j := 137) rfl), List.forall_mem_cons.mpr ⟨(ax_wl_at (k := 1) (j := 139) rfl), List.forall_mem_cons.mpr ⟨(ax_wl_at (k := 1) (j := 141) rfl), fun _ h => absurd h List.not_mem_nil⟩⟩⟩⟩⟩⟩⟩⟩⟩) (by decide +kernel)
theorem aY_Rule : ∀ k, k < 9 → (parseFieldDescriptor (aT_Rule k).2.2.1).isSome = true := by decide +kernel
theorem aN_Rule : ∀ a, a < 9 → ∀ b, b < 9 → a ≠ b → (aT_Rule a).2.1 ≠ (aT_Rule b).2.1 := by decide +kernel
theorem aU_Run : ∀ w ∈ u_ws "AskingFragments$Run" aT_Run 18, w ∈ ax_Ts := ax_list (show ∀ w ∈ u_ws "AskingFragments$Run" aT_Run 18, w ∈ lw_tbl from List.forall_mem_cons.mpr ⟨(ax_wl_at (k := 1) (j := 185) rfl), List.forall_mem_cons.mpr ⟨(ax_wl_at (k := 1) (j := 187) rfl), List.forall_mem_cons.mpr ⟨(ax_wl_at (k := 1) (j := 189) rfl), List.forall_mem_cons.mpr ⟨(ax_wl_at (k := 1) (j := 191) rfl), List.forall_mem_cons.mpr ⟨(ax_wl_at (k := 1) (j := 193) rfl), List.forall_mem_cons.mpr ⟨(ax_wl_at (k := 1) (j := 195) rfl), List.forall_mem_cons.mpr ⟨(ax_wl_at (k := 1) (j := 197) rfl), List.forall_mem_cons.mpr ⟨(ax_wl_at (k := 1) (j := 199) rfl), List.forall_mem_cons.mpr ⟨(ax_wl_at (k := 1) (j := 201) rfl), List.forall_mem_cons.mpr ⟨(ax_wl_at (k := 1) (j := 203) rfl), List.forall_mem_cons.mpr ⟨(ax_wl_at (k := 1) (j := 205) rfl), List.forall_mem_cons.mpr ⟨(ax_wl_at (k := 1) (j := 207) rfl), List.forall_mem_cons.mpr ⟨(ax_wl_at (k := 1) (j := 209) rfl), List.forall_mem_cons.mpr ⟨(ax_wl_at (k := 1) (j := 211) rfl), List.forall_mem_cons.mpr ⟨(ax_wl_at (k := 1) (j := 213) rfl), List.forall_mem_cons.mpr ⟨(ax_wl_at (k := 1) (j := 215) rfl), List.forall_mem_cons.mpr ⟨(ax_wl_at (k := 1) (j := 217) rfl), List.forall_mem_cons.mpr ⟨(ax_wl_at (k := 1) (j := 219) rfl), fun _ h => absurd h List.not_mem_nil⟩⟩⟩⟩⟩⟩⟩⟩⟩⟩⟩⟩⟩⟩⟩⟩⟩⟩) (by decide +kernel)
theorem aY_Run : ∀ k, k < 18 → (parseFieldDescriptor (aT_Run k).2.2.1).isSome = true := by decide +kernel
theorem aN_Run : ∀ a, a < 18 → ∀ b, b < 18 → a ≠ b → (aT_Run a).2.1 ≠ (aT_Run b).2.1 := by decide +kernel
theorem aU_Spell : ∀ w ∈ u_ws "AskingFragments$Spelling" aT_Spell 2, w ∈ ax_Ts := ax_list (show ∀ w ∈ u_ws "AskingFragments$Spelling" aT_Spell 2, w ∈ lw_tbl from List.forall_mem_cons.mpr ⟨(ax_wl_at (k := 2) (j := 49) rfl), List.forall_mem_cons.mpr ⟨(ax_wl_at (k := 2) (j := 51) rfl), fun _ h => absurd h List.not_mem_nil⟩⟩) (by decide +kernel)
theorem aY_Spell : ∀ k, k < 2 → (parseFieldDescriptor (aT_Spell k).2.2.1).isSome = true := by decide +kernel
theorem aN_Spell : ∀ a, a < 2 → ∀ b, b < 2 → a ≠ b → (aT_Spell a).2.1 ≠ (aT_Spell b).2.1 := by decide +kernel
theorem aU_M : ∀ w ∈ u_ws "AskingFragmentsModel" aT_M 35, w ∈ ax_Ts := ax_list (show ∀ w ∈ u_ws "AskingFragmentsModel" aT_M 35, w ∈ lw_tbl from List.forall_mem_cons.mpr ⟨(ax_wl_at (k := 6) (j := 12) rfl), List.forall_mem_cons.mpr ⟨(ax_wl_at (k := 6) (j := 14) rfl), List.forall_mem_cons.mpr ⟨(ax_wl_at (k := 6) (j := 16) rfl), List.forall_mem_cons.mpr ⟨(ax_wl_at (k := 6) (j := 18) rfl), List.forall_mem_cons.mpr ⟨(ax_wl_at (k := 6) (j := 20) rfl), List.forall_mem_cons.mpr ⟨(ax_wl_at (k := 6) (j := 22) rfl), List.forall_mem_cons.mpr ⟨(ax_wl_at (k := 6) (j := 24) rfl), List.forall_mem_cons.mpr ⟨(ax_wl_at (k := 6) (j := 26) rfl), List.forall_mem_cons.mpr ⟨(ax_wl_at (k := 6) (j := 28) rfl), List.forall_mem_cons.mpr ⟨(ax_wl_at (k := 6) (j := 30) rfl), List.forall_mem_cons.mpr ⟨(ax_wl_at (k := 6) (j := 32) rfl), List.forall_mem_cons.mpr ⟨(ax_wl_at (k := 6) (j := 34) rfl), List.forall_mem_cons.mpr ⟨(ax_wl_at (k := 6) (j := 36) rfl), List.forall_mem_cons.mpr ⟨(ax_wl_at (k := 6) (j := 38) rfl), List.forall_mem_cons.mpr ⟨(ax_wl_at (k := 6) (j := 40) rfl), List.forall_mem_cons.mpr ⟨(ax_wl_at (k := 6) (j := 42) rfl), List.forall_mem_cons.mpr ⟨(ax_wl_at (k := 6) (j := 44) rfl), List.forall_mem_cons.mpr ⟨(ax_wl_at (k := 6) (j := 46) rfl), List.forall_mem_cons.mpr ⟨(ax_wl_at (k := 6) (j := 48) rfl), List.forall_mem_cons.mpr ⟨(ax_wl_at (k := 6) (j := 50) rfl), List.forall_mem_cons.mpr ⟨(ax_wl_at (k := 6) (j := 52) rfl), List.forall_mem_cons.mpr ⟨(ax_wl_at (k := 6) (j := 54) rfl), List.forall_mem_cons.mpr ⟨(ax_wl_at (k := 6) (j := 56) rfl), List.forall_mem_cons.mpr ⟨(ax_wl_at (k := 6) (j := 58) rfl), List.forall_mem_cons.mpr ⟨(ax_wl_at (k := 6) (j := 60) rfl), List.forall_mem_cons.mpr ⟨(ax_wl_at (k := 6) (j := 62) rfl), List.forall_mem_cons.mpr ⟨(ax_wl_at (k := 6) (j := 64) rfl), List.forall_mem_cons.mpr ⟨(ax_wl_at (k := 6) (j := 66) rfl), List.forall_mem_cons.mpr ⟨(ax_wl_at (k := 6) (j := 68) rfl), List.forall_mem_cons.mpr ⟨(ax_wl_at (k := 6) (j := 70) rfl), List.forall_mem_cons.mpr ⟨(ax_wl_at (k := 6) (j := 72) rfl), List.forall_mem_cons.mpr ⟨(ax_wl_at (k := 6) (j := 74) rfl), List.forall_mem_cons.mpr ⟨(ax_wl_at (k := 6) (j := 76) rfl), List.forall_mem_cons.mpr ⟨(ax_wl_at (k := 6) (j := 78) rfl), List.forall_mem_cons.mpr ⟨(ax_wl_at (k := 6) (j := 80) rfl), fun _ h => absurd h List.not_mem_nil⟩⟩⟩⟩⟩⟩⟩⟩⟩⟩⟩⟩⟩⟩⟩⟩⟩⟩⟩⟩⟩⟩⟩⟩⟩⟩⟩⟩⟩⟩⟩⟩⟩⟩⟩) (by decide +kernel)
theorem aY_M : ∀ k, k < 35 → (parseFieldDescriptor (aT_M k).2.2.1).isSome = true := by decide +kernel
theorem aN_M : ∀ a, a < 35 → ∀ b, b < 35 → a ≠ b → (aT_M a).2.1 ≠ (aT_M b).2.1 := by decide +kernel
def ax_mok (d : ax_D) : Prop := Jvm.Cond.code d.1 d.2.1 d.2.2.1 d.2.2.2.1 ∈ ax_Ts ∧ Jvm.Cond.initialized d.1.cls ∈ ax_Ts ∧ d.2.2.1 ≤ 40 ∧ plainName d.1.cls = true ∧ d.1.cls ≠ "java/lang/invoke/MethodHandle" ∧ d.1.cls ≠ "java/lang/invoke/VarHandle"
theorem ax_bifd {b : Bool} {x y : ax_D} (hx : ax_mok x) (hy : ax_mok y) : ax_mok (bif b then x else y) := by
  cases b
  · exact hy
  · exact hx
theorem aI_F : Jvm.Cond.initialized "AskingFragments" ∈ ax_Ts ∧ plainName "AskingFragments" = true ∧ "AskingFragments" ≠ "java/lang/invoke/MethodHandle" ∧ "AskingFragments" ≠ "java/lang/invoke/VarHandle" := ⟨ax_in (ax_wl_at (k := 1) (j := 1) rfl) rfl, by decide +kernel, by decide +kernel, by decide +kernel⟩
theorem aI_Forest : Jvm.Cond.initialized "AskingFragments$Forest" ∈ ax_Ts ∧ plainName "AskingFragments$Forest" = true ∧ "AskingFragments$Forest" ≠ "java/lang/invoke/MethodHandle" ∧ "AskingFragments$Forest" ≠ "java/lang/invoke/VarHandle" := ⟨ax_in (ax_wl_at (k := 1) (j := 7) rfl) rfl, by decide +kernel, by decide +kernel, by decide +kernel⟩
theorem aI_Image : Jvm.Cond.initialized "AskingFragments$Image" ∈ ax_Ts ∧ plainName "AskingFragments$Image" = true ∧ "AskingFragments$Image" ≠ "java/lang/invoke/MethodHandle" ∧ "AskingFragments$Image" ≠ "java/lang/invoke/VarHandle" := ⟨ax_in (ax_wl_at (k := 1) (j := 6) rfl) rfl, by decide +kernel, by decide +kernel, by decide +kernel⟩
theorem aI_Net : Jvm.Cond.initialized "AskingFragments$Net" ∈ ax_Ts ∧ plainName "AskingFragments$Net" = true ∧ "AskingFragments$Net" ≠ "java/lang/invoke/MethodHandle" ∧ "AskingFragments$Net" ≠ "java/lang/invoke/VarHandle" := ⟨ax_in (ax_wl_at (k := 1) (j := 3) rfl) rfl, by decide +kernel, by decide +kernel, by decide +kernel⟩
theorem aI_Reader : Jvm.Cond.initialized "AskingFragments$Reader" ∈ ax_Ts ∧ plainName "AskingFragments$Reader" = true ∧ "AskingFragments$Reader" ≠ "java/lang/invoke/MethodHandle" ∧ "AskingFragments$Reader" ≠ "java/lang/invoke/VarHandle" := ⟨ax_in (ax_wl_at (k := 1) (j := 2) rfl) rfl, by decide +kernel, by decide +kernel, by decide +kernel⟩
theorem aI_Rule : Jvm.Cond.initialized "AskingFragments$Rule" ∈ ax_Ts ∧ plainName "AskingFragments$Rule" = true ∧ "AskingFragments$Rule" ≠ "java/lang/invoke/MethodHandle" ∧ "AskingFragments$Rule" ≠ "java/lang/invoke/VarHandle" := ⟨ax_in (ax_wl_at (k := 1) (j := 4) rfl) rfl, by decide +kernel, by decide +kernel, by decide +kernel⟩
theorem aI_Run : Jvm.Cond.initialized "AskingFragments$Run" ∈ ax_Ts ∧ plainName "AskingFragments$Run" = true ∧ "AskingFragments$Run" ≠ "java/lang/invoke/MethodHandle" ∧ "AskingFragments$Run" ≠ "java/lang/invoke/VarHandle" := ⟨ax_in (ax_wl_at (k := 1) (j := 5) rfl) rfl, by decide +kernel, by decide +kernel, by decide +kernel⟩
theorem aI_Spell : Jvm.Cond.initialized "AskingFragments$Spelling" ∈ ax_Ts ∧ plainName "AskingFragments$Spelling" = true ∧ "AskingFragments$Spelling" ≠ "java/lang/invoke/MethodHandle" ∧ "AskingFragments$Spelling" ≠ "java/lang/invoke/VarHandle" := ⟨ax_in (ax_wl_at (k := 1) (j := 8) rfl) rfl, by decide +kernel, by decide +kernel, by decide +kernel⟩
theorem aI_M : Jvm.Cond.initialized "AskingFragmentsModel" ∈ ax_Ts ∧ plainName "AskingFragmentsModel" = true ∧ "AskingFragmentsModel" ≠ "java/lang/invoke/MethodHandle" ∧ "AskingFragmentsModel" ≠ "java/lang/invoke/VarHandle" := ⟨ax_in (ax_wl_at (k := 1) (j := 9) rfl) rfl, by decide +kernel, by decide +kernel, by decide +kernel⟩
theorem aI_String : Jvm.Cond.initialized "java/lang/String" ∈ ax_Ts ∧ plainName "java/lang/String" = true ∧ "java/lang/String" ≠ "java/lang/invoke/MethodHandle" ∧ "java/lang/String" ≠ "java/lang/invoke/VarHandle" := ⟨ax_in (ax_wl_at (k := 1) (j := 11) rfl) rfl, by decide +kernel, by decide +kernel, by decide +kernel⟩
theorem am_0_ok : ax_mok am_0 := ⟨ax_in (ax_wl_at (k := 5) (j := 198) rfl) rfl, aI_M.1, by decide +kernel, aI_M.2⟩
theorem am_1_ok : ax_mok am_1 := ⟨ax_in (ax_wl_at (k := 6) (j := 199) rfl) rfl, aI_M.1, by decide +kernel, aI_M.2⟩
theorem am_2_ok : ax_mok am_2 := ⟨ax_in (ax_wl_at (k := 6) (j := 155) rfl) rfl, aI_M.1, by decide +kernel, aI_M.2⟩
theorem am_3_ok : ax_mok am_3 := ⟨ax_in (ax_wl_at (k := 5) (j := 207) rfl) rfl, aI_M.1, by decide +kernel, aI_M.2⟩
theorem am_4_ok : ax_mok am_4 := ⟨ax_in (ax_wl_at (k := 5) (j := 202) rfl) rfl, aI_M.1, by decide +kernel, aI_M.2⟩
theorem am_5_ok : ax_mok am_5 := ⟨ax_in (ax_wl_at (k := 5) (j := 211) rfl) rfl, aI_M.1, by decide +kernel, aI_M.2⟩
theorem am_6_ok : ax_mok am_6 := ⟨ax_in (ax_wl_at (k := 6) (j := 96) rfl) rfl, aI_M.1, by decide +kernel, aI_M.2⟩
theorem am_7_ok : ax_mok am_7 := ⟨ax_in (ax_wl_at (k := 6) (j := 110) rfl) rfl, aI_M.1, by decide +kernel, aI_M.2⟩
theorem am_8_ok : ax_mok am_8 := ⟨ax_in (ax_wl_at (k := 6) (j := 106) rfl) rfl, aI_M.1, by decide +kernel, aI_M.2⟩
theorem am_9_ok : ax_mok am_9 := ⟨ax_in (ax_wl_at (k := 6) (j := 103) rfl) rfl, aI_M.1, by decide +kernel, aI_M.2⟩
theorem am_10_ok : ax_mok am_10 := ⟨ax_in (ax_wl_at (k := 6) (j := 100) rfl) rfl, aI_M.1, by decide +kernel, aI_M.2⟩
theorem am_11_ok : ax_mok am_11 := ⟨ax_in (ax_wl_at (k := 6) (j := 122) rfl) rfl, aI_M.1, by decide +kernel, aI_M.2⟩
theorem am_12_ok : ax_mok am_12 := ⟨ax_in (ax_wl_at (k := 6) (j := 119) rfl) rfl, aI_M.1, by decide +kernel, aI_M.2⟩
theorem am_13_ok : ax_mok am_13 := ⟨ax_in (ax_wl_at (k := 6) (j := 138) rfl) rfl, aI_M.1, by decide +kernel, aI_M.2⟩
theorem am_14_ok : ax_mok am_14 := ⟨ax_in (ax_wl_at (k := 6) (j := 116) rfl) rfl, aI_M.1, by decide +kernel, aI_M.2⟩
theorem am_15_ok : ax_mok am_15 := ⟨ax_in (ax_wl_at (k := 6) (j := 134) rfl) rfl, aI_M.1, by decide +kernel, aI_M.2⟩
theorem am_16_ok : ax_mok am_16 := ⟨ax_in (ax_wl_at (k := 6) (j := 130) rfl) rfl, aI_M.1, by decide +kernel, aI_M.2⟩
theorem am_17_ok : ax_mok am_17 := ⟨ax_in (ax_wl_at (k := 6) (j := 152) rfl) rfl, aI_M.1, by decide +kernel, aI_M.2⟩
theorem am_18_ok : ax_mok am_18 := ⟨ax_in (ax_wl_at (k := 6) (j := 159) rfl) rfl, aI_M.1, by decide +kernel, aI_M.2⟩
theorem am_19_ok : ax_mok am_19 := ⟨ax_in (ax_wl_at (k := 6) (j := 92) rfl) rfl, aI_M.1, by decide +kernel, aI_M.2⟩
theorem am_20_ok : ax_mok am_20 := ⟨ax_in (ax_wl_at (k := 6) (j := 163) rfl) rfl, aI_M.1, by decide +kernel, aI_M.2⟩
theorem am_21_ok : ax_mok am_21 := ⟨ax_in (ax_wl_at (k := 6) (j := 167) rfl) rfl, aI_M.1, by decide +kernel, aI_M.2⟩
theorem am_22_ok : ax_mok am_22 := ⟨ax_in (ax_wl_at (k := 6) (j := 141) rfl) rfl, aI_M.1, by decide +kernel, aI_M.2⟩
theorem am_23_ok : ax_mok am_23 := ⟨ax_in (ax_wl_at (k := 6) (j := 126) rfl) rfl, aI_M.1, by decide +kernel, aI_M.2⟩
theorem am_24_ok : ax_mok am_24 := ⟨ax_in (ax_wl_at (k := 6) (j := 148) rfl) rfl, aI_M.1, by decide +kernel, aI_M.2⟩
theorem am_25_ok : ax_mok am_25 := ⟨ax_in (ax_wl_at (k := 6) (j := 145) rfl) rfl, aI_M.1, by decide +kernel, aI_M.2⟩
theorem am_26_ok : ax_mok am_26 := ⟨ax_in (ax_wl_at (k := 6) (j := 88) rfl) rfl, aI_M.1, by decide +kernel, aI_M.2⟩
theorem am_27_ok : ax_mok am_27 := ⟨ax_in (ax_wl_at (k := 6) (j := 183) rfl) rfl, aI_M.1, by decide +kernel, aI_M.2⟩
theorem am_28_ok : ax_mok am_28 := ⟨ax_in (ax_wl_at (k := 6) (j := 179) rfl) rfl, aI_M.1, by decide +kernel, aI_M.2⟩
theorem am_29_ok : ax_mok am_29 := ⟨ax_in (ax_wl_at (k := 6) (j := 175) rfl) rfl, aI_M.1, by decide +kernel, aI_M.2⟩
theorem am_30_ok : ax_mok am_30 := ⟨ax_in (ax_wl_at (k := 6) (j := 171) rfl) rfl, aI_M.1, by decide +kernel, aI_M.2⟩
theorem am_31_ok : ax_mok am_31 := ⟨ax_in (ax_wl_at (k := 6) (j := 187) rfl) rfl, aI_M.1, by decide +kernel, aI_M.2⟩
theorem am_32_ok : ax_mok am_32 := ⟨ax_in (ax_wl_at (k := 6) (j := 195) rfl) rfl, aI_M.1, by decide +kernel, aI_M.2⟩
theorem am_33_ok : ax_mok am_33 := ⟨ax_in (ax_wl_at (k := 6) (j := 227) rfl) rfl, aI_M.1, by decide +kernel, aI_M.2⟩
theorem am_34_ok : ax_mok am_34 := ⟨ax_in (ax_wl_at (k := 7) (j := 43) rfl) rfl, aI_M.1, by decide +kernel, aI_M.2⟩
theorem am_35_ok : ax_mok am_35 := ⟨ax_in (ax_wl_at (k := 7) (j := 51) rfl) rfl, aI_M.1, by decide +kernel, aI_M.2⟩
theorem am_36_ok : ax_mok am_36 := ⟨ax_in (ax_wl_at (k := 6) (j := 215) rfl) rfl, aI_M.1, by decide +kernel, aI_M.2⟩
theorem am_37_ok : ax_mok am_37 := ⟨ax_in (ax_wl_at (k := 6) (j := 211) rfl) rfl, aI_M.1, by decide +kernel, aI_M.2⟩
theorem am_38_ok : ax_mok am_38 := ⟨ax_in (ax_wl_at (k := 7) (j := 55) rfl) rfl, aI_M.1, by decide +kernel, aI_M.2⟩
theorem am_39_ok : ax_mok am_39 := ⟨ax_in (ax_wl_at (k := 7) (j := 47) rfl) rfl, aI_M.1, by decide +kernel, aI_M.2⟩
theorem am_40_ok : ax_mok am_40 := ⟨ax_in (ax_wl_at (k := 7) (j := 59) rfl) rfl, aI_M.1, by decide +kernel, aI_M.2⟩
theorem am_41_ok : ax_mok am_41 := ⟨ax_in (ax_wl_at (k := 7) (j := 39) rfl) rfl, aI_M.1, by decide +kernel, aI_M.2⟩
theorem am_42_ok : ax_mok am_42 := ⟨ax_in (ax_wl_at (k := 6) (j := 219) rfl) rfl, aI_M.1, by decide +kernel, aI_M.2⟩
theorem am_43_ok : ax_mok am_43 := ⟨ax_in (ax_wl_at (k := 7) (j := 35) rfl) rfl, aI_M.1, by decide +kernel, aI_M.2⟩
theorem am_44_ok : ax_mok am_44 := ⟨ax_in (ax_wl_at (k := 6) (j := 207) rfl) rfl, aI_M.1, by decide +kernel, aI_M.2⟩
theorem am_45_ok : ax_mok am_45 := ⟨ax_in (ax_wl_at (k := 7) (j := 63) rfl) rfl, aI_M.1, by decide +kernel, aI_M.2⟩
theorem am_46_ok : ax_mok am_46 := ⟨ax_in (ax_wl_at (k := 7) (j := 71) rfl) rfl, aI_M.1, by decide +kernel, aI_M.2⟩
theorem am_47_ok : ax_mok am_47 := ⟨ax_in (ax_wl_at (k := 7) (j := 11) rfl) rfl, aI_M.1, by decide +kernel, aI_M.2⟩
theorem am_48_ok : ax_mok am_48 := ⟨ax_in (ax_wl_at (k := 7) (j := 135) rfl) rfl, aI_M.1, by decide +kernel, aI_M.2⟩
theorem am_49_ok : ax_mok am_49 := ⟨ax_in (ax_wl_at (k := 7) (j := 31) rfl) rfl, aI_M.1, by decide +kernel, aI_M.2⟩
theorem am_50_ok : ax_mok am_50 := ⟨ax_in (ax_wl_at (k := 7) (j := 95) rfl) rfl, aI_M.1, by decide +kernel, aI_M.2⟩
theorem am_51_ok : ax_mok am_51 := ⟨ax_in (ax_wl_at (k := 7) (j := 99) rfl) rfl, aI_M.1, by decide +kernel, aI_M.2⟩
theorem am_52_ok : ax_mok am_52 := ⟨ax_in (ax_wl_at (k := 7) (j := 119) rfl) rfl, aI_M.1, by decide +kernel, aI_M.2⟩
theorem am_53_ok : ax_mok am_53 := ⟨ax_in (ax_wl_at (k := 7) (j := 79) rfl) rfl, aI_M.1, by decide +kernel, aI_M.2⟩
theorem am_54_ok : ax_mok am_54 := ⟨ax_in (ax_wl_at (k := 7) (j := 83) rfl) rfl, aI_M.1, by decide +kernel, aI_M.2⟩
theorem am_55_ok : ax_mok am_55 := ⟨ax_in (ax_wl_at (k := 7) (j := 87) rfl) rfl, aI_M.1, by decide +kernel, aI_M.2⟩
theorem am_56_ok : ax_mok am_56 := ⟨ax_in (ax_wl_at (k := 7) (j := 91) rfl) rfl, aI_M.1, by decide +kernel, aI_M.2⟩
theorem am_57_ok : ax_mok am_57 := ⟨ax_in (ax_wl_at (k := 7) (j := 107) rfl) rfl, aI_M.1, by decide +kernel, aI_M.2⟩
theorem am_58_ok : ax_mok am_58 := ⟨ax_in (ax_wl_at (k := 7) (j := 103) rfl) rfl, aI_M.1, by decide +kernel, aI_M.2⟩
theorem am_59_ok : ax_mok am_59 := ⟨ax_in (ax_wl_at (k := 7) (j := 111) rfl) rfl, aI_M.1, by decide +kernel, aI_M.2⟩
theorem am_60_ok : ax_mok am_60 := ⟨ax_in (ax_wl_at (k := 7) (j := 115) rfl) rfl, aI_M.1, by decide +kernel, aI_M.2⟩
theorem am_61_ok : ax_mok am_61 := ⟨ax_in (ax_wl_at (k := 6) (j := 203) rfl) rfl, aI_M.1, by decide +kernel, aI_M.2⟩
theorem am_62_ok : ax_mok am_62 := ⟨ax_in (ax_wl_at (k := 7) (j := 123) rfl) rfl, aI_M.1, by decide +kernel, aI_M.2⟩
theorem am_63_ok : ax_mok am_63 := ⟨ax_in (ax_wl_at (k := 7) (j := 75) rfl) rfl, aI_M.1, by decide +kernel, aI_M.2⟩
theorem am_64_ok : ax_mok am_64 := ⟨ax_in (ax_wl_at (k := 7) (j := 131) rfl) rfl, aI_M.1, by decide +kernel, aI_M.2⟩
theorem am_65_ok : ax_mok am_65 := ⟨ax_in (ax_wl_at (k := 7) (j := 139) rfl) rfl, aI_M.1, by decide +kernel, aI_M.2⟩
theorem am_66_ok : ax_mok am_66 := ⟨ax_in (ax_wl_at (k := 7) (j := 163) rfl) rfl, aI_M.1, by decide +kernel, aI_M.2⟩
theorem am_67_ok : ax_mok am_67 := ⟨ax_in (ax_wl_at (k := 7) (j := 171) rfl) rfl, aI_M.1, by decide +kernel, aI_M.2⟩
theorem am_68_ok : ax_mok am_68 := ⟨ax_in (ax_wl_at (k := 7) (j := 175) rfl) rfl, aI_M.1, by decide +kernel, aI_M.2⟩
theorem am_69_ok : ax_mok am_69 := ⟨ax_in (ax_wl_at (k := 7) (j := 167) rfl) rfl, aI_M.1, by decide +kernel, aI_M.2⟩
theorem am_70_ok : ax_mok am_70 := ⟨ax_in (ax_wl_at (k := 7) (j := 159) rfl) rfl, aI_M.1, by decide +kernel, aI_M.2⟩
theorem am_71_ok : ax_mok am_71 := ⟨ax_in (ax_wl_at (k := 7) (j := 155) rfl) rfl, aI_M.1, by decide +kernel, aI_M.2⟩
theorem am_72_ok : ax_mok am_72 := ⟨ax_in (ax_wl_at (k := 6) (j := 191) rfl) rfl, aI_M.1, by decide +kernel, aI_M.2⟩
theorem am_73_ok : ax_mok am_73 := ⟨ax_in (ax_wl_at (k := 6) (j := 223) rfl) rfl, aI_M.1, by decide +kernel, aI_M.2⟩
theorem am_74_ok : ax_mok am_74 := ⟨ax_in (ax_wl_at (k := 6) (j := 239) rfl) rfl, aI_M.1, by decide +kernel, aI_M.2⟩
theorem am_75_ok : ax_mok am_75 := ⟨ax_in (ax_wl_at (k := 7) (j := 7) rfl) rfl, aI_M.1, by decide +kernel, aI_M.2⟩
theorem am_76_ok : ax_mok am_76 := ⟨ax_in (ax_wl_at (k := 7) (j := 3) rfl) rfl, aI_M.1, by decide +kernel, aI_M.2⟩
theorem am_77_ok : ax_mok am_77 := ⟨ax_in (ax_wl_at (k := 7) (j := 15) rfl) rfl, aI_M.1, by decide +kernel, aI_M.2⟩
theorem am_78_ok : ax_mok am_78 := ⟨ax_in (ax_wl_at (k := 7) (j := 27) rfl) rfl, aI_M.1, by decide +kernel, aI_M.2⟩
theorem am_79_ok : ax_mok am_79 := ⟨ax_in (ax_wl_at (k := 7) (j := 147) rfl) rfl, aI_M.1, by decide +kernel, aI_M.2⟩
theorem am_80_ok : ax_mok am_80 := ⟨ax_in (ax_wl_at (k := 7) (j := 23) rfl) rfl, aI_M.1, by decide +kernel, aI_M.2⟩
theorem am_81_ok : ax_mok am_81 := ⟨ax_in (ax_wl_at (k := 7) (j := 143) rfl) rfl, aI_M.1, by decide +kernel, aI_M.2⟩
theorem am_82_ok : ax_mok am_82 := ⟨ax_in (ax_wl_at (k := 7) (j := 19) rfl) rfl, aI_M.1, by decide +kernel, aI_M.2⟩
theorem am_83_ok : ax_mok am_83 := ⟨ax_in (ax_wl_at (k := 7) (j := 67) rfl) rfl, aI_M.1, by decide +kernel, aI_M.2⟩
theorem am_84_ok : ax_mok am_84 := ⟨ax_in (ax_wl_at (k := 7) (j := 127) rfl) rfl, aI_M.1, by decide +kernel, aI_M.2⟩
theorem am_85_ok : ax_mok am_85 := ⟨ax_in (ax_wl_at (k := 7) (j := 151) rfl) rfl, aI_M.1, by decide +kernel, aI_M.2⟩
theorem am_86_ok : ax_mok am_86 := ⟨ax_in (ax_wl_at (k := 7) (j := 179) rfl) rfl, aI_M.1, by decide +kernel, aI_M.2⟩
theorem am_87_ok : ax_mok am_87 := ⟨ax_in (ax_wl_at (k := 7) (j := 187) rfl) rfl, aI_M.1, by decide +kernel, aI_M.2⟩
theorem am_88_ok : ax_mok am_88 := ⟨ax_in (ax_wl_at (k := 7) (j := 183) rfl) rfl, aI_M.1, by decide +kernel, aI_M.2⟩
theorem am_89_ok : ax_mok am_89 := ⟨ax_in (ax_wl_at (k := 7) (j := 191) rfl) rfl, aI_M.1, by decide +kernel, aI_M.2⟩
theorem am_90_ok : ax_mok am_90 := ⟨ax_in (ax_wl_at (k := 7) (j := 195) rfl) rfl, aI_M.1, by decide +kernel, aI_M.2⟩
theorem am_91_ok : ax_mok am_91 := ⟨ax_in (ax_wl_at (k := 7) (j := 199) rfl) rfl, aI_M.1, by decide +kernel, aI_M.2⟩
theorem am_92_ok : ax_mok am_92 := ⟨ax_in (ax_wl_at (k := 7) (j := 214) rfl) rfl, aI_M.1, by decide +kernel, aI_M.2⟩
theorem am_93_ok : ax_mok am_93 := ⟨ax_in (ax_wl_at (k := 7) (j := 218) rfl) rfl, aI_M.1, by decide +kernel, aI_M.2⟩
theorem am_94_ok : ax_mok am_94 := ⟨ax_in (ax_wl_at (k := 6) (j := 235) rfl) rfl, aI_M.1, by decide +kernel, aI_M.2⟩
theorem am_95_ok : ax_mok am_95 := ⟨ax_in (ax_wl_at (k := 7) (j := 207) rfl) rfl, aI_M.1, by decide +kernel, aI_M.2⟩
theorem am_96_ok : ax_mok am_96 := ⟨ax_in (ax_wl_at (k := 7) (j := 210) rfl) rfl, aI_M.1, by decide +kernel, aI_M.2⟩
theorem am_97_ok : ax_mok am_97 := ⟨ax_in (ax_wl_at (k := 7) (j := 203) rfl) rfl, aI_M.1, by decide +kernel, aI_M.2⟩
theorem am_98_ok : ax_mok am_98 := ⟨ax_in (ax_wl_at (k := 7) (j := 237) rfl) rfl, aI_M.1, by decide +kernel, aI_M.2⟩
theorem am_99_ok : ax_mok am_99 := ⟨ax_in (ax_wl_at (k := 7) (j := 222) rfl) rfl, aI_M.1, by decide +kernel, aI_M.2⟩
theorem am_100_ok : ax_mok am_100 := ⟨ax_in (ax_wl_at (k := 6) (j := 231) rfl) rfl, aI_M.1, by decide +kernel, aI_M.2⟩
theorem am_101_ok : ax_mok am_101 := ⟨ax_in (ax_wl_at (k := 7) (j := 230) rfl) rfl, aI_M.1, by decide +kernel, aI_M.2⟩
theorem am_102_ok : ax_mok am_102 := ⟨ax_in (ax_wl_at (k := 7) (j := 234) rfl) rfl, aI_M.1, by decide +kernel, aI_M.2⟩
theorem am_103_ok : ax_mok am_103 := ⟨ax_in (ax_wl_at (k := 7) (j := 226) rfl) rfl, aI_M.1, by decide +kernel, aI_M.2⟩
theorem am_104_ok : ax_mok am_104 := ⟨ax_in (ax_wl_at (k := 8) (j := 1) rfl) rfl, aI_M.1, by decide +kernel, aI_M.2⟩
theorem am_105_ok : ax_mok am_105 := ⟨ax_in (ax_wl_at (k := 8) (j := 5) rfl) rfl, aI_M.1, by decide +kernel, aI_M.2⟩
theorem am_106_ok : ax_mok am_106 := ⟨ax_in (ax_wl_at (k := 8) (j := 9) rfl) rfl, aI_M.1, by decide +kernel, aI_M.2⟩
theorem am_107_ok : ax_mok am_107 := ⟨ax_in (ax_wl_at (k := 8) (j := 13) rfl) rfl, aI_M.1, by decide +kernel, aI_M.2⟩
theorem am_108_ok : ax_mok am_108 := ⟨ax_in (ax_wl_at (k := 8) (j := 17) rfl) rfl, aI_M.1, by decide +kernel, aI_M.2⟩
theorem am_109_ok : ax_mok am_109 := ⟨ax_in (ax_wl_at (k := 8) (j := 33) rfl) rfl, aI_M.1, by decide +kernel, aI_M.2⟩
theorem am_110_ok : ax_mok am_110 := ⟨ax_in (ax_wl_at (k := 8) (j := 21) rfl) rfl, aI_M.1, by decide +kernel, aI_M.2⟩
theorem am_111_ok : ax_mok am_111 := ⟨ax_in (ax_wl_at (k := 8) (j := 29) rfl) rfl, aI_M.1, by decide +kernel, aI_M.2⟩
theorem am_112_ok : ax_mok am_112 := ⟨ax_in (ax_wl_at (k := 8) (j := 25) rfl) rfl, aI_M.1, by decide +kernel, aI_M.2⟩
theorem am_113_ok : ax_mok am_113 := ⟨ax_in (ax_wl_at (k := 8) (j := 37) rfl) rfl, aI_M.1, by decide +kernel, aI_M.2⟩
theorem am_114_ok : ax_mok am_114 := ⟨ax_in (ax_wl_at (k := 8) (j := 53) rfl) rfl, aI_M.1, by decide +kernel, aI_M.2⟩
theorem am_115_ok : ax_mok am_115 := ⟨ax_in (ax_wl_at (k := 8) (j := 49) rfl) rfl, aI_M.1, by decide +kernel, aI_M.2⟩
theorem am_116_ok : ax_mok am_116 := ⟨ax_in (ax_wl_at (k := 8) (j := 45) rfl) rfl, aI_M.1, by decide +kernel, aI_M.2⟩
theorem am_117_ok : ax_mok am_117 := ⟨ax_in (ax_wl_at (k := 8) (j := 41) rfl) rfl, aI_M.1, by decide +kernel, aI_M.2⟩
theorem am_118_ok : ax_mok am_118 := ⟨ax_in (ax_wl_at (k := 8) (j := 62) rfl) rfl, aI_M.1, by decide +kernel, aI_M.2⟩
theorem am_119_ok : ax_mok am_119 := ⟨ax_in (ax_wl_at (k := 8) (j := 58) rfl) rfl, aI_M.1, by decide +kernel, aI_M.2⟩
theorem am_120_ok : ax_mok am_120 := ⟨ax_in (ax_wl_at (k := 8) (j := 74) rfl) rfl, aI_M.1, by decide +kernel, aI_M.2⟩
theorem am_121_ok : ax_mok am_121 := ⟨ax_in (ax_wl_at (k := 8) (j := 70) rfl) rfl, aI_M.1, by decide +kernel, aI_M.2⟩
theorem am_122_ok : ax_mok am_122 := ⟨ax_in (ax_wl_at (k := 8) (j := 70) rfl) rfl, aI_M.1, by decide +kernel, aI_M.2⟩
theorem am_123_ok : ax_mok am_123 := ⟨ax_in (ax_wl_at (k := 8) (j := 70) rfl) rfl, aI_M.1, by decide +kernel, aI_M.2⟩
theorem am_124_ok : ax_mok am_124 := ⟨ax_in (ax_wl_at (k := 8) (j := 70) rfl) rfl, aI_M.1, by decide +kernel, aI_M.2⟩
theorem am_125_ok : ax_mok am_125 := ⟨ax_in (ax_wl_at (k := 8) (j := 70) rfl) rfl, aI_M.1, by decide +kernel, aI_M.2⟩
theorem am_126_ok : ax_mok am_126 := ⟨ax_in (ax_wl_at (k := 8) (j := 70) rfl) rfl, aI_M.1, by decide +kernel, aI_M.2⟩
theorem am_127_ok : ax_mok am_127 := ⟨ax_in (ax_wl_at (k := 8) (j := 70) rfl) rfl, aI_M.1, by decide +kernel, aI_M.2⟩
theorem am_128_ok : ax_mok am_128 := ⟨ax_in (ax_wl_at (k := 8) (j := 70) rfl) rfl, aI_M.1, by decide +kernel, aI_M.2⟩
theorem am_129_ok : ax_mok am_129 := ⟨ax_in (ax_wl_at (k := 8) (j := 78) rfl) rfl, aI_M.1, by decide +kernel, aI_M.2⟩
theorem am_130_ok : ax_mok am_130 := ⟨ax_in (ax_wl_at (k := 8) (j := 66) rfl) rfl, aI_M.1, by decide +kernel, aI_M.2⟩
theorem am_131_ok : ax_mok am_131 := ⟨ax_in (ax_wl_at (k := 8) (j := 82) rfl) rfl, aI_M.1, by decide +kernel, aI_M.2⟩
theorem am_132_ok : ax_mok am_132 := ⟨ax_in (ax_wl_at (k := 8) (j := 86) rfl) rfl, aI_M.1, by decide +kernel, aI_M.2⟩
theorem am_133_ok : ax_mok am_133 := ⟨ax_in (ax_wl_at (k := 8) (j := 90) rfl) rfl, aI_M.1, by decide +kernel, aI_M.2⟩
theorem am_134_ok : ax_mok am_134 := ⟨ax_in (ax_wl_at (k := 8) (j := 94) rfl) rfl, aI_M.1, by decide +kernel, aI_M.2⟩
theorem am_135_ok : ax_mok am_135 := ⟨ax_in (ax_wl_at (k := 2) (j := 109) rfl) rfl, aI_F.1, by decide +kernel, aI_F.2⟩
theorem am_136_ok : ax_mok am_136 := ⟨ax_in (ax_wl_at (k := 2) (j := 117) rfl) rfl, aI_F.1, by decide +kernel, aI_F.2⟩
theorem am_137_ok : ax_mok am_137 := ⟨ax_in (ax_wl_at (k := 2) (j := 121) rfl) rfl, aI_F.1, by decide +kernel, aI_F.2⟩
theorem am_138_ok : ax_mok am_138 := ⟨ax_in (ax_wl_at (k := 3) (j := 95) rfl) rfl, aI_F.1, by decide +kernel, aI_F.2⟩
theorem am_139_ok : ax_mok am_139 := ⟨ax_in (ax_wl_at (k := 3) (j := 138) rfl) rfl, aI_F.1, by decide +kernel, aI_F.2⟩
theorem am_140_ok : ax_mok am_140 := ⟨ax_in (ax_wl_at (k := 5) (j := 90) rfl) rfl, aI_F.1, by decide +kernel, aI_F.2⟩
theorem am_141_ok : ax_mok am_141 := ⟨ax_in (ax_wl_at (k := 5) (j := 158) rfl) rfl, aI_F.1, by decide +kernel, aI_F.2⟩
theorem am_142_ok : ax_mok am_142 := ⟨ax_in (ax_wl_at (k := 5) (j := 169) rfl) rfl, aI_F.1, by decide +kernel, aI_F.2⟩
theorem am_143_ok : ax_mok am_143 := ⟨ax_in (ax_wl_at (k := 3) (j := 142) rfl) rfl, aI_F.1, by decide +kernel, aI_F.2⟩
theorem am_144_ok : ax_mok am_144 := ⟨ax_in (ax_wl_at (k := 3) (j := 151) rfl) rfl, aI_F.1, by decide +kernel, aI_F.2⟩
theorem am_145_ok : ax_mok am_145 := ⟨ax_in (ax_wl_at (k := 3) (j := 177) rfl) rfl, aI_F.1, by decide +kernel, aI_F.2⟩
theorem am_146_ok : ax_mok am_146 := ⟨ax_in (ax_wl_at (k := 3) (j := 225) rfl) rfl, aI_F.1, by decide +kernel, aI_F.2⟩
theorem am_147_ok : ax_mok am_147 := ⟨ax_in (ax_wl_at (k := 4) (j := 59) rfl) rfl, aI_F.1, by decide +kernel, aI_F.2⟩
theorem am_148_ok : ax_mok am_148 := ⟨ax_in (ax_wl_at (k := 4) (j := 68) rfl) rfl, aI_F.1, by decide +kernel, aI_F.2⟩
theorem am_149_ok : ax_mok am_149 := ⟨ax_in (ax_wl_at (k := 4) (j := 103) rfl) rfl, aI_F.1, by decide +kernel, aI_F.2⟩
theorem am_150_ok : ax_mok am_150 := ⟨ax_in (ax_wl_at (k := 4) (j := 107) rfl) rfl, aI_F.1, by decide +kernel, aI_F.2⟩
theorem am_151_ok : ax_mok am_151 := ⟨ax_in (ax_wl_at (k := 4) (j := 121) rfl) rfl, aI_F.1, by decide +kernel, aI_F.2⟩
theorem am_152_ok : ax_mok am_152 := ⟨ax_in (ax_wl_at (k := 4) (j := 126) rfl) rfl, aI_F.1, by decide +kernel, aI_F.2⟩
theorem am_153_ok : ax_mok am_153 := ⟨ax_in (ax_wl_at (k := 4) (j := 130) rfl) rfl, aI_F.1, by decide +kernel, aI_F.2⟩
theorem am_154_ok : ax_mok am_154 := ⟨ax_in (ax_wl_at (k := 4) (j := 173) rfl) rfl, aI_F.1, by decide +kernel, aI_F.2⟩
theorem am_155_ok : ax_mok am_155 := ⟨ax_in (ax_wl_at (k := 4) (j := 177) rfl) rfl, aI_F.1, by decide +kernel, aI_F.2⟩
theorem am_156_ok : ax_mok am_156 := ⟨ax_in (ax_wl_at (k := 5) (j := 176) rfl) rfl, aI_F.1, by decide +kernel, aI_F.2⟩
theorem am_157_ok : ax_mok am_157 := ⟨ax_in (ax_wl_at (k := 4) (j := 181) rfl) rfl, aI_F.1, by decide +kernel, aI_F.2⟩
theorem am_158_ok : ax_mok am_158 := ⟨ax_in (ax_wl_at (k := 4) (j := 196) rfl) rfl, aI_F.1, by decide +kernel, aI_F.2⟩
theorem am_159_ok : ax_mok am_159 := ⟨ax_in (ax_wl_at (k := 4) (j := 204) rfl) rfl, aI_F.1, by decide +kernel, aI_F.2⟩
theorem am_160_ok : ax_mok am_160 := ⟨ax_in (ax_wl_at (k := 4) (j := 213) rfl) rfl, aI_F.1, by decide +kernel, aI_F.2⟩
theorem am_161_ok : ax_mok am_161 := ⟨ax_in (ax_wl_at (k := 4) (j := 219) rfl) rfl, aI_F.1, by decide +kernel, aI_F.2⟩
theorem am_162_ok : ax_mok am_162 := ⟨ax_in (ax_wl_at (k := 4) (j := 223) rfl) rfl, aI_F.1, by decide +kernel, aI_F.2⟩
theorem am_163_ok : ax_mok am_163 := ⟨ax_in (ax_wl_at (k := 4) (j := 227) rfl) rfl, aI_F.1, by decide +kernel, aI_F.2⟩
theorem am_164_ok : ax_mok am_164 := ⟨ax_in (ax_wl_at (k := 4) (j := 235) rfl) rfl, aI_F.1, by decide +kernel, aI_F.2⟩
theorem am_165_ok : ax_mok am_165 := ⟨ax_in (ax_wl_at (k := 4) (j := 239) rfl) rfl, aI_F.1, by decide +kernel, aI_F.2⟩
theorem am_166_ok : ax_mok am_166 := ⟨ax_in (ax_wl_at (k := 5) (j := 22) rfl) rfl, aI_F.1, by decide +kernel, aI_F.2⟩
theorem am_167_ok : ax_mok am_167 := ⟨ax_in (ax_wl_at (k := 5) (j := 26) rfl) rfl, aI_F.1, by decide +kernel, aI_F.2⟩
theorem am_168_ok : ax_mok am_168 := ⟨ax_in (ax_wl_at (k := 5) (j := 62) rfl) rfl, aI_F.1, by decide +kernel, aI_F.2⟩
theorem am_169_ok : ax_mok am_169 := ⟨ax_in (ax_wl_at (k := 5) (j := 70) rfl) rfl, aI_F.1, by decide +kernel, aI_F.2⟩
theorem am_170_ok : ax_mok am_170 := ⟨ax_in (ax_wl_at (k := 5) (j := 78) rfl) rfl, aI_F.1, by decide +kernel, aI_F.2⟩
theorem am_171_ok : ax_mok am_171 := ⟨ax_in (ax_wl_at (k := 5) (j := 82) rfl) rfl, aI_F.1, by decide +kernel, aI_F.2⟩
theorem am_172_ok : ax_mok am_172 := ⟨ax_in (ax_wl_at (k := 2) (j := 113) rfl) rfl, aI_F.1, by decide +kernel, aI_F.2⟩
theorem am_173_ok : ax_mok am_173 := ⟨ax_in (ax_wl_at (k := 3) (j := 155) rfl) rfl, aI_F.1, by decide +kernel, aI_F.2⟩
theorem am_174_ok : ax_mok am_174 := ⟨ax_in (ax_wl_at (k := 4) (j := 111) rfl) rfl, aI_F.1, by decide +kernel, aI_F.2⟩
theorem am_175_ok : ax_mok am_175 := ⟨ax_in (ax_wl_at (k := 3) (j := 146) rfl) rfl, aI_F.1, by decide +kernel, aI_F.2⟩
theorem am_176_ok : ax_mok am_176 := ⟨ax_in (ax_wl_at (k := 5) (j := 30) rfl) rfl, aI_F.1, by decide +kernel, aI_F.2⟩
theorem am_177_ok : ax_mok am_177 := ⟨ax_in (ax_wl_at (k := 3) (j := 189) rfl) rfl, aI_F.1, by decide +kernel, aI_F.2⟩
theorem am_178_ok : ax_mok am_178 := ⟨ax_in (ax_wl_at (k := 5) (j := 74) rfl) rfl, aI_F.1, by decide +kernel, aI_F.2⟩
theorem am_179_ok : ax_mok am_179 := ⟨ax_in (ax_wl_at (k := 3) (j := 185) rfl) rfl, aI_F.1, by decide +kernel, aI_F.2⟩
theorem am_180_ok : ax_mok am_180 := ⟨ax_in (ax_wl_at (k := 3) (j := 221) rfl) rfl, aI_F.1, by decide +kernel, aI_F.2⟩
theorem am_181_ok : ax_mok am_181 := ⟨ax_in (ax_wl_at (k := 4) (j := 72) rfl) rfl, aI_F.1, by decide +kernel, aI_F.2⟩
theorem am_182_ok : ax_mok am_182 := ⟨ax_in (ax_wl_at (k := 4) (j := 231) rfl) rfl, aI_F.1, by decide +kernel, aI_F.2⟩
theorem am_183_ok : ax_mok am_183 := ⟨ax_in (ax_wl_at (k := 5) (j := 3) rfl) rfl, aI_F.1, by decide +kernel, aI_F.2⟩
theorem am_184_ok : ax_mok am_184 := ⟨ax_in (ax_wl_at (k := 5) (j := 6) rfl) rfl, aI_F.1, by decide +kernel, aI_F.2⟩
theorem am_185_ok : ax_mok am_185 := ⟨ax_in (ax_wl_at (k := 5) (j := 14) rfl) rfl, aI_F.1, by decide +kernel, aI_F.2⟩
theorem am_186_ok : ax_mok am_186 := ⟨ax_in (ax_wl_at (k := 3) (j := 173) rfl) rfl, aI_F.1, by decide +kernel, aI_F.2⟩
theorem am_187_ok : ax_mok am_187 := ⟨ax_in (ax_wl_at (k := 3) (j := 14) rfl) rfl, aI_F.1, by decide +kernel, aI_F.2⟩
theorem am_188_ok : ax_mok am_188 := ⟨ax_in (ax_wl_at (k := 3) (j := 25) rfl) rfl, aI_F.1, by decide +kernel, aI_F.2⟩
theorem am_189_ok : ax_mok am_189 := ⟨ax_in (ax_wl_at (k := 3) (j := 66) rfl) rfl, aI_F.1, by decide +kernel, aI_F.2⟩
theorem am_190_ok : ax_mok am_190 := ⟨ax_in (ax_wl_at (k := 3) (j := 86) rfl) rfl, aI_F.1, by decide +kernel, aI_F.2⟩
theorem am_191_ok : ax_mok am_191 := ⟨ax_in (ax_wl_at (k := 2) (j := 161) rfl) rfl, aI_F.1, by decide +kernel, aI_F.2⟩
theorem am_192_ok : ax_mok am_192 := ⟨ax_in (ax_wl_at (k := 4) (j := 142) rfl) rfl, aI_Forest.1, by decide +kernel, aI_Forest.2⟩
theorem am_193_ok : ax_mok am_193 := ⟨ax_in (ax_wl_at (k := 4) (j := 151) rfl) rfl, aI_Forest.1, by decide +kernel, aI_Forest.2⟩
theorem am_194_ok : ax_mok am_194 := ⟨ax_in (ax_wl_at (k := 4) (j := 159) rfl) rfl, aI_Forest.1, by decide +kernel, aI_Forest.2⟩
theorem am_195_ok : ax_mok am_195 := ⟨ax_in (ax_wl_at (k := 4) (j := 189) rfl) rfl, aI_Forest.1, by decide +kernel, aI_Forest.2⟩
theorem am_196_ok : ax_mok am_196 := ⟨ax_in (ax_wl_at (k := 4) (j := 185) rfl) rfl, aI_Forest.1, by decide +kernel, aI_Forest.2⟩
theorem am_197_ok : ax_mok am_197 := ⟨ax_in (ax_wl_at (k := 4) (j := 200) rfl) rfl, aI_Forest.1, by decide +kernel, aI_Forest.2⟩
theorem am_198_ok : ax_mok am_198 := ⟨ax_in (ax_wl_at (k := 5) (j := 162) rfl) rfl, aI_Forest.1, by decide +kernel, aI_Forest.2⟩
theorem am_199_ok : ax_mok am_199 := ⟨ax_in (ax_wl_at (k := 4) (j := 208) rfl) rfl, aI_Forest.1, by decide +kernel, aI_Forest.2⟩
theorem am_200_ok : ax_mok am_200 := ⟨ax_in (ax_wl_at (k := 4) (j := 146) rfl) rfl, aI_Forest.1, by decide +kernel, aI_Forest.2⟩
theorem am_201_ok : ax_mok am_201 := ⟨ax_in (ax_wl_at (k := 4) (j := 138) rfl) rfl, aI_Forest.1, by decide +kernel, aI_Forest.2⟩
theorem am_202_ok : ax_mok am_202 := ⟨ax_in (ax_wl_at (k := 5) (j := 181) rfl) rfl, aI_Forest.1, by decide +kernel, aI_Forest.2⟩
theorem am_203_ok : ax_mok am_203 := ⟨ax_in (ax_wl_at (k := 5) (j := 185) rfl) rfl, aI_Forest.1, by decide +kernel, aI_Forest.2⟩
theorem am_204_ok : ax_mok am_204 := ⟨ax_in (ax_wl_at (k := 5) (j := 189) rfl) rfl, aI_Forest.1, by decide +kernel, aI_Forest.2⟩
theorem am_205_ok : ax_mok am_205 := ⟨ax_in (ax_wl_at (k := 5) (j := 194) rfl) rfl, aI_Forest.1, by decide +kernel, aI_Forest.2⟩
theorem am_206_ok : ax_mok am_206 := ⟨ax_in (ax_wl_at (k := 2) (j := 125) rfl) rfl, aI_Net.1, by decide +kernel, aI_Net.2⟩
theorem am_207_ok : ax_mok am_207 := ⟨ax_in (ax_wl_at (k := 3) (j := 63) rfl) rfl, aI_Net.1, by decide +kernel, aI_Net.2⟩
theorem am_208_ok : ax_mok am_208 := ⟨ax_in (ax_wl_at (k := 4) (j := 155) rfl) rfl, aI_Net.1, by decide +kernel, aI_Net.2⟩
theorem am_209_ok : ax_mok am_209 := ⟨ax_in (ax_wl_at (k := 4) (j := 163) rfl) rfl, aI_Net.1, by decide +kernel, aI_Net.2⟩
theorem am_210_ok : ax_mok am_210 := ⟨ax_in (ax_wl_at (k := 3) (j := 45) rfl) rfl, aI_Net.1, by decide +kernel, aI_Net.2⟩
theorem am_211_ok : ax_mok am_211 := ⟨ax_in (ax_wl_at (k := 3) (j := 50) rfl) rfl, aI_Net.1, by decide +kernel, aI_Net.2⟩
theorem am_212_ok : ax_mok am_212 := ⟨ax_in (ax_wl_at (k := 3) (j := 210) rfl) rfl, aI_Net.1, by decide +kernel, aI_Net.2⟩
theorem am_213_ok : ax_mok am_213 := ⟨ax_in (ax_wl_at (k := 3) (j := 18) rfl) rfl, aI_Net.1, by decide +kernel, aI_Net.2⟩
theorem am_214_ok : ax_mok am_214 := ⟨ax_in (ax_wl_at (k := 3) (j := 22) rfl) rfl, aI_Net.1, by decide +kernel, aI_Net.2⟩
theorem am_215_ok : ax_mok am_215 := ⟨ax_in (ax_wl_at (k := 3) (j := 58) rfl) rfl, aI_Net.1, by decide +kernel, aI_Net.2⟩
theorem am_216_ok : ax_mok am_216 := ⟨ax_in (ax_wl_at (k := 3) (j := 41) rfl) rfl, aI_Net.1, by decide +kernel, aI_Net.2⟩
theorem am_217_ok : ax_mok am_217 := ⟨ax_in (ax_wl_at (k := 2) (j := 129) rfl) rfl, aI_Reader.1, by decide +kernel, aI_Reader.2⟩
theorem am_218_ok : ax_mok am_218 := ⟨ax_in (ax_wl_at (k := 3) (j := 99) rfl) rfl, aI_Reader.1, by decide +kernel, aI_Reader.2⟩
theorem am_219_ok : ax_mok am_219 := ⟨ax_in (ax_wl_at (k := 2) (j := 133) rfl) rfl, aI_Reader.1, by decide +kernel, aI_Reader.2⟩
theorem am_220_ok : ax_mok am_220 := ⟨ax_in (ax_wl_at (k := 2) (j := 235) rfl) rfl, aI_Reader.1, by decide +kernel, aI_Reader.2⟩
theorem am_221_ok : ax_mok am_221 := ⟨ax_in (ax_wl_at (k := 3) (j := 3) rfl) rfl, aI_Reader.1, by decide +kernel, aI_Reader.2⟩
theorem am_222_ok : ax_mok am_222 := ⟨ax_in (ax_wl_at (k := 3) (j := 33) rfl) rfl, aI_Reader.1, by decide +kernel, aI_Reader.2⟩
theorem am_223_ok : ax_mok am_223 := ⟨ax_in (ax_wl_at (k := 3) (j := 107) rfl) rfl, aI_Reader.1, by decide +kernel, aI_Reader.2⟩
theorem am_224_ok : ax_mok am_224 := ⟨ax_in (ax_wl_at (k := 3) (j := 120) rfl) rfl, aI_Reader.1, by decide +kernel, aI_Reader.2⟩
theorem am_225_ok : ax_mok am_225 := ⟨ax_in (ax_wl_at (k := 3) (j := 124) rfl) rfl, aI_Reader.1, by decide +kernel, aI_Reader.2⟩
theorem am_226_ok : ax_mok am_226 := ⟨ax_in (ax_wl_at (k := 3) (j := 29) rfl) rfl, aI_Reader.1, by decide +kernel, aI_Reader.2⟩
theorem am_227_ok : ax_mok am_227 := ⟨ax_in (ax_wl_at (k := 3) (j := 37) rfl) rfl, aI_Reader.1, by decide +kernel, aI_Reader.2⟩
theorem am_228_ok : ax_mok am_228 := ⟨ax_in (ax_wl_at (k := 3) (j := 54) rfl) rfl, aI_Reader.1, by decide +kernel, aI_Reader.2⟩
theorem am_229_ok : ax_mok am_229 := ⟨ax_in (ax_wl_at (k := 2) (j := 239) rfl) rfl, aI_Reader.1, by decide +kernel, aI_Reader.2⟩
theorem am_230_ok : ax_mok am_230 := ⟨ax_in (ax_wl_at (k := 3) (j := 7) rfl) rfl, aI_Reader.1, by decide +kernel, aI_Reader.2⟩
theorem am_231_ok : ax_mok am_231 := ⟨ax_in (ax_wl_at (k := 3) (j := 111) rfl) rfl, aI_Reader.1, by decide +kernel, aI_Reader.2⟩
theorem am_232_ok : ax_mok am_232 := ⟨ax_in (ax_wl_at (k := 3) (j := 103) rfl) rfl, aI_Reader.1, by decide +kernel, aI_Reader.2⟩
theorem am_233_ok : ax_mok am_233 := ⟨ax_in (ax_wl_at (k := 3) (j := 11) rfl) rfl, aI_Reader.1, by decide +kernel, aI_Reader.2⟩
theorem am_234_ok : ax_mok am_234 := ⟨ax_in (ax_wl_at (k := 2) (j := 141) rfl) rfl, aI_Reader.1, by decide +kernel, aI_Reader.2⟩
theorem am_235_ok : ax_mok am_235 := ⟨ax_in (ax_wl_at (k := 2) (j := 137) rfl) rfl, aI_Reader.1, by decide +kernel, aI_Reader.2⟩
theorem am_236_ok : ax_mok am_236 := ⟨ax_in (ax_wl_at (k := 2) (j := 148) rfl) rfl, aI_Reader.1, by decide +kernel, aI_Reader.2⟩
theorem am_237_ok : ax_mok am_237 := ⟨ax_in (ax_wl_at (k := 2) (j := 158) rfl) rfl, aI_Reader.1, by decide +kernel, aI_Reader.2⟩
theorem am_238_ok : ax_mok am_238 := ⟨ax_in (ax_wl_at (k := 2) (j := 151) rfl) rfl, aI_Reader.1, by decide +kernel, aI_Reader.2⟩
theorem am_239_ok : ax_mok am_239 := ⟨ax_in (ax_wl_at (k := 2) (j := 154) rfl) rfl, aI_Reader.1, by decide +kernel, aI_Reader.2⟩
theorem am_240_ok : ax_mok am_240 := ⟨ax_in (ax_wl_at (k := 3) (j := 74) rfl) rfl, aI_Rule.1, by decide +kernel, aI_Rule.2⟩
theorem am_241_ok : ax_mok am_241 := ⟨ax_in (ax_wl_at (k := 3) (j := 133) rfl) rfl, aI_Rule.1, by decide +kernel, aI_Rule.2⟩
theorem am_242_ok : ax_mok am_242 := ⟨ax_in (ax_wl_at (k := 3) (j := 115) rfl) rfl, aI_Rule.1, by decide +kernel, aI_Rule.2⟩
theorem am_243_ok : ax_mok am_243 := ⟨ax_in (ax_wl_at (k := 3) (j := 128) rfl) rfl, aI_Rule.1, by decide +kernel, aI_Rule.2⟩
theorem am_244_ok : ax_mok am_244 := ⟨ax_in (ax_wl_at (k := 4) (j := 76) rfl) rfl, aI_Rule.1, by decide +kernel, aI_Rule.2⟩
theorem am_245_ok : ax_mok am_245 := ⟨ax_in (ax_wl_at (k := 4) (j := 98) rfl) rfl, aI_Rule.1, by decide +kernel, aI_Rule.2⟩
theorem am_246_ok : ax_mok am_246 := ⟨ax_in (ax_wl_at (k := 4) (j := 81) rfl) rfl, aI_Rule.1, by decide +kernel, aI_Rule.2⟩
theorem am_247_ok : ax_mok am_247 := ⟨ax_in (ax_wl_at (k := 4) (j := 90) rfl) rfl, aI_Rule.1, by decide +kernel, aI_Rule.2⟩
theorem am_248_ok : ax_mok am_248 := ⟨ax_in (ax_wl_at (k := 4) (j := 94) rfl) rfl, aI_Rule.1, by decide +kernel, aI_Rule.2⟩
theorem am_249_ok : ax_mok am_249 := ⟨ax_in (ax_wl_at (k := 3) (j := 193) rfl) rfl, aI_Run.1, by decide +kernel, aI_Run.2⟩
theorem am_250_ok : ax_mok am_250 := ⟨ax_in (ax_wl_at (k := 3) (j := 78) rfl) rfl, aI_Run.1, by decide +kernel, aI_Run.2⟩
theorem am_251_ok : ax_mok am_251 := ⟨ax_in (ax_wl_at (k := 3) (j := 83) rfl) rfl, aI_Run.1, by decide +kernel, aI_Run.2⟩
theorem am_252_ok : ax_mok am_252 := ⟨ax_in (ax_wl_at (k := 3) (j := 181) rfl) rfl, aI_Run.1, by decide +kernel, aI_Run.2⟩
theorem am_253_ok : ax_mok am_253 := ⟨ax_in (ax_wl_at (k := 3) (j := 90) rfl) rfl, aI_Run.1, by decide +kernel, aI_Run.2⟩
theorem am_254_ok : ax_mok am_254 := ⟨ax_in (ax_wl_at (k := 3) (j := 168) rfl) rfl, aI_Run.1, by decide +kernel, aI_Run.2⟩
theorem am_255_ok : ax_mok am_255 := ⟨ax_in (ax_wl_at (k := 4) (j := 10) rfl) rfl, aI_Run.1, by decide +kernel, aI_Run.2⟩
theorem am_256_ok : ax_mok am_256 := ⟨ax_in (ax_wl_at (k := 4) (j := 85) rfl) rfl, aI_Run.1, by decide +kernel, aI_Run.2⟩
theorem am_257_ok : ax_mok am_257 := ⟨ax_in (ax_wl_at (k := 3) (j := 237) rfl) rfl, aI_Run.1, by decide +kernel, aI_Run.2⟩
theorem am_258_ok : ax_mok am_258 := ⟨ax_in (ax_wl_at (k := 3) (j := 206) rfl) rfl, aI_Run.1, by decide +kernel, aI_Run.2⟩
theorem am_259_ok : ax_mok am_259 := ⟨ax_in (ax_wl_at (k := 4) (j := 115) rfl) rfl, aI_Run.1, by decide +kernel, aI_Run.2⟩
theorem am_260_ok : ax_mok am_260 := ⟨ax_in (ax_wl_at (k := 4) (j := 169) rfl) rfl, aI_Run.1, by decide +kernel, aI_Run.2⟩
theorem am_261_ok : ax_mok am_261 := ⟨ax_in (ax_wl_at (k := 4) (j := 134) rfl) rfl, aI_Run.1, by decide +kernel, aI_Run.2⟩
theorem am_262_ok : ax_mok am_262 := ⟨ax_in (ax_wl_at (k := 5) (j := 11) rfl) rfl, aI_Run.1, by decide +kernel, aI_Run.2⟩
theorem am_263_ok : ax_mok am_263 := ⟨ax_in (ax_wl_at (k := 5) (j := 18) rfl) rfl, aI_Run.1, by decide +kernel, aI_Run.2⟩
theorem am_264_ok : ax_mok am_264 := ⟨ax_in (ax_wl_at (k := 3) (j := 159) rfl) rfl, aI_Run.1, by decide +kernel, aI_Run.2⟩
theorem am_265_ok : ax_mok am_265 := ⟨ax_in (ax_wl_at (k := 3) (j := 164) rfl) rfl, aI_Run.1, by decide +kernel, aI_Run.2⟩
theorem am_266_ok : ax_mok am_266 := ⟨ax_in (ax_wl_at (k := 4) (j := 63) rfl) rfl, aI_Run.1, by decide +kernel, aI_Run.2⟩
theorem am_267_ok : ax_mok am_267 := ⟨ax_in (ax_wl_at (k := 3) (j := 197) rfl) rfl, aI_Run.1, by decide +kernel, aI_Run.2⟩
theorem am_268_ok : ax_mok am_268 := ⟨ax_in (ax_wl_at (k := 3) (j := 202) rfl) rfl, aI_Run.1, by decide +kernel, aI_Run.2⟩
theorem am_269_ok : ax_mok am_269 := ⟨ax_in (ax_wl_at (k := 3) (j := 214) rfl) rfl, aI_Run.1, by decide +kernel, aI_Run.2⟩
theorem am_270_ok : ax_mok am_270 := ⟨ax_in (ax_wl_at (k := 3) (j := 233) rfl) rfl, aI_Run.1, by decide +kernel, aI_Run.2⟩
theorem am_271_ok : ax_mok am_271 := ⟨ax_in (ax_wl_at (k := 3) (j := 229) rfl) rfl, aI_Run.1, by decide +kernel, aI_Run.2⟩
theorem am_272_ok : ax_mok am_272 := ⟨ax_in (ax_wl_at (k := 4) (j := 6) rfl) rfl, aI_Run.1, by decide +kernel, aI_Run.2⟩
theorem am_273_ok : ax_mok am_273 := ⟨ax_in (ax_wl_at (k := 4) (j := 55) rfl) rfl, aI_Run.1, by decide +kernel, aI_Run.2⟩
theorem am_274_ok : ax_mok am_274 := ⟨ax_in (ax_wl_at (k := 4) (j := 2) rfl) rfl, aI_Run.1, by decide +kernel, aI_Run.2⟩
theorem am_275_ok : ax_mok am_275 := ⟨ax_in (ax_wl_at (k := 4) (j := 15) rfl) rfl, aI_Run.1, by decide +kernel, aI_Run.2⟩
theorem am_276_ok : ax_mok am_276 := ⟨ax_in (ax_wl_at (k := 4) (j := 19) rfl) rfl, aI_Run.1, by decide +kernel, aI_Run.2⟩
theorem am_277_ok : ax_mok am_277 := ⟨ax_in (ax_wl_at (k := 4) (j := 23) rfl) rfl, aI_Run.1, by decide +kernel, aI_Run.2⟩
theorem am_278_ok : ax_mok am_278 := ⟨ax_in (ax_wl_at (k := 4) (j := 27) rfl) rfl, aI_Run.1, by decide +kernel, aI_Run.2⟩
theorem am_279_ok : ax_mok am_279 := ⟨ax_in (ax_wl_at (k := 4) (j := 35) rfl) rfl, aI_Run.1, by decide +kernel, aI_Run.2⟩
theorem am_280_ok : ax_mok am_280 := ⟨ax_in (ax_wl_at (k := 4) (j := 31) rfl) rfl, aI_Run.1, by decide +kernel, aI_Run.2⟩
theorem am_281_ok : ax_mok am_281 := ⟨ax_in (ax_wl_at (k := 4) (j := 39) rfl) rfl, aI_Run.1, by decide +kernel, aI_Run.2⟩
theorem am_282_ok : ax_mok am_282 := ⟨ax_in (ax_wl_at (k := 4) (j := 43) rfl) rfl, aI_Run.1, by decide +kernel, aI_Run.2⟩
theorem am_283_ok : ax_mok am_283 := ⟨ax_in (ax_wl_at (k := 4) (j := 47) rfl) rfl, aI_Run.1, by decide +kernel, aI_Run.2⟩
theorem am_284_ok : ax_mok am_284 := ⟨ax_in (ax_wl_at (k := 4) (j := 51) rfl) rfl, aI_Run.1, by decide +kernel, aI_Run.2⟩
theorem am_285_ok : ax_mok am_285 := ⟨ax_in (ax_wl_at (k := 5) (j := 66) rfl) rfl, aI_Spell.1, by decide +kernel, aI_Spell.2⟩
theorem am_286_ok : ax_mok am_286 := ⟨ax_in (ax_wl_at (k := 5) (j := 34) rfl) rfl, aI_Spell.1, by decide +kernel, aI_Spell.2⟩
theorem am_287_ok : ax_mok am_287 := ⟨ax_in (ax_wl_at (k := 5) (j := 46) rfl) rfl, aI_Spell.1, by decide +kernel, aI_Spell.2⟩
theorem am_288_ok : ax_mok am_288 := ⟨ax_in (ax_wl_at (k := 5) (j := 40) rfl) rfl, aI_Spell.1, by decide +kernel, aI_Spell.2⟩
theorem am_289_ok : ax_mok am_289 := ⟨ax_in (ax_wl_at (k := 5) (j := 52) rfl) rfl, aI_Spell.1, by decide +kernel, aI_Spell.2⟩
theorem am_290_ok : ax_mok am_290 := ⟨ax_in (ax_wl_at (k := 5) (j := 58) rfl) rfl, aI_Spell.1, by decide +kernel, aI_Spell.2⟩
theorem am_291_ok : ax_mok am_291 := ⟨ax_in (ax_wl_at (k := 2) (j := 187) rfl) rfl, aI_String.1, by decide +kernel, aI_String.2⟩
theorem am_292_ok : ax_mok am_292 := ⟨ax_in (ax_wl_at (k := 2) (j := 197) rfl) rfl, aI_String.1, by decide +kernel, aI_String.2⟩
theorem ax_MT_0_ok (i : Nat) : ax_mok (ax_MT_0 i) := (ax_bifd (ax_bifd (ax_bifd (ax_bifd (ax_bifd am_0_ok am_1_ok) (ax_bifd am_2_ok am_3_ok)) (ax_bifd (ax_bifd am_4_ok am_5_ok) (ax_bifd am_6_ok am_7_ok))) (ax_bifd (ax_bifd (ax_bifd am_8_ok am_9_ok) (ax_bifd am_10_ok am_11_ok)) (ax_bifd (ax_bifd am_12_ok am_13_ok) (ax_bifd am_14_ok am_15_ok)))) (ax_bifd (ax_bifd (ax_bifd (ax_bifd am_16_ok am_17_ok) (ax_bifd am_18_ok am_19_ok)) (ax_bifd (ax_bifd am_20_ok am_21_ok) (ax_bifd am_22_ok am_23_ok))) (ax_bifd (ax_bifd (ax_bifd am_24_ok am_25_ok) (ax_bifd am_26_ok am_27_ok)) (ax_bifd (ax_bifd am_28_ok am_29_ok) (ax_bifd am_30_ok am_31_ok)))))
theorem ax_MT_1_ok (i : Nat) : ax_mok (ax_MT_1 i) := (ax_bifd (ax_bifd (ax_bifd (ax_bifd (ax_bifd am_32_ok am_33_ok) (ax_bifd am_34_ok am_35_ok)) (ax_bifd (ax_bifd am_36_ok am_37_ok) (ax_bifd am_38_ok am_39_ok))) (ax_bifd (ax_bifd (ax_bifd am_40_ok am_41_ok) (ax_bifd am_42_ok am_43_ok)) (ax_bifd (ax_bifd am_44_ok am_45_ok) (ax_bifd am_46_ok am_47_ok)))) (ax_bifd (ax_bifd (ax_bifd (ax_bifd am_48_ok am_49_ok) (ax_bifd am_50_ok am_51_ok)) (ax_bifd (ax_bifd am_52_ok am_53_ok) (ax_bifd am_54_ok am_55_ok))) (ax_bifd (ax_bifd (ax_bifd am_56_ok am_57_ok) (ax_bifd am_58_ok am_59_ok)) (ax_bifd (ax_bifd am_60_ok am_61_ok) (ax_bifd am_62_ok am_63_ok)))))
theorem ax_MT_2_ok (i : Nat) : ax_mok (ax_MT_2 i) := (ax_bifd (ax_bifd (ax_bifd (ax_bifd (ax_bifd am_64_ok am_65_ok) (ax_bifd am_66_ok am_67_ok)) (ax_bifd (ax_bifd am_68_ok am_69_ok) (ax_bifd am_70_ok am_71_ok))) (ax_bifd (ax_bifd (ax_bifd am_72_ok am_73_ok) (ax_bifd am_74_ok am_75_ok)) (ax_bifd (ax_bifd am_76_ok am_77_ok) (ax_bifd am_78_ok am_79_ok)))) (ax_bifd (ax_bifd (ax_bifd (ax_bifd am_80_ok am_81_ok) (ax_bifd am_82_ok am_83_ok)) (ax_bifd (ax_bifd am_84_ok am_85_ok) (ax_bifd am_86_ok am_87_ok))) (ax_bifd (ax_bifd (ax_bifd am_88_ok am_89_ok) (ax_bifd am_90_ok am_91_ok)) (ax_bifd (ax_bifd am_92_ok am_93_ok) (ax_bifd am_94_ok am_95_ok)))))
theorem ax_MT_3_ok (i : Nat) : ax_mok (ax_MT_3 i) := (ax_bifd (ax_bifd (ax_bifd (ax_bifd (ax_bifd am_96_ok am_97_ok) (ax_bifd am_98_ok am_99_ok)) (ax_bifd (ax_bifd am_100_ok am_101_ok) (ax_bifd am_102_ok am_103_ok))) (ax_bifd (ax_bifd (ax_bifd am_104_ok am_105_ok) (ax_bifd am_106_ok am_107_ok)) (ax_bifd (ax_bifd am_108_ok am_109_ok) (ax_bifd am_110_ok am_111_ok)))) (ax_bifd (ax_bifd (ax_bifd (ax_bifd am_112_ok am_113_ok) (ax_bifd am_114_ok am_115_ok)) (ax_bifd (ax_bifd am_116_ok am_117_ok) (ax_bifd am_118_ok am_119_ok))) (ax_bifd (ax_bifd (ax_bifd am_120_ok am_121_ok) (ax_bifd am_122_ok am_123_ok)) (ax_bifd (ax_bifd am_124_ok am_125_ok) (ax_bifd am_126_ok am_127_ok)))))
theorem ax_MT_4_ok (i : Nat) : ax_mok (ax_MT_4 i) := (ax_bifd (ax_bifd (ax_bifd (ax_bifd (ax_bifd am_128_ok am_129_ok) (ax_bifd am_130_ok am_131_ok)) (ax_bifd (ax_bifd am_132_ok am_133_ok) (ax_bifd am_134_ok am_135_ok))) (ax_bifd (ax_bifd (ax_bifd am_136_ok am_137_ok) (ax_bifd am_138_ok am_139_ok)) (ax_bifd (ax_bifd am_140_ok am_141_ok) (ax_bifd am_142_ok am_143_ok)))) (ax_bifd (ax_bifd (ax_bifd (ax_bifd am_144_ok am_145_ok) (ax_bifd am_146_ok am_147_ok)) (ax_bifd (ax_bifd am_148_ok am_149_ok) (ax_bifd am_150_ok am_151_ok))) (ax_bifd (ax_bifd (ax_bifd am_152_ok am_153_ok) (ax_bifd am_154_ok am_155_ok)) (ax_bifd (ax_bifd am_156_ok am_157_ok) (ax_bifd am_158_ok am_159_ok)))))
theorem ax_MT_5_ok (i : Nat) : ax_mok (ax_MT_5 i) := (ax_bifd (ax_bifd (ax_bifd (ax_bifd (ax_bifd am_160_ok am_161_ok) (ax_bifd am_162_ok am_163_ok)) (ax_bifd (ax_bifd am_164_ok am_165_ok) (ax_bifd am_166_ok am_167_ok))) (ax_bifd (ax_bifd (ax_bifd am_168_ok am_169_ok) (ax_bifd am_170_ok am_171_ok)) (ax_bifd (ax_bifd am_172_ok am_173_ok) (ax_bifd am_174_ok am_175_ok)))) (ax_bifd (ax_bifd (ax_bifd (ax_bifd am_176_ok am_177_ok) (ax_bifd am_178_ok am_179_ok)) (ax_bifd (ax_bifd am_180_ok am_181_ok) (ax_bifd am_182_ok am_183_ok))) (ax_bifd (ax_bifd (ax_bifd am_184_ok am_185_ok) (ax_bifd am_186_ok am_187_ok)) (ax_bifd (ax_bifd am_188_ok am_189_ok) (ax_bifd am_190_ok am_191_ok)))))
theorem ax_MT_6_ok (i : Nat) : ax_mok (ax_MT_6 i) := (ax_bifd (ax_bifd (ax_bifd (ax_bifd (ax_bifd am_192_ok am_193_ok) (ax_bifd am_194_ok am_195_ok)) (ax_bifd (ax_bifd am_196_ok am_197_ok) (ax_bifd am_198_ok am_199_ok))) (ax_bifd (ax_bifd (ax_bifd am_200_ok am_201_ok) (ax_bifd am_202_ok am_203_ok)) (ax_bifd (ax_bifd am_204_ok am_205_ok) (ax_bifd am_206_ok am_207_ok)))) (ax_bifd (ax_bifd (ax_bifd (ax_bifd am_208_ok am_209_ok) (ax_bifd am_210_ok am_211_ok)) (ax_bifd (ax_bifd am_212_ok am_213_ok) (ax_bifd am_214_ok am_215_ok))) (ax_bifd (ax_bifd (ax_bifd am_216_ok am_217_ok) (ax_bifd am_218_ok am_219_ok)) (ax_bifd (ax_bifd am_220_ok am_221_ok) (ax_bifd am_222_ok am_223_ok)))))
theorem ax_MT_7_ok (i : Nat) : ax_mok (ax_MT_7 i) := (ax_bifd (ax_bifd (ax_bifd (ax_bifd (ax_bifd am_224_ok am_225_ok) (ax_bifd am_226_ok am_227_ok)) (ax_bifd (ax_bifd am_228_ok am_229_ok) (ax_bifd am_230_ok am_231_ok))) (ax_bifd (ax_bifd (ax_bifd am_232_ok am_233_ok) (ax_bifd am_234_ok am_235_ok)) (ax_bifd (ax_bifd am_236_ok am_237_ok) (ax_bifd am_238_ok am_239_ok)))) (ax_bifd (ax_bifd (ax_bifd (ax_bifd am_240_ok am_241_ok) (ax_bifd am_242_ok am_243_ok)) (ax_bifd (ax_bifd am_244_ok am_245_ok) (ax_bifd am_246_ok am_247_ok))) (ax_bifd (ax_bifd (ax_bifd am_248_ok am_249_ok) (ax_bifd am_250_ok am_251_ok)) (ax_bifd (ax_bifd am_252_ok am_253_ok) (ax_bifd am_254_ok am_255_ok)))))
theorem ax_MT_8_ok (i : Nat) : ax_mok (ax_MT_8 i) := (ax_bifd (ax_bifd (ax_bifd (ax_bifd (ax_bifd am_256_ok am_257_ok) (ax_bifd am_258_ok am_259_ok)) (ax_bifd (ax_bifd am_260_ok am_261_ok) (ax_bifd am_262_ok am_263_ok))) (ax_bifd (ax_bifd (ax_bifd am_264_ok am_265_ok) (ax_bifd am_266_ok am_267_ok)) (ax_bifd (ax_bifd am_268_ok am_269_ok) (ax_bifd am_270_ok am_271_ok)))) (ax_bifd (ax_bifd (ax_bifd (ax_bifd am_272_ok am_273_ok) (ax_bifd am_274_ok am_275_ok)) (ax_bifd (ax_bifd am_276_ok am_277_ok) (ax_bifd am_278_ok am_279_ok))) (ax_bifd (ax_bifd (ax_bifd am_280_ok am_281_ok) (ax_bifd am_282_ok am_283_ok)) (ax_bifd (ax_bifd am_284_ok am_285_ok) (ax_bifd am_286_ok am_287_ok)))))
theorem ax_MT_9_ok : ∀ i, i < 5 → ax_mok (ax_MT_9 i) := by
  intro i hi
  match i, hi with
  | 0, _ => exact am_288_ok
  | 1, _ => exact am_289_ok
  | 2, _ => exact am_290_ok
  | 3, _ => exact am_291_ok
  | 4, _ => exact am_292_ok
theorem aI_math : Jvm.Cond.initialized "java/lang/Math" ∈ ax_Ts := ax_in (ax_wl_at (k := 1) (j := 10) rfl) rfl
theorem aI_sys : Jvm.Cond.initialized "java/lang/System" ∈ ax_Ts := ax_in (ax_wl_at (k := 1) (j := 15) rfl) rfl
theorem ax_mt_ok : ∀ z, z < ax_NM → Jvm.Cond.code (ax_MT z).1 (ax_MT z).2.1 (ax_MT z).2.2.1 (ax_MT z).2.2.2.1 ∈ ax_Ts ∧ Jvm.Cond.initialized (ax_MT z).1.cls ∈ ax_Ts ∧ (ax_MT z).2.2.1 ≤ 40 ∧ plainName (ax_MT z).1.cls = true ∧ (ax_MT z).1.cls ≠ "java/lang/invoke/MethodHandle" ∧ (ax_MT z).1.cls ≠ "java/lang/invoke/VarHandle" := by
  intro z hz
  show ax_mok (ax_MT_c (z / 32) (z % 32))
  have h1 : z / 32 < 10 := by have : ax_NM = 293 := rfl; omega
  have h2 : z / 32 = 9 → z % 32 < 5 := by have : ax_NM = 293 := rfl; omega
  generalize z / 32 = c at h1 h2
  generalize z % 32 = i at h2
  match c, h1, h2 with
  | 0, _, _ => exact ax_MT_0_ok i
  | 1, _, _ => exact ax_MT_1_ok i
  | 2, _, _ => exact ax_MT_2_ok i
  | 3, _, _ => exact ax_MT_3_ok i
  | 4, _, _ => exact ax_MT_4_ok i
  | 5, _, _ => exact ax_MT_5_ok i
  | 6, _, _ => exact ax_MT_6_ok i
  | 7, _, _ => exact ax_MT_7_ok i
  | 8, _, _ => exact ax_MT_8_ok i
  | 9, _, h2 => exact ax_MT_9_ok i (h2 rfl)
theorem ax_cl_ok : ∀ (ci : Nat) (r : vw_C), ax_cl[ci]? = some r → (∀ w ∈ u_ws r.1 r.2.1 r.2.2, w ∈ ax_Ts) ∧ (∃ ty : Nat → FieldType, ∀ k, k < r.2.2 → parseFieldDescriptor (r.2.1 k).2.2.1 = some (ty k)) ∧ ∀ a, a < r.2.2 → ∀ b, b < r.2.2 → a ≠ b → (r.2.1 a).2.1 ≠ (r.2.1 b).2.1 := by
  intro ci r h
  have hty : ∀ (T : u_T) (N : Nat), (∀ k, k < N → (parseFieldDescriptor (T k).2.2.1).isSome = true) → ∃ ty : Nat → FieldType, ∀ k, k < N → parseFieldDescriptor (T k).2.2.1 = some (ty k) := by
    intro T N hT
    refine ⟨fun k => (parseFieldDescriptor (T k).2.2.1).getD .int, fun k hk => ?_⟩
    obtain ⟨x, hx⟩ := Option.isSome_iff_exists.mp (hT k hk)
    show _ = some ((parseFieldDescriptor (T k).2.2.1).getD .int)
    rw [hx]
    rfl
  match ci, h with
  | 0, h => cases h; exact ⟨aU_F, hty _ _ aY_F, aN_F⟩
  | 1, h => cases h; exact ⟨aU_Forest, hty _ _ aY_Forest, aN_Forest⟩
  | 2, h => cases h; exact ⟨aU_Image, hty _ _ aY_Image, aN_Image⟩
  | 3, h => cases h; exact ⟨aU_Net, hty _ _ aY_Net, aN_Net⟩
  | 4, h => cases h; exact ⟨aU_Reader, hty _ _ aY_Reader, aN_Reader⟩
  | 5, h => cases h; exact ⟨aU_Rule, hty _ _ aY_Rule, aN_Rule⟩
  | 6, h => cases h; exact ⟨aU_Run, hty _ _ aY_Run, aN_Run⟩
  | 7, h => cases h; exact ⟨aU_Spell, hty _ _ aY_Spell, aN_Spell⟩
  | 8, h => cases h; exact ⟨aU_M, hty _ _ aY_M, aN_M⟩
  | k + 9, h => simp [ax_cl] at h
def ax_shk (c : ax_C) : Prop := 6 < c.1
theorem ax_bifc {b : Bool} {x y : ax_C} (hx : ax_shk x) (hy : ax_shk y) : ax_shk (bif b then x else y) := by
  cases b
  · exact hy
  · exact hx
theorem ac_no_k : ax_shk ac_no := by unfold ax_shk; decide +kernel
theorem ac_1000_k : ax_shk ac_1000 := by unfold ax_shk; decide +kernel
theorem ac_1001_k : ax_shk ac_1001 := by unfold ax_shk; decide +kernel
theorem ac_1002_k : ax_shk ac_1002 := by unfold ax_shk; decide +kernel
theorem ac_1003_k : ax_shk ac_1003 := by unfold ax_shk; decide +kernel
theorem ac_1004_k : ax_shk ac_1004 := by unfold ax_shk; decide +kernel
theorem ac_1005_k : ax_shk ac_1005 := by unfold ax_shk; decide +kernel
theorem ac_1006_k : ax_shk ac_1006 := by unfold ax_shk; decide +kernel
theorem ac_1007_k : ax_shk ac_1007 := by unfold ax_shk; decide +kernel
theorem ac_1008_k : ax_shk ac_1008 := by unfold ax_shk; decide +kernel
theorem ac_1009_k : ax_shk ac_1009 := by unfold ax_shk; decide +kernel
theorem ac_1010_k : ax_shk ac_1010 := by unfold ax_shk; decide +kernel
theorem ac_1011_k : ax_shk ac_1011 := by unfold ax_shk; decide +kernel
theorem ac_1012_k : ax_shk ac_1012 := by unfold ax_shk; decide +kernel
theorem ac_1013_k : ax_shk ac_1013 := by unfold ax_shk; decide +kernel
theorem ac_1014_k : ax_shk ac_1014 := by unfold ax_shk; decide +kernel
theorem ac_1015_k : ax_shk ac_1015 := by unfold ax_shk; decide +kernel
theorem ac_1016_k : ax_shk ac_1016 := by unfold ax_shk; decide +kernel
theorem ac_1017_k : ax_shk ac_1017 := by unfold ax_shk; decide +kernel
theorem ac_1018_k : ax_shk ac_1018 := by unfold ax_shk; decide +kernel
theorem ac_1019_k : ax_shk ac_1019 := by unfold ax_shk; decide +kernel
theorem ac_1020_k : ax_shk ac_1020 := by unfold ax_shk; decide +kernel
theorem ac_1021_k : ax_shk ac_1021 := by unfold ax_shk; decide +kernel
theorem ax_tx_0_k (i : Nat) : ax_shk (ax_tx_0 i) := (ax_bifc (ax_bifc (ax_bifc (ax_bifc (ax_bifc ac_1000_k ac_1001_k) (ax_bifc ac_1002_k ac_1003_k)) (ax_bifc (ax_bifc ac_1004_k ac_1005_k) (ax_bifc ac_1006_k ac_1007_k))) (ax_bifc (ax_bifc (ax_bifc ac_1008_k ac_1009_k) (ax_bifc ac_1010_k ac_1011_k)) (ax_bifc (ax_bifc ac_1012_k ac_1013_k) (ax_bifc ac_1014_k ac_1015_k)))) (ax_bifc (ax_bifc (ax_bifc (ax_bifc ac_1016_k ac_1017_k) (ax_bifc ac_1018_k ac_1019_k)) (ax_bifc (ax_bifc ac_1020_k ac_1021_k) (ax_bifc ac_no_k ac_no_k))) (ax_bifc (ax_bifc (ax_bifc ac_no_k ac_no_k) (ax_bifc ac_no_k ac_no_k)) (ax_bifc (ax_bifc ac_no_k ac_no_k) (ax_bifc ac_no_k ac_no_k)))))
theorem ax_sh_out {o : Nat} (h : ax_NC ≤ o) : ax_shk (ax_sh o) := by
  unfold ax_sh
  cases hb : Nat.blt o 1000 with
  | false =>
    show ax_shk (ax_tx_c ((o - 1000) / 32) ((o - 1000) % 32))
    generalize (o - 1000) / 32 = c
    match c with
    | 0 => exact ax_tx_0_k _
    | c + 1 => exact ac_no_k
  | true =>
    show ax_shk (ax_sha_c (o / 32) (o % 32))
    have h1 : 7 < o / 32 ∨ (o / 32 = 7 ∧ 1 ≤ o % 32) := by have : ax_NC = 225 := rfl; omega
    have h2 : o % 32 < 32 := Nat.mod_lt _ (by decide)
    generalize o / 32 = c at h1
    generalize o % 32 = i at h1 h2
    rcases h1 with h1 | ⟨rfl, h1⟩
    · obtain ⟨d, rfl⟩ : ∃ d, c = d + 8 := ⟨c - 8, by omega⟩
      exact ac_no_k
    · have h3 : ∀ i, i < 32 → 1 ≤ i → 6 < (ax_sha_7 i).1 := by decide +kernel
      exact h3 i h2 h1
theorem ax_sh_in : ∀ o, (ax_sh o).1 ≤ 6 → o < ax_NC := by
  intro o h
  rcases Nat.lt_or_ge o ax_NC with q | q
  · exact q
  · have h1 : 6 < (ax_sh o).1 := ax_sh_out q
    omega
def ax_shb (o : Nat) : Bool := !((ax_sh o).1 == 0) || (match ax_cl[(ax_sh o).2.1]? with
  | some r => decide ((ax_sh o).2.2.length = r.2.2) && ((ax_sh o).2.2.zipIdx).all (fun q => (!(q.1.1 == 0) || decide ((r.2.1 q.2).2.2.1 = "I")) && (!(q.1.1 == 1) || decide ((r.2.1 q.2).2.2.1 = "J")) && (!(q.1.1 == 3) || decide ((r.2.1 q.2).2.2.1 = "Z")))
  | none => true)
set_option maxRecDepth 20000 in
theorem ax_shb_ok : (List.range ax_NC).all ax_shb = true := by decide +kernel
theorem ax_sh_ok : ∀ o, (ax_sh o).1 = 0 → ∀ r : vw_C, ax_cl[(ax_sh o).2.1]? = some r → (ax_sh o).2.2.length = r.2.2 ∧ ∀ (k : Nat) (q : Nat × Nat), (ax_sh o).2.2[k]? = some q → (q.1 = 0 → (r.2.1 k).2.2.1 = "I") ∧ (q.1 = 1 → (r.2.1 k).2.2.1 = "J") ∧ (q.1 = 3 → (r.2.1 k).2.2.1 = "Z") := by
  intro o h0 r hr
  have h1 := List.all_eq_true.mp ax_shb_ok o (List.mem_range.mpr (ax_sh_in o (by omega)))
  unfold ax_shb at h1
  rw [h0, hr] at h1
  simp only [Bool.and_eq_true, decide_eq_true_eq, List.all_eq_true, Bool.or_eq_true, Bool.not_eq_true', beq_eq_false_iff_ne, ne_eq, beq_self_eq_true, Bool.not_true, Bool.false_eq_true, false_or] at h1
  refine ⟨h1.1, fun k q hq => ?_⟩
  have h2 := h1.2 (q, k) (List.mem_of_getElem? (i := k) (by rw [List.getElem?_zipIdx, hq]; simp))
  exact ⟨fun e => h2.1.1.resolve_left (fun n => n e), fun e => h2.1.2.resolve_left (fun n => n e), fun e => h2.2.resolve_left (fun n => n e)⟩
set_option maxRecDepth 20000 in
theorem ax_shc_ok : (List.range ax_NC).all (fun o => decide ((ax_sh o).2.1 < 99) || decide ((ax_sh o).1 ≠ 0)) = true := by decide +kernel
theorem ax_ok : ax_OK ax_cl ax_sh ax_NC ax_Ts ax_wd ax_NM ax_MT := by
  refine ⟨ax_wd_in, fun w hw => (List.mem_filter.mp hw).2, ax_sh_in, ax_cl_ok, ax_sh_ok, ax_mt_ok, aI_math, aI_sys, by decide +kernel, fun k hk => List.getElem?_eq_none (by have : ax_cl.length = 9 := rfl; omega), fun o ho => ?_⟩
  have h2 := List.all_eq_true.mp ax_shc_ok o (List.mem_range.mpr (ax_sh_in o (by omega)))
  simp only [Bool.or_eq_true, decide_eq_true_eq] at h2
  exact h2.resolve_right (fun n => n ho)
