/-! cn: the constructor of the class, statement by statement -/
theorem cd_F_0 : decode prog_1_method_1_code 0 = .ok (.aload_n 0, 1) := by decide +kernel
theorem cd_F_1 : decode prog_1_method_1_code 1 = .ok (.invokespecial 3, 3) := by decide +kernel
theorem cd_F_4 : decode prog_1_method_1_code 4 = .ok (.aload_n 0, 1) := by decide +kernel
theorem cd_F_5 : decode prog_1_method_1_code 5 = .ok (.sipush (940), 3) := by decide +kernel
theorem cd_F_8 : decode prog_1_method_1_code 8 = .ok (.newarray .byte, 2) := by decide +kernel
theorem cd_F_10 : decode prog_1_method_1_code 10 = .ok (.putfield 9, 3) := by decide +kernel
theorem cd_F_13 : decode prog_1_method_1_code 13 = .ok (.aload_n 0, 1) := by decide +kernel
theorem cd_F_14 : decode prog_1_method_1_code 14 = .ok (.new 13, 3) := by decide +kernel
theorem cd_F_17 : decode prog_1_method_1_code 17 = .ok (.dup, 1) := by decide +kernel
theorem cd_F_18 : decode prog_1_method_1_code 18 = .ok (.aload_n 0, 1) := by decide +kernel
theorem cd_F_19 : decode prog_1_method_1_code 19 = .ok (.getfield 9, 3) := by decide +kernel
theorem cd_F_22 : decode prog_1_method_1_code 22 = .ok (.invokespecial 15, 3) := by decide +kernel
theorem cd_F_25 : decode prog_1_method_1_code 25 = .ok (.putfield 18, 3) := by decide +kernel
theorem cd_F_28 : decode prog_1_method_1_code 28 = .ok (.aload_n 0, 1) := by decide +kernel
theorem cd_F_29 : decode prog_1_method_1_code 29 = .ok (.new 22, 3) := by decide +kernel
theorem cd_F_32 : decode prog_1_method_1_code 32 = .ok (.dup, 1) := by decide +kernel
theorem cd_F_33 : decode prog_1_method_1_code 33 = .ok (.invokespecial 24, 3) := by decide +kernel
theorem cd_F_36 : decode prog_1_method_1_code 36 = .ok (.putfield 25, 3) := by decide +kernel
theorem cd_F_39 : decode prog_1_method_1_code 39 = .ok (.aload_n 0, 1) := by decide +kernel
theorem cd_F_40 : decode prog_1_method_1_code 40 = .ok (.new 22, 3) := by decide +kernel
theorem cd_F_43 : decode prog_1_method_1_code 43 = .ok (.dup, 1) := by decide +kernel
theorem cd_F_44 : decode prog_1_method_1_code 44 = .ok (.invokespecial 24, 3) := by decide +kernel
theorem cd_F_47 : decode prog_1_method_1_code 47 = .ok (.putfield 29, 3) := by decide +kernel
theorem cd_F_50 : decode prog_1_method_1_code 50 = .ok (.aload_n 0, 1) := by decide +kernel
theorem cd_F_51 : decode prog_1_method_1_code 51 = .ok (.new 32, 3) := by decide +kernel
theorem cd_F_54 : decode prog_1_method_1_code 54 = .ok (.dup, 1) := by decide +kernel
theorem cd_F_55 : decode prog_1_method_1_code 55 = .ok (.invokespecial 34, 3) := by decide +kernel
theorem cd_F_58 : decode prog_1_method_1_code 58 = .ok (.putfield 35, 3) := by decide +kernel
theorem cd_F_61 : decode prog_1_method_1_code 61 = .ok (.aload_n 0, 1) := by decide +kernel
theorem cd_F_62 : decode prog_1_method_1_code 62 = .ok (.new 32, 3) := by decide +kernel
theorem cd_F_65 : decode prog_1_method_1_code 65 = .ok (.dup, 1) := by decide +kernel
theorem cd_F_66 : decode prog_1_method_1_code 66 = .ok (.invokespecial 34, 3) := by decide +kernel
theorem cd_F_69 : decode prog_1_method_1_code 69 = .ok (.putfield 39, 3) := by decide +kernel
theorem cd_F_72 : decode prog_1_method_1_code 72 = .ok (.aload_n 0, 1) := by decide +kernel
theorem cd_F_73 : decode prog_1_method_1_code 73 = .ok (.new 42, 3) := by decide +kernel
theorem cd_F_76 : decode prog_1_method_1_code 76 = .ok (.dup, 1) := by decide +kernel
theorem cd_F_77 : decode prog_1_method_1_code 77 = .ok (.aload_n 0, 1) := by decide +kernel
theorem cd_F_78 : decode prog_1_method_1_code 78 = .ok (.getfield 25, 3) := by decide +kernel
theorem cd_F_81 : decode prog_1_method_1_code 81 = .ok (.invokespecial 44, 3) := by decide +kernel
theorem cd_F_84 : decode prog_1_method_1_code 84 = .ok (.putfield 47, 3) := by decide +kernel
theorem cd_F_87 : decode prog_1_method_1_code 87 = .ok (.aload_n 0, 1) := by decide +kernel
theorem cd_F_88 : decode prog_1_method_1_code 88 = .ok (.new 42, 3) := by decide +kernel
theorem cd_F_91 : decode prog_1_method_1_code 91 = .ok (.dup, 1) := by decide +kernel
theorem cd_F_92 : decode prog_1_method_1_code 92 = .ok (.aload_n 0, 1) := by decide +kernel
theorem cd_F_93 : decode prog_1_method_1_code 93 = .ok (.getfield 25, 3) := by decide +kernel
theorem cd_F_96 : decode prog_1_method_1_code 96 = .ok (.invokespecial 44, 3) := by decide +kernel
theorem cd_F_99 : decode prog_1_method_1_code 99 = .ok (.putfield 51, 3) := by decide +kernel
theorem cd_F_102 : decode prog_1_method_1_code 102 = .ok (.aload_n 0, 1) := by decide +kernel
theorem cd_F_103 : decode prog_1_method_1_code 103 = .ok (.bipush (9), 2) := by decide +kernel
theorem cd_F_105 : decode prog_1_method_1_code 105 = .ok (.anewarray 42, 3) := by decide +kernel
theorem cd_F_108 : decode prog_1_method_1_code 108 = .ok (.putfield 54, 3) := by decide +kernel
theorem cd_F_111 : decode prog_1_method_1_code 111 = .ok (.iconst (0), 1) := by decide +kernel
theorem cd_F_112 : decode prog_1_method_1_code 112 = .ok (.istore_n 1, 1) := by decide +kernel
theorem cd_F_113 : decode prog_1_method_1_code 113 = .ok (.iload_n 1, 1) := by decide +kernel
theorem cd_F_114 : decode prog_1_method_1_code 114 = .ok (.aload_n 0, 1) := by decide +kernel
theorem cd_F_115 : decode prog_1_method_1_code 115 = .ok (.getfield 54, 3) := by decide +kernel
theorem cd_F_118 : decode prog_1_method_1_code 118 = .ok (.arraylength, 1) := by decide +kernel
theorem cd_F_119 : decode prog_1_method_1_code 119 = .ok (.if_icmp .ge (26), 3) := by decide +kernel
theorem cd_F_122 : decode prog_1_method_1_code 122 = .ok (.aload_n 0, 1) := by decide +kernel
theorem cd_F_123 : decode prog_1_method_1_code 123 = .ok (.getfield 54, 3) := by decide +kernel
theorem cd_F_126 : decode prog_1_method_1_code 126 = .ok (.iload_n 1, 1) := by decide +kernel
theorem cd_F_127 : decode prog_1_method_1_code 127 = .ok (.new 42, 3) := by decide +kernel
theorem cd_F_130 : decode prog_1_method_1_code 130 = .ok (.dup, 1) := by decide +kernel
theorem cd_F_131 : decode prog_1_method_1_code 131 = .ok (.aload_n 0, 1) := by decide +kernel
theorem cd_F_132 : decode prog_1_method_1_code 132 = .ok (.getfield 25, 3) := by decide +kernel
theorem cd_F_135 : decode prog_1_method_1_code 135 = .ok (.invokespecial 44, 3) := by decide +kernel
theorem cd_F_138 : decode prog_1_method_1_code 138 = .ok (.aastore, 1) := by decide +kernel
theorem cd_F_139 : decode prog_1_method_1_code 139 = .ok (.iinc 1 1, 3) := by decide +kernel
theorem cd_F_142 : decode prog_1_method_1_code 142 = .ok (.goto (-29), 3) := by decide +kernel
theorem cd_F_145 : decode prog_1_method_1_code 145 = .ok (.aload_n 0, 1) := by decide +kernel
theorem cd_F_146 : decode prog_1_method_1_code 146 = .ok (.iconst (2), 1) := by decide +kernel
theorem cd_F_147 : decode prog_1_method_1_code 147 = .ok (.anewarray 58, 3) := by decide +kernel
theorem cd_F_150 : decode prog_1_method_1_code 150 = .ok (.putfield 60, 3) := by decide +kernel
theorem cd_F_153 : decode prog_1_method_1_code 153 = .ok (.iconst (0), 1) := by decide +kernel
theorem cd_F_154 : decode prog_1_method_1_code 154 = .ok (.istore_n 1, 1) := by decide +kernel
theorem cd_F_155 : decode prog_1_method_1_code 155 = .ok (.iload_n 1, 1) := by decide +kernel
theorem cd_F_156 : decode prog_1_method_1_code 156 = .ok (.aload_n 0, 1) := by decide +kernel
theorem cd_F_157 : decode prog_1_method_1_code 157 = .ok (.getfield 60, 3) := by decide +kernel
theorem cd_F_160 : decode prog_1_method_1_code 160 = .ok (.arraylength, 1) := by decide +kernel
theorem cd_F_161 : decode prog_1_method_1_code 161 = .ok (.if_icmp .ge (22), 3) := by decide +kernel
theorem cd_F_164 : decode prog_1_method_1_code 164 = .ok (.aload_n 0, 1) := by decide +kernel
theorem cd_F_165 : decode prog_1_method_1_code 165 = .ok (.getfield 60, 3) := by decide +kernel
theorem cd_F_168 : decode prog_1_method_1_code 168 = .ok (.iload_n 1, 1) := by decide +kernel
theorem cd_F_169 : decode prog_1_method_1_code 169 = .ok (.new 58, 3) := by decide +kernel
theorem cd_F_172 : decode prog_1_method_1_code 172 = .ok (.dup, 1) := by decide +kernel
theorem cd_F_173 : decode prog_1_method_1_code 173 = .ok (.invokespecial 64, 3) := by decide +kernel
theorem cd_F_176 : decode prog_1_method_1_code 176 = .ok (.aastore, 1) := by decide +kernel
theorem cd_F_177 : decode prog_1_method_1_code 177 = .ok (.iinc 1 1, 3) := by decide +kernel
theorem cd_F_180 : decode prog_1_method_1_code 180 = .ok (.goto (-25), 3) := by decide +kernel
theorem cd_F_183 : decode prog_1_method_1_code 183 = .ok (.aload_n 0, 1) := by decide +kernel
theorem cd_F_184 : decode prog_1_method_1_code 184 = .ok (.new 65, 3) := by decide +kernel
theorem cd_F_187 : decode prog_1_method_1_code 187 = .ok (.dup, 1) := by decide +kernel
theorem cd_F_188 : decode prog_1_method_1_code 188 = .ok (.aload_n 0, 1) := by decide +kernel
theorem cd_F_189 : decode prog_1_method_1_code 189 = .ok (.getfield 25, 3) := by decide +kernel
theorem cd_F_192 : decode prog_1_method_1_code 192 = .ok (.invokespecial 67, 3) := by decide +kernel
theorem cd_F_195 : decode prog_1_method_1_code 195 = .ok (.putfield 68, 3) := by decide +kernel
theorem cd_F_198 : decode prog_1_method_1_code 198 = .ok (.aload_n 0, 1) := by decide +kernel
theorem cd_F_199 : decode prog_1_method_1_code 199 = .ok (.new 72, 3) := by decide +kernel
theorem cd_F_202 : decode prog_1_method_1_code 202 = .ok (.dup, 1) := by decide +kernel
theorem cd_F_203 : decode prog_1_method_1_code 203 = .ok (.invokespecial 74, 3) := by decide +kernel
theorem cd_F_206 : decode prog_1_method_1_code 206 = .ok (.putfield 75, 3) := by decide +kernel
theorem cd_F_209 : decode prog_1_method_1_code 209 = .ok (.aload_n 0, 1) := by decide +kernel
theorem cd_F_210 : decode prog_1_method_1_code 210 = .ok (.iconst (-1), 1) := by decide +kernel
theorem cd_F_211 : decode prog_1_method_1_code 211 = .ok (.putfield 79, 3) := by decide +kernel
theorem cd_F_214 : decode prog_1_method_1_code 214 = .ok (.aload_n 0, 1) := by decide +kernel
theorem cd_F_215 : decode prog_1_method_1_code 215 = .ok (.iconst (-1), 1) := by decide +kernel
theorem cd_F_216 : decode prog_1_method_1_code 216 = .ok (.putfield 83, 3) := by decide +kernel
theorem cd_F_219 : decode prog_1_method_1_code 219 = .ok (.return_, 1) := by decide +kernel
abbrev cn_d_F : ax_D := (⟨"AskingFragments", "<init>", "()V"⟩, prog_1_method_1_code, 2, none, 1, 0)
theorem cn_p_F : (parseMethodDescriptor cn_d_F.1.desc).map (fun d => d.parameters.length) = some 0 := by decide +kernel
def cf_R : Room := { frames := 3, cells := 206, slots := 39090, locals := 180 }
def cf_B (p : Program) (s : State) (m : MethodId) (args : Array Value) (meth : Method) (c : Code) (Dg : va_G) (A : Nat → Prop) (cA : Nat → ClassId) : Prop := p.tables.exec = Jvm.exec ∧ c.code = prog_1_method_1_code ∧ c.maxLocals = 2 ∧ s.vm.findClass "AskingFragments" = some m.cls ∧ (∀ w ∈ cn_Ts, w.before args s = true) ∧ meth.name = "<init>" ∧ va_K Dg ax_cl (ax_ty cA) s ∧ (∀ q, s.heap.size ≤ q → A q) ∧ cn_X s
def cf_S (Dg : va_G) (A : Nat → Prop) (cA : Nat → ClassId) (ad : Nat → Nat) (sh : Nat → ax_C) (N : Nat) (μ : ax_M) (H : Heap) (o a : Nat) (fs : List (Nat × Nat)) : Prop := cx_W Dg ax_cl A cA ad sh N μ H ∧ ad o = a ∧ o < N ∧ sh o = (0, 0, fs) ∧ fs.length = 17 ∧ ∀ x, N ≤ x → μ.1 x = (fun _ => 0) ∧ μ.2 x = (fun _ => 0)
section CF
variable {p : Program} {l : Launch} {e : Env} {s : State} {m : MethodId} {args : Array Value} {below : List Frame} {meth : Method} {c : Code} {H : Heap} {locs : List Loc} {cells slots : Nat} {Q : State → Prop} {ls : Array Slot} {Dg : va_G} {A : Nat → Prop} {cA : Nat → ClassId} {ad : Nat → Nat} {sh : Nat → ax_C} {N : Nat} {μ : ax_M} {o a : Nat} {fs fs' : List (Nat × Nat)}
theorem cf_4 (B : cf_B p s m args meth c Dg A cA) (Z : cf_S Dg A cA ad sh N μ H o a fs) (hS : va_S A s.heap H locs) (h0 : ls[0]? = some (.val (.ref a))) (hz : ls.size = 2) (hf : fs.set 0 (2, N) = fs') (hc : cells + 1 ≤ 206) (hs : slots + 940 ≤ 39090)
    (kk : ∀ (H1 : Heap) (locs1 : List Loc) (ad1 : Nat → Nat) (sh1 : Nat → ax_C) (N1 : Nat), (∀ x, x < N → ad1 x = ad x) → sh1 = cx_set (cx_set sh N (2, 940, [])) o (0, 0, fs') → N1 = N + 1 → cf_S Dg A cA ad1 sh1 N1 μ H1 o a fs' → va_S A s.heap H1 locs1 → W p l e cf_R s m args below meth c H1 locs1 (cells + 1) (slots + 940) Q (F0 m 13 ls [])) : W p l e cf_R s m args below meth c H locs (cells) (slots) Q (F0 m 4 ls []) := by
  obtain ⟨hx, hb, hml, hown, htn, hin, hK, hA, hX⟩ := B
  obtain ⟨hW, ea, ho, hso, hfl, hμ⟩ := Z
  have hts : ∀ w ∈ ax_Ts, w.before args s = true := fun w hw => htn w (cn_Ts_in hw)
  refine lv_aload_n hx hb cd_F_4 rfl h0 ?_
  refine lv_sipush hx hb cd_F_5 (v := (940)) rfl ?_
  refine cn_newa (len := 940) hx hb (htn _ (List.mem_of_getElem? (i := 0) rfl)) 2 (by decide) rfl rfl hK hW hS hA (hμ _ (Nat.le_refl _)) (by decide) rfl (by decide) (show cells + 1 ≤ 206 by omega) (show slots + 940 ≤ 39090 by omega) cd_F_8 (fun q1 H1 ad1 sh1 N1 had1 hsh1 hN1 hW1 hS1 => ?_)
  subst hN1
  have e_a1 : ad1 o = a := by rw [had1, cn_ext (by omega)]; exact ea
  have e_q1 : ad1 N = q1 := by rw [had1]; exact cn_ext_at
  have hs_o1 : sh1 o = (0, 0, fs) := by rw [hsh1, cn_set_ne (by omega)]; exact hso
  refine cn_putq (ea := e_a1) (eb := e_q1) (Ts := ax_Ts) (n := 17) (T := aT_F) (C := "AskingFragments") (k := 0) hx hb hts aU_F (ty0 := cn_tF) cn_yF aN_F hown hK rfl hW1 hS1 (show o < N + 1 by omega) hs_o1 (by decide) hfl (show N < N + 1 by omega) (hts _ (ax_in (ax_wl_at (k := 2) (j := 54) rfl) rfl)) rfl hin rfl rfl rfl rfl cd_F_10 (fun H5 locs5 sh5 hsh5 hW5 hS5 => ?_)
  rw [hf] at hsh5
  exact kk H5 locs5 ad1 sh5 _ (fun x hx => by rw [had1, cn_ext (by omega)]) (by rw [hsh5, hsh1]) rfl ⟨hW5, e_a1, by omega, by rw [hsh5]; exact cn_set_at, by rw [← hf, List.length_set]; exact hfl, fun x hx => hμ x (by omega)⟩ hS5
theorem cf_13 (B : cf_B p s m args meth c Dg A cA) (Z : cf_S Dg A cA ad sh N μ H o a fs) (hS : va_S A s.heap H locs) (h0 : ls[0]? = some (.val (.ref a))) (hz : ls.size = 2) (hf : fs.set 2 (2, N) = fs') {g : Nat} (hk0 : fs[0]? = some (2, g)) (hg : g < N) (hc : cells + 1 + 0 ≤ 206) (hs : slots + 10 + 0 ≤ 39090)
    (kk : ∀ (H1 : Heap) (locs1 : List Loc) (ad1 : Nat → Nat) (sh1 : Nat → ax_C) (N1 : Nat), (∀ x, x < N → ad1 x = ad x) → sh1 = cx_set (cn_s_Reader (cx_set sh N (0, 4, [(4, 0), (0, 0), (0, 0), (0, 0), (0, 0), (0, 0), (0, 0), (0, 0), (0, 0), (0, 0)])) (N + 1) N g) o (0, 0, fs') → N1 = (N + 1) → cf_S Dg A cA ad1 sh1 N1 μ H1 o a fs' → va_S A s.heap H1 locs1 → W p l e cf_R s m args below meth c H1 locs1 (cells + 1 + 0) (slots + 10 + 0) Q (F0 m 28 ls [])) : W p l e cf_R s m args below meth c H locs (cells) (slots) Q (F0 m 13 ls []) := by
  obtain ⟨hx, hb, hml, hown, htn, hin, hK, hA, hX⟩ := B
  obtain ⟨hW, ea, ho, hso, hfl, hμ⟩ := Z
  have hts : ∀ w ∈ ax_Ts, w.before args s = true := fun w hw => htn w (cn_Ts_in hw)
  refine lv_aload_n hx hb cd_F_13 rfl h0 ?_
  refine cn_new (Ts := ax_Ts) (ci := 4) (fs := [(4, 0), (0, 0), (0, 0), (0, 0), (0, 0), (0, 0), (0, 0), (0, 0), (0, 0), (0, 0)]) hx hb hts aU_Reader cn_tReader cn_yReader hown (hts _ (ax_in (ax_wl_at (k := 1) (j := 28) rfl) rfl)) (hts _ (ax_in (ax_wl_at (k := 1) (j := 29) rfl) rfl)) (hts _ aI_Reader.1) hK rfl hW hS hA (cn_h0 (hμ _ (Nat.le_refl _))) (by decide) cn_fReader (show cells + 1 ≤ 206 by omega) (show slots + 10 ≤ 39090 by omega) cd_F_14 (fun q1 H1 ad1 sh1 N1 had1 hsh1 hN1 hW1 hS1 => ?_)
  subst hN1
  have e_a1 : ad1 o = a := by rw [had1, cn_ext (by omega)]; exact ea
  have e_q1 : ad1 N = q1 := by rw [had1]; exact cn_ext_at
  have hs_o1 : sh1 o = (0, 0, fs) := by rw [hsh1, cn_set_ne (by omega)]; exact hso
  have hs_n1 : sh1 N = (0, 4, [(4, 0), (0, 0), (0, 0), (0, 0), (0, 0), (0, 0), (0, 0), (0, 0), (0, 0), (0, 0)]) := by rw [hsh1]; exact cn_set_at
  refine lv_dup hx hb cd_F_17 rfl ?_
  refine lv_aload_n hx hb cd_F_18 rfl h0 ?_
  refine cn_getq (t := g) (ea := e_a1) (eb := rfl) (Ts := ax_Ts) (n := 17) (T := aT_F) (C := "AskingFragments") (k := 0) hx hb hts aU_F hown hK rfl hW1 (show o < (N + 1) by omega) hs_o1 (by decide) hk0 (hts _ (ax_in (ax_wl_at (k := 2) (j := 54) rfl) rfl)) cd_F_19 ?_
  refine cn_call (host := "AskingFragments") (d := cn_d_Reader) (b := q1) (As := [.ref (ad1 g)]) hx hb hml hown htn (cn_Reader l Dg A cA ad1 sh1 (N + 1) μ e_q1 (by omega) (rfl : ad1 g = ad1 g) (by omega) hs_n1 (fun a ha => hμ a (by omega))) rfl ⟨rfl, rfl⟩ (ax_in (ax_wl_at (k := 1) (j := 32) rfl) rfl) aI_Reader.1 (Or.inl (hts _ (ax_in (ax_wl_at (k := 1) (j := 30) rfl) rfl))) rfl (ax_in (ax_wl_at (k := 1) (j := 31) rfl) rfl) ⟨aI_Reader.2.2.1, aI_Reader.2.2.2, cn_p_Reader⟩ ⟨(Nat.le_of_ble_eq_true rfl), (Nat.le_of_ble_eq_true rfl)⟩ hK hW1 hS1 hA hX rfl hz (Nat.le_of_ble_eq_true rfl) cd_F_22 ⟨(show cells + 1 + 0 ≤ 206 by omega), (show slots + 10 + 0 ≤ 39090 by omega)⟩ (fun H4 locs4 ad4 sh4 N4 hal4 hsh4 hN4 hW4 hS4 => ?_)
  subst hN4
  have e_a4 : ad4 o = a := (hal4 _ (by omega)).trans e_a1
  have e_q4 : ad4 N = q1 := (hal4 _ (by omega)).trans e_q1
  have hs_o4 : sh4 o = (0, 0, fs) := by rw [hsh4, cn_s_Reader_ne (by omega) (by omega)]; exact hs_o1
  have hb4 : ∀ x, x < N → ad4 x = ad x := fun x hx => (hal4 x (by omega)).trans (by rw [had1, cn_ext (by omega)])
  refine cn_putq (ea := e_a4) (eb := e_q4) (Ts := ax_Ts) (n := 17) (T := aT_F) (C := "AskingFragments") (k := 2) hx hb hts aU_F (ty0 := cn_tF) cn_yF aN_F hown hK rfl hW4 hS4 (show o < (N + 1) by omega) hs_o4 (by decide) hfl (show N < (N + 1) by omega) (hts _ (ax_in (ax_wl_at (k := 2) (j := 56) rfl) rfl)) rfl hin rfl rfl rfl rfl cd_F_25 (fun H5 locs5 sh5 hsh5 hW5 hS5 => ?_)
  rw [hf] at hsh5
  exact kk H5 locs5 ad4 sh5 _ hb4 (by rw [hsh5, hsh4, hsh1]) rfl ⟨hW5, e_a4, by omega, by rw [hsh5]; exact cn_set_at, by rw [← hf, List.length_set]; exact hfl, fun x hx => hμ x (by omega)⟩ hS5
theorem cf_28 (B : cf_B p s m args meth c Dg A cA) (Z : cf_S Dg A cA ad sh N μ H o a fs) (hS : va_S A s.heap H locs) (h0 : ls[0]? = some (.val (.ref a))) (hz : ls.size = 2) (hf : fs.set 3 (2, N) = fs') (hc : cells + 1 + 4 ≤ 206) (hs : slots + 6 + 186 ≤ 39090)
    (kk : ∀ (H1 : Heap) (locs1 : List Loc) (ad1 : Nat → Nat) (sh1 : Nat → ax_C) (N1 : Nat), (∀ x, x < N → ad1 x = ad x) → sh1 = cx_set (cn_s_Net (cx_set sh N (0, 3, [(0, 0), (0, 0), (4, 0), (4, 0), (4, 0), (4, 0)])) (N + 1) N) o (0, 0, fs') → N1 = (N + 1 + 4) → cf_S Dg A cA ad1 sh1 N1 μ H1 o a fs' → va_S A s.heap H1 locs1 → W p l e cf_R s m args below meth c H1 locs1 (cells + 1 + 4) (slots + 6 + 186) Q (F0 m 39 ls [])) : W p l e cf_R s m args below meth c H locs (cells) (slots) Q (F0 m 28 ls []) := by
  obtain ⟨hx, hb, hml, hown, htn, hin, hK, hA, hX⟩ := B
  obtain ⟨hW, ea, ho, hso, hfl, hμ⟩ := Z
  have hts : ∀ w ∈ ax_Ts, w.before args s = true := fun w hw => htn w (cn_Ts_in hw)
  refine lv_aload_n hx hb cd_F_28 rfl h0 ?_
  refine cn_new (Ts := ax_Ts) (ci := 3) (fs := [(0, 0), (0, 0), (4, 0), (4, 0), (4, 0), (4, 0)]) hx hb hts aU_Net cn_tNet cn_yNet hown (hts _ (ax_in (ax_wl_at (k := 1) (j := 69) rfl) rfl)) (hts _ (ax_in (ax_wl_at (k := 1) (j := 70) rfl) rfl)) (hts _ aI_Net.1) hK rfl hW hS hA (cn_h0 (hμ _ (Nat.le_refl _))) (by decide) cn_fNet (show cells + 1 ≤ 206 by omega) (show slots + 6 ≤ 39090 by omega) cd_F_29 (fun q1 H1 ad1 sh1 N1 had1 hsh1 hN1 hW1 hS1 => ?_)
  subst hN1
  have e_a1 : ad1 o = a := by rw [had1, cn_ext (by omega)]; exact ea
  have e_q1 : ad1 N = q1 := by rw [had1]; exact cn_ext_at
  have hs_o1 : sh1 o = (0, 0, fs) := by rw [hsh1, cn_set_ne (by omega)]; exact hso
  have hs_n1 : sh1 N = (0, 3, [(0, 0), (0, 0), (4, 0), (4, 0), (4, 0), (4, 0)]) := by rw [hsh1]; exact cn_set_at
  refine lv_dup hx hb cd_F_32 rfl ?_
  refine cn_call (host := "AskingFragments") (d := cn_d_Net) (b := q1) (As := []) hx hb hml hown htn (cn_Net l Dg A cA ad1 sh1 (N + 1) μ e_q1 (by omega) hs_n1 (fun a ha => hμ a (by omega))) rfl ⟨rfl, rfl⟩ (ax_in (ax_wl_at (k := 1) (j := 73) rfl) rfl) aI_Net.1 (Or.inr (hX.1 _ (List.mem_of_getElem? (i := 0) rfl))) rfl (ax_in (ax_wl_at (k := 1) (j := 72) rfl) rfl) ⟨aI_Net.2.2.1, aI_Net.2.2.2, cn_p_Net⟩ ⟨(Nat.le_of_ble_eq_true rfl), (Nat.le_of_ble_eq_true rfl)⟩ hK hW1 hS1 hA hX rfl hz (Nat.le_of_ble_eq_true rfl) cd_F_33 ⟨(show cells + 1 + 4 ≤ 206 by omega), (show slots + 6 + 186 ≤ 39090 by omega)⟩ (fun H4 locs4 ad4 sh4 N4 hal4 hsh4 hN4 hW4 hS4 => ?_)
  subst hN4
  have e_a4 : ad4 o = a := (hal4 _ (by omega)).trans e_a1
  have e_q4 : ad4 N = q1 := (hal4 _ (by omega)).trans e_q1
  have hs_o4 : sh4 o = (0, 0, fs) := by rw [hsh4, cn_s_Net_ne (by omega) (by omega)]; exact hs_o1
  have hb4 : ∀ x, x < N → ad4 x = ad x := fun x hx => (hal4 x (by omega)).trans (by rw [had1, cn_ext (by omega)])
  refine cn_putq (ea := e_a4) (eb := e_q4) (Ts := ax_Ts) (n := 17) (T := aT_F) (C := "AskingFragments") (k := 3) hx hb hts aU_F (ty0 := cn_tF) cn_yF aN_F hown hK rfl hW4 hS4 (show o < (N + 1 + 4) by omega) hs_o4 (by decide) hfl (show N < (N + 1 + 4) by omega) (hts _ (ax_in (ax_wl_at (k := 2) (j := 57) rfl) rfl)) rfl hin rfl rfl rfl rfl cd_F_36 (fun H5 locs5 sh5 hsh5 hW5 hS5 => ?_)
  rw [hf] at hsh5
  exact kk H5 locs5 ad4 sh5 _ hb4 (by rw [hsh5, hsh4, hsh1]) rfl ⟨hW5, e_a4, by omega, by rw [hsh5]; exact cn_set_at, by rw [← hf, List.length_set]; exact hfl, fun x hx => hμ x (by omega)⟩ hS5
theorem cf_39 (B : cf_B p s m args meth c Dg A cA) (Z : cf_S Dg A cA ad sh N μ H o a fs) (hS : va_S A s.heap H locs) (h0 : ls[0]? = some (.val (.ref a))) (hz : ls.size = 2) (hf : fs.set 4 (2, N) = fs') (hc : cells + 1 + 4 ≤ 206) (hs : slots + 6 + 186 ≤ 39090)
    (kk : ∀ (H1 : Heap) (locs1 : List Loc) (ad1 : Nat → Nat) (sh1 : Nat → ax_C) (N1 : Nat), (∀ x, x < N → ad1 x = ad x) → sh1 = cx_set (cn_s_Net (cx_set sh N (0, 3, [(0, 0), (0, 0), (4, 0), (4, 0), (4, 0), (4, 0)])) (N + 1) N) o (0, 0, fs') → N1 = (N + 1 + 4) → cf_S Dg A cA ad1 sh1 N1 μ H1 o a fs' → va_S A s.heap H1 locs1 → W p l e cf_R s m args below meth c H1 locs1 (cells + 1 + 4) (slots + 6 + 186) Q (F0 m 50 ls [])) : W p l e cf_R s m args below meth c H locs (cells) (slots) Q (F0 m 39 ls []) := by
  obtain ⟨hx, hb, hml, hown, htn, hin, hK, hA, hX⟩ := B
  obtain ⟨hW, ea, ho, hso, hfl, hμ⟩ := Z
  have hts : ∀ w ∈ ax_Ts, w.before args s = true := fun w hw => htn w (cn_Ts_in hw)
  refine lv_aload_n hx hb cd_F_39 rfl h0 ?_
  refine cn_new (Ts := ax_Ts) (ci := 3) (fs := [(0, 0), (0, 0), (4, 0), (4, 0), (4, 0), (4, 0)]) hx hb hts aU_Net cn_tNet cn_yNet hown (hts _ (ax_in (ax_wl_at (k := 1) (j := 69) rfl) rfl)) (hts _ (ax_in (ax_wl_at (k := 1) (j := 70) rfl) rfl)) (hts _ aI_Net.1) hK rfl hW hS hA (cn_h0 (hμ _ (Nat.le_refl _))) (by decide) cn_fNet (show cells + 1 ≤ 206 by omega) (show slots + 6 ≤ 39090 by omega) cd_F_40 (fun q1 H1 ad1 sh1 N1 had1 hsh1 hN1 hW1 hS1 => ?_)
  subst hN1
  have e_a1 : ad1 o = a := by rw [had1, cn_ext (by omega)]; exact ea
  have e_q1 : ad1 N = q1 := by rw [had1]; exact cn_ext_at
  have hs_o1 : sh1 o = (0, 0, fs) := by rw [hsh1, cn_set_ne (by omega)]; exact hso
  have hs_n1 : sh1 N = (0, 3, [(0, 0), (0, 0), (4, 0), (4, 0), (4, 0), (4, 0)]) := by rw [hsh1]; exact cn_set_at
  refine lv_dup hx hb cd_F_43 rfl ?_
  refine cn_call (host := "AskingFragments") (d := cn_d_Net) (b := q1) (As := []) hx hb hml hown htn (cn_Net l Dg A cA ad1 sh1 (N + 1) μ e_q1 (by omega) hs_n1 (fun a ha => hμ a (by omega))) rfl ⟨rfl, rfl⟩ (ax_in (ax_wl_at (k := 1) (j := 73) rfl) rfl) aI_Net.1 (Or.inr (hX.1 _ (List.mem_of_getElem? (i := 0) rfl))) rfl (ax_in (ax_wl_at (k := 1) (j := 72) rfl) rfl) ⟨aI_Net.2.2.1, aI_Net.2.2.2, cn_p_Net⟩ ⟨(Nat.le_of_ble_eq_true rfl), (Nat.le_of_ble_eq_true rfl)⟩ hK hW1 hS1 hA hX rfl hz (Nat.le_of_ble_eq_true rfl) cd_F_44 ⟨(show cells + 1 + 4 ≤ 206 by omega), (show slots + 6 + 186 ≤ 39090 by omega)⟩ (fun H4 locs4 ad4 sh4 N4 hal4 hsh4 hN4 hW4 hS4 => ?_)
  subst hN4
  have e_a4 : ad4 o = a := (hal4 _ (by omega)).trans e_a1
  have e_q4 : ad4 N = q1 := (hal4 _ (by omega)).trans e_q1
  have hs_o4 : sh4 o = (0, 0, fs) := by rw [hsh4, cn_s_Net_ne (by omega) (by omega)]; exact hs_o1
  have hb4 : ∀ x, x < N → ad4 x = ad x := fun x hx => (hal4 x (by omega)).trans (by rw [had1, cn_ext (by omega)])
  refine cn_putq (ea := e_a4) (eb := e_q4) (Ts := ax_Ts) (n := 17) (T := aT_F) (C := "AskingFragments") (k := 4) hx hb hts aU_F (ty0 := cn_tF) cn_yF aN_F hown hK rfl hW4 hS4 (show o < (N + 1 + 4) by omega) hs_o4 (by decide) hfl (show N < (N + 1 + 4) by omega) (hts _ (ax_in (ax_wl_at (k := 2) (j := 58) rfl) rfl)) rfl hin rfl rfl rfl rfl cd_F_47 (fun H5 locs5 sh5 hsh5 hW5 hS5 => ?_)
  rw [hf] at hsh5
  exact kk H5 locs5 ad4 sh5 _ hb4 (by rw [hsh5, hsh4, hsh1]) rfl ⟨hW5, e_a4, by omega, by rw [hsh5]; exact cn_set_at, by rw [← hf, List.length_set]; exact hfl, fun x hx => hμ x (by omega)⟩ hS5
theorem cf_50 (B : cf_B p s m args meth c Dg A cA) (Z : cf_S Dg A cA ad sh N μ H o a fs) (hS : va_S A s.heap H locs) (h0 : ls[0]? = some (.val (.ref a))) (hz : ls.size = 2) (hf : fs.set 5 (2, N) = fs') (hc : cells + 1 + 7 ≤ 206) (hs : slots + 9 + 230 ≤ 39090)
    (kk : ∀ (H1 : Heap) (locs1 : List Loc) (ad1 : Nat → Nat) (sh1 : Nat → ax_C) (N1 : Nat), (∀ x, x < N → ad1 x = ad x) → sh1 = cx_set (cn_s_Rule (cx_set sh N (0, 5, [(0, 0), (4, 0), (4, 0), (4, 0), (4, 0), (4, 0), (4, 0), (4, 0), (0, 0)])) (N + 1) N) o (0, 0, fs') → N1 = (N + 1 + 7) → cf_S Dg A cA ad1 sh1 N1 μ H1 o a fs' → va_S A s.heap H1 locs1 → W p l e cf_R s m args below meth c H1 locs1 (cells + 1 + 7) (slots + 9 + 230) Q (F0 m 61 ls [])) : W p l e cf_R s m args below meth c H locs (cells) (slots) Q (F0 m 50 ls []) := by
  obtain ⟨hx, hb, hml, hown, htn, hin, hK, hA, hX⟩ := B
  obtain ⟨hW, ea, ho, hso, hfl, hμ⟩ := Z
  have hts : ∀ w ∈ ax_Ts, w.before args s = true := fun w hw => htn w (cn_Ts_in hw)
  refine lv_aload_n hx hb cd_F_50 rfl h0 ?_
  refine cn_new (Ts := ax_Ts) (ci := 5) (fs := [(0, 0), (4, 0), (4, 0), (4, 0), (4, 0), (4, 0), (4, 0), (4, 0), (0, 0)]) hx hb hts aU_Rule cn_tRule cn_yRule hown (hts _ (ax_in (ax_wl_at (k := 1) (j := 108) rfl) rfl)) (hts _ (ax_in (ax_wl_at (k := 1) (j := 109) rfl) rfl)) (hts _ aI_Rule.1) hK rfl hW hS hA (cn_h0 (hμ _ (Nat.le_refl _))) (by decide) cn_fRule (show cells + 1 ≤ 206 by omega) (show slots + 9 ≤ 39090 by omega) cd_F_51 (fun q1 H1 ad1 sh1 N1 had1 hsh1 hN1 hW1 hS1 => ?_)
  subst hN1
  have e_a1 : ad1 o = a := by rw [had1, cn_ext (by omega)]; exact ea
  have e_q1 : ad1 N = q1 := by rw [had1]; exact cn_ext_at
  have hs_o1 : sh1 o = (0, 0, fs) := by rw [hsh1, cn_set_ne (by omega)]; exact hso
  have hs_n1 : sh1 N = (0, 5, [(0, 0), (4, 0), (4, 0), (4, 0), (4, 0), (4, 0), (4, 0), (4, 0), (0, 0)]) := by rw [hsh1]; exact cn_set_at
  refine lv_dup hx hb cd_F_54 rfl ?_
  refine cn_call (host := "AskingFragments") (d := cn_d_Rule) (b := q1) (As := []) hx hb hml hown htn (cn_Rule l Dg A cA ad1 sh1 (N + 1) μ e_q1 (by omega) hs_n1 (fun a ha => hμ a (by omega))) rfl ⟨rfl, rfl⟩ (ax_in (ax_wl_at (k := 1) (j := 112) rfl) rfl) aI_Rule.1 (Or.inr (hX.1 _ (List.mem_of_getElem? (i := 1) rfl))) rfl (ax_in (ax_wl_at (k := 1) (j := 111) rfl) rfl) ⟨aI_Rule.2.2.1, aI_Rule.2.2.2, cn_p_Rule⟩ ⟨(Nat.le_of_ble_eq_true rfl), (Nat.le_of_ble_eq_true rfl)⟩ hK hW1 hS1 hA hX rfl hz (Nat.le_of_ble_eq_true rfl) cd_F_55 ⟨(show cells + 1 + 7 ≤ 206 by omega), (show slots + 9 + 230 ≤ 39090 by omega)⟩ (fun H4 locs4 ad4 sh4 N4 hal4 hsh4 hN4 hW4 hS4 => ?_)
  subst hN4
  have e_a4 : ad4 o = a := (hal4 _ (by omega)).trans e_a1
  have e_q4 : ad4 N = q1 := (hal4 _ (by omega)).trans e_q1
  have hs_o4 : sh4 o = (0, 0, fs) := by rw [hsh4, cn_s_Rule_ne (by omega) (by omega)]; exact hs_o1
  have hb4 : ∀ x, x < N → ad4 x = ad x := fun x hx => (hal4 x (by omega)).trans (by rw [had1, cn_ext (by omega)])
  refine cn_putq (ea := e_a4) (eb := e_q4) (Ts := ax_Ts) (n := 17) (T := aT_F) (C := "AskingFragments") (k := 5) hx hb hts aU_F (ty0 := cn_tF) cn_yF aN_F hown hK rfl hW4 hS4 (show o < (N + 1 + 7) by omega) hs_o4 (by decide) hfl (show N < (N + 1 + 7) by omega) (hts _ (ax_in (ax_wl_at (k := 2) (j := 59) rfl) rfl)) rfl hin rfl rfl rfl rfl cd_F_58 (fun H5 locs5 sh5 hsh5 hW5 hS5 => ?_)
  rw [hf] at hsh5
  exact kk H5 locs5 ad4 sh5 _ hb4 (by rw [hsh5, hsh4, hsh1]) rfl ⟨hW5, e_a4, by omega, by rw [hsh5]; exact cn_set_at, by rw [← hf, List.length_set]; exact hfl, fun x hx => hμ x (by omega)⟩ hS5
theorem cf_61 (B : cf_B p s m args meth c Dg A cA) (Z : cf_S Dg A cA ad sh N μ H o a fs) (hS : va_S A s.heap H locs) (h0 : ls[0]? = some (.val (.ref a))) (hz : ls.size = 2) (hf : fs.set 6 (2, N) = fs') (hc : cells + 1 + 7 ≤ 206) (hs : slots + 9 + 230 ≤ 39090)
    (kk : ∀ (H1 : Heap) (locs1 : List Loc) (ad1 : Nat → Nat) (sh1 : Nat → ax_C) (N1 : Nat), (∀ x, x < N → ad1 x = ad x) → sh1 = cx_set (cn_s_Rule (cx_set sh N (0, 5, [(0, 0), (4, 0), (4, 0), (4, 0), (4, 0), (4, 0), (4, 0), (4, 0), (0, 0)])) (N + 1) N) o (0, 0, fs') → N1 = (N + 1 + 7) → cf_S Dg A cA ad1 sh1 N1 μ H1 o a fs' → va_S A s.heap H1 locs1 → W p l e cf_R s m args below meth c H1 locs1 (cells + 1 + 7) (slots + 9 + 230) Q (F0 m 72 ls [])) : W p l e cf_R s m args below meth c H locs (cells) (slots) Q (F0 m 61 ls []) := by
  obtain ⟨hx, hb, hml, hown, htn, hin, hK, hA, hX⟩ := B
  obtain ⟨hW, ea, ho, hso, hfl, hμ⟩ := Z
  have hts : ∀ w ∈ ax_Ts, w.before args s = true := fun w hw => htn w (cn_Ts_in hw)
  refine lv_aload_n hx hb cd_F_61 rfl h0 ?_
  refine cn_new (Ts := ax_Ts) (ci := 5) (fs := [(0, 0), (4, 0), (4, 0), (4, 0), (4, 0), (4, 0), (4, 0), (4, 0), (0, 0)]) hx hb hts aU_Rule cn_tRule cn_yRule hown (hts _ (ax_in (ax_wl_at (k := 1) (j := 108) rfl) rfl)) (hts _ (ax_in (ax_wl_at (k := 1) (j := 109) rfl) rfl)) (hts _ aI_Rule.1) hK rfl hW hS hA (cn_h0 (hμ _ (Nat.le_refl _))) (by decide) cn_fRule (show cells + 1 ≤ 206 by omega) (show slots + 9 ≤ 39090 by omega) cd_F_62 (fun q1 H1 ad1 sh1 N1 had1 hsh1 hN1 hW1 hS1 => ?_)
  subst hN1
  have e_a1 : ad1 o = a := by rw [had1, cn_ext (by omega)]; exact ea
  have e_q1 : ad1 N = q1 := by rw [had1]; exact cn_ext_at
  have hs_o1 : sh1 o = (0, 0, fs) := by rw [hsh1, cn_set_ne (by omega)]; exact hso
  have hs_n1 : sh1 N = (0, 5, [(0, 0), (4, 0), (4, 0), (4, 0), (4, 0), (4, 0), (4, 0), (4, 0), (0, 0)]) := by rw [hsh1]; exact cn_set_at
  refine lv_dup hx hb cd_F_65 rfl ?_
  refine cn_call (host := "AskingFragments") (d := cn_d_Rule) (b := q1) (As := []) hx hb hml hown htn (cn_Rule l Dg A cA ad1 sh1 (N + 1) μ e_q1 (by omega) hs_n1 (fun a ha => hμ a (by omega))) rfl ⟨rfl, rfl⟩ (ax_in (ax_wl_at (k := 1) (j := 112) rfl) rfl) aI_Rule.1 (Or.inr (hX.1 _ (List.mem_of_getElem? (i := 1) rfl))) rfl (ax_in (ax_wl_at (k := 1) (j := 111) rfl) rfl) ⟨aI_Rule.2.2.1, aI_Rule.2.2.2, cn_p_Rule⟩ ⟨(Nat.le_of_ble_eq_true rfl), (Nat.le_of_ble_eq_true rfl)⟩ hK hW1 hS1 hA hX rfl hz (Nat.le_of_ble_eq_true rfl) cd_F_66 ⟨(show cells + 1 + 7 ≤ 206 by omega), (show slots + 9 + 230 ≤ 39090 by omega)⟩ (fun H4 locs4 ad4 sh4 N4 hal4 hsh4 hN4 hW4 hS4 => ?_)
  subst hN4
  have e_a4 : ad4 o = a := (hal4 _ (by omega)).trans e_a1
  have e_q4 : ad4 N = q1 := (hal4 _ (by omega)).trans e_q1
  have hs_o4 : sh4 o = (0, 0, fs) := by rw [hsh4, cn_s_Rule_ne (by omega) (by omega)]; exact hs_o1
  have hb4 : ∀ x, x < N → ad4 x = ad x := fun x hx => (hal4 x (by omega)).trans (by rw [had1, cn_ext (by omega)])
  refine cn_putq (ea := e_a4) (eb := e_q4) (Ts := ax_Ts) (n := 17) (T := aT_F) (C := "AskingFragments") (k := 6) hx hb hts aU_F (ty0 := cn_tF) cn_yF aN_F hown hK rfl hW4 hS4 (show o < (N + 1 + 7) by omega) hs_o4 (by decide) hfl (show N < (N + 1 + 7) by omega) (hts _ (ax_in (ax_wl_at (k := 2) (j := 60) rfl) rfl)) rfl hin rfl rfl rfl rfl cd_F_69 (fun H5 locs5 sh5 hsh5 hW5 hS5 => ?_)
  rw [hf] at hsh5
  exact kk H5 locs5 ad4 sh5 _ hb4 (by rw [hsh5, hsh4, hsh1]) rfl ⟨hW5, e_a4, by omega, by rw [hsh5]; exact cn_set_at, by rw [← hf, List.length_set]; exact hfl, fun x hx => hμ x (by omega)⟩ hS5
theorem cf_72 (B : cf_B p s m args meth c Dg A cA) (Z : cf_S Dg A cA ad sh N μ H o a fs) (hS : va_S A s.heap H locs) (h0 : ls[0]? = some (.val (.ref a))) (hz : ls.size = 2) (hf : fs.set 7 (2, N) = fs') {g : Nat} (hk3 : fs[3]? = some (2, g)) (hg : g < N) (hc : cells + 1 + 10 ≤ 206) (hs : slots + 18 + 2773 ≤ 39090)
    (kk : ∀ (H1 : Heap) (locs1 : List Loc) (ad1 : Nat → Nat) (sh1 : Nat → ax_C) (N1 : Nat), (∀ x, x < N → ad1 x = ad x) → sh1 = cx_set (cn_s_Run (cx_set sh N (0, 6, [(4, 0), (4, 0), (4, 0), (4, 0), (4, 0), (4, 0), (4, 0), (4, 0), (4, 0), (4, 0), (4, 0), (0, 0), (0, 0), (0, 0), (0, 0), (0, 0), (0, 0), (0, 0)])) (N + 1) N g) o (0, 0, fs') → N1 = (N + 1 + 10) → cf_S Dg A cA ad1 sh1 N1 μ H1 o a fs' → va_S A s.heap H1 locs1 → W p l e cf_R s m args below meth c H1 locs1 (cells + 1 + 10) (slots + 18 + 2773) Q (F0 m 87 ls [])) : W p l e cf_R s m args below meth c H locs (cells) (slots) Q (F0 m 72 ls []) := by
  obtain ⟨hx, hb, hml, hown, htn, hin, hK, hA, hX⟩ := B
  obtain ⟨hW, ea, ho, hso, hfl, hμ⟩ := Z
  have hts : ∀ w ∈ ax_Ts, w.before args s = true := fun w hw => htn w (cn_Ts_in hw)
  refine lv_aload_n hx hb cd_F_72 rfl h0 ?_
  refine cn_new (Ts := ax_Ts) (ci := 6) (fs := [(4, 0), (4, 0), (4, 0), (4, 0), (4, 0), (4, 0), (4, 0), (4, 0), (4, 0), (4, 0), (4, 0), (0, 0), (0, 0), (0, 0), (0, 0), (0, 0), (0, 0), (0, 0)]) hx hb hts aU_Run cn_tRun cn_yRun hown (hts _ (ax_in (ax_wl_at (k := 1) (j := 144) rfl) rfl)) (hts _ (ax_in (ax_wl_at (k := 1) (j := 145) rfl) rfl)) (hts _ aI_Run.1) hK rfl hW hS hA (cn_h0 (hμ _ (Nat.le_refl _))) (by decide) cn_fRun (show cells + 1 ≤ 206 by omega) (show slots + 18 ≤ 39090 by omega) cd_F_73 (fun q1 H1 ad1 sh1 N1 had1 hsh1 hN1 hW1 hS1 => ?_)
  subst hN1
  have e_a1 : ad1 o = a := by rw [had1, cn_ext (by omega)]; exact ea
  have e_q1 : ad1 N = q1 := by rw [had1]; exact cn_ext_at
  have hs_o1 : sh1 o = (0, 0, fs) := by rw [hsh1, cn_set_ne (by omega)]; exact hso
  have hs_n1 : sh1 N = (0, 6, [(4, 0), (4, 0), (4, 0), (4, 0), (4, 0), (4, 0), (4, 0), (4, 0), (4, 0), (4, 0), (4, 0), (0, 0), (0, 0), (0, 0), (0, 0), (0, 0), (0, 0), (0, 0)]) := by rw [hsh1]; exact cn_set_at
  refine lv_dup hx hb cd_F_76 rfl ?_
  refine lv_aload_n hx hb cd_F_77 rfl h0 ?_
  refine cn_getq (t := g) (ea := e_a1) (eb := rfl) (Ts := ax_Ts) (n := 17) (T := aT_F) (C := "AskingFragments") (k := 3) hx hb hts aU_F hown hK rfl hW1 (show o < (N + 1) by omega) hs_o1 (by decide) hk3 (hts _ (ax_in (ax_wl_at (k := 2) (j := 57) rfl) rfl)) cd_F_78 ?_
  refine cn_call (host := "AskingFragments") (d := cn_d_Run) (b := q1) (As := [.ref (ad1 g)]) hx hb hml hown htn (cn_Run l Dg A cA ad1 sh1 (N + 1) μ e_q1 (by omega) (rfl : ad1 g = ad1 g) (by omega) hs_n1 (fun a ha => hμ a (by omega))) rfl ⟨rfl, rfl⟩ (ax_in (ax_wl_at (k := 1) (j := 148) rfl) rfl) aI_Run.1 (Or.inl (hts _ (ax_in (ax_wl_at (k := 1) (j := 146) rfl) rfl))) rfl (ax_in (ax_wl_at (k := 1) (j := 147) rfl) rfl) ⟨aI_Run.2.2.1, aI_Run.2.2.2, cn_p_Run⟩ ⟨(Nat.le_of_ble_eq_true rfl), (Nat.le_of_ble_eq_true rfl)⟩ hK hW1 hS1 hA hX rfl hz (Nat.le_of_ble_eq_true rfl) cd_F_81 ⟨(show cells + 1 + 10 ≤ 206 by omega), (show slots + 18 + 2773 ≤ 39090 by omega)⟩ (fun H4 locs4 ad4 sh4 N4 hal4 hsh4 hN4 hW4 hS4 => ?_)
  subst hN4
  have e_a4 : ad4 o = a := (hal4 _ (by omega)).trans e_a1
  have e_q4 : ad4 N = q1 := (hal4 _ (by omega)).trans e_q1
  have hs_o4 : sh4 o = (0, 0, fs) := by rw [hsh4, cn_s_Run_ne (by omega) (by omega)]; exact hs_o1
  have hb4 : ∀ x, x < N → ad4 x = ad x := fun x hx => (hal4 x (by omega)).trans (by rw [had1, cn_ext (by omega)])
  refine cn_putq (ea := e_a4) (eb := e_q4) (Ts := ax_Ts) (n := 17) (T := aT_F) (C := "AskingFragments") (k := 7) hx hb hts aU_F (ty0 := cn_tF) cn_yF aN_F hown hK rfl hW4 hS4 (show o < (N + 1 + 10) by omega) hs_o4 (by decide) hfl (show N < (N + 1 + 10) by omega) (hts _ (ax_in (ax_wl_at (k := 2) (j := 61) rfl) rfl)) rfl hin rfl rfl rfl rfl cd_F_84 (fun H5 locs5 sh5 hsh5 hW5 hS5 => ?_)
  rw [hf] at hsh5
  exact kk H5 locs5 ad4 sh5 _ hb4 (by rw [hsh5, hsh4, hsh1]) rfl ⟨hW5, e_a4, by omega, by rw [hsh5]; exact cn_set_at, by rw [← hf, List.length_set]; exact hfl, fun x hx => hμ x (by omega)⟩ hS5
theorem cf_87 (B : cf_B p s m args meth c Dg A cA) (Z : cf_S Dg A cA ad sh N μ H o a fs) (hS : va_S A s.heap H locs) (h0 : ls[0]? = some (.val (.ref a))) (hz : ls.size = 2) (hf : fs.set 8 (2, N) = fs') {g : Nat} (hk3 : fs[3]? = some (2, g)) (hg : g < N) (hc : cells + 1 + 10 ≤ 206) (hs : slots + 18 + 2773 ≤ 39090)
    (kk : ∀ (H1 : Heap) (locs1 : List Loc) (ad1 : Nat → Nat) (sh1 : Nat → ax_C) (N1 : Nat), (∀ x, x < N → ad1 x = ad x) → sh1 = cx_set (cn_s_Run (cx_set sh N (0, 6, [(4, 0), (4, 0), (4, 0), (4, 0), (4, 0), (4, 0), (4, 0), (4, 0), (4, 0), (4, 0), (4, 0), (0, 0), (0, 0), (0, 0), (0, 0), (0, 0), (0, 0), (0, 0)])) (N + 1) N g) o (0, 0, fs') → N1 = (N + 1 + 10) → cf_S Dg A cA ad1 sh1 N1 μ H1 o a fs' → va_S A s.heap H1 locs1 → W p l e cf_R s m args below meth c H1 locs1 (cells + 1 + 10) (slots + 18 + 2773) Q (F0 m 102 ls [])) : W p l e cf_R s m args below meth c H locs (cells) (slots) Q (F0 m 87 ls []) := by
  obtain ⟨hx, hb, hml, hown, htn, hin, hK, hA, hX⟩ := B
  obtain ⟨hW, ea, ho, hso, hfl, hμ⟩ := Z
  have hts : ∀ w ∈ ax_Ts, w.before args s = true := fun w hw => htn w (cn_Ts_in hw)
  refine lv_aload_n hx hb cd_F_87 rfl h0 ?_
  refine cn_new (Ts := ax_Ts) (ci := 6) (fs := [(4, 0), (4, 0), (4, 0), (4, 0), (4, 0), (4, 0), (4, 0), (4, 0), (4, 0), (4, 0), (4, 0), (0, 0), (0, 0), (0, 0), (0, 0), (0, 0), (0, 0), (0, 0)]) hx hb hts aU_Run cn_tRun cn_yRun hown (hts _ (ax_in (ax_wl_at (k := 1) (j := 144) rfl) rfl)) (hts _ (ax_in (ax_wl_at (k := 1) (j := 145) rfl) rfl)) (hts _ aI_Run.1) hK rfl hW hS hA (cn_h0 (hμ _ (Nat.le_refl _))) (by decide) cn_fRun (show cells + 1 ≤ 206 by omega) (show slots + 18 ≤ 39090 by omega) cd_F_88 (fun q1 H1 ad1 sh1 N1 had1 hsh1 hN1 hW1 hS1 => ?_)
  subst hN1
  have e_a1 : ad1 o = a := by rw [had1, cn_ext (by omega)]; exact ea
  have e_q1 : ad1 N = q1 := by rw [had1]; exact cn_ext_at
  have hs_o1 : sh1 o = (0, 0, fs) := by rw [hsh1, cn_set_ne (by omega)]; exact hso
  have hs_n1 : sh1 N = (0, 6, [(4, 0), (4, 0), (4, 0), (4, 0), (4, 0), (4, 0), (4, 0), (4, 0), (4, 0), (4, 0), (4, 0), (0, 0), (0, 0), (0, 0), (0, 0), (0, 0), (0, 0), (0, 0)]) := by rw [hsh1]; exact cn_set_at
  refine lv_dup hx hb cd_F_91 rfl ?_
  refine lv_aload_n hx hb cd_F_92 rfl h0 ?_
  refine cn_getq (t := g) (ea := e_a1) (eb := rfl) (Ts := ax_Ts) (n := 17) (T := aT_F) (C := "AskingFragments") (k := 3) hx hb hts aU_F hown hK rfl hW1 (show o < (N + 1) by omega) hs_o1 (by decide) hk3 (hts _ (ax_in (ax_wl_at (k := 2) (j := 57) rfl) rfl)) cd_F_93 ?_
  refine cn_call (host := "AskingFragments") (d := cn_d_Run) (b := q1) (As := [.ref (ad1 g)]) hx hb hml hown htn (cn_Run l Dg A cA ad1 sh1 (N + 1) μ e_q1 (by omega) (rfl : ad1 g = ad1 g) (by omega) hs_n1 (fun a ha => hμ a (by omega))) rfl ⟨rfl, rfl⟩ (ax_in (ax_wl_at (k := 1) (j := 148) rfl) rfl) aI_Run.1 (Or.inl (hts _ (ax_in (ax_wl_at (k := 1) (j := 146) rfl) rfl))) rfl (ax_in (ax_wl_at (k := 1) (j := 147) rfl) rfl) ⟨aI_Run.2.2.1, aI_Run.2.2.2, cn_p_Run⟩ ⟨(Nat.le_of_ble_eq_true rfl), (Nat.le_of_ble_eq_true rfl)⟩ hK hW1 hS1 hA hX rfl hz (Nat.le_of_ble_eq_true rfl) cd_F_96 ⟨(show cells + 1 + 10 ≤ 206 by omega), (show slots + 18 + 2773 ≤ 39090 by omega)⟩ (fun H4 locs4 ad4 sh4 N4 hal4 hsh4 hN4 hW4 hS4 => ?_)
  subst hN4
  have e_a4 : ad4 o = a := (hal4 _ (by omega)).trans e_a1
  have e_q4 : ad4 N = q1 := (hal4 _ (by omega)).trans e_q1
  have hs_o4 : sh4 o = (0, 0, fs) := by rw [hsh4, cn_s_Run_ne (by omega) (by omega)]; exact hs_o1
  have hb4 : ∀ x, x < N → ad4 x = ad x := fun x hx => (hal4 x (by omega)).trans (by rw [had1, cn_ext (by omega)])
  refine cn_putq (ea := e_a4) (eb := e_q4) (Ts := ax_Ts) (n := 17) (T := aT_F) (C := "AskingFragments") (k := 8) hx hb hts aU_F (ty0 := cn_tF) cn_yF aN_F hown hK rfl hW4 hS4 (show o < (N + 1 + 10) by omega) hs_o4 (by decide) hfl (show N < (N + 1 + 10) by omega) (hts _ (ax_in (ax_wl_at (k := 2) (j := 62) rfl) rfl)) rfl hin rfl rfl rfl rfl cd_F_99 (fun H5 locs5 sh5 hsh5 hW5 hS5 => ?_)
  rw [hf] at hsh5
  exact kk H5 locs5 ad4 sh5 _ hb4 (by rw [hsh5, hsh4, hsh1]) rfl ⟨hW5, e_a4, by omega, by rw [hsh5]; exact cn_set_at, by rw [← hf, List.length_set]; exact hfl, fun x hx => hμ x (by omega)⟩ hS5
theorem cf_102 (B : cf_B p s m args meth c Dg A cA) (Z : cf_S Dg A cA ad sh N μ H o a fs) (hS : va_S A s.heap H locs) (h0 : ls[0]? = some (.val (.ref a))) (hz : ls.size = 2) (hf : fs.set 9 (2, N) = fs') (hc : cells + 1 ≤ 206) (hs : slots + 9 ≤ 39090)
    (kk : ∀ (H1 : Heap) (locs1 : List Loc) (ad1 : Nat → Nat) (sh1 : Nat → ax_C) (N1 : Nat), (∀ x, x < N → ad1 x = ad x) → sh1 = cx_set (cx_set sh N (5, 9, [])) o (0, 0, fs') → N1 = N + 1 → cf_S Dg A cA ad1 sh1 N1 μ H1 o a fs' → va_S A s.heap H1 locs1 → W p l e cf_R s m args below meth c H1 locs1 (cells + 1) (slots + 9) Q (F0 m 111 ls [])) : W p l e cf_R s m args below meth c H locs (cells) (slots) Q (F0 m 102 ls []) := by
  obtain ⟨hx, hb, hml, hown, htn, hin, hK, hA, hX⟩ := B
  obtain ⟨hW, ea, ho, hso, hfl, hμ⟩ := Z
  have hts : ∀ w ∈ ax_Ts, w.before args s = true := fun w hw => htn w (cn_Ts_in hw)
  refine lv_aload_n hx hb cd_F_102 rfl h0 ?_
  refine lv_bipush hx hb cd_F_103 (v := (9)) rfl ?_
  refine cn_newq (C := "AskingFragments$Run") (len := 9) hx hb hown (hts _ (ax_in (ax_wl_at (k := 1) (j := 144) rfl) rfl)) hX.2.1 5 (by decide) rfl hK hW hS hA (by decide) rfl (by decide) (show cells + 1 ≤ 206 by omega) (show slots + 9 ≤ 39090 by omega) cd_F_105 (fun q1 H1 ad1 sh1 N1 had1 hsh1 hN1 hW1 hS1 => ?_)
  subst hN1
  have e_a1 : ad1 o = a := by rw [had1, cn_ext (by omega)]; exact ea
  have e_q1 : ad1 N = q1 := by rw [had1]; exact cn_ext_at
  have hs_o1 : sh1 o = (0, 0, fs) := by rw [hsh1, cn_set_ne (by omega)]; exact hso
  refine cn_putq (ea := e_a1) (eb := e_q1) (Ts := ax_Ts) (n := 17) (T := aT_F) (C := "AskingFragments") (k := 9) hx hb hts aU_F (ty0 := cn_tF) cn_yF aN_F hown hK rfl hW1 hS1 (show o < N + 1 by omega) hs_o1 (by decide) hfl (show N < N + 1 by omega) (hts _ (ax_in (ax_wl_at (k := 2) (j := 63) rfl) rfl)) rfl hin rfl rfl rfl rfl cd_F_108 (fun H5 locs5 sh5 hsh5 hW5 hS5 => ?_)
  rw [hf] at hsh5
  exact kk H5 locs5 ad1 sh5 _ (fun x hx => by rw [had1, cn_ext (by omega)]) (by rw [hsh5, hsh1]) rfl ⟨hW5, e_a1, by omega, by rw [hsh5]; exact cn_set_at, by rw [← hf, List.length_set]; exact hfl, fun x hx => hμ x (by omega)⟩ hS5
theorem cf_113_0 (B : cf_B p s m args meth c Dg A cA) (Z : cf_S Dg A cA ad sh N μ H o a fs) (hS : va_S A s.heap H locs) (hl : lv_has ls 2 [(1, .int (0)), (0, .ref a)]) {g : Nat} (hk3 : fs[3]? = some (2, g)) (hg : g < N) {t : Nat} (hk9 : fs[9]? = some (2, t)) (ht : t < N) (hto : t ≠ o) {ts : List (Nat × Nat)} (hst : sh t = (5, 9, ts)) (htl : ts.length = 0) (hc : cells + 1 + 10 ≤ 206) (hs : slots + 18 + 2773 ≤ 39090)
    (kk : ∀ (ls1 : Array Slot), lv_has ls1 2 [(1, .int (1)), (0, .ref a)] → ∀ (H1 : Heap) (locs1 : List Loc) (ad1 : Nat → Nat) (sh1 : Nat → ax_C) (N1 : Nat), (∀ x, x < N → ad1 x = ad x) → sh1 = cx_set (cn_s_Run (cx_set sh N (0, 6, [(4, 0), (4, 0), (4, 0), (4, 0), (4, 0), (4, 0), (4, 0), (4, 0), (4, 0), (4, 0), (4, 0), (0, 0), (0, 0), (0, 0), (0, 0), (0, 0), (0, 0), (0, 0)])) (N + 1) N g) t (5, 9, ts ++ [(2, N)]) → N1 = (N + 1 + 10) → cf_S Dg A cA ad1 sh1 N1 μ H1 o a fs → sh1 t = (5, 9, ts ++ [(2, N)]) → va_S A s.heap H1 locs1 → W p l e cf_R s m args below meth c H1 locs1 (cells + 1 + 10) (slots + 18 + 2773) Q (F0 m 113 ls1 [])) : W p l e cf_R s m args below meth c H locs (cells) (slots) Q (F0 m 113 ls []) := by
  obtain ⟨hx, hb, hml, hown, htn, hin, hK, hA, hX⟩ := B
  obtain ⟨hW, ea, ho, hso, hfl, hμ⟩ := Z
  have hts : ∀ w ∈ ax_Ts, w.before args s = true := fun w hw => htn w (cn_Ts_in hw)
  have h0 : ls[0]? = some (.val (.ref a)) := lv_at hl 1 rfl
  have hz : ls.size = 2 := hl.1
  refine lv_iload_n hx hb cd_F_113 rfl (lv_at hl 0 rfl) ?_
  refine lv_aload_n hx hb cd_F_114 rfl (lv_at hl 1 rfl) ?_
  refine cn_getq (t := t) (ea := ea) (eb := rfl) (Ts := ax_Ts) (n := 17) (T := aT_F) (C := "AskingFragments") (k := 9) hx hb hts aU_F hown hK rfl hW (show o < N by omega) hso (by decide) hk9 (hts _ (ax_in (ax_wl_at (k := 2) (j := 63) rfl) rfl)) cd_F_115 ?_
  refine cn_alen (ea := (rfl : ad t = ad t)) (v := 9) hx hb hK hW (by decide : 5 = 5 ∨ 5 = 6) ht hst rfl cd_F_118 ?_
  refine lv_icmp_ge (tgt := 145) hx hb cd_F_119 rfl (fun hq => absurd hq (by decide)) (fun _ => ?_)
  refine lv_aload_n hx hb cd_F_122 rfl (lv_at hl 1 rfl) ?_
  refine cn_getq (t := t) (ea := ea) (eb := rfl) (Ts := ax_Ts) (n := 17) (T := aT_F) (C := "AskingFragments") (k := 9) hx hb hts aU_F hown hK rfl hW (show o < N by omega) hso (by decide) hk9 (hts _ (ax_in (ax_wl_at (k := 2) (j := 63) rfl) rfl)) cd_F_123 ?_
  refine lv_iload_n hx hb cd_F_126 rfl (lv_at hl 0 rfl) ?_
  refine cn_new (Ts := ax_Ts) (ci := 6) (fs := [(4, 0), (4, 0), (4, 0), (4, 0), (4, 0), (4, 0), (4, 0), (4, 0), (4, 0), (4, 0), (4, 0), (0, 0), (0, 0), (0, 0), (0, 0), (0, 0), (0, 0), (0, 0)]) hx hb hts aU_Run cn_tRun cn_yRun hown (hts _ (ax_in (ax_wl_at (k := 1) (j := 144) rfl) rfl)) (hts _ (ax_in (ax_wl_at (k := 1) (j := 145) rfl) rfl)) (hts _ aI_Run.1) hK rfl hW hS hA (cn_h0 (hμ _ (Nat.le_refl _))) (by decide) cn_fRun (show cells + 1 ≤ 206 by omega) (show slots + 18 ≤ 39090 by omega) cd_F_127 (fun q1 H1 ad1 sh1 N1 had1 hsh1 hN1 hW1 hS1 => ?_)
  subst hN1
  have e_a1 : ad1 o = a := by rw [had1, cn_ext (by omega)]; exact ea
  have e_q1 : ad1 N = q1 := by rw [had1]; exact cn_ext_at
  have hs_o1 : sh1 o = (0, 0, fs) := by rw [hsh1, cn_set_ne (by omega)]; exact hso
  have hs_n1 : sh1 N = (0, 6, [(4, 0), (4, 0), (4, 0), (4, 0), (4, 0), (4, 0), (4, 0), (4, 0), (4, 0), (4, 0), (4, 0), (0, 0), (0, 0), (0, 0), (0, 0), (0, 0), (0, 0), (0, 0)]) := by rw [hsh1]; exact cn_set_at
  refine lv_dup hx hb cd_F_130 rfl ?_
  refine lv_aload_n hx hb cd_F_131 rfl h0 ?_
  refine cn_getq (t := g) (ea := e_a1) (eb := rfl) (Ts := ax_Ts) (n := 17) (T := aT_F) (C := "AskingFragments") (k := 3) hx hb hts aU_F hown hK rfl hW1 (show o < (N + 1) by omega) hs_o1 (by decide) hk3 (hts _ (ax_in (ax_wl_at (k := 2) (j := 57) rfl) rfl)) cd_F_132 ?_
  refine cn_call (host := "AskingFragments") (d := cn_d_Run) (b := q1) (As := [.ref (ad1 g)]) hx hb hml hown htn (cn_Run l Dg A cA ad1 sh1 (N + 1) μ e_q1 (by omega) (rfl : ad1 g = ad1 g) (by omega) hs_n1 (fun a ha => hμ a (by omega))) rfl ⟨rfl, rfl⟩ (ax_in (ax_wl_at (k := 1) (j := 148) rfl) rfl) aI_Run.1 (Or.inl (hts _ (ax_in (ax_wl_at (k := 1) (j := 146) rfl) rfl))) rfl (ax_in (ax_wl_at (k := 1) (j := 147) rfl) rfl) ⟨aI_Run.2.2.1, aI_Run.2.2.2, cn_p_Run⟩ ⟨(Nat.le_of_ble_eq_true rfl), (Nat.le_of_ble_eq_true rfl)⟩ hK hW1 hS1 hA hX rfl hz (Nat.le_of_ble_eq_true rfl) cd_F_135 ⟨(show cells + 1 + 10 ≤ 206 by omega), (show slots + 18 + 2773 ≤ 39090 by omega)⟩ (fun H4 locs4 ad4 sh4 N4 hal4 hsh4 hN4 hW4 hS4 => ?_)
  subst hN4
  have e_a4 : ad4 o = a := (hal4 _ (by omega)).trans e_a1
  have e_q4 : ad4 N = q1 := (hal4 _ (by omega)).trans e_q1
  have hs_o4 : sh4 o = (0, 0, fs) := by rw [hsh4, cn_s_Run_ne (by omega) (by omega)]; exact hs_o1
  have hb4 : ∀ x, x < N → ad4 x = ad x := fun x hx => (hal4 x (by omega)).trans (by rw [had1, cn_ext (by omega)])
  have hs_t4 : sh4 t = (5, 9, ts) := by rw [hsh4, cn_s_Run_ne (by omega) (by omega), hsh1, cn_set_ne (by omega)]; exact hst
  have e_t4 : ad4 t = ad t := hb4 t ht
  have hs_n4 := hsh4 ▸ (cn_s_Run_at (sh := sh1) (N := N + 1) (o := N) (g0 := g))
  refine cn_astq (ea := e_t4) (eb := e_q4) (C := "AskingFragments$Run") (T := aT_Run) (n := 18) (ts := ts) hx hb hK hW4 hS4 (by decide : 5 = 5 ∨ 5 = 6) rfl (show t < (N + 1 + 10) by omega) hs_t4 (show N < (N + 1 + 10) by omega) hs_n4 rfl (by rw [htl]; rfl) (by decide) (by rw [htl]; exact Nat.le_of_ble_eq_true rfl) cd_F_138 (fun H5 locs5 sh5 hsh5 hW5 hS5 => ?_)
  refine lv_iinc (lv' := [(1, .int (1)), (0, .ref a)]) hx hb cd_F_139 hl (k := 0) rfl (v := 1) rfl (by decide) rfl (fun ls1 hl1 => ?_)
  refine lv_goto (tgt := 113) hx hb cd_F_142 rfl ?_
  exact kk ls1 hl1 H5 locs5 ad4 sh5 _ hb4 (by rw [hsh5, hsh4, hsh1]) rfl ⟨hW5, e_a4, by omega, by rw [hsh5, cn_set_ne (by omega)]; exact hs_o4, hfl, fun x hx => hμ x (by omega)⟩ (by rw [hsh5]; exact cn_set_at) hS5
theorem cf_113_1 (B : cf_B p s m args meth c Dg A cA) (Z : cf_S Dg A cA ad sh N μ H o a fs) (hS : va_S A s.heap H locs) (hl : lv_has ls 2 [(1, .int (1)), (0, .ref a)]) {g : Nat} (hk3 : fs[3]? = some (2, g)) (hg : g < N) {t : Nat} (hk9 : fs[9]? = some (2, t)) (ht : t < N) (hto : t ≠ o) {ts : List (Nat × Nat)} (hst : sh t = (5, 9, ts)) (htl : ts.length = 1) (hc : cells + 1 + 10 ≤ 206) (hs : slots + 18 + 2773 ≤ 39090)
    (kk : ∀ (ls1 : Array Slot), lv_has ls1 2 [(1, .int (2)), (0, .ref a)] → ∀ (H1 : Heap) (locs1 : List Loc) (ad1 : Nat → Nat) (sh1 : Nat → ax_C) (N1 : Nat), (∀ x, x < N → ad1 x = ad x) → sh1 = cx_set (cn_s_Run (cx_set sh N (0, 6, [(4, 0), (4, 0), (4, 0), (4, 0), (4, 0), (4, 0), (4, 0), (4, 0), (4, 0), (4, 0), (4, 0), (0, 0), (0, 0), (0, 0), (0, 0), (0, 0), (0, 0), (0, 0)])) (N + 1) N g) t (5, 9, ts ++ [(2, N)]) → N1 = (N + 1 + 10) → cf_S Dg A cA ad1 sh1 N1 μ H1 o a fs → sh1 t = (5, 9, ts ++ [(2, N)]) → va_S A s.heap H1 locs1 → W p l e cf_R s m args below meth c H1 locs1 (cells + 1 + 10) (slots + 18 + 2773) Q (F0 m 113 ls1 [])) : W p l e cf_R s m args below meth c H locs (cells) (slots) Q (F0 m 113 ls []) := by
  obtain ⟨hx, hb, hml, hown, htn, hin, hK, hA, hX⟩ := B
  obtain ⟨hW, ea, ho, hso, hfl, hμ⟩ := Z
  have hts : ∀ w ∈ ax_Ts, w.before args s = true := fun w hw => htn w (cn_Ts_in hw)
  have h0 : ls[0]? = some (.val (.ref a)) := lv_at hl 1 rfl
  have hz : ls.size = 2 := hl.1
  refine lv_iload_n hx hb cd_F_113 rfl (lv_at hl 0 rfl) ?_
  refine lv_aload_n hx hb cd_F_114 rfl (lv_at hl 1 rfl) ?_
  refine cn_getq (t := t) (ea := ea) (eb := rfl) (Ts := ax_Ts) (n := 17) (T := aT_F) (C := "AskingFragments") (k := 9) hx hb hts aU_F hown hK rfl hW (show o < N by omega) hso (by decide) hk9 (hts _ (ax_in (ax_wl_at (k := 2) (j := 63) rfl) rfl)) cd_F_115 ?_
  refine cn_alen (ea := (rfl : ad t = ad t)) (v := 9) hx hb hK hW (by decide : 5 = 5 ∨ 5 = 6) ht hst rfl cd_F_118 ?_
  refine lv_icmp_ge (tgt := 145) hx hb cd_F_119 rfl (fun hq => absurd hq (by decide)) (fun _ => ?_)
  refine lv_aload_n hx hb cd_F_122 rfl (lv_at hl 1 rfl) ?_
  refine cn_getq (t := t) (ea := ea) (eb := rfl) (Ts := ax_Ts) (n := 17) (T := aT_F) (C := "AskingFragments") (k := 9) hx hb hts aU_F hown hK rfl hW (show o < N by omega) hso (by decide) hk9 (hts _ (ax_in (ax_wl_at (k := 2) (j := 63) rfl) rfl)) cd_F_123 ?_
  refine lv_iload_n hx hb cd_F_126 rfl (lv_at hl 0 rfl) ?_
  refine cn_new (Ts := ax_Ts) (ci := 6) (fs := [(4, 0), (4, 0), (4, 0), (4, 0), (4, 0), (4, 0), (4, 0), (4, 0), (4, 0), (4, 0), (4, 0), (0, 0), (0, 0), (0, 0), (0, 0), (0, 0), (0, 0), (0, 0)]) hx hb hts aU_Run cn_tRun cn_yRun hown (hts _ (ax_in (ax_wl_at (k := 1) (j := 144) rfl) rfl)) (hts _ (ax_in (ax_wl_at (k := 1) (j := 145) rfl) rfl)) (hts _ aI_Run.1) hK rfl hW hS hA (cn_h0 (hμ _ (Nat.le_refl _))) (by decide) cn_fRun (show cells + 1 ≤ 206 by omega) (show slots + 18 ≤ 39090 by omega) cd_F_127 (fun q1 H1 ad1 sh1 N1 had1 hsh1 hN1 hW1 hS1 => ?_)
  subst hN1
  have e_a1 : ad1 o = a := by rw [had1, cn_ext (by omega)]; exact ea
  have e_q1 : ad1 N = q1 := by rw [had1]; exact cn_ext_at
  have hs_o1 : sh1 o = (0, 0, fs) := by rw [hsh1, cn_set_ne (by omega)]; exact hso
  have hs_n1 : sh1 N = (0, 6, [(4, 0), (4, 0), (4, 0), (4, 0), (4, 0), (4, 0), (4, 0), (4, 0), (4, 0), (4, 0), (4, 0), (0, 0), (0, 0), (0, 0), (0, 0), (0, 0), (0, 0), (0, 0)]) := by rw [hsh1]; exact cn_set_at
  refine lv_dup hx hb cd_F_130 rfl ?_
  refine lv_aload_n hx hb cd_F_131 rfl h0 ?_
  refine cn_getq (t := g) (ea := e_a1) (eb := rfl) (Ts := ax_Ts) (n := 17) (T := aT_F) (C := "AskingFragments") (k := 3) hx hb hts aU_F hown hK rfl hW1 (show o < (N + 1) by omega) hs_o1 (by decide) hk3 (hts _ (ax_in (ax_wl_at (k := 2) (j := 57) rfl) rfl)) cd_F_132 ?_
  refine cn_call (host := "AskingFragments") (d := cn_d_Run) (b := q1) (As := [.ref (ad1 g)]) hx hb hml hown htn (cn_Run l Dg A cA ad1 sh1 (N + 1) μ e_q1 (by omega) (rfl : ad1 g = ad1 g) (by omega) hs_n1 (fun a ha => hμ a (by omega))) rfl ⟨rfl, rfl⟩ (ax_in (ax_wl_at (k := 1) (j := 148) rfl) rfl) aI_Run.1 (Or.inl (hts _ (ax_in (ax_wl_at (k := 1) (j := 146) rfl) rfl))) rfl (ax_in (ax_wl_at (k := 1) (j := 147) rfl) rfl) ⟨aI_Run.2.2.1, aI_Run.2.2.2, cn_p_Run⟩ ⟨(Nat.le_of_ble_eq_true rfl), (Nat.le_of_ble_eq_true rfl)⟩ hK hW1 hS1 hA hX rfl hz (Nat.le_of_ble_eq_true rfl) cd_F_135 ⟨(show cells + 1 + 10 ≤ 206 by omega), (show slots + 18 + 2773 ≤ 39090 by omega)⟩ (fun H4 locs4 ad4 sh4 N4 hal4 hsh4 hN4 hW4 hS4 => ?_)
  subst hN4
  have e_a4 : ad4 o = a := (hal4 _ (by omega)).trans e_a1
  have e_q4 : ad4 N = q1 := (hal4 _ (by omega)).trans e_q1
  have hs_o4 : sh4 o = (0, 0, fs) := by rw [hsh4, cn_s_Run_ne (by omega) (by omega)]; exact hs_o1
  have hb4 : ∀ x, x < N → ad4 x = ad x := fun x hx => (hal4 x (by omega)).trans (by rw [had1, cn_ext (by omega)])
  have hs_t4 : sh4 t = (5, 9, ts) := by rw [hsh4, cn_s_Run_ne (by omega) (by omega), hsh1, cn_set_ne (by omega)]; exact hst
  have e_t4 : ad4 t = ad t := hb4 t ht
  have hs_n4 := hsh4 ▸ (cn_s_Run_at (sh := sh1) (N := N + 1) (o := N) (g0 := g))
  refine cn_astq (ea := e_t4) (eb := e_q4) (C := "AskingFragments$Run") (T := aT_Run) (n := 18) (ts := ts) hx hb hK hW4 hS4 (by decide : 5 = 5 ∨ 5 = 6) rfl (show t < (N + 1 + 10) by omega) hs_t4 (show N < (N + 1 + 10) by omega) hs_n4 rfl (by rw [htl]; rfl) (by decide) (by rw [htl]; exact Nat.le_of_ble_eq_true rfl) cd_F_138 (fun H5 locs5 sh5 hsh5 hW5 hS5 => ?_)
  refine lv_iinc (lv' := [(1, .int (2)), (0, .ref a)]) hx hb cd_F_139 hl (k := 0) rfl (v := 2) rfl (by decide) rfl (fun ls1 hl1 => ?_)
  refine lv_goto (tgt := 113) hx hb cd_F_142 rfl ?_
  exact kk ls1 hl1 H5 locs5 ad4 sh5 _ hb4 (by rw [hsh5, hsh4, hsh1]) rfl ⟨hW5, e_a4, by omega, by rw [hsh5, cn_set_ne (by omega)]; exact hs_o4, hfl, fun x hx => hμ x (by omega)⟩ (by rw [hsh5]; exact cn_set_at) hS5
theorem cf_113_2 (B : cf_B p s m args meth c Dg A cA) (Z : cf_S Dg A cA ad sh N μ H o a fs) (hS : va_S A s.heap H locs) (hl : lv_has ls 2 [(1, .int (2)), (0, .ref a)]) {g : Nat} (hk3 : fs[3]? = some (2, g)) (hg : g < N) {t : Nat} (hk9 : fs[9]? = some (2, t)) (ht : t < N) (hto : t ≠ o) {ts : List (Nat × Nat)} (hst : sh t = (5, 9, ts)) (htl : ts.length = 2) (hc : cells + 1 + 10 ≤ 206) (hs : slots + 18 + 2773 ≤ 39090)
    (kk : ∀ (ls1 : Array Slot), lv_has ls1 2 [(1, .int (3)), (0, .ref a)] → ∀ (H1 : Heap) (locs1 : List Loc) (ad1 : Nat → Nat) (sh1 : Nat → ax_C) (N1 : Nat), (∀ x, x < N → ad1 x = ad x) → sh1 = cx_set (cn_s_Run (cx_set sh N (0, 6, [(4, 0), (4, 0), (4, 0), (4, 0), (4, 0), (4, 0), (4, 0), (4, 0), (4, 0), (4, 0), (4, 0), (0, 0), (0, 0), (0, 0), (0, 0), (0, 0), (0, 0), (0, 0)])) (N + 1) N g) t (5, 9, ts ++ [(2, N)]) → N1 = (N + 1 + 10) → cf_S Dg A cA ad1 sh1 N1 μ H1 o a fs → sh1 t = (5, 9, ts ++ [(2, N)]) → va_S A s.heap H1 locs1 → W p l e cf_R s m args below meth c H1 locs1 (cells + 1 + 10) (slots + 18 + 2773) Q (F0 m 113 ls1 [])) : W p l e cf_R s m args below meth c H locs (cells) (slots) Q (F0 m 113 ls []) := by
  obtain ⟨hx, hb, hml, hown, htn, hin, hK, hA, hX⟩ := B
  obtain ⟨hW, ea, ho, hso, hfl, hμ⟩ := Z
  have hts : ∀ w ∈ ax_Ts, w.before args s = true := fun w hw => htn w (cn_Ts_in hw)
  have h0 : ls[0]? = some (.val (.ref a)) := lv_at hl 1 rfl
  have hz : ls.size = 2 := hl.1
  refine lv_iload_n hx hb cd_F_113 rfl (lv_at hl 0 rfl) ?_
  refine lv_aload_n hx hb cd_F_114 rfl (lv_at hl 1 rfl) ?_
  refine cn_getq (t := t) (ea := ea) (eb := rfl) (Ts := ax_Ts) (n := 17) (T := aT_F) (C := "AskingFragments") (k := 9) hx hb hts aU_F hown hK rfl hW (show o < N by omega) hso (by decide) hk9 (hts _ (ax_in (ax_wl_at (k := 2) (j := 63) rfl) rfl)) cd_F_115 ?_
  refine cn_alen (ea := (rfl : ad t = ad t)) (v := 9) hx hb hK hW (by decide : 5 = 5 ∨ 5 = 6) ht hst rfl cd_F_118 ?_
  refine lv_icmp_ge (tgt := 145) hx hb cd_F_119 rfl (fun hq => absurd hq (by decide)) (fun _ => ?_)
  refine lv_aload_n hx hb cd_F_122 rfl (lv_at hl 1 rfl) ?_
  refine cn_getq (t := t) (ea := ea) (eb := rfl) (Ts := ax_Ts) (n := 17) (T := aT_F) (C := "AskingFragments") (k := 9) hx hb hts aU_F hown hK rfl hW (show o < N by omega) hso (by decide) hk9 (hts _ (ax_in (ax_wl_at (k := 2) (j := 63) rfl) rfl)) cd_F_123 ?_
  refine lv_iload_n hx hb cd_F_126 rfl (lv_at hl 0 rfl) ?_
  refine cn_new (Ts := ax_Ts) (ci := 6) (fs := [(4, 0), (4, 0), (4, 0), (4, 0), (4, 0), (4, 0), (4, 0), (4, 0), (4, 0), (4, 0), (4, 0), (0, 0), (0, 0), (0, 0), (0, 0), (0, 0), (0, 0), (0, 0)]) hx hb hts aU_Run cn_tRun cn_yRun hown (hts _ (ax_in (ax_wl_at (k := 1) (j := 144) rfl) rfl)) (hts _ (ax_in (ax_wl_at (k := 1) (j := 145) rfl) rfl)) (hts _ aI_Run.1) hK rfl hW hS hA (cn_h0 (hμ _ (Nat.le_refl _))) (by decide) cn_fRun (show cells + 1 ≤ 206 by omega) (show slots + 18 ≤ 39090 by omega) cd_F_127 (fun q1 H1 ad1 sh1 N1 had1 hsh1 hN1 hW1 hS1 => ?_)
  subst hN1
  have e_a1 : ad1 o = a := by rw [had1, cn_ext (by omega)]; exact ea
  have e_q1 : ad1 N = q1 := by rw [had1]; exact cn_ext_at
  have hs_o1 : sh1 o = (0, 0, fs) := by rw [hsh1, cn_set_ne (by omega)]; exact hso
  have hs_n1 : sh1 N = (0, 6, [(4, 0), (4, 0), (4, 0), (4, 0), (4, 0), (4, 0), (4, 0), (4, 0), (4, 0), (4, 0), (4, 0), (0, 0), (0, 0), (0, 0), (0, 0), (0, 0), (0, 0), (0, 0)]) := by rw [hsh1]; exact cn_set_at
  refine lv_dup hx hb cd_F_130 rfl ?_
  refine lv_aload_n hx hb cd_F_131 rfl h0 ?_
  refine cn_getq (t := g) (ea := e_a1) (eb := rfl) (Ts := ax_Ts) (n := 17) (T := aT_F) (C := "AskingFragments") (k := 3) hx hb hts aU_F hown hK rfl hW1 (show o < (N + 1) by omega) hs_o1 (by decide) hk3 (hts _ (ax_in (ax_wl_at (k := 2) (j := 57) rfl) rfl)) cd_F_132 ?_
  refine cn_call (host := "AskingFragments") (d := cn_d_Run) (b := q1) (As := [.ref (ad1 g)]) hx hb hml hown htn (cn_Run l Dg A cA ad1 sh1 (N + 1) μ e_q1 (by omega) (rfl : ad1 g = ad1 g) (by omega) hs_n1 (fun a ha => hμ a (by omega))) rfl ⟨rfl, rfl⟩ (ax_in (ax_wl_at (k := 1) (j := 148) rfl) rfl) aI_Run.1 (Or.inl (hts _ (ax_in (ax_wl_at (k := 1) (j := 146) rfl) rfl))) rfl (ax_in (ax_wl_at (k := 1) (j := 147) rfl) rfl) ⟨aI_Run.2.2.1, aI_Run.2.2.2, cn_p_Run⟩ ⟨(Nat.le_of_ble_eq_true rfl), (Nat.le_of_ble_eq_true rfl)⟩ hK hW1 hS1 hA hX rfl hz (Nat.le_of_ble_eq_true rfl) cd_F_135 ⟨(show cells + 1 + 10 ≤ 206 by omega), (show slots + 18 + 2773 ≤ 39090 by omega)⟩ (fun H4 locs4 ad4 sh4 N4 hal4 hsh4 hN4 hW4 hS4 => ?_)
  subst hN4
  have e_a4 : ad4 o = a := (hal4 _ (by omega)).trans e_a1
  have e_q4 : ad4 N = q1 := (hal4 _ (by omega)).trans e_q1
  have hs_o4 : sh4 o = (0, 0, fs) := by rw [hsh4, cn_s_Run_ne (by omega) (by omega)]; exact hs_o1
  have hb4 : ∀ x, x < N → ad4 x = ad x := fun x hx => (hal4 x (by omega)).trans (by rw [had1, cn_ext (by omega)])
  have hs_t4 : sh4 t = (5, 9, ts) := by rw [hsh4, cn_s_Run_ne (by omega) (by omega), hsh1, cn_set_ne (by omega)]; exact hst
  have e_t4 : ad4 t = ad t := hb4 t ht
  have hs_n4 := hsh4 ▸ (cn_s_Run_at (sh := sh1) (N := N + 1) (o := N) (g0 := g))
  refine cn_astq (ea := e_t4) (eb := e_q4) (C := "AskingFragments$Run") (T := aT_Run) (n := 18) (ts := ts) hx hb hK hW4 hS4 (by decide : 5 = 5 ∨ 5 = 6) rfl (show t < (N + 1 + 10) by omega) hs_t4 (show N < (N + 1 + 10) by omega) hs_n4 rfl (by rw [htl]; rfl) (by decide) (by rw [htl]; exact Nat.le_of_ble_eq_true rfl) cd_F_138 (fun H5 locs5 sh5 hsh5 hW5 hS5 => ?_)
  refine lv_iinc (lv' := [(1, .int (3)), (0, .ref a)]) hx hb cd_F_139 hl (k := 0) rfl (v := 3) rfl (by decide) rfl (fun ls1 hl1 => ?_)
  refine lv_goto (tgt := 113) hx hb cd_F_142 rfl ?_
  exact kk ls1 hl1 H5 locs5 ad4 sh5 _ hb4 (by rw [hsh5, hsh4, hsh1]) rfl ⟨hW5, e_a4, by omega, by rw [hsh5, cn_set_ne (by omega)]; exact hs_o4, hfl, fun x hx => hμ x (by omega)⟩ (by rw [hsh5]; exact cn_set_at) hS5
theorem cf_113_3 (B : cf_B p s m args meth c Dg A cA) (Z : cf_S Dg A cA ad sh N μ H o a fs) (hS : va_S A s.heap H locs) (hl : lv_has ls 2 [(1, .int (3)), (0, .ref a)]) {g : Nat} (hk3 : fs[3]? = some (2, g)) (hg : g < N) {t : Nat} (hk9 : fs[9]? = some (2, t)) (ht : t < N) (hto : t ≠ o) {ts : List (Nat × Nat)} (hst : sh t = (5, 9, ts)) (htl : ts.length = 3) (hc : cells + 1 + 10 ≤ 206) (hs : slots + 18 + 2773 ≤ 39090)
    (kk : ∀ (ls1 : Array Slot), lv_has ls1 2 [(1, .int (4)), (0, .ref a)] → ∀ (H1 : Heap) (locs1 : List Loc) (ad1 : Nat → Nat) (sh1 : Nat → ax_C) (N1 : Nat), (∀ x, x < N → ad1 x = ad x) → sh1 = cx_set (cn_s_Run (cx_set sh N (0, 6, [(4, 0), (4, 0), (4, 0), (4, 0), (4, 0), (4, 0), (4, 0), (4, 0), (4, 0), (4, 0), (4, 0), (0, 0), (0, 0), (0, 0), (0, 0), (0, 0), (0, 0), (0, 0)])) (N + 1) N g) t (5, 9, ts ++ [(2, N)]) → N1 = (N + 1 + 10) → cf_S Dg A cA ad1 sh1 N1 μ H1 o a fs → sh1 t = (5, 9, ts ++ [(2, N)]) → va_S A s.heap H1 locs1 → W p l e cf_R s m args below meth c H1 locs1 (cells + 1 + 10) (slots + 18 + 2773) Q (F0 m 113 ls1 [])) : W p l e cf_R s m args below meth c H locs (cells) (slots) Q (F0 m 113 ls []) := by
  obtain ⟨hx, hb, hml, hown, htn, hin, hK, hA, hX⟩ := B
  obtain ⟨hW, ea, ho, hso, hfl, hμ⟩ := Z
  have hts : ∀ w ∈ ax_Ts, w.before args s = true := fun w hw => htn w (cn_Ts_in hw)
  have h0 : ls[0]? = some (.val (.ref a)) := lv_at hl 1 rfl
  have hz : ls.size = 2 := hl.1
  refine lv_iload_n hx hb cd_F_113 rfl (lv_at hl 0 rfl) ?_
  refine lv_aload_n hx hb cd_F_114 rfl (lv_at hl 1 rfl) ?_
  refine cn_getq (t := t) (ea := ea) (eb := rfl) (Ts := ax_Ts) (n := 17) (T := aT_F) (C := "AskingFragments") (k := 9) hx hb hts aU_F hown hK rfl hW (show o < N by omega) hso (by decide) hk9 (hts _ (ax_in (ax_wl_at (k := 2) (j := 63) rfl) rfl)) cd_F_115 ?_
  refine cn_alen (ea := (rfl : ad t = ad t)) (v := 9) hx hb hK hW (by decide : 5 = 5 ∨ 5 = 6) ht hst rfl cd_F_118 ?_
  refine lv_icmp_ge (tgt := 145) hx hb cd_F_119 rfl (fun hq => absurd hq (by decide)) (fun _ => ?_)
  refine lv_aload_n hx hb cd_F_122 rfl (lv_at hl 1 rfl) ?_
  refine cn_getq (t := t) (ea := ea) (eb := rfl) (Ts := ax_Ts) (n := 17) (T := aT_F) (C := "AskingFragments") (k := 9) hx hb hts aU_F hown hK rfl hW (show o < N by omega) hso (by decide) hk9 (hts _ (ax_in (ax_wl_at (k := 2) (j := 63) rfl) rfl)) cd_F_123 ?_
  refine lv_iload_n hx hb cd_F_126 rfl (lv_at hl 0 rfl) ?_
  refine cn_new (Ts := ax_Ts) (ci := 6) (fs := [(4, 0), (4, 0), (4, 0), (4, 0), (4, 0), (4, 0), (4, 0), (4, 0), (4, 0), (4, 0), (4, 0), (0, 0), (0, 0), (0, 0), (0, 0), (0, 0), (0, 0), (0, 0)]) hx hb hts aU_Run cn_tRun cn_yRun hown (hts _ (ax_in (ax_wl_at (k := 1) (j := 144) rfl) rfl)) (hts _ (ax_in (ax_wl_at (k := 1) (j := 145) rfl) rfl)) (hts _ aI_Run.1) hK rfl hW hS hA (cn_h0 (hμ _ (Nat.le_refl _))) (by decide) cn_fRun (show cells + 1 ≤ 206 by omega) (show slots + 18 ≤ 39090 by omega) cd_F_127 (fun q1 H1 ad1 sh1 N1 had1 hsh1 hN1 hW1 hS1 => ?_)
  subst hN1
  have e_a1 : ad1 o = a := by rw [had1, cn_ext (by omega)]; exact ea
  have e_q1 : ad1 N = q1 := by rw [had1]; exact cn_ext_at
  have hs_o1 : sh1 o = (0, 0, fs) := by rw [hsh1, cn_set_ne (by omega)]; exact hso
  have hs_n1 : sh1 N = (0, 6, [(4, 0), (4, 0), (4, 0), (4, 0), (4, 0), (4, 0), (4, 0), (4, 0), (4, 0), (4, 0), (4, 0), (0, 0), (0, 0), (0, 0), (0, 0), (0, 0), (0, 0), (0, 0)]) := by rw [hsh1]; exact cn_set_at
  refine lv_dup hx hb cd_F_130 rfl ?_
  refine lv_aload_n hx hb cd_F_131 rfl h0 ?_
  refine cn_getq (t := g) (ea := e_a1) (eb := rfl) (Ts := ax_Ts) (n := 17) (T := aT_F) (C := "AskingFragments") (k := 3) hx hb hts aU_F hown hK rfl hW1 (show o < (N + 1) by omega) hs_o1 (by decide) hk3 (hts _ (ax_in (ax_wl_at (k := 2) (j := 57) rfl) rfl)) cd_F_132 ?_
  refine cn_call (host := "AskingFragments") (d := cn_d_Run) (b := q1) (As := [.ref (ad1 g)]) hx hb hml hown htn (cn_Run l Dg A cA ad1 sh1 (N + 1) μ e_q1 (by omega) (rfl : ad1 g = ad1 g) (by omega) hs_n1 (fun a ha => hμ a (by omega))) rfl ⟨rfl, rfl⟩ (ax_in (ax_wl_at (k := 1) (j := 148) rfl) rfl) aI_Run.1 (Or.inl (hts _ (ax_in (ax_wl_at (k := 1) (j := 146) rfl) rfl))) rfl (ax_in (ax_wl_at (k := 1) (j := 147) rfl) rfl) ⟨aI_Run.2.2.1, aI_Run.2.2.2, cn_p_Run⟩ ⟨(Nat.le_of_ble_eq_true rfl), (Nat.le_of_ble_eq_true rfl)⟩ hK hW1 hS1 hA hX rfl hz (Nat.le_of_ble_eq_true rfl) cd_F_135 ⟨(show cells + 1 + 10 ≤ 206 by omega), (show slots + 18 + 2773 ≤ 39090 by omega)⟩ (fun H4 locs4 ad4 sh4 N4 hal4 hsh4 hN4 hW4 hS4 => ?_)
  subst hN4
  have e_a4 : ad4 o = a := (hal4 _ (by omega)).trans e_a1
  have e_q4 : ad4 N = q1 := (hal4 _ (by omega)).trans e_q1
  have hs_o4 : sh4 o = (0, 0, fs) := by rw [hsh4, cn_s_Run_ne (by omega) (by omega)]; exact hs_o1
  have hb4 : ∀ x, x < N → ad4 x = ad x := fun x hx => (hal4 x (by omega)).trans (by rw [had1, cn_ext (by omega)])
  have hs_t4 : sh4 t = (5, 9, ts) := by rw [hsh4, cn_s_Run_ne (by omega) (by omega), hsh1, cn_set_ne (by omega)]; exact hst
  have e_t4 : ad4 t = ad t := hb4 t ht
  have hs_n4 := hsh4 ▸ (cn_s_Run_at (sh := sh1) (N := N + 1) (o := N) (g0 := g))
  refine cn_astq (ea := e_t4) (eb := e_q4) (C := "AskingFragments$Run") (T := aT_Run) (n := 18) (ts := ts) hx hb hK hW4 hS4 (by decide : 5 = 5 ∨ 5 = 6) rfl (show t < (N + 1 + 10) by omega) hs_t4 (show N < (N + 1 + 10) by omega) hs_n4 rfl (by rw [htl]; rfl) (by decide) (by rw [htl]; exact Nat.le_of_ble_eq_true rfl) cd_F_138 (fun H5 locs5 sh5 hsh5 hW5 hS5 => ?_)
  refine lv_iinc (lv' := [(1, .int (4)), (0, .ref a)]) hx hb cd_F_139 hl (k := 0) rfl (v := 4) rfl (by decide) rfl (fun ls1 hl1 => ?_)
  refine lv_goto (tgt := 113) hx hb cd_F_142 rfl ?_
  exact kk ls1 hl1 H5 locs5 ad4 sh5 _ hb4 (by rw [hsh5, hsh4, hsh1]) rfl ⟨hW5, e_a4, by omega, by rw [hsh5, cn_set_ne (by omega)]; exact hs_o4, hfl, fun x hx => hμ x (by omega)⟩ (by rw [hsh5]; exact cn_set_at) hS5
theorem cf_113_4 (B : cf_B p s m args meth c Dg A cA) (Z : cf_S Dg A cA ad sh N μ H o a fs) (hS : va_S A s.heap H locs) (hl : lv_has ls 2 [(1, .int (4)), (0, .ref a)]) {g : Nat} (hk3 : fs[3]? = some (2, g)) (hg : g < N) {t : Nat} (hk9 : fs[9]? = some (2, t)) (ht : t < N) (hto : t ≠ o) {ts : List (Nat × Nat)} (hst : sh t = (5, 9, ts)) (htl : ts.length = 4) (hc : cells + 1 + 10 ≤ 206) (hs : slots + 18 + 2773 ≤ 39090)
    (kk : ∀ (ls1 : Array Slot), lv_has ls1 2 [(1, .int (5)), (0, .ref a)] → ∀ (H1 : Heap) (locs1 : List Loc) (ad1 : Nat → Nat) (sh1 : Nat → ax_C) (N1 : Nat), (∀ x, x < N → ad1 x = ad x) → sh1 = cx_set (cn_s_Run (cx_set sh N (0, 6, [(4, 0), (4, 0), (4, 0), (4, 0), (4, 0), (4, 0), (4, 0), (4, 0), (4, 0), (4, 0), (4, 0), (0, 0), (0, 0), (0, 0), (0, 0), (0, 0), (0, 0), (0, 0)])) (N + 1) N g) t (5, 9, ts ++ [(2, N)]) → N1 = (N + 1 + 10) → cf_S Dg A cA ad1 sh1 N1 μ H1 o a fs → sh1 t = (5, 9, ts ++ [(2, N)]) → va_S A s.heap H1 locs1 → W p l e cf_R s m args below meth c H1 locs1 (cells + 1 + 10) (slots + 18 + 2773) Q (F0 m 113 ls1 [])) : W p l e cf_R s m args below meth c H locs (cells) (slots) Q (F0 m 113 ls []) := by
  obtain ⟨hx, hb, hml, hown, htn, hin, hK, hA, hX⟩ := B
  obtain ⟨hW, ea, ho, hso, hfl, hμ⟩ := Z
  have hts : ∀ w ∈ ax_Ts, w.before args s = true := fun w hw => htn w (cn_Ts_in hw)
  have h0 : ls[0]? = some (.val (.ref a)) := lv_at hl 1 rfl
  have hz : ls.size = 2 := hl.1
  refine lv_iload_n hx hb cd_F_113 rfl (lv_at hl 0 rfl) ?_
  refine lv_aload_n hx hb cd_F_114 rfl (lv_at hl 1 rfl) ?_
  refine cn_getq (t := t) (ea := ea) (eb := rfl) (Ts := ax_Ts) (n := 17) (T := aT_F) (C := "AskingFragments") (k := 9) hx hb hts aU_F hown hK rfl hW (show o < N by omega) hso (by decide) hk9 (hts _ (ax_in (ax_wl_at (k := 2) (j := 63) rfl) rfl)) cd_F_115 ?_
  refine cn_alen (ea := (rfl : ad t = ad t)) (v := 9) hx hb hK hW (by decide : 5 = 5 ∨ 5 = 6) ht hst rfl cd_F_118 ?_
  refine lv_icmp_ge (tgt := 145) hx hb cd_F_119 rfl (fun hq => absurd hq (by decide)) (fun _ => ?_)
  refine lv_aload_n hx hb cd_F_122 rfl (lv_at hl 1 rfl) ?_
  refine cn_getq (t := t) (ea := ea) (eb := rfl) (Ts := ax_Ts) (n := 17) (T := aT_F) (C := "AskingFragments") (k := 9) hx hb hts aU_F hown hK rfl hW (show o < N by omega) hso (by decide) hk9 (hts _ (ax_in (ax_wl_at (k := 2) (j := 63) rfl) rfl)) cd_F_123 ?_
  refine lv_iload_n hx hb cd_F_126 rfl (lv_at hl 0 rfl) ?_
  refine cn_new (Ts := ax_Ts) (ci := 6) (fs := [(4, 0), (4, 0), (4, 0), (4, 0), (4, 0), (4, 0), (4, 0), (4, 0), (4, 0), (4, 0), (4, 0), (0, 0), (0, 0), (0, 0), (0, 0), (0, 0), (0, 0), (0, 0)]) hx hb hts aU_Run cn_tRun cn_yRun hown (hts _ (ax_in (ax_wl_at (k := 1) (j := 144) rfl) rfl)) (hts _ (ax_in (ax_wl_at (k := 1) (j := 145) rfl) rfl)) (hts _ aI_Run.1) hK rfl hW hS hA (cn_h0 (hμ _ (Nat.le_refl _))) (by decide) cn_fRun (show cells + 1 ≤ 206 by omega) (show slots + 18 ≤ 39090 by omega) cd_F_127 (fun q1 H1 ad1 sh1 N1 had1 hsh1 hN1 hW1 hS1 => ?_)
  subst hN1
  have e_a1 : ad1 o = a := by rw [had1, cn_ext (by omega)]; exact ea
  have e_q1 : ad1 N = q1 := by rw [had1]; exact cn_ext_at
  have hs_o1 : sh1 o = (0, 0, fs) := by rw [hsh1, cn_set_ne (by omega)]; exact hso
  have hs_n1 : sh1 N = (0, 6, [(4, 0), (4, 0), (4, 0), (4, 0), (4, 0), (4, 0), (4, 0), (4, 0), (4, 0), (4, 0), (4, 0), (0, 0), (0, 0), (0, 0), (0, 0), (0, 0), (0, 0), (0, 0)]) := by rw [hsh1]; exact cn_set_at
  refine lv_dup hx hb cd_F_130 rfl ?_
  refine lv_aload_n hx hb cd_F_131 rfl h0 ?_
  refine cn_getq (t := g) (ea := e_a1) (eb := rfl) (Ts := ax_Ts) (n := 17) (T := aT_F) (C := "AskingFragments") (k := 3) hx hb hts aU_F hown hK rfl hW1 (show o < (N + 1) by omega) hs_o1 (by decide) hk3 (hts _ (ax_in (ax_wl_at (k := 2) (j := 57) rfl) rfl)) cd_F_132 ?_
  refine cn_call (host := "AskingFragments") (d := cn_d_Run) (b := q1) (As := [.ref (ad1 g)]) hx hb hml hown htn (cn_Run l Dg A cA ad1 sh1 (N + 1) μ e_q1 (by omega) (rfl : ad1 g = ad1 g) (by omega) hs_n1 (fun a ha => hμ a (by omega))) rfl ⟨rfl, rfl⟩ (ax_in (ax_wl_at (k := 1) (j := 148) rfl) rfl) aI_Run.1 (Or.inl (hts _ (ax_in (ax_wl_at (k := 1) (j := 146) rfl) rfl))) rfl (ax_in (ax_wl_at (k := 1) (j := 147) rfl) rfl) ⟨aI_Run.2.2.1, aI_Run.2.2.2, cn_p_Run⟩ ⟨(Nat.le_of_ble_eq_true rfl), (Nat.le_of_ble_eq_true rfl)⟩ hK hW1 hS1 hA hX rfl hz (Nat.le_of_ble_eq_true rfl) cd_F_135 ⟨(show cells + 1 + 10 ≤ 206 by omega), (show slots + 18 + 2773 ≤ 39090 by omega)⟩ (fun H4 locs4 ad4 sh4 N4 hal4 hsh4 hN4 hW4 hS4 => ?_)
  subst hN4
  have e_a4 : ad4 o = a := (hal4 _ (by omega)).trans e_a1
  have e_q4 : ad4 N = q1 := (hal4 _ (by omega)).trans e_q1
  have hs_o4 : sh4 o = (0, 0, fs) := by rw [hsh4, cn_s_Run_ne (by omega) (by omega)]; exact hs_o1
  have hb4 : ∀ x, x < N → ad4 x = ad x := fun x hx => (hal4 x (by omega)).trans (by rw [had1, cn_ext (by omega)])
  have hs_t4 : sh4 t = (5, 9, ts) := by rw [hsh4, cn_s_Run_ne (by omega) (by omega), hsh1, cn_set_ne (by omega)]; exact hst
  have e_t4 : ad4 t = ad t := hb4 t ht
  have hs_n4 := hsh4 ▸ (cn_s_Run_at (sh := sh1) (N := N + 1) (o := N) (g0 := g))
  refine cn_astq (ea := e_t4) (eb := e_q4) (C := "AskingFragments$Run") (T := aT_Run) (n := 18) (ts := ts) hx hb hK hW4 hS4 (by decide : 5 = 5 ∨ 5 = 6) rfl (show t < (N + 1 + 10) by omega) hs_t4 (show N < (N + 1 + 10) by omega) hs_n4 rfl (by rw [htl]; rfl) (by decide) (by rw [htl]; exact Nat.le_of_ble_eq_true rfl) cd_F_138 (fun H5 locs5 sh5 hsh5 hW5 hS5 => ?_)
  refine lv_iinc (lv' := [(1, .int (5)), (0, .ref a)]) hx hb cd_F_139 hl (k := 0) rfl (v := 5) rfl (by decide) rfl (fun ls1 hl1 => ?_)
  refine lv_goto (tgt := 113) hx hb cd_F_142 rfl ?_
  exact kk ls1 hl1 H5 locs5 ad4 sh5 _ hb4 (by rw [hsh5, hsh4, hsh1]) rfl ⟨hW5, e_a4, by omega, by rw [hsh5, cn_set_ne (by omega)]; exact hs_o4, hfl, fun x hx => hμ x (by omega)⟩ (by rw [hsh5]; exact cn_set_at) hS5
theorem cf_113_5 (B : cf_B p s m args meth c Dg A cA) (Z : cf_S Dg A cA ad sh N μ H o a fs) (hS : va_S A s.heap H locs) (hl : lv_has ls 2 [(1, .int (5)), (0, .ref a)]) {g : Nat} (hk3 : fs[3]? = some (2, g)) (hg : g < N) {t : Nat} (hk9 : fs[9]? = some (2, t)) (ht : t < N) (hto : t ≠ o) {ts : List (Nat × Nat)} (hst : sh t = (5, 9, ts)) (htl : ts.length = 5) (hc : cells + 1 + 10 ≤ 206) (hs : slots + 18 + 2773 ≤ 39090)
    (kk : ∀ (ls1 : Array Slot), lv_has ls1 2 [(1, .int (6)), (0, .ref a)] → ∀ (H1 : Heap) (locs1 : List Loc) (ad1 : Nat → Nat) (sh1 : Nat → ax_C) (N1 : Nat), (∀ x, x < N → ad1 x = ad x) → sh1 = cx_set (cn_s_Run (cx_set sh N (0, 6, [(4, 0), (4, 0), (4, 0), (4, 0), (4, 0), (4, 0), (4, 0), (4, 0), (4, 0), (4, 0), (4, 0), (0, 0), (0, 0), (0, 0), (0, 0), (0, 0), (0, 0), (0, 0)])) (N + 1) N g) t (5, 9, ts ++ [(2, N)]) → N1 = (N + 1 + 10) → cf_S Dg A cA ad1 sh1 N1 μ H1 o a fs → sh1 t = (5, 9, ts ++ [(2, N)]) → va_S A s.heap H1 locs1 → W p l e cf_R s m args below meth c H1 locs1 (cells + 1 + 10) (slots + 18 + 2773) Q (F0 m 113 ls1 [])) : W p l e cf_R s m args below meth c H locs (cells) (slots) Q (F0 m 113 ls []) := by
  obtain ⟨hx, hb, hml, hown, htn, hin, hK, hA, hX⟩ := B
  obtain ⟨hW, ea, ho, hso, hfl, hμ⟩ := Z
  have hts : ∀ w ∈ ax_Ts, w.before args s = true := fun w hw => htn w (cn_Ts_in hw)
  have h0 : ls[0]? = some (.val (.ref a)) := lv_at hl 1 rfl
  have hz : ls.size = 2 := hl.1
  refine lv_iload_n hx hb cd_F_113 rfl (lv_at hl 0 rfl) ?_
  refine lv_aload_n hx hb cd_F_114 rfl (lv_at hl 1 rfl) ?_
  refine cn_getq (t := t) (ea := ea) (eb := rfl) (Ts := ax_Ts) (n := 17) (T := aT_F) (C := "AskingFragments") (k := 9) hx hb hts aU_F hown hK rfl hW (show o < N by omega) hso (by decide) hk9 (hts _ (ax_in (ax_wl_at (k := 2) (j := 63) rfl) rfl)) cd_F_115 ?_
  refine cn_alen (ea := (rfl : ad t = ad t)) (v := 9) hx hb hK hW (by decide : 5 = 5 ∨ 5 = 6) ht hst rfl cd_F_118 ?_
  refine lv_icmp_ge (tgt := 145) hx hb cd_F_119 rfl (fun hq => absurd hq (by decide)) (fun _ => ?_)
  refine lv_aload_n hx hb cd_F_122 rfl (lv_at hl 1 rfl) ?_
  refine cn_getq (t := t) (ea := ea) (eb := rfl) (Ts := ax_Ts) (n := 17) (T := aT_F) (C := "AskingFragments") (k := 9) hx hb hts aU_F hown hK rfl hW (show o < N by omega) hso (by decide) hk9 (hts _ (ax_in (ax_wl_at (k := 2) (j := 63) rfl) rfl)) cd_F_123 ?_
  refine lv_iload_n hx hb cd_F_126 rfl (lv_at hl 0 rfl) ?_
  refine cn_new (Ts := ax_Ts) (ci := 6) (fs := [(4, 0), (4, 0), (4, 0), (4, 0), (4, 0), (4, 0), (4, 0), (4, 0), (4, 0), (4, 0), (4, 0), (0, 0), (0, 0), (0, 0), (0, 0), (0, 0), (0, 0), (0, 0)]) hx hb hts aU_Run cn_tRun cn_yRun hown (hts _ (ax_in (ax_wl_at (k := 1) (j := 144) rfl) rfl)) (hts _ (ax_in (ax_wl_at (k := 1) (j := 145) rfl) rfl)) (hts _ aI_Run.1) hK rfl hW hS hA (cn_h0 (hμ _ (Nat.le_refl _))) (by decide) cn_fRun (show cells + 1 ≤ 206 by omega) (show slots + 18 ≤ 39090 by omega) cd_F_127 (fun q1 H1 ad1 sh1 N1 had1 hsh1 hN1 hW1 hS1 => ?_)
  subst hN1
  have e_a1 : ad1 o = a := by rw [had1, cn_ext (by omega)]; exact ea
  have e_q1 : ad1 N = q1 := by rw [had1]; exact cn_ext_at
  have hs_o1 : sh1 o = (0, 0, fs) := by rw [hsh1, cn_set_ne (by omega)]; exact hso
  have hs_n1 : sh1 N = (0, 6, [(4, 0), (4, 0), (4, 0), (4, 0), (4, 0), (4, 0), (4, 0), (4, 0), (4, 0), (4, 0), (4, 0), (0, 0), (0, 0), (0, 0), (0, 0), (0, 0), (0, 0), (0, 0)]) := by rw [hsh1]; exact cn_set_at
  refine lv_dup hx hb cd_F_130 rfl ?_
  refine lv_aload_n hx hb cd_F_131 rfl h0 ?_
  refine cn_getq (t := g) (ea := e_a1) (eb := rfl) (Ts := ax_Ts) (n := 17) (T := aT_F) (C := "AskingFragments") (k := 3) hx hb hts aU_F hown hK rfl hW1 (show o < (N + 1) by omega) hs_o1 (by decide) hk3 (hts _ (ax_in (ax_wl_at (k := 2) (j := 57) rfl) rfl)) cd_F_132 ?_
  refine cn_call (host := "AskingFragments") (d := cn_d_Run) (b := q1) (As := [.ref (ad1 g)]) hx hb hml hown htn (cn_Run l Dg A cA ad1 sh1 (N + 1) μ e_q1 (by omega) (rfl : ad1 g = ad1 g) (by omega) hs_n1 (fun a ha => hμ a (by omega))) rfl ⟨rfl, rfl⟩ (ax_in (ax_wl_at (k := 1) (j := 148) rfl) rfl) aI_Run.1 (Or.inl (hts _ (ax_in (ax_wl_at (k := 1) (j := 146) rfl) rfl))) rfl (ax_in (ax_wl_at (k := 1) (j := 147) rfl) rfl) ⟨aI_Run.2.2.1, aI_Run.2.2.2, cn_p_Run⟩ ⟨(Nat.le_of_ble_eq_true rfl), (Nat.le_of_ble_eq_true rfl)⟩ hK hW1 hS1 hA hX rfl hz (Nat.le_of_ble_eq_true rfl) cd_F_135 ⟨(show cells + 1 + 10 ≤ 206 by omega), (show slots + 18 + 2773 ≤ 39090 by omega)⟩ (fun H4 locs4 ad4 sh4 N4 hal4 hsh4 hN4 hW4 hS4 => ?_)
  subst hN4
  have e_a4 : ad4 o = a := (hal4 _ (by omega)).trans e_a1
  have e_q4 : ad4 N = q1 := (hal4 _ (by omega)).trans e_q1
  have hs_o4 : sh4 o = (0, 0, fs) := by rw [hsh4, cn_s_Run_ne (by omega) (by omega)]; exact hs_o1
  have hb4 : ∀ x, x < N → ad4 x = ad x := fun x hx => (hal4 x (by omega)).trans (by rw [had1, cn_ext (by omega)])
  have hs_t4 : sh4 t = (5, 9, ts) := by rw [hsh4, cn_s_Run_ne (by omega) (by omega), hsh1, cn_set_ne (by omega)]; exact hst
  have e_t4 : ad4 t = ad t := hb4 t ht
  have hs_n4 := hsh4 ▸ (cn_s_Run_at (sh := sh1) (N := N + 1) (o := N) (g0 := g))
  refine cn_astq (ea := e_t4) (eb := e_q4) (C := "AskingFragments$Run") (T := aT_Run) (n := 18) (ts := ts) hx hb hK hW4 hS4 (by decide : 5 = 5 ∨ 5 = 6) rfl (show t < (N + 1 + 10) by omega) hs_t4 (show N < (N + 1 + 10) by omega) hs_n4 rfl (by rw [htl]; rfl) (by decide) (by rw [htl]; exact Nat.le_of_ble_eq_true rfl) cd_F_138 (fun H5 locs5 sh5 hsh5 hW5 hS5 => ?_)
  refine lv_iinc (lv' := [(1, .int (6)), (0, .ref a)]) hx hb cd_F_139 hl (k := 0) rfl (v := 6) rfl (by decide) rfl (fun ls1 hl1 => ?_)
  refine lv_goto (tgt := 113) hx hb cd_F_142 rfl ?_
  exact kk ls1 hl1 H5 locs5 ad4 sh5 _ hb4 (by rw [hsh5, hsh4, hsh1]) rfl ⟨hW5, e_a4, by omega, by rw [hsh5, cn_set_ne (by omega)]; exact hs_o4, hfl, fun x hx => hμ x (by omega)⟩ (by rw [hsh5]; exact cn_set_at) hS5
theorem cf_113_6 (B : cf_B p s m args meth c Dg A cA) (Z : cf_S Dg A cA ad sh N μ H o a fs) (hS : va_S A s.heap H locs) (hl : lv_has ls 2 [(1, .int (6)), (0, .ref a)]) {g : Nat} (hk3 : fs[3]? = some (2, g)) (hg : g < N) {t : Nat} (hk9 : fs[9]? = some (2, t)) (ht : t < N) (hto : t ≠ o) {ts : List (Nat × Nat)} (hst : sh t = (5, 9, ts)) (htl : ts.length = 6) (hc : cells + 1 + 10 ≤ 206) (hs : slots + 18 + 2773 ≤ 39090)
    (kk : ∀ (ls1 : Array Slot), lv_has ls1 2 [(1, .int (7)), (0, .ref a)] → ∀ (H1 : Heap) (locs1 : List Loc) (ad1 : Nat → Nat) (sh1 : Nat → ax_C) (N1 : Nat), (∀ x, x < N → ad1 x = ad x) → sh1 = cx_set (cn_s_Run (cx_set sh N (0, 6, [(4, 0), (4, 0), (4, 0), (4, 0), (4, 0), (4, 0), (4, 0), (4, 0), (4, 0), (4, 0), (4, 0), (0, 0), (0, 0), (0, 0), (0, 0), (0, 0), (0, 0), (0, 0)])) (N + 1) N g) t (5, 9, ts ++ [(2, N)]) → N1 = (N + 1 + 10) → cf_S Dg A cA ad1 sh1 N1 μ H1 o a fs → sh1 t = (5, 9, ts ++ [(2, N)]) → va_S A s.heap H1 locs1 → W p l e cf_R s m args below meth c H1 locs1 (cells + 1 + 10) (slots + 18 + 2773) Q (F0 m 113 ls1 [])) : W p l e cf_R s m args below meth c H locs (cells) (slots) Q (F0 m 113 ls []) := by
  obtain ⟨hx, hb, hml, hown, htn, hin, hK, hA, hX⟩ := B
  obtain ⟨hW, ea, ho, hso, hfl, hμ⟩ := Z
  have hts : ∀ w ∈ ax_Ts, w.before args s = true := fun w hw => htn w (cn_Ts_in hw)
  have h0 : ls[0]? = some (.val (.ref a)) := lv_at hl 1 rfl
  have hz : ls.size = 2 := hl.1
  refine lv_iload_n hx hb cd_F_113 rfl (lv_at hl 0 rfl) ?_
  refine lv_aload_n hx hb cd_F_114 rfl (lv_at hl 1 rfl) ?_
  refine cn_getq (t := t) (ea := ea) (eb := rfl) (Ts := ax_Ts) (n := 17) (T := aT_F) (C := "AskingFragments") (k := 9) hx hb hts aU_F hown hK rfl hW (show o < N by omega) hso (by decide) hk9 (hts _ (ax_in (ax_wl_at (k := 2) (j := 63) rfl) rfl)) cd_F_115 ?_
  refine cn_alen (ea := (rfl : ad t = ad t)) (v := 9) hx hb hK hW (by decide : 5 = 5 ∨ 5 = 6) ht hst rfl cd_F_118 ?_
  refine lv_icmp_ge (tgt := 145) hx hb cd_F_119 rfl (fun hq => absurd hq (by decide)) (fun _ => ?_)
  refine lv_aload_n hx hb cd_F_122 rfl (lv_at hl 1 rfl) ?_
  refine cn_getq (t := t) (ea := ea) (eb := rfl) (Ts := ax_Ts) (n := 17) (T := aT_F) (C := "AskingFragments") (k := 9) hx hb hts aU_F hown hK rfl hW (show o < N by omega) hso (by decide) hk9 (hts _ (ax_in (ax_wl_at (k := 2) (j := 63) rfl) rfl)) cd_F_123 ?_
  refine lv_iload_n hx hb cd_F_126 rfl (lv_at hl 0 rfl) ?_
  refine cn_new (Ts := ax_Ts) (ci := 6) (fs := [(4, 0), (4, 0), (4, 0), (4, 0), (4, 0), (4, 0), (4, 0), (4, 0), (4, 0), (4, 0), (4, 0), (0, 0), (0, 0), (0, 0), (0, 0), (0, 0), (0, 0), (0, 0)]) hx hb hts aU_Run cn_tRun cn_yRun hown (hts _ (ax_in (ax_wl_at (k := 1) (j := 144) rfl) rfl)) (hts _ (ax_in (ax_wl_at (k := 1) (j := 145) rfl) rfl)) (hts _ aI_Run.1) hK rfl hW hS hA (cn_h0 (hμ _ (Nat.le_refl _))) (by decide) cn_fRun (show cells + 1 ≤ 206 by omega) (show slots + 18 ≤ 39090 by omega) cd_F_127 (fun q1 H1 ad1 sh1 N1 had1 hsh1 hN1 hW1 hS1 => ?_)
  subst hN1
  have e_a1 : ad1 o = a := by rw [had1, cn_ext (by omega)]; exact ea
  have e_q1 : ad1 N = q1 := by rw [had1]; exact cn_ext_at
  have hs_o1 : sh1 o = (0, 0, fs) := by rw [hsh1, cn_set_ne (by omega)]; exact hso
  have hs_n1 : sh1 N = (0, 6, [(4, 0), (4, 0), (4, 0), (4, 0), (4, 0), (4, 0), (4, 0), (4, 0), (4, 0), (4, 0), (4, 0), (0, 0), (0, 0), (0, 0), (0, 0), (0, 0), (0, 0), (0, 0)]) := by rw [hsh1]; exact cn_set_at
  refine lv_dup hx hb cd_F_130 rfl ?_
  refine lv_aload_n hx hb cd_F_131 rfl h0 ?_
  refine cn_getq (t := g) (ea := e_a1) (eb := rfl) (Ts := ax_Ts) (n := 17) (T := aT_F) (C := "AskingFragments") (k := 3) hx hb hts aU_F hown hK rfl hW1 (show o < (N + 1) by omega) hs_o1 (by decide) hk3 (hts _ (ax_in (ax_wl_at (k := 2) (j := 57) rfl) rfl)) cd_F_132 ?_
  refine cn_call (host := "AskingFragments") (d := cn_d_Run) (b := q1) (As := [.ref (ad1 g)]) hx hb hml hown htn (cn_Run l Dg A cA ad1 sh1 (N + 1) μ e_q1 (by omega) (rfl : ad1 g = ad1 g) (by omega) hs_n1 (fun a ha => hμ a (by omega))) rfl ⟨rfl, rfl⟩ (ax_in (ax_wl_at (k := 1) (j := 148) rfl) rfl) aI_Run.1 (Or.inl (hts _ (ax_in (ax_wl_at (k := 1) (j := 146) rfl) rfl))) rfl (ax_in (ax_wl_at (k := 1) (j := 147) rfl) rfl) ⟨aI_Run.2.2.1, aI_Run.2.2.2, cn_p_Run⟩ ⟨(Nat.le_of_ble_eq_true rfl), (Nat.le_of_ble_eq_true rfl)⟩ hK hW1 hS1 hA hX rfl hz (Nat.le_of_ble_eq_true rfl) cd_F_135 ⟨(show cells + 1 + 10 ≤ 206 by omega), (show slots + 18 + 2773 ≤ 39090 by omega)⟩ (fun H4 locs4 ad4 sh4 N4 hal4 hsh4 hN4 hW4 hS4 => ?_)
  subst hN4
  have e_a4 : ad4 o = a := (hal4 _ (by omega)).trans e_a1
  have e_q4 : ad4 N = q1 := (hal4 _ (by omega)).trans e_q1
  have hs_o4 : sh4 o = (0, 0, fs) := by rw [hsh4, cn_s_Run_ne (by omega) (by omega)]; exact hs_o1
  have hb4 : ∀ x, x < N → ad4 x = ad x := fun x hx => (hal4 x (by omega)).trans (by rw [had1, cn_ext (by omega)])
  have hs_t4 : sh4 t = (5, 9, ts) := by rw [hsh4, cn_s_Run_ne (by omega) (by omega), hsh1, cn_set_ne (by omega)]; exact hst
  have e_t4 : ad4 t = ad t := hb4 t ht
  have hs_n4 := hsh4 ▸ (cn_s_Run_at (sh := sh1) (N := N + 1) (o := N) (g0 := g))
  refine cn_astq (ea := e_t4) (eb := e_q4) (C := "AskingFragments$Run") (T := aT_Run) (n := 18) (ts := ts) hx hb hK hW4 hS4 (by decide : 5 = 5 ∨ 5 = 6) rfl (show t < (N + 1 + 10) by omega) hs_t4 (show N < (N + 1 + 10) by omega) hs_n4 rfl (by rw [htl]; rfl) (by decide) (by rw [htl]; exact Nat.le_of_ble_eq_true rfl) cd_F_138 (fun H5 locs5 sh5 hsh5 hW5 hS5 => ?_)
  refine lv_iinc (lv' := [(1, .int (7)), (0, .ref a)]) hx hb cd_F_139 hl (k := 0) rfl (v := 7) rfl (by decide) rfl (fun ls1 hl1 => ?_)
  refine lv_goto (tgt := 113) hx hb cd_F_142 rfl ?_
  exact kk ls1 hl1 H5 locs5 ad4 sh5 _ hb4 (by rw [hsh5, hsh4, hsh1]) rfl ⟨hW5, e_a4, by omega, by rw [hsh5, cn_set_ne (by omega)]; exact hs_o4, hfl, fun x hx => hμ x (by omega)⟩ (by rw [hsh5]; exact cn_set_at) hS5
theorem cf_113_7 (B : cf_B p s m args meth c Dg A cA) (Z : cf_S Dg A cA ad sh N μ H o a fs) (hS : va_S A s.heap H locs) (hl : lv_has ls 2 [(1, .int (7)), (0, .ref a)]) {g : Nat} (hk3 : fs[3]? = some (2, g)) (hg : g < N) {t : Nat} (hk9 : fs[9]? = some (2, t)) (ht : t < N) (hto : t ≠ o) {ts : List (Nat × Nat)} (hst : sh t = (5, 9, ts)) (htl : ts.length = 7) (hc : cells + 1 + 10 ≤ 206) (hs : slots + 18 + 2773 ≤ 39090)
    (kk : ∀ (ls1 : Array Slot), lv_has ls1 2 [(1, .int (8)), (0, .ref a)] → ∀ (H1 : Heap) (locs1 : List Loc) (ad1 : Nat → Nat) (sh1 : Nat → ax_C) (N1 : Nat), (∀ x, x < N → ad1 x = ad x) → sh1 = cx_set (cn_s_Run (cx_set sh N (0, 6, [(4, 0), (4, 0), (4, 0), (4, 0), (4, 0), (4, 0), (4, 0), (4, 0), (4, 0), (4, 0), (4, 0), (0, 0), (0, 0), (0, 0), (0, 0), (0, 0), (0, 0), (0, 0)])) (N + 1) N g) t (5, 9, ts ++ [(2, N)]) → N1 = (N + 1 + 10) → cf_S Dg A cA ad1 sh1 N1 μ H1 o a fs → sh1 t = (5, 9, ts ++ [(2, N)]) → va_S A s.heap H1 locs1 → W p l e cf_R s m args below meth c H1 locs1 (cells + 1 + 10) (slots + 18 + 2773) Q (F0 m 113 ls1 [])) : W p l e cf_R s m args below meth c H locs (cells) (slots) Q (F0 m 113 ls []) := by
  obtain ⟨hx, hb, hml, hown, htn, hin, hK, hA, hX⟩ := B
  obtain ⟨hW, ea, ho, hso, hfl, hμ⟩ := Z
  have hts : ∀ w ∈ ax_Ts, w.before args s = true := fun w hw => htn w (cn_Ts_in hw)
  have h0 : ls[0]? = some (.val (.ref a)) := lv_at hl 1 rfl
  have hz : ls.size = 2 := hl.1
  refine lv_iload_n hx hb cd_F_113 rfl (lv_at hl 0 rfl) ?_
  refine lv_aload_n hx hb cd_F_114 rfl (lv_at hl 1 rfl) ?_
  refine cn_getq (t := t) (ea := ea) (eb := rfl) (Ts := ax_Ts) (n := 17) (T := aT_F) (C := "AskingFragments") (k := 9) hx hb hts aU_F hown hK rfl hW (show o < N by omega) hso (by decide) hk9 (hts _ (ax_in (ax_wl_at (k := 2) (j := 63) rfl) rfl)) cd_F_115 ?_
  refine cn_alen (ea := (rfl : ad t = ad t)) (v := 9) hx hb hK hW (by decide : 5 = 5 ∨ 5 = 6) ht hst rfl cd_F_118 ?_
  refine lv_icmp_ge (tgt := 145) hx hb cd_F_119 rfl (fun hq => absurd hq (by decide)) (fun _ => ?_)
  refine lv_aload_n hx hb cd_F_122 rfl (lv_at hl 1 rfl) ?_
  refine cn_getq (t := t) (ea := ea) (eb := rfl) (Ts := ax_Ts) (n := 17) (T := aT_F) (C := "AskingFragments") (k := 9) hx hb hts aU_F hown hK rfl hW (show o < N by omega) hso (by decide) hk9 (hts _ (ax_in (ax_wl_at (k := 2) (j := 63) rfl) rfl)) cd_F_123 ?_
  refine lv_iload_n hx hb cd_F_126 rfl (lv_at hl 0 rfl) ?_
  refine cn_new (Ts := ax_Ts) (ci := 6) (fs := [(4, 0), (4, 0), (4, 0), (4, 0), (4, 0), (4, 0), (4, 0), (4, 0), (4, 0), (4, 0), (4, 0), (0, 0), (0, 0), (0, 0), (0, 0), (0, 0), (0, 0), (0, 0)]) hx hb hts aU_Run cn_tRun cn_yRun hown (hts _ (ax_in (ax_wl_at (k := 1) (j := 144) rfl) rfl)) (hts _ (ax_in (ax_wl_at (k := 1) (j := 145) rfl) rfl)) (hts _ aI_Run.1) hK rfl hW hS hA (cn_h0 (hμ _ (Nat.le_refl _))) (by decide) cn_fRun (show cells + 1 ≤ 206 by omega) (show slots + 18 ≤ 39090 by omega) cd_F_127 (fun q1 H1 ad1 sh1 N1 had1 hsh1 hN1 hW1 hS1 => ?_)
  subst hN1
  have e_a1 : ad1 o = a := by rw [had1, cn_ext (by omega)]; exact ea
  have e_q1 : ad1 N = q1 := by rw [had1]; exact cn_ext_at
  have hs_o1 : sh1 o = (0, 0, fs) := by rw [hsh1, cn_set_ne (by omega)]; exact hso
  have hs_n1 : sh1 N = (0, 6, [(4, 0), (4, 0), (4, 0), (4, 0), (4, 0), (4, 0), (4, 0), (4, 0), (4, 0), (4, 0), (4, 0), (0, 0), (0, 0), (0, 0), (0, 0), (0, 0), (0, 0), (0, 0)]) := by rw [hsh1]; exact cn_set_at
  refine lv_dup hx hb cd_F_130 rfl ?_
  refine lv_aload_n hx hb cd_F_131 rfl h0 ?_
  refine cn_getq (t := g) (ea := e_a1) (eb := rfl) (Ts := ax_Ts) (n := 17) (T := aT_F) (C := "AskingFragments") (k := 3) hx hb hts aU_F hown hK rfl hW1 (show o < (N + 1) by omega) hs_o1 (by decide) hk3 (hts _ (ax_in (ax_wl_at (k := 2) (j := 57) rfl) rfl)) cd_F_132 ?_
  refine cn_call (host := "AskingFragments") (d := cn_d_Run) (b := q1) (As := [.ref (ad1 g)]) hx hb hml hown htn (cn_Run l Dg A cA ad1 sh1 (N + 1) μ e_q1 (by omega) (rfl : ad1 g = ad1 g) (by omega) hs_n1 (fun a ha => hμ a (by omega))) rfl ⟨rfl, rfl⟩ (ax_in (ax_wl_at (k := 1) (j := 148) rfl) rfl) aI_Run.1 (Or.inl (hts _ (ax_in (ax_wl_at (k := 1) (j := 146) rfl) rfl))) rfl (ax_in (ax_wl_at (k := 1) (j := 147) rfl) rfl) ⟨aI_Run.2.2.1, aI_Run.2.2.2, cn_p_Run⟩ ⟨(Nat.le_of_ble_eq_true rfl), (Nat.le_of_ble_eq_true rfl)⟩ hK hW1 hS1 hA hX rfl hz (Nat.le_of_ble_eq_true rfl) cd_F_135 ⟨(show cells + 1 + 10 ≤ 206 by omega), (show slots + 18 + 2773 ≤ 39090 by omega)⟩ (fun H4 locs4 ad4 sh4 N4 hal4 hsh4 hN4 hW4 hS4 => ?_)
  subst hN4
  have e_a4 : ad4 o = a := (hal4 _ (by omega)).trans e_a1
  have e_q4 : ad4 N = q1 := (hal4 _ (by omega)).trans e_q1
  have hs_o4 : sh4 o = (0, 0, fs) := by rw [hsh4, cn_s_Run_ne (by omega) (by omega)]; exact hs_o1
  have hb4 : ∀ x, x < N → ad4 x = ad x := fun x hx => (hal4 x (by omega)).trans (by rw [had1, cn_ext (by omega)])
  have hs_t4 : sh4 t = (5, 9, ts) := by rw [hsh4, cn_s_Run_ne (by omega) (by omega), hsh1, cn_set_ne (by omega)]; exact hst
  have e_t4 : ad4 t = ad t := hb4 t ht
  have hs_n4 := hsh4 ▸ (cn_s_Run_at (sh := sh1) (N := N + 1) (o := N) (g0 := g))
  refine cn_astq (ea := e_t4) (eb := e_q4) (C := "AskingFragments$Run") (T := aT_Run) (n := 18) (ts := ts) hx hb hK hW4 hS4 (by decide : 5 = 5 ∨ 5 = 6) rfl (show t < (N + 1 + 10) by omega) hs_t4 (show N < (N + 1 + 10) by omega) hs_n4 rfl (by rw [htl]; rfl) (by decide) (by rw [htl]; exact Nat.le_of_ble_eq_true rfl) cd_F_138 (fun H5 locs5 sh5 hsh5 hW5 hS5 => ?_)
  refine lv_iinc (lv' := [(1, .int (8)), (0, .ref a)]) hx hb cd_F_139 hl (k := 0) rfl (v := 8) rfl (by decide) rfl (fun ls1 hl1 => ?_)
  refine lv_goto (tgt := 113) hx hb cd_F_142 rfl ?_
  exact kk ls1 hl1 H5 locs5 ad4 sh5 _ hb4 (by rw [hsh5, hsh4, hsh1]) rfl ⟨hW5, e_a4, by omega, by rw [hsh5, cn_set_ne (by omega)]; exact hs_o4, hfl, fun x hx => hμ x (by omega)⟩ (by rw [hsh5]; exact cn_set_at) hS5
theorem cf_113_8 (B : cf_B p s m args meth c Dg A cA) (Z : cf_S Dg A cA ad sh N μ H o a fs) (hS : va_S A s.heap H locs) (hl : lv_has ls 2 [(1, .int (8)), (0, .ref a)]) {g : Nat} (hk3 : fs[3]? = some (2, g)) (hg : g < N) {t : Nat} (hk9 : fs[9]? = some (2, t)) (ht : t < N) (hto : t ≠ o) {ts : List (Nat × Nat)} (hst : sh t = (5, 9, ts)) (htl : ts.length = 8) (hc : cells + 1 + 10 ≤ 206) (hs : slots + 18 + 2773 ≤ 39090)
    (kk : ∀ (ls1 : Array Slot), lv_has ls1 2 [(1, .int (9)), (0, .ref a)] → ∀ (H1 : Heap) (locs1 : List Loc) (ad1 : Nat → Nat) (sh1 : Nat → ax_C) (N1 : Nat), (∀ x, x < N → ad1 x = ad x) → sh1 = cx_set (cn_s_Run (cx_set sh N (0, 6, [(4, 0), (4, 0), (4, 0), (4, 0), (4, 0), (4, 0), (4, 0), (4, 0), (4, 0), (4, 0), (4, 0), (0, 0), (0, 0), (0, 0), (0, 0), (0, 0), (0, 0), (0, 0)])) (N + 1) N g) t (5, 9, ts ++ [(2, N)]) → N1 = (N + 1 + 10) → cf_S Dg A cA ad1 sh1 N1 μ H1 o a fs → sh1 t = (5, 9, ts ++ [(2, N)]) → va_S A s.heap H1 locs1 → W p l e cf_R s m args below meth c H1 locs1 (cells + 1 + 10) (slots + 18 + 2773) Q (F0 m 113 ls1 [])) : W p l e cf_R s m args below meth c H locs (cells) (slots) Q (F0 m 113 ls []) := by
  obtain ⟨hx, hb, hml, hown, htn, hin, hK, hA, hX⟩ := B
  obtain ⟨hW, ea, ho, hso, hfl, hμ⟩ := Z
  have hts : ∀ w ∈ ax_Ts, w.before args s = true := fun w hw => htn w (cn_Ts_in hw)
  have h0 : ls[0]? = some (.val (.ref a)) := lv_at hl 1 rfl
  have hz : ls.size = 2 := hl.1
  refine lv_iload_n hx hb cd_F_113 rfl (lv_at hl 0 rfl) ?_
  refine lv_aload_n hx hb cd_F_114 rfl (lv_at hl 1 rfl) ?_
  refine cn_getq (t := t) (ea := ea) (eb := rfl) (Ts := ax_Ts) (n := 17) (T := aT_F) (C := "AskingFragments") (k := 9) hx hb hts aU_F hown hK rfl hW (show o < N by omega) hso (by decide) hk9 (hts _ (ax_in (ax_wl_at (k := 2) (j := 63) rfl) rfl)) cd_F_115 ?_
  refine cn_alen (ea := (rfl : ad t = ad t)) (v := 9) hx hb hK hW (by decide : 5 = 5 ∨ 5 = 6) ht hst rfl cd_F_118 ?_
  refine lv_icmp_ge (tgt := 145) hx hb cd_F_119 rfl (fun hq => absurd hq (by decide)) (fun _ => ?_)
  refine lv_aload_n hx hb cd_F_122 rfl (lv_at hl 1 rfl) ?_
  refine cn_getq (t := t) (ea := ea) (eb := rfl) (Ts := ax_Ts) (n := 17) (T := aT_F) (C := "AskingFragments") (k := 9) hx hb hts aU_F hown hK rfl hW (show o < N by omega) hso (by decide) hk9 (hts _ (ax_in (ax_wl_at (k := 2) (j := 63) rfl) rfl)) cd_F_123 ?_
  refine lv_iload_n hx hb cd_F_126 rfl (lv_at hl 0 rfl) ?_
  refine cn_new (Ts := ax_Ts) (ci := 6) (fs := [(4, 0), (4, 0), (4, 0), (4, 0), (4, 0), (4, 0), (4, 0), (4, 0), (4, 0), (4, 0), (4, 0), (0, 0), (0, 0), (0, 0), (0, 0), (0, 0), (0, 0), (0, 0)]) hx hb hts aU_Run cn_tRun cn_yRun hown (hts _ (ax_in (ax_wl_at (k := 1) (j := 144) rfl) rfl)) (hts _ (ax_in (ax_wl_at (k := 1) (j := 145) rfl) rfl)) (hts _ aI_Run.1) hK rfl hW hS hA (cn_h0 (hμ _ (Nat.le_refl _))) (by decide) cn_fRun (show cells + 1 ≤ 206 by omega) (show slots + 18 ≤ 39090 by omega) cd_F_127 (fun q1 H1 ad1 sh1 N1 had1 hsh1 hN1 hW1 hS1 => ?_)
  subst hN1
  have e_a1 : ad1 o = a := by rw [had1, cn_ext (by omega)]; exact ea
  have e_q1 : ad1 N = q1 := by rw [had1]; exact cn_ext_at
  have hs_o1 : sh1 o = (0, 0, fs) := by rw [hsh1, cn_set_ne (by omega)]; exact hso
  have hs_n1 : sh1 N = (0, 6, [(4, 0), (4, 0), (4, 0), (4, 0), (4, 0), (4, 0), (4, 0), (4, 0), (4, 0), (4, 0), (4, 0), (0, 0), (0, 0), (0, 0), (0, 0), (0, 0), (0, 0), (0, 0)]) := by rw [hsh1]; exact cn_set_at
  refine lv_dup hx hb cd_F_130 rfl ?_
  refine lv_aload_n hx hb cd_F_131 rfl h0 ?_
  refine cn_getq (t := g) (ea := e_a1) (eb := rfl) (Ts := ax_Ts) (n := 17) (T := aT_F) (C := "AskingFragments") (k := 3) hx hb hts aU_F hown hK rfl hW1 (show o < (N + 1) by omega) hs_o1 (by decide) hk3 (hts _ (ax_in (ax_wl_at (k := 2) (j := 57) rfl) rfl)) cd_F_132 ?_
  refine cn_call (host := "AskingFragments") (d := cn_d_Run) (b := q1) (As := [.ref (ad1 g)]) hx hb hml hown htn (cn_Run l Dg A cA ad1 sh1 (N + 1) μ e_q1 (by omega) (rfl : ad1 g = ad1 g) (by omega) hs_n1 (fun a ha => hμ a (by omega))) rfl ⟨rfl, rfl⟩ (ax_in (ax_wl_at (k := 1) (j := 148) rfl) rfl) aI_Run.1 (Or.inl (hts _ (ax_in (ax_wl_at (k := 1) (j := 146) rfl) rfl))) rfl (ax_in (ax_wl_at (k := 1) (j := 147) rfl) rfl) ⟨aI_Run.2.2.1, aI_Run.2.2.2, cn_p_Run⟩ ⟨(Nat.le_of_ble_eq_true rfl), (Nat.le_of_ble_eq_true rfl)⟩ hK hW1 hS1 hA hX rfl hz (Nat.le_of_ble_eq_true rfl) cd_F_135 ⟨(show cells + 1 + 10 ≤ 206 by omega), (show slots + 18 + 2773 ≤ 39090 by omega)⟩ (fun H4 locs4 ad4 sh4 N4 hal4 hsh4 hN4 hW4 hS4 => ?_)
  subst hN4
  have e_a4 : ad4 o = a := (hal4 _ (by omega)).trans e_a1
  have e_q4 : ad4 N = q1 := (hal4 _ (by omega)).trans e_q1
  have hs_o4 : sh4 o = (0, 0, fs) := by rw [hsh4, cn_s_Run_ne (by omega) (by omega)]; exact hs_o1
  have hb4 : ∀ x, x < N → ad4 x = ad x := fun x hx => (hal4 x (by omega)).trans (by rw [had1, cn_ext (by omega)])
  have hs_t4 : sh4 t = (5, 9, ts) := by rw [hsh4, cn_s_Run_ne (by omega) (by omega), hsh1, cn_set_ne (by omega)]; exact hst
  have e_t4 : ad4 t = ad t := hb4 t ht
  have hs_n4 := hsh4 ▸ (cn_s_Run_at (sh := sh1) (N := N + 1) (o := N) (g0 := g))
  refine cn_astq (ea := e_t4) (eb := e_q4) (C := "AskingFragments$Run") (T := aT_Run) (n := 18) (ts := ts) hx hb hK hW4 hS4 (by decide : 5 = 5 ∨ 5 = 6) rfl (show t < (N + 1 + 10) by omega) hs_t4 (show N < (N + 1 + 10) by omega) hs_n4 rfl (by rw [htl]; rfl) (by decide) (by rw [htl]; exact Nat.le_of_ble_eq_true rfl) cd_F_138 (fun H5 locs5 sh5 hsh5 hW5 hS5 => ?_)
  refine lv_iinc (lv' := [(1, .int (9)), (0, .ref a)]) hx hb cd_F_139 hl (k := 0) rfl (v := 9) rfl (by decide) rfl (fun ls1 hl1 => ?_)
  refine lv_goto (tgt := 113) hx hb cd_F_142 rfl ?_
  exact kk ls1 hl1 H5 locs5 ad4 sh5 _ hb4 (by rw [hsh5, hsh4, hsh1]) rfl ⟨hW5, e_a4, by omega, by rw [hsh5, cn_set_ne (by omega)]; exact hs_o4, hfl, fun x hx => hμ x (by omega)⟩ (by rw [hsh5]; exact cn_set_at) hS5
theorem cf_113_x (B : cf_B p s m args meth c Dg A cA) (Z : cf_S Dg A cA ad sh N μ H o a fs) (hS : va_S A s.heap H locs) (hl : lv_has ls 2 [(1, .int (9)), (0, .ref a)]) {t : Nat} (hk9 : fs[9]? = some (2, t)) (ht : t < N) {ts : List (Nat × Nat)} (hst : sh t = (5, 9, ts))
    (kk : W p l e cf_R s m args below meth c H locs (cells) (slots) Q (F0 m 145 ls [])) : W p l e cf_R s m args below meth c H locs (cells) (slots) Q (F0 m 113 ls []) := by
  obtain ⟨hx, hb, hml, hown, htn, hin, hK, hA, hX⟩ := B
  obtain ⟨hW, ea, ho, hso, hfl, hμ⟩ := Z
  have hts : ∀ w ∈ ax_Ts, w.before args s = true := fun w hw => htn w (cn_Ts_in hw)
  refine lv_iload_n hx hb cd_F_113 rfl (lv_at hl 0 rfl) ?_
  refine lv_aload_n hx hb cd_F_114 rfl (lv_at hl 1 rfl) ?_
  refine cn_getq (t := t) (ea := ea) (eb := rfl) (Ts := ax_Ts) (n := 17) (T := aT_F) (C := "AskingFragments") (k := 9) hx hb hts aU_F hown hK rfl hW (show o < N by omega) hso (by decide) hk9 (hts _ (ax_in (ax_wl_at (k := 2) (j := 63) rfl) rfl)) cd_F_115 ?_
  refine cn_alen (ea := (rfl : ad t = ad t)) (v := 9) hx hb hK hW (by decide : 5 = 5 ∨ 5 = 6) ht hst rfl cd_F_118 ?_
  refine lv_icmp_ge (tgt := 145) hx hb cd_F_119 rfl (fun _ => ?_) (fun hq => absurd (by decide) hq)
  exact kk
theorem cf_145 (B : cf_B p s m args meth c Dg A cA) (Z : cf_S Dg A cA ad sh N μ H o a fs) (hS : va_S A s.heap H locs) (h0 : ls[0]? = some (.val (.ref a))) (hz : ls.size = 2) (hf : fs.set 12 (2, N) = fs') (hc : cells + 1 ≤ 206) (hs : slots + 2 ≤ 39090)
    (kk : ∀ (H1 : Heap) (locs1 : List Loc) (ad1 : Nat → Nat) (sh1 : Nat → ax_C) (N1 : Nat), (∀ x, x < N → ad1 x = ad x) → sh1 = cx_set (cx_set sh N (6, 2, [])) o (0, 0, fs') → N1 = N + 1 → cf_S Dg A cA ad1 sh1 N1 μ H1 o a fs' → va_S A s.heap H1 locs1 → W p l e cf_R s m args below meth c H1 locs1 (cells + 1) (slots + 2) Q (F0 m 153 ls [])) : W p l e cf_R s m args below meth c H locs (cells) (slots) Q (F0 m 145 ls []) := by
  obtain ⟨hx, hb, hml, hown, htn, hin, hK, hA, hX⟩ := B
  obtain ⟨hW, ea, ho, hso, hfl, hμ⟩ := Z
  have hts : ∀ w ∈ ax_Ts, w.before args s = true := fun w hw => htn w (cn_Ts_in hw)
  refine lv_aload_n hx hb cd_F_145 rfl h0 ?_
  refine lv_iconst hx hb cd_F_146 (v := (2)) rfl ?_
  refine cn_newq (C := "AskingFragments$Image") (len := 2) hx hb hown (hts _ (ax_in (ax_wl_at (k := 1) (j := 223) rfl) rfl)) hX.2.2 6 (by decide) rfl hK hW hS hA (by decide) rfl (by decide) (show cells + 1 ≤ 206 by omega) (show slots + 2 ≤ 39090 by omega) cd_F_147 (fun q1 H1 ad1 sh1 N1 had1 hsh1 hN1 hW1 hS1 => ?_)
  subst hN1
  have e_a1 : ad1 o = a := by rw [had1, cn_ext (by omega)]; exact ea
  have e_q1 : ad1 N = q1 := by rw [had1]; exact cn_ext_at
  have hs_o1 : sh1 o = (0, 0, fs) := by rw [hsh1, cn_set_ne (by omega)]; exact hso
  refine cn_putq (ea := e_a1) (eb := e_q1) (Ts := ax_Ts) (n := 17) (T := aT_F) (C := "AskingFragments") (k := 12) hx hb hts aU_F (ty0 := cn_tF) cn_yF aN_F hown hK rfl hW1 hS1 (show o < N + 1 by omega) hs_o1 (by decide) hfl (show N < N + 1 by omega) (hts _ (ax_in (ax_wl_at (k := 2) (j := 66) rfl) rfl)) rfl hin rfl rfl rfl rfl cd_F_150 (fun H5 locs5 sh5 hsh5 hW5 hS5 => ?_)
  rw [hf] at hsh5
  exact kk H5 locs5 ad1 sh5 _ (fun x hx => by rw [had1, cn_ext (by omega)]) (by rw [hsh5, hsh1]) rfl ⟨hW5, e_a1, by omega, by rw [hsh5]; exact cn_set_at, by rw [← hf, List.length_set]; exact hfl, fun x hx => hμ x (by omega)⟩ hS5
theorem cf_155_0 (B : cf_B p s m args meth c Dg A cA) (Z : cf_S Dg A cA ad sh N μ H o a fs) (hS : va_S A s.heap H locs) (hl : lv_has ls 2 [(1, .int (0)), (0, .ref a)]) {t : Nat} (hk12 : fs[12]? = some (2, t)) (ht : t < N) (hto : t ≠ o) {ts : List (Nat × Nat)} (hst : sh t = (6, 2, ts)) (htl : ts.length = 0) (hc : cells + 1 + 24 ≤ 206) (hs : slots + 4 + 3222 ≤ 39090)
    (kk : ∀ (ls1 : Array Slot), lv_has ls1 2 [(1, .int (1)), (0, .ref a)] → ∀ (H1 : Heap) (locs1 : List Loc) (ad1 : Nat → Nat) (sh1 : Nat → ax_C) (N1 : Nat), (∀ x, x < N → ad1 x = ad x) → sh1 = cx_set (cn_s_Image (cx_set sh N (0, 2, [(4, 0), (4, 0), (4, 0), (3, 0)])) (N + 1) N) t (6, 2, ts ++ [(2, N)]) → N1 = (N + 1 + 24) → cf_S Dg A cA ad1 sh1 N1 μ H1 o a fs → sh1 t = (6, 2, ts ++ [(2, N)]) → va_S A s.heap H1 locs1 → W p l e cf_R s m args below meth c H1 locs1 (cells + 1 + 24) (slots + 4 + 3222) Q (F0 m 155 ls1 [])) : W p l e cf_R s m args below meth c H locs (cells) (slots) Q (F0 m 155 ls []) := by
  obtain ⟨hx, hb, hml, hown, htn, hin, hK, hA, hX⟩ := B
  obtain ⟨hW, ea, ho, hso, hfl, hμ⟩ := Z
  have hts : ∀ w ∈ ax_Ts, w.before args s = true := fun w hw => htn w (cn_Ts_in hw)
  have h0 : ls[0]? = some (.val (.ref a)) := lv_at hl 1 rfl
  have hz : ls.size = 2 := hl.1
  refine lv_iload_n hx hb cd_F_155 rfl (lv_at hl 0 rfl) ?_
  refine lv_aload_n hx hb cd_F_156 rfl (lv_at hl 1 rfl) ?_
  refine cn_getq (t := t) (ea := ea) (eb := rfl) (Ts := ax_Ts) (n := 17) (T := aT_F) (C := "AskingFragments") (k := 12) hx hb hts aU_F hown hK rfl hW (show o < N by omega) hso (by decide) hk12 (hts _ (ax_in (ax_wl_at (k := 2) (j := 66) rfl) rfl)) cd_F_157 ?_
  refine cn_alen (ea := (rfl : ad t = ad t)) (v := 2) hx hb hK hW (by decide : 6 = 5 ∨ 6 = 6) ht hst rfl cd_F_160 ?_
  refine lv_icmp_ge (tgt := 183) hx hb cd_F_161 rfl (fun hq => absurd hq (by decide)) (fun _ => ?_)
  refine lv_aload_n hx hb cd_F_164 rfl (lv_at hl 1 rfl) ?_
  refine cn_getq (t := t) (ea := ea) (eb := rfl) (Ts := ax_Ts) (n := 17) (T := aT_F) (C := "AskingFragments") (k := 12) hx hb hts aU_F hown hK rfl hW (show o < N by omega) hso (by decide) hk12 (hts _ (ax_in (ax_wl_at (k := 2) (j := 66) rfl) rfl)) cd_F_165 ?_
  refine lv_iload_n hx hb cd_F_168 rfl (lv_at hl 0 rfl) ?_
  refine cn_new (Ts := ax_Ts) (ci := 2) (fs := [(4, 0), (4, 0), (4, 0), (3, 0)]) hx hb hts aU_Image cn_tImage cn_yImage hown (hts _ (ax_in (ax_wl_at (k := 1) (j := 223) rfl) rfl)) (hts _ (ax_in (ax_wl_at (k := 1) (j := 225) rfl) rfl)) (hts _ aI_Image.1) hK rfl hW hS hA (cn_h0 (hμ _ (Nat.le_refl _))) (by decide) cn_fImage (show cells + 1 ≤ 206 by omega) (show slots + 4 ≤ 39090 by omega) cd_F_169 (fun q1 H1 ad1 sh1 N1 had1 hsh1 hN1 hW1 hS1 => ?_)
  subst hN1
  have e_a1 : ad1 o = a := by rw [had1, cn_ext (by omega)]; exact ea
  have e_q1 : ad1 N = q1 := by rw [had1]; exact cn_ext_at
  have hs_o1 : sh1 o = (0, 0, fs) := by rw [hsh1, cn_set_ne (by omega)]; exact hso
  have hs_n1 : sh1 N = (0, 2, [(4, 0), (4, 0), (4, 0), (3, 0)]) := by rw [hsh1]; exact cn_set_at
  refine lv_dup hx hb cd_F_172 rfl ?_
  refine cn_call (host := "AskingFragments") (d := cn_d_Image) (b := q1) (As := []) hx hb hml hown htn (cn_Image l Dg A cA ad1 sh1 (N + 1) μ e_q1 (by omega) hs_n1 (fun a ha => hμ a (by omega))) rfl ⟨rfl, rfl⟩ (ax_in (ax_wl_at (k := 1) (j := 228) rfl) rfl) aI_Image.1 (Or.inl (hts _ (ax_in (ax_wl_at (k := 1) (j := 226) rfl) rfl))) rfl (ax_in (ax_wl_at (k := 1) (j := 227) rfl) rfl) ⟨aI_Image.2.2.1, aI_Image.2.2.2, cn_p_Image⟩ ⟨(Nat.le_of_ble_eq_true rfl), (Nat.le_of_ble_eq_true rfl)⟩ hK hW1 hS1 hA hX rfl hz (Nat.le_of_ble_eq_true rfl) cd_F_173 ⟨(show cells + 1 + 24 ≤ 206 by omega), (show slots + 4 + 3222 ≤ 39090 by omega)⟩ (fun H4 locs4 ad4 sh4 N4 hal4 hsh4 hN4 hW4 hS4 => ?_)
  subst hN4
  have e_a4 : ad4 o = a := (hal4 _ (by omega)).trans e_a1
  have e_q4 : ad4 N = q1 := (hal4 _ (by omega)).trans e_q1
  have hs_o4 : sh4 o = (0, 0, fs) := by rw [hsh4, cn_s_Image_ne (by omega) (by omega)]; exact hs_o1
  have hb4 : ∀ x, x < N → ad4 x = ad x := fun x hx => (hal4 x (by omega)).trans (by rw [had1, cn_ext (by omega)])
  have hs_t4 : sh4 t = (6, 2, ts) := by rw [hsh4, cn_s_Image_ne (by omega) (by omega), hsh1, cn_set_ne (by omega)]; exact hst
  have e_t4 : ad4 t = ad t := hb4 t ht
  have hs_n4 := hsh4 ▸ (cn_s_Image_at (sh := sh1) (N := N + 1) (o := N))
  refine cn_astq (ea := e_t4) (eb := e_q4) (C := "AskingFragments$Image") (T := aT_Image) (n := 4) (ts := ts) hx hb hK hW4 hS4 (by decide : 6 = 5 ∨ 6 = 6) rfl (show t < (N + 1 + 24) by omega) hs_t4 (show N < (N + 1 + 24) by omega) hs_n4 rfl (by rw [htl]; rfl) (by decide) (by rw [htl]; exact Nat.le_of_ble_eq_true rfl) cd_F_176 (fun H5 locs5 sh5 hsh5 hW5 hS5 => ?_)
  refine lv_iinc (lv' := [(1, .int (1)), (0, .ref a)]) hx hb cd_F_177 hl (k := 0) rfl (v := 1) rfl (by decide) rfl (fun ls1 hl1 => ?_)
  refine lv_goto (tgt := 155) hx hb cd_F_180 rfl ?_
  exact kk ls1 hl1 H5 locs5 ad4 sh5 _ hb4 (by rw [hsh5, hsh4, hsh1]) rfl ⟨hW5, e_a4, by omega, by rw [hsh5, cn_set_ne (by omega)]; exact hs_o4, hfl, fun x hx => hμ x (by omega)⟩ (by rw [hsh5]; exact cn_set_at) hS5
theorem cf_155_1 (B : cf_B p s m args meth c Dg A cA) (Z : cf_S Dg A cA ad sh N μ H o a fs) (hS : va_S A s.heap H locs) (hl : lv_has ls 2 [(1, .int (1)), (0, .ref a)]) {t : Nat} (hk12 : fs[12]? = some (2, t)) (ht : t < N) (hto : t ≠ o) {ts : List (Nat × Nat)} (hst : sh t = (6, 2, ts)) (htl : ts.length = 1) (hc : cells + 1 + 24 ≤ 206) (hs : slots + 4 + 3222 ≤ 39090)
    (kk : ∀ (ls1 : Array Slot), lv_has ls1 2 [(1, .int (2)), (0, .ref a)] → ∀ (H1 : Heap) (locs1 : List Loc) (ad1 : Nat → Nat) (sh1 : Nat → ax_C) (N1 : Nat), (∀ x, x < N → ad1 x = ad x) → sh1 = cx_set (cn_s_Image (cx_set sh N (0, 2, [(4, 0), (4, 0), (4, 0), (3, 0)])) (N + 1) N) t (6, 2, ts ++ [(2, N)]) → N1 = (N + 1 + 24) → cf_S Dg A cA ad1 sh1 N1 μ H1 o a fs → sh1 t = (6, 2, ts ++ [(2, N)]) → va_S A s.heap H1 locs1 → W p l e cf_R s m args below meth c H1 locs1 (cells + 1 + 24) (slots + 4 + 3222) Q (F0 m 155 ls1 [])) : W p l e cf_R s m args below meth c H locs (cells) (slots) Q (F0 m 155 ls []) := by
  obtain ⟨hx, hb, hml, hown, htn, hin, hK, hA, hX⟩ := B
  obtain ⟨hW, ea, ho, hso, hfl, hμ⟩ := Z
  have hts : ∀ w ∈ ax_Ts, w.before args s = true := fun w hw => htn w (cn_Ts_in hw)
  have h0 : ls[0]? = some (.val (.ref a)) := lv_at hl 1 rfl
  have hz : ls.size = 2 := hl.1
  refine lv_iload_n hx hb cd_F_155 rfl (lv_at hl 0 rfl) ?_
  refine lv_aload_n hx hb cd_F_156 rfl (lv_at hl 1 rfl) ?_
  refine cn_getq (t := t) (ea := ea) (eb := rfl) (Ts := ax_Ts) (n := 17) (T := aT_F) (C := "AskingFragments") (k := 12) hx hb hts aU_F hown hK rfl hW (show o < N by omega) hso (by decide) hk12 (hts _ (ax_in (ax_wl_at (k := 2) (j := 66) rfl) rfl)) cd_F_157 ?_
  refine cn_alen (ea := (rfl : ad t = ad t)) (v := 2) hx hb hK hW (by decide : 6 = 5 ∨ 6 = 6) ht hst rfl cd_F_160 ?_
  refine lv_icmp_ge (tgt := 183) hx hb cd_F_161 rfl (fun hq => absurd hq (by decide)) (fun _ => ?_)
  refine lv_aload_n hx hb cd_F_164 rfl (lv_at hl 1 rfl) ?_
  refine cn_getq (t := t) (ea := ea) (eb := rfl) (Ts := ax_Ts) (n := 17) (T := aT_F) (C := "AskingFragments") (k := 12) hx hb hts aU_F hown hK rfl hW (show o < N by omega) hso (by decide) hk12 (hts _ (ax_in (ax_wl_at (k := 2) (j := 66) rfl) rfl)) cd_F_165 ?_
  refine lv_iload_n hx hb cd_F_168 rfl (lv_at hl 0 rfl) ?_
  refine cn_new (Ts := ax_Ts) (ci := 2) (fs := [(4, 0), (4, 0), (4, 0), (3, 0)]) hx hb hts aU_Image cn_tImage cn_yImage hown (hts _ (ax_in (ax_wl_at (k := 1) (j := 223) rfl) rfl)) (hts _ (ax_in (ax_wl_at (k := 1) (j := 225) rfl) rfl)) (hts _ aI_Image.1) hK rfl hW hS hA (cn_h0 (hμ _ (Nat.le_refl _))) (by decide) cn_fImage (show cells + 1 ≤ 206 by omega) (show slots + 4 ≤ 39090 by omega) cd_F_169 (fun q1 H1 ad1 sh1 N1 had1 hsh1 hN1 hW1 hS1 => ?_)
  subst hN1
  have e_a1 : ad1 o = a := by rw [had1, cn_ext (by omega)]; exact ea
  have e_q1 : ad1 N = q1 := by rw [had1]; exact cn_ext_at
  have hs_o1 : sh1 o = (0, 0, fs) := by rw [hsh1, cn_set_ne (by omega)]; exact hso
  have hs_n1 : sh1 N = (0, 2, [(4, 0), (4, 0), (4, 0), (3, 0)]) := by rw [hsh1]; exact cn_set_at
  refine lv_dup hx hb cd_F_172 rfl ?_
  refine cn_call (host := "AskingFragments") (d := cn_d_Image) (b := q1) (As := []) hx hb hml hown htn (cn_Image l Dg A cA ad1 sh1 (N + 1) μ e_q1 (by omega) hs_n1 (fun a ha => hμ a (by omega))) rfl ⟨rfl, rfl⟩ (ax_in (ax_wl_at (k := 1) (j := 228) rfl) rfl) aI_Image.1 (Or.inl (hts _ (ax_in (ax_wl_at (k := 1) (j := 226) rfl) rfl))) rfl (ax_in (ax_wl_at (k := 1) (j := 227) rfl) rfl) ⟨aI_Image.2.2.1, aI_Image.2.2.2, cn_p_Image⟩ ⟨(Nat.le_of_ble_eq_true rfl), (Nat.le_of_ble_eq_true rfl)⟩ hK hW1 hS1 hA hX rfl hz (Nat.le_of_ble_eq_true rfl) cd_F_173 ⟨(show cells + 1 + 24 ≤ 206 by omega), (show slots + 4 + 3222 ≤ 39090 by omega)⟩ (fun H4 locs4 ad4 sh4 N4 hal4 hsh4 hN4 hW4 hS4 => ?_)
  subst hN4
  have e_a4 : ad4 o = a := (hal4 _ (by omega)).trans e_a1
  have e_q4 : ad4 N = q1 := (hal4 _ (by omega)).trans e_q1
  have hs_o4 : sh4 o = (0, 0, fs) := by rw [hsh4, cn_s_Image_ne (by omega) (by omega)]; exact hs_o1
  have hb4 : ∀ x, x < N → ad4 x = ad x := fun x hx => (hal4 x (by omega)).trans (by rw [had1, cn_ext (by omega)])
  have hs_t4 : sh4 t = (6, 2, ts) := by rw [hsh4, cn_s_Image_ne (by omega) (by omega), hsh1, cn_set_ne (by omega)]; exact hst
  have e_t4 : ad4 t = ad t := hb4 t ht
  have hs_n4 := hsh4 ▸ (cn_s_Image_at (sh := sh1) (N := N + 1) (o := N))
  refine cn_astq (ea := e_t4) (eb := e_q4) (C := "AskingFragments$Image") (T := aT_Image) (n := 4) (ts := ts) hx hb hK hW4 hS4 (by decide : 6 = 5 ∨ 6 = 6) rfl (show t < (N + 1 + 24) by omega) hs_t4 (show N < (N + 1 + 24) by omega) hs_n4 rfl (by rw [htl]; rfl) (by decide) (by rw [htl]; exact Nat.le_of_ble_eq_true rfl) cd_F_176 (fun H5 locs5 sh5 hsh5 hW5 hS5 => ?_)
  refine lv_iinc (lv' := [(1, .int (2)), (0, .ref a)]) hx hb cd_F_177 hl (k := 0) rfl (v := 2) rfl (by decide) rfl (fun ls1 hl1 => ?_)
  refine lv_goto (tgt := 155) hx hb cd_F_180 rfl ?_
  exact kk ls1 hl1 H5 locs5 ad4 sh5 _ hb4 (by rw [hsh5, hsh4, hsh1]) rfl ⟨hW5, e_a4, by omega, by rw [hsh5, cn_set_ne (by omega)]; exact hs_o4, hfl, fun x hx => hμ x (by omega)⟩ (by rw [hsh5]; exact cn_set_at) hS5
theorem cf_155_x (B : cf_B p s m args meth c Dg A cA) (Z : cf_S Dg A cA ad sh N μ H o a fs) (hS : va_S A s.heap H locs) (hl : lv_has ls 2 [(1, .int (2)), (0, .ref a)]) {t : Nat} (hk12 : fs[12]? = some (2, t)) (ht : t < N) {ts : List (Nat × Nat)} (hst : sh t = (6, 2, ts))
    (kk : W p l e cf_R s m args below meth c H locs (cells) (slots) Q (F0 m 183 ls [])) : W p l e cf_R s m args below meth c H locs (cells) (slots) Q (F0 m 155 ls []) := by
  obtain ⟨hx, hb, hml, hown, htn, hin, hK, hA, hX⟩ := B
  obtain ⟨hW, ea, ho, hso, hfl, hμ⟩ := Z
  have hts : ∀ w ∈ ax_Ts, w.before args s = true := fun w hw => htn w (cn_Ts_in hw)
  refine lv_iload_n hx hb cd_F_155 rfl (lv_at hl 0 rfl) ?_
  refine lv_aload_n hx hb cd_F_156 rfl (lv_at hl 1 rfl) ?_
  refine cn_getq (t := t) (ea := ea) (eb := rfl) (Ts := ax_Ts) (n := 17) (T := aT_F) (C := "AskingFragments") (k := 12) hx hb hts aU_F hown hK rfl hW (show o < N by omega) hso (by decide) hk12 (hts _ (ax_in (ax_wl_at (k := 2) (j := 66) rfl) rfl)) cd_F_157 ?_
  refine cn_alen (ea := (rfl : ad t = ad t)) (v := 2) hx hb hK hW (by decide : 6 = 5 ∨ 6 = 6) ht hst rfl cd_F_160 ?_
  refine lv_icmp_ge (tgt := 183) hx hb cd_F_161 rfl (fun _ => ?_) (fun hq => absurd (by decide) hq)
  exact kk
theorem cf_183 (B : cf_B p s m args meth c Dg A cA) (Z : cf_S Dg A cA ad sh N μ H o a fs) (hS : va_S A s.heap H locs) (h0 : ls[0]? = some (.val (.ref a))) (hz : ls.size = 2) (hf : fs.set 13 (2, N) = fs') {g : Nat} (hk3 : fs[3]? = some (2, g)) (hg : g < N) (hc : cells + 1 + 2 ≤ 206) (hs : slots + 6 + 42 ≤ 39090)
    (kk : ∀ (H1 : Heap) (locs1 : List Loc) (ad1 : Nat → Nat) (sh1 : Nat → ax_C) (N1 : Nat), (∀ x, x < N → ad1 x = ad x) → sh1 = cx_set (cn_s_Forest (cx_set sh N (0, 1, [(4, 0), (4, 0), (4, 0), (0, 0), (0, 0), (0, 0)])) (N + 1) N g) o (0, 0, fs') → N1 = (N + 1 + 2) → cf_S Dg A cA ad1 sh1 N1 μ H1 o a fs' → va_S A s.heap H1 locs1 → W p l e cf_R s m args below meth c H1 locs1 (cells + 1 + 2) (slots + 6 + 42) Q (F0 m 198 ls [])) : W p l e cf_R s m args below meth c H locs (cells) (slots) Q (F0 m 183 ls []) := by
  obtain ⟨hx, hb, hml, hown, htn, hin, hK, hA, hX⟩ := B
  obtain ⟨hW, ea, ho, hso, hfl, hμ⟩ := Z
  have hts : ∀ w ∈ ax_Ts, w.before args s = true := fun w hw => htn w (cn_Ts_in hw)
  refine lv_aload_n hx hb cd_F_183 rfl h0 ?_
  refine cn_new (Ts := ax_Ts) (ci := 1) (fs := [(4, 0), (4, 0), (4, 0), (0, 0), (0, 0), (0, 0)]) hx hb hts aU_Forest cn_tForest cn_yForest hown (hts _ (ax_in (ax_wl_at (k := 2) (j := 12) rfl) rfl)) (hts _ (ax_in (ax_wl_at (k := 2) (j := 13) rfl) rfl)) (hts _ aI_Forest.1) hK rfl hW hS hA (cn_h0 (hμ _ (Nat.le_refl _))) (by decide) cn_fForest (show cells + 1 ≤ 206 by omega) (show slots + 6 ≤ 39090 by omega) cd_F_184 (fun q1 H1 ad1 sh1 N1 had1 hsh1 hN1 hW1 hS1 => ?_)
  subst hN1
  have e_a1 : ad1 o = a := by rw [had1, cn_ext (by omega)]; exact ea
  have e_q1 : ad1 N = q1 := by rw [had1]; exact cn_ext_at
  have hs_o1 : sh1 o = (0, 0, fs) := by rw [hsh1, cn_set_ne (by omega)]; exact hso
  have hs_n1 : sh1 N = (0, 1, [(4, 0), (4, 0), (4, 0), (0, 0), (0, 0), (0, 0)]) := by rw [hsh1]; exact cn_set_at
  refine lv_dup hx hb cd_F_187 rfl ?_
  refine lv_aload_n hx hb cd_F_188 rfl h0 ?_
  refine cn_getq (t := g) (ea := e_a1) (eb := rfl) (Ts := ax_Ts) (n := 17) (T := aT_F) (C := "AskingFragments") (k := 3) hx hb hts aU_F hown hK rfl hW1 (show o < (N + 1) by omega) hs_o1 (by decide) hk3 (hts _ (ax_in (ax_wl_at (k := 2) (j := 57) rfl) rfl)) cd_F_189 ?_
  refine cn_call (host := "AskingFragments") (d := cn_d_Forest) (b := q1) (As := [.ref (ad1 g)]) hx hb hml hown htn (cn_Forest l Dg A cA ad1 sh1 (N + 1) μ e_q1 (by omega) (rfl : ad1 g = ad1 g) (by omega) hs_n1 (fun a ha => hμ a (by omega))) rfl ⟨rfl, rfl⟩ (ax_in (ax_wl_at (k := 2) (j := 16) rfl) rfl) aI_Forest.1 (Or.inl (hts _ (ax_in (ax_wl_at (k := 2) (j := 14) rfl) rfl))) rfl (ax_in (ax_wl_at (k := 2) (j := 15) rfl) rfl) ⟨aI_Forest.2.2.1, aI_Forest.2.2.2, cn_p_Forest⟩ ⟨(Nat.le_of_ble_eq_true rfl), (Nat.le_of_ble_eq_true rfl)⟩ hK hW1 hS1 hA hX rfl hz (Nat.le_of_ble_eq_true rfl) cd_F_192 ⟨(show cells + 1 + 2 ≤ 206 by omega), (show slots + 6 + 42 ≤ 39090 by omega)⟩ (fun H4 locs4 ad4 sh4 N4 hal4 hsh4 hN4 hW4 hS4 => ?_)
  subst hN4
  have e_a4 : ad4 o = a := (hal4 _ (by omega)).trans e_a1
  have e_q4 : ad4 N = q1 := (hal4 _ (by omega)).trans e_q1
  have hs_o4 : sh4 o = (0, 0, fs) := by rw [hsh4, cn_s_Forest_ne (by omega) (by omega)]; exact hs_o1
  have hb4 : ∀ x, x < N → ad4 x = ad x := fun x hx => (hal4 x (by omega)).trans (by rw [had1, cn_ext (by omega)])
  refine cn_putq (ea := e_a4) (eb := e_q4) (Ts := ax_Ts) (n := 17) (T := aT_F) (C := "AskingFragments") (k := 13) hx hb hts aU_F (ty0 := cn_tF) cn_yF aN_F hown hK rfl hW4 hS4 (show o < (N + 1 + 2) by omega) hs_o4 (by decide) hfl (show N < (N + 1 + 2) by omega) (hts _ (ax_in (ax_wl_at (k := 2) (j := 67) rfl) rfl)) rfl hin rfl rfl rfl rfl cd_F_195 (fun H5 locs5 sh5 hsh5 hW5 hS5 => ?_)
  rw [hf] at hsh5
  exact kk H5 locs5 ad4 sh5 _ hb4 (by rw [hsh5, hsh4, hsh1]) rfl ⟨hW5, e_a4, by omega, by rw [hsh5]; exact cn_set_at, by rw [← hf, List.length_set]; exact hfl, fun x hx => hμ x (by omega)⟩ hS5
theorem cf_198 (B : cf_B p s m args meth c Dg A cA) (Z : cf_S Dg A cA ad sh N μ H o a fs) (hS : va_S A s.heap H locs) (h0 : ls[0]? = some (.val (.ref a))) (hz : ls.size = 2) (hf : fs.set 14 (2, N) = fs') (hc : cells + 1 + 1 ≤ 206) (hs : slots + 2 + 64 ≤ 39090)
    (kk : ∀ (H1 : Heap) (locs1 : List Loc) (ad1 : Nat → Nat) (sh1 : Nat → ax_C) (N1 : Nat), (∀ x, x < N → ad1 x = ad x) → sh1 = cx_set (cn_s_Spell (cx_set sh N (0, 7, [(4, 0), (0, 0)])) (N + 1) N) o (0, 0, fs') → N1 = (N + 1 + 1) → cf_S Dg A cA ad1 sh1 N1 μ H1 o a fs' → va_S A s.heap H1 locs1 → W p l e cf_R s m args below meth c H1 locs1 (cells + 1 + 1) (slots + 2 + 64) Q (F0 m 209 ls [])) : W p l e cf_R s m args below meth c H locs (cells) (slots) Q (F0 m 198 ls []) := by
  obtain ⟨hx, hb, hml, hown, htn, hin, hK, hA, hX⟩ := B
  obtain ⟨hW, ea, ho, hso, hfl, hμ⟩ := Z
  have hts : ∀ w ∈ ax_Ts, w.before args s = true := fun w hw => htn w (cn_Ts_in hw)
  refine lv_aload_n hx hb cd_F_198 rfl h0 ?_
  refine cn_new (Ts := ax_Ts) (ci := 7) (fs := [(4, 0), (0, 0)]) hx hb hts aU_Spell cn_tSpell cn_ySpell hown (hts _ (ax_in (ax_wl_at (k := 2) (j := 40) rfl) rfl)) (hts _ (ax_in (ax_wl_at (k := 2) (j := 41) rfl) rfl)) (hts _ aI_Spell.1) hK rfl hW hS hA (cn_h0 (hμ _ (Nat.le_refl _))) (by decide) cn_fSpell (show cells + 1 ≤ 206 by omega) (show slots + 2 ≤ 39090 by omega) cd_F_199 (fun q1 H1 ad1 sh1 N1 had1 hsh1 hN1 hW1 hS1 => ?_)
  subst hN1
  have e_a1 : ad1 o = a := by rw [had1, cn_ext (by omega)]; exact ea
  have e_q1 : ad1 N = q1 := by rw [had1]; exact cn_ext_at
  have hs_o1 : sh1 o = (0, 0, fs) := by rw [hsh1, cn_set_ne (by omega)]; exact hso
  have hs_n1 : sh1 N = (0, 7, [(4, 0), (0, 0)]) := by rw [hsh1]; exact cn_set_at
  refine lv_dup hx hb cd_F_202 rfl ?_
  refine cn_call (host := "AskingFragments") (d := cn_d_Spell) (b := q1) (As := []) hx hb hml hown htn (cn_Spell l Dg A cA ad1 sh1 (N + 1) μ e_q1 (by omega) hs_n1 (fun a ha => hμ a (by omega))) rfl ⟨rfl, rfl⟩ (ax_in (ax_wl_at (k := 2) (j := 44) rfl) rfl) aI_Spell.1 (Or.inr (hX.1 _ (List.mem_of_getElem? (i := 4) rfl))) rfl (ax_in (ax_wl_at (k := 2) (j := 43) rfl) rfl) ⟨aI_Spell.2.2.1, aI_Spell.2.2.2, cn_p_Spell⟩ ⟨(Nat.le_of_ble_eq_true rfl), (Nat.le_of_ble_eq_true rfl)⟩ hK hW1 hS1 hA hX rfl hz (Nat.le_of_ble_eq_true rfl) cd_F_203 ⟨(show cells + 1 + 1 ≤ 206 by omega), (show slots + 2 + 64 ≤ 39090 by omega)⟩ (fun H4 locs4 ad4 sh4 N4 hal4 hsh4 hN4 hW4 hS4 => ?_)
  subst hN4
  have e_a4 : ad4 o = a := (hal4 _ (by omega)).trans e_a1
  have e_q4 : ad4 N = q1 := (hal4 _ (by omega)).trans e_q1
  have hs_o4 : sh4 o = (0, 0, fs) := by rw [hsh4, cn_s_Spell_ne (by omega) (by omega)]; exact hs_o1
  have hb4 : ∀ x, x < N → ad4 x = ad x := fun x hx => (hal4 x (by omega)).trans (by rw [had1, cn_ext (by omega)])
  refine cn_putq (ea := e_a4) (eb := e_q4) (Ts := ax_Ts) (n := 17) (T := aT_F) (C := "AskingFragments") (k := 14) hx hb hts aU_F (ty0 := cn_tF) cn_yF aN_F hown hK rfl hW4 hS4 (show o < (N + 1 + 1) by omega) hs_o4 (by decide) hfl (show N < (N + 1 + 1) by omega) (hts _ (ax_in (ax_wl_at (k := 2) (j := 68) rfl) rfl)) rfl hin rfl rfl rfl rfl cd_F_206 (fun H5 locs5 sh5 hsh5 hW5 hS5 => ?_)
  rw [hf] at hsh5
  exact kk H5 locs5 ad4 sh5 _ hb4 (by rw [hsh5, hsh4, hsh1]) rfl ⟨hW5, e_a4, by omega, by rw [hsh5]; exact cn_set_at, by rw [← hf, List.length_set]; exact hfl, fun x hx => hμ x (by omega)⟩ hS5
theorem cf_209 (B : cf_B p s m args meth c Dg A cA) (Z : cf_S Dg A cA ad sh N μ H o a fs) (hS : va_S A s.heap H locs) (h0 : ls[0]? = some (.val (.ref a))) (hf : fs[15]? = some (0, 0))
    (kk : ∀ (H1 : Heap) (locs1 : List Loc) (μ1 : ax_M), μ1 = (ax_up μ.1 o 15 (-1), μ.2) → cf_S Dg A cA ad sh N μ1 H1 o a fs → va_S A s.heap H1 locs1 → W p l e cf_R s m args below meth c H1 locs1 (cells) (slots) Q (F0 m 214 ls [])) : W p l e cf_R s m args below meth c H locs (cells) (slots) Q (F0 m 209 ls []) := by
  obtain ⟨hx, hb, hml, hown, htn, hin, hK, hA, hX⟩ := B
  obtain ⟨hW, ea, ho, hso, hfl, hμ⟩ := Z
  have hts : ∀ w ∈ ax_Ts, w.before args s = true := fun w hw => htn w (cn_Ts_in hw)
  refine lv_aload_n hx hb cd_F_209 rfl h0 ?_
  refine lv_iconst hx hb cd_F_210 (v := (-1)) rfl ?_
  refine cn_puti (v := (-1)) (ea := ea) (Ts := ax_Ts) (n := 17) (T := aT_F) (C := "AskingFragments") (k := 15) hx hb hts aU_F (ty0 := cn_tF) cn_yF aN_F hown hK rfl hW hS ho hso (by decide) hfl hf (hts _ (ax_in (ax_wl_at (k := 2) (j := 69) rfl) rfl)) rfl rfl cd_F_211 (fun H5 locs5 μ5 hμ5 hW5 hS5 => ?_)
  exact kk H5 locs5 μ5 hμ5 ⟨hW5, ea, ho, hso, hfl, cn_hm hμ5 ho hμ⟩ hS5
theorem cf_214 (B : cf_B p s m args meth c Dg A cA) (Z : cf_S Dg A cA ad sh N μ H o a fs) (hS : va_S A s.heap H locs) (h0 : ls[0]? = some (.val (.ref a))) (hf : fs[16]? = some (0, 0))
    (kk : ∀ (H1 : Heap) (locs1 : List Loc) (μ1 : ax_M), μ1 = (ax_up μ.1 o 16 (-1), μ.2) → cf_S Dg A cA ad sh N μ1 H1 o a fs → va_S A s.heap H1 locs1 → W p l e cf_R s m args below meth c H1 locs1 (cells) (slots) Q (F0 m 219 ls [])) : W p l e cf_R s m args below meth c H locs (cells) (slots) Q (F0 m 214 ls []) := by
  obtain ⟨hx, hb, hml, hown, htn, hin, hK, hA, hX⟩ := B
  obtain ⟨hW, ea, ho, hso, hfl, hμ⟩ := Z
  have hts : ∀ w ∈ ax_Ts, w.before args s = true := fun w hw => htn w (cn_Ts_in hw)
  refine lv_aload_n hx hb cd_F_214 rfl h0 ?_
  refine lv_iconst hx hb cd_F_215 (v := (-1)) rfl ?_
  refine cn_puti (v := (-1)) (ea := ea) (Ts := ax_Ts) (n := 17) (T := aT_F) (C := "AskingFragments") (k := 16) hx hb hts aU_F (ty0 := cn_tF) cn_yF aN_F hown hK rfl hW hS ho hso (by decide) hfl hf (hts _ (ax_in (ax_wl_at (k := 2) (j := 70) rfl) rfl)) rfl rfl cd_F_216 (fun H5 locs5 μ5 hμ5 hW5 hS5 => ?_)
  exact kk H5 locs5 μ5 hμ5 ⟨hW5, ea, ho, hso, hfl, cn_hm hμ5 ho hμ⟩ hS5
end CF
