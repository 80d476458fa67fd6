/-! cn: the constructor of the class, put together -/
/-- the cells behind it -/
def cn_s_F (sh : Nat → ax_C) (N : Nat) (o : Nat) : Nat → ax_C := cx_set (cn_s_Spell (cx_set (cx_set (cn_s_Forest (cx_set (cx_set (cn_s_Image (cx_set (cx_set (cn_s_Image (cx_set (cx_set (cx_set (cx_set (cn_s_Run (cx_set (cx_set (cn_s_Run (cx_set (cx_set (cn_s_Run (cx_set (cx_set (cn_s_Run (cx_set (cx_set (cn_s_Run (cx_set (cx_set (cn_s_Run (cx_set (cx_set (cn_s_Run (cx_set (cx_set (cn_s_Run (cx_set (cx_set (cn_s_Run (cx_set (cx_set (cx_set (cx_set (cn_s_Run (cx_set (cx_set (cn_s_Run (cx_set (cx_set (cn_s_Rule (cx_set (cx_set (cn_s_Rule (cx_set (cx_set (cn_s_Net (cx_set (cx_set (cn_s_Net (cx_set (cx_set (cn_s_Reader (cx_set (cx_set (cx_set (sh) N (2, 940, [])) o (0, 0, [(2, N), (0, 0), (4, 0), (4, 0), (4, 0), (4, 0), (4, 0), (4, 0), (4, 0), (4, 0), (0, 0), (0, 0), (4, 0), (4, 0), (4, 0), (0, 0), (0, 0)])) (N + 1) (0, 4, [(4, 0), (0, 0), (0, 0), (0, 0), (0, 0), (0, 0), (0, 0), (0, 0), (0, 0), (0, 0)])) (N + 2) (N + 1) N) o (0, 0, [(2, N), (0, 0), (2, (N + 1)), (4, 0), (4, 0), (4, 0), (4, 0), (4, 0), (4, 0), (4, 0), (0, 0), (0, 0), (4, 0), (4, 0), (4, 0), (0, 0), (0, 0)])) (N + 2) (0, 3, [(0, 0), (0, 0), (4, 0), (4, 0), (4, 0), (4, 0)])) (N + 3) (N + 2)) o (0, 0, [(2, N), (0, 0), (2, (N + 1)), (2, (N + 2)), (4, 0), (4, 0), (4, 0), (4, 0), (4, 0), (4, 0), (0, 0), (0, 0), (4, 0), (4, 0), (4, 0), (0, 0), (0, 0)])) (N + 7) (0, 3, [(0, 0), (0, 0), (4, 0), (4, 0), (4, 0), (4, 0)])) (N + 8) (N + 7)) o (0, 0, [(2, N), (0, 0), (2, (N + 1)), (2, (N + 2)), (2, (N + 7)), (4, 0), (4, 0), (4, 0), (4, 0), (4, 0), (0, 0), (0, 0), (4, 0), (4, 0), (4, 0), (0, 0), (0, 0)])) (N + 12) (0, 5, [(0, 0), (4, 0), (4, 0), (4, 0), (4, 0), (4, 0), (4, 0), (4, 0), (0, 0)])) (N + 13) (N + 12)) o (0, 0, [(2, N), (0, 0), (2, (N + 1)), (2, (N + 2)), (2, (N + 7)), (2, (N + 12)), (4, 0), (4, 0), (4, 0), (4, 0), (0, 0), (0, 0), (4, 0), (4, 0), (4, 0), (0, 0), (0, 0)])) (N + 20) (0, 5, [(0, 0), (4, 0), (4, 0), (4, 0), (4, 0), (4, 0), (4, 0), (4, 0), (0, 0)])) (N + 21) (N + 20)) o (0, 0, [(2, N), (0, 0), (2, (N + 1)), (2, (N + 2)), (2, (N + 7)), (2, (N + 12)), (2, (N + 20)), (4, 0), (4, 0), (4, 0), (0, 0), (0, 0), (4, 0), (4, 0), (4, 0), (0, 0), (0, 0)])) (N + 28) (0, 6, [(4, 0), (4, 0), (4, 0), (4, 0), (4, 0), (4, 0), (4, 0), (4, 0), (4, 0), (4, 0), (4, 0), (0, 0), (0, 0), (0, 0), (0, 0), (0, 0), (0, 0), (0, 0)])) (N + 29) (N + 28) (N + 2)) o (0, 0, [(2, N), (0, 0), (2, (N + 1)), (2, (N + 2)), (2, (N + 7)), (2, (N + 12)), (2, (N + 20)), (2, (N + 28)), (4, 0), (4, 0), (0, 0), (0, 0), (4, 0), (4, 0), (4, 0), (0, 0), (0, 0)])) (N + 39) (0, 6, [(4, 0), (4, 0), (4, 0), (4, 0), (4, 0), (4, 0), (4, 0), (4, 0), (4, 0), (4, 0), (4, 0), (0, 0), (0, 0), (0, 0), (0, 0), (0, 0), (0, 0), (0, 0)])) (N + 40) (N + 39) (N + 2)) o (0, 0, [(2, N), (0, 0), (2, (N + 1)), (2, (N + 2)), (2, (N + 7)), (2, (N + 12)), (2, (N + 20)), (2, (N + 28)), (2, (N + 39)), (4, 0), (0, 0), (0, 0), (4, 0), (4, 0), (4, 0), (0, 0), (0, 0)])) (N + 50) (5, 9, [])) o (0, 0, [(2, N), (0, 0), (2, (N + 1)), (2, (N + 2)), (2, (N + 7)), (2, (N + 12)), (2, (N + 20)), (2, (N + 28)), (2, (N + 39)), (2, (N + 50)), (0, 0), (0, 0), (4, 0), (4, 0), (4, 0), (0, 0), (0, 0)])) (N + 51) (0, 6, [(4, 0), (4, 0), (4, 0), (4, 0), (4, 0), (4, 0), (4, 0), (4, 0), (4, 0), (4, 0), (4, 0), (0, 0), (0, 0), (0, 0), (0, 0), (0, 0), (0, 0), (0, 0)])) (N + 52) (N + 51) (N + 2)) (N + 50) (5, 9, [(2, (N + 51))])) (N + 62) (0, 6, [(4, 0), (4, 0), (4, 0), (4, 0), (4, 0), (4, 0), (4, 0), (4, 0), (4, 0), (4, 0), (4, 0), (0, 0), (0, 0), (0, 0), (0, 0), (0, 0), (0, 0), (0, 0)])) (N + 63) (N + 62) (N + 2)) (N + 50) (5, 9, [(2, (N + 51)), (2, (N + 62))])) (N + 73) (0, 6, [(4, 0), (4, 0), (4, 0), (4, 0), (4, 0), (4, 0), (4, 0), (4, 0), (4, 0), (4, 0), (4, 0), (0, 0), (0, 0), (0, 0), (0, 0), (0, 0), (0, 0), (0, 0)])) (N + 74) (N + 73) (N + 2)) (N + 50) (5, 9, [(2, (N + 51)), (2, (N + 62)), (2, (N + 73))])) (N + 84) (0, 6, [(4, 0), (4, 0), (4, 0), (4, 0), (4, 0), (4, 0), (4, 0), (4, 0), (4, 0), (4, 0), (4, 0), (0, 0), (0, 0), (0, 0), (0, 0), (0, 0), (0, 0), (0, 0)])) (N + 85) (N + 84) (N + 2)) (N + 50) (5, 9, [(2, (N + 51)), (2, (N + 62)), (2, (N + 73)), (2, (N + 84))])) (N + 95) (0, 6, [(4, 0), (4, 0), (4, 0), (4, 0), (4, 0), (4, 0), (4, 0), (4, 0), (4, 0), (4, 0), (4, 0), (0, 0), (0, 0), (0, 0), (0, 0), (0, 0), (0, 0), (0, 0)])) (N + 96) (N + 95) (N + 2)) (N + 50) (5, 9, [(2, (N + 51)), (2, (N + 62)), (2, (N + 73)), (2, (N + 84)), (2, (N + 95))])) (N + 106) (0, 6, [(4, 0), (4, 0), (4, 0), (4, 0), (4, 0), (4, 0), (4, 0), (4, 0), (4, 0), (4, 0), (4, 0), (0, 0), (0, 0), (0, 0), (0, 0), (0, 0), (0, 0), (0, 0)])) (N + 107) (N + 106) (N + 2)) (N + 50) (5, 9, [(2, (N + 51)), (2, (N + 62)), (2, (N + 73)), (2, (N + 84)), (2, (N + 95)), (2, (N + 106))])) (N + 117) (0, 6, [(4, 0), (4, 0), (4, 0), (4, 0), (4, 0), (4, 0), (4, 0), (4, 0), (4, 0), (4, 0), (4, 0), (0, 0), (0, 0), (0, 0), (0, 0), (0, 0), (0, 0), (0, 0)])) (N + 118) (N + 117) (N + 2)) (N + 50) (5, 9, [(2, (N + 51)), (2, (N + 62)), (2, (N + 73)), (2, (N + 84)), (2, (N + 95)), (2, (N + 106)), (2, (N + 117))])) (N + 128) (0, 6, [(4, 0), (4, 0), (4, 0), (4, 0), (4, 0), (4, 0), (4, 0), (4, 0), (4, 0), (4, 0), (4, 0), (0, 0), (0, 0), (0, 0), (0, 0), (0, 0), (0, 0), (0, 0)])) (N + 129) (N + 128) (N + 2)) (N + 50) (5, 9, [(2, (N + 51)), (2, (N + 62)), (2, (N + 73)), (2, (N + 84)), (2, (N + 95)), (2, (N + 106)), (2, (N + 117)), (2, (N + 128))])) (N + 139) (0, 6, [(4, 0), (4, 0), (4, 0), (4, 0), (4, 0), (4, 0), (4, 0), (4, 0), (4, 0), (4, 0), (4, 0), (0, 0), (0, 0), (0, 0), (0, 0), (0, 0), (0, 0), (0, 0)])) (N + 140) (N + 139) (N + 2)) (N + 50) (5, 9, [(2, (N + 51)), (2, (N + 62)), (2, (N + 73)), (2, (N + 84)), (2, (N + 95)), (2, (N + 106)), (2, (N + 117)), (2, (N + 128)), (2, (N + 139))])) (N + 150) (6, 2, [])) o (0, 0, [(2, N), (0, 0), (2, (N + 1)), (2, (N + 2)), (2, (N + 7)), (2, (N + 12)), (2, (N + 20)), (2, (N + 28)), (2, (N + 39)), (2, (N + 50)), (0, 0), (0, 0), (2, (N + 150)), (4, 0), (4, 0), (0, 0), (0, 0)])) (N + 151) (0, 2, [(4, 0), (4, 0), (4, 0), (3, 0)])) (N + 152) (N + 151)) (N + 150) (6, 2, [(2, (N + 151))])) (N + 176) (0, 2, [(4, 0), (4, 0), (4, 0), (3, 0)])) (N + 177) (N + 176)) (N + 150) (6, 2, [(2, (N + 151)), (2, (N + 176))])) (N + 201) (0, 1, [(4, 0), (4, 0), (4, 0), (0, 0), (0, 0), (0, 0)])) (N + 202) (N + 201) (N + 2)) o (0, 0, [(2, N), (0, 0), (2, (N + 1)), (2, (N + 2)), (2, (N + 7)), (2, (N + 12)), (2, (N + 20)), (2, (N + 28)), (2, (N + 39)), (2, (N + 50)), (0, 0), (0, 0), (2, (N + 150)), (2, (N + 201)), (4, 0), (0, 0), (0, 0)])) (N + 204) (0, 7, [(4, 0), (0, 0)])) (N + 205) (N + 204)) o (0, 0, [(2, N), (0, 0), (2, (N + 1)), (2, (N + 2)), (2, (N + 7)), (2, (N + 12)), (2, (N + 20)), (2, (N + 28)), (2, (N + 39)), (2, (N + 50)), (0, 0), (0, 0), (2, (N + 150)), (2, (N + 201)), (2, (N + 204)), (0, 0), (0, 0)])
theorem cn_s_F_ne {sh : Nat → ax_C} {N o x : Nat} (h1 : x < N) (h2 : x ≠ o) : cn_s_F sh N o x = sh x := by
  unfold cn_s_F
  rw [cn_set_ne (by omega), cn_s_Spell_ne (by omega) (by omega), cn_set_ne (by omega), cn_set_ne (by omega), cn_s_Forest_ne (by omega) (by omega), cn_set_ne (by omega), cn_set_ne (by omega), cn_s_Image_ne (by omega) (by omega), cn_set_ne (by omega), cn_set_ne (by omega), cn_s_Image_ne (by omega) (by omega), cn_set_ne (by omega), cn_set_ne (by omega), cn_set_ne (by omega), cn_set_ne (by omega), cn_s_Run_ne (by omega) (by omega), cn_set_ne (by omega), cn_set_ne (by omega), cn_s_Run_ne (by omega) (by omega), cn_set_ne (by omega), cn_set_ne (by omega), cn_s_Run_ne (by omega) (by omega), cn_set_ne (by omega), cn_set_ne (by omega), cn_s_Run_ne (by omega) (by omega), cn_set_ne (by omega), cn_set_ne (by omega), cn_s_Run_ne (by omega) (by omega), cn_set_ne (by omega), cn_set_ne (by omega), cn_s_Run_ne (by omega) (by omega), cn_set_ne (by omega), cn_set_ne (by omega), cn_s_Run_ne (by omega) (by omega), cn_set_ne (by omega), cn_set_ne (by omega), cn_s_Run_ne (by omega) (by omega), cn_set_ne (by omega), cn_set_ne (by omega), cn_s_Run_ne (by omega) (by omega), cn_set_ne (by omega), cn_set_ne (by omega), cn_set_ne (by omega), cn_set_ne (by omega), cn_s_Run_ne (by omega) (by omega), cn_set_ne (by omega), cn_set_ne (by omega), cn_s_Run_ne (by omega) (by omega), cn_set_ne (by omega), cn_set_ne (by omega), cn_s_Rule_ne (by omega) (by omega), cn_set_ne (by omega), cn_set_ne (by omega), cn_s_Rule_ne (by omega) (by omega), cn_set_ne (by omega), cn_set_ne (by omega), cn_s_Net_ne (by omega) (by omega), cn_set_ne (by omega), cn_set_ne (by omega), cn_s_Net_ne (by omega) (by omega), cn_set_ne (by omega), cn_set_ne (by omega), cn_s_Reader_ne (by omega) (by omega), cn_set_ne (by omega), cn_set_ne (by omega), cn_set_ne (by omega)]
theorem cn_s_F_at {sh : Nat → ax_C} {N o : Nat} : cn_s_F sh N o o = (0, 0, [(2, N), (0, 0), (2, (N + 1)), (2, (N + 2)), (2, (N + 7)), (2, (N + 12)), (2, (N + 20)), (2, (N + 28)), (2, (N + 39)), (2, (N + 50)), (0, 0), (0, 0), (2, (N + 150)), (2, (N + 201)), (2, (N + 204)), (0, 0), (0, 0)]) := cn_set_at
set_option maxHeartbeats 4000000 in
theorem cn_F (l : Launch) (Dg : va_G) (A : Nat → Prop) (cA : Nat → ClassId) (ad : Nat → Nat) (sh : Nat → ax_C) (N : Nat) (μ : ax_M) {o : Nat} {a : Nat} (e_a : ad o = a) (h_o : o < N) (hso : sh o = (0, 0, [(4, 0), (0, 0), (4, 0), (4, 0), (4, 0), (4, 0), (4, 0), (4, 0), (4, 0), (4, 0), (0, 0), (0, 0), (4, 0), (4, 0), (4, 0), (0, 0), (0, 0)])) (hμ : ∀ o, N ≤ o → μ.1 o = (fun _ => 0) ∧ μ.2 o = (fun _ => 0)) :
    Met l cn_d_F.1 (ax_ws cn_Ts cn_d_F) { frames := 3, cells := 206, slots := 39090, locals := 180 } (cn_P Dg A cA ad sh N μ [.ref a]) (cn_Q Dg A cA ad N (cn_s_F sh N o) (N + 206) (ax_up ((ax_up (μ).1 o 15 (-1), (μ).2)).1 o 16 (-1), ((ax_up (μ).1 o 15 (-1), (μ).2)).2)) 206 39090 A := by
  refine Met.ofW (cc := prog_1_method_1_code) (maxL := 2) (ret := none) (by decide) rfl ?_
  intro p e s m args below meth c s₁ B hml hv
  obtain ⟨rfl, hW, hK, hA, hX⟩ := hv
  have hx := B.exec
  have hb := B.bytes
  have hr := B.returns
  have hlocks := B.notSynchronized
  have hin : meth.name = "<init>" := (name_of_methodNamed B.named B.method).1
  have hts0 := atoms_spec (ws := ax_ws cn_Ts cn_d_F) B.pre
  have htn : ∀ w ∈ cn_Ts, w.before ([.ref a] : List Value).toArray s = true := fun w hw => hts0 w (List.mem_cons_of_mem _ hw)
  have hts : ∀ w ∈ ax_Ts, w.before ([.ref a] : List Value).toArray s = true := fun w hw => htn w (cn_Ts_in hw)
  have hown : s.vm.findClass "AskingFragments" = some m.cls := findClass_of_methodNamed B.named
  have hS : va_S A s.heap s.heap [] := va_S.rf
  have hoc := cn_objC hts
  have hl := lv_entry ([.ref a]) (n := 2) (Nat.le_of_ble_eq_true rfl)
  rw [lg_entry_eq]
  generalize (lg_sl ([.ref a]) ++ List.replicate (2 - (lg_sl ([.ref a])).length) Slot.unset).toArray = ls at hl ⊢
  have hl : lv_has ls 2 [(0, .ref a)] := hl
  refine lv_aload_n hx hb cd_F_0 rfl (lv_at hl 0 rfl) ?_
  refine W.objInit hx hb hown (hts (.methodLink "AskingFragments" 3 Lib.objectInit) (ax_in (ax_wl_at (k := 1) (j := 25) rfl) rfl)) hoc.1 hoc.2 rfl (by rw [hml]; exact hl.1) rfl cd_F_1 (Nat.le_of_ble_eq_true rfl) (Nat.le_of_ble_eq_true rfl) ?_
  refine W.eq (g2 := F0 m 4 ls []) rfl ?_
  have B0 : cf_B p s m _ meth c Dg A cA := ⟨hx, hb, hml, hown, htn, hin, hK, hA, hX⟩
  have h0 : ls[0]? = some (.val (.ref a)) := lv_at hl 0 rfl
  have hz : ls.size = 2 := hl.1
  have Z0 : cf_S Dg A cA ad sh N μ s.heap o a [(4, 0), (0, 0), (4, 0), (4, 0), (4, 0), (4, 0), (4, 0), (4, 0), (4, 0), (4, 0), (0, 0), (0, 0), (4, 0), (4, 0), (4, 0), (0, 0), (0, 0)] := ⟨hW, e_a, h_o, hso, rfl, hμ⟩
  have hb0 : ∀ x, x < N → ad x = ad x := fun _ _ => rfl
  refine cf_4 (fs' := [(2, N), (0, 0), (4, 0), (4, 0), (4, 0), (4, 0), (4, 0), (4, 0), (4, 0), (4, 0), (0, 0), (0, 0), (4, 0), (4, 0), (4, 0), (0, 0), (0, 0)]) B0 Z0 hS h0 hz rfl (Nat.le_of_ble_eq_true rfl) (Nat.le_of_ble_eq_true rfl) (fun H1 locs1 ad1 sh1 N1 hc1 he1 hN1 Z1 hS1 => ?_)
  obtain rfl : N1 = (N + 1) := by omega
  clear hN1
  have hb1 : ∀ x, x < N → ad1 x = ad x := fun x hx => (hc1 x (by omega)).trans (hb0 x hx)
  have hsh1 : sh1 = cx_set (cx_set sh N (2, 940, [])) o (0, 0, [(2, N), (0, 0), (4, 0), (4, 0), (4, 0), (4, 0), (4, 0), (4, 0), (4, 0), (4, 0), (0, 0), (0, 0), (4, 0), (4, 0), (4, 0), (0, 0), (0, 0)]) := he1
  refine cf_13 (fs' := [(2, N), (0, 0), (2, (N + 1)), (4, 0), (4, 0), (4, 0), (4, 0), (4, 0), (4, 0), (4, 0), (0, 0), (0, 0), (4, 0), (4, 0), (4, 0), (0, 0), (0, 0)]) B0 Z1 hS1 h0 hz rfl rfl (by omega) (Nat.le_of_ble_eq_true rfl) (Nat.le_of_ble_eq_true rfl) (fun H2 locs2 ad2 sh2 N2 hc2 he2 hN2 Z2 hS2 => ?_)
  obtain rfl : N2 = (N + 2) := by omega
  clear hN2
  have hb2 : ∀ x, x < N → ad2 x = ad x := fun x hx => (hc2 x (by omega)).trans (hb1 x hx)
  have hsh2 : sh2 = cx_set (cn_s_Reader (cx_set sh1 (N + 1) (0, 4, [(4, 0), (0, 0), (0, 0), (0, 0), (0, 0), (0, 0), (0, 0), (0, 0), (0, 0), (0, 0)])) (N + 2) (N + 1) N) o (0, 0, [(2, N), (0, 0), (2, (N + 1)), (4, 0), (4, 0), (4, 0), (4, 0), (4, 0), (4, 0), (4, 0), (0, 0), (0, 0), (4, 0), (4, 0), (4, 0), (0, 0), (0, 0)]) := he2
  refine cf_28 (fs' := [(2, N), (0, 0), (2, (N + 1)), (2, (N + 2)), (4, 0), (4, 0), (4, 0), (4, 0), (4, 0), (4, 0), (0, 0), (0, 0), (4, 0), (4, 0), (4, 0), (0, 0), (0, 0)]) B0 Z2 hS2 h0 hz rfl (Nat.le_of_ble_eq_true rfl) (Nat.le_of_ble_eq_true rfl) (fun H3 locs3 ad3 sh3 N3 hc3 he3 hN3 Z3 hS3 => ?_)
  obtain rfl : N3 = (N + 7) := by omega
  clear hN3
  have hb3 : ∀ x, x < N → ad3 x = ad x := fun x hx => (hc3 x (by omega)).trans (hb2 x hx)
  have hsh3 : sh3 = cx_set (cn_s_Net (cx_set sh2 (N + 2) (0, 3, [(0, 0), (0, 0), (4, 0), (4, 0), (4, 0), (4, 0)])) (N + 3) (N + 2)) o (0, 0, [(2, N), (0, 0), (2, (N + 1)), (2, (N + 2)), (4, 0), (4, 0), (4, 0), (4, 0), (4, 0), (4, 0), (0, 0), (0, 0), (4, 0), (4, 0), (4, 0), (0, 0), (0, 0)]) := he3
  refine cf_39 (fs' := [(2, N), (0, 0), (2, (N + 1)), (2, (N + 2)), (2, (N + 7)), (4, 0), (4, 0), (4, 0), (4, 0), (4, 0), (0, 0), (0, 0), (4, 0), (4, 0), (4, 0), (0, 0), (0, 0)]) B0 Z3 hS3 h0 hz rfl (Nat.le_of_ble_eq_true rfl) (Nat.le_of_ble_eq_true rfl) (fun H4 locs4 ad4 sh4 N4 hc4 he4 hN4 Z4 hS4 => ?_)
  obtain rfl : N4 = (N + 12) := by omega
  clear hN4
  have hb4 : ∀ x, x < N → ad4 x = ad x := fun x hx => (hc4 x (by omega)).trans (hb3 x hx)
  have hsh4 : sh4 = cx_set (cn_s_Net (cx_set sh3 (N + 7) (0, 3, [(0, 0), (0, 0), (4, 0), (4, 0), (4, 0), (4, 0)])) (N + 8) (N + 7)) o (0, 0, [(2, N), (0, 0), (2, (N + 1)), (2, (N + 2)), (2, (N + 7)), (4, 0), (4, 0), (4, 0), (4, 0), (4, 0), (0, 0), (0, 0), (4, 0), (4, 0), (4, 0), (0, 0), (0, 0)]) := he4
  refine cf_50 (fs' := [(2, N), (0, 0), (2, (N + 1)), (2, (N + 2)), (2, (N + 7)), (2, (N + 12)), (4, 0), (4, 0), (4, 0), (4, 0), (0, 0), (0, 0), (4, 0), (4, 0), (4, 0), (0, 0), (0, 0)]) B0 Z4 hS4 h0 hz rfl (Nat.le_of_ble_eq_true rfl) (Nat.le_of_ble_eq_true rfl) (fun H5 locs5 ad5 sh5 N5 hc5 he5 hN5 Z5 hS5 => ?_)
  obtain rfl : N5 = (N + 20) := by omega
  clear hN5
  have hb5 : ∀ x, x < N → ad5 x = ad x := fun x hx => (hc5 x (by omega)).trans (hb4 x hx)
  have hsh5 : sh5 = cx_set (cn_s_Rule (cx_set sh4 (N + 12) (0, 5, [(0, 0), (4, 0), (4, 0), (4, 0), (4, 0), (4, 0), (4, 0), (4, 0), (0, 0)])) (N + 13) (N + 12)) o (0, 0, [(2, N), (0, 0), (2, (N + 1)), (2, (N + 2)), (2, (N + 7)), (2, (N + 12)), (4, 0), (4, 0), (4, 0), (4, 0), (0, 0), (0, 0), (4, 0), (4, 0), (4, 0), (0, 0), (0, 0)]) := he5
  refine cf_61 (fs' := [(2, N), (0, 0), (2, (N + 1)), (2, (N + 2)), (2, (N + 7)), (2, (N + 12)), (2, (N + 20)), (4, 0), (4, 0), (4, 0), (0, 0), (0, 0), (4, 0), (4, 0), (4, 0), (0, 0), (0, 0)]) B0 Z5 hS5 h0 hz rfl (Nat.le_of_ble_eq_true rfl) (Nat.le_of_ble_eq_true rfl) (fun H6 locs6 ad6 sh6 N6 hc6 he6 hN6 Z6 hS6 => ?_)
  obtain rfl : N6 = (N + 28) := by omega
  clear hN6
  have hb6 : ∀ x, x < N → ad6 x = ad x := fun x hx => (hc6 x (by omega)).trans (hb5 x hx)
  have hsh6 : sh6 = cx_set (cn_s_Rule (cx_set sh5 (N + 20) (0, 5, [(0, 0), (4, 0), (4, 0), (4, 0), (4, 0), (4, 0), (4, 0), (4, 0), (0, 0)])) (N + 21) (N + 20)) o (0, 0, [(2, N), (0, 0), (2, (N + 1)), (2, (N + 2)), (2, (N + 7)), (2, (N + 12)), (2, (N + 20)), (4, 0), (4, 0), (4, 0), (0, 0), (0, 0), (4, 0), (4, 0), (4, 0), (0, 0), (0, 0)]) := he6
  refine cf_72 (fs' := [(2, N), (0, 0), (2, (N + 1)), (2, (N + 2)), (2, (N + 7)), (2, (N + 12)), (2, (N + 20)), (2, (N + 28)), (4, 0), (4, 0), (0, 0), (0, 0), (4, 0), (4, 0), (4, 0), (0, 0), (0, 0)]) B0 Z6 hS6 h0 hz rfl rfl (by omega) (Nat.le_of_ble_eq_true rfl) (Nat.le_of_ble_eq_true rfl) (fun H7 locs7 ad7 sh7 N7 hc7 he7 hN7 Z7 hS7 => ?_)
  obtain rfl : N7 = (N + 39) := by omega
  clear hN7
  have hb7 : ∀ x, x < N → ad7 x = ad x := fun x hx => (hc7 x (by omega)).trans (hb6 x hx)
  have hsh7 : sh7 = cx_set (cn_s_Run (cx_set sh6 (N + 28) (0, 6, [(4, 0), (4, 0), (4, 0), (4, 0), (4, 0), (4, 0), (4, 0), (4, 0), (4, 0), (4, 0), (4, 0), (0, 0), (0, 0), (0, 0), (0, 0), (0, 0), (0, 0), (0, 0)])) (N + 29) (N + 28) (N + 2)) o (0, 0, [(2, N), (0, 0), (2, (N + 1)), (2, (N + 2)), (2, (N + 7)), (2, (N + 12)), (2, (N + 20)), (2, (N + 28)), (4, 0), (4, 0), (0, 0), (0, 0), (4, 0), (4, 0), (4, 0), (0, 0), (0, 0)]) := he7
  refine cf_87 (fs' := [(2, N), (0, 0), (2, (N + 1)), (2, (N + 2)), (2, (N + 7)), (2, (N + 12)), (2, (N + 20)), (2, (N + 28)), (2, (N + 39)), (4, 0), (0, 0), (0, 0), (4, 0), (4, 0), (4, 0), (0, 0), (0, 0)]) B0 Z7 hS7 h0 hz rfl rfl (by omega) (Nat.le_of_ble_eq_true rfl) (Nat.le_of_ble_eq_true rfl) (fun H8 locs8 ad8 sh8 N8 hc8 he8 hN8 Z8 hS8 => ?_)
  obtain rfl : N8 = (N + 50) := by omega
  clear hN8
  have hb8 : ∀ x, x < N → ad8 x = ad x := fun x hx => (hc8 x (by omega)).trans (hb7 x hx)
  have hsh8 : sh8 = cx_set (cn_s_Run (cx_set sh7 (N + 39) (0, 6, [(4, 0), (4, 0), (4, 0), (4, 0), (4, 0), (4, 0), (4, 0), (4, 0), (4, 0), (4, 0), (4, 0), (0, 0), (0, 0), (0, 0), (0, 0), (0, 0), (0, 0), (0, 0)])) (N + 40) (N + 39) (N + 2)) o (0, 0, [(2, N), (0, 0), (2, (N + 1)), (2, (N + 2)), (2, (N + 7)), (2, (N + 12)), (2, (N + 20)), (2, (N + 28)), (2, (N + 39)), (4, 0), (0, 0), (0, 0), (4, 0), (4, 0), (4, 0), (0, 0), (0, 0)]) := he8
  refine cf_102 (fs' := [(2, N), (0, 0), (2, (N + 1)), (2, (N + 2)), (2, (N + 7)), (2, (N + 12)), (2, (N + 20)), (2, (N + 28)), (2, (N + 39)), (2, (N + 50)), (0, 0), (0, 0), (4, 0), (4, 0), (4, 0), (0, 0), (0, 0)]) B0 Z8 hS8 h0 hz rfl (Nat.le_of_ble_eq_true rfl) (Nat.le_of_ble_eq_true rfl) (fun H9 locs9 ad9 sh9 N9 hc9 he9 hN9 Z9 hS9 => ?_)
  obtain rfl : N9 = (N + 51) := by omega
  clear hN9
  have hb9 : ∀ x, x < N → ad9 x = ad x := fun x hx => (hc9 x (by omega)).trans (hb8 x hx)
  have hsh9 : sh9 = cx_set (cx_set sh8 (N + 50) (5, 9, [])) o (0, 0, [(2, N), (0, 0), (2, (N + 1)), (2, (N + 2)), (2, (N + 7)), (2, (N + 12)), (2, (N + 20)), (2, (N + 28)), (2, (N + 39)), (2, (N + 50)), (0, 0), (0, 0), (4, 0), (4, 0), (4, 0), (0, 0), (0, 0)]) := he9
  have ht9 : sh9 (N + 50) = (5, 9, []) := by rw [hsh9, cn_set_ne (by omega)]; exact cn_set_at
  refine lv_iconst hx hb cd_F_111 (v := (0)) rfl ?_
  refine lv_istore_n (lv' := [(1, .int (0)), (0, .ref a)]) hx hb cd_F_112 rfl hl (by decide) rfl (fun ls hl => ?_)
  refine cf_113_0 (ts := []) B0 Z9 hS9 hl rfl (by omega) rfl (by omega) (by omega) ht9 rfl (Nat.le_of_ble_eq_true rfl) (Nat.le_of_ble_eq_true rfl) (fun ls hl H10 locs10 ad10 sh10 N10 hc10 he10 hN10 Z10 hu10 hS10 => ?_)
  obtain rfl : N10 = (N + 62) := by omega
  clear hN10
  have hb10 : ∀ x, x < N → ad10 x = ad x := fun x hx => (hc10 x (by omega)).trans (hb9 x hx)
  have hsh10 : sh10 = cx_set (cn_s_Run (cx_set sh9 (N + 51) (0, 6, [(4, 0), (4, 0), (4, 0), (4, 0), (4, 0), (4, 0), (4, 0), (4, 0), (4, 0), (4, 0), (4, 0), (0, 0), (0, 0), (0, 0), (0, 0), (0, 0), (0, 0), (0, 0)])) (N + 52) (N + 51) (N + 2)) (N + 50) (5, 9, [(2, (N + 51))]) := he10
  have ht10 : sh10 (N + 50) = (5, 9, [(2, (N + 51))]) := hu10
  refine cf_113_1 (ts := [(2, (N + 51))]) B0 Z10 hS10 hl rfl (by omega) rfl (by omega) (by omega) ht10 rfl (Nat.le_of_ble_eq_true rfl) (Nat.le_of_ble_eq_true rfl) (fun ls hl H11 locs11 ad11 sh11 N11 hc11 he11 hN11 Z11 hu11 hS11 => ?_)
  obtain rfl : N11 = (N + 73) := by omega
  clear hN11
  have hb11 : ∀ x, x < N → ad11 x = ad x := fun x hx => (hc11 x (by omega)).trans (hb10 x hx)
  have hsh11 : sh11 = cx_set (cn_s_Run (cx_set sh10 (N + 62) (0, 6, [(4, 0), (4, 0), (4, 0), (4, 0), (4, 0), (4, 0), (4, 0), (4, 0), (4, 0), (4, 0), (4, 0), (0, 0), (0, 0), (0, 0), (0, 0), (0, 0), (0, 0), (0, 0)])) (N + 63) (N + 62) (N + 2)) (N + 50) (5, 9, [(2, (N + 51)), (2, (N + 62))]) := he11
  have ht11 : sh11 (N + 50) = (5, 9, [(2, (N + 51)), (2, (N + 62))]) := hu11
  refine cf_113_2 (ts := [(2, (N + 51)), (2, (N + 62))]) B0 Z11 hS11 hl rfl (by omega) rfl (by omega) (by omega) ht11 rfl (Nat.le_of_ble_eq_true rfl) (Nat.le_of_ble_eq_true rfl) (fun ls hl H12 locs12 ad12 sh12 N12 hc12 he12 hN12 Z12 hu12 hS12 => ?_)
  obtain rfl : N12 = (N + 84) := by omega
  clear hN12
  have hb12 : ∀ x, x < N → ad12 x = ad x := fun x hx => (hc12 x (by omega)).trans (hb11 x hx)
  have hsh12 : sh12 = cx_set (cn_s_Run (cx_set sh11 (N + 73) (0, 6, [(4, 0), (4, 0), (4, 0), (4, 0), (4, 0), (4, 0), (4, 0), (4, 0), (4, 0), (4, 0), (4, 0), (0, 0), (0, 0), (0, 0), (0, 0), (0, 0), (0, 0), (0, 0)])) (N + 74) (N + 73) (N + 2)) (N + 50) (5, 9, [(2, (N + 51)), (2, (N + 62)), (2, (N + 73))]) := he12
  have ht12 : sh12 (N + 50) = (5, 9, [(2, (N + 51)), (2, (N + 62)), (2, (N + 73))]) := hu12
  refine cf_113_3 (ts := [(2, (N + 51)), (2, (N + 62)), (2, (N + 73))]) B0 Z12 hS12 hl rfl (by omega) rfl (by omega) (by omega) ht12 rfl (Nat.le_of_ble_eq_true rfl) (Nat.le_of_ble_eq_true rfl) (fun ls hl H13 locs13 ad13 sh13 N13 hc13 he13 hN13 Z13 hu13 hS13 => ?_)
  obtain rfl : N13 = (N + 95) := by omega
  clear hN13
  have hb13 : ∀ x, x < N → ad13 x = ad x := fun x hx => (hc13 x (by omega)).trans (hb12 x hx)
  have hsh13 : sh13 = cx_set (cn_s_Run (cx_set sh12 (N + 84) (0, 6, [(4, 0), (4, 0), (4, 0), (4, 0), (4, 0), (4, 0), (4, 0), (4, 0), (4, 0), (4, 0), (4, 0), (0, 0), (0, 0), (0, 0), (0, 0), (0, 0), (0, 0), (0, 0)])) (N + 85) (N + 84) (N + 2)) (N + 50) (5, 9, [(2, (N + 51)), (2, (N + 62)), (2, (N + 73)), (2, (N + 84))]) := he13
  have ht13 : sh13 (N + 50) = (5, 9, [(2, (N + 51)), (2, (N + 62)), (2, (N + 73)), (2, (N + 84))]) := hu13
  refine cf_113_4 (ts := [(2, (N + 51)), (2, (N + 62)), (2, (N + 73)), (2, (N + 84))]) B0 Z13 hS13 hl rfl (by omega) rfl (by omega) (by omega) ht13 rfl (Nat.le_of_ble_eq_true rfl) (Nat.le_of_ble_eq_true rfl) (fun ls hl H14 locs14 ad14 sh14 N14 hc14 he14 hN14 Z14 hu14 hS14 => ?_)
  obtain rfl : N14 = (N + 106) := by omega
  clear hN14
  have hb14 : ∀ x, x < N → ad14 x = ad x := fun x hx => (hc14 x (by omega)).trans (hb13 x hx)
  have hsh14 : sh14 = cx_set (cn_s_Run (cx_set sh13 (N + 95) (0, 6, [(4, 0), (4, 0), (4, 0), (4, 0), (4, 0), (4, 0), (4, 0), (4, 0), (4, 0), (4, 0), (4, 0), (0, 0), (0, 0), (0, 0), (0, 0), (0, 0), (0, 0), (0, 0)])) (N + 96) (N + 95) (N + 2)) (N + 50) (5, 9, [(2, (N + 51)), (2, (N + 62)), (2, (N + 73)), (2, (N + 84)), (2, (N + 95))]) := he14
  have ht14 : sh14 (N + 50) = (5, 9, [(2, (N + 51)), (2, (N + 62)), (2, (N + 73)), (2, (N + 84)), (2, (N + 95))]) := hu14
  refine cf_113_5 (ts := [(2, (N + 51)), (2, (N + 62)), (2, (N + 73)), (2, (N + 84)), (2, (N + 95))]) B0 Z14 hS14 hl rfl (by omega) rfl (by omega) (by omega) ht14 rfl (Nat.le_of_ble_eq_true rfl) (Nat.le_of_ble_eq_true rfl) (fun ls hl H15 locs15 ad15 sh15 N15 hc15 he15 hN15 Z15 hu15 hS15 => ?_)
  obtain rfl : N15 = (N + 117) := by omega
  clear hN15
  have hb15 : ∀ x, x < N → ad15 x = ad x := fun x hx => (hc15 x (by omega)).trans (hb14 x hx)
  have hsh15 : sh15 = cx_set (cn_s_Run (cx_set sh14 (N + 106) (0, 6, [(4, 0), (4, 0), (4, 0), (4, 0), (4, 0), (4, 0), (4, 0), (4, 0), (4, 0), (4, 0), (4, 0), (0, 0), (0, 0), (0, 0), (0, 0), (0, 0), (0, 0), (0, 0)])) (N + 107) (N + 106) (N + 2)) (N + 50) (5, 9, [(2, (N + 51)), (2, (N + 62)), (2, (N + 73)), (2, (N + 84)), (2, (N + 95)), (2, (N + 106))]) := he15
  have ht15 : sh15 (N + 50) = (5, 9, [(2, (N + 51)), (2, (N + 62)), (2, (N + 73)), (2, (N + 84)), (2, (N + 95)), (2, (N + 106))]) := hu15
  refine cf_113_6 (ts := [(2, (N + 51)), (2, (N + 62)), (2, (N + 73)), (2, (N + 84)), (2, (N + 95)), (2, (N + 106))]) B0 Z15 hS15 hl rfl (by omega) rfl (by omega) (by omega) ht15 rfl (Nat.le_of_ble_eq_true rfl) (Nat.le_of_ble_eq_true rfl) (fun ls hl H16 locs16 ad16 sh16 N16 hc16 he16 hN16 Z16 hu16 hS16 => ?_)
  obtain rfl : N16 = (N + 128) := by omega
  clear hN16
  have hb16 : ∀ x, x < N → ad16 x = ad x := fun x hx => (hc16 x (by omega)).trans (hb15 x hx)
  have hsh16 : sh16 = cx_set (cn_s_Run (cx_set sh15 (N + 117) (0, 6, [(4, 0), (4, 0), (4, 0), (4, 0), (4, 0), (4, 0), (4, 0), (4, 0), (4, 0), (4, 0), (4, 0), (0, 0), (0, 0), (0, 0), (0, 0), (0, 0), (0, 0), (0, 0)])) (N + 118) (N + 117) (N + 2)) (N + 50) (5, 9, [(2, (N + 51)), (2, (N + 62)), (2, (N + 73)), (2, (N + 84)), (2, (N + 95)), (2, (N + 106)), (2, (N + 117))]) := he16
  have ht16 : sh16 (N + 50) = (5, 9, [(2, (N + 51)), (2, (N + 62)), (2, (N + 73)), (2, (N + 84)), (2, (N + 95)), (2, (N + 106)), (2, (N + 117))]) := hu16
  refine cf_113_7 (ts := [(2, (N + 51)), (2, (N + 62)), (2, (N + 73)), (2, (N + 84)), (2, (N + 95)), (2, (N + 106)), (2, (N + 117))]) B0 Z16 hS16 hl rfl (by omega) rfl (by omega) (by omega) ht16 rfl (Nat.le_of_ble_eq_true rfl) (Nat.le_of_ble_eq_true rfl) (fun ls hl H17 locs17 ad17 sh17 N17 hc17 he17 hN17 Z17 hu17 hS17 => ?_)
  obtain rfl : N17 = (N + 139) := by omega
  clear hN17
  have hb17 : ∀ x, x < N → ad17 x = ad x := fun x hx => (hc17 x (by omega)).trans (hb16 x hx)
  have hsh17 : sh17 = cx_set (cn_s_Run (cx_set sh16 (N + 128) (0, 6, [(4, 0), (4, 0), (4, 0), (4, 0), (4, 0), (4, 0), (4, 0), (4, 0), (4, 0), (4, 0), (4, 0), (0, 0), (0, 0), (0, 0), (0, 0), (0, 0), (0, 0), (0, 0)])) (N + 129) (N + 128) (N + 2)) (N + 50) (5, 9, [(2, (N + 51)), (2, (N + 62)), (2, (N + 73)), (2, (N + 84)), (2, (N + 95)), (2, (N + 106)), (2, (N + 117)), (2, (N + 128))]) := he17
  have ht17 : sh17 (N + 50) = (5, 9, [(2, (N + 51)), (2, (N + 62)), (2, (N + 73)), (2, (N + 84)), (2, (N + 95)), (2, (N + 106)), (2, (N + 117)), (2, (N + 128))]) := hu17
  refine cf_113_8 (ts := [(2, (N + 51)), (2, (N + 62)), (2, (N + 73)), (2, (N + 84)), (2, (N + 95)), (2, (N + 106)), (2, (N + 117)), (2, (N + 128))]) B0 Z17 hS17 hl rfl (by omega) rfl (by omega) (by omega) ht17 rfl (Nat.le_of_ble_eq_true rfl) (Nat.le_of_ble_eq_true rfl) (fun ls hl H18 locs18 ad18 sh18 N18 hc18 he18 hN18 Z18 hu18 hS18 => ?_)
  obtain rfl : N18 = (N + 150) := by omega
  clear hN18
  have hb18 : ∀ x, x < N → ad18 x = ad x := fun x hx => (hc18 x (by omega)).trans (hb17 x hx)
  have hsh18 : sh18 = cx_set (cn_s_Run (cx_set sh17 (N + 139) (0, 6, [(4, 0), (4, 0), (4, 0), (4, 0), (4, 0), (4, 0), (4, 0), (4, 0), (4, 0), (4, 0), (4, 0), (0, 0), (0, 0), (0, 0), (0, 0), (0, 0), (0, 0), (0, 0)])) (N + 140) (N + 139) (N + 2)) (N + 50) (5, 9, [(2, (N + 51)), (2, (N + 62)), (2, (N + 73)), (2, (N + 84)), (2, (N + 95)), (2, (N + 106)), (2, (N + 117)), (2, (N + 128)), (2, (N + 139))]) := he18
  have ht18 : sh18 (N + 50) = (5, 9, [(2, (N + 51)), (2, (N + 62)), (2, (N + 73)), (2, (N + 84)), (2, (N + 95)), (2, (N + 106)), (2, (N + 117)), (2, (N + 128)), (2, (N + 139))]) := hu18
  refine cf_113_x B0 Z18 hS18 hl rfl (by omega) ht18 ?_
  have h0 : ls[0]? = some (.val (.ref a)) := lv_at hl 1 rfl
  have hz : ls.size = 2 := hl.1
  refine cf_145 (fs' := [(2, N), (0, 0), (2, (N + 1)), (2, (N + 2)), (2, (N + 7)), (2, (N + 12)), (2, (N + 20)), (2, (N + 28)), (2, (N + 39)), (2, (N + 50)), (0, 0), (0, 0), (2, (N + 150)), (4, 0), (4, 0), (0, 0), (0, 0)]) B0 Z18 hS18 h0 hz rfl (Nat.le_of_ble_eq_true rfl) (Nat.le_of_ble_eq_true rfl) (fun H19 locs19 ad19 sh19 N19 hc19 he19 hN19 Z19 hS19 => ?_)
  obtain rfl : N19 = (N + 151) := by omega
  clear hN19
  have hb19 : ∀ x, x < N → ad19 x = ad x := fun x hx => (hc19 x (by omega)).trans (hb18 x hx)
  have hsh19 : sh19 = cx_set (cx_set sh18 (N + 150) (6, 2, [])) o (0, 0, [(2, N), (0, 0), (2, (N + 1)), (2, (N + 2)), (2, (N + 7)), (2, (N + 12)), (2, (N + 20)), (2, (N + 28)), (2, (N + 39)), (2, (N + 50)), (0, 0), (0, 0), (2, (N + 150)), (4, 0), (4, 0), (0, 0), (0, 0)]) := he19
  have ht19 : sh19 (N + 150) = (6, 2, []) := by rw [hsh19, cn_set_ne (by omega)]; exact cn_set_at
  refine lv_iconst hx hb cd_F_153 (v := (0)) rfl ?_
  refine lv_istore_n (lv' := [(1, .int (0)), (0, .ref a)]) hx hb cd_F_154 rfl hl (by decide) rfl (fun ls hl => ?_)
  refine cf_155_0 (ts := []) B0 Z19 hS19 hl rfl (by omega) (by omega) ht19 rfl (Nat.le_of_ble_eq_true rfl) (Nat.le_of_ble_eq_true rfl) (fun ls hl H20 locs20 ad20 sh20 N20 hc20 he20 hN20 Z20 hu20 hS20 => ?_)
  obtain rfl : N20 = (N + 176) := by omega
  clear hN20
  have hb20 : ∀ x, x < N → ad20 x = ad x := fun x hx => (hc20 x (by omega)).trans (hb19 x hx)
  have hsh20 : sh20 = cx_set (cn_s_Image (cx_set sh19 (N + 151) (0, 2, [(4, 0), (4, 0), (4, 0), (3, 0)])) (N + 152) (N + 151)) (N + 150) (6, 2, [(2, (N + 151))]) := he20
  have ht20 : sh20 (N + 150) = (6, 2, [(2, (N + 151))]) := hu20
  refine cf_155_1 (ts := [(2, (N + 151))]) B0 Z20 hS20 hl rfl (by omega) (by omega) ht20 rfl (Nat.le_of_ble_eq_true rfl) (Nat.le_of_ble_eq_true rfl) (fun ls hl H21 locs21 ad21 sh21 N21 hc21 he21 hN21 Z21 hu21 hS21 => ?_)
  obtain rfl : N21 = (N + 201) := by omega
  clear hN21
  have hb21 : ∀ x, x < N → ad21 x = ad x := fun x hx => (hc21 x (by omega)).trans (hb20 x hx)
  have hsh21 : sh21 = cx_set (cn_s_Image (cx_set sh20 (N + 176) (0, 2, [(4, 0), (4, 0), (4, 0), (3, 0)])) (N + 177) (N + 176)) (N + 150) (6, 2, [(2, (N + 151)), (2, (N + 176))]) := he21
  have ht21 : sh21 (N + 150) = (6, 2, [(2, (N + 151)), (2, (N + 176))]) := hu21
  refine cf_155_x B0 Z21 hS21 hl rfl (by omega) ht21 ?_
  have h0 : ls[0]? = some (.val (.ref a)) := lv_at hl 1 rfl
  have hz : ls.size = 2 := hl.1
  refine cf_183 (fs' := [(2, N), (0, 0), (2, (N + 1)), (2, (N + 2)), (2, (N + 7)), (2, (N + 12)), (2, (N + 20)), (2, (N + 28)), (2, (N + 39)), (2, (N + 50)), (0, 0), (0, 0), (2, (N + 150)), (2, (N + 201)), (4, 0), (0, 0), (0, 0)]) B0 Z21 hS21 h0 hz rfl rfl (by omega) (Nat.le_of_ble_eq_true rfl) (Nat.le_of_ble_eq_true rfl) (fun H22 locs22 ad22 sh22 N22 hc22 he22 hN22 Z22 hS22 => ?_)
  obtain rfl : N22 = (N + 204) := by omega
  clear hN22
  have hb22 : ∀ x, x < N → ad22 x = ad x := fun x hx => (hc22 x (by omega)).trans (hb21 x hx)
  have hsh22 : sh22 = cx_set (cn_s_Forest (cx_set sh21 (N + 201) (0, 1, [(4, 0), (4, 0), (4, 0), (0, 0), (0, 0), (0, 0)])) (N + 202) (N + 201) (N + 2)) o (0, 0, [(2, N), (0, 0), (2, (N + 1)), (2, (N + 2)), (2, (N + 7)), (2, (N + 12)), (2, (N + 20)), (2, (N + 28)), (2, (N + 39)), (2, (N + 50)), (0, 0), (0, 0), (2, (N + 150)), (2, (N + 201)), (4, 0), (0, 0), (0, 0)]) := he22
  refine cf_198 (fs' := [(2, N), (0, 0), (2, (N + 1)), (2, (N + 2)), (2, (N + 7)), (2, (N + 12)), (2, (N + 20)), (2, (N + 28)), (2, (N + 39)), (2, (N + 50)), (0, 0), (0, 0), (2, (N + 150)), (2, (N + 201)), (2, (N + 204)), (0, 0), (0, 0)]) B0 Z22 hS22 h0 hz rfl (Nat.le_of_ble_eq_true rfl) (Nat.le_of_ble_eq_true rfl) (fun H23 locs23 ad23 sh23 N23 hc23 he23 hN23 Z23 hS23 => ?_)
  obtain rfl : N23 = (N + 206) := by omega
  clear hN23
  have hb23 : ∀ x, x < N → ad23 x = ad x := fun x hx => (hc23 x (by omega)).trans (hb22 x hx)
  have hsh23 : sh23 = cx_set (cn_s_Spell (cx_set sh22 (N + 204) (0, 7, [(4, 0), (0, 0)])) (N + 205) (N + 204)) o (0, 0, [(2, N), (0, 0), (2, (N + 1)), (2, (N + 2)), (2, (N + 7)), (2, (N + 12)), (2, (N + 20)), (2, (N + 28)), (2, (N + 39)), (2, (N + 50)), (0, 0), (0, 0), (2, (N + 150)), (2, (N + 201)), (2, (N + 204)), (0, 0), (0, 0)]) := he23
  refine cf_209 B0 Z23 hS23 h0 rfl (fun H24 locs24 μ24 hμ24 Z24 hS24 => ?_)
  have hb24 := hb23
  refine cf_214 B0 Z24 hS24 h0 rfl (fun H25 locs25 μ25 hμ25 Z25 hS25 => ?_)
  have hb25 := hb24
  have hWz : cx_W Dg ax_cl A cA ad23 (cn_s_F sh N o) (N + 206) (ax_up ((ax_up (μ).1 o 15 (-1), (μ).2)).1 o 16 (-1), ((ax_up (μ).1 o 15 (-1), (μ).2)).2) H25 := by
    have hh := Z25.1
    subst hμ25 hμ24 hsh23 hsh22 hsh21 hsh20 hsh19 hsh18 hsh17 hsh16 hsh15 hsh14 hsh13 hsh12 hsh11 hsh10 hsh9 hsh8 hsh7 hsh6 hsh5 hsh4 hsh3 hsh2 hsh1
    exact hh
  exact W.vret hx hb hr (fun t ht hWm => ⟨⟨ad23, rfl, hb25, by subst ht; exact hWz⟩, hS25.F ht⟩) hS25.2.2 cd_F_219
