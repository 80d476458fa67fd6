/-! r: the law, its prologue -/
section CNC2
variable {p : Program} {l : Launch} {e : Env} {R : Room} {s : State} {m : MethodId} {args : Array Value} {below : List Frame} {meth : Method} {c : Code} {H : Heap} {locs : List Loc} {cells slots : Nat} {Q : State → Prop}
variable {cc : ByteArray} {pc nL : Nat} {ls : Array Slot} {rest : List Value} {Dg : va_G} {A : Nat → Prop} {cA : Nat → ClassId} {ad : Nat → Nat} {sh : Nat → ax_C} {N : Nat} {μ μ' : ax_M}
theorem cn_callm (hexec : p.tables.exec = Jvm.exec) (hb : c.code = cc) (hml : c.maxLocals = nL) {own host : String} {index : Nat} (hown : s.vm.findClass own = some m.cls) (htn : ∀ w ∈ cn_Ts, w.before args s = true) {d : ax_D} {rm : Room} {b mc ms : Nat} {As : List Value} {sh' : Nat → ax_C} {N' : Nat}
    (hM : Met l d.1 (ax_ws cn_Ts d) rm (cn_P Dg A cA ad sh N μ (.ref b :: As)) (cn_Q Dg A cA ad N sh' N' μ') mc ms A) (hret : d.2.2.2.1 = none) (hrc : rm.cells = mc ∧ rm.slots = ms) (hcode : Jvm.Cond.code d.1 d.2.1 d.2.2.1 d.2.2.2.1 ∈ ax_Ts) (hini : Jvm.Cond.initialized d.1.cls ∈ ax_Ts) (hlk : (Jvm.Cond.methodLink own index d.1).before args s = true ∨ va_Nw (.methodLinkNest own index d.1 host) s)
    (hname : d.1.name = "<init>") (hinst : Jvm.Cond.instanceMethod d.1 ∈ ax_Ts) (hd : d.1.cls ≠ "java/lang/invoke/MethodHandle" ∧ d.1.cls ≠ "java/lang/invoke/VarHandle" ∧ (parseMethodDescriptor d.1.desc).map (fun d => d.parameters.length) = some As.length) (hR : rm.frames + 1 ≤ R.frames ∧ 8 + (d.2.2.1 + 11) + rm.locals ≤ R.locals)
    (hK : va_K Dg ax_cl (ax_ty cA) s) (hW : cx_W Dg ax_cl A cA ad sh N μ H) (hS : va_S A s.heap H locs) (hA : ∀ q, s.heap.size ≤ q → A q) (hX : cn_X s) {st0 : List Value} (hst : st0 = As.reverse ++ .ref b :: rest) (hls : ls.size = nL) (hfit : (rest.map fun v => v.category).sum ≤ 8) (hdg : decode cc pc = .ok (.invokespecial index, 3)) (hf : cells + mc ≤ R.cells ∧ slots + ms ≤ R.slots)
    (kk : ∀ (H1 : Heap) (locs1 : List Loc) (ad1 : Nat → Nat) (sh1 : Nat → ax_C) (N1 : Nat), (∀ o, o < N → ad1 o = ad o) → sh1 = sh' → N1 = N' → cx_W Dg ax_cl A cA ad1 sh1 N1 μ' H1 → va_S A s.heap H1 locs1 → W p l e R s m args below meth c H1 locs1 (cells + mc) (slots + ms) Q (F0 m (pc + 3) ls rest)) : W p l e R s m args below meth c H locs cells slots Q (F0 m pc ls st0) := by
  have hp : PreS s H (cn_P Dg A cA ad sh N μ (.ref b :: As)) (.ref b :: As) := ⟨cn_blind, fun U hU hWm => ⟨rfl, by rw [hU]; exact hW, va_K.moved hWm.alike hK, fun q hq => hA q (Nat.le_trans hS.1 (by rw [← hU]; exact hq)), cn_Xc hX hWm⟩⟩
  have hrun : va_Run p l e R s m args below meth c H locs cells slots mc ms (F0 m pc ls st0) rest (cn_Q Dg A cA ad N sh' N' μ' (Value.ref b :: As).toArray) A := by
    have hfit' : 2 * (F0 m pc ls st0).monitorRoom + (rest.map fun v => v.category).sum ≤ 8 := by simpa [JFrame.monitorRoom] using hfit
    rcases hlk with hlk | hlk
    · have cw : CallB R s args own index d.1 d.2.1 d.2.2.1 none (ax_ws cn_Ts d) rm mc ms As.length := callB_of As.length htn (cn_good hcode) (by rw [← hret]; rfl) hrc.1 hrc.2 (htn _ (cn_Ts_in hini)) hlk hd hR
      exact va_runI ⟨hexec, hb, hml, hown, htn⟩ hM ⟨cw, hname, htn _ (cn_Ts_in hinst)⟩ hp rfl rfl hls hst hfit' hdg hf
    · have cw : va_CN R s args own index d.1 host d.2.1 d.2.2.1 none (ax_ws cn_Ts d) rm mc ms As.length := va_cnB As.length htn (cn_good hcode) (by rw [← hret]; rfl) hrc.1 hrc.2 hlk (htn _ (cn_Ts_in hini)) hd hR
      exact va_runIN ⟨hexec, hb, hml, hown, htn⟩ hM ⟨cw, hname, htn _ (cn_Ts_in hinst)⟩ hp rfl rfl hls hst hfit' hdg hf
  refine va_callv hrun hS (fun _ _ q => q) (fun _ q => q) (fun ad1 t H1 locs1 e1 _ hp hb2 _ _ hS1 => ?_)
  exact kk H1 locs1 ad1 sh' N' hp rfl rfl (by rw [← e1]; exact hb2) hS1
end CNC2
theorem dl_0 : decode code 0 = .ok (.new 8, 3) := by decide +kernel
theorem dl_3 : decode code 3 = .ok (.dup, 1) := by decide +kernel
theorem dl_4 : decode code 4 = .ok (.invokespecial 24, 3) := by decide +kernel
theorem dl_7 : decode code 7 = .ok (.astore_n 1, 1) := by decide +kernel
theorem dl_8 : decode code 8 = .ok (.new 25, 3) := by decide +kernel
theorem dl_11 : decode code 11 = .ok (.dup, 1) := by decide +kernel
theorem dl_12 : decode code 12 = .ok (.invokespecial 27, 3) := by decide +kernel
theorem dl_15 : decode code 15 = .ok (.astore_n 2, 1) := by decide +kernel
theorem dl_16 : decode code 16 = .ok (.iconst (1), 1) := by decide +kernel
theorem dl_17 : decode code 17 = .ok (.newarray .long, 2) := by decide +kernel
theorem dl_19 : decode code 19 = .ok (.astore_n 3, 1) := by decide +kernel
theorem dl_20 : decode code 20 = .ok (.iconst (0), 1) := by decide +kernel
theorem dl_21 : decode code 21 = .ok (.istore 4, 2) := by decide +kernel
theorem la_m2z7 : ∀ o, 207 ≤ o → la_m2.1 o = (fun _ => 0) ∧ la_m2.2 o = (fun _ => 0) := fun o ho => ⟨by
  show ax_up (ax_up (la_m0).1 0 15 (-1)) 0 16 (-1) o = _
  rw [ax_up_ne (by omega), ax_up_ne (by omega)]
  rfl, rfl⟩
theorem la_m4z : la_m4.1 225 = (fun _ => 0) ∧ la_m4.2 225 = (fun _ => 0) := ⟨funext fun k => by rw [la_at, if_neg (by omega), if_neg (by omega), if_neg (by omega), if_neg (by omega), if_neg (by omega)], rfl⟩
theorem cx_W_ad {Dg : va_G} {cl : List vw_C} {A : Nat → Prop} {cA : Nat → ClassId} {ad ad' : Nat → Nat} {sh : Nat → ax_C} {N : Nat} {μ : ax_M} {H : Heap} (h : ∀ o, o < N → ad' o = ad o) (hW : cx_W Dg cl A cA ad sh N μ H) : cx_W Dg cl A cA ad' sh N μ H := by
  obtain ⟨h1, h2, h3⟩ := hW
  have e : cx_w cA ad' sh N μ = cx_w cA ad sh N μ := by
    unfold cx_w
    apply List.map_congr_left
    intro o ho
    have hoN : o < N := List.mem_range.mp ho
    rw [h o hoN, cx_en_ad (ad := ad) (ad' := ad') (fun q hq => h _ (h3 o hoN q hq)) rfl rfl]
  unfold cx_W
  rw [e]
  exact ⟨h1, h2, h3⟩
def la_5 : Nat → ax_C := cx_set la_4 225 (4, 1, [])
theorem la_split {s : State} {Dg : va_G} {cA : Nat → ClassId} {ad : Nat → Nat} {H : Heap} (hW : cx_W Dg ax_cl (fun q : Nat => s.heap.size ≤ q) cA ad la_5 226 la_m4 H) : ax_W Dg ax_cl (la_A s (ad 225)) cA ad ax_sh ax_NC la_m4 H ∧ la_Out Dg cA (ad 225) H := by
  have h := cx_ax (N' := 225) (sh' := ax_sh) (μ' := la_m4) hW (by omega) (fun o ho => (cn_set_ne (by omega)).trans (la_sh o ho)) la_nn (fun _ _ => ⟨rfl, rfl⟩)
  refine ⟨⟨h.1, h.2.1, fun k q hq => ⟨h.2.2 k q hq, fun e => ?_⟩⟩, la_m4.2 225, fun k q hq => ?_⟩
  · have hq' : (ax_w cA ad ax_sh 225 la_m4)[k]? = some q := hq
    have hk : k < 225 := by
      have := (List.getElem?_eq_some_iff.mp hq').1
      simpa [ax_w] using this
    rw [ax_w_at hk] at hq'
    cases hq'
    have := hW.2.1.1 k 225 _ _ (cx_w_at (by omega)) (cx_w_at (by omega)) e
    omega
  · match k, hq with
    | 0, hq =>
      cases hq
      have := hW.1 225 _ (cx_w_at (by omega))
      rw [show la_5 225 = (4, 1, []) from cn_set_at] at this
      exact this
    | k + 1, hq => simp at hq
section LAW4
variable {p : Program} {l : Launch} {e : Env} {s : State} {m : MethodId} {below : List Frame} {meth : Method} {c : Code} {b L : Nat} {xs : Nat → Int32} {Dg : va_G} {cA : Nat → ClassId} {adT adV : Nat → Nat} {vF : Value}
set_option maxHeartbeats 4000000 in
theorem la_pro (hL : L ≤ 3072) (C0 : lw_At p s m meth c b L xs) (hK : va_K Dg ax_cl (ax_ty cA) s) (hcX : cn_X s) (htn : ∀ w ∈ cn_Ts, w.before #[Value.ref b] s = true) (hAX : ∀ (ad : Nat → Nat) (oa : Nat), (∀ j, ad (1000 + j) = adT (1000 + j)) → ax_X ad adV (la_A s oa) vF s) (hT : ∀ (ad : Nat → Nat) (oa : Nat), s.heap.size ≤ oa → la_K s oa Dg cA ad adV vF → la_T p l e s m below meth c b L Dg cA ad oa 353 ∧ la_T p l e s m below meth c b L Dg cA ad oa 421 ∧ la_T p l e s m below meth c b L Dg cA ad oa 489 ∧ la_T p l e s m below meth c b L Dg cA ad oa 870) : W p l e room_1 s m #[Value.ref b] below meth c s.heap [] 0 0 (lw_Z below #[Value.ref b] s) (entryFrame m ([Value.ref b] : List Value).toArray 7) := by
  obtain ⟨hx, hb, hr, hml, hown, hts, hX, hbl, hlocks, hgv⟩ := id C0
  have htx := la_ts hts
  have hA : ∀ q : Nat, s.heap.size ≤ q → (fun q : Nat => s.heap.size ≤ q) q := fun _ h => h
  have hS : va_S (fun q : Nat => s.heap.size ≤ q) s.heap s.heap [] := va_S.rf
  have hW0 : cx_W Dg ax_cl (fun q : Nat => s.heap.size ≤ q) cA (fun o => o) la_z 0 la_m0 s.heap := ⟨fun k q h => by simp [cx_w] at h, ⟨fun i j p q h => by simp [cx_w] at h, fun k q h => by simp [cx_w] at h⟩, fun o ho => by omega⟩
  have hz0 : ∀ o, 0 ≤ o → la_m0.1 o = (fun _ => 0) ∧ la_m0.2 o = (fun _ => 0) := fun _ _ => ⟨rfl, rfl⟩
  have hl := lv_entry ([.ref b]) (n := 7) (Nat.le_of_ble_eq_true rfl)
  rw [lg_entry_eq]
  generalize (lg_sl ([.ref b]) ++ List.replicate (7 - (lg_sl ([.ref b])).length) Slot.unset).toArray = ls at hl ⊢
  have hl : lv_has ls 7 [(0, .ref b)] := hl
  refine cn_new (Ts := ax_Ts) (ci := 0) (fs := [(4, 0), (0, 0), (4, 0), (4, 0), (4, 0), (4, 0), (4, 0), (4, 0), (4, 0), (4, 0), (0, 0), (0, 0), (4, 0), (4, 0), (4, 0), (0, 0), (0, 0)]) hx hb htx aU_F cn_tF cn_yF hown (hts _ (ax_wl_at (k := 1) (j := 20) rfl)) (htx _ (ax_in (ax_wl_at (k := 1) (j := 21) rfl) rfl)) (htx _ aI_F.1) hK rfl hW0 hS hA (cn_h0 (hz0 _ (by decide))) (by decide) cn_fF (Nat.le_of_ble_eq_true rfl) (Nat.le_of_ble_eq_true rfl) dl_0 (fun q1 H1 ad1 sh1 N1 had1 hsh1 hN1 hW1 hS1 => ?_)
  obtain rfl : N1 = 1 := by omega
  have hsh1 : sh1 = la_1 := hsh1
  subst hsh1
  have e1 : ad1 0 = q1 := by rw [had1]; exact cn_ext_at
  refine lv_dup hx hb dl_3 rfl ?_
  refine cn_callm (host := "AskingFragments") (d := cn_d_F) (rm := { frames := 3, cells := 206, slots := 39090, locals := 180 }) (mc := 206) (ms := 39090) (b := q1) (As := []) hx hb hml hown htn (cn_F l Dg (fun q : Nat => s.heap.size ≤ q) cA ad1 la_1 1 la_m0 e1 (by decide) cn_set_at la_m0z) rfl ⟨rfl, rfl⟩ (ax_in (ax_wl_at (k := 1) (j := 24) rfl) rfl) aI_F.1 (Or.inl (hts _ (ax_wl_at (k := 1) (j := 22) rfl))) rfl (ax_in (ax_wl_at (k := 1) (j := 23) rfl) rfl) ⟨aI_F.2.2.1, aI_F.2.2.2, cn_p_F⟩ ⟨(Nat.le_of_ble_eq_true rfl), (Nat.le_of_ble_eq_true rfl)⟩ hK hW1 hS1 hA hcX rfl hl.1 (Nat.le_of_ble_eq_true rfl) dl_4 ⟨(Nat.le_of_ble_eq_true rfl), (Nat.le_of_ble_eq_true rfl)⟩ (fun H2 locs2 ad2 sh2 N2 hal2 hsh2 hN2 hW2 hS2 => ?_)
  obtain rfl : N2 = 207 := by omega
  have hsh2 : sh2 = la_2 := hsh2
  subst hsh2
  have hW2 : cx_W Dg ax_cl (fun q : Nat => s.heap.size ≤ q) cA ad2 la_2 207 la_m2 H2 := hW2
  refine lv_astore_n (lv' := [(1, .ref q1), (0, .ref b)]) hx hb dl_7 rfl hl (by decide) rfl (fun ls hl => ?_)
  refine cn_new (Ts := ax_Ts) (ci := 8) (fs := [(0, 0), (4, 0), (0, 0), (0, 0), (0, 0), (0, 0), (0, 0), (0, 0), (0, 0), (0, 0), (0, 0), (0, 0), (1, 0), (0, 0), (4, 0), (4, 0), (4, 0), (4, 0), (4, 0), (4, 0), (4, 0), (4, 0), (4, 0), (4, 0), (0, 0), (4, 0), (4, 0), (4, 0), (4, 0), (4, 0), (0, 0), (0, 0), (0, 0), (4, 0), (0, 0)]) hx hb htx aU_M cn_tM cn_yM hown (hts _ (ax_wl_at (k := 5) (j := 212) rfl)) (htx _ (ax_in (ax_wl_at (k := 5) (j := 206) rfl) rfl)) (htx _ aI_M.1) hK rfl hW2 hS2 hA (cn_h0 (la_m2z7 _ (by decide))) (by decide) cn_fM (Nat.le_of_ble_eq_true rfl) (Nat.le_of_ble_eq_true rfl) dl_8 (fun q3 H3 ad3 sh3 N3 had3 hsh3 hN3 hW3 hS3 => ?_)
  obtain rfl : N3 = 208 := by omega
  have hsh3 : sh3 = la_3 := hsh3
  subst hsh3
  have e3 : ad3 207 = q3 := by rw [had3]; exact cn_ext_at
  have e30 : ad3 0 = q1 := by rw [had3, cn_ext (by omega), hal2 0 (by omega)]; exact e1
  refine lv_dup hx hb dl_11 rfl ?_
  refine cn_callm (host := "AskingFragments") (d := cn_d_M) (rm := { frames := 1, cells := 17, slots := 31809, locals := 60 }) (mc := 17) (ms := 31809) (b := q3) (As := []) hx hb hml hown htn (cn_M l Dg (fun q : Nat => s.heap.size ≤ q) cA ad3 la_3 208 la_m2 e3 (by decide) cn_set_at la_m2z) rfl ⟨rfl, rfl⟩ (ax_in (ax_wl_at (k := 5) (j := 215) rfl) rfl) aI_M.1 (Or.inl (hts _ (ax_wl_at (k := 5) (j := 213) rfl))) rfl (ax_in (ax_wl_at (k := 5) (j := 214) rfl) rfl) ⟨aI_M.2.2.1, aI_M.2.2.2, cn_p_M⟩ ⟨(Nat.le_of_ble_eq_true rfl), (Nat.le_of_ble_eq_true rfl)⟩ hK hW3 hS3 hA hcX rfl hl.1 (Nat.le_of_ble_eq_true rfl) dl_12 ⟨(Nat.le_of_ble_eq_true rfl), (Nat.le_of_ble_eq_true rfl)⟩ (fun H4 locs4 ad4 sh4 N4 hal4 hsh4 hN4 hW4 hS4 => ?_)
  obtain rfl : N4 = 225 := by omega
  have hsh4 : sh4 = la_4 := hsh4
  subst hsh4
  have hW4 : cx_W Dg ax_cl (fun q : Nat => s.heap.size ≤ q) cA ad4 la_4 225 la_m4 H4 := hW4
  refine lv_astore_n (lv' := [(2, .ref q3), (1, .ref q1), (0, .ref b)]) hx hb dl_15 rfl hl (by decide) rfl (fun ls hl => ?_)
  refine lv_iconst (v := 1) hx hb dl_16 (by decide) ?_
  refine cn_newa (len := 1) hx hb (htn _ (List.mem_of_getElem? (i := 2) rfl)) 4 (by decide) rfl rfl hK hW4 hS4 hA ⟨la_m4z.1, la_m4z.2⟩ (by decide) rfl (by decide) (Nat.le_of_ble_eq_true rfl) (Nat.le_of_ble_eq_true rfl) dl_17 (fun q5 H5 ad5 sh5 N5 had5 hsh5 hN5 hW5 hS5 => ?_)
  obtain rfl : N5 = 226 := by omega
  have hsh5 : sh5 = la_5 := hsh5
  subst hsh5
  refine lv_astore_n (lv' := [(3, .ref q5), (2, .ref q3), (1, .ref q1), (0, .ref b)]) hx hb dl_19 rfl hl (by decide) rfl (fun ls hl => ?_)
  refine lv_iconst (v := 0) hx hb dl_20 (by decide) ?_
  refine lv_istore (lv' := [(4, .int 0), (3, .ref q5), (2, .ref q3), (1, .ref q1), (0, .ref b)]) hx hb dl_21 hl (by decide) rfl (fun ls hl => ?_)
  have e5 : ad5 225 = q5 := by rw [had5]; exact cn_ext_at
  have e50 : ad5 0 = q1 := by rw [had5, cn_ext (by omega), hal4 0 (by omega)]; exact e30
  have e57 : ad5 207 = q3 := by rw [had5, cn_ext (by omega), hal4 207 (by omega)]; exact e3
  obtain ⟨ad, had⟩ : ∃ ad : Nat → Nat, ad = fun o => if o < 226 then ad5 o else adT o := ⟨_, rfl⟩
  have hlo : ∀ o, o < 226 → ad o = ad5 o := fun o ho => by rw [had]; exact if_pos ho
  have hhi : ∀ j, ad (1000 + j) = adT (1000 + j) := fun j => by rw [had]; exact if_neg (by omega)
  have hW6 := cx_W_ad hlo hW5
  obtain ⟨hW7, hO⟩ := la_split hW6
  have hK7 : la_K s (ad 225) Dg cA ad adV vF := ⟨hK, hAX ad (ad 225) hhi⟩
  have hoa : s.heap.size ≤ ad 225 := hW6.2.1.2 225 _ (cx_w_at (by omega))
  obtain ⟨t5, t6, t7, t21⟩ := hT ad (ad 225) hoa hK7
  have h225 : ad 225 = q5 := (hlo 225 (by omega)).trans e5
  have h0 : ad 0 = q1 := (hlo 0 (by omega)).trans e50
  have h207 : ad 207 = q3 := (hlo 207 (by omega)).trans e57
  rw [← h225, ← h0, ← h207] at hl
  have go := la_loop hL C0 hK7 t5 t6 t7 t21 (L + 1) 0 (by omega) (by omega) H5 _ ls la_m4 0 rfl (lv_sub hl [4, 3, 2, 1, 0] rfl) laI_0 hW7 hS5 hO
  exact W.widen (by decide) (by decide) go
end LAW4
