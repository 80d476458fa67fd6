/-! t: the law's four cases that may throw -/
theorem dl_353 : decode code 353 = .ok (.aload_n 1, 1) := by decide +kernel
theorem dl_354 : decode code 354 = .ok (.aload_n 0, 1) := by decide +kernel
theorem dl_355 : decode code 355 = .ok (.iload 4, 2) := by decide +kernel
theorem dl_357 : decode code 357 = .ok (.iconst (1), 1) := by decide +kernel
theorem dl_358 : decode code 358 = .ok (.iadd, 1) := by decide +kernel
theorem dl_359 : decode code 359 = .ok (.iaload, 1) := by decide +kernel
theorem dl_360 : decode code 360 = .ok (.aload_n 0, 1) := by decide +kernel
theorem dl_361 : decode code 361 = .ok (.iload 4, 2) := by decide +kernel
theorem dl_363 : decode code 363 = .ok (.iconst (2), 1) := by decide +kernel
theorem dl_364 : decode code 364 = .ok (.iadd, 1) := by decide +kernel
theorem dl_365 : decode code 365 = .ok (.iaload, 1) := by decide +kernel
theorem dl_366 : decode code 366 = .ok (.aload_n 3, 1) := by decide +kernel
theorem dl_367 : decode code 367 = .ok (.invokestatic 52, 3) := by decide +kernel
theorem dl_370 : decode code 370 = .ok (.istore 5, 2) := by decide +kernel
theorem dl_372 : decode code 372 = .ok (.aload_n 2, 1) := by decide +kernel
theorem dl_373 : decode code 373 = .ok (.aload_n 0, 1) := by decide +kernel
theorem dl_374 : decode code 374 = .ok (.iload 4, 2) := by decide +kernel
theorem dl_376 : decode code 376 = .ok (.iconst (1), 1) := by decide +kernel
theorem dl_377 : decode code 377 = .ok (.iadd, 1) := by decide +kernel
theorem dl_378 : decode code 378 = .ok (.iaload, 1) := by decide +kernel
theorem dl_379 : decode code 379 = .ok (.aload_n 0, 1) := by decide +kernel
theorem dl_380 : decode code 380 = .ok (.iload 4, 2) := by decide +kernel
theorem dl_382 : decode code 382 = .ok (.iconst (2), 1) := by decide +kernel
theorem dl_383 : decode code 383 = .ok (.iadd, 1) := by decide +kernel
theorem dl_384 : decode code 384 = .ok (.iaload, 1) := by decide +kernel
theorem dl_385 : decode code 385 = .ok (.invokevirtual 57, 3) := by decide +kernel
theorem dl_388 : decode code 388 = .ok (.istore 6, 2) := by decide +kernel
theorem dl_390 : decode code 390 = .ok (.aload_n 2, 1) := by decide +kernel
theorem dl_391 : decode code 391 = .ok (.invokevirtual 58, 3) := by decide +kernel
theorem dl_394 : decode code 394 = .ok (.iload 5, 2) := by decide +kernel
theorem dl_396 : decode code 396 = .ok (.if_icmp .eq (5), 3) := by decide +kernel
theorem dl_401 : decode code 401 = .ok (.iload 5, 2) := by decide +kernel
theorem dl_403 : decode code 403 = .ok (.ifCond .ne (15), 3) := by decide +kernel
theorem dl_406 : decode code 406 = .ok (.aload_n 3, 1) := by decide +kernel
theorem dl_407 : decode code 407 = .ok (.iconst (0), 1) := by decide +kernel
theorem dl_408 : decode code 408 = .ok (.laload, 1) := by decide +kernel
theorem dl_409 : decode code 409 = .ok (.iload 6, 2) := by decide +kernel
theorem dl_411 : decode code 411 = .ok (.i2l, 1) := by decide +kernel
theorem dl_412 : decode code 412 = .ok (.lcmp, 1) := by decide +kernel
theorem dl_413 : decode code 413 = .ok (.ifCond .eq (5), 3) := by decide +kernel
theorem dl_418 : decode code 418 = .ok (.goto (907), 3) := by decide +kernel
theorem dl_421 : decode code 421 = .ok (.aload_n 1, 1) := by decide +kernel
theorem dl_422 : decode code 422 = .ok (.aload_n 0, 1) := by decide +kernel
theorem dl_423 : decode code 423 = .ok (.iload 4, 2) := by decide +kernel
theorem dl_425 : decode code 425 = .ok (.iconst (1), 1) := by decide +kernel
theorem dl_426 : decode code 426 = .ok (.iadd, 1) := by decide +kernel
theorem dl_427 : decode code 427 = .ok (.iaload, 1) := by decide +kernel
theorem dl_428 : decode code 428 = .ok (.aload_n 0, 1) := by decide +kernel
theorem dl_429 : decode code 429 = .ok (.iload 4, 2) := by decide +kernel
theorem dl_431 : decode code 431 = .ok (.iconst (2), 1) := by decide +kernel
theorem dl_432 : decode code 432 = .ok (.iadd, 1) := by decide +kernel
theorem dl_433 : decode code 433 = .ok (.iaload, 1) := by decide +kernel
theorem dl_434 : decode code 434 = .ok (.aload_n 3, 1) := by decide +kernel
theorem dl_435 : decode code 435 = .ok (.invokestatic 61, 3) := by decide +kernel
theorem dl_438 : decode code 438 = .ok (.istore 5, 2) := by decide +kernel
theorem dl_440 : decode code 440 = .ok (.aload_n 2, 1) := by decide +kernel
theorem dl_441 : decode code 441 = .ok (.aload_n 0, 1) := by decide +kernel
theorem dl_442 : decode code 442 = .ok (.iload 4, 2) := by decide +kernel
theorem dl_444 : decode code 444 = .ok (.iconst (1), 1) := by decide +kernel
theorem dl_445 : decode code 445 = .ok (.iadd, 1) := by decide +kernel
theorem dl_446 : decode code 446 = .ok (.iaload, 1) := by decide +kernel
theorem dl_447 : decode code 447 = .ok (.aload_n 0, 1) := by decide +kernel
theorem dl_448 : decode code 448 = .ok (.iload 4, 2) := by decide +kernel
theorem dl_450 : decode code 450 = .ok (.iconst (2), 1) := by decide +kernel
theorem dl_451 : decode code 451 = .ok (.iadd, 1) := by decide +kernel
theorem dl_452 : decode code 452 = .ok (.iaload, 1) := by decide +kernel
theorem dl_453 : decode code 453 = .ok (.invokevirtual 63, 3) := by decide +kernel
theorem dl_456 : decode code 456 = .ok (.istore 6, 2) := by decide +kernel
theorem dl_458 : decode code 458 = .ok (.aload_n 2, 1) := by decide +kernel
theorem dl_459 : decode code 459 = .ok (.invokevirtual 58, 3) := by decide +kernel
theorem dl_462 : decode code 462 = .ok (.iload 5, 2) := by decide +kernel
theorem dl_464 : decode code 464 = .ok (.if_icmp .eq (5), 3) := by decide +kernel
theorem dl_469 : decode code 469 = .ok (.iload 5, 2) := by decide +kernel
theorem dl_471 : decode code 471 = .ok (.ifCond .ne (15), 3) := by decide +kernel
theorem dl_474 : decode code 474 = .ok (.aload_n 3, 1) := by decide +kernel
theorem dl_475 : decode code 475 = .ok (.iconst (0), 1) := by decide +kernel
theorem dl_476 : decode code 476 = .ok (.laload, 1) := by decide +kernel
theorem dl_477 : decode code 477 = .ok (.iload 6, 2) := by decide +kernel
theorem dl_479 : decode code 479 = .ok (.i2l, 1) := by decide +kernel
theorem dl_480 : decode code 480 = .ok (.lcmp, 1) := by decide +kernel
theorem dl_481 : decode code 481 = .ok (.ifCond .eq (5), 3) := by decide +kernel
theorem dl_486 : decode code 486 = .ok (.goto (839), 3) := by decide +kernel
theorem dl_489 : decode code 489 = .ok (.aload_n 1, 1) := by decide +kernel
theorem dl_490 : decode code 490 = .ok (.aload_n 0, 1) := by decide +kernel
theorem dl_491 : decode code 491 = .ok (.iload 4, 2) := by decide +kernel
theorem dl_493 : decode code 493 = .ok (.iconst (1), 1) := by decide +kernel
theorem dl_494 : decode code 494 = .ok (.iadd, 1) := by decide +kernel
theorem dl_495 : decode code 495 = .ok (.iaload, 1) := by decide +kernel
theorem dl_496 : decode code 496 = .ok (.aload_n 0, 1) := by decide +kernel
theorem dl_497 : decode code 497 = .ok (.iload 4, 2) := by decide +kernel
theorem dl_499 : decode code 499 = .ok (.iconst (2), 1) := by decide +kernel
theorem dl_500 : decode code 500 = .ok (.iadd, 1) := by decide +kernel
theorem dl_501 : decode code 501 = .ok (.iaload, 1) := by decide +kernel
theorem dl_502 : decode code 502 = .ok (.aload_n 3, 1) := by decide +kernel
theorem dl_503 : decode code 503 = .ok (.invokestatic 64, 3) := by decide +kernel
theorem dl_506 : decode code 506 = .ok (.istore 5, 2) := by decide +kernel
theorem dl_508 : decode code 508 = .ok (.aload_n 2, 1) := by decide +kernel
theorem dl_509 : decode code 509 = .ok (.aload_n 0, 1) := by decide +kernel
theorem dl_510 : decode code 510 = .ok (.iload 4, 2) := by decide +kernel
theorem dl_512 : decode code 512 = .ok (.iconst (1), 1) := by decide +kernel
theorem dl_513 : decode code 513 = .ok (.iadd, 1) := by decide +kernel
theorem dl_514 : decode code 514 = .ok (.iaload, 1) := by decide +kernel
theorem dl_515 : decode code 515 = .ok (.aload_n 0, 1) := by decide +kernel
theorem dl_516 : decode code 516 = .ok (.iload 4, 2) := by decide +kernel
theorem dl_518 : decode code 518 = .ok (.iconst (2), 1) := by decide +kernel
theorem dl_519 : decode code 519 = .ok (.iadd, 1) := by decide +kernel
theorem dl_520 : decode code 520 = .ok (.iaload, 1) := by decide +kernel
theorem dl_521 : decode code 521 = .ok (.invokevirtual 66, 3) := by decide +kernel
theorem dl_524 : decode code 524 = .ok (.istore 6, 2) := by decide +kernel
theorem dl_526 : decode code 526 = .ok (.aload_n 2, 1) := by decide +kernel
theorem dl_527 : decode code 527 = .ok (.invokevirtual 58, 3) := by decide +kernel
theorem dl_530 : decode code 530 = .ok (.iload 5, 2) := by decide +kernel
theorem dl_532 : decode code 532 = .ok (.if_icmp .eq (5), 3) := by decide +kernel
theorem dl_537 : decode code 537 = .ok (.iload 5, 2) := by decide +kernel
theorem dl_539 : decode code 539 = .ok (.ifCond .ne (15), 3) := by decide +kernel
theorem dl_542 : decode code 542 = .ok (.aload_n 3, 1) := by decide +kernel
theorem dl_543 : decode code 543 = .ok (.iconst (0), 1) := by decide +kernel
theorem dl_544 : decode code 544 = .ok (.laload, 1) := by decide +kernel
theorem dl_545 : decode code 545 = .ok (.iload 6, 2) := by decide +kernel
theorem dl_547 : decode code 547 = .ok (.i2l, 1) := by decide +kernel
theorem dl_548 : decode code 548 = .ok (.lcmp, 1) := by decide +kernel
theorem dl_549 : decode code 549 = .ok (.ifCond .eq (5), 3) := by decide +kernel
theorem dl_554 : decode code 554 = .ok (.goto (771), 3) := by decide +kernel
theorem dl_870 : decode code 870 = .ok (.aload_n 1, 1) := by decide +kernel
theorem dl_871 : decode code 871 = .ok (.aload_n 0, 1) := by decide +kernel
theorem dl_872 : decode code 872 = .ok (.iload 4, 2) := by decide +kernel
theorem dl_874 : decode code 874 = .ok (.iconst (1), 1) := by decide +kernel
theorem dl_875 : decode code 875 = .ok (.iadd, 1) := by decide +kernel
theorem dl_876 : decode code 876 = .ok (.iaload, 1) := by decide +kernel
theorem dl_877 : decode code 877 = .ok (.aload_n 0, 1) := by decide +kernel
theorem dl_878 : decode code 878 = .ok (.iload 4, 2) := by decide +kernel
theorem dl_880 : decode code 880 = .ok (.iconst (2), 1) := by decide +kernel
theorem dl_881 : decode code 881 = .ok (.iadd, 1) := by decide +kernel
theorem dl_882 : decode code 882 = .ok (.iaload, 1) := by decide +kernel
theorem dl_883 : decode code 883 = .ok (.aload_n 3, 1) := by decide +kernel
theorem dl_884 : decode code 884 = .ok (.invokestatic 120, 3) := by decide +kernel
theorem dl_887 : decode code 887 = .ok (.istore 5, 2) := by decide +kernel
theorem dl_889 : decode code 889 = .ok (.aload_n 2, 1) := by decide +kernel
theorem dl_890 : decode code 890 = .ok (.aload_n 0, 1) := by decide +kernel
theorem dl_891 : decode code 891 = .ok (.iload 4, 2) := by decide +kernel
theorem dl_893 : decode code 893 = .ok (.iconst (1), 1) := by decide +kernel
theorem dl_894 : decode code 894 = .ok (.iadd, 1) := by decide +kernel
theorem dl_895 : decode code 895 = .ok (.iaload, 1) := by decide +kernel
theorem dl_896 : decode code 896 = .ok (.aload_n 0, 1) := by decide +kernel
theorem dl_897 : decode code 897 = .ok (.iload 4, 2) := by decide +kernel
theorem dl_899 : decode code 899 = .ok (.iconst (2), 1) := by decide +kernel
theorem dl_900 : decode code 900 = .ok (.iadd, 1) := by decide +kernel
theorem dl_901 : decode code 901 = .ok (.iaload, 1) := by decide +kernel
theorem dl_902 : decode code 902 = .ok (.invokevirtual 122, 3) := by decide +kernel
theorem dl_905 : decode code 905 = .ok (.istore 6, 2) := by decide +kernel
theorem dl_907 : decode code 907 = .ok (.aload_n 2, 1) := by decide +kernel
theorem dl_908 : decode code 908 = .ok (.invokevirtual 58, 3) := by decide +kernel
theorem dl_911 : decode code 911 = .ok (.iload 5, 2) := by decide +kernel
theorem dl_913 : decode code 913 = .ok (.if_icmp .eq (5), 3) := by decide +kernel
theorem dl_918 : decode code 918 = .ok (.iload 5, 2) := by decide +kernel
theorem dl_920 : decode code 920 = .ok (.ifCond .ne (15), 3) := by decide +kernel
theorem dl_923 : decode code 923 = .ok (.aload_n 3, 1) := by decide +kernel
theorem dl_924 : decode code 924 = .ok (.iconst (0), 1) := by decide +kernel
theorem dl_925 : decode code 925 = .ok (.laload, 1) := by decide +kernel
theorem dl_926 : decode code 926 = .ok (.iload 6, 2) := by decide +kernel
theorem dl_928 : decode code 928 = .ok (.i2l, 1) := by decide +kernel
theorem dl_929 : decode code 929 = .ok (.lcmp, 1) := by decide +kernel
theorem dl_930 : decode code 930 = .ok (.ifCond .eq (5), 3) := by decide +kernel
theorem dl_935 : decode code 935 = .ok (.goto (390), 3) := by decide +kernel
section LTH
variable {p : Program} {l : Launch} {e : Env} {s : State} {m : MethodId} {below : List Frame} {meth : Method} {c : Code} {b L : Nat} {xs : Nat → Int32} {Dg : va_G} {cA : Nat → ClassId} {ad adV : Nat → Nat} {vF : Value} {H : Heap} {locs : List Loc} {cells slots : Nat} {Q : State → Prop} {ls : Array Slot} {pc : Nat}
theorem lh_ret {oa : Nat} (hoa : s.heap.size ≤ oa) (C0 : lw_At p s m meth c b L xs) (hK0 : la_K s oa Dg cA ad adV vF) {y : MethodName} {cc : ByteArray} {idx z ix : Nat} (hD : th_D cc idx) (hw : th_W y cc idx z) (hlk : Jvm.Cond.methodLink R_law ix y ∈ ax_Ts) (hst1 : Jvm.Cond.static y ∈ ax_Ts) (hin : Jvm.Cond.initialized R_law ∈ ax_Ts) (hnp : (parseMethodDescriptor y.desc).map (fun d => d.parameters.length) = some 4) {a1 a2 r0 : Int32} {ν ν1 : ax_M} (h : aJ (ax_EN z) [.ref 0, .int a1, .int a2] [] ν = some (some (.int r0), ν1)) (hW : ax_W Dg ax_cl (la_A s oa) cA ad ax_sh ax_NC ν H) (hS : va_S (fun q : Nat => s.heap.size ≤ q) s.heap H locs) (hO : la_Out Dg cA oa H) (hls : ls.size = 7) (hdg : decode code pc = .ok (.invokestatic ix, 3)) (hcs : cells ≤ 601024 ∧ slots ≤ 7293034)
    (kk : ∀ (H1 : Heap) (locs1 : List Loc), ax_W Dg ax_cl (la_A s oa) cA ad ax_sh ax_NC ν1 H1 → va_S (fun q : Nat => s.heap.size ≤ q) s.heap H1 locs1 → (∃ f : Nat → Int64, f 0 = r0.toInt64 ∧ va_P Dg ax_cl [(oa, .inl (cA 4, 1, .inr (.inl f)))] H1) → W p l e room_1 s m #[Value.ref b] below meth c H1 locs1 cells slots Q (F0 m (pc + 3) ls [.int 0])) : W p l e room_1 s m #[Value.ref b] below meth c H locs cells slots Q (F0 m pc ls [.ref oa, .int a2, .int a1, .ref (ad 0)]) := by
  obtain ⟨hx, hb, hr, hml, hown, hts, hX, hbl, hlocks, hgv⟩ := C0
  obtain ⟨hK, hXX⟩ := hK0
  have htx := la_ts hts
  have hcls := hw.2.2.2.2.1
  have hZ : tn_Z (la_A s oa) s := tn_Zof hts hgv (fun a h q => absurd q.1 (Nat.not_le.mpr h))
  have hS1 : va_S (la_A s oa) s.heap H [] := ⟨hS.1, fun q h1 _ => hS.2.1 q h1 (by show ¬ s.heap.size ≤ q; omega), fun q hq => by cases hq⟩
  have hG : GoodIn ax_Ts (va_wsS R_law ix y (th_c y cc :: ax_Ts)) := fun w hw' => by
    simp only [va_wsS, List.cons_append, List.nil_append, List.mem_cons] at hw'
    rcases hw' with rfl | rfl | rfl | rfl | hw'
    · exact th_sub hlk
    · exact th_sub hst1
    · rw [hcls]; exact th_sub hin
    · exact th_sub hw.1
    · exact th_sub hw'
  have hp : PreS s H (th_P Dg (la_A s oa) cA ad adV vF oa a1 a2 ν) [.ref (ad 0), .int a1, .int a2, .ref oa] := ⟨th_blind, fun U hU hWm => ⟨rfl, by rw [hU]; exact hW, va_K.moved hWm.alike hK, ⟨ax_Xc s H [] hXX hS1 U hU hWm, tn_Zc s H [] hZ hS1 U hU hWm⟩, by rw [hU]; exact hO⟩⟩
  have hA : ∀ q, th_A (la_A s oa) oa q → s.heap.size ≤ q := fun q h => h.elim (fun h => h.1) (fun h => h ▸ hoa)
  refine va_calli (vx_runSW (hh := [((0 : Nat), (10 : Nat), (13 : Nat), (13 : Nat))]) (As := [.ref (ad 0), .int a1, .int a2, .ref oa]) (rest := []) (y := y) (bytes := cc) (maxL := 5) (ret := (Option.some FieldType.int)) (ws := th_c y cc :: ax_Ts) ⟨hx, hb, hml, hown, htx⟩ (th_ret hD hw l Dg (la_A s oa) cA ad adV vF (fun q => q.2 rfl) h) (vx_cwSW 4 htx hG rfl rfl rfl ⟨by rw [hcls]; decide +kernel, by rw [hcls]; decide +kernel, hnp⟩ ⟨by decide, by decide⟩) hp rfl rfl hls rfl (lv_room (Nat.le_of_ble_eq_true rfl)) hdg ⟨hcs.1, hcs.2⟩) hS (fun q _ h => hA q h) hA (fun r u t H1 locs1 e1 _ hr0 hB _ _ hS2 => ?_)
  cases hr0
  rw [e1] at hB
  exact kk H1 locs1 hB.1 hS2 hB.2
theorem lh_thr (hlt : l.stackTraces = false) {oa : Nat} (hoa : s.heap.size ≤ oa) (C0 : lw_At p s m meth c b L xs) (hK0 : la_K s oa Dg cA ad adV vF) {y : MethodName} {cc : ByteArray} {idx z ix : Nat} (hD : th_D cc idx) (hw : th_W y cc idx z) (hlk : Jvm.Cond.methodLink R_law ix y ∈ ax_Ts) (hst1 : Jvm.Cond.static y ∈ ax_Ts) (hin : Jvm.Cond.initialized R_law ∈ ax_Ts) (hnp : (parseMethodDescriptor y.desc).map (fun d => d.parameters.length) = some 4) {a1 a2 : Int32} {ν : ax_M} (hM : vx_Met l (ax_MT z).1 (ax_ws ax_Ts (ax_MT z)) tn_rm (tn_P Dg (la_A s oa) cA ad adV vF [.ref 0, .int a1, .int a2] ν) (tn_Q (la_A s oa)) (tn_XC Dg (la_A s oa) cA ad ν) 1 6 (la_A s oa)) (hW : ax_W Dg ax_cl (la_A s oa) cA ad ax_sh ax_NC ν H) (hS : va_S (fun q : Nat => s.heap.size ≤ q) s.heap H locs) (hO : la_Out Dg cA oa H) (hls : ls.size = 7) (hdg : decode code pc = .ok (.invokestatic ix, 3)) (hcs : cells + 1 ≤ 601024 ∧ slots + 6 ≤ 7293034)
    (kk : ∀ (H1 : Heap) (locs1 : List Loc), ax_W Dg ax_cl (la_A s oa) cA ad ax_sh ax_NC ν H1 → va_S (fun q : Nat => s.heap.size ≤ q) s.heap H1 locs1 → la_Out Dg cA oa H1 → W p l e room_1 s m #[Value.ref b] below meth c H1 locs1 (cells + 1) (slots + 6) Q (F0 m (pc + 3) ls [.int 1])) : W p l e room_1 s m #[Value.ref b] below meth c H locs cells slots Q (F0 m pc ls [.ref oa, .int a2, .int a1, .ref (ad 0)]) := by
  obtain ⟨hx, hb, hr, hml, hown, hts, hX, hbl, hlocks, hgv⟩ := C0
  obtain ⟨hK, hXX⟩ := hK0
  have htx := la_ts hts
  have hcls := hw.2.2.2.2.1
  have hZ : tn_Z (la_A s oa) s := tn_Zof hts hgv (fun a h q => absurd q.1 (Nat.not_le.mpr h))
  have hS1 : va_S (la_A s oa) s.heap H [] := ⟨hS.1, fun q h1 _ => hS.2.1 q h1 (by show ¬ s.heap.size ≤ q; omega), fun q hq => by cases hq⟩
  have hG : GoodIn ax_Ts (va_wsS R_law ix y (th_c y cc :: ax_Ts)) := fun w hw' => by
    simp only [va_wsS, List.cons_append, List.nil_append, List.mem_cons] at hw'
    rcases hw' with rfl | rfl | rfl | rfl | hw'
    · exact th_sub hlk
    · exact th_sub hst1
    · rw [hcls]; exact th_sub hin
    · exact th_sub hw.1
    · exact th_sub hw'
  have hp : PreS s H (th_P Dg (la_A s oa) cA ad adV vF oa a1 a2 ν) [.ref (ad 0), .int a1, .int a2, .ref oa] := ⟨th_blind, fun U hU hWm => ⟨rfl, by rw [hU]; exact hW, va_K.moved hWm.alike hK, ⟨ax_Xc s H [] hXX hS1 U hU hWm, tn_Zc s H [] hZ hS1 U hU hWm⟩, by rw [hU]; exact hO⟩⟩
  have hA : ∀ q, th_A (la_A s oa) oa q → s.heap.size ≤ q := fun q h => h.elim (fun h => h.1) (fun h => h ▸ hoa)
  refine va_calli (vx_runSW (hh := [((0 : Nat), (10 : Nat), (13 : Nat), (13 : Nat))]) (As := [.ref (ad 0), .int a1, .int a2, .ref oa]) (rest := []) (y := y) (bytes := cc) (maxL := 5) (ret := (Option.some FieldType.int)) (ws := th_c y cc :: ax_Ts) ⟨hx, hb, hml, hown, htx⟩ (th_thr hD hw l Dg (la_A s oa) cA ad adV vF (fun q => q.2 rfl) hM) (vx_cwSW 4 htx hG rfl rfl rfl ⟨by rw [hcls]; decide +kernel, by rw [hcls]; decide +kernel, hnp⟩ ⟨by decide, by decide⟩) hp rfl rfl hls rfl (lv_room (Nat.le_of_ble_eq_true rfl)) hdg ⟨hcs.1, hcs.2⟩) hS (fun q _ h => hA q h) hA (fun r u t H1 locs1 e1 _ hr0 hB _ _ hS2 => ?_)
  cases hr0
  rw [e1] at hB
  exact kk H1 locs1 hB.1 hS2 hB.2
theorem lh_cmp (x : Int64) : lg_cmp x x = 0 := by
  simp [lg_cmp]
theorem la_Out_of {oa : Nat} {f : Nat → Int64} {H : Heap} (h : va_P Dg ax_cl [(oa, .inl (cA 4, 1, .inr (.inl f)))] H) : la_Out Dg cA oa H := ⟨f, h⟩
theorem lh_keep {oa : Nat} {f : Nat → Int64} {H H1 : Heap} (h : va_P Dg ax_cl [(oa, .inl (cA 4, 1, .inr (.inl f)))] H) (hk : ∀ q, q < H.size → ¬ la_A s oa q → H1[q]? = H[q]?) : va_P Dg ax_cl [(oa, .inl (cA 4, 1, .inr (.inl f)))] H1 := fun k q hq => by
  match k, hq with
  | 0, hq =>
    cases hq
    exact (h 0 _ rfl).kept (hk oa (h 0 _ rfl).lt (fun q => q.2 rfl))
  | k + 1, hq => simp at hq
theorem tz_node_D : th_D method_3_code 7 := ⟨by decide +kernel, by decide +kernel, by decide +kernel, by decide +kernel, by decide +kernel, by decide +kernel, by decide +kernel, by decide +kernel, by decide +kernel, by decide +kernel, by decide +kernel, by decide +kernel, by decide +kernel, by decide +kernel⟩
theorem tz_node_W : th_W ({ cls := "AskingFragmentsLaw", name := "node", desc := "(LAskingFragments;II[J)I" } : Jvm.MethodName) method_3_code 7 140 := ⟨(ax_in (ax_wl_at (k := 5) (j := 85) rfl) rfl), (ax_in (ax_wl_at (k := 5) (j := 87) rfl) rfl), (ax_in (ax_wl_at (k := 5) (j := 88) rfl) rfl), (ax_in (ax_wl_at (k := 5) (j := 89) rfl) rfl), rfl, by decide, rfl, by decide +kernel, by decide⟩
theorem lt_node {oa : Nat} (hlt : l.stackTraces = false) (hoa : s.heap.size ≤ oa) (C0 : lw_At p s m meth c b L xs) (hK0 : la_K s oa Dg cA ad adV vF) : la_T p l e s m below meth c b L Dg cA ad oa 353 := by
  intro H locs cells slots ls μ i hl hI hW hS hO hin hcs kk
  obtain ⟨hx, hb, hr, hml, hown, hts, hX, hbl, hlocks, hgv⟩ := id C0
  have hbA : ¬ (fun q : Nat => s.heap.size ≤ q) b := Nat.not_le.mpr hbl
  refine lv_aload_n hx hb dl_353 rfl (lv_at hl 1 rfl) ?_
  refine lv_aload_n hx hb dl_354 rfl (lv_at hl 0 rfl) ?_
  refine lv_iload hx hb dl_355 (lv_at hl 4 rfl) ?_
  refine lv_iconst (v := 1) hx hb dl_357 (by decide) ?_
  refine lv_iadd hx hb dl_358 ?_
  refine va_sld hx hb hX hbl hbA hS (hin 1 (by decide) (by decide)) dl_359 ?_
  refine lv_aload_n hx hb dl_360 rfl (lv_at hl 0 rfl) ?_
  refine lv_iload hx hb dl_361 (lv_at hl 4 rfl) ?_
  refine lv_iconst (v := 2) hx hb dl_363 (by decide) ?_
  refine lv_iadd hx hb dl_364 ?_
  refine va_sld hx hb hX hbl hbA hS (hin 2 (by decide) (by decide)) dl_365 ?_
  refine lv_aload_n hx hb dl_366 rfl (lv_at hl 3 rfl) ?_
  rcases LP_node hI (xs (i + 1).toNatClampNeg) (xs (i + 2).toNatClampNeg) with ⟨r, ν1, ν2, e1, e2, hth, hI2⟩ | ⟨hq, r, ν2, e2, hth, hI2⟩
  · have hcs1 : cells ≤ 601024 ∧ slots ≤ 7293034 := by omega
    refine lh_ret hoa C0 hK0 tz_node_D tz_node_W (ax_in (ax_wl_at (k := 5) (j := 83) rfl) rfl) (ax_in (ax_wl_at (k := 5) (j := 84) rfl) rfl) (ax_in (ax_wl_at (k := 1) (j := 0) rfl) rfl) (by decide +kernel) e1 hW hS hO hl.1 dl_367 hcs1 (fun H1 locs1 hW1 hS1 hO1 => ?_)
    obtain ⟨f, hf, hO1⟩ := hO1
    refine lv_istore (lv' := [(5, .int 0), (0, .ref b), (1, .ref (ad 0)), (2, .ref (ad 207)), (3, .ref oa), (4, .int i)]) hx hb dl_370 hl (by decide) rfl (fun ls hl => ?_)
    refine lv_aload_n hx hb dl_372 rfl (lv_at hl 3 rfl) ?_
    refine lv_aload_n hx hb dl_373 rfl (lv_at hl 1 rfl) ?_
    refine lv_iload hx hb dl_374 (lv_at hl 5 rfl) ?_
    refine lv_iconst (v := 1) hx hb dl_376 (by decide) ?_
    refine lv_iadd hx hb dl_377 ?_
    refine va_sld hx hb hX hbl hbA hS1 (hin 1 (by decide) (by decide)) dl_378 ?_
    refine lv_aload_n hx hb dl_379 rfl (lv_at hl 1 rfl) ?_
    refine lv_iload hx hb dl_380 (lv_at hl 5 rfl) ?_
    refine lv_iconst (v := 2) hx hb dl_382 (by decide) ?_
    refine lv_iadd hx hb dl_383 ?_
    refine va_sld hx hb hX hbl hbA hS1 (hin 2 (by decide) (by decide)) dl_384 ?_
    refine la_call C0 hK0 (z := 72) (o := 207) (index := 57) (As := [.int (xs (i + 1).toNatClampNeg), .int (xs (i + 2).toNatClampNeg)]) (rest := []) (by decide) e2 rfl (by decide) rfl (ax_wl_at (k := 6) (j := 188) rfl) (ax_wl_at (k := 6) (j := 189) rfl) (ax_wl_at (k := 6) (j := 190) rfl) (show (parseMethodDescriptor (ax_MT 72).1.desc).map (fun d => d.parameters.length) = some 2 by decide +kernel) (by decide) hW1 hS1 rfl hl.1 (Nat.le_of_ble_eq_true rfl) dl_385 hcs1 (fun H2 locs2 hW2 hS2 hk2 => ?_)
    refine lv_istore (lv' := [(6, .int r), (5, .int 0), (0, .ref b), (1, .ref (ad 0)), (2, .ref (ad 207)), (3, .ref oa), (4, .int i)]) hx hb dl_388 hl (by decide) rfl (fun ls hl => ?_)
    refine lv_aload_n hx hb dl_390 rfl (lv_at hl 4 rfl) ?_
    refine la_call C0 hK0 (z := 0) (o := 207) (index := 58) (As := []) (rest := []) (by decide) (jl_0 ν2) rfl (by decide) rfl (ax_wl_at (k := 5) (j := 195) rfl) (ax_wl_at (k := 5) (j := 196) rfl) (ax_wl_at (k := 5) (j := 197) rfl) (show (parseMethodDescriptor (ax_MT 0).1.desc).map (fun d => d.parameters.length) = some 0 by decide +kernel) (by decide) hW2 hS2 rfl hl.1 (Nat.le_of_ble_eq_true rfl) dl_391 hcs1 (fun H3 locs3 hW3 hS3 hk3 => ?_)
    rw [hth]
    refine lv_iload hx hb dl_394 (lv_at hl 1 rfl) ?_
    refine lv_icmp_eq (tgt := 401) hx hb dl_396 (by decide) (fun _ => ?_) (fun h => absurd rfl h)
    refine lv_iload hx hb dl_401 (lv_at hl 1 rfl) ?_
    refine lv_if_ne (tgt := 418) hx hb dl_403 (by decide) (fun h => absurd rfl h) (fun _ => ?_)
    have hO3 := lh_keep (lh_keep hO1 hk2) hk3
    refine lv_aload_n hx hb dl_406 rfl (lv_at hl 5 rfl) ?_
    refine lv_iconst (v := 0) hx hb dl_407 (by decide) ?_
    refine va_lald hx hb hK0.1 hO3 0 3 rfl rfl (by unfold vp_in; decide) dl_408 ?_
    refine lv_iload hx hb dl_409 (lv_at hl 0 rfl) ?_
    refine lv_i2l (v := r.toInt64) hx hb dl_411 rfl ?_
    refine W.lcmp hx hb dl_412 ?_
    rw [show f (0 : Int32).toNatClampNeg = r.toInt64 from hf, lh_cmp]
    refine lv_if_eq (tgt := 418) hx hb dl_413 (by decide) (fun _ => ?_) (fun h => absurd rfl h)
    refine lv_goto (tgt := 1325) hx hb dl_418 (by decide) ?_
    exact W.widen (k := cells + 20) (n := slots + 1000) (by omega) (by omega) (kk ν2 H3 locs3 ls (lv_sub hl [2, 3, 4, 5, 6] rfl) hI2 hW3 hS3 (la_Out_of hO3))
  · have hcs1 : cells + 1 ≤ 601024 ∧ slots + 6 ≤ 7293034 := by omega
    refine lh_thr hlt hoa C0 hK0 tz_node_D tz_node_W (ax_in (ax_wl_at (k := 5) (j := 83) rfl) rfl) (ax_in (ax_wl_at (k := 5) (j := 84) rfl) rfl) (ax_in (ax_wl_at (k := 1) (j := 0) rfl) rfl) (by decide +kernel) (tc_node l hlt Dg (la_A s oa) cA ad adV vF hq) hW hS hO hl.1 dl_367 hcs1 (fun H1 locs1 hW1 hS1 hO1 => ?_)
    obtain ⟨f, hO1⟩ := hO1
    refine lv_istore (lv' := [(5, .int 1), (0, .ref b), (1, .ref (ad 0)), (2, .ref (ad 207)), (3, .ref oa), (4, .int i)]) hx hb dl_370 hl (by decide) rfl (fun ls hl => ?_)
    refine lv_aload_n hx hb dl_372 rfl (lv_at hl 3 rfl) ?_
    refine lv_aload_n hx hb dl_373 rfl (lv_at hl 1 rfl) ?_
    refine lv_iload hx hb dl_374 (lv_at hl 5 rfl) ?_
    refine lv_iconst (v := 1) hx hb dl_376 (by decide) ?_
    refine lv_iadd hx hb dl_377 ?_
    refine va_sld hx hb hX hbl hbA hS1 (hin 1 (by decide) (by decide)) dl_378 ?_
    refine lv_aload_n hx hb dl_379 rfl (lv_at hl 1 rfl) ?_
    refine lv_iload hx hb dl_380 (lv_at hl 5 rfl) ?_
    refine lv_iconst (v := 2) hx hb dl_382 (by decide) ?_
    refine lv_iadd hx hb dl_383 ?_
    refine va_sld hx hb hX hbl hbA hS1 (hin 2 (by decide) (by decide)) dl_384 ?_
    refine la_call C0 hK0 (z := 72) (o := 207) (index := 57) (As := [.int (xs (i + 1).toNatClampNeg), .int (xs (i + 2).toNatClampNeg)]) (rest := []) (by decide) e2 rfl (by decide) rfl (ax_wl_at (k := 6) (j := 188) rfl) (ax_wl_at (k := 6) (j := 189) rfl) (ax_wl_at (k := 6) (j := 190) rfl) (show (parseMethodDescriptor (ax_MT 72).1.desc).map (fun d => d.parameters.length) = some 2 by decide +kernel) (by decide) hW1 hS1 rfl hl.1 (Nat.le_of_ble_eq_true rfl) dl_385 hcs1 (fun H2 locs2 hW2 hS2 hk2 => ?_)
    refine lv_istore (lv' := [(6, .int r), (5, .int 1), (0, .ref b), (1, .ref (ad 0)), (2, .ref (ad 207)), (3, .ref oa), (4, .int i)]) hx hb dl_388 hl (by decide) rfl (fun ls hl => ?_)
    refine lv_aload_n hx hb dl_390 rfl (lv_at hl 4 rfl) ?_
    refine la_call C0 hK0 (z := 0) (o := 207) (index := 58) (As := []) (rest := []) (by decide) (jl_0 ν2) rfl (by decide) rfl (ax_wl_at (k := 5) (j := 195) rfl) (ax_wl_at (k := 5) (j := 196) rfl) (ax_wl_at (k := 5) (j := 197) rfl) (show (parseMethodDescriptor (ax_MT 0).1.desc).map (fun d => d.parameters.length) = some 0 by decide +kernel) (by decide) hW2 hS2 rfl hl.1 (Nat.le_of_ble_eq_true rfl) dl_391 hcs1 (fun H3 locs3 hW3 hS3 hk3 => ?_)
    rw [hth]
    refine lv_iload hx hb dl_394 (lv_at hl 1 rfl) ?_
    refine lv_icmp_eq (tgt := 401) hx hb dl_396 (by decide) (fun _ => ?_) (fun h => absurd rfl h)
    refine lv_iload hx hb dl_401 (lv_at hl 1 rfl) ?_
    refine lv_if_ne (tgt := 418) hx hb dl_403 (by decide) (fun _ => ?_) (fun h => absurd h (by decide))
    refine lv_goto (tgt := 1325) hx hb dl_418 (by decide) ?_
    exact W.widen (k := cells + 20) (n := slots + 1000) (by omega) (by omega) (kk ν2 H3 locs3 ls (lv_sub hl [2, 3, 4, 5, 6] rfl) hI2 hW3 hS3 (la_Out_of (lh_keep (lh_keep hO1 hk2) hk3)))
theorem tz_edge_D : th_D method_4_code 15 := ⟨by decide +kernel, by decide +kernel, by decide +kernel, by decide +kernel, by decide +kernel, by decide +kernel, by decide +kernel, by decide +kernel, by decide +kernel, by decide +kernel, by decide +kernel, by decide +kernel, by decide +kernel, by decide +kernel⟩
theorem tz_edge_W : th_W ({ cls := "AskingFragmentsLaw", name := "edge", desc := "(LAskingFragments;II[J)I" } : Jvm.MethodName) method_4_code 15 141 := ⟨(ax_in (ax_wl_at (k := 5) (j := 154) rfl) rfl), (ax_in (ax_wl_at (k := 5) (j := 155) rfl) rfl), (ax_in (ax_wl_at (k := 5) (j := 156) rfl) rfl), (ax_in (ax_wl_at (k := 5) (j := 157) rfl) rfl), rfl, by decide, rfl, by decide +kernel, by decide⟩
theorem lt_edge {oa : Nat} (hlt : l.stackTraces = false) (hoa : s.heap.size ≤ oa) (C0 : lw_At p s m meth c b L xs) (hK0 : la_K s oa Dg cA ad adV vF) : la_T p l e s m below meth c b L Dg cA ad oa 421 := by
  intro H locs cells slots ls μ i hl hI hW hS hO hin hcs kk
  obtain ⟨hx, hb, hr, hml, hown, hts, hX, hbl, hlocks, hgv⟩ := id C0
  have hbA : ¬ (fun q : Nat => s.heap.size ≤ q) b := Nat.not_le.mpr hbl
  refine lv_aload_n hx hb dl_421 rfl (lv_at hl 1 rfl) ?_
  refine lv_aload_n hx hb dl_422 rfl (lv_at hl 0 rfl) ?_
  refine lv_iload hx hb dl_423 (lv_at hl 4 rfl) ?_
  refine lv_iconst (v := 1) hx hb dl_425 (by decide) ?_
  refine lv_iadd hx hb dl_426 ?_
  refine va_sld hx hb hX hbl hbA hS (hin 1 (by decide) (by decide)) dl_427 ?_
  refine lv_aload_n hx hb dl_428 rfl (lv_at hl 0 rfl) ?_
  refine lv_iload hx hb dl_429 (lv_at hl 4 rfl) ?_
  refine lv_iconst (v := 2) hx hb dl_431 (by decide) ?_
  refine lv_iadd hx hb dl_432 ?_
  refine va_sld hx hb hX hbl hbA hS (hin 2 (by decide) (by decide)) dl_433 ?_
  refine lv_aload_n hx hb dl_434 rfl (lv_at hl 3 rfl) ?_
  rcases LP_edge hI (xs (i + 1).toNatClampNeg) (xs (i + 2).toNatClampNeg) with ⟨r, ν1, ν2, e1, e2, hth, hI2⟩ | ⟨hq, r, ν2, e2, hth, hI2⟩
  · have hcs1 : cells ≤ 601024 ∧ slots ≤ 7293034 := by omega
    refine lh_ret hoa C0 hK0 tz_edge_D tz_edge_W (ax_in (ax_wl_at (k := 5) (j := 152) rfl) rfl) (ax_in (ax_wl_at (k := 5) (j := 153) rfl) rfl) (ax_in (ax_wl_at (k := 1) (j := 0) rfl) rfl) (by decide +kernel) e1 hW hS hO hl.1 dl_435 hcs1 (fun H1 locs1 hW1 hS1 hO1 => ?_)
    obtain ⟨f, hf, hO1⟩ := hO1
    refine lv_istore (lv' := [(5, .int 0), (0, .ref b), (1, .ref (ad 0)), (2, .ref (ad 207)), (3, .ref oa), (4, .int i)]) hx hb dl_438 hl (by decide) rfl (fun ls hl => ?_)
    refine lv_aload_n hx hb dl_440 rfl (lv_at hl 3 rfl) ?_
    refine lv_aload_n hx hb dl_441 rfl (lv_at hl 1 rfl) ?_
    refine lv_iload hx hb dl_442 (lv_at hl 5 rfl) ?_
    refine lv_iconst (v := 1) hx hb dl_444 (by decide) ?_
    refine lv_iadd hx hb dl_445 ?_
    refine va_sld hx hb hX hbl hbA hS1 (hin 1 (by decide) (by decide)) dl_446 ?_
    refine lv_aload_n hx hb dl_447 rfl (lv_at hl 1 rfl) ?_
    refine lv_iload hx hb dl_448 (lv_at hl 5 rfl) ?_
    refine lv_iconst (v := 2) hx hb dl_450 (by decide) ?_
    refine lv_iadd hx hb dl_451 ?_
    refine va_sld hx hb hX hbl hbA hS1 (hin 2 (by decide) (by decide)) dl_452 ?_
    refine la_call C0 hK0 (z := 73) (o := 207) (index := 63) (As := [.int (xs (i + 1).toNatClampNeg), .int (xs (i + 2).toNatClampNeg)]) (rest := []) (by decide) e2 rfl (by decide) rfl (ax_wl_at (k := 6) (j := 220) rfl) (ax_wl_at (k := 6) (j := 221) rfl) (ax_wl_at (k := 6) (j := 222) rfl) (show (parseMethodDescriptor (ax_MT 73).1.desc).map (fun d => d.parameters.length) = some 2 by decide +kernel) (by decide) hW1 hS1 rfl hl.1 (Nat.le_of_ble_eq_true rfl) dl_453 hcs1 (fun H2 locs2 hW2 hS2 hk2 => ?_)
    refine lv_istore (lv' := [(6, .int r), (5, .int 0), (0, .ref b), (1, .ref (ad 0)), (2, .ref (ad 207)), (3, .ref oa), (4, .int i)]) hx hb dl_456 hl (by decide) rfl (fun ls hl => ?_)
    refine lv_aload_n hx hb dl_458 rfl (lv_at hl 4 rfl) ?_
    refine la_call C0 hK0 (z := 0) (o := 207) (index := 58) (As := []) (rest := []) (by decide) (jl_0 ν2) rfl (by decide) rfl (ax_wl_at (k := 5) (j := 195) rfl) (ax_wl_at (k := 5) (j := 196) rfl) (ax_wl_at (k := 5) (j := 197) rfl) (show (parseMethodDescriptor (ax_MT 0).1.desc).map (fun d => d.parameters.length) = some 0 by decide +kernel) (by decide) hW2 hS2 rfl hl.1 (Nat.le_of_ble_eq_true rfl) dl_459 hcs1 (fun H3 locs3 hW3 hS3 hk3 => ?_)
    rw [hth]
    refine lv_iload hx hb dl_462 (lv_at hl 1 rfl) ?_
    refine lv_icmp_eq (tgt := 469) hx hb dl_464 (by decide) (fun _ => ?_) (fun h => absurd rfl h)
    refine lv_iload hx hb dl_469 (lv_at hl 1 rfl) ?_
    refine lv_if_ne (tgt := 486) hx hb dl_471 (by decide) (fun h => absurd rfl h) (fun _ => ?_)
    have hO3 := lh_keep (lh_keep hO1 hk2) hk3
    refine lv_aload_n hx hb dl_474 rfl (lv_at hl 5 rfl) ?_
    refine lv_iconst (v := 0) hx hb dl_475 (by decide) ?_
    refine va_lald hx hb hK0.1 hO3 0 3 rfl rfl (by unfold vp_in; decide) dl_476 ?_
    refine lv_iload hx hb dl_477 (lv_at hl 0 rfl) ?_
    refine lv_i2l (v := r.toInt64) hx hb dl_479 rfl ?_
    refine W.lcmp hx hb dl_480 ?_
    rw [show f (0 : Int32).toNatClampNeg = r.toInt64 from hf, lh_cmp]
    refine lv_if_eq (tgt := 486) hx hb dl_481 (by decide) (fun _ => ?_) (fun h => absurd rfl h)
    refine lv_goto (tgt := 1325) hx hb dl_486 (by decide) ?_
    exact W.widen (k := cells + 20) (n := slots + 1000) (by omega) (by omega) (kk ν2 H3 locs3 ls (lv_sub hl [2, 3, 4, 5, 6] rfl) hI2 hW3 hS3 (la_Out_of hO3))
  · have hcs1 : cells + 1 ≤ 601024 ∧ slots + 6 ≤ 7293034 := by omega
    refine lh_thr hlt hoa C0 hK0 tz_edge_D tz_edge_W (ax_in (ax_wl_at (k := 5) (j := 152) rfl) rfl) (ax_in (ax_wl_at (k := 5) (j := 153) rfl) rfl) (ax_in (ax_wl_at (k := 1) (j := 0) rfl) rfl) (by decide +kernel) (tc_edge l hlt Dg (la_A s oa) cA ad adV vF hq) hW hS hO hl.1 dl_435 hcs1 (fun H1 locs1 hW1 hS1 hO1 => ?_)
    obtain ⟨f, hO1⟩ := hO1
    refine lv_istore (lv' := [(5, .int 1), (0, .ref b), (1, .ref (ad 0)), (2, .ref (ad 207)), (3, .ref oa), (4, .int i)]) hx hb dl_438 hl (by decide) rfl (fun ls hl => ?_)
    refine lv_aload_n hx hb dl_440 rfl (lv_at hl 3 rfl) ?_
    refine lv_aload_n hx hb dl_441 rfl (lv_at hl 1 rfl) ?_
    refine lv_iload hx hb dl_442 (lv_at hl 5 rfl) ?_
    refine lv_iconst (v := 1) hx hb dl_444 (by decide) ?_
    refine lv_iadd hx hb dl_445 ?_
    refine va_sld hx hb hX hbl hbA hS1 (hin 1 (by decide) (by decide)) dl_446 ?_
    refine lv_aload_n hx hb dl_447 rfl (lv_at hl 1 rfl) ?_
    refine lv_iload hx hb dl_448 (lv_at hl 5 rfl) ?_
    refine lv_iconst (v := 2) hx hb dl_450 (by decide) ?_
    refine lv_iadd hx hb dl_451 ?_
    refine va_sld hx hb hX hbl hbA hS1 (hin 2 (by decide) (by decide)) dl_452 ?_
    refine la_call C0 hK0 (z := 73) (o := 207) (index := 63) (As := [.int (xs (i + 1).toNatClampNeg), .int (xs (i + 2).toNatClampNeg)]) (rest := []) (by decide) e2 rfl (by decide) rfl (ax_wl_at (k := 6) (j := 220) rfl) (ax_wl_at (k := 6) (j := 221) rfl) (ax_wl_at (k := 6) (j := 222) rfl) (show (parseMethodDescriptor (ax_MT 73).1.desc).map (fun d => d.parameters.length) = some 2 by decide +kernel) (by decide) hW1 hS1 rfl hl.1 (Nat.le_of_ble_eq_true rfl) dl_453 hcs1 (fun H2 locs2 hW2 hS2 hk2 => ?_)
    refine lv_istore (lv' := [(6, .int r), (5, .int 1), (0, .ref b), (1, .ref (ad 0)), (2, .ref (ad 207)), (3, .ref oa), (4, .int i)]) hx hb dl_456 hl (by decide) rfl (fun ls hl => ?_)
    refine lv_aload_n hx hb dl_458 rfl (lv_at hl 4 rfl) ?_
    refine la_call C0 hK0 (z := 0) (o := 207) (index := 58) (As := []) (rest := []) (by decide) (jl_0 ν2) rfl (by decide) rfl (ax_wl_at (k := 5) (j := 195) rfl) (ax_wl_at (k := 5) (j := 196) rfl) (ax_wl_at (k := 5) (j := 197) rfl) (show (parseMethodDescriptor (ax_MT 0).1.desc).map (fun d => d.parameters.length) = some 0 by decide +kernel) (by decide) hW2 hS2 rfl hl.1 (Nat.le_of_ble_eq_true rfl) dl_459 hcs1 (fun H3 locs3 hW3 hS3 hk3 => ?_)
    rw [hth]
    refine lv_iload hx hb dl_462 (lv_at hl 1 rfl) ?_
    refine lv_icmp_eq (tgt := 469) hx hb dl_464 (by decide) (fun _ => ?_) (fun h => absurd rfl h)
    refine lv_iload hx hb dl_469 (lv_at hl 1 rfl) ?_
    refine lv_if_ne (tgt := 486) hx hb dl_471 (by decide) (fun _ => ?_) (fun h => absurd h (by decide))
    refine lv_goto (tgt := 1325) hx hb dl_486 (by decide) ?_
    exact W.widen (k := cells + 20) (n := slots + 1000) (by omega) (by omega) (kk ν2 H3 locs3 ls (lv_sub hl [2, 3, 4, 5, 6] rfl) hI2 hW3 hS3 (la_Out_of (lh_keep (lh_keep hO1 hk2) hk3)))
theorem tz_letter_D : th_D method_5_code 18 := ⟨by decide +kernel, by decide +kernel, by decide +kernel, by decide +kernel, by decide +kernel, by decide +kernel, by decide +kernel, by decide +kernel, by decide +kernel, by decide +kernel, by decide +kernel, by decide +kernel, by decide +kernel, by decide +kernel⟩
theorem tz_letter_W : th_W ({ cls := "AskingFragmentsLaw", name := "letter", desc := "(LAskingFragments;II[J)I" } : Jvm.MethodName) method_5_code 18 142 := ⟨(ax_in (ax_wl_at (k := 5) (j := 165) rfl) rfl), (ax_in (ax_wl_at (k := 5) (j := 166) rfl) rfl), (ax_in (ax_wl_at (k := 5) (j := 167) rfl) rfl), (ax_in (ax_wl_at (k := 5) (j := 168) rfl) rfl), rfl, by decide, rfl, by decide +kernel, by decide⟩
theorem lt_letter {oa : Nat} (hlt : l.stackTraces = false) (hoa : s.heap.size ≤ oa) (C0 : lw_At p s m meth c b L xs) (hK0 : la_K s oa Dg cA ad adV vF) : la_T p l e s m below meth c b L Dg cA ad oa 489 := by
  intro H locs cells slots ls μ i hl hI hW hS hO hin hcs kk
  obtain ⟨hx, hb, hr, hml, hown, hts, hX, hbl, hlocks, hgv⟩ := id C0
  have hbA : ¬ (fun q : Nat => s.heap.size ≤ q) b := Nat.not_le.mpr hbl
  refine lv_aload_n hx hb dl_489 rfl (lv_at hl 1 rfl) ?_
  refine lv_aload_n hx hb dl_490 rfl (lv_at hl 0 rfl) ?_
  refine lv_iload hx hb dl_491 (lv_at hl 4 rfl) ?_
  refine lv_iconst (v := 1) hx hb dl_493 (by decide) ?_
  refine lv_iadd hx hb dl_494 ?_
  refine va_sld hx hb hX hbl hbA hS (hin 1 (by decide) (by decide)) dl_495 ?_
  refine lv_aload_n hx hb dl_496 rfl (lv_at hl 0 rfl) ?_
  refine lv_iload hx hb dl_497 (lv_at hl 4 rfl) ?_
  refine lv_iconst (v := 2) hx hb dl_499 (by decide) ?_
  refine lv_iadd hx hb dl_500 ?_
  refine va_sld hx hb hX hbl hbA hS (hin 2 (by decide) (by decide)) dl_501 ?_
  refine lv_aload_n hx hb dl_502 rfl (lv_at hl 3 rfl) ?_
  rcases LP_letter hI (xs (i + 1).toNatClampNeg) (xs (i + 2).toNatClampNeg) with ⟨r, ν1, ν2, e1, e2, hth, hI2⟩ | ⟨hq, r, ν2, e2, hth, hI2⟩
  · have hcs1 : cells ≤ 601024 ∧ slots ≤ 7293034 := by omega
    refine lh_ret hoa C0 hK0 tz_letter_D tz_letter_W (ax_in (ax_wl_at (k := 5) (j := 163) rfl) rfl) (ax_in (ax_wl_at (k := 5) (j := 164) rfl) rfl) (ax_in (ax_wl_at (k := 1) (j := 0) rfl) rfl) (by decide +kernel) e1 hW hS hO hl.1 dl_503 hcs1 (fun H1 locs1 hW1 hS1 hO1 => ?_)
    obtain ⟨f, hf, hO1⟩ := hO1
    refine lv_istore (lv' := [(5, .int 0), (0, .ref b), (1, .ref (ad 0)), (2, .ref (ad 207)), (3, .ref oa), (4, .int i)]) hx hb dl_506 hl (by decide) rfl (fun ls hl => ?_)
    refine lv_aload_n hx hb dl_508 rfl (lv_at hl 3 rfl) ?_
    refine lv_aload_n hx hb dl_509 rfl (lv_at hl 1 rfl) ?_
    refine lv_iload hx hb dl_510 (lv_at hl 5 rfl) ?_
    refine lv_iconst (v := 1) hx hb dl_512 (by decide) ?_
    refine lv_iadd hx hb dl_513 ?_
    refine va_sld hx hb hX hbl hbA hS1 (hin 1 (by decide) (by decide)) dl_514 ?_
    refine lv_aload_n hx hb dl_515 rfl (lv_at hl 1 rfl) ?_
    refine lv_iload hx hb dl_516 (lv_at hl 5 rfl) ?_
    refine lv_iconst (v := 2) hx hb dl_518 (by decide) ?_
    refine lv_iadd hx hb dl_519 ?_
    refine va_sld hx hb hX hbl hbA hS1 (hin 2 (by decide) (by decide)) dl_520 ?_
    refine la_call C0 hK0 (z := 74) (o := 207) (index := 66) (As := [.int (xs (i + 1).toNatClampNeg), .int (xs (i + 2).toNatClampNeg)]) (rest := []) (by decide) e2 rfl (by decide) rfl (ax_wl_at (k := 6) (j := 236) rfl) (ax_wl_at (k := 6) (j := 237) rfl) (ax_wl_at (k := 6) (j := 238) rfl) (show (parseMethodDescriptor (ax_MT 74).1.desc).map (fun d => d.parameters.length) = some 2 by decide +kernel) (by decide) hW1 hS1 rfl hl.1 (Nat.le_of_ble_eq_true rfl) dl_521 hcs1 (fun H2 locs2 hW2 hS2 hk2 => ?_)
    refine lv_istore (lv' := [(6, .int r), (5, .int 0), (0, .ref b), (1, .ref (ad 0)), (2, .ref (ad 207)), (3, .ref oa), (4, .int i)]) hx hb dl_524 hl (by decide) rfl (fun ls hl => ?_)
    refine lv_aload_n hx hb dl_526 rfl (lv_at hl 4 rfl) ?_
    refine la_call C0 hK0 (z := 0) (o := 207) (index := 58) (As := []) (rest := []) (by decide) (jl_0 ν2) rfl (by decide) rfl (ax_wl_at (k := 5) (j := 195) rfl) (ax_wl_at (k := 5) (j := 196) rfl) (ax_wl_at (k := 5) (j := 197) rfl) (show (parseMethodDescriptor (ax_MT 0).1.desc).map (fun d => d.parameters.length) = some 0 by decide +kernel) (by decide) hW2 hS2 rfl hl.1 (Nat.le_of_ble_eq_true rfl) dl_527 hcs1 (fun H3 locs3 hW3 hS3 hk3 => ?_)
    rw [hth]
    refine lv_iload hx hb dl_530 (lv_at hl 1 rfl) ?_
    refine lv_icmp_eq (tgt := 537) hx hb dl_532 (by decide) (fun _ => ?_) (fun h => absurd rfl h)
    refine lv_iload hx hb dl_537 (lv_at hl 1 rfl) ?_
    refine lv_if_ne (tgt := 554) hx hb dl_539 (by decide) (fun h => absurd rfl h) (fun _ => ?_)
    have hO3 := lh_keep (lh_keep hO1 hk2) hk3
    refine lv_aload_n hx hb dl_542 rfl (lv_at hl 5 rfl) ?_
    refine lv_iconst (v := 0) hx hb dl_543 (by decide) ?_
    refine va_lald hx hb hK0.1 hO3 0 3 rfl rfl (by unfold vp_in; decide) dl_544 ?_
    refine lv_iload hx hb dl_545 (lv_at hl 0 rfl) ?_
    refine lv_i2l (v := r.toInt64) hx hb dl_547 rfl ?_
    refine W.lcmp hx hb dl_548 ?_
    rw [show f (0 : Int32).toNatClampNeg = r.toInt64 from hf, lh_cmp]
    refine lv_if_eq (tgt := 554) hx hb dl_549 (by decide) (fun _ => ?_) (fun h => absurd rfl h)
    refine lv_goto (tgt := 1325) hx hb dl_554 (by decide) ?_
    exact W.widen (k := cells + 20) (n := slots + 1000) (by omega) (by omega) (kk ν2 H3 locs3 ls (lv_sub hl [2, 3, 4, 5, 6] rfl) hI2 hW3 hS3 (la_Out_of hO3))
  · have hcs1 : cells + 1 ≤ 601024 ∧ slots + 6 ≤ 7293034 := by omega
    refine lh_thr hlt hoa C0 hK0 tz_letter_D tz_letter_W (ax_in (ax_wl_at (k := 5) (j := 163) rfl) rfl) (ax_in (ax_wl_at (k := 5) (j := 164) rfl) rfl) (ax_in (ax_wl_at (k := 1) (j := 0) rfl) rfl) (by decide +kernel) (tc_letter l hlt Dg (la_A s oa) cA ad adV vF hq) hW hS hO hl.1 dl_503 hcs1 (fun H1 locs1 hW1 hS1 hO1 => ?_)
    obtain ⟨f, hO1⟩ := hO1
    refine lv_istore (lv' := [(5, .int 1), (0, .ref b), (1, .ref (ad 0)), (2, .ref (ad 207)), (3, .ref oa), (4, .int i)]) hx hb dl_506 hl (by decide) rfl (fun ls hl => ?_)
    refine lv_aload_n hx hb dl_508 rfl (lv_at hl 3 rfl) ?_
    refine lv_aload_n hx hb dl_509 rfl (lv_at hl 1 rfl) ?_
    refine lv_iload hx hb dl_510 (lv_at hl 5 rfl) ?_
    refine lv_iconst (v := 1) hx hb dl_512 (by decide) ?_
    refine lv_iadd hx hb dl_513 ?_
    refine va_sld hx hb hX hbl hbA hS1 (hin 1 (by decide) (by decide)) dl_514 ?_
    refine lv_aload_n hx hb dl_515 rfl (lv_at hl 1 rfl) ?_
    refine lv_iload hx hb dl_516 (lv_at hl 5 rfl) ?_
    refine lv_iconst (v := 2) hx hb dl_518 (by decide) ?_
    refine lv_iadd hx hb dl_519 ?_
    refine va_sld hx hb hX hbl hbA hS1 (hin 2 (by decide) (by decide)) dl_520 ?_
    refine la_call C0 hK0 (z := 74) (o := 207) (index := 66) (As := [.int (xs (i + 1).toNatClampNeg), .int (xs (i + 2).toNatClampNeg)]) (rest := []) (by decide) e2 rfl (by decide) rfl (ax_wl_at (k := 6) (j := 236) rfl) (ax_wl_at (k := 6) (j := 237) rfl) (ax_wl_at (k := 6) (j := 238) rfl) (show (parseMethodDescriptor (ax_MT 74).1.desc).map (fun d => d.parameters.length) = some 2 by decide +kernel) (by decide) hW1 hS1 rfl hl.1 (Nat.le_of_ble_eq_true rfl) dl_521 hcs1 (fun H2 locs2 hW2 hS2 hk2 => ?_)
    refine lv_istore (lv' := [(6, .int r), (5, .int 1), (0, .ref b), (1, .ref (ad 0)), (2, .ref (ad 207)), (3, .ref oa), (4, .int i)]) hx hb dl_524 hl (by decide) rfl (fun ls hl => ?_)
    refine lv_aload_n hx hb dl_526 rfl (lv_at hl 4 rfl) ?_
    refine la_call C0 hK0 (z := 0) (o := 207) (index := 58) (As := []) (rest := []) (by decide) (jl_0 ν2) rfl (by decide) rfl (ax_wl_at (k := 5) (j := 195) rfl) (ax_wl_at (k := 5) (j := 196) rfl) (ax_wl_at (k := 5) (j := 197) rfl) (show (parseMethodDescriptor (ax_MT 0).1.desc).map (fun d => d.parameters.length) = some 0 by decide +kernel) (by decide) hW2 hS2 rfl hl.1 (Nat.le_of_ble_eq_true rfl) dl_527 hcs1 (fun H3 locs3 hW3 hS3 hk3 => ?_)
    rw [hth]
    refine lv_iload hx hb dl_530 (lv_at hl 1 rfl) ?_
    refine lv_icmp_eq (tgt := 537) hx hb dl_532 (by decide) (fun _ => ?_) (fun h => absurd rfl h)
    refine lv_iload hx hb dl_537 (lv_at hl 1 rfl) ?_
    refine lv_if_ne (tgt := 554) hx hb dl_539 (by decide) (fun _ => ?_) (fun h => absurd h (by decide))
    refine lv_goto (tgt := 1325) hx hb dl_554 (by decide) ?_
    exact W.widen (k := cells + 20) (n := slots + 1000) (by omega) (by omega) (kk ν2 H3 locs3 ls (lv_sub hl [2, 3, 4, 5, 6] rfl) hI2 hW3 hS3 (la_Out_of (lh_keep (lh_keep hO1 hk2) hk3)))
theorem tz_fragment_D : th_D method_6_code 21 := ⟨by decide +kernel, by decide +kernel, by decide +kernel, by decide +kernel, by decide +kernel, by decide +kernel, by decide +kernel, by decide +kernel, by decide +kernel, by decide +kernel, by decide +kernel, by decide +kernel, by decide +kernel, by decide +kernel⟩
theorem tz_fragment_W : th_W ({ cls := "AskingFragmentsLaw", name := "fragment", desc := "(LAskingFragments;II[J)I" } : Jvm.MethodName) method_6_code 21 156 := ⟨(ax_in (ax_wl_at (k := 5) (j := 172) rfl) rfl), (ax_in (ax_wl_at (k := 5) (j := 173) rfl) rfl), (ax_in (ax_wl_at (k := 5) (j := 174) rfl) rfl), (ax_in (ax_wl_at (k := 5) (j := 175) rfl) rfl), rfl, by decide, rfl, by decide +kernel, by decide⟩
theorem lt_fragment {oa : Nat} (hlt : l.stackTraces = false) (hoa : s.heap.size ≤ oa) (C0 : lw_At p s m meth c b L xs) (hK0 : la_K s oa Dg cA ad adV vF) : la_T p l e s m below meth c b L Dg cA ad oa 870 := by
  intro H locs cells slots ls μ i hl hI hW hS hO hin hcs kk
  obtain ⟨hx, hb, hr, hml, hown, hts, hX, hbl, hlocks, hgv⟩ := id C0
  have hbA : ¬ (fun q : Nat => s.heap.size ≤ q) b := Nat.not_le.mpr hbl
  refine lv_aload_n hx hb dl_870 rfl (lv_at hl 1 rfl) ?_
  refine lv_aload_n hx hb dl_871 rfl (lv_at hl 0 rfl) ?_
  refine lv_iload hx hb dl_872 (lv_at hl 4 rfl) ?_
  refine lv_iconst (v := 1) hx hb dl_874 (by decide) ?_
  refine lv_iadd hx hb dl_875 ?_
  refine va_sld hx hb hX hbl hbA hS (hin 1 (by decide) (by decide)) dl_876 ?_
  refine lv_aload_n hx hb dl_877 rfl (lv_at hl 0 rfl) ?_
  refine lv_iload hx hb dl_878 (lv_at hl 4 rfl) ?_
  refine lv_iconst (v := 2) hx hb dl_880 (by decide) ?_
  refine lv_iadd hx hb dl_881 ?_
  refine va_sld hx hb hX hbl hbA hS (hin 2 (by decide) (by decide)) dl_882 ?_
  refine lv_aload_n hx hb dl_883 rfl (lv_at hl 3 rfl) ?_
  rcases LP_fragment hI (xs (i + 1).toNatClampNeg) (xs (i + 2).toNatClampNeg) with ⟨r, ν1, ν2, e1, e2, hth, hI2⟩ | ⟨hq, r, ν2, e2, hth, hI2⟩
  · have hcs1 : cells ≤ 601024 ∧ slots ≤ 7293034 := by omega
    refine lh_ret hoa C0 hK0 tz_fragment_D tz_fragment_W (ax_in (ax_wl_at (k := 5) (j := 170) rfl) rfl) (ax_in (ax_wl_at (k := 5) (j := 171) rfl) rfl) (ax_in (ax_wl_at (k := 1) (j := 0) rfl) rfl) (by decide +kernel) e1 hW hS hO hl.1 dl_884 hcs1 (fun H1 locs1 hW1 hS1 hO1 => ?_)
    obtain ⟨f, hf, hO1⟩ := hO1
    refine lv_istore (lv' := [(5, .int 0), (0, .ref b), (1, .ref (ad 0)), (2, .ref (ad 207)), (3, .ref oa), (4, .int i)]) hx hb dl_887 hl (by decide) rfl (fun ls hl => ?_)
    refine lv_aload_n hx hb dl_889 rfl (lv_at hl 3 rfl) ?_
    refine lv_aload_n hx hb dl_890 rfl (lv_at hl 1 rfl) ?_
    refine lv_iload hx hb dl_891 (lv_at hl 5 rfl) ?_
    refine lv_iconst (v := 1) hx hb dl_893 (by decide) ?_
    refine lv_iadd hx hb dl_894 ?_
    refine va_sld hx hb hX hbl hbA hS1 (hin 1 (by decide) (by decide)) dl_895 ?_
    refine lv_aload_n hx hb dl_896 rfl (lv_at hl 1 rfl) ?_
    refine lv_iload hx hb dl_897 (lv_at hl 5 rfl) ?_
    refine lv_iconst (v := 2) hx hb dl_899 (by decide) ?_
    refine lv_iadd hx hb dl_900 ?_
    refine va_sld hx hb hX hbl hbA hS1 (hin 2 (by decide) (by decide)) dl_901 ?_
    refine la_call C0 hK0 (z := 99) (o := 207) (index := 122) (As := [.int (xs (i + 1).toNatClampNeg), .int (xs (i + 2).toNatClampNeg)]) (rest := []) (by decide) e2 rfl (by decide) rfl (ax_wl_at (k := 7) (j := 219) rfl) (ax_wl_at (k := 7) (j := 220) rfl) (ax_wl_at (k := 7) (j := 221) rfl) (show (parseMethodDescriptor (ax_MT 99).1.desc).map (fun d => d.parameters.length) = some 2 by decide +kernel) (by decide) hW1 hS1 rfl hl.1 (Nat.le_of_ble_eq_true rfl) dl_902 hcs1 (fun H2 locs2 hW2 hS2 hk2 => ?_)
    refine lv_istore (lv' := [(6, .int r), (5, .int 0), (0, .ref b), (1, .ref (ad 0)), (2, .ref (ad 207)), (3, .ref oa), (4, .int i)]) hx hb dl_905 hl (by decide) rfl (fun ls hl => ?_)
    refine lv_aload_n hx hb dl_907 rfl (lv_at hl 4 rfl) ?_
    refine la_call C0 hK0 (z := 0) (o := 207) (index := 58) (As := []) (rest := []) (by decide) (jl_0 ν2) rfl (by decide) rfl (ax_wl_at (k := 5) (j := 195) rfl) (ax_wl_at (k := 5) (j := 196) rfl) (ax_wl_at (k := 5) (j := 197) rfl) (show (parseMethodDescriptor (ax_MT 0).1.desc).map (fun d => d.parameters.length) = some 0 by decide +kernel) (by decide) hW2 hS2 rfl hl.1 (Nat.le_of_ble_eq_true rfl) dl_908 hcs1 (fun H3 locs3 hW3 hS3 hk3 => ?_)
    rw [hth]
    refine lv_iload hx hb dl_911 (lv_at hl 1 rfl) ?_
    refine lv_icmp_eq (tgt := 918) hx hb dl_913 (by decide) (fun _ => ?_) (fun h => absurd rfl h)
    refine lv_iload hx hb dl_918 (lv_at hl 1 rfl) ?_
    refine lv_if_ne (tgt := 935) hx hb dl_920 (by decide) (fun h => absurd rfl h) (fun _ => ?_)
    have hO3 := lh_keep (lh_keep hO1 hk2) hk3
    refine lv_aload_n hx hb dl_923 rfl (lv_at hl 5 rfl) ?_
    refine lv_iconst (v := 0) hx hb dl_924 (by decide) ?_
    refine va_lald hx hb hK0.1 hO3 0 3 rfl rfl (by unfold vp_in; decide) dl_925 ?_
    refine lv_iload hx hb dl_926 (lv_at hl 0 rfl) ?_
    refine lv_i2l (v := r.toInt64) hx hb dl_928 rfl ?_
    refine W.lcmp hx hb dl_929 ?_
    rw [show f (0 : Int32).toNatClampNeg = r.toInt64 from hf, lh_cmp]
    refine lv_if_eq (tgt := 935) hx hb dl_930 (by decide) (fun _ => ?_) (fun h => absurd rfl h)
    refine lv_goto (tgt := 1325) hx hb dl_935 (by decide) ?_
    exact W.widen (k := cells + 20) (n := slots + 1000) (by omega) (by omega) (kk ν2 H3 locs3 ls (lv_sub hl [2, 3, 4, 5, 6] rfl) hI2 hW3 hS3 (la_Out_of hO3))
  · have hcs1 : cells + 1 ≤ 601024 ∧ slots + 6 ≤ 7293034 := by omega
    refine lh_thr hlt hoa C0 hK0 tz_fragment_D tz_fragment_W (ax_in (ax_wl_at (k := 5) (j := 170) rfl) rfl) (ax_in (ax_wl_at (k := 5) (j := 171) rfl) rfl) (ax_in (ax_wl_at (k := 1) (j := 0) rfl) rfl) (by decide +kernel) (tc_fragment l hlt Dg (la_A s oa) cA ad adV vF hq) hW hS hO hl.1 dl_884 hcs1 (fun H1 locs1 hW1 hS1 hO1 => ?_)
    obtain ⟨f, hO1⟩ := hO1
    refine lv_istore (lv' := [(5, .int 1), (0, .ref b), (1, .ref (ad 0)), (2, .ref (ad 207)), (3, .ref oa), (4, .int i)]) hx hb dl_887 hl (by decide) rfl (fun ls hl => ?_)
    refine lv_aload_n hx hb dl_889 rfl (lv_at hl 3 rfl) ?_
    refine lv_aload_n hx hb dl_890 rfl (lv_at hl 1 rfl) ?_
    refine lv_iload hx hb dl_891 (lv_at hl 5 rfl) ?_
    refine lv_iconst (v := 1) hx hb dl_893 (by decide) ?_
    refine lv_iadd hx hb dl_894 ?_
    refine va_sld hx hb hX hbl hbA hS1 (hin 1 (by decide) (by decide)) dl_895 ?_
    refine lv_aload_n hx hb dl_896 rfl (lv_at hl 1 rfl) ?_
    refine lv_iload hx hb dl_897 (lv_at hl 5 rfl) ?_
    refine lv_iconst (v := 2) hx hb dl_899 (by decide) ?_
    refine lv_iadd hx hb dl_900 ?_
    refine va_sld hx hb hX hbl hbA hS1 (hin 2 (by decide) (by decide)) dl_901 ?_
    refine la_call C0 hK0 (z := 99) (o := 207) (index := 122) (As := [.int (xs (i + 1).toNatClampNeg), .int (xs (i + 2).toNatClampNeg)]) (rest := []) (by decide) e2 rfl (by decide) rfl (ax_wl_at (k := 7) (j := 219) rfl) (ax_wl_at (k := 7) (j := 220) rfl) (ax_wl_at (k := 7) (j := 221) rfl) (show (parseMethodDescriptor (ax_MT 99).1.desc).map (fun d => d.parameters.length) = some 2 by decide +kernel) (by decide) hW1 hS1 rfl hl.1 (Nat.le_of_ble_eq_true rfl) dl_902 hcs1 (fun H2 locs2 hW2 hS2 hk2 => ?_)
    refine lv_istore (lv' := [(6, .int r), (5, .int 1), (0, .ref b), (1, .ref (ad 0)), (2, .ref (ad 207)), (3, .ref oa), (4, .int i)]) hx hb dl_905 hl (by decide) rfl (fun ls hl => ?_)
    refine lv_aload_n hx hb dl_907 rfl (lv_at hl 4 rfl) ?_
    refine la_call C0 hK0 (z := 0) (o := 207) (index := 58) (As := []) (rest := []) (by decide) (jl_0 ν2) rfl (by decide) rfl (ax_wl_at (k := 5) (j := 195) rfl) (ax_wl_at (k := 5) (j := 196) rfl) (ax_wl_at (k := 5) (j := 197) rfl) (show (parseMethodDescriptor (ax_MT 0).1.desc).map (fun d => d.parameters.length) = some 0 by decide +kernel) (by decide) hW2 hS2 rfl hl.1 (Nat.le_of_ble_eq_true rfl) dl_908 hcs1 (fun H3 locs3 hW3 hS3 hk3 => ?_)
    rw [hth]
    refine lv_iload hx hb dl_911 (lv_at hl 1 rfl) ?_
    refine lv_icmp_eq (tgt := 918) hx hb dl_913 (by decide) (fun _ => ?_) (fun h => absurd rfl h)
    refine lv_iload hx hb dl_918 (lv_at hl 1 rfl) ?_
    refine lv_if_ne (tgt := 935) hx hb dl_920 (by decide) (fun _ => ?_) (fun h => absurd h (by decide))
    refine lv_goto (tgt := 1325) hx hb dl_935 (by decide) ?_
    exact W.widen (k := cells + 20) (n := slots + 1000) (by omega) (by omega) (kk ν2 H3 locs3 ls (lv_sub hl [2, 3, 4, 5, 6] rfl) hI2 hW3 hS3 (la_Out_of (lh_keep (lh_keep hO1 hk2) hk3)))
end LTH
