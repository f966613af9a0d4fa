theorem dl_360 : decode code 360 = .ok (.aload_n 1, 1) := by decide +kernel
theorem da_361 : la_ok 361 1 := by unfold la_ok; decide +kernel
theorem da_366 : la_ok 366 2 := by unfold la_ok; decide +kernel
theorem dl_371 : decode code 371 = .ok (.invokevirtual 39, 3) := by decide +kernel
theorem dl_374 : decode code 374 = .ok (.aload_n 2, 1) := by decide +kernel
theorem da_375 : la_ok 375 1 := by unfold la_ok; decide +kernel
theorem da_380 : la_ok 380 2 := by unfold la_ok; decide +kernel
theorem dl_385 : decode code 385 = .ok (.invokevirtual 42, 3) := by decide +kernel
theorem dl_388 : decode code 388 = .ok (.if_icmp .eq 834, 3) := by decide +kernel
set_option maxHeartbeats 4000000 in
theorem lw_k6 {X : zX} {p : Program} {e : Env} {s : State} {m : MethodId} {below : List Frame} {meth : Method} {c : Code} {b L i : Nat} {xs : Nat → Int32} {H : Heap} {locs : List Loc} {ls : Array Slot} {Q : State → Prop} (C0 : lw_At p s m meth c b L xs) (hz : zk X s) (hbA : ¬ zA X b) (hL : L ≤ 3072) (hi : i + 6 ≤ L) (hI : lw_I X s H locs) (hl : lv_has ls 4 [(0, .ref b), (1, .ref (zx_a X 0)), (2, .ref (zx_a X 53)), (3, .int (nI i))]) (kk : ∀ (H1 : Heap) (locs1 : List Loc), lw_I X s H1 locs1 → W p (zx_l X) e room_1 s m #[Value.ref b] below meth c H1 locs1 77 1890 Q (F0 m 1222 ls [])) : W p (zx_l X) e room_1 s m #[Value.ref b] below meth c H locs 77 1890 Q (F0 m 360 ls []) := by
  obtain ⟨hx, hb, hr, hml, hown, hts, hX, hbl, hlocks, hgv⟩ := id C0
  obtain ⟨M, S, it, hW, hC, hM, hP, hS⟩ := hI
  obtain ⟨r, S', it', hkd, hW', oC, oM⟩ := o_fool (X := X) (S := S) (it := it) (x1 := xs (i + 1)) (x2 := xs (i + 2)) hW
  obtain ⟨z, rfl⟩ := q_kdI hkd rfl
  obtain ⟨M1, cC, f1, r1⟩ := oC M hC
  obtain ⟨M2, cM, f2, r2⟩ := oM M1 (q_rM_hi hM f1)
  have r3 := q_rC_lo r1 f2
  refine lv_aload_n hx hb dl_360 rfl (lv_at hl 1 rfl) ?_
  refine lw_arg C0 hbA hS hl hi hL (j := 1) (by omega) (by decide) da_361 ?_
  refine lw_arg C0 hbA hS hl hi hL (j := 2) (by omega) (by decide) da_366 ?_
  refine lw_call (j := 20) (x := 39) (bb := 0) (As := [.int (xs (i + 1)), .int (xs (i + 2))]) (rest := []) (r := .int z) C0 hz hP hS hl.1 (zt_in 308 (by decide +kernel) rfl) rfl rfl (Nat.le_of_ble_eq_true rfl) (show zs_sh[0]? = some (.inr _) from rfl) rfl ⟨(Nat.le_of_ble_eq_true rfl), (Nat.le_of_ble_eq_true rfl)⟩ dl_371 (Nat.le_of_ble_eq_true rfl) cC (fun H1 locs1 hP1 hS1 => ?_)
  refine lv_aload_n hx hb dl_374 rfl (lv_at hl 2 rfl) ?_
  refine lw_arg C0 hbA hS1 hl hi hL (j := 1) (by omega) (by decide) da_375 ?_
  refine lw_arg C0 hbA hS1 hl hi hL (j := 2) (by omega) (by decide) da_380 ?_
  refine lw_call (j := 103) (x := 42) (bb := 53) (As := [.int (xs (i + 1)), .int (xs (i + 2))]) (rest := [.int z]) (r := .int z) C0 hz hP1 hS1 hl.1 (zt_in 772 (by decide +kernel) rfl) rfl rfl (Nat.le_of_ble_eq_true rfl) (show zs_sh[53]? = some (.inr _) from rfl) rfl ⟨(Nat.le_of_ble_eq_true rfl), (Nat.le_of_ble_eq_true rfl)⟩ dl_385 (Nat.le_of_ble_eq_true rfl) cM (fun H2 locs2 hP2 hS2 => ?_)
  exact lv_icmp_eq (tgt := 1222) hx hb dl_388 (by decide) (fun _ => kk H2 locs2 ⟨M2, S', it', hW', r3, r2, hP2, hS2⟩) (fun c => absurd rfl c)
theorem dl_393 : decode code 393 = .ok (.aload_n 1, 1) := by decide +kernel
theorem da_394 : la_ok 394 1 := by unfold la_ok; decide +kernel
theorem da_399 : la_ok 399 2 := by unfold la_ok; decide +kernel
theorem da_404 : la_ok 404 3 := by unfold la_ok; decide +kernel
theorem dl_409 : decode code 409 = .ok (.invokevirtual 43, 3) := by decide +kernel
theorem dl_412 : decode code 412 = .ok (.aload_n 2, 1) := by decide +kernel
theorem da_413 : la_ok 413 1 := by unfold la_ok; decide +kernel
theorem da_418 : la_ok 418 2 := by unfold la_ok; decide +kernel
theorem da_423 : la_ok 423 3 := by unfold la_ok; decide +kernel
theorem dl_428 : decode code 428 = .ok (.invokevirtual 47, 3) := by decide +kernel
theorem dl_431 : decode code 431 = .ok (.if_icmp .eq 791, 3) := by decide +kernel
set_option maxHeartbeats 4000000 in
theorem lw_k7 {X : zX} {p : Program} {e : Env} {s : State} {m : MethodId} {below : List Frame} {meth : Method} {c : Code} {b L i : Nat} {xs : Nat → Int32} {H : Heap} {locs : List Loc} {ls : Array Slot} {Q : State → Prop} (C0 : lw_At p s m meth c b L xs) (hz : zk X s) (hbA : ¬ zA X b) (hL : L ≤ 3072) (hi : i + 6 ≤ L) (hI : lw_I X s H locs) (hl : lv_has ls 4 [(0, .ref b), (1, .ref (zx_a X 0)), (2, .ref (zx_a X 53)), (3, .int (nI i))]) (kk : ∀ (H1 : Heap) (locs1 : List Loc), lw_I X s H1 locs1 → W p (zx_l X) e room_1 s m #[Value.ref b] below meth c H1 locs1 77 1890 Q (F0 m 1222 ls [])) : W p (zx_l X) e room_1 s m #[Value.ref b] below meth c H locs 77 1890 Q (F0 m 393 ls []) := by
  obtain ⟨hx, hb, hr, hml, hown, hts, hX, hbl, hlocks, hgv⟩ := id C0
  obtain ⟨M, S, it, hW, hC, hM, hP, hS⟩ := hI
  obtain ⟨r, S', it', hkd, hW', oC, oM⟩ := o_event (X := X) (S := S) (it := it) (x1 := xs (i + 1)) (x2 := xs (i + 2)) (x3 := xs (i + 3)) hW
  obtain ⟨z, rfl⟩ := q_kdI hkd rfl
  obtain ⟨M1, cC, f1, r1⟩ := oC M hC
  obtain ⟨M2, cM, f2, r2⟩ := oM M1 (q_rM_hi hM f1)
  have r3 := q_rC_lo r1 f2
  refine lv_aload_n hx hb dl_393 rfl (lv_at hl 1 rfl) ?_
  refine lw_arg C0 hbA hS hl hi hL (j := 1) (by omega) (by decide) da_394 ?_
  refine lw_arg C0 hbA hS hl hi hL (j := 2) (by omega) (by decide) da_399 ?_
  refine lw_arg C0 hbA hS hl hi hL (j := 3) (by omega) (by decide) da_404 ?_
  refine lw_call (j := 22) (x := 43) (bb := 0) (As := [.int (xs (i + 1)), .int (xs (i + 2)), .int (xs (i + 3))]) (rest := []) (r := .int z) C0 hz hP hS hl.1 (zt_in 312 (by decide +kernel) rfl) rfl rfl (Nat.le_of_ble_eq_true rfl) (show zs_sh[0]? = some (.inr _) from rfl) rfl ⟨(Nat.le_of_ble_eq_true rfl), (Nat.le_of_ble_eq_true rfl)⟩ dl_409 (Nat.le_of_ble_eq_true rfl) cC (fun H1 locs1 hP1 hS1 => ?_)
  refine lv_aload_n hx hb dl_412 rfl (lv_at hl 2 rfl) ?_
  refine lw_arg C0 hbA hS1 hl hi hL (j := 1) (by omega) (by decide) da_413 ?_
  refine lw_arg C0 hbA hS1 hl hi hL (j := 2) (by omega) (by decide) da_418 ?_
  refine lw_arg C0 hbA hS1 hl hi hL (j := 3) (by omega) (by decide) da_423 ?_
  refine lw_call (j := 104) (x := 47) (bb := 53) (As := [.int (xs (i + 1)), .int (xs (i + 2)), .int (xs (i + 3))]) (rest := [.int z]) (r := .int z) C0 hz hP1 hS1 hl.1 (zt_in 778 (by decide +kernel) rfl) rfl rfl (Nat.le_of_ble_eq_true rfl) (show zs_sh[53]? = some (.inr _) from rfl) rfl ⟨(Nat.le_of_ble_eq_true rfl), (Nat.le_of_ble_eq_true rfl)⟩ dl_428 (Nat.le_of_ble_eq_true rfl) cM (fun H2 locs2 hP2 hS2 => ?_)
  exact lv_icmp_eq (tgt := 1222) hx hb dl_431 (by decide) (fun _ => kk H2 locs2 ⟨M2, S', it', hW', r3, r2, hP2, hS2⟩) (fun c => absurd rfl c)
theorem dl_436 : decode code 436 = .ok (.aload_n 1, 1) := by decide +kernel
theorem dl_437 : decode code 437 = .ok (.invokevirtual 48, 3) := by decide +kernel
theorem dl_440 : decode code 440 = .ok (.aload_n 2, 1) := by decide +kernel
theorem dl_441 : decode code 441 = .ok (.invokevirtual 52, 3) := by decide +kernel
theorem dl_444 : decode code 444 = .ok (.if_icmp .eq 778, 3) := by decide +kernel
set_option maxHeartbeats 4000000 in
theorem lw_k8 {X : zX} {p : Program} {e : Env} {s : State} {m : MethodId} {below : List Frame} {meth : Method} {c : Code} {b L i : Nat} {xs : Nat → Int32} {H : Heap} {locs : List Loc} {ls : Array Slot} {Q : State → Prop} (C0 : lw_At p s m meth c b L xs) (hz : zk X s) (hbA : ¬ zA X b) (hL : L ≤ 3072) (hi : i + 6 ≤ L) (hI : lw_I X s H locs) (hl : lv_has ls 4 [(0, .ref b), (1, .ref (zx_a X 0)), (2, .ref (zx_a X 53)), (3, .int (nI i))]) (kk : ∀ (H1 : Heap) (locs1 : List Loc), lw_I X s H1 locs1 → W p (zx_l X) e room_1 s m #[Value.ref b] below meth c H1 locs1 77 1890 Q (F0 m 1222 ls [])) : W p (zx_l X) e room_1 s m #[Value.ref b] below meth c H locs 77 1890 Q (F0 m 436 ls []) := by
  obtain ⟨hx, hb, hr, hml, hown, hts, hX, hbl, hlocks, hgv⟩ := id C0
  obtain ⟨M, S, it, hW, hC, hM, hP, hS⟩ := hI
  obtain ⟨r, S', it', hkd, hW', oC, oM⟩ := o_back (X := X) (S := S) (it := it)  hW
  obtain ⟨z, rfl⟩ := q_kdI hkd rfl
  obtain ⟨M1, cC, f1, r1⟩ := oC M hC
  obtain ⟨M2, cM, f2, r2⟩ := oM M1 (q_rM_hi hM f1)
  have r3 := q_rC_lo r1 f2
  refine lv_aload_n hx hb dl_436 rfl (lv_at hl 1 rfl) ?_
  refine lw_call (j := 23) (x := 48) (bb := 0) (As := []) (rest := []) (r := .int z) C0 hz hP hS hl.1 (zt_in 320 (by decide +kernel) rfl) rfl rfl (Nat.le_of_ble_eq_true rfl) (show zs_sh[0]? = some (.inr _) from rfl) rfl ⟨(Nat.le_of_ble_eq_true rfl), (Nat.le_of_ble_eq_true rfl)⟩ dl_437 (Nat.le_of_ble_eq_true rfl) cC (fun H1 locs1 hP1 hS1 => ?_)
  refine lv_aload_n hx hb dl_440 rfl (lv_at hl 2 rfl) ?_
  refine lw_call (j := 105) (x := 52) (bb := 53) (As := []) (rest := [.int z]) (r := .int z) C0 hz hP1 hS1 hl.1 (zt_in 783 (by decide +kernel) rfl) rfl rfl (Nat.le_of_ble_eq_true rfl) (show zs_sh[53]? = some (.inr _) from rfl) rfl ⟨(Nat.le_of_ble_eq_true rfl), (Nat.le_of_ble_eq_true rfl)⟩ dl_441 (Nat.le_of_ble_eq_true rfl) cM (fun H2 locs2 hP2 hS2 => ?_)
  exact lv_icmp_eq (tgt := 1222) hx hb dl_444 (by decide) (fun _ => kk H2 locs2 ⟨M2, S', it', hW', r3, r2, hP2, hS2⟩) (fun c => absurd rfl c)
theorem dl_449 : decode code 449 = .ok (.aload_n 1, 1) := by decide +kernel
theorem da_450 : la_ok 450 1 := by unfold la_ok; decide +kernel
theorem dl_455 : decode code 455 = .ok (.invokevirtual 53, 3) := by decide +kernel
theorem dl_458 : decode code 458 = .ok (.aload_n 2, 1) := by decide +kernel
theorem da_459 : la_ok 459 1 := by unfold la_ok; decide +kernel
theorem dl_464 : decode code 464 = .ok (.invokevirtual 56, 3) := by decide +kernel
theorem dl_467 : decode code 467 = .ok (.if_icmp .eq 755, 3) := by decide +kernel
set_option maxHeartbeats 4000000 in
theorem lw_k9 {X : zX} {p : Program} {e : Env} {s : State} {m : MethodId} {below : List Frame} {meth : Method} {c : Code} {b L i : Nat} {xs : Nat → Int32} {H : Heap} {locs : List Loc} {ls : Array Slot} {Q : State → Prop} (C0 : lw_At p s m meth c b L xs) (hz : zk X s) (hbA : ¬ zA X b) (hL : L ≤ 3072) (hi : i + 6 ≤ L) (hI : lw_I X s H locs) (hl : lv_has ls 4 [(0, .ref b), (1, .ref (zx_a X 0)), (2, .ref (zx_a X 53)), (3, .int (nI i))]) (kk : ∀ (H1 : Heap) (locs1 : List Loc), lw_I X s H1 locs1 → W p (zx_l X) e room_1 s m #[Value.ref b] below meth c H1 locs1 77 1890 Q (F0 m 1222 ls [])) : W p (zx_l X) e room_1 s m #[Value.ref b] below meth c H locs 77 1890 Q (F0 m 449 ls []) := by
  obtain ⟨hx, hb, hr, hml, hown, hts, hX, hbl, hlocks, hgv⟩ := id C0
  obtain ⟨M, S, it, hW, hC, hM, hP, hS⟩ := hI
  obtain ⟨r, S', it', hkd, hW', oC, oM⟩ := o_read (X := X) (S := S) (it := it) (x1 := xs (i + 1)) hW
  obtain ⟨z, rfl⟩ := q_kdI hkd rfl
  obtain ⟨M1, cC, f1, r1⟩ := oC M hC
  obtain ⟨M2, cM, f2, r2⟩ := oM M1 (q_rM_hi hM f1)
  have r3 := q_rC_lo r1 f2
  refine lv_aload_n hx hb dl_449 rfl (lv_at hl 1 rfl) ?_
  refine lw_arg C0 hbA hS hl hi hL (j := 1) (by omega) (by decide) da_450 ?_
  refine lw_call (j := 27) (x := 53) (bb := 0) (As := [.int (xs (i + 1))]) (rest := []) (r := .int z) C0 hz hP hS hl.1 (zt_in 324 (by decide +kernel) rfl) rfl rfl (Nat.le_of_ble_eq_true rfl) (show zs_sh[0]? = some (.inr _) from rfl) rfl ⟨(Nat.le_of_ble_eq_true rfl), (Nat.le_of_ble_eq_true rfl)⟩ dl_455 (Nat.le_of_ble_eq_true rfl) cC (fun H1 locs1 hP1 hS1 => ?_)
  refine lv_aload_n hx hb dl_458 rfl (lv_at hl 2 rfl) ?_
  refine lw_arg C0 hbA hS1 hl hi hL (j := 1) (by omega) (by decide) da_459 ?_
  refine lw_call (j := 106) (x := 56) (bb := 53) (As := [.int (xs (i + 1))]) (rest := [.int z]) (r := .int z) C0 hz hP1 hS1 hl.1 (zt_in 787 (by decide +kernel) rfl) rfl rfl (Nat.le_of_ble_eq_true rfl) (show zs_sh[53]? = some (.inr _) from rfl) rfl ⟨(Nat.le_of_ble_eq_true rfl), (Nat.le_of_ble_eq_true rfl)⟩ dl_464 (Nat.le_of_ble_eq_true rfl) cM (fun H2 locs2 hP2 hS2 => ?_)
  exact lv_icmp_eq (tgt := 1222) hx hb dl_467 (by decide) (fun _ => kk H2 locs2 ⟨M2, S', it', hW', r3, r2, hP2, hS2⟩) (fun c => absurd rfl c)
theorem dl_472 : decode code 472 = .ok (.aload_n 1, 1) := by decide +kernel
theorem da_473 : la_ok 473 1 := by unfold la_ok; decide +kernel
theorem da_478 : la_ok 478 2 := by unfold la_ok; decide +kernel
theorem dl_483 : decode code 483 = .ok (.invokevirtual 57, 3) := by decide +kernel
theorem dl_486 : decode code 486 = .ok (.aload_n 2, 1) := by decide +kernel
theorem da_487 : la_ok 487 1 := by unfold la_ok; decide +kernel
theorem da_492 : la_ok 492 2 := by unfold la_ok; decide +kernel
theorem dl_497 : decode code 497 = .ok (.invokevirtual 60, 3) := by decide +kernel
theorem dl_500 : decode code 500 = .ok (.if_icmp .eq 722, 3) := by decide +kernel
set_option maxHeartbeats 4000000 in
theorem lw_k10 {X : zX} {p : Program} {e : Env} {s : State} {m : MethodId} {below : List Frame} {meth : Method} {c : Code} {b L i : Nat} {xs : Nat → Int32} {H : Heap} {locs : List Loc} {ls : Array Slot} {Q : State → Prop} (C0 : lw_At p s m meth c b L xs) (hz : zk X s) (hbA : ¬ zA X b) (hL : L ≤ 3072) (hi : i + 6 ≤ L) (hI : lw_I X s H locs) (hl : lv_has ls 4 [(0, .ref b), (1, .ref (zx_a X 0)), (2, .ref (zx_a X 53)), (3, .int (nI i))]) (kk : ∀ (H1 : Heap) (locs1 : List Loc), lw_I X s H1 locs1 → W p (zx_l X) e room_1 s m #[Value.ref b] below meth c H1 locs1 77 1890 Q (F0 m 1222 ls [])) : W p (zx_l X) e room_1 s m #[Value.ref b] below meth c H locs 77 1890 Q (F0 m 472 ls []) := by
  obtain ⟨hx, hb, hr, hml, hown, hts, hX, hbl, hlocks, hgv⟩ := id C0
  obtain ⟨M, S, it, hW, hC, hM, hP, hS⟩ := hI
  obtain ⟨r, S', it', hkd, hW', oC, oM⟩ := o_said (X := X) (S := S) (it := it) (x1 := xs (i + 1)) (x2 := xs (i + 2)) hW
  obtain ⟨z, rfl⟩ := q_kdI hkd rfl
  obtain ⟨M1, cC, f1, r1⟩ := oC M hC
  obtain ⟨M2, cM, f2, r2⟩ := oM M1 (q_rM_hi hM f1)
  have r3 := q_rC_lo r1 f2
  refine lv_aload_n hx hb dl_472 rfl (lv_at hl 1 rfl) ?_
  refine lw_arg C0 hbA hS hl hi hL (j := 1) (by omega) (by decide) da_473 ?_
  refine lw_arg C0 hbA hS hl hi hL (j := 2) (by omega) (by decide) da_478 ?_
  refine lw_call (j := 28) (x := 57) (bb := 0) (As := [.int (xs (i + 1)), .int (xs (i + 2))]) (rest := []) (r := .int z) C0 hz hP hS hl.1 (zt_in 341 (by decide +kernel) rfl) rfl rfl (Nat.le_of_ble_eq_true rfl) (show zs_sh[0]? = some (.inr _) from rfl) rfl ⟨(Nat.le_of_ble_eq_true rfl), (Nat.le_of_ble_eq_true rfl)⟩ dl_483 (Nat.le_of_ble_eq_true rfl) cC (fun H1 locs1 hP1 hS1 => ?_)
  refine lv_aload_n hx hb dl_486 rfl (lv_at hl 2 rfl) ?_
  refine lw_arg C0 hbA hS1 hl hi hL (j := 1) (by omega) (by decide) da_487 ?_
  refine lw_arg C0 hbA hS1 hl hi hL (j := 2) (by omega) (by decide) da_492 ?_
  refine lw_call (j := 116) (x := 60) (bb := 53) (As := [.int (xs (i + 1)), .int (xs (i + 2))]) (rest := [.int z]) (r := .int z) C0 hz hP1 hS1 hl.1 (zt_in 792 (by decide +kernel) rfl) rfl rfl (Nat.le_of_ble_eq_true rfl) (show zs_sh[53]? = some (.inr _) from rfl) rfl ⟨(Nat.le_of_ble_eq_true rfl), (Nat.le_of_ble_eq_true rfl)⟩ dl_497 (Nat.le_of_ble_eq_true rfl) cM (fun H2 locs2 hP2 hS2 => ?_)
  exact lv_icmp_eq (tgt := 1222) hx hb dl_500 (by decide) (fun _ => kk H2 locs2 ⟨M2, S', it', hW', r3, r2, hP2, hS2⟩) (fun c => absurd rfl c)
theorem dl_505 : decode code 505 = .ok (.aload_n 1, 1) := by decide +kernel
theorem da_506 : la_ok 506 1 := by unfold la_ok; decide +kernel
theorem da_511 : la_ok 511 2 := by unfold la_ok; decide +kernel
theorem dl_516 : decode code 516 = .ok (.invokevirtual 61, 3) := by decide +kernel
theorem dl_519 : decode code 519 = .ok (.aload_n 2, 1) := by decide +kernel
theorem da_520 : la_ok 520 1 := by unfold la_ok; decide +kernel
theorem da_525 : la_ok 525 2 := by unfold la_ok; decide +kernel
theorem dl_530 : decode code 530 = .ok (.invokevirtual 64, 3) := by decide +kernel
theorem dl_533 : decode code 533 = .ok (.if_icmp .eq 689, 3) := by decide +kernel
set_option maxHeartbeats 4000000 in
theorem lw_k11 {X : zX} {p : Program} {e : Env} {s : State} {m : MethodId} {below : List Frame} {meth : Method} {c : Code} {b L i : Nat} {xs : Nat → Int32} {H : Heap} {locs : List Loc} {ls : Array Slot} {Q : State → Prop} (C0 : lw_At p s m meth c b L xs) (hz : zk X s) (hbA : ¬ zA X b) (hL : L ≤ 3072) (hi : i + 6 ≤ L) (hI : lw_I X s H locs) (hl : lv_has ls 4 [(0, .ref b), (1, .ref (zx_a X 0)), (2, .ref (zx_a X 53)), (3, .int (nI i))]) (kk : ∀ (H1 : Heap) (locs1 : List Loc), lw_I X s H1 locs1 → W p (zx_l X) e room_1 s m #[Value.ref b] below meth c H1 locs1 77 1890 Q (F0 m 1222 ls [])) : W p (zx_l X) e room_1 s m #[Value.ref b] below meth c H locs 77 1890 Q (F0 m 505 ls []) := by
  obtain ⟨hx, hb, hr, hml, hown, hts, hX, hbl, hlocks, hgv⟩ := id C0
  obtain ⟨M, S, it, hW, hC, hM, hP, hS⟩ := hI
  obtain ⟨r, S', it', hkd, hW', oC, oM⟩ := o_tally (X := X) (S := S) (it := it) (x1 := xs (i + 1)) (x2 := xs (i + 2)) hW
  obtain ⟨z, rfl⟩ := q_kdI hkd rfl
  obtain ⟨M1, cC, f1, r1⟩ := oC M hC
  obtain ⟨M2, cM, f2, r2⟩ := oM M1 (q_rM_hi hM f1)
  have r3 := q_rC_lo r1 f2
  refine lv_aload_n hx hb dl_505 rfl (lv_at hl 1 rfl) ?_
  refine lw_arg C0 hbA hS hl hi hL (j := 1) (by omega) (by decide) da_506 ?_
  refine lw_arg C0 hbA hS hl hi hL (j := 2) (by omega) (by decide) da_511 ?_
  refine lw_call (j := 29) (x := 61) (bb := 0) (As := [.int (xs (i + 1)), .int (xs (i + 2))]) (rest := []) (r := .int z) C0 hz hP hS hl.1 (zt_in 345 (by decide +kernel) rfl) rfl rfl (Nat.le_of_ble_eq_true rfl) (show zs_sh[0]? = some (.inr _) from rfl) rfl ⟨(Nat.le_of_ble_eq_true rfl), (Nat.le_of_ble_eq_true rfl)⟩ dl_516 (Nat.le_of_ble_eq_true rfl) cC (fun H1 locs1 hP1 hS1 => ?_)
  refine lv_aload_n hx hb dl_519 rfl (lv_at hl 2 rfl) ?_
  refine lw_arg C0 hbA hS1 hl hi hL (j := 1) (by omega) (by decide) da_520 ?_
  refine lw_arg C0 hbA hS1 hl hi hL (j := 2) (by omega) (by decide) da_525 ?_
  refine lw_call (j := 118) (x := 64) (bb := 53) (As := [.int (xs (i + 1)), .int (xs (i + 2))]) (rest := [.int z]) (r := .int z) C0 hz hP1 hS1 hl.1 (zt_in 829 (by decide +kernel) rfl) rfl rfl (Nat.le_of_ble_eq_true rfl) (show zs_sh[53]? = some (.inr _) from rfl) rfl ⟨(Nat.le_of_ble_eq_true rfl), (Nat.le_of_ble_eq_true rfl)⟩ dl_530 (Nat.le_of_ble_eq_true rfl) cM (fun H2 locs2 hP2 hS2 => ?_)
  exact lv_icmp_eq (tgt := 1222) hx hb dl_533 (by decide) (fun _ => kk H2 locs2 ⟨M2, S', it', hW', r3, r2, hP2, hS2⟩) (fun c => absurd rfl c)
