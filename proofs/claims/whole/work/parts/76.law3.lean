theorem dl_666 : decode code 666 = .ok (.aload_n 1, 1) := by decide +kernel
theorem da_667 : la_ok 667 1 := by unfold la_ok; decide +kernel
theorem dl_672 : decode code 672 = .ok (.invokevirtual 89, 3) := by decide +kernel
theorem dl_675 : decode code 675 = .ok (.aload_n 2, 1) := by decide +kernel
theorem da_676 : la_ok 676 1 := by unfold la_ok; decide +kernel
theorem dl_681 : decode code 681 = .ok (.invokevirtual 92, 3) := by decide +kernel
theorem dl_684 : decode code 684 = .ok (.if_icmp .eq 538, 3) := by decide +kernel
set_option maxHeartbeats 4000000 in
theorem lw_k18 {X : zX} {p : Program} {e : Env} {s : State} {m : MethodId} {below : List Frame} {meth : Method} {c : Code} {b L i : Nat} {xs : Nat → Int32} {H : Heap} {locs : List Loc} {ls : Array Slot} {Q : State → Prop} (C0 : lw_At p s m meth c b L xs) (hz : zk X s) (hbA : ¬ zA X b) (hL : L ≤ 3072) (hi : i + 6 ≤ L) (hI : lw_I X s H locs) (hl : lv_has ls 4 [(0, .ref b), (1, .ref (zx_a X 0)), (2, .ref (zx_a X 53)), (3, .int (nI i))]) (kk : ∀ (H1 : Heap) (locs1 : List Loc), lw_I X s H1 locs1 → W p (zx_l X) e room_1 s m #[Value.ref b] below meth c H1 locs1 77 1890 Q (F0 m 1222 ls [])) : W p (zx_l X) e room_1 s m #[Value.ref b] below meth c H locs 77 1890 Q (F0 m 666 ls []) := by
  obtain ⟨hx, hb, hr, hml, hown, hts, hX, hbl, hlocks, hgv⟩ := id C0
  obtain ⟨M, S, it, hW, hC, hM, hP, hS⟩ := hI
  obtain ⟨r, S', it', hkd, hW', oC, oM⟩ := o_swap (X := X) (S := S) (it := it) (x1 := xs (i + 1)) hW
  obtain ⟨z, rfl⟩ := q_kdI hkd rfl
  obtain ⟨M1, cC, f1, r1⟩ := oC M hC
  obtain ⟨M2, cM, f2, r2⟩ := oM M1 (q_rM_hi hM f1)
  have r3 := q_rC_lo r1 f2
  refine lv_aload_n hx hb dl_666 rfl (lv_at hl 1 rfl) ?_
  refine lw_arg C0 hbA hS hl hi hL (j := 1) (by omega) (by decide) da_667 ?_
  refine lw_call (j := 39) (x := 89) (bb := 0) (As := [.int (xs (i + 1))]) (rest := []) (r := .int z) C0 hz hP hS hl.1 (zt_in 387 (by decide +kernel) rfl) rfl rfl (Nat.le_of_ble_eq_true rfl) (show zs_sh[0]? = some (.inr _) from rfl) rfl ⟨(Nat.le_of_ble_eq_true rfl), (Nat.le_of_ble_eq_true rfl)⟩ dl_672 (Nat.le_of_ble_eq_true rfl) cC (fun H1 locs1 hP1 hS1 => ?_)
  refine lv_aload_n hx hb dl_675 rfl (lv_at hl 2 rfl) ?_
  refine lw_arg C0 hbA hS1 hl hi hL (j := 1) (by omega) (by decide) da_676 ?_
  refine lw_call (j := 133) (x := 92) (bb := 53) (As := [.int (xs (i + 1))]) (rest := [.int z]) (r := .int z) C0 hz hP1 hS1 hl.1 (zt_in 888 (by decide +kernel) rfl) rfl rfl (Nat.le_of_ble_eq_true rfl) (show zs_sh[53]? = some (.inr _) from rfl) rfl ⟨(Nat.le_of_ble_eq_true rfl), (Nat.le_of_ble_eq_true rfl)⟩ dl_681 (Nat.le_of_ble_eq_true rfl) cM (fun H2 locs2 hP2 hS2 => ?_)
  exact lv_icmp_eq (tgt := 1222) hx hb dl_684 (by decide) (fun _ => kk H2 locs2 ⟨M2, S', it', hW', r3, r2, hP2, hS2⟩) (fun c => absurd rfl c)
theorem dl_689 : decode code 689 = .ok (.aload_n 1, 1) := by decide +kernel
theorem da_690 : la_ok 690 1 := by unfold la_ok; decide +kernel
theorem dl_695 : decode code 695 = .ok (.invokevirtual 93, 3) := by decide +kernel
theorem dl_698 : decode code 698 = .ok (.aload_n 2, 1) := by decide +kernel
theorem da_699 : la_ok 699 1 := by unfold la_ok; decide +kernel
theorem dl_704 : decode code 704 = .ok (.invokevirtual 96, 3) := by decide +kernel
theorem dl_707 : decode code 707 = .ok (.if_icmp .eq 515, 3) := by decide +kernel
set_option maxHeartbeats 4000000 in
theorem lw_k19 {X : zX} {p : Program} {e : Env} {s : State} {m : MethodId} {below : List Frame} {meth : Method} {c : Code} {b L i : Nat} {xs : Nat → Int32} {H : Heap} {locs : List Loc} {ls : Array Slot} {Q : State → Prop} (C0 : lw_At p s m meth c b L xs) (hz : zk X s) (hbA : ¬ zA X b) (hL : L ≤ 3072) (hi : i + 6 ≤ L) (hI : lw_I X s H locs) (hl : lv_has ls 4 [(0, .ref b), (1, .ref (zx_a X 0)), (2, .ref (zx_a X 53)), (3, .int (nI i))]) (kk : ∀ (H1 : Heap) (locs1 : List Loc), lw_I X s H1 locs1 → W p (zx_l X) e room_1 s m #[Value.ref b] below meth c H1 locs1 77 1890 Q (F0 m 1222 ls [])) : W p (zx_l X) e room_1 s m #[Value.ref b] below meth c H locs 77 1890 Q (F0 m 689 ls []) := by
  obtain ⟨hx, hb, hr, hml, hown, hts, hX, hbl, hlocks, hgv⟩ := id C0
  obtain ⟨M, S, it, hW, hC, hM, hP, hS⟩ := hI
  obtain ⟨r, S', it', hkd, hW', oC, oM⟩ := o_wish (X := X) (S := S) (it := it) (x1 := xs (i + 1)) hW
  obtain ⟨z, rfl⟩ := q_kdI hkd rfl
  obtain ⟨M1, cC, f1, r1⟩ := oC M hC
  obtain ⟨M2, cM, f2, r2⟩ := oM M1 (q_rM_hi hM f1)
  have r3 := q_rC_lo r1 f2
  refine lv_aload_n hx hb dl_689 rfl (lv_at hl 1 rfl) ?_
  refine lw_arg C0 hbA hS hl hi hL (j := 1) (by omega) (by decide) da_690 ?_
  refine lw_call (j := 41) (x := 93) (bb := 0) (As := [.int (xs (i + 1))]) (rest := []) (r := .int z) C0 hz hP hS hl.1 (zt_in 395 (by decide +kernel) rfl) rfl rfl (Nat.le_of_ble_eq_true rfl) (show zs_sh[0]? = some (.inr _) from rfl) rfl ⟨(Nat.le_of_ble_eq_true rfl), (Nat.le_of_ble_eq_true rfl)⟩ dl_695 (Nat.le_of_ble_eq_true rfl) cC (fun H1 locs1 hP1 hS1 => ?_)
  refine lv_aload_n hx hb dl_698 rfl (lv_at hl 2 rfl) ?_
  refine lw_arg C0 hbA hS1 hl hi hL (j := 1) (by omega) (by decide) da_699 ?_
  refine lw_call (j := 135) (x := 96) (bb := 53) (As := [.int (xs (i + 1))]) (rest := [.int z]) (r := .int z) C0 hz hP1 hS1 hl.1 (zt_in 896 (by decide +kernel) rfl) rfl rfl (Nat.le_of_ble_eq_true rfl) (show zs_sh[53]? = some (.inr _) from rfl) rfl ⟨(Nat.le_of_ble_eq_true rfl), (Nat.le_of_ble_eq_true rfl)⟩ dl_704 (Nat.le_of_ble_eq_true rfl) cM (fun H2 locs2 hP2 hS2 => ?_)
  exact lv_icmp_eq (tgt := 1222) hx hb dl_707 (by decide) (fun _ => kk H2 locs2 ⟨M2, S', it', hW', r3, r2, hP2, hS2⟩) (fun c => absurd rfl c)
theorem dl_712 : decode code 712 = .ok (.aload_n 1, 1) := by decide +kernel
theorem da_713 : la_ok 713 1 := by unfold la_ok; decide +kernel
theorem dl_718 : decode code 718 = .ok (.invokevirtual 97, 3) := by decide +kernel
theorem dl_721 : decode code 721 = .ok (.aload_n 2, 1) := by decide +kernel
theorem da_722 : la_ok 722 1 := by unfold la_ok; decide +kernel
theorem dl_727 : decode code 727 = .ok (.invokevirtual 100, 3) := by decide +kernel
theorem dl_730 : decode code 730 = .ok (.if_icmp .eq 492, 3) := by decide +kernel
set_option maxHeartbeats 4000000 in
theorem lw_k20 {X : zX} {p : Program} {e : Env} {s : State} {m : MethodId} {below : List Frame} {meth : Method} {c : Code} {b L i : Nat} {xs : Nat → Int32} {H : Heap} {locs : List Loc} {ls : Array Slot} {Q : State → Prop} (C0 : lw_At p s m meth c b L xs) (hz : zk X s) (hbA : ¬ zA X b) (hL : L ≤ 3072) (hi : i + 6 ≤ L) (hI : lw_I X s H locs) (hl : lv_has ls 4 [(0, .ref b), (1, .ref (zx_a X 0)), (2, .ref (zx_a X 53)), (3, .int (nI i))]) (kk : ∀ (H1 : Heap) (locs1 : List Loc), lw_I X s H1 locs1 → W p (zx_l X) e room_1 s m #[Value.ref b] below meth c H1 locs1 77 1890 Q (F0 m 1222 ls [])) : W p (zx_l X) e room_1 s m #[Value.ref b] below meth c H locs 77 1890 Q (F0 m 712 ls []) := by
  obtain ⟨hx, hb, hr, hml, hown, hts, hX, hbl, hlocks, hgv⟩ := id C0
  obtain ⟨M, S, it, hW, hC, hM, hP, hS⟩ := hI
  obtain ⟨r, S', it', hkd, hW', oC, oM⟩ := o_spare (X := X) (S := S) (it := it) (x1 := xs (i + 1)) hW
  obtain ⟨z, rfl⟩ := q_kdI hkd rfl
  obtain ⟨M1, cC, f1, r1⟩ := oC M hC
  obtain ⟨M2, cM, f2, r2⟩ := oM M1 (q_rM_hi hM f1)
  have r3 := q_rC_lo r1 f2
  refine lv_aload_n hx hb dl_712 rfl (lv_at hl 1 rfl) ?_
  refine lw_arg C0 hbA hS hl hi hL (j := 1) (by omega) (by decide) da_713 ?_
  refine lw_call (j := 48) (x := 97) (bb := 0) (As := [.int (xs (i + 1))]) (rest := []) (r := .int z) C0 hz hP hS hl.1 (zt_in 403 (by decide +kernel) rfl) rfl rfl (Nat.le_of_ble_eq_true rfl) (show zs_sh[0]? = some (.inr _) from rfl) rfl ⟨(Nat.le_of_ble_eq_true rfl), (Nat.le_of_ble_eq_true rfl)⟩ dl_718 (Nat.le_of_ble_eq_true rfl) cC (fun H1 locs1 hP1 hS1 => ?_)
  refine lv_aload_n hx hb dl_721 rfl (lv_at hl 2 rfl) ?_
  refine lw_arg C0 hbA hS1 hl hi hL (j := 1) (by omega) (by decide) da_722 ?_
  refine lw_call (j := 139) (x := 100) (bb := 53) (As := [.int (xs (i + 1))]) (rest := [.int z]) (r := .int z) C0 hz hP1 hS1 hl.1 (zt_in 904 (by decide +kernel) rfl) rfl rfl (Nat.le_of_ble_eq_true rfl) (show zs_sh[53]? = some (.inr _) from rfl) rfl ⟨(Nat.le_of_ble_eq_true rfl), (Nat.le_of_ble_eq_true rfl)⟩ dl_727 (Nat.le_of_ble_eq_true rfl) cM (fun H2 locs2 hP2 hS2 => ?_)
  exact lv_icmp_eq (tgt := 1222) hx hb dl_730 (by decide) (fun _ => kk H2 locs2 ⟨M2, S', it', hW', r3, r2, hP2, hS2⟩) (fun c => absurd rfl c)
theorem dl_735 : decode code 735 = .ok (.aload_n 1, 1) := by decide +kernel
theorem da_736 : la_ok 736 1 := by unfold la_ok; decide +kernel
theorem da_741 : la_ok 741 2 := by unfold la_ok; decide +kernel
theorem dl_746 : decode code 746 = .ok (.invokevirtual 101, 3) := by decide +kernel
theorem dl_749 : decode code 749 = .ok (.aload_n 2, 1) := by decide +kernel
theorem da_750 : la_ok 750 1 := by unfold la_ok; decide +kernel
theorem da_755 : la_ok 755 2 := by unfold la_ok; decide +kernel
theorem dl_760 : decode code 760 = .ok (.invokevirtual 104, 3) := by decide +kernel
theorem dl_763 : decode code 763 = .ok (.if_icmp .eq 459, 3) := by decide +kernel
set_option maxHeartbeats 4000000 in
theorem lw_k21 {X : zX} {p : Program} {e : Env} {s : State} {m : MethodId} {below : List Frame} {meth : Method} {c : Code} {b L i : Nat} {xs : Nat → Int32} {H : Heap} {locs : List Loc} {ls : Array Slot} {Q : State → Prop} (C0 : lw_At p s m meth c b L xs) (hz : zk X s) (hbA : ¬ zA X b) (hL : L ≤ 3072) (hi : i + 6 ≤ L) (hI : lw_I X s H locs) (hl : lv_has ls 4 [(0, .ref b), (1, .ref (zx_a X 0)), (2, .ref (zx_a X 53)), (3, .int (nI i))]) (kk : ∀ (H1 : Heap) (locs1 : List Loc), lw_I X s H1 locs1 → W p (zx_l X) e room_1 s m #[Value.ref b] below meth c H1 locs1 77 1890 Q (F0 m 1222 ls [])) : W p (zx_l X) e room_1 s m #[Value.ref b] below meth c H locs 77 1890 Q (F0 m 735 ls []) := by
  obtain ⟨hx, hb, hr, hml, hown, hts, hX, hbl, hlocks, hgv⟩ := id C0
  obtain ⟨M, S, it, hW, hC, hM, hP, hS⟩ := hI
  obtain ⟨r, S', it', hkd, hW', oC, oM⟩ := o_seen (X := X) (S := S) (it := it) (x1 := xs (i + 1)) (x2 := xs (i + 2)) hW
  obtain ⟨z, rfl⟩ := q_kdI hkd rfl
  obtain ⟨M1, cC, f1, r1⟩ := oC M hC
  obtain ⟨M2, cM, f2, r2⟩ := oM M1 (q_rM_hi hM f1)
  have r3 := q_rC_lo r1 f2
  refine lv_aload_n hx hb dl_735 rfl (lv_at hl 1 rfl) ?_
  refine lw_arg C0 hbA hS hl hi hL (j := 1) (by omega) (by decide) da_736 ?_
  refine lw_arg C0 hbA hS hl hi hL (j := 2) (by omega) (by decide) da_741 ?_
  refine lw_call (j := 49) (x := 101) (bb := 0) (As := [.int (xs (i + 1)), .int (xs (i + 2))]) (rest := []) (r := .int z) C0 hz hP hS hl.1 (zt_in 428 (by decide +kernel) rfl) rfl rfl (Nat.le_of_ble_eq_true rfl) (show zs_sh[0]? = some (.inr _) from rfl) rfl ⟨(Nat.le_of_ble_eq_true rfl), (Nat.le_of_ble_eq_true rfl)⟩ dl_746 (Nat.le_of_ble_eq_true rfl) cC (fun H1 locs1 hP1 hS1 => ?_)
  refine lv_aload_n hx hb dl_749 rfl (lv_at hl 2 rfl) ?_
  refine lw_arg C0 hbA hS1 hl hi hL (j := 1) (by omega) (by decide) da_750 ?_
  refine lw_arg C0 hbA hS1 hl hi hL (j := 2) (by omega) (by decide) da_755 ?_
  refine lw_call (j := 140) (x := 104) (bb := 53) (As := [.int (xs (i + 1)), .int (xs (i + 2))]) (rest := [.int z]) (r := .int z) C0 hz hP1 hS1 hl.1 (zt_in 921 (by decide +kernel) rfl) rfl rfl (Nat.le_of_ble_eq_true rfl) (show zs_sh[53]? = some (.inr _) from rfl) rfl ⟨(Nat.le_of_ble_eq_true rfl), (Nat.le_of_ble_eq_true rfl)⟩ dl_760 (Nat.le_of_ble_eq_true rfl) cM (fun H2 locs2 hP2 hS2 => ?_)
  exact lv_icmp_eq (tgt := 1222) hx hb dl_763 (by decide) (fun _ => kk H2 locs2 ⟨M2, S', it', hW', r3, r2, hP2, hS2⟩) (fun c => absurd rfl c)
theorem dl_768 : decode code 768 = .ok (.aload_n 1, 1) := by decide +kernel
theorem dl_769 : decode code 769 = .ok (.invokevirtual 105, 3) := by decide +kernel
theorem dl_772 : decode code 772 = .ok (.aload_n 2, 1) := by decide +kernel
theorem dl_773 : decode code 773 = .ok (.invokevirtual 108, 3) := by decide +kernel
theorem dl_776 : decode code 776 = .ok (.if_icmp .eq 446, 3) := by decide +kernel
set_option maxHeartbeats 4000000 in
theorem lw_k22 {X : zX} {p : Program} {e : Env} {s : State} {m : MethodId} {below : List Frame} {meth : Method} {c : Code} {b L i : Nat} {xs : Nat → Int32} {H : Heap} {locs : List Loc} {ls : Array Slot} {Q : State → Prop} (C0 : lw_At p s m meth c b L xs) (hz : zk X s) (hbA : ¬ zA X b) (hL : L ≤ 3072) (hi : i + 6 ≤ L) (hI : lw_I X s H locs) (hl : lv_has ls 4 [(0, .ref b), (1, .ref (zx_a X 0)), (2, .ref (zx_a X 53)), (3, .int (nI i))]) (kk : ∀ (H1 : Heap) (locs1 : List Loc), lw_I X s H1 locs1 → W p (zx_l X) e room_1 s m #[Value.ref b] below meth c H1 locs1 77 1890 Q (F0 m 1222 ls [])) : W p (zx_l X) e room_1 s m #[Value.ref b] below meth c H locs 77 1890 Q (F0 m 768 ls []) := by
  obtain ⟨hx, hb, hr, hml, hown, hts, hX, hbl, hlocks, hgv⟩ := id C0
  obtain ⟨M, S, it, hW, hC, hM, hP, hS⟩ := hI
  obtain ⟨r, S', it', hkd, hW', oC, oM⟩ := o_forget (X := X) (S := S) (it := it)  hW
  obtain ⟨z, rfl⟩ := q_kdI hkd rfl
  obtain ⟨M1, cC, f1, r1⟩ := oC M hC
  obtain ⟨M2, cM, f2, r2⟩ := oM M1 (q_rM_hi hM f1)
  have r3 := q_rC_lo r1 f2
  refine lv_aload_n hx hb dl_768 rfl (lv_at hl 1 rfl) ?_
  refine lw_call (j := 50) (x := 105) (bb := 0) (As := []) (rest := []) (r := .int z) C0 hz hP hS hl.1 (zt_in 432 (by decide +kernel) rfl) rfl rfl (Nat.le_of_ble_eq_true rfl) (show zs_sh[0]? = some (.inr _) from rfl) rfl ⟨(Nat.le_of_ble_eq_true rfl), (Nat.le_of_ble_eq_true rfl)⟩ dl_769 (Nat.le_of_ble_eq_true rfl) cC (fun H1 locs1 hP1 hS1 => ?_)
  refine lv_aload_n hx hb dl_772 rfl (lv_at hl 2 rfl) ?_
  refine lw_call (j := 141) (x := 108) (bb := 53) (As := []) (rest := [.int z]) (r := .int z) C0 hz hP1 hS1 hl.1 (zt_in 926 (by decide +kernel) rfl) rfl rfl (Nat.le_of_ble_eq_true rfl) (show zs_sh[53]? = some (.inr _) from rfl) rfl ⟨(Nat.le_of_ble_eq_true rfl), (Nat.le_of_ble_eq_true rfl)⟩ dl_773 (Nat.le_of_ble_eq_true rfl) cM (fun H2 locs2 hP2 hS2 => ?_)
  exact lv_icmp_eq (tgt := 1222) hx hb dl_776 (by decide) (fun _ => kk H2 locs2 ⟨M2, S', it', hW', r3, r2, hP2, hS2⟩) (fun c => absurd rfl c)
theorem dl_781 : decode code 781 = .ok (.aload_n 1, 1) := by decide +kernel
theorem da_782 : la_ok 782 1 := by unfold la_ok; decide +kernel
theorem dl_787 : decode code 787 = .ok (.invokevirtual 109, 3) := by decide +kernel
theorem dl_790 : decode code 790 = .ok (.aload_n 2, 1) := by decide +kernel
theorem da_791 : la_ok 791 1 := by unfold la_ok; decide +kernel
theorem dl_796 : decode code 796 = .ok (.invokevirtual 112, 3) := by decide +kernel
theorem dl_799 : decode code 799 = .ok (.if_icmp .eq 423, 3) := by decide +kernel
set_option maxHeartbeats 4000000 in
theorem lw_k23 {X : zX} {p : Program} {e : Env} {s : State} {m : MethodId} {below : List Frame} {meth : Method} {c : Code} {b L i : Nat} {xs : Nat → Int32} {H : Heap} {locs : List Loc} {ls : Array Slot} {Q : State → Prop} (C0 : lw_At p s m meth c b L xs) (hz : zk X s) (hbA : ¬ zA X b) (hL : L ≤ 3072) (hi : i + 6 ≤ L) (hI : lw_I X s H locs) (hl : lv_has ls 4 [(0, .ref b), (1, .ref (zx_a X 0)), (2, .ref (zx_a X 53)), (3, .int (nI i))]) (kk : ∀ (H1 : Heap) (locs1 : List Loc), lw_I X s H1 locs1 → W p (zx_l X) e room_1 s m #[Value.ref b] below meth c H1 locs1 77 1890 Q (F0 m 1222 ls [])) : W p (zx_l X) e room_1 s m #[Value.ref b] below meth c H locs 77 1890 Q (F0 m 781 ls []) := by
  obtain ⟨hx, hb, hr, hml, hown, hts, hX, hbl, hlocks, hgv⟩ := id C0
  obtain ⟨M, S, it, hW, hC, hM, hP, hS⟩ := hI
  obtain ⟨r, S', it', hkd, hW', oC, oM⟩ := o_might (X := X) (S := S) (it := it) (x1 := xs (i + 1)) hW
  obtain ⟨z, rfl⟩ := q_kdI hkd rfl
  obtain ⟨M1, cC, f1, r1⟩ := oC M hC
  obtain ⟨M2, cM, f2, r2⟩ := oM M1 (q_rM_hi hM f1)
  have r3 := q_rC_lo r1 f2
  refine lv_aload_n hx hb dl_781 rfl (lv_at hl 1 rfl) ?_
  refine lw_arg C0 hbA hS hl hi hL (j := 1) (by omega) (by decide) da_782 ?_
  refine lw_call (j := 54) (x := 109) (bb := 0) (As := [.int (xs (i + 1))]) (rest := []) (r := .int z) C0 hz hP hS hl.1 (zt_in 436 (by decide +kernel) rfl) rfl rfl (Nat.le_of_ble_eq_true rfl) (show zs_sh[0]? = some (.inr _) from rfl) rfl ⟨(Nat.le_of_ble_eq_true rfl), (Nat.le_of_ble_eq_true rfl)⟩ dl_787 (Nat.le_of_ble_eq_true rfl) cC (fun H1 locs1 hP1 hS1 => ?_)
  refine lv_aload_n hx hb dl_790 rfl (lv_at hl 2 rfl) ?_
  refine lw_arg C0 hbA hS1 hl hi hL (j := 1) (by omega) (by decide) da_791 ?_
  refine lw_call (j := 146) (x := 112) (bb := 53) (As := [.int (xs (i + 1))]) (rest := [.int z]) (r := .int z) C0 hz hP1 hS1 hl.1 (zt_in 930 (by decide +kernel) rfl) rfl rfl (Nat.le_of_ble_eq_true rfl) (show zs_sh[53]? = some (.inr _) from rfl) rfl ⟨(Nat.le_of_ble_eq_true rfl), (Nat.le_of_ble_eq_true rfl)⟩ dl_796 (Nat.le_of_ble_eq_true rfl) cM (fun H2 locs2 hP2 hS2 => ?_)
  exact lv_icmp_eq (tgt := 1222) hx hb dl_799 (by decide) (fun _ => kk H2 locs2 ⟨M2, S', it', hW', r3, r2, hP2, hS2⟩) (fun c => absurd rfl c)
