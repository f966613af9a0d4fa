theorem dl_804 : decode code 804 = .ok (.aload_n 1, 1) := by decide +kernel
theorem da_805 : la_ok 805 1 := by unfold la_ok; decide +kernel
theorem da_810 : la_ok 810 2 := by unfold la_ok; decide +kernel
theorem dl_815 : decode code 815 = .ok (.invokevirtual 113, 3) := by decide +kernel
theorem dl_818 : decode code 818 = .ok (.aload_n 2, 1) := by decide +kernel
theorem da_819 : la_ok 819 1 := by unfold la_ok; decide +kernel
theorem da_824 : la_ok 824 2 := by unfold la_ok; decide +kernel
theorem dl_829 : decode code 829 = .ok (.invokevirtual 116, 3) := by decide +kernel
theorem dl_832 : decode code 832 = .ok (.if_icmp .eq 390, 3) := by decide +kernel
set_option maxHeartbeats 4000000 in
theorem lw_k24 {X : zX} {p : Program} {e : Env} {s : State} {m : MethodId} {below : List Frame} {meth : Method} {c : Code} {b L i : Nat} {xs : Nat → Int32} {H : Heap} {locs : List Loc} {ls : Array Slot} {Q : State → Prop} (C0 : lw_At p s m meth c b L xs) (hz : zk X s) (hbA : ¬ zA X b) (hL : L ≤ 3072) (hi : i + 6 ≤ L) (hI : lw_I X s H locs) (hl : lv_has ls 4 [(0, .ref b), (1, .ref (zx_a X 0)), (2, .ref (zx_a X 53)), (3, .int (nI i))]) (kk : ∀ (H1 : Heap) (locs1 : List Loc), lw_I X s H1 locs1 → W p (zx_l X) e room_1 s m #[Value.ref b] below meth c H1 locs1 77 1890 Q (F0 m 1222 ls [])) : W p (zx_l X) e room_1 s m #[Value.ref b] below meth c H locs 77 1890 Q (F0 m 804 ls []) := by
  obtain ⟨hx, hb, hr, hml, hown, hts, hX, hbl, hlocks, hgv⟩ := id C0
  obtain ⟨M, S, it, hW, hC, hM, hP, hS⟩ := hI
  obtain ⟨r, S', it', hkd, hW', oC, oM⟩ := o_was (X := X) (S := S) (it := it) (x1 := xs (i + 1)) (x2 := xs (i + 2)) hW
  obtain ⟨z, rfl⟩ := q_kdI hkd rfl
  obtain ⟨M1, cC, f1, r1⟩ := oC M hC
  obtain ⟨M2, cM, f2, r2⟩ := oM M1 (q_rM_hi hM f1)
  have r3 := q_rC_lo r1 f2
  refine lv_aload_n hx hb dl_804 rfl (lv_at hl 1 rfl) ?_
  refine lw_arg C0 hbA hS hl hi hL (j := 1) (by omega) (by decide) da_805 ?_
  refine lw_arg C0 hbA hS hl hi hL (j := 2) (by omega) (by decide) da_810 ?_
  refine lw_call (j := 55) (x := 113) (bb := 0) (As := [.int (xs (i + 1)), .int (xs (i + 2))]) (rest := []) (r := .int z) C0 hz hP hS hl.1 (zt_in 452 (by decide +kernel) rfl) rfl rfl (Nat.le_of_ble_eq_true rfl) (show zs_sh[0]? = some (.inr _) from rfl) rfl ⟨(Nat.le_of_ble_eq_true rfl), (Nat.le_of_ble_eq_true rfl)⟩ dl_815 (Nat.le_of_ble_eq_true rfl) cC (fun H1 locs1 hP1 hS1 => ?_)
  refine lv_aload_n hx hb dl_818 rfl (lv_at hl 2 rfl) ?_
  refine lw_arg C0 hbA hS1 hl hi hL (j := 1) (by omega) (by decide) da_819 ?_
  refine lw_arg C0 hbA hS1 hl hi hL (j := 2) (by omega) (by decide) da_824 ?_
  refine lw_call (j := 148) (x := 116) (bb := 53) (As := [.int (xs (i + 1)), .int (xs (i + 2))]) (rest := [.int z]) (r := .int z) C0 hz hP1 hS1 hl.1 (zt_in 950 (by decide +kernel) rfl) rfl rfl (Nat.le_of_ble_eq_true rfl) (show zs_sh[53]? = some (.inr _) from rfl) rfl ⟨(Nat.le_of_ble_eq_true rfl), (Nat.le_of_ble_eq_true rfl)⟩ dl_829 (Nat.le_of_ble_eq_true rfl) cM (fun H2 locs2 hP2 hS2 => ?_)
  exact lv_icmp_eq (tgt := 1222) hx hb dl_832 (by decide) (fun _ => kk H2 locs2 ⟨M2, S', it', hW', r3, r2, hP2, hS2⟩) (fun c => absurd rfl c)
theorem dl_837 : decode code 837 = .ok (.aload_n 1, 1) := by decide +kernel
theorem dl_838 : decode code 838 = .ok (.invokevirtual 117, 3) := by decide +kernel
theorem dl_841 : decode code 841 = .ok (.aload_n 2, 1) := by decide +kernel
theorem dl_842 : decode code 842 = .ok (.invokevirtual 120, 3) := by decide +kernel
theorem dl_845 : decode code 845 = .ok (.if_icmp .eq 377, 3) := by decide +kernel
set_option maxHeartbeats 4000000 in
theorem lw_k25 {X : zX} {p : Program} {e : Env} {s : State} {m : MethodId} {below : List Frame} {meth : Method} {c : Code} {b L i : Nat} {xs : Nat → Int32} {H : Heap} {locs : List Loc} {ls : Array Slot} {Q : State → Prop} (C0 : lw_At p s m meth c b L xs) (hz : zk X s) (hbA : ¬ zA X b) (hL : L ≤ 3072) (hi : i + 6 ≤ L) (hI : lw_I X s H locs) (hl : lv_has ls 4 [(0, .ref b), (1, .ref (zx_a X 0)), (2, .ref (zx_a X 53)), (3, .int (nI i))]) (kk : ∀ (H1 : Heap) (locs1 : List Loc), lw_I X s H1 locs1 → W p (zx_l X) e room_1 s m #[Value.ref b] below meth c H1 locs1 77 1890 Q (F0 m 1222 ls [])) : W p (zx_l X) e room_1 s m #[Value.ref b] below meth c H locs 77 1890 Q (F0 m 837 ls []) := by
  obtain ⟨hx, hb, hr, hml, hown, hts, hX, hbl, hlocks, hgv⟩ := id C0
  obtain ⟨M, S, it, hW, hC, hM, hP, hS⟩ := hI
  obtain ⟨r, S', it', hkd, hW', oC, oM⟩ := o_ask (X := X) (S := S) (it := it)  hW
  obtain ⟨z, rfl⟩ := q_kdI hkd rfl
  obtain ⟨M1, cC, f1, r1⟩ := oC M hC
  obtain ⟨M2, cM, f2, r2⟩ := oM M1 (q_rM_hi hM f1)
  have r3 := q_rC_lo r1 f2
  refine lv_aload_n hx hb dl_837 rfl (lv_at hl 1 rfl) ?_
  refine lw_call (j := 57) (x := 117) (bb := 0) (As := []) (rest := []) (r := .int z) C0 hz hP hS hl.1 (zt_in 456 (by decide +kernel) rfl) rfl rfl (Nat.le_of_ble_eq_true rfl) (show zs_sh[0]? = some (.inr _) from rfl) rfl ⟨(Nat.le_of_ble_eq_true rfl), (Nat.le_of_ble_eq_true rfl)⟩ dl_838 (Nat.le_of_ble_eq_true rfl) cC (fun H1 locs1 hP1 hS1 => ?_)
  refine lv_aload_n hx hb dl_841 rfl (lv_at hl 2 rfl) ?_
  refine lw_call (j := 151) (x := 120) (bb := 53) (As := []) (rest := [.int z]) (r := .int z) C0 hz hP1 hS1 hl.1 (zt_in 958 (by decide +kernel) rfl) rfl rfl (Nat.le_of_ble_eq_true rfl) (show zs_sh[53]? = some (.inr _) from rfl) rfl ⟨(Nat.le_of_ble_eq_true rfl), (Nat.le_of_ble_eq_true rfl)⟩ dl_842 (Nat.le_of_ble_eq_true rfl) cM (fun H2 locs2 hP2 hS2 => ?_)
  exact lv_icmp_eq (tgt := 1222) hx hb dl_845 (by decide) (fun _ => kk H2 locs2 ⟨M2, S', it', hW', r3, r2, hP2, hS2⟩) (fun c => absurd rfl c)
theorem dl_850 : decode code 850 = .ok (.aload_n 1, 1) := by decide +kernel
theorem da_851 : la_ok 851 1 := by unfold la_ok; decide +kernel
theorem da_856 : la_ok 856 2 := by unfold la_ok; decide +kernel
theorem da_861 : la_ok 861 3 := by unfold la_ok; decide +kernel
theorem dl_866 : decode code 866 = .ok (.invokevirtual 121, 3) := by decide +kernel
theorem dl_869 : decode code 869 = .ok (.aload_n 2, 1) := by decide +kernel
theorem da_870 : la_ok 870 1 := by unfold la_ok; decide +kernel
theorem da_875 : la_ok 875 2 := by unfold la_ok; decide +kernel
theorem da_880 : la_ok 880 3 := by unfold la_ok; decide +kernel
theorem dl_885 : decode code 885 = .ok (.invokevirtual 125, 3) := by decide +kernel
theorem dl_888 : decode code 888 = .ok (.lcmp, 1) := by decide +kernel
theorem dl_889 : decode code 889 = .ok (.ifCond .eq 333, 3) := by decide +kernel
set_option maxHeartbeats 4000000 in
theorem lw_k26 {X : zX} {p : Program} {e : Env} {s : State} {m : MethodId} {below : List Frame} {meth : Method} {c : Code} {b L i : Nat} {xs : Nat → Int32} {H : Heap} {locs : List Loc} {ls : Array Slot} {Q : State → Prop} (C0 : lw_At p s m meth c b L xs) (hz : zk X s) (hbA : ¬ zA X b) (hL : L ≤ 3072) (hi : i + 6 ≤ L) (hI : lw_I X s H locs) (hl : lv_has ls 4 [(0, .ref b), (1, .ref (zx_a X 0)), (2, .ref (zx_a X 53)), (3, .int (nI i))]) (kk : ∀ (H1 : Heap) (locs1 : List Loc), lw_I X s H1 locs1 → W p (zx_l X) e room_1 s m #[Value.ref b] below meth c H1 locs1 77 1890 Q (F0 m 1222 ls [])) : W p (zx_l X) e room_1 s m #[Value.ref b] below meth c H locs 77 1890 Q (F0 m 850 ls []) := by
  obtain ⟨hx, hb, hr, hml, hown, hts, hX, hbl, hlocks, hgv⟩ := id C0
  obtain ⟨M, S, it, hW, hC, hM, hP, hS⟩ := hI
  obtain ⟨r, S', it', hkd, hW', oC, oM⟩ := o_chance (X := X) (S := S) (it := it) (x1 := xs (i + 1)) (x2 := xs (i + 2)) (x3 := xs (i + 3)) hW
  obtain ⟨z, rfl⟩ := q_kdL hkd rfl
  obtain ⟨M1, cC, f1, r1⟩ := oC M hC
  obtain ⟨M2, cM, f2, r2⟩ := oM M1 (q_rM_hi hM f1)
  have r3 := q_rC_lo r1 f2
  refine lv_aload_n hx hb dl_850 rfl (lv_at hl 1 rfl) ?_
  refine lw_arg C0 hbA hS hl hi hL (j := 1) (by omega) (by decide) da_851 ?_
  refine lw_arg C0 hbA hS hl hi hL (j := 2) (by omega) (by decide) da_856 ?_
  refine lw_arg C0 hbA hS hl hi hL (j := 3) (by omega) (by decide) da_861 ?_
  refine lw_call (j := 60) (x := 121) (bb := 0) (As := [.int (xs (i + 1)), .int (xs (i + 2)), .int (xs (i + 3))]) (rest := []) (r := .long z) C0 hz hP hS hl.1 (zt_in 467 (by decide +kernel) rfl) rfl rfl (Nat.le_of_ble_eq_true rfl) (show zs_sh[0]? = some (.inr _) from rfl) rfl ⟨(Nat.le_of_ble_eq_true rfl), (Nat.le_of_ble_eq_true rfl)⟩ dl_866 (Nat.le_of_ble_eq_true rfl) cC (fun H1 locs1 hP1 hS1 => ?_)
  refine lv_aload_n hx hb dl_869 rfl (lv_at hl 2 rfl) ?_
  refine lw_arg C0 hbA hS1 hl hi hL (j := 1) (by omega) (by decide) da_870 ?_
  refine lw_arg C0 hbA hS1 hl hi hL (j := 2) (by omega) (by decide) da_875 ?_
  refine lw_arg C0 hbA hS1 hl hi hL (j := 3) (by omega) (by decide) da_880 ?_
  refine lw_call (j := 155) (x := 125) (bb := 53) (As := [.int (xs (i + 1)), .int (xs (i + 2)), .int (xs (i + 3))]) (rest := [.long z]) (r := .long z) C0 hz hP1 hS1 hl.1 (zt_in 970 (by decide +kernel) rfl) rfl rfl (Nat.le_of_ble_eq_true rfl) (show zs_sh[53]? = some (.inr _) from rfl) rfl ⟨(Nat.le_of_ble_eq_true rfl), (Nat.le_of_ble_eq_true rfl)⟩ dl_885 (Nat.le_of_ble_eq_true rfl) cM (fun H2 locs2 hP2 hS2 => ?_)
  refine W.lcmp hx hb dl_888 ?_
  exact lv_if_eq (tgt := 1222) hx hb dl_889 (by decide) (fun _ => kk H2 locs2 ⟨M2, S', it', hW', r3, r2, hP2, hS2⟩) (fun c => absurd ((lg_cmp_eq z z).mpr rfl) c)
theorem dl_894 : decode code 894 = .ok (.aload_n 1, 1) := by decide +kernel
theorem da_895 : la_ok 895 1 := by unfold la_ok; decide +kernel
theorem da_900 : la_ok 900 2 := by unfold la_ok; decide +kernel
theorem da_905 : la_ok 905 3 := by unfold la_ok; decide +kernel
theorem dl_910 : decode code 910 = .ok (.invokevirtual 126, 3) := by decide +kernel
theorem dl_913 : decode code 913 = .ok (.aload_n 2, 1) := by decide +kernel
theorem da_914 : la_ok 914 1 := by unfold la_ok; decide +kernel
theorem da_919 : la_ok 919 2 := by unfold la_ok; decide +kernel
theorem da_924 : la_ok 924 3 := by unfold la_ok; decide +kernel
theorem dl_929 : decode code 929 = .ok (.invokevirtual 129, 3) := by decide +kernel
theorem dl_932 : decode code 932 = .ok (.if_icmp .eq 290, 3) := by decide +kernel
set_option maxHeartbeats 4000000 in
theorem lw_k27 {X : zX} {p : Program} {e : Env} {s : State} {m : MethodId} {below : List Frame} {meth : Method} {c : Code} {b L i : Nat} {xs : Nat → Int32} {H : Heap} {locs : List Loc} {ls : Array Slot} {Q : State → Prop} (C0 : lw_At p s m meth c b L xs) (hz : zk X s) (hbA : ¬ zA X b) (hL : L ≤ 3072) (hi : i + 6 ≤ L) (hI : lw_I X s H locs) (hl : lv_has ls 4 [(0, .ref b), (1, .ref (zx_a X 0)), (2, .ref (zx_a X 53)), (3, .int (nI i))]) (kk : ∀ (H1 : Heap) (locs1 : List Loc), lw_I X s H1 locs1 → W p (zx_l X) e room_1 s m #[Value.ref b] below meth c H1 locs1 77 1890 Q (F0 m 1222 ls [])) : W p (zx_l X) e room_1 s m #[Value.ref b] below meth c H locs 77 1890 Q (F0 m 894 ls []) := by
  obtain ⟨hx, hb, hr, hml, hown, hts, hX, hbl, hlocks, hgv⟩ := id C0
  obtain ⟨M, S, it, hW, hC, hM, hP, hS⟩ := hI
  obtain ⟨r, S', it', hkd, hW', oC, oM⟩ := o_ages (X := X) (S := S) (it := it) (x1 := xs (i + 1)) (x2 := xs (i + 2)) (x3 := xs (i + 3)) hW
  obtain ⟨z, rfl⟩ := q_kdI hkd rfl
  obtain ⟨M1, cC, f1, r1⟩ := oC M hC
  obtain ⟨M2, cM, f2, r2⟩ := oM M1 (q_rM_hi hM f1)
  have r3 := q_rC_lo r1 f2
  refine lv_aload_n hx hb dl_894 rfl (lv_at hl 1 rfl) ?_
  refine lw_arg C0 hbA hS hl hi hL (j := 1) (by omega) (by decide) da_895 ?_
  refine lw_arg C0 hbA hS hl hi hL (j := 2) (by omega) (by decide) da_900 ?_
  refine lw_arg C0 hbA hS hl hi hL (j := 3) (by omega) (by decide) da_905 ?_
  refine lw_call (j := 62) (x := 126) (bb := 0) (As := [.int (xs (i + 1)), .int (xs (i + 2)), .int (xs (i + 3))]) (rest := []) (r := .int z) C0 hz hP hS hl.1 (zt_in 481 (by decide +kernel) rfl) rfl rfl (Nat.le_of_ble_eq_true rfl) (show zs_sh[0]? = some (.inr _) from rfl) rfl ⟨(Nat.le_of_ble_eq_true rfl), (Nat.le_of_ble_eq_true rfl)⟩ dl_910 (Nat.le_of_ble_eq_true rfl) cC (fun H1 locs1 hP1 hS1 => ?_)
  refine lv_aload_n hx hb dl_913 rfl (lv_at hl 2 rfl) ?_
  refine lw_arg C0 hbA hS1 hl hi hL (j := 1) (by omega) (by decide) da_914 ?_
  refine lw_arg C0 hbA hS1 hl hi hL (j := 2) (by omega) (by decide) da_919 ?_
  refine lw_arg C0 hbA hS1 hl hi hL (j := 3) (by omega) (by decide) da_924 ?_
  refine lw_call (j := 158) (x := 129) (bb := 53) (As := [.int (xs (i + 1)), .int (xs (i + 2)), .int (xs (i + 3))]) (rest := [.int z]) (r := .int z) C0 hz hP1 hS1 hl.1 (zt_in 986 (by decide +kernel) rfl) rfl rfl (Nat.le_of_ble_eq_true rfl) (show zs_sh[53]? = some (.inr _) from rfl) rfl ⟨(Nat.le_of_ble_eq_true rfl), (Nat.le_of_ble_eq_true rfl)⟩ dl_929 (Nat.le_of_ble_eq_true rfl) cM (fun H2 locs2 hP2 hS2 => ?_)
  exact lv_icmp_eq (tgt := 1222) hx hb dl_932 (by decide) (fun _ => kk H2 locs2 ⟨M2, S', it', hW', r3, r2, hP2, hS2⟩) (fun c => absurd rfl c)
theorem dl_937 : decode code 937 = .ok (.aload_n 1, 1) := by decide +kernel
theorem da_938 : la_ok 938 1 := by unfold la_ok; decide +kernel
theorem da_943 : la_ok 943 2 := by unfold la_ok; decide +kernel
theorem da_948 : la_ok 948 3 := by unfold la_ok; decide +kernel
theorem dl_953 : decode code 953 = .ok (.invokevirtual 130, 3) := by decide +kernel
theorem dl_956 : decode code 956 = .ok (.aload_n 2, 1) := by decide +kernel
theorem da_957 : la_ok 957 1 := by unfold la_ok; decide +kernel
theorem da_962 : la_ok 962 2 := by unfold la_ok; decide +kernel
theorem da_967 : la_ok 967 3 := by unfold la_ok; decide +kernel
theorem dl_972 : decode code 972 = .ok (.invokevirtual 133, 3) := by decide +kernel
theorem dl_975 : decode code 975 = .ok (.if_icmp .eq 247, 3) := by decide +kernel
set_option maxHeartbeats 4000000 in
theorem lw_k28 {X : zX} {p : Program} {e : Env} {s : State} {m : MethodId} {below : List Frame} {meth : Method} {c : Code} {b L i : Nat} {xs : Nat → Int32} {H : Heap} {locs : List Loc} {ls : Array Slot} {Q : State → Prop} (C0 : lw_At p s m meth c b L xs) (hz : zk X s) (hbA : ¬ zA X b) (hL : L ≤ 3072) (hi : i + 6 ≤ L) (hI : lw_I X s H locs) (hl : lv_has ls 4 [(0, .ref b), (1, .ref (zx_a X 0)), (2, .ref (zx_a X 53)), (3, .int (nI i))]) (kk : ∀ (H1 : Heap) (locs1 : List Loc), lw_I X s H1 locs1 → W p (zx_l X) e room_1 s m #[Value.ref b] below meth c H1 locs1 77 1890 Q (F0 m 1222 ls [])) : W p (zx_l X) e room_1 s m #[Value.ref b] below meth c H locs 77 1890 Q (F0 m 937 ls []) := by
  obtain ⟨hx, hb, hr, hml, hown, hts, hX, hbl, hlocks, hgv⟩ := id C0
  obtain ⟨M, S, it, hW, hC, hM, hP, hS⟩ := hI
  obtain ⟨r, S', it', hkd, hW', oC, oM⟩ := o_sheet (X := X) (S := S) (it := it) (x1 := xs (i + 1)) (x2 := xs (i + 2)) (x3 := xs (i + 3)) hW
  obtain ⟨z, rfl⟩ := q_kdI hkd rfl
  obtain ⟨M1, cC, f1, r1⟩ := oC M hC
  obtain ⟨M2, cM, f2, r2⟩ := oM M1 (q_rM_hi hM f1)
  have r3 := q_rC_lo r1 f2
  refine lv_aload_n hx hb dl_937 rfl (lv_at hl 1 rfl) ?_
  refine lw_arg C0 hbA hS hl hi hL (j := 1) (by omega) (by decide) da_938 ?_
  refine lw_arg C0 hbA hS hl hi hL (j := 2) (by omega) (by decide) da_943 ?_
  refine lw_arg C0 hbA hS hl hi hL (j := 3) (by omega) (by decide) da_948 ?_
  refine lw_call (j := 64) (x := 130) (bb := 0) (As := [.int (xs (i + 1)), .int (xs (i + 2)), .int (xs (i + 3))]) (rest := []) (r := .int z) C0 hz hP hS hl.1 (zt_in 489 (by decide +kernel) rfl) rfl rfl (Nat.le_of_ble_eq_true rfl) (show zs_sh[0]? = some (.inr _) from rfl) rfl ⟨(Nat.le_of_ble_eq_true rfl), (Nat.le_of_ble_eq_true rfl)⟩ dl_953 (Nat.le_of_ble_eq_true rfl) cC (fun H1 locs1 hP1 hS1 => ?_)
  refine lv_aload_n hx hb dl_956 rfl (lv_at hl 2 rfl) ?_
  refine lw_arg C0 hbA hS1 hl hi hL (j := 1) (by omega) (by decide) da_957 ?_
  refine lw_arg C0 hbA hS1 hl hi hL (j := 2) (by omega) (by decide) da_962 ?_
  refine lw_arg C0 hbA hS1 hl hi hL (j := 3) (by omega) (by decide) da_967 ?_
  refine lw_call (j := 81) (x := 133) (bb := 53) (As := [.int (xs (i + 1)), .int (xs (i + 2)), .int (xs (i + 3))]) (rest := [.int z]) (r := .int z) C0 hz hP1 hS1 hl.1 (zt_in 672 (by decide +kernel) rfl) rfl rfl (Nat.le_of_ble_eq_true rfl) (show zs_sh[53]? = some (.inr _) from rfl) rfl ⟨(Nat.le_of_ble_eq_true rfl), (Nat.le_of_ble_eq_true rfl)⟩ dl_972 (Nat.le_of_ble_eq_true rfl) cM (fun H2 locs2 hP2 hS2 => ?_)
  exact lv_icmp_eq (tgt := 1222) hx hb dl_975 (by decide) (fun _ => kk H2 locs2 ⟨M2, S', it', hW', r3, r2, hP2, hS2⟩) (fun c => absurd rfl c)
theorem dl_980 : decode code 980 = .ok (.aload_n 1, 1) := by decide +kernel
theorem da_981 : la_ok 981 1 := by unfold la_ok; decide +kernel
theorem dl_986 : decode code 986 = .ok (.invokevirtual 134, 3) := by decide +kernel
theorem dl_989 : decode code 989 = .ok (.aload_n 2, 1) := by decide +kernel
theorem da_990 : la_ok 990 1 := by unfold la_ok; decide +kernel
theorem dl_995 : decode code 995 = .ok (.invokevirtual 137, 3) := by decide +kernel
theorem dl_998 : decode code 998 = .ok (.if_icmp .eq 224, 3) := by decide +kernel
set_option maxHeartbeats 4000000 in
theorem lw_k29 {X : zX} {p : Program} {e : Env} {s : State} {m : MethodId} {below : List Frame} {meth : Method} {c : Code} {b L i : Nat} {xs : Nat → Int32} {H : Heap} {locs : List Loc} {ls : Array Slot} {Q : State → Prop} (C0 : lw_At p s m meth c b L xs) (hz : zk X s) (hbA : ¬ zA X b) (hL : L ≤ 3072) (hi : i + 6 ≤ L) (hI : lw_I X s H locs) (hl : lv_has ls 4 [(0, .ref b), (1, .ref (zx_a X 0)), (2, .ref (zx_a X 53)), (3, .int (nI i))]) (kk : ∀ (H1 : Heap) (locs1 : List Loc), lw_I X s H1 locs1 → W p (zx_l X) e room_1 s m #[Value.ref b] below meth c H1 locs1 77 1890 Q (F0 m 1222 ls [])) : W p (zx_l X) e room_1 s m #[Value.ref b] below meth c H locs 77 1890 Q (F0 m 980 ls []) := by
  obtain ⟨hx, hb, hr, hml, hown, hts, hX, hbl, hlocks, hgv⟩ := id C0
  obtain ⟨M, S, it, hW, hC, hM, hP, hS⟩ := hI
  obtain ⟨r, S', it', hkd, hW', oC, oM⟩ := o_lose (X := X) (S := S) (it := it) (x1 := xs (i + 1)) hW
  obtain ⟨z, rfl⟩ := q_kdI hkd rfl
  obtain ⟨M1, cC, f1, r1⟩ := oC M hC
  obtain ⟨M2, cM, f2, r2⟩ := oM M1 (q_rM_hi hM f1)
  have r3 := q_rC_lo r1 f2
  refine lv_aload_n hx hb dl_980 rfl (lv_at hl 1 rfl) ?_
  refine lw_arg C0 hbA hS hl hi hL (j := 1) (by omega) (by decide) da_981 ?_
  refine lw_call (j := 65) (x := 134) (bb := 0) (As := [.int (xs (i + 1))]) (rest := []) (r := .int z) C0 hz hP hS hl.1 (zt_in 497 (by decide +kernel) rfl) rfl rfl (Nat.le_of_ble_eq_true rfl) (show zs_sh[0]? = some (.inr _) from rfl) rfl ⟨(Nat.le_of_ble_eq_true rfl), (Nat.le_of_ble_eq_true rfl)⟩ dl_986 (Nat.le_of_ble_eq_true rfl) cC (fun H1 locs1 hP1 hS1 => ?_)
  refine lv_aload_n hx hb dl_989 rfl (lv_at hl 2 rfl) ?_
  refine lw_arg C0 hbA hS1 hl hi hL (j := 1) (by omega) (by decide) da_990 ?_
  refine lw_call (j := 82) (x := 137) (bb := 53) (As := [.int (xs (i + 1))]) (rest := [.int z]) (r := .int z) C0 hz hP1 hS1 hl.1 (zt_in 688 (by decide +kernel) rfl) rfl rfl (Nat.le_of_ble_eq_true rfl) (show zs_sh[53]? = some (.inr _) from rfl) rfl ⟨(Nat.le_of_ble_eq_true rfl), (Nat.le_of_ble_eq_true rfl)⟩ dl_995 (Nat.le_of_ble_eq_true rfl) cM (fun H2 locs2 hP2 hS2 => ?_)
  exact lv_icmp_eq (tgt := 1222) hx hb dl_998 (by decide) (fun _ => kk H2 locs2 ⟨M2, S', it', hW', r3, r2, hP2, hS2⟩) (fun c => absurd rfl c)
