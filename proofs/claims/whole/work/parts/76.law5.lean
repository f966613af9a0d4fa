theorem dl_1003 : decode code 1003 = .ok (.aload_n 1, 1) := by decide +kernel
theorem da_1004 : la_ok 1004 1 := by unfold la_ok; decide +kernel
theorem da_1009 : la_ok 1009 2 := by unfold la_ok; decide +kernel
theorem da_1014 : la_ok 1014 3 := by unfold la_ok; decide +kernel
theorem da_1019 : la_ok 1019 4 := by unfold la_ok; decide +kernel
theorem dl_1024 : decode code 1024 = .ok (.invokevirtual 138, 3) := by decide +kernel
theorem dl_1027 : decode code 1027 = .ok (.aload_n 2, 1) := by decide +kernel
theorem da_1028 : la_ok 1028 1 := by unfold la_ok; decide +kernel
theorem da_1033 : la_ok 1033 2 := by unfold la_ok; decide +kernel
theorem da_1038 : la_ok 1038 3 := by unfold la_ok; decide +kernel
theorem da_1043 : la_ok 1043 4 := by unfold la_ok; decide +kernel
theorem dl_1048 : decode code 1048 = .ok (.invokevirtual 142, 3) := by decide +kernel
theorem dl_1051 : decode code 1051 = .ok (.if_icmp .eq 171, 3) := by decide +kernel
set_option maxHeartbeats 4000000 in
theorem lw_k30 {X : zX} {p : Program} {e : Env} {s : State} {m : MethodId} {below : List Frame} {meth : Method} {c : Code} {b L i : Nat} {xs : Nat → Int32} {H : Heap} {locs : List Loc} {ls : Array Slot} {Q : State → Prop} (C0 : lw_At p s m meth c b L xs) (hz : zk X s) (hbA : ¬ zA X b) (hL : L ≤ 3072) (hi : i + 6 ≤ L) (hI : lw_I X s H locs) (hl : lv_has ls 4 [(0, .ref b), (1, .ref (zx_a X 0)), (2, .ref (zx_a X 53)), (3, .int (nI i))]) (kk : ∀ (H1 : Heap) (locs1 : List Loc), lw_I X s H1 locs1 → W p (zx_l X) e room_1 s m #[Value.ref b] below meth c H1 locs1 77 1890 Q (F0 m 1222 ls [])) : W p (zx_l X) e room_1 s m #[Value.ref b] below meth c H locs 77 1890 Q (F0 m 1003 ls []) := by
  obtain ⟨hx, hb, hr, hml, hown, hts, hX, hbl, hlocks, hgv⟩ := id C0
  obtain ⟨M, S, it, hW, hC, hM, hP, hS⟩ := hI
  obtain ⟨r, S', it', hkd, hW', oC, oM⟩ := o_lay (X := X) (S := S) (it := it) (x1 := xs (i + 1)) (x2 := xs (i + 2)) (x3 := xs (i + 3)) (x4 := xs (i + 4)) hW
  obtain ⟨z, rfl⟩ := q_kdI hkd rfl
  obtain ⟨M1, cC, f1, r1⟩ := oC M hC
  obtain ⟨M2, cM, f2, r2⟩ := oM M1 (q_rM_hi hM f1)
  have r3 := q_rC_lo r1 f2
  refine lv_aload_n hx hb dl_1003 rfl (lv_at hl 1 rfl) ?_
  refine lw_arg C0 hbA hS hl hi hL (j := 1) (by omega) (by decide) da_1004 ?_
  refine lw_arg C0 hbA hS hl hi hL (j := 2) (by omega) (by decide) da_1009 ?_
  refine lw_arg C0 hbA hS hl hi hL (j := 3) (by omega) (by decide) da_1014 ?_
  refine lw_arg C0 hbA hS hl hi hL (j := 4) (by omega) (by decide) da_1019 ?_
  refine lw_call (j := 68) (x := 138) (bb := 0) (As := [.int (xs (i + 1)), .int (xs (i + 2)), .int (xs (i + 3)), .int (xs (i + 4))]) (rest := []) (r := .int z) C0 hz hP hS hl.1 (zt_in 501 (by decide +kernel) rfl) rfl rfl (Nat.le_of_ble_eq_true rfl) (show zs_sh[0]? = some (.inr _) from rfl) rfl ⟨(Nat.le_of_ble_eq_true rfl), (Nat.le_of_ble_eq_true rfl)⟩ dl_1024 (Nat.le_of_ble_eq_true rfl) cC (fun H1 locs1 hP1 hS1 => ?_)
  refine lv_aload_n hx hb dl_1027 rfl (lv_at hl 2 rfl) ?_
  refine lw_arg C0 hbA hS1 hl hi hL (j := 1) (by omega) (by decide) da_1028 ?_
  refine lw_arg C0 hbA hS1 hl hi hL (j := 2) (by omega) (by decide) da_1033 ?_
  refine lw_arg C0 hbA hS1 hl hi hL (j := 3) (by omega) (by decide) da_1038 ?_
  refine lw_arg C0 hbA hS1 hl hi hL (j := 4) (by omega) (by decide) da_1043 ?_
  refine lw_call (j := 85) (x := 142) (bb := 53) (As := [.int (xs (i + 1)), .int (xs (i + 2)), .int (xs (i + 3)), .int (xs (i + 4))]) (rest := [.int z]) (r := .int z) C0 hz hP1 hS1 hl.1 (zt_in 692 (by decide +kernel) rfl) rfl rfl (Nat.le_of_ble_eq_true rfl) (show zs_sh[53]? = some (.inr _) from rfl) rfl ⟨(Nat.le_of_ble_eq_true rfl), (Nat.le_of_ble_eq_true rfl)⟩ dl_1048 (Nat.le_of_ble_eq_true rfl) cM (fun H2 locs2 hP2 hS2 => ?_)
  exact lv_icmp_eq (tgt := 1222) hx hb dl_1051 (by decide) (fun _ => kk H2 locs2 ⟨M2, S', it', hW', r3, r2, hP2, hS2⟩) (fun c => absurd rfl c)
theorem dl_1056 : decode code 1056 = .ok (.aload_n 1, 1) := by decide +kernel
theorem da_1057 : la_ok 1057 1 := by unfold la_ok; decide +kernel
theorem da_1062 : la_ok 1062 2 := by unfold la_ok; decide +kernel
theorem da_1067 : la_ok 1067 3 := by unfold la_ok; decide +kernel
theorem dl_1072 : decode code 1072 = .ok (.invokevirtual 143, 3) := by decide +kernel
theorem dl_1075 : decode code 1075 = .ok (.aload_n 2, 1) := by decide +kernel
theorem da_1076 : la_ok 1076 1 := by unfold la_ok; decide +kernel
theorem da_1081 : la_ok 1081 2 := by unfold la_ok; decide +kernel
theorem da_1086 : la_ok 1086 3 := by unfold la_ok; decide +kernel
theorem dl_1091 : decode code 1091 = .ok (.invokevirtual 146, 3) := by decide +kernel
theorem dl_1094 : decode code 1094 = .ok (.if_icmp .eq 128, 3) := by decide +kernel
set_option maxHeartbeats 4000000 in
theorem lw_k31 {X : zX} {p : Program} {e : Env} {s : State} {m : MethodId} {below : List Frame} {meth : Method} {c : Code} {b L i : Nat} {xs : Nat → Int32} {H : Heap} {locs : List Loc} {ls : Array Slot} {Q : State → Prop} (C0 : lw_At p s m meth c b L xs) (hz : zk X s) (hbA : ¬ zA X b) (hL : L ≤ 3072) (hi : i + 6 ≤ L) (hI : lw_I X s H locs) (hl : lv_has ls 4 [(0, .ref b), (1, .ref (zx_a X 0)), (2, .ref (zx_a X 53)), (3, .int (nI i))]) (kk : ∀ (H1 : Heap) (locs1 : List Loc), lw_I X s H1 locs1 → W p (zx_l X) e room_1 s m #[Value.ref b] below meth c H1 locs1 77 1890 Q (F0 m 1222 ls [])) : W p (zx_l X) e room_1 s m #[Value.ref b] below meth c H locs 77 1890 Q (F0 m 1056 ls []) := by
  obtain ⟨hx, hb, hr, hml, hown, hts, hX, hbl, hlocks, hgv⟩ := id C0
  obtain ⟨M, S, it, hW, hC, hM, hP, hS⟩ := hI
  obtain ⟨r, S', it', hkd, hW', oC, oM⟩ := o_get (X := X) (S := S) (it := it) (x1 := xs (i + 1)) (x2 := xs (i + 2)) (x3 := xs (i + 3)) hW
  obtain ⟨z, rfl⟩ := q_kdI hkd rfl
  obtain ⟨M1, cC, f1, r1⟩ := oC M hC
  obtain ⟨M2, cM, f2, r2⟩ := oM M1 (q_rM_hi hM f1)
  have r3 := q_rC_lo r1 f2
  refine lv_aload_n hx hb dl_1056 rfl (lv_at hl 1 rfl) ?_
  refine lw_arg C0 hbA hS hl hi hL (j := 1) (by omega) (by decide) da_1057 ?_
  refine lw_arg C0 hbA hS hl hi hL (j := 2) (by omega) (by decide) da_1062 ?_
  refine lw_arg C0 hbA hS hl hi hL (j := 3) (by omega) (by decide) da_1067 ?_
  refine lw_call (j := 69) (x := 143) (bb := 0) (As := [.int (xs (i + 1)), .int (xs (i + 2)), .int (xs (i + 3))]) (rest := []) (r := .int z) C0 hz hP hS hl.1 (zt_in 513 (by decide +kernel) rfl) rfl rfl (Nat.le_of_ble_eq_true rfl) (show zs_sh[0]? = some (.inr _) from rfl) rfl ⟨(Nat.le_of_ble_eq_true rfl), (Nat.le_of_ble_eq_true rfl)⟩ dl_1072 (Nat.le_of_ble_eq_true rfl) cC (fun H1 locs1 hP1 hS1 => ?_)
  refine lv_aload_n hx hb dl_1075 rfl (lv_at hl 2 rfl) ?_
  refine lw_arg C0 hbA hS1 hl hi hL (j := 1) (by omega) (by decide) da_1076 ?_
  refine lw_arg C0 hbA hS1 hl hi hL (j := 2) (by omega) (by decide) da_1081 ?_
  refine lw_arg C0 hbA hS1 hl hi hL (j := 3) (by omega) (by decide) da_1086 ?_
  refine lw_call (j := 86) (x := 146) (bb := 53) (As := [.int (xs (i + 1)), .int (xs (i + 2)), .int (xs (i + 3))]) (rest := [.int z]) (r := .int z) C0 hz hP1 hS1 hl.1 (zt_in 703 (by decide +kernel) rfl) rfl rfl (Nat.le_of_ble_eq_true rfl) (show zs_sh[53]? = some (.inr _) from rfl) rfl ⟨(Nat.le_of_ble_eq_true rfl), (Nat.le_of_ble_eq_true rfl)⟩ dl_1091 (Nat.le_of_ble_eq_true rfl) cM (fun H2 locs2 hP2 hS2 => ?_)
  exact lv_icmp_eq (tgt := 1222) hx hb dl_1094 (by decide) (fun _ => kk H2 locs2 ⟨M2, S', it', hW', r3, r2, hP2, hS2⟩) (fun c => absurd rfl c)
theorem dl_1099 : decode code 1099 = .ok (.aload_n 1, 1) := by decide +kernel
theorem da_1100 : la_ok 1100 1 := by unfold la_ok; decide +kernel
theorem da_1105 : la_ok 1105 2 := by unfold la_ok; decide +kernel
theorem da_1110 : la_ok 1110 3 := by unfold la_ok; decide +kernel
theorem da_1115 : la_ok 1115 4 := by unfold la_ok; decide +kernel
theorem da_1120 : la_ok 1120 5 := by unfold la_ok; decide +kernel
theorem dl_1125 : decode code 1125 = .ok (.invokevirtual 147, 3) := by decide +kernel
theorem dl_1128 : decode code 1128 = .ok (.aload_n 2, 1) := by decide +kernel
theorem da_1129 : la_ok 1129 1 := by unfold la_ok; decide +kernel
theorem da_1134 : la_ok 1134 2 := by unfold la_ok; decide +kernel
theorem da_1139 : la_ok 1139 3 := by unfold la_ok; decide +kernel
theorem da_1144 : la_ok 1144 4 := by unfold la_ok; decide +kernel
theorem da_1149 : la_ok 1149 5 := by unfold la_ok; decide +kernel
theorem dl_1154 : decode code 1154 = .ok (.invokevirtual 151, 3) := by decide +kernel
theorem dl_1157 : decode code 1157 = .ok (.if_icmp .eq 65, 3) := by decide +kernel
set_option maxHeartbeats 4000000 in
theorem lw_k32 {X : zX} {p : Program} {e : Env} {s : State} {m : MethodId} {below : List Frame} {meth : Method} {c : Code} {b L i : Nat} {xs : Nat → Int32} {H : Heap} {locs : List Loc} {ls : Array Slot} {Q : State → Prop} (C0 : lw_At p s m meth c b L xs) (hz : zk X s) (hbA : ¬ zA X b) (hL : L ≤ 3072) (hi : i + 6 ≤ L) (hI : lw_I X s H locs) (hl : lv_has ls 4 [(0, .ref b), (1, .ref (zx_a X 0)), (2, .ref (zx_a X 53)), (3, .int (nI i))]) (kk : ∀ (H1 : Heap) (locs1 : List Loc), lw_I X s H1 locs1 → W p (zx_l X) e room_1 s m #[Value.ref b] below meth c H1 locs1 77 1890 Q (F0 m 1222 ls [])) : W p (zx_l X) e room_1 s m #[Value.ref b] below meth c H locs 77 1890 Q (F0 m 1099 ls []) := by
  obtain ⟨hx, hb, hr, hml, hown, hts, hX, hbl, hlocks, hgv⟩ := id C0
  obtain ⟨M, S, it, hW, hC, hM, hP, hS⟩ := hI
  obtain ⟨r, S', it', hkd, hW', oC, oM⟩ := o_copy (X := X) (S := S) (it := it) (x1 := xs (i + 1)) (x2 := xs (i + 2)) (x3 := xs (i + 3)) (x4 := xs (i + 4)) (x5 := xs (i + 5)) hW
  obtain ⟨z, rfl⟩ := q_kdI hkd rfl
  obtain ⟨M1, cC, f1, r1⟩ := oC M hC
  obtain ⟨M2, cM, f2, r2⟩ := oM M1 (q_rM_hi hM f1)
  have r3 := q_rC_lo r1 f2
  refine lv_aload_n hx hb dl_1099 rfl (lv_at hl 1 rfl) ?_
  refine lw_arg C0 hbA hS hl hi hL (j := 1) (by omega) (by decide) da_1100 ?_
  refine lw_arg C0 hbA hS hl hi hL (j := 2) (by omega) (by decide) da_1105 ?_
  refine lw_arg C0 hbA hS hl hi hL (j := 3) (by omega) (by decide) da_1110 ?_
  refine lw_arg C0 hbA hS hl hi hL (j := 4) (by omega) (by decide) da_1115 ?_
  refine lw_arg C0 hbA hS hl hi hL (j := 5) (by omega) (by decide) da_1120 ?_
  refine lw_call (j := 71) (x := 147) (bb := 0) (As := [.int (xs (i + 1)), .int (xs (i + 2)), .int (xs (i + 3)), .int (xs (i + 4)), .int (xs (i + 5))]) (rest := []) (r := .int z) C0 hz hP hS hl.1 (zt_in 518 (by decide +kernel) rfl) rfl rfl (Nat.le_of_ble_eq_true rfl) (show zs_sh[0]? = some (.inr _) from rfl) rfl ⟨(Nat.le_of_ble_eq_true rfl), (Nat.le_of_ble_eq_true rfl)⟩ dl_1125 (Nat.le_of_ble_eq_true rfl) cC (fun H1 locs1 hP1 hS1 => ?_)
  refine lv_aload_n hx hb dl_1128 rfl (lv_at hl 2 rfl) ?_
  refine lw_arg C0 hbA hS1 hl hi hL (j := 1) (by omega) (by decide) da_1129 ?_
  refine lw_arg C0 hbA hS1 hl hi hL (j := 2) (by omega) (by decide) da_1134 ?_
  refine lw_arg C0 hbA hS1 hl hi hL (j := 3) (by omega) (by decide) da_1139 ?_
  refine lw_arg C0 hbA hS1 hl hi hL (j := 4) (by omega) (by decide) da_1144 ?_
  refine lw_arg C0 hbA hS1 hl hi hL (j := 5) (by omega) (by decide) da_1149 ?_
  refine lw_call (j := 87) (x := 151) (bb := 53) (As := [.int (xs (i + 1)), .int (xs (i + 2)), .int (xs (i + 3)), .int (xs (i + 4)), .int (xs (i + 5))]) (rest := [.int z]) (r := .int z) C0 hz hP1 hS1 hl.1 (zt_in 708 (by decide +kernel) rfl) rfl rfl (Nat.le_of_ble_eq_true rfl) (show zs_sh[53]? = some (.inr _) from rfl) rfl ⟨(Nat.le_of_ble_eq_true rfl), (Nat.le_of_ble_eq_true rfl)⟩ dl_1154 (Nat.le_of_ble_eq_true rfl) cM (fun H2 locs2 hP2 hS2 => ?_)
  exact lv_icmp_eq (tgt := 1222) hx hb dl_1157 (by decide) (fun _ => kk H2 locs2 ⟨M2, S', it', hW', r3, r2, hP2, hS2⟩) (fun c => absurd rfl c)
theorem dl_1162 : decode code 1162 = .ok (.aload_n 1, 1) := by decide +kernel
theorem da_1163 : la_ok 1163 1 := by unfold la_ok; decide +kernel
theorem dl_1168 : decode code 1168 = .ok (.invokevirtual 152, 3) := by decide +kernel
theorem dl_1171 : decode code 1171 = .ok (.aload_n 2, 1) := by decide +kernel
theorem da_1172 : la_ok 1172 1 := by unfold la_ok; decide +kernel
theorem dl_1177 : decode code 1177 = .ok (.invokevirtual 155, 3) := by decide +kernel
theorem dl_1180 : decode code 1180 = .ok (.if_icmp .eq 42, 3) := by decide +kernel
set_option maxHeartbeats 4000000 in
theorem lw_k33 {X : zX} {p : Program} {e : Env} {s : State} {m : MethodId} {below : List Frame} {meth : Method} {c : Code} {b L i : Nat} {xs : Nat → Int32} {H : Heap} {locs : List Loc} {ls : Array Slot} {Q : State → Prop} (C0 : lw_At p s m meth c b L xs) (hz : zk X s) (hbA : ¬ zA X b) (hL : L ≤ 3072) (hi : i + 6 ≤ L) (hI : lw_I X s H locs) (hl : lv_has ls 4 [(0, .ref b), (1, .ref (zx_a X 0)), (2, .ref (zx_a X 53)), (3, .int (nI i))]) (kk : ∀ (H1 : Heap) (locs1 : List Loc), lw_I X s H1 locs1 → W p (zx_l X) e room_1 s m #[Value.ref b] below meth c H1 locs1 77 1890 Q (F0 m 1222 ls [])) : W p (zx_l X) e room_1 s m #[Value.ref b] below meth c H locs 77 1890 Q (F0 m 1162 ls []) := by
  obtain ⟨hx, hb, hr, hml, hown, hts, hX, hbl, hlocks, hgv⟩ := id C0
  obtain ⟨M, S, it, hW, hC, hM, hP, hS⟩ := hI
  obtain ⟨r, S', it', hkd, hW', oC, oM⟩ := o_write (X := X) (S := S) (it := it) (x1 := xs (i + 1)) hW
  obtain ⟨z, rfl⟩ := q_kdI hkd rfl
  obtain ⟨M1, cC, f1, r1⟩ := oC M hC
  obtain ⟨M2, cM, f2, r2⟩ := oM M1 (q_rM_hi hM f1)
  have r3 := q_rC_lo r1 f2
  refine lv_aload_n hx hb dl_1162 rfl (lv_at hl 1 rfl) ?_
  refine lw_arg C0 hbA hS hl hi hL (j := 1) (by omega) (by decide) da_1163 ?_
  refine lw_call (j := 72) (x := 152) (bb := 0) (As := [.int (xs (i + 1))]) (rest := []) (r := .int z) C0 hz hP hS hl.1 (zt_in 527 (by decide +kernel) rfl) rfl rfl (Nat.le_of_ble_eq_true rfl) (show zs_sh[0]? = some (.inr _) from rfl) rfl ⟨(Nat.le_of_ble_eq_true rfl), (Nat.le_of_ble_eq_true rfl)⟩ dl_1168 (Nat.le_of_ble_eq_true rfl) cC (fun H1 locs1 hP1 hS1 => ?_)
  refine lv_aload_n hx hb dl_1171 rfl (lv_at hl 2 rfl) ?_
  refine lw_arg C0 hbA hS1 hl hi hL (j := 1) (by omega) (by decide) da_1172 ?_
  refine lw_call (j := 159) (x := 155) (bb := 53) (As := [.int (xs (i + 1))]) (rest := [.int z]) (r := .int z) C0 hz hP1 hS1 hl.1 (zt_in 1000 (by decide +kernel) rfl) rfl rfl (Nat.le_of_ble_eq_true rfl) (show zs_sh[53]? = some (.inr _) from rfl) rfl ⟨(Nat.le_of_ble_eq_true rfl), (Nat.le_of_ble_eq_true rfl)⟩ dl_1177 (Nat.le_of_ble_eq_true rfl) cM (fun H2 locs2 hP2 hS2 => ?_)
  exact lv_icmp_eq (tgt := 1222) hx hb dl_1180 (by decide) (fun _ => kk H2 locs2 ⟨M2, S', it', hW', r3, r2, hP2, hS2⟩) (fun c => absurd rfl c)
theorem dl_1185 : decode code 1185 = .ok (.aload_n 1, 1) := by decide +kernel
theorem da_1186 : la_ok 1186 1 := by unfold la_ok; decide +kernel
theorem dl_1191 : decode code 1191 = .ok (.invokevirtual 156, 3) := by decide +kernel
theorem dl_1194 : decode code 1194 = .ok (.aload_n 2, 1) := by decide +kernel
theorem da_1195 : la_ok 1195 1 := by unfold la_ok; decide +kernel
theorem dl_1200 : decode code 1200 = .ok (.invokevirtual 159, 3) := by decide +kernel
theorem dl_1203 : decode code 1203 = .ok (.if_icmp .eq 19, 3) := by decide +kernel
set_option maxHeartbeats 4000000 in
theorem lw_k34 {X : zX} {p : Program} {e : Env} {s : State} {m : MethodId} {below : List Frame} {meth : Method} {c : Code} {b L i : Nat} {xs : Nat → Int32} {H : Heap} {locs : List Loc} {ls : Array Slot} {Q : State → Prop} (C0 : lw_At p s m meth c b L xs) (hz : zk X s) (hbA : ¬ zA X b) (hL : L ≤ 3072) (hi : i + 6 ≤ L) (hI : lw_I X s H locs) (hl : lv_has ls 4 [(0, .ref b), (1, .ref (zx_a X 0)), (2, .ref (zx_a X 53)), (3, .int (nI i))]) (kk : ∀ (H1 : Heap) (locs1 : List Loc), lw_I X s H1 locs1 → W p (zx_l X) e room_1 s m #[Value.ref b] below meth c H1 locs1 77 1890 Q (F0 m 1222 ls [])) : W p (zx_l X) e room_1 s m #[Value.ref b] below meth c H locs 77 1890 Q (F0 m 1185 ls []) := by
  obtain ⟨hx, hb, hr, hml, hown, hts, hX, hbl, hlocks, hgv⟩ := id C0
  obtain ⟨M, S, it, hW, hC, hM, hP, hS⟩ := hI
  obtain ⟨r, S', it', hkd, hW', oC, oM⟩ := o_count (X := X) (S := S) (it := it) (x1 := xs (i + 1)) hW
  obtain ⟨z, rfl⟩ := q_kdI hkd rfl
  obtain ⟨M1, cC, f1, r1⟩ := oC M hC
  obtain ⟨M2, cM, f2, r2⟩ := oM M1 (q_rM_hi hM f1)
  have r3 := q_rC_lo r1 f2
  refine lv_aload_n hx hb dl_1185 rfl (lv_at hl 1 rfl) ?_
  refine lw_arg C0 hbA hS hl hi hL (j := 1) (by omega) (by decide) da_1186 ?_
  refine lw_call (j := 73) (x := 156) (bb := 0) (As := [.int (xs (i + 1))]) (rest := []) (r := .int z) C0 hz hP hS hl.1 (zt_in 534 (by decide +kernel) rfl) rfl rfl (Nat.le_of_ble_eq_true rfl) (show zs_sh[0]? = some (.inr _) from rfl) rfl ⟨(Nat.le_of_ble_eq_true rfl), (Nat.le_of_ble_eq_true rfl)⟩ dl_1191 (Nat.le_of_ble_eq_true rfl) cC (fun H1 locs1 hP1 hS1 => ?_)
  refine lv_aload_n hx hb dl_1194 rfl (lv_at hl 2 rfl) ?_
  refine lw_arg C0 hbA hS1 hl hi hL (j := 1) (by omega) (by decide) da_1195 ?_
  refine lw_call (j := 160) (x := 159) (bb := 53) (As := [.int (xs (i + 1))]) (rest := [.int z]) (r := .int z) C0 hz hP1 hS1 hl.1 (zt_in 1004 (by decide +kernel) rfl) rfl rfl (Nat.le_of_ble_eq_true rfl) (show zs_sh[53]? = some (.inr _) from rfl) rfl ⟨(Nat.le_of_ble_eq_true rfl), (Nat.le_of_ble_eq_true rfl)⟩ dl_1200 (Nat.le_of_ble_eq_true rfl) cM (fun H2 locs2 hP2 hS2 => ?_)
  exact lv_icmp_eq (tgt := 1222) hx hb dl_1203 (by decide) (fun _ => kk H2 locs2 ⟨M2, S', it', hW', r3, r2, hP2, hS2⟩) (fun c => absurd rfl c)
theorem dl_1208 : decode code 1208 = .ok (.aload_n 1, 1) := by decide +kernel
theorem dl_1209 : decode code 1209 = .ok (.invokevirtual 160, 3) := by decide +kernel
theorem dl_1212 : decode code 1212 = .ok (.aload_n 2, 1) := by decide +kernel
theorem dl_1213 : decode code 1213 = .ok (.invokevirtual 164, 3) := by decide +kernel
theorem dl_1216 : decode code 1216 = .ok (.lcmp, 1) := by decide +kernel
theorem dl_1217 : decode code 1217 = .ok (.ifCond .eq 5, 3) := by decide +kernel
set_option maxHeartbeats 4000000 in
theorem lw_k35 {X : zX} {p : Program} {e : Env} {s : State} {m : MethodId} {below : List Frame} {meth : Method} {c : Code} {b L i : Nat} {xs : Nat → Int32} {H : Heap} {locs : List Loc} {ls : Array Slot} {Q : State → Prop} (C0 : lw_At p s m meth c b L xs) (hz : zk X s) (hbA : ¬ zA X b) (hL : L ≤ 3072) (hi : i + 6 ≤ L) (hI : lw_I X s H locs) (hl : lv_has ls 4 [(0, .ref b), (1, .ref (zx_a X 0)), (2, .ref (zx_a X 53)), (3, .int (nI i))]) (kk : ∀ (H1 : Heap) (locs1 : List Loc), lw_I X s H1 locs1 → W p (zx_l X) e room_1 s m #[Value.ref b] below meth c H1 locs1 77 1890 Q (F0 m 1222 ls [])) : W p (zx_l X) e room_1 s m #[Value.ref b] below meth c H locs 77 1890 Q (F0 m 1208 ls []) := by
  obtain ⟨hx, hb, hr, hml, hown, hts, hX, hbl, hlocks, hgv⟩ := id C0
  obtain ⟨M, S, it, hW, hC, hM, hP, hS⟩ := hI
  obtain ⟨r, S', it', hkd, hW', oC, oM⟩ := o_digest (X := X) (S := S) (it := it)  hW
  obtain ⟨z, rfl⟩ := q_kdL hkd rfl
  obtain ⟨M1, cC, f1, r1⟩ := oC M hC
  obtain ⟨M2, cM, f2, r2⟩ := oM M1 (q_rM_hi hM f1)
  have r3 := q_rC_lo r1 f2
  refine lv_aload_n hx hb dl_1208 rfl (lv_at hl 1 rfl) ?_
  refine lw_call (j := 77) (x := 160) (bb := 0) (As := []) (rest := []) (r := .long z) C0 hz hP hS hl.1 (zt_in 538 (by decide +kernel) rfl) rfl rfl (Nat.le_of_ble_eq_true rfl) (show zs_sh[0]? = some (.inr _) from rfl) rfl ⟨(Nat.le_of_ble_eq_true rfl), (Nat.le_of_ble_eq_true rfl)⟩ dl_1209 (Nat.le_of_ble_eq_true rfl) cC (fun H1 locs1 hP1 hS1 => ?_)
  refine lv_aload_n hx hb dl_1212 rfl (lv_at hl 2 rfl) ?_
  refine lw_call (j := 163) (x := 164) (bb := 53) (As := []) (rest := [.long z]) (r := .long z) C0 hz hP1 hS1 hl.1 (zt_in 1008 (by decide +kernel) rfl) rfl rfl (Nat.le_of_ble_eq_true rfl) (show zs_sh[53]? = some (.inr _) from rfl) rfl ⟨(Nat.le_of_ble_eq_true rfl), (Nat.le_of_ble_eq_true rfl)⟩ dl_1213 (Nat.le_of_ble_eq_true rfl) cM (fun H2 locs2 hP2 hS2 => ?_)
  refine W.lcmp hx hb dl_1216 ?_
  exact lv_if_eq (tgt := 1222) hx hb dl_1217 (by decide) (fun _ => kk H2 locs2 ⟨M2, S', it', hW', r3, r2, hP2, hS2⟩) (fun c => absurd ((lg_cmp_eq z z).mpr rfl) c)
