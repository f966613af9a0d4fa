theorem dl_192 : decode code 192 = .ok (.aload_n 1, 1) := by decide +kernel
theorem da_193 : la_ok 193 1 := by unfold la_ok; decide +kernel
theorem da_198 : la_ok 198 2 := by unfold la_ok; decide +kernel
theorem dl_203 : decode code 203 = .ok (.invokevirtual 13, 3) := by decide +kernel
theorem dl_206 : decode code 206 = .ok (.aload_n 2, 1) := by decide +kernel
theorem da_207 : la_ok 207 1 := by unfold la_ok; decide +kernel
theorem da_212 : la_ok 212 2 := by unfold la_ok; decide +kernel
theorem dl_217 : decode code 217 = .ok (.invokevirtual 17, 3) := by decide +kernel
theorem dl_220 : decode code 220 = .ok (.if_icmp .eq 1002, 3) := by decide +kernel
set_option maxHeartbeats 4000000 in
theorem lw_k0 {X : zX} {p : Program} {e : Env} {s : State} {m : MethodId} {below : List Frame} {meth : Method} {c : Code} {b L i : Nat} {xs : Nat → Int32} {H : Heap} {locs : List Loc} {ls : Array Slot} {Q : State → Prop} (C0 : lw_At p s m meth c b L xs) (hz : zk X s) (hbA : ¬ zA X b) (hL : L ≤ 3072) (hi : i + 6 ≤ L) (hI : lw_I X s H locs) (hl : lv_has ls 4 [(0, .ref b), (1, .ref (zx_a X 0)), (2, .ref (zx_a X 53)), (3, .int (nI i))]) (kk : ∀ (H1 : Heap) (locs1 : List Loc), lw_I X s H1 locs1 → W p (zx_l X) e room_1 s m #[Value.ref b] below meth c H1 locs1 77 1890 Q (F0 m 1222 ls [])) : W p (zx_l X) e room_1 s m #[Value.ref b] below meth c H locs 77 1890 Q (F0 m 192 ls []) := by
  obtain ⟨hx, hb, hr, hml, hown, hts, hX, hbl, hlocks, hgv⟩ := id C0
  obtain ⟨M, S, it, hW, hC, hM, hP, hS⟩ := hI
  obtain ⟨r, S', it', hkd, hW', oC, oM⟩ := o_type (X := X) (S := S) (it := it) (x1 := xs (i + 1)) (x2 := xs (i + 2)) hW
  obtain ⟨z, rfl⟩ := q_kdI hkd rfl
  obtain ⟨M1, cC, f1, r1⟩ := oC M hC
  obtain ⟨M2, cM, f2, r2⟩ := oM M1 (q_rM_hi hM f1)
  have r3 := q_rC_lo r1 f2
  refine lv_aload_n hx hb dl_192 rfl (lv_at hl 1 rfl) ?_
  refine lw_arg C0 hbA hS hl hi hL (j := 1) (by omega) (by decide) da_193 ?_
  refine lw_arg C0 hbA hS hl hi hL (j := 2) (by omega) (by decide) da_198 ?_
  refine lw_call (j := 15) (x := 13) (bb := 0) (As := [.int (xs (i + 1)), .int (xs (i + 2))]) (rest := []) (r := .int z) C0 hz hP hS hl.1 (zt_in 230 (by decide +kernel) rfl) rfl rfl (Nat.le_of_ble_eq_true rfl) (show zs_sh[0]? = some (.inr _) from rfl) rfl ⟨(Nat.le_of_ble_eq_true rfl), (Nat.le_of_ble_eq_true rfl)⟩ dl_203 (Nat.le_of_ble_eq_true rfl) cC (fun H1 locs1 hP1 hS1 => ?_)
  refine lv_aload_n hx hb dl_206 rfl (lv_at hl 2 rfl) ?_
  refine lw_arg C0 hbA hS1 hl hi hL (j := 1) (by omega) (by decide) da_207 ?_
  refine lw_arg C0 hbA hS1 hl hi hL (j := 2) (by omega) (by decide) da_212 ?_
  refine lw_call (j := 89) (x := 17) (bb := 53) (As := [.int (xs (i + 1)), .int (xs (i + 2))]) (rest := [.int z]) (r := .int z) C0 hz hP1 hS1 hl.1 (zt_in 712 (by decide +kernel) rfl) rfl rfl (Nat.le_of_ble_eq_true rfl) (show zs_sh[53]? = some (.inr _) from rfl) rfl ⟨(Nat.le_of_ble_eq_true rfl), (Nat.le_of_ble_eq_true rfl)⟩ dl_217 (Nat.le_of_ble_eq_true rfl) cM (fun H2 locs2 hP2 hS2 => ?_)
  exact lv_icmp_eq (tgt := 1222) hx hb dl_220 (by decide) (fun _ => kk H2 locs2 ⟨M2, S', it', hW', r3, r2, hP2, hS2⟩) (fun c => absurd rfl c)
theorem dl_225 : decode code 225 = .ok (.aload_n 1, 1) := by decide +kernel
theorem da_226 : la_ok 226 1 := by unfold la_ok; decide +kernel
theorem dl_231 : decode code 231 = .ok (.invokevirtual 18, 3) := by decide +kernel
theorem dl_234 : decode code 234 = .ok (.aload_n 2, 1) := by decide +kernel
theorem da_235 : la_ok 235 1 := by unfold la_ok; decide +kernel
theorem dl_240 : decode code 240 = .ok (.invokevirtual 22, 3) := by decide +kernel
theorem dl_243 : decode code 243 = .ok (.if_icmp .eq 979, 3) := by decide +kernel
set_option maxHeartbeats 4000000 in
theorem lw_k1 {X : zX} {p : Program} {e : Env} {s : State} {m : MethodId} {below : List Frame} {meth : Method} {c : Code} {b L i : Nat} {xs : Nat → Int32} {H : Heap} {locs : List Loc} {ls : Array Slot} {Q : State → Prop} (C0 : lw_At p s m meth c b L xs) (hz : zk X s) (hbA : ¬ zA X b) (hL : L ≤ 3072) (hi : i + 6 ≤ L) (hI : lw_I X s H locs) (hl : lv_has ls 4 [(0, .ref b), (1, .ref (zx_a X 0)), (2, .ref (zx_a X 53)), (3, .int (nI i))]) (kk : ∀ (H1 : Heap) (locs1 : List Loc), lw_I X s H1 locs1 → W p (zx_l X) e room_1 s m #[Value.ref b] below meth c H1 locs1 77 1890 Q (F0 m 1222 ls [])) : W p (zx_l X) e room_1 s m #[Value.ref b] below meth c H locs 77 1890 Q (F0 m 225 ls []) := by
  obtain ⟨hx, hb, hr, hml, hown, hts, hX, hbl, hlocks, hgv⟩ := id C0
  obtain ⟨M, S, it, hW, hC, hM, hP, hS⟩ := hI
  obtain ⟨r, S', it', hkd, hW', oC, oM⟩ := o_wipe (X := X) (S := S) (it := it) (x1 := xs (i + 1)) hW
  obtain ⟨z, rfl⟩ := q_kdI hkd rfl
  obtain ⟨M1, cC, f1, r1⟩ := oC M hC
  obtain ⟨M2, cM, f2, r2⟩ := oM M1 (q_rM_hi hM f1)
  have r3 := q_rC_lo r1 f2
  refine lv_aload_n hx hb dl_225 rfl (lv_at hl 1 rfl) ?_
  refine lw_arg C0 hbA hS hl hi hL (j := 1) (by omega) (by decide) da_226 ?_
  refine lw_call (j := 16) (x := 18) (bb := 0) (As := [.int (xs (i + 1))]) (rest := []) (r := .int z) C0 hz hP hS hl.1 (zt_in 291 (by decide +kernel) rfl) rfl rfl (Nat.le_of_ble_eq_true rfl) (show zs_sh[0]? = some (.inr _) from rfl) rfl ⟨(Nat.le_of_ble_eq_true rfl), (Nat.le_of_ble_eq_true rfl)⟩ dl_231 (Nat.le_of_ble_eq_true rfl) cC (fun H1 locs1 hP1 hS1 => ?_)
  refine lv_aload_n hx hb dl_234 rfl (lv_at hl 2 rfl) ?_
  refine lw_arg C0 hbA hS1 hl hi hL (j := 1) (by omega) (by decide) da_235 ?_
  refine lw_call (j := 90) (x := 22) (bb := 53) (As := [.int (xs (i + 1))]) (rest := [.int z]) (r := .int z) C0 hz hP1 hS1 hl.1 (zt_in 720 (by decide +kernel) rfl) rfl rfl (Nat.le_of_ble_eq_true rfl) (show zs_sh[53]? = some (.inr _) from rfl) rfl ⟨(Nat.le_of_ble_eq_true rfl), (Nat.le_of_ble_eq_true rfl)⟩ dl_240 (Nat.le_of_ble_eq_true rfl) cM (fun H2 locs2 hP2 hS2 => ?_)
  exact lv_icmp_eq (tgt := 1222) hx hb dl_243 (by decide) (fun _ => kk H2 locs2 ⟨M2, S', it', hW', r3, r2, hP2, hS2⟩) (fun c => absurd rfl c)
theorem dl_248 : decode code 248 = .ok (.aload_n 1, 1) := by decide +kernel
theorem da_249 : la_ok 249 1 := by unfold la_ok; decide +kernel
theorem dl_254 : decode code 254 = .ok (.invokevirtual 23, 3) := by decide +kernel
theorem dl_257 : decode code 257 = .ok (.aload_n 2, 1) := by decide +kernel
theorem da_258 : la_ok 258 1 := by unfold la_ok; decide +kernel
theorem dl_263 : decode code 263 = .ok (.invokevirtual 26, 3) := by decide +kernel
theorem dl_266 : decode code 266 = .ok (.if_icmp .eq 956, 3) := by decide +kernel
set_option maxHeartbeats 4000000 in
theorem lw_k2 {X : zX} {p : Program} {e : Env} {s : State} {m : MethodId} {below : List Frame} {meth : Method} {c : Code} {b L i : Nat} {xs : Nat → Int32} {H : Heap} {locs : List Loc} {ls : Array Slot} {Q : State → Prop} (C0 : lw_At p s m meth c b L xs) (hz : zk X s) (hbA : ¬ zA X b) (hL : L ≤ 3072) (hi : i + 6 ≤ L) (hI : lw_I X s H locs) (hl : lv_has ls 4 [(0, .ref b), (1, .ref (zx_a X 0)), (2, .ref (zx_a X 53)), (3, .int (nI i))]) (kk : ∀ (H1 : Heap) (locs1 : List Loc), lw_I X s H1 locs1 → W p (zx_l X) e room_1 s m #[Value.ref b] below meth c H1 locs1 77 1890 Q (F0 m 1222 ls [])) : W p (zx_l X) e room_1 s m #[Value.ref b] below meth c H locs 77 1890 Q (F0 m 248 ls []) := by
  obtain ⟨hx, hb, hr, hml, hown, hts, hX, hbl, hlocks, hgv⟩ := id C0
  obtain ⟨M, S, it, hW, hC, hM, hP, hS⟩ := hI
  obtain ⟨r, S', it', hkd, hW', oC, oM⟩ := o_undo (X := X) (S := S) (it := it) (x1 := xs (i + 1)) hW
  obtain ⟨z, rfl⟩ := q_kdI hkd rfl
  obtain ⟨M1, cC, f1, r1⟩ := oC M hC
  obtain ⟨M2, cM, f2, r2⟩ := oM M1 (q_rM_hi hM f1)
  have r3 := q_rC_lo r1 f2
  refine lv_aload_n hx hb dl_248 rfl (lv_at hl 1 rfl) ?_
  refine lw_arg C0 hbA hS hl hi hL (j := 1) (by omega) (by decide) da_249 ?_
  refine lw_call (j := 17) (x := 23) (bb := 0) (As := [.int (xs (i + 1))]) (rest := []) (r := .int z) C0 hz hP hS hl.1 (zt_in 295 (by decide +kernel) rfl) rfl rfl (Nat.le_of_ble_eq_true rfl) (show zs_sh[0]? = some (.inr _) from rfl) rfl ⟨(Nat.le_of_ble_eq_true rfl), (Nat.le_of_ble_eq_true rfl)⟩ dl_254 (Nat.le_of_ble_eq_true rfl) cC (fun H1 locs1 hP1 hS1 => ?_)
  refine lv_aload_n hx hb dl_257 rfl (lv_at hl 2 rfl) ?_
  refine lw_arg C0 hbA hS1 hl hi hL (j := 1) (by omega) (by decide) da_258 ?_
  refine lw_call (j := 91) (x := 26) (bb := 53) (As := [.int (xs (i + 1))]) (rest := [.int z]) (r := .int z) C0 hz hP1 hS1 hl.1 (zt_in 724 (by decide +kernel) rfl) rfl rfl (Nat.le_of_ble_eq_true rfl) (show zs_sh[53]? = some (.inr _) from rfl) rfl ⟨(Nat.le_of_ble_eq_true rfl), (Nat.le_of_ble_eq_true rfl)⟩ dl_263 (Nat.le_of_ble_eq_true rfl) cM (fun H2 locs2 hP2 hS2 => ?_)
  exact lv_icmp_eq (tgt := 1222) hx hb dl_266 (by decide) (fun _ => kk H2 locs2 ⟨M2, S', it', hW', r3, r2, hP2, hS2⟩) (fun c => absurd rfl c)
theorem dl_271 : decode code 271 = .ok (.aload_n 1, 1) := by decide +kernel
theorem da_272 : la_ok 272 1 := by unfold la_ok; decide +kernel
theorem dl_277 : decode code 277 = .ok (.invokevirtual 27, 3) := by decide +kernel
theorem dl_280 : decode code 280 = .ok (.aload_n 2, 1) := by decide +kernel
theorem da_281 : la_ok 281 1 := by unfold la_ok; decide +kernel
theorem dl_286 : decode code 286 = .ok (.invokevirtual 30, 3) := by decide +kernel
theorem dl_289 : decode code 289 = .ok (.if_icmp .eq 933, 3) := by decide +kernel
set_option maxHeartbeats 4000000 in
theorem lw_k3 {X : zX} {p : Program} {e : Env} {s : State} {m : MethodId} {below : List Frame} {meth : Method} {c : Code} {b L i : Nat} {xs : Nat → Int32} {H : Heap} {locs : List Loc} {ls : Array Slot} {Q : State → Prop} (C0 : lw_At p s m meth c b L xs) (hz : zk X s) (hbA : ¬ zA X b) (hL : L ≤ 3072) (hi : i + 6 ≤ L) (hI : lw_I X s H locs) (hl : lv_has ls 4 [(0, .ref b), (1, .ref (zx_a X 0)), (2, .ref (zx_a X 53)), (3, .int (nI i))]) (kk : ∀ (H1 : Heap) (locs1 : List Loc), lw_I X s H1 locs1 → W p (zx_l X) e room_1 s m #[Value.ref b] below meth c H1 locs1 77 1890 Q (F0 m 1222 ls [])) : W p (zx_l X) e room_1 s m #[Value.ref b] below meth c H locs 77 1890 Q (F0 m 271 ls []) := by
  obtain ⟨hx, hb, hr, hml, hown, hts, hX, hbl, hlocks, hgv⟩ := id C0
  obtain ⟨M, S, it, hW, hC, hM, hP, hS⟩ := hI
  obtain ⟨r, S', it', hkd, hW', oC, oM⟩ := o_fault (X := X) (S := S) (it := it) (x1 := xs (i + 1)) hW
  obtain ⟨z, rfl⟩ := q_kdI hkd rfl
  obtain ⟨M1, cC, f1, r1⟩ := oC M hC
  obtain ⟨M2, cM, f2, r2⟩ := oM M1 (q_rM_hi hM f1)
  have r3 := q_rC_lo r1 f2
  refine lv_aload_n hx hb dl_271 rfl (lv_at hl 1 rfl) ?_
  refine lw_arg C0 hbA hS hl hi hL (j := 1) (by omega) (by decide) da_272 ?_
  refine lw_call (j := 4) (x := 27) (bb := 0) (As := [.int (xs (i + 1))]) (rest := []) (r := .int z) C0 hz hP hS hl.1 (zt_in 299 (by decide +kernel) rfl) rfl rfl (Nat.le_of_ble_eq_true rfl) (show zs_sh[0]? = some (.inr _) from rfl) rfl ⟨(Nat.le_of_ble_eq_true rfl), (Nat.le_of_ble_eq_true rfl)⟩ dl_277 (Nat.le_of_ble_eq_true rfl) cC (fun H1 locs1 hP1 hS1 => ?_)
  refine lv_aload_n hx hb dl_280 rfl (lv_at hl 2 rfl) ?_
  refine lw_arg C0 hbA hS1 hl hi hL (j := 1) (by omega) (by decide) da_281 ?_
  refine lw_call (j := 98) (x := 30) (bb := 53) (As := [.int (xs (i + 1))]) (rest := [.int z]) (r := .int z) C0 hz hP1 hS1 hl.1 (zt_in 728 (by decide +kernel) rfl) rfl rfl (Nat.le_of_ble_eq_true rfl) (show zs_sh[53]? = some (.inr _) from rfl) rfl ⟨(Nat.le_of_ble_eq_true rfl), (Nat.le_of_ble_eq_true rfl)⟩ dl_286 (Nat.le_of_ble_eq_true rfl) cM (fun H2 locs2 hP2 hS2 => ?_)
  exact lv_icmp_eq (tgt := 1222) hx hb dl_289 (by decide) (fun _ => kk H2 locs2 ⟨M2, S', it', hW', r3, r2, hP2, hS2⟩) (fun c => absurd rfl c)
theorem dl_294 : decode code 294 = .ok (.aload_n 1, 1) := by decide +kernel
theorem da_295 : la_ok 295 1 := by unfold la_ok; decide +kernel
theorem da_300 : la_ok 300 2 := by unfold la_ok; decide +kernel
theorem dl_305 : decode code 305 = .ok (.invokevirtual 31, 3) := by decide +kernel
theorem dl_308 : decode code 308 = .ok (.aload_n 2, 1) := by decide +kernel
theorem da_309 : la_ok 309 1 := by unfold la_ok; decide +kernel
theorem da_314 : la_ok 314 2 := by unfold la_ok; decide +kernel
theorem dl_319 : decode code 319 = .ok (.invokevirtual 34, 3) := by decide +kernel
theorem dl_322 : decode code 322 = .ok (.if_icmp .eq 900, 3) := by decide +kernel
set_option maxHeartbeats 4000000 in
theorem lw_k4 {X : zX} {p : Program} {e : Env} {s : State} {m : MethodId} {below : List Frame} {meth : Method} {c : Code} {b L i : Nat} {xs : Nat → Int32} {H : Heap} {locs : List Loc} {ls : Array Slot} {Q : State → Prop} (C0 : lw_At p s m meth c b L xs) (hz : zk X s) (hbA : ¬ zA X b) (hL : L ≤ 3072) (hi : i + 6 ≤ L) (hI : lw_I X s H locs) (hl : lv_has ls 4 [(0, .ref b), (1, .ref (zx_a X 0)), (2, .ref (zx_a X 53)), (3, .int (nI i))]) (kk : ∀ (H1 : Heap) (locs1 : List Loc), lw_I X s H1 locs1 → W p (zx_l X) e room_1 s m #[Value.ref b] below meth c H1 locs1 77 1890 Q (F0 m 1222 ls [])) : W p (zx_l X) e room_1 s m #[Value.ref b] below meth c H locs 77 1890 Q (F0 m 294 ls []) := by
  obtain ⟨hx, hb, hr, hml, hown, hts, hX, hbl, hlocks, hgv⟩ := id C0
  obtain ⟨M, S, it, hW, hC, hM, hP, hS⟩ := hI
  obtain ⟨r, S', it', hkd, hW', oC, oM⟩ := o_voter (X := X) (S := S) (it := it) (x1 := xs (i + 1)) (x2 := xs (i + 2)) hW
  obtain ⟨z, rfl⟩ := q_kdI hkd rfl
  obtain ⟨M1, cC, f1, r1⟩ := oC M hC
  obtain ⟨M2, cM, f2, r2⟩ := oM M1 (q_rM_hi hM f1)
  have r3 := q_rC_lo r1 f2
  refine lv_aload_n hx hb dl_294 rfl (lv_at hl 1 rfl) ?_
  refine lw_arg C0 hbA hS hl hi hL (j := 1) (by omega) (by decide) da_295 ?_
  refine lw_arg C0 hbA hS hl hi hL (j := 2) (by omega) (by decide) da_300 ?_
  refine lw_call (j := 18) (x := 31) (bb := 0) (As := [.int (xs (i + 1)), .int (xs (i + 2))]) (rest := []) (r := .int z) C0 hz hP hS hl.1 (zt_in 300 (by decide +kernel) rfl) rfl rfl (Nat.le_of_ble_eq_true rfl) (show zs_sh[0]? = some (.inr _) from rfl) rfl ⟨(Nat.le_of_ble_eq_true rfl), (Nat.le_of_ble_eq_true rfl)⟩ dl_305 (Nat.le_of_ble_eq_true rfl) cC (fun H1 locs1 hP1 hS1 => ?_)
  refine lv_aload_n hx hb dl_308 rfl (lv_at hl 2 rfl) ?_
  refine lw_arg C0 hbA hS1 hl hi hL (j := 1) (by omega) (by decide) da_309 ?_
  refine lw_arg C0 hbA hS1 hl hi hL (j := 2) (by omega) (by decide) da_314 ?_
  refine lw_call (j := 100) (x := 34) (bb := 53) (As := [.int (xs (i + 1)), .int (xs (i + 2))]) (rest := [.int z]) (r := .int z) C0 hz hP1 hS1 hl.1 (zt_in 756 (by decide +kernel) rfl) rfl rfl (Nat.le_of_ble_eq_true rfl) (show zs_sh[53]? = some (.inr _) from rfl) rfl ⟨(Nat.le_of_ble_eq_true rfl), (Nat.le_of_ble_eq_true rfl)⟩ dl_319 (Nat.le_of_ble_eq_true rfl) cM (fun H2 locs2 hP2 hS2 => ?_)
  exact lv_icmp_eq (tgt := 1222) hx hb dl_322 (by decide) (fun _ => kk H2 locs2 ⟨M2, S', it', hW', r3, r2, hP2, hS2⟩) (fun c => absurd rfl c)
theorem dl_327 : decode code 327 = .ok (.aload_n 1, 1) := by decide +kernel
theorem da_328 : la_ok 328 1 := by unfold la_ok; decide +kernel
theorem da_333 : la_ok 333 2 := by unfold la_ok; decide +kernel
theorem dl_338 : decode code 338 = .ok (.invokevirtual 35, 3) := by decide +kernel
theorem dl_341 : decode code 341 = .ok (.aload_n 2, 1) := by decide +kernel
theorem da_342 : la_ok 342 1 := by unfold la_ok; decide +kernel
theorem da_347 : la_ok 347 2 := by unfold la_ok; decide +kernel
theorem dl_352 : decode code 352 = .ok (.invokevirtual 38, 3) := by decide +kernel
theorem dl_355 : decode code 355 = .ok (.if_icmp .eq 867, 3) := by decide +kernel
set_option maxHeartbeats 4000000 in
theorem lw_k5 {X : zX} {p : Program} {e : Env} {s : State} {m : MethodId} {below : List Frame} {meth : Method} {c : Code} {b L i : Nat} {xs : Nat → Int32} {H : Heap} {locs : List Loc} {ls : Array Slot} {Q : State → Prop} (C0 : lw_At p s m meth c b L xs) (hz : zk X s) (hbA : ¬ zA X b) (hL : L ≤ 3072) (hi : i + 6 ≤ L) (hI : lw_I X s H locs) (hl : lv_has ls 4 [(0, .ref b), (1, .ref (zx_a X 0)), (2, .ref (zx_a X 53)), (3, .int (nI i))]) (kk : ∀ (H1 : Heap) (locs1 : List Loc), lw_I X s H1 locs1 → W p (zx_l X) e room_1 s m #[Value.ref b] below meth c H1 locs1 77 1890 Q (F0 m 1222 ls [])) : W p (zx_l X) e room_1 s m #[Value.ref b] below meth c H locs 77 1890 Q (F0 m 327 ls []) := by
  obtain ⟨hx, hb, hr, hml, hown, hts, hX, hbl, hlocks, hgv⟩ := id C0
  obtain ⟨M, S, it, hW, hC, hM, hP, hS⟩ := hI
  obtain ⟨r, S', it', hkd, hW', oC, oM⟩ := o_measure (X := X) (S := S) (it := it) (x1 := xs (i + 1)) (x2 := xs (i + 2)) hW
  obtain ⟨z, rfl⟩ := q_kdI hkd rfl
  obtain ⟨M1, cC, f1, r1⟩ := oC M hC
  obtain ⟨M2, cM, f2, r2⟩ := oM M1 (q_rM_hi hM f1)
  have r3 := q_rC_lo r1 f2
  refine lv_aload_n hx hb dl_327 rfl (lv_at hl 1 rfl) ?_
  refine lw_arg C0 hbA hS hl hi hL (j := 1) (by omega) (by decide) da_328 ?_
  refine lw_arg C0 hbA hS hl hi hL (j := 2) (by omega) (by decide) da_333 ?_
  refine lw_call (j := 19) (x := 35) (bb := 0) (As := [.int (xs (i + 1)), .int (xs (i + 2))]) (rest := []) (r := .int z) C0 hz hP hS hl.1 (zt_in 304 (by decide +kernel) rfl) rfl rfl (Nat.le_of_ble_eq_true rfl) (show zs_sh[0]? = some (.inr _) from rfl) rfl ⟨(Nat.le_of_ble_eq_true rfl), (Nat.le_of_ble_eq_true rfl)⟩ dl_338 (Nat.le_of_ble_eq_true rfl) cC (fun H1 locs1 hP1 hS1 => ?_)
  refine lv_aload_n hx hb dl_341 rfl (lv_at hl 2 rfl) ?_
  refine lw_arg C0 hbA hS1 hl hi hL (j := 1) (by omega) (by decide) da_342 ?_
  refine lw_arg C0 hbA hS1 hl hi hL (j := 2) (by omega) (by decide) da_347 ?_
  refine lw_call (j := 102) (x := 38) (bb := 53) (As := [.int (xs (i + 1)), .int (xs (i + 2))]) (rest := [.int z]) (r := .int z) C0 hz hP1 hS1 hl.1 (zt_in 764 (by decide +kernel) rfl) rfl rfl (Nat.le_of_ble_eq_true rfl) (show zs_sh[53]? = some (.inr _) from rfl) rfl ⟨(Nat.le_of_ble_eq_true rfl), (Nat.le_of_ble_eq_true rfl)⟩ dl_352 (Nat.le_of_ble_eq_true rfl) cM (fun H2 locs2 hP2 hS2 => ?_)
  exact lv_icmp_eq (tgt := 1222) hx hb dl_355 (by decide) (fun _ => kk H2 locs2 ⟨M2, S', it', hW', r3, r2, hP2, hS2⟩) (fun c => absurd rfl c)
