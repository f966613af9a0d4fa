theorem dl_0 : decode code 0 = .ok (.new 7, 3) := by decide +kernel
theorem dl_3 : decode code 3 = .ok (.dup, 1) := by decide +kernel
theorem dl_4 : decode code 4 = .ok (.invokespecial 9, 3) := by decide +kernel
theorem dl_7 : decode code 7 = .ok (.astore_n 1, 1) := by decide +kernel
theorem dl_8 : decode code 8 = .ok (.new 10, 3) := by decide +kernel
theorem dl_11 : decode code 11 = .ok (.dup, 1) := by decide +kernel
theorem dl_12 : decode code 12 = .ok (.invokespecial 12, 3) := by decide +kernel
theorem dl_15 : decode code 15 = .ok (.astore_n 2, 1) := by decide +kernel
theorem dl_16 : decode code 16 = .ok (.iconst 0, 1) := by decide +kernel
theorem dl_17 : decode code 17 = .ok (.istore_n 3, 1) := by decide +kernel
theorem dl_18 : decode code 18 = .ok (.iload_n 3, 1) := by decide +kernel
theorem dl_19 : decode code 19 = .ok (.aload_n 0, 1) := by decide +kernel
theorem dl_20 : decode code 20 = .ok (.arraylength, 1) := by decide +kernel
theorem dl_21 : decode code 21 = .ok (.bipush 6, 2) := by decide +kernel
theorem dl_23 : decode code 23 = .ok (.isub, 1) := by decide +kernel
theorem dl_24 : decode code 24 = .ok (.if_icmp .gt 1204, 3) := by decide +kernel
theorem dl_27 : decode code 27 = .ok (.aload_n 0, 1) := by decide +kernel
theorem dl_28 : decode code 28 = .ok (.iload_n 3, 1) := by decide +kernel
theorem dl_29 : decode code 29 = .ok (.iaload, 1) := by decide +kernel
theorem dl_30 : decode code 30 = .ok (.bipush 63, 2) := by decide +kernel
theorem dl_32 : decode code 32 = .ok (.iand, 1) := by decide +kernel
theorem dl_1222 : decode code 1222 = .ok (.iinc 3 6, 3) := by decide +kernel
theorem dl_1225 : decode code 1225 = .ok (.goto (-1207), 3) := by decide +kernel
theorem dl_1228 : decode code 1228 = .ok (.iconst 1, 1) := by decide +kernel
theorem dl_1229 : decode code 1229 = .ok (.ireturn, 1) := by decide +kernel
theorem dl_33 : decode code 33 = .ok (.tableswitch 1189 0 35 #[159, 192, 215, 238, 261, 294, 327, 360, 403, 416, 439, 472, 505, 538, 561, 574, 587, 600, 633, 656, 679, 702, 735, 748, 771, 804, 817, 861, 904, 947, 970, 1023, 1066, 1129, 1152, 1175], 159) := by decide +kernel
set_option maxHeartbeats 4000000 in
theorem lw_sw {X : zX} {p : Program} {e : Env} {s : State} {m : MethodId} {below : List Frame} {meth : Method} {c : Code} {b L i : Nat} {xs : Nat → Int32} {H : Heap} {locs : List Loc} {ls : Array Slot} {Q : State → Prop} (C0 : lw_At p s m meth c b L xs) (hz : zk X s) (hbA : ¬ zA X b) (hL : L ≤ 3072) (hi : i + 6 ≤ L) (hI : lw_I X s H locs) (hl : lv_has ls 4 [(0, .ref b), (1, .ref (zx_a X 0)), (2, .ref (zx_a X 53)), (3, .int (nI i))]) (kk : ∀ (H1 : Heap) (locs1 : List Loc), lw_I X s H1 locs1 → W p (zx_l X) e room_1 s m #[Value.ref b] below meth c H1 locs1 77 1890 Q (F0 m 1222 ls [])) : ∀ (j : Nat), j < 64 → W p (zx_l X) e room_1 s m #[Value.ref b] below meth c H locs 77 1890 Q (F0 m 33 ls [.int (nI j)])
  | 0, _ => lv_tableIn (off := 159) (tgt := 192) C0.1 C0.2.1 dl_33 (by decide) (by decide) (by decide +kernel) (by decide) (lw_k0 C0 hz hbA hL hi hI hl kk)
  | 1, _ => lv_tableIn (off := 192) (tgt := 225) C0.1 C0.2.1 dl_33 (by decide) (by decide) (by decide +kernel) (by decide) (lw_k1 C0 hz hbA hL hi hI hl kk)
  | 2, _ => lv_tableIn (off := 215) (tgt := 248) C0.1 C0.2.1 dl_33 (by decide) (by decide) (by decide +kernel) (by decide) (lw_k2 C0 hz hbA hL hi hI hl kk)
  | 3, _ => lv_tableIn (off := 238) (tgt := 271) C0.1 C0.2.1 dl_33 (by decide) (by decide) (by decide +kernel) (by decide) (lw_k3 C0 hz hbA hL hi hI hl kk)
  | 4, _ => lv_tableIn (off := 261) (tgt := 294) C0.1 C0.2.1 dl_33 (by decide) (by decide) (by decide +kernel) (by decide) (lw_k4 C0 hz hbA hL hi hI hl kk)
  | 5, _ => lv_tableIn (off := 294) (tgt := 327) C0.1 C0.2.1 dl_33 (by decide) (by decide) (by decide +kernel) (by decide) (lw_k5 C0 hz hbA hL hi hI hl kk)
  | 6, _ => lv_tableIn (off := 327) (tgt := 360) C0.1 C0.2.1 dl_33 (by decide) (by decide) (by decide +kernel) (by decide) (lw_k6 C0 hz hbA hL hi hI hl kk)
  | 7, _ => lv_tableIn (off := 360) (tgt := 393) C0.1 C0.2.1 dl_33 (by decide) (by decide) (by decide +kernel) (by decide) (lw_k7 C0 hz hbA hL hi hI hl kk)
  | 8, _ => lv_tableIn (off := 403) (tgt := 436) C0.1 C0.2.1 dl_33 (by decide) (by decide) (by decide +kernel) (by decide) (lw_k8 C0 hz hbA hL hi hI hl kk)
  | 9, _ => lv_tableIn (off := 416) (tgt := 449) C0.1 C0.2.1 dl_33 (by decide) (by decide) (by decide +kernel) (by decide) (lw_k9 C0 hz hbA hL hi hI hl kk)
  | 10, _ => lv_tableIn (off := 439) (tgt := 472) C0.1 C0.2.1 dl_33 (by decide) (by decide) (by decide +kernel) (by decide) (lw_k10 C0 hz hbA hL hi hI hl kk)
  | 11, _ => lv_tableIn (off := 472) (tgt := 505) C0.1 C0.2.1 dl_33 (by decide) (by decide) (by decide +kernel) (by decide) (lw_k11 C0 hz hbA hL hi hI hl kk)
  | 12, _ => lv_tableIn (off := 505) (tgt := 538) C0.1 C0.2.1 dl_33 (by decide) (by decide) (by decide +kernel) (by decide) (lw_k12 C0 hz hbA hL hi hI hl kk)
  | 13, _ => lv_tableIn (off := 538) (tgt := 571) C0.1 C0.2.1 dl_33 (by decide) (by decide) (by decide +kernel) (by decide) (lw_k13 C0 hz hbA hL hi hI hl kk)
  | 14, _ => lv_tableIn (off := 561) (tgt := 594) C0.1 C0.2.1 dl_33 (by decide) (by decide) (by decide +kernel) (by decide) (lw_k14 C0 hz hbA hL hi hI hl kk)
  | 15, _ => lv_tableIn (off := 574) (tgt := 607) C0.1 C0.2.1 dl_33 (by decide) (by decide) (by decide +kernel) (by decide) (lw_k15 C0 hz hbA hL hi hI hl kk)
  | 16, _ => lv_tableIn (off := 587) (tgt := 620) C0.1 C0.2.1 dl_33 (by decide) (by decide) (by decide +kernel) (by decide) (lw_k16 C0 hz hbA hL hi hI hl kk)
  | 17, _ => lv_tableIn (off := 600) (tgt := 633) C0.1 C0.2.1 dl_33 (by decide) (by decide) (by decide +kernel) (by decide) (lw_k17 C0 hz hbA hL hi hI hl kk)
  | 18, _ => lv_tableIn (off := 633) (tgt := 666) C0.1 C0.2.1 dl_33 (by decide) (by decide) (by decide +kernel) (by decide) (lw_k18 C0 hz hbA hL hi hI hl kk)
  | 19, _ => lv_tableIn (off := 656) (tgt := 689) C0.1 C0.2.1 dl_33 (by decide) (by decide) (by decide +kernel) (by decide) (lw_k19 C0 hz hbA hL hi hI hl kk)
  | 20, _ => lv_tableIn (off := 679) (tgt := 712) C0.1 C0.2.1 dl_33 (by decide) (by decide) (by decide +kernel) (by decide) (lw_k20 C0 hz hbA hL hi hI hl kk)
  | 21, _ => lv_tableIn (off := 702) (tgt := 735) C0.1 C0.2.1 dl_33 (by decide) (by decide) (by decide +kernel) (by decide) (lw_k21 C0 hz hbA hL hi hI hl kk)
  | 22, _ => lv_tableIn (off := 735) (tgt := 768) C0.1 C0.2.1 dl_33 (by decide) (by decide) (by decide +kernel) (by decide) (lw_k22 C0 hz hbA hL hi hI hl kk)
  | 23, _ => lv_tableIn (off := 748) (tgt := 781) C0.1 C0.2.1 dl_33 (by decide) (by decide) (by decide +kernel) (by decide) (lw_k23 C0 hz hbA hL hi hI hl kk)
  | 24, _ => lv_tableIn (off := 771) (tgt := 804) C0.1 C0.2.1 dl_33 (by decide) (by decide) (by decide +kernel) (by decide) (lw_k24 C0 hz hbA hL hi hI hl kk)
  | 25, _ => lv_tableIn (off := 804) (tgt := 837) C0.1 C0.2.1 dl_33 (by decide) (by decide) (by decide +kernel) (by decide) (lw_k25 C0 hz hbA hL hi hI hl kk)
  | 26, _ => lv_tableIn (off := 817) (tgt := 850) C0.1 C0.2.1 dl_33 (by decide) (by decide) (by decide +kernel) (by decide) (lw_k26 C0 hz hbA hL hi hI hl kk)
  | 27, _ => lv_tableIn (off := 861) (tgt := 894) C0.1 C0.2.1 dl_33 (by decide) (by decide) (by decide +kernel) (by decide) (lw_k27 C0 hz hbA hL hi hI hl kk)
  | 28, _ => lv_tableIn (off := 904) (tgt := 937) C0.1 C0.2.1 dl_33 (by decide) (by decide) (by decide +kernel) (by decide) (lw_k28 C0 hz hbA hL hi hI hl kk)
  | 29, _ => lv_tableIn (off := 947) (tgt := 980) C0.1 C0.2.1 dl_33 (by decide) (by decide) (by decide +kernel) (by decide) (lw_k29 C0 hz hbA hL hi hI hl kk)
  | 30, _ => lv_tableIn (off := 970) (tgt := 1003) C0.1 C0.2.1 dl_33 (by decide) (by decide) (by decide +kernel) (by decide) (lw_k30 C0 hz hbA hL hi hI hl kk)
  | 31, _ => lv_tableIn (off := 1023) (tgt := 1056) C0.1 C0.2.1 dl_33 (by decide) (by decide) (by decide +kernel) (by decide) (lw_k31 C0 hz hbA hL hi hI hl kk)
  | 32, _ => lv_tableIn (off := 1066) (tgt := 1099) C0.1 C0.2.1 dl_33 (by decide) (by decide) (by decide +kernel) (by decide) (lw_k32 C0 hz hbA hL hi hI hl kk)
  | 33, _ => lv_tableIn (off := 1129) (tgt := 1162) C0.1 C0.2.1 dl_33 (by decide) (by decide) (by decide +kernel) (by decide) (lw_k33 C0 hz hbA hL hi hI hl kk)
  | 34, _ => lv_tableIn (off := 1152) (tgt := 1185) C0.1 C0.2.1 dl_33 (by decide) (by decide) (by decide +kernel) (by decide) (lw_k34 C0 hz hbA hL hi hI hl kk)
  | 35, _ => lv_tableIn (off := 1175) (tgt := 1208) C0.1 C0.2.1 dl_33 (by decide) (by decide) (by decide +kernel) (by decide) (lw_k35 C0 hz hbA hL hi hI hl kk)
  | j + 36, h => lv_tableOut (tgt := 1222) C0.1 C0.2.1 dl_33 (by
    right
    rw [q_nI_toInt (by omega)]
    omega) (by decide) (kk H locs hI)
