set_option maxHeartbeats 4000000 in
/-- THE LAW'S LOOP -/
theorem lw_loop {X : zX} {p : Program} {e : Env} {s : State} {m : MethodId} {below : List Frame} {meth : Method} {c : Code} {b L : Nat} {xs : Nat → Int32} (C0 : lw_At p s m meth c b L xs) (hz : zk X s) (hbA : ¬ zA X b) (hAs : ∀ q, zA X q → s.heap.size ≤ q) (hL : L ≤ 3072) : ∀ (n i : Nat) (H : Heap) (locs : List Loc) (ls : Array Slot), i ≤ L → L + 1 ≤ i + n → lw_I X s H locs → lv_has ls 4 [(0, .ref b), (1, .ref (zx_a X 0)), (2, .ref (zx_a X 53)), (3, .int (nI i))] → W p (zx_l X) e room_1 s m #[Value.ref b] below meth c H locs 77 1890 (lw_Z below #[Value.ref b] s) (F0 m 18 ls []) := by
  obtain ⟨hx, hb, hr, hml, hown, hts, hX, hbl, hlocks, hgv⟩ := id C0
  intro n
  induction n with
  | zero =>
    intro i H locs ls h1 h2
    exact absurd h2 (by omega)
  | succ n ih =>
    intro i H locs ls hi hn hI hl
    have hS : va_S (zA X) s.heap H locs := by
      obtain ⟨M, S, it, -, -, -, -, hS⟩ := hI
      exact hS
    refine lv_iload_n hx hb dl_18 rfl (lv_at hl 3 rfl) ?_
    refine lv_aload_n hx hb dl_19 rfl (lv_at hl 0 rfl) ?_
    refine va_slen hx hb hX hbl hbA hS dl_20 ?_
    refine lv_bipush (v := 6) hx hb dl_21 (by decide) ?_
    refine lv_isub hx hb dl_23 ?_
    refine lv_icmp_gt (tgt := 1228) hx hb dl_24 (by decide) (fun _ => ?_) (fun cg => ?_)
    · refine lv_iconst (v := 1) hx hb dl_1228 (by decide) ?_
      refine va_forget (fun q hq => hAs _ (hS.2.2 q hq)) ?_
      exact lw_ret hx hb hr hlocks dl_1229
    · have hlt : i + 6 ≤ L := by
        rw [Int32.lt_iff_toInt_lt] at cg
        have e1 : (Int32.ofNat L - (6 : Int32)).toInt = (L : Int) - 6 := pk_sub_toInt (a := L) (b := 6) (by omega) (by omega)
        have e2 : (nI i).toInt = i := q_nI_toInt (by omega)
        rw [e1, e2] at cg
        omega
      refine lv_aload_n hx hb dl_27 rfl (lv_at hl 0 rfl) ?_
      refine lv_iload_n hx hb dl_28 rfl (lv_at hl 3 rfl) ?_
      refine va_sld hx hb hX hbl hbA hS (q_in (by omega) (by omega)) dl_29 ?_
      refine lv_bipush (v := 63) hx hb dl_30 (by decide) ?_
      refine lv_iand hx hb dl_32 ?_
      obtain ⟨j, hj, ej⟩ := pk_andE (xs (nI i).toNatClampNeg) (m := 63) 6 (by decide)
      rw [ej]
      refine lw_sw C0 hz hbA hL hlt hI hl (fun H1 locs1 hI1 => ?_) j (by omega)
      refine lv_iinc (v := nI (i + 6)) (lv' := [(3, .int (nI (i + 6))), (0, .ref b), (1, .ref (zx_a X 0)), (2, .ref (zx_a X 53))]) hx hb dl_1222 hl (k := 3) rfl (by rw [show Int32.ofInt 6 = nI 6 by decide]; exact nI_add i 6) (by decide) rfl (fun ls hl => ?_)
      refine lv_goto (tgt := 18) hx hb dl_1225 (by decide) ?_
      exact ih (i + 6) H1 locs1 ls hlt (by omega) hI1 (lv_sub hl [1, 2, 3, 0] rfl)
theorem lw_arr {args : Array Value} {s : State} {ty : FieldType} (h : (Cond.arrayClass ty).before args s = true) : ∃ cA : ClassId, ArrOfT s cA ty ∧ s.vm.findClass ("[" ++ ty.toString) = some cA := by
  obtain ⟨cA, kA, comp, hf, hk, hkind⟩ := Cond.arrayClass_spec h
  exact ⟨cA, fun n z => ⟨fun k h => (by cases h), kA, hk, comp, hkind⟩, hf⟩
/-- the table of the class -/
theorem lw_tr {b : Addr} {s : State} (hts : ∀ w ∈ lw_tbl, w.before #[Value.ref b] s = true) (hgv : (Jvm.Cond.and given_1 narrow_1).before #[Value.ref b] s = true) : ∃ t : Nat, va_Z "FoolVotes$Votes" "TRAITS_IN" "[I" (.ref t) (fun q : Nat => s.heap.size ≤ q) s s.heap ∧ va_T .int t 8 (fun j => .int (zt_tr j)) (fun q : Nat => s.heap.size ≤ q) s s.heap := by
  have hs := flat_of_before _ hgv
  have harr : (Cond.arrayOf (.static "FoolVotes$Votes" "TRAITS_IN" "[I") .int).before #[Value.ref b] s = true := hs _ (by decide +kernel)
  have hlen := va_eqt (hs (Cond.eq (.length (.static "FoolVotes$Votes" "TRAITS_IN" "[I")) (.int 8)) (by decide +kernel))
  have h0 := va_eqt (hs (Cond.eq (.elem (.static "FoolVotes$Votes" "TRAITS_IN" "[I") (.int 0)) (.int 0)) (by decide +kernel))
  have h1 := va_eqt (hs (Cond.eq (.elem (.static "FoolVotes$Votes" "TRAITS_IN" "[I") (.int 1)) (.int 1)) (by decide +kernel))
  have h2 := va_eqt (hs (Cond.eq (.elem (.static "FoolVotes$Votes" "TRAITS_IN" "[I") (.int 2)) (.int 1)) (by decide +kernel))
  have h3 := va_eqt (hs (Cond.eq (.elem (.static "FoolVotes$Votes" "TRAITS_IN" "[I") (.int 3)) (.int 2)) (by decide +kernel))
  have h4 := va_eqt (hs (Cond.eq (.elem (.static "FoolVotes$Votes" "TRAITS_IN" "[I") (.int 4)) (.int 1)) (by decide +kernel))
  have h5 := va_eqt (hs (Cond.eq (.elem (.static "FoolVotes$Votes" "TRAITS_IN" "[I") (.int 5)) (.int 2)) (by decide +kernel))
  have h6 := va_eqt (hs (Cond.eq (.elem (.static "FoolVotes$Votes" "TRAITS_IN" "[I") (.int 6)) (.int 2)) (by decide +kernel))
  have h7 := va_eqt (hs (Cond.eq (.elem (.static "FoolVotes$Votes" "TRAITS_IN" "[I") (.int 7)) (.int 3)) (by decide +kernel))
  obtain ⟨t, ht, hT⟩ := va_Tof (N := 8) (f := fun j => .int (zt_tr j)) (A := fun q : Nat => s.heap.size ≤ q) (by decide) harr hlen (fun j hj => by
    have : j = 0 ∨ j = 1 ∨ j = 2 ∨ j = 3 ∨ j = 4 ∨ j = 5 ∨ j = 6 ∨ j = 7 := by omega
    rcases this with rfl | rfl | rfl | rfl | rfl | rfl | rfl | rfl
    · exact h0
    · exact h1
    · exact h2
    · exact h3
    · exact h4
    · exact h5
    · exact h6
    · exact h7) (fun a h => Nat.not_le.mpr h)
  exact ⟨t, va_Zref (hts (.laysStatic "FoolVotes$Votes" "TRAITS_IN" "[I") (List.mem_append_right _ (List.mem_of_getElem? (i := 282) (by decide +kernel)))) (hts (.initialized "FoolVotes$Votes") (List.mem_append_right _ (List.mem_of_getElem? (i := 4) (by decide +kernel)))) ht (fun a h => Nat.not_le.mpr h), hT⟩
theorem lw_inj {X : zX} {A : Nat → Prop} (hD : va_D A (zs_ws X q_M0)) : zx_inj X ∧ ∀ q, zA X q → A q := by
  have hg : ∀ i, i < 77 → ∃ sh, zs_sh[i]? = some sh := fun i hi => ⟨_, List.getElem?_eq_getElem (by rw [zs_len]; exact hi)⟩
  refine ⟨fun i j hi hj h => ?_, fun q hq => ?_⟩
  · obtain ⟨a, ha⟩ := hg i hi
    obtain ⟨b, hb⟩ := hg j hj
    exact hD.1 i j _ _ (zs_at ha) (zs_at hb) h
  · obtain ⟨k, hk, rfl⟩ := hq
    obtain ⟨a, ha⟩ := hg k hk
    exact hD.2 k _ (zs_at (X := X) (M := q_M0) ha)
set_option maxHeartbeats 4000000 in
set_option maxRecDepth 100000 in
/-- from the entry, for every script of at most 3072 ints, the law comes to its end with true -/
theorem whole_start {p : Program} {e : Env} {s : State} {m : MethodId} {below : List Frame} {meth : Method} {c : Code} (l : Launch) {b L : Nat} {xs : Nat → Int32} (hL : L ≤ 3072) (C0 : lw_At p s m meth c b L xs) : W p l e room_1 s m #[Value.ref b] below meth c s.heap [] 0 0 (lw_Z below #[Value.ref b] s) (entryFrame m ([Value.ref b] : List Value).toArray 4) := by
  obtain ⟨hx, hb, hr, hml, hown, hts, hX, hbl, hlocks, hgv⟩ := id C0
  have hG := lw_G hts
  have hA : ∀ q : Nat, s.heap.size ≤ q → (fun q : Nat => s.heap.size ≤ q) q := fun _ h => h
  obtain ⟨c0, i0, k0⟩ := u_known (C := zn_Fv) (T := zT_Fv) (N := 14) (n := 14) hG zI_Fv (hG (.instantiable zn_Fv 14) (zt_in 12 (by decide +kernel) rfl))
  obtain ⟨c1, i1, k1⟩ := u_known (C := zn_Ca) (T := zT_Ca) (N := 15) (n := 15) hG zI_Ca (hG (.instantiable zn_Ca 15) (zt_in 35 (by decide +kernel) rfl))
  obtain ⟨c2, i2, k2⟩ := u_known (C := zn_Sh) (T := zT_Sh) (N := 3) (n := 3) hG zI_Sh (hG (.instantiable zn_Sh 3) (zt_in 169 (by decide +kernel) rfl))
  obtain ⟨c3, i3, k3⟩ := u_known (C := zn_Te) (T := zT_Te) (N := 2) (n := 2) hG zI_Te (hG (.instantiable zn_Te 2) (zt_in 20 (by decide +kernel) rfl))
  obtain ⟨c4, i4, k4⟩ := u_known (C := zn_Vo) (T := zT_Vo) (N := 13) (n := 13) hG zI_Vo (hG (.instantiable zn_Vo 13) (zt_in 113 (by decide +kernel) rfl))
  obtain ⟨c5, i5, k5⟩ := u_known (C := zn_Mo) (T := zT_Mo) (N := 31) (n := 31) hG zI_Mo (hG (.instantiable zn_Mo 31) (zt_in 572 (by decide +kernel) rfl))
  obtain ⟨dC, dI, hKc⟩ : ∃ (dC : Nat → ClassId) (dI : Nat → Nat → Nat), ∀ (k : Nat) (q : vw_C), zc_cl[k]? = some q → u_Kn s q.1 q.2.1 q.2.2 (dC k) (dI k) := by
    refine ⟨fun k => ([c0, c1, c2, c3, c4, c5] : List ClassId).getD k c0, fun k => ([i0, i1, i2, i3, i4, i5] : List (Nat → Nat)).getD k i0, ?_⟩
    intro k q hq
    match k, hq with
    | 0, hq => cases hq; exact k0
    | 1, hq => cases hq; exact k1
    | 2, hq => cases hq; exact k2
    | 3, hq => cases hq; exact k3
    | 4, hq => cases hq; exact k4
    | 5, hq => cases hq; exact k5
    | k + 6, hq => simp [zc_cl] at hq
  obtain ⟨cI, hI1, hI2⟩ := lw_arr (hG (.arrayClass .int) (zt_in 33 (by decide +kernel) rfl))
  obtain ⟨cZ, hZ1, hZ2⟩ := lw_arr (hG (.arrayClass .boolean) (zt_in 671 (by decide +kernel) rfl))
  obtain ⟨tr, hTZ, hTT⟩ := lw_tr hts hgv
  have hK : va_K (dC, dI) zc_cl [(cI, .int), (cZ, .boolean)] s := ⟨hKc, fun k q hq => by
    match k, hq with
    | 0, hq => cases hq; exact ⟨hI1, hI2⟩
    | 1, hq => cases hq; exact ⟨hZ1, hZ2⟩
    | k + 2, hq => simp at hq⟩
  have hN1 : va_Nw (.methodLinkNest zn_Fv 23 zy_iCa "FoolVotes") s := va_Nw.of rfl (hts _ (List.mem_append_right _ (List.mem_of_getElem? (i := 36) (by decide +kernel))))
  have hN2 : va_Nw (.methodLinkNest zn_Fv 30 zy_iVo "FoolVotes") s := va_Nw.of rfl (hts _ (List.mem_append_right _ (List.mem_of_getElem? (i := 114) (by decide +kernel))))
  have hN3 : va_Nw (.methodLinkNest "FoolVotes$Votes" 100 zy_bit "FoolVotes") s := va_Nw.of rfl (hts _ (List.mem_append_right _ (List.mem_of_getElem? (i := 271) (by decide +kernel))))
  have hS : va_S (fun q : Nat => s.heap.size ≤ q) s.heap s.heap [] := va_S.rf
  have hP : va_P (dC, dI) zc_cl [] s.heap := fun k q h => by simp at h
  have hD : va_D (fun q : Nat => s.heap.size ≤ q) [] := ⟨fun i j p q h => by simp at h, fun k q h => by simp at h⟩
  have hl := lv_entry ([.ref b]) (n := 4) (Nat.le_of_ble_eq_true rfl)
  rw [lg_entry_eq]
  generalize (lg_sl ([.ref b]) ++ List.replicate (4 - (lg_sl ([.ref b])).length) Slot.unset).toArray = ls at hl ⊢
  have hl : lv_has ls 4 [(0, .ref b)] := hl
  refine va_new (ci := 0) (fs := zb_Fv) (C := zn_Fv) (T := zT_Fv) (N := 14) hx hb hG zI_Fv zy_Fv zY_Fv hown (hG (.classLink R_law 7 zn_Fv) (zt_in 11 (by decide +kernel) rfl)) (hG (.instantiable zn_Fv 14) (zt_in 12 (by decide +kernel) rfl)) (hG (.initialized zn_Fv) (zt_in 1 (by decide +kernel) rfl)) hK hP hD hS hA rfl zD_Fv (Nat.le_of_ble_eq_true rfl) (Nat.le_of_ble_eq_true rfl) dl_0 (fun q0 H hP hD hS => ?_)
  have hP : va_P (dC, dI) zc_cl [(q0, .inr (0, zb_Fv))] H := hP
  have hD : va_D (fun q : Nat => s.heap.size ≤ q) [(q0, .inr (0, zb_Fv))] := hD
  refine W.widen (k := 1) (n := 14) (Nat.le_of_ble_eq_true rfl) (Nat.le_of_ble_eq_true rfl) ?_
  refine lv_dup hx hb dl_3 rfl ?_
  have hFc := va_free (wc := [(q0, .inr (0, zb_Fv))]) hD hS hA [0] rfl
  refine va_callv (va_runI (As := []) (rest := [.ref q0]) ⟨hx, hb, hml, hown, hG⟩ (i_Fv l dC dI cI cZ q0 H.size) (cwI 0 hG g_iFv rfl rfl rfl (hG (.initialized zn_Fv) (zt_in 1 (by decide +kernel) rfl)) (hG (.methodLink R_law 9 zy_iFv) (zt_in 13 (by decide +kernel) rfl)) (hG (.instanceMethod zy_iFv) (zt_in 14 (by decide +kernel) rfl)) rfl (by decide +kernel) ⟨Nat.le_of_ble_eq_true rfl, Nat.le_of_ble_eq_true rfl⟩) ⟨q_cblindF, fun U hU hW => ⟨rfl, by rw [hU], by rw [hU]; exact hP, va_K.moved hW.alike hK, hD.weaken (fun _ _ _ _ => trivial), va_Nw.warmM hW hN1, va_Nw.warmM hW hN2⟩⟩ rfl rfl hl.1 rfl (lv_room (Nat.le_of_ble_eq_true rfl)) dl_4 ⟨Nat.le_of_ble_eq_true rfl, Nat.le_of_ble_eq_true rfl⟩) hS (fun q _ h => hFc q h) hFc (fun ua t H1 locs ht hvm hw hB hz1 hk1 hS => ?_)
  obtain ⟨hP1, hD1⟩ := hB
  rw [ht] at hP1
  obtain ⟨hP, hD⟩ := va_join (wr := []) (w1 := q_wF cI ua) hP hD [0] [] rfl rfl (by decide) (by decide) hk1 hFc hP1 hD1
  generalize H1 = H at hP hS ⊢
  have hP : va_P (dC, dI) zc_cl (q_wF cI ua) H := hP
  have hD : va_D (fun q : Nat => s.heap.size ≤ q) (q_wF cI ua) := hD
  refine W.widen (k := 53) (n := 1183) (Nat.le_of_ble_eq_true rfl) (Nat.le_of_ble_eq_true rfl) ?_
  refine lv_astore_n (lv' := [(1, .ref q0), (0, .ref b)]) hx hb dl_7 rfl hl (by decide) rfl (fun ls hl => ?_)
  refine va_new (ci := 5) (fs := zb_Mo) (C := zn_Mo) (T := zT_Mo) (N := 31) hx hb hG zI_Mo zy_Mo zY_Mo hown (hG (.classLink R_law 10 zn_Mo) (zt_in 571 (by decide +kernel) rfl)) (hG (.instantiable zn_Mo 31) (zt_in 572 (by decide +kernel) rfl)) (hG (.initialized zn_Mo) (zt_in 6 (by decide +kernel) rfl)) hK hP hD hS hA rfl zD_Mo (Nat.le_of_ble_eq_true rfl) (Nat.le_of_ble_eq_true rfl) dl_8 (fun q1 H hP hD hS => ?_)
  refine W.widen (k := 54) (n := 1214) (Nat.le_of_ble_eq_true rfl) (Nat.le_of_ble_eq_true rfl) ?_
  refine lv_dup hx hb dl_11 rfl ?_
  obtain ⟨hPm, hDm⟩ := q_sufL hP hD
  have hFc := q_freeL hD hS hA
  refine va_callv (va_runI (As := []) (rest := [.ref q1]) ⟨hx, hb, hml, hown, hG⟩ (i_Mo l dC dI cI cZ q1 H.size) (cwI 0 hG g_iMo rfl rfl rfl (hG (.initialized zn_Mo) (zt_in 6 (by decide +kernel) rfl)) (hG (.methodLink R_law 12 zy_iMo) (zt_in 573 (by decide +kernel) rfl)) (hG (.instanceMethod zy_iMo) (zt_in 574 (by decide +kernel) rfl)) rfl (by decide +kernel) ⟨Nat.le_of_ble_eq_true rfl, Nat.le_of_ble_eq_true rfl⟩) ⟨q_cblind, fun U hU hW => ⟨rfl, by rw [hU], by rw [hU]; exact hPm, va_K.moved hW.alike hK, hDm.weaken (fun _ _ _ _ => trivial)⟩⟩ rfl rfl hl.1 rfl (lv_room (Nat.le_of_ble_eq_true rfl)) dl_12 ⟨Nat.le_of_ble_eq_true rfl, Nat.le_of_ble_eq_true rfl⟩) hS (fun q _ h => hFc q h) hFc (fun ub t2 H2 locs2 ht2 hvm2 hw2 hB2 hz2 hk2 hS2 => ?_)
  obtain ⟨hP2, hD2⟩ := hB2
  rw [ht2] at hP2
  obtain ⟨hP3, hD3⟩ := q_joinL hP hD hk2 hFc hP2 hD2
  refine W.widen (k := 77) (n := 1890) (Nat.le_of_ble_eq_true rfl) (Nat.le_of_ble_eq_true rfl) ?_
  refine lv_astore_n (lv' := [(2, .ref q1), (1, .ref q0), (0, .ref b)]) hx hb dl_15 rfl hl (by decide) rfl (fun ls hl => ?_)
  refine lv_iconst (v := 0) hx hb dl_16 (by decide) ?_
  refine lv_istore_n (lv' := [(3, .int 0), (2, .ref q1), (1, .ref q0), (0, .ref b)]) hx hb dl_17 rfl hl (by decide) rfl (fun ls hl => ?_)
  obtain ⟨X, eX⟩ : ∃ X : zX, X = q_X l dC dI ua ub cI cZ tr := ⟨_, rfl⟩
  have hP4 : va_P (zx_D X) zc_cl (zs_ws X q_M0) H2 := by rw [eX, q_ws0]; exact hP3
  have hD4 : va_D (fun q : Nat => s.heap.size ≤ q) (zs_ws X q_M0) := by rw [eX, q_ws0]; exact hD3
  obtain ⟨hinj, hAs⟩ := lw_inj hD4
  have hz : zk X s := by
    refine ⟨by rw [eX]; exact hK, hN3, ?_, ?_, hinj⟩
    · have h := va_Z.narrow hTZ hAs
      have e1 : zx_t X = tr := by rw [eX]; rfl
      rw [e1]
      exact h
    · have h := va_T.narrow hTT hAs
      have e1 : zx_t X = tr := by rw [eX]; rfl
      rw [e1]
      exact h
  have hbA : ¬ zA X b := fun h => absurd (hAs b h) (Nat.not_le.mpr hbl)
  have ea : zx_a X 0 = q0 := by rw [eX]; exact hw
  have eb : zx_a X 53 = q1 := by rw [eX]; exact hw2
  have el : zx_l X = l := by rw [eX]; rfl
  refine va_forget (fun q hq => hS2.2.2 q hq) ?_
  have hS5 : va_S (zA X) s.heap H2 [] := ⟨hS2.1, fun q h1 h2 => hS2.2.1 q h1 (Nat.not_le.mpr h1), fun q h => by cases h⟩
  have key := lw_loop (X := X) (e := e) (below := below) C0 hz hbA hAs hL (L + 1) 0 H2 [] ls (Nat.zero_le L) (by omega) ⟨q_M0, q_S0, fun _ => 0, q_S0_ws, q_rC0, q_rM0, hP4, hS5⟩ (by rw [ea, eb]; exact lv_sub hl [3, 2, 1, 0] rfl)
  rw [el] at key
  exact key
set_option maxHeartbeats 4000000 in
theorem lw_walk (l : Launch) (b : Addr) (xs : List Int32) : MetFree l x (headSpec (Jvm.Cond.code x code maxLocals ret :: tables_1) room_1) (lw_P b xs) (fun _ _ _ _ _ => True) lw_Q := by
  refine MetFree.of_bodyS (code := code) (maxLocals := maxLocals) (ret := ret) (by decide) ?_ ?_
  · intro args s m h hn
    obtain ⟨meth, c, h1, h2, h3, h4, h5, h6, -, -⟩ := Cond.code_spec hn (atoms_spec (ws := Jvm.Cond.code x code maxLocals ret :: tables_1) h _ List.mem_cons_self)
    exact ⟨meth, c, h1, h2, h3, h4, h5, h6⟩
  · intro p e s m args below meth c s₁ B hml0 hP _
    obtain ⟨rfl, hx, hbd, hgv⟩ := hP
    obtain ⟨scr, harrAt, hlist, hof, hsmall⟩ := hx
    obtain ⟨hcb, hkn, -, -⟩ := State.arrayAt?_spec harrAt
    have hown : s.vm.findClass R_law = some m.cls := findClass_of_methodNamed B.named
    have hts0 : ∀ c ∈ (Jvm.Cond.code x code maxLocals ret :: tables_1), c.before #[Value.ref b] s = true := atoms_spec (ws := Jvm.Cond.code x code maxLocals ret :: tables_1) B.pre
    have hts : ∀ w ∈ lw_tbl, w.before #[Value.ref b] s = true := k2_hts_sels lw_privs (fun w hw => hts0 w (List.mem_cons_of_mem _ hw)) lw_privs_ok
    have hml : c.maxLocals = 4 := B.maxLocals_eq (hts0 _ List.mem_cons_self)
    have X₀ : Stand p l e room_1 s m #[Value.ref b] below meth c s₁ [] 0 0 := Stand.of_body B
    have hh0 : s₁.heap = s.heap := by rw [B.state]; rfl
    have hsz : scr.slots.size = xs.length := by rw [← Array.length_toList, hlist, List.length_map]
    have hval : ∀ j : Nat, j < xs.length → scr.slots[j]? = some (.int (xs.getD j 0)) := fun j hj => by
      rw [← Array.getElem?_toList, hlist]
      simp [hj]
    have hbl : b < s.heap.size := (Array.getElem?_eq_some_iff.mp hcb).1
    have hX : va_X b xs.length (fun j => xs.getD j 0) s s.heap := ⟨scr, hcb, hof, hkn, hsz, hval⟩
    have K : W p l e room_1 s m #[Value.ref b] below meth c s₁.heap [] 0 0 (lw_Z below #[Value.ref b] s) (entryFrame m ([Value.ref b] : List Value).toArray 4) := by
      rw [hh0]
      exact whole_start l hbd ⟨B.exec, B.bytes, B.returns, hml, hown, hts, hX, hbl, B.notSynchronized, hgv⟩
    obtain ⟨t, a1, o, b1, b2, b3⟩ := K s₁ rfl X₀
    exact ⟨t, o, a1, b1, b2, b3⟩
theorem lw_pre_spec {args : Array Value} {s : State} (h : (Jvm.Cond.and given_1 narrow_1).before args s = true) (hr : rest_1_c.before args s = true) : ∃ (b : Addr) (xs : List Int32), lw_P b xs args s := by
  have hs := flat_of_before _ h
  have hq := flat_of_before _ hr
  have hc : (Cond.count 1).before args s = true := hs _ (by decide +kernel)
  have harr : (Cond.arrayOf (.arg 0) .int).before args s = true := hs _ (by decide +kernel)
  have hle : (Cond.le (.length (.arg 0)) (.int 3072)).before args s = true := hs _ (by decide +kernel)
  have hlen : (Cond.isInt (.length (.arg 0))).before args s = true := hq _ (by decide +kernel)
  have hall : (Cond.all (.arg 0) (.isInt (.elem (.arg 0) (.index 0)))).before args s = true := hq _ (by decide +kernel)
  obtain ⟨b, xs, hb, hx⟩ := State.ints_of_pre rfl harr hlen hall
  have hsm : xs.length < 2 ^ 31 := hx.choose_spec.2.2.2
  have hev : (Term.length (.arg 0)).eval args s none [] s = some (.int xs.length.toInt32) := hx.length_eval hb
  have hv := Cond.le_ints hev (show (Term.int 3072).eval args s none [] s = some (.int 3072) from rfl)
  have hd : xs.length.toInt32 ≤ 3072 := by
    simpa [Cond.before, Cond.holds, hv] using hle
  have hN : xs.length ≤ 3072 := (Int32.ofNat_le_ofNat hsm (by decide)).mp (show Int32.ofNat xs.length ≤ Int32.ofNat 3072 from hd)
  exact ⟨b, xs, Cond.one_arg hc (show args[0]? = some (.ref b) from hb), hx, hN, h⟩
theorem lw_comes (l : Launch) : Comes l x (Jvm.Cond.code x code maxLocals ret :: tables_1) room_1 (fun tb e args s => Calls_1 tb e args s ∧ rest_1 tb e args s ∧ Pre_1 tb e args s)
    (fun _ _ args s o t => lw_Q args s o t) := by
  intro p e ha hc hk s m args below hf hfit hheap happ hpre
  obtain ⟨b, xs, hP⟩ := lw_pre_spec hpre.2.2 hpre.2.1
  obtain ⟨k, o, h1, h2, h3, hQ⟩ := lw_walk l b xs p e ha hc hk s m args below hf ((Spec.applies_iff_loose hf).mp happ).1 hP trivial
  exact ⟨k, o, h1, h2, h3, hQ⟩
theorem lw_frame {s t : State} {o : Outcome} {args : Array Value} (h : Framed s o t [] 77 1890) :
    Framed s o t (fieldLocs frame_1_writes args s ++ arrayLocs frame_1_arrays args s ++ staticLocs frame_1_statics s) 77 1890 := h
theorem lw_limb (L : Cond) (hL : ∀ (args : Array Value) (s t : State), L.after args s (.returned (some (.int 1))) t = true) :
    ArmFor flags0 classFile x code maxLocals ret World_1 tables_1 room_1 Calls_1 rest_1 Pre_1
      (fun tb e a s o t => postC L tb e a s o t ∧ Framed s o t (fieldLocs frame_1_writes a s ++ arrayLocs frame_1_arrays a s ++ staticLocs frame_1_statics s) 77 1890) := by
  intro l _ _ _ p e ha hc hk s m args below hf hfit hheap happ hpre
  obtain ⟨k, o, h1, h2, h3, rfl, hF⟩ := lw_comes l p e ha hc hk s m args below hf hfit hheap happ hpre
  exact ⟨k, _, h1, h2, h3, hL args s _, lw_frame hF⟩
theorem i_vc : Claimed_1_1 ∧ Claimed_1_2 := ⟨lw_limb limb_1_1 (fun args s t => by simp [limb_1_1, Cond.after, Cond.holds, Cond.value]), lw_limb limb_1_2 (fun args s t => Cond.after_iff.mpr (by
  first | (rw [show limb_1_2 = Cond.eq .result (.int 1) from rfl, Cond.eq_ints (x := 1) (y := 1) rfl rfl]; simp; done) | (simp [limb_1_2, Cond.value, Term.eval]; done)))⟩

