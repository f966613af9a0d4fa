/-! CALLS -/
theorem zblind {X : zX} (as : List Value) (M : zM) : FrameBlind (va_Pc as (zw X M)) := fun a U g mk h => ⟨h.1, h.2.1, zk_same rfl rfl h.2.2⟩
theorem zw_in {X : zX} {M : zM} {s U : State} {H : Heap} {locs : List Loc} (hk : zk X s) (hP : va_P (zx_D X) zc_cl (zs_ws X M) H) (hS : va_S (zA X) s.heap H locs) (hU : U.heap = H) (hW : s.WarmedH U.vm) : zw X M U :=
  ⟨by rw [hU]; exact hP, zk_warm hW (fun a h1 h2 => by rw [hU]; exact hS.2.1 a h1 h2) hk⟩
theorem zcall_go {X : zX} {p : Program} {e : Env} {R : Room} {s : State} {m : MethodId} {args : Array Value} {below : List Frame} {meth : Method} {c : Code} {H : Heap} {locs : List Loc} {ls : Array Slot} {Q : State → Prop} {pc : Nat} {st0 rest : List Value} {a : Array Value} {r : List Value} {M1 : zM}
    (hr : va_Run p (zx_l X) e R s m args below meth c H locs 0 0 0 0 (F0 m pc ls st0) rest (zQ X r M1 a) (zA X)) (hS : va_S (zA X) s.heap H locs)
    (kk : ∀ (H1 : Heap) (locs1 : List Loc), va_P (zx_D X) zc_cl (zs_ws X M1) H1 → va_S (zA X) s.heap H1 locs1 → W p (zx_l X) e R s m args below meth c H1 locs1 0 0 Q (F0 m (pc + 3) ls (r.map (zv X) ++ rest))) : W p (zx_l X) e R s m args below meth c H locs 0 0 Q (F0 m pc ls st0) := by
  intro T hT XX
  obtain ⟨v, st₀, t, T', Lc, h0, X', hL, e1, e2, ⟨hlen, hv, hw, hz, hk⟩, st⟩ := hr T hT XX
  have hv' : v = (r.map (zv X)).head? := Outcome.returned.inj hv
  have e3 : v.toList = r.map (zv X) := by
    rw [hv']
    match r, hlen with
    | [], _ => rfl
    | [x], _ => rfl
    | x :: y :: l, h => exact absurd h (by simp)
  rw [h0] at hz hk
  obtain ⟨t2, a1, b1⟩ := kk T'.heap (locs ++ Lc) (by rw [e1]; exact hw.1) ⟨Nat.le_trans hS.1 (by rw [e1]; exact hz), fun q h1 h2 => by rw [e1, hk q (Nat.lt_of_lt_of_le h1 hS.1) h2]; exact hS.2.1 q h1 h2, fun q hq => by
      rcases List.mem_append.mp hq with h | h
      · exact hS.2.2 q h
      · exact hL q h⟩ T' rfl X'
  rw [← e3] at a1
  exact ⟨t2, st t2 a1, b1⟩
theorem zl_Ms {k x j : Nat} (hm : zl_M.any (fun q => decide (q.1 = hO k ∧ q.2.1 = x ∧ q.2.2.1 = j)) = true) : Cond.methodLink (zn_c (hO k)) x (hY j) ∈ zt_G := by
  obtain ⟨q, hq, hm⟩ := List.any_eq_true.mp hm
  obtain ⟨e1, e2, e3⟩ := of_decide_eq_true hm
  have h1 := zt_in _ (zl_Mok q hq) rfl
  rw [e1, e2, e3] at h1
  exact h1
section ST4
variable {X : zX} {k pc : Nat} {L : List (Option Value)} {S : List Value} {M M1 M' : zM} {res r : List Value}
theorem st_callS {j x : Nat} {As : List Value} (hm : zl_M.any (fun q => decide (q.1 = hO k ∧ q.2.1 = x ∧ q.2.2.1 = j)) = true) (hst : hS j = true) (hn : As.length = hN j) (hRm : hF j + 1 ≤ hF k ∧ 8 + (hL j + 11) + hW j ≤ hW k) (hd : decode (hB k) pc = .ok (.invokestatic x, 3)) (hc : zcats S ≤ 8) (hC : Call X j As M r M1) (h : At X k (pc + 3) L (r ++ S) M1 res M') : At X k pc L (As.reverse ++ S) M res M' := by
  intro p e s m args below meth c H locs ls hz hP hSt hLo
  obtain ⟨f1, f2, f3, f4, f5, f6, f7, f8⟩ := zh_fact j
  rw [if_pos hst] at f3
  rw [if_pos hst, Nat.sub_zero] at f8
  have hts := hz.2.2.2.2.2.2.1
  have hG : GoodIn (zws k) (va_wsS (zn_c (hO k)) x (hY j) (zws j)) := by
    intro w hw
    rcases List.mem_append.mp hw with h1 | h1
    · simp only [List.mem_cons, List.not_mem_nil, or_false] at h1
      rcases h1 with rfl | rfl | rfl
      · exact zG_in (zl_Ms hm)
      · exact zG_in f3
      · exact zG_in f2
    · exact zG_good k j w h1
  refine zcall_go (r := r) (M1 := M1) (va_runS (As := As.map (zv X)) (rest := S.map (zv X)) (ws := zws j) (rm := zrm j) (bytes := hB j) (maxL := hL j) (ret := hR j) ⟨hz.1, hz.2.1, hz.2.2.2.2.1, hz.2.2.2.2.2.1, hts⟩ hC (va_cwS (hN j) hts hG rfl rfl rfl ⟨f6, f7, f8⟩ hRm) ⟨zblind _ _, fun U hU hW => ⟨rfl, zw_in hz.2.2.2.2.2.2.2 hP hSt hU hW⟩⟩ rfl (by rw [List.length_map]; exact hn) hLo.1 (by show (As.reverse ++ S).map (zv X) = _; rw [List.map_append, List.map_reverse]) (lv_room (by rw [zcats_map]; exact hc)) hd ⟨Nat.le_refl _, Nat.le_refl _⟩) hSt (fun H1 locs1 hP1 hS1 => ?_)
  rw [← List.map_append]
  exact h p e s m args below meth c H1 locs1 ls hz hP1 hS1 hLo
theorem st_callV {j x b : Nat} {As : List Value} {o : Nat × List (Option Nat)} (hm : zl_M.any (fun q => decide (q.1 = hO k ∧ q.2.1 = x ∧ q.2.2.1 = j)) = true) (hst : hS j = false) (hn : As.length + 1 = hN j) (ho6 : hO j < 6) (hs : zs_sh[b]? = some (.inr o)) (ho : o.1 = hO j) (hRm : hF j + 1 ≤ hF k ∧ 8 + (hL j + 11) + hW j ≤ hW k) (hd : decode (hB k) pc = .ok (.invokevirtual x, 3)) (hc : zcats S ≤ 8) (hC : Call X j (.ref b :: As) M r M1) (h : At X k (pc + 3) L (r ++ S) M1 res M') : At X k pc L ((.ref b :: As).reverse ++ S) M res M' := by
  intro p e s m args below meth c H locs ls hz hP hSt hLo
  obtain ⟨f1, f2, f3, f4, f5, f6, f7, f8⟩ := zh_fact j
  have hst' : ¬ ((zh j).2.2.2.2.2.1 = true) := fun q => absurd (hst.symm.trans q) (by decide)
  have hn' : (zh j).2.2.2.2.2.2.1 = As.length + 1 := hn.symm
  rw [if_neg hst'] at f3
  rw [if_neg hst', hn', Nat.add_sub_cancel] at f8
  have hts := hz.2.2.2.2.2.2.1
  have hG : GoodIn (zws k) (wsV (zn_c (hO k)) x (hY j).cls (hY j) (zws j)) := by
    intro w hw
    rcases List.mem_append.mp hw with h1 | h1
    · simp only [List.mem_cons, List.not_mem_nil, or_false] at h1
      rcases h1 with rfl | rfl | rfl | rfl
      · exact zG_in (zl_Ms hm)
      · exact zG_in f3.1
      · exact zG_in f3.2
      · exact zG_in f2
    · exact zG_good k j w h1
  have he := zs_at (X := X) (M := M) hs
  simp only [zs_cell] at he
  have hrc := va_recv hz.2.2.2.2.2.2.2.1 hP (zc_at o.1 (by rw [ho]; exact ho6)) he
  have hcn : (zl_Fc o.1).1 = (hY j).cls := by rw [zn_at o.1 (by rw [ho]; exact ho6), ho]; exact f5.symm
  dsimp only at hrc
  rw [hcn] at hrc
  refine zcall_go (r := r) (M1 := M1) (va_runV (As := As.map (zv X)) (rest := S.map (zv X)) (ws := zws j) (rm := zrm j) (bytes := hB j) (maxL := hL j) (ret := hR j) (C := (hY j).cls) (b := zx_a X b) ⟨hz.1, hz.2.1, hz.2.2.2.2.1, hz.2.2.2.2.2.1, hts⟩ hC (cwV As.length hts hG rfl rfl rfl ⟨rfl, f6, f7, f8⟩ hRm) ⟨zblind _ _, hrc, fun U hU hW => ⟨rfl, zw_in hz.2.2.2.2.2.2.2 hP hSt hU hW⟩⟩ rfl (by rw [List.length_map]) hLo.1 (by show ((Value.ref b :: As).reverse ++ S).map (zv X) = _; simp [zv]) (lv_room (by rw [zcats_map]; exact hc)) hd ⟨Nat.le_refl _, Nat.le_refl _⟩) hSt (fun H1 locs1 hP1 hS1 => ?_)
  rw [← List.map_append]
  exact h p e s m args below meth c H1 locs1 ls hz hP1 hS1 hLo
theorem st_callN {As : List Value} (ho4 : hO k = 4) (hn : As.length = 2) (hRm : hF 7 + 1 ≤ hF k ∧ 8 + (hL 7 + 11) + hW 7 ≤ hW k) (hd : decode (hB k) pc = .ok (.invokestatic 100, 3)) (hc : zcats S ≤ 8) (hC : Call X 7 As M r M1) (h : At X k (pc + 3) L (r ++ S) M1 res M') : At X k pc L (As.reverse ++ S) M res M' := by
  intro p e s m args below meth c H locs ls hz hP hSt hLo
  obtain ⟨f1, f2, f3, f4, f5, f6, f7, f8⟩ := zh_fact 7
  rw [if_pos (show (zh 7).2.2.2.2.2.1 = true from rfl)] at f3
  have hts := hz.2.2.2.2.2.2.1
  have hown := hz.2.2.2.2.2.1
  rw [ho4] at hown
  refine zcall_go (r := r) (M1 := M1) (va_runSN (As := As.map (zv X)) (rest := S.map (zv X)) (ws := zws 7) (rm := zrm 7) (bytes := hB 7) (maxL := hL 7) (ret := hR 7) (own := "FoolVotes$Votes") (host := "FoolVotes") ⟨hz.1, hz.2.1, hz.2.2.2.2.1, hown, hts⟩ hC ⟨va_cnB 2 hts (zG_good k 7) rfl rfl rfl hz.2.2.2.2.2.2.2.2.1 (zG_before hts f2) ⟨f6, f7, f8⟩ hRm, zG_before hts f3, trivial⟩ ⟨zblind _ _, fun U hU hW => ⟨rfl, zw_in hz.2.2.2.2.2.2.2 hP hSt hU hW⟩⟩ rfl (by rw [List.length_map]; exact hn) hLo.1 (by show (As.reverse ++ S).map (zv X) = _; rw [List.map_append, List.map_reverse]) (lv_room (by rw [zcats_map]; exact hc)) hd ⟨Nat.le_refl _, Nat.le_refl _⟩) hSt (fun H1 locs1 hP1 hS1 => ?_)
  rw [← List.map_append]
  exact h p e s m args below meth c H1 locs1 ls hz hP1 hS1 hLo
end ST4
