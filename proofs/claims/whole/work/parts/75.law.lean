/-! THE CLAIM OUT OF ONE WALK OF THE LAW'S BODY. Your part is whole_start (and what it stands on); all else here is the same for every law, but numbers. -/
def R_law : String := "FoolVotesLaw"
def lw_P (b : Addr) (xs : List Int32) (args : Array Value) (s : State) : Prop := args = #[.ref b] ∧ s.IntsAt b xs ∧ xs.length ≤ 3072 ∧ (Jvm.Cond.and given_1 narrow_1).before args s = true
def lw_Q (_ : Array Value) (s : State) (o : Outcome) (t : State) : Prop := o = .returned (some (.int 1)) ∧ Framed s o t [] 77 1890
def lw_Z (below : List Frame) (a : Array Value) (s : State) : State → Prop := fun t => ∃ o, t.status = .running ∧ Ended t below o ∧ lw_Q a s o t
/-- the law's own end, with 1 on the stack, nothing written that was there before, its room as the claim has it -/
theorem lw_ret {p : Program} {l : Launch} {e : Env} {s : State} {m : MethodId} {below : List Frame} {meth : Method} {c : Code} {b : Nat} (hx : p.tables.exec = Jvm.exec) (hb : c.code = code) (hr : meth.sig.returnType = ret) (hlocks : meth.locks = false) {pc : Nat} {H : Heap} {ls : Array Slot} (hdg : decode code pc = .ok (.ireturn, 1)) : W p l e room_1 s m #[Value.ref b] below meth c H [] 77 1890 (lw_Z below #[Value.ref b] s) (F0 m pc ls [.int 1]) := by
  intro T hT X
  obtain ⟨fs, hret, hrun, hended, hW, hframe⟩ := X.leave (v := some (.int 1)) (hlocks := hlocks) (fun h => by rw [hr] at h; cases h)
  have hmeth' : T.vm.method? m = some meth := X.method'
  refine ⟨T.setFrames fs, ?_, .returned (some (.int 1)), hrun, hended, rfl, ⟨_, rfl⟩, hW, hframe⟩
  jvm_step X.here [X.here.top, hx, hb, hdg, hmeth', hr, ret, narrow_b1]
  (try refine ⟨rfl, ?_⟩); (try refine ⟨rfl, ?_⟩)
  first | (intro acts; rw [hret _ acts rfl rfl rfl]) | rw [hret _ _ rfl rfl rfl]
  exact Steps.refl _
/-- what holds at the law's entry: the machine, the code, the tables' words (any of lw_tbl by 'hts w (by decide +kernel)'), the script of L ints xs at the cell b, what the Statement gives of the start (any of its parts by flat_of_before) -/
def lw_At (p : Program) (s : State) (m : MethodId) (meth : Method) (c : Code) (b L : Nat) (xs : Nat → Int32) : Prop :=
  p.tables.exec = Jvm.exec ∧ c.code = code ∧ meth.sig.returnType = ret ∧ c.maxLocals = 4 ∧ s.vm.findClass R_law = some m.cls ∧ (∀ w ∈ lw_tbl, w.before #[Value.ref b] s = true) ∧ va_X b L xs s s.heap ∧ b < s.heap.size ∧ meth.locks = false ∧ (Jvm.Cond.and given_1 narrow_1).before #[Value.ref b] s = true
/-! THE LAW'S OWN ROWS -/
/-- between two calls: both objects hold one state -/
def lw_I (X : zX) (s : State) (H : Heap) (locs : List Loc) : Prop := ∃ (M : zM) (S : q_N) (it : Nat → Int32), q_ws S ∧ q_rC M S it ∧ q_rM M S it ∧ va_P (zx_D X) zc_cl (zs_ws X M) H ∧ va_S (zA X) s.heap H locs
def la_ok (pc : Nat) (n : Int) : Prop := decode code pc = .ok (.aload_n 0, 1) ∧ decode code (pc + 1) = .ok (.iload_n 3, 1) ∧ decode code (pc + 1 + 1) = .ok (.iconst n, 1) ∧ decode code (pc + 1 + 1 + 1) = .ok (.iadd, 1) ∧ decode code (pc + 1 + 1 + 1 + 1) = .ok (.iaload, 1)
theorem lw_arg {X : zX} {p : Program} {e : Env} {s : State} {m : MethodId} {below : List Frame} {meth : Method} {c : Code} {b L i : Nat} {xs : Nat → Int32} {H : Heap} {locs : List Loc} {ls : Array Slot} {Q : State → Prop} {x1 x2 pc : Nat} {rest : List Value} {l : Launch} (C0 : lw_At p s m meth c b L xs) (hbA : ¬ zA X b) (hS : va_S (zA X) s.heap H locs) (hl : lv_has ls 4 [(0, .ref b), (1, .ref x1), (2, .ref x2), (3, .int (nI i))]) (hi : i + 6 ≤ L) (hL : L ≤ 3072) {j : Nat} {n : Int} (hj : j < 6) (hn : Int32.ofInt n = nI j) (hd : la_ok pc n)
    (kk : W p l e room_1 s m #[Value.ref b] below meth c H locs 77 1890 Q (F0 m (pc + 5) ls (.int (xs (i + j)) :: rest))) : W p l e room_1 s m #[Value.ref b] below meth c H locs 77 1890 Q (F0 m pc ls rest) := by
  obtain ⟨hx, hb, hr, hml, hown, hts, hX, hbl, hlocks, hgv⟩ := C0
  obtain ⟨d0, d1, d2, d3, d4⟩ := hd
  refine lv_aload_n hx hb d0 rfl (lv_at hl 0 rfl) ?_
  refine lv_iload_n hx hb d1 rfl (lv_at hl 3 rfl) ?_
  refine lv_iconst (v := nI j) hx hb d2 hn ?_
  refine lv_iadd hx hb d3 ?_
  rw [nI_add]
  refine va_sld hx hb hX hbl hbA hS (q_in (by omega) (by omega)) d4 ?_
  rw [q_cl (by omega)]
  exact kk
theorem zcall_go2 {X : zX} {p : Program} {e : Env} {R : Room} {s : State} {m : MethodId} {args : Array Value} {below : List Frame} {meth : Method} {c : Code} {H : Heap} {locs : List Loc} {ls : Array Slot} {Q : State → Prop} {pc cells slots : Nat} {st0 rest : List Value} {a : Array Value} {r : Value} {M1 : zM}
    (hr : va_Run p (zx_l X) e R s m args below meth c H locs cells slots 0 0 (F0 m pc ls st0) rest (zQ X [r] M1 a) (zA X)) (hS : va_S (zA X) s.heap H locs)
    (kk : ∀ (H1 : Heap) (locs1 : List Loc), va_P (zx_D X) zc_cl (zs_ws X M1) H1 → va_S (zA X) s.heap H1 locs1 → W p (zx_l X) e R s m args below meth c H1 locs1 cells slots Q (F0 m (pc + 3) ls (zv X r :: rest))) : W p (zx_l X) e R s m args below meth c H locs cells slots Q (F0 m pc ls st0) := by
  intro T hT XX
  obtain ⟨v, st₀, t, T', Lc, h0, X', hL, e1, e2, ⟨hlen, hv, hw, hz, hk⟩, st⟩ := hr T hT XX
  have hv' : v = some (zv X r) := Outcome.returned.inj hv
  subst hv'
  rw [h0] at hz hk
  obtain ⟨t2, a1, b1⟩ := kk T'.heap (locs ++ Lc) (by rw [e1]; exact hw.1) ⟨Nat.le_trans hS.1 (by rw [e1]; exact hz), fun q h1 h2 => by rw [e1, hk q (Nat.lt_of_lt_of_le h1 hS.1) h2]; exact hS.2.1 q h1 h2, fun q hq => by
      rcases List.mem_append.mp hq with h | h
      · exact hS.2.2 q h
      · exact hL q h⟩ T' rfl X'
  exact ⟨t2, st t2 a1, b1⟩
theorem lw_G {args : Array Value} {s : State} (hts : ∀ w ∈ lw_tbl, w.before args s = true) : ∀ w ∈ zt_G, w.before args s = true := fun w h => hts w (List.mem_filter.mp h).1
theorem lw_call {X : zX} {p : Program} {e : Env} {s : State} {m : MethodId} {below : List Frame} {meth : Method} {c : Code} {b L : Nat} {xs : Nat → Int32} {H : Heap} {locs : List Loc} {ls : Array Slot} {Q : State → Prop} {pc j x bb : Nat} {As rest : List Value} {r : Value} {M M1 : zM} {o : Nat × List (Option Nat)} (C0 : lw_At p s m meth c b L xs) (hz : zk X s) (hP : va_P (zx_D X) zc_cl (zs_ws X M) H) (hSt : va_S (zA X) s.heap H locs) (hls : ls.size = 4) (hm : Cond.methodLink R_law x (hY j) ∈ zt_G) (hst : hS j = false) (hn : As.length + 1 = hN j) (ho6 : hO j < 6) (hs : zs_sh[bb]? = some (.inr o)) (ho : o.1 = hO j) (hRm : hF j + 1 ≤ 11 ∧ 8 + (hL j + 11) + hW j ≤ 440) (hd : decode code pc = .ok (.invokevirtual x, 3)) (hc : (rest.map fun v => v.category).sum ≤ 8) (hC : Call X j (.ref bb :: As) M [r] M1)
    (kk : ∀ (H1 : Heap) (locs1 : List Loc), va_P (zx_D X) zc_cl (zs_ws X M1) H1 → va_S (zA X) s.heap H1 locs1 → W p (zx_l X) e room_1 s m #[Value.ref b] below meth c H1 locs1 77 1890 Q (F0 m (pc + 3) ls (zv X r :: rest))) : W p (zx_l X) e room_1 s m #[Value.ref b] below meth c H locs 77 1890 Q (F0 m pc ls ((As.map (zv X)).reverse ++ .ref (zx_a X bb) :: rest)) := by
  obtain ⟨hx, hb, hr, hml, hown, hts, hX, hbl, hlocks, hgv⟩ := C0
  have hG := lw_G hts
  obtain ⟨f1, f2, f3, f4, f5, f6, f7, f8⟩ := zh_fact j
  have hst' : ¬ ((zh j).2.2.2.2.2.1 = true) := fun q => absurd (hst.symm.trans q) (by decide)
  have hn' : (zh j).2.2.2.2.2.2.1 = As.length + 1 := hn.symm
  rw [if_neg hst'] at f3
  rw [if_neg hst', hn', Nat.add_sub_cancel] at f8
  have hGo : GoodIn zt_G (wsV R_law x (hY j).cls (hY j) (zws j)) := by
    intro w hw
    have hg : w ∈ zt_G := by
      rcases List.mem_append.mp hw with h1 | h1
      · simp only [List.mem_cons, List.not_mem_nil, or_false] at h1
        rcases h1 with rfl | rfl | rfl | rfl
        · exact hm
        · exact f3.1
        · exact f3.2
        · exact f2
      · rcases List.mem_cons.mp h1 with rfl | h2
        · exact f1
        · exact h2
    exact ⟨hg, zt_good w hg⟩
  have he := zs_at (X := X) (M := M) hs
  simp only [zs_cell] at he
  have hrc := va_recv hz.1 hP (zc_at o.1 (by rw [ho]; exact ho6)) he
  have hcn : (zl_Fc o.1).1 = (hY j).cls := by rw [zn_at o.1 (by rw [ho]; exact ho6), ho]; exact f5.symm
  dsimp only at hrc
  rw [hcn] at hrc
  exact zcall_go2 (r := r) (M1 := M1) (va_runV (As := As.map (zv X)) (rest := rest) (ws := zws j) (rm := zrm j) (bytes := hB j) (maxL := hL j) (ret := hR j) (C := (hY j).cls) (b := zx_a X bb) ⟨hx, hb, hml, hown, hG⟩ hC (cwV As.length hG hGo rfl rfl rfl ⟨rfl, f6, f7, f8⟩ hRm) ⟨zblind _ _, hrc, fun U hU hW => ⟨rfl, zw_in hz hP hSt hU hW⟩⟩ rfl (by rw [List.length_map]) hls rfl (lv_room hc) hd ⟨Nat.le_refl _, Nat.le_refl _⟩) hSt kk
