/-! CONSTRUCTORS -/
theorem q_gI {y : MethodName} {b : ByteArray} {n : Nat} (h : Cond.code y b n none ∈ zt_G) : GoodIn zt_G (Cond.code y b n none :: zt_G) := by
  intro w hw
  have hg : w ∈ zt_G := by
    rcases List.mem_cons.mp hw with rfl | h1
    · exact h
    · exact h1
  exact ⟨hg, zt_good w hg⟩
def q_cpre (D : va_G) (cI cZ : ClassId) (sz : Nat) (ws : va_W) (U : State) : Prop := U.heap.size = sz ∧ va_P D zc_cl ws U.heap ∧ va_K D zc_cl [(cI, .int), (cZ, .boolean)] U ∧ va_D (fun _ => True) ws
def q_cpost (D : va_G) (A : Nat → Prop) (wf : (Nat → Nat) → va_W) (u : Nat → Nat) (t : State) : Prop := va_P D zc_cl (wf u) t.heap ∧ va_D A (wf u)
theorem q_cblind {D : va_G} {cI cZ : ClassId} {sz : Nat} {ws : va_W} {as : List Value} : FrameBlind (va_Pc as (q_cpre D cI cZ sz ws)) := fun a U g mk q => by
  obtain ⟨q0, q1, qP, qK, qD⟩ := q
  exact ⟨q0, q1, qP, va_K.moved (u := U) (U := U.calling g mk a) (Vm.Alike.refl U.vm) qK, qD⟩
section NA
variable {p : Program} {l : Launch} {e : Env} {R : Room} {s : State} {m : MethodId} {args : Array Value} {below : List Frame} {meth : Method} {c : Code} {H : Heap} {locs : List Loc} {cells slots : Nat} {Q : State → Prop}
variable {cc : ByteArray} {pc : Nat} {ls : Array Slot} {rest : List Value} {D : va_G} {cl : List vw_C} {A : Nat → Prop} {ws : va_W} {H0 : Heap} {cI cZ : ClassId}
theorem q_newaI (hexec : p.tables.exec = Jvm.exec) (hb : c.code = cc) (harr : (Cond.arrayClass .int).before args s = true) (hK : va_K D cl [(cI, .int), (cZ, .boolean)] s) (hP : va_P D cl ws H) (hD : va_D A ws) (hS : va_S A H0 H locs) (hA : ∀ q, H0.size ≤ q → A q)
    {n : Int32} {N' : Nat} {a0 : vp_A} (ha : ∀ cA : ClassId, vp_cell cA a0 = arrV cA N' (fun _ => defaultValue .int)) (hn : ¬ n < 0) (hN : n.toNatClampNeg = N') (hbytes : N' * componentBytes .int ≤ 536870912) (hcells : cells + 1 ≤ R.cells) (hslots : slots + N' ≤ R.slots) (hdg : decode cc pc = .ok (.newarray .int, 2))
    (kk : ∀ (q : Nat) (H1 : Heap), va_P D cl (ws ++ [(q, .inl (cI, a0))]) H1 → va_D A (ws ++ [(q, .inl (cI, a0))]) → va_S A H0 H1 locs →
      W p l e R s m args below meth c H1 locs (cells + 1) (slots + N') Q (F0 m (pc + 2) ls (.ref q :: rest))) : W p l e R s m args below meth c H locs cells slots Q (F0 m pc ls (.int n :: rest)) :=
  va_newa (atype := .int) (ty := .int) (tys := [(cI, .int), (cZ, .boolean)]) hexec hb harr rfl hK hP hD hS hA ha hn hN hbytes hcells hslots hdg (fun q cA H1 hK1 hP1 hD1 hS1 => by
    have e1 : s.vm.findClass ("[" ++ FieldType.int.toString) = some cA := (hK1.2 2 _ rfl).2
    have e2 : s.vm.findClass ("[" ++ FieldType.int.toString) = some cI := (hK.2 0 _ rfl).2
    have e : cA = cI := Option.some.inj (e1.symm.trans e2)
    subst e
    exact kk q H1 hP1 hD1 hS1)
theorem q_newaZ (hexec : p.tables.exec = Jvm.exec) (hb : c.code = cc) (harr : (Cond.arrayClass .boolean).before args s = true) (hK : va_K D cl [(cI, .int), (cZ, .boolean)] s) (hP : va_P D cl ws H) (hD : va_D A ws) (hS : va_S A H0 H locs) (hA : ∀ q, H0.size ≤ q → A q)
    {n : Int32} {N' : Nat} {a0 : vp_A} (ha : ∀ cA : ClassId, vp_cell cA a0 = arrV cA N' (fun _ => defaultValue .boolean)) (hn : ¬ n < 0) (hN : n.toNatClampNeg = N') (hbytes : N' * componentBytes .boolean ≤ 536870912) (hcells : cells + 1 ≤ R.cells) (hslots : slots + N' ≤ R.slots) (hdg : decode cc pc = .ok (.newarray .boolean, 2))
    (kk : ∀ (q : Nat) (H1 : Heap), va_P D cl (ws ++ [(q, .inl (cZ, a0))]) H1 → va_D A (ws ++ [(q, .inl (cZ, a0))]) → va_S A H0 H1 locs →
      W p l e R s m args below meth c H1 locs (cells + 1) (slots + N') Q (F0 m (pc + 2) ls (.ref q :: rest))) : W p l e R s m args below meth c H locs cells slots Q (F0 m pc ls (.int n :: rest)) :=
  va_newa (atype := .boolean) (ty := .boolean) (tys := [(cI, .int), (cZ, .boolean)]) hexec hb harr rfl hK hP hD hS hA ha hn hN hbytes hcells hslots hdg (fun q cA H1 hK1 hP1 hD1 hS1 => by
    have e1 : s.vm.findClass ("[" ++ FieldType.boolean.toString) = some cA := (hK1.2 2 _ rfl).2
    have e2 : s.vm.findClass ("[" ++ FieldType.boolean.toString) = some cZ := (hK.2 1 _ rfl).2
    have e : cA = cZ := Option.some.inj (e1.symm.trans e2)
    subst e
    exact kk q H1 hP1 hD1 hS1)
end NA
/-- the last cell alone; the others beside what became of it -/
theorem q_sufL {D : va_G} {cl : List vw_C} {A0 : Nat → Prop} {W0 : va_W} {c : Nat × va_E} {H : Heap} (hP : va_P D cl (W0 ++ [c]) H) (hD : va_D A0 (W0 ++ [c])) : va_P D cl [c] H ∧ va_D A0 [c] := by
  have e : (W0 ++ [c])[W0.length]? = some c := by rw [List.getElem?_append_right (Nat.le_refl _), Nat.sub_self]; rfl
  have h1 : ∀ (k : Nat) (q : Nat × va_E), [c][k]? = some q → k = 0 ∧ q = c := by
    intro k q hk
    have hz : k < 1 := (List.getElem?_eq_some_iff.mp hk).1
    have hk0 : k = 0 := by omega
    subst hk0
    exact ⟨rfl, (Option.some.inj hk).symm⟩
  refine ⟨fun k q hk => ?_, fun i j x y hi hj _ => ?_, fun k q hk => ?_⟩
  · rw [(h1 k q hk).2]
    exact hP _ _ e
  · rw [(h1 i x hi).1, (h1 j y hj).1]
  · rw [(h1 k q hk).2]
    exact hD.2 _ _ e
theorem q_freeL {A0 : Nat → Prop} {W0 : va_W} {c : Nat × va_E} {H0 H : Heap} {locs : List Loc} (hD : va_D A0 (W0 ++ [c])) (hS : va_S A0 H0 H locs) (hA : ∀ q, H0.size ≤ q → A0 q) : ∀ q, va_A [c] H.size q → A0 q := by
  have e : (W0 ++ [c])[W0.length]? = some c := by rw [List.getElem?_append_right (Nat.le_refl _), Nat.sub_self]; rfl
  exact va_free (wc := [c]) hD hS hA [W0.length] (by rw [List.map_cons, List.map_nil, e]; rfl)
theorem q_joinL {D : va_G} {cl : List vw_C} {A0 : Nat → Prop} {W0 w1 : va_W} {c : Nat × va_E} {H H1 : Heap} (hP : va_P D cl (W0 ++ [c]) H) (hD : va_D A0 (W0 ++ [c])) (hk : ∀ q : Nat, q < H.size → ¬ va_A [c] H.size q → H1[q]? = H[q]?) (hF : ∀ q, va_A [c] H.size q → A0 q) (hP1 : va_P D cl w1 H1) (hD1 : va_D (va_A [c] H.size) w1) : va_P D cl (W0 ++ w1) H1 ∧ va_D A0 (W0 ++ w1) := by
  have e : (W0 ++ [c])[W0.length]? = some c := by rw [List.getElem?_append_right (Nat.le_refl _), Nat.sub_self]; rfl
  have hl : ∀ (k : Nat) (q : Nat × va_E), W0[k]? = some q → k < W0.length ∧ (W0 ++ [c])[k]? = some q := fun k q hk => by
    have h := (List.getElem?_eq_some_iff.mp hk).1
    exact ⟨h, by rw [List.getElem?_append_left h]; exact hk⟩
  have apart : ∀ (k : Nat) (q : Nat × va_E), W0[k]? = some q → q.1 < H.size ∧ ¬ va_A [c] H.size q.1 := by
    intro k q hq
    obtain ⟨g1, g2⟩ := hl k q hq
    have hlt := (hP k q g2).lt
    refine ⟨hlt, fun h => ?_⟩
    rcases h with ⟨k2, e2, h⟩ | h
    · have hz : k2 < 1 := (List.getElem?_eq_some_iff.mp h).1
      have hk0 : k2 = 0 := by omega
      subst hk0
      have hc : c = (q.1, e2) := Option.some.inj h
      have := hD.1 k W0.length q c g2 e (by rw [hc])
      omega
    · omega
  refine ⟨va_P.app (fun k q hq => ?_) hP1, va_D.app ⟨fun i j x y hx hy hxy => hD.1 i j x y (hl i x hx).2 (hl j y hy).2 hxy, fun k q hq => hD.2 k q (hl k q hq).2⟩ (hD1.weaken (fun k q _ h => hF q.1 h)) (fun i j x y hx hy hxy => ?_)⟩
  · obtain ⟨g1, g2⟩ := apart k q hq
    exact (hP k q (hl k q hq).2).kept (hk q.1 g1 g2)
  · exact (apart i x hx).2 (by rw [hxy]; exact hD1.2 j y hy)
def zy_iTe : MethodName := ⟨zn_Te, "<init>", "([I)V"⟩
abbrev b_iTe : ByteArray := prog_4_method_1_code
theorem d_iTe_0 : decode b_iTe 0 = .ok (.aload_n 0, 1) := by decide +kernel
theorem d_iTe_1 : decode b_iTe 1 = .ok (.invokespecial 1, 3) := by decide +kernel
theorem d_iTe_4 : decode b_iTe 4 = .ok (.aload_n 0, 1) := by decide +kernel
theorem d_iTe_5 : decode b_iTe 5 = .ok (.aload_n 1, 1) := by decide +kernel
theorem d_iTe_6 : decode b_iTe 6 = .ok (.putfield 7, 3) := by decide +kernel
theorem d_iTe_9 : decode b_iTe 9 = .ok (.return_, 1) := by decide +kernel
abbrev zb_Te : List Value := [.null, .int 0]
theorem zD_Te : ∀ j, j < 2 → defaultValue (zy_Te j) = vp_V zb_Te j
  | 0, _ => rfl
  | 1, _ => rfl
  | j + 2, h => absurd h (by omega)
theorem g_iTe : GoodIn zt_G (Cond.code zy_iTe b_iTe 2 none :: zt_G) := q_gI (zt_in 23 (by decide +kernel) rfl)
def zy_iCa : MethodName := ⟨zn_Ca, "<init>", "()V"⟩
abbrev b_iCa : ByteArray := prog_2_method_1_code
theorem d_iCa_0 : decode b_iCa 0 = .ok (.aload_n 0, 1) := by decide +kernel
theorem d_iCa_1 : decode b_iCa 1 = .ok (.invokespecial 3, 3) := by decide +kernel
theorem d_iCa_4 : decode b_iCa 4 = .ok (.aload_n 0, 1) := by decide +kernel
theorem d_iCa_5 : decode b_iCa 5 = .ok (.bipush 8, 2) := by decide +kernel
theorem d_iCa_7 : decode b_iCa 7 = .ok (.newarray .int, 2) := by decide +kernel
theorem d_iCa_9 : decode b_iCa 9 = .ok (.putfield 9, 3) := by decide +kernel
theorem d_iCa_12 : decode b_iCa 12 = .ok (.aload_n 0, 1) := by decide +kernel
theorem d_iCa_13 : decode b_iCa 13 = .ok (.bipush 8, 2) := by decide +kernel
theorem d_iCa_15 : decode b_iCa 15 = .ok (.newarray .int, 2) := by decide +kernel
theorem d_iCa_17 : decode b_iCa 17 = .ok (.putfield 15, 3) := by decide +kernel
theorem d_iCa_20 : decode b_iCa 20 = .ok (.aload_n 0, 1) := by decide +kernel
theorem d_iCa_21 : decode b_iCa 21 = .ok (.bipush 8, 2) := by decide +kernel
theorem d_iCa_23 : decode b_iCa 23 = .ok (.newarray .int, 2) := by decide +kernel
theorem d_iCa_25 : decode b_iCa 25 = .ok (.putfield 18, 3) := by decide +kernel
theorem d_iCa_28 : decode b_iCa 28 = .ok (.aload_n 0, 1) := by decide +kernel
theorem d_iCa_29 : decode b_iCa 29 = .ok (.bipush 8, 2) := by decide +kernel
theorem d_iCa_31 : decode b_iCa 31 = .ok (.newarray .int, 2) := by decide +kernel
theorem d_iCa_33 : decode b_iCa 33 = .ok (.putfield 21, 3) := by decide +kernel
theorem d_iCa_36 : decode b_iCa 36 = .ok (.aload_n 0, 1) := by decide +kernel
theorem d_iCa_37 : decode b_iCa 37 = .ok (.bipush 12, 2) := by decide +kernel
theorem d_iCa_39 : decode b_iCa 39 = .ok (.newarray .int, 2) := by decide +kernel
theorem d_iCa_41 : decode b_iCa 41 = .ok (.putfield 24, 3) := by decide +kernel
theorem d_iCa_44 : decode b_iCa 44 = .ok (.aload_n 0, 1) := by decide +kernel
theorem d_iCa_45 : decode b_iCa 45 = .ok (.bipush 12, 2) := by decide +kernel
theorem d_iCa_47 : decode b_iCa 47 = .ok (.newarray .int, 2) := by decide +kernel
theorem d_iCa_49 : decode b_iCa 49 = .ok (.putfield 27, 3) := by decide +kernel
theorem d_iCa_52 : decode b_iCa 52 = .ok (.aload_n 0, 1) := by decide +kernel
theorem d_iCa_53 : decode b_iCa 53 = .ok (.bipush 12, 2) := by decide +kernel
theorem d_iCa_55 : decode b_iCa 55 = .ok (.newarray .int, 2) := by decide +kernel
theorem d_iCa_57 : decode b_iCa 57 = .ok (.putfield 30, 3) := by decide +kernel
theorem d_iCa_60 : decode b_iCa 60 = .ok (.aload_n 0, 1) := by decide +kernel
theorem d_iCa_61 : decode b_iCa 61 = .ok (.bipush 8, 2) := by decide +kernel
theorem d_iCa_63 : decode b_iCa 63 = .ok (.newarray .int, 2) := by decide +kernel
theorem d_iCa_65 : decode b_iCa 65 = .ok (.putfield 33, 3) := by decide +kernel
theorem d_iCa_68 : decode b_iCa 68 = .ok (.aload_n 0, 1) := by decide +kernel
theorem d_iCa_69 : decode b_iCa 69 = .ok (.bipush 8, 2) := by decide +kernel
theorem d_iCa_71 : decode b_iCa 71 = .ok (.newarray .int, 2) := by decide +kernel
theorem d_iCa_73 : decode b_iCa 73 = .ok (.putfield 36, 3) := by decide +kernel
theorem d_iCa_76 : decode b_iCa 76 = .ok (.aload_n 0, 1) := by decide +kernel
theorem d_iCa_77 : decode b_iCa 77 = .ok (.bipush 8, 2) := by decide +kernel
theorem d_iCa_79 : decode b_iCa 79 = .ok (.newarray .int, 2) := by decide +kernel
theorem d_iCa_81 : decode b_iCa 81 = .ok (.putfield 39, 3) := by decide +kernel
theorem d_iCa_84 : decode b_iCa 84 = .ok (.return_, 1) := by decide +kernel
abbrev zb_Ca : List Value := [.int 0, .null, .null, .null, .null, .int 0, .null, .null, .null, .int 0, .null, .null, .null, .int 0, .int 0]
theorem zD_Ca : ∀ j, j < 15 → defaultValue (zy_Ca j) = vp_V zb_Ca j
  | 0, _ => rfl
  | 1, _ => rfl
  | 2, _ => rfl
  | 3, _ => rfl
  | 4, _ => rfl
  | 5, _ => rfl
  | 6, _ => rfl
  | 7, _ => rfl
  | 8, _ => rfl
  | 9, _ => rfl
  | 10, _ => rfl
  | 11, _ => rfl
  | 12, _ => rfl
  | 13, _ => rfl
  | 14, _ => rfl
  | j + 15, h => absurd h (by omega)
theorem g_iCa : GoodIn zt_G (Cond.code zy_iCa b_iCa 1 none :: zt_G) := q_gI (zt_in 38 (by decide +kernel) rfl)
def zy_iVo : MethodName := ⟨zn_Vo, "<init>", "()V"⟩
abbrev b_iVo : ByteArray := prog_5_method_1_code
theorem d_iVo_0 : decode b_iVo 0 = .ok (.aload_n 0, 1) := by decide +kernel
theorem d_iVo_1 : decode b_iVo 1 = .ok (.invokespecial 3, 3) := by decide +kernel
theorem d_iVo_4 : decode b_iVo 4 = .ok (.aload_n 0, 1) := by decide +kernel
theorem d_iVo_5 : decode b_iVo 5 = .ok (.bipush 96, 2) := by decide +kernel
theorem d_iVo_7 : decode b_iVo 7 = .ok (.newarray .int, 2) := by decide +kernel
theorem d_iVo_9 : decode b_iVo 9 = .ok (.putfield 9, 3) := by decide +kernel
theorem d_iVo_12 : decode b_iVo 12 = .ok (.aload_n 0, 1) := by decide +kernel
theorem d_iVo_13 : decode b_iVo 13 = .ok (.bipush 12, 2) := by decide +kernel
theorem d_iVo_15 : decode b_iVo 15 = .ok (.newarray .int, 2) := by decide +kernel
theorem d_iVo_17 : decode b_iVo 17 = .ok (.putfield 15, 3) := by decide +kernel
theorem d_iVo_20 : decode b_iVo 20 = .ok (.aload_n 0, 1) := by decide +kernel
theorem d_iVo_21 : decode b_iVo 21 = .ok (.bipush 12, 2) := by decide +kernel
theorem d_iVo_23 : decode b_iVo 23 = .ok (.newarray .int, 2) := by decide +kernel
theorem d_iVo_25 : decode b_iVo 25 = .ok (.putfield 18, 3) := by decide +kernel
theorem d_iVo_28 : decode b_iVo 28 = .ok (.aload_n 0, 1) := by decide +kernel
theorem d_iVo_29 : decode b_iVo 29 = .ok (.bipush 12, 2) := by decide +kernel
theorem d_iVo_31 : decode b_iVo 31 = .ok (.newarray .int, 2) := by decide +kernel
theorem d_iVo_33 : decode b_iVo 33 = .ok (.putfield 21, 3) := by decide +kernel
theorem d_iVo_36 : decode b_iVo 36 = .ok (.aload_n 0, 1) := by decide +kernel
theorem d_iVo_37 : decode b_iVo 37 = .ok (.bipush 8, 2) := by decide +kernel
theorem d_iVo_39 : decode b_iVo 39 = .ok (.newarray .int, 2) := by decide +kernel
theorem d_iVo_41 : decode b_iVo 41 = .ok (.putfield 24, 3) := by decide +kernel
theorem d_iVo_44 : decode b_iVo 44 = .ok (.aload_n 0, 1) := by decide +kernel
theorem d_iVo_45 : decode b_iVo 45 = .ok (.bipush 8, 2) := by decide +kernel
theorem d_iVo_47 : decode b_iVo 47 = .ok (.newarray .int, 2) := by decide +kernel
theorem d_iVo_49 : decode b_iVo 49 = .ok (.putfield 27, 3) := by decide +kernel
theorem d_iVo_52 : decode b_iVo 52 = .ok (.aload_n 0, 1) := by decide +kernel
theorem d_iVo_53 : decode b_iVo 53 = .ok (.bipush 8, 2) := by decide +kernel
theorem d_iVo_55 : decode b_iVo 55 = .ok (.newarray .int, 2) := by decide +kernel
theorem d_iVo_57 : decode b_iVo 57 = .ok (.putfield 30, 3) := by decide +kernel
theorem d_iVo_60 : decode b_iVo 60 = .ok (.aload_n 0, 1) := by decide +kernel
theorem d_iVo_61 : decode b_iVo 61 = .ok (.bipush 8, 2) := by decide +kernel
theorem d_iVo_63 : decode b_iVo 63 = .ok (.newarray .int, 2) := by decide +kernel
theorem d_iVo_65 : decode b_iVo 65 = .ok (.putfield 33, 3) := by decide +kernel
theorem d_iVo_68 : decode b_iVo 68 = .ok (.return_, 1) := by decide +kernel
abbrev zb_Vo : List Value := [.null, .null, .null, .null, .int 0, .int 0, .null, .null, .null, .null, .int 0, .int 0, .int 0]
theorem zD_Vo : ∀ j, j < 13 → defaultValue (zy_Vo j) = vp_V zb_Vo j
  | 0, _ => rfl
  | 1, _ => rfl
  | 2, _ => rfl
  | 3, _ => rfl
  | 4, _ => rfl
  | 5, _ => rfl
  | 6, _ => rfl
  | 7, _ => rfl
  | 8, _ => rfl
  | 9, _ => rfl
  | 10, _ => rfl
  | 11, _ => rfl
  | 12, _ => rfl
  | j + 13, h => absurd h (by omega)
theorem g_iVo : GoodIn zt_G (Cond.code zy_iVo b_iVo 1 none :: zt_G) := q_gI (zt_in 116 (by decide +kernel) rfl)
def zy_iSh : MethodName := ⟨zn_Sh, "<init>", "()V"⟩
abbrev b_iSh : ByteArray := prog_3_method_1_code
theorem d_iSh_0 : decode b_iSh 0 = .ok (.aload_n 0, 1) := by decide +kernel
theorem d_iSh_1 : decode b_iSh 1 = .ok (.invokespecial 3, 3) := by decide +kernel
theorem d_iSh_4 : decode b_iSh 4 = .ok (.aload_n 0, 1) := by decide +kernel
theorem d_iSh_5 : decode b_iSh 5 = .ok (.iconst 4, 1) := by decide +kernel
theorem d_iSh_6 : decode b_iSh 6 = .ok (.newarray .int, 2) := by decide +kernel
theorem d_iSh_8 : decode b_iSh 8 = .ok (.putfield 9, 3) := by decide +kernel
theorem d_iSh_11 : decode b_iSh 11 = .ok (.aload_n 0, 1) := by decide +kernel
theorem d_iSh_12 : decode b_iSh 12 = .ok (.iconst 4, 1) := by decide +kernel
theorem d_iSh_13 : decode b_iSh 13 = .ok (.newarray .int, 2) := by decide +kernel
theorem d_iSh_15 : decode b_iSh 15 = .ok (.putfield 15, 3) := by decide +kernel
theorem d_iSh_18 : decode b_iSh 18 = .ok (.aload_n 0, 1) := by decide +kernel
theorem d_iSh_19 : decode b_iSh 19 = .ok (.sipush 240, 3) := by decide +kernel
theorem d_iSh_22 : decode b_iSh 22 = .ok (.newarray .int, 2) := by decide +kernel
theorem d_iSh_24 : decode b_iSh 24 = .ok (.putfield 18, 3) := by decide +kernel
theorem d_iSh_27 : decode b_iSh 27 = .ok (.iconst 0, 1) := by decide +kernel
theorem d_iSh_28 : decode b_iSh 28 = .ok (.istore_n 1, 1) := by decide +kernel
theorem d_iSh_29 : decode b_iSh 29 = .ok (.iload_n 1, 1) := by decide +kernel
theorem d_iSh_30 : decode b_iSh 30 = .ok (.iconst 4, 1) := by decide +kernel
theorem d_iSh_31 : decode b_iSh 31 = .ok (.if_icmp .ge 16, 3) := by decide +kernel
theorem d_iSh_34 : decode b_iSh 34 = .ok (.aload_n 0, 1) := by decide +kernel
theorem d_iSh_35 : decode b_iSh 35 = .ok (.getfield 15, 3) := by decide +kernel
theorem d_iSh_38 : decode b_iSh 38 = .ok (.iload_n 1, 1) := by decide +kernel
theorem d_iSh_39 : decode b_iSh 39 = .ok (.iconst (-1), 1) := by decide +kernel
theorem d_iSh_40 : decode b_iSh 40 = .ok (.iastore, 1) := by decide +kernel
theorem d_iSh_41 : decode b_iSh 41 = .ok (.iinc 1 1, 3) := by decide +kernel
theorem d_iSh_44 : decode b_iSh 44 = .ok (.goto (-15), 3) := by decide +kernel
theorem d_iSh_47 : decode b_iSh 47 = .ok (.return_, 1) := by decide +kernel
abbrev zb_Sh : List Value := [.null, .null, .null]
theorem zD_Sh : ∀ j, j < 3 → defaultValue (zy_Sh j) = vp_V zb_Sh j
  | 0, _ => rfl
  | 1, _ => rfl
  | 2, _ => rfl
  | j + 3, h => absurd h (by omega)
theorem g_iSh : GoodIn zt_G (Cond.code zy_iSh b_iSh 2 none :: zt_G) := q_gI (zt_in 172 (by decide +kernel) rfl)
