/-! THE REAL MACHINE FOLLOWS A STEP -/
def zl_ps (X : zX) (L : List (Option Value)) : List (Nat × Value) := (List.range L.length).filterMap (fun j => match L[j]? with
  | some (some v) => some (j, zv X v)
  | _ => none)
theorem zl_ps_mem {X : zX} {L : List (Option Value)} {j : Nat} {w : Value} (h : L[j]? = some (some w)) : (j, zv X w) ∈ zl_ps X L := by
  refine List.mem_filterMap.mpr ⟨j, List.mem_range.mpr (List.getElem?_eq_some_iff.mp h).1, ?_⟩
  rw [h]
theorem zl_ps_has {X : zX} {ls : Array Slot} {nL : Nat} {L : List (Option Value)} (h : zL X ls nL L) : lv_has ls nL (zl_ps X L) := by
  refine ⟨h.1, h.2.1, fun q hq => ?_⟩
  obtain ⟨j, -, hj⟩ := List.mem_filterMap.mp hq
  split at hj
  · rename_i v hv
    cases hj
    exact h.2.2 j v hv
  · cases hj
theorem zl_clr_s {L : List (Option Value)} {i j : Nat} {w : Value} (h : (zl_clr L i)[j]? = some (some w)) : L[j]? = some (some w) ∧ ¬ (j = i ∧ w.category = 2) := by
  unfold zl_clr at h
  split at h
  · rename_i u hu
    split at h
    · rename_i hc
      by_cases hj : i = j
      · subst hj
        rw [List.getElem?_set_self (List.getElem?_eq_some_iff.mp hu).1] at h
        cases h
      · rw [List.getElem?_set_ne hj] at h
        exact ⟨h, fun q => hj q.1.symm⟩
    · rename_i hc
      refine ⟨h, fun q => hc ?_⟩
      obtain ⟨rfl, hw⟩ := q
      rw [hu] at h
      cases h
      exact hw
  · rename_i hn
    refine ⟨h, fun q => ?_⟩
    obtain ⟨rfl, hw⟩ := q
    exact hn w h
theorem zl_set_s {L : List (Option Value)} {i j : Nat} {v w : Value} (h : (zl_set L i v)[j]? = some (some w)) : (j = i ∧ w = v) ∨ (j ≠ i ∧ L[j]? = some (some w) ∧ ¬ (j + 1 = i ∧ w.category = 2)) := by
  cases i with
  | zero =>
    by_cases hj : 0 = j
    · subst hj
      have hl : 0 < L.length := by
        have := (List.getElem?_eq_some_iff.mp h).1
        simpa [zl_set] using this
      rw [zl_set, List.getElem?_set_self hl] at h
      cases h
      exact Or.inl ⟨rfl, rfl⟩
    · rw [zl_set, List.getElem?_set_ne hj] at h
      exact Or.inr ⟨fun q => hj q.symm, h, fun q => by omega⟩
  | succ i =>
    by_cases hj : i + 1 = j
    · subst hj
      have hl : i + 1 < (zl_clr L i).length := by
        have := (List.getElem?_eq_some_iff.mp h).1
        simpa [zl_set] using this
      rw [zl_set, List.getElem?_set_self hl] at h
      cases h
      exact Or.inl ⟨rfl, rfl⟩
    · rw [zl_set, List.getElem?_set_ne hj] at h
      obtain ⟨h1, h2⟩ := zl_clr_s h
      exact Or.inr ⟨fun q => hj q.symm, h1, fun q => h2 ⟨by omega, q.2⟩⟩
theorem zl_has1 {X : zX} {ls : Array Slot} {nL i : Nat} {L : List (Option Value)} {v : Value} (h : lv_has ls nL ((i, zv X v) :: (zl_ps X L).filter (fun q => !(q.1 == i) && !(q.1 + 1 == i && q.2.category == 2)))) : zL X ls nL (zl_set L i v) := by
  refine ⟨h.1, h.2.1, fun j w hj => ?_⟩
  rcases zl_set_s hj with ⟨rfl, rfl⟩ | ⟨h1, h2, h3⟩
  · exact h.2.2 _ List.mem_cons_self
  · refine h.2.2 (j, zv X w) (List.mem_cons_of_mem _ (List.mem_filter.mpr ⟨zl_ps_mem h2, ?_⟩))
    simp only [zv_cat, Bool.and_eq_true, Bool.not_eq_true', beq_eq_false_iff_ne, ne_eq, Bool.and_eq_false_imp, beq_iff_eq]
    exact ⟨h1, fun q r => h3 ⟨q, r⟩⟩
theorem zl_has2 {X : zX} {ls : Array Slot} {nL i : Nat} {L : List (Option Value)} {v : Value} (h : lv_has ls nL ((i, zv X v) :: (zl_ps X L).filter (fun q => !(q.1 == i) && (!(q.1 == i + 1) && !(q.1 + 1 == i && q.2.category == 2))))) : zL X ls nL (zl_set2 L i v) := by
  refine ⟨h.1, h.2.1, fun j w hj => ?_⟩
  have hne : i + 1 ≠ j := by
    intro q
    subst q
    unfold zl_set2 at hj
    have hl := (List.getElem?_eq_some_iff.mp hj).1
    rw [List.getElem?_set_self (by simpa using hl)] at hj
    cases hj
  rw [zl_set2, List.getElem?_set_ne hne] at hj
  rcases zl_set_s hj with ⟨rfl, rfl⟩ | ⟨h1, h2, h3⟩
  · exact h.2.2 _ List.mem_cons_self
  · refine h.2.2 (j, zv X w) (List.mem_cons_of_mem _ (List.mem_filter.mpr ⟨zl_ps_mem h2, ?_⟩))
    simp only [zv_cat, Bool.and_eq_true, Bool.not_eq_true', beq_eq_false_iff_ne, ne_eq, Bool.and_eq_false_imp, beq_iff_eq]
    exact ⟨h1, fun q => hne q.symm, fun q r => h3 ⟨q, r⟩⟩
theorem zl_forget {X : zX} {ls : Array Slot} {nL i : Nat} {L : List (Option Value)} (h : zL X ls nL L) : zL X ls nL (L.set i none) := by
  refine ⟨h.1, h.2.1, fun j w hj => h.2.2 j w ?_⟩
  by_cases hi : i = j
  · subst hi
    have hl := (List.getElem?_eq_some_iff.mp hj).1
    rw [List.getElem?_set_self (by simpa using hl)] at hj
    cases hj
  · rw [List.getElem?_set_ne hi] at hj
    exact hj
theorem zI_all : ∀ c, c < 6 → ∀ w ∈ u_ws (zl_Fc c).1 (zl_Fc c).2.1 (zl_Fc c).2.2, w ∈ zt_G
  | 0, _ => zI_Fv
  | 1, _ => zI_Ca
  | 2, _ => zI_Sh
  | 3, _ => zI_Te
  | 4, _ => zI_Vo
  | 5, _ => zI_Mo
  | c + 6, h => absurd h (by omega)
def zy_c (c : Nat) : Nat → FieldType := match c with
  | 0 => zy_Fv
  | 1 => zy_Ca
  | 2 => zy_Sh
  | 3 => zy_Te
  | 4 => zy_Vo
  | _ => zy_Mo
theorem zY_all : ∀ c, c < 6 → ∀ k, k < (zl_Fc c).2.2 → parseFieldDescriptor ((zl_Fc c).2.1 k).2.2.1 = some (zy_c c k)
  | 0, _ => zY_Fv
  | 1, _ => zY_Ca
  | 2, _ => zY_Sh
  | 3, _ => zY_Te
  | 4, _ => zY_Vo
  | 5, _ => zY_Mo
  | c + 6, h => absurd h (by omega)
theorem zN_all : ∀ c, c < 6 → ∀ a, a < (zl_Fc c).2.2 → ∀ b, b < (zl_Fc c).2.2 → a ≠ b → ((zl_Fc c).2.1 a).2.1 ≠ ((zl_Fc c).2.1 b).2.1
  | 0, _ => zN_Fv
  | 1, _ => zN_Ca
  | 2, _ => zN_Sh
  | 3, _ => zN_Te
  | 4, _ => zN_Vo
  | 5, _ => zN_Mo
  | c + 6, h => absurd h (by omega)
theorem zc_at : ∀ c, c < 6 → zc_cl[c]? = some ((zl_Fc c).1, (zl_Fc c).2.1, (zl_Fc c).2.2)
  | 0, _ => rfl
  | 1, _ => rfl
  | 2, _ => rfl
  | 3, _ => rfl
  | 4, _ => rfl
  | 5, _ => rfl
  | c + 6, h => absurd h (by omega)
theorem zn_at : ∀ c, c < 6 → (zl_Fc c).1 = zn_c c
  | 0, _ => rfl
  | 1, _ => rfl
  | 2, _ => rfl
  | 3, _ => rfl
  | 4, _ => rfl
  | 5, _ => rfl
  | c + 6, h => absurd h (by omega)
theorem zG_before {k : Nat} {args : Array Value} {s : State} (h : ∀ w ∈ zws k, w.before args s = true) {w : Cond} (hw : w ∈ zt_G) : w.before args s = true := h w (List.mem_cons_of_mem _ hw)
theorem zG_good (k j : Nat) : GoodIn (zws k) (zws j) := by
  intro w hw
  have hg : w ∈ zt_G := by
    rcases List.mem_cons.mp hw with rfl | h
    · exact (zh_fact j).1
    · exact h
  exact ⟨List.mem_cons_of_mem _ hg, zt_good w hg⟩
theorem zG_in {k : Nat} {w : Cond} (h : w ∈ zt_G) : w ∈ zws k ∧ ((w.onTables && w.keeps) = true ∨ ∃ ty, w = .arrayClass ty) := ⟨List.mem_cons_of_mem _ h, zt_good w h⟩
section ST
variable {X : zX} {k pc : Nat} {L : List (Option Value)} {S : List Value} {M M' : zM} {res : List Value}
theorem st_iadd {x y : Int32} (hd : decode (hB k) pc = .ok (.iadd, 1)) (h : At X k (pc + 1) L (.int (x + y) :: S) M res M') : At X k pc L (.int y :: .int x :: S) M res M' := by
  intro p e s m args below meth c H locs ls hz hP hS hL
  exact lv_iadd hz.1 hz.2.1 hd (h p e s m args below meth c H locs ls hz hP hS hL)
theorem st_isub {x y : Int32} (hd : decode (hB k) pc = .ok (.isub, 1)) (h : At X k (pc + 1) L (.int (x - y) :: S) M res M') : At X k pc L (.int y :: .int x :: S) M res M' := by
  intro p e s m args below meth c H locs ls hz hP hS hL
  exact lv_isub hz.1 hz.2.1 hd (h p e s m args below meth c H locs ls hz hP hS hL)
theorem st_imul {x y : Int32} (hd : decode (hB k) pc = .ok (.imul, 1)) (h : At X k (pc + 1) L (.int (x * y) :: S) M res M') : At X k pc L (.int y :: .int x :: S) M res M' := by
  intro p e s m args below meth c H locs ls hz hP hS hL
  exact lv_imul hz.1 hz.2.1 hd (h p e s m args below meth c H locs ls hz hP hS hL)
theorem st_iand {x y : Int32} (hd : decode (hB k) pc = .ok (.iand, 1)) (h : At X k (pc + 1) L (.int (x &&& y) :: S) M res M') : At X k pc L (.int y :: .int x :: S) M res M' := by
  intro p e s m args below meth c H locs ls hz hP hS hL
  exact lv_iand hz.1 hz.2.1 hd (h p e s m args below meth c H locs ls hz hP hS hL)
theorem st_ior {x y : Int32} (hd : decode (hB k) pc = .ok (.ior, 1)) (h : At X k (pc + 1) L (.int (x ||| y) :: S) M res M') : At X k pc L (.int y :: .int x :: S) M res M' := by
  intro p e s m args below meth c H locs ls hz hP hS hL
  exact lv_ior hz.1 hz.2.1 hd (h p e s m args below meth c H locs ls hz hP hS hL)
theorem st_ixor {x y : Int32} (hd : decode (hB k) pc = .ok (.ixor, 1)) (h : At X k (pc + 1) L (.int (x ^^^ y) :: S) M res M') : At X k pc L (.int y :: .int x :: S) M res M' := by
  intro p e s m args below meth c H locs ls hz hP hS hL
  exact lv_ixor hz.1 hz.2.1 hd (h p e s m args below meth c H locs ls hz hP hS hL)
theorem st_ishl {x y : Int32} (hd : decode (hB k) pc = .ok (.ishl, 1)) (h : At X k (pc + 1) L (.int (x <<< (y &&& 31)) :: S) M res M') : At X k pc L (.int y :: .int x :: S) M res M' := by
  intro p e s m args below meth c H locs ls hz hP hS hL
  exact lv_ishl hz.1 hz.2.1 hd (h p e s m args below meth c H locs ls hz hP hS hL)
theorem st_ishr {x y : Int32} (hd : decode (hB k) pc = .ok (.ishr, 1)) (h : At X k (pc + 1) L (.int (x >>> (y &&& 31)) :: S) M res M') : At X k pc L (.int y :: .int x :: S) M res M' := by
  intro p e s m args below meth c H locs ls hz hP hS hL
  exact lv_ishr hz.1 hz.2.1 hd (h p e s m args below meth c H locs ls hz hP hS hL)
theorem st_iushr {x y : Int32} (hd : decode (hB k) pc = .ok (.iushr, 1)) (h : At X k (pc + 1) L (.int ((x.toUInt32 >>> (y.toUInt32 &&& Int32.toUInt32 31)).toInt32) :: S) M res M') : At X k pc L (.int y :: .int x :: S) M res M' := by
  intro p e s m args below meth c H locs ls hz hP hS hL
  exact lv_iushr hz.1 hz.2.1 hd rfl (h p e s m args below meth c H locs ls hz hP hS hL)
theorem st_idiv {x y : Int32} (hd : decode (hB k) pc = .ok (.idiv, 1)) (hne : ¬ y = 0) (h : At X k (pc + 1) L (.int (x / y) :: S) M res M') : At X k pc L (.int y :: .int x :: S) M res M' := by
  intro p e s m args below meth c H locs ls hz hP hS hL
  exact lv_idiv hz.1 hz.2.1 hd hne (h p e s m args below meth c H locs ls hz hP hS hL)
theorem st_irem {x y : Int32} (hd : decode (hB k) pc = .ok (.irem, 1)) (hne : ¬ y = 0) (h : At X k (pc + 1) L (.int (x - x / y * y) :: S) M res M') : At X k pc L (.int y :: .int x :: S) M res M' := by
  intro p e s m args below meth c H locs ls hz hP hS hL
  exact lv_irem hz.1 hz.2.1 hd hne (h p e s m args below meth c H locs ls hz hP hS hL)
theorem st_ladd {x y : Int64} (hd : decode (hB k) pc = .ok (.ladd, 1)) (h : At X k (pc + 1) L (.long (x + y) :: S) M res M') : At X k pc L (.long y :: .long x :: S) M res M' := by
  intro p e s m args below meth c H locs ls hz hP hS hL
  exact lv_ladd hz.1 hz.2.1 hd (h p e s m args below meth c H locs ls hz hP hS hL)
theorem st_lsub {x y : Int64} (hd : decode (hB k) pc = .ok (.lsub, 1)) (h : At X k (pc + 1) L (.long (x - y) :: S) M res M') : At X k pc L (.long y :: .long x :: S) M res M' := by
  intro p e s m args below meth c H locs ls hz hP hS hL
  exact lv_lsub hz.1 hz.2.1 hd (h p e s m args below meth c H locs ls hz hP hS hL)
theorem st_lmul {x y : Int64} (hd : decode (hB k) pc = .ok (.lmul, 1)) (h : At X k (pc + 1) L (.long (x * y) :: S) M res M') : At X k pc L (.long y :: .long x :: S) M res M' := by
  intro p e s m args below meth c H locs ls hz hP hS hL
  exact lv_lmul hz.1 hz.2.1 hd (h p e s m args below meth c H locs ls hz hP hS hL)
theorem st_ldiv {x y : Int64} (hd : decode (hB k) pc = .ok (.ldiv, 1)) (hne : ¬ y = 0) (h : At X k (pc + 1) L (.long (x / y) :: S) M res M') : At X k pc L (.long y :: .long x :: S) M res M' := by
  intro p e s m args below meth c H locs ls hz hP hS hL
  exact lv_ldiv hz.1 hz.2.1 hd hne (h p e s m args below meth c H locs ls hz hP hS hL)
theorem st_lrem {x y : Int64} (hd : decode (hB k) pc = .ok (.lrem, 1)) (hne : ¬ y = 0) (h : At X k (pc + 1) L (.long (x - x / y * y) :: S) M res M') : At X k pc L (.long y :: .long x :: S) M res M' := by
  intro p e s m args below meth c H locs ls hz hP hS hL
  exact lv_lrem hz.1 hz.2.1 hd hne (h p e s m args below meth c H locs ls hz hP hS hL)
theorem st_lcmp {x y : Int64} (hd : decode (hB k) pc = .ok (.lcmp, 1)) (h : At X k (pc + 1) L (.int (lg_cmp x y) :: S) M res M') : At X k pc L (.long y :: .long x :: S) M res M' := by
  intro p e s m args below meth c H locs ls hz hP hS hL
  exact W.lcmp hz.1 hz.2.1 hd (h p e s m args below meth c H locs ls hz hP hS hL)
theorem st_lshl {x : Int64} {y : Int32} (hd : decode (hB k) pc = .ok (.lshl, 1)) (h : At X k (pc + 1) L (.long (x <<< (y.toInt64 &&& 63)) :: S) M res M') : At X k pc L (.int y :: .long x :: S) M res M' := by
  intro p e s m args below meth c H locs ls hz hP hS hL
  exact lv_lshl hz.1 hz.2.1 hd rfl (h p e s m args below meth c H locs ls hz hP hS hL)
theorem st_ineg {x : Int32} (hd : decode (hB k) pc = .ok (.ineg, 1)) (h : At X k (pc + 1) L (.int (-x) :: S) M res M') : At X k pc L (.int x :: S) M res M' := by
  intro p e s m args below meth c H locs ls hz hP hS hL
  exact lv_ineg hz.1 hz.2.1 hd (h p e s m args below meth c H locs ls hz hP hS hL)
theorem st_i2l {x : Int32} (hd : decode (hB k) pc = .ok (.i2l, 1)) (h : At X k (pc + 1) L (.long x.toInt64 :: S) M res M') : At X k pc L (.int x :: S) M res M' := by
  intro p e s m args below meth c H locs ls hz hP hS hL
  exact lv_i2l hz.1 hz.2.1 hd rfl (h p e s m args below meth c H locs ls hz hP hS hL)
theorem st_l2i {x : Int64} (hd : decode (hB k) pc = .ok (.l2i, 1)) (h : At X k (pc + 1) L (.int x.toInt32 :: S) M res M') : At X k pc L (.long x :: S) M res M' := by
  intro p e s m args below meth c H locs ls hz hP hS hL
  exact lv_l2i hz.1 hz.2.1 hd rfl (h p e s m args below meth c H locs ls hz hP hS hL)
theorem st_i2b {x : Int32} (hd : decode (hB k) pc = .ok (.i2b, 1)) (h : At X k (pc + 1) L (.int x.toInt8.toInt32 :: S) M res M') : At X k pc L (.int x :: S) M res M' := by
  intro p e s m args below meth c H locs ls hz hP hS hL
  exact lv_i2b hz.1 hz.2.1 hd rfl (h p e s m args below meth c H locs ls hz hP hS hL)
theorem st_i2s {x : Int32} (hd : decode (hB k) pc = .ok (.i2s, 1)) (h : At X k (pc + 1) L (.int x.toInt16.toInt32 :: S) M res M') : At X k pc L (.int x :: S) M res M' := by
  intro p e s m args below meth c H locs ls hz hP hS hL
  exact lv_i2s hz.1 hz.2.1 hd rfl (h p e s m args below meth c H locs ls hz hP hS hL)
theorem st_iconst {n : Int} {v : Int32} (hd : decode (hB k) pc = .ok (.iconst n, 1)) (hv : Int32.ofInt n = v) (h : At X k (pc + 1) L (.int v :: S) M res M') : At X k pc L (S) M res M' := by
  intro p e s m args below meth c H locs ls hz hP hS hL
  exact lv_iconst hz.1 hz.2.1 hd hv (h p e s m args below meth c H locs ls hz hP hS hL)
theorem st_bipush {n : Int} {v : Int32} (hd : decode (hB k) pc = .ok (.bipush n, 2)) (hv : (Int8.ofInt n).toInt32 = v) (h : At X k (pc + 2) L (.int v :: S) M res M') : At X k pc L (S) M res M' := by
  intro p e s m args below meth c H locs ls hz hP hS hL
  exact lv_bipush hz.1 hz.2.1 hd hv (h p e s m args below meth c H locs ls hz hP hS hL)
theorem st_sipush {n : Int} {v : Int32} (hd : decode (hB k) pc = .ok (.sipush n, 3)) (hv : (Int16.ofInt n).toInt32 = v) (h : At X k (pc + 3) L (.int v :: S) M res M') : At X k pc L (S) M res M' := by
  intro p e s m args below meth c H locs ls hz hP hS hL
  exact lv_sipush hz.1 hz.2.1 hd hv (h p e s m args below meth c H locs ls hz hP hS hL)
theorem st_lconst {n : Fin 2} {v : Int64} (hd : decode (hB k) pc = .ok (.lconst n, 1)) (hv : Int64.ofNat (n : Nat) = v) (h : At X k (pc + 1) L (.long v :: S) M res M') : At X k pc L (S) M res M' := by
  intro p e s m args below meth c H locs ls hz hP hS hL
  exact lv_lconst hz.1 hz.2.1 hd hv (h p e s m args below meth c H locs ls hz hP hS hL)
theorem st_iload {j : Nat} {x : Int32} (hd : decode (hB k) pc = .ok (.iload j, 2)) (hj : L[j]? = some (some (.int x))) (h : At X k (pc + 2) L (.int x :: S) M res M') : At X k pc L (S) M res M' := by
  intro p e s m args below meth c H locs ls hz hP hS hL
  exact lv_iload hz.1 hz.2.1 hd (hL.2.2 j _ hj) (h p e s m args below meth c H locs ls hz hP hS hL)
theorem st_iload_n {f : Fin 4} {j : Nat} {x : Int32} (hd : decode (hB k) pc = .ok (.iload_n f, 1)) (hf : (f : Nat) = j) (hj : L[j]? = some (some (.int x))) (h : At X k (pc + 1) L (.int x :: S) M res M') : At X k pc L (S) M res M' := by
  intro p e s m args below meth c H locs ls hz hP hS hL
  exact lv_iload_n hz.1 hz.2.1 hd hf (hL.2.2 j _ hj) (h p e s m args below meth c H locs ls hz hP hS hL)
theorem st_lload {j : Nat} {x : Int64} (hd : decode (hB k) pc = .ok (.lload j, 2)) (hj : L[j]? = some (some (.long x))) (h : At X k (pc + 2) L (.long x :: S) M res M') : At X k pc L (S) M res M' := by
  intro p e s m args below meth c H locs ls hz hP hS hL
  exact lv_lload hz.1 hz.2.1 hd (hL.2.2 j _ hj) (h p e s m args below meth c H locs ls hz hP hS hL)
theorem st_lload_n {f : Fin 4} {j : Nat} {x : Int64} (hd : decode (hB k) pc = .ok (.lload_n f, 1)) (hf : (f : Nat) = j) (hj : L[j]? = some (some (.long x))) (h : At X k (pc + 1) L (.long x :: S) M res M') : At X k pc L (S) M res M' := by
  intro p e s m args below meth c H locs ls hz hP hS hL
  exact lv_lload_n hz.1 hz.2.1 hd hf (hL.2.2 j _ hj) (h p e s m args below meth c H locs ls hz hP hS hL)
theorem st_aload {j : Nat} {x : Nat} (hd : decode (hB k) pc = .ok (.aload j, 2)) (hj : L[j]? = some (some (.ref x))) (h : At X k (pc + 2) L (.ref x :: S) M res M') : At X k pc L (S) M res M' := by
  intro p e s m args below meth c H locs ls hz hP hS hL
  exact lv_aload hz.1 hz.2.1 hd (hL.2.2 j _ hj) (h p e s m args below meth c H locs ls hz hP hS hL)
theorem st_aload_n {f : Fin 4} {j : Nat} {x : Nat} (hd : decode (hB k) pc = .ok (.aload_n f, 1)) (hf : (f : Nat) = j) (hj : L[j]? = some (some (.ref x))) (h : At X k (pc + 1) L (.ref x :: S) M res M') : At X k pc L (S) M res M' := by
  intro p e s m args below meth c H locs ls hz hP hS hL
  exact lv_aload_n hz.1 hz.2.1 hd hf (hL.2.2 j _ hj) (h p e s m args below meth c H locs ls hz hP hS hL)
theorem st_istore {j : Nat} {x : Int32} (hd : decode (hB k) pc = .ok (.istore j, 2)) (hj : j + 0 < hL k) (h : At X k (pc + 2) (zl_set L j (.int x)) S M res M') : At X k pc L (.int x :: S) M res M' := by
  intro p e s m args below meth c H locs ls hz hP hS hL
  exact lv_istore hz.1 hz.2.1 hd (zl_ps_has hL) hj rfl (fun ls' hl => h p e s m args below meth c H locs ls' hz hP hS (zl_has1 (v := .int x) hl))
theorem st_istore_n {f : Fin 4} {j : Nat} {x : Int32} (hd : decode (hB k) pc = .ok (.istore_n f, 1)) (hf : (f : Nat) = j) (hj : j + 0 < hL k) (h : At X k (pc + 1) (zl_set L j (.int x)) S M res M') : At X k pc L (.int x :: S) M res M' := by
  intro p e s m args below meth c H locs ls hz hP hS hL
  exact lv_istore_n hz.1 hz.2.1 hd hf (zl_ps_has hL) hj rfl (fun ls' hl => h p e s m args below meth c H locs ls' hz hP hS (zl_has1 (v := .int x) hl))
theorem st_lstore {j : Nat} {x : Int64} (hd : decode (hB k) pc = .ok (.lstore j, 2)) (hj : j + 1 < hL k) (h : At X k (pc + 2) (zl_set2 L j (.long x)) S M res M') : At X k pc L (.long x :: S) M res M' := by
  intro p e s m args below meth c H locs ls hz hP hS hL
  exact lv_lstore hz.1 hz.2.1 hd (zl_ps_has hL) hj rfl (fun ls' hl => h p e s m args below meth c H locs ls' hz hP hS (zl_has2 (v := .long x) hl))
theorem st_lstore_n {f : Fin 4} {j : Nat} {x : Int64} (hd : decode (hB k) pc = .ok (.lstore_n f, 1)) (hf : (f : Nat) = j) (hj : j + 1 < hL k) (h : At X k (pc + 1) (zl_set2 L j (.long x)) S M res M') : At X k pc L (.long x :: S) M res M' := by
  intro p e s m args below meth c H locs ls hz hP hS hL
  exact lv_lstore_n hz.1 hz.2.1 hd hf (zl_ps_has hL) hj rfl (fun ls' hl => h p e s m args below meth c H locs ls' hz hP hS (zl_has2 (v := .long x) hl))
theorem st_astore {j : Nat} {x : Nat} (hd : decode (hB k) pc = .ok (.astore j, 2)) (hj : j + 0 < hL k) (h : At X k (pc + 2) (zl_set L j (.ref x)) S M res M') : At X k pc L (.ref x :: S) M res M' := by
  intro p e s m args below meth c H locs ls hz hP hS hL
  exact lv_astore hz.1 hz.2.1 hd (zl_ps_has hL) hj rfl (fun ls' hl => h p e s m args below meth c H locs ls' hz hP hS (zl_has1 (v := .ref x) hl))
theorem st_astore_n {f : Fin 4} {j : Nat} {x : Nat} (hd : decode (hB k) pc = .ok (.astore_n f, 1)) (hf : (f : Nat) = j) (hj : j + 0 < hL k) (h : At X k (pc + 1) (zl_set L j (.ref x)) S M res M') : At X k pc L (.ref x :: S) M res M' := by
  intro p e s m args below meth c H locs ls hz hP hS hL
  exact lv_astore_n hz.1 hz.2.1 hd hf (zl_ps_has hL) hj rfl (fun ls' hl => h p e s m args below meth c H locs ls' hz hP hS (zl_has1 (v := .ref x) hl))
theorem st_iinc {j : Nat} {n : Int} {x : Int32} (hd : decode (hB k) pc = .ok (.iinc j n, 3)) (hx : L[j]? = some (some (.int x))) (hj : j < hL k) (h : At X k (pc + 3) (zl_set L j (.int (x + Int32.ofInt n))) S M res M') : At X k pc L S M res M' := by
  intro p e s m args below meth c H locs ls hz hP hS hL
  obtain ⟨q, hq⟩ := List.getElem?_of_mem (zl_ps_mem (X := X) hx)
  exact lv_iinc (k := q) hz.1 hz.2.1 hd (zl_ps_has hL) hq rfl hj rfl (fun ls' hl => h p e s m args below meth c H locs ls' hz hP hS (zl_has1 (v := .int (x + Int32.ofInt n)) hl))
theorem st_dup {v : Value} (hd : decode (hB k) pc = .ok (.dup, 1)) (hv : v.category = 1) (h : At X k (pc + 1) L (v :: v :: S) M res M') : At X k pc L (v :: S) M res M' := by
  intro p e s m args below meth c H locs ls hz hP hS hL
  exact lv_dup hz.1 hz.2.1 hd ((zv_cat X v).trans hv) (h p e s m args below meth c H locs ls hz hP hS hL)
theorem st_pop {v : Value} (hd : decode (hB k) pc = .ok (.pop, 1)) (hv : v.category = 1) (h : At X k (pc + 1) L (S) M res M') : At X k pc L (v :: S) M res M' := by
  intro p e s m args below meth c H locs ls hz hP hS hL
  exact lv_pop hz.1 hz.2.1 hd ((zv_cat X v).trans hv) (h p e s m args below meth c H locs ls hz hP hS hL)
theorem st_dup2 {v w : Value} (hd : decode (hB k) pc = .ok (.dup2, 1)) (hv : v.category = 1) (hw : w.category = 1) (h : At X k (pc + 1) L (v :: w :: v :: w :: S) M res M') : At X k pc L (v :: w :: S) M res M' := by
  intro p e s m args below meth c H locs ls hz hP hS hL
  exact lv_dup2_11 hz.1 hz.2.1 hd ((zv_cat X v).trans hv) ((zv_cat X w).trans hw) (h p e s m args below meth c H locs ls hz hP hS hL)
theorem st_goto {off : Int} {t : Nat} (hd : decode (hB k) pc = .ok (.goto off, 3)) (ht : (pc : Int) + off = (t : Int)) (h : At X k t L S M res M') : At X k pc L S M res M' := by
  intro p e s m args below meth c H locs ls hz hP hS hL
  exact lv_goto hz.1 hz.2.1 hd ht (h p e s m args below meth c H locs ls hz hP hS hL)
theorem st_if {c' : Jvm.ClassFile.Cond} {off : Int} {t : Nat} {x : Int32} (hd : decode (hB k) pc = .ok (.ifCond c' off, 3)) (ht : (pc : Int) + off = (t : Int)) {P Q : Prop} (hP1 : P → At X k t L S M res M') (hQ1 : Q → At X k (pc + 3) L S M res M') (h : zc0 c' x P Q) : At X k pc L (.int x :: S) M res M' := by
  intro p e s m args below meth c H locs ls hz hP hS hL
  cases c'
  · exact lv_if_eq hz.1 hz.2.1 hd ht (fun q => hP1 (h.1 q) p e s m args below meth c H locs ls hz hP hS hL) (fun q => hQ1 (h.2 q) p e s m args below meth c H locs ls hz hP hS hL)
  · exact lv_if_ne hz.1 hz.2.1 hd ht (fun q => hP1 (h.1 q) p e s m args below meth c H locs ls hz hP hS hL) (fun q => hQ1 (h.2 q) p e s m args below meth c H locs ls hz hP hS hL)
  · exact lv_if_lt hz.1 hz.2.1 hd ht (fun q => hP1 (h.1 q) p e s m args below meth c H locs ls hz hP hS hL) (fun q => hQ1 (h.2 q) p e s m args below meth c H locs ls hz hP hS hL)
  · exact lv_if_ge hz.1 hz.2.1 hd ht (fun q => hP1 (h.1 q) p e s m args below meth c H locs ls hz hP hS hL) (fun q => hQ1 (h.2 q) p e s m args below meth c H locs ls hz hP hS hL)
  · exact lv_if_gt hz.1 hz.2.1 hd ht (fun q => hP1 (h.1 q) p e s m args below meth c H locs ls hz hP hS hL) (fun q => hQ1 (h.2 q) p e s m args below meth c H locs ls hz hP hS hL)
  · exact lv_if_le hz.1 hz.2.1 hd ht (fun q => hP1 (h.1 q) p e s m args below meth c H locs ls hz hP hS hL) (fun q => hQ1 (h.2 q) p e s m args below meth c H locs ls hz hP hS hL)
theorem st_icmp {c' : Jvm.ClassFile.Cond} {off : Int} {t : Nat} {x y : Int32} (hd : decode (hB k) pc = .ok (.if_icmp c' off, 3)) (ht : (pc : Int) + off = (t : Int)) {P Q : Prop} (hP1 : P → At X k t L S M res M') (hQ1 : Q → At X k (pc + 3) L S M res M') (h : zc1 c' x y P Q) : At X k pc L (.int y :: .int x :: S) M res M' := by
  intro p e s m args below meth c H locs ls hz hP hS hL
  cases c'
  · exact lv_icmp_eq hz.1 hz.2.1 hd ht (fun q => hP1 (h.1 q) p e s m args below meth c H locs ls hz hP hS hL) (fun q => hQ1 (h.2 q) p e s m args below meth c H locs ls hz hP hS hL)
  · exact lv_icmp_ne hz.1 hz.2.1 hd ht (fun q => hP1 (h.1 q) p e s m args below meth c H locs ls hz hP hS hL) (fun q => hQ1 (h.2 q) p e s m args below meth c H locs ls hz hP hS hL)
  · exact lv_icmp_lt hz.1 hz.2.1 hd ht (fun q => hP1 (h.1 q) p e s m args below meth c H locs ls hz hP hS hL) (fun q => hQ1 (h.2 q) p e s m args below meth c H locs ls hz hP hS hL)
  · exact lv_icmp_ge hz.1 hz.2.1 hd ht (fun q => hP1 (h.1 q) p e s m args below meth c H locs ls hz hP hS hL) (fun q => hQ1 (h.2 q) p e s m args below meth c H locs ls hz hP hS hL)
  · exact lv_icmp_gt hz.1 hz.2.1 hd ht (fun q => hP1 (h.1 q) p e s m args below meth c H locs ls hz hP hS hL) (fun q => hQ1 (h.2 q) p e s m args below meth c H locs ls hz hP hS hL)
  · exact lv_icmp_le hz.1 hz.2.1 hd ht (fun q => hP1 (h.1 q) p e s m args below meth c H locs ls hz hP hS hL) (fun q => hQ1 (h.2 q) p e s m args below meth c H locs ls hz hP hS hL)
theorem st_ldc {n : Int} {x : Nat} (hm : zl_I.any (fun q => decide (q.1 = hO k ∧ q.2.1 = x ∧ q.2.2.1 = n)) = true) (hd : decode (hB k) pc = .ok (.ldc x, 2)) (h : At X k (pc + 2) L (.int (Int32.ofInt n) :: S) M res M') : At X k pc L S M res M' := by
  intro p e s m args below meth c H locs ls hz hP hS hL
  obtain ⟨q, hq, hm⟩ := List.any_eq_true.mp hm
  obtain ⟨e1, e2, e3⟩ := of_decide_eq_true hm
  have h1 := zt_in _ (zl_Iok q hq) rfl
  rw [e1, e2, e3] at h1
  exact lv_ldc hz.1 hz.2.1 hz.2.2.2.2.2.1 (zG_before hz.2.2.2.2.2.2.1 h1) hd (h p e s m args below meth c H locs ls hz hP hS hL)
theorem st_ldcw {n : Int} {x : Nat} (hm : zl_I.any (fun q => decide (q.1 = hO k ∧ q.2.1 = x ∧ q.2.2.1 = n)) = true) (hd : decode (hB k) pc = .ok (.ldc_w x, 3)) (h : At X k (pc + 3) L (.int (Int32.ofInt n) :: S) M res M') : At X k pc L S M res M' := by
  intro p e s m args below meth c H locs ls hz hP hS hL
  obtain ⟨q, hq, hm⟩ := List.any_eq_true.mp hm
  obtain ⟨e1, e2, e3⟩ := of_decide_eq_true hm
  have h1 := zt_in _ (zl_Iok q hq) rfl
  rw [e1, e2, e3] at h1
  exact lv_ldcw hz.1 hz.2.1 hz.2.2.2.2.2.1 (zG_before hz.2.2.2.2.2.2.1 h1) hd (h p e s m args below meth c H locs ls hz hP hS hL)
theorem st_ldc2 {n : Int} {x : Nat} (hm : zl_J.any (fun q => decide (q.1 = hO k ∧ q.2.1 = x ∧ q.2.2.1 = n)) = true) (hd : decode (hB k) pc = .ok (.ldc2_w x, 3)) (h : At X k (pc + 3) L (.long (Int64.ofInt n) :: S) M res M') : At X k pc L S M res M' := by
  intro p e s m args below meth c H locs ls hz hP hS hL
  obtain ⟨q, hq, hm⟩ := List.any_eq_true.mp hm
  obtain ⟨e1, e2, e3⟩ := of_decide_eq_true hm
  have h1 := zt_in _ (zl_Jok q hq) rfl
  rw [e1, e2, e3] at h1
  exact lv_ldc2 hz.1 hz.2.1 hz.2.2.2.2.2.1 (zG_before hz.2.2.2.2.2.2.1 h1) hd (h p e s m args below meth c H locs ls hz hP hS hL)
end ST
