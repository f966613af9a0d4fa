/-! THE WORLD: all 77 cells of both objects, in one memory: cell by its number, place, number held. -/
abbrev zM : Type := Nat → Nat → Int32
/-- launch; the classes' numbers and slots; the cells' addresses; the two array classes; the address of the table -/
abbrev zX : Type := Launch × (Nat → ClassId) × (Nat → Nat → Nat) × (Nat → Nat) × ClassId × ClassId × Nat
def zx_l (X : zX) : Launch := X.1
def zx_D (X : zX) : va_G := (X.2.1, X.2.2.1)
def zx_a (X : zX) : Nat → Nat := X.2.2.2.1
def zx_I (X : zX) : ClassId := X.2.2.2.2.1
def zx_Z (X : zX) : ClassId := X.2.2.2.2.2.1
def zx_t (X : zX) : Nat := X.2.2.2.2.2.2
/-- a value as the machine has it -/
def zv (X : zX) (v : Value) : Value := match v with
  | .ref k => .ref (zx_a X k)
  | .retAddr _ => .ref (zx_t X)
  | w => w
theorem zv_cat (X : zX) (v : Value) : (zv X v).category = v.category := by cases v <;> rfl
def zs_val (M : zM) (k j : Nat) (f : Option Nat) : Value := match f with
  | some r => .ref r
  | none => .int (M k j)
def zs_cell (X : zX) (M : zM) (k : Nat) (s : (Nat × Nat) ⊕ (Nat × List (Option Nat))) : va_E := match s with
  | .inl a => .inl ((if a.1 = 0 then zx_I X else zx_Z X), a.2, .inl (M k))
  | .inr o => .inr (o.1, o.2.mapIdx (fun j f => zv X (zs_val M k j f)))
def zs_ws (X : zX) (M : zM) : va_W := zs_sh.mapIdx (fun k s => (zx_a X k, zs_cell X M k s))
theorem zs_len : zs_sh.length = 77 := by decide +kernel
theorem zs_at {X : zX} {M : zM} {k : Nat} {s : (Nat × Nat) ⊕ (Nat × List (Option Nat))} (h : zs_sh[k]? = some s) : (zs_ws X M)[k]? = some (zx_a X k, zs_cell X M k s) := by
  simp [zs_ws, List.getElem?_mapIdx, h]
theorem zs_at' {X : zX} {M : zM} {k : Nat} {q : Nat × va_E} (h : (zs_ws X M)[k]? = some q) : k < 77 ∧ q.1 = zx_a X k := by
  simp only [zs_ws, List.getElem?_mapIdx] at h
  cases hs : zs_sh[k]? with
  | none => rw [hs] at h; cases h
  | some s =>
    rw [hs] at h
    cases h
    exact ⟨by rw [← zs_len]; exact (List.getElem?_eq_some_iff.mp hs).1, rfl⟩
theorem zs_lt {k : Nat} {s : (Nat × Nat) ⊕ (Nat × List (Option Nat))} (h : zs_sh[k]? = some s) : k < 77 := by rw [← zs_len]; exact (List.getElem?_eq_some_iff.mp h).1
/-- a cell's new contents -/
theorem zs_cong (X : zX) {M M' : zM} {k : Nat} (s : (Nat × Nat) ⊕ (Nat × List (Option Nat))) (h : M' k = M k) : zs_cell X M k s = zs_cell X M' k s := by
  cases s with
  | inl a => simp only [zs_cell, h]
  | inr o => simp only [zs_cell, zs_val, h]
theorem zs_set {X : zX} {M M' : zM} {k : Nat} {s : (Nat × Nat) ⊕ (Nat × List (Option Nat))} (h : zs_sh[k]? = some s) (hM : ∀ a, a ≠ k → M' a = M a) : (zs_ws X M).set k (zx_a X k, zs_cell X M' k s) = zs_ws X M' := by
  apply List.ext_getElem?
  intro j
  by_cases hj : k = j
  · subst hj
    rw [List.getElem?_set_self (List.getElem?_eq_some_iff.mp (zs_at (X := X) (M := M) h)).1, zs_at h]
  · rw [List.getElem?_set_ne hj]
    simp only [zs_ws, List.getElem?_mapIdx]
    cases zs_sh[j]? with
    | none => rfl
    | some s' =>
      show some (zx_a X j, zs_cell X M j s') = some (zx_a X j, zs_cell X M' j s')
      rw [zs_cong X s' (hM j (fun e => hj e.symm))]
def zu (M : zM) (k i : Nat) (v : Int32) : zM := fun a => if a = k then upd (M k) i v else M a
theorem zu_ne {M : zM} {k i : Nat} {v : Int32} : ∀ a, a ≠ k → zu M k i v a = M a := fun a h => by simp [zu, h]
theorem zu_self {M : zM} {k i : Nat} {v : Int32} : zu M k i v k = upd (M k) i v := by simp [zu]
/-- a whole array's new contents -/
def zua (M : zM) (k : Nat) (f : Nat → Int32) : zM := fun a => if a = k then f else M a
theorem zua_ne {M : zM} {k : Nat} {f : Nat → Int32} : ∀ a, a ≠ k → zua M k f a = M a := fun a h => by simp [zua, h]
theorem zua_self {M : zM} {k : Nat} {f : Nat → Int32} : zua M k f k = f := by simp [zua]
theorem zs_seta {X : zX} {M : zM} {k ty n : Nat} (h : zs_sh[k]? = some (.inl (ty, n))) (f : Nat → Int32) : (zs_ws X M).set k (zx_a X k, .inl ((if ty = 0 then zx_I X else zx_Z X), n, .inl f)) = zs_ws X (zua M k f) := by
  have e := zs_set (X := X) (M := M) (M' := zua M k f) h zua_ne
  simp only [zs_cell, zua_self] at e
  exact e
theorem zu_a (M : zM) (k i : Nat) (v : Int32) : zu M k i v = zua M k (upd (M k) i v) := rfl
theorem zs_setf {X : zX} {M : zM} {k c j : Nat} {fs : List (Option Nat)} (h : zs_sh[k]? = some (.inr (c, fs))) (hj : fs[j]? = some none) (v : Int32) : (zs_ws X M).set k (zx_a X k, .inr (c, (fs.mapIdx (fun j f => zv X (zs_val M k j f))).set j (.int v))) = zs_ws X (zu M k j v) := by
  have e2 : (fs.mapIdx (fun j f => zv X (zs_val M k j f))).set j (.int v) = fs.mapIdx (fun i f => zv X (zs_val (zu M k j v) k i f)) := by
    apply List.ext_getElem?
    intro i
    by_cases hi : j = i
    · subst hi
      have hl : j < fs.length := (List.getElem?_eq_some_iff.mp hj).1
      rw [List.getElem?_set_self (by simpa using hl)]
      simp [List.getElem?_mapIdx, hj, zs_val, zv, zu, upd]
    · rw [List.getElem?_set_ne hi]
      simp only [List.getElem?_mapIdx]
      cases fs[i]? with
      | none => rfl
      | some f =>
        cases f with
        | none => simp [zs_val, zv, zu, upd, Ne.symm hi]
        | some r => rfl
  have e := zs_set (X := X) (M := M) (M' := zu M k j v) h zu_ne
  simp only [zs_cell] at e
  rw [e2]
  exact e
def zA (X : zX) : Nat → Prop := fun q => ∃ k, k < 77 ∧ q = zx_a X k
def zx_inj (X : zX) : Prop := ∀ i j, i < 77 → j < 77 → zx_a X i = zx_a X j → i = j
theorem zs_D {X : zX} (h : zx_inj X) (M : zM) : va_D (zA X) (zs_ws X M) := by
  refine ⟨fun i j p q hi hj e => ?_, fun k q hk => ⟨k, zs_at' hk⟩⟩
  obtain ⟨a1, a2⟩ := zs_at' hi
  obtain ⟨b1, b2⟩ := zs_at' hj
  exact h i j a1 b1 (by rw [← a2, ← b2]; exact e)
def zt_tr (j : Nat) : Int32 := ([0, 1, 1, 2, 1, 2, 2, 3] : List Int32).getD j 0
def zy_bit : MethodName := ⟨"FoolVotes", "bit", "(II)I"⟩
/-- what the tables and the old heap say -/
def zk (X : zX) (U : State) : Prop := va_K (zx_D X) zc_cl [(zx_I X, .int), (zx_Z X, .boolean)] U ∧ va_Nw (.methodLinkNest "FoolVotes$Votes" 100 zy_bit "FoolVotes") U ∧ va_Z "FoolVotes$Votes" "TRAITS_IN" "[I" (.ref (zx_t X)) (zA X) U U.heap ∧ va_T .int (zx_t X) 8 (fun j => .int (zt_tr j)) (zA X) U U.heap ∧ zx_inj X
theorem zk_warm {X : zX} {u U : State} (hW : u.WarmedH U.vm) (hh : ∀ a : Nat, a < u.heap.size → ¬ zA X a → U.heap[a]? = u.heap[a]?) (h : zk X u) : zk X U := by
  obtain ⟨h1, h2, h3, h4, h5⟩ := h
  exact ⟨va_K.moved hW.alike h1, va_Nw.warmM hW h2, (va_Z.moved hW.alike h3).kept hh, (va_T.moved hW.alike h4).kept hh, h5⟩
theorem zk_same {X : zX} {u U : State} (hv : u.vm = U.vm) (hh : U.heap = u.heap) (h : zk X u) : zk X U := by
  obtain ⟨h1, h2, h3, h4, h5⟩ := h
  have hA : u.vm.Alike U.vm := by rw [hv]; exact Vm.Alike.refl _
  exact ⟨va_K.moved hA h1, va_Nw.same rfl hv h2, (va_Z.moved hA h3).kept (fun a _ _ => by rw [hh]), (va_T.moved hA h4).kept (fun a _ _ => by rw [hh]), h5⟩
def zw (X : zX) (M : zM) (U : State) : Prop := va_P (zx_D X) zc_cl (zs_ws X M) U.heap ∧ zk X U
def zQ (X : zX) (res : List Value) (M : zM) : Array Value → State → Outcome → State → Prop := fun _ st oc t => res.length ≤ 1 ∧ oc = .returned ((res.map (zv X)).head?) ∧ zw X M t ∧ va_F (zA X) st t
def zws (k : Nat) : List Cond := Cond.code (hY k) (hB k) (hL k) (hR k) :: zt_G
def zrm (k : Nat) : Room := { frames := hF k, cells := 0, slots := 0, locals := hW k }
/-- METHOD k, CALLED WITH args IN MEMORY M, ANSWERS res AND LEAVES MEMORY M' -/
def Call (X : zX) (k : Nat) (args : List Value) (M : zM) (res : List Value) (M' : zM) : Prop :=
  Met (zx_l X) (hY k) (zws k) (zrm k) (va_Pc (args.map (zv X)) (zw X M)) (zQ X res M') 0 0 (zA X)
/-- the locals -/
def zL (X : zX) (ls : Array Slot) (nL : Nat) (L : List (Option Value)) : Prop := ls.size = nL ∧ lv_wf ls ∧ ∀ (i : Nat) (v : Value), L[i]? = some (some v) → ls[i]? = some (.val (zv X v))
def zf (X : zX) (k : Nat) (p : Program) (s : State) (m : MethodId) (args : Array Value) (meth : Method) (c : Code) : Prop :=
  p.tables.exec = Jvm.exec ∧ c.code = hB k ∧ meth.sig.returnType = hR k ∧ meth.locks = false ∧ c.maxLocals = hL k ∧ s.vm.findClass (zn_c (hO k)) = some m.cls ∧ (∀ w ∈ zws k, w.before args s = true) ∧ zk X s
/-- METHOD k, STANDING AT pc WITH LOCALS L, STACK S, MEMORY M, WILL ANSWER res AND LEAVE M' -/
def At (X : zX) (k pc : Nat) (L : List (Option Value)) (S : List Value) (M : zM) (res : List Value) (M' : zM) : Prop :=
  ∀ (p : Program) (e : Env) (s : State) (m : MethodId) (args : Array Value) (below : List Frame) (meth : Method) (c : Code) (H : Heap) (locs : List Loc) (ls : Array Slot),
    zf X k p s m args meth c → va_P (zx_D X) zc_cl (zs_ws X M) H → va_S (zA X) s.heap H locs → zL X ls (hL k) L →
    W p (zx_l X) e (zrm k) s m args below meth c H locs 0 0 (MQ below (zQ X res M') args s 0 0 (zA X)) (F0 m pc ls (S.map (zv X)))
def zl_sl (args : List Value) : List (Option Value) := args.flatMap fun v => if v.category = 2 then [some v, none] else [some v]
def zl_in (args : List Value) (n : Nat) : List (Option Value) := zl_sl args ++ List.replicate (n - (zl_sl args).length) none
theorem zl_map (X : zX) : ∀ args : List Value, lg_sl (args.map (zv X)) = (zl_sl args).map (fun o => match o with | some v => Slot.val (zv X v) | none => Slot.second)
  | [] => rfl
  | v :: vs => by
    have ih := zl_map X vs
    simp only [lg_sl, zl_sl, List.map_cons, List.flatMap_cons, List.map_append, zv_cat] at ih ⊢
    rw [ih]
    by_cases h : v.category = 2 <;> simp [h]
theorem zl_len (X : zX) (args : List Value) : (lg_sl (args.map (zv X))).length = (zl_sl args).length := by rw [zl_map]; simp
theorem Call.of {X : zX} {k : Nat} {args : List Value} {M M' : zM} {res : List Value} (hn : (zl_sl args).length ≤ hL k) (h : At X k 0 (zl_in args (hL k)) [] M res M') : Call X k args M res M' := by
  obtain ⟨h1, h2, h3, h4, h5, h6⟩ := zh_fact k
  refine Met.ofW (cc := hB k) (maxL := hL k) (ret := hR k) h4 rfl ?_
  intro p e s m args' below meth c s₁ B hml hv
  obtain ⟨rfl, hP, hK⟩ := hv
  have hts := atoms_spec (ws := zws k) B.pre
  have hown : s.vm.findClass (zn_c (hO k)) = some m.cls := by rw [← h5]; exact findClass_of_methodNamed B.named
  have hl := lv_entry (args.map (zv X)) (n := hL k) (by rw [zl_len]; exact hn)
  rw [lg_entry_eq]
  refine h p e s m _ below meth c s.heap [] _ ⟨B.exec, B.bytes, B.returns, B.notSynchronized, hml, hown, hts, hK⟩ hP va_S.rf ⟨hl.1, hl.2.1, ?_⟩
  intro i v hi
  have hlt : i < (zl_sl args).length := by
    rcases Nat.lt_or_ge i (zl_sl args).length with q | q
    · exact q
    · rw [zl_in, List.getElem?_append_right q] at hi
      have := List.eq_of_mem_replicate (List.mem_of_getElem? hi)
      cases this
  rw [zl_in, List.getElem?_append_left hlt] at hi
  rw [List.getElem?_toArray, List.getElem?_append_left (by rw [zl_len]; exact hlt), zl_map, List.getElem?_map, hi]
  rfl
