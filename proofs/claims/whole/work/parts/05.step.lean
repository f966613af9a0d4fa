/-! ONE INSTRUCTION, OVER PURE STATES. An instruction stands for what it does: constants, fields and calls are resolved; jumps name their place.
  sipush n: a long constant; ret j: local j is forgotten (no step); jsr t: the next place (no step); getfield, putfield: 64 * class + field; invokeinterface k w: method k, w % 16 arguments, w / 16 - 1 the class of its object (0: static); dmul: FoolVotes.bit from its nest mate; dadd, dsub: Math.max, Math.min; invokedynamic: System.arraycopy of ints; freturn: a boolean is answered; getstatic 0: the table -/
def p_i (S : List Value) (K : Int32 → List Value → Prop) : Prop := match S with
  | .int x :: S' => K x S'
  | _ => False
def p_l (S : List Value) (K : Int64 → List Value → Prop) : Prop := match S with
  | .long x :: S' => K x S'
  | _ => False
def p_r (S : List Value) (K : Nat → List Value → Prop) : Prop := match S with
  | .ref x :: S' => K x S'
  | _ => False
def p_v (S : List Value) (K : Value → List Value → Prop) : Prop := match S with
  | x :: S' => if x.category = 1 then K x S' else False
  | _ => False
theorem p_i_s {S : List Value} {K : Int32 → List Value → Prop} (h : p_i S K) : ∃ x S', S = .int x :: S' ∧ K x S' := by
  unfold p_i at h
  split at h
  · exact ⟨_, _, rfl, h⟩
  · exact h.elim
theorem p_l_s {S : List Value} {K : Int64 → List Value → Prop} (h : p_l S K) : ∃ x S', S = .long x :: S' ∧ K x S' := by
  unfold p_l at h
  split at h
  · exact ⟨_, _, rfl, h⟩
  · exact h.elim
theorem p_r_s {S : List Value} {K : Nat → List Value → Prop} (h : p_r S K) : ∃ x S', S = .ref x :: S' ∧ K x S' := by
  unfold p_r at h
  split at h
  · exact ⟨_, _, rfl, h⟩
  · exact h.elim
theorem p_v_s {S : List Value} {K : Value → List Value → Prop} (h : p_v S K) : ∃ x S', S = x :: S' ∧ x.category = 1 ∧ K x S' := by
  unfold p_v at h
  split at h
  · split at h
    · exact ⟨_, _, rfl, by assumption, h⟩
    · exact h.elim
  · exact h.elim
def zl_clr (L : List (Option Value)) (j : Nat) : List (Option Value) := match L[j]? with
  | some (some w) => if w.category = 2 then L.set j none else L
  | _ => L
def zl_set (L : List (Option Value)) (i : Nat) (v : Value) : List (Option Value) := match i with
  | 0 => L.set 0 (some v)
  | j + 1 => (zl_clr L j).set (j + 1) (some v)
def zl_set2 (L : List (Option Value)) (i : Nat) (v : Value) : List (Option Value) := (zl_set L i v).set (i + 1) none
def zc0 (c : Jvm.ClassFile.Cond) (x : Int32) (A B : Prop) : Prop := match c with
  | .eq => (x = 0 → A) ∧ (¬ x = 0 → B)
  | .ne => (¬ x = 0 → A) ∧ (x = 0 → B)
  | .lt => (x < 0 → A) ∧ (¬ x < 0 → B)
  | .ge => (0 ≤ x → A) ∧ (¬ 0 ≤ x → B)
  | .gt => (0 < x → A) ∧ (¬ 0 < x → B)
  | .le => (x ≤ 0 → A) ∧ (¬ x ≤ 0 → B)
def zc1 (c : Jvm.ClassFile.Cond) (x y : Int32) (A B : Prop) : Prop := match c with
  | .eq => (x = y → A) ∧ (¬ x = y → B)
  | .ne => (¬ x = y → A) ∧ (x = y → B)
  | .lt => (x < y → A) ∧ (¬ x < y → B)
  | .ge => (y ≤ x → A) ∧ (¬ y ≤ x → B)
  | .gt => (y < x → A) ∧ (¬ y < x → B)
  | .le => (x ≤ y → A) ∧ (¬ x ≤ y → B)
/-- a switch, as a chain of tests -/
def zsw (ps : List (Int × Int)) (d : Int) (x : Int32) (J : Int → Prop) : Prop := match ps with
  | [] => J d
  | (a, t) :: r => (x = Int32.ofInt a → J t) ∧ (¬ x = Int32.ofInt a → zsw r d x J)
def zcats (S : List Value) : Nat := (S.map fun v => v.category).sum
/-- the object of a call is of the class -/
def zrcv (c : Nat) (as : List Value) : Bool := match c with
  | 0 => true
  | c' + 1 => match as with
    | .ref b :: _ => match zs_sh[b]? with
      | some (.inr o) => o.1 == c'
      | _ => false
    | _ => false
def stp (X : zX) (J : Nat → List (Option Value) → List Value → zM → Prop) (res : List Value) (M' : zM) (i : Instr) (L : List (Option Value)) (S : List Value) (M : zM) (K : List (Option Value) → List Value → zM → Prop) : Prop := match i with
  | .iconst n => K L (.int (Int32.ofInt n) :: S) M
  | .sipush n => K L (.long (Int64.ofInt n) :: S) M
  | .ret j => K (L.set j none) S M
  | .jsr t => J t.toNat L S M
  | .goto t => J t.toNat L S M
  | .iload j => match L[j]? with
    | some (some (.int x)) => K L (.int x :: S) M
    | _ => False
  | .lload j => match L[j]? with
    | some (some (.long x)) => K L (.long x :: S) M
    | _ => False
  | .aload j => match L[j]? with
    | some (some (.ref x)) => K L (.ref x :: S) M
    | _ => False
  | .istore j => p_i S fun x S' => K (zl_set L j (.int x)) S' M
  | .lstore j => p_l S fun x S' => K (zl_set2 L j (.long x)) S' M
  | .astore j => p_r S fun x S' => K (zl_set L j (.ref x)) S' M
  | .iinc j n => match L[j]? with
    | some (some (.int x)) => K (zl_set L j (.int (x + Int32.ofInt n))) S M
    | _ => False
  | .dup => p_v S fun v S' => K L (v :: v :: S') M
  | .pop => p_v S fun _ S' => K L S' M
  | .dup2 => p_v S fun v S' => p_v S' fun w S'' => K L (v :: w :: v :: w :: S'') M
  | .ifCond c t => p_i S fun x S' => zc0 c x (J t.toNat L S' M) (K L S' M)
  | .if_icmp c t => p_i S fun y S' => p_i S' fun x S'' => zc1 c x y (J t.toNat L S'' M) (K L S'' M)
  | .lookupswitch d ps => p_i S fun x S' => zsw ps.toList d x (fun t => J t.toNat L S' M)
  | .getfield n => p_r S fun r S' => match zs_sh[r]? with
    | some (.inr o) => if o.1 = n / 64 then (match o.2[n % 64]? with
      | some f => K L (zs_val M r (n % 64) f :: S') M
      | none => False) else False
    | _ => False
  | .putfield n => p_i S fun x S' => p_r S' fun r S'' => match zs_sh[r]? with
    | some (.inr o) => if o.1 = n / 64 then (match o.2[n % 64]? with
      | some none => match zs_isZ o.1 (n % 64) with
        | true => (x = 0 ∨ x = 1) ∧ K L S'' (zu M r (n % 64) x)
        | false => K L S'' (zu M r (n % 64) x)
      | _ => False) else False
    | _ => False
  | .getstatic _ => K L (.retAddr 0 :: S) M
  | .iaload => p_i S fun j S' => match S' with
    | .ref r :: S'' => match zs_sh[r]? with
      | some (.inl (0, n)) => vp_in j n ∧ K L (.int (M r j.toNatClampNeg) :: S'') M
      | _ => False
    | .retAddr _ :: S'' => vp_in j 8 ∧ K L (.int (zt_tr j.toNatClampNeg) :: S'') M
    | _ => False
  | .baload => p_i S fun j S' => p_r S' fun r S'' => match zs_sh[r]? with
    | some (.inl (1, n)) => vp_in j n ∧ K L (.int (M r j.toNatClampNeg) :: S'') M
    | _ => False
  | .iastore => p_i S fun x S' => p_i S' fun j S'' => p_r S'' fun r T => match zs_sh[r]? with
    | some (.inl (0, n)) => vp_in j n ∧ K L T (zu M r j.toNatClampNeg x)
    | _ => False
  | .bastore => p_i S fun x S' => p_i S' fun j S'' => p_r S'' fun r T => match zs_sh[r]? with
    | some (.inl (1, n)) => vp_in j n ∧ K L T (zu M r j.toNatClampNeg (x &&& 1))
    | _ => False
  | .arraylength => p_r S fun r S' => match zs_sh[r]? with
    | some (.inl (0, n)) => K L (.int (Int32.ofNat n) :: S') M
    | _ => False
  | .invokedynamic _ => p_i S fun n S1 => p_i S1 fun dp S2 => p_r S2 fun a S3 => p_i S3 fun sp S4 => p_r S4 fun a0 S5 => match zs_sh[a0]? with
    | some (.inl (0, n0)) => match zs_sh[a]? with
      | some (.inl (0, n1)) => if zcats S5 ≤ 8 then (¬ sp < 0 ∧ ¬ dp < 0 ∧ ¬ n < 0 ∧ sp.toNatClampNeg + n.toNatClampNeg ≤ n0 ∧ dp.toNatClampNeg + n.toNatClampNeg ≤ n1 ∧ K L S5 (zua M a (va_cpy (M a0) (M a) sp.toNatClampNeg dp.toNatClampNeg n.toNatClampNeg))) else False
      | _ => False
    | _ => False
  | .invokeinterface j w => match (Nat.ble (w % 16) S.length && Nat.ble (zcats (S.drop (w % 16))) 8 && zrcv (w / 16) (S.take (w % 16)).reverse) with
    | true => ∃ (r : List Value) (M1 : zM), Call X j (S.take (w % 16)).reverse M r M1 ∧ K L (r ++ S.drop (w % 16)) M1
    | false => False
  | .dmul => match (Nat.ble 2 S.length && Nat.ble (zcats (S.drop 2)) 8) with
    | true => ∃ (r : List Value) (M1 : zM), Call X 7 (S.take 2).reverse M r M1 ∧ K L (r ++ S.drop 2) M1
    | false => False
  | .dadd => p_i S fun y S' => p_i S' fun x S'' => if zcats S'' ≤ 8 then K L (.int (if x < y then y else x) :: S'') M else False
  | .dsub => p_i S fun y S' => p_i S' fun x S'' => if zcats S'' ≤ 8 then K L (.int (if y < x then y else x) :: S'') M else False
  | .idiv => p_i S fun y S' => p_i S' fun x S'' => ¬ y = 0 ∧ K L (.int (x / y) :: S'') M
  | .irem => p_i S fun y S' => p_i S' fun x S'' => ¬ y = 0 ∧ K L (.int (x - x / y * y) :: S'') M
  | .ldiv => p_l S fun y S' => p_l S' fun x S'' => ¬ y = 0 ∧ K L (.long (x / y) :: S'') M
  | .lrem => p_l S fun y S' => p_l S' fun x S'' => ¬ y = 0 ∧ K L (.long (x - x / y * y) :: S'') M
  | .lcmp => p_l S fun y S' => p_l S' fun x S'' => K L (.int (lg_cmp x y) :: S'') M
  | .lshl => p_i S fun y S' => p_l S' fun x S'' => K L (.long (x <<< (y.toInt64 &&& 63)) :: S'') M
  | .iadd => p_i S fun y S' => p_i S' fun x S'' => K L (.int (x + y) :: S'') M
  | .isub => p_i S fun y S' => p_i S' fun x S'' => K L (.int (x - y) :: S'') M
  | .imul => p_i S fun y S' => p_i S' fun x S'' => K L (.int (x * y) :: S'') M
  | .iand => p_i S fun y S' => p_i S' fun x S'' => K L (.int (x &&& y) :: S'') M
  | .ior => p_i S fun y S' => p_i S' fun x S'' => K L (.int (x ||| y) :: S'') M
  | .ixor => p_i S fun y S' => p_i S' fun x S'' => K L (.int (x ^^^ y) :: S'') M
  | .ishl => p_i S fun y S' => p_i S' fun x S'' => K L (.int (x <<< (y &&& 31)) :: S'') M
  | .ishr => p_i S fun y S' => p_i S' fun x S'' => K L (.int (x >>> (y &&& 31)) :: S'') M
  | .iushr => p_i S fun y S' => p_i S' fun x S'' => K L (.int ((x.toUInt32 >>> (y.toUInt32 &&& Int32.toUInt32 31)).toInt32) :: S'') M
  | .ladd => p_l S fun y S' => p_l S' fun x S'' => K L (.long (x + y) :: S'') M
  | .lsub => p_l S fun y S' => p_l S' fun x S'' => K L (.long (x - y) :: S'') M
  | .lmul => p_l S fun y S' => p_l S' fun x S'' => K L (.long (x * y) :: S'') M
  | .ineg => p_i S fun x S' => K L (.int (-x) :: S') M
  | .i2l => p_i S fun x S' => K L (.long (x.toInt64) :: S') M
  | .l2i => p_l S fun x S' => K L (.int (x.toInt32) :: S') M
  | .i2b => p_i S fun x S' => K L (.int (x.toInt8.toInt32) :: S') M
  | .i2s => p_i S fun x S' => K L (.int (x.toInt16.toInt32) :: S') M
  | .ireturn => match S with
    | [.int v] => res = [.int v] ∧ M' = M
    | _ => False
  | .freturn => match S with
    | [.int v] => (v = 0 ∨ v = 1) ∧ res = [.int v] ∧ M' = M
    | _ => False
  | .lreturn => match S with
    | [.long v] => res = [.long v] ∧ M' = M
    | _ => False
  | .areturn => match S with
    | [.ref v] => res = [.ref v] ∧ M' = M
    | _ => False
  | .return_ => match S with
    | [] => res = [] ∧ M' = M
    | _ => False
  | _ => False
/-- does the instruction describe what stands in the code? -/
def zmt (k pc : Nat) (i r : Instr) (len : Nat) : Bool := match i with
  | .iconst n => match r with
    | .iconst n' => decide (n' = n ∧ len = 1)
    | .bipush n' => decide ((Int8.ofInt n').toInt32 = Int32.ofInt n ∧ len = 2)
    | .sipush n' => decide ((Int16.ofInt n').toInt32 = Int32.ofInt n ∧ len = 3)
    | .ldc x => decide (len = 2) && zl_I.any (fun q => decide (q.1 = hO k ∧ q.2.1 = x ∧ q.2.2.1 = n))
    | .ldc_w x => decide (len = 3) && zl_I.any (fun q => decide (q.1 = hO k ∧ q.2.1 = x ∧ q.2.2.1 = n))
    | _ => false
  | .sipush n => match r with
    | .lconst f => decide (Int64.ofNat (f : Nat) = Int64.ofInt n ∧ len = 1)
    | .ldc2_w x => decide (len = 3) && zl_J.any (fun q => decide (q.1 = hO k ∧ q.2.1 = x ∧ q.2.2.1 = n))
    | _ => false
  | .iload j => match r with
    | .iload j' => decide (j' = j ∧ len = 2)
    | .iload_n f => decide ((f : Nat) = j ∧ len = 1)
    | _ => false
  | .lload j => match r with
    | .lload j' => decide (j' = j ∧ len = 2)
    | .lload_n f => decide ((f : Nat) = j ∧ len = 1)
    | _ => false
  | .aload j => match r with
    | .aload j' => decide (j' = j ∧ len = 2)
    | .aload_n f => decide ((f : Nat) = j ∧ len = 1)
    | _ => false
  | .istore j => match r with
    | .istore j' => decide (j' = j ∧ len = 2 ∧ j + 0 < hL k)
    | .istore_n f => decide ((f : Nat) = j ∧ len = 1 ∧ j + 0 < hL k)
    | _ => false
  | .lstore j => match r with
    | .lstore j' => decide (j' = j ∧ len = 2 ∧ j + 1 < hL k)
    | .lstore_n f => decide ((f : Nat) = j ∧ len = 1 ∧ j + 1 < hL k)
    | _ => false
  | .astore j => match r with
    | .astore j' => decide (j' = j ∧ len = 2 ∧ j + 0 < hL k)
    | .astore_n f => decide ((f : Nat) = j ∧ len = 1 ∧ j + 0 < hL k)
    | _ => false
  | .iinc j n => decide (r = .iinc j n ∧ len = 3 ∧ j < hL k)
  | .goto t => match r with
    | .goto off => decide ((pc : Int) + off = t ∧ 0 ≤ t ∧ len = 3)
    | _ => false
  | .ifCond c t => match r with
    | .ifCond c' off => decide (c' = c ∧ (pc : Int) + off = t ∧ 0 ≤ t ∧ len = 3)
    | _ => false
  | .if_icmp c t => match r with
    | .if_icmp c' off => decide (c' = c ∧ (pc : Int) + off = t ∧ 0 ≤ t ∧ len = 3)
    | _ => false
  | .lookupswitch d ps => match r with
    | .lookupswitch d' ps' => decide ((ps'.toList.zip (ps'.toList.drop 1)).all (fun (a, next) => a.1 < next.1) = true ∧ ps.toList = ps'.toList.map (fun q => (q.1, (pc : Int) + q.2)) ∧ (pc : Int) + d' = d ∧ 0 ≤ d ∧ (∀ q ∈ ps.toList, 0 ≤ q.2 ∧ (Int32.ofInt q.1).toInt = q.1))
    | .tableswitch d' lo hi offs => decide (ps.toList = offs.toList.mapIdx (fun j t => (lo + (j : Int), (pc : Int) + t)) ∧ hi = lo + (offs.toList.length : Int) - 1 ∧ (pc : Int) + d' = d ∧ 0 ≤ d ∧ (∀ q ∈ ps.toList, 0 ≤ q.2 ∧ (Int32.ofInt q.1).toInt = q.1))
    | _ => false
  | .getfield n => match r with
    | .getfield x => decide (len = 3) && zl_F.any (fun q => decide (q.1 = hO k ∧ q.2.1 = x ∧ q.2.2.1 = n / 64 ∧ q.2.2.2.1 = n % 64))
    | _ => false
  | .putfield n => match r with
    | .putfield x => decide (len = 3) && zl_F.any (fun q => decide (q.1 = hO k ∧ q.2.1 = x ∧ q.2.2.1 = n / 64 ∧ q.2.2.2.1 = n % 64)) && decide (((zl_Fc (n / 64)).2.1 (n % 64)).2.2.2 = false ∧ parseFieldDescriptor ((zl_Fc (n / 64)).2.1 (n % 64)).2.2.1 = some (if zs_isZ (n / 64) (n % 64) = true then .boolean else .int))
    | _ => false
  | .getstatic _ => decide (r = .getstatic 118 ∧ len = 3 ∧ hO k = 4)
  | .invokedynamic _ => match r with
    | .invokestatic x => decide (len = 3 ∧ 1 ≤ hF k ∧ 8 + (nativeFrameWords "java/lang/System" "arraycopy" 5 + 11) ≤ hW k) && zl_A.any (fun q => decide (q.1 = hO k ∧ q.2.1 = x))
    | _ => false
  | .invokeinterface j w => match r with
    | .invokestatic x => decide (len = 3 ∧ w / 16 = 0 ∧ hS j = true ∧ w % 16 = hN j ∧ hF j + 1 ≤ hF k ∧ 8 + (hL j + 11) + hW j ≤ hW k) && zl_M.any (fun q => decide (q.1 = hO k ∧ q.2.1 = x ∧ q.2.2.1 = j))
    | .invokevirtual x => decide (len = 3 ∧ w / 16 = hO j + 1 ∧ hO j < 6 ∧ hS j = false ∧ w % 16 = hN j ∧ 0 < hN j ∧ hF j + 1 ≤ hF k ∧ 8 + (hL j + 11) + hW j ≤ hW k) && zl_M.any (fun q => decide (q.1 = hO k ∧ q.2.1 = x ∧ q.2.2.1 = j))
    | _ => false
  | .dmul => decide (r = .invokestatic 100 ∧ len = 3 ∧ hO k = 4 ∧ hF 7 + 1 ≤ hF k ∧ 8 + (hL 7 + 11) + hW 7 ≤ hW k)
  | .dadd => match r with
    | .invokestatic x => decide (len = 3 ∧ 1 ≤ hF k ∧ 21 ≤ hW k) && zl_X.any (fun q => decide (q.1 = hO k ∧ q.2.1 = x ∧ q.2.2.1 = 0))
    | _ => false
  | .dsub => match r with
    | .invokestatic x => decide (len = 3 ∧ 1 ≤ hF k ∧ 21 ≤ hW k) && zl_X.any (fun q => decide (q.1 = hO k ∧ q.2.1 = x ∧ q.2.2.1 = 1))
    | _ => false
  | .ireturn => decide (r = .ireturn ∧ hR k = some .int ∧ len = 1)
  | .freturn => decide (r = .ireturn ∧ hR k = some .boolean ∧ len = 1)
  | .lreturn => decide (r = .lreturn ∧ hR k = some .long ∧ len = 1)
  | .areturn => decide (r = .areturn ∧ hR k = some (.object "FoolVotes$Text") ∧ len = 1)
  | .return_ => decide (r = .return_ ∧ hR k = none ∧ len = 1)
  | i => decide (r = i ∧ len = 1)
def zchR (k pc : Nat) (i : Instr) : Option Nat := match decode (hB k) pc with
  | .ok (r, len) => if zmt k pc i r len = true then some (pc + len) else none
  | _ => none
def zch (k pc : Nat) (i : Instr) : Option Nat := match i with
  | .ret _ => some pc
  | .jsr t => if t = (pc : Int) then some pc else none
  | i => zchR k pc i
theorem zchR_s {k pc : Nat} {i : Instr} {q : Nat} (h : zchR k pc i = some q) : ∃ r len, decode (hB k) pc = .ok (r, len) ∧ zmt k pc i r len = true ∧ q = pc + len := by
  unfold zchR at h
  split at h
  · rename_i r len hd
    split at h
    · rename_i hm
      exact ⟨r, len, hd, hm, (Option.some.inj h).symm⟩
    · cases h
  · cases h
