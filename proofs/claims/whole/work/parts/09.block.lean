/-! SWITCHES; THE MAIN RULE: a list of instructions over pure states, checked against the code, is followed by the real machine -/
theorem zsw_look {pc d x' : Int} {x : Int32} {J : Int → Prop} (hx : x.toInt = x') : ∀ (qs : List (Int × Int)), (∀ q ∈ qs, (Int32.ofInt q.1).toInt = q.1) → zsw (qs.map (fun q => (q.1, pc + q.2))) (pc + d) x J → J (pc + Op.lookupswitch.offset qs d x.toInt)
  | [], _, h => h
  | (a, t) :: r, hq, h => by
    have ha : (Int32.ofInt a).toInt = a := hq (a, t) List.mem_cons_self
    by_cases e : x = Int32.ofInt a
    · have h1 := h.1 e
      have e2 : x.toInt = a := by rw [e]; exact ha
      have e3 : Op.lookupswitch.offset ((a, t) :: r) d x.toInt = t := by rw [e2]; simp [Op.lookupswitch.offset]
      rw [e3]
      exact h1
    · rw [lv_osw e ha]
      exact zsw_look hx r (fun q hm => hq q (List.mem_cons_of_mem _ hm)) (h.2 e)
theorem zsw_tab {pc d : Int} {x : Int32} {J : Int → Prop} : ∀ (offs : List Int) (lo : Int), (∀ j, j < offs.length → (Int32.ofInt (lo + (j : Int))).toInt = lo + (j : Int)) → zsw (offs.mapIdx (fun j t => (lo + (j : Int), pc + t))) (pc + d) x J → (x.toInt < lo ∨ lo + (offs.length : Int) - 1 < x.toInt → J (pc + d)) ∧ ∀ (j : Nat) (t : Int), offs[j]? = some t → x.toInt = lo + (j : Int) → J (pc + t)
  | [], lo, _, h => ⟨fun _ => h, fun j t hj _ => by simp at hj⟩
  | t :: r, lo, hq, h => by
    have ha : (Int32.ofInt lo).toInt = lo := by have := hq 0 (by simp); simpa using this
    rw [List.mapIdx_cons] at h
    have e0 : lo + ((0 : Nat) : Int) = lo := by simp
    rw [e0] at h
    have h2 := h.2
    have e1 : r.mapIdx (fun j t => (lo + (((j + 1 : Nat)) : Int), pc + t)) = r.mapIdx (fun j t => ((lo + 1) + (j : Int), pc + t)) := by
      congr 1
      funext j t
      congr 1
      omega
    rw [e1] at h2
    have ih := fun hne => zsw_tab r (lo + 1) (fun j hj => by
      have := hq (j + 1) (by simpa using hj)
      have e : lo + 1 + (j : Int) = lo + (((j + 1 : Nat)) : Int) := by omega
      rw [e]
      exact this) (h2 hne)
    have hiff : x = Int32.ofInt lo ↔ x.toInt = lo := ⟨fun q => by rw [q]; exact ha, fun q => Int32.toInt_inj.mp (by rw [ha]; exact q)⟩
    refine ⟨fun ho => ?_, fun j t' hj hx => ?_⟩
    · simp only [List.length_cons] at ho
      have hne : ¬ x = Int32.ofInt lo := fun q => by have := hiff.mp q; omega
      exact (ih hne).1 (by omega)
    · cases j with
      | zero =>
        simp only [List.getElem?_cons_zero, Option.some.injEq] at hj
        rw [← hj]
        exact h.1 (hiff.mpr (by simpa using hx))
      | succ j =>
        have hne : ¬ x = Int32.ofInt lo := fun q => by have := hiff.mp q; omega
        exact (ih hne).2 j t' (by simpa using hj) (by omega)
theorem st_look {X : zX} {k pc : Nat} {L : List (Option Value)} {S : List Value} {M M' : zM} {res : List Value} {d' : Int} {ps' : Array (Int × Int)} {len : Nat} {x : Int32} {J : Int → Prop} {ps : List (Int × Int)} {d : Int} (hd : decode (hB k) pc = .ok (.lookupswitch d' ps', len)) (hp : (ps'.toList.zip (ps'.toList.drop 1)).all (fun (a, next) => a.1 < next.1) = true) (e1 : ps = ps'.toList.map (fun q => (q.1, (pc : Int) + q.2))) (e2 : (pc : Int) + d' = d) (h0 : 0 ≤ d) (hq : ∀ q ∈ ps, 0 ≤ q.2 ∧ (Int32.ofInt q.1).toInt = q.1)
    (hJ : ∀ t, J t → At X k t.toNat L S M res M') (h : zsw ps d x J) : At X k pc L (.int x :: S) M res M' := by
  subst e1
  subst e2
  have h1 := zsw_look (pc := (pc : Int)) (d := d') rfl ps'.toList (fun q hm => (hq _ (List.mem_map.mpr ⟨q, hm, rfl⟩)).2) h
  have hn : ∀ (qs : List (Int × Int)), (∀ q ∈ qs, 0 ≤ (pc : Int) + q.2) → 0 ≤ (pc : Int) + Op.lookupswitch.offset qs d' x.toInt := by
    intro qs
    induction qs with
    | nil => intro _; exact h0
    | cons q r ih =>
      intro hh
      obtain ⟨a, t⟩ := q
      by_cases e : x.toInt = a
      · have e3 : Op.lookupswitch.offset ((a, t) :: r) d' x.toInt = t := by rw [e]; simp [Op.lookupswitch.offset]
        rw [e3]
        exact hh (a, t) List.mem_cons_self
      · have e3 : Op.lookupswitch.offset ((a, t) :: r) d' x.toInt = Op.lookupswitch.offset r d' x.toInt := by
          simp [Op.lookupswitch.offset, e, Ne.symm e]
        rw [e3]
        exact ih (fun q hm => hh q (List.mem_cons_of_mem _ hm))
  have hpos := hn ps'.toList (fun q hm => (hq _ (List.mem_map.mpr ⟨q, hm, rfl⟩)).1)
  intro p e s m args below meth c H locs ls hz hP hS hL
  exact lv_lookup (tgt := ((pc : Int) + Op.lookupswitch.offset ps'.toList d' x.toInt).toNat) hz.1 hz.2.1 hd hp rfl (by omega) (hJ _ h1 p e s m args below meth c H locs ls hz hP hS hL)
theorem st_table {X : zX} {k pc : Nat} {L : List (Option Value)} {S : List Value} {M M' : zM} {res : List Value} {d' lo hi : Int} {offs : Array Int} {len : Nat} {x : Int32} {J : Int → Prop} {ps : List (Int × Int)} {d : Int} (hd : decode (hB k) pc = .ok (.tableswitch d' lo hi offs, len)) (e1 : ps = offs.toList.mapIdx (fun j t => (lo + (j : Int), (pc : Int) + t))) (ehi : hi = lo + (offs.toList.length : Int) - 1) (e2 : (pc : Int) + d' = d) (h0 : 0 ≤ d) (hq : ∀ q ∈ ps, 0 ≤ q.2 ∧ (Int32.ofInt q.1).toInt = q.1)
    (hJ : ∀ t, J t → At X k t.toNat L S M res M') (h : zsw ps d x J) : At X k pc L (.int x :: S) M res M' := by
  subst e1
  subst e2
  have hmem : ∀ (j : Nat) (t : Int), offs.toList[j]? = some t → (lo + (j : Int), (pc : Int) + t) ∈ offs.toList.mapIdx (fun j t => (lo + (j : Int), (pc : Int) + t)) := by
    intro j t hj
    refine List.mem_of_getElem? (i := j) ?_
    rw [List.getElem?_mapIdx, hj]
    rfl
  obtain ⟨h1, h2⟩ := zsw_tab (pc := (pc : Int)) (d := d') offs.toList lo (fun j hj => (hq _ (hmem j (offs.toList[j]) (List.getElem?_eq_getElem hj))).2) h
  intro p e s m args below meth c H locs ls hz hP hS hL
  by_cases ho : x.toInt < lo ∨ hi < x.toInt
  · exact lv_tableOut (tgt := ((pc : Int) + d').toNat) hz.1 hz.2.1 hd ho (by omega) (hJ _ (h1 (by omega)) p e s m args below meth c H locs ls hz hP hS hL)
  · have hlt : (x.toInt - lo).toNat < offs.toList.length := by omega
    have hj : offs.toList[(x.toInt - lo).toNat]? = some (offs.toList[(x.toInt - lo).toNat]) := List.getElem?_eq_getElem hlt
    have hpos := (hq _ (hmem _ _ hj)).1
    dsimp only at hpos
    exact lv_tableIn (tgt := ((pc : Int) + offs.toList[(x.toInt - lo).toNat]).toNat) hz.1 hz.2.1 hd (fun q => ho (Or.inl q)) (fun q => ho (Or.inr q)) (by rw [← Array.getElem?_toList]; exact hj) (by omega) (hJ _ (h2 _ _ hj (by omega)) p e s m args below meth c H locs ls hz hP hS hL)
set_option maxHeartbeats 4000000 in
theorem sd_stp {X : zX} {k pc pc' : Nat} {i : Instr} {L : List (Option Value)} {S : List Value} {M M' : zM} {res : List Value} {J : Nat → List (Option Value) → List Value → zM → Prop} {K : List (Option Value) → List Value → zM → Prop} (hc : zch k pc i = some pc') (hJ : ∀ t L S M, J t L S M → At X k t L S M res M') (hK : ∀ L S M, K L S M → At X k pc' L S M res M') (h : stp X J res M' i L S M K) : At X k pc L S M res M' := by
  cases i
  case iconst n =>
    obtain ⟨r, len, hd, hm, rfl⟩ := zchR_s hc
    cases r
    case iconst n' =>
      obtain ⟨rfl, rfl⟩ := of_decide_eq_true hm
      exact st_iconst hd rfl (hK _ _ _ h)
    case bipush n' =>
      obtain ⟨e1, rfl⟩ := of_decide_eq_true hm
      exact st_bipush hd e1 (hK _ _ _ h)
    case sipush n' =>
      obtain ⟨e1, rfl⟩ := of_decide_eq_true hm
      exact st_sipush hd e1 (hK _ _ _ h)
    case ldc x =>
      obtain ⟨h1, h2⟩ := Bool.and_eq_true_iff.mp hm
      have h1 := of_decide_eq_true h1
      subst h1
      exact st_ldc h2 hd (hK _ _ _ h)
    case ldc_w x =>
      obtain ⟨h1, h2⟩ := Bool.and_eq_true_iff.mp hm
      have h1 := of_decide_eq_true h1
      subst h1
      exact st_ldcw h2 hd (hK _ _ _ h)
    all_goals exact absurd hm Bool.false_ne_true
  case sipush n =>
    obtain ⟨r, len, hd, hm, rfl⟩ := zchR_s hc
    cases r
    case lconst f =>
      obtain ⟨e1, rfl⟩ := of_decide_eq_true hm
      exact st_lconst hd e1 (hK _ _ _ h)
    case ldc2_w x =>
      obtain ⟨h1, h2⟩ := Bool.and_eq_true_iff.mp hm
      have h1 := of_decide_eq_true h1
      subst h1
      exact st_ldc2 h2 hd (hK _ _ _ h)
    all_goals exact absurd hm Bool.false_ne_true
  case ret j =>
    cases hc
    intro p e s m args below meth c H locs ls hz hP hS hL
    exact hK _ _ _ h p e s m args below meth c H locs ls hz hP hS (zl_forget hL)
  case jsr t =>
    have hc : (if t = (pc : Int) then some pc else none) = some pc' := hc
    split at hc
    · rename_i e
      subst e
      exact hJ pc L S M h
    · cases hc
  case goto t =>
    obtain ⟨r, len, hd, hm, rfl⟩ := zchR_s hc
    cases r
    case goto off =>
      obtain ⟨e1, e2, rfl⟩ := of_decide_eq_true hm
      exact st_goto hd (by omega) (hJ _ _ _ _ h)
    all_goals exact absurd hm Bool.false_ne_true
  case iload j =>
    obtain ⟨r, len, hd, hm, rfl⟩ := zchR_s hc
    have g : (match L[j]? with
      | some (some (.int x)) => K L (.int x :: S) M
      | _ => False) := h
    clear h
    split at g
    · rename_i x hx
      cases r
      case iload j' =>
        obtain ⟨rfl, rfl⟩ := of_decide_eq_true hm
        exact st_iload hd hx (hK _ _ _ g)
      case iload_n f =>
        obtain ⟨e1, rfl⟩ := of_decide_eq_true hm
        exact st_iload_n hd e1 hx (hK _ _ _ g)
      all_goals exact absurd hm Bool.false_ne_true
    · exact g.elim
  case lload j =>
    obtain ⟨r, len, hd, hm, rfl⟩ := zchR_s hc
    have g : (match L[j]? with
      | some (some (.long x)) => K L (.long x :: S) M
      | _ => False) := h
    clear h
    split at g
    · rename_i x hx
      cases r
      case lload j' =>
        obtain ⟨rfl, rfl⟩ := of_decide_eq_true hm
        exact st_lload hd hx (hK _ _ _ g)
      case lload_n f =>
        obtain ⟨e1, rfl⟩ := of_decide_eq_true hm
        exact st_lload_n hd e1 hx (hK _ _ _ g)
      all_goals exact absurd hm Bool.false_ne_true
    · exact g.elim
  case aload j =>
    obtain ⟨r, len, hd, hm, rfl⟩ := zchR_s hc
    have g : (match L[j]? with
      | some (some (.ref x)) => K L (.ref x :: S) M
      | _ => False) := h
    clear h
    split at g
    · rename_i x hx
      cases r
      case aload j' =>
        obtain ⟨rfl, rfl⟩ := of_decide_eq_true hm
        exact st_aload hd hx (hK _ _ _ g)
      case aload_n f =>
        obtain ⟨e1, rfl⟩ := of_decide_eq_true hm
        exact st_aload_n hd e1 hx (hK _ _ _ g)
      all_goals exact absurd hm Bool.false_ne_true
    · exact g.elim
  case istore j =>
    obtain ⟨r, len, hd, hm, rfl⟩ := zchR_s hc
    obtain ⟨x, S', rfl, g1⟩ := p_i_s h
    cases r
    case istore j' =>
      obtain ⟨rfl, rfl, e3⟩ := of_decide_eq_true hm
      exact st_istore hd e3 (hK _ _ _ g1)
    case istore_n f =>
      obtain ⟨e1, rfl, e3⟩ := of_decide_eq_true hm
      exact st_istore_n hd e1 e3 (hK _ _ _ g1)
    all_goals exact absurd hm Bool.false_ne_true
  case lstore j =>
    obtain ⟨r, len, hd, hm, rfl⟩ := zchR_s hc
    obtain ⟨x, S', rfl, g1⟩ := p_l_s h
    cases r
    case lstore j' =>
      obtain ⟨rfl, rfl, e3⟩ := of_decide_eq_true hm
      exact st_lstore hd e3 (hK _ _ _ g1)
    case lstore_n f =>
      obtain ⟨e1, rfl, e3⟩ := of_decide_eq_true hm
      exact st_lstore_n hd e1 e3 (hK _ _ _ g1)
    all_goals exact absurd hm Bool.false_ne_true
  case astore j =>
    obtain ⟨r, len, hd, hm, rfl⟩ := zchR_s hc
    obtain ⟨x, S', rfl, g1⟩ := p_r_s h
    cases r
    case astore j' =>
      obtain ⟨rfl, rfl, e3⟩ := of_decide_eq_true hm
      exact st_astore hd e3 (hK _ _ _ g1)
    case astore_n f =>
      obtain ⟨e1, rfl, e3⟩ := of_decide_eq_true hm
      exact st_astore_n hd e1 e3 (hK _ _ _ g1)
    all_goals exact absurd hm Bool.false_ne_true
  case iinc j n =>
    obtain ⟨r, len, hd, hm, rfl⟩ := zchR_s hc
    obtain ⟨rfl, rfl, e3⟩ := of_decide_eq_true hm
    have g : (match L[j]? with
      | some (some (.int x)) => K (zl_set L j (.int (x + Int32.ofInt n))) S M
      | _ => False) := h
    clear h
    split at g
    · rename_i x hx
      exact st_iinc hd hx e3 (hK _ _ _ g)
    · exact g.elim
  case dup =>
    obtain ⟨r, len, hd, hm, rfl⟩ := zchR_s hc
    obtain ⟨rfl, rfl⟩ := of_decide_eq_true hm
    obtain ⟨v, S', rfl, hv, g1⟩ := p_v_s h
    exact st_dup hd hv (hK _ _ _ g1)
  case pop =>
    obtain ⟨r, len, hd, hm, rfl⟩ := zchR_s hc
    obtain ⟨rfl, rfl⟩ := of_decide_eq_true hm
    obtain ⟨v, S', rfl, hv, g1⟩ := p_v_s h
    exact st_pop hd hv (hK _ _ _ g1)
  case dup2 =>
    obtain ⟨r, len, hd, hm, rfl⟩ := zchR_s hc
    obtain ⟨rfl, rfl⟩ := of_decide_eq_true hm
    obtain ⟨v, S', rfl, hv, g1⟩ := p_v_s h
    obtain ⟨w, S'', rfl, hw, g2⟩ := p_v_s g1
    exact st_dup2 hd hv hw (hK _ _ _ g2)
  case ifCond c t =>
    obtain ⟨r, len, hd, hm, rfl⟩ := zchR_s hc
    obtain ⟨x, S', rfl, g1⟩ := p_i_s h
    cases r
    case ifCond c' off =>
      obtain ⟨rfl, e1, e2, rfl⟩ := of_decide_eq_true hm
      exact st_if hd (by omega) (fun q => hJ _ _ _ _ q) (fun q => hK _ _ _ q) g1
    all_goals exact absurd hm Bool.false_ne_true
  case if_icmp c t =>
    obtain ⟨r, len, hd, hm, rfl⟩ := zchR_s hc
    obtain ⟨y, S', rfl, g1⟩ := p_i_s h
    obtain ⟨x, S'', rfl, g2⟩ := p_i_s g1
    cases r
    case if_icmp c' off =>
      obtain ⟨rfl, e1, e2, rfl⟩ := of_decide_eq_true hm
      exact st_icmp hd (by omega) (fun q => hJ _ _ _ _ q) (fun q => hK _ _ _ q) g2
    all_goals exact absurd hm Bool.false_ne_true
  case lookupswitch d ps =>
    obtain ⟨r, len, hd, hm, rfl⟩ := zchR_s hc
    obtain ⟨x, S', rfl, g1⟩ := p_i_s h
    cases r
    case lookupswitch d' ps' =>
      obtain ⟨e1, e2, e3, e4, e5⟩ := of_decide_eq_true hm
      exact st_look hd e1 e2 e3 e4 e5 (fun t q => hJ _ _ _ _ q) g1
    case tableswitch d' lo hi offs =>
      obtain ⟨e1, e2, e3, e4, e5⟩ := of_decide_eq_true hm
      exact st_table hd e1 e2 e3 e4 e5 (fun t q => hJ _ _ _ _ q) g1
    all_goals exact absurd hm Bool.false_ne_true
  case getfield n =>
    obtain ⟨r, len, hd, hm, rfl⟩ := zchR_s hc
    obtain ⟨q, S', rfl, g1⟩ := p_r_s h
    cases r
    case getfield x =>
      obtain ⟨h1, h2⟩ := Bool.and_eq_true_iff.mp hm
      have h1 := of_decide_eq_true h1
      subst h1
      split at g1
      · rename_i o hs
        split at g1
        · rename_i ho
          split at g1
          · rename_i f hf
            exact st_getfield h2 hd hs ho hf (hK _ _ _ g1)
          · exact g1.elim
        · exact g1.elim
      · exact g1.elim
    all_goals exact absurd hm Bool.false_ne_true
  case putfield n =>
    obtain ⟨r, len, hd, hm, rfl⟩ := zchR_s hc
    obtain ⟨v, S', rfl, g1⟩ := p_i_s h
    obtain ⟨q, S'', rfl, g2⟩ := p_r_s g1
    cases r
    case putfield x =>
      obtain ⟨h1, h3⟩ := Bool.and_eq_true_iff.mp hm
      obtain ⟨h1, h2⟩ := Bool.and_eq_true_iff.mp h1
      have h1 := of_decide_eq_true h1
      obtain ⟨e1, e2⟩ := of_decide_eq_true h3
      subst h1
      split at g2
      · rename_i o hs
        split at g2
        · rename_i ho
          split at g2
          · rename_i hf
            split at g2
            · rename_i hz
              exact st_putfield h2 hd hs ho hf e1 e2 (fun _ => g2.1) (hK _ _ _ g2.2)
            · rename_i hz
              exact st_putfield h2 hd hs ho hf e1 e2 (fun q => absurd q (by rw [← ho, hz]; decide)) (hK _ _ _ g2)
          · exact g2.elim
        · exact g2.elim
      · exact g2.elim
    all_goals exact absurd hm Bool.false_ne_true
  case getstatic x =>
    obtain ⟨r, len, hd, hm, rfl⟩ := zchR_s hc
    obtain ⟨rfl, rfl, e3⟩ := of_decide_eq_true hm
    exact st_gets hd e3 (hK _ _ _ h)
  case iaload =>
    obtain ⟨r, len, hd, hm, rfl⟩ := zchR_s hc
    obtain ⟨rfl, rfl⟩ := of_decide_eq_true hm
    obtain ⟨j, S', rfl, g1⟩ := p_i_s h
    split at g1
    · split at g1
      · rename_i hs
        exact st_iaload hd hs g1.1 (hK _ _ _ g1.2)
      · exact g1.elim
    · exact st_tab hd g1.1 (hK _ _ _ g1.2)
    · exact g1.elim
  case baload =>
    obtain ⟨r, len, hd, hm, rfl⟩ := zchR_s hc
    obtain ⟨rfl, rfl⟩ := of_decide_eq_true hm
    obtain ⟨j, S', rfl, g1⟩ := p_i_s h
    obtain ⟨q, S'', rfl, g2⟩ := p_r_s g1
    split at g2
    · rename_i hs
      exact st_baload hd hs g2.1 (hK _ _ _ g2.2)
    · exact g2.elim
  case iastore =>
    obtain ⟨r, len, hd, hm, rfl⟩ := zchR_s hc
    obtain ⟨rfl, rfl⟩ := of_decide_eq_true hm
    obtain ⟨v, S1, rfl, g1⟩ := p_i_s h
    obtain ⟨j, S2, rfl, g2⟩ := p_i_s g1
    obtain ⟨q, S3, rfl, g3⟩ := p_r_s g2
    split at g3
    · rename_i hs
      exact st_iastore hd hs g3.1 (hK _ _ _ g3.2)
    · exact g3.elim
  case bastore =>
    obtain ⟨r, len, hd, hm, rfl⟩ := zchR_s hc
    obtain ⟨rfl, rfl⟩ := of_decide_eq_true hm
    obtain ⟨v, S1, rfl, g1⟩ := p_i_s h
    obtain ⟨j, S2, rfl, g2⟩ := p_i_s g1
    obtain ⟨q, S3, rfl, g3⟩ := p_r_s g2
    split at g3
    · rename_i hs
      exact st_bastore hd hs g3.1 (hK _ _ _ g3.2)
    · exact g3.elim
  case arraylength =>
    obtain ⟨r, len, hd, hm, rfl⟩ := zchR_s hc
    obtain ⟨rfl, rfl⟩ := of_decide_eq_true hm
    obtain ⟨q, S', rfl, g1⟩ := p_r_s h
    split at g1
    · rename_i hs
      exact st_alen hd hs (hK _ _ _ g1)
    · exact g1.elim
  case invokedynamic w =>
    obtain ⟨r, len, hd, hm, rfl⟩ := zchR_s hc
    obtain ⟨n, S1, rfl, g1⟩ := p_i_s h
    obtain ⟨dp, S2, rfl, g2⟩ := p_i_s g1
    obtain ⟨a, S3, rfl, g3⟩ := p_r_s g2
    obtain ⟨sp, S4, rfl, g4⟩ := p_i_s g3
    obtain ⟨a0, S5, rfl, g5⟩ := p_r_s g4
    cases r
    case invokestatic x =>
      obtain ⟨h1, h2⟩ := Bool.and_eq_true_iff.mp hm
      obtain ⟨rfl, e2, e3⟩ := of_decide_eq_true h1
      split at g5
      · rename_i hs0
        split at g5
        · rename_i hs1
          split at g5
          · rename_i hcs
            obtain ⟨g1, g2, g3, g4, g5, g6⟩ := g5
            exact st_copy h2 ⟨e2, e3⟩ hd hs0 hs1 hcs g1 g2 g3 g4 g5 (hK _ _ _ g6)
          · exact g5.elim
        · exact g5.elim
      · exact g5.elim
    all_goals exact absurd hm Bool.false_ne_true
  case invokeinterface j w =>
    obtain ⟨r, len, hd, hm, rfl⟩ := zchR_s hc
    have g : (match (Nat.ble (w % 16) S.length && Nat.ble (zcats (S.drop (w % 16))) 8 && zrcv (w / 16) (S.take (w % 16)).reverse) with
      | true => ∃ (r : List Value) (M1 : zM), Call X j (S.take (w % 16)).reverse M r M1 ∧ K L (r ++ S.drop (w % 16)) M1
      | false => False) := h
    clear h
    split at g
    · rename_i hb
      obtain ⟨hb1, hb3⟩ := Bool.and_eq_true_iff.mp hb
      obtain ⟨hb1, hb2⟩ := Bool.and_eq_true_iff.mp hb1
      have hb1 := Nat.le_of_ble_eq_true hb1
      have hb2 := Nat.le_of_ble_eq_true hb2
      obtain ⟨r1, M1, hC, g⟩ := g
      have hSe : S = (S.take (w % 16)).reverse.reverse ++ S.drop (w % 16) := by rw [List.reverse_reverse, List.take_append_drop]
      have hlen : (S.take (w % 16)).reverse.length = w % 16 := by rw [List.length_reverse, List.length_take]; omega
      rw [hSe]
      cases r
      case invokestatic x =>
        obtain ⟨h1, h2⟩ := Bool.and_eq_true_iff.mp hm
        obtain ⟨rfl, e2, e3, e4, e5, e6⟩ := of_decide_eq_true h1
        exact st_callS h2 e3 (hlen.trans e4) ⟨e5, e6⟩ hd hb2 hC (hK _ _ _ g)
      case invokevirtual x =>
        obtain ⟨h1, h2⟩ := Bool.and_eq_true_iff.mp hm
        obtain ⟨rfl, e2, e3, e4, e5, e6, e7, e8⟩ := of_decide_eq_true h1
        rw [e2] at hb3
        generalize (S.take (w % 16)).reverse = as at hb3 hC hlen ⊢
        unfold zrcv at hb3
        simp only at hb3
        split at hb3
        · rename_i b as'
          split at hb3
          · rename_i o hs
            exact st_callV h2 e4 (hlen.trans e5) e3 hs (by simpa using hb3) ⟨e7, e8⟩ hd hb2 hC (hK _ _ _ g)
          · cases hb3
        · cases hb3
      all_goals exact absurd hm Bool.false_ne_true
    · exact g.elim
  case dmul =>
    obtain ⟨r, len, hd, hm, rfl⟩ := zchR_s hc
    have g : (match (Nat.ble 2 S.length && Nat.ble (zcats (S.drop 2)) 8) with
      | true => ∃ (r : List Value) (M1 : zM), Call X 7 (S.take 2).reverse M r M1 ∧ K L (r ++ S.drop 2) M1
      | false => False) := h
    clear h
    split at g
    · rename_i hb
      obtain ⟨hb1, hb2⟩ := Bool.and_eq_true_iff.mp hb
      have hb1 := Nat.le_of_ble_eq_true hb1
      have hb2 := Nat.le_of_ble_eq_true hb2
      obtain ⟨r1, M1, hC, g⟩ := g
      have hSe : S = (S.take 2).reverse.reverse ++ S.drop 2 := by rw [List.reverse_reverse, List.take_append_drop]
      have hlen : (S.take 2).reverse.length = 2 := by rw [List.length_reverse, List.length_take]; omega
      rw [hSe]
      obtain ⟨rfl, rfl, e3, e4, e5⟩ := of_decide_eq_true hm
      exact st_callN e3 hlen ⟨e4, e5⟩ hd hb2 hC (hK _ _ _ g)
    · exact g.elim
  case dadd =>
    obtain ⟨r, len, hd, hm, rfl⟩ := zchR_s hc
    obtain ⟨y, S', rfl, g1⟩ := p_i_s h
    obtain ⟨x, S'', rfl, g2⟩ := p_i_s g1
    split at g2
    · rename_i hcs
      cases r
      case invokestatic w =>
        obtain ⟨h1, h2⟩ := Bool.and_eq_true_iff.mp hm
        obtain ⟨rfl, e2, e3⟩ := of_decide_eq_true h1
        exact st_max h2 ⟨e2, e3⟩ hd hcs (hK _ _ _ g2)
      all_goals exact absurd hm Bool.false_ne_true
    · exact g2.elim
  case dsub =>
    obtain ⟨r, len, hd, hm, rfl⟩ := zchR_s hc
    obtain ⟨y, S', rfl, g1⟩ := p_i_s h
    obtain ⟨x, S'', rfl, g2⟩ := p_i_s g1
    split at g2
    · rename_i hcs
      cases r
      case invokestatic w =>
        obtain ⟨h1, h2⟩ := Bool.and_eq_true_iff.mp hm
        obtain ⟨rfl, e2, e3⟩ := of_decide_eq_true h1
        exact st_min h2 ⟨e2, e3⟩ hd hcs (hK _ _ _ g2)
      all_goals exact absurd hm Bool.false_ne_true
    · exact g2.elim
  case idiv =>
    obtain ⟨r, len, hd, hm, rfl⟩ := zchR_s hc
    obtain ⟨rfl, rfl⟩ := of_decide_eq_true hm
    obtain ⟨y, S', rfl, g1⟩ := p_i_s h
    obtain ⟨x, S'', rfl, g2⟩ := p_i_s g1
    exact st_idiv hd g2.1 (hK _ _ _ g2.2)
  case irem =>
    obtain ⟨r, len, hd, hm, rfl⟩ := zchR_s hc
    obtain ⟨rfl, rfl⟩ := of_decide_eq_true hm
    obtain ⟨y, S', rfl, g1⟩ := p_i_s h
    obtain ⟨x, S'', rfl, g2⟩ := p_i_s g1
    exact st_irem hd g2.1 (hK _ _ _ g2.2)
  case ldiv =>
    obtain ⟨r, len, hd, hm, rfl⟩ := zchR_s hc
    obtain ⟨rfl, rfl⟩ := of_decide_eq_true hm
    obtain ⟨y, S', rfl, g1⟩ := p_l_s h
    obtain ⟨x, S'', rfl, g2⟩ := p_l_s g1
    exact st_ldiv hd g2.1 (hK _ _ _ g2.2)
  case lrem =>
    obtain ⟨r, len, hd, hm, rfl⟩ := zchR_s hc
    obtain ⟨rfl, rfl⟩ := of_decide_eq_true hm
    obtain ⟨y, S', rfl, g1⟩ := p_l_s h
    obtain ⟨x, S'', rfl, g2⟩ := p_l_s g1
    exact st_lrem hd g2.1 (hK _ _ _ g2.2)
  case iadd =>
    obtain ⟨r, len, hd, hm, rfl⟩ := zchR_s hc
    obtain ⟨rfl, rfl⟩ := of_decide_eq_true hm
    obtain ⟨y, S', rfl, g1⟩ := p_i_s h
    obtain ⟨x, S'', rfl, g2⟩ := p_i_s g1
    exact st_iadd hd (hK _ _ _ g2)
  case isub =>
    obtain ⟨r, len, hd, hm, rfl⟩ := zchR_s hc
    obtain ⟨rfl, rfl⟩ := of_decide_eq_true hm
    obtain ⟨y, S', rfl, g1⟩ := p_i_s h
    obtain ⟨x, S'', rfl, g2⟩ := p_i_s g1
    exact st_isub hd (hK _ _ _ g2)
  case imul =>
    obtain ⟨r, len, hd, hm, rfl⟩ := zchR_s hc
    obtain ⟨rfl, rfl⟩ := of_decide_eq_true hm
    obtain ⟨y, S', rfl, g1⟩ := p_i_s h
    obtain ⟨x, S'', rfl, g2⟩ := p_i_s g1
    exact st_imul hd (hK _ _ _ g2)
  case iand =>
    obtain ⟨r, len, hd, hm, rfl⟩ := zchR_s hc
    obtain ⟨rfl, rfl⟩ := of_decide_eq_true hm
    obtain ⟨y, S', rfl, g1⟩ := p_i_s h
    obtain ⟨x, S'', rfl, g2⟩ := p_i_s g1
    exact st_iand hd (hK _ _ _ g2)
  case ior =>
    obtain ⟨r, len, hd, hm, rfl⟩ := zchR_s hc
    obtain ⟨rfl, rfl⟩ := of_decide_eq_true hm
    obtain ⟨y, S', rfl, g1⟩ := p_i_s h
    obtain ⟨x, S'', rfl, g2⟩ := p_i_s g1
    exact st_ior hd (hK _ _ _ g2)
  case ixor =>
    obtain ⟨r, len, hd, hm, rfl⟩ := zchR_s hc
    obtain ⟨rfl, rfl⟩ := of_decide_eq_true hm
    obtain ⟨y, S', rfl, g1⟩ := p_i_s h
    obtain ⟨x, S'', rfl, g2⟩ := p_i_s g1
    exact st_ixor hd (hK _ _ _ g2)
  case ishl =>
    obtain ⟨r, len, hd, hm, rfl⟩ := zchR_s hc
    obtain ⟨rfl, rfl⟩ := of_decide_eq_true hm
    obtain ⟨y, S', rfl, g1⟩ := p_i_s h
    obtain ⟨x, S'', rfl, g2⟩ := p_i_s g1
    exact st_ishl hd (hK _ _ _ g2)
  case ishr =>
    obtain ⟨r, len, hd, hm, rfl⟩ := zchR_s hc
    obtain ⟨rfl, rfl⟩ := of_decide_eq_true hm
    obtain ⟨y, S', rfl, g1⟩ := p_i_s h
    obtain ⟨x, S'', rfl, g2⟩ := p_i_s g1
    exact st_ishr hd (hK _ _ _ g2)
  case iushr =>
    obtain ⟨r, len, hd, hm, rfl⟩ := zchR_s hc
    obtain ⟨rfl, rfl⟩ := of_decide_eq_true hm
    obtain ⟨y, S', rfl, g1⟩ := p_i_s h
    obtain ⟨x, S'', rfl, g2⟩ := p_i_s g1
    exact st_iushr hd (hK _ _ _ g2)
  case ladd =>
    obtain ⟨r, len, hd, hm, rfl⟩ := zchR_s hc
    obtain ⟨rfl, rfl⟩ := of_decide_eq_true hm
    obtain ⟨y, S', rfl, g1⟩ := p_l_s h
    obtain ⟨x, S'', rfl, g2⟩ := p_l_s g1
    exact st_ladd hd (hK _ _ _ g2)
  case lsub =>
    obtain ⟨r, len, hd, hm, rfl⟩ := zchR_s hc
    obtain ⟨rfl, rfl⟩ := of_decide_eq_true hm
    obtain ⟨y, S', rfl, g1⟩ := p_l_s h
    obtain ⟨x, S'', rfl, g2⟩ := p_l_s g1
    exact st_lsub hd (hK _ _ _ g2)
  case lmul =>
    obtain ⟨r, len, hd, hm, rfl⟩ := zchR_s hc
    obtain ⟨rfl, rfl⟩ := of_decide_eq_true hm
    obtain ⟨y, S', rfl, g1⟩ := p_l_s h
    obtain ⟨x, S'', rfl, g2⟩ := p_l_s g1
    exact st_lmul hd (hK _ _ _ g2)
  case lcmp =>
    obtain ⟨r, len, hd, hm, rfl⟩ := zchR_s hc
    obtain ⟨rfl, rfl⟩ := of_decide_eq_true hm
    obtain ⟨y, S', rfl, g1⟩ := p_l_s h
    obtain ⟨x, S'', rfl, g2⟩ := p_l_s g1
    exact st_lcmp hd (hK _ _ _ g2)
  case lshl =>
    obtain ⟨r, len, hd, hm, rfl⟩ := zchR_s hc
    obtain ⟨rfl, rfl⟩ := of_decide_eq_true hm
    obtain ⟨y, S', rfl, g1⟩ := p_i_s h
    obtain ⟨x, S'', rfl, g2⟩ := p_l_s g1
    exact st_lshl hd (hK _ _ _ g2)
  case ineg =>
    obtain ⟨r, len, hd, hm, rfl⟩ := zchR_s hc
    obtain ⟨rfl, rfl⟩ := of_decide_eq_true hm
    obtain ⟨x, S', rfl, g1⟩ := p_i_s h
    exact st_ineg hd (hK _ _ _ g1)
  case i2l =>
    obtain ⟨r, len, hd, hm, rfl⟩ := zchR_s hc
    obtain ⟨rfl, rfl⟩ := of_decide_eq_true hm
    obtain ⟨x, S', rfl, g1⟩ := p_i_s h
    exact st_i2l hd (hK _ _ _ g1)
  case l2i =>
    obtain ⟨r, len, hd, hm, rfl⟩ := zchR_s hc
    obtain ⟨rfl, rfl⟩ := of_decide_eq_true hm
    obtain ⟨x, S', rfl, g1⟩ := p_l_s h
    exact st_l2i hd (hK _ _ _ g1)
  case i2b =>
    obtain ⟨r, len, hd, hm, rfl⟩ := zchR_s hc
    obtain ⟨rfl, rfl⟩ := of_decide_eq_true hm
    obtain ⟨x, S', rfl, g1⟩ := p_i_s h
    exact st_i2b hd (hK _ _ _ g1)
  case i2s =>
    obtain ⟨r, len, hd, hm, rfl⟩ := zchR_s hc
    obtain ⟨rfl, rfl⟩ := of_decide_eq_true hm
    obtain ⟨x, S', rfl, g1⟩ := p_i_s h
    exact st_i2s hd (hK _ _ _ g1)
  case ireturn =>
    obtain ⟨r, len, hd, hm, rfl⟩ := zchR_s hc
    obtain ⟨rfl, e2, rfl⟩ := of_decide_eq_true hm
    have g : (match (generalizing := false) S with
      | [.int v] => res = [.int v] ∧ M' = M
      | _ => False) := h
    split at g
    · obtain ⟨rfl, rfl⟩ := g
      exact st_ireturn hd e2
    · exact g.elim
  case lreturn =>
    obtain ⟨r, len, hd, hm, rfl⟩ := zchR_s hc
    obtain ⟨rfl, e2, rfl⟩ := of_decide_eq_true hm
    have g : (match (generalizing := false) S with
      | [.long v] => res = [.long v] ∧ M' = M
      | _ => False) := h
    split at g
    · obtain ⟨rfl, rfl⟩ := g
      exact st_lreturn hd e2
    · exact g.elim
  case areturn =>
    obtain ⟨r, len, hd, hm, rfl⟩ := zchR_s hc
    obtain ⟨rfl, e2, rfl⟩ := of_decide_eq_true hm
    have g : (match (generalizing := false) S with
      | [.ref v] => res = [.ref v] ∧ M' = M
      | _ => False) := h
    split at g
    · obtain ⟨rfl, rfl⟩ := g
      exact st_areturn hd e2
    · exact g.elim
  case return_ =>
    obtain ⟨r, len, hd, hm, rfl⟩ := zchR_s hc
    obtain ⟨rfl, e2, rfl⟩ := of_decide_eq_true hm
    have g : (match (generalizing := false) S with
      | [] => res = [] ∧ M' = M
      | _ => False) := h
    split at g
    · obtain ⟨rfl, rfl⟩ := g
      exact st_return hd e2
    · exact g.elim
  case freturn =>
    obtain ⟨r, len, hd, hm, rfl⟩ := zchR_s hc
    obtain ⟨rfl, e2, rfl⟩ := of_decide_eq_true hm
    have g : (match (generalizing := false) S with
      | [.int v] => (v = 0 ∨ v = 1) ∧ res = [.int v] ∧ M' = M
      | _ => False) := h
    split at g
    · obtain ⟨h1, rfl, rfl⟩ := g
      exact st_zreturn h1 hd e2
    · exact g.elim
  all_goals exact False.elim h
/-- instructions one behind another; a jump comes to J -/
def evP (X : zX) (J : Nat → List (Option Value) → List Value → zM → Prop) (res : List Value) (M' : zM) : List Instr → List (Option Value) → List Value → zM → Prop
  | [], _, _, _ => False
  | i :: cs, L, S, M => stp X J res M' i L S M (fun L S M => evP X J res M' cs L S M)
def zck (k : Nat) : Nat → List Instr → Bool
  | _, [] => true
  | pc, i :: cs => match zch k pc i with
    | some pc' => zck k pc' cs
    | none => false
/-- THE BLOCK RULE -/
theorem At.blk {X : zX} {k : Nat} {M' : zM} {res : List Value} : ∀ (cs : List Instr) {pc : Nat} {L : List (Option Value)} {S : List Value} {M : zM}, zck k pc cs = true → evP X (fun t L S M => At X k t L S M res M') res M' cs L S M → At X k pc L S M res M'
  | [], _, _, _, _, _, h => False.elim h
  | i :: cs, pc, L, S, M, hc, h => by
    unfold zck at hc
    split at hc
    · rename_i pc' hi
      exact sd_stp hi (fun t L S M q => q) (fun L S M q => At.blk cs hc q) h
    · cases hc
