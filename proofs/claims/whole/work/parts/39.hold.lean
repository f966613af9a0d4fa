/-! hold -/
theorem q_rm_in {w o l g c t : Nat} (hl : l < 8) (hg : g < 3) : (q_rm w o l g c t).1 < 8 ∧ (q_rm w o l g c t).2.1 < 3 := by
  unfold q_rm
  split
  · simp; omega
  · split
    · simp; omega
    · split
      · simp; omega
      · simp; omega
theorem q_run_wv {I : q_N} {E : q_E} (hwf : q_wf I) : ∀ (l : List Nat) (v : Nat), v < I 0 0 → (q_run I E l).1 0 v < 8 ∧ (q_run I E l).1 1 v < 3
  | [], v, hv => by
    obtain ⟨-, h2, -⟩ := hwf
    exact ⟨(h2 v hv).2.1, (h2 v hv).2.2.1⟩
  | m :: l, v, hv => by
    have ih := q_run_wv (E := E) hwf l v hv
    have h := q_rm_in (w := q_sd I E (q_run I E l).1 m (fun _ => 0) (I 0 0) v) (o := q_b (q_ps I E (q_run I E l).1 m)) (c := (q_run I E l).1 2 v) (t := (q_run I E l).1 3 v) ih.1 ih.2
    simp only [q_run, q_V, if_pos hv]
    exact h
theorem q_sd_le (I : q_N) (E : q_E) (V : q_N) (m : Nat) : ∀ p v, q_sd I E V m (fun _ => 0) p v ≤ 2
  | 0, v => by simp [q_sd]
  | p + 1, v => by
    have e : q_sd I E V m (fun _ => 0) (p + 1) v = if v = I 4 p then q_wd I E V m (I 4 p) (q_sp I E V m p).2.2 (q_sp I E V m p).1 (q_sp I E V m p).2.1 else q_sd I E V m (fun _ => 0) p v := rfl
    rw [e]
    split
    · exact q_wd_lt I E V m _ _ _ _ (q_sp_in I E V m p).2
    · exact q_sd_le I E V m p v
def q_DH (o : Nat) : Nat → Nat → Prop := fun a b => (o < a ∧ a ≤ o + 8) ∨ (a = o ∧ (b = 4 ∨ b = 5 ∨ b = 10 ∨ b = 11 ∨ b = 12))
def q_HV (o : Nat) (I V : q_N) (M1 : zM) : Prop := ∀ v, v < I 0 0 → M1 (o + 5) v = nI (V 0 v) ∧ M1 (o + 6) v = nI (V 1 v) ∧ M1 (o + 7) v = nI (V 2 v) ∧ M1 (o + 8) v = nI (V 3 v)
def q_HO (o : Nat) (I O : q_N) (l : List Nat) (M1 : zM) : Prop := ∀ m, m ∈ l → M1 (o + 2) m = nI (O 1 m) ∧ M1 (o + 3) m = nI (O 2 m) ∧ M1 (o + 4) m = nI (O 3 m) ∧ ∀ v, v < I 0 0 → M1 (o + 1) (8 * m + v) = nI (O 0 (8 * m + v))
def q_HB (O : q_N) (x : Nat) (l : List Nat) (pb : Nat) : Prop := pb < 4096 ∧ ∀ m, pb.testBit m = decide (m ∈ l ∧ O x m = 1)
def q_HI (o : Nat) (I : q_N) (E : q_E) (l : List Nat) (M M1 : zM) : Prop := q_fr (q_DH o) M M1 ∧ q_HV o I (q_run I E l).1 M1 ∧ q_HO o I (q_run I E l).2 l M1 ∧ (∃ pb, q_HB (q_run I E l).2 4 l pb ∧ M1 o 4 = nI pb) ∧ ∃ db, q_HB (q_run I E l).2 5 l db ∧ M1 o 5 = nI db
theorem q_HB_s {I : q_N} {E : q_E} {V O : q_N} {l : List Nat} {m pb x : Nat} {b : Bool} (h : q_HB O x l pb) (hm : m < 12) (hn : m ∉ l) (hx : ∀ j, q_O I E V O m x j = if j = m then q_b b else O x j) : q_HB (q_O I E V O m) x (m :: l) (pb ||| (if b = true then 2 ^ m else 0)) := by
  refine ⟨?_, fun j => ?_⟩
  · cases b with
    | true => exact q_set_lt (k := 12) h.1 hm
    | false => simpa using h.1
  · rw [hx j]
    cases b with
    | true =>
      rw [if_pos rfl, q_set, h.2 j]
      by_cases e : j = m
      · subst e; simp [q_b]
      · simp [e]
    | false =>
      simp only [Bool.false_eq_true, if_false, Nat.or_zero]
      rw [h.2 j]
      by_cases e : j = m
      · subst e; simp [q_b, hn]
      · simp [e]
theorem q_ord_mem {I : q_N} {m : Nat} : m ∈ q_ord I ↔ m < I 5 0 ∧ I 6 m < 24 := by
  unfold q_ord
  simp only [List.mem_flatMap, List.mem_range, List.mem_filter, beq_iff_eq]
  constructor
  · rintro ⟨y, h1, h2, h3⟩
    exact ⟨h2, by omega⟩
  · rintro ⟨h1, h2⟩
    exact ⟨I 6 m, h2, h1, rfl⟩
theorem q_ord_nodup (I : q_N) : (q_ord I).Nodup := by
  unfold q_ord
  rw [List.Nodup, List.pairwise_flatMap]
  refine ⟨fun y _ => List.Pairwise.filter _ List.nodup_range, ?_⟩
  refine List.Pairwise.imp ?_ (List.nodup_range (n := 24))
  intro a b hab x hx y hy e
  simp only [List.mem_filter, beq_iff_eq] at hx hy
  exact hab (by rw [← hx.2, ← hy.2, e])
theorem q_take_s {l : List Nat} {t x : Nat} (h : l[t]? = some x) : (l.take (t + 1)).reverse = x :: (l.take t).reverse := by
  have hl := (List.getElem?_eq_some_iff.mp h)
  obtain ⟨h1, h2⟩ := hl
  rw [List.take_succ, h]
  simp
theorem q_notin {l : List Nat} {t x : Nat} (h : l[t]? = some x) (hn : l.Nodup) : x ∉ (l.take t).reverse := by
  intro hx
  rw [List.mem_reverse] at hx
  obtain ⟨i, hi, e⟩ := List.mem_take_iff_getElem.mp hx
  obtain ⟨h1, h2⟩ := List.getElem?_eq_some_iff.mp h
  have := (List.nodup_iff_pairwise_ne.mp hn)
  have hne := (List.pairwise_iff_getElem.mp this) i t (by omega) h1 (by omega)
  exact hne (by rw [e, h2])
/-- the measures of a canton, in their turn -/
def q_cm (M : zM) (c yr tr tu : Nat) (I : q_N) : Prop := M c 5 = nI (I 5 0) ∧ (∀ m, m < I 5 0 → M yr m = nI (I 6 m) ∧ M tr m = nI (I 7 m)) ∧ (∀ t x, (q_ord I)[t]? = some x → M tu t = nI x) ∧ (q_ord I).length = I 5 0 ∧ M c 13 = nI (I 8 0) ∧ M c 14 = nI (I 8 1)
theorem q_holdL_a {X : zX} {M : zM} {I : q_N} {ne held : Nat} {K : q_N} (hwf : q_wf I) (hcv : q_cv M 5 6 7 8 9 I) (hcm : q_cm M 5 10 11 12 I) (he : q_evs M 5 13 14 15 ne K) (hh : held < 2 ^ 31) : ∀ (d t : Nat) (M1 : zM) (l4 l5 : Option Value), t + d = I 5 0 → q_HI 16 I (q_told ne held K) ((q_ord I).take t).reverse M M1 → ∃ M', At X 13 66 [some (.ref 16), some (.ref 5), some (.int (nI held)), some (.int (nI t)), l4, l5] [] M1 [] M' ∧ q_HI 16 I (q_told ne held K) (q_ord I).reverse M M' := by
  obtain ⟨m1, m2, m3, m4, m5, m6⟩ := hcm
  have hwf0 := hwf
  obtain ⟨w1, w2, w3, w4, w5, w6, w7⟩ := hwf
  generalize hE : q_told ne held K = E
  intro d
  induction d with
  | zero =>
    intro t M1 l4 l5 ht hI
    have ht : t = I 5 0 := by omega
    have e5 : M1 5 5 = nI (I 5 0) := by rw [hI.1 5 5 (by unfold q_DH; omega)]; exact m1
    refine ⟨M1, sg_Vo_hold_a_66 ⟨fun _ => ⟨rfl, rfl⟩, fun c => absurd (q_yle e5 (by omega) (by omega)) c⟩, ?_⟩
    rw [List.take_of_length_le (by omega)] at hI
    exact hI
  | succ d ih =>
    intro t M1 l4 l5 ht hI
    have hlt : t < (q_ord I).length := by omega
    obtain ⟨m, hmt⟩ : ∃ m, (q_ord I)[t]? = some m := ⟨_, List.getElem?_eq_getElem hlt⟩
    have hmo := q_ord_mem.mp (List.mem_of_getElem? hmt)
    have hm := hmo.1
    have hm12 : m < 12 := by omega
    have hnin := q_notin hmt (q_ord_nodup I)
    have hnx := q_take_s hmt
    generalize hl : ((q_ord I).take t).reverse = l at hI hnin hnx
    obtain ⟨f1, hHV, hHO, ⟨pb, hpb, p4⟩, ⟨db, hdb, p5⟩⟩ := hI
    have wv := q_run_wv (E := E) hwf0 l
    generalize hs : q_run I E l = s at hHV hHO hpb hdb wv
    have fr : ∀ a b, ¬ q_DH 16 a b → M1 a b = M a b := f1
    have e5 : M1 5 5 = nI (I 5 0) := by rw [fr 5 5 (by unfold q_DH; omega)]; exact m1
    have g7 : M1 12 t = nI m := by rw [fr 12 t (by unfold q_DH; omega)]; exact m3 t m hmt
    have gy : M1 10 m = nI (I 6 m) := by rw [fr 10 m (by unfold q_DH; omega)]; exact (m2 m hm).1
    have gt : M1 11 m = nI (I 7 m) := by rw [fr 11 m (by unfold q_DH; omega)]; exact (m2 m hm).2
    have ec : (nI t).toNatClampNeg = t := q_cl (by omega)
    have em : (nI m).toNatClampNeg = m := q_cl (by omega)
    have hinm : vp_in (nI m) 12 := q_in hm12 (by omega)
    have e1 : nI t + (1 : Int32) = nI (t + 1) := nI_1 t
    have he1 : q_evs M1 5 13 14 15 ne K := by
      obtain ⟨q1, q2, q3⟩ := he
      refine ⟨by rw [fr 5 9 (by unfold q_DH; omega)]; exact q1, q2, fun i hi => ?_⟩
      rw [fr 13 i (by unfold q_DH; omega), fr 14 i (by unfold q_DH; omega), fr 15 i (by unfold q_DH; omega)]
      exact q3 i hi
    obtain ⟨M2, hC2, l1, l2, l3, hb, lh1, lh2, lh3⟩ := q_look_a (X := X) he1 hh (w5 m hm).1
    have lE : ∀ k v, q_tl K held k (I 6 m) v ne = E k (I 6 m) v := fun k v => by rw [← hE]; rfl
    rw [lE] at l2 l3
    simp only [lE] at lh3
    have ft : ∀ a b, a ≠ 16 → M2 a b = M1 a b := fun a b hn => l1 a b (by unfold q_DL; omega)
    have htr : (if M2 16 10 = 0 then M2 11 m else (M2 11 m ||| (1 : Int32))) = nI (q_tr I E m) := by
      rw [l2, ft 11 m (by omega), gt]
      unfold q_tr
      cases hq : E 0 (I 6 m) 0 with
      | true => rw [if_neg (by decide), show (1 : Int32) = nI 1 from rfl, q_or]; rfl
      | false => rw [if_pos (by decide)]; simp [q_b]
    have hcv2 : q_cv M2 5 6 7 8 9 I := by
      obtain ⟨q1, q2⟩ := hcv
      refine ⟨by rw [ft 5 0 (by omega), fr 5 0 (by unfold q_DH; omega)]; exact q1, fun v hv => ?_⟩
      rw [ft 6 v (by omega), fr 6 v (by unfold q_DH; omega), ft 7 v (by omega), fr 7 v (by unfold q_DH; omega), ft 8 v (by omega), fr 8 v (by unfold q_DH; omega), ft 9 v (by omega), fr 9 v (by unfold q_DH; omega)]
      exact q2 v hv
    obtain ⟨M3, hC3, s1, s2⟩ := q_speak_a (X := X) (E := E) (V := s.1) (M := M2) hwf0 hm hcv2 (fun v hv => ⟨by rw [ft 21 v (by omega)]; exact (hHV v hv).1, (wv v hv).1⟩) lh1 lh2 lh3
    have fs : ∀ a b, a ≠ 17 → M3 a b = M2 a b := fun a b hn => s1 a b (by unfold q_DS; omega)
    have hsp := (q_sp_in I E s.1 m (I 0 0)).1
    have hff : q_ff I E m = q_for (I 8 0) (q_tr I E m) := rfl
    have hC4 := q_dec_a (X := X) (M := zu (zu M3 18 m (nI (q_ay I E s.1 m))) 19 m (nI (q_no I E s.1 m))) (m := m) (a := q_ay I E s.1 m) (n := q_no I E s.1 m) (f := q_b (q_ff I E m)) (w := I 8 1) (pb := pb) (db := db) (ap := E 1 (I 6 m) 0) hm12 (by simp [zu_at]) (by simp [zu_at]) (by unfold q_ay q_no; omega) (by rw [zu_at, if_neg (by omega), zu_at, if_neg (by omega), fs _ _ (by omega)]; exact l3) (q_b_lt _) w7 (by rw [zu_at, if_neg (by omega), zu_at, if_neg (by omega), fs _ _ (by omega), l1 _ _ (by unfold q_DL; omega)]; exact p4) (by rw [zu_at, if_neg (by omega), zu_at, if_neg (by omega), fs _ _ (by omega), l1 _ _ (by unfold q_DL; omega)]; exact p5) (q_ps I E s.1 m) (q_dc I E s.1 m) (by
      unfold q_ps q_wt
      cases E 1 (I 6 m) 0 <;> cases q_ff I E m <;> simp [q_b, Nat.blt_eq]) rfl
    have hpbB := q_HB_s (I := I) (E := E) (V := s.1) (O := s.2) (x := 4) (b := q_ps I E s.1 m) hpb hm12 hnin (fun j => rfl)
    have hdbB := q_HB_s (I := I) (E := E) (V := s.1) (O := s.2) (x := 5) (b := q_dc I E s.1 m) hdb hm12 hnin (fun j => rfl)
    generalize hpb' : (pb ||| (if q_ps I E s.1 m = true then 2 ^ m else 0)) = pb' at hC4 hpbB
    generalize hdb' : (db ||| (if q_dc I E s.1 m = true then 2 ^ m else 0)) = db' at hC4 hdbB
    generalize hM4 : (zu (zu (zu (zu (zu M3 18 m (nI (q_ay I E s.1 m))) 19 m (nI (q_no I E s.1 m))) 20 m (nI (if E 1 (I 6 m) 0 = true then 2 else q_b (q_ff I E m)))) 16 4 (nI pb')) 16 5 (nI db')) = M4 at hC4
    have a4 : ∀ a b, M4 a b = if a = 16 ∧ b = 5 then nI db' else if a = 16 ∧ b = 4 then nI pb' else if a = 20 ∧ b = m then nI (q_fd I E m) else if a = 19 ∧ b = m then nI (q_no I E s.1 m) else if a = 18 ∧ b = m then nI (q_ay I E s.1 m) else M3 a b := by
      intro a b
      rw [← hM4]
      simp only [zu_at]
      rfl
    have f4 : ∀ a b, ¬ ((a = 16 ∧ (b = 4 ∨ b = 5)) ∨ (b = m ∧ (a = 18 ∨ a = 19 ∨ a = 20))) → M4 a b = M3 a b := by
      intro a b hn
      rw [a4, if_neg (by omega), if_neg (by omega), if_neg (by omega), if_neg (by omega), if_neg (by omega)]
    have hpm : pb'.testBit m = q_ps I E s.1 m := by
      rw [hpbB.2 m]
      have : q_O I E s.1 s.2 m 4 m = q_b (q_ps I E s.1 m) := by simp [q_O]
      rw [this]
      cases q_ps I E s.1 m <;> simp [q_b]
    obtain ⟨M5, hC5, r1, r2⟩ := q_rem_a (X := X) (M := M4) (nv := I 0 0) (m := m) (pb := pb') (V := s.1) (sd := fun v => q_sd I E s.1 m (fun _ => 0) (I 0 0) v) w1 (by rw [f4 _ _ (by omega), fs _ _ (by omega)]; exact hcv2.1) hm12 (by have := hpbB.1; omega) (by rw [a4, if_neg (by omega), if_pos ⟨rfl, rfl⟩]) (fun v hv => ⟨by rw [f4 _ _ (by omega)]; exact s2 v hv, q_sd_le I E s.1 m _ v⟩) (fun v hv => by
      rw [f4 21 v (by omega), fs _ _ (by omega), ft _ _ (by omega), f4 22 v (by omega), fs _ _ (by omega), ft _ _ (by omega), f4 23 v (by omega), fs _ _ (by omega), ft _ _ (by omega), f4 24 v (by omega), fs _ _ (by omega), ft _ _ (by omega)]
      obtain ⟨q1, q2, q3, q4⟩ := hHV v hv
      exact ⟨q1, (wv v hv).1, q2, (wv v hv).2, q3, q4⟩)
    rw [hpm] at r2
    have f5 : ∀ a b, ¬ (21 ≤ a ∧ a ≤ 24) → M5 a b = M4 a b := fun a b hn => r1 a b (by unfold q_DR; omega)
    have hI2 : q_HI 16 I E (m :: l) M M5 := by
      refine ⟨?_, ?_, ?_, ⟨pb', ?_, ?_⟩, ⟨db', ?_, ?_⟩⟩
      · intro a b hn
        unfold q_DH at hn
        rw [f5 a b (by omega), f4 a b (by omega), fs a b (by omega), l1 a b (by unfold q_DL; omega)]
        exact fr a b (by unfold q_DH; omega)
      · intro v hv
        obtain ⟨q1, q2, q3, q4⟩ := r2 v hv
        have e : (q_run I E (m :: l)).1 = q_V I E s.1 m := by rw [← hs]; rfl
        rw [e]
        simp only [q_V, if_pos hv]
        exact ⟨q1, q2, q3, q4⟩
      · intro j hj
        have e : (q_run I E (m :: l)).2 = q_O I E s.1 s.2 m := by rw [← hs]; rfl
        rw [e]
        show M5 18 j = _ ∧ M5 19 j = _ ∧ M5 20 j = _ ∧ ∀ v, v < I 0 0 → M5 17 (8 * j + v) = _
        rw [f5 _ _ (by omega), f5 _ _ (by omega), f5 _ _ (by omega)]
        by_cases ej : j = m
        · subst ej
          refine ⟨by rw [a4]; simp [q_O], by rw [a4]; simp [q_O], by rw [a4]; simp [q_O], fun v hv => ?_⟩
          rw [f5 _ _ (by omega), f4 _ _ (by omega), s2 v hv]
          have e8 : 8 * j + v - 8 * j = v := by omega
          simp only [q_O, e8]
          rw [if_pos (by omega)]
        · obtain ⟨q1, q2, q3, q4⟩ := hHO j (by
            rcases List.mem_cons.mp hj with h | h
            · exact absurd h ej
            · exact h)
          rw [f4 _ _ (by omega), fs _ _ (by omega), ft _ _ (by omega), f4 _ _ (by omega), fs _ _ (by omega), ft _ _ (by omega), f4 _ _ (by omega), fs _ _ (by omega), ft _ _ (by omega)]
          simp only [q_O, if_neg ej]
          refine ⟨q1, q2, q3, fun v hv => ?_⟩
          rw [f5 _ _ (by omega), f4 _ _ (by omega), s1 _ _ (by unfold q_DS; omega), ft _ _ (by omega), if_neg (by omega)]
          exact q4 v hv
      · have e : (q_run I E (m :: l)).2 = q_O I E s.1 s.2 m := by rw [← hs]; rfl
        rw [e]; exact hpbB
      · rw [f5 _ _ (by omega), a4, if_neg (by omega), if_pos ⟨rfl, rfl⟩]
      · have e : (q_run I E (m :: l)).2 = q_O I E s.1 s.2 m := by rw [← hs]; rfl
        rw [e]; exact hdbB
      · rw [f5 _ _ (by omega), a4, if_pos ⟨rfl, rfl⟩]
    rw [← hnx] at hI2
    obtain ⟨M', hA, hP⟩ := ih (t + 1) M5 (some (.int (nI m))) (some (.int (nI (q_tr I E m)))) (by omega) hI2
    refine ⟨M', sg_Vo_hold_a_66 ⟨fun c => absurd c (q_nle e5 (by omega) (by omega)), fun _ => ⟨q_in (by omega) (by omega), ?_⟩⟩, hP⟩
    rw [ec, g7, em, gy, e1]
    refine ⟨hinm, M2, hC2, ⟨fun _ => hinm, fun _ => hinm⟩, ?_⟩
    rw [htr]
    have a13 : (zu (zu M3 18 m (nI (q_ay I E s.1 m))) 19 m (nI (q_no I E s.1 m))) 5 13 = nI (I 8 0) := by rw [zu_at, if_neg (by omega), zu_at, if_neg (by omega), fs _ _ (by omega), ft _ _ (by omega), fr _ _ (by unfold q_DH; omega)]; exact m5
    have a14 : (zu (zu M3 18 m (nI (q_ay I E s.1 m))) 19 m (nI (q_no I E s.1 m))) 5 14 = nI (I 8 1) := by rw [zu_at, if_neg (by omega), zu_at, if_neg (by omega), fs _ _ (by omega), ft _ _ (by omega), fr _ _ (by unfold q_DH; omega)]; exact m6
    refine ⟨_, hC3, ?_⟩
    rw [a13]
    refine ⟨_, _, q_isFor w6 (q_tr_lt (w5 m hm).2), ?_⟩
    rw [a14]
    exact ⟨_, hC4, M5, hC5, hA⟩
theorem q_holdI_a {X : zX} {M : zM} {I : q_N} {held : Nat} {Z : zM → Prop} (hwf : q_wf I) (hcv : q_cv M 5 6 7 8 9 I) (hgo : ∀ (M2 : zM) (l4 l5 : Option Value), q_fr (q_DH 16) M M2 → M2 16 4 = 0 → M2 16 5 = 0 → (∀ u, u < I 0 0 → M2 21 u = nI (I 2 u) ∧ M2 22 u = nI (I 3 u) ∧ M2 23 u = 0 ∧ M2 24 u = 0) → ∃ M', At X 13 66 [some (.ref 16), some (.ref 5), some (.int (nI held)), some (.int (nI 0)), l4, l5] [] M2 [] M' ∧ Z M') : ∀ (d v : Nat) (M1 : zM) (l4 l5 : Option Value), v + d = I 0 0 → q_fr (q_DH 16) M M1 → M1 16 4 = 0 → M1 16 5 = 0 → (∀ u, u < v → M1 21 u = nI (I 2 u) ∧ M1 22 u = nI (I 3 u) ∧ M1 23 u = 0 ∧ M1 24 u = 0) → ∃ M', At X 13 12 [some (.ref 16), some (.ref 5), some (.int (nI held)), some (.int (nI v)), l4, l5] [] M1 [] M' ∧ Z M' := by
  obtain ⟨w1, w2, -⟩ := hwf
  intro d
  induction d with
  | zero =>
    intro v M1 l4 l5 hv hf h4 h5 hu
    have hv : v = I 0 0 := by omega
    have e0 : M1 5 0 = nI (I 0 0) := by rw [hf 5 0 (by unfold q_DH; omega)]; exact hcv.1
    obtain ⟨M', hA, hZ⟩ := hgo M1 l4 l5 hf h4 h5 (by rw [← hv]; exact hu)
    exact ⟨M', sg_Vo_hold_a_12 ⟨fun _ => hA, fun c => absurd (q_yle e0 (by omega) (by omega)) c⟩, hZ⟩
  | succ d ih =>
    intro v M1 l4 l5 hv hf h4 h5 hu
    have hlt : v < I 0 0 := by omega
    have e0 : M1 5 0 = nI (I 0 0) := by rw [hf 5 0 (by unfold q_DH; omega)]; exact hcv.1
    have g2 : M1 7 v = nI (I 2 v) := by rw [hf 7 v (by unfold q_DH; omega)]; exact (hcv.2 v hlt).2.1
    have g3 : M1 8 v = nI (I 3 v) := by rw [hf 8 v (by unfold q_DH; omega)]; exact (hcv.2 v hlt).2.2.1
    have hin : vp_in (nI v) 8 := q_in (by omega) (by omega)
    have ec : (nI v).toNatClampNeg = v := q_cl (by omega)
    have e1 : nI v + (1 : Int32) = nI (v + 1) := nI_1 v
    obtain ⟨M', hA, hZ⟩ := ih (v + 1) (zu (zu (zu (zu M1 21 v (nI (I 2 v))) 22 v (nI (I 3 v))) 23 v (0 : Int32)) 24 v (0 : Int32)) l4 l5 (by omega) (q_fr_zu (q_fr_zu (q_fr_zu (q_fr_zu hf (by unfold q_DH; omega)) (by unfold q_DH; omega)) (by unfold q_DH; omega)) (by unfold q_DH; omega)) (by simp [zu_at, h4]) (by simp [zu_at, h5]) (by
      intro u huv
      by_cases e : u = v
      · subst e
        simp [zu_at]
      · have := hu u (by omega)
        simp [zu_at, e, this])
    refine ⟨M', sg_Vo_hold_a_12 ⟨fun c => absurd c (q_nle e0 (by omega) (by omega)), fun _ => ⟨hin, hin, hin, hin, hin, hin, ?_⟩⟩, hZ⟩
    rw [ec, g2, g3, e1]
    exact hA
theorem q_hold_a {X : zX} {M : zM} {I : q_N} {ne held : Nat} {K : q_N} (hwf : q_wf I) (hcv : q_cv M 5 6 7 8 9 I) (hcm : q_cm M 5 10 11 12 I) (he : q_evs M 5 13 14 15 ne K) (hh : held < 2 ^ 31) : ∃ M', Call X 13 [.ref 16, .ref 5, .int (nI held)] M [] M' ∧ q_HI 16 I (q_told ne held K) (q_ord I).reverse M M' := by
  obtain ⟨M', hA, hP⟩ := q_holdI_a (X := X) (M := M) (held := held) (Z := fun M' => q_HI 16 I (q_told ne held K) (q_ord I).reverse M M') hwf hcv (fun M2 l4 l5 hf h4 h5 hu => by
    refine q_holdL_a hwf hcv hcm he hh (I 5 0) 0 M2 l4 l5 (by omega) ⟨hf, ?_, ?_, ⟨0, ⟨by omega, fun m => by simp⟩, h4⟩, ⟨0, ⟨by omega, fun m => by simp⟩, h5⟩⟩
    · intro v hv
      exact hu v hv
    · intro m hm
      simp at hm) (I 0 0) 0 (zu (zu M 16 4 (0 : Int32)) 16 5 (0 : Int32)) none none (by omega) (q_fr_zu (q_fr_zu q_fr_rf (by unfold q_DH; omega)) (by unfold q_DH; omega)) (by simp [zu_at]) (by simp [zu_at]) (fun u hu => by omega)
  exact ⟨M', Call.of (Nat.le_of_ble_eq_true rfl) (sg_Vo_hold_a_0 hA), hP⟩
theorem q_holdL_b {X : zX} {M : zM} {I : q_N} {ne held : Nat} {K : q_N} (hwf : q_wf I) (hcv : q_cv M 25 26 27 28 29 I) (hcm : q_cm M 25 30 31 32 I) (he : q_evs M 25 33 34 35 ne K) (hh : held < 2 ^ 31) : ∀ (d t : Nat) (M1 : zM) (l4 l5 : Option Value), t + d = I 5 0 → q_HI 36 I (q_told ne held K) ((q_ord I).take t).reverse M M1 → ∃ M', At X 13 66 [some (.ref 36), some (.ref 25), some (.int (nI held)), some (.int (nI t)), l4, l5] [] M1 [] M' ∧ q_HI 36 I (q_told ne held K) (q_ord I).reverse M M' := by
  obtain ⟨m1, m2, m3, m4, m5, m6⟩ := hcm
  have hwf0 := hwf
  obtain ⟨w1, w2, w3, w4, w5, w6, w7⟩ := hwf
  generalize hE : q_told ne held K = E
  intro d
  induction d with
  | zero =>
    intro t M1 l4 l5 ht hI
    have ht : t = I 5 0 := by omega
    have e5 : M1 25 5 = nI (I 5 0) := by rw [hI.1 25 5 (by unfold q_DH; omega)]; exact m1
    refine ⟨M1, sg_Vo_hold_b_66 ⟨fun _ => ⟨rfl, rfl⟩, fun c => absurd (q_yle e5 (by omega) (by omega)) c⟩, ?_⟩
    rw [List.take_of_length_le (by omega)] at hI
    exact hI
  | succ d ih =>
    intro t M1 l4 l5 ht hI
    have hlt : t < (q_ord I).length := by omega
    obtain ⟨m, hmt⟩ : ∃ m, (q_ord I)[t]? = some m := ⟨_, List.getElem?_eq_getElem hlt⟩
    have hmo := q_ord_mem.mp (List.mem_of_getElem? hmt)
    have hm := hmo.1
    have hm12 : m < 12 := by omega
    have hnin := q_notin hmt (q_ord_nodup I)
    have hnx := q_take_s hmt
    generalize hl : ((q_ord I).take t).reverse = l at hI hnin hnx
    obtain ⟨f1, hHV, hHO, ⟨pb, hpb, p4⟩, ⟨db, hdb, p5⟩⟩ := hI
    have wv := q_run_wv (E := E) hwf0 l
    generalize hs : q_run I E l = s at hHV hHO hpb hdb wv
    have fr : ∀ a b, ¬ q_DH 36 a b → M1 a b = M a b := f1
    have e5 : M1 25 5 = nI (I 5 0) := by rw [fr 25 5 (by unfold q_DH; omega)]; exact m1
    have g7 : M1 32 t = nI m := by rw [fr 32 t (by unfold q_DH; omega)]; exact m3 t m hmt
    have gy : M1 30 m = nI (I 6 m) := by rw [fr 30 m (by unfold q_DH; omega)]; exact (m2 m hm).1
    have gt : M1 31 m = nI (I 7 m) := by rw [fr 31 m (by unfold q_DH; omega)]; exact (m2 m hm).2
    have ec : (nI t).toNatClampNeg = t := q_cl (by omega)
    have em : (nI m).toNatClampNeg = m := q_cl (by omega)
    have hinm : vp_in (nI m) 12 := q_in hm12 (by omega)
    have e1 : nI t + (1 : Int32) = nI (t + 1) := nI_1 t
    have he1 : q_evs M1 25 33 34 35 ne K := by
      obtain ⟨q1, q2, q3⟩ := he
      refine ⟨by rw [fr 25 9 (by unfold q_DH; omega)]; exact q1, q2, fun i hi => ?_⟩
      rw [fr 33 i (by unfold q_DH; omega), fr 34 i (by unfold q_DH; omega), fr 35 i (by unfold q_DH; omega)]
      exact q3 i hi
    obtain ⟨M2, hC2, l1, l2, l3, hb, lh1, lh2, lh3⟩ := q_look_b (X := X) he1 hh (w5 m hm).1
    have lE : ∀ k v, q_tl K held k (I 6 m) v ne = E k (I 6 m) v := fun k v => by rw [← hE]; rfl
    rw [lE] at l2 l3
    simp only [lE] at lh3
    have ft : ∀ a b, a ≠ 36 → M2 a b = M1 a b := fun a b hn => l1 a b (by unfold q_DL; omega)
    have htr : (if M2 36 10 = 0 then M2 31 m else (M2 31 m ||| (1 : Int32))) = nI (q_tr I E m) := by
      rw [l2, ft 31 m (by omega), gt]
      unfold q_tr
      cases hq : E 0 (I 6 m) 0 with
      | true => rw [if_neg (by decide), show (1 : Int32) = nI 1 from rfl, q_or]; rfl
      | false => rw [if_pos (by decide)]; simp [q_b]
    have hcv2 : q_cv M2 25 26 27 28 29 I := by
      obtain ⟨q1, q2⟩ := hcv
      refine ⟨by rw [ft 25 0 (by omega), fr 25 0 (by unfold q_DH; omega)]; exact q1, fun v hv => ?_⟩
      rw [ft 26 v (by omega), fr 26 v (by unfold q_DH; omega), ft 27 v (by omega), fr 27 v (by unfold q_DH; omega), ft 28 v (by omega), fr 28 v (by unfold q_DH; omega), ft 29 v (by omega), fr 29 v (by unfold q_DH; omega)]
      exact q2 v hv
    obtain ⟨M3, hC3, s1, s2⟩ := q_speak_b (X := X) (E := E) (V := s.1) (M := M2) hwf0 hm hcv2 (fun v hv => ⟨by rw [ft 41 v (by omega)]; exact (hHV v hv).1, (wv v hv).1⟩) lh1 lh2 lh3
    have fs : ∀ a b, a ≠ 37 → M3 a b = M2 a b := fun a b hn => s1 a b (by unfold q_DS; omega)
    have hsp := (q_sp_in I E s.1 m (I 0 0)).1
    have hff : q_ff I E m = q_for (I 8 0) (q_tr I E m) := rfl
    have hC4 := q_dec_b (X := X) (M := zu (zu M3 38 m (nI (q_ay I E s.1 m))) 39 m (nI (q_no I E s.1 m))) (m := m) (a := q_ay I E s.1 m) (n := q_no I E s.1 m) (f := q_b (q_ff I E m)) (w := I 8 1) (pb := pb) (db := db) (ap := E 1 (I 6 m) 0) hm12 (by simp [zu_at]) (by simp [zu_at]) (by unfold q_ay q_no; omega) (by rw [zu_at, if_neg (by omega), zu_at, if_neg (by omega), fs _ _ (by omega)]; exact l3) (q_b_lt _) w7 (by rw [zu_at, if_neg (by omega), zu_at, if_neg (by omega), fs _ _ (by omega), l1 _ _ (by unfold q_DL; omega)]; exact p4) (by rw [zu_at, if_neg (by omega), zu_at, if_neg (by omega), fs _ _ (by omega), l1 _ _ (by unfold q_DL; omega)]; exact p5) (q_ps I E s.1 m) (q_dc I E s.1 m) (by
      unfold q_ps q_wt
      cases E 1 (I 6 m) 0 <;> cases q_ff I E m <;> simp [q_b, Nat.blt_eq]) rfl
    have hpbB := q_HB_s (I := I) (E := E) (V := s.1) (O := s.2) (x := 4) (b := q_ps I E s.1 m) hpb hm12 hnin (fun j => rfl)
    have hdbB := q_HB_s (I := I) (E := E) (V := s.1) (O := s.2) (x := 5) (b := q_dc I E s.1 m) hdb hm12 hnin (fun j => rfl)
    generalize hpb' : (pb ||| (if q_ps I E s.1 m = true then 2 ^ m else 0)) = pb' at hC4 hpbB
    generalize hdb' : (db ||| (if q_dc I E s.1 m = true then 2 ^ m else 0)) = db' at hC4 hdbB
    generalize hM4 : (zu (zu (zu (zu (zu M3 38 m (nI (q_ay I E s.1 m))) 39 m (nI (q_no I E s.1 m))) 40 m (nI (if E 1 (I 6 m) 0 = true then 2 else q_b (q_ff I E m)))) 36 4 (nI pb')) 36 5 (nI db')) = M4 at hC4
    have a4 : ∀ a b, M4 a b = if a = 36 ∧ b = 5 then nI db' else if a = 36 ∧ b = 4 then nI pb' else if a = 40 ∧ b = m then nI (q_fd I E m) else if a = 39 ∧ b = m then nI (q_no I E s.1 m) else if a = 38 ∧ b = m then nI (q_ay I E s.1 m) else M3 a b := by
      intro a b
      rw [← hM4]
      simp only [zu_at]
      rfl
    have f4 : ∀ a b, ¬ ((a = 36 ∧ (b = 4 ∨ b = 5)) ∨ (b = m ∧ (a = 38 ∨ a = 39 ∨ a = 40))) → M4 a b = M3 a b := by
      intro a b hn
      rw [a4, if_neg (by omega), if_neg (by omega), if_neg (by omega), if_neg (by omega), if_neg (by omega)]
    have hpm : pb'.testBit m = q_ps I E s.1 m := by
      rw [hpbB.2 m]
      have : q_O I E s.1 s.2 m 4 m = q_b (q_ps I E s.1 m) := by simp [q_O]
      rw [this]
      cases q_ps I E s.1 m <;> simp [q_b]
    obtain ⟨M5, hC5, r1, r2⟩ := q_rem_b (X := X) (M := M4) (nv := I 0 0) (m := m) (pb := pb') (V := s.1) (sd := fun v => q_sd I E s.1 m (fun _ => 0) (I 0 0) v) w1 (by rw [f4 _ _ (by omega), fs _ _ (by omega)]; exact hcv2.1) hm12 (by have := hpbB.1; omega) (by rw [a4, if_neg (by omega), if_pos ⟨rfl, rfl⟩]) (fun v hv => ⟨by rw [f4 _ _ (by omega)]; exact s2 v hv, q_sd_le I E s.1 m _ v⟩) (fun v hv => by
      rw [f4 41 v (by omega), fs _ _ (by omega), ft _ _ (by omega), f4 42 v (by omega), fs _ _ (by omega), ft _ _ (by omega), f4 43 v (by omega), fs _ _ (by omega), ft _ _ (by omega), f4 44 v (by omega), fs _ _ (by omega), ft _ _ (by omega)]
      obtain ⟨q1, q2, q3, q4⟩ := hHV v hv
      exact ⟨q1, (wv v hv).1, q2, (wv v hv).2, q3, q4⟩)
    rw [hpm] at r2
    have f5 : ∀ a b, ¬ (41 ≤ a ∧ a ≤ 44) → M5 a b = M4 a b := fun a b hn => r1 a b (by unfold q_DR; omega)
    have hI2 : q_HI 36 I E (m :: l) M M5 := by
      refine ⟨?_, ?_, ?_, ⟨pb', ?_, ?_⟩, ⟨db', ?_, ?_⟩⟩
      · intro a b hn
        unfold q_DH at hn
        rw [f5 a b (by omega), f4 a b (by omega), fs a b (by omega), l1 a b (by unfold q_DL; omega)]
        exact fr a b (by unfold q_DH; omega)
      · intro v hv
        obtain ⟨q1, q2, q3, q4⟩ := r2 v hv
        have e : (q_run I E (m :: l)).1 = q_V I E s.1 m := by rw [← hs]; rfl
        rw [e]
        simp only [q_V, if_pos hv]
        exact ⟨q1, q2, q3, q4⟩
      · intro j hj
        have e : (q_run I E (m :: l)).2 = q_O I E s.1 s.2 m := by rw [← hs]; rfl
        rw [e]
        show M5 38 j = _ ∧ M5 39 j = _ ∧ M5 40 j = _ ∧ ∀ v, v < I 0 0 → M5 37 (8 * j + v) = _
        rw [f5 _ _ (by omega), f5 _ _ (by omega), f5 _ _ (by omega)]
        by_cases ej : j = m
        · subst ej
          refine ⟨by rw [a4]; simp [q_O], by rw [a4]; simp [q_O], by rw [a4]; simp [q_O], fun v hv => ?_⟩
          rw [f5 _ _ (by omega), f4 _ _ (by omega), s2 v hv]
          have e8 : 8 * j + v - 8 * j = v := by omega
          simp only [q_O, e8]
          rw [if_pos (by omega)]
        · obtain ⟨q1, q2, q3, q4⟩ := hHO j (by
            rcases List.mem_cons.mp hj with h | h
            · exact absurd h ej
            · exact h)
          rw [f4 _ _ (by omega), fs _ _ (by omega), ft _ _ (by omega), f4 _ _ (by omega), fs _ _ (by omega), ft _ _ (by omega), f4 _ _ (by omega), fs _ _ (by omega), ft _ _ (by omega)]
          simp only [q_O, if_neg ej]
          refine ⟨q1, q2, q3, fun v hv => ?_⟩
          rw [f5 _ _ (by omega), f4 _ _ (by omega), s1 _ _ (by unfold q_DS; omega), ft _ _ (by omega), if_neg (by omega)]
          exact q4 v hv
      · have e : (q_run I E (m :: l)).2 = q_O I E s.1 s.2 m := by rw [← hs]; rfl
        rw [e]; exact hpbB
      · rw [f5 _ _ (by omega), a4, if_neg (by omega), if_pos ⟨rfl, rfl⟩]
      · have e : (q_run I E (m :: l)).2 = q_O I E s.1 s.2 m := by rw [← hs]; rfl
        rw [e]; exact hdbB
      · rw [f5 _ _ (by omega), a4, if_pos ⟨rfl, rfl⟩]
    rw [← hnx] at hI2
    obtain ⟨M', hA, hP⟩ := ih (t + 1) M5 (some (.int (nI m))) (some (.int (nI (q_tr I E m)))) (by omega) hI2
    refine ⟨M', sg_Vo_hold_b_66 ⟨fun c => absurd c (q_nle e5 (by omega) (by omega)), fun _ => ⟨q_in (by omega) (by omega), ?_⟩⟩, hP⟩
    rw [ec, g7, em, gy, e1]
    refine ⟨hinm, M2, hC2, ⟨fun _ => hinm, fun _ => hinm⟩, ?_⟩
    rw [htr]
    have a13 : (zu (zu M3 38 m (nI (q_ay I E s.1 m))) 39 m (nI (q_no I E s.1 m))) 25 13 = nI (I 8 0) := by rw [zu_at, if_neg (by omega), zu_at, if_neg (by omega), fs _ _ (by omega), ft _ _ (by omega), fr _ _ (by unfold q_DH; omega)]; exact m5
    have a14 : (zu (zu M3 38 m (nI (q_ay I E s.1 m))) 39 m (nI (q_no I E s.1 m))) 25 14 = nI (I 8 1) := by rw [zu_at, if_neg (by omega), zu_at, if_neg (by omega), fs _ _ (by omega), ft _ _ (by omega), fr _ _ (by unfold q_DH; omega)]; exact m6
    refine ⟨_, hC3, ?_⟩
    rw [a13]
    refine ⟨_, _, q_isFor w6 (q_tr_lt (w5 m hm).2), ?_⟩
    rw [a14]
    exact ⟨_, hC4, M5, hC5, hA⟩
theorem q_holdI_b {X : zX} {M : zM} {I : q_N} {held : Nat} {Z : zM → Prop} (hwf : q_wf I) (hcv : q_cv M 25 26 27 28 29 I) (hgo : ∀ (M2 : zM) (l4 l5 : Option Value), q_fr (q_DH 36) M M2 → M2 36 4 = 0 → M2 36 5 = 0 → (∀ u, u < I 0 0 → M2 41 u = nI (I 2 u) ∧ M2 42 u = nI (I 3 u) ∧ M2 43 u = 0 ∧ M2 44 u = 0) → ∃ M', At X 13 66 [some (.ref 36), some (.ref 25), some (.int (nI held)), some (.int (nI 0)), l4, l5] [] M2 [] M' ∧ Z M') : ∀ (d v : Nat) (M1 : zM) (l4 l5 : Option Value), v + d = I 0 0 → q_fr (q_DH 36) M M1 → M1 36 4 = 0 → M1 36 5 = 0 → (∀ u, u < v → M1 41 u = nI (I 2 u) ∧ M1 42 u = nI (I 3 u) ∧ M1 43 u = 0 ∧ M1 44 u = 0) → ∃ M', At X 13 12 [some (.ref 36), some (.ref 25), some (.int (nI held)), some (.int (nI v)), l4, l5] [] M1 [] M' ∧ Z M' := by
  obtain ⟨w1, w2, -⟩ := hwf
  intro d
  induction d with
  | zero =>
    intro v M1 l4 l5 hv hf h4 h5 hu
    have hv : v = I 0 0 := by omega
    have e0 : M1 25 0 = nI (I 0 0) := by rw [hf 25 0 (by unfold q_DH; omega)]; exact hcv.1
    obtain ⟨M', hA, hZ⟩ := hgo M1 l4 l5 hf h4 h5 (by rw [← hv]; exact hu)
    exact ⟨M', sg_Vo_hold_b_12 ⟨fun _ => hA, fun c => absurd (q_yle e0 (by omega) (by omega)) c⟩, hZ⟩
  | succ d ih =>
    intro v M1 l4 l5 hv hf h4 h5 hu
    have hlt : v < I 0 0 := by omega
    have e0 : M1 25 0 = nI (I 0 0) := by rw [hf 25 0 (by unfold q_DH; omega)]; exact hcv.1
    have g2 : M1 27 v = nI (I 2 v) := by rw [hf 27 v (by unfold q_DH; omega)]; exact (hcv.2 v hlt).2.1
    have g3 : M1 28 v = nI (I 3 v) := by rw [hf 28 v (by unfold q_DH; omega)]; exact (hcv.2 v hlt).2.2.1
    have hin : vp_in (nI v) 8 := q_in (by omega) (by omega)
    have ec : (nI v).toNatClampNeg = v := q_cl (by omega)
    have e1 : nI v + (1 : Int32) = nI (v + 1) := nI_1 v
    obtain ⟨M', hA, hZ⟩ := ih (v + 1) (zu (zu (zu (zu M1 41 v (nI (I 2 v))) 42 v (nI (I 3 v))) 43 v (0 : Int32)) 44 v (0 : Int32)) l4 l5 (by omega) (q_fr_zu (q_fr_zu (q_fr_zu (q_fr_zu hf (by unfold q_DH; omega)) (by unfold q_DH; omega)) (by unfold q_DH; omega)) (by unfold q_DH; omega)) (by simp [zu_at, h4]) (by simp [zu_at, h5]) (by
      intro u huv
      by_cases e : u = v
      · subst e
        simp [zu_at]
      · have := hu u (by omega)
        simp [zu_at, e, this])
    refine ⟨M', sg_Vo_hold_b_12 ⟨fun c => absurd c (q_nle e0 (by omega) (by omega)), fun _ => ⟨hin, hin, hin, hin, hin, hin, ?_⟩⟩, hZ⟩
    rw [ec, g2, g3, e1]
    exact hA
theorem q_hold_b {X : zX} {M : zM} {I : q_N} {ne held : Nat} {K : q_N} (hwf : q_wf I) (hcv : q_cv M 25 26 27 28 29 I) (hcm : q_cm M 25 30 31 32 I) (he : q_evs M 25 33 34 35 ne K) (hh : held < 2 ^ 31) : ∃ M', Call X 13 [.ref 36, .ref 25, .int (nI held)] M [] M' ∧ q_HI 36 I (q_told ne held K) (q_ord I).reverse M M' := by
  obtain ⟨M', hA, hP⟩ := q_holdI_b (X := X) (M := M) (held := held) (Z := fun M' => q_HI 36 I (q_told ne held K) (q_ord I).reverse M M') hwf hcv (fun M2 l4 l5 hf h4 h5 hu => by
    refine q_holdL_b hwf hcv hcm he hh (I 5 0) 0 M2 l4 l5 (by omega) ⟨hf, ?_, ?_, ⟨0, ⟨by omega, fun m => by simp⟩, h4⟩, ⟨0, ⟨by omega, fun m => by simp⟩, h5⟩⟩
    · intro v hv
      exact hu v hv
    · intro m hm
      simp at hm) (I 0 0) 0 (zu (zu M 36 4 (0 : Int32)) 36 5 (0 : Int32)) none none (by omega) (q_fr_zu (q_fr_zu q_fr_rf (by unfold q_DH; omega)) (by unfold q_DH; omega)) (by simp [zu_at]) (by simp [zu_at]) (fun u hu => by omega)
  exact ⟨M', Call.of (Nat.le_of_ble_eq_true rfl) (sg_Vo_hold_b_0 hA), hP⟩
theorem q_holdL_c {X : zX} {M : zM} {I : q_N} {ne held : Nat} {K : q_N} (hwf : q_wf I) (hcv : q_cv M 5 6 7 8 9 I) (hcm : q_cm M 5 10 11 12 I) (he : q_evs M 5 13 14 15 ne K) (hh : held < 2 ^ 31) : ∀ (d t : Nat) (M1 : zM) (l4 l5 : Option Value), t + d = I 5 0 → q_HI 36 I (q_told ne held K) ((q_ord I).take t).reverse M M1 → ∃ M', At X 13 66 [some (.ref 36), some (.ref 5), some (.int (nI held)), some (.int (nI t)), l4, l5] [] M1 [] M' ∧ q_HI 36 I (q_told ne held K) (q_ord I).reverse M M' := by
  obtain ⟨m1, m2, m3, m4, m5, m6⟩ := hcm
  have hwf0 := hwf
  obtain ⟨w1, w2, w3, w4, w5, w6, w7⟩ := hwf
  generalize hE : q_told ne held K = E
  intro d
  induction d with
  | zero =>
    intro t M1 l4 l5 ht hI
    have ht : t = I 5 0 := by omega
    have e5 : M1 5 5 = nI (I 5 0) := by rw [hI.1 5 5 (by unfold q_DH; omega)]; exact m1
    refine ⟨M1, sg_Vo_hold_c_66 ⟨fun _ => ⟨rfl, rfl⟩, fun c => absurd (q_yle e5 (by omega) (by omega)) c⟩, ?_⟩
    rw [List.take_of_length_le (by omega)] at hI
    exact hI
  | succ d ih =>
    intro t M1 l4 l5 ht hI
    have hlt : t < (q_ord I).length := by omega
    obtain ⟨m, hmt⟩ : ∃ m, (q_ord I)[t]? = some m := ⟨_, List.getElem?_eq_getElem hlt⟩
    have hmo := q_ord_mem.mp (List.mem_of_getElem? hmt)
    have hm := hmo.1
    have hm12 : m < 12 := by omega
    have hnin := q_notin hmt (q_ord_nodup I)
    have hnx := q_take_s hmt
    generalize hl : ((q_ord I).take t).reverse = l at hI hnin hnx
    obtain ⟨f1, hHV, hHO, ⟨pb, hpb, p4⟩, ⟨db, hdb, p5⟩⟩ := hI
    have wv := q_run_wv (E := E) hwf0 l
    generalize hs : q_run I E l = s at hHV hHO hpb hdb wv
    have fr : ∀ a b, ¬ q_DH 36 a b → M1 a b = M a b := f1
    have e5 : M1 5 5 = nI (I 5 0) := by rw [fr 5 5 (by unfold q_DH; omega)]; exact m1
    have g7 : M1 12 t = nI m := by rw [fr 12 t (by unfold q_DH; omega)]; exact m3 t m hmt
    have gy : M1 10 m = nI (I 6 m) := by rw [fr 10 m (by unfold q_DH; omega)]; exact (m2 m hm).1
    have gt : M1 11 m = nI (I 7 m) := by rw [fr 11 m (by unfold q_DH; omega)]; exact (m2 m hm).2
    have ec : (nI t).toNatClampNeg = t := q_cl (by omega)
    have em : (nI m).toNatClampNeg = m := q_cl (by omega)
    have hinm : vp_in (nI m) 12 := q_in hm12 (by omega)
    have e1 : nI t + (1 : Int32) = nI (t + 1) := nI_1 t
    have he1 : q_evs M1 5 13 14 15 ne K := by
      obtain ⟨q1, q2, q3⟩ := he
      refine ⟨by rw [fr 5 9 (by unfold q_DH; omega)]; exact q1, q2, fun i hi => ?_⟩
      rw [fr 13 i (by unfold q_DH; omega), fr 14 i (by unfold q_DH; omega), fr 15 i (by unfold q_DH; omega)]
      exact q3 i hi
    obtain ⟨M2, hC2, l1, l2, l3, hb, lh1, lh2, lh3⟩ := q_look_c (X := X) he1 hh (w5 m hm).1
    have lE : ∀ k v, q_tl K held k (I 6 m) v ne = E k (I 6 m) v := fun k v => by rw [← hE]; rfl
    rw [lE] at l2 l3
    simp only [lE] at lh3
    have ft : ∀ a b, a ≠ 36 → M2 a b = M1 a b := fun a b hn => l1 a b (by unfold q_DL; omega)
    have htr : (if M2 36 10 = 0 then M2 11 m else (M2 11 m ||| (1 : Int32))) = nI (q_tr I E m) := by
      rw [l2, ft 11 m (by omega), gt]
      unfold q_tr
      cases hq : E 0 (I 6 m) 0 with
      | true => rw [if_neg (by decide), show (1 : Int32) = nI 1 from rfl, q_or]; rfl
      | false => rw [if_pos (by decide)]; simp [q_b]
    have hcv2 : q_cv M2 5 6 7 8 9 I := by
      obtain ⟨q1, q2⟩ := hcv
      refine ⟨by rw [ft 5 0 (by omega), fr 5 0 (by unfold q_DH; omega)]; exact q1, fun v hv => ?_⟩
      rw [ft 6 v (by omega), fr 6 v (by unfold q_DH; omega), ft 7 v (by omega), fr 7 v (by unfold q_DH; omega), ft 8 v (by omega), fr 8 v (by unfold q_DH; omega), ft 9 v (by omega), fr 9 v (by unfold q_DH; omega)]
      exact q2 v hv
    obtain ⟨M3, hC3, s1, s2⟩ := q_speak_c (X := X) (E := E) (V := s.1) (M := M2) hwf0 hm hcv2 (fun v hv => ⟨by rw [ft 41 v (by omega)]; exact (hHV v hv).1, (wv v hv).1⟩) lh1 lh2 lh3
    have fs : ∀ a b, a ≠ 37 → M3 a b = M2 a b := fun a b hn => s1 a b (by unfold q_DS; omega)
    have hsp := (q_sp_in I E s.1 m (I 0 0)).1
    have hff : q_ff I E m = q_for (I 8 0) (q_tr I E m) := rfl
    have hC4 := q_dec_b (X := X) (M := zu (zu M3 38 m (nI (q_ay I E s.1 m))) 39 m (nI (q_no I E s.1 m))) (m := m) (a := q_ay I E s.1 m) (n := q_no I E s.1 m) (f := q_b (q_ff I E m)) (w := I 8 1) (pb := pb) (db := db) (ap := E 1 (I 6 m) 0) hm12 (by simp [zu_at]) (by simp [zu_at]) (by unfold q_ay q_no; omega) (by rw [zu_at, if_neg (by omega), zu_at, if_neg (by omega), fs _ _ (by omega)]; exact l3) (q_b_lt _) w7 (by rw [zu_at, if_neg (by omega), zu_at, if_neg (by omega), fs _ _ (by omega), l1 _ _ (by unfold q_DL; omega)]; exact p4) (by rw [zu_at, if_neg (by omega), zu_at, if_neg (by omega), fs _ _ (by omega), l1 _ _ (by unfold q_DL; omega)]; exact p5) (q_ps I E s.1 m) (q_dc I E s.1 m) (by
      unfold q_ps q_wt
      cases E 1 (I 6 m) 0 <;> cases q_ff I E m <;> simp [q_b, Nat.blt_eq]) rfl
    have hpbB := q_HB_s (I := I) (E := E) (V := s.1) (O := s.2) (x := 4) (b := q_ps I E s.1 m) hpb hm12 hnin (fun j => rfl)
    have hdbB := q_HB_s (I := I) (E := E) (V := s.1) (O := s.2) (x := 5) (b := q_dc I E s.1 m) hdb hm12 hnin (fun j => rfl)
    generalize hpb' : (pb ||| (if q_ps I E s.1 m = true then 2 ^ m else 0)) = pb' at hC4 hpbB
    generalize hdb' : (db ||| (if q_dc I E s.1 m = true then 2 ^ m else 0)) = db' at hC4 hdbB
    generalize hM4 : (zu (zu (zu (zu (zu M3 38 m (nI (q_ay I E s.1 m))) 39 m (nI (q_no I E s.1 m))) 40 m (nI (if E 1 (I 6 m) 0 = true then 2 else q_b (q_ff I E m)))) 36 4 (nI pb')) 36 5 (nI db')) = M4 at hC4
    have a4 : ∀ a b, M4 a b = if a = 36 ∧ b = 5 then nI db' else if a = 36 ∧ b = 4 then nI pb' else if a = 40 ∧ b = m then nI (q_fd I E m) else if a = 39 ∧ b = m then nI (q_no I E s.1 m) else if a = 38 ∧ b = m then nI (q_ay I E s.1 m) else M3 a b := by
      intro a b
      rw [← hM4]
      simp only [zu_at]
      rfl
    have f4 : ∀ a b, ¬ ((a = 36 ∧ (b = 4 ∨ b = 5)) ∨ (b = m ∧ (a = 38 ∨ a = 39 ∨ a = 40))) → M4 a b = M3 a b := by
      intro a b hn
      rw [a4, if_neg (by omega), if_neg (by omega), if_neg (by omega), if_neg (by omega), if_neg (by omega)]
    have hpm : pb'.testBit m = q_ps I E s.1 m := by
      rw [hpbB.2 m]
      have : q_O I E s.1 s.2 m 4 m = q_b (q_ps I E s.1 m) := by simp [q_O]
      rw [this]
      cases q_ps I E s.1 m <;> simp [q_b]
    obtain ⟨M5, hC5, r1, r2⟩ := q_rem_c (X := X) (M := M4) (nv := I 0 0) (m := m) (pb := pb') (V := s.1) (sd := fun v => q_sd I E s.1 m (fun _ => 0) (I 0 0) v) w1 (by rw [f4 _ _ (by omega), fs _ _ (by omega)]; exact hcv2.1) hm12 (by have := hpbB.1; omega) (by rw [a4, if_neg (by omega), if_pos ⟨rfl, rfl⟩]) (fun v hv => ⟨by rw [f4 _ _ (by omega)]; exact s2 v hv, q_sd_le I E s.1 m _ v⟩) (fun v hv => by
      rw [f4 41 v (by omega), fs _ _ (by omega), ft _ _ (by omega), f4 42 v (by omega), fs _ _ (by omega), ft _ _ (by omega), f4 43 v (by omega), fs _ _ (by omega), ft _ _ (by omega), f4 44 v (by omega), fs _ _ (by omega), ft _ _ (by omega)]
      obtain ⟨q1, q2, q3, q4⟩ := hHV v hv
      exact ⟨q1, (wv v hv).1, q2, (wv v hv).2, q3, q4⟩)
    rw [hpm] at r2
    have f5 : ∀ a b, ¬ (41 ≤ a ∧ a ≤ 44) → M5 a b = M4 a b := fun a b hn => r1 a b (by unfold q_DR; omega)
    have hI2 : q_HI 36 I E (m :: l) M M5 := by
      refine ⟨?_, ?_, ?_, ⟨pb', ?_, ?_⟩, ⟨db', ?_, ?_⟩⟩
      · intro a b hn
        unfold q_DH at hn
        rw [f5 a b (by omega), f4 a b (by omega), fs a b (by omega), l1 a b (by unfold q_DL; omega)]
        exact fr a b (by unfold q_DH; omega)
      · intro v hv
        obtain ⟨q1, q2, q3, q4⟩ := r2 v hv
        have e : (q_run I E (m :: l)).1 = q_V I E s.1 m := by rw [← hs]; rfl
        rw [e]
        simp only [q_V, if_pos hv]
        exact ⟨q1, q2, q3, q4⟩
      · intro j hj
        have e : (q_run I E (m :: l)).2 = q_O I E s.1 s.2 m := by rw [← hs]; rfl
        rw [e]
        show M5 38 j = _ ∧ M5 39 j = _ ∧ M5 40 j = _ ∧ ∀ v, v < I 0 0 → M5 37 (8 * j + v) = _
        rw [f5 _ _ (by omega), f5 _ _ (by omega), f5 _ _ (by omega)]
        by_cases ej : j = m
        · subst ej
          refine ⟨by rw [a4]; simp [q_O], by rw [a4]; simp [q_O], by rw [a4]; simp [q_O], fun v hv => ?_⟩
          rw [f5 _ _ (by omega), f4 _ _ (by omega), s2 v hv]
          have e8 : 8 * j + v - 8 * j = v := by omega
          simp only [q_O, e8]
          rw [if_pos (by omega)]
        · obtain ⟨q1, q2, q3, q4⟩ := hHO j (by
            rcases List.mem_cons.mp hj with h | h
            · exact absurd h ej
            · exact h)
          rw [f4 _ _ (by omega), fs _ _ (by omega), ft _ _ (by omega), f4 _ _ (by omega), fs _ _ (by omega), ft _ _ (by omega), f4 _ _ (by omega), fs _ _ (by omega), ft _ _ (by omega)]
          simp only [q_O, if_neg ej]
          refine ⟨q1, q2, q3, fun v hv => ?_⟩
          rw [f5 _ _ (by omega), f4 _ _ (by omega), s1 _ _ (by unfold q_DS; omega), ft _ _ (by omega), if_neg (by omega)]
          exact q4 v hv
      · have e : (q_run I E (m :: l)).2 = q_O I E s.1 s.2 m := by rw [← hs]; rfl
        rw [e]; exact hpbB
      · rw [f5 _ _ (by omega), a4, if_neg (by omega), if_pos ⟨rfl, rfl⟩]
      · have e : (q_run I E (m :: l)).2 = q_O I E s.1 s.2 m := by rw [← hs]; rfl
        rw [e]; exact hdbB
      · rw [f5 _ _ (by omega), a4, if_pos ⟨rfl, rfl⟩]
    rw [← hnx] at hI2
    obtain ⟨M', hA, hP⟩ := ih (t + 1) M5 (some (.int (nI m))) (some (.int (nI (q_tr I E m)))) (by omega) hI2
    refine ⟨M', sg_Vo_hold_c_66 ⟨fun c => absurd c (q_nle e5 (by omega) (by omega)), fun _ => ⟨q_in (by omega) (by omega), ?_⟩⟩, hP⟩
    rw [ec, g7, em, gy, e1]
    refine ⟨hinm, M2, hC2, ⟨fun _ => hinm, fun _ => hinm⟩, ?_⟩
    rw [htr]
    have a13 : (zu (zu M3 38 m (nI (q_ay I E s.1 m))) 39 m (nI (q_no I E s.1 m))) 5 13 = nI (I 8 0) := by rw [zu_at, if_neg (by omega), zu_at, if_neg (by omega), fs _ _ (by omega), ft _ _ (by omega), fr _ _ (by unfold q_DH; omega)]; exact m5
    have a14 : (zu (zu M3 38 m (nI (q_ay I E s.1 m))) 39 m (nI (q_no I E s.1 m))) 5 14 = nI (I 8 1) := by rw [zu_at, if_neg (by omega), zu_at, if_neg (by omega), fs _ _ (by omega), ft _ _ (by omega), fr _ _ (by unfold q_DH; omega)]; exact m6
    refine ⟨_, hC3, ?_⟩
    rw [a13]
    refine ⟨_, _, q_isFor w6 (q_tr_lt (w5 m hm).2), ?_⟩
    rw [a14]
    exact ⟨_, hC4, M5, hC5, hA⟩
theorem q_holdI_c {X : zX} {M : zM} {I : q_N} {held : Nat} {Z : zM → Prop} (hwf : q_wf I) (hcv : q_cv M 5 6 7 8 9 I) (hgo : ∀ (M2 : zM) (l4 l5 : Option Value), q_fr (q_DH 36) M M2 → M2 36 4 = 0 → M2 36 5 = 0 → (∀ u, u < I 0 0 → M2 41 u = nI (I 2 u) ∧ M2 42 u = nI (I 3 u) ∧ M2 43 u = 0 ∧ M2 44 u = 0) → ∃ M', At X 13 66 [some (.ref 36), some (.ref 5), some (.int (nI held)), some (.int (nI 0)), l4, l5] [] M2 [] M' ∧ Z M') : ∀ (d v : Nat) (M1 : zM) (l4 l5 : Option Value), v + d = I 0 0 → q_fr (q_DH 36) M M1 → M1 36 4 = 0 → M1 36 5 = 0 → (∀ u, u < v → M1 41 u = nI (I 2 u) ∧ M1 42 u = nI (I 3 u) ∧ M1 43 u = 0 ∧ M1 44 u = 0) → ∃ M', At X 13 12 [some (.ref 36), some (.ref 5), some (.int (nI held)), some (.int (nI v)), l4, l5] [] M1 [] M' ∧ Z M' := by
  obtain ⟨w1, w2, -⟩ := hwf
  intro d
  induction d with
  | zero =>
    intro v M1 l4 l5 hv hf h4 h5 hu
    have hv : v = I 0 0 := by omega
    have e0 : M1 5 0 = nI (I 0 0) := by rw [hf 5 0 (by unfold q_DH; omega)]; exact hcv.1
    obtain ⟨M', hA, hZ⟩ := hgo M1 l4 l5 hf h4 h5 (by rw [← hv]; exact hu)
    exact ⟨M', sg_Vo_hold_c_12 ⟨fun _ => hA, fun c => absurd (q_yle e0 (by omega) (by omega)) c⟩, hZ⟩
  | succ d ih =>
    intro v M1 l4 l5 hv hf h4 h5 hu
    have hlt : v < I 0 0 := by omega
    have e0 : M1 5 0 = nI (I 0 0) := by rw [hf 5 0 (by unfold q_DH; omega)]; exact hcv.1
    have g2 : M1 7 v = nI (I 2 v) := by rw [hf 7 v (by unfold q_DH; omega)]; exact (hcv.2 v hlt).2.1
    have g3 : M1 8 v = nI (I 3 v) := by rw [hf 8 v (by unfold q_DH; omega)]; exact (hcv.2 v hlt).2.2.1
    have hin : vp_in (nI v) 8 := q_in (by omega) (by omega)
    have ec : (nI v).toNatClampNeg = v := q_cl (by omega)
    have e1 : nI v + (1 : Int32) = nI (v + 1) := nI_1 v
    obtain ⟨M', hA, hZ⟩ := ih (v + 1) (zu (zu (zu (zu M1 41 v (nI (I 2 v))) 42 v (nI (I 3 v))) 43 v (0 : Int32)) 44 v (0 : Int32)) l4 l5 (by omega) (q_fr_zu (q_fr_zu (q_fr_zu (q_fr_zu hf (by unfold q_DH; omega)) (by unfold q_DH; omega)) (by unfold q_DH; omega)) (by unfold q_DH; omega)) (by simp [zu_at, h4]) (by simp [zu_at, h5]) (by
      intro u huv
      by_cases e : u = v
      · subst e
        simp [zu_at]
      · have := hu u (by omega)
        simp [zu_at, e, this])
    refine ⟨M', sg_Vo_hold_c_12 ⟨fun c => absurd c (q_nle e0 (by omega) (by omega)), fun _ => ⟨hin, hin, hin, hin, hin, hin, ?_⟩⟩, hZ⟩
    rw [ec, g2, g3, e1]
    exact hA
theorem q_hold_c {X : zX} {M : zM} {I : q_N} {ne held : Nat} {K : q_N} (hwf : q_wf I) (hcv : q_cv M 5 6 7 8 9 I) (hcm : q_cm M 5 10 11 12 I) (he : q_evs M 5 13 14 15 ne K) (hh : held < 2 ^ 31) : ∃ M', Call X 13 [.ref 36, .ref 5, .int (nI held)] M [] M' ∧ q_HI 36 I (q_told ne held K) (q_ord I).reverse M M' := by
  obtain ⟨M', hA, hP⟩ := q_holdI_c (X := X) (M := M) (held := held) (Z := fun M' => q_HI 36 I (q_told ne held K) (q_ord I).reverse M M') hwf hcv (fun M2 l4 l5 hf h4 h5 hu => by
    refine q_holdL_c hwf hcv hcm he hh (I 5 0) 0 M2 l4 l5 (by omega) ⟨hf, ?_, ?_, ⟨0, ⟨by omega, fun m => by simp⟩, h4⟩, ⟨0, ⟨by omega, fun m => by simp⟩, h5⟩⟩
    · intro v hv
      exact hu v hv
    · intro m hm
      simp at hm) (I 0 0) 0 (zu (zu M 36 4 (0 : Int32)) 36 5 (0 : Int32)) none none (by omega) (q_fr_zu (q_fr_zu q_fr_rf (by unfold q_DH; omega)) (by unfold q_DH; omega)) (by simp [zu_at]) (by simp [zu_at]) (fun u hu => by omega)
  exact ⟨M', Call.of (Nat.le_of_ble_eq_true rfl) (sg_Vo_hold_c_0 hA), hP⟩
