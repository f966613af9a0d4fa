/-! DIGEST: the number; the class's -/
def q_fo (f : Nat → Int32) (h : Int64) : Nat → Int64
  | 0 => h
  | k + 1 => (31 : Int64) * q_fo f h k + (f k).toInt64
def q_it (f : Int64 → Nat → Int64) (h : Int64) : Nat → Int64
  | 0 => h
  | k + 1 => f (q_it f h k) k
def q_dM0 (S : q_N) (h : Int64) (m : Nat) : Int64 := ((31 : Int64) * (((31 : Int64) * h) + ((nI (q_I S 6 m)).toInt64))) + ((nI (q_I S 7 m)).toInt64)
def q_dM1 (S : q_N) (h : Int64) (m : Nat) : Int64 := q_fo (fun w => nI ((q_liv (q_I S) (q_EA S)).2 (1 + w) m)) h 5
def q_dM2 (S : q_N) (h : Int64) (m : Nat) : Int64 := (((31 : Int64) * (((31 : Int64) * (((31 : Int64) * (((31 : Int64) * h) + ((q_put (q_I S) (q_EA S) m 0).toInt64))) + ((q_put (q_I S) (q_EA S) m 1).toInt64))) + q_cha S 5 m 0)) + q_cha S 5 m 1)
def q_dM3 (S : q_N) (h : Int64) (m : Nat) : Int64 := q_fo (fun v => nI ((q_liv (q_I S) (q_EA S)).2 0 (8 * m + v))) h (q_I S 0 0)
def q_dM (S : q_N) (h : Int64) (m : Nat) : Int64 := q_dM3 S (q_dM2 S (q_dM1 S (q_dM0 S h m) m) m) m
def q_dV0 (S : q_N) (h : Int64) (v : Nat) : Int64 := q_fo (fun w => nI (q_I S (1 + w) v)) h 3
def q_dV1 (S : q_N) (h : Int64) (v : Nat) : Int64 := q_fo (fun w => nI ((q_liv (q_I S) (q_EA S)).1 w v)) h 4
def q_dV2 (S : q_N) (h : Int64) (v : Nat) : Int64 := (((31 : Int64) * (((31 : Int64) * h) + ((q_was S v 0).toInt64))) + ((q_was S v 1).toInt64))
def q_dV (S : q_N) (h : Int64) (v : Nat) : Int64 := q_dV2 S (q_dV1 S (q_dV0 S h v) v) v
def q_dT0 (S : q_N) (h : Int64) : Int64 := q_fo (fun w => q_swp (q_I S) (q_EA S) w) h 3
def q_dT1 (S : q_N) (h : Int64) : Int64 := (((31 : Int64) * (((31 : Int64) * (((31 : Int64) * (((31 : Int64) * (((31 : Int64) * (((31 : Int64) * (((31 : Int64) * (((31 : Int64) * (((31 : Int64) * h) + ((q_wis (q_I S) (q_EA S) 0).toInt64))) + ((q_wis (q_I S) (q_EA S) 1).toInt64))) + ((q_spr S (-1)).toInt64))) + ((q_spr S 0).toInt64))) + ((q_mig S 0).toInt64))) + ((q_mig S 1).toInt64))) + ((q_ask S).toInt64))) + ((q_age S 7 9 0).toInt64))) + ((q_age S 7 9 1).toInt64))
def q_dT (S : q_N) (h : Int64) : Int64 := q_dT1 S (q_dT0 S h)
def q_dF (S : q_N) (h : Int64) : Int64 := ((31 : Int64) * (((31 : Int64) * h) + ((q_fl 0 (S 0 0) (S 1) (S 0 0) 0).toInt64))) + ((q_fl 1 (S 2 0) (S 3) (S 2 0) 0).toInt64)
def q_dS (S : q_N) (h : Int64) : Int64 := (((31 : Int64) * (((31 : Int64) * (((31 : Int64) * (((31 : Int64) * (((31 : Int64) * h) + ((nI (q_cn S 0)).toInt64))) + ((nI (q_cn S 1)).toInt64))) + ((q_lev (q_I S) (q_EA S)).toInt64))) + ((nI (q_loy (q_I S) (q_EA S))).toInt64))) + ((q_bit3 (q_I S) (q_EA S)).toInt64))
def q_d0 (S : q_N) : Int64 := q_fo (fun k => q_cou S (nI k)) 17 8
def q_d2 (S : q_N) : Int64 := q_it (q_dM S) (q_dF S (q_d0 S)) (q_I S 5 0)
def q_d3 (S : q_N) : Int64 := q_it (q_dV S) (q_d2 S) (q_I S 0 0)
def q_dig (S : q_N) : Int64 := q_dT S (q_dS S (q_d3 S))
/-- behind some questions -/
def q_st (S : q_N) (it : Nat → Int32) (M M1 : zM) : Prop := q_fr q_DY M M1 ∧ q_rC M1 S it
theorem q_goC {X : zX} {k : Nat} {args : List Value} {r : Value} {S : q_N} {it : Nat → Int32} {M M1 : zM} (hA : q_cA X k args r S) (h : q_st S it M M1) : ∃ M2, Call X k (.ref 0 :: args) M1 [r] M2 ∧ q_st S it M M2 := by
  obtain ⟨M2, hC, hf, hCC⟩ := hA M1 it h.2
  exact ⟨M2, hC, q_fr_tr h.1 hf, q_rC_Y h.2 hf hCC⟩
theorem q_st_rf {S : q_N} {it : Nat → Int32} {M : zM} (h : q_rC M S it) : q_st S it M M := ⟨q_fr_rf, h⟩
theorem q_st_A {S : q_N} {it : Nat → Int32} {M M1 : zM} (h : q_st S it M M1) : q_fr q_DY M M1 ∧ q_CC M1 S := ⟨h.1, h.2.2.2.2⟩
/-- of a measure -/
theorem q_wm3 {X : zX} {S : q_N} {M : zM} {m : Nat} {x1 h : Int64} {l2 : Option Value} (hS : q_ws S) (hV : q_CV M S) (hm : m < q_I S 5 0) : ∀ (d k : Nat) (l5 : Option Value), k + d = q_I S 0 0 → At X 74 130 [some (.ref 0), some (.long x1), l2, some (.int (nI m)), some (.long (q_fo (fun v => nI ((q_liv (q_I S) (q_EA S)).2 0 (8 * m + v))) h k)), l5, some (.int (nI k))] [] M [.long (q_dM3 S h m)] M := by
  have h8 := (q_I_wf hS).1
  intro d
  induction d with
  | zero =>
    intro k l5 hk
    have hk : k = q_I S 0 0 := by omega
    subst hk
    exact sg_Fv_withMeasure_130 ⟨fun _ => ⟨rfl, rfl⟩, fun c => absurd (by rw [hV.1.1]; exact Int32.le_refl _) c⟩
  | succ d ih =>
    intro k l5 hk
    refine sg_Fv_withMeasure_130 ⟨fun c => absurd c (q_nle hV.1.1 (by omega) (by omega)), fun _ => ⟨_, _, c_Fv_said_r hS hV hm (by omega), ?_⟩⟩
    rw [show nI k + (1 : Int32) = nI (k + 1) from nI_1 k]
    exact ih (k + 1) none (by omega)
theorem q_wm1 {X : zX} {S : q_N} {M M' : zM} {m : Nat} {x1 h : Int64} {l2 : Option Value} {R : Value} (hS : q_ws S) (hV : q_CV M S) (hm : m < q_I S 5 0) (hgo : ∀ l5 : Option Value, At X 74 34 [some (.ref 0), some (.long x1), l2, some (.int (nI m)), some (.long (q_dM1 S h m)), l5, some (.int (nI 5))] [] M [R] M') : ∀ (d k : Nat) (l5 : Option Value), k + d = 5 → At X 74 34 [some (.ref 0), some (.long x1), l2, some (.int (nI m)), some (.long (q_fo (fun w => nI ((q_liv (q_I S) (q_EA S)).2 (1 + w) m)) h k)), l5, some (.int (nI k))] [] M [R] M' := by
  intro d
  induction d with
  | zero =>
    intro k l5 hk
    have hk : k = 5 := by omega
    subst hk
    exact hgo l5
  | succ d ih =>
    intro k l5 hk
    refine sg_Fv_withMeasure_34 ⟨fun c => absurd ((q_le (a := 5) (by omega) (by omega)).mp c) (by omega), fun _ => ⟨_, _, c_Fv_tally_r hS hV hm (by omega), ?_⟩⟩
    rw [show nI k + (1 : Int32) = nI (k + 1) from nI_1 k]
    exact ih (k + 1) none (by omega)
theorem c_Fv_withMeasure_r {X : zX} {S : q_N} {m : Nat} {h : Int64} (hS : q_ws S) (hm : m < q_I S 5 0) : q_cA X 74 [.long h, .int (nI m)] (.long (q_dM S h m)) S := fun M it hM => by
  have hV := hM.2.1
  obtain ⟨M1, p1, s1⟩ := q_goC (c_Fv_put_r (X := X) (w := 0) hS hm (by omega)) (q_st_rf hM)
  obtain ⟨M2, p2, s2⟩ := q_goC (c_Fv_put_r (X := X) (w := 1) hS hm (by omega)) s1
  obtain ⟨M3, p3, s3⟩ := q_goC (c_Fv_chance_r (X := X) (c := 5) (w := 0) hS (by omega) hm (by omega)) s2
  obtain ⟨M4, p4, s4⟩ := q_goC (c_Fv_chance_r (X := X) (c := 5) (w := 1) hS (by omega) hm (by omega)) s3
  have m0 := c_Fv_measure_r (X := X) (w := 0) hS hV hm (by omega)
  have m1 := c_Fv_measure_r (X := X) (w := 1) hS hV hm (by omega)
  refine ⟨M4, Call.of (Nat.le_of_ble_eq_true rfl) (sg_Fv_withMeasure_0 ⟨_, _, m0, _, _, m1, ?_⟩), q_st_A s4⟩
  refine q_wm1 (h := q_dM0 S h m) hS hV hm (fun l5 => ?_) 5 0 none (by omega)
  exact sg_Fv_withMeasure_34 ⟨fun _ => ⟨_, _, p1, _, _, p2, _, _, p3, _, _, p4, q_wm3 (h := q_dM2 S (q_dM1 S (q_dM0 S h m) m) m) hS s4.2.2.1 hm (q_I S 0 0) 0 none (by omega)⟩, fun c => absurd (Int32.le_refl _) c⟩
/-- of a voter -/
theorem q_wv1 {X : zX} {S : q_N} {M M' : zM} {v : Nat} {x1 h : Int64} {l2 : Option Value} {R : Value} (hS : q_ws S) (hV : q_CV M S) (hv : v < q_I S 0 0) (hgo : ∀ l5 : Option Value, At X 75 38 [some (.ref 0), some (.long x1), l2, some (.int (nI v)), some (.long (q_dV1 S h v)), l5, some (.int (nI 4))] [] M [R] M') : ∀ (d k : Nat) (l5 : Option Value), k + d = 4 → At X 75 38 [some (.ref 0), some (.long x1), l2, some (.int (nI v)), some (.long (q_fo (fun w => nI ((q_liv (q_I S) (q_EA S)).1 w v)) h k)), l5, some (.int (nI k))] [] M [R] M' := by
  intro d
  induction d with
  | zero =>
    intro k l5 hk
    have hk : k = 4 := by omega
    subst hk
    exact hgo l5
  | succ d ih =>
    intro k l5 hk
    refine sg_Fv_withVoter_38 ⟨fun c => absurd ((q_le (a := 4) (by omega) (by omega)).mp c) (by omega), fun _ => ⟨_, _, c_Fv_at_r hS hV hv (by omega), ?_⟩⟩
    rw [show nI k + (1 : Int32) = nI (k + 1) from nI_1 k]
    exact ih (k + 1) none (by omega)
theorem q_wv0 {X : zX} {S : q_N} {M M' : zM} {v : Nat} {x1 h : Int64} {l2 : Option Value} {R : Value} (hS : q_ws S) (hV : q_CV M S) (hv : v < q_I S 0 0) (hgo : At X 75 38 [some (.ref 0), some (.long x1), l2, some (.int (nI v)), some (.long (q_dV0 S h v)), none, some (.int (nI 0))] [] M [R] M') : ∀ (d k : Nat) (l5 : Option Value), k + d = 3 → At X 75 6 [some (.ref 0), some (.long x1), l2, some (.int (nI v)), some (.long (q_fo (fun w => nI (q_I S (1 + w) v)) h k)), l5, some (.int (nI k))] [] M [R] M' := by
  intro d
  induction d with
  | zero =>
    intro k l5 hk
    have hk : k = 3 := by omega
    subst hk
    exact sg_Fv_withVoter_6 ⟨fun _ => hgo, fun c => absurd (Int32.le_refl _) c⟩
  | succ d ih =>
    intro k l5 hk
    refine sg_Fv_withVoter_6 ⟨fun c => absurd ((q_le (a := 3) (by omega) (by omega)).mp c) (by omega), fun _ => ⟨_, _, c_Fv_voter_r hS hV hv (by omega), ?_⟩⟩
    rw [show nI k + (1 : Int32) = nI (k + 1) from nI_1 k]
    exact ih (k + 1) none (by omega)
theorem c_Fv_withVoter_r {X : zX} {S : q_N} {v : Nat} {h : Int64} (hS : q_ws S) (hv : v < q_I S 0 0) : q_cA X 75 [.long h, .int (nI v)] (.long (q_dV S h v)) S := fun M it hM => by
  have hV := hM.2.1
  obtain ⟨M1, p1, s1⟩ := q_goC (c_Fv_was_r (X := X) (w := 0) hS hv (by omega)) (q_st_rf hM)
  obtain ⟨M2, p2, s2⟩ := q_goC (c_Fv_was_r (X := X) (w := 1) hS hv (by omega)) s1
  refine ⟨M2, Call.of (Nat.le_of_ble_eq_true rfl) (sg_Fv_withVoter_0 ?_), q_st_A s2⟩
  refine q_wv0 (h := h) hS hV hv ?_ 3 0 none (by omega)
  refine q_wv1 (h := q_dV0 S h v) hS hV hv (fun l5 => ?_) 4 0 none (by omega)
  exact sg_Fv_withVoter_38 ⟨fun _ => ⟨_, _, p1, _, _, p2, rfl, rfl⟩, fun c => absurd (Int32.le_refl _) c⟩
/-- the trials -/
theorem q_wt0 {X : zX} {S : q_N} {it : Nat → Int32} {M : zM} {h : Int64} (hS : q_ws S) : ∀ (d k : Nat) (M1 : zM) (l2 : Option Value), k + d = 3 → q_st S it M M1 → ∃ M', At X 77 173 [some (.ref 0), some (.long (q_fo (fun w => q_swp (q_I S) (q_EA S) w) h k)), l2, some (.int (nI k))] [] M1 [.long (q_dT S h)] M' ∧ q_st S it M M' := by
  intro d
  induction d with
  | zero =>
    intro k M1 l2 hk s0
    have hk : k = 3 := by omega
    subst hk
    obtain ⟨M2, p1, s1⟩ := q_goC (c_Fv_wish_r (X := X) (w := 0) hS (by omega)) s0
    obtain ⟨M3, p2, s2⟩ := q_goC (c_Fv_wish_r (X := X) (w := 1) hS (by omega)) s1
    obtain ⟨M4, p3, s3⟩ := q_goC (c_Fv_spare_r (X := X) (x := -1) hS (by unfold q_m11; decide)) s2
    obtain ⟨M5, p4, s4⟩ := q_goC (c_Fv_spare_r (X := X) (x := 0) hS (by unfold q_m11; decide)) s3
    obtain ⟨M6, p5, s5⟩ := q_goC (c_Fv_might_r (X := X) (w := 0) hS (by omega)) s4
    obtain ⟨M7, p6, s6⟩ := q_goC (c_Fv_might_r (X := X) (w := 1) hS (by omega)) s5
    obtain ⟨M8, p7, s7⟩ := q_goC (c_Fv_ask_r (X := X) hS) s6
    obtain ⟨M9, p8, s8⟩ := q_goC (c_Fv_ages_r (X := X) (s := 7) (n := 9) (w := 0) hS (by omega) (by omega)) s7
    obtain ⟨M10, p9, s9⟩ := q_goC (c_Fv_ages_r (X := X) (s := 7) (n := 9) (w := 1) hS (by omega) (by omega)) s8
    exact ⟨M10, sg_Fv_digest_173 ⟨fun _ => ⟨_, _, p1, _, _, p2, _, _, p3, _, _, p4, _, _, p5, _, _, p6, _, _, p7, _, _, p8, _, _, p9, rfl, rfl⟩, fun c => absurd (Int32.le_refl _) c⟩, s9⟩
  | succ d ih =>
    intro k M1 l2 hk s0
    obtain ⟨M2, p1, s1⟩ := q_goC (c_Fv_swap_r (X := X) (w := k) hS (by omega)) s0
    obtain ⟨M', hA, hZ⟩ := ih (k + 1) M2 none (by omega) s1
    refine ⟨M', sg_Fv_digest_173 ⟨fun c => absurd ((q_le (a := 3) (by omega) (by omega)).mp c) (by omega), fun _ => ⟨_, _, p1, ?_⟩⟩, hZ⟩
    rw [show nI k + (1 : Int32) = nI (k + 1) from nI_1 k]
    exact hA
/-- all of it -/
theorem q_dg3 {X : zX} {S : q_N} {it : Nat → Int32} {M : zM} (hS : q_ws S) : ∀ (d k : Nat) (M1 : zM) (l2 : Option Value), k + d = q_I S 0 0 → q_st S it M M1 → ∃ M', At X 77 85 [some (.ref 0), some (.long (q_it (q_dV S) (q_d2 S) k)), l2, some (.int (nI k))] [] M1 [.long (q_dig S)] M' ∧ q_st S it M M' := by
  have hwf := q_I_wf hS
  have h8 := hwf.1
  intro d
  induction d with
  | zero =>
    intro k M1 l2 hk s0
    have hk : k = q_I S 0 0 := by omega
    subst hk
    have hV := s0.2.2.1
    obtain ⟨M2, p1, s1⟩ := q_wt0 (X := X) (h := q_dS S (q_d3 S)) hS 3 0 M1 none (by omega) s0
    exact ⟨M2, sg_Fv_digest_85 ⟨fun _ => ⟨_, _, c_Fv_sum_r (w := 0) hS hV (by omega), _, _, c_Fv_sum_r (w := 1) hS hV (by omega), _, _, c_Fv_level hwf hV.2.1 hV.2.2, _, _, c_Fv_loyal hwf hV.2.2 hV.1.1, _, _, c_Fv_bitter hwf hV.2.2 hV.1.1, p1⟩, fun c => absurd (by rw [hV.1.1]; exact Int32.le_refl _) c⟩, s1⟩
  | succ d ih =>
    intro k M1 l2 hk s0
    obtain ⟨M2, p1, s1⟩ := q_goC (c_Fv_withVoter_r (X := X) (v := k) (h := q_it (q_dV S) (q_d2 S) k) hS (by omega)) s0
    obtain ⟨M', hA, hZ⟩ := ih (k + 1) M2 none (by omega) s1
    refine ⟨M', sg_Fv_digest_85 ⟨fun c => absurd c (q_nle s0.2.2.1.1.1 (by omega) (by omega)), fun _ => ⟨_, _, p1, ?_⟩⟩, hZ⟩
    rw [show nI k + (1 : Int32) = nI (k + 1) from nI_1 k]
    exact hA
theorem q_dg2 {X : zX} {S : q_N} {it : Nat → Int32} {M : zM} (hS : q_ws S) : ∀ (d k : Nat) (M1 : zM) (l2 : Option Value), k + d = q_I S 5 0 → q_st S it M M1 → ∃ M', At X 77 59 [some (.ref 0), some (.long (q_it (q_dM S) (q_dF S (q_d0 S)) k)), l2, some (.int (nI k))] [] M1 [.long (q_dig S)] M' ∧ q_st S it M M' := by
  have hwf := q_I_wf hS
  have h12 := hwf.2.2.2.1
  intro d
  induction d with
  | zero =>
    intro k M1 l2 hk s0
    have hk : k = q_I S 5 0 := by omega
    subst hk
    obtain ⟨M', hA, hZ⟩ := q_dg3 (X := X) hS (q_I S 0 0) 0 M1 none (by omega) s0
    exact ⟨M', sg_Fv_digest_59 ⟨fun _ => hA, fun c => absurd (by rw [s0.2.2.1.2.1.1]; exact Int32.le_refl _) c⟩, hZ⟩
  | succ d ih =>
    intro k M1 l2 hk s0
    obtain ⟨M2, p1, s1⟩ := q_goC (c_Fv_withMeasure_r (X := X) (m := k) (h := q_it (q_dM S) (q_dF S (q_d0 S)) k) hS (by omega)) s0
    obtain ⟨M', hA, hZ⟩ := ih (k + 1) M2 none (by omega) s1
    refine ⟨M', sg_Fv_digest_59 ⟨fun c => absurd c (q_nle s0.2.2.1.2.1.1 (by omega) (by omega)), fun _ => ⟨_, _, p1, ?_⟩⟩, hZ⟩
    rw [show nI k + (1 : Int32) = nI (k + 1) from nI_1 k]
    exact hA
theorem q_dg1 {X : zX} {S : q_N} {it : Nat → Int32} {M M' : zM} {R : Value} (hS : q_ws S) (hM : q_rC M S it) (hgo : At X 77 59 [some (.ref 0), some (.long (q_dF S (q_d0 S))), none, some (.int (nI 0))] [] M [R] M') : ∀ (d k : Nat) (l2 : Option Value), k + d = 8 → At X 77 6 [some (.ref 0), some (.long (q_fo (fun k => q_cou S (nI k)) 17 k)), l2, some (.int (nI k))] [] M [R] M' := by
  intro d
  induction d with
  | zero =>
    intro k l2 hk
    have hk : k = 8 := by omega
    subst hk
    have f0 := c_Fv_fault_v (X := X) hM.1.1 hS.1.1
    have f1 := c_Fv_fault_m (X := X) hM.1.2.1 hS.2.1.1
    exact sg_Fv_digest_6 ⟨fun _ => ⟨_, _, f0, _, _, f1, hgo⟩, fun c => absurd (Int32.le_refl _) c⟩
  | succ d ih =>
    intro k l2 hk
    refine sg_Fv_digest_6 ⟨fun c => absurd ((q_le (a := 8) (by omega) (by omega)).mp c) (by omega), fun _ => ⟨_, _, c_Fv_count_r (x := nI k) hS hM, ?_⟩⟩
    rw [show nI k + (1 : Int32) = nI (k + 1) from nI_1 k]
    exact ih (k + 1) none (by omega)
theorem c_Fv_digest_r {X : zX} {S : q_N} (hS : q_ws S) : q_cA X 77 [] (.long (q_dig S)) S := fun M it hM => by
  obtain ⟨M', hA, hZ⟩ := q_dg2 (X := X) hS (q_I S 5 0) 0 M none (by omega) (q_st_rf hM)
  exact ⟨M', Call.of (Nat.le_of_ble_eq_true rfl) (sg_Fv_digest_0 (q_dg1 hS hM hA 8 0 none (by omega))), q_st_A hZ⟩
