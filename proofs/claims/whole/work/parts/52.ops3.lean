/-! FOOL -/
theorem q_fool {X : zX} {S : q_N} {it : Nat → Int32} {w v : Nat} (hS : q_ws S) (hw : w < 2) (hv : v < (if w = 0 then 8 else 10)) : q_op X 20 103 [.int (nI w), .int (nI v)] S it := by
  have hr : ∀ x, x ≠ 4 → q_up S 4 w v x = S x := fun x hx => q_up_ne hx
  have hS' : q_ws (q_up S 4 w v) := by
    have hS0 := hS
    obtain ⟨h1, h2, h3, h4, h5⟩ := hS
    refine q_ws_A hS0 (fun x hx => hr x (by omega)) ?_ ?_ ?_ ?_
    · rw [hr _ (by omega), hr _ (by omega)]; exact h1
    · rw [hr _ (by omega), hr _ (by omega)]; exact h2
    · unfold q_up
      have hw' : w = 0 ∨ w = 1 := by omega
      rcases hw' with rfl | rfl
      · simp at hv ⊢; exact ⟨hv, h3.2⟩
      · simp at hv ⊢; exact ⟨h3.1, hv⟩
    · rw [hr _ (by omega), hr _ (by omega), hr _ (by omega), hr _ (by omega)]; exact h4
  have hv10 : v < 10 := by split at hv <;> omega
  refine ⟨.int (nI (S 4 w)), q_up S 4 w v, it, rfl, hS', fun M h => ?_, fun M h => ?_⟩
  · obtain ⟨t1, t2, t3, t4⟩ := h.1
    obtain ⟨M1, hC, hh, hR⟩ := q_reA (X := X) (M0 := zu M 5 (13 + w) (nI v)) h hS' (fun x hx => hr x (by omega)) (q_fr_zu q_fr_rf (by unfold q_DC; omega)) (by
      refine q_CT_cg (S := q_up S 4 w v) (fun x hx => rfl) ?_
      unfold q_CT
      rw [hr 0 (by omega), hr 1 (by omega), hr 2 (by omega), hr 3 (by omega), hr 5 (by omega)]
      refine ⟨q_tx_fr t1 (zu_n (by omega)) (fun i hi => zu_n (by omega)), q_tx_fr t2 (zu_n (by omega)) (fun i hi => zu_n (by omega)), ?_, by rw [zu_n (by omega)]; exact t4.1, t4.2.1, fun i hi => ?_⟩
      · have hw' : w = 0 ∨ w = 1 := by omega
        rcases hw' with rfl | rfl
        · exact ⟨by rw [q_up_eq]; exact zu_y, by rw [q_up_n2 (by omega), zu_n (by omega)]; exact t3.2⟩
        · exact ⟨by rw [q_up_n2 (by omega), zu_n (by omega)]; exact t3.1, by rw [q_up_eq]; exact zu_y⟩
      · have e0 : ∀ x, x ≤ 2 → q_K (q_up S 4 w v) x i = q_K S x i := fun x hx => by unfold q_K; rw [hr _ (by omega)]
        rw [e0 0 (by omega), e0 1 (by omega), e0 2 (by omega), zu_n (by omega), zu_n (by omega), zu_n (by omega)]
        exact t4.2.2 i hi)
    have e1 : f_Fv_below (nI w) 2 M = 1 := q_below_1 (n := 2) M (by omega) ⟨w, hw, rfl⟩
    have hw' : w = 0 ∨ w = 1 := by omega
    rcases hw' with rfl | rfl
    · have e2 : f_Fv_below (nI v) (if nI 0 = 0 then (8 : Int32) else (10 : Int32)) M = 1 := q_below_1 (n := 8) M (by omega) ⟨v, by simpa using hv, rfl⟩
      refine ⟨M1, Call.of (Nat.le_of_ble_eq_true rfl) (sg_Fv_fool_0 ⟨_, _, c_Fv_below, fun c => absurd (e1.symm.trans c) q_n10, fun _ => ⟨_, _, c_Fv_below, fun _ => ⟨fun c => absurd (show nI 0 = (0 : Int32) from rfl) c, fun _ => ⟨M1, hC, ?_, rfl⟩⟩, fun c => absurd (e2.symm.trans c) q_n10⟩⟩), hh, hR⟩
      rw [if_pos (show nI 0 = (0 : Int32) from rfl), t3.1]
    · have e2 : f_Fv_below (nI v) (if nI 1 = 0 then (8 : Int32) else (10 : Int32)) M = 1 := q_below_1 (n := 10) M (by omega) ⟨v, by simpa using hv, rfl⟩
      refine ⟨M1, Call.of (Nat.le_of_ble_eq_true rfl) (sg_Fv_fool_0 ⟨_, _, c_Fv_below, fun c => absurd (e1.symm.trans c) q_n10, fun _ => ⟨_, _, c_Fv_below, fun _ => ⟨fun _ => ⟨M1, hC, ?_, rfl⟩, fun c => absurd c (show ¬ nI 1 = (0 : Int32) by decide)⟩, fun c => absurd (e2.symm.trans c) q_n10⟩⟩), hh, hR⟩
      rw [if_neg (show ¬ nI 1 = (0 : Int32) by decide), t3.2]
  · obtain ⟨t1, t2, t3, t4⟩ := (q_rM_AB.mp h).1
    have g1 : f_Mo_isTwo (nI w) M = 1 := q_in_1 (n := 2) M (by omega) (by decide) ⟨w, hw, rfl⟩
    have g2 : f_Mo_in (nI v).toInt64 0 (if nI w = 0 then (7 : Int64) else (9 : Int64)) M = 1 := by
      have hw' : w = 0 ∨ w = 1 := by omega
      rcases hw' with rfl | rfl
      · exact q_in_1 (n := 8) M (by omega) (by decide) ⟨v, by simpa using hv, rfl⟩
      · exact q_in_1 (n := 10) M (by omega) (by decide) ⟨v, by simpa using hv, rfl⟩
    have c := c_Mo_fool (X := X) (x1 := nI w) (x2 := nI v) (M := M) ⟨q_in_01 _ _ _ _, fun _ => trivial, fun _ => ⟨fun _ => ⟨q_in hw (by omega), q_in hw (by omega)⟩, fun _ => trivial⟩⟩
    unfold f_Mo_fool m_Mo_fool at c
    rw [g1, g2, if_neg q_n10, if_neg q_n10, if_neg q_n10, if_neg q_n10, q_cl (by omega)] at c
    have e0 : M 62 w = nI (S 4 w) := by
      have hw' : w = 0 ∨ w = 1 := by omega
      rcases hw' with rfl | rfl
      · exact t3.1
      · exact t3.2
    rw [e0] at c
    refine ⟨_, c, fun a b ha => zu_n (by omega), q_rM_A h (fun x hx => hr x (by omega)) (q_fr_zu q_fr_rf (by unfold q_DA; omega)) ?_⟩
    unfold q_MA
    rw [hr 0 (by omega), hr 1 (by omega), hr 2 (by omega), hr 3 (by omega), hr 5 (by omega)]
    refine ⟨q_mt0_fr t1 (zu_n (by omega)) (fun i hi => zu_n (by omega)), q_mt1_fr t2 (zu_n (by omega)) (fun i hi => zu_n (by omega)), ?_, ?_⟩
    · have hw' : w = 0 ∨ w = 1 := by omega
      rcases hw' with rfl | rfl
      · exact ⟨by rw [q_up_eq]; exact zu_y, by rw [q_up_n2 (by omega), zu_n (by omega)]; exact t3.2⟩
      · exact ⟨by rw [q_up_n2 (by omega), zu_n (by omega)]; exact t3.1, by rw [q_up_eq]; exact zu_y⟩
    · have e1 := q_mev_zu (k := 62) (i := w) (v := nI v) t4 (by omega)
      obtain ⟨d1, d2, d3, d4, d5, d6⟩ := e1
      refine ⟨d1, d2, d3, d4, d5, fun i hi => ?_⟩
      have e0 : ∀ x, x ≤ 2 → q_K (q_up S 4 w v) x i = q_K S x i := fun x hx => by unfold q_K; rw [hr _ (by omega)]
      rw [e0 0 (by omega), e0 1 (by omega), e0 2 (by omega)]
      exact d6 i hi
/-- FOOL -/
theorem o_fool {X : zX} {S : q_N} {it : Nat → Int32} {x1 x2 : Int32} (hS : q_ws S) : q_op X 20 103 [.int x1, .int x2] S it := by
  by_cases h1 : q_is x1 2
  case neg =>
    refine q_op_same (.int (-2)) hS (fun M h => ?_) (fun M h => ?_)
    · have e : f_Fv_below x1 2 M = 0 := q_below_0 (n := 2) M (by omega) h1
      exact Call.of (Nat.le_of_ble_eq_true rfl) (sg_Fv_fool_0 ⟨_, _, c_Fv_below, fun _ => ⟨rfl, rfl⟩, fun c => absurd e c⟩)
    · have e : f_Mo_isTwo x1 M = 0 := q_in_0 (n := 2) M (by omega) (by decide) h1
      have c := c_Mo_fool (X := X) (x1 := x1) (x2 := x2) (M := M) ⟨q_in_01 _ _ _ _, fun _ => trivial, fun c => absurd e c⟩
      unfold f_Mo_fool m_Mo_fool at c
      rw [if_pos e, if_pos e] at c
      exact c
  obtain ⟨w, hw, rfl⟩ := h1
  by_cases h2 : q_is x2 (if w = 0 then 8 else 10)
  · obtain ⟨v, hv, rfl⟩ := h2
    exact q_fool hS hw hv
  · refine q_op_same (.int (-2)) hS (fun M h => ?_) (fun M h => ?_)
    · have e1 : f_Fv_below (nI w) 2 M = 1 := q_below_1 (n := 2) M (by omega) ⟨w, hw, rfl⟩
      have e2 : f_Fv_below x2 (if nI w = 0 then (8 : Int32) else (10 : Int32)) M = 0 := by
        have hw' : w = 0 ∨ w = 1 := by omega
        rcases hw' with rfl | rfl
        · exact q_below_0 (n := 8) M (by omega) h2
        · exact q_below_0 (n := 10) M (by omega) h2
      exact Call.of (Nat.le_of_ble_eq_true rfl) (sg_Fv_fool_0 ⟨_, _, c_Fv_below, fun c => absurd (e1.symm.trans c) q_n10, fun _ => ⟨_, _, c_Fv_below, fun c => absurd e2 c, fun _ => ⟨rfl, rfl⟩⟩⟩)
    · have g1 : f_Mo_isTwo (nI w) M = 1 := q_in_1 (n := 2) M (by omega) (by decide) ⟨w, hw, rfl⟩
      have g2 : f_Mo_in x2.toInt64 0 (if nI w = 0 then (7 : Int64) else (9 : Int64)) M = 0 := by
        have hw' : w = 0 ∨ w = 1 := by omega
        rcases hw' with rfl | rfl
        · exact q_in_0 (n := 8) M (by omega) (by decide) h2
        · exact q_in_0 (n := 10) M (by omega) (by decide) h2
      have c := c_Mo_fool (X := X) (x1 := nI w) (x2 := x2) (M := M) ⟨q_in_01 _ _ _ _, fun _ => trivial, fun _ => ⟨fun c => absurd g2 c, fun _ => trivial⟩⟩
      unfold f_Mo_fool m_Mo_fool at c
      rw [g1, g2, if_neg q_n10, if_neg q_n10, if_pos rfl, if_pos rfl] at c
      exact c
/-! TYPE, WIPE, UNDO -/
/-- the text v is new, the rest as it was -/
theorem q_text_v {X : zX} {S S' : q_N} {it : Nat → Int32} (hS : q_ws S) (hr : ∀ x, x ≠ 0 → x ≠ 1 → S' x = S x) (hn : S' 0 0 ≤ 31) (hb : ∀ i, i < S' 0 0 → S' 1 i < 256) : q_ws S' ∧ (∀ M M0, q_rC M S it → q_fr (fun a b => a = 1 ∨ a = 2) M M0 → q_tx M0 1 2 (S' 0 0) (S' 1) → ∃ M1, Call X 14 [.ref 0] M0 [] M1 ∧ q_hi M M1 ∧ q_rC M1 S' it) ∧ (∀ M M0, q_rM M S it → q_fr (fun a b => (a = 59 ∧ b = 0) ∨ (a = 58 ∧ 0 ≤ b ∧ b < 36 + 0)) M M0 → q_mt0 M0 (S' 0 0) (S' 1) → q_rM M0 S' it) := by
  have hS' : q_ws S' := by
    have hS0 := hS
    obtain ⟨h1, h2, h3, h4, h5⟩ := hS
    refine q_ws_A hS0 (fun x hx => hr x (by omega) (by omega)) ?_ ?_ ?_ ?_
    · exact ⟨hn, hb⟩
    · rw [hr _ (by omega) (by omega), hr _ (by omega) (by omega)]; exact h2
    · rw [hr _ (by omega) (by omega)]; exact h3
    · rw [hr _ (by omega) (by omega), hr _ (by omega) (by omega), hr _ (by omega) (by omega), hr _ (by omega) (by omega)]; exact h4
  have hK : ∀ x i, x ≤ 2 → q_K S' x i = q_K S x i := fun x i hx => by unfold q_K; rw [hr _ (by omega) (by omega)]
  refine ⟨hS', fun M M0 h hf ht => ?_, fun M M0 h hf ht => ?_⟩
  · have fr : ∀ a b, ¬ (a = 1 ∨ a = 2) → M0 a b = M a b := hf
    obtain ⟨t1, t2, t3, t4⟩ := h.1
    refine q_reA h hS' (fun x hx => hr x (by omega) (by omega)) (q_fr_mono hf (fun a b q => by unfold q_DC; omega)) ?_
    unfold q_CT
    rw [hr 2 (by omega) (by omega), hr 3 (by omega) (by omega), hr 4 (by omega) (by omega), hr 5 (by omega) (by omega)]
    refine ⟨ht, q_tx_fr t2 (fr _ _ (by omega)) (fun i hi => fr _ _ (by omega)), ⟨by rw [fr _ _ (by omega)]; exact t3.1, by rw [fr _ _ (by omega)]; exact t3.2⟩, by rw [fr _ _ (by omega)]; exact t4.1, t4.2.1, fun i hi => ?_⟩
    rw [hK 0 i (by omega), hK 1 i (by omega), hK 2 i (by omega), fr 13 _ (by omega), fr 14 _ (by omega), fr 15 _ (by omega)]
    exact t4.2.2 i hi
  · have fr : ∀ a b, ¬ ((a = 59 ∧ b = 0) ∨ (a = 58 ∧ 0 ≤ b ∧ b < 36 + 0)) → M0 a b = M a b := hf
    obtain ⟨t1, t2, t3, t4⟩ := (q_rM_AB.mp h).1
    refine q_rM_A h (fun x hx => hr x (by omega) (by omega)) (q_fr_mono hf (fun a b q => by unfold q_DA; omega)) ?_
    unfold q_MA
    rw [hr 2 (by omega) (by omega), hr 3 (by omega) (by omega), hr 4 (by omega) (by omega), hr 5 (by omega) (by omega)]
    obtain ⟨d1, d2, d3, d4, d5, d6⟩ := t4
    have m0 := t1.2.1
    have m1 := t2.2.1
    refine ⟨ht, q_mt1_fr t2 (fr _ _ (by omega)) (fun i hi => fr _ _ (by omega)), ⟨by rw [fr _ _ (by omega)]; exact t3.1, by rw [fr _ _ (by omega)]; exact t3.2⟩, by rw [fr _ _ (by omega)]; exact d1, d2, by rw [fr _ _ (by omega)]; exact d3, d4, d5, fun i hi => ?_⟩
    rw [hK 0 i (by omega), hK 1 i (by omega), hK 2 i (by omega), fr 63 _ (by omega), fr 63 _ (by omega), fr 63 _ (by omega)]
    exact d6 i hi
theorem q_len_v {M : zM} {S : q_N} {it : Nat → Int32} : (q_rC M S it → q_tx M 1 2 (S 0 0) (S 1)) ∧ (q_rM M S it → q_mt0 M (S 0 0) (S 1)) := ⟨fun h => h.1.1, fun h => h.1⟩
theorem q_wipe_v {X : zX} {S : q_N} {it : Nat → Int32} (hS : q_ws S) : q_op X 16 90 [.int (nI 0)] S it := by
  obtain ⟨hS', hC, hM⟩ := q_text_v (X := X) (it := it) (S' := q_up S 0 0 0) hS (fun x h1 h2 => q_up_ne h1) (by rw [q_up_eq]; omega) (fun i hi => by rw [q_up_eq] at hi; omega)
  refine ⟨.int (nI (S 0 0)), q_up S 0 0 0, it, rfl, hS', fun M h => ?_, fun M h => ?_⟩
  · have t := q_len_v.1 h
    obtain ⟨M1, h1, h2, h3⟩ := hC M (zu M 1 1 0) h (q_fr_zu q_fr_rf (by omega)) (by rw [q_up_eq]; exact ⟨zu_y, fun i hi => by omega⟩)
    refine ⟨M1, Call.of (Nat.le_of_ble_eq_true rfl) (sg_Fv_wipe_v_0 ⟨_, _, c_Fv_below, fun _ => ⟨_, c_Fv_textOf, M1, h1, ?_, rfl⟩, fun c => absurd ((q_below_1 (n := 2) M (by omega) ⟨0, by omega, rfl⟩).symm.trans c) q_n10⟩), h2, h3⟩
    rw [t.1]
  · have t := q_len_v.2 h
    have g1 : f_Mo_isTwo (nI 0) M = 1 := q_in_1 (n := 2) M (by omega) (by decide) ⟨0, by omega, rfl⟩
    have c := c_Mo_wipe (X := X) (x1 := nI 0) (M := M) ⟨q_in_01 _ _ _ _, fun _ => ⟨q_in (by omega) (by omega), q_in (by omega) (by omega)⟩, fun _ => trivial⟩
    unfold f_Mo_wipe m_Mo_wipe at c
    rw [g1, if_neg q_n10, if_neg q_n10, q_cl (by omega), t.1] at c
    exact ⟨_, c, fun a b ha => zu_n (by omega), hM M _ h (q_fr_zu q_fr_rf (by omega)) (by rw [q_up_eq]; exact ⟨zu_y, by omega, fun i hi => by omega⟩)⟩
theorem q_undo_v {X : zX} {S : q_N} {it : Nat → Int32} (hS : q_ws S) : q_op X 17 91 [.int (nI 0)] S it := by
  have hw : S 0 0 ≤ 31 := hS.1.1
  by_cases h0 : S 0 0 = 0
  · refine q_op_same (.int (-3)) hS (fun M h => ?_) (fun M h => ?_)
    · have t := q_len_v.1 h
      rw [h0] at t
      exact Call.of (Nat.le_of_ble_eq_true rfl) (sg_Fv_undo_v_0 ⟨_, _, c_Fv_below, fun _ => ⟨_, c_Fv_textOf, fun c => absurd t.1 c, fun _ => ⟨rfl, rfl⟩⟩, fun c => absurd ((q_below_1 (n := 2) M (by omega) ⟨0, by omega, rfl⟩).symm.trans c) q_n10⟩)
    · have t := q_len_v.2 h
      rw [h0] at t
      have g1 : f_Mo_isTwo (nI 0) M = 1 := q_in_1 (n := 2) M (by omega) (by decide) ⟨0, by omega, rfl⟩
      have c := c_Mo_undo (X := X) (x1 := nI 0) (M := M) ⟨q_in_01 _ _ _ _, fun _ => ⟨q_in (by omega) (by omega), fun _ => ⟨q_in (by omega) (by omega), q_in (by omega) (by omega), q_in (by omega) (by omega)⟩, fun _ => trivial⟩, fun _ => trivial⟩
      unfold f_Mo_undo m_Mo_undo at c
      rw [g1, if_neg q_n10, if_neg q_n10, q_cl (by omega), if_pos (show M 59 0 = 0 from t.1), if_pos (show M 59 0 = 0 from t.1)] at c
      exact c
  · obtain ⟨hS', hC, hM⟩ := q_text_v (X := X) (it := it) (S' := q_up S 0 0 (S 0 0 - 1)) hS (fun x h1 h2 => q_up_ne h1) (by rw [q_up_eq]; omega) (fun i hi => by rw [q_up_eq] at hi; rw [q_up_ne (by omega)]; exact hS.1.2 i (by omega))
    refine ⟨.int (nI (S 0 0 - 1)), q_up S 0 0 (S 0 0 - 1), it, rfl, hS', fun M h => ?_, fun M h => ?_⟩
    · have t := q_len_v.1 h
      obtain ⟨M1, h1, h2, h3⟩ := hC M (zu M 1 1 (nI (S 0 0 - 1))) h (q_fr_zu q_fr_rf (by omega)) (by rw [q_up_eq, q_up_ne (by omega)]; exact ⟨zu_y, fun i hi => by rw [zu_n (by omega)]; exact t.2 i (by omega)⟩)
      have t3 := q_len_v.1 h3
      rw [q_up_eq] at t3
      refine ⟨M1, Call.of (Nat.le_of_ble_eq_true rfl) (sg_Fv_undo_v_0 ⟨_, _, c_Fv_below, fun _ => ⟨_, c_Fv_textOf, fun c => ?_, fun c => absurd (by rw [t.1] at c; exact (q_eq (b := 0) (by omega) (by omega)).mp c) h0⟩, fun c => absurd ((q_below_1 (n := 2) M (by omega) ⟨0, by omega, rfl⟩).symm.trans c) q_n10⟩), h2, h3⟩
      rw [t.1, show nI (S 0 0) - (1 : Int32) = nI (S 0 0 - 1) from pk_sub (b := 1) (by omega)]
      exact ⟨M1, h1, by rw [t3.1], rfl⟩
    · have t := q_len_v.2 h
      have g1 : f_Mo_isTwo (nI 0) M = 1 := q_in_1 (n := 2) M (by omega) (by decide) ⟨0, by omega, rfl⟩
      have c := c_Mo_undo (X := X) (x1 := nI 0) (M := M) ⟨q_in_01 _ _ _ _, fun _ => ⟨q_in (by omega) (by omega), fun _ => ⟨q_in (by omega) (by omega), q_in (by omega) (by omega), q_in (by omega) (by omega)⟩, fun _ => trivial⟩, fun _ => trivial⟩
      unfold f_Mo_undo m_Mo_undo at c
      have n0 : ¬ M 59 0 = 0 := by rw [t.1]; exact fun q => h0 ((q_eq (b := 0) (by omega) (by omega)).mp q)
      rw [g1, if_neg q_n10, if_neg q_n10, q_cl (by omega), if_neg n0, if_neg n0, zu_y, t.1, show nI (S 0 0) - (1 : Int32) = nI (S 0 0 - 1) from pk_sub (b := 1) (by omega)] at c
      exact ⟨_, c, fun a b ha => zu_n (by omega), hM M _ h (q_fr_zu q_fr_rf (by omega)) (by rw [q_up_eq, q_up_ne (by omega)]; exact ⟨zu_y, by omega, fun i hi => by rw [zu_n (by omega)]; exact t.2.2 i (by omega)⟩)⟩
theorem q_type_v {X : zX} {S : q_N} {it : Nat → Int32} {v : Nat} (hS : q_ws S) (hv : v < 256) : q_op X 15 89 [.int (nI 0), .int (nI v)] S it := by
  have hw : S 0 0 ≤ 31 := hS.1.1
  by_cases h0 : S 0 0 = 31
  · refine q_op_same (.int (-4)) hS (fun M h => ?_) (fun M h => ?_)
    · have t := q_len_v.1 h
      rw [h0] at t
      exact Call.of (Nat.le_of_ble_eq_true rfl) (sg_Fv_type_v_0 ⟨_, _, c_Fv_below, fun c => absurd ((q_below_1 (n := 2) M (by omega) ⟨0, by omega, rfl⟩).symm.trans c) q_n10, fun _ => ⟨_, _, c_Fv_below, fun _ => ⟨_, c_Fv_textOf, fun c => absurd c (by rw [t.1]; decide), fun _ => ⟨rfl, rfl⟩⟩, fun c => absurd ((q_below_1 (n := 256) M (by omega) ⟨v, hv, rfl⟩).symm.trans c) q_n10⟩⟩)
    · have t := q_len_v.2 h
      rw [h0] at t
      have g1 : f_Mo_isTwo (nI 0) M = 1 := q_in_1 (n := 2) M (by omega) (by decide) ⟨0, by omega, rfl⟩
      have g2 : f_Mo_in (nI v).toInt64 0 255 M = 1 := q_in_1 (n := 256) M (by omega) (by decide) ⟨v, hv, rfl⟩
      have n1 : M 59 (nI 0).toNatClampNeg = (if nI 0 = 0 then (31 : Int32) else (35 : Int32)) := t.1
      have c := c_Mo_type (X := X) (x1 := nI 0) (x2 := nI v) (M := M) ⟨q_in_01 _ _ _ _, fun _ => trivial, fun _ => ⟨fun _ => ⟨q_in (by omega) (by omega), fun c => absurd n1 c, fun _ => trivial⟩, fun _ => trivial⟩⟩
      unfold f_Mo_type m_Mo_type at c
      rw [g1, g2, if_neg q_n10, if_neg q_n10, if_neg q_n10, if_neg q_n10, if_pos n1, if_pos n1] at c
      exact c
  · have rq : ∀ i, q_up (q_up S 1 (S 0 0) v) 0 0 (S 0 0 + 1) 1 i = if i = S 0 0 then v else S 1 i := fun i => by
      rw [q_up_ne (by omega)]
      split
      · rename_i e; rw [e, q_up_eq]
      · rename_i e; rw [q_up_n2 e]
    obtain ⟨hS', hC, hM⟩ := q_text_v (X := X) (it := it) (S' := q_up (q_up S 1 (S 0 0) v) 0 0 (S 0 0 + 1)) hS (fun x h1 h2 => by rw [q_up_ne h1, q_up_ne h2]) (by rw [q_up_eq]; omega) (fun i hi => by
      rw [q_up_eq] at hi
      rw [rq]
      split
      · exact hv
      · exact hS.1.2 i (by omega))
    refine ⟨.int (nI (S 0 0 + 1)), q_up (q_up S 1 (S 0 0) v) 0 0 (S 0 0 + 1), it, rfl, hS', fun M h => ?_, fun M h => ?_⟩
    · have t := q_len_v.1 h
      obtain ⟨M1, h1, h2, h3⟩ := hC M (zu (zu M 2 (S 0 0) (nI v)) 1 1 (nI (S 0 0 + 1))) h (q_fr_zu (q_fr_zu q_fr_rf (by omega)) (by omega)) (by
        rw [q_up_eq]
        refine ⟨zu_y, fun i hi => ?_⟩
        rw [rq]
        by_cases e : i = S 0 0
        · rw [if_pos e, e, zu_n (by omega), zu_y]; exact ⟨rfl, hv⟩
        · rw [if_neg e, zu_n (by omega), zu_n (by omega)]; exact t.2 i (by omega))
      have t3 := q_len_v.1 h3
      rw [q_up_eq] at t3
      refine ⟨M1, Call.of (Nat.le_of_ble_eq_true rfl) (sg_Fv_type_v_0 ⟨_, _, c_Fv_below, fun c => absurd ((q_below_1 (n := 2) M (by omega) ⟨0, by omega, rfl⟩).symm.trans c) q_n10, fun _ => ⟨_, _, c_Fv_below, fun _ => ⟨_, c_Fv_textOf, fun _ => ?_, fun c => absurd (show M 1 1 < 31 by rw [t.1]; exact (q_lt (b := 31) (by omega) (by omega)).mpr (by omega)) c⟩, fun c => absurd ((q_below_1 (n := 256) M (by omega) ⟨v, hv, rfl⟩).symm.trans c) q_n10⟩⟩), h2, h3⟩
      rw [t.1, q_cl (by omega), show nI (S 0 0) + (1 : Int32) = nI (S 0 0 + 1) from nI_1 _]
      exact ⟨q_in (by omega) (by omega), M1, h1, by rw [t3.1], rfl⟩
    · have t := q_len_v.2 h
      have g1 : f_Mo_isTwo (nI 0) M = 1 := q_in_1 (n := 2) M (by omega) (by decide) ⟨0, by omega, rfl⟩
      have g2 : f_Mo_in (nI v).toInt64 0 255 M = 1 := q_in_1 (n := 256) M (by omega) (by decide) ⟨v, hv, rfl⟩
      have k0 : (nI 0).toNatClampNeg = 0 := q_cl (by omega)
      have n1 : ¬ M 59 (nI 0).toNatClampNeg = (if nI 0 = 0 then (31 : Int32) else (35 : Int32)) := by
        rw [k0, t.1]
        exact fun q => h0 ((q_eq (b := 31) (by omega) (by omega)).mp q)
      have e1 : (36 : Int32) * nI 0 + nI (S 0 0) = nI (0 + S 0 0) := by rw [show (36 : Int32) * nI 0 = nI 0 from pk_mul 36 0]; exact nI_add _ _
      have c := c_Mo_type (X := X) (x1 := nI 0) (x2 := nI v) (M := M) ⟨q_in_01 _ _ _ _, fun _ => trivial, fun _ => ⟨fun _ => ⟨q_in (by omega) (by omega), fun _ => ⟨q_in (by omega) (by omega), by rw [k0, t.1, e1]; exact q_in (by omega) (by omega), q_in (by omega) (by omega), q_in (by omega) (by omega), q_in (by omega) (by omega)⟩, fun _ => trivial⟩, fun _ => trivial⟩⟩
      unfold f_Mo_type m_Mo_type at c
      rw [g1, g2, if_neg q_n10, if_neg q_n10, if_neg q_n10, if_neg q_n10, if_neg n1, if_neg n1, k0, zu_y, t.1, e1, q_cl (by omega), show nI (S 0 0) + (1 : Int32) = nI (S 0 0 + 1) from nI_1 _] at c
      refine ⟨_, c, fun a b ha => by rw [zu_n (by omega), zu_n (by omega)], hM M _ h (q_fr_zu (q_fr_zu q_fr_rf (by omega)) (by omega)) ?_⟩
      rw [q_up_eq]
      refine ⟨zu_y, by omega, fun i hi => ?_⟩
      rw [rq]
      by_cases e : i = S 0 0
      · rw [if_pos e, e, zu_n (by omega), zu_y]; exact ⟨rfl, hv⟩
      · rw [if_neg e, zu_n (by omega), zu_n (by omega)]; exact t.2.2 i (by omega)
/-- the text m is new, the rest as it was -/
theorem q_text_m {X : zX} {S S' : q_N} {it : Nat → Int32} (hS : q_ws S) (hr : ∀ x, x ≠ 2 → x ≠ 3 → S' x = S x) (hn : S' 2 0 ≤ 35) (hb : ∀ i, i < S' 2 0 → S' 3 i < 256) : q_ws S' ∧ (∀ M M0, q_rC M S it → q_fr (fun a b => a = 3 ∨ a = 4) M M0 → q_tx M0 3 4 (S' 2 0) (S' 3) → ∃ M1, Call X 14 [.ref 0] M0 [] M1 ∧ q_hi M M1 ∧ q_rC M1 S' it) ∧ (∀ M M0, q_rM M S it → q_fr (fun a b => (a = 59 ∧ b = 1) ∨ (a = 58 ∧ 36 ≤ b ∧ b < 36 + 36)) M M0 → q_mt1 M0 (S' 2 0) (S' 3) → q_rM M0 S' it) := by
  have hS' : q_ws S' := by
    have hS0 := hS
    obtain ⟨h1, h2, h3, h4, h5⟩ := hS
    refine q_ws_A hS0 (fun x hx => hr x (by omega) (by omega)) ?_ ?_ ?_ ?_
    · rw [hr _ (by omega) (by omega), hr _ (by omega) (by omega)]; exact h1
    · exact ⟨hn, hb⟩
    · rw [hr _ (by omega) (by omega)]; exact h3
    · rw [hr _ (by omega) (by omega), hr _ (by omega) (by omega), hr _ (by omega) (by omega), hr _ (by omega) (by omega)]; exact h4
  have hK : ∀ x i, x ≤ 2 → q_K S' x i = q_K S x i := fun x i hx => by unfold q_K; rw [hr _ (by omega) (by omega)]
  refine ⟨hS', fun M M0 h hf ht => ?_, fun M M0 h hf ht => ?_⟩
  · have fr : ∀ a b, ¬ (a = 3 ∨ a = 4) → M0 a b = M a b := hf
    obtain ⟨t1, t2, t3, t4⟩ := h.1
    refine q_reA h hS' (fun x hx => hr x (by omega) (by omega)) (q_fr_mono hf (fun a b q => by unfold q_DC; omega)) ?_
    unfold q_CT
    rw [hr 0 (by omega) (by omega), hr 1 (by omega) (by omega), hr 4 (by omega) (by omega), hr 5 (by omega) (by omega)]
    refine ⟨q_tx_fr t1 (fr _ _ (by omega)) (fun i hi => fr _ _ (by omega)), ht, ⟨by rw [fr _ _ (by omega)]; exact t3.1, by rw [fr _ _ (by omega)]; exact t3.2⟩, by rw [fr _ _ (by omega)]; exact t4.1, t4.2.1, fun i hi => ?_⟩
    rw [hK 0 i (by omega), hK 1 i (by omega), hK 2 i (by omega), fr 13 _ (by omega), fr 14 _ (by omega), fr 15 _ (by omega)]
    exact t4.2.2 i hi
  · have fr : ∀ a b, ¬ ((a = 59 ∧ b = 1) ∨ (a = 58 ∧ 36 ≤ b ∧ b < 36 + 36)) → M0 a b = M a b := hf
    obtain ⟨t1, t2, t3, t4⟩ := (q_rM_AB.mp h).1
    refine q_rM_A h (fun x hx => hr x (by omega) (by omega)) (q_fr_mono hf (fun a b q => by unfold q_DA; omega)) ?_
    unfold q_MA
    rw [hr 0 (by omega) (by omega), hr 1 (by omega) (by omega), hr 4 (by omega) (by omega), hr 5 (by omega) (by omega)]
    obtain ⟨d1, d2, d3, d4, d5, d6⟩ := t4
    have m0 := t1.2.1
    have m1 := t2.2.1
    refine ⟨q_mt0_fr t1 (fr _ _ (by omega)) (fun i hi => fr _ _ (by omega)), ht, ⟨by rw [fr _ _ (by omega)]; exact t3.1, by rw [fr _ _ (by omega)]; exact t3.2⟩, by rw [fr _ _ (by omega)]; exact d1, d2, by rw [fr _ _ (by omega)]; exact d3, d4, d5, fun i hi => ?_⟩
    rw [hK 0 i (by omega), hK 1 i (by omega), hK 2 i (by omega), fr 63 _ (by omega), fr 63 _ (by omega), fr 63 _ (by omega)]
    exact d6 i hi
theorem q_len_m {M : zM} {S : q_N} {it : Nat → Int32} : (q_rC M S it → q_tx M 3 4 (S 2 0) (S 3)) ∧ (q_rM M S it → q_mt1 M (S 2 0) (S 3)) := ⟨fun h => h.1.2.1, fun h => h.2.1⟩
theorem q_wipe_m {X : zX} {S : q_N} {it : Nat → Int32} (hS : q_ws S) : q_op X 16 90 [.int (nI 1)] S it := by
  obtain ⟨hS', hC, hM⟩ := q_text_m (X := X) (it := it) (S' := q_up S 2 0 0) hS (fun x h1 h2 => q_up_ne h1) (by rw [q_up_eq]; omega) (fun i hi => by rw [q_up_eq] at hi; omega)
  refine ⟨.int (nI (S 2 0)), q_up S 2 0 0, it, rfl, hS', fun M h => ?_, fun M h => ?_⟩
  · have t := q_len_m.1 h
    obtain ⟨M1, h1, h2, h3⟩ := hC M (zu M 3 1 0) h (q_fr_zu q_fr_rf (by omega)) (by rw [q_up_eq]; exact ⟨zu_y, fun i hi => by omega⟩)
    refine ⟨M1, Call.of (Nat.le_of_ble_eq_true rfl) (sg_Fv_wipe_m_0 ⟨_, _, c_Fv_below, fun _ => ⟨_, c_Fv_textOf, M1, h1, ?_, rfl⟩, fun c => absurd ((q_below_1 (n := 2) M (by omega) ⟨1, by omega, rfl⟩).symm.trans c) q_n10⟩), h2, h3⟩
    rw [t.1]
  · have t := q_len_m.2 h
    have g1 : f_Mo_isTwo (nI 1) M = 1 := q_in_1 (n := 2) M (by omega) (by decide) ⟨1, by omega, rfl⟩
    have c := c_Mo_wipe (X := X) (x1 := nI 1) (M := M) ⟨q_in_01 _ _ _ _, fun _ => ⟨q_in (by omega) (by omega), q_in (by omega) (by omega)⟩, fun _ => trivial⟩
    unfold f_Mo_wipe m_Mo_wipe at c
    rw [g1, if_neg q_n10, if_neg q_n10, q_cl (by omega), t.1] at c
    exact ⟨_, c, fun a b ha => zu_n (by omega), hM M _ h (q_fr_zu q_fr_rf (by omega)) (by rw [q_up_eq]; exact ⟨zu_y, by omega, fun i hi => by omega⟩)⟩
theorem q_undo_m {X : zX} {S : q_N} {it : Nat → Int32} (hS : q_ws S) : q_op X 17 91 [.int (nI 1)] S it := by
  have hw : S 2 0 ≤ 35 := hS.2.1.1
  by_cases h0 : S 2 0 = 0
  · refine q_op_same (.int (-3)) hS (fun M h => ?_) (fun M h => ?_)
    · have t := q_len_m.1 h
      rw [h0] at t
      exact Call.of (Nat.le_of_ble_eq_true rfl) (sg_Fv_undo_m_0 ⟨_, _, c_Fv_below, fun _ => ⟨_, c_Fv_textOf, fun c => absurd t.1 c, fun _ => ⟨rfl, rfl⟩⟩, fun c => absurd ((q_below_1 (n := 2) M (by omega) ⟨1, by omega, rfl⟩).symm.trans c) q_n10⟩)
    · have t := q_len_m.2 h
      rw [h0] at t
      have g1 : f_Mo_isTwo (nI 1) M = 1 := q_in_1 (n := 2) M (by omega) (by decide) ⟨1, by omega, rfl⟩
      have c := c_Mo_undo (X := X) (x1 := nI 1) (M := M) ⟨q_in_01 _ _ _ _, fun _ => ⟨q_in (by omega) (by omega), fun _ => ⟨q_in (by omega) (by omega), q_in (by omega) (by omega), q_in (by omega) (by omega)⟩, fun _ => trivial⟩, fun _ => trivial⟩
      unfold f_Mo_undo m_Mo_undo at c
      rw [g1, if_neg q_n10, if_neg q_n10, q_cl (by omega), if_pos (show M 59 1 = 0 from t.1), if_pos (show M 59 1 = 0 from t.1)] at c
      exact c
  · obtain ⟨hS', hC, hM⟩ := q_text_m (X := X) (it := it) (S' := q_up S 2 0 (S 2 0 - 1)) hS (fun x h1 h2 => q_up_ne h1) (by rw [q_up_eq]; omega) (fun i hi => by rw [q_up_eq] at hi; rw [q_up_ne (by omega)]; exact hS.2.1.2 i (by omega))
    refine ⟨.int (nI (S 2 0 - 1)), q_up S 2 0 (S 2 0 - 1), it, rfl, hS', fun M h => ?_, fun M h => ?_⟩
    · have t := q_len_m.1 h
      obtain ⟨M1, h1, h2, h3⟩ := hC M (zu M 3 1 (nI (S 2 0 - 1))) h (q_fr_zu q_fr_rf (by omega)) (by rw [q_up_eq, q_up_ne (by omega)]; exact ⟨zu_y, fun i hi => by rw [zu_n (by omega)]; exact t.2 i (by omega)⟩)
      have t3 := q_len_m.1 h3
      rw [q_up_eq] at t3
      refine ⟨M1, Call.of (Nat.le_of_ble_eq_true rfl) (sg_Fv_undo_m_0 ⟨_, _, c_Fv_below, fun _ => ⟨_, c_Fv_textOf, fun c => ?_, fun c => absurd (by rw [t.1] at c; exact (q_eq (b := 0) (by omega) (by omega)).mp c) h0⟩, fun c => absurd ((q_below_1 (n := 2) M (by omega) ⟨1, by omega, rfl⟩).symm.trans c) q_n10⟩), h2, h3⟩
      rw [t.1, show nI (S 2 0) - (1 : Int32) = nI (S 2 0 - 1) from pk_sub (b := 1) (by omega)]
      exact ⟨M1, h1, by rw [t3.1], rfl⟩
    · have t := q_len_m.2 h
      have g1 : f_Mo_isTwo (nI 1) M = 1 := q_in_1 (n := 2) M (by omega) (by decide) ⟨1, by omega, rfl⟩
      have c := c_Mo_undo (X := X) (x1 := nI 1) (M := M) ⟨q_in_01 _ _ _ _, fun _ => ⟨q_in (by omega) (by omega), fun _ => ⟨q_in (by omega) (by omega), q_in (by omega) (by omega), q_in (by omega) (by omega)⟩, fun _ => trivial⟩, fun _ => trivial⟩
      unfold f_Mo_undo m_Mo_undo at c
      have n0 : ¬ M 59 1 = 0 := by rw [t.1]; exact fun q => h0 ((q_eq (b := 0) (by omega) (by omega)).mp q)
      rw [g1, if_neg q_n10, if_neg q_n10, q_cl (by omega), if_neg n0, if_neg n0, zu_y, t.1, show nI (S 2 0) - (1 : Int32) = nI (S 2 0 - 1) from pk_sub (b := 1) (by omega)] at c
      exact ⟨_, c, fun a b ha => zu_n (by omega), hM M _ h (q_fr_zu q_fr_rf (by omega)) (by rw [q_up_eq, q_up_ne (by omega)]; exact ⟨zu_y, by omega, fun i hi => by rw [zu_n (by omega)]; exact t.2.2 i (by omega)⟩)⟩
theorem q_type_m {X : zX} {S : q_N} {it : Nat → Int32} {v : Nat} (hS : q_ws S) (hv : v < 256) : q_op X 15 89 [.int (nI 1), .int (nI v)] S it := by
  have hw : S 2 0 ≤ 35 := hS.2.1.1
  by_cases h0 : S 2 0 = 35
  · refine q_op_same (.int (-4)) hS (fun M h => ?_) (fun M h => ?_)
    · have t := q_len_m.1 h
      rw [h0] at t
      exact Call.of (Nat.le_of_ble_eq_true rfl) (sg_Fv_type_m_0 ⟨_, _, c_Fv_below, fun c => absurd ((q_below_1 (n := 2) M (by omega) ⟨1, by omega, rfl⟩).symm.trans c) q_n10, fun _ => ⟨_, _, c_Fv_below, fun _ => ⟨_, c_Fv_textOf, fun c => absurd c (by rw [t.1]; decide), fun _ => ⟨rfl, rfl⟩⟩, fun c => absurd ((q_below_1 (n := 256) M (by omega) ⟨v, hv, rfl⟩).symm.trans c) q_n10⟩⟩)
    · have t := q_len_m.2 h
      rw [h0] at t
      have g1 : f_Mo_isTwo (nI 1) M = 1 := q_in_1 (n := 2) M (by omega) (by decide) ⟨1, by omega, rfl⟩
      have g2 : f_Mo_in (nI v).toInt64 0 255 M = 1 := q_in_1 (n := 256) M (by omega) (by decide) ⟨v, hv, rfl⟩
      have n1 : M 59 (nI 1).toNatClampNeg = (if nI 1 = 0 then (31 : Int32) else (35 : Int32)) := t.1
      have c := c_Mo_type (X := X) (x1 := nI 1) (x2 := nI v) (M := M) ⟨q_in_01 _ _ _ _, fun _ => trivial, fun _ => ⟨fun _ => ⟨q_in (by omega) (by omega), fun c => absurd n1 c, fun _ => trivial⟩, fun _ => trivial⟩⟩
      unfold f_Mo_type m_Mo_type at c
      rw [g1, g2, if_neg q_n10, if_neg q_n10, if_neg q_n10, if_neg q_n10, if_pos n1, if_pos n1] at c
      exact c
  · have rq : ∀ i, q_up (q_up S 3 (S 2 0) v) 2 0 (S 2 0 + 1) 3 i = if i = S 2 0 then v else S 3 i := fun i => by
      rw [q_up_ne (by omega)]
      split
      · rename_i e; rw [e, q_up_eq]
      · rename_i e; rw [q_up_n2 e]
    obtain ⟨hS', hC, hM⟩ := q_text_m (X := X) (it := it) (S' := q_up (q_up S 3 (S 2 0) v) 2 0 (S 2 0 + 1)) hS (fun x h1 h2 => by rw [q_up_ne h1, q_up_ne h2]) (by rw [q_up_eq]; omega) (fun i hi => by
      rw [q_up_eq] at hi
      rw [rq]
      split
      · exact hv
      · exact hS.2.1.2 i (by omega))
    refine ⟨.int (nI (S 2 0 + 1)), q_up (q_up S 3 (S 2 0) v) 2 0 (S 2 0 + 1), it, rfl, hS', fun M h => ?_, fun M h => ?_⟩
    · have t := q_len_m.1 h
      obtain ⟨M1, h1, h2, h3⟩ := hC M (zu (zu M 4 (S 2 0) (nI v)) 3 1 (nI (S 2 0 + 1))) h (q_fr_zu (q_fr_zu q_fr_rf (by omega)) (by omega)) (by
        rw [q_up_eq]
        refine ⟨zu_y, fun i hi => ?_⟩
        rw [rq]
        by_cases e : i = S 2 0
        · rw [if_pos e, e, zu_n (by omega), zu_y]; exact ⟨rfl, hv⟩
        · rw [if_neg e, zu_n (by omega), zu_n (by omega)]; exact t.2 i (by omega))
      have t3 := q_len_m.1 h3
      rw [q_up_eq] at t3
      refine ⟨M1, Call.of (Nat.le_of_ble_eq_true rfl) (sg_Fv_type_m_0 ⟨_, _, c_Fv_below, fun c => absurd ((q_below_1 (n := 2) M (by omega) ⟨1, by omega, rfl⟩).symm.trans c) q_n10, fun _ => ⟨_, _, c_Fv_below, fun _ => ⟨_, c_Fv_textOf, fun _ => ?_, fun c => absurd (show M 3 1 < 35 by rw [t.1]; exact (q_lt (b := 35) (by omega) (by omega)).mpr (by omega)) c⟩, fun c => absurd ((q_below_1 (n := 256) M (by omega) ⟨v, hv, rfl⟩).symm.trans c) q_n10⟩⟩), h2, h3⟩
      rw [t.1, q_cl (by omega), show nI (S 2 0) + (1 : Int32) = nI (S 2 0 + 1) from nI_1 _]
      exact ⟨q_in (by omega) (by omega), M1, h1, by rw [t3.1], rfl⟩
    · have t := q_len_m.2 h
      have g1 : f_Mo_isTwo (nI 1) M = 1 := q_in_1 (n := 2) M (by omega) (by decide) ⟨1, by omega, rfl⟩
      have g2 : f_Mo_in (nI v).toInt64 0 255 M = 1 := q_in_1 (n := 256) M (by omega) (by decide) ⟨v, hv, rfl⟩
      have k0 : (nI 1).toNatClampNeg = 1 := q_cl (by omega)
      have n1 : ¬ M 59 (nI 1).toNatClampNeg = (if nI 1 = 0 then (31 : Int32) else (35 : Int32)) := by
        rw [k0, t.1]
        exact fun q => h0 ((q_eq (b := 35) (by omega) (by omega)).mp q)
      have e1 : (36 : Int32) * nI 1 + nI (S 2 0) = nI (36 + S 2 0) := by rw [show (36 : Int32) * nI 1 = nI 36 from pk_mul 36 1]; exact nI_add _ _
      have c := c_Mo_type (X := X) (x1 := nI 1) (x2 := nI v) (M := M) ⟨q_in_01 _ _ _ _, fun _ => trivial, fun _ => ⟨fun _ => ⟨q_in (by omega) (by omega), fun _ => ⟨q_in (by omega) (by omega), by rw [k0, t.1, e1]; exact q_in (by omega) (by omega), q_in (by omega) (by omega), q_in (by omega) (by omega), q_in (by omega) (by omega)⟩, fun _ => trivial⟩, fun _ => trivial⟩⟩
      unfold f_Mo_type m_Mo_type at c
      rw [g1, g2, if_neg q_n10, if_neg q_n10, if_neg q_n10, if_neg q_n10, if_neg n1, if_neg n1, k0, zu_y, t.1, e1, q_cl (by omega), show nI (S 2 0) + (1 : Int32) = nI (S 2 0 + 1) from nI_1 _] at c
      refine ⟨_, c, fun a b ha => by rw [zu_n (by omega), zu_n (by omega)], hM M _ h (q_fr_zu (q_fr_zu q_fr_rf (by omega)) (by omega)) ?_⟩
      rw [q_up_eq]
      refine ⟨zu_y, by omega, fun i hi => ?_⟩
      rw [rq]
      by_cases e : i = S 2 0
      · rw [if_pos e, e, zu_n (by omega), zu_y]; exact ⟨rfl, hv⟩
      · rw [if_neg e, zu_n (by omega), zu_n (by omega)]; exact t.2.2 i (by omega)

theorem q_k2 {k : Nat} (h : k < 2) : k = 0 ∨ k = 1 := by omega
/-- WIPE -/
theorem o_wipe {X : zX} {S : q_N} {it : Nat → Int32} {x1 : Int32} (hS : q_ws S) : q_op X 16 90 [.int x1] S it := by
  by_cases h1 : q_is x1 2
  · obtain ⟨k, hk, rfl⟩ := h1
    rcases q_k2 hk with rfl | rfl
    · exact q_wipe_v hS
    · exact q_wipe_m hS
  · refine q_op_same (.int (-2)) hS (fun M h => ?_) (fun M h => ?_)
    · have e : f_Fv_below x1 2 M = 0 := q_below_0 (n := 2) M (by omega) h1
      exact Call.of (Nat.le_of_ble_eq_true rfl) (sg_Fv_wipe_v_0 ⟨_, _, c_Fv_below, fun c => absurd e c, fun _ => ⟨rfl, rfl⟩⟩)
    · have e : f_Mo_isTwo x1 M = 0 := q_in_0 (n := 2) M (by omega) (by decide) h1
      have c := c_Mo_wipe (X := X) (x1 := x1) (M := M) ⟨q_in_01 _ _ _ _, fun c => absurd e c, fun _ => trivial⟩
      unfold f_Mo_wipe m_Mo_wipe at c
      rw [if_pos e, if_pos e] at c
      exact c
/-- UNDO -/
theorem o_undo {X : zX} {S : q_N} {it : Nat → Int32} {x1 : Int32} (hS : q_ws S) : q_op X 17 91 [.int x1] S it := by
  by_cases h1 : q_is x1 2
  · obtain ⟨k, hk, rfl⟩ := h1
    rcases q_k2 hk with rfl | rfl
    · exact q_undo_v hS
    · exact q_undo_m hS
  · refine q_op_same (.int (-2)) hS (fun M h => ?_) (fun M h => ?_)
    · have e : f_Fv_below x1 2 M = 0 := q_below_0 (n := 2) M (by omega) h1
      exact Call.of (Nat.le_of_ble_eq_true rfl) (sg_Fv_undo_v_0 ⟨_, _, c_Fv_below, fun c => absurd e c, fun _ => ⟨rfl, rfl⟩⟩)
    · have e : f_Mo_isTwo x1 M = 0 := q_in_0 (n := 2) M (by omega) (by decide) h1
      have c := c_Mo_undo (X := X) (x1 := x1) (M := M) ⟨q_in_01 _ _ _ _, fun c => absurd e c, fun _ => trivial⟩
      unfold f_Mo_undo m_Mo_undo at c
      rw [if_pos e, if_pos e] at c
      exact c
/-- TYPE -/
theorem o_type {X : zX} {S : q_N} {it : Nat → Int32} {x1 x2 : Int32} (hS : q_ws S) : q_op X 15 89 [.int x1, .int x2] S it := by
  by_cases h1 : q_is x1 2
  case neg =>
    refine q_op_same (.int (-2)) hS (fun M h => ?_) (fun M h => ?_)
    · have e : f_Fv_below x1 2 M = 0 := q_below_0 (n := 2) M (by omega) h1
      exact Call.of (Nat.le_of_ble_eq_true rfl) (sg_Fv_type_v_0 ⟨_, _, c_Fv_below, fun _ => ⟨rfl, rfl⟩, fun c => absurd e c⟩)
    · have e : f_Mo_isTwo x1 M = 0 := q_in_0 (n := 2) M (by omega) (by decide) h1
      have c := c_Mo_type (X := X) (x1 := x1) (x2 := x2) (M := M) ⟨q_in_01 _ _ _ _, fun _ => trivial, fun c => absurd e c⟩
      unfold f_Mo_type m_Mo_type at c
      rw [if_pos e, if_pos e] at c
      exact c
  by_cases h2 : q_is x2 256
  case neg =>
    refine q_op_same (.int (-2)) hS (fun M h => ?_) (fun M h => ?_)
    · have e1 : f_Fv_below x1 2 M = 1 := q_below_1 (n := 2) M (by omega) h1
      have e : f_Fv_below x2 256 M = 0 := q_below_0 (n := 256) M (by omega) h2
      exact Call.of (Nat.le_of_ble_eq_true rfl) (sg_Fv_type_v_0 ⟨_, _, c_Fv_below, fun c => absurd (e1.symm.trans c) q_n10, fun _ => ⟨_, _, c_Fv_below, fun c => absurd e c, fun _ => ⟨rfl, rfl⟩⟩⟩)
    · have g1 : f_Mo_isTwo x1 M = 1 := q_in_1 (n := 2) M (by omega) (by decide) h1
      have e : f_Mo_in x2.toInt64 0 255 M = 0 := q_in_0 (n := 256) M (by omega) (by decide) h2
      have c := c_Mo_type (X := X) (x1 := x1) (x2 := x2) (M := M) ⟨q_in_01 _ _ _ _, fun _ => trivial, fun _ => ⟨fun c => absurd e c, fun _ => trivial⟩⟩
      unfold f_Mo_type m_Mo_type at c
      rw [g1, e, if_neg q_n10, if_neg q_n10, if_pos rfl, if_pos rfl] at c
      exact c
  obtain ⟨k, hk, rfl⟩ := h1
  obtain ⟨v, hv, rfl⟩ := h2
  rcases q_k2 hk with rfl | rfl
  · exact q_type_v hS hv
  · exact q_type_m hS hv
