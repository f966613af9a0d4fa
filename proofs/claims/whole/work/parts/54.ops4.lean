/-! QUESTIONS -/
theorem q_isV_1 {X : zX} {M : zM} {n : Nat} {x : Int32} (h7 : M 53 7 = nI n) (hn : n < 100000) (h : q_is x n) : Call X 99 [.ref 53, .int x] M [.int 1] M := by
  have c := c_Mo_isVoter (X := X) (x1 := x) (M := M) (q_in_01 _ _ _ _)
  unfold f_Mo_isVoter at c
  rw [h7, q_in_1 (n := n) M hn (q_pred64 hn) h] at c
  exact c
theorem q_isV_0 {X : zX} {M : zM} {n : Nat} {x : Int32} (h7 : M 53 7 = nI n) (hn : n < 100000) (h : ¬ q_is x n) : Call X 99 [.ref 53, .int x] M [.int 0] M := by
  have c := c_Mo_isVoter (X := X) (x1 := x) (M := M) (q_in_01 _ _ _ _)
  unfold f_Mo_isVoter at c
  rw [h7, q_in_0 (n := n) M hn (q_pred64 hn) h] at c
  exact c
theorem q_isM_1 {X : zX} {M : zM} {n : Nat} {x : Int32} (h9 : M 53 9 = nI n) (hn : n < 100000) (h : q_is x n) : Call X 101 [.ref 53, .int x] M [.int 1] M := by
  have c := c_Mo_isMeasure (X := X) (x1 := x) (M := M) (q_in_01 _ _ _ _)
  unfold f_Mo_isMeasure at c
  rw [h9, q_in_1 (n := n) M hn (q_pred64 hn) h] at c
  exact c
theorem q_isM_0 {X : zX} {M : zM} {n : Nat} {x : Int32} (h9 : M 53 9 = nI n) (hn : n < 100000) (h : ¬ q_is x n) : Call X 101 [.ref 53, .int x] M [.int 0] M := by
  have c := c_Mo_isMeasure (X := X) (x1 := x) (M := M) (q_in_01 _ _ _ _)
  unfold f_Mo_isMeasure at c
  rw [h9, q_in_0 (n := n) M hn (q_pred64 hn) h] at c
  exact c
theorem q_two_1 {X : zX} {M : zM} {x : Int32} (h : q_is x 2) : Call X 88 [.int x] M [.int 1] M := by
  have c := c_Mo_isTwo (X := X) (x0 := x) (M := M) (q_in_01 _ _ _ _)
  unfold f_Mo_isTwo at c
  rw [q_in_1 (n := 2) M (by omega) (by decide) h] at c
  exact c
theorem q_two_0 {X : zX} {M : zM} {x : Int32} (h : ¬ q_is x 2) : Call X 88 [.int x] M [.int 0] M := by
  have c := c_Mo_isTwo (X := X) (x0 := x) (M := M) (q_in_01 _ _ _ _)
  unfold f_Mo_isTwo at c
  rw [q_in_0 (n := 2) M (by omega) (by decide) h] at c
  exact c
theorem q_inn_1 {X : zX} {M : zM} {x : Int32} {n : Nat} {b : Int64} (hn : n < 100000) (hb : b.toInt = (n : Int) - 1) (h : q_is x n) : Call X 78 [.long x.toInt64, .long (0 : Int64), .long b] M [.int 1] M := by
  have c := c_Mo_in (X := X) (x0 := x.toInt64) (x2 := 0) (x4 := b) (M := M)
  rw [q_in_1 (n := n) M hn hb h] at c
  exact c
theorem q_inn_0 {X : zX} {M : zM} {x : Int32} {n : Nat} {b : Int64} (hn : n < 100000) (hb : b.toInt = (n : Int) - 1) (h : ¬ q_is x n) : Call X 78 [.long x.toInt64, .long (0 : Int64), .long b] M [.int 0] M := by
  have c := c_Mo_in (X := X) (x0 := x.toInt64) (x2 := 0) (x4 := b) (M := M)
  rw [q_in_0 (n := n) M hn hb h] at c
  exact c
theorem q_bel_1 {X : zX} {M : zM} {x y : Int32} {n : Nat} (hy : y = nI n) (hn : n < 100000) (h : q_is x n) : Call X 0 [.int x, .int y] M [.int 1] M := by
  have c := c_Fv_below (X := X) (x0 := x) (x1 := y) (M := M)
  rw [hy, q_below_1 M hn h] at c
  rw [hy]
  exact c
theorem q_bel_0 {X : zX} {M : zM} {x y : Int32} {n : Nat} (hy : y = nI n) (hn : n < 100000) (h : ¬ q_is x n) : Call X 0 [.int x, .int y] M [.int 0] M := by
  have c := c_Fv_below (X := X) (x0 := x) (x1 := y) (M := M)
  rw [hy, q_below_0 M hn h] at c
  rw [hy]
  exact c
theorem q_0_ne : ¬ (0 : Int32) ≠ 0 := fun h => h rfl
/-- FAULT -/
theorem o_fault {X : zX} {S : q_N} {it : Nat → Int32} {x1 : Int32} (hS : q_ws S) : q_op X 4 98 [.int x1] S it := by
  by_cases h1 : q_is x1 2
  · obtain ⟨k, hk, rfl⟩ := h1
    rcases q_k2 hk with rfl | rfl
    · refine q_op_ask (.int (q_fl 0 (S 0 0) (S 1) (S 0 0) 0)) hS (fun M h => ⟨M, c_Fv_fault_v h.1.1 hS.1.1, q_fr_rf, h.2.2.2⟩) (fun M h => ?_)
      obtain ⟨M1, hC, hf, -⟩ := c_Mo_readsVoters (X := X) h.1
      have hT : Call X 97 [.ref 53, .int (nI 0)] M [.int (q_fl 0 (S 0 0) (S 1) (S 0 0) 0)] M1 := Call.of (Nat.le_of_ble_eq_true rfl) (sg_Mo_readsText_0 ⟨fun c => absurd (show nI 0 = (0 : Int32) from rfl) c, fun _ => ⟨_, _, hC, rfl, rfl⟩⟩)
      exact ⟨M1, Call.of (Nat.le_of_ble_eq_true rfl) (sg_Mo_fault_0 ⟨_, _, q_two_1 ⟨0, by omega, rfl⟩, fun c => absurd c q_n10, fun _ => ⟨_, _, hT, rfl, rfl⟩⟩), q_fr_mono hf (fun a b q => by unfold q_DP0 at q; unfold q_DX; omega)⟩
    · refine q_op_ask (.int (q_fl 1 (S 2 0) (S 3) (S 2 0) 0)) hS (fun M h => ⟨M, c_Fv_fault_m h.1.2.1 hS.2.1.1, q_fr_rf, h.2.2.2⟩) (fun M h => ?_)
      obtain ⟨M1, hC, hf, -⟩ := c_Mo_readsMeasures (X := X) h.2.1
      have hT : Call X 97 [.ref 53, .int (nI 1)] M [.int (q_fl 1 (S 2 0) (S 3) (S 2 0) 0)] M1 := Call.of (Nat.le_of_ble_eq_true rfl) (sg_Mo_readsText_0 ⟨fun _ => ⟨_, _, hC, rfl, rfl⟩, fun c => absurd c (show ¬ nI 1 = (0 : Int32) by decide)⟩)
      exact ⟨M1, Call.of (Nat.le_of_ble_eq_true rfl) (sg_Mo_fault_0 ⟨_, _, q_two_1 ⟨1, by omega, rfl⟩, fun c => absurd c q_n10, fun _ => ⟨_, _, hT, rfl, rfl⟩⟩), q_fr_mono hf (fun a b q => by unfold q_DP1 at q; unfold q_DX; omega)⟩
  · refine q_op_same (.int (-2)) hS (fun M h => ?_) (fun M h => ?_)
    · exact Call.of (Nat.le_of_ble_eq_true rfl) (sg_Fv_fault_v_0 ⟨_, _, q_bel_0 (n := 2) rfl (by omega) h1, fun c => absurd rfl c, fun _ => ⟨rfl, rfl⟩⟩)
    · exact Call.of (Nat.le_of_ble_eq_true rfl) (sg_Mo_fault_0 ⟨_, _, q_two_0 h1, fun _ => ⟨rfl, rfl⟩, fun c => absurd rfl c⟩)
/-- behind reading: the voters; the measures -/
theorem q_rdV {X : zX} {M : zM} {S : q_N} (hS : q_ws S) (t0 : q_mt0 M (S 0 0) (S 1)) : ∃ r M1, Call X 94 [.ref 53] M [.int r] M1 ∧ q_fr q_DP0 M M1 ∧ M1 53 7 = nI (q_nv S) ∧ ∀ v w, v < q_nv S → w < 3 → M1 60 (3 * v + w) = nI (q_I S (1 + w) v) := by
  obtain ⟨M1, hC1, r1, r2, r3⟩ := c_Mo_readsVoters (X := X) t0
  refine ⟨_, M1, hC1, r1, ?_, fun v w hv hw => ?_⟩
  · unfold q_nv
    split
    · rename_i hc; exact (r2 hc).1
    · rename_i hc; exact r3 hc
  · unfold q_nv at hv
    split at hv
    · rename_i hc
      have g := (r2 hc).2
      obtain ⟨-, g2⟩ := q_fl_c (t := 0) (by have := t0.2.1; omega) (S 0 0) 0 (by omega) hc
      have hq : q_w 0 = 4 := rfl
      rw [hq] at g2
      have g0 := g (4 * v + w) (by omega) (by omega)
      rw [show 3 * ((4 * v + w) / 4) + (4 * v + w) % 4 = 3 * v + w by omega, show (4 * v + w) % 4 = w by omega] at g0
      rw [g0]
      have : w = 0 ∨ w = 1 ∨ w = 2 := by omega
      rcases this with rfl | rfl | rfl <;> rfl
    · omega
theorem q_rdM {X : zX} {M : zM} {S : q_N} (hS : q_ws S) (t1 : q_mt1 M (S 2 0) (S 3)) : ∃ r M1, Call X 96 [.ref 53] M [.int r] M1 ∧ q_fr q_DP1 M M1 ∧ M1 53 9 = nI (q_nm S) ∧ ∀ m w, m < q_nm S → w < 2 → M1 61 (2 * m + w) = nI (q_I S (6 + w) m) := by
  obtain ⟨M1, hC1, r1, r2, r3⟩ := c_Mo_readsMeasures (X := X) t1
  refine ⟨_, M1, hC1, r1, ?_, fun m w hm hw => ?_⟩
  · unfold q_nm
    split
    · rename_i hc; exact (r2 hc).1
    · rename_i hc; exact r3 hc
  · unfold q_nm at hm
    split at hm
    · rename_i hc
      have g := (r2 hc).2
      obtain ⟨-, g2⟩ := q_fl_c (t := 1) (by have := t1.2.1; omega) (S 2 0) 0 (by omega) hc
      have hq : q_w 1 = 3 := rfl
      rw [hq] at g2
      have g0 := g (3 * m + w) (by omega) (by omega)
      rw [show 2 * ((3 * m + w) / 3) + (3 * m + w) % 3 = 2 * m + w by omega, show (3 * m + w) % 3 = w by omega] at g0
      rw [g0]
      have : w = 0 ∨ w = 1 := by omega
      rcases this with rfl | rfl <;> rfl
    · omega
theorem q_k3 {k : Nat} (h : k < 3) : k = 0 ∨ k = 1 ∨ k = 2 := by omega
/-- VOTER -/
theorem c_Fv_voter_r {X : zX} {M : zM} {S : q_N} {v w : Nat} (hS : q_ws S) (h : q_CV M S) (hv : v < q_I S 0 0) (hw : w < 3) : Call X 18 [.ref 0, .int (nI v), .int (nI w)] M [.int (nI (q_I S (1 + w) v))] M := by
  have h8 := (q_I_wf hS).1
  have e1 : f_Fv_below (nI v) (M 5 0) M = 1 := by rw [h.1.1]; exact q_below_1 M (by omega) ⟨v, hv, rfl⟩
  have e2 : f_Fv_below (nI w) 3 M = 1 := q_below_1 (n := 3) M (by omega) ⟨w, hw, rfl⟩
  have hi : vp_in (nI v) 8 := q_in (by omega) (by omega)
  have c := c_Fv_voter (X := X) (x1 := nI v) (x2 := nI w) (M := M) ⟨fun _ => trivial, fun _ => ⟨fun _ => ⟨fun _ => ⟨fun _ => hi, fun _ => hi⟩, fun _ => hi⟩, fun _ => trivial⟩⟩
  unfold f_Fv_voter at c
  obtain ⟨a1, a2, a3, -⟩ := h.1.2 v hv
  rw [e1, e2, if_neg q_n10, if_neg q_n10, q_cl (by omega), a1, a2, a3] at c
  rcases q_k3 hw with rfl | rfl | rfl <;> exact c
theorem o_voter {X : zX} {S : q_N} {it : Nat → Int32} {x1 x2 : Int32} (hS : q_ws S) : q_op X 18 100 [.int x1, .int x2] S it := by
  have h8 := (q_I_wf hS).1
  have h8' : q_nv S ≤ 8 := h8
  by_cases h1 : q_is x1 (q_I S 0 0)
  case neg =>
    refine q_op_ask (.int (-2)) hS (fun M h => ⟨M, ?_, q_fr_rf, h.2.2.2⟩) (fun M h => ?_)
    · have e1 : f_Fv_below x1 (M 5 0) M = 0 := by rw [h.2.1.1.1]; exact q_below_0 M (by omega) h1
      have c := c_Fv_voter (X := X) (x1 := x1) (x2 := x2) (M := M) ⟨fun _ => trivial, fun c => absurd e1 c⟩
      unfold f_Fv_voter at c
      rw [e1, if_pos rfl] at c
      exact c
    · obtain ⟨r, M1, hC, hf, h7, -⟩ := q_rdV (X := X) hS h.1
      exact ⟨M1, Call.of (Nat.le_of_ble_eq_true rfl) (sg_Mo_voter_0 ⟨_, _, hC, _, _, q_isV_0 h7 (by omega) h1, fun _ => ⟨rfl, rfl⟩, fun c => absurd rfl c⟩), q_fr_mono hf (fun a b q => by unfold q_DP0 at q; unfold q_DX; omega)⟩
  obtain ⟨v, hv, rfl⟩ := h1
  have hv' : v < q_nv S := hv
  by_cases h2 : q_is x2 3
  case neg =>
    refine q_op_ask (.int (-2)) hS (fun M h => ⟨M, ?_, q_fr_rf, h.2.2.2⟩) (fun M h => ?_)
    · have e1 : f_Fv_below (nI v) (M 5 0) M = 1 := by rw [h.2.1.1.1]; exact q_below_1 M (by omega) ⟨v, hv, rfl⟩
      have e2 : f_Fv_below x2 3 M = 0 := q_below_0 (n := 3) M (by omega) h2
      have c := c_Fv_voter (X := X) (x1 := nI v) (x2 := x2) (M := M) ⟨fun _ => trivial, fun _ => ⟨fun c => absurd e2 c, fun _ => trivial⟩⟩
      unfold f_Fv_voter at c
      rw [e1, e2, if_neg q_n10, if_pos rfl] at c
      exact c
    · obtain ⟨r, M1, hC, hf, h7, -⟩ := q_rdV (X := X) hS h.1
      exact ⟨M1, Call.of (Nat.le_of_ble_eq_true rfl) (sg_Mo_voter_0 ⟨_, _, hC, _, _, q_isV_1 h7 (by omega) ⟨v, hv', rfl⟩, fun c => absurd c q_n10, fun _ => ⟨_, _, q_inn_0 (n := 3) (by omega) (by decide) h2, ⟨fun _ => trivial, fun c => absurd rfl c⟩, rfl, rfl⟩⟩), q_fr_mono hf (fun a b q => by unfold q_DP0 at q; unfold q_DX; omega)⟩
  obtain ⟨w, hw, rfl⟩ := h2
  refine q_op_ask (.int (nI (q_I S (1 + w) v))) hS (fun M h => ⟨M, c_Fv_voter_r hS h.2.1 hv hw, q_fr_rf, h.2.2.2⟩) (fun M h => ?_)
  obtain ⟨r, M1, hC, hf, h7, hV⟩ := q_rdV (X := X) hS h.1
  refine ⟨M1, Call.of (Nat.le_of_ble_eq_true rfl) (sg_Mo_voter_0 ⟨_, _, hC, _, _, q_isV_1 h7 (by omega) ⟨v, hv', rfl⟩, fun c => absurd c q_n10, fun _ => ⟨_, _, q_inn_1 (n := 3) (by omega) (by decide) ⟨w, hw, rfl⟩, ?_⟩⟩), q_fr_mono hf (fun a b q => by unfold q_DP0 at q; unfold q_DX; omega)⟩
  rw [show (3 : Int32) * nI v = nI (3 * v) from pk_mul 3 v, nI_add, q_cl (by omega), if_neg q_n10, hV v w hv' hw]
  exact ⟨⟨fun _ => trivial, fun _ => q_in (by omega) (by omega)⟩, rfl, rfl⟩
/-- MEASURE -/
theorem c_Fv_measure_r {X : zX} {M : zM} {S : q_N} {m w : Nat} (hS : q_ws S) (h : q_CV M S) (hm : m < q_I S 5 0) (hw : w < 2) : Call X 19 [.ref 0, .int (nI m), .int (nI w)] M [.int (nI (q_I S (6 + w) m))] M := by
  have h8 := (q_I_wf hS).2.2.2.1
  have e1 : f_Fv_below (nI m) (M 5 5) M = 1 := by rw [h.2.1.1]; exact q_below_1 M (by omega) ⟨m, hm, rfl⟩
  have e2 : f_Fv_below (nI w) 2 M = 1 := q_below_1 (n := 2) M (by omega) ⟨w, hw, rfl⟩
  have hi : vp_in (nI m) 12 := q_in (by omega) (by omega)
  have c := c_Fv_measure (X := X) (x1 := nI m) (x2 := nI w) (M := M) ⟨fun _ => trivial, fun _ => ⟨fun _ => ⟨fun _ => hi, fun _ => hi⟩, fun _ => trivial⟩⟩
  unfold f_Fv_measure at c
  obtain ⟨a1, a2⟩ := h.2.1.2.1 m hm
  rw [e1, e2, if_neg q_n10, if_neg q_n10, q_cl (by omega), a1, a2] at c
  rcases q_k2 hw with rfl | rfl <;> exact c
theorem o_measure {X : zX} {S : q_N} {it : Nat → Int32} {x1 x2 : Int32} (hS : q_ws S) : q_op X 19 102 [.int x1, .int x2] S it := by
  have h8 := (q_I_wf hS).2.2.2.1
  have h8' : q_nm S ≤ 12 := h8
  by_cases h1 : q_is x1 (q_I S 5 0)
  case neg =>
    refine q_op_ask (.int (-2)) hS (fun M h => ⟨M, ?_, q_fr_rf, h.2.2.2⟩) (fun M h => ?_)
    · have e1 : f_Fv_below x1 (M 5 5) M = 0 := by rw [h.2.1.2.1.1]; exact q_below_0 M (by omega) h1
      have c := c_Fv_measure (X := X) (x1 := x1) (x2 := x2) (M := M) ⟨fun _ => trivial, fun c => absurd e1 c⟩
      unfold f_Fv_measure at c
      rw [e1, if_pos rfl] at c
      exact c
    · obtain ⟨r, M1, hC, hf, h7, -⟩ := q_rdM (X := X) hS h.2.1
      exact ⟨M1, Call.of (Nat.le_of_ble_eq_true rfl) (sg_Mo_measure_0 ⟨_, _, hC, _, _, q_isM_0 h7 (by omega) h1, fun _ => ⟨rfl, rfl⟩, fun c => absurd rfl c⟩), q_fr_mono hf (fun a b q => by unfold q_DP1 at q; unfold q_DX; omega)⟩
  obtain ⟨m, hm, rfl⟩ := h1
  have hm' : m < q_nm S := hm
  by_cases h2 : q_is x2 2
  case neg =>
    refine q_op_ask (.int (-2)) hS (fun M h => ⟨M, ?_, q_fr_rf, h.2.2.2⟩) (fun M h => ?_)
    · have e1 : f_Fv_below (nI m) (M 5 5) M = 1 := by rw [h.2.1.2.1.1]; exact q_below_1 M (by omega) ⟨m, hm, rfl⟩
      have e2 : f_Fv_below x2 2 M = 0 := q_below_0 (n := 2) M (by omega) h2
      have c := c_Fv_measure (X := X) (x1 := nI m) (x2 := x2) (M := M) ⟨fun _ => trivial, fun _ => ⟨fun c => absurd e2 c, fun _ => trivial⟩⟩
      unfold f_Fv_measure at c
      rw [e1, e2, if_neg q_n10, if_pos rfl] at c
      exact c
    · obtain ⟨r, M1, hC, hf, h7, -⟩ := q_rdM (X := X) hS h.2.1
      exact ⟨M1, Call.of (Nat.le_of_ble_eq_true rfl) (sg_Mo_measure_0 ⟨_, _, hC, _, _, q_isM_1 h7 (by omega) ⟨m, hm', rfl⟩, fun c => absurd c q_n10, fun _ => ⟨_, _, q_two_0 h2, ⟨fun _ => trivial, fun c => absurd rfl c⟩, rfl, rfl⟩⟩), q_fr_mono hf (fun a b q => by unfold q_DP1 at q; unfold q_DX; omega)⟩
  obtain ⟨w, hw, rfl⟩ := h2
  refine q_op_ask (.int (nI (q_I S (6 + w) m))) hS (fun M h => ⟨M, c_Fv_measure_r hS h.2.1 hm hw, q_fr_rf, h.2.2.2⟩) (fun M h => ?_)
  obtain ⟨r, M1, hC, hf, h7, hV⟩ := q_rdM (X := X) hS h.2.1
  refine ⟨M1, Call.of (Nat.le_of_ble_eq_true rfl) (sg_Mo_measure_0 ⟨_, _, hC, _, _, q_isM_1 h7 (by omega) ⟨m, hm', rfl⟩, fun c => absurd c q_n10, fun _ => ⟨_, _, q_two_1 ⟨w, hw, rfl⟩, ?_⟩⟩), q_fr_mono hf (fun a b q => by unfold q_DP1 at q; unfold q_DX; omega)⟩
  rw [show (2 : Int32) * nI m = nI (2 * m) from pk_mul 2 m, nI_add, q_cl (by omega), if_neg q_n10, hV m w hm' hw]
  exact ⟨⟨fun _ => trivial, fun _ => q_in (by omega) (by omega)⟩, rfl, rfl⟩
/-- SAID -/
theorem c_Fv_said_r {X : zX} {M : zM} {S : q_N} {m v : Nat} (hS : q_ws S) (h : q_CV M S) (hm : m < q_I S 5 0) (hv : v < q_I S 0 0) : Call X 28 [.ref 0, .int (nI m), .int (nI v)] M [.int (nI ((q_liv (q_I S) (q_EA S)).2 0 (8 * m + v)))] M := by
  have h12 := (q_I_wf hS).2.2.2.1
  have h8 := (q_I_wf hS).1
  have e1 : f_Fv_below (nI m) (M 5 5) M = 1 := by rw [h.2.1.1]; exact q_below_1 M (by omega) ⟨m, hm, rfl⟩
  have e2 : f_Fv_below (nI v) (M 5 0) M = 1 := by rw [h.1.1]; exact q_below_1 M (by omega) ⟨v, hv, rfl⟩
  have e3 : nI m * (8 : Int32) + nI v = nI (8 * m + v) := by rw [show nI m * (8 : Int32) = nI (m * 8) from pk_mul m 8, nI_add, Nat.mul_comm]
  have c := c_Fv_said (X := X) (x1 := nI m) (x2 := nI v) (M := M) ⟨fun _ => trivial, fun _ => ⟨fun _ => by rw [e3]; exact q_in (by omega) (by omega), fun _ => trivial⟩⟩
  unfold f_Fv_said at c
  rw [e1, e2, e3, if_neg q_n10, if_neg q_n10, q_cl (by omega), show M 17 (8 * m + v) = _ from (h.2.2.2.1 m ((q_in_ord (q_I_wf hS)).mpr hm)).2.2.2 v hv] at c
  exact c
theorem o_said {X : zX} {S : q_N} {it : Nat → Int32} {x1 x2 : Int32} (hS : q_ws S) : q_op X 28 116 [.int x1, .int x2] S it := by
  have hwf := q_I_wf hS
  have h12 := hwf.2.2.2.1
  have h8 := hwf.1
  by_cases h1 : q_is x1 (q_I S 5 0)
  case neg =>
    refine q_op_ask (.int (-2)) hS (fun M h => ⟨M, ?_, q_fr_rf, h.2.2.2⟩) (fun M h => ?_)
    · have e1 : f_Fv_below x1 (M 5 5) M = 0 := by rw [h.2.1.2.1.1]; exact q_below_0 M (by omega) h1
      have c := c_Fv_said (X := X) (x1 := x1) (x2 := x2) (M := M) ⟨fun _ => trivial, fun c => absurd e1 c⟩
      unfold f_Fv_said at c
      rw [e1, if_pos rfl] at c
      exact c
    · obtain ⟨M1, hC, hf, hv, hm, hL⟩ := c_Mo_find (X := X) hS h
      exact ⟨M1, Call.of (Nat.le_of_ble_eq_true rfl) (sg_Mo_said_0 ⟨_, hC, _, _, q_isM_0 hm.1 (by omega) h1, fun _ => ⟨rfl, rfl⟩, fun c => absurd rfl c⟩), hf⟩
  obtain ⟨m, hm, rfl⟩ := h1
  by_cases h2 : q_is x2 (q_I S 0 0)
  case neg =>
    refine q_op_ask (.int (-2)) hS (fun M h => ⟨M, ?_, q_fr_rf, h.2.2.2⟩) (fun M h => ?_)
    · have e1 : f_Fv_below (nI m) (M 5 5) M = 1 := by rw [h.2.1.2.1.1]; exact q_below_1 M (by omega) ⟨m, hm, rfl⟩
      have e2 : f_Fv_below x2 (M 5 0) M = 0 := by rw [h.2.1.1.1]; exact q_below_0 M (by omega) h2
      have c := c_Fv_said (X := X) (x1 := nI m) (x2 := x2) (M := M) ⟨fun _ => trivial, fun _ => ⟨fun c => absurd e2 c, fun _ => trivial⟩⟩
      unfold f_Fv_said at c
      rw [e1, e2, if_neg q_n10, if_pos rfl] at c
      exact c
    · obtain ⟨M1, hC, hf, hv, hmm, hL⟩ := c_Mo_find (X := X) hS h
      exact ⟨M1, Call.of (Nat.le_of_ble_eq_true rfl) (sg_Mo_said_0 ⟨_, hC, _, _, q_isM_1 hmm.1 (by omega) ⟨m, hm, rfl⟩, fun c => absurd c q_n10, fun _ => ⟨_, _, q_isV_0 hv.1 (by omega) h2, ⟨fun _ => trivial, fun c => absurd rfl c⟩, rfl, rfl⟩⟩), hf⟩
  obtain ⟨v, hv, rfl⟩ := h2
  refine q_op_ask _ hS (fun M h => ⟨M, c_Fv_said_r hS h.2.1 hm hv, q_fr_rf, h.2.2.2⟩) (fun M h => ?_)
  obtain ⟨M1, hC, hf, hmv, hmm, hL⟩ := c_Mo_find (X := X) hS h
  refine ⟨M1, Call.of (Nat.le_of_ble_eq_true rfl) (sg_Mo_said_0 ⟨_, hC, _, _, q_isM_1 hmm.1 (by omega) ⟨m, hm, rfl⟩, fun c => absurd c q_n10, fun _ => ⟨_, _, q_isV_1 hmv.1 (by omega) ⟨v, hv, rfl⟩, ?_⟩⟩), hf⟩
  rw [show (8 : Int32) * nI m = nI (8 * m) from pk_mul 8 m, nI_add, q_cl (by omega), if_neg q_n10, (q_mord hwf hL hm).2.2.2.2.2 v hv]
  exact ⟨⟨fun _ => trivial, fun _ => q_in (by omega) (by omega)⟩, rfl, rfl⟩
/-- TALLY -/
theorem q_k5 {k : Nat} (h : k < 5) : k = 0 ∨ k = 1 ∨ k = 2 ∨ k = 3 ∨ k = 4 := by omega
theorem c_Fv_tally_r {X : zX} {M : zM} {S : q_N} {m w : Nat} (hS : q_ws S) (h : q_CV M S) (hm : m < q_I S 5 0) (hw : w < 5) : Call X 29 [.ref 0, .int (nI m), .int (nI w)] M [.int (nI ((q_liv (q_I S) (q_EA S)).2 (1 + w) m))] M := by
  have hwf := q_I_wf hS
  have h12 := hwf.2.2.2.1
  have e1 : f_Fv_below (nI m) (M 5 5) M = 1 := by rw [h.2.1.1]; exact q_below_1 M (by omega) ⟨m, hm, rfl⟩
  have e2 : f_Fv_below (nI w) 5 M = 1 := q_below_1 (n := 5) M (by omega) ⟨w, hw, rfl⟩
  have hi : vp_in (nI m) 12 := q_in (by omega) (by omega)
  have c := fun hs => c_Fv_tally (X := X) (x1 := nI m) (x2 := nI w) (M := M) hs
  unfold f_Fv_tally s_Fv_tally at c
  obtain ⟨a1, a2, a3, -⟩ := h.2.2.2.1 m ((q_in_ord hwf).mpr hm)
  have o := q_liv_o (E := q_EA S) hwf m
  rw [e1, e2, if_neg q_n10, if_neg q_n10, q_cl (by omega), show M 18 m = _ from a1, show M 19 m = _ from a2, show M 20 m = _ from a3, h.2.2.2.2.1, h.2.2.2.2.2, q_bit M (by have := q_pb_lt (E := q_EA S) hwf; omega) (by omega), q_bit M (by have := q_db_lt (E := q_EA S) hwf; omega) (by omega), q_pb_at hm, q_db_at hm, q_b01 o.2.2.2.1, q_b01 o.2.2.2.2] at c
  have c' := c (by simp [hi])
  rcases q_k5 hw with rfl | rfl | rfl | rfl | rfl <;> exact c'
theorem o_tally {X : zX} {S : q_N} {it : Nat → Int32} {x1 x2 : Int32} (hS : q_ws S) : q_op X 29 118 [.int x1, .int x2] S it := by
  have hwf := q_I_wf hS
  have h12 := hwf.2.2.2.1
  by_cases h1 : q_is x1 (q_I S 5 0)
  case neg =>
    refine q_op_ask (.int (-2)) hS (fun M h => ⟨M, ?_, q_fr_rf, h.2.2.2⟩) (fun M h => ?_)
    · have e1 : f_Fv_below x1 (M 5 5) M = 0 := by rw [h.2.1.2.1.1]; exact q_below_0 M (by omega) h1
      have c := c_Fv_tally (X := X) (x1 := x1) (x2 := x2) (M := M) ⟨fun _ => trivial, fun c => absurd e1 c⟩
      unfold f_Fv_tally at c
      rw [e1, if_pos rfl] at c
      exact c
    · obtain ⟨M1, hC, hf, hv, hm, hL⟩ := c_Mo_find (X := X) hS h
      exact ⟨M1, Call.of (Nat.le_of_ble_eq_true rfl) (sg_Mo_tally_0 ⟨_, hC, _, _, q_isM_0 hm.1 (by omega) h1, fun _ => ⟨rfl, rfl⟩, fun c => absurd rfl c⟩), hf⟩
  obtain ⟨m, hm, rfl⟩ := h1
  by_cases h2 : q_is x2 5
  case neg =>
    refine q_op_ask (.int (-2)) hS (fun M h => ⟨M, ?_, q_fr_rf, h.2.2.2⟩) (fun M h => ?_)
    · have e1 : f_Fv_below (nI m) (M 5 5) M = 1 := by rw [h.2.1.2.1.1]; exact q_below_1 M (by omega) ⟨m, hm, rfl⟩
      have e2 : f_Fv_below x2 5 M = 0 := q_below_0 (n := 5) M (by omega) h2
      have c := c_Fv_tally (X := X) (x1 := nI m) (x2 := x2) (M := M) ⟨fun _ => trivial, fun _ => ⟨fun c => absurd e2 c, fun _ => trivial⟩⟩
      unfold f_Fv_tally at c
      rw [e1, e2, if_neg q_n10, if_pos rfl] at c
      exact c
    · obtain ⟨M1, hC, hf, hv, hmm, hL⟩ := c_Mo_find (X := X) hS h
      exact ⟨M1, Call.of (Nat.le_of_ble_eq_true rfl) (sg_Mo_tally_0 ⟨_, hC, _, _, q_isM_1 hmm.1 (by omega) ⟨m, hm, rfl⟩, fun c => absurd c q_n10, fun _ => ⟨_, _, q_inn_0 (n := 5) (by omega) (by decide) h2, fun _ => ⟨rfl, rfl⟩, fun c => absurd rfl c⟩⟩), hf⟩
  obtain ⟨w, hw, rfl⟩ := h2
  refine q_op_ask _ hS (fun M h => ⟨M, c_Fv_tally_r hS h.2.1 hm hw, q_fr_rf, h.2.2.2⟩) (fun M h => ?_)
  obtain ⟨M1, hC, hf, hmv, hmm, hL⟩ := c_Mo_find (X := X) hS h
  exact ⟨M1, Call.of (Nat.le_of_ble_eq_true rfl) (sg_Mo_tally_0 ⟨_, hC, _, _, q_isM_1 hmm.1 (by omega) ⟨m, hm, rfl⟩, fun c => absurd c q_n10, fun _ => ⟨_, _, q_inn_1 (n := 5) (by omega) (by decide) ⟨w, hw, rfl⟩, fun c => absurd c q_n10, fun _ => ⟨_, _, q_tb hwf hL hm hw, rfl, rfl⟩⟩⟩), hf⟩
/-- AT -/
theorem q_k4 {k : Nat} (h : k < 4) : k = 0 ∨ k = 1 ∨ k = 2 ∨ k = 3 := by omega
theorem c_Fv_at_r {X : zX} {M : zM} {S : q_N} {v w : Nat} (hS : q_ws S) (h : q_CV M S) (hv : v < q_I S 0 0) (hw : w < 4) : Call X 30 [.ref 0, .int (nI v), .int (nI w)] M [.int (nI ((q_liv (q_I S) (q_EA S)).1 w v))] M := by
  have hwf := q_I_wf hS
  have h8 := hwf.1
  have e1 : f_Fv_below (nI v) (M 5 0) M = 1 := by rw [h.1.1]; exact q_below_1 M (by omega) ⟨v, hv, rfl⟩
  have e2 : f_Fv_below (nI w) 4 M = 1 := q_below_1 (n := 4) M (by omega) ⟨w, hw, rfl⟩
  have hi : vp_in (nI v) 8 := q_in (by omega) (by omega)
  have c := fun hs => c_Fv_at (X := X) (x1 := nI v) (x2 := nI w) (M := M) hs
  unfold f_Fv_at s_Fv_at at c
  obtain ⟨a1, a2, a3, a4⟩ := h.2.2.1 v hv
  rw [e1, e2, if_neg q_n10, if_neg q_n10, q_cl (by omega), show M 21 v = _ from a1, show M 22 v = _ from a2, show M 23 v = _ from a3, show M 24 v = _ from a4] at c
  have c' := c (by simp [hi])
  rcases q_k4 hw with rfl | rfl | rfl | rfl <;> exact c'
theorem q_ab {X : zX} {I : q_N} {E : q_E} {M : zM} {v w : Nat} (hwf : q_wf I) (h : q_ML I E M) (hv : v < I 0 0) (hw : w < 4) : Call X 119 [.ref 53, .int (nI v), .int (nI w)] M [.int (nI ((q_liv I E).1 w v))] M := by
  have h8 := hwf.1
  have hi : vp_in (nI v) 8 := q_in (by omega) (by omega)
  have c := c_Mo_atBy (X := X) (x1 := nI v) (x2 := nI w) (M := M) ⟨fun _ => ⟨fun _ => ⟨fun _ => hi, fun _ => hi⟩, fun _ => hi⟩, fun _ => hi⟩
  unfold f_Mo_atBy at c
  obtain ⟨a1, a2, a3, a4⟩ := h.1 v hv
  rw [q_cl (by omega), a1, a2, a3, a4] at c
  rcases q_k4 hw with rfl | rfl | rfl | rfl <;> exact c
theorem o_at {X : zX} {S : q_N} {it : Nat → Int32} {x1 x2 : Int32} (hS : q_ws S) : q_op X 30 120 [.int x1, .int x2] S it := by
  have hwf := q_I_wf hS
  have h8 := hwf.1
  by_cases h1 : q_is x1 (q_I S 0 0)
  case neg =>
    refine q_op_ask (.int (-2)) hS (fun M h => ⟨M, ?_, q_fr_rf, h.2.2.2⟩) (fun M h => ?_)
    · have e1 : f_Fv_below x1 (M 5 0) M = 0 := by rw [h.2.1.1.1]; exact q_below_0 M (by omega) h1
      have c := c_Fv_at (X := X) (x1 := x1) (x2 := x2) (M := M) ⟨fun _ => trivial, fun c => absurd e1 c⟩
      unfold f_Fv_at at c
      rw [e1, if_pos rfl] at c
      exact c
    · obtain ⟨M1, hC, hf, hv, hm, hL⟩ := c_Mo_find (X := X) hS h
      exact ⟨M1, Call.of (Nat.le_of_ble_eq_true rfl) (sg_Mo_at_0 ⟨_, hC, _, _, q_isV_0 hv.1 (by omega) h1, fun _ => ⟨rfl, rfl⟩, fun c => absurd rfl c⟩), hf⟩
  obtain ⟨v, hv, rfl⟩ := h1
  by_cases h2 : q_is x2 4
  case neg =>
    refine q_op_ask (.int (-2)) hS (fun M h => ⟨M, ?_, q_fr_rf, h.2.2.2⟩) (fun M h => ?_)
    · have e1 : f_Fv_below (nI v) (M 5 0) M = 1 := by rw [h.2.1.1.1]; exact q_below_1 M (by omega) ⟨v, hv, rfl⟩
      have e2 : f_Fv_below x2 4 M = 0 := q_below_0 (n := 4) M (by omega) h2
      have c := c_Fv_at (X := X) (x1 := nI v) (x2 := x2) (M := M) ⟨fun _ => trivial, fun _ => ⟨fun c => absurd e2 c, fun _ => trivial⟩⟩
      unfold f_Fv_at at c
      rw [e1, e2, if_neg q_n10, if_pos rfl] at c
      exact c
    · obtain ⟨M1, hC, hf, hmv, hmm, hL⟩ := c_Mo_find (X := X) hS h
      exact ⟨M1, Call.of (Nat.le_of_ble_eq_true rfl) (sg_Mo_at_0 ⟨_, hC, _, _, q_isV_1 hmv.1 (by omega) ⟨v, hv, rfl⟩, fun c => absurd c q_n10, fun _ => ⟨_, _, q_inn_0 (n := 4) (by omega) (by decide) h2, fun _ => ⟨rfl, rfl⟩, fun c => absurd rfl c⟩⟩), hf⟩
  obtain ⟨w, hw, rfl⟩ := h2
  refine q_op_ask _ hS (fun M h => ⟨M, c_Fv_at_r hS h.2.1 hv hw, q_fr_rf, h.2.2.2⟩) (fun M h => ?_)
  obtain ⟨M1, hC, hf, hmv, hmm, hL⟩ := c_Mo_find (X := X) hS h
  exact ⟨M1, Call.of (Nat.le_of_ble_eq_true rfl) (sg_Mo_at_0 ⟨_, hC, _, _, q_isV_1 hmv.1 (by omega) ⟨v, hv, rfl⟩, fun c => absurd c q_n10, fun _ => ⟨_, _, q_inn_1 (n := 4) (by omega) (by decide) ⟨w, hw, rfl⟩, fun c => absurd c q_n10, fun _ => ⟨_, _, q_ab hwf hL hv hw, rfl, rfl⟩⟩⟩), hf⟩
/-- SUM -/
def q_cn (S : q_N) (w : Nat) : Nat := q_cnt (fun m => (q_liv (q_I S) (q_EA S)).2 (4 + w) m == 1) (q_I S 5 0)
theorem c_Fv_sum_r {X : zX} {M : zM} {S : q_N} {w : Nat} (hS : q_ws S) (h : q_CV M S) (hw : w < 2) : Call X 32 [.ref 0, .int (nI w)] M [.int (nI (q_cn S w))] M := by
  have hwf := q_I_wf hS
  have e2 : f_Fv_below (nI w) 2 M = 1 := q_below_1 (n := 2) M (by omega) ⟨w, hw, rfl⟩
  have c := c_Fv_sum (X := X) (x1 := nI w) (M := M)
  unfold f_Fv_sum at c
  rw [e2, if_neg q_n10, h.2.2.2.2.1, h.2.2.2.2.2] at c
  rcases q_k2 hw with rfl | rfl
  · rw [if_pos (show nI 0 = (0 : Int32) from rfl)] at c
    unfold q_pb at c
    rw [q_bc_bits M hwf.2.2.2.1] at c
    exact c
  · rw [if_neg (show ¬ nI 1 = (0 : Int32) by decide)] at c
    unfold q_db at c
    rw [q_bc_bits M hwf.2.2.2.1] at c
    exact c
theorem o_sum {X : zX} {S : q_N} {it : Nat → Int32} {x1 : Int32} (hS : q_ws S) : q_op X 32 122 [.int x1] S it := by
  have hwf := q_I_wf hS
  by_cases h1 : q_is x1 2
  case neg =>
    refine q_op_ask (.int (-2)) hS (fun M h => ⟨M, ?_, q_fr_rf, h.2.2.2⟩) (fun M h => ?_)
    · have e1 : f_Fv_below x1 2 M = 0 := q_below_0 (n := 2) M (by omega) h1
      have c := c_Fv_sum (X := X) (x1 := x1) (M := M)
      unfold f_Fv_sum at c
      rw [e1, if_pos rfl] at c
      exact c
    · obtain ⟨M1, hC, hf, hv, hm, hL⟩ := c_Mo_find (X := X) hS h
      exact ⟨M1, Call.of (Nat.le_of_ble_eq_true rfl) (sg_Mo_sum_0 ⟨_, hC, _, _, q_two_0 h1, fun _ => ⟨rfl, rfl⟩, fun c => absurd rfl c⟩), hf⟩
  obtain ⟨w, hw, rfl⟩ := h1
  refine q_op_ask _ hS (fun M h => ⟨M, c_Fv_sum_r hS h.2.1 hw, q_fr_rf, h.2.2.2⟩) (fun M h => ?_)
  obtain ⟨M1, hC, hf, hmv, hmm, hL⟩ := c_Mo_find (X := X) hS h
  exact ⟨M1, Call.of (Nat.le_of_ble_eq_true rfl) (sg_Mo_sum_0 ⟨_, hC, _, _, q_two_1 ⟨w, hw, rfl⟩, fun c => absurd c q_n10, fun _ => ⟨_, _, c_Mo_sumBy hwf hL hmm.1 hw, rfl, rfl⟩⟩), hf⟩
/-- LEVEL, LOYAL, BITTER -/
theorem o_level {X : zX} {S : q_N} {it : Nat → Int32} (hS : q_ws S) : q_op X 33 123 [] S it := by
  have hwf := q_I_wf hS
  refine q_op_ask _ hS (fun M h => ⟨M, c_Fv_level hwf h.2.1.2.1 h.2.1.2.2, q_fr_rf, h.2.2.2⟩) (fun M h => ?_)
  obtain ⟨M1, hC, hf, hmv, hmm, hL⟩ := c_Mo_find (X := X) hS h
  exact ⟨M1, Call.of (Nat.le_of_ble_eq_true rfl) (sg_Mo_level_0 ⟨_, hC, by rw [q_ML_lev hL], rfl⟩), hf⟩
theorem o_loyal {X : zX} {S : q_N} {it : Nat → Int32} (hS : q_ws S) : q_op X 34 125 [] S it := by
  have hwf := q_I_wf hS
  refine q_op_ask _ hS (fun M h => ⟨M, c_Fv_loyal hwf h.2.1.2.2 h.2.1.1.1, q_fr_rf, h.2.2.2⟩) (fun M h => ?_)
  obtain ⟨M1, hC, hf, hmv, hmm, hL⟩ := c_Mo_find (X := X) hS h
  exact ⟨M1, Call.of (Nat.le_of_ble_eq_true rfl) (sg_Mo_loyal_0 ⟨_, hC, _, _, c_Mo_loyalNow hwf hL hmv.1, rfl, rfl⟩), hf⟩
theorem o_bitter {X : zX} {S : q_N} {it : Nat → Int32} (hS : q_ws S) : q_op X 35 128 [] S it := by
  have hwf := q_I_wf hS
  refine q_op_ask _ hS (fun M h => ⟨M, c_Fv_bitter hwf h.2.1.2.2 h.2.1.1.1, q_fr_rf, h.2.2.2⟩) (fun M h => ?_)
  obtain ⟨M1, hC, hf, hmv, hmm, hL⟩ := c_Mo_find (X := X) hS h
  exact ⟨M1, Call.of (Nat.le_of_ble_eq_true rfl) (sg_Mo_bitter_0 ⟨_, hC, _, _, c_Mo_bitterNow hwf hL hmv.1, rfl, rfl⟩), hf⟩
/-- COUNT -/
def q_cou (S : q_N) (x : Int32) : Int32 := if x = 0 then nI (q_I S 0 0) else if x = 1 then nI (q_I S 5 0) else if x = 2 then nI (S 0 0) else if x = 3 then nI (S 2 0) else if x = 4 then nI (S 5 0) else if x = 5 then nI (q_cn S 0) else if x = 6 then nI (q_nc (q_I S) (q_EA S)) else if x = 7 then nI (S 9 0) else if x = 8 then nI (S 12 0) else -2
theorem c_Fv_count_r {X : zX} {M : zM} {S : q_N} {it : Nat → Int32} {x : Int32} (hS : q_ws S) (h : q_rC M S it) : Call X 73 [.ref 0, .int x] M [.int (q_cou S x)] M := by
  have hwf := q_I_wf hS
  obtain ⟨⟨t1, t2, t3, t4⟩, hV, hB, -⟩ := h
  have h6 := c_Vo_coatsInAll_a (X := X) hwf hV.2.2
  have h5 := c_In_bitCount (X := X) (x0 := M 16 4) (M := M)
  rw [hV.2.2.2.2.1] at h5
  unfold q_pb at h5
  rw [q_bc_bits M hwf.2.2.2.1] at h5
  refine Call.of (Nat.le_of_ble_eq_true rfl) (sg_Fv_count_0 ?_)
  rw [hV.1.1, hV.2.1.1, t1.1, t2.1, t4.1, hB.1.1, hB.2.1, hV.2.2.2.2.1]
  unfold q_cou
  refine ⟨fun c => ?_, fun c0 => ⟨fun c => ?_, fun c1 => ⟨fun c => ?_, fun c2 => ⟨fun c => ?_, fun c3 => ⟨fun c => ?_, fun c4 => ⟨fun c => ?_, fun c5 => ⟨fun c => ?_, fun c6 => ⟨fun c => ?_, fun c7 => ⟨fun c => ?_, fun c8 => ?_⟩⟩⟩⟩⟩⟩⟩⟩⟩
  · rw [if_pos c]; exact ⟨rfl, rfl⟩
  · rw [if_neg c0, if_pos c]; exact ⟨rfl, rfl⟩
  · rw [if_neg c0, if_neg c1, if_pos c]; exact ⟨rfl, rfl⟩
  · rw [if_neg c0, if_neg c1, if_neg c2, if_pos c]; exact ⟨rfl, rfl⟩
  · rw [if_neg c0, if_neg c1, if_neg c2, if_neg c3, if_pos c]; exact ⟨rfl, rfl⟩
  · rw [if_neg c0, if_neg c1, if_neg c2, if_neg c3, if_neg c4, if_pos c]
    exact ⟨_, _, h5, rfl, rfl⟩
  · rw [if_neg c0, if_neg c1, if_neg c2, if_neg c3, if_neg c4, if_neg c5, if_pos c]
    exact ⟨_, _, h6, rfl, rfl⟩
  · rw [if_neg c0, if_neg c1, if_neg c2, if_neg c3, if_neg c4, if_neg c5, if_neg c6, if_pos c]; exact ⟨rfl, rfl⟩
  · rw [if_neg c0, if_neg c1, if_neg c2, if_neg c3, if_neg c4, if_neg c5, if_neg c6, if_neg c7, if_pos c]; exact ⟨rfl, rfl⟩
  · rw [if_neg c0, if_neg c1, if_neg c2, if_neg c3, if_neg c4, if_neg c5, if_neg c6, if_neg c7, if_neg c8]; exact ⟨rfl, rfl⟩
theorem c_Mo_count_r {X : zX} {M : zM} {S : q_N} {it : Nat → Int32} {x : Int32} (hS : q_ws S) (h : q_rM M S it) : ∃ M1, Call X 160 [.ref 53, .int x] M [.int (q_cou S x)] M1 ∧ q_fr q_DX M M1 ∧ q_mv M1 (q_I S) ∧ q_mm M1 (q_I S) := by
  have hwf := q_I_wf hS
  obtain ⟨M1, hC, hf, hmv, hmm, hL⟩ := c_Mo_find (X := X) hS h
  obtain ⟨⟨t1, t2, t3, t4⟩, hB⟩ := q_rM_AB.mp (q_rM_fr h hf)
  have h6 := c_Mo_coatsNow (X := X) hwf hL hmv.1
  have h5 := c_Mo_sumBy (X := X) (w := 0) hwf hL hmm.1 (by omega)
  refine ⟨M1, Call.of (Nat.le_of_ble_eq_true rfl) (sg_Mo_count_0 ⟨_, hC, ?_⟩), hf, hmv, hmm⟩
  rw [hmv.1, hmm.1, t4.1, hB.1.1, hB.2.1]
  unfold q_cou
  refine ⟨fun c => ?_, fun c0 => ⟨fun c => ?_, fun c1 => ⟨fun c => ?_, fun c2 => ⟨fun c => ?_, fun c3 => ⟨fun c => ?_, fun c4 => ⟨fun c => ?_, fun c5 => ⟨fun c => ?_, fun c6 => ⟨fun c => ?_, fun c7 => ⟨fun c => ?_, fun c8 => ?_⟩⟩⟩⟩⟩⟩⟩⟩⟩
  · rw [if_pos c]; exact ⟨rfl, rfl⟩
  · rw [if_neg c0, if_pos c]; exact ⟨rfl, rfl⟩
  · rw [if_neg c0, if_neg c1, if_pos c, c, show ((2 : Int32) - 2).toNatClampNeg = 0 from rfl, t1.1]; exact ⟨by unfold vp_in; decide, rfl, rfl⟩
  · rw [if_neg c0, if_neg c1, if_neg c2, if_pos c, c, show ((3 : Int32) - 2).toNatClampNeg = 1 from rfl, t2.1]; exact ⟨by unfold vp_in; decide, rfl, rfl⟩
  · rw [if_neg c0, if_neg c1, if_neg c2, if_neg c3, if_pos c]; exact ⟨rfl, rfl⟩
  · rw [if_neg c0, if_neg c1, if_neg c2, if_neg c3, if_neg c4, if_pos c]
    exact ⟨_, _, h5, rfl, rfl⟩
  · rw [if_neg c0, if_neg c1, if_neg c2, if_neg c3, if_neg c4, if_neg c5, if_pos c]
    exact ⟨_, _, h6, rfl, rfl⟩
  · rw [if_neg c0, if_neg c1, if_neg c2, if_neg c3, if_neg c4, if_neg c5, if_neg c6, if_pos c]; exact ⟨rfl, rfl⟩
  · rw [if_neg c0, if_neg c1, if_neg c2, if_neg c3, if_neg c4, if_neg c5, if_neg c6, if_neg c7, if_pos c]; exact ⟨rfl, rfl⟩
  · rw [if_neg c0, if_neg c1, if_neg c2, if_neg c3, if_neg c4, if_neg c5, if_neg c6, if_neg c7, if_neg c8]; exact ⟨rfl, rfl⟩
theorem o_count {X : zX} {S : q_N} {it : Nat → Int32} {x1 : Int32} (hS : q_ws S) : q_op X 73 160 [.int x1] S it := by
  refine q_op_ask _ hS (fun M h => ⟨M, c_Fv_count_r hS h, q_fr_rf, h.2.2.2⟩) (fun M h => ?_)
  obtain ⟨M1, hC, hf, -⟩ := c_Mo_count_r (X := X) (x := x1) hS h
  exact ⟨M1, hC, hf⟩
