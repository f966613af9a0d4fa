/-! WHAT IS TOLD, CHANGED -/
theorem q_tx_fr {M M1 : zM} {o a n : Nat} {b : Nat → Nat} (h : q_tx M o a n b) (h1 : M1 o 1 = M o 1) (h2 : ∀ i, i < n → M1 a i = M a i) : q_tx M1 o a n b :=
  ⟨h1.trans h.1, fun i hi => by rw [h2 i hi]; exact h.2 i hi⟩
theorem q_evs_fr {M M1 : zM} {c kd wh nu ne : Nat} {K : q_N} (h : q_evs M c kd wh nu ne K) (h1 : M1 c 9 = M c 9) (h2 : ∀ i, i < ne → M1 kd i = M kd i ∧ M1 wh i = M wh i ∧ M1 nu i = M nu i) : q_evs M1 c kd wh nu ne K :=
  ⟨h1.trans h.1, h.2.1, fun i hi => by rw [(h2 i hi).1, (h2 i hi).2.1, (h2 i hi).2.2]; exact h.2.2 i hi⟩
theorem q_mt0_fr {M M1 : zM} {n : Nat} {b : Nat → Nat} (h : q_mt0 M n b) (h1 : M1 59 0 = M 59 0) (h2 : ∀ i, i < n → M1 58 (0 + i) = M 58 (0 + i)) : q_mt0 M1 n b :=
  ⟨h1.trans h.1, h.2.1, fun i hi => by rw [h2 i hi]; exact h.2.2 i hi⟩
theorem q_mt1_fr {M M1 : zM} {n : Nat} {b : Nat → Nat} (h : q_mt1 M n b) (h1 : M1 59 1 = M 59 1) (h2 : ∀ i, i < n → M1 58 (36 + i) = M 58 (36 + i)) : q_mt1 M1 n b :=
  ⟨h1.trans h.1, h.2.1, fun i hi => by rw [h2 i hi]; exact h.2.2 i hi⟩
theorem q_mev_zu {M : zM} {ne gone held k i : Nat} {v : Int32} {K : q_N} (h : q_mev M ne gone held K) (hk : k ≠ 63 ∧ (k ≠ 53 ∨ (i ≠ 12 ∧ i ≠ 14))) : q_mev (zu M k i v) ne gone held K := by
  obtain ⟨d1, d2, d3, d4, d5, d6⟩ := h
  refine ⟨by rw [zu_n (by omega)]; exact d1, d2, by rw [zu_n (by omega)]; exact d3, d4, d5, fun j hj => ?_⟩
  rw [zu_n (b := 3 * j) (by omega), zu_n (b := 3 * j + 1) (by omega), zu_n (b := 3 * j + 2) (by omega)]
  exact d6 j hj
def q_DC : Nat → Nat → Prop := fun a b => (1 ≤ a ∧ a ≤ 4) ∨ (a = 5 ∧ (b = 9 ∨ b = 13 ∨ b = 14)) ∨ (13 ≤ a ∧ a ≤ 15)
theorem q_reA {X : zX} {M M0 : zM} {S S' : q_N} {it : Nat → Int32} (h : q_rC M S it) (hS' : q_ws S') (hr : ∀ x, 9 ≤ x → S' x = S x) (hf : q_fr q_DC M M0) (hT : q_CT M0 S') : ∃ M1, Call X 14 [.ref 0] M0 [] M1 ∧ q_hi M M1 ∧ q_rC M1 S' it := by
  have hB := q_CS_cg hr (q_CS_fr h.2.2.1 hf (fun a b q => by unfold q_DC at q; omega))
  obtain ⟨M1, hC, hf1, h1⟩ := q_retold (X := X) hS' hT hB
  refine ⟨M1, hC, fun a b ha => ?_, h1⟩
  rw [hf1 a b (by unfold q_DT; omega)]
  exact hf a b (by unfold q_DC; omega)
/-- BACK -/
theorem o_back {X : zX} {S : q_N} {it : Nat → Int32} (hS : q_ws S) : q_op X 23 105 [] S it := by
  by_cases h0 : S 5 0 = 0
  · refine q_op_same (.int (-3)) hS (fun M h => ?_) (fun M h => ?_)
    · have e : M 5 9 = 0 := h.1.2.2.2.1.trans (by rw [h0]; rfl)
      exact Call.of (Nat.le_of_ble_eq_true rfl) (sg_Fv_back_0 ⟨fun c => absurd e c, fun _ => ⟨rfl, rfl⟩⟩)
    · have e : M 53 12 = 0 := (q_rM_AB.mp h).1.2.2.2.1.trans (by rw [h0]; rfl)
      have c := c_Mo_back (X := X) (M := M)
      unfold f_Mo_back m_Mo_back at c
      rw [if_pos e, if_pos e] at c
      exact c
  · have hr : ∀ x, x ≠ 5 → q_up S 5 0 (S 5 0 - 1) x = S x := fun x hx => q_up_ne hx
    have r5 : q_up S 5 0 (S 5 0 - 1) 5 0 = S 5 0 - 1 := q_up_eq
    have hS' : q_ws (q_up S 5 0 (S 5 0 - 1)) := by
      have hS0 := hS
      obtain ⟨h1, h2, h3, h4, h5⟩ := hS
      refine q_ws_A hS0 (fun x hx => hr x (by omega)) ?_ ?_ ?_ ?_
      · rw [hr _ (by omega), hr _ (by omega)]; exact h1
      · rw [hr _ (by omega), hr _ (by omega)]; exact h2
      · rw [hr _ (by omega)]; exact h3
      · rw [r5, hr _ (by omega), hr _ (by omega), hr _ (by omega)]; exact ⟨by omega, fun i hi => h4.2 i (by omega)⟩
    refine ⟨.int (nI (S 5 0 - 1)), q_up S 5 0 (S 5 0 - 1), it, rfl, hS', fun M h => ?_, fun M h => ?_⟩
    · obtain ⟨t1, t2, t3, t4⟩ := h.1
      have n1 : M 5 9 = nI (S 5 0) := t4.1
      have h8 := hS.2.2.2.1.1
      obtain ⟨M1, hC, hh, hR⟩ := q_reA (X := X) (M0 := zu M 5 9 (nI (S 5 0 - 1))) h hS' (fun x hx => hr x (by omega)) (q_fr_zu q_fr_rf (by unfold q_DC; omega)) (by
        unfold q_CT
        rw [hr 0 (by omega), hr 1 (by omega), hr 2 (by omega), hr 3 (by omega), hr 4 (by omega), r5]
        refine ⟨q_tx_fr t1 (zu_n (by omega)) (fun i hi => zu_n (by omega)), q_tx_fr t2 (zu_n (by omega)) (fun i hi => zu_n (by omega)), ⟨by rw [zu_n (by omega)]; exact t3.1, by rw [zu_n (by omega)]; exact t3.2⟩, zu_y, by omega, fun i hi => ?_⟩
        rw [zu_n (a := 13) (by omega), zu_n (a := 14) (by omega), zu_n (a := 15) (by omega)]
        exact t4.2.2 i (by omega))
      refine ⟨M1, Call.of (Nat.le_of_ble_eq_true rfl) (sg_Fv_back_0 ⟨fun _ => ?_, fun c => absurd (by rw [n1] at c; exact (q_eq (b := 0) (by omega) (by omega)).mp c) h0⟩), hh, hR⟩
      rw [n1, show nI (S 5 0) - (1 : Int32) = nI (S 5 0 - 1) from pk_sub (b := 1) (by omega)]
      refine ⟨M1, hC, ?_, rfl⟩
      rw [hR.1.2.2.2.1, r5]
    · obtain ⟨t1, t2, t3, t4⟩ := (q_rM_AB.mp h).1
      have n1 : M 53 12 = nI (S 5 0) := t4.1
      have h8 := hS.2.2.2.1.1
      have c := c_Mo_back (X := X) (M := M)
      unfold f_Mo_back m_Mo_back at c
      have n2 : ¬ M 53 12 = 0 := by rw [n1]; exact fun q => h0 ((q_eq (b := 0) (by omega) (by omega)).mp q)
      rw [if_neg n2, if_neg n2, n1, show nI (S 5 0) - (1 : Int32) = nI (S 5 0 - 1) from pk_sub (b := 1) (by omega)] at c
      refine ⟨_, c, fun a b ha => zu_n (by omega), q_rM_A h (fun x hx => hr x (by omega)) (q_fr_zu q_fr_rf (by unfold q_DA; omega)) ?_⟩
      unfold q_MA
      rw [hr 0 (by omega), hr 1 (by omega), hr 2 (by omega), hr 3 (by omega), hr 4 (by omega), r5]
      obtain ⟨d1, d2, d3, d4, d5, d6⟩ := t4
      refine ⟨q_mt0_fr t1 (zu_n (by omega)) (fun i hi => zu_n (by omega)), q_mt1_fr t2 (zu_n (by omega)) (fun i hi => zu_n (by omega)), ⟨by rw [zu_n (by omega)]; exact t3.1, by rw [zu_n (by omega)]; exact t3.2⟩, zu_y, by omega, by rw [zu_n (by omega)]; exact d3, d4, fun i hi => d5 i (by omega), fun i hi => ?_⟩
      rw [zu_n (b := 3 * i) (by omega), zu_n (b := 3 * i + 1) (by omega), zu_n (b := 3 * i + 2) (by omega)]
      exact d6 i (by omega)
/-- EVENT, refused -/
theorem q_event_no {X : zX} {M : zM} {x1 x2 x3 : Int32} (h : ¬ (q_is x1 3 ∧ q_is x2 24 ∧ q_is x3 8)) : Call X 22 [.ref 0, .int x1, .int x2, .int x3] M [.int (-2)] M ∧ Call X 104 [.ref 53, .int x1, .int x2, .int x3] M [.int (-2)] M := by
  have m := fun hs => c_Mo_event (X := X) (x1 := x1) (x2 := x2) (x3 := x3) (M := M) hs
  unfold f_Mo_event m_Mo_event at m
  by_cases h1 : q_is x1 3
  case neg =>
    have e : f_Fv_below x1 3 M = 0 := q_below_0 (n := 3) M (by omega) h1
    have g : f_Mo_in x1.toInt64 0 2 M = 0 := q_in_0 (n := 3) M (by omega) (by decide) h1
    refine ⟨Call.of (Nat.le_of_ble_eq_true rfl) (sg_Fv_event_0 ⟨_, _, c_Fv_below, fun _ => ⟨rfl, rfl⟩, fun c => absurd e c⟩), ?_⟩
    have m' := m ⟨fun _ => trivial, fun c => absurd g c⟩
    simp only [g, if_true] at m'
    exact m'
  have e1 : f_Fv_below x1 3 M = 1 := q_below_1 (n := 3) M (by omega) h1
  have g1 : f_Mo_in x1.toInt64 0 2 M = 1 := q_in_1 (n := 3) M (by omega) (by decide) h1
  by_cases h2 : q_is x2 24
  case neg =>
    have e : f_Fv_below x2 24 M = 0 := q_below_0 (n := 24) M (by omega) h2
    have g : f_Mo_in x2.toInt64 0 23 M = 0 := q_in_0 (n := 24) M (by omega) (by decide) h2
    refine ⟨Call.of (Nat.le_of_ble_eq_true rfl) (sg_Fv_event_0 ⟨_, _, c_Fv_below, fun c => absurd (e1.symm.trans c) q_n10, fun _ => ⟨_, _, c_Fv_below, fun _ => ⟨rfl, rfl⟩, fun c => absurd e c⟩⟩), ?_⟩
    have m' := m ⟨fun _ => trivial, fun _ => ⟨fun _ => trivial, fun c => absurd g c⟩⟩
    simp only [g1, g, q_n10, if_true, if_false] at m'
    exact m'
  have e2 : f_Fv_below x2 24 M = 1 := q_below_1 (n := 24) M (by omega) h2
  have g2 : f_Mo_in x2.toInt64 0 23 M = 1 := q_in_1 (n := 24) M (by omega) (by decide) h2
  have h3 : ¬ q_is x3 8 := fun q => h ⟨h1, h2, q⟩
  have e : f_Fv_below x3 8 M = 0 := q_below_0 (n := 8) M (by omega) h3
  have g : f_Mo_in x3.toInt64 0 7 M = 0 := q_in_0 (n := 8) M (by omega) (by decide) h3
  refine ⟨Call.of (Nat.le_of_ble_eq_true rfl) (sg_Fv_event_0 ⟨_, _, c_Fv_below, fun c => absurd (e1.symm.trans c) q_n10, fun _ => ⟨_, _, c_Fv_below, fun c => absurd (e2.symm.trans c) q_n10, fun _ => ⟨_, _, c_Fv_below, fun c => absurd e c, fun _ => ⟨rfl, rfl⟩⟩⟩⟩), ?_⟩
  have m' := m ⟨fun _ => trivial, fun _ => ⟨fun _ => trivial, fun _ => ⟨fun c => absurd g c, fun _ => trivial⟩⟩⟩
  simp only [g1, g2, g, q_n10, if_true, if_false] at m'
  exact m'
/-- the state behind an event -/
def q_ev (S : q_N) (k y v : Nat) : q_N := q_up (q_up (q_up (q_up S 6 (S 5 0) k) 7 (S 5 0) y) 8 (S 5 0) v) 5 0 (S 5 0 + 1)
theorem q_ev_ne {S : q_N} {k y v x : Nat} (h : ¬ (5 ≤ x ∧ x ≤ 8)) : q_ev S k y v x = S x := by
  unfold q_ev
  rw [q_up_ne (by omega), q_up_ne (by omega), q_up_ne (by omega), q_up_ne (by omega)]
theorem q_ev_5 {S : q_N} {k y v : Nat} : q_ev S k y v 5 0 = S 5 0 + 1 := q_up_eq
theorem q_ev_6 {S : q_N} {k y v i : Nat} : q_ev S k y v 6 i = if i = S 5 0 then k else S 6 i := by
  unfold q_ev
  rw [q_up_ne (by omega), q_up_ne (by omega), q_up_ne (by omega)]
  split
  · rename_i e; rw [e, q_up_eq]
  · rename_i e; rw [q_up_n2 e]
theorem q_ev_7 {S : q_N} {k y v i : Nat} : q_ev S k y v 7 i = if i = S 5 0 then y else S 7 i := by
  unfold q_ev
  rw [q_up_ne (by omega), q_up_ne (by omega)]
  split
  · rename_i e; rw [e, q_up_eq]
  · rename_i e; rw [q_up_n2 e, q_up_ne (by omega)]
theorem q_ev_8 {S : q_N} {k y v i : Nat} : q_ev S k y v 8 i = if i = S 5 0 then v else S 8 i := by
  unfold q_ev
  rw [q_up_ne (by omega)]
  split
  · rename_i e; rw [e, q_up_eq]
  · rename_i e; rw [q_up_n2 e, q_up_ne (by omega), q_up_ne (by omega)]
theorem q_ev_ws {S : q_N} {k y v : Nat} (hS : q_ws S) (hn : S 5 0 < 8) (hk : k < 3) (hy : y < 24) (hv : v < 8) : q_ws (q_ev S k y v) := by
  have hS0 := hS
  obtain ⟨h1, h2, h3, h4, h5⟩ := hS
  refine q_ws_A hS0 (fun x hx => q_ev_ne (by omega)) ?_ ?_ ?_ ?_
  · rw [q_ev_ne (by omega), q_ev_ne (by omega)]; exact h1
  · rw [q_ev_ne (by omega), q_ev_ne (by omega)]; exact h2
  · rw [q_ev_ne (by omega)]; exact h3
  · rw [q_ev_5]
    refine ⟨by omega, fun i hi => ?_⟩
    rw [q_ev_6, q_ev_7, q_ev_8]
    by_cases e : i = S 5 0
    · rw [if_pos e, if_pos e, if_pos e]; exact ⟨hk, hy, hv⟩
    · rw [if_neg e, if_neg e, if_neg e]; exact h4.2 i (by omega)
theorem q_event_C {X : zX} {M : zM} {S : q_N} {it : Nat → Int32} {k y v : Nat} (hS : q_ws S) (hk : k < 3) (hy : y < 24) (hv : v < 8) (h : q_rC M S it) (hn : S 5 0 < 8) : ∃ M1, Call X 22 [.ref 0, .int (nI k), .int (nI y), .int (nI v)] M [.int (nI (S 5 0 + 1))] M1 ∧ q_hi M M1 ∧ q_rC M1 (q_ev S k y v) it := by
  obtain ⟨t1, t2, t3, t4⟩ := h.1
  have n1 : M 5 9 = nI (S 5 0) := t4.1
  have n2 : M 5 9 < 8 := by rw [n1]; exact (q_lt (b := 8) (by omega) (by omega)).mpr hn
  have cA := c_Ca_addEvent_t (X := X) (x1 := nI k) (x2 := nI y) (x3 := nI v) (M := M) ⟨fun _ => by rw [n1]; exact ⟨q_in hn (by omega), q_in hn (by omega), q_in hn (by omega)⟩, fun _ => trivial⟩
  unfold m_Ca_addEvent_t at cA
  rw [if_pos n2, n1, q_cl (by omega), show nI (S 5 0) + (1 : Int32) = nI (S 5 0 + 1) from nI_1 _] at cA
  obtain ⟨M1, hC, hh, hR⟩ := q_reA (X := X) (M0 := zu (zu (zu (zu M 13 (S 5 0) (nI k)) 14 (S 5 0) (nI y)) 15 (S 5 0) (nI v)) 5 9 (nI (S 5 0 + 1))) h (q_ev_ws hS hn hk hy hv) (fun x hx => q_ev_ne (by omega)) (q_fr_zu (q_fr_zu (q_fr_zu (q_fr_zu q_fr_rf (by unfold q_DC; omega)) (by unfold q_DC; omega)) (by unfold q_DC; omega)) (by unfold q_DC; omega)) (by
    unfold q_CT
    rw [q_ev_ne (x := 0) (by omega), q_ev_ne (x := 1) (by omega), q_ev_ne (x := 2) (by omega), q_ev_ne (x := 3) (by omega), q_ev_ne (x := 4) (by omega), q_ev_5]
    refine ⟨q_tx_fr t1 (by rw [zu_n (by omega), zu_n (by omega), zu_n (by omega), zu_n (by omega)]) (fun i hi => by rw [zu_n (by omega), zu_n (by omega), zu_n (by omega), zu_n (by omega)]), q_tx_fr t2 (by rw [zu_n (by omega), zu_n (by omega), zu_n (by omega), zu_n (by omega)]) (fun i hi => by rw [zu_n (by omega), zu_n (by omega), zu_n (by omega), zu_n (by omega)]), ⟨by rw [zu_n (by omega), zu_n (by omega), zu_n (by omega), zu_n (by omega)]; exact t3.1, by rw [zu_n (by omega), zu_n (by omega), zu_n (by omega), zu_n (by omega)]; exact t3.2⟩, zu_y, by omega, fun i hi => ?_⟩
    have e0 : q_K (q_ev S k y v) 0 i = if i = S 5 0 then k else S 6 i := q_ev_6
    have e1 : q_K (q_ev S k y v) 1 i = if i = S 5 0 then y else S 7 i := q_ev_7
    have e2 : q_K (q_ev S k y v) 2 i = if i = S 5 0 then v else S 8 i := q_ev_8
    rw [e0, e1, e2]
    by_cases e : i = S 5 0
    · rw [if_pos e, if_pos e, if_pos e, e]
      refine ⟨?_, hk, ?_, hy, ?_, hv⟩
      · rw [zu_n (by omega), zu_n (by omega), zu_n (by omega), zu_y]
      · rw [zu_n (by omega), zu_n (by omega), zu_y]
      · rw [zu_n (by omega), zu_y]
    · rw [if_neg e, if_neg e, if_neg e]
      simp only [zu_at]
      simp [e]
      exact t4.2.2 i (by omega))
  have e1 : f_Fv_below (nI k) 3 M = 1 := q_below_1 (n := 3) M (by omega) ⟨k, hk, rfl⟩
  have e2 : f_Fv_below (nI y) 24 M = 1 := q_below_1 (n := 24) M (by omega) ⟨y, hy, rfl⟩
  have e3 : f_Fv_below (nI v) 8 M = 1 := q_below_1 (n := 8) M (by omega) ⟨v, hv, rfl⟩
  refine ⟨M1, Call.of (Nat.le_of_ble_eq_true rfl) (sg_Fv_event_0 ⟨_, _, c_Fv_below, fun c => absurd (e1.symm.trans c) q_n10, fun _ => ⟨_, _, c_Fv_below, fun c => absurd (e2.symm.trans c) q_n10, fun _ => ⟨_, _, c_Fv_below, fun _ => ⟨fun _ => ⟨_, cA, M1, hC, ?_, rfl⟩, fun c => absurd n2 c⟩, fun c => absurd (e3.symm.trans c) q_n10⟩⟩⟩), hh, hR⟩
  rw [hR.1.2.2.2.1, q_ev_5]
theorem q_event_M {X : zX} {M : zM} {S : q_N} {it : Nat → Int32} {k y v : Nat} (hS : q_ws S) (hk : k < 3) (hy : y < 24) (hv : v < 8) (h : q_rM M S it) (hn : S 5 0 < 8) : ∃ M1, Call X 104 [.ref 53, .int (nI k), .int (nI y), .int (nI v)] M [.int (nI (S 5 0 + 1))] M1 ∧ q_lo M M1 ∧ q_rM M1 (q_ev S k y v) it := by
  obtain ⟨t1, t2, t3, t4⟩ := (q_rM_AB.mp h).1
  have n1 : M 53 12 = nI (S 5 0) := t4.1
  have n2 : ¬ M 53 12 = 8 := by rw [n1]; exact fun q => by have := (q_eq (b := 8) (by omega) (by omega)).mp q; omega
  have g1 : f_Mo_in (nI k).toInt64 0 2 M = 1 := q_in_1 (n := 3) M (by omega) (by decide) ⟨k, hk, rfl⟩
  have g2 : f_Mo_in (nI y).toInt64 0 23 M = 1 := q_in_1 (n := 24) M (by omega) (by decide) ⟨y, hy, rfl⟩
  have g3 : f_Mo_in (nI v).toInt64 0 7 M = 1 := q_in_1 (n := 8) M (by omega) (by decide) ⟨v, hv, rfl⟩
  have e1 : (3 : Int32) * nI (S 5 0) = nI (3 * S 5 0) := pk_mul 3 _
  have e2 : nI (3 * S 5 0) + (1 : Int32) = nI (3 * S 5 0 + 1) := nI_1 _
  have e3 : nI (3 * S 5 0) + (2 : Int32) = nI (3 * S 5 0 + 2) := nI_add _ 2
  have c := c_Mo_event (X := X) (x1 := nI k) (x2 := nI y) (x3 := nI v) (M := M) ⟨fun _ => trivial, fun _ => ⟨fun _ => trivial, fun _ => ⟨fun _ => ⟨fun _ => by rw [n1, e1, e2, e3]; exact ⟨q_in (by omega) (by omega), q_in (by omega) (by omega), q_in (by omega) (by omega)⟩, fun _ => trivial⟩, fun _ => trivial⟩⟩⟩
  unfold f_Mo_event m_Mo_event at c
  simp only [g1, g2, g3, n2, q_n10, if_false] at c
  rw [n1, e1, e2, e3, q_cl (by omega), q_cl (by omega), q_cl (by omega), show nI (S 5 0) + (1 : Int32) = nI (S 5 0 + 1) from nI_1 _] at c
  refine ⟨_, c, fun a b ha => by rw [zu_n (by omega), zu_n (by omega), zu_n (by omega), zu_n (by omega)], q_rM_A h (fun x hx => q_ev_ne (by omega)) (q_fr_zu (q_fr_zu (q_fr_zu (q_fr_zu q_fr_rf (by unfold q_DA; omega)) (by unfold q_DA; omega)) (by unfold q_DA; omega)) (by unfold q_DA; omega)) ?_⟩
  unfold q_MA
  rw [q_ev_ne (x := 0) (by omega), q_ev_ne (x := 1) (by omega), q_ev_ne (x := 2) (by omega), q_ev_ne (x := 3) (by omega), q_ev_ne (x := 4) (by omega), q_ev_5]
  obtain ⟨d1, d2, d3, d4, d5, d6⟩ := t4
  refine ⟨q_mt0_fr t1 (by rw [zu_n (by omega), zu_n (by omega), zu_n (by omega), zu_n (by omega)]) (fun i hi => by rw [zu_n (by omega), zu_n (by omega), zu_n (by omega), zu_n (by omega)]), q_mt1_fr t2 (by rw [zu_n (by omega), zu_n (by omega), zu_n (by omega), zu_n (by omega)]) (fun i hi => by rw [zu_n (by omega), zu_n (by omega), zu_n (by omega), zu_n (by omega)]), ⟨by rw [zu_n (by omega), zu_n (by omega), zu_n (by omega), zu_n (by omega)]; exact t3.1, by rw [zu_n (by omega), zu_n (by omega), zu_n (by omega), zu_n (by omega)]; exact t3.2⟩, zu_y, by omega, by rw [zu_n (by omega), zu_n (by omega), zu_n (by omega), zu_n (by omega)]; exact d3, d4, ?_, fun i hi => ?_⟩
  · have : ∀ i : Fin 8, (255 : Nat).testBit i.val = !(0 : Nat).testBit i.val := by decide
    exact fun i hi => this ⟨i, by omega⟩
  have e0 : q_K (q_ev S k y v) 0 i = if i = S 5 0 then k else S 6 i := q_ev_6
  have e1 : q_K (q_ev S k y v) 1 i = if i = S 5 0 then y else S 7 i := q_ev_7
  have e2 : q_K (q_ev S k y v) 2 i = if i = S 5 0 then v else S 8 i := q_ev_8
  rw [e0, e1, e2]
  by_cases e : i = S 5 0
  · rw [if_pos e, if_pos e, if_pos e, e]
    refine ⟨?_, hk, ?_, hy, ?_, hv⟩
    · rw [zu_n (by omega), zu_n (by omega), zu_n (by omega), zu_y]
    · rw [zu_n (by omega), zu_n (by omega), zu_y]
    · rw [zu_n (by omega), zu_y]
  · rw [if_neg e, if_neg e, if_neg e]
    rw [zu_n (b := 3 * i) (by omega), zu_n (b := 3 * i) (by omega), zu_n (b := 3 * i) (by omega), zu_n (b := 3 * i) (by omega), zu_n (b := 3 * i + 1) (by omega), zu_n (b := 3 * i + 1) (by omega), zu_n (b := 3 * i + 1) (by omega), zu_n (b := 3 * i + 1) (by omega), zu_n (b := 3 * i + 2) (by omega), zu_n (b := 3 * i + 2) (by omega), zu_n (b := 3 * i + 2) (by omega), zu_n (b := 3 * i + 2) (by omega)]
    exact d6 i (by omega)
theorem q_event_full {X : zX} {M : zM} {k y v : Nat} (hk : k < 3) (hy : y < 24) (hv : v < 8) : (M 5 9 = 8 → Call X 22 [.ref 0, .int (nI k), .int (nI y), .int (nI v)] M [.int (-4)] M) ∧ (M 53 12 = 8 → Call X 104 [.ref 53, .int (nI k), .int (nI y), .int (nI v)] M [.int (-4)] M) := by
  refine ⟨fun n => ?_, fun n1 => ?_⟩
  · have e1 : f_Fv_below (nI k) 3 M = 1 := q_below_1 (n := 3) M (by omega) ⟨k, hk, rfl⟩
    have e2 : f_Fv_below (nI y) 24 M = 1 := q_below_1 (n := 24) M (by omega) ⟨y, hy, rfl⟩
    have e3 : f_Fv_below (nI v) 8 M = 1 := q_below_1 (n := 8) M (by omega) ⟨v, hv, rfl⟩
    exact Call.of (Nat.le_of_ble_eq_true rfl) (sg_Fv_event_0 ⟨_, _, c_Fv_below, fun c => absurd (e1.symm.trans c) q_n10, fun _ => ⟨_, _, c_Fv_below, fun c => absurd (e2.symm.trans c) q_n10, fun _ => ⟨_, _, c_Fv_below, fun _ => ⟨fun c => absurd c (by rw [n]; decide), fun _ => ⟨rfl, rfl⟩⟩, fun c => absurd (e3.symm.trans c) q_n10⟩⟩⟩)
  · have g1 : f_Mo_in (nI k).toInt64 0 2 M = 1 := q_in_1 (n := 3) M (by omega) (by decide) ⟨k, hk, rfl⟩
    have g2 : f_Mo_in (nI y).toInt64 0 23 M = 1 := q_in_1 (n := 24) M (by omega) (by decide) ⟨y, hy, rfl⟩
    have g3 : f_Mo_in (nI v).toInt64 0 7 M = 1 := q_in_1 (n := 8) M (by omega) (by decide) ⟨v, hv, rfl⟩
    have c := c_Mo_event (X := X) (x1 := nI k) (x2 := nI y) (x3 := nI v) (M := M) ⟨fun _ => trivial, fun _ => ⟨fun _ => trivial, fun _ => ⟨fun _ => ⟨fun c => absurd n1 c, fun _ => trivial⟩, fun _ => trivial⟩⟩⟩
    unfold f_Mo_event m_Mo_event at c
    simp only [g1, g2, g3, n1, q_n10, if_false, if_true] at c
    exact c
/-- EVENT: taken: S behind it; else as it was -/
theorem q_event {X : zX} {S : q_N} {it : Nat → Int32} {x1 x2 x3 : Int32} (hS : q_ws S) : (∃ S', q_ws S' ∧ S' 13 = S 13 ∧ S' 14 = S 14 ∧ q_opC X 22 [.int x1, .int x2, .int x3] (.int (nI (S 5 0 + 1))) S it S' it ∧ q_opM X 104 [.int x1, .int x2, .int x3] (.int (nI (S 5 0 + 1))) S it S' it) ∨ ∃ r : Int32, ¬ 0 ≤ r ∧ q_opC X 22 [.int x1, .int x2, .int x3] (.int r) S it S it ∧ q_opM X 104 [.int x1, .int x2, .int x3] (.int r) S it S it := by
  by_cases hb : q_is x1 3 ∧ q_is x2 24 ∧ q_is x3 8
  case neg =>
    exact .inr ⟨-2, by decide, fun M h => ⟨M, (q_event_no hb).1, q_hi_rf, h⟩, fun M h => ⟨M, (q_event_no hb).2, q_lo_rf, h⟩⟩
  obtain ⟨⟨k, hk, rfl⟩, ⟨y, hy, rfl⟩, ⟨v, hv, rfl⟩⟩ := hb
  by_cases hn : S 5 0 < 8
  · exact .inl ⟨q_ev S k y v, q_ev_ws hS hn hk hy hv, q_ev_ne (by omega), q_ev_ne (by omega), fun M h => q_event_C hS hk hy hv h hn, fun M h => q_event_M hS hk hy hv h hn⟩
  · have h8 : S 5 0 = 8 := by have := hS.2.2.2.1.1; omega
    refine .inr ⟨-4, by decide, fun M h => ⟨M, (q_event_full hk hy hv).1 ?_, q_hi_rf, h⟩, fun M h => ⟨M, (q_event_full hk hy hv).2 ?_, q_lo_rf, h⟩⟩
    · exact h.1.2.2.2.1.trans (by rw [h8]; rfl)
    · exact (q_rM_AB.mp h).1.2.2.2.1.trans (by rw [h8]; rfl)
theorem o_event {X : zX} {S : q_N} {it : Nat → Int32} {x1 x2 x3 : Int32} (hS : q_ws S) : q_op X 22 104 [.int x1, .int x2, .int x3] S it := by
  rcases q_event (X := X) (it := it) (x1 := x1) (x2 := x2) (x3 := x3) hS with ⟨S', h1, -, -, h2, h3⟩ | ⟨r, -, h2, h3⟩
  · exact ⟨_, S', it, rfl, h1, h2, h3⟩
  · exact ⟨_, S, it, rfl, hS, h2, h3⟩
