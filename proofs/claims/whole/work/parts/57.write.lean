/-! WRITE -/
def q_wr (it : Nat → Int32) (b n : Nat) (g : Nat → Int32) : Nat → Int32 := fun k => if b ≤ k ∧ k < b + n then g (k - b) else it k
theorem q_wr_s {it g : Nat → Int32} {b n k : Nat} : q_wr it b (n + 1) g k = if k = b + n then g n else q_wr it b n g k := by
  unfold q_wr
  by_cases e : k = b + n
  · rw [if_pos e, if_pos (by omega), e, show b + n - b = n by omega]
  · rw [if_neg e]
    by_cases e2 : b ≤ k ∧ k < b + n
    · rw [if_pos e2, if_pos (by omega)]
    · rw [if_neg e2, if_neg (by omega)]
theorem q_wrC {X : zX} {M : zM} {s f n : Nat} {a b : Nat → Nat} (hs : s < 4) (hf : f < 3) (hn : n ≤ 12) (h50 : M 50 s = nI f) (hab : ∀ m, m < n → M 18 m = nI (a m) ∧ M 19 m = nI (b m)) : ∀ (d k : Nat) (M1 : zM), k + d = n → q_fr (fun a b => a = 52) M M1 → (∀ j, M1 52 j = q_wr (M 52) (60 * s) k (fun m => q_cut f (nI (a m) - nI (b m))) j) → ∃ M', At X 72 50 [some (.ref 0), some (.int (nI s)), some (.int (nI n)), some (.int (nI k))] [] M1 [.int (nI n)] M' ∧ q_fr (fun a b => a = 52) M M' ∧ ∀ j, M' 52 j = q_wr (M 52) (60 * s) n (fun m => q_cut f (nI (a m) - nI (b m))) j := by
  intro d
  induction d with
  | zero =>
    intro k M1 hk hf h
    have hk : k = n := by omega
    subst hk
    exact ⟨M1, sg_Fv_write_50 ⟨fun _ => ⟨rfl, rfl⟩, fun c => absurd (Int32.le_refl _) c⟩, hf, h⟩
  | succ d ih =>
    intro k M1 hk hfr h
    have fr : ∀ a b, ¬ (a = 52) → M1 a b = M a b := hfr
    obtain ⟨M', hA, hZ⟩ := ih (k + 1) (zu M1 52 (60 * s + k) (q_cut f (nI (a k) - nI (b k)))) (by omega) (q_fr_zu hfr rfl) (fun j => by
      rw [q_wr_s]
      by_cases e : j = 60 * s + k
      · rw [if_pos e, e, zu_y]
      · rw [if_neg e, zu_n (by omega)]; exact h j)
    refine ⟨M', sg_Fv_write_50 ⟨fun c => absurd c (q_nle rfl (by omega) (by omega)), fun _ => ⟨q_in (by omega) (by omega), q_in (by omega) (by omega), ?_⟩⟩, hZ⟩
    rw [q_cl (by omega), fr 18 _ (by omega), fr 19 _ (by omega), (hab k (by omega)).1, (hab k (by omega)).2, show nI k + (1 : Int32) = nI (k + 1) from nI_1 k]
    exact ⟨_, q_cutC hs hf (by omega) (by rw [fr _ _ (by omega)]; exact h50), hA⟩
theorem q_wrM {X : zX} {M : zM} {s f n : Nat} {a b : Nat → Nat} (hs : s < 4) (hf : f < 3) (hn : n ≤ 12) (h54 : M 54 s = nI f) (hab : ∀ m, m < n → M 70 m = nI (a m) ∧ M 71 m = nI (b m)) : ∀ (d k : Nat) (M1 : zM), k + d = n → q_fr (fun a b => a = 56) M M1 → (∀ j, M1 56 j = q_wr (M 56) (60 * s) k (fun m => q_cut f (nI (a m) - nI (b m))) j) → ∃ M', At X 159 45 [some (.ref 53), some (.int (nI s)), some (.int (nI n)), some (.int (nI k))] [] M1 [.int (nI n)] M' ∧ q_fr (fun a b => a = 56) M M' ∧ ∀ j, M' 56 j = q_wr (M 56) (60 * s) n (fun m => q_cut f (nI (a m) - nI (b m))) j := by
  intro d
  induction d with
  | zero =>
    intro k M1 hk hf h
    have hk : k = n := by omega
    subst hk
    exact ⟨M1, sg_Mo_write_45 ⟨fun _ => ⟨rfl, rfl⟩, fun c => absurd (Int32.le_refl _) c⟩, hf, h⟩
  | succ d ih =>
    intro k M1 hk hfr h
    have fr : ∀ a b, ¬ (a = 56) → M1 a b = M a b := hfr
    obtain ⟨M', hA, hZ⟩ := ih (k + 1) (zu M1 56 (60 * s + k) (q_cut f (nI (a k) - nI (b k)))) (by omega) (q_fr_zu hfr rfl) (fun j => by
      rw [q_wr_s]
      by_cases e : j = 60 * s + k
      · rw [if_pos e, e, zu_y]
      · rw [if_neg e, zu_n (by omega)]; exact h j)
    refine ⟨M', sg_Mo_write_45 ⟨fun c => absurd c (q_nle rfl (by omega) (by omega)), fun _ => ⟨q_in hs (by omega), q_in (by omega) (by omega), q_in (by omega) (by omega), ?_⟩⟩, hZ⟩
    rw [q_cl (a := k) (by omega), q_cl (a := s) (by omega), fr 70 _ (by omega), fr 71 _ (by omega), fr 54 _ (by omega), h54, (hab k (by omega)).1, (hab k (by omega)).2, show nI k + (1 : Int32) = nI (k + 1) from nI_1 k, q_60, q_cl (by omega)]
    exact ⟨_, _, q_cutM hf, q_in (by omega) (by omega), hA⟩
theorem o_write {X : zX} {S : q_N} {it : Nat → Int32} {x1 : Int32} (hS : q_ws S) : q_op X 72 159 [.int x1] S it := by
  have hwf := q_I_wf hS
  by_cases h1 : q_is x1 4
  case neg =>
    exact q_op_same (.int (-2)) hS (fun M h => Call.of (Nat.le_of_ble_eq_true rfl) (sg_Fv_write_0 ⟨_, _, q_bel_0 (n := 4) rfl (by omega) h1, fun c => absurd rfl c, fun _ => ⟨rfl, rfl⟩⟩)) (fun M h => Call.of (Nat.le_of_ble_eq_true rfl) (sg_Mo_write_0 ⟨_, _, q_she_0 h1, fun c => absurd rfl c, fun _ => ⟨rfl, rfl⟩⟩))
  obtain ⟨s, hs, rfl⟩ := h1
  have hws := hS.2.2.2.2.2.2 s hs
  by_cases h0 : S 13 s = 0
  · refine q_op_fd (k := 1) _ hS (by omega) (fun M h => Call.of (Nat.le_of_ble_eq_true rfl) (sg_Fv_write_0 ⟨_, _, q_bel_1 (n := 4) rfl (by omega) ⟨s, hs, rfl⟩, fun _ => ⟨_, _, q_lost_1 h hs h0, fun c => absurd c q_n10, fun _ => ⟨_, _, q_fd_C 1, rfl, rfl⟩⟩, fun c => absurd c q_n10⟩)) (fun M h => Call.of (Nat.le_of_ble_eq_true rfl) (sg_Mo_write_0 ⟨_, _, q_she_1 ⟨s, hs, rfl⟩, fun _ => ⟨q_in hs (by omega), ?_⟩, fun c => absurd c q_n10⟩))
    rw [q_cl (by omega)]
    exact ⟨fun c => absurd c (q_form_0 h hs h0), fun _ => ⟨_, _, q_fd_M 1, rfl, rfl⟩⟩
  have h12 := hwf.2.2.2.1
  let w := min (S 14 s) (q_I S 5 0)
  have hw : w ≤ 12 ∧ w ≤ S 14 s ∧ w ≤ q_I S 5 0 := ⟨by omega, by omega, by omega⟩
  let g : Nat → Int32 := fun m => q_cut (S 13 s - 1) (nI ((q_liv (q_I S) (q_EA S)).2 1 m) - nI ((q_liv (q_I S) (q_EA S)).2 2 m))
  refine ⟨.int (nI w), S, q_wr it (60 * s) w g, rfl, hS, fun M h => ?_, fun M h => ?_⟩
  · have e50 : M 50 s = nI (S 13 s - 1) := (h.2.2.1.2.2.1 s hs).2 h0
    have e51 : M 51 s = nI (S 14 s) := by rw [(h.2.2.1.2.2.1 s hs).1, if_neg h0]
    obtain ⟨M', hA, hZ1, hZ2⟩ := q_wrC (X := X) (M := M) (s := s) (f := S 13 s - 1) (n := w) (a := (q_liv (q_I S) (q_EA S)).2 1) (b := (q_liv (q_I S) (q_EA S)).2 2) hs (by omega) (by omega) e50 (fun m hm => by
      obtain ⟨o1, o2, -⟩ := h.2.1.2.2.2.1 m ((q_in_ord hwf).mpr (by omega))
      exact ⟨o1, o2⟩) w 0 M (by omega) q_fr_rf (fun j => by unfold q_wr; rw [if_neg (by omega)])
    have fr : ∀ a b, ¬ (a = 52) → M' a b = M a b := hZ1
    refine ⟨M', Call.of (Nat.le_of_ble_eq_true rfl) (sg_Fv_write_0 ⟨_, _, q_bel_1 (n := 4) rfl (by omega) ⟨s, hs, rfl⟩, fun _ => ⟨_, _, q_lost_0 hS h hs h0, fun _ => ⟨q_in hs (by omega), ?_⟩, fun c => absurd rfl c⟩, fun c => absurd c q_n10⟩), fun a b ha => fr a b (by omega), q_shC h (fun x _ _ => rfl) (q_fr_mono hZ1 (fun a b q => by omega)) (fun j hj => ?_) (fun k hk => ?_)⟩
    · rw [q_cl (by omega), e51, h.2.1.2.1.1]
      have e : (if nI (q_I S 5 0) < nI (S 14 s) then nI (q_I S 5 0) else nI (S 14 s)) = nI w := by
        by_cases c : q_I S 5 0 < S 14 s
        · rw [if_pos ((q_lt (by omega) (by omega)).mpr c)]
          show nI (q_I S 5 0) = nI (min (S 14 s) (q_I S 5 0))
          congr 1; omega
        · rw [if_neg (fun q => c ((q_lt (by omega) (by omega)).mp q))]
          show nI (S 14 s) = nI (min (S 14 s) (q_I S 5 0))
          congr 1; omega
      rw [e]
      exact hA
    · rw [fr 51 _ (by omega), fr 50 _ (by omega)]; exact h.2.2.1.2.2.1 j hj
    · rw [hZ2 k]
      unfold q_wr
      split
      · rfl
      · exact h.2.2.1.2.2.2 k hk
  · obtain ⟨M1, hC, hf, hmv, hmm, hL⟩ := c_Mo_find (X := X) hS h
    have h1 := q_rM_fr h hf
    obtain ⟨e54, p54⟩ := q_form_1 hS h hs h0
    have e54' := q_form_1 hS h1 hs h0
    have e55 : M1 55 s = nI (S 14 s) := ((q_rM_AB.mp h1).2.2.2.1 s hs).2
    obtain ⟨M', hA, hZ1, hZ2⟩ := q_wrM (X := X) (M := M1) (s := s) (f := S 13 s - 1) (n := w) (a := (q_liv (q_I S) (q_EA S)).2 1) (b := (q_liv (q_I S) (q_EA S)).2 2) hs (by omega) (by omega) e54'.1 (fun m hm => by
      obtain ⟨o1, o2, -⟩ := q_mord hwf hL (m := m) (by omega)
      exact ⟨o1, o2⟩) w 0 M1 (by omega) q_fr_rf (fun j => by unfold q_wr; rw [if_neg (by omega)])
    have fr : ∀ a b, ¬ (a = 56) → M' a b = M1 a b := hZ1
    refine ⟨M', Call.of (Nat.le_of_ble_eq_true rfl) (sg_Mo_write_0 ⟨_, _, q_she_1 ⟨s, hs, rfl⟩, fun _ => ⟨q_in hs (by omega), ?_⟩, fun c => absurd c q_n10⟩), fun a b ha => by rw [fr a b (by omega)]; exact hf a b (by unfold q_DX; omega), q_shM h1 (fun x _ _ => rfl) (q_fr_mono hZ1 (fun a b q => by omega)) (fun j hj => ?_) (fun k hk => ?_)⟩
    · rw [q_cl (by omega)]
      refine ⟨fun _ => ⟨M1, hC, q_in hs (by omega), _, _, c_Mo_lesser, ?_⟩, fun c => absurd p54 c⟩
      unfold f_Mo_lesser
      rw [e55, hmm.1]
      have e : (if nI (q_I S 5 0) ≤ nI (S 14 s) then nI (q_I S 5 0) else nI (S 14 s)) = nI w := by
        by_cases c : q_I S 5 0 ≤ S 14 s
        · rw [if_pos ((q_le (by omega) (by omega)).mpr c)]
          show nI (q_I S 5 0) = nI (min (S 14 s) (q_I S 5 0))
          congr 1; omega
        · rw [if_neg (fun q => c ((q_le (by omega) (by omega)).mp q))]
          show nI (S 14 s) = nI (min (S 14 s) (q_I S 5 0))
          congr 1; omega
      rw [e]
      exact hA
    · rw [fr 54 _ (by omega), fr 55 _ (by omega)]; exact (q_rM_AB.mp h1).2.2.2.1 j hj
    · rw [hZ2 k]
      unfold q_wr
      split
      · rfl
      · exact (q_rM_AB.mp h1).2.2.2.2 k hk
/-! READ -/
theorem q_3n (n : Nat) : (3 : Int32) * nI n = nI (3 * n) := pk_mul 3 n
theorem q_readL {X : zX} {it : Nat → Int32} {s z : Nat} (hs : s < 4) (hz : z ≤ 60) : ∀ (d t : Nat) (S : q_N), t + d = z / 3 → q_ws S → S 14 s = z → S 13 s ≠ 0 → ∃ r S', q_kd 27 r = true ∧ q_ws S' ∧ (∀ M (l4 : Option Value), q_rC M S it → ∃ M1, At X 27 42 [some (.ref 0), some (.int (nI s)), some (.int (nI (z / 3))), some (.int (nI t)), l4] [] M [r] M1 ∧ q_hi M M1 ∧ q_rC M1 S' it) ∧ (∀ M (l4 : Option Value), q_rM M S it → ∃ M1, At X 106 29 [some (.ref 53), some (.int (nI s)), some (.int (nI t)), some (.int 1), l4] [] M [r] M1 ∧ q_lo M M1 ∧ q_rM M1 S' it) := by
  intro d
  induction d with
  | zero =>
    intro t S ht hS hz' h13
    have ht : t = z / 3 := by omega
    subst ht
    refine ⟨.int (nI (z / 3)), S, rfl, hS, fun M l4 h => ⟨M, sg_Fv_read_42 ⟨fun _ => ⟨rfl, rfl⟩, fun c => absurd (Int32.le_refl _) c⟩, q_hi_rf, h⟩, fun M l4 h => ⟨M, sg_Mo_read_29 ⟨fun c => absurd c q_n10, fun _ => ⟨q_in hs (by omega), ?_⟩⟩, q_lo_rf, h⟩⟩
    rw [q_cl (a := s) (by omega), ((q_rM_AB.mp h).2.2.2.1 s hs).2, q_3n, show nI (3 * (z / 3)) + (3 : Int32) = nI (3 * (z / 3) + 3) from nI_add _ 3, hz']
    exact ⟨fun _ => ⟨rfl, rfl⟩, fun c => absurd ((q_lt (by omega) (by omega)).mpr (by omega)) c⟩
  | succ d ih =>
    intro t S ht hS hz' h13
    have gc : ∀ M i, q_rC M S it → i < 60 → Call X 26 [.ref 49, .int (nI s), .int (nI i)] M [.int (it (60 * s + i))] M := fun M i h hi => by
      have c := c_Sh_item_s (X := X) (x1 := nI s) (x2 := nI i) (M := M) (by unfold s_Sh_item_s; rw [q_06]; exact q_in (by omega) (by omega))
      unfold f_Sh_item_s at c
      rw [q_06, q_cl (by omega), h.2.2.1.2.2.2 _ (by omega)] at c
      exact c
    have e1 : nI (3 * t) + (1 : Int32) = nI (3 * t + 1) := nI_1 _
    have e2 : nI (3 * t) + (2 : Int32) = nI (3 * t + 2) := nI_add _ 2
    have e3 : nI (3 * t) + (3 : Int32) = nI (3 * t + 3) := nI_add _ 3
    have f1 : nI (60 * s + 3 * t) + (1 : Int32) = nI (60 * s + (3 * t + 1)) := nI_1 _
    have f2 : nI (60 * s + 3 * t) + (2 : Int32) = nI (60 * s + (3 * t + 2)) := nI_add _ 2
    rcases q_event (X := X) (it := it) (x1 := it (60 * s + 3 * t)) (x2 := it (60 * s + (3 * t + 1))) (x3 := it (60 * s + (3 * t + 2))) hS with ⟨S1, w1, k13, k14, hC, hM⟩ | ⟨q, hq, hC, hM⟩
    · have h8 := hS.2.2.2.1.1
      obtain ⟨r, S', hkd, hS', iC, iM⟩ := ih (t + 1) S1 (by omega) w1 (by rw [k14]; exact hz') (by rw [k13]; exact h13)
      refine ⟨r, S', hkd, hS', fun M l4 h => ?_, fun M l4 h => ?_⟩
      · obtain ⟨M1, c1, c2, c3⟩ := hC M h
        obtain ⟨M2, d1, d2, d3⟩ := iC M1 (some (.int (nI (3 * t)))) c3
        refine ⟨M2, sg_Fv_read_42 ⟨fun c => absurd c (q_nle rfl (by omega) (by omega)), fun _ => ?_⟩, fun a b ha => by rw [d2 a b ha, c2 a b ha], d3⟩
        rw [q_3n, e1, e2]
        refine ⟨_, _, gc M _ h (by omega), _, _, gc M _ h (by omega), _, _, gc M _ h (by omega), _, _, c1, fun _ => ?_, fun c => absurd ((q_le (a := 0) (by omega) (by omega)).mpr (by omega)) c⟩
        rw [show nI t + (1 : Int32) = nI (t + 1) from nI_1 t]
        exact d1
      · obtain ⟨M1, c1, c2, c3⟩ := hM M h
        obtain ⟨M2, d1, d2, d3⟩ := iM M1 (some (.int (nI (60 * s + 3 * t)))) c3
        refine ⟨M2, sg_Mo_read_29 ⟨fun c => absurd c q_n10, fun _ => ⟨q_in hs (by omega), ?_⟩⟩, fun a b ha => by rw [d2 a b ha, c2 a b ha], d3⟩
        rw [q_cl (a := s) (by omega), ((q_rM_AB.mp h).2.2.2.1 s hs).2, q_3n, e3, q_60, f1, f2, q_cl (by omega), q_cl (by omega), q_cl (by omega), (q_rM_AB.mp h).2.2.2.2 _ (by omega), (q_rM_AB.mp h).2.2.2.2 _ (by omega), (q_rM_AB.mp h).2.2.2.2 _ (by omega)]
        refine ⟨fun c => absurd ((q_lt (by omega) (by omega)).mp c) (by omega), fun _ => ⟨q_in (by omega) (by omega), q_in (by omega) (by omega), q_in (by omega) (by omega), _, _, c1, ?_⟩⟩
        have hnn : ¬ nI (S 5 0 + 1) < 0 := fun q => by have := (q_lt (b := 0) (by omega) (by omega)).mp q; omega
        rw [if_neg hnn, if_neg q_n10, show nI t + (1 : Int32) = nI (t + 1) from nI_1 t]
        exact d1
    · refine ⟨.int (nI t), S, rfl, hS, fun M l4 h => ?_, fun M l4 h => ?_⟩
      · obtain ⟨M1, c1, c2, c3⟩ := hC M h
        refine ⟨M1, sg_Fv_read_42 ⟨fun c => absurd c (q_nle rfl (by omega) (by omega)), fun _ => ?_⟩, c2, c3⟩
        rw [q_3n, e1, e2]
        exact ⟨_, _, gc M _ h (by omega), _, _, gc M _ h (by omega), _, _, gc M _ h (by omega), _, _, c1, fun c => absurd c hq, fun _ => ⟨rfl, rfl⟩⟩
      · obtain ⟨M1, c1, c2, c3⟩ := hM M h
        refine ⟨M1, sg_Mo_read_29 ⟨fun c => absurd c q_n10, fun _ => ⟨q_in hs (by omega), ?_⟩⟩, c2, c3⟩
        rw [q_cl (a := s) (by omega), ((q_rM_AB.mp h).2.2.2.1 s hs).2, q_3n, e3, q_60, f1, f2, q_cl (by omega), q_cl (by omega), q_cl (by omega), (q_rM_AB.mp h).2.2.2.2 _ (by omega), (q_rM_AB.mp h).2.2.2.2 _ (by omega), (q_rM_AB.mp h).2.2.2.2 _ (by omega)]
        refine ⟨fun c => absurd ((q_lt (by omega) (by omega)).mp c) (by omega), fun _ => ⟨q_in (by omega) (by omega), q_in (by omega) (by omega), q_in (by omega) (by omega), _, _, c1, ?_⟩⟩
        have hnn : q < 0 := by
          rw [q_neg_iff]
          rw [Int32.le_iff_toInt_le] at hq
          have hq' : ¬ 0 ≤ q.toInt := hq
          omega
        rw [if_pos hnn, if_pos rfl, show nI t + (0 : Int32) = nI t from nI_add t 0]
        exact sg_Mo_read_29 ⟨fun _ => ⟨rfl, rfl⟩, fun c => absurd rfl c⟩
theorem o_read {X : zX} {S : q_N} {it : Nat → Int32} {x1 : Int32} (hS : q_ws S) : q_op X 27 106 [.int x1] S it := by
  by_cases h1 : q_is x1 4
  case neg =>
    exact q_op_same (.int (-2)) hS (fun M h => Call.of (Nat.le_of_ble_eq_true rfl) (sg_Fv_read_0 ⟨_, _, q_bel_0 (n := 4) rfl (by omega) h1, fun c => absurd rfl c, fun _ => ⟨rfl, rfl⟩⟩)) (fun M h => Call.of (Nat.le_of_ble_eq_true rfl) (sg_Mo_read_0 ⟨_, _, q_she_0 h1, fun c => absurd rfl c, fun _ => ⟨rfl, rfl⟩⟩))
  obtain ⟨s, hs, rfl⟩ := h1
  have hws := hS.2.2.2.2.2.2 s hs
  by_cases h0 : S 13 s = 0
  · refine q_op_fd (k := 1) _ hS (by omega) (fun M h => Call.of (Nat.le_of_ble_eq_true rfl) (sg_Fv_read_0 ⟨_, _, q_bel_1 (n := 4) rfl (by omega) ⟨s, hs, rfl⟩, fun _ => ⟨_, _, q_lost_1 h hs h0, fun c => absurd c q_n10, fun _ => ⟨_, _, q_fd_C 1, rfl, rfl⟩⟩, fun c => absurd c q_n10⟩)) (fun M h => Call.of (Nat.le_of_ble_eq_true rfl) (sg_Mo_read_0 ⟨_, _, q_she_1 ⟨s, hs, rfl⟩, fun _ => ⟨q_in hs (by omega), ?_⟩, fun c => absurd c q_n10⟩))
    rw [q_cl (by omega)]
    exact ⟨fun c => absurd c (q_form_0 h hs h0), fun _ => ⟨_, _, q_fd_M 1, rfl, rfl⟩⟩
  obtain ⟨r, S', hkd, hS', iC, iM⟩ := q_readL (X := X) (it := it) (z := S 14 s) hs hws.2 (S 14 s / 3) 0 S (by omega) hS rfl h0
  refine ⟨r, S', it, hkd, hS', fun M h => ?_, fun M h => ?_⟩
  · obtain ⟨M1, d1, d2, d3⟩ := iC M none h
    have e51 : M 51 s = nI (S 14 s) := by rw [(h.2.2.1.2.2.1 s hs).1, if_neg h0]
    refine ⟨M1, Call.of (Nat.le_of_ble_eq_true rfl) (sg_Fv_read_0 ⟨_, _, q_bel_1 (n := 4) rfl (by omega) ⟨s, hs, rfl⟩, fun _ => ⟨_, _, q_lost_0 hS h hs h0, fun _ => ⟨q_in hs (by omega), ?_⟩, fun c => absurd rfl c⟩, fun c => absurd c q_n10⟩), d2, d3⟩
    rw [q_cl (by omega), e51, show nI (S 14 s) / (3 : Int32) = nI (S 14 s / 3) from q_div (d := 3) (by omega) (by omega) (by omega)]
    exact d1
  · obtain ⟨M1, d1, d2, d3⟩ := iM M none h
    refine ⟨M1, Call.of (Nat.le_of_ble_eq_true rfl) (sg_Mo_read_0 ⟨_, _, q_she_1 ⟨s, hs, rfl⟩, fun _ => ⟨q_in hs (by omega), ?_⟩, fun c => absurd c q_n10⟩), d2, d3⟩
    rw [q_cl (by omega)]
    exact ⟨fun _ => d1, fun c => absurd (q_form_1 hS h hs h0).2 c⟩
