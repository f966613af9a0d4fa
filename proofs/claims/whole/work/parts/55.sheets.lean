/-! SHEETS -/
theorem q_op_fd {X : zX} {kc km k : Nat} {args : List Value} {S : q_N} {it : Nat → Int32} (r : Value) (hS : q_ws S) (hk : k ≤ 5) (hc : ∀ M, q_rC M S it → Call X kc (.ref 0 :: args) M [r] (zu M 0 12 (nI k))) (hm : ∀ M, q_rM M S it → Call X km (.ref 53 :: args) M [r] (zu M 53 4 (nI k))) (hkd : q_kd kc r = true := by rfl) : q_op X kc km args S it := by
  obtain ⟨h1, h2, h3⟩ := q_op_found (it := it) hk hS
  exact ⟨r, q_up S 12 0 k, it, hkd, h1, fun M h => ⟨_, hc M h, (h2 M h).1, (h2 M h).2⟩, fun M h => ⟨_, hm M h, (h3 M h).1, (h3 M h).2⟩⟩
theorem q_fd_C {X : zX} {M : zM} (k : Nat) : Call X 25 [.ref 0, .int (nI k)] M [.int ((-10 : Int32) - nI k)] (zu M 0 12 (nI k)) := c_Fv_found
theorem q_fd_M {X : zX} {M : zM} (k : Nat) : Call X 80 [.ref 53, .int (nI k)] M [.int ((-10 : Int32) - nI k)] (zu M 53 4 (nI k)) := c_Mo_finds
theorem q_she_1 {X : zX} {M : zM} {x : Int32} (h : q_is x 4) : Call X 79 [.int x] M [.int 1] M := by
  have c := c_Mo_isSheet (X := X) (x0 := x) (M := M) (q_in_01 _ _ _ _)
  unfold f_Mo_isSheet at c
  rw [q_in_1 (n := 4) M (by omega) (by decide) h] at c
  exact c
theorem q_she_0 {X : zX} {M : zM} {x : Int32} (h : ¬ q_is x 4) : Call X 79 [.int x] M [.int 0] M := by
  have c := c_Mo_isSheet (X := X) (x0 := x) (M := M) (q_in_01 _ _ _ _)
  unfold f_Mo_isSheet at c
  rw [q_in_0 (n := 4) M (by omega) (by decide) h] at c
  exact c
theorem q_lost_1 {X : zX} {M : zM} {S : q_N} {it : Nat → Int32} {s : Nat} (h : q_rC M S it) (hs : s < 4) (h0 : S 13 s = 0) : Call X 24 [.ref 49, .int (nI s)] M [.int 1] M := by
  have c := c_Sh_isLost_s (X := X) (x1 := nI s) (M := M) (q_in hs (by omega))
  unfold f_Sh_isLost_s at c
  rw [q_cl (by omega), (h.2.2.1.2.2.1 s hs).1, if_pos h0, if_pos rfl] at c
  exact c
theorem q_lost_0 {X : zX} {M : zM} {S : q_N} {it : Nat → Int32} {s : Nat} (hS : q_ws S) (h : q_rC M S it) (hs : s < 4) (h0 : ¬ S 13 s = 0) : Call X 24 [.ref 49, .int (nI s)] M [.int 0] M := by
  have c := c_Sh_isLost_s (X := X) (x1 := nI s) (M := M) (q_in hs (by omega))
  have hb := (hS.2.2.2.2.2.2 s hs).2
  unfold f_Sh_isLost_s at c
  rw [q_cl (by omega), (h.2.2.1.2.2.1 s hs).1, if_neg h0, if_neg (q_nneg1 (by omega))] at c
  exact c
theorem q_form_1 {M : zM} {S : q_N} {it : Nat → Int32} {s : Nat} (hS : q_ws S) (h : q_rM M S it) (hs : s < 4) (h0 : ¬ S 13 s = 0) : M 54 s = nI (S 13 s - 1) ∧ 0 ≤ M 54 s := by
  have e : M 54 s = nI (S 13 s - 1) := by rw [((q_rM_AB.mp h).2.2.2.1 s hs).1, if_neg h0]
  have hb := (hS.2.2.2.2.2.2 s hs).1
  exact ⟨e, by rw [e]; exact (q_le (a := 0) (by omega) (by omega)).mpr (by omega)⟩
theorem q_form_0 {M : zM} {S : q_N} {it : Nat → Int32} {s : Nat} (h : q_rM M S it) (hs : s < 4) (h0 : S 13 s = 0) : ¬ 0 ≤ M 54 s := by
  rw [((q_rM_AB.mp h).2.2.2.1 s hs).1, if_pos h0]
  decide
/-- only sheets are new -/
theorem q_shC {M M1 : zM} {S S' : q_N} {it it' : Nat → Int32} (h : q_rC M S it) (hr : ∀ x, x ≠ 13 → x ≠ 14 → S' x = S x) (hf : q_fr (fun a b => 50 ≤ a ∧ a ≤ 52) M M1) (h1 : ∀ s, s < 4 → M1 51 s = (if S' 13 s = 0 then -1 else nI (S' 14 s)) ∧ (S' 13 s ≠ 0 → M1 50 s = nI (S' 13 s - 1))) (h2 : ∀ k, k < 240 → M1 52 k = it' k) : q_rC M1 S' it' := by
  refine q_rC_B h (fun x hx => hr x (by omega) (by omega)) (q_fr_mono hf (fun a b q => by omega)) ?_
  have fr : ∀ a b, ¬ (50 ≤ a ∧ a ≤ 52) → M1 a b = M a b := hf
  obtain ⟨⟨a1, a2⟩, b1, -, -⟩ := h.2.2.1
  unfold q_CS
  rw [hr 9 (by omega) (by omega), hr 10 (by omega) (by omega), hr 11 (by omega) (by omega), hr 12 (by omega) (by omega)]
  refine ⟨⟨by rw [fr _ _ (by omega)]; exact a1, fun i hi => ?_⟩, by rw [fr _ _ (by omega)]; exact b1, h1, h2⟩
  rw [fr 45 _ (by omega), fr 46 _ (by omega)]; exact a2 i hi
theorem q_shM {M M1 : zM} {S S' : q_N} {it it' : Nat → Int32} (h : q_rM M S it) (hr : ∀ x, x ≠ 13 → x ≠ 14 → S' x = S x) (hf : q_fr (fun a b => 54 ≤ a ∧ a ≤ 57) M M1) (h1 : ∀ s, s < 4 → M1 54 s = (if S' 13 s = 0 then -1 else nI (S' 13 s - 1)) ∧ M1 55 s = nI (S' 14 s)) (h2 : ∀ k, k < 240 → M1 56 k = it' k) : q_rM M1 S' it' := by
  refine q_rM_B h (fun x hx => hr x (by omega) (by omega)) (q_fr_mono hf (fun a b q => by unfold q_DB; omega)) ?_
  have fr : ∀ a b, ¬ (54 ≤ a ∧ a ≤ 57) → M1 a b = M a b := hf
  obtain ⟨⟨a1, a2⟩, b1, -, -⟩ := (q_rM_AB.mp h).2
  unfold q_MB
  rw [hr 9 (by omega) (by omega), hr 10 (by omega) (by omega), hr 11 (by omega) (by omega), hr 12 (by omega) (by omega)]
  refine ⟨⟨by rw [fr _ _ (by omega)]; exact a1, fun i hi => ?_⟩, by rw [fr _ _ (by omega)]; exact b1, h1, h2⟩
  rw [fr 75 _ (by omega), fr 75 _ (by omega)]; exact a2 i hi
theorem q_sh_ws {S S' : q_N} (hS : q_ws S) (hr : ∀ x, x ≠ 13 → x ≠ 14 → S' x = S x) (h1 : ∀ s, s < 4 → S' 13 s ≤ 3 ∧ S' 14 s ≤ 60) : q_ws S' := by
  have hS0 := hS
  obtain ⟨-, -, -, -, h5, h6, -⟩ := hS
  refine q_ws_B hS0 (fun x hx => hr x (by omega) (by omega)) ?_ ?_ h1
  · rw [hr 9 (by omega) (by omega), hr 10 (by omega) (by omega), hr 11 (by omega) (by omega)]; exact h5
  · rw [hr 12 (by omega) (by omega)]; exact h6
/-- LOSE -/
theorem o_lose {X : zX} {S : q_N} {it : Nat → Int32} {x1 : Int32} (hS : q_ws S) : q_op X 65 82 [.int x1] S it := by
  by_cases h1 : q_is x1 4
  case neg =>
    exact q_op_same (.int (-2)) hS (fun M h => Call.of (Nat.le_of_ble_eq_true rfl) (sg_Fv_lose_0 ⟨_, _, q_bel_0 (n := 4) rfl (by omega) h1, fun c => absurd rfl c, fun _ => ⟨rfl, rfl⟩⟩)) (fun M h => Call.of (Nat.le_of_ble_eq_true rfl) (sg_Mo_lose_0 ⟨_, _, q_she_0 h1, fun c => absurd rfl c, fun _ => ⟨rfl, rfl⟩⟩))
  obtain ⟨s, hs, rfl⟩ := h1
  by_cases h0 : S 13 s = 0
  · refine q_op_fd (k := 1) _ hS (by omega) (fun M h => Call.of (Nat.le_of_ble_eq_true rfl) (sg_Fv_lose_0 ⟨_, _, q_bel_1 (n := 4) rfl (by omega) ⟨s, hs, rfl⟩, fun _ => ⟨_, _, q_lost_1 h hs h0, fun c => absurd c q_n10, fun _ => ⟨_, _, q_fd_C 1, rfl, rfl⟩⟩, fun c => absurd c q_n10⟩)) (fun M h => Call.of (Nat.le_of_ble_eq_true rfl) (sg_Mo_lose_0 ⟨_, _, q_she_1 ⟨s, hs, rfl⟩, fun _ => ⟨q_in hs (by omega), ?_⟩, fun c => absurd c q_n10⟩))
    rw [q_cl (by omega)]
    exact ⟨fun c => absurd c (q_form_0 h hs h0), fun _ => ⟨_, _, q_fd_M 1, rfl, rfl⟩⟩
  · have hr : ∀ x, x ≠ 13 → x ≠ 14 → q_up S 13 s 0 x = S x := fun x h1 h2 => q_up_ne h1
    have hw := hS.2.2.2.2.2.2
    refine ⟨.int (nI (S 14 s)), q_up S 13 s 0, it, rfl, q_sh_ws hS hr (fun j hj => ?_), fun M h => ⟨zu M 51 s (-1), ?_, fun a b ha => zu_n (by omega), q_shC h hr (q_fr_zu q_fr_rf (by omega)) (fun j hj => ?_) (fun k hk => by rw [zu_n (by omega)]; exact h.2.2.1.2.2.2 k hk)⟩, fun M h => ⟨zu M 54 s (-1), ?_, fun a b ha => zu_n (by omega), q_shM h hr (q_fr_zu q_fr_rf (by omega)) (fun j hj => ?_) (fun k hk => by rw [zu_n (by omega)]; exact (q_rM_AB.mp h).2.2.2.2 k hk)⟩⟩
    · rw [q_up_ne (x := 14) (by omega)]
      by_cases e : j = s
      · rw [e, q_up_eq]; exact ⟨by omega, (hw s hs).2⟩
      · rw [q_up_n2 e]; exact hw j hj
    · refine Call.of (Nat.le_of_ble_eq_true rfl) (sg_Fv_lose_0 ⟨_, _, q_bel_1 (n := 4) rfl (by omega) ⟨s, hs, rfl⟩, fun _ => ⟨_, _, q_lost_0 hS h hs h0, fun _ => ⟨q_in hs (by omega), q_in hs (by omega), ?_⟩, fun c => absurd rfl c⟩, fun c => absurd c q_n10⟩)
      rw [q_cl (by omega), (h.2.2.1.2.2.1 s hs).1, if_neg h0]
      exact ⟨rfl, rfl⟩
    · rw [q_up_ne (x := 14) (by omega)]
      by_cases e : j = s
      · rw [e, q_up_eq, zu_y]; exact ⟨rfl, fun c => absurd rfl c⟩
      · rw [q_up_n2 e, zu_n (by omega), zu_n (by omega)]; exact h.2.2.1.2.2.1 j hj
    · have e := q_form_1 hS h hs h0
      refine Call.of (Nat.le_of_ble_eq_true rfl) (sg_Mo_lose_0 ⟨_, _, q_she_1 ⟨s, hs, rfl⟩, fun _ => ⟨q_in hs (by omega), ?_⟩, fun c => absurd c q_n10⟩)
      rw [q_cl (by omega), ((q_rM_AB.mp h).2.2.2.1 s hs).2]
      exact ⟨fun _ => ⟨q_in hs (by omega), q_in hs (by omega), rfl, rfl⟩, fun c => absurd e.2 c⟩
    · rw [q_up_ne (x := 14) (by omega)]
      by_cases e : j = s
      · rw [e, q_up_eq, zu_y, zu_n (by omega)]; exact ⟨rfl, ((q_rM_AB.mp h).2.2.2.1 s hs).2⟩
      · rw [q_up_n2 e, zu_n (by omega), zu_n (by omega)]; exact (q_rM_AB.mp h).2.2.2.1 j hj
/-- SHEET -/
def q_z (it : Nat → Int32) (b n : Nat) : Nat → Int32 := fun k => if b ≤ k ∧ k < b + n then 0 else it k
theorem q_z_s {it : Nat → Int32} {b n k : Nat} : q_z it b (n + 1) k = if k = b + n then 0 else q_z it b n k := by
  unfold q_z
  by_cases e : k = b + n
  · rw [if_pos e, if_pos (by omega)]
  · rw [if_neg e]
    by_cases e2 : b ≤ k ∧ k < b + n
    · rw [if_pos e2, if_pos (by omega)]
    · rw [if_neg e2, if_neg (by omega)]
theorem q_60 (s k : Nat) : (60 : Int32) * nI s + nI k = nI (60 * s + k) := by rw [show (60 : Int32) * nI s = nI (60 * s) from pk_mul 60 s, nI_add]
theorem q_06 (s k : Nat) : nI s * (60 : Int32) + nI k = nI (60 * s + k) := by rw [show nI s * (60 : Int32) = nI (s * 60) from pk_mul s 60, nI_add, Nat.mul_comm]
theorem q_renL {X : zX} {M : zM} {s n : Nat} {y : Int32} (hs : s < 4) (hn : n ≤ 60) : ∀ (d k : Nat) (M1 : zM), k + d = n → q_fr (fun a b => a = 52) M M1 → (∀ j, M1 52 j = q_z (M 52) (60 * s) k j) → ∃ M', At X 63 17 [some (.ref 49), some (.int (nI s)), some (.int y), some (.int (nI n)), some (.int (nI k))] [] M1 [] M' ∧ q_fr (fun a b => a = 52) M M' ∧ ∀ j, M' 52 j = q_z (M 52) (60 * s) n j := by
  intro d
  induction d with
  | zero =>
    intro k M1 hk hf h
    have hk : k = n := by omega
    subst hk
    exact ⟨M1, sg_Sh_renew_s_17 ⟨fun _ => ⟨rfl, rfl⟩, fun c => absurd (Int32.le_refl _) c⟩, hf, h⟩
  | succ d ih =>
    intro k M1 hk hf h
    obtain ⟨M', hA, hZ⟩ := ih (k + 1) (zu M1 52 (60 * s + k) 0) (by omega) (q_fr_zu hf rfl) (fun j => by
      rw [q_z_s, zu_at]
      by_cases e : j = 60 * s + k
      · rw [if_pos ⟨rfl, e⟩, if_pos e]
      · rw [if_neg (by omega), if_neg e]; exact h j)
    refine ⟨M', sg_Sh_renew_s_17 ⟨fun c => absurd c (q_nle rfl (by omega) (by omega)), fun _ => ?_⟩, hZ⟩
    rw [q_06, q_cl (by omega), show nI k + (1 : Int32) = nI (k + 1) from nI_1 k]
    exact ⟨q_in (by omega) (by omega), hA⟩
theorem q_sheL {X : zX} {M : zM} {s n : Nat} {y : Int32} (hs : s < 4) (hn : n ≤ 60) : ∀ (d k : Nat) (M1 : zM), k + d = n → q_fr (fun a b => a = 56) M M1 → (∀ j, M1 56 j = q_z (M 56) (60 * s) k j) → ∃ M', At X 81 55 [some (.ref 53), some (.int (nI s)), some (.int y), some (.int (nI n)), some (.int (nI k))] [] M1 [.int (nI n)] M' ∧ q_fr (fun a b => a = 56) M M' ∧ ∀ j, M' 56 j = q_z (M 56) (60 * s) n j := by
  intro d
  induction d with
  | zero =>
    intro k M1 hk hf h
    have hk : k = n := by omega
    subst hk
    exact ⟨M1, sg_Mo_sheet_55 ⟨fun _ => ⟨rfl, rfl⟩, fun c => absurd (Int32.le_refl _) c⟩, hf, h⟩
  | succ d ih =>
    intro k M1 hk hf h
    obtain ⟨M', hA, hZ⟩ := ih (k + 1) (zu M1 56 (60 * s + k) 0) (by omega) (q_fr_zu hf rfl) (fun j => by
      rw [q_z_s, zu_at]
      by_cases e : j = 60 * s + k
      · rw [if_pos ⟨rfl, e⟩, if_pos e]
      · rw [if_neg (by omega), if_neg e]; exact h j)
    refine ⟨M', sg_Mo_sheet_55 ⟨fun c => absurd c (q_nle rfl (by omega) (by omega)), fun _ => ?_⟩, hZ⟩
    rw [q_60, q_cl (by omega), show nI k + (1 : Int32) = nI (k + 1) from nI_1 k]
    exact ⟨q_in (by omega) (by omega), hA⟩
theorem o_sheet {X : zX} {S : q_N} {it : Nat → Int32} {x1 x2 x3 : Int32} (hS : q_ws S) : q_op X 64 81 [.int x1, .int x2, .int x3] S it := by
  by_cases h1 : q_is x1 4
  case neg =>
    exact q_op_same (.int (-2)) hS (fun M h => Call.of (Nat.le_of_ble_eq_true rfl) (sg_Fv_sheet_0 ⟨_, _, q_bel_0 (n := 4) rfl (by omega) h1, fun _ => ⟨rfl, rfl⟩, fun c => absurd rfl c⟩)) (fun M h => Call.of (Nat.le_of_ble_eq_true rfl) (sg_Mo_sheet_0 ⟨_, _, q_she_0 h1, fun _ => ⟨rfl, rfl⟩, fun c => absurd rfl c⟩))
  by_cases h2 : q_is x2 3
  case neg =>
    exact q_op_same (.int (-2)) hS (fun M h => Call.of (Nat.le_of_ble_eq_true rfl) (sg_Fv_sheet_0 ⟨_, _, q_bel_1 (n := 4) rfl (by omega) h1, fun c => absurd c q_n10, fun _ => ⟨_, _, q_bel_0 (n := 3) rfl (by omega) h2, fun _ => ⟨rfl, rfl⟩, fun c => absurd rfl c⟩⟩)) (fun M h => Call.of (Nat.le_of_ble_eq_true rfl) (sg_Mo_sheet_0 ⟨_, _, q_she_1 h1, fun c => absurd c q_n10, fun _ => ⟨_, _, q_inn_0 (n := 3) (by omega) (by decide) h2, fun _ => ⟨rfl, rfl⟩, fun c => absurd rfl c⟩⟩))
  by_cases h3 : x3 ≤ 60
  case neg =>
    exact q_op_same (.int (-2)) hS (fun M h => Call.of (Nat.le_of_ble_eq_true rfl) (sg_Fv_sheet_0 ⟨_, _, q_bel_1 (n := 4) rfl (by omega) h1, fun c => absurd c q_n10, fun _ => ⟨_, _, q_bel_1 (n := 3) rfl (by omega) h2, fun c => absurd c q_n10, fun _ => ⟨fun c => absurd c h3, fun _ => ⟨rfl, rfl⟩⟩⟩⟩)) (fun M h => Call.of (Nat.le_of_ble_eq_true rfl) (sg_Mo_sheet_0 ⟨_, _, q_she_1 h1, fun c => absurd c q_n10, fun _ => ⟨_, _, q_inn_1 (n := 3) (by omega) (by decide) h2, fun c => absurd c q_n10, fun _ => ⟨fun c => absurd c h3, fun _ => ⟨rfl, rfl⟩⟩⟩⟩))
  by_cases h4 : 0 ≤ x3
  case neg =>
    exact q_op_fd (k := 5) _ hS (by omega) (fun M h => Call.of (Nat.le_of_ble_eq_true rfl) (sg_Fv_sheet_0 ⟨_, _, q_bel_1 (n := 4) rfl (by omega) h1, fun c => absurd c q_n10, fun _ => ⟨_, _, q_bel_1 (n := 3) rfl (by omega) h2, fun c => absurd c q_n10, fun _ => ⟨fun _ => ⟨fun c => absurd c h4, fun _ => ⟨_, _, q_fd_C 5, rfl, rfl⟩⟩, fun c => absurd h3 c⟩⟩⟩)) (fun M h => Call.of (Nat.le_of_ble_eq_true rfl) (sg_Mo_sheet_0 ⟨_, _, q_she_1 h1, fun c => absurd c q_n10, fun _ => ⟨_, _, q_inn_1 (n := 3) (by omega) (by decide) h2, fun c => absurd c q_n10, fun _ => ⟨fun _ => ⟨fun c => absurd c h4, fun _ => ⟨_, _, q_fd_M 5, rfl, rfl⟩⟩, fun c => absurd h3 c⟩⟩⟩))
  obtain ⟨n, hn, rfl⟩ : ∃ n, n ≤ 60 ∧ x3 = nI n := by
    rw [Int32.le_iff_toInt_le] at h3 h4
    have h3' : x3.toInt ≤ 60 := h3
    have h4' : 0 ≤ x3.toInt := h4
    obtain ⟨k, hk, e⟩ := (q_is_iff (x := x3) (n := 61) (by omega)).mpr ⟨h4', by omega⟩
    exact ⟨k, by omega, e⟩
  obtain ⟨s, hs, rfl⟩ := h1
  obtain ⟨f, hf, rfl⟩ := h2
  have hw := hS.2.2.2.2.2.2
  have hr : ∀ x, x ≠ 13 → x ≠ 14 → q_up (q_up S 13 s (f + 1)) 14 s n x = S x := fun x h1 h2 => by rw [q_up_ne h2, q_up_ne h1]
  have r13 : ∀ j, q_up (q_up S 13 s (f + 1)) 14 s n 13 j = if j = s then f + 1 else S 13 j := fun j => by
    rw [q_up_ne (by omega)]
    split
    · rename_i e; rw [e, q_up_eq]
    · rename_i e; rw [q_up_n2 e]
  have r14 : ∀ j, q_up (q_up S 13 s (f + 1)) 14 s n 14 j = if j = s then n else S 14 j := fun j => by
    split
    · rename_i e; rw [e, q_up_eq]
    · rename_i e; rw [q_up_n2 e, q_up_ne (by omega)]
  refine ⟨.int (nI n), q_up (q_up S 13 s (f + 1)) 14 s n, q_z it (60 * s) n, rfl, q_sh_ws hS hr (fun j hj => ?_), fun M h => ?_, fun M h => ?_⟩
  · rw [r13, r14]
    split
    · exact ⟨by omega, hn⟩
    · exact hw j hj
  · obtain ⟨M', hA, hZ1, hZ2⟩ := q_renL (X := X) (M := zu (zu M 50 s (nI f)) 51 s (nI n)) (s := s) (n := n) (y := nI f) hs hn n 0 (zu (zu M 50 s (nI f)) 51 s (nI n)) (by omega) q_fr_rf (fun j => by unfold q_z; rw [if_neg (by omega)])
    have hR : Call X 63 [.ref 49, .int (nI s), .int (nI f), .int (nI n)] M [] M' := Call.of (Nat.le_of_ble_eq_true rfl) (sg_Sh_renew_s_0 ⟨q_in hs (by omega), q_in hs (by omega), by rw [q_cl (by omega)]; exact hA⟩)
    have fr : ∀ a b, ¬ (a = 52) → M' a b = (zu (zu M 50 s (nI f)) 51 s (nI n)) a b := hZ1
    refine ⟨M', Call.of (Nat.le_of_ble_eq_true rfl) (sg_Fv_sheet_0 ⟨_, _, q_bel_1 (n := 4) rfl (by omega) ⟨s, hs, rfl⟩, fun c => absurd c q_n10, fun _ => ⟨_, _, q_bel_1 (n := 3) rfl (by omega) ⟨f, hf, rfl⟩, fun c => absurd c q_n10, fun _ => ⟨fun _ => ⟨fun _ => ⟨M', hR, rfl, rfl⟩, fun c => absurd h4 c⟩, fun c => absurd h3 c⟩⟩⟩), fun a b ha => by rw [fr a b (by omega), zu_n (by omega), zu_n (by omega)], q_shC h hr (fun a b hq => by rw [fr a b (by omega), zu_n (by omega), zu_n (by omega)]) (fun j hj => ?_) (fun k hk => ?_)⟩
    · rw [fr 51 j (by omega), fr 50 j (by omega), r13, r14]
      by_cases e : j = s
      · rw [if_pos e, if_pos e, e, zu_y, zu_n (by omega), zu_y, if_neg (by omega)]; exact ⟨rfl, fun _ => rfl⟩
      · rw [if_neg e, if_neg e, zu_n (by omega), zu_n (by omega), zu_n (by omega), zu_n (by omega)]; exact h.2.2.1.2.2.1 j hj
    · rw [hZ2 k]
      unfold q_z
      split
      · rfl
      · rw [zu_n (by omega), zu_n (by omega)]; exact h.2.2.1.2.2.2 k hk
  · obtain ⟨M', hA, hZ1, hZ2⟩ := q_sheL (X := X) (M := zu (zu M 54 s (nI f)) 55 s (nI n)) (s := s) (n := n) (y := nI f) hs hn n 0 (zu (zu M 54 s (nI f)) 55 s (nI n)) (by omega) q_fr_rf (fun j => by unfold q_z; rw [if_neg (by omega)])
    have fr : ∀ a b, ¬ (a = 56) → M' a b = (zu (zu M 54 s (nI f)) 55 s (nI n)) a b := hZ1
    refine ⟨M', Call.of (Nat.le_of_ble_eq_true rfl) (sg_Mo_sheet_0 ⟨_, _, q_she_1 ⟨s, hs, rfl⟩, fun c => absurd c q_n10, fun _ => ⟨_, _, q_inn_1 (n := 3) (by omega) (by decide) ⟨f, hf, rfl⟩, fun c => absurd c q_n10, fun _ => ⟨fun _ => ⟨fun _ => ⟨q_in hs (by omega), q_in hs (by omega), by rw [q_cl (by omega)]; exact hA⟩, fun c => absurd h4 c⟩, fun c => absurd h3 c⟩⟩⟩), fun a b ha => by rw [fr a b (by omega), zu_n (by omega), zu_n (by omega)], q_shM h hr (fun a b hq => by rw [fr a b (by omega), zu_n (by omega), zu_n (by omega)]) (fun j hj => ?_) (fun k hk => ?_)⟩
    · rw [fr 54 j (by omega), fr 55 j (by omega), r13, r14]
      by_cases e : j = s
      · rw [if_pos e, if_pos e, e, zu_n (by omega), zu_y, zu_y, if_neg (by omega)]; exact ⟨rfl, rfl⟩
      · rw [if_neg e, if_neg e, zu_n (by omega), zu_n (by omega), zu_n (by omega), zu_n (by omega)]; exact (q_rM_AB.mp h).2.2.2.1 j hj
    · rw [hZ2 k]
      unfold q_z
      split
      · rfl
      · rw [zu_n (by omega), zu_n (by omega)]; exact (q_rM_AB.mp h).2.2.2.2 k hk
/-! the five refusals of an item -/
theorem q_refC_bad {X : zX} {M : zM} {x1 x2 x3 : Int32} (hb : ¬ (q_is x1 4 ∧ q_is x2 3)) : Call X 66 [.ref 0, .int x1, .int x2, .int x3] M [.int (-2)] M := by
  by_cases h1 : q_is x1 4
  · exact Call.of (Nat.le_of_ble_eq_true rfl) (sg_Fv_refusalOfItem_0 ⟨_, _, q_bel_1 (n := 4) rfl (by omega) h1, fun c => absurd c q_n10, fun _ => ⟨_, _, q_bel_0 (n := 3) rfl (by omega) (fun q => hb ⟨h1, q⟩), fun c => absurd rfl c, fun _ => ⟨rfl, rfl⟩⟩⟩)
  · exact Call.of (Nat.le_of_ble_eq_true rfl) (sg_Fv_refusalOfItem_0 ⟨_, _, q_bel_0 (n := 4) rfl (by omega) h1, fun _ => ⟨rfl, rfl⟩, fun c => absurd rfl c⟩)
/-- which refusal: 0 none, else what is found -/
def q_ref (S : q_N) (s f : Nat) (x3 : Int32) : Nat := if S 13 s = 0 then 1 else if S 13 s = f + 1 then (if 0 ≤ x3 ∧ x3 < nI (S 14 s) then 0 else 2) else 3
theorem q_ref_is {x3 : Int32} {n : Nat} (hn : n < 100000) : (0 ≤ x3 ∧ x3 < nI n) ↔ q_is x3 n := by
  rw [q_is_iff hn, Int32.le_iff_toInt_le, Int32.lt_iff_toInt_lt, q_nI_toInt hn]
  exact Iff.rfl
theorem q_refC {X : zX} {M : zM} {S : q_N} {it : Nat → Int32} {s f : Nat} {x3 : Int32} (hS : q_ws S) (h : q_rC M S it) (hs : s < 4) (hf : f < 3) : (q_ref S s f x3 = 0 → Call X 66 [.ref 0, .int (nI s), .int (nI f), .int x3] M [.int 0] M) ∧ (q_ref S s f x3 ≠ 0 → Call X 66 [.ref 0, .int (nI s), .int (nI f), .int x3] M [.int ((-10 : Int32) - nI (q_ref S s f x3))] (zu M 0 12 (nI (q_ref S s f x3)))) := by
  have hw := hS.2.2.2.2.2.2 s hs
  have c1 := q_bel_1 (X := X) (M := M) (x := nI s) (y := 4) (n := 4) rfl (by omega) ⟨s, hs, rfl⟩
  have c2 := q_bel_1 (X := X) (M := M) (x := nI f) (y := 3) (n := 3) rfl (by omega) ⟨f, hf, rfl⟩
  unfold q_ref
  by_cases h0 : S 13 s = 0
  · rw [if_pos h0]
    exact ⟨fun q => absurd q (by omega), fun _ => Call.of (Nat.le_of_ble_eq_true rfl) (sg_Fv_refusalOfItem_0 ⟨_, _, c1, fun c => absurd c q_n10, fun _ => ⟨_, _, c2, fun _ => ⟨_, _, q_lost_1 h hs h0, fun c => absurd c q_n10, fun _ => ⟨_, _, q_fd_C 1, rfl, rfl⟩⟩, fun c => absurd c q_n10⟩⟩)⟩
  · rw [if_neg h0]
    have e50 : M 50 s = nI (S 13 s - 1) := (h.2.2.1.2.2.1 s hs).2 h0
    have e51 : M 51 s = nI (S 14 s) := by rw [(h.2.2.1.2.2.1 s hs).1, if_neg h0]
    by_cases h1 : S 13 s = f + 1
    · rw [if_pos h1]
      have e50' : M 50 s = nI f := by rw [e50, h1]; rfl
      by_cases h2 : 0 ≤ x3 ∧ x3 < nI (S 14 s)
      · rw [if_pos h2]
        have h2' := (q_ref_is (by omega)).mp h2
        refine ⟨fun _ => Call.of (Nat.le_of_ble_eq_true rfl) (sg_Fv_refusalOfItem_0 ⟨_, _, c1, fun c => absurd c q_n10, fun _ => ⟨_, _, c2, fun _ => ⟨_, _, q_lost_0 hS h hs h0, fun _ => ⟨q_in hs (by omega), ?_⟩, fun c => absurd rfl c⟩, fun c => absurd c q_n10⟩⟩), fun q => absurd rfl q⟩
        rw [q_cl (by omega)]
        exact ⟨fun _ => ⟨q_in hs (by omega), _, _, q_bel_1 e51 (by omega) h2', fun c => absurd c q_n10, fun _ => ⟨rfl, rfl⟩⟩, fun c => absurd e50' c⟩
      · rw [if_neg h2]
        have h2' : ¬ q_is x3 (S 14 s) := fun q => h2 ((q_ref_is (by omega)).mpr q)
        refine ⟨fun q => absurd q (by omega), fun _ => Call.of (Nat.le_of_ble_eq_true rfl) (sg_Fv_refusalOfItem_0 ⟨_, _, c1, fun c => absurd c q_n10, fun _ => ⟨_, _, c2, fun _ => ⟨_, _, q_lost_0 hS h hs h0, fun _ => ⟨q_in hs (by omega), ?_⟩, fun c => absurd rfl c⟩, fun c => absurd c q_n10⟩⟩)⟩
        rw [q_cl (by omega)]
        exact ⟨fun _ => ⟨q_in hs (by omega), _, _, q_bel_0 e51 (by omega) h2', fun _ => ⟨_, _, q_fd_C 2, rfl, rfl⟩, fun c => absurd rfl c⟩, fun c => absurd e50' c⟩
    · rw [if_neg h1]
      have e50' : ¬ M 50 s = nI f := by rw [e50]; exact fun q => h1 (by have := (q_eq (by omega) (by omega)).mp q; omega)
      refine ⟨fun q => absurd q (by omega), fun _ => Call.of (Nat.le_of_ble_eq_true rfl) (sg_Fv_refusalOfItem_0 ⟨_, _, c1, fun c => absurd c q_n10, fun _ => ⟨_, _, c2, fun _ => ⟨_, _, q_lost_0 hS h hs h0, fun _ => ⟨q_in hs (by omega), ?_⟩, fun c => absurd rfl c⟩, fun c => absurd c q_n10⟩⟩)⟩
      rw [q_cl (by omega)]
      exact ⟨fun c => absurd c e50', fun _ => ⟨_, _, q_fd_C 3, rfl, rfl⟩⟩
theorem q_refM {X : zX} {M : zM} {S : q_N} {it : Nat → Int32} {s f : Nat} {x3 : Int32} (hS : q_ws S) (h : q_rM M S it) (hs : s < 4) (hf : f < 3) : (q_ref S s f x3 = 0 → Call X 83 [.ref 53, .int (nI s), .int (nI f), .int x3] M [.int 0] M) ∧ (q_ref S s f x3 ≠ 0 → Call X 83 [.ref 53, .int (nI s), .int (nI f), .int x3] M [.int ((-10 : Int32) - nI (q_ref S s f x3))] (zu M 53 4 (nI (q_ref S s f x3)))) := by
  have hw := hS.2.2.2.2.2.2 s hs
  have e55 : M 55 s = nI (S 14 s) := ((q_rM_AB.mp h).2.2.2.1 s hs).2
  unfold q_ref
  by_cases h0 : S 13 s = 0
  · rw [if_pos h0]
    refine ⟨fun q => absurd q (by omega), fun _ => Call.of (Nat.le_of_ble_eq_true rfl) (sg_Mo_lacks_0 ⟨q_in hs (by omega), ?_⟩)⟩
    rw [q_cl (by omega)]
    exact ⟨fun c => absurd c (q_form_0 h hs h0), fun _ => ⟨_, _, q_fd_M 1, rfl, rfl⟩⟩
  · rw [if_neg h0]
    obtain ⟨e54, p54⟩ := q_form_1 hS h hs h0
    by_cases h1 : S 13 s = f + 1
    · rw [if_pos h1]
      have e54' : M 54 s = nI f := by rw [e54, h1]; rfl
      by_cases h2 : 0 ≤ x3 ∧ x3 < nI (S 14 s)
      · rw [if_pos h2]
        have h2' := (q_ref_is (by omega)).mp h2
        refine ⟨fun _ => Call.of (Nat.le_of_ble_eq_true rfl) (sg_Mo_lacks_0 ⟨q_in hs (by omega), ?_⟩), fun q => absurd rfl q⟩
        rw [q_cl (by omega), e55]
        exact ⟨fun _ => ⟨q_in hs (by omega), fun _ => ⟨q_in hs (by omega), _, _, q_inn_1 (n := S 14 s) (by omega) (q_pred64 (by omega)) h2', fun c => absurd c q_n10, fun _ => ⟨rfl, rfl⟩⟩, fun c => absurd e54' c⟩, fun c => absurd p54 c⟩
      · rw [if_neg h2]
        have h2' : ¬ q_is x3 (S 14 s) := fun q => h2 ((q_ref_is (by omega)).mpr q)
        refine ⟨fun q => absurd q (by omega), fun _ => Call.of (Nat.le_of_ble_eq_true rfl) (sg_Mo_lacks_0 ⟨q_in hs (by omega), ?_⟩)⟩
        rw [q_cl (by omega), e55]
        exact ⟨fun _ => ⟨q_in hs (by omega), fun _ => ⟨q_in hs (by omega), _, _, q_inn_0 (n := S 14 s) (by omega) (q_pred64 (by omega)) h2', fun _ => ⟨_, _, q_fd_M 2, rfl, rfl⟩, fun c => absurd rfl c⟩, fun c => absurd e54' c⟩, fun c => absurd p54 c⟩
    · rw [if_neg h1]
      have e54' : ¬ M 54 s = nI f := by rw [e54]; exact fun q => h1 (by have := (q_eq (by omega) (by omega)).mp q; omega)
      refine ⟨fun q => absurd q (by omega), fun _ => Call.of (Nat.le_of_ble_eq_true rfl) (sg_Mo_lacks_0 ⟨q_in hs (by omega), ?_⟩)⟩
      rw [q_cl (by omega)]
      exact ⟨fun _ => ⟨q_in hs (by omega), fun c => absurd c e54', fun _ => ⟨_, _, q_fd_M 3, rfl, rfl⟩⟩, fun c => absurd p54 c⟩
theorem q_ref_le (S : q_N) (s f : Nat) (x3 : Int32) : q_ref S s f x3 ≤ 3 := by
  unfold q_ref
  split
  · omega
  · split
    · split <;> omega
    · omega
theorem q_ref_n0 : ∀ k : Fin 4, k.val ≠ 0 → ¬ ((-10 : Int32) - nI k.val) = 0 := by decide
theorem q_ref_0 {S : q_N} {s f : Nat} {x3 : Int32} (hS : q_ws S) (hs : s < 4) (h : q_ref S s f x3 = 0) : S 13 s = f + 1 ∧ ∃ i, i < S 14 s ∧ i < 60 ∧ x3 = nI i := by
  have hw := hS.2.2.2.2.2.2 s hs
  unfold q_ref at h
  split at h
  · omega
  · split at h
    · rename_i h1
      split at h
      · rename_i h2
        obtain ⟨i, hi, e⟩ := (q_ref_is (by omega)).mp h2
        exact ⟨h1, i, hi, by omega, e⟩
      · omega
    · omega
/-- an item, as its form can hold it -/
def q_cut (f : Nat) (v : Int32) : Int32 := if f = 0 then v.toInt8.toInt32 else if f = 1 then v.toInt16.toInt32 else v
theorem q_cutM {X : zX} {M : zM} {f : Nat} {v : Int32} (hf : f < 3) : Call X 84 [.int (nI f), .int v] M [.int (q_cut f v)] M := by
  have c := c_Mo_cut (X := X) (x0 := nI f) (x1 := v) (M := M)
  unfold f_Mo_cut at c
  rcases q_k3 hf with rfl | rfl | rfl <;> exact c
theorem q_cutC {X : zX} {M : zM} {s f i : Nat} {v : Int32} (hs : s < 4) (hf : f < 3) (hi : i < 60) (h : M 50 s = nI f) : Call X 67 [.ref 49, .int (nI s), .int (nI i), .int v] M [] (zu M 52 (60 * s + i) (q_cut f v)) := by
  have hv : vp_in (nI s) 4 := q_in hs (by omega)
  have c := c_Sh_setItem_s (X := X) (x1 := nI s) (x2 := nI i) (x3 := v) (M := M) ⟨hv, ⟨fun _ => hv, fun _ => trivial⟩, by rw [q_06]; exact q_in (by omega) (by omega)⟩
  unfold m_Sh_setItem_s at c
  rw [q_06, q_cl (by omega), q_cl (by omega), h] at c
  rcases q_k3 hf with rfl | rfl | rfl <;> exact c
/-- LAY -/
theorem o_lay {X : zX} {S : q_N} {it : Nat → Int32} {x1 x2 x3 x4 : Int32} (hS : q_ws S) : q_op X 68 85 [.int x1, .int x2, .int x3, .int x4] S it := by
  by_cases hb : q_is x1 4 ∧ q_is x2 3
  case neg =>
    refine q_op_same (.int (-2)) hS (fun M h => Call.of (Nat.le_of_ble_eq_true rfl) (sg_Fv_lay_0 ⟨_, _, q_refC_bad hb, fun c => absurd c (by decide), fun _ => ⟨rfl, rfl⟩⟩)) (fun M h => ?_)
    by_cases h1 : q_is x1 4
    · exact Call.of (Nat.le_of_ble_eq_true rfl) (sg_Mo_lay_0 ⟨_, _, q_she_1 h1, fun c => absurd c q_n10, fun _ => ⟨_, _, q_inn_0 (n := 3) (by omega) (by decide) (fun q => hb ⟨h1, q⟩), fun c => absurd rfl c, fun _ => ⟨rfl, rfl⟩⟩⟩)
    · exact Call.of (Nat.le_of_ble_eq_true rfl) (sg_Mo_lay_0 ⟨_, _, q_she_0 h1, fun _ => ⟨rfl, rfl⟩, fun c => absurd rfl c⟩)
  obtain ⟨⟨s, hs, rfl⟩, ⟨f, hf, rfl⟩⟩ := hb
  have cs := fun M => q_she_1 (X := X) (M := M) (x := nI s) ⟨s, hs, rfl⟩
  have cf := fun M => q_inn_1 (X := X) (M := M) (x := nI f) (n := 3) (b := 2) (by omega) (by decide) ⟨f, hf, rfl⟩
  by_cases h0 : q_ref S s f x3 = 0
  · obtain ⟨h13, i, hi, hi60, rfl⟩ := q_ref_0 hS hs h0
    have h13' : S 13 s ≠ 0 := by omega
    refine ⟨.int 1, S, fun k => if k = 60 * s + i then q_cut f x4 else it k, rfl, hS, fun M h => ⟨zu M 52 (60 * s + i) (q_cut f x4), ?_, fun a b ha => zu_n (by omega), q_shC h (fun x _ _ => rfl) (q_fr_zu q_fr_rf (by omega)) (fun j hj => ?_) (fun k hk => ?_)⟩, fun M h => ⟨zu M 56 (60 * s + i) (q_cut f x4), ?_, fun a b ha => zu_n (by omega), q_shM h (fun x _ _ => rfl) (q_fr_zu q_fr_rf (by omega)) (fun j hj => ?_) (fun k hk => ?_)⟩⟩
    · have e50 : M 50 s = nI f := by rw [(h.2.2.1.2.2.1 s hs).2 h13', h13]; rfl
      exact Call.of (Nat.le_of_ble_eq_true rfl) (sg_Fv_lay_0 ⟨_, _, (q_refC hS h hs hf).1 h0, fun _ => ⟨_, q_cutC hs hf hi60 e50, rfl, rfl⟩, fun c => absurd rfl c⟩)
    · rw [zu_n (by omega), zu_n (by omega)]; exact h.2.2.1.2.2.1 j hj
    · show _ = if k = 60 * s + i then _ else _
      split
      · rename_i e; rw [e, zu_y]
      · rename_i e; rw [zu_n (by omega)]; exact h.2.2.1.2.2.2 k hk
    · refine Call.of (Nat.le_of_ble_eq_true rfl) (sg_Mo_lay_0 ⟨_, _, cs M, fun c => absurd c q_n10, fun _ => ⟨_, _, cf M, fun _ => ⟨_, _, (q_refM hS h hs hf).1 h0, fun _ => ⟨_, _, q_cutM hf, ?_⟩, fun c => absurd rfl c⟩, fun c => absurd c q_n10⟩⟩)
      rw [q_60, q_cl (by omega)]
      exact ⟨q_in (by omega) (by omega), rfl, rfl⟩
    · rw [zu_n (by omega), zu_n (by omega)]; exact (q_rM_AB.mp h).2.2.2.1 j hj
    · show _ = if k = 60 * s + i then _ else _
      split
      · rename_i e; rw [e, zu_y]
      · rename_i e; rw [zu_n (by omega)]; exact (q_rM_AB.mp h).2.2.2.2 k hk
  · have hle := q_ref_le S s f x3
    have hn := q_ref_n0 ⟨q_ref S s f x3, by omega⟩ h0
    exact q_op_fd (k := q_ref S s f x3) (.int ((-10 : Int32) - nI (q_ref S s f x3))) hS (by omega) (fun M h => Call.of (Nat.le_of_ble_eq_true rfl) (sg_Fv_lay_0 ⟨_, _, (q_refC hS h hs hf).2 h0, fun c => absurd c hn, fun _ => ⟨rfl, rfl⟩⟩)) (fun M h => Call.of (Nat.le_of_ble_eq_true rfl) (sg_Mo_lay_0 ⟨_, _, cs M, fun c => absurd c q_n10, fun _ => ⟨_, _, cf M, fun _ => ⟨_, _, (q_refM hS h hs hf).2 h0, fun c => absurd c hn, fun _ => ⟨rfl, rfl⟩⟩, fun c => absurd c q_n10⟩⟩))
/-- GET -/
theorem o_get {X : zX} {S : q_N} {it : Nat → Int32} {x1 x2 x3 : Int32} (hS : q_ws S) : q_op X 69 86 [.int x1, .int x2, .int x3] S it := by
  by_cases hb : q_is x1 4 ∧ q_is x2 3
  case neg =>
    refine q_op_same (.int (-2147483648)) hS (fun M h => Call.of (Nat.le_of_ble_eq_true rfl) (sg_Fv_get_0 ⟨_, _, q_refC_bad hb, fun c => absurd c (by decide), fun _ => ⟨rfl, rfl⟩⟩)) (fun M h => ?_)
    by_cases h1 : q_is x1 4
    · exact Call.of (Nat.le_of_ble_eq_true rfl) (sg_Mo_get_0 ⟨_, _, q_she_1 h1, fun c => absurd c q_n10, fun _ => ⟨_, _, q_inn_0 (n := 3) (by omega) (by decide) (fun q => hb ⟨h1, q⟩), fun _ => ⟨rfl, rfl⟩, fun c => absurd rfl c⟩⟩)
    · exact Call.of (Nat.le_of_ble_eq_true rfl) (sg_Mo_get_0 ⟨_, _, q_she_0 h1, fun _ => ⟨rfl, rfl⟩, fun c => absurd rfl c⟩)
  obtain ⟨⟨s, hs, rfl⟩, ⟨f, hf, rfl⟩⟩ := hb
  have cs := fun M => q_she_1 (X := X) (M := M) (x := nI s) ⟨s, hs, rfl⟩
  have cf := fun M => q_inn_1 (X := X) (M := M) (x := nI f) (n := 3) (b := 2) (by omega) (by decide) ⟨f, hf, rfl⟩
  by_cases h0 : q_ref S s f x3 = 0
  · obtain ⟨h13, i, hi, hi60, rfl⟩ := q_ref_0 hS hs h0
    refine q_op_same (.int (it (60 * s + i))) hS (fun M h => ?_) (fun M h => ?_)
    · have c := c_Sh_item_s (X := X) (x1 := nI s) (x2 := nI i) (M := M) (by unfold s_Sh_item_s; rw [q_06]; exact q_in (by omega) (by omega))
      unfold f_Sh_item_s at c
      rw [q_06, q_cl (by omega), h.2.2.1.2.2.2 _ (by omega)] at c
      exact Call.of (Nat.le_of_ble_eq_true rfl) (sg_Fv_get_0 ⟨_, _, (q_refC hS h hs hf).1 h0, fun _ => ⟨_, _, c, rfl, rfl⟩, fun c => absurd rfl c⟩)
    · refine Call.of (Nat.le_of_ble_eq_true rfl) (sg_Mo_get_0 ⟨_, _, cs M, fun c => absurd c q_n10, fun _ => ⟨_, _, cf M, fun c => absurd c q_n10, fun _ => ⟨_, _, (q_refM hS h hs hf).1 h0, fun _ => ?_, fun c => absurd rfl c⟩⟩⟩)
      rw [q_60, q_cl (by omega), (q_rM_AB.mp h).2.2.2.2 _ (by omega)]
      exact ⟨q_in (by omega) (by omega), rfl, rfl⟩
  · have hle := q_ref_le S s f x3
    have hn := q_ref_n0 ⟨q_ref S s f x3, by omega⟩ h0
    exact q_op_fd (k := q_ref S s f x3) (.int (-2147483648)) hS (by omega) (fun M h => Call.of (Nat.le_of_ble_eq_true rfl) (sg_Fv_get_0 ⟨_, _, (q_refC hS h hs hf).2 h0, fun c => absurd c hn, fun _ => ⟨rfl, rfl⟩⟩)) (fun M h => Call.of (Nat.le_of_ble_eq_true rfl) (sg_Mo_get_0 ⟨_, _, cs M, fun c => absurd c q_n10, fun _ => ⟨_, _, cf M, fun c => absurd c q_n10, fun _ => ⟨_, _, (q_refM hS h hs hf).2 h0, fun c => absurd c hn, fun _ => ⟨rfl, rfl⟩⟩⟩⟩))
