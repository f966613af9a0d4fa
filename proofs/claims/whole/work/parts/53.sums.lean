/-! COUNTS -/
theorem q_rm_c (w o l g c t : Nat) : (q_rm w o l g c t).2.2.1 ≤ c + 1 ∧ (q_rm w o l g c t).2.2.2 ≤ t + 1 := by
  unfold q_rm
  split
  · simp
  · split
    · simp
    · split
      · simp
      · simp
theorem q_run_c {I : q_N} {E : q_E} (v : Nat) : ∀ (l : List Nat), (q_run I E l).1 2 v ≤ l.length ∧ (q_run I E l).1 3 v ≤ l.length
  | [] => ⟨Nat.le_refl _, Nat.le_refl _⟩
  | m :: l => by
    have ih := q_run_c (I := I) (E := E) v l
    have h := q_rm_c (q_sd I E (q_run I E l).1 m (fun _ => 0) (I 0 0) v) (q_b (q_ps I E (q_run I E l).1 m)) ((q_run I E l).1 0 v) ((q_run I E l).1 1 v) ((q_run I E l).1 2 v) ((q_run I E l).1 3 v)
    rw [List.length_cons]
    by_cases hv : v < I 0 0
    · simp only [q_run, q_V, if_pos hv]
      unfold q_V1
      omega
    · simp only [q_run, q_V, if_neg hv]
      omega
theorem q_ord_le {I : q_N} (hwf : q_wf I) : (q_ord I).length ≤ 12 := by
  rw [q_ordn_eq, q_ordn_len _ _ (fun m hm => (hwf.2.2.2.2.1 m hm).1)]
  exact hwf.2.2.2.1
theorem q_liv_c {I : q_N} {E : q_E} (hwf : q_wf I) (v : Nat) : (q_liv I E).1 2 v ≤ 12 ∧ (q_liv I E).1 3 v ≤ 12 := by
  have h := q_run_c (I := I) (E := E) v (q_ord I).reverse
  have hl := q_ord_le hwf
  rw [List.length_reverse] at h
  unfold q_liv
  omega
theorem q_run_o {I : q_N} {E : q_E} (m : Nat) : ∀ (l : List Nat), (q_run I E l).2 1 m ≤ I 0 0 ∧ (q_run I E l).2 2 m ≤ I 0 0 ∧ (q_run I E l).2 3 m ≤ 2 ∧ (q_run I E l).2 4 m ≤ 1 ∧ (q_run I E l).2 5 m ≤ 1
  | [] => ⟨Nat.zero_le _, Nat.zero_le _, Nat.zero_le _, Nat.zero_le _, Nat.zero_le _⟩
  | k :: l => by
    have ih := q_run_o (I := I) (E := E) m l
    have h := q_sp_in I E (q_run I E l).1 k (I 0 0)
    have hb1 := q_b_lt (q_ps I E (q_run I E l).1 k)
    have hb2 := q_b_lt (q_dc I E (q_run I E l).1 k)
    have hb3 : q_fd I E k ≤ 2 := by
      unfold q_fd
      have := q_b_lt (q_ff I E k)
      split <;> omega
    simp only [q_run, q_O]
    by_cases e : m = k
    · simp only [e, if_true]
      refine ⟨?_, ?_, hb3, by omega, by omega⟩
      · unfold q_ay; omega
      · unfold q_no; omega
    · simp only [e, if_false]
      exact ih
theorem q_liv_o {I : q_N} {E : q_E} (hwf : q_wf I) (m : Nat) : (q_liv I E).2 1 m ≤ 8 ∧ (q_liv I E).2 2 m ≤ 8 ∧ (q_liv I E).2 3 m ≤ 2 ∧ (q_liv I E).2 4 m ≤ 1 ∧ (q_liv I E).2 5 m ≤ 1 := by
  have h := q_run_o (I := I) (E := E) m (q_ord I).reverse
  have := hwf.1
  unfold q_liv
  omega
theorem q_bc_all : ∀ a b : Fin 64, f_In_bitCount (nI (64 * a.val + b.val)) (fun _ _ => 0) = nI (q_cnt (64 * a.val + b.val).testBit 12) := by decide +kernel
theorem q_bc {b : Nat} (M : zM) (h : b < 4096) : f_In_bitCount (nI b) M = nI (q_cnt b.testBit 12) := by
  have e := q_bc_all ⟨b / 64, by omega⟩ ⟨b % 64, by omega⟩
  dsimp only at e
  rw [show 64 * (b / 64) + b % 64 = b by omega] at e
  exact e
/-- so many are passed; so many he alone decided -/
def q_np (I : q_N) (E : q_E) : Nat := q_cnt (fun m => (q_liv I E).2 4 m == 1) (I 5 0)
def q_nd (I : q_N) (E : q_E) : Nat := q_cnt (fun m => (q_liv I E).2 5 m == 1) (I 5 0)
theorem q_bc_bits {f : Nat → Bool} {n : Nat} (M : zM) (h : n ≤ 12) : f_In_bitCount (nI (q_bits f n)) M = nI (q_cnt f n) := by
  have hl : q_bits f n < 4096 := Nat.lt_of_lt_of_le (q_bits_lt f n) (Nat.pow_le_pow_right (n := 2) (by omega) (j := 12) h)
  rw [q_bc M hl, q_cnt_cg (f := (q_bits f n).testBit) (g := fun i => decide (i < n) && f i) 12 (fun i _ => q_bits_at f i n)]
  have e := q_cnt_ext f n (12 - n)
  rw [show n + (12 - n) = 12 by omega] at e
  rw [e]
theorem q_pb_lt {I : q_N} {E : q_E} (hwf : q_wf I) : q_pb I E < 4096 := Nat.lt_of_lt_of_le (q_bits_lt _ _) (Nat.pow_le_pow_right (n := 2) (by omega) (j := 12) hwf.2.2.2.1)
theorem q_db_lt {I : q_N} {E : q_E} (hwf : q_wf I) : q_db I E < 4096 := Nat.lt_of_lt_of_le (q_bits_lt _ _) (Nat.pow_le_pow_right (n := 2) (by omega) (j := 12) hwf.2.2.2.1)
theorem q_pb_at {I : q_N} {E : q_E} {m : Nat} (h : m < I 5 0) : (q_pb I E).testBit m = ((q_liv I E).2 4 m == 1) := by
  unfold q_pb
  rw [q_bits_at]
  simp [h]
theorem q_db_at {I : q_N} {E : q_E} {m : Nat} (h : m < I 5 0) : (q_db I E).testBit m = ((q_liv I E).2 5 m == 1) := by
  unfold q_db
  rw [q_bits_at]
  simp [h]
theorem q_b01 {n : Nat} (h : n ≤ 1) : q_b (n == 1) = n := by
  have : n = 0 ∨ n = 1 := by omega
  rcases this with rfl | rfl <;> rfl
/-- SUMBY -/
theorem q_mord {I : q_N} {E : q_E} {M : zM} (hwf : q_wf I) (h : q_ML I E M) {m : Nat} (hm : m < I 5 0) : M 70 m = nI ((q_liv I E).2 1 m) ∧ M 71 m = nI ((q_liv I E).2 2 m) ∧ M 72 m = nI ((q_liv I E).2 3 m) ∧ M 73 m = nI ((q_liv I E).2 4 m) ∧ M 74 m = nI ((q_liv I E).2 5 m) ∧ ∀ v, v < I 0 0 → M 69 (8 * m + v) = nI ((q_liv I E).2 0 (8 * m + v)) := h.2.1 m ((q_in_ord hwf).mpr hm)
theorem q_01z {n : Nat} (h : n ≤ 1) : (if nI n = 0 then (0 : Int32) else (1 : Int32)) = nI (q_b (n == 1)) := by
  have : n = 0 ∨ n = 1 := by omega
  rcases this with rfl | rfl <;> rfl
theorem q_tb {X : zX} {I : q_N} {E : q_E} {M : zM} {m w : Nat} (hwf : q_wf I) (h : q_ML I E M) (hm : m < I 5 0) (hw : w < 5) : Call X 117 [.ref 53, .int (nI m), .int (nI w)] M [.int (nI ((q_liv I E).2 (1 + w) m))] M := by
  have h12 := hwf.2.2.2.1
  have hi : vp_in (nI m) 12 := q_in (by omega) (by omega)
  have c := c_Mo_tallyBy (X := X) (x1 := nI m) (x2 := nI w) (M := M) ⟨fun _ => hi, fun _ => ⟨fun _ => hi, fun _ => ⟨fun _ => hi, fun _ => ⟨fun _ => hi, fun _ => hi⟩⟩⟩⟩
  obtain ⟨a1, a2, a3, a4, a5, -⟩ := q_mord hwf h hm
  have o := q_liv_o (E := E) hwf m
  have e : f_Mo_tallyBy (nI m) (nI w) M = nI ((q_liv I E).2 (1 + w) m) := by
    unfold f_Mo_tallyBy
    rw [q_cl (by omega), a1, a2, a3, a4, a5, q_01z o.2.2.2.1, q_01z o.2.2.2.2, q_b01 o.2.2.2.1, q_b01 o.2.2.2.2]
    have : w = 0 ∨ w = 1 ∨ w = 2 ∨ w = 3 ∨ w = 4 := by omega
    rcases this with rfl | rfl | rfl | rfl | rfl <;> rfl
  rw [e] at c
  exact c
theorem q_sumL {X : zX} {I : q_N} {E : q_E} {M : zM} {w : Nat} (hwf : q_wf I) (h : q_ML I E M) (h9 : M 53 9 = nI (I 5 0)) (hw : w < 2) : ∀ d k, k + d = I 5 0 → At X 121 4 [some (.ref 53), some (.int (nI w)), some (.int (nI (q_cnt (fun m => (q_liv I E).2 (4 + w) m == 1) k))), some (.int (nI k))] [] M [.int (nI (q_cnt (fun m => (q_liv I E).2 (4 + w) m == 1) (I 5 0)))] M := by
  have h12 := hwf.2.2.2.1
  intro d
  induction d with
  | zero =>
    intro k hk
    have hk : k = I 5 0 := by omega
    subst hk
    exact sg_Mo_sumBy_4 ⟨fun _ => ⟨rfl, rfl⟩, fun c => absurd (by rw [h9]; exact Int32.le_refl _) c⟩
  | succ d ih =>
    intro k hk
    refine sg_Mo_sumBy_4 ⟨fun c => absurd c (q_nle h9 (by omega) (by omega)), fun _ => ?_⟩
    have t := q_tb (X := X) (w := 3 + w) hwf h (show k < I 5 0 by omega) (by omega)
    rw [show (3 : Int32) + nI w = nI (3 + w) from nI_add 3 w]
    refine ⟨_, _, t, ?_⟩
    have o := q_liv_o (E := E) hwf k
    have e : (q_liv I E).2 (1 + (3 + w)) k = q_b ((q_liv I E).2 (4 + w) k == 1) := by
      rw [show 1 + (3 + w) = 4 + w by omega]
      rcases q_k2 hw with rfl | rfl
      · exact (q_b01 o.2.2.2.1).symm
      · exact (q_b01 o.2.2.2.2).symm
    rw [e, nI_add, show nI k + (1 : Int32) = nI (k + 1) from nI_1 k]
    exact ih (k + 1) (by omega)
theorem c_Mo_sumBy {X : zX} {I : q_N} {E : q_E} {M : zM} {w : Nat} (hwf : q_wf I) (h : q_ML I E M) (h9 : M 53 9 = nI (I 5 0)) (hw : w < 2) : Call X 121 [.ref 53, .int (nI w)] M [.int (nI (q_cnt (fun m => (q_liv I E).2 (4 + w) m == 1) (I 5 0)))] M :=
  Call.of (Nat.le_of_ble_eq_true rfl) (sg_Mo_sumBy_0 (q_sumL hwf h h9 hw (I 5 0) 0 (by omega)))
/-- COATS -/
theorem q_coatL {X : zX} {V : Nat → Nat} {n : Nat} {M : zM} (hn : n ≤ 8) (h7 : M 53 7 = nI n) (h : ∀ v, v < n → M 67 v = nI (V v)) : ∀ d k, k + d = n → At X 136 4 [some (.ref 53), some (.int (nI (q_sum V k))), some (.int (nI k))] [] M [.int (nI (q_sum V n))] M := by
  intro d
  induction d with
  | zero =>
    intro k hk
    have hk : k = n := by omega
    subst hk
    exact sg_Mo_coatsNow_4 ⟨fun _ => ⟨rfl, rfl⟩, fun c => absurd (by rw [h7]; exact Int32.le_refl _) c⟩
  | succ d ih =>
    intro k hk
    refine sg_Mo_coatsNow_4 ⟨fun c => absurd c (q_nle h7 (by omega) (by omega)), fun _ => ⟨q_in (by omega) (by omega), ?_⟩⟩
    rw [q_cl (by omega), h k (by omega), nI_add, show nI k + (1 : Int32) = nI (k + 1) from nI_1 k]
    exact ih (k + 1) (by omega)
theorem c_Mo_coatsNow {X : zX} {I : q_N} {E : q_E} {M : zM} (hwf : q_wf I) (h : q_ML I E M) (h7 : M 53 7 = nI (I 0 0)) : Call X 136 [.ref 53] M [.int (nI (q_nc I E))] M :=
  Call.of (Nat.le_of_ble_eq_true rfl) (sg_Mo_coatsNow_0 (q_coatL hwf.1 h7 (fun v hv => (h.1 v hv).2.2.1) (I 0 0) 0 (by omega)))
theorem q_coatA {X : zX} {V : Nat → Nat} {n : Nat} {M : zM} (hn : n ≤ 8) (h : ∀ v, v < n → M 23 v = nI (V v)) : ∀ d k, k + d = n → At X 44 4 [some (.ref 16), some (.int (nI n)), some (.int (nI (q_sum V k))), some (.int (nI k))] [] M [.int (nI (q_sum V n))] M := by
  intro d
  induction d with
  | zero =>
    intro k hk
    have hk : k = n := by omega
    subst hk
    exact sg_Vo_coatsInAll_a_4 ⟨fun _ => ⟨rfl, rfl⟩, fun c => absurd (Int32.le_refl _) c⟩
  | succ d ih =>
    intro k hk
    refine sg_Vo_coatsInAll_a_4 ⟨fun c => absurd c (q_nle rfl (by omega) (by omega)), fun _ => ⟨q_in (by omega) (by omega), ?_⟩⟩
    rw [q_cl (by omega), h k (by omega), nI_add, show nI k + (1 : Int32) = nI (k + 1) from nI_1 k]
    exact ih (k + 1) (by omega)
theorem c_Vo_coatsInAll_a {X : zX} {I : q_N} {E : q_E} {M : zM} (hwf : q_wf I) (h : q_HR 16 I E M) : Call X 44 [.ref 16, .int (nI (I 0 0))] M [.int (nI (q_nc I E))] M :=
  Call.of (Nat.le_of_ble_eq_true rfl) (sg_Vo_coatsInAll_a_0 (q_coatA hwf.1 (fun v hv => (h.1 v hv).2.2.1) (I 0 0) 0 (by omega)))
theorem q_coatB {X : zX} {V : Nat → Nat} {n : Nat} {M : zM} (hn : n ≤ 8) (h : ∀ v, v < n → M 43 v = nI (V v)) : ∀ d k, k + d = n → At X 44 4 [some (.ref 36), some (.int (nI n)), some (.int (nI (q_sum V k))), some (.int (nI k))] [] M [.int (nI (q_sum V n))] M := by
  intro d
  induction d with
  | zero =>
    intro k hk
    have hk : k = n := by omega
    subst hk
    exact sg_Vo_coatsInAll_b_4 ⟨fun _ => ⟨rfl, rfl⟩, fun c => absurd (Int32.le_refl _) c⟩
  | succ d ih =>
    intro k hk
    refine sg_Vo_coatsInAll_b_4 ⟨fun c => absurd c (q_nle rfl (by omega) (by omega)), fun _ => ⟨q_in (by omega) (by omega), ?_⟩⟩
    rw [q_cl (by omega), h k (by omega), nI_add, show nI k + (1 : Int32) = nI (k + 1) from nI_1 k]
    exact ih (k + 1) (by omega)
theorem c_Vo_coatsInAll_b {X : zX} {I : q_N} {E : q_E} {M : zM} (hwf : q_wf I) (h : q_HR 36 I E M) : Call X 44 [.ref 36, .int (nI (I 0 0))] M [.int (nI (q_nc I E))] M :=
  Call.of (Nat.le_of_ble_eq_true rfl) (sg_Vo_coatsInAll_b_0 (q_coatB hwf.1 (fun v hv => (h.1 v hv).2.2.1) (I 0 0) 0 (by omega)))
/-- LOYAL -/
theorem q_or_if {a k : Nat} {c : Prop} [Decidable c] {b : Bool} (hk : k < 31) (h : c ↔ b = true) : nI a ||| (if c then ((1 : Int32) <<< (nI k &&& 31)) else (0 : Int32)) = nI (a ||| (if b = true then 2 ^ k else 0)) := by
  by_cases hc : c
  · rw [if_pos hc, if_pos (h.mp hc), q_shl1 hk, q_or]
  · rw [if_neg hc, if_neg (fun q => hc (h.mpr q)), show (0 : Int32) = nI 0 from rfl, q_or]
theorem q_if_or {a k : Nat} {c : Prop} [Decidable c] {b : Bool} (hk : k < 31) (h : c ↔ b = true) : (if c then (nI a ||| ((1 : Int32) <<< (nI k &&& 31))) else nI a) = nI (a ||| (if b = true then 2 ^ k else 0)) := by
  by_cases hc : c
  · rw [if_pos hc, if_pos (h.mp hc), q_shl1 hk, q_or]
  · rw [if_neg hc, if_neg (fun q => hc (h.mpr q)), Nat.or_zero]
theorem q_z_iff {n : Nat} (h : n < 100000) : nI n = 0 ↔ (n == 0) = true := by
  rw [beq_iff_eq]
  exact q_eq (b := 0) h (by omega)
theorem q_loyL {X : zX} {V : Nat → Nat} {n : Nat} {M : zM} (hn : n ≤ 8) (h7 : M 53 7 = nI n) (h : ∀ v, v < n → M 67 v = nI (V v) ∧ V v < 100000) : ∀ d k, k + d = n → At X 124 4 [some (.ref 53), some (.int (nI (q_bits (fun v => V v == 0) k))), some (.int (nI k))] [] M [.int (nI (q_bits (fun v => V v == 0) n))] M := by
  intro d
  induction d with
  | zero =>
    intro k hk
    have hk : k = n := by omega
    subst hk
    exact sg_Mo_loyalNow_4 ⟨fun _ => ⟨rfl, rfl⟩, fun c => absurd (by rw [h7]; exact Int32.le_refl _) c⟩
  | succ d ih =>
    intro k hk
    refine sg_Mo_loyalNow_4 ⟨fun c => absurd c (q_nle h7 (by omega) (by omega)), fun _ => ⟨q_in (by omega) (by omega), ?_⟩⟩
    rw [q_cl (by omega), (h k (by omega)).1, q_or_if (by omega) (q_z_iff (h k (by omega)).2), show nI k + (1 : Int32) = nI (k + 1) from nI_1 k]
    exact ih (k + 1) (by omega)
def q_loy (I : q_N) (E : q_E) : Nat := q_bits (fun v => (q_liv I E).1 2 v == 0) (I 0 0)
theorem c_Mo_loyalNow {X : zX} {I : q_N} {E : q_E} {M : zM} (hwf : q_wf I) (h : q_ML I E M) (h7 : M 53 7 = nI (I 0 0)) : Call X 124 [.ref 53] M [.int (nI (q_loy I E))] M :=
  Call.of (Nat.le_of_ble_eq_true rfl) (sg_Mo_loyalNow_0 (q_loyL hwf.1 h7 (fun v hv => ⟨(h.1 v hv).2.2.1, by have := (q_liv_c (E := E) hwf v).1; omega⟩) (I 0 0) 0 (by omega)))
theorem q_loyC {X : zX} {V : Nat → Nat} {n : Nat} {M : zM} (hn : n ≤ 8) (h7 : M 5 0 = nI n) (h : ∀ v, v < n → M 23 v = nI (V v) ∧ V v < 100000) : ∀ d k, k + d = n → At X 34 4 [some (.ref 0), some (.int (nI (q_bits (fun v => V v == 0) k))), some (.int (nI k))] [] M [.int (nI (q_bits (fun v => V v == 0) n))] M := by
  intro d
  induction d with
  | zero =>
    intro k hk
    have hk : k = n := by omega
    subst hk
    exact sg_Fv_loyal_4 ⟨fun _ => ⟨rfl, rfl⟩, fun c => absurd (by rw [h7]; exact Int32.le_refl _) c⟩
  | succ d ih =>
    intro k hk
    refine sg_Fv_loyal_4 ⟨fun c => absurd c (q_nle h7 (by omega) (by omega)), fun _ => ⟨q_in (by omega) (by omega), ?_⟩⟩
    rw [q_cl (by omega), (h k (by omega)).1, q_if_or (by omega) (q_z_iff (h k (by omega)).2), show nI k + (1 : Int32) = nI (k + 1) from nI_1 k]
    exact ih (k + 1) (by omega)
theorem c_Fv_loyal {X : zX} {I : q_N} {E : q_E} {M : zM} (hwf : q_wf I) (h : q_HR 16 I E M) (h7 : M 5 0 = nI (I 0 0)) : Call X 34 [.ref 0] M [.int (nI (q_loy I E))] M :=
  Call.of (Nat.le_of_ble_eq_true rfl) (sg_Fv_loyal_0 (q_loyC hwf.1 h7 (fun v hv => ⟨(h.1 v hv).2.2.1, by have := (q_liv_c (E := E) hwf v).1; omega⟩) (I 0 0) 0 (by omega)))
/-- BITTER -/
def q_bt (f : Nat → Nat) : Nat → Int32 × Nat
  | 0 => (-1, 0)
  | n + 1 => if f n ≤ (q_bt f n).2 then q_bt f n else (nI n, f n)
theorem q_bt_lt (f : Nat → Nat) : ∀ n, (∀ v, v < n → f v < 1000) → (q_bt f n).2 < 1000
  | 0, _ => by simp [q_bt]
  | n + 1, h => by
    have ih := q_bt_lt f n (fun v hv => h v (by omega))
    rw [q_bt]
    split
    · exact ih
    · exact h n (by omega)
theorem q_bitL {X : zX} {V : Nat → Nat} {n : Nat} {M : zM} (hn : n ≤ 8) (h7 : M 53 7 = nI n) (h : ∀ v, v < n → M 68 v = nI (V v) ∧ V v < 1000) : ∀ d k, k + d = n → At X 127 6 [some (.ref 53), some (.int (q_bt V k).1), some (.int (nI (q_bt V k).2)), some (.int (nI k))] [] M [.int (q_bt V n).1] M := by
  intro d
  induction d with
  | zero =>
    intro k hk
    have hk : k = n := by omega
    subst hk
    exact sg_Mo_bitterNow_6 ⟨fun _ => ⟨rfl, rfl⟩, fun c => absurd (by rw [h7]; exact Int32.le_refl _) c⟩
  | succ d ih =>
    intro k hk
    have i1 := ih (k + 1) (by omega)
    have hb := q_bt_lt V k (fun v hv => (h v (by omega)).2)
    have hv := (h k (by omega)).2
    refine sg_Mo_bitterNow_6 ⟨fun c => absurd c (q_nle h7 (by omega) (by omega)), fun _ => ⟨q_in (by omega) (by omega), q_in (by omega) (by omega), _, _, c_Mo_greater, ?_⟩⟩
    unfold f_Mo_greater
    rw [q_cl (by omega), (h k (by omega)).1, show nI k + (1 : Int32) = nI (k + 1) from nI_1 k]
    rw [q_bt] at i1
    by_cases c : V k ≤ (q_bt V k).2
    · have c' : nI (V k) ≤ nI (q_bt V k).2 := (q_le (by omega) (by omega)).mpr c
      rw [if_pos c] at i1
      rw [if_pos c', if_pos c']
      exact i1
    · have c' : ¬ nI (V k) ≤ nI (q_bt V k).2 := fun q => c ((q_le (by omega) (by omega)).mp q)
      rw [if_neg c] at i1
      rw [if_neg c', if_neg c']
      exact i1
def q_bit3 (I : q_N) (E : q_E) : Int32 := (q_bt ((q_liv I E).1 3) (I 0 0)).1
theorem c_Mo_bitterNow {X : zX} {I : q_N} {E : q_E} {M : zM} (hwf : q_wf I) (h : q_ML I E M) (h7 : M 53 7 = nI (I 0 0)) : Call X 127 [.ref 53] M [.int (q_bit3 I E)] M :=
  Call.of (Nat.le_of_ble_eq_true rfl) (sg_Mo_bitterNow_0 (q_bitL hwf.1 h7 (fun v hv => ⟨(h.1 v hv).2.2.2, by have := (q_liv_c (E := E) hwf v).2; omega⟩) (I 0 0) 0 (by omega)))
theorem q_bitC {X : zX} {V : Nat → Nat} {n : Nat} {M : zM} (hn : n ≤ 8) (h7 : M 5 0 = nI n) (h : ∀ v, v < n → M 24 v = nI (V v) ∧ V v < 1000) : ∀ d k, k + d = n → At X 35 6 [some (.ref 0), some (.int (q_bt V k).1), some (.int (nI (q_bt V k).2)), some (.int (nI k))] [] M [.int (q_bt V n).1] M := by
  intro d
  induction d with
  | zero =>
    intro k hk
    have hk : k = n := by omega
    subst hk
    exact sg_Fv_bitter_6 ⟨fun _ => ⟨rfl, rfl⟩, fun c => absurd (by rw [h7]; exact Int32.le_refl _) c⟩
  | succ d ih =>
    intro k hk
    have i1 := ih (k + 1) (by omega)
    have hb := q_bt_lt V k (fun v hv => (h v (by omega)).2)
    have hv := (h k (by omega)).2
    refine sg_Fv_bitter_6 ⟨fun c => absurd c (q_nle h7 (by omega) (by omega)), fun _ => ⟨q_in (by omega) (by omega), ⟨fun _ => trivial, fun _ => q_in (by omega) (by omega)⟩, ?_⟩⟩
    rw [q_cl (by omega), (h k (by omega)).1, show nI k + (1 : Int32) = nI (k + 1) from nI_1 k]
    rw [q_bt] at i1
    by_cases c : V k ≤ (q_bt V k).2
    · have c' : nI (V k) ≤ nI (q_bt V k).2 := (q_le (by omega) (by omega)).mpr c
      rw [if_pos c] at i1
      rw [if_pos c', if_pos c']
      exact i1
    · have c' : ¬ nI (V k) ≤ nI (q_bt V k).2 := fun q => c ((q_le (by omega) (by omega)).mp q)
      rw [if_neg c] at i1
      rw [if_neg c', if_neg c']
      exact i1
theorem c_Fv_bitter {X : zX} {I : q_N} {E : q_E} {M : zM} (hwf : q_wf I) (h : q_HR 16 I E M) (h7 : M 5 0 = nI (I 0 0)) : Call X 35 [.ref 0] M [.int (q_bit3 I E)] M :=
  Call.of (Nat.le_of_ble_eq_true rfl) (sg_Fv_bitter_0 (q_bitC hwf.1 h7 (fun v hv => ⟨(h.1 v hv).2.2.2, by have := (q_liv_c (E := E) hwf v).2; omega⟩) (I 0 0) 0 (by omega)))
/-- LEVEL -/
def q_lv2 (O : q_N) : List Nat → Int32
  | [] => -1
  | m :: l => if q_lv2 O l = -1 then (if O 1 m = O 2 m then nI m else q_lv2 O l) else q_lv2 O l
theorem q_lv2_cg {O O' : q_N} : ∀ (l : List Nat), (∀ m, m ∈ l → O' 1 m = O 1 m ∧ O' 2 m = O 2 m) → q_lv2 O' l = q_lv2 O l
  | [], _ => rfl
  | m :: l, h => by
    have ih := q_lv2_cg l (fun k hk => h k (List.mem_cons_of_mem _ hk))
    have hm := h m (List.mem_cons_self)
    simp only [q_lv2, ih, hm.1, hm.2]
theorem q_lvl_2 {I : q_N} {E : q_E} : ∀ (l : List Nat), l.Nodup → q_lvl I E l = q_lv2 (q_run I E l).2 l
  | [], _ => rfl
  | m :: l, hn => by
    have hn' := List.nodup_cons.mp hn
    have ih := q_lvl_2 (I := I) (E := E) l hn'.2
    have e : q_lv2 (q_run I E (m :: l)).2 l = q_lv2 (q_run I E l).2 l := q_lv2_cg l (fun k hk => by
      have : k ≠ m := fun q => hn'.1 (q ▸ hk)
      simp only [q_run, q_O, if_neg this]
      exact ⟨trivial, trivial⟩)
    have e1 : (q_run I E (m :: l)).2 1 m = q_ay I E (q_run I E l).1 m := by simp [q_run, q_O]
    have e2 : (q_run I E (m :: l)).2 2 m = q_no I E (q_run I E l).1 m := by simp [q_run, q_O]
    rw [q_lvl, q_lv2, e, ih, e1, e2]
theorem q_lv2_st {O : q_N} {l : List Nat} (h : q_lv2 O l ≠ -1) : ∀ r : List Nat, q_lv2 O (r ++ l) = q_lv2 O l
  | [] => rfl
  | m :: r => by
    have ih := q_lv2_st h r
    rw [List.cons_append, q_lv2, ih, if_neg h]
theorem q_levL {X : zX} {M : zM} {I : q_N} {E : q_E} (hwf : q_wf I) (hcm : q_cm M 5 10 11 12 I) (hR : q_HR 16 I E M) : ∀ (d t : Nat) (l2 : Option Value), t + d = I 5 0 → q_lv2 (q_liv I E).2 ((q_ord I).take t).reverse = -1 → At X 33 2 [some (.ref 0), some (.int (nI t)), l2] [] M [.int (q_lv2 (q_liv I E).2 (q_ord I).reverse)] M := by
  obtain ⟨n1, n2, n3, n4, -⟩ := hcm
  have h12 := hwf.2.2.2.1
  intro d
  induction d with
  | zero =>
    intro t l2 ht hl
    have ht : t = I 5 0 := by omega
    subst ht
    rw [List.take_of_length_le (by omega)] at hl
    refine sg_Fv_level_2 ⟨fun _ => ⟨by rw [hl], rfl⟩, fun c => absurd (by rw [n1]; exact Int32.le_refl _) c⟩
  | succ d ih =>
    intro t l2 ht hl
    obtain ⟨x, hx⟩ : ∃ x, (q_ord I)[t]? = some x := ⟨(q_ord I)[t]'(by omega), List.getElem?_eq_getElem (by omega)⟩
    have hxm : x ∈ (q_ord I).reverse := by rw [List.mem_reverse]; exact List.mem_of_getElem? hx
    have hx5 := (q_in_ord hwf).mp hxm
    obtain ⟨o1, o2, -⟩ := hR.2.1 x hxm
    have ob := q_liv_o (E := E) hwf x
    refine sg_Fv_level_2 ⟨fun c => absurd c (q_nle n1 (by omega) (by omega)), fun _ => ?_⟩
    rw [q_cl (by omega), n3 t x hx, q_cl (by omega), show M 18 x = _ from o1, show M 19 x = _ from o2]
    have hs := q_take_s hx
    refine ⟨q_in (by omega) (by omega), q_in (by omega) (by omega), q_in (by omega) (by omega), fun c => ?_, fun c => ⟨?_, rfl⟩⟩
    · rw [show nI t + (1 : Int32) = nI (t + 1) from nI_1 t]
      refine ih (t + 1) _ (by omega) ?_
      rw [hs, q_lv2, hl, if_pos rfl, if_neg]
      intro q
      exact c (by rw [q])
    · have c' := (q_eq (by omega) (by omega)).mp c
      have e : q_lv2 (q_liv I E).2 ((q_ord I).take (t + 1)).reverse = nI x := by
        rw [hs, q_lv2, hl, if_pos rfl, if_pos c']
      have e2 : (q_ord I).reverse = ((q_ord I).drop (t + 1)).reverse ++ ((q_ord I).take (t + 1)).reverse := by
        rw [← List.reverse_append, List.take_append_drop]
      rw [e2, q_lv2_st (by rw [e]; exact (fun q => q_nneg1 (by omega) q)), e]
def q_lev (I : q_N) (E : q_E) : Int32 := q_lv2 (q_liv I E).2 (q_ord I).reverse
theorem c_Fv_level {X : zX} {M : zM} {I : q_N} {E : q_E} (hwf : q_wf I) (hcm : q_cm M 5 10 11 12 I) (hR : q_HR 16 I E M) : Call X 33 [.ref 0] M [.int (q_lev I E)] M :=
  Call.of (Nat.le_of_ble_eq_true rfl) (sg_Fv_level_0 (q_levL hwf hcm hR (I 5 0) 0 none (by omega) (by simp [q_lv2])))
theorem q_ML_lev {I : q_N} {E : q_E} {M : zM} (h : q_ML I E M) : M 53 26 = q_lev I E := by
  rw [h.2.2, q_lvl_2 _ (by rw [List.Nodup, List.pairwise_reverse]; exact List.Pairwise.imp (fun h => Ne.symm h) (q_ord_nodup I))]
  rfl
