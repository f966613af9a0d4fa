theorem q_nle {x : Int32} {a b : Nat} (hx : x = nI a) (h : b < a) (ha : a < 100000) : ¬ x ≤ nI b := by rw [hx, q_le ha (by omega)]; omega
theorem q_yle {x : Int32} {a b : Nat} (hx : x = nI a) (h : a ≤ b) (hb : b < 100000) : x ≤ nI b := by rw [hx, q_le (by omega) hb]; omega
theorem q_n10 : ¬ (1 : Int32) = 0 := by decide
theorem q_fitsV' (M : zM) {p b : Nat} (hp : p < 4) (hb : b < 256) : f_Fv_fitsVoter (nI p) (nI b) M = if q_ok 0 p b = true then 1 else 0 := q_fitsV M ⟨p, hp⟩ ⟨b, hb⟩
theorem q_fitsM' (M : zM) {p b : Nat} (hp : p < 3) (hb : b < 256) : f_Fv_fitsMeasure (nI p) (nI b) M = if q_ok 1 p b = true then 1 else 0 := q_fitsM M ⟨p, hp⟩ ⟨b, hb⟩
theorem q_voterOf' (M : zM) {p b : Nat} (hp : p < 4) (hb : b < 256) : f_Mo_voterOf (nI p) (nI b) M = if q_ok 0 p b = true then nI (q_val 0 p b) else -9 := q_voterOf M ⟨p, hp⟩ ⟨b, hb⟩
theorem q_measureOf' (M : zM) {p b : Nat} (hp : p < 3) (hb : b < 256) : f_Mo_measureOf (nI p) (nI b) M = if q_ok 1 p b = true then nI (q_val 1 p b) else -9 := q_measureOf M ⟨p, hp⟩ ⟨b, hb⟩
/-- a text of the class: its length, its bytes -/
def q_tx (M : zM) (o a n : Nat) (b : Nat → Nat) : Prop := M o 1 = nI n ∧ ∀ i, i < n → M a i = nI (b i) ∧ b i < 256
theorem q_faultV {X : zX} {M : zM} {n : Nat} {b : Nat → Nat} (h : q_tx M 1 2 n b) (hn : n ≤ 31) : ∀ (d i : Nat) (l : Option Value), i + d = n → At X 4 30 [some (.ref 0), some (.int 0), some (.ref 1), some (.int 4), some (.int (nI i)), l] [] M [.int (q_fl 0 n b d i)] M := by
  intro d
  induction d with
  | zero =>
    intro i l hi
    have hi : i = n := by omega
    subst hi
    refine sg_Fv_fault_v_30 ⟨fun _ => ⟨⟨fun _ => trivial, fun _ => by decide⟩, ?_, rfl⟩, fun c => absurd (q_yle h.1 (Nat.le_refl _) (by omega)) c⟩
    have e1 : nI i - nI i / (4 : Int32) * (4 : Int32) = nI (i % 4) := q_rem (d := 4) (by omega) (by omega) (by omega)
    have e2 : nI i = 0 ↔ i = 0 := q_eq (b := 0) (by omega) (by omega)
    have e3 : nI (i % 4) = (4 : Int32) - 1 ↔ i % 4 = 3 := q_eq (b := 3) (by omega) (by omega)
    rw [h.1, e1]
    simp only [q_fl, e2, e3, q_w]
    by_cases h1 : i = 0
    · simp [h1]
    · by_cases h2 : i % 4 = 3 <;> simp [h1, h2]
  | succ d ih =>
    intro i l hi
    have e1 : nI i - nI i / (4 : Int32) * (4 : Int32) = nI (i % 4) := q_rem (d := 4) (by omega) (by omega) (by omega)
    refine sg_Fv_fault_v_30 ⟨fun c => absurd c (q_nle h.1 (by omega) (by omega)), fun _ => ⟨fun c => absurd rfl c, fun _ => ⟨by decide, q_in (by omega) (by omega), _, _, c_Fv_fitsVoter, ?_⟩⟩⟩
    rw [e1, q_cl (by omega), (h.2 i (by omega)).1, q_fitsV' M (Nat.mod_lt _ (by omega)) (h.2 i (by omega)).2]
    have e4 : q_fl 0 n b (d + 1) i = if q_ok 0 (i % 4) (b i) = true then q_fl 0 n b d (i + 1) else nI i := rfl
    rw [e4]
    by_cases hk : q_ok 0 (i % 4) (b i) = true
    · simp only [if_pos hk]
      exact ⟨fun _ => by rw [show nI i + (1 : Int32) = nI (i + 1) from nI_1 i]; exact ih (i + 1) _ (by omega), fun c => absurd c (by decide)⟩
    · simp only [if_neg hk]
      exact ⟨fun c => absurd trivial c, fun _ => by simp⟩
theorem c_Fv_fault_v {X : zX} {M : zM} {n : Nat} {b : Nat → Nat} (h : q_tx M 1 2 n b) (hn : n ≤ 31) : Call X 4 [.ref 0, .int 0] M [.int (q_fl 0 n b n 0)] M := by
  refine Call.of (Nat.le_of_ble_eq_true rfl) (sg_Fv_fault_v_0 ⟨_, _, c_Fv_below, fun _ => ⟨_, c_Fv_textOf, ?_⟩, fun c => absurd c q_n10⟩)
  exact q_faultV h hn n 0 none (by omega)
theorem q_faultM {X : zX} {M : zM} {n : Nat} {b : Nat → Nat} (h : q_tx M 3 4 n b) (hn : n ≤ 35) : ∀ (d i : Nat) (l : Option Value), i + d = n → At X 4 30 [some (.ref 0), some (.int 1), some (.ref 3), some (.int 3), some (.int (nI i)), l] [] M [.int (q_fl 1 n b d i)] M := by
  intro d
  induction d with
  | zero =>
    intro i l hi
    have hi : i = n := by omega
    subst hi
    refine sg_Fv_fault_m_30 ⟨fun _ => ⟨⟨fun _ => trivial, fun _ => by decide⟩, ?_, rfl⟩, fun c => absurd (q_yle h.1 (Nat.le_refl _) (by omega)) c⟩
    have e1 : nI i - nI i / (3 : Int32) * (3 : Int32) = nI (i % 3) := q_rem (d := 3) (by omega) (by omega) (by omega)
    have e2 : nI i = 0 ↔ i = 0 := q_eq (b := 0) (by omega) (by omega)
    have e3 : nI (i % 3) = (3 : Int32) - 1 ↔ i % 3 = 2 := q_eq (b := 2) (by omega) (by omega)
    rw [h.1, e1]
    simp only [q_fl, e2, e3, q_w]
    by_cases h1 : i = 0
    · simp [h1]
    · by_cases h2 : i % 3 = 2 <;> simp [h1, h2]
  | succ d ih =>
    intro i l hi
    have e1 : nI i - nI i / (3 : Int32) * (3 : Int32) = nI (i % 3) := q_rem (d := 3) (by omega) (by omega) (by omega)
    refine sg_Fv_fault_m_30 ⟨fun c => absurd c (q_nle h.1 (by omega) (by omega)), fun _ => ⟨fun _ => ⟨by decide, q_in (by omega) (by omega), _, _, c_Fv_fitsMeasure, ?_⟩, fun c => absurd c (by decide)⟩⟩
    rw [e1, q_cl (by omega), (h.2 i (by omega)).1, q_fitsM' M (Nat.mod_lt _ (by omega)) (h.2 i (by omega)).2]
    have e4 : q_fl 1 n b (d + 1) i = if q_ok 1 (i % 3) (b i) = true then q_fl 1 n b d (i + 1) else nI i := rfl
    rw [e4]
    by_cases hk : q_ok 1 (i % 3) (b i) = true
    · simp only [if_pos hk]
      exact ⟨fun _ => by rw [show nI i + (1 : Int32) = nI (i + 1) from nI_1 i]; exact ih (i + 1) _ (by omega), fun c => absurd c (by decide)⟩
    · simp only [if_neg hk]
      exact ⟨fun c => absurd trivial c, fun _ => by simp⟩
theorem c_Fv_fault_m {X : zX} {M : zM} {n : Nat} {b : Nat → Nat} (h : q_tx M 3 4 n b) (hn : n ≤ 35) : Call X 4 [.ref 0, .int 1] M [.int (q_fl 1 n b n 0)] M := by
  refine Call.of (Nat.le_of_ble_eq_true rfl) (sg_Fv_fault_m_0 ⟨_, _, c_Fv_below, fun _ => ⟨_, c_Fv_textOf, ?_⟩, fun c => absurd c q_n10⟩)
  exact q_faultM h hn n 0 none (by omega)
