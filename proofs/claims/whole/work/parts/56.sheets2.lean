/-! COPY, WRITE, READ -/
theorem q_lgp (x b : Int64) : (0 < lg_cmp x b) ↔ b.toInt < x.toInt := by
  unfold lg_cmp
  simp only [gt_iff_lt, Int64.lt_iff_toInt_lt, ← Int64.toInt_inj]
  split
  · constructor
    · intro h; omega
    · intro h; decide
  · split
    · constructor
      · intro h; exact absurd h (by decide)
      · intro h; omega
    · constructor
      · intro h; exact absurd h (by decide)
      · intro h; omega
theorem q_lgn (x b : Int64) : (lg_cmp x b ≤ 0) ↔ x.toInt ≤ b.toInt := by
  unfold lg_cmp
  simp only [gt_iff_lt, Int64.lt_iff_toInt_lt, ← Int64.toInt_inj]
  split
  · constructor
    · intro h; exact absurd h (by decide)
    · intro h; omega
  · split
    · constructor
      · intro h; omega
      · intro h; decide
    · constructor
      · intro h; omega
      · intro h; decide
theorem q_neg_iff (x : Int32) : x < 0 ↔ x.toInt < 0 := by rw [Int32.lt_iff_toInt_lt]; exact Iff.rfl
theorem q_add64 (x y : Int32) : (x.toInt64 + y.toInt64).toInt = x.toInt + y.toInt := by
  have h1 := Int32.toInt_lt x
  have h2 := Int32.le_toInt x
  have h3 := Int32.toInt_lt y
  have h4 := Int32.le_toInt y
  rw [Int64.toInt_add, Int32.toInt_toInt64, Int32.toInt_toInt64, Int.bmod_def]
  split <;> omega
theorem q_sub32 {z : Nat} {x : Int32} (hz : z ≤ 60) (h : 0 ≤ x.toInt) : (nI z - x).toInt = z - x.toInt := by
  have h1 := Int32.toInt_lt x
  rw [Int32.toInt_sub, q_nI_toInt (by omega), Int.bmod_def]
  split <;> omega
/-- it fits -/
def q_span (z : Nat) (x y : Int32) : Prop := 0 ≤ x.toInt ∧ 0 ≤ y.toInt ∧ x.toInt + y.toInt ≤ z
theorem q_span_1 {X : zX} {M : zM} {s z : Nat} {x y : Int32} (hs : s < 4) (hz : z ≤ 60) (h51 : M 51 s = nI z) (h : q_span z x y) : Call X 70 [.ref 49, .int (nI s), .int x, .int y] M [.int 1] M := by
  have c := c_Sh_hasSpan_s (X := X) (x1 := nI s) (x2 := x) (x3 := y) (M := M) ⟨fun _ => trivial, fun _ => ⟨fun _ => trivial, fun _ => q_in hs (by omega)⟩⟩
  unfold f_Sh_hasSpan_s at c
  obtain ⟨h1, h2, h3⟩ := h
  rw [q_cl (by omega), h51, if_neg (by rw [q_neg_iff]; omega), if_neg (by rw [q_neg_iff]; omega), if_neg (by rw [Int32.lt_iff_toInt_lt, q_sub32 hz h1]; omega)] at c
  exact c
theorem q_span_0 {X : zX} {M : zM} {s z : Nat} {x y : Int32} (hs : s < 4) (hz : z ≤ 60) (h51 : M 51 s = nI z) (h : ¬ q_span z x y) : Call X 70 [.ref 49, .int (nI s), .int x, .int y] M [.int 0] M := by
  have c := c_Sh_hasSpan_s (X := X) (x1 := nI s) (x2 := x) (x3 := y) (M := M) ⟨fun _ => trivial, fun _ => ⟨fun _ => trivial, fun _ => q_in hs (by omega)⟩⟩
  unfold f_Sh_hasSpan_s at c
  rw [q_cl (by omega), h51] at c
  by_cases h1 : x < 0
  · rw [if_pos h1] at c; exact c
  · rw [if_neg h1] at c
    by_cases h2 : y < 0
    · rw [if_pos h2] at c; exact c
    · rw [if_neg h2] at c
      rw [q_neg_iff] at h1 h2
      rw [if_pos (by rw [Int32.lt_iff_toInt_lt, q_sub32 hz (by omega)]; unfold q_span at h; omega)] at c
      exact c
theorem q_cp1 {X : zX} {M : zM} {s i t j n : Nat} {Z : zM → Prop} (hs : s < 4) (hi : i + n ≤ 60) (hgo : ∀ M2, q_fr (fun a b => a = 57) M M2 → (∀ k, k < n → M2 57 k = M 56 (60 * s + i + k)) → ∃ M', At X 87 157 [some (.ref 53), some (.int (nI s)), some (.int (nI i)), some (.int (nI t)), some (.int (nI j)), some (.int (nI n)), some (.int (nI 0))] [] M2 [.int 1] M' ∧ Z M') : ∀ (d a : Nat) (M1 : zM), a + d = n → q_fr (fun a b => a = 57) M M1 → (∀ k, k < a → M1 57 k = M 56 (60 * s + i + k)) → ∃ M', At X 87 120 [some (.ref 53), some (.int (nI s)), some (.int (nI i)), some (.int (nI t)), some (.int (nI j)), some (.int (nI n)), some (.int (nI a))] [] M1 [.int 1] M' ∧ Z M' := by
  intro d
  induction d with
  | zero =>
    intro a M1 ha hf h
    have ha : a = n := by omega
    subst ha
    obtain ⟨M', hA, hZ⟩ := hgo M1 hf h
    exact ⟨M', sg_Mo_copy_120 ⟨fun _ => hA, fun c => absurd (Int32.le_refl _) c⟩, hZ⟩
  | succ d ih =>
    intro a M1 ha hf h
    have fr : ∀ a b, ¬ (a = 57) → M1 a b = M a b := hf
    obtain ⟨M', hA, hZ⟩ := ih (a + 1) (zu M1 57 a (M 56 (60 * s + i + a))) (by omega) (q_fr_zu hf rfl) (fun k hk => by
      by_cases e : k = a
      · rw [e, zu_y]
      · rw [zu_n (by omega)]; exact h k (by omega))
    refine ⟨M', sg_Mo_copy_120 ⟨fun c => absurd c (q_nle rfl (by omega) (by omega)), fun _ => ?_⟩, hZ⟩
    rw [q_60, nI_add, q_cl (by omega), q_cl (by omega), fr 56 _ (by omega), show nI a + (1 : Int32) = nI (a + 1) from nI_1 a]
    exact ⟨q_in (by omega) (by omega), q_in (by omega) (by omega), hA⟩
theorem q_cp2 {X : zX} {M : zM} {s i t j n : Nat} {g : Nat → Int32} (ht : t < 4) (hj : j + n ≤ 60) (hg : ∀ k, k < n → M 57 k = g k) : ∀ (d a : Nat) (M1 : zM), a + d = n → q_fr (fun a b => a = 56) M M1 → (∀ k, M1 56 k = if 60 * t + j ≤ k ∧ k < 60 * t + j + a then g (k - (60 * t + j)) else M 56 k) → ∃ M', At X 87 157 [some (.ref 53), some (.int (nI s)), some (.int (nI i)), some (.int (nI t)), some (.int (nI j)), some (.int (nI n)), some (.int (nI a))] [] M1 [.int 1] M' ∧ q_fr (fun a b => a = 56) M M' ∧ ∀ k, M' 56 k = if 60 * t + j ≤ k ∧ k < 60 * t + j + n then g (k - (60 * t + j)) else M 56 k := by
  intro d
  induction d with
  | zero =>
    intro a M1 ha hf h
    have ha : a = n := by omega
    subst ha
    exact ⟨M1, sg_Mo_copy_157 ⟨fun _ => ⟨rfl, rfl⟩, fun c => absurd (Int32.le_refl _) c⟩, hf, h⟩
  | succ d ih =>
    intro a M1 ha hf h
    have fr : ∀ a b, ¬ (a = 56) → M1 a b = M a b := hf
    obtain ⟨M', hA, hZ⟩ := ih (a + 1) (zu M1 56 (60 * t + j + a) (g a)) (by omega) (q_fr_zu hf rfl) (fun k => by
      by_cases e : k = 60 * t + j + a
      · rw [e, zu_y, if_pos (by omega), show 60 * t + j + a - (60 * t + j) = a by omega]
      · rw [zu_n (by omega), h k]
        by_cases e2 : 60 * t + j ≤ k ∧ k < 60 * t + j + a
        · rw [if_pos e2, if_pos (by omega)]
        · rw [if_neg e2, if_neg (by omega)])
    refine ⟨M', sg_Mo_copy_157 ⟨fun c => absurd c (q_nle rfl (by omega) (by omega)), fun _ => ?_⟩, hZ⟩
    rw [q_60, nI_add, q_cl (a := a) (by omega), q_cl (by omega), fr 57 _ (by omega), hg a (by omega), show nI a + (1 : Int32) = nI (a + 1) from nI_1 a]
    exact ⟨q_in (by omega) (by omega), q_in (by omega) (by omega), hA⟩
theorem q_span_n {z : Nat} {x y : Int32} (hz : z ≤ 60) (h : q_span z x y) : ∃ i n, x = nI i ∧ y = nI n ∧ i + n ≤ z := by
  obtain ⟨h1, h2, h3⟩ := h
  obtain ⟨i, hi, e1⟩ := (q_is_iff (x := x) (n := 61) (by omega)).mpr ⟨h1, by omega⟩
  obtain ⟨n, hn, e2⟩ := (q_is_iff (x := y) (n := 61) (by omega)).mpr ⟨h2, by omega⟩
  refine ⟨i, n, e1, e2, ?_⟩
  rw [e1, e2, q_nI_toInt (by omega), q_nI_toInt (by omega)] at h3
  omega
/-- COPY -/
theorem o_copy {X : zX} {S : q_N} {it : Nat → Int32} {x1 x2 x3 x4 x5 : Int32} (hS : q_ws S) : q_op X 71 87 [.int x1, .int x2, .int x3, .int x4, .int x5] S it := by
  by_cases h1 : q_is x1 4
  case neg =>
    exact q_op_same (.int (-2)) hS (fun M h => Call.of (Nat.le_of_ble_eq_true rfl) (sg_Fv_copy_0 ⟨_, _, q_bel_0 (n := 4) rfl (by omega) h1, fun _ => ⟨rfl, rfl⟩, fun c => absurd rfl c⟩)) (fun M h => Call.of (Nat.le_of_ble_eq_true rfl) (sg_Mo_copy_0 ⟨_, _, q_she_0 h1, fun _ => ⟨rfl, rfl⟩, fun c => absurd rfl c⟩))
  by_cases h2 : q_is x3 4
  case neg =>
    exact q_op_same (.int (-2)) hS (fun M h => Call.of (Nat.le_of_ble_eq_true rfl) (sg_Fv_copy_0 ⟨_, _, q_bel_1 (n := 4) rfl (by omega) h1, fun c => absurd c q_n10, fun _ => ⟨_, _, q_bel_0 (n := 4) rfl (by omega) h2, fun c => absurd rfl c, fun _ => ⟨rfl, rfl⟩⟩⟩)) (fun M h => Call.of (Nat.le_of_ble_eq_true rfl) (sg_Mo_copy_0 ⟨_, _, q_she_1 h1, fun c => absurd c q_n10, fun _ => ⟨_, _, q_she_0 h2, fun c => absurd rfl c, fun _ => ⟨rfl, rfl⟩⟩⟩))
  obtain ⟨s, hs, rfl⟩ := h1
  obtain ⟨t, ht, rfl⟩ := h2
  have hws := hS.2.2.2.2.2.2 s hs
  have hwt := hS.2.2.2.2.2.2 t ht
  have bs := fun M => q_bel_1 (X := X) (M := M) (x := nI s) (y := 4) (n := 4) rfl (by omega) ⟨s, hs, rfl⟩
  have bt := fun M => q_bel_1 (X := X) (M := M) (x := nI t) (y := 4) (n := 4) rfl (by omega) ⟨t, ht, rfl⟩
  have ms := fun M => q_she_1 (X := X) (M := M) (x := nI s) ⟨s, hs, rfl⟩
  have mt := fun M => q_she_1 (X := X) (M := M) (x := nI t) ⟨t, ht, rfl⟩
  have is : vp_in (nI s) 4 := q_in hs (by omega)
  have iT : vp_in (nI t) 4 := q_in ht (by omega)
  by_cases s0 : S 13 s = 0
  · refine q_op_fd (k := 1) (.int ((-10 : Int32) - nI 1)) hS (by omega) (fun M h => Call.of (Nat.le_of_ble_eq_true rfl) (sg_Fv_copy_0 ⟨_, _, bs M, fun c => absurd c q_n10, fun _ => ⟨_, _, bt M, fun _ => ⟨_, _, q_lost_1 h hs s0, fun _ => ⟨_, _, q_fd_C 1, rfl, rfl⟩, fun c => absurd c q_n10⟩, fun c => absurd c q_n10⟩⟩)) (fun M h => Call.of (Nat.le_of_ble_eq_true rfl) (sg_Mo_copy_0 ⟨_, _, ms M, fun c => absurd c q_n10, fun _ => ⟨_, _, mt M, fun _ => ⟨is, ?_⟩, fun c => absurd c q_n10⟩⟩))
    rw [q_cl (a := s) (by omega)]
    have e : M 54 s < 0 := by rw [((q_rM_AB.mp h).2.2.2.1 s hs).1, if_pos s0]; decide
    exact ⟨fun _ => ⟨_, _, q_fd_M 1, rfl, rfl⟩, fun c => absurd e c⟩
  by_cases t0 : S 13 t = 0
  · refine q_op_fd (k := 1) (.int ((-10 : Int32) - nI 1)) hS (by omega) (fun M h => Call.of (Nat.le_of_ble_eq_true rfl) (sg_Fv_copy_0 ⟨_, _, bs M, fun c => absurd c q_n10, fun _ => ⟨_, _, bt M, fun _ => ⟨_, _, q_lost_0 hS h hs s0, fun c => absurd rfl c, fun _ => ⟨_, _, q_lost_1 h ht t0, fun c => absurd c q_n10, fun _ => ⟨_, _, q_fd_C 1, rfl, rfl⟩⟩⟩, fun c => absurd c q_n10⟩⟩)) (fun M h => Call.of (Nat.le_of_ble_eq_true rfl) (sg_Mo_copy_0 ⟨_, _, ms M, fun c => absurd c q_n10, fun _ => ⟨_, _, mt M, fun _ => ⟨is, ?_⟩, fun c => absurd c q_n10⟩⟩))
    rw [q_cl (a := s) (by omega), q_cl (a := t) (by omega)]
    have e := q_form_1 hS h hs s0
    have e' : ¬ M 54 s < 0 := by rw [q_neg_iff]; have := e.2; rw [Int32.le_iff_toInt_le] at this; have t2 : 0 ≤ (M 54 s).toInt := this; omega
    exact ⟨fun c => absurd c e', fun _ => ⟨iT, fun c => absurd c (q_form_0 h ht t0), fun _ => ⟨_, _, q_fd_M 1, rfl, rfl⟩⟩⟩
  have kC : ∀ M, q_rC M S it → M 50 s = nI (S 13 s - 1) ∧ M 50 t = nI (S 13 t - 1) ∧ M 51 s = nI (S 14 s) ∧ M 51 t = nI (S 14 t) := fun M h => ⟨(h.2.2.1.2.2.1 s hs).2 s0, (h.2.2.1.2.2.1 t ht).2 t0, by rw [(h.2.2.1.2.2.1 s hs).1, if_neg s0], by rw [(h.2.2.1.2.2.1 t ht).1, if_neg t0]⟩
  have kM : ∀ M, q_rM M S it → M 54 s = nI (S 13 s - 1) ∧ M 54 t = nI (S 13 t - 1) ∧ M 55 s = nI (S 14 s) ∧ M 55 t = nI (S 14 t) ∧ ¬ M 54 s < 0 ∧ 0 ≤ M 54 t := fun M h => by
    have e := q_form_1 hS h hs s0
    have e2 := q_form_1 hS h ht t0
    refine ⟨e.1, e2.1, ((q_rM_AB.mp h).2.2.2.1 s hs).2, ((q_rM_AB.mp h).2.2.2.1 t ht).2, ?_, e2.2⟩
    rw [q_neg_iff]; have := e.2; rw [Int32.le_iff_toInt_le] at this; have t2 : 0 ≤ (M 54 s).toInt := this; omega
  by_cases hst : S 13 s = S 13 t
  case neg =>
    have hne : ¬ nI (S 13 s - 1) = nI (S 13 t - 1) := fun q => hst (by have := (q_eq (by omega) (by omega)).mp q; omega)
    refine q_op_fd (k := 4) (.int ((-10 : Int32) - nI 4)) hS (by omega) (fun M h => Call.of (Nat.le_of_ble_eq_true rfl) (sg_Fv_copy_0 ⟨_, _, bs M, fun c => absurd c q_n10, fun _ => ⟨_, _, bt M, fun _ => ⟨_, _, q_lost_0 hS h hs s0, fun c => absurd rfl c, fun _ => ⟨_, _, q_lost_0 hS h ht t0, fun _ => ⟨is, iT, ?_⟩, fun c => absurd rfl c⟩⟩, fun c => absurd c q_n10⟩⟩)) (fun M h => Call.of (Nat.le_of_ble_eq_true rfl) (sg_Mo_copy_0 ⟨_, _, ms M, fun c => absurd c q_n10, fun _ => ⟨_, _, mt M, fun _ => ⟨is, ?_⟩, fun c => absurd c q_n10⟩⟩))
    · obtain ⟨a1, a2, a3, a4⟩ := kC M h
      rw [q_cl (a := s) (by omega), q_cl (a := t) (by omega), a1, a2]
      exact ⟨fun c => absurd c hne, fun _ => ⟨_, _, q_fd_C 4, rfl, rfl⟩⟩
    · obtain ⟨a1, a2, a3, a4, a5, a6⟩ := kM M h
      rw [q_cl (a := s) (by omega), q_cl (a := t) (by omega)]
      refine ⟨fun c => absurd c a5, fun _ => ⟨iT, fun _ => ⟨is, iT, ?_⟩, fun c => absurd a6 c⟩⟩
      rw [a1, a2]
      exact ⟨fun c => absurd c hne, fun _ => ⟨_, _, q_fd_M 4, rfl, rfl⟩⟩
  by_cases hsp : q_span (S 14 s) x2 x5 ∧ q_span (S 14 t) x4 x5
  case neg =>
    refine q_op_fd (k := 2) (.int ((-10 : Int32) - nI 2)) hS (by omega) (fun M h => Call.of (Nat.le_of_ble_eq_true rfl) (sg_Fv_copy_0 ⟨_, _, bs M, fun c => absurd c q_n10, fun _ => ⟨_, _, bt M, fun _ => ⟨_, _, q_lost_0 hS h hs s0, fun c => absurd rfl c, fun _ => ⟨_, _, q_lost_0 hS h ht t0, fun _ => ⟨is, iT, ?_⟩, fun c => absurd rfl c⟩⟩, fun c => absurd c q_n10⟩⟩)) (fun M h => Call.of (Nat.le_of_ble_eq_true rfl) (sg_Mo_copy_0 ⟨_, _, ms M, fun c => absurd c q_n10, fun _ => ⟨_, _, mt M, fun _ => ⟨is, ?_⟩, fun c => absurd c q_n10⟩⟩))
    · obtain ⟨a1, a2, a3, a4⟩ := kC M h
      rw [q_cl (a := s) (by omega), q_cl (a := t) (by omega), a1, a2, hst]
      refine ⟨fun _ => ?_, fun c => absurd rfl c⟩
      by_cases g1 : q_span (S 14 s) x2 x5
      · exact ⟨_, _, q_span_1 hs hws.2 a3 g1, fun c => absurd c q_n10, fun _ => ⟨_, _, q_span_0 ht hwt.2 a4 (fun q => hsp ⟨g1, q⟩), fun c => absurd rfl c, fun _ => ⟨_, _, q_fd_C 2, rfl, rfl⟩⟩⟩
      · exact ⟨_, _, q_span_0 hs hws.2 a3 g1, fun _ => ⟨_, _, q_fd_C 2, rfl, rfl⟩, fun c => absurd rfl c⟩
    · obtain ⟨a1, a2, a3, a4, a5, a6⟩ := kM M h
      rw [q_cl (a := s) (by omega), q_cl (a := t) (by omega)]
      refine ⟨fun c => absurd c a5, fun _ => ⟨iT, fun _ => ⟨is, iT, ?_⟩, fun c => absurd a6 c⟩⟩
      rw [a1, a2, a3, a4, hst]
      refine ⟨fun _ => ⟨fun _ => ⟨_, _, q_fd_M 2, rfl, rfl⟩, fun c1 => ⟨fun _ => ⟨_, _, q_fd_M 2, rfl, rfl⟩, fun c2 => ⟨fun _ => ⟨_, _, q_fd_M 2, rfl, rfl⟩, fun c3 => ⟨is, fun _ => ⟨_, _, q_fd_M 2, rfl, rfl⟩, fun c4 => ⟨iT, fun c5 => absurd ?_ hsp, fun _ => ⟨_, _, q_fd_M 2, rfl, rfl⟩⟩⟩⟩⟩⟩, fun c => absurd rfl c⟩
      rw [q_neg_iff] at c1 c2 c3
      rw [q_lgp, q_add64, Int32.toInt_toInt64, q_nI_toInt (by omega)] at c4
      rw [q_lgn, q_add64, Int32.toInt_toInt64, q_nI_toInt (by omega)] at c5
      unfold q_span
      omega
  obtain ⟨g1, g2⟩ := hsp
  obtain ⟨i, n, rfl, rfl, hin⟩ := q_span_n hws.2 g1
  obtain ⟨j, n', rfl, e', hjn'⟩ := q_span_n hwt.2 g2
  have hnn : n' = n := ((q_eq (by omega) (by omega)).mp e').symm
  subst hnn
  refine ⟨.int 1, S, va_cpy it it (60 * s + i) (60 * t + j) n', rfl, hS, fun M h => ⟨zua M 52 (va_cpy (M 52) (M 52) (60 * s + i) (60 * t + j) n'), ?_, fun a b ha => by rw [zua_ne a (by omega)], q_shC h (fun x _ _ => rfl) (fun a b hq => by rw [zua_ne a (by omega)]) (fun k hk => ?_) (fun k hk => ?_)⟩, fun M h => ?_⟩
  · obtain ⟨a1, a2, a3, a4⟩ := kC M h
    refine Call.of (Nat.le_of_ble_eq_true rfl) (sg_Fv_copy_0 ⟨_, _, bs M, fun c => absurd c q_n10, fun _ => ⟨_, _, bt M, fun _ => ⟨_, _, q_lost_0 hS h hs s0, fun c => absurd rfl c, fun _ => ⟨_, _, q_lost_0 hS h ht t0, fun _ => ⟨is, iT, ?_⟩, fun c => absurd rfl c⟩⟩, fun c => absurd c q_n10⟩⟩)
    rw [q_cl (a := s) (by omega), q_cl (a := t) (by omega), a1, a2, hst]
    refine ⟨fun _ => ⟨_, _, q_span_1 hs hws.2 a3 g1, fun c => absurd c q_n10, fun _ => ⟨_, _, q_span_1 ht hwt.2 a4 g2, fun _ => ?_, fun c => absurd c q_n10⟩⟩, fun c => absurd rfl c⟩
    rw [q_06, q_06, q_cl (by omega), q_cl (by omega), q_cl (by omega)]
    exact ⟨fun q => by rw [q_neg_iff, q_nI_toInt (by omega)] at q; omega, fun q => by rw [q_neg_iff, q_nI_toInt (by omega)] at q; omega, fun q => by rw [q_neg_iff, q_nI_toInt (by omega)] at q; omega, by omega, by omega, rfl, rfl⟩
  · rw [zua_ne 51 (by omega), zua_ne 50 (by omega)]; exact h.2.2.1.2.2.1 k hk
  · rw [zua_self]
    unfold va_cpy
    split
    · exact h.2.2.1.2.2.2 _ (by omega)
    · exact h.2.2.1.2.2.2 _ hk
  · obtain ⟨a1, a2, a3, a4, a5, a6⟩ := kM M h
    have k1 := g1
    have k2 := g2
    unfold q_span at k1 k2
    obtain ⟨M', hA, hZ1, hZ2⟩ := q_cp1 (X := X) (M := M) (s := s) (i := i) (t := t) (j := j) (n := n') (Z := fun M' => q_fr (fun a b => a = 56 ∨ a = 57) M M' ∧ ∀ k, M' 56 k = va_cpy (M 56) (M 56) (60 * s + i) (60 * t + j) n' k) hs (by omega) (fun M2 hf h2 => by
      have fr : ∀ a b, ¬ (a = 57) → M2 a b = M a b := hf
      obtain ⟨M', hA, hf2, hZ⟩ := q_cp2 (X := X) (M := M2) (s := s) (i := i) (t := t) (j := j) (n := n') (g := fun k => M 56 (60 * s + i + k)) ht (by omega) h2 n' 0 M2 (by omega) q_fr_rf (fun k => by rw [if_neg (by omega)])
      refine ⟨M', hA, fun a b hq => ?_, fun k => ?_⟩
      · rw [hf2 a b (by omega), fr a b (by omega)]
      · rw [hZ k, fr 56 k (by omega)]
        rfl) n' 0 M (by omega) q_fr_rf (fun k hk => by omega)
    have fr : ∀ a b, ¬ (a = 56 ∨ a = 57) → M' a b = M a b := hZ1
    refine ⟨M', Call.of (Nat.le_of_ble_eq_true rfl) (sg_Mo_copy_0 ⟨_, _, ms M, fun c => absurd c q_n10, fun _ => ⟨_, _, mt M, fun _ => ⟨is, ?_⟩, fun c => absurd c q_n10⟩⟩), fun a b ha => fr a b (by omega), q_shM h (fun x _ _ => rfl) (q_fr_mono hZ1 (fun a b q => by omega)) (fun k hk => ?_) (fun k hk => ?_)⟩
    · rw [q_cl (a := s) (by omega), q_cl (a := t) (by omega)]
      refine ⟨fun c => absurd c a5, fun _ => ⟨iT, fun _ => ⟨is, iT, ?_⟩, fun c => absurd a6 c⟩⟩
      rw [a1, a2, a3, a4, hst]
      refine ⟨fun _ => ⟨fun c => absurd c (by rw [q_neg_iff]; omega), fun _ => ⟨fun c => absurd c (by rw [q_neg_iff]; omega), fun _ => ⟨fun c => absurd c (by rw [q_neg_iff]; omega), fun _ => ⟨is, fun c => absurd c ?_, fun _ => ⟨iT, fun _ => hA, fun c => absurd ?_ c⟩⟩⟩⟩⟩, fun c => absurd rfl c⟩
      · rw [q_lgp, q_add64, Int32.toInt_toInt64, q_nI_toInt (k := S 14 s) (by omega)]; omega
      · rw [q_lgn, q_add64, Int32.toInt_toInt64, q_nI_toInt (k := S 14 t) (by omega)]; omega
    · rw [fr 54 _ (by omega), fr 55 _ (by omega)]; exact (q_rM_AB.mp h).2.2.2.1 k hk
    · rw [hZ2 k]
      unfold va_cpy
      split
      · exact (q_rM_AB.mp h).2.2.2.2 _ (by omega)
      · exact (q_rM_AB.mp h).2.2.2.2 _ hk
