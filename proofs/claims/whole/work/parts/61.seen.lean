/-! WHAT WAS SEEN -/
def q_all (f : Nat → Bool) : Nat → Bool
  | 0 => true
  | n + 1 => q_all f n && f n
theorem q_all_f {f : Nat → Bool} {k : Nat} (h : f k = false) : ∀ n, k < n → q_all f n = false
  | 0, hk => by omega
  | n + 1, hk => by
    rw [q_all]
    by_cases e : k = n
    · rw [← e, h, Bool.and_false]
    · rw [q_all_f h n (by omega), Bool.false_and]
def q_ft (S : q_N) (n : Nat) (P : Nat → Bool) (k : Nat) : Bool := decide (S 10 k < n) && (P (S 10 k) == (S 11 k == 1))
def q_fit (S : q_N) (n : Nat) (P : Nat → Bool) : Bool := q_all (q_ft S n P) (S 9 0)
def q_fitI (S I : q_N) (E : q_E) : Bool := q_fit S (I 5 0) (fun m => (q_liv I E).2 4 m == 1)
theorem q_bt2 {b : Bool} {t : Nat} (ht : t < 2) : nI (q_b b) = nI t ↔ (b == (t == 1)) = true := by
  rcases q_k2 ht with rfl | rfl <;> cases b <;> decide
theorem q_fsL {X : zX} {M : zM} {S : q_N} {n p : Nat} {P : Nat → Bool} (hS : q_ws S) (hn : n ≤ 12) (h55 : M 5 5 = nI n) (hs : M 0 11 = nI (S 9 0) ∧ ∀ i, i < S 9 0 → M 45 i = nI (S 10 i) ∧ M 46 i = nI (S 11 i)) (hp : p < 2 ^ 31) (hb : ∀ m, m < n → p.testBit m = P m) : ∀ (d k : Nat), k + d = S 9 0 → q_all (q_ft S n P) k = true → At X 51 2 [some (.ref 0), some (.int (nI p)), some (.int (nI k))] [] M [.int (nI (q_b (q_fit S n P)))] M := by
  obtain ⟨h9, h10⟩ := hS.2.2.2.2.1
  intro d
  induction d with
  | zero =>
    intro k hk ha
    have hk : k = S 9 0 := by omega
    subst hk
    refine sg_Fv_fitsSeen_2 ⟨fun _ => ⟨?_, rfl⟩, fun c => absurd (by rw [hs.1]; exact Int32.le_refl _) c⟩
    unfold q_fit
    rw [ha]
    rfl
  | succ d ih =>
    intro k hk ha
    obtain ⟨b1, b2⟩ := h10 k (by omega)
    have hno : q_ft S n P k = false → q_fit S n P = false := fun h => q_all_f h (S 9 0) (by omega)
    refine sg_Fv_fitsSeen_2 ⟨fun c => absurd c (q_nle hs.1 (by omega) (by omega)), fun _ => ⟨q_in (by omega) (by omega), ?_⟩⟩
    rw [q_cl (by omega), (hs.2 k (by omega)).1, h55]
    refine ⟨fun c => ⟨?_, rfl⟩, fun c => ⟨q_in (by omega) (by omega), ?_⟩⟩
    · have c' := (q_le (by omega) (by omega)).mp c
      rw [hno (by unfold q_ft; simp; omega)]
      rfl
    · have c' : S 10 k < n := by
        rw [q_le (by omega) (by omega)] at c
        omega
      have cb := c_Fv_bit (X := X) (x0 := nI p) (x1 := nI (S 10 k)) (M := M)
      rw [q_bit M hp (by omega), hb _ c'] at cb
      refine ⟨_, _, cb, q_in (by omega) (by omega), ?_⟩
      rw [(hs.2 k (by omega)).2, show nI k + (1 : Int32) = nI (k + 1) from nI_1 k]
      refine ⟨fun e => ih (k + 1) (by omega) ?_, fun e => ⟨?_, rfl⟩⟩
      · rw [q_all, ha, Bool.true_and]
        unfold q_ft
        rw [(q_bt2 b2).mp e]
        simp [c']
      · rw [hno (by
          unfold q_ft
          have : ¬ (P (S 10 k) == (S 11 k == 1)) = true := fun q => e ((q_bt2 b2).mpr q)
          simp only [Bool.not_eq_true] at this
          rw [this, Bool.and_false])]
        rfl
theorem c_Fv_fitsSeen {X : zX} {M : zM} {S : q_N} {n p : Nat} {P : Nat → Bool} (hS : q_ws S) (hn : n ≤ 12) (h55 : M 5 5 = nI n) (hs : M 0 11 = nI (S 9 0) ∧ ∀ i, i < S 9 0 → M 45 i = nI (S 10 i) ∧ M 46 i = nI (S 11 i)) (hp : p < 2 ^ 31) (hb : ∀ m, m < n → p.testBit m = P m) : Call X 51 [.ref 0, .int (nI p)] M [.int (nI (q_b (q_fit S n P)))] M :=
  Call.of (Nat.le_of_ble_eq_true rfl) (sg_Fv_fitsSeen_0 (q_fsL hS hn h55 hs hp hb (S 9 0) 0 (by omega) rfl))
/-- the model's -/
def q_sn (M : zM) (S : q_N) : Prop := M 53 27 = nI (S 9 0) ∧ ∀ i, i < S 9 0 → M 75 (2 * i) = nI (S 10 i) ∧ M 75 (2 * i + 1) = nI (S 11 i)
theorem q_sn_fr {M M1 : zM} {S : q_N} (h : q_sn M S) (h1 : M1 53 27 = M 53 27) (h2 : ∀ b, M1 75 b = M 75 b) : q_sn M1 S := ⟨h1.trans h.1, fun i hi => by rw [h2, h2]; exact h.2 i hi⟩
theorem q_bb (b : Bool) : nI (q_b b) = 0 ∨ nI (q_b b) = 1 := by cases b <;> decide
theorem q_isL {X : zX} {M : zM} {S I : q_N} {E : q_E} (hS : q_ws S) (hwf : q_wf I) (hL : q_ML I E M) (h9 : M 53 9 = nI (I 5 0)) (hs : q_sn M S) : ∀ (d k : Nat) (l3 : Option Value), k + d = S 9 0 → At X 142 8 [some (.ref 53), some (.int (nI (q_b (q_all (q_ft S (I 5 0) (fun m => (q_liv I E).2 4 m == 1)) k)))), some (.int (nI k)), l3] [] M [.int (nI (q_b (q_fitI S I E)))] M := by
  obtain ⟨k9, k10⟩ := hS.2.2.2.2.1
  have h12 := hwf.2.2.2.1
  intro d
  induction d with
  | zero =>
    intro k l3 hk
    have hk : k = S 9 0 := by omega
    subst hk
    exact sg_Mo_isSeen_8 ⟨fun _ => ⟨q_bb _, rfl, rfl⟩, fun c => absurd (by rw [hs.1]; exact Int32.le_refl _) c⟩
  | succ d ih =>
    intro k l3 hk
    obtain ⟨b1, b2⟩ := k10 k (by omega)
    have e1 : (2 : Int32) * nI k = nI (2 * k) := pk_mul 2 k
    have e2 : nI (2 * k) + (1 : Int32) = nI (2 * k + 1) := nI_1 _
    have hA := ih (k + 1)
    refine sg_Mo_isSeen_8 ⟨fun c => absurd c (q_nle hs.1 (by omega) (by omega)), fun _ => ?_⟩
    rw [e1, e2, q_cl (a := 2 * k) (by omega), q_cl (a := 2 * k + 1) (by omega), (hs.2 k (by omega)).1, show nI k + (1 : Int32) = nI (k + 1) from nI_1 k]
    refine ⟨q_in (by omega) (by omega), fun c => ?_, fun c => ?_⟩
    · have ha : q_all (q_ft S (I 5 0) (fun m => (q_liv I E).2 4 m == 1)) k = false := q_b_0.mp c
      have := ih (k + 1) (some (.int (nI (S 10 k)))) (by omega)
      rw [q_all, ha, Bool.false_and] at this
      exact this
    · have ha : q_all (q_ft S (I 5 0) (fun m => (q_liv I E).2 4 m == 1)) k = true := q_b_n0.mp c
      have hI := ih (k + 1) (some (.int (nI (S 10 k)))) (by omega)
      rw [q_all, ha, Bool.true_and] at hI
      unfold q_ft at hI
      by_cases cm : S 10 k < I 5 0
      · refine ⟨_, _, q_isM_1 h9 (by omega) ⟨S 10 k, cm, rfl⟩, ⟨fun _ => trivial, fun _ => ⟨q_in (by omega) (by omega), q_in (by omega) (by omega)⟩⟩, ?_⟩
        rw [if_neg q_n10, q_cl (by omega), (q_mord hwf hL cm).2.2.2.1, (hs.2 k (by omega)).2]
        have ob := (q_liv_o (E := E) hwf (S 10 k)).2.2.2.1
        have e : (if nI ((q_liv I E).2 4 (S 10 k)) = (if nI (S 11 k) = (1 : Int32) then (1 : Int32) else (0 : Int32)) then (1 : Int32) else (0 : Int32)) = nI (q_b (decide (S 10 k < I 5 0) && ((q_liv I E).2 4 (S 10 k) == 1) == (S 11 k == 1))) := by
          have o2 : (q_liv I E).2 4 (S 10 k) = 0 ∨ (q_liv I E).2 4 (S 10 k) = 1 := by omega
          have t2 : S 11 k = 0 ∨ S 11 k = 1 := by omega
          have cd : decide (S 10 k < I 5 0) = true := by simp [cm]
          rw [cd]
          rcases o2 with o | o <;> rcases t2 with t | t <;> rw [o, t] <;> decide
        rw [e]
        exact hI
      · refine ⟨_, _, q_isM_0 h9 (by omega) (fun q => ?_), ⟨fun _ => trivial, fun c => absurd rfl c⟩, ?_⟩
        · obtain ⟨j, hj, e⟩ := q
          have := (q_eq (by omega) (by omega)).mp e
          omega
        · rw [if_pos rfl]
          have cd : decide (S 10 k < I 5 0) = false := by simp [cm]
          rw [cd, Bool.false_and] at hI
          exact hI
theorem c_Mo_isSeen {X : zX} {M : zM} {S I : q_N} {ne gone held : Nat} {K : q_N} (hS : q_ws S) (hwf : q_wf I) (h : q_mt M I ne gone held K) (hs : q_sn M S) : ∃ M', Call X 142 [.ref 53] M [.int (nI (q_b (q_fitI S I (q_told ne held K))))] M' ∧ q_fr q_DM M M' ∧ q_ML I (q_told ne held K) M' := by
  obtain ⟨M1, hC, hf, hL⟩ := q_liveT (X := X) hwf h
  have fr : ∀ a b, ¬ q_DM a b → M1 a b = M a b := hf
  exact ⟨M1, Call.of (Nat.le_of_ble_eq_true rfl) (sg_Mo_isSeen_0 ⟨M1, hC, q_isL hS hwf hL (by rw [fr _ _ (by unfold q_DM; omega)]; exact h.2.1.1) (q_sn_fr hs (fr _ _ (by unfold q_DM; omega)) (fun b => fr _ _ (by unfold q_DM; omega))) (S 9 0) 0 none (by omega)⟩), hf, hL⟩
/-! SETS OF EVENTS -/
theorem q_tl_hd {K : q_N} {held held' k y v : Nat} : ∀ n, (∀ i, i < n → held.testBit i = held'.testBit i) → q_tl K held k y v n = q_tl K held' k y v n
  | 0, _ => rfl
  | n + 1, h => by rw [q_tl, q_tl, q_tl_hd n (fun i hi => h i (by omega)), h n (by omega)]
theorem q_told_hd {K : q_N} {ne held held' : Nat} (h : ∀ i, i < ne → held.testBit i = held'.testBit i) : q_told ne held K = q_told ne held' K := by
  funext k y v
  exact q_tl_hd ne h
theorem q_oc_lt {S : q_N} {s : Nat} (hS : q_ws S) : q_oc S s < 8192 := by
  have := q_pb_lt (E := q_told (S 5 0) s (q_K S)) (q_I_wf hS)
  unfold q_oc
  split <;> omega
theorem q_or4096 {p : Nat} (h : p < 4096) : p ||| 4096 = p + 4096 := by
  have e := Nat.two_pow_add_eq_or_of_lt (i := 12) (b := p) (by omega) 1
  rw [Nat.or_comm, Nat.add_comm]
  exact e.symm
theorem q_nc_le {I : q_N} {E : q_E} (hwf : q_wf I) : q_nc I E ≤ 96 := by
  have h : ∀ n, q_sum ((q_liv I E).1 2) n ≤ 12 * n := by
    intro n
    induction n with
    | zero => simp [q_sum]
    | succ n ih => have := (q_liv_c (E := E) hwf n).1; rw [q_sum]; omega
  have := h (I 0 0)
  have := hwf.1
  unfold q_nc
  omega
theorem q_fillL {X : zX} {M : zM} : ∀ (d k : Nat) (M1 : zM), k + d = 256 → q_fr (fun a b => a = 48) M M1 → (∀ j, j < k → M1 48 j = -1) → ∃ M', At X 43 5 [some (.ref 48), some (.int (-1)), some (.int (nI k)), some (.int (256 : Int32))] [] M1 [] M' ∧ q_fr (fun a b => a = 48) M M' ∧ ∀ j, j < 256 → M' 48 j = -1 := by
  intro d
  induction d with
  | zero =>
    intro k M1 hk hf h
    have hk : k = 256 := by omega
    subst hk
    exact ⟨M1, sg_Ar_fill_o_5 ⟨fun _ => ⟨rfl, rfl⟩, fun c => absurd (Int32.le_refl _) c⟩, hf, h⟩
  | succ d ih =>
    intro k M1 hk hf h
    obtain ⟨M', hA, hZ⟩ := ih (k + 1) (zu M1 48 k (-1)) (by omega) (q_fr_zu hf rfl) (fun j hj => by
      by_cases e : j = k
      · rw [e, zu_y]
      · rw [zu_n (by omega)]; exact h j (by omega))
    refine ⟨M', sg_Ar_fill_o_5 ⟨fun c => absurd ((q_le (a := 256) (by omega) (by omega)).mp c) (by omega), fun _ => ⟨q_in (by omega) (by omega), ?_⟩⟩, hZ⟩
    rw [q_cl (by omega), show nI k + (1 : Int32) = nI (k + 1) from nI_1 k]
    exact hA
/-- what isn't known is found -/
theorem q_miss {X : zX} {M : zM} {S : q_N} {s : Nat} (hS : q_ws S) (hs : s < 256) (hT : q_CT M S) (hV : q_CV M S) : ∃ M2 r3, Call X 13 [.ref 36, .ref 5, .int (nI s)] M [] M2 ∧ Call X 44 [.ref 36, .int (M2 5 0)] M2 [.int r3] M2 ∧ q_fr (q_DH 36) M M2 ∧ (if r3 ≤ 0 then (M2 36 4) else ((M2 36 4) ||| (4096 : Int32))) = nI (q_oc S s) := by
  have hwf := q_I_wf hS
  obtain ⟨M2, hC, hf, hR⟩ := q_tryT (X := X) (held := s) hwf hV.1 hV.2.1 hT.2.2.2 (by omega)
  have h50 : M2 5 0 = nI (q_I S 0 0) := by rw [hf 5 0 (by unfold q_DH; omega)]; exact hV.1.1
  have hco := c_Vo_coatsInAll_b (X := X) hwf hR
  have hnc := q_nc_le (E := q_told (S 5 0) s (q_K S)) hwf
  have hpb := q_pb_lt (E := q_told (S 5 0) s (q_K S)) hwf
  refine ⟨M2, _, hC, by rw [h50]; exact hco, hf, ?_⟩
  rw [hR.2.2.1]
  unfold q_oc
  by_cases c : q_nc (q_I S) (q_told (S 5 0) s (q_K S)) = 0
  · have c1 : nI (q_nc (q_I S) (q_told (S 5 0) s (q_K S))) ≤ 0 := by rw [c]; decide
    have c2 : ¬ q_anyc (q_I S) (q_told (S 5 0) s (q_K S)) = true := by unfold q_anyc; rw [c]; decide
    rw [if_pos c1, if_neg c2, Nat.add_zero]
  · have c1 : ¬ nI (q_nc (q_I S) (q_told (S 5 0) s (q_K S))) ≤ 0 := fun q => by have := (q_le (b := 0) (by omega) (by omega)).mp q; omega
    have c2 : q_anyc (q_I S) (q_told (S 5 0) s (q_K S)) = true := by unfold q_anyc; rw [Nat.blt_eq]; omega
    rw [if_neg c1, if_pos c2, show (4096 : Int32) = nI 4096 from rfl, q_or, q_or4096 hpb]
theorem q_and255 {h : Nat} : nI h &&& (255 : Int32) = nI (h % 256) := by
  rw [show (255 : Int32) = nI 255 from rfl, q_and, show (255 : Nat) = 2 ^ 8 - 1 from rfl, Nat.and_two_pow_sub_one_eq_mod]
theorem c_Fv_outcomeOf {X : zX} {M : zM} {S : q_N} {it : Nat → Int32} {h : Nat} (hS : q_ws S) (hM : q_rC M S it) : ∃ M1, Call X 45 [.ref 0, .int (nI h)] M [.int (nI (q_oc S (h % 256)))] M1 ∧ q_fr q_DY M M1 ∧ q_CC M1 S := by
  have hs : h % 256 < 256 := by omega
  have hoc := q_oc_lt (s := h % 256) hS
  have hin : vp_in (nI (h % 256)) 256 := q_in (by omega) (by omega)
  have hcl : (nI (h % 256)).toNatClampNeg = h % 256 := q_cl (by omega)
  obtain ⟨hT, hV, hB, hCC⟩ := hM
  rcases hCC with h1 | ⟨h0, hk⟩
  · obtain ⟨M4, hA, hf4, h48⟩ := q_fillL (X := X) (M := M) 256 0 M (by omega) q_fr_rf (fun j hj => by omega)
    have hF : Call X 43 [.ref 48, .int (-1)] M [] M4 := Call.of (Nat.le_of_ble_eq_true rfl) (sg_Ar_fill_o_0 hA)
    have hfZ : q_fr (fun a b => a = 48 ∨ (a = 0 ∧ b = 13)) M (zu M4 0 13 (0 : Int32)) := q_fr_zu (q_fr_mono hf4 (fun a b q => .inl q)) (.inr ⟨rfl, rfl⟩)
    obtain ⟨M2, r3, hC, hco, hf2, hv⟩ := q_miss (X := X) (s := h % 256) hS hs (q_CT_fr hT hfZ (fun a b q => by omega)) (q_CV_fr hV hfZ (fun a b q => by omega))
    refine ⟨zu M2 48 (h % 256) (nI (q_oc S (h % 256))), Call.of (Nat.le_of_ble_eq_true rfl) (sg_Fv_outcomeOf_0 ⟨fun c => absurd (h1.symm.trans c) q_n10, fun _ => ⟨M4, hF, ?_⟩⟩), fun a b hn => ?_, .inr ⟨?_, fun s hs' => ?_⟩⟩
    · rw [q_and255, hcl]
      refine ⟨hin, fun c => absurd (h48 _ hs) c, fun _ => ⟨M2, hC, r3, M2, hco, hin, hin, ?_⟩⟩
      rw [hv, zu_y]
      exact ⟨rfl, rfl⟩
    · unfold q_DY at hn
      rw [zu_n (by omega), hf2 a b (by unfold q_DH; omega)]
      exact hfZ a b (by omega)
    · rw [zu_n (by omega), hf2 0 13 (by unfold q_DH; omega), zu_y]
    · by_cases e : s = h % 256
      · rw [e, zu_y]; exact .inr rfl
      · rw [zu_n (by omega), hf2 48 s (by unfold q_DH; omega), zu_n (by omega)]
        exact .inl (h48 s hs')
  · rcases hk (h % 256) hs with e1 | e1
    · obtain ⟨M2, r3, hC, hco, hf2, hv⟩ := q_miss (X := X) (s := h % 256) hS hs hT hV
      refine ⟨zu M2 48 (h % 256) (nI (q_oc S (h % 256))), Call.of (Nat.le_of_ble_eq_true rfl) (sg_Fv_outcomeOf_0 ⟨fun _ => ?_, fun c => absurd h0 c⟩), fun a b hn => ?_, .inr ⟨?_, fun s hs' => ?_⟩⟩
      · rw [q_and255, hcl]
        refine ⟨hin, fun c => absurd e1 c, fun _ => ⟨M2, hC, r3, M2, hco, hin, hin, ?_⟩⟩
        rw [hv, zu_y]
        exact ⟨rfl, rfl⟩
      · unfold q_DY at hn
        rw [zu_n (by omega), hf2 a b (by unfold q_DH; omega)]
      · rw [zu_n (by omega), hf2 0 13 (by unfold q_DH; omega)]; exact h0
      · by_cases e : s = h % 256
        · rw [e, zu_y]; exact .inr rfl
        · rw [zu_n (by omega), hf2 48 s (by unfold q_DH; omega)]
          exact hk s hs'
    · refine ⟨M, Call.of (Nat.le_of_ble_eq_true rfl) (sg_Fv_outcomeOf_0 ⟨fun _ => ?_, fun c => absurd h0 c⟩), q_fr_rf, .inr ⟨h0, hk⟩⟩
      rw [q_and255, hcl, e1]
      exact ⟨hin, fun _ => ⟨hin, rfl, rfl⟩, fun c => absurd c (q_nneg1 (by omega))⟩
/-- no coat is turned -/
def q_kp (S : q_N) (s : Nat) : Bool := !q_anyc (q_I S) (q_told (S 5 0) s (q_K S))
theorem q_oc_and {S : q_N} {s : Nat} (hS : q_ws S) : (if nI (q_oc S s) &&& (4096 : Int32) = 0 then (1 : Int32) else (0 : Int32)) = nI (q_b (q_kp S s)) := by
  have hpb := q_pb_lt (E := q_told (S 5 0) s (q_K S)) (q_I_wf hS)
  have hand : ∀ a b : Nat, a < 4096 → (a &&& 4096 = 0) ∧ (a + 4096) &&& 4096 = 4096 := by
    intro a _ ha
    refine ⟨?_, ?_⟩
    · apply Nat.eq_of_testBit_eq
      intro i
      rw [Nat.testBit_and, show (4096 : Nat) = 2 ^ 12 from rfl, Nat.testBit_two_pow, Nat.zero_testBit]
      by_cases e : 12 = i
      · subst e
        rw [Nat.testBit_lt_two_pow (by omega)]
        rfl
      · simp [e]
    · rw [← q_or4096 ha]
      apply Nat.eq_of_testBit_eq
      intro i
      rw [Nat.testBit_and, Nat.testBit_or]
      cases (4096 : Nat).testBit i <;> simp
  unfold q_oc q_kp
  rw [show (4096 : Int32) = nI 4096 from rfl, q_and]
  by_cases c : q_anyc (q_I S) (q_told (S 5 0) s (q_K S)) = true
  · rw [if_pos c, (hand _ 0 hpb).2, c]
    rfl
  · rw [if_neg c, Nat.add_zero, (hand _ 0 hpb).1]
    simp only [Bool.not_eq_true] at c
    rw [c]
    rfl
theorem c_Fv_kc {X : zX} {M : zM} {S : q_N} {it : Nat → Int32} {h : Nat} (hS : q_ws S) (hM : q_rC M S it) : ∃ (r : Int32) (M1 : zM), Call X 45 [.ref 0, .int (nI h)] M [.int r] M1 ∧ Call X 46 [.int r] M1 [.int (nI (q_b (q_kp S (h % 256))))] M1 ∧ q_fr q_DY M M1 ∧ q_CC M1 S := by
  obtain ⟨M1, hC, hf, hCC⟩ := c_Fv_outcomeOf (X := X) (h := h) hS hM
  have hK := c_Fv_keepsCoats (X := X) (x0 := nI (q_oc S (h % 256))) (M := M1)
  unfold f_Fv_keepsCoats at hK
  rw [q_oc_and hS] at hK
  exact ⟨_, M1, hC, hK, hf, hCC⟩
/-! a set without one; without two -/
def q_h0 (ne : Nat) : Nat := 2 ^ ne - 1
def q_h1 (ne a : Nat) : Nat := (2 ^ ne - 1) &&& (255 ^^^ 2 ^ a)
def q_h2 (ne a b : Nat) : Nat := ((2 ^ ne - 1) &&& (255 ^^^ 2 ^ a)) &&& (255 ^^^ 2 ^ b)
theorem q_h0_x : ∀ ne : Fin 9, ((1 : Int32) <<< (nI ne.val &&& 31)) - (1 : Int32) = nI (q_h0 ne.val) ∧ q_h0 ne.val < 256 ∧ ∀ i : Fin 8, i.val < ne.val → (q_h0 ne.val).testBit i.val = true := by decide +kernel
theorem q_h1_x : ∀ (ne : Fin 9) (a : Fin 8), nI (q_h0 ne.val) &&& (((1 : Int32) <<< (nI a.val &&& 31)) ^^^ (-1 : Int32)) = nI (q_h1 ne.val a.val) ∧ q_h1 ne.val a.val < 256 ∧ ∀ i : Fin 8, i.val < ne.val → (q_h1 ne.val a.val).testBit i.val = !(2 ^ a.val).testBit i.val := by decide +kernel
theorem q_h2_x : ∀ (ne : Fin 9) (a b : Fin 8), nI (q_h1 ne.val a.val) &&& (((1 : Int32) <<< (nI b.val &&& 31)) ^^^ (-1 : Int32)) = nI (q_h2 ne.val a.val b.val) ∧ q_h2 ne.val a.val b.val < 256 ∧ ∀ i : Fin 8, i.val < ne.val → (q_h2 ne.val a.val b.val).testBit i.val = !(2 ^ a.val ||| 2 ^ b.val).testBit i.val := by decide +kernel
theorem q_or1 : ∀ a b : Fin 8, ((1 : Int32) <<< (nI a.val &&& 31)) ||| ((1 : Int32) <<< (nI b.val &&& 31)) = nI (2 ^ a.val ||| 2 ^ b.val) ∧ 2 ^ a.val ||| 2 ^ b.val < 256 := by decide +kernel
/-- the model without some -/
theorem q_mt_gone {M M1 : zM} {I : q_N} {ne held g h : Nat} {K : q_N} (ht : q_mt M I ne 0 held K) (hf : q_fr (fun a b => q_DM a b ∨ (a = 53 ∧ b = 14)) M M1) (hg : g < 2 ^ 31) (hh : ∀ i, i < ne → h.testBit i = !g.testBit i) : q_mt (zu M1 53 14 (nI g)) I ne g h K := by
  have fr : ∀ a b, ¬ q_DM a b → ¬ (a = 53 ∧ b = 14) → zu M1 53 14 (nI g) a b = M a b := fun a b h1 h2 => by
    rw [zu_n (by omega)]
    exact hf a b (fun q => by rcases q with q | q <;> contradiction)
  obtain ⟨⟨v1, v2⟩, ⟨n1, n2, n3, n4⟩, d1, d2, d3, d4, d5, d6⟩ := ht
  refine ⟨⟨by rw [fr _ _ (by unfold q_DM; omega) (by omega)]; exact v1, fun v hv => ?_⟩, ⟨by rw [fr _ _ (by unfold q_DM; omega) (by omega)]; exact n1, fun m hm => ?_, by rw [fr _ _ (by unfold q_DM; omega) (by omega)]; exact n3, by rw [fr _ _ (by unfold q_DM; omega) (by omega)]; exact n4⟩, by rw [fr _ _ (by unfold q_DM; omega) (by omega)]; exact d1, d2, zu_y, hg, hh, fun i hi => ?_⟩
  · rw [fr 60 _ (by unfold q_DM; omega) (by omega), fr 60 _ (by unfold q_DM; omega) (by omega), fr 60 _ (by unfold q_DM; omega) (by omega), fr 64 _ (by unfold q_DM; omega) (by omega)]; exact v2 v hv
  · rw [fr 61 _ (by unfold q_DM; omega) (by omega), fr 61 _ (by unfold q_DM; omega) (by omega)]; exact n2 m hm
  · rw [fr 63 _ (by unfold q_DM; omega) (by omega), fr 63 _ (by unfold q_DM; omega) (by omega), fr 63 _ (by unfold q_DM; omega) (by omega)]; exact d6 i hi
theorem q_ML_fr {I : q_N} {E : q_E} {M M1 : zM} (h : q_ML I E M) (hf : ∀ a b, q_DM a b → M1 a b = M a b) : q_ML I E M1 := by
  obtain ⟨h1, h2, h3⟩ := h
  refine ⟨fun v hv => ?_, fun m hm => ?_, by rw [hf _ _ (by unfold q_DM; omega)]; exact h3⟩
  · rw [hf 65 _ (by unfold q_DM; omega), hf 66 _ (by unfold q_DM; omega), hf 67 _ (by unfold q_DM; omega), hf 68 _ (by unfold q_DM; omega)]; exact h1 v hv
  · rw [hf 70 _ (by unfold q_DM; omega), hf 71 _ (by unfold q_DM; omega), hf 72 _ (by unfold q_DM; omega), hf 73 _ (by unfold q_DM; omega), hf 74 _ (by unfold q_DM; omega)]
    obtain ⟨a, b, c, d, e, f⟩ := h2 m hm
    exact ⟨a, b, c, d, e, fun v hv => by rw [hf 69 _ (by unfold q_DM; omega)]; exact f v hv⟩
theorem c_Mo_isSpared {X : zX} {M : zM} {I : q_N} {ne held g h : Nat} {K : q_N} (hwf : q_wf I) (ht : q_mt M I ne 0 held K) (hg : g < 2 ^ 31) (hh : ∀ i, i < ne → h.testBit i = !g.testBit i) : ∃ M', Call X 137 [.ref 53, .int (nI g)] M [.int (nI (q_b (!q_anyc I (q_told ne h K))))] M' ∧ q_fr q_DM M M' := by
  obtain ⟨M1, hC, hf, hL⟩ := q_liveT (X := X) hwf (q_mt_gone (M1 := M) ht q_fr_rf hg hh)
  have fr : ∀ a b, ¬ q_DM a b → M1 a b = zu M 53 14 (nI g) a b := hf
  have hL2 : q_ML I (q_told ne h K) (zu M1 53 14 (0 : Int32)) := q_ML_fr hL (fun a b q => zu_n (by unfold q_DM at q; omega))
  have hco := c_Mo_coatsNow (X := X) hwf hL2 (by rw [zu_n (by omega), fr _ _ (by unfold q_DM; omega), zu_n (by omega)]; exact ht.1.1)
  have hnc := q_nc_le (E := q_told ne h K) hwf
  refine ⟨_, Call.of (Nat.le_of_ble_eq_true rfl) (sg_Mo_isSpared_0 ⟨M1, hC, _, _, hco, ?_, rfl⟩), fun a b hn => ?_⟩
  · by_cases c : q_nc I (q_told ne h K) = 0
    · have c2 : q_anyc I (q_told ne h K) = false := by unfold q_anyc; rw [c]; rfl
      rw [c, c2]
      rfl
    · have c1 : ¬ nI (q_nc I (q_told ne h K)) = 0 := fun q => c ((q_eq (b := 0) (by omega) (by omega)).mp q)
      have c2 : q_anyc I (q_told ne h K) = true := by unfold q_anyc; rw [Nat.blt_eq]; omega
      rw [if_neg c1, c2]
      rfl
  · by_cases e : a = 53 ∧ b = 14
    · rw [e.1, e.2, zu_y]; exact ht.2.2.2.2.1.symm
    · rw [zu_n (by omega), fr a b hn, zu_n (by omega)]
