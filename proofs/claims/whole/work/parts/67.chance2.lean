/-! CHANCE -/
def q_chP (S : q_N) (m s : Nat) : Bool := (q_liv (q_I S) (q_told (S 5 0) s (q_K S))).2 4 m == 1
def q_chF (S : q_N) (c m s : Nat) : Nat := if q_chP S m s = true then q_pw c (q_cnt s.testBit 12) (S 5 0) else 0
def q_chA (S : q_N) (c m : Nat) : Nat := q_sum (q_chF S c m) (2 ^ S 5 0)
def q_cha (S : q_N) (c m w : Nat) : Int64 := q_low (q_chA S c m) (2 ^ (4 * S 5 0)) w
theorem q_chF_le {S : q_N} {c m : Nat} (hS : q_ws S) (hc : c ≤ 16) (s : Nat) : q_chF S c m s ≤ 16 ^ 8 := by
  have h8 := hS.2.2.2.1.1
  have h1 := q_pw_le (h := q_cnt s.testBit 12) hc (S 5 0)
  have h2 : 16 ^ S 5 0 ≤ 16 ^ 8 := Nat.pow_le_pow_right (by omega) h8
  unfold q_chF
  split
  · exact Nat.le_trans h1 h2
  · exact Nat.zero_le _
theorem q_2ne {S : q_N} (hS : q_ws S) : 2 ^ S 5 0 ≤ 256 := Nat.pow_le_pow_right (n := 2) (by omega) (i := S 5 0) (j := 8) hS.2.2.2.1.1
theorem q_chS_lt {f : Nat → Nat} {n : Nat} (h : ∀ s, f s ≤ 16 ^ 8) (hn : n ≤ 256) : q_sum f n < 2 ^ 62 := by
  have h1 := q_sum_le h n
  have h2 : n * 16 ^ 8 ≤ 256 * 16 ^ 8 := Nat.mul_le_mul_right _ hn
  have h3 : 256 * 16 ^ 8 < 2 ^ 62 := by decide
  omega
theorem q_chC {X : zX} {M : zM} {S : q_N} {it : Nat → Int32} {c m w : Nat} (hS : q_ws S) (hc : c ≤ 16) (hm : m < q_I S 5 0) : ∀ (d k : Nat) (M1 : zM) (l5 l8 l9 : Option Value), k + d = 2 ^ S 5 0 → q_rC M1 S it → q_fr q_DY M M1 → ∃ M', At X 60 53 [some (.ref 0), some (.int (nI c)), some (.int (nI m)), some (.int (nI w)), some (.long (lN (q_sum (q_chF S c m) k))), l5, some (.int (nI (2 ^ S 5 0))), some (.int (nI k)), l8, l9] [] M1 [.long (q_cha S c m w)] M' ∧ q_fr q_DY M M' ∧ q_rC M' S it := by
  have h8 := hS.2.2.2.1.1
  have h12 := (q_I_wf hS).2.2.2.1
  have h2 := q_2ne hS
  intro d
  induction d with
  | zero =>
    intro k M1 l5 l8 l9 hk hM hf
    have hk : k = 2 ^ S 5 0 := by omega
    subst hk
    have hC := c_Fv_lowestTerm (X := X) (M := M1) (a := q_chA S c m) (ne := S 5 0) (w := w) (q_chS_lt (q_chF_le hS hc) h2) h8 hM.1.2.2.2.1
    exact ⟨M1, sg_Fv_chance_53 ⟨fun _ => ⟨_, _, hC, rfl, rfl⟩, fun c => absurd (Int32.le_refl _) c⟩, hf, hM⟩
  | succ d ih =>
    intro k M1 l5 l8 l9 hk hM hf
    have hbc := c_In_bitCount (X := X) (x0 := nI k) (M := M1)
    rw [q_bc M1 (by omega)] at hbc
    have hcl := q_cnt_le k.testBit 12
    have hW := c_Fv_weightOf (X := X) (M := M1) (c := c) (h := q_cnt k.testBit 12) (ne := S 5 0) hc (by omega) h8 hM.1.2.2.2.1
    have hwl : q_pw c (q_cnt k.testBit 12) (S 5 0) < 2 ^ 62 := by
      have g1 := q_pw_le (h := q_cnt k.testBit 12) hc (S 5 0)
      have g2 : 16 ^ S 5 0 ≤ 16 ^ 8 := Nat.pow_le_pow_right (by omega) h8
      have g3 : 16 ^ 8 < 2 ^ 62 := by decide
      omega
    have hwz : lg_cmp (lN (q_pw c (q_cnt k.testBit 12) (S 5 0))) (0 : Int64) = 0 ↔ q_pw c (q_cnt k.testBit 12) (S 5 0) = 0 := by
      rw [lg_cmp_eq]
      exact pk_lEQ (b := 0) (by omega) (by omega)
    have ek : nI k + (1 : Int32) = nI (k + 1) := nI_1 k
    have hs1 : q_sum (q_chF S c m) (k + 1) = q_sum (q_chF S c m) k + q_chF S c m k := rfl
    by_cases hz : q_pw c (q_cnt k.testBit 12) (S 5 0) = 0
    · obtain ⟨M', hA, hZ⟩ := ih (k + 1) M1 l5 (some (.long (lN (q_pw c (q_cnt k.testBit 12) (S 5 0))))) none (by omega) hM hf
      refine ⟨M', sg_Fv_chance_53 ⟨fun c => absurd ((q_le (by omega) (by omega)).mp c) (by omega), fun _ => ⟨_, _, hbc, _, _, hW, fun _ => ?_, fun q => absurd (hwz.mpr hz) q⟩⟩, hZ⟩
      have e : q_chF S c m k = 0 := by unfold q_chF; split <;> omega
      rw [hs1, e, Nat.add_zero] at hA
      rw [ek]
      exact hA
    · obtain ⟨M2, hO, hf2, hCC⟩ := c_Fv_outcomeOf (X := X) (h := k) hS hM
      rw [Nat.mod_eq_of_lt (by omega)] at hO
      have hM2 := q_rC_Y hM hf2 hCC
      have hoc := q_oc_lt (s := k) hS
      have hB := c_Fv_bit (X := X) (x0 := nI (q_oc S k)) (x1 := nI m) (M := M2)
      rw [q_bit M2 (by omega) (by omega), q_oc_at hS hm] at hB
      have hB' : Call X 7 [.int (nI (q_oc S k)), .int (nI m)] M2 [.int (nI (q_b (q_chP S m k)))] M2 := hB
      by_cases hp : q_chP S m k = true
      · obtain ⟨M', hA, hZ⟩ := ih (k + 1) M2 none (some (.long (lN (q_pw c (q_cnt k.testBit 12) (S 5 0))))) none (by omega) hM2 (q_fr_tr hf hf2)
        refine ⟨M', sg_Fv_chance_53 ⟨fun c => absurd ((q_le (by omega) (by omega)).mp c) (by omega), fun _ => ⟨_, _, hbc, _, _, hW, fun q => absurd (hwz.mp q) hz, fun _ => ⟨_, _, hO, _, _, hB', fun q => absurd (q_bit1.mpr hp) q, fun _ => ?_⟩⟩⟩, hZ⟩
        have e : q_chF S c m k = q_pw c (q_cnt k.testBit 12) (S 5 0) := by unfold q_chF; rw [if_pos hp]
        rw [hs1, e] at hA
        rw [ek, lN_add]
        exact hA
      · obtain ⟨M', hA, hZ⟩ := ih (k + 1) M2 l5 (some (.long (lN (q_pw c (q_cnt k.testBit 12) (S 5 0))))) none (by omega) hM2 (q_fr_tr hf hf2)
        refine ⟨M', sg_Fv_chance_53 ⟨fun c => absurd ((q_le (by omega) (by omega)).mp c) (by omega), fun _ => ⟨_, _, hbc, _, _, hW, fun q => absurd (hwz.mp q) hz, fun _ => ⟨_, _, hO, _, _, hB', fun _ => ?_, fun q => absurd (q_bit1.mp q) hp⟩⟩⟩, hZ⟩
        have e : q_chF S c m k = 0 := by unfold q_chF; rw [if_neg hp]
        rw [hs1, e, Nat.add_zero] at hA
        rw [ek]
        exact hA
theorem c_Fv_chance_r {X : zX} {S : q_N} {c m w : Nat} (hS : q_ws S) (hc : c ≤ 16) (hm : m < q_I S 5 0) (hw : w < 2) : q_cA X 60 [.int (nI c), .int (nI m), .int (nI w)] (.long (q_cha S c m w)) S := fun M it h => by
  have h8 := hS.2.2.2.1.1
  have h12 := (q_I_wf hS).2.2.2.1
  obtain ⟨M', hA, hf, hM'⟩ := q_chC (X := X) (M := M) (it := it) (w := w) hS hc hm (2 ^ S 5 0) 0 M none none none (by omega) h q_fr_rf
  refine ⟨M', Call.of (Nat.le_of_ble_eq_true rfl) (sg_Fv_chance_0 ⟨fun c => absurd c (nI_pos (by omega)), fun _ => ⟨fun c => absurd ((q_lt (a := 16) (by omega) (by omega)).mp c) (by omega), fun _ => ⟨_, _, q_bel_1 h.2.1.2.1.1 (by omega) ⟨m, hm, rfl⟩, fun c => absurd c q_n10, fun _ => ⟨_, _, q_bel_1 (n := 2) rfl (by omega) ⟨w, hw, rfl⟩, fun _ => ?_, fun c => absurd c q_n10⟩⟩⟩⟩), hf, hM'.2.2.2⟩
  rw [show M 5 9 = nI (S 5 0) from h.1.2.2.2.1, q_shl1 (by omega)]
  exact hA
/-- the model's -/
theorem q_cmI {X : zX} {M M' : zM} {c m w k ne b : Nat} {x4 : Int64} {l5 : Option Value} {R : Value} (hc : c ≤ 16) (hne : ne ≤ 8) (hk : k < 2 ^ 31) (h12 : M 53 12 = nI ne) (hgo : At X 153 6 [some (.ref 53), some (.int (nI c)), some (.int (nI m)), some (.int (nI w)), some (.long (x4 + lN (b * q_pm c k ne))), none, some (.int (nI (k + 1))), some (.long (lN (b * q_pm c k ne))), none, some (.int (nI ne))] [] M [R] M') : ∀ (d j : Nat), j + d = ne → At X 153 46 [some (.ref 53), some (.int (nI c)), some (.int (nI m)), some (.int (nI w)), some (.long x4), l5, some (.int (nI k)), some (.long (lN (b * q_pm c k j))), none, some (.int (nI j))] [] M [R] M' := by
  intro d
  induction d with
  | zero =>
    intro j hj
    have hj : j = ne := by omega
    subst hj
    refine sg_Mo_chanceOf_46 ⟨fun _ => ?_, fun c => absurd (by rw [h12]; exact Int32.le_refl _) c⟩
    rw [show nI k + (1 : Int32) = nI (k + 1) from nI_1 k]
    exact hgo
  | succ d ih =>
    intro j hj
    have cI := c_Mo_isIn (X := X) (x0 := nI k) (x1 := nI j) (M := M)
    rw [q_mbit M hk (by omega)] at cI
    have hA := ih (j + 1) (by omega)
    refine sg_Mo_chanceOf_46 ⟨fun c => absurd c (q_nle h12 (by omega) (by omega)), fun _ => ⟨_, _, cI, ?_⟩⟩
    have e : (if nI (q_b (k.testBit j)) = 0 then ((nI c).toInt64) else (((16 : Int32) - nI c).toInt64)) = lN (if k.testBit j = true then 16 - c else c) := by
      rw [← q_16c hc (b := k.testBit j = true)]
      cases k.testBit j with
      | true => rw [if_neg (by decide), if_pos rfl]
      | false => rw [if_pos (by decide), if_neg (by decide)]
    rw [q_pm, ← Nat.mul_assoc] at hA
    rw [e, lN_mul, show nI j + (1 : Int32) = nI (j + 1) from nI_1 j]
    exact hA
theorem q_chG {S : q_N} {c m k : Nat} (hS : q_ws S) (hk : k < 2 ^ S 5 0) : q_b (q_chP S m (2 ^ S 5 0 - 1 - k)) * q_pm c k (S 5 0) = q_chF S c m (2 ^ S 5 0 - 1 - k) := by
  unfold q_chF
  rw [q_pm_pw hS.2.2.2.1.1 hk]
  cases q_chP S m (2 ^ S 5 0 - 1 - k) with
  | true => rw [if_pos rfl, show q_b true = 1 from rfl, Nat.one_mul]
  | false => rw [if_neg (by decide), show q_b false = 0 from rfl, Nat.zero_mul]
theorem q_chM {X : zX} {M : zM} {S : q_N} {c m w : Nat} (hS : q_ws S) (hc : c ≤ 16) (hm : m < q_I S 5 0) (ht : q_mt M (q_I S) (S 5 0) 0 255 (q_K S)) : ∀ (d k : Nat) (M1 : zM) (l5 l7 l8 l9 : Option Value), k + d = 2 ^ S 5 0 → q_fr (fun a b => q_DM a b ∨ (a = 53 ∧ b = 14)) M M1 → ∃ M', At X 153 6 [some (.ref 53), some (.int (nI c)), some (.int (nI m)), some (.int (nI w)), some (.long (lN (q_sum (fun s => q_chF S c m (2 ^ S 5 0 - 1 - s)) k))), l5, some (.int (nI k)), l7, l8, l9] [] M1 [.long (q_cha S c m w)] M' ∧ q_fr q_DM M M' := by
  have h8 := hS.2.2.2.1.1
  have hwf := q_I_wf hS
  have h12 := hwf.2.2.2.1
  have h2 := q_2ne hS
  have h4 : 2 ^ (4 * S 5 0) < 2 ^ 62 := Nat.pow_lt_pow_right (by omega) (by omega)
  intro d
  induction d with
  | zero =>
    intro k M1 l5 l7 l8 l9 hk hf
    have hk : k = 2 ^ S 5 0 := by omega
    subst hk
    have he : M1 53 12 = nI (S 5 0) := by rw [hf 53 12 (by unfold q_DM; omega)]; exact ht.2.2.1
    have hrv : q_sum (fun s => q_chF S c m (2 ^ S 5 0 - 1 - s)) (2 ^ S 5 0) = q_chA S c m := q_sum_rv (q_chF S c m) (2 ^ S 5 0)
    have hC := c_Mo_part (X := X) (M := zu M1 53 14 0) (a := q_chA S c m) (b := 2 ^ (4 * S 5 0)) (w := w) (q_chS_lt (q_chF_le hS hc) h2) (Nat.two_pow_pos _) h4
    refine ⟨zu M1 53 14 0, sg_Mo_chanceOf_6 ⟨fun _ => ?_, fun c => absurd (by rw [he, q_shl1 (by omega)]; exact Int32.le_refl _) c⟩, fun a b hn => ?_⟩
    · rw [he, (q_1shl ⟨S 5 0, by omega⟩).2, hrv]
      exact ⟨_, _, hC, rfl, rfl⟩
    · by_cases e : a = 53 ∧ b = 14
      · rw [e.1, e.2, zu_y]; exact ht.2.2.2.2.1.symm
      · rw [zu_n (by omega)]
        exact hf a b (fun q => by rcases q with q | q; exact hn q; exact e q)
  | succ d ih =>
    intro k M1 l5 l7 l8 l9 hk hf
    have fr : ∀ a b, ¬ (q_DM a b ∨ (a = 53 ∧ b = 14)) → M1 a b = M a b := hf
    have he : M1 53 12 = nI (S 5 0) := by rw [fr 53 12 (by unfold q_DM; omega)]; exact ht.2.2.1
    obtain ⟨M2, hC, hf2, hL⟩ := q_liveT (X := X) hwf (q_mt_gone (g := k) (h := 2 ^ S 5 0 - 1 - k) ht hf (by omega) (fun i hi => by rw [q_tbc (by omega)]; simp [hi]))
    have h73 := (q_mord hwf hL hm).2.2.2.1
    have o := (q_liv_o (E := q_told (S 5 0) (2 ^ S 5 0 - 1 - k) (q_K S)) hwf m).2.2.2.1
    have hN : q_fr (fun a b => q_DM a b ∨ (a = 53 ∧ b = 14)) M M2 := fun a b hn => by
      rw [hf2 a b (fun q => hn (.inl q)), zu_n (by omega)]
      exact hf a b hn
    have e12 : M2 53 12 = nI (S 5 0) := by rw [hN 53 12 (by unfold q_DM; omega)]; exact ht.2.2.1
    obtain ⟨M', hA, hZ⟩ := ih (k + 1) M2 none (some (.long (lN (q_b (q_chP S m (2 ^ S 5 0 - 1 - k)) * q_pm c k (S 5 0))))) none (some (.int (nI (S 5 0)))) (by omega) hN
    refine ⟨M', ?_, hZ⟩
    have hlt : ¬ ((1 : Int32) <<< ((M1 53 12) &&& 31)) ≤ nI k := by
      rw [he, q_shl1 (by omega)]
      exact fun q => by have := (q_le (by omega) (by omega)).mp q; omega
    refine sg_Mo_chanceOf_6 ⟨fun q => absurd q hlt, fun _ => ⟨M2, hC, q_in (by omega) (by omega), ?_⟩⟩
    rw [q_cl (by omega), h73]
    have e1 : (if nI ((q_liv (q_I S) (q_told (S 5 0) (2 ^ S 5 0 - 1 - k) (q_K S))).2 4 m) = 0 then (0 : Int64) else (1 : Int64)) = lN (q_b (q_chP S m (2 ^ S 5 0 - 1 - k)) * q_pm c k 0) := by
      unfold q_chP
      have o2 : (q_liv (q_I S) (q_told (S 5 0) (2 ^ S 5 0 - 1 - k) (q_K S))).2 4 m = 0 ∨ (q_liv (q_I S) (q_told (S 5 0) (2 ^ S 5 0 - 1 - k) (q_K S))).2 4 m = 1 := by omega
      rcases o2 with o2 | o2 <;> rw [o2] <;> rfl
    rw [e1]
    refine q_cmI hc h8 (by omega) e12 ?_ (S 5 0) 0 (by omega)
    rw [q_chG hS (by omega), lN_add]
    rw [q_chG hS (by omega)] at hA
    exact hA
theorem c_Mo_chanceOf_r {X : zX} {S : q_N} {c m w : Nat} (hS : q_ws S) (hc : c ≤ 16) (hm : m < q_I S 5 0) : q_mA X 153 [.int (nI c), .int (nI m), .int (nI w)] (.long (q_cha S c m w)) S := q_mA_M (fun M it h ht => by
  obtain ⟨M', hA, hf⟩ := q_chM (X := X) (w := w) hS hc hm ht (2 ^ S 5 0) 0 M none none none none (by omega) q_fr_rf
  exact ⟨M', Call.of (Nat.le_of_ble_eq_true rfl) (sg_Mo_chanceOf_0 hA), q_fr_mono hf (fun a b q => .inl q)⟩)
theorem c_Mo_no_r {X : zX} {M : zM} : Call X 154 [.int (-2 : Int32)] M [.long (-9223372036854775806 : Int64)] M := by
  have c := c_Mo_no (X := X) (x0 := -2) (M := M)
  rw [show f_Mo_no (-2) M = (-9223372036854775806 : Int64) by unfold f_Mo_no; decide] at c
  exact c
theorem o_chance {X : zX} {S : q_N} {it : Nat → Int32} {x1 x2 x3 : Int32} (hS : q_ws S) : q_op X 60 155 [.int x1, .int x2, .int x3] S it := by
  have h12 := (q_I_wf hS).2.2.2.1
  by_cases h1 : q_is x1 17
  case neg =>
    refine q_op_ask (.long (-9223372036854775806 : Int64)) hS (fun M h => ⟨M, Call.of (Nat.le_of_ble_eq_true rfl) (sg_Fv_chance_0 ⟨fun _ => ⟨rfl, rfl⟩, fun c => ⟨fun _ => ⟨rfl, rfl⟩, fun c2 => absurd (q_is_of (n := 16) (by omega) c c2) h1⟩⟩), q_fr_rf, h.2.2.2⟩) (fun M h => ?_)
    obtain ⟨M1, hC, hf, hv, hmm, hL⟩ := c_Mo_find (X := X) hS h
    exact ⟨M1, Call.of (Nat.le_of_ble_eq_true rfl) (sg_Mo_chance_0 ⟨_, hC, _, _, q_inn_0 (n := 17) (b := 16) (by omega) (by decide) h1, fun _ => ⟨_, _, c_Mo_no_r, rfl, rfl⟩, fun c => absurd rfl c⟩), hf⟩
  obtain ⟨c, hc, rfl⟩ := h1
  by_cases h2 : q_is x2 (q_I S 5 0)
  case neg =>
    refine q_op_ask (.long (-9223372036854775806 : Int64)) hS (fun M h => ⟨M, Call.of (Nat.le_of_ble_eq_true rfl) (sg_Fv_chance_0 ⟨fun c => absurd c (nI_pos (by omega)), fun _ => ⟨fun c => absurd ((q_lt (a := 16) (by omega) (by omega)).mp c) (by omega), fun _ => ⟨_, _, q_bel_0 h.2.1.2.1.1 (by omega) h2, fun _ => ⟨rfl, rfl⟩, fun c => absurd rfl c⟩⟩⟩), q_fr_rf, h.2.2.2⟩) (fun M h => ?_)
    obtain ⟨M1, hC, hf, hv, hmm, hL⟩ := c_Mo_find (X := X) hS h
    exact ⟨M1, Call.of (Nat.le_of_ble_eq_true rfl) (sg_Mo_chance_0 ⟨_, hC, _, _, q_inn_1 (n := 17) (b := 16) (by omega) (by decide) ⟨c, hc, rfl⟩, fun c => absurd c q_n10, fun _ => ⟨_, _, q_isM_0 hmm.1 (by omega) h2, fun _ => ⟨_, _, c_Mo_no_r, rfl, rfl⟩, fun c => absurd rfl c⟩⟩), hf⟩
  obtain ⟨m, hm, rfl⟩ := h2
  by_cases h3 : q_is x3 2
  case neg =>
    refine q_op_ask (.long (-9223372036854775806 : Int64)) hS (fun M h => ⟨M, Call.of (Nat.le_of_ble_eq_true rfl) (sg_Fv_chance_0 ⟨fun c => absurd c (nI_pos (by omega)), fun _ => ⟨fun c => absurd ((q_lt (a := 16) (by omega) (by omega)).mp c) (by omega), fun _ => ⟨_, _, q_bel_1 h.2.1.2.1.1 (by omega) ⟨m, hm, rfl⟩, fun c => absurd c q_n10, fun _ => ⟨_, _, q_bel_0 (n := 2) rfl (by omega) h3, fun c => absurd rfl c, fun _ => ⟨rfl, rfl⟩⟩⟩⟩⟩), q_fr_rf, h.2.2.2⟩) (fun M h => ?_)
    obtain ⟨M1, hC, hf, hv, hmm, hL⟩ := c_Mo_find (X := X) hS h
    exact ⟨M1, Call.of (Nat.le_of_ble_eq_true rfl) (sg_Mo_chance_0 ⟨_, hC, _, _, q_inn_1 (n := 17) (b := 16) (by omega) (by decide) ⟨c, hc, rfl⟩, fun c => absurd c q_n10, fun _ => ⟨_, _, q_isM_1 hmm.1 (by omega) ⟨m, hm, rfl⟩, fun c => absurd c q_n10, fun _ => ⟨_, _, q_two_0 h3, fun _ => ⟨_, _, c_Mo_no_r, rfl, rfl⟩, fun c => absurd rfl c⟩⟩⟩), hf⟩
  obtain ⟨w, hw, rfl⟩ := h3
  refine q_op_ask _ hS (fun M h => c_Fv_chance_r (c := c) (m := m) (w := w) hS (by omega) hm hw M it h) (fun M h => ?_)
  obtain ⟨M1, hC, hf, hmv, hmm, hL⟩ := c_Mo_find (X := X) hS h
  obtain ⟨M2, hC2, hf2, -⟩ := c_Mo_chanceOf_r (X := X) (c := c) (m := m) (w := w) hS (by omega) hm M1 it (q_rM_fr h hf) hmv hmm
  exact ⟨M2, Call.of (Nat.le_of_ble_eq_true rfl) (sg_Mo_chance_0 ⟨_, hC, _, _, q_inn_1 (n := 17) (b := 16) (by omega) (by decide) ⟨c, hc, rfl⟩, fun c => absurd c q_n10, fun _ => ⟨_, _, q_isM_1 hmm.1 (by omega) ⟨m, hm, rfl⟩, fun c => absurd c q_n10, fun _ => ⟨_, _, q_two_1 ⟨w, hw, rfl⟩, fun c => absurd c q_n10, fun _ => ⟨_, _, hC2, rfl, rfl⟩⟩⟩⟩), q_fr_tr hf hf2⟩
