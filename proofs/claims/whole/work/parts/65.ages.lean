/-! AGES -/
def q_ls (s : Int32) : Nat → Int32
  | 0 => s
  | k + 1 => (1103515245 : Int32) * q_ls s k + (12345 : Int32)
def q_u16 (x : Int32) (m : Nat) : Nat := x.toBitVec.toNat / 2 ^ 16 % m
theorem q_lot (x : Int32) {m : Nat} (h0 : 0 < m) (hm : m < 100000) : ((x.toUInt32 >>> ((16 : Int32).toUInt32 &&& Int32.toUInt32 31)).toInt32) - ((x.toUInt32 >>> ((16 : Int32).toUInt32 &&& Int32.toUInt32 31)).toInt32) / nI m * nI m = nI (q_u16 x m) := by
  have hx : x.toBitVec.toNat < 2 ^ 32 := x.toBitVec.isLt
  have e : (x.toUInt32 >>> ((16 : Int32).toUInt32 &&& Int32.toUInt32 31)).toInt32 = nI (x.toBitVec.toNat / 2 ^ 16) := by
    apply Int32.toBitVec_inj.mp
    apply BitVec.eq_of_toNat_eq
    rw [pk_ushr x 16 16 (by decide), pk_tn (by omega)]
  rw [e, q_rem (by omega) h0 hm]
  rfl
def q_agI (S : q_N) (s : Int32) (n : Nat) : q_N := fun x j => match x with
  | 5 => n
  | 6 => q_u16 (q_ls s (2 * j + 1)) 24
  | 7 => q_u16 (q_ls s (2 * j + 2)) 8
  | x => q_I S x j
theorem q_wf_ag {S : q_N} {s : Int32} {n : Nat} (hS : q_ws S) (hn : n ≤ 12) : q_wf (q_agI S s n) := by
  obtain ⟨w1, w2, w3, w4, w5, w6, w7⟩ := q_I_wf hS
  exact ⟨w1, w2, w3, hn, fun m _ => ⟨Nat.mod_lt _ (by omega), Nat.mod_lt _ (by omega)⟩, w6, w7⟩
def q_age (S : q_N) (s : Int32) (n w : Nat) : Int32 := if nI w = 0 then nI (q_np (q_agI S s n) (q_EA S)) else nI (q_nc (q_agI S s n) (q_EA S))
def q_DG : Nat → Nat → Prop := fun a b => a = 32 ∨ a = 30 ∨ a = 31 ∨ (a = 25 ∧ b = 5)
theorem q_agT {M M1 : zM} {S : q_N} {s : Int32} {n : Nat} (hS : q_ws S) (hn : n ≤ 12) (h : q_tr3 M (q_I S) (S 5 0) (q_K S)) (hf : q_fr q_DG M M1) (hm : q_cmn M1 25 30 31 32 (q_agI S s n 6) (q_agI S s n 7) n) : q_tr3 M1 (q_agI S s n) (S 5 0) (q_K S) := by
  have hwf := q_wf_ag (s := s) hS hn
  have fr : ∀ a b, ¬ q_DG a b → M1 a b = M a b := hf
  obtain ⟨⟨v1, v2⟩, ⟨n1, n2, n3, n4, n5, n6⟩, e1, e2, e3⟩ := h
  obtain ⟨m1, m2, m3⟩ := hm
  refine ⟨⟨by rw [fr _ _ (by unfold q_DG; omega)]; exact v1, fun v hv => ?_⟩, ⟨m1, m2, m3, q_ordn_len _ _ (fun m hm => (hwf.2.2.2.2.1 m hm).1), by rw [fr _ _ (by unfold q_DG; omega)]; exact n5, by rw [fr _ _ (by unfold q_DG; omega)]; exact n6⟩, by rw [fr _ _ (by unfold q_DG; omega)]; exact e1, e2, fun i hi => ?_⟩
  · rw [fr 26 _ (by unfold q_DG; omega), fr 27 _ (by unfold q_DG; omega), fr 28 _ (by unfold q_DG; omega), fr 29 _ (by unfold q_DG; omega)]; exact v2 v hv
  · rw [fr 33 _ (by unfold q_DG; omega), fr 34 _ (by unfold q_DG; omega), fr 35 _ (by unfold q_DG; omega)]; exact e3 i hi
theorem q_agC {X : zX} {M : zM} {S : q_N} {s : Int32} {n w : Nat} (hS : q_ws S) (hn : n ≤ 12) (hw : w < 2) (h : q_tr3 M (q_I S) (S 5 0) (q_K S)) : ∀ (d i : Nat) (M1 : zM) (l6 : Option Value), i + d = n → q_fr q_DG M M1 → q_cmn M1 25 30 31 32 (q_agI S s n 6) (q_agI S s n 7) i → ∃ M', At X 62 46 [some (.ref 0), some (.int s), some (.int (nI n)), some (.int (nI w)), some (.int (q_ls s (2 * i))), some (.int (nI i)), l6] [] M1 [.int (q_age S s n w)] M' ∧ q_fr (fun a b => 25 ≤ a ∧ a ≤ 44) M M' := by
  have hwf := q_wf_ag (s := s) hS hn
  intro d
  induction d with
  | zero =>
    intro i M1 l6 hi hf hm
    have hi : i = n := by omega
    subst hi
    obtain ⟨M2, hC, hf2, hR⟩ := q_try (X := X) (held := 255) hwf (q_agT hS hn h hf hm) (by omega)
    have hT := q_agT hS hn h hf hm
    have h250 : M2 25 0 = nI (q_agI S s i 0 0) := by rw [hf2 25 0 (by unfold q_DH; omega)]; exact hT.1.1
    refine ⟨M2, sg_Fv_ages_46 ⟨fun _ => ⟨_, hC, fun c => ?_, fun c => ?_⟩, fun c => absurd (Int32.le_refl _) c⟩, fun a b hn => ?_⟩
    · have hco := c_Vo_coatsInAll_b (X := X) hwf hR
      rw [← h250] at hco
      refine ⟨_, _, hco, ?_, rfl⟩
      unfold q_age
      rw [if_neg c]
      rfl
    · have hc := c_In_bitCount (X := X) (x0 := M2 36 4) (M := M2)
      refine ⟨_, _, hc, ?_, rfl⟩
      unfold q_age
      rw [if_pos c, hR.2.2.1]
      unfold q_pb
      rw [q_bc_bits M2 hwf.2.2.2.1]
      rfl
    · rw [hf2 a b (by unfold q_DH; omega)]
      exact hf a b (by unfold q_DG; omega)
  | succ d ih =>
    intro i M1 l6 hi hf hm
    obtain ⟨M2, hC, hf2, hm2⟩ := c_Ca_addMeasure_r (X := X) (by omega) (fun m _ => show q_u16 (q_ls s (2 * m + 1)) 24 < 24 from Nat.mod_lt _ (by omega)) hm
    obtain ⟨M', hA, hZ⟩ := ih (i + 1) M2 (some (.int (nI (q_u16 (q_ls s (2 * i + 1)) 24)))) (by omega) (q_fr_tr hf (q_fr_mono hf2 (fun a b q => q))) hm2
    have c1 := c_Fv_nextSeed (X := X) (x0 := q_ls s (2 * i)) (M := M1)
    have c2 := c_Fv_nextSeed (X := X) (x0 := q_ls s (2 * i + 1)) (M := M1)
    refine ⟨M', sg_Fv_ages_46 ⟨fun c => absurd ((q_le (by omega) (by omega)).mp c) (by omega), fun _ => ⟨_, _, c1, _, _, c2, M2, ?_, ?_⟩⟩, hZ⟩
    · have e1 := q_lot (q_ls s (2 * i + 1)) (m := 24) (by omega) (by omega)
      have e2 := q_lot (q_ls s (2 * i + 2)) (m := 8) (by omega) (by omega)
      have g : Call X 6 [.ref 25, .int (nI (q_u16 (q_ls s (2 * i + 1)) 24)), .int (nI (q_u16 (q_ls s (2 * i + 2)) 8))] M1 [] M2 := hC
      rw [← e1, ← e2] at g
      exact g
    · have e1 := q_lot (q_ls s (2 * i + 1)) (m := 24) (by omega) (by omega)
      rw [show nI i + (1 : Int32) = nI (i + 1) from nI_1 i]
      rw [← e1, show 2 * (i + 1) = 2 * i + 2 by omega] at hA
      exact hA
theorem c_Fv_ages_r {X : zX} {S : q_N} {s : Int32} {n w : Nat} (hS : q_ws S) (hn : n ≤ 12) (hw : w < 2) : q_cA X 62 [.int s, .int (nI n), .int (nI w)] (.int (q_age S s n w)) S := q_cA_Z (fun M it h => by
  obtain ⟨M5, hB, hfB, hT⟩ := q_become (X := X) hS h.1 h.2.1
  obtain ⟨M', hA, hZ⟩ := q_agC (X := X) (s := s) (w := w) hS hn hw hT n 0 (zu M5 25 5 (0 : Int32)) none (by omega) (q_fr_zu q_fr_rf (by unfold q_DG; omega)) ⟨zu_y, fun m hm => by omega, fun j x hx => by
    rw [show q_ordn (q_agI S s n 6) 0 = [] by rfl] at hx
    cases hx⟩
  refine ⟨M', Call.of (Nat.le_of_ble_eq_true rfl) (sg_Fv_ages_0 ⟨fun c => absurd c (nI_pos (by omega)), fun _ => ⟨fun c => absurd ((q_lt (a := 12) (by omega) (by omega)).mp c) (by omega), fun _ => ⟨_, _, q_bel_1 (n := 2) rfl (by omega) ⟨w, hw, rfl⟩, fun _ => ⟨M5, hB, hA⟩, fun c => absurd c q_n10⟩⟩⟩), fun a b hn => ?_⟩
  unfold q_DZ at hn
  rw [hZ a b (by omega), hfB a b (by omega)])
/-- the model's -/
def q_DQ : Nat → Nat → Prop := fun a b => a = 61 ∨ (a = 53 ∧ (b = 9 ∨ b = 30))
theorem q_agM {X : zX} {M : zM} {S : q_N} {it : Nat → Int32} {s : Int32} {n w : Nat} (hS : q_ws S) (hn : n ≤ 12) (hr : q_rM M S it) (hmv : q_mv M (q_I S)) (hmm : q_mm M (q_I S)) : ∀ (d i : Nat) (M1 : zM), i + d = n → q_fr q_DQ M M1 → M1 53 9 = nI n → M1 53 30 = q_ls s (2 * i) → (∀ j, j < i → M1 61 (2 * j) = nI (q_agI S s n 6 j) ∧ M1 61 (2 * j + 1) = nI (q_agI S s n 7 j)) → ∃ M', At X 157 13 [some (.ref 53), some (.int s), some (.int (nI n)), some (.int (nI w)), some (.int (nI i))] [] M1 [.int (q_age S s n w)] M' ∧ q_fr q_DX M M' ∧ q_mv M' (q_I S) ∧ q_mm M' (q_I S) := by
  have hwf := q_wf_ag (s := s) hS hn
  intro d
  induction d with
  | zero =>
    intro i M1 hi hf h9 h30 h61
    have hi : i = n := by omega
    subst hi
    have fr : ∀ a b, ¬ q_DQ a b → M1 a b = M a b := hf
    have hev : q_mev M1 (S 5 0) 0 255 (q_K S) := q_mev_fr hr.2.2.2.1 (fr _ _ (by unfold q_DQ; omega)) (fr _ _ (by unfold q_DQ; omega)) (by funext b; exact fr _ _ (by unfold q_DQ; omega))
    have hmv1 : q_mv M1 (q_agI S s i) := by
      refine ⟨by rw [fr _ _ (by unfold q_DQ; omega)]; exact hmv.1, fun v hv => ?_⟩
      rw [fr 60 _ (by unfold q_DQ; omega), fr 60 _ (by unfold q_DQ; omega), fr 60 _ (by unfold q_DQ; omega), fr 64 _ (by unfold q_DQ; omega)]
      exact hmv.2 v hv
    have hmm1 : q_mm M1 (q_agI S s i) := ⟨h9, fun m hm => h61 m hm, by rw [fr _ _ (by unfold q_DQ; omega)]; exact hmm.2.2.1, by rw [fr _ _ (by unfold q_DQ; omega)]; exact hmm.2.2.2⟩
    obtain ⟨M2, hC, hf2, hL⟩ := q_live (X := X) hwf hmv1 hmm1 hev
    have fr2 : ∀ a b, ¬ q_DM a b → M2 a b = M1 a b := hf2
    have t1 : q_mt1 M2 (S 2 0) (S 3) := by
      obtain ⟨b1, b2, b3⟩ := hr.2.1
      refine ⟨by rw [fr2 _ _ (by unfold q_DM; omega), fr _ _ (by unfold q_DQ; omega)]; exact b1, b2, fun i hi => ?_⟩
      rw [fr2 58 _ (by unfold q_DM; omega), fr 58 _ (by unfold q_DQ; omega)]
      exact b3 i hi
    obtain ⟨r, M3, hC3, hf3, h39, h361⟩ := q_rdM (X := X) hS t1
    have fr3 : ∀ a b, ¬ q_DP1 a b → M3 a b = M2 a b := hf3
    refine ⟨M3, sg_Mo_agesOf_13 ⟨fun _ => ⟨_, hC, fun c => ?_, fun c => ?_⟩, fun c => absurd (Int32.le_refl _) c⟩, fun a b hn => ?_, ⟨?_, fun v hv => ?_⟩, ⟨h39, fun m hm => ⟨h361 m 0 hm (by omega), h361 m 1 hm (by omega)⟩, ?_, ?_⟩⟩
    · have hco := c_Mo_coatsNow (X := X) hwf hL (by rw [fr2 _ _ (by unfold q_DM; omega)]; exact hmv1.1)
      refine ⟨_, _, hco, _, _, hC3, ?_, rfl⟩
      unfold q_age
      rw [if_neg c]
      rfl
    · have hco := c_Mo_sumBy (X := X) (w := 0) hwf hL (by rw [fr2 _ _ (by unfold q_DM; omega)]; exact hmm1.1) (by omega)
      refine ⟨_, _, hco, _, _, hC3, ?_, rfl⟩
      unfold q_age
      rw [if_pos c]
      rfl
    · unfold q_DX at hn
      rw [fr3 a b (by unfold q_DP1; omega), fr2 a b (by unfold q_DM; omega), fr a b (by unfold q_DQ; omega)]
    · rw [fr3 _ _ (by unfold q_DP1; omega), fr2 _ _ (by unfold q_DM; omega)]; exact hmv1.1
    · rw [fr3 60 _ (by unfold q_DP1; omega), fr2 60 _ (by unfold q_DM; omega), fr3 60 _ (by unfold q_DP1; omega), fr2 60 _ (by unfold q_DM; omega), fr3 60 _ (by unfold q_DP1; omega), fr2 60 _ (by unfold q_DM; omega), fr3 64 _ (by unfold q_DP1; omega), fr2 64 _ (by unfold q_DM; omega)]
      exact hmv1.2 v hv
    · rw [fr3 _ _ (by unfold q_DP1; omega), fr2 _ _ (by unfold q_DM; omega)]; exact hmm1.2.2.1
    · rw [fr3 _ _ (by unfold q_DP1; omega), fr2 _ _ (by unfold q_DM; omega)]; exact hmm1.2.2.2
  | succ d ih =>
    intro i M1 hi hf h9 h30 h61
    have c1 := c_Mo_lot (X := X) (x1 := 24) (M := M1) (by unfold s_Mo_lot; decide)
    have c2 := c_Mo_lot (X := X) (x1 := 8) (M := zu (m_Mo_lot 24 M1) 61 (2 * i) (f_Mo_lot 24 M1)) (by unfold s_Mo_lot; decide)
    have v1 : f_Mo_lot 24 M1 = nI (q_agI S s n 6 i) := by
      have e := q_lot (q_ls s (2 * i + 1)) (m := 24) (by omega) (by omega)
      unfold f_Mo_lot
      rw [h30]
      exact e
    have m1 : m_Mo_lot 24 M1 = zu M1 53 30 (q_ls s (2 * i + 1)) := by
      unfold m_Mo_lot
      rw [h30]
      rfl
    rw [v1, m1] at c1 c2
    have k30 : zu (zu M1 53 30 (q_ls s (2 * i + 1))) 61 (2 * i) (nI (q_agI S s n 6 i)) 53 30 = q_ls s (2 * i + 1) := by rw [zu_n (by omega), zu_y]
    have v2 : f_Mo_lot 8 (zu (zu M1 53 30 (q_ls s (2 * i + 1))) 61 (2 * i) (nI (q_agI S s n 6 i))) = nI (q_agI S s n 7 i) := by
      have e := q_lot (q_ls s (2 * i + 2)) (m := 8) (by omega) (by omega)
      unfold f_Mo_lot
      rw [k30]
      exact e
    have m2 : m_Mo_lot 8 (zu (zu M1 53 30 (q_ls s (2 * i + 1))) 61 (2 * i) (nI (q_agI S s n 6 i))) = zu (zu (zu M1 53 30 (q_ls s (2 * i + 1))) 61 (2 * i) (nI (q_agI S s n 6 i))) 53 30 (q_ls s (2 * i + 2)) := by
      unfold m_Mo_lot
      rw [k30]
      rfl
    rw [v2, m2] at c2
    obtain ⟨M', hA, hZ⟩ := ih (i + 1) (zu (zu (zu (zu M1 53 30 (q_ls s (2 * i + 1))) 61 (2 * i) (nI (q_agI S s n 6 i))) 53 30 (q_ls s (2 * i + 2))) 61 (2 * i + 1) (nI (q_agI S s n 7 i))) (by omega) (q_fr_zu (q_fr_zu (q_fr_zu (q_fr_zu hf (by unfold q_DQ; omega)) (by unfold q_DQ; omega)) (by unfold q_DQ; omega)) (by unfold q_DQ; omega)) (by rw [zu_n (by omega), zu_n (by omega), zu_n (by omega), zu_n (by omega)]; exact h9) (by rw [zu_n (by omega), zu_y, show 2 * (i + 1) = 2 * i + 2 by omega]) (fun j hj => by
      by_cases e : j = i
      · subst e
        refine ⟨?_, zu_y⟩
        rw [zu_n (by omega), zu_n (by omega), zu_y]
      · refine ⟨?_, ?_⟩
        · rw [zu_n (by omega), zu_n (by omega), zu_n (by omega), zu_n (by omega)]
          exact (h61 j (by omega)).1
        · rw [zu_n (by omega), zu_n (by omega), zu_n (by omega), zu_n (by omega)]
          exact (h61 j (by omega)).2)
    have e2 : (2 : Int32) * nI i = nI (2 * i) := pk_mul 2 i
    have e3 : nI (2 * i) + (1 : Int32) = nI (2 * i + 1) := nI_1 _
    refine ⟨M', sg_Mo_agesOf_13 ⟨fun c => absurd ((q_le (by omega) (by omega)).mp c) (by omega), fun _ => ⟨_, _, c1, ?_⟩⟩, hZ⟩
    rw [e2, e3, q_cl (a := 2 * i) (by omega), q_cl (a := 2 * i + 1) (by omega), show nI i + (1 : Int32) = nI (i + 1) from nI_1 i]
    exact ⟨q_in (by omega) (by omega), _, _, c2, q_in (by omega) (by omega), hA⟩
theorem c_Mo_agesOf_r {X : zX} {S : q_N} {s : Int32} {n w : Nat} (hS : q_ws S) (hn : n ≤ 12) : q_mA X 157 [.int s, .int (nI n), .int (nI w)] (.int (q_age S s n w)) S := fun M it h hmv hmm => by
  obtain ⟨M', hA, hZ⟩ := q_agM (X := X) (s := s) (w := w) hS hn h hmv hmm n 0 (zu (zu M 53 30 s) 53 9 (nI n)) (by omega) (q_fr_zu (q_fr_zu q_fr_rf (by unfold q_DQ; omega)) (by unfold q_DQ; omega)) zu_y (by rw [zu_n (by omega), zu_y]; rfl) (fun j hj => by omega)
  exact ⟨M', Call.of (Nat.le_of_ble_eq_true rfl) (sg_Mo_agesOf_0 hA), hZ⟩
theorem q_is_of {x : Int32} {n : Nat} (hn : n < 90000) (c : ¬ x < 0) (c2 : ¬ nI n < x) : q_is x (n + 1) := by
  rw [Int32.lt_iff_toInt_lt] at c c2
  rw [q_nI_toInt (by omega)] at c2
  have c' : ¬ x.toInt < 0 := c
  exact (q_is_iff (by omega)).mpr ⟨by omega, by omega⟩
theorem o_ages {X : zX} {S : q_N} {it : Nat → Int32} {x1 x2 x3 : Int32} (hS : q_ws S) : q_op X 62 158 [.int x1, .int x2, .int x3] S it := by
  by_cases h1 : q_is x2 13
  case neg =>
    refine q_op_ask (.int (-2)) hS (fun M h => ⟨M, Call.of (Nat.le_of_ble_eq_true rfl) (sg_Fv_ages_0 ⟨fun _ => ⟨rfl, rfl⟩, fun c => ⟨fun _ => ⟨rfl, rfl⟩, fun c2 => absurd (q_is_of (n := 12) (by omega) c c2) h1⟩⟩), q_fr_rf, h.2.2.2⟩) (fun M h => ?_)
    obtain ⟨M1, hC, hf, hv, hm, hL⟩ := c_Mo_find (X := X) hS h
    exact ⟨M1, Call.of (Nat.le_of_ble_eq_true rfl) (sg_Mo_ages_0 ⟨_, hC, _, _, q_inn_0 (n := 13) (b := 12) (by omega) (by decide) h1, fun _ => ⟨rfl, rfl⟩, fun c => absurd rfl c⟩), hf⟩
  obtain ⟨n, hn, rfl⟩ := h1
  by_cases h2 : q_is x3 2
  case neg =>
    refine q_op_ask (.int (-2)) hS (fun M h => ⟨M, Call.of (Nat.le_of_ble_eq_true rfl) (sg_Fv_ages_0 ⟨fun c => absurd c (nI_pos (by omega)), fun _ => ⟨fun c => absurd ((q_lt (a := 12) (by omega) (by omega)).mp c) (by omega), fun _ => ⟨_, _, q_bel_0 (n := 2) rfl (by omega) h2, fun c => absurd rfl c, fun _ => ⟨rfl, rfl⟩⟩⟩⟩), q_fr_rf, h.2.2.2⟩) (fun M h => ?_)
    obtain ⟨M1, hC, hf, hv, hm, hL⟩ := c_Mo_find (X := X) hS h
    exact ⟨M1, Call.of (Nat.le_of_ble_eq_true rfl) (sg_Mo_ages_0 ⟨_, hC, _, _, q_inn_1 (n := 13) (b := 12) (by omega) (by decide) ⟨n, hn, rfl⟩, fun c => absurd c q_n10, fun _ => ⟨_, _, q_two_0 h2, fun _ => ⟨rfl, rfl⟩, fun c => absurd rfl c⟩⟩), hf⟩
  obtain ⟨w, hw, rfl⟩ := h2
  refine q_op_ask _ hS (fun M h => c_Fv_ages_r (s := x1) (n := n) (w := w) hS (by omega) hw M it h) (fun M h => ?_)
  obtain ⟨M1, hC, hf, hmv, hmm, hL⟩ := c_Mo_find (X := X) hS h
  obtain ⟨M2, hC2, hf2, -⟩ := c_Mo_agesOf_r (X := X) (s := x1) (n := n) (w := w) hS (by omega) M1 it (q_rM_fr h hf) hmv hmm
  exact ⟨M2, Call.of (Nat.le_of_ble_eq_true rfl) (sg_Mo_ages_0 ⟨_, hC, _, _, q_inn_1 (n := 13) (b := 12) (by omega) (by decide) ⟨n, hn, rfl⟩, fun c => absurd c q_n10, fun _ => ⟨_, _, q_two_1 ⟨w, hw, rfl⟩, fun c => absurd c q_n10, fun _ => ⟨_, _, hC2, rfl, rfl⟩⟩⟩), q_fr_tr hf hf2⟩
