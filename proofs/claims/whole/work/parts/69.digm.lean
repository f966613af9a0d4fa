/-! DIGEST: the model's -/
theorem q_rdV2 {X : zX} {M : zM} {S : q_N} (hS : q_ws S) (t0 : q_mt0 M (S 0 0) (S 1)) : ∃ M1, Call X 94 [.ref 53] M [.int (q_fl 0 (S 0 0) (S 1) (S 0 0) 0)] M1 ∧ q_fr q_DP0 M M1 ∧ M1 53 7 = nI (q_nv S) ∧ ∀ v w, v < q_nv S → w < 3 → M1 60 (3 * v + w) = nI (q_I S (1 + w) v) := by
  obtain ⟨M1, hC1, r1, r2, r3⟩ := c_Mo_readsVoters (X := X) t0
  refine ⟨M1, hC1, r1, ?_, fun v w hv hw => ?_⟩
  · unfold q_nv
    split
    · rename_i hc; exact (r2 hc).1
    · rename_i hc; exact r3 hc
  · unfold q_nv at hv
    split at hv
    · rename_i hc
      have g := (r2 hc).2
      obtain ⟨-, g2⟩ := q_fl_c (t := 0) (by have := t0.2.1; omega) (S 0 0) 0 (by omega) hc
      have hq : q_w 0 = 4 := rfl
      rw [hq] at g2
      have g0 := g (4 * v + w) (by omega) (by omega)
      rw [show 3 * ((4 * v + w) / 4) + (4 * v + w) % 4 = 3 * v + w by omega, show (4 * v + w) % 4 = w by omega] at g0
      rw [g0]
      have : w = 0 ∨ w = 1 ∨ w = 2 := by omega
      rcases this with rfl | rfl | rfl <;> rfl
    · omega
theorem q_rdM2 {X : zX} {M : zM} {S : q_N} (hS : q_ws S) (t1 : q_mt1 M (S 2 0) (S 3)) : ∃ M1, Call X 96 [.ref 53] M [.int (q_fl 1 (S 2 0) (S 3) (S 2 0) 0)] M1 ∧ q_fr q_DP1 M M1 ∧ M1 53 9 = nI (q_nm S) ∧ ∀ m w, m < q_nm S → w < 2 → M1 61 (2 * m + w) = nI (q_I S (6 + w) m) := by
  obtain ⟨M1, hC1, r1, r2, r3⟩ := c_Mo_readsMeasures (X := X) t1
  refine ⟨M1, hC1, r1, ?_, fun m w hm hw => ?_⟩
  · unfold q_nm
    split
    · rename_i hc; exact (r2 hc).1
    · rename_i hc; exact r3 hc
  · unfold q_nm at hm
    split at hm
    · rename_i hc
      have g := (r2 hc).2
      obtain ⟨-, g2⟩ := q_fl_c (t := 1) (by have := t1.2.1; omega) (S 2 0) 0 (by omega) hc
      have hq : q_w 1 = 3 := rfl
      rw [hq] at g2
      have g0 := g (3 * m + w) (by omega) (by omega)
      rw [show 2 * ((3 * m + w) / 3) + (3 * m + w) % 3 = 2 * m + w by omega, show (3 * m + w) % 3 = w by omega] at g0
      rw [g0]
      have : w = 0 ∨ w = 1 := by omega
      rcases this with rfl | rfl <;> rfl
    · omega
def q_sm (S : q_N) (it : Nat → Int32) (M M1 : zM) : Prop := q_fr q_DX M M1 ∧ q_rM M1 S it ∧ q_mv M1 (q_I S) ∧ q_mm M1 (q_I S)
theorem q_goM {X : zX} {k : Nat} {args : List Value} {r : Value} {S : q_N} {it : Nat → Int32} {M M1 : zM} (hA : q_mA X k args r S) (h : q_sm S it M M1) : ∃ M2, Call X k (.ref 53 :: args) M1 [r] M2 ∧ q_sm S it M M2 := by
  obtain ⟨M2, hC, hf, hv, hm⟩ := hA M1 it h.2.1 h.2.2.1 h.2.2.2
  exact ⟨M2, hC, q_fr_tr h.1 hf, q_rM_fr h.2.1 hf, hv, hm⟩
theorem q_goL {X : zX} {S : q_N} {it : Nat → Int32} {M M1 : zM} (hS : q_ws S) (h : q_sm S it M M1) : ∃ M2, Call X 114 [.ref 53] M1 [] M2 ∧ q_sm S it M M2 ∧ q_ML (q_I S) (q_EA S) M2 := by
  have ht : q_mt M1 (q_I S) (S 5 0) 0 255 (q_K S) := ⟨h.2.2.1, h.2.2.2, h.2.1.2.2.2.1⟩
  obtain ⟨M2, hC, hf, hL⟩ := q_liveT (X := X) (q_I_wf hS) ht
  have hx : q_fr q_DX M1 M2 := q_fr_mono hf (fun a b q => by unfold q_DM at q; unfold q_DX; omega)
  have ht2 := q_mt_fr (M1 := M2) ht (fun a b q => hf a b (by unfold q_DM; omega))
  exact ⟨M2, hC, ⟨q_fr_tr h.1 hx, q_rM_fr h.2.1 hx, ht2.1, ht2.2.1⟩, hL⟩
theorem q_smA {S : q_N} {it : Nat → Int32} {M M1 : zM} (h : q_sm S it M M1) : q_fr q_DX M M1 ∧ q_mv M1 (q_I S) ∧ q_mm M1 (q_I S) := ⟨h.1, h.2.2.1, h.2.2.2⟩
/-- of a measure -/
theorem q_tm3 {X : zX} {S : q_N} {M : zM} {m : Nat} {x1 h : Int64} {l2 : Option Value} (hS : q_ws S) (hv : q_mv M (q_I S)) (hL : q_ML (q_I S) (q_EA S) M) (hm : m < q_I S 5 0) : ∀ (d k : Nat) (l5 : Option Value), k + d = q_I S 0 0 → At X 161 144 [some (.ref 53), some (.long x1), l2, some (.int (nI m)), some (.long (q_fo (fun v => nI ((q_liv (q_I S) (q_EA S)).2 0 (8 * m + v))) h k)), l5, some (.int (nI k))] [] M [.long (q_dM3 S h m)] M := by
  have hwf := q_I_wf hS
  have h8 := hwf.1
  have h12 := hwf.2.2.2.1
  intro d
  induction d with
  | zero =>
    intro k l5 hk
    have hk : k = q_I S 0 0 := by omega
    subst hk
    exact sg_Mo_tellsMeasure_144 ⟨fun _ => ⟨rfl, rfl⟩, fun c => absurd (by rw [hv.1]; exact Int32.le_refl _) c⟩
  | succ d ih =>
    intro k l5 hk
    have e : (8 : Int32) * nI m + nI k = nI (8 * m + k) := by rw [show (8 : Int32) = nI 8 from rfl, pk_mul, nI_add]
    refine sg_Mo_tellsMeasure_144 ⟨fun c => absurd c (q_nle hv.1 (by omega) (by omega)), fun _ => ?_⟩
    rw [e, q_cl (by omega), (q_mord hwf hL hm).2.2.2.2.2 k (by omega), show nI k + (1 : Int32) = nI (k + 1) from nI_1 k]
    exact ⟨q_in (by omega) (by omega), ih (k + 1) none (by omega)⟩
theorem q_tm1 {X : zX} {S : q_N} {M M' : zM} {m : Nat} {x1 h : Int64} {l2 : Option Value} {R : Value} (hS : q_ws S) (hL : q_ML (q_I S) (q_EA S) M) (hm : m < q_I S 5 0) (hgo : ∀ l5 : Option Value, At X 161 44 [some (.ref 53), some (.long x1), l2, some (.int (nI m)), some (.long (q_dM1 S h m)), l5, some (.int (nI 5))] [] M [R] M') : ∀ (d k : Nat) (l5 : Option Value), k + d = 5 → At X 161 44 [some (.ref 53), some (.long x1), l2, some (.int (nI m)), some (.long (q_fo (fun w => nI ((q_liv (q_I S) (q_EA S)).2 (1 + w) m)) h k)), l5, some (.int (nI k))] [] M [R] M' := by
  intro d
  induction d with
  | zero =>
    intro k l5 hk
    have hk : k = 5 := by omega
    subst hk
    exact hgo l5
  | succ d ih =>
    intro k l5 hk
    refine sg_Mo_tellsMeasure_44 ⟨fun c => absurd ((q_le (a := 5) (by omega) (by omega)).mp c) (by omega), fun _ => ⟨_, _, q_tb (w := k) (q_I_wf hS) hL hm (by omega), ?_⟩⟩
    rw [show nI k + (1 : Int32) = nI (k + 1) from nI_1 k]
    exact ih (k + 1) none (by omega)
theorem c_Mo_tellsMeasure_r {X : zX} {S : q_N} {m : Nat} {h : Int64} (hS : q_ws S) (hm : m < q_I S 5 0) : q_mA X 161 [.long h, .int (nI m)] (.long (q_dM S h m)) S := fun M it hM hv hmm => by
  have h12 := (q_I_wf hS).2.2.2.1
  obtain ⟨M0, p0, s0, hL0⟩ := q_goL (X := X) hS (show q_sm S it M M from ⟨q_fr_rf, hM, hv, hmm⟩)
  obtain ⟨M1, p1, s1⟩ := q_goM (c_Mo_putOf_r (X := X) (w := 0) hS hm) s0
  obtain ⟨M2, p2, s2⟩ := q_goM (c_Mo_putOf_r (X := X) (w := 1) hS hm) s1
  obtain ⟨M3, p3, s3⟩ := q_goM (c_Mo_chanceOf_r (X := X) (c := 5) (w := 0) hS (by omega) hm) s2
  obtain ⟨M4, p4, s4⟩ := q_goM (c_Mo_chanceOf_r (X := X) (c := 5) (w := 1) hS (by omega) hm) s3
  obtain ⟨M5, p5, s5, hL5⟩ := q_goL (X := X) hS s4
  have e2 : (2 : Int32) * nI m = nI (2 * m) := pk_mul 2 m
  have e3 : nI (2 * m) + (1 : Int32) = nI (2 * m + 1) := nI_1 _
  have g := s0.2.2.2.2.1 m hm
  refine ⟨M5, Call.of (Nat.le_of_ble_eq_true rfl) (sg_Mo_tellsMeasure_0 ⟨_, p0, ?_⟩), q_smA s5⟩
  rw [e2, e3, q_cl (a := 2 * m) (by omega), q_cl (a := 2 * m + 1) (by omega), g.1, g.2]
  refine ⟨q_in (by omega) (by omega), q_in (by omega) (by omega), ?_⟩
  refine q_tm1 (h := q_dM0 S h m) hS hL0 hm (fun l5 => ?_) 5 0 none (by omega)
  exact sg_Mo_tellsMeasure_44 ⟨fun _ => ⟨_, _, p1, _, _, p2, _, _, p3, _, _, p4, _, p5, q_tm3 (h := q_dM2 S (q_dM1 S (q_dM0 S h m) m) m) hS s5.2.2.1 hL5 hm (q_I S 0 0) 0 none (by omega)⟩, fun c => absurd (Int32.le_refl _) c⟩
/-- of a voter -/
theorem q_tv1 {X : zX} {S : q_N} {M M' : zM} {v : Nat} {x1 h : Int64} {l2 : Option Value} {R : Value} (hS : q_ws S) (hL : q_ML (q_I S) (q_EA S) M) (hv : v < q_I S 0 0) (hgo : ∀ l5 : Option Value, At X 162 46 [some (.ref 53), some (.long x1), l2, some (.int (nI v)), some (.long (q_dV1 S h v)), l5, some (.int (nI 4))] [] M [R] M') : ∀ (d k : Nat) (l5 : Option Value), k + d = 4 → At X 162 46 [some (.ref 53), some (.long x1), l2, some (.int (nI v)), some (.long (q_fo (fun w => nI ((q_liv (q_I S) (q_EA S)).1 w v)) h k)), l5, some (.int (nI k))] [] M [R] M' := by
  intro d
  induction d with
  | zero =>
    intro k l5 hk
    have hk : k = 4 := by omega
    subst hk
    exact hgo l5
  | succ d ih =>
    intro k l5 hk
    refine sg_Mo_tellsVoter_46 ⟨fun c => absurd ((q_le (a := 4) (by omega) (by omega)).mp c) (by omega), fun _ => ⟨_, _, q_ab (w := k) (q_I_wf hS) hL hv (by omega), ?_⟩⟩
    rw [show nI k + (1 : Int32) = nI (k + 1) from nI_1 k]
    exact ih (k + 1) none (by omega)
theorem q_tv0 {X : zX} {S : q_N} {M M' : zM} {v : Nat} {x1 h : Int64} {l2 : Option Value} {R : Value} (hS : q_ws S) (hmv : q_mv M (q_I S)) (hv : v < q_I S 0 0) (hgo : At X 162 46 [some (.ref 53), some (.long x1), l2, some (.int (nI v)), some (.long (q_dV0 S h v)), none, some (.int (nI 0))] [] M [R] M') : ∀ (d k : Nat) (l5 : Option Value), k + d = 3 → At X 162 10 [some (.ref 53), some (.long x1), l2, some (.int (nI v)), some (.long (q_fo (fun w => nI (q_I S (1 + w) v)) h k)), l5, some (.int (nI k))] [] M [R] M' := by
  have h8 := (q_I_wf hS).1
  intro d
  induction d with
  | zero =>
    intro k l5 hk
    have hk : k = 3 := by omega
    subst hk
    exact sg_Mo_tellsVoter_10 ⟨fun _ => hgo, fun c => absurd (Int32.le_refl _) c⟩
  | succ d ih =>
    intro k l5 hk
    have e : (3 : Int32) * nI v + nI k = nI (3 * v + k) := by rw [show (3 : Int32) = nI 3 from rfl, pk_mul, nI_add]
    have g : M 60 (3 * v + k) = nI (q_I S (1 + k) v) := by
      obtain ⟨a, b, c, -⟩ := hmv.2 v hv
      have : k = 0 ∨ k = 1 ∨ k = 2 := by omega
      rcases this with rfl | rfl | rfl
      · exact a
      · exact b
      · exact c
    refine sg_Mo_tellsVoter_10 ⟨fun c => absurd ((q_le (a := 3) (by omega) (by omega)).mp c) (by omega), fun _ => ?_⟩
    rw [e, q_cl (by omega), g, show nI k + (1 : Int32) = nI (k + 1) from nI_1 k]
    exact ⟨q_in (by omega) (by omega), ih (k + 1) none (by omega)⟩
theorem c_Mo_tellsVoter_r {X : zX} {S : q_N} {v : Nat} {h : Int64} (hS : q_ws S) (hv : v < q_I S 0 0) : q_mA X 162 [.long h, .int (nI v)] (.long (q_dV S h v)) S := fun M it hM hmv hmm => by
  obtain ⟨M0, p0, s0, hL0⟩ := q_goL (X := X) hS (show q_sm S it M M from ⟨q_fr_rf, hM, hmv, hmm⟩)
  obtain ⟨M1, p1, s1⟩ := q_goM (c_Mo_wasOf_r (X := X) (w := 0) hS hv (by omega)) s0
  obtain ⟨M2, p2, s2⟩ := q_goM (c_Mo_wasOf_r (X := X) (w := 1) hS hv (by omega)) s1
  refine ⟨M2, Call.of (Nat.le_of_ble_eq_true rfl) (sg_Mo_tellsVoter_0 ⟨_, p0, ?_⟩), q_smA s2⟩
  refine q_tv0 (h := h) hS s0.2.2.1 hv ?_ 3 0 none (by omega)
  refine q_tv1 (h := q_dV0 S h v) hS hL0 hv (fun l5 => ?_) 4 0 none (by omega)
  exact sg_Mo_tellsVoter_46 ⟨fun _ => ⟨_, _, p1, _, _, p2, rfl, rfl⟩, fun c => absurd (Int32.le_refl _) c⟩
/-- the trials -/
theorem q_mg4 {X : zX} {S : q_N} {it : Nat → Int32} {M : zM} {h : Int64} (hS : q_ws S) : ∀ (d k : Nat) (M1 : zM) (l2 : Option Value), k + d = 3 → q_sm S it M M1 → ∃ M', At X 163 171 [some (.ref 53), some (.long (q_fo (fun w => q_swp (q_I S) (q_EA S) w) h k)), l2, some (.int (nI k))] [] M1 [.long (q_dT S h)] M' ∧ q_sm S it M M' := by
  intro d
  induction d with
  | zero =>
    intro k M1 l2 hk s0
    have hk : k = 3 := by omega
    subst hk
    obtain ⟨M2, p1, s1⟩ := q_goM (c_Mo_wishBy_r (X := X) (w := 0) hS) s0
    obtain ⟨M3, p2, s2⟩ := q_goM (c_Mo_wishBy_r (X := X) (w := 1) hS) s1
    obtain ⟨M4, p3, s3⟩ := q_goM (c_Mo_spareBy_r (X := X) (x := -1) hS) s2
    obtain ⟨M5, p4, s4⟩ := q_goM (c_Mo_spareBy_r (X := X) (x := 0) hS) s3
    obtain ⟨M6, p5, s5⟩ := q_goM (c_Mo_mightBy_r (X := X) (w := 0) hS (by omega)) s4
    obtain ⟨M7, p6, s6⟩ := q_goM (c_Mo_mightBy_r (X := X) (w := 1) hS (by omega)) s5
    obtain ⟨M8, p7, s7⟩ := q_goM (c_Mo_askNow_r (X := X) hS) s6
    obtain ⟨M9, p8, s8⟩ := q_goM (c_Mo_agesOf_r (X := X) (s := 7) (n := 9) (w := 0) hS (by omega)) s7
    obtain ⟨M10, p9, s9⟩ := q_goM (c_Mo_agesOf_r (X := X) (s := 7) (n := 9) (w := 1) hS (by omega)) s8
    exact ⟨M10, sg_Mo_digest_171 ⟨fun _ => ⟨_, _, p1, _, _, p2, _, _, p3, _, _, p4, _, _, p5, _, _, p6, _, _, p7, _, _, p8, _, _, p9, rfl, rfl⟩, fun c => absurd (Int32.le_refl _) c⟩, s9⟩
  | succ d ih =>
    intro k M1 l2 hk s0
    obtain ⟨M2, p1, s1⟩ := q_goM (c_Mo_swapBy_r (X := X) (w := k) hS) s0
    obtain ⟨M', hA, hZ⟩ := ih (k + 1) M2 none (by omega) s1
    refine ⟨M', sg_Mo_digest_171 ⟨fun c => absurd ((q_le (a := 3) (by omega) (by omega)).mp c) (by omega), fun _ => ⟨_, _, p1, ?_⟩⟩, hZ⟩
    rw [show nI k + (1 : Int32) = nI (k + 1) from nI_1 k]
    exact hA
theorem q_mg3 {X : zX} {S : q_N} {it : Nat → Int32} {M : zM} (hS : q_ws S) : ∀ (d k : Nat) (M1 : zM) (l2 : Option Value), k + d = q_I S 0 0 → q_sm S it M M1 → ∃ M', At X 163 82 [some (.ref 53), some (.long (q_it (q_dV S) (q_d2 S) k)), l2, some (.int (nI k))] [] M1 [.long (q_dig S)] M' ∧ q_sm S it M M' := by
  have hwf := q_I_wf hS
  have h8 := hwf.1
  intro d
  induction d with
  | zero =>
    intro k M1 l2 hk s0
    have hk : k = q_I S 0 0 := by omega
    subst hk
    obtain ⟨M2, p1, s1, hL⟩ := q_goL (X := X) hS s0
    obtain ⟨M', hA, hZ⟩ := q_mg4 (X := X) (h := q_dS S (q_d3 S)) hS 3 0 M2 none (by omega) s1
    have a1 := c_Mo_sumBy (X := X) (w := 0) hwf hL s1.2.2.2.1 (by omega)
    have a2 := c_Mo_sumBy (X := X) (w := 1) hwf hL s1.2.2.2.1 (by omega)
    have a3 := c_Mo_loyalNow (X := X) hwf hL s1.2.2.1.1
    have a4 := c_Mo_bitterNow (X := X) hwf hL s1.2.2.1.1
    refine ⟨M', sg_Mo_digest_82 ⟨fun _ => ⟨_, p1, _, _, a1, _, _, a2, _, _, a3, _, _, a4, ?_⟩, fun c => absurd (by rw [s0.2.2.1.1]; exact Int32.le_refl _) c⟩, hZ⟩
    rw [q_ML_lev hL]
    exact hA
  | succ d ih =>
    intro k M1 l2 hk s0
    obtain ⟨M2, p1, s1⟩ := q_goM (c_Mo_tellsVoter_r (X := X) (v := k) (h := q_it (q_dV S) (q_d2 S) k) hS (by omega)) s0
    obtain ⟨M', hA, hZ⟩ := ih (k + 1) M2 none (by omega) s1
    refine ⟨M', sg_Mo_digest_82 ⟨fun c => absurd c (q_nle s0.2.2.1.1 (by omega) (by omega)), fun _ => ⟨_, _, p1, ?_⟩⟩, hZ⟩
    rw [show nI k + (1 : Int32) = nI (k + 1) from nI_1 k]
    exact hA
theorem q_mg2 {X : zX} {S : q_N} {it : Nat → Int32} {M : zM} (hS : q_ws S) : ∀ (d k : Nat) (M1 : zM) (l2 : Option Value), k + d = q_I S 5 0 → q_sm S it M M1 → ∃ M', At X 163 59 [some (.ref 53), some (.long (q_it (q_dM S) (q_dF S (q_d0 S)) k)), l2, some (.int (nI k))] [] M1 [.long (q_dig S)] M' ∧ q_sm S it M M' := by
  have hwf := q_I_wf hS
  have h12 := hwf.2.2.2.1
  intro d
  induction d with
  | zero =>
    intro k M1 l2 hk s0
    have hk : k = q_I S 5 0 := by omega
    subst hk
    obtain ⟨M', hA, hZ⟩ := q_mg3 (X := X) hS (q_I S 0 0) 0 M1 none (by omega) s0
    exact ⟨M', sg_Mo_digest_59 ⟨fun _ => hA, fun c => absurd (by rw [s0.2.2.2.1]; exact Int32.le_refl _) c⟩, hZ⟩
  | succ d ih =>
    intro k M1 l2 hk s0
    obtain ⟨M2, p1, s1⟩ := q_goM (c_Mo_tellsMeasure_r (X := X) (m := k) (h := q_it (q_dM S) (q_dF S (q_d0 S)) k) hS (by omega)) s0
    obtain ⟨M', hA, hZ⟩ := ih (k + 1) M2 none (by omega) s1
    refine ⟨M', sg_Mo_digest_59 ⟨fun c => absurd c (q_nle s0.2.2.2.1 (by omega) (by omega)), fun _ => ⟨_, _, p1, ?_⟩⟩, hZ⟩
    rw [show nI k + (1 : Int32) = nI (k + 1) from nI_1 k]
    exact hA
theorem c_Mo_readsText_0r {X : zX} {S : q_N} (hS : q_ws S) : q_mA X 97 [.int (nI 0)] (.int (q_fl 0 (S 0 0) (S 1) (S 0 0) 0)) S := fun M it hM hv hm => by
  obtain ⟨M1, hC, hf, h7, h60⟩ := q_rdV2 (X := X) hS hM.1
  have fr : ∀ a b, ¬ q_DP0 a b → M1 a b = M a b := hf
  refine ⟨M1, Call.of (Nat.le_of_ble_eq_true rfl) (sg_Mo_readsText_0 ⟨fun c => absurd (show nI 0 = (0 : Int32) from rfl) c, fun _ => ⟨_, _, hC, rfl, rfl⟩⟩), q_fr_mono hf (fun a b q => by unfold q_DP0 at q; unfold q_DX; omega), ⟨h7, fun v hv' => ⟨h60 v 0 hv' (by omega), h60 v 1 hv' (by omega), h60 v 2 hv' (by omega), ?_⟩⟩, ?_⟩
  · rw [fr 64 _ (by unfold q_DP0; omega)]; exact (hv.2 v hv').2.2.2
  · refine ⟨by rw [fr _ _ (by unfold q_DP0; omega)]; exact hm.1, fun m hm' => ?_, by rw [fr _ _ (by unfold q_DP0; omega)]; exact hm.2.2.1, by rw [fr _ _ (by unfold q_DP0; omega)]; exact hm.2.2.2⟩
    rw [fr 61 _ (by unfold q_DP0; omega), fr 61 _ (by unfold q_DP0; omega)]
    exact hm.2.1 m hm'
theorem c_Mo_readsText_1r {X : zX} {S : q_N} (hS : q_ws S) : q_mA X 97 [.int (nI 1)] (.int (q_fl 1 (S 2 0) (S 3) (S 2 0) 0)) S := fun M it hM hv hm => by
  obtain ⟨M1, hC, hf, h9, h61⟩ := q_rdM2 (X := X) hS hM.2.1
  have fr : ∀ a b, ¬ q_DP1 a b → M1 a b = M a b := hf
  refine ⟨M1, Call.of (Nat.le_of_ble_eq_true rfl) (sg_Mo_readsText_0 ⟨fun _ => ⟨_, _, hC, rfl, rfl⟩, fun c => absurd c (show ¬ nI 1 = (0 : Int32) by decide)⟩), q_fr_mono hf (fun a b q => by unfold q_DP1 at q; unfold q_DX; omega), ?_, ⟨h9, fun m hm' => ⟨h61 m 0 hm' (by omega), h61 m 1 hm' (by omega)⟩, by rw [fr _ _ (by unfold q_DP1; omega)]; exact hm.2.2.1, by rw [fr _ _ (by unfold q_DP1; omega)]; exact hm.2.2.2⟩⟩
  refine ⟨by rw [fr _ _ (by unfold q_DP1; omega)]; exact hv.1, fun v hv' => ?_⟩
  rw [fr 60 _ (by unfold q_DP1; omega), fr 60 _ (by unfold q_DP1; omega), fr 60 _ (by unfold q_DP1; omega), fr 64 _ (by unfold q_DP1; omega)]
  exact hv.2 v hv'
theorem q_mg0 {X : zX} {S : q_N} {it : Nat → Int32} {M : zM} (hS : q_ws S) : ∀ (d k : Nat) (M1 : zM) (l2 : Option Value), k + d = 8 → q_fr q_DX M M1 → q_rM M1 S it → (0 < k → q_sm S it M M1) → ∃ M', At X 163 6 [some (.ref 53), some (.long (q_fo (fun k => q_cou S (nI k)) 17 k)), l2, some (.int (nI k))] [] M1 [.long (q_dig S)] M' ∧ q_fr q_DX M M' := by
  intro d
  induction d with
  | zero =>
    intro k M1 l2 hk hf hM hs
    have hk : k = 8 := by omega
    subst hk
    obtain ⟨M2, p1, s1⟩ := q_goM (c_Mo_readsText_0r (X := X) hS) (hs (by omega))
    obtain ⟨M3, p2, s2⟩ := q_goM (c_Mo_readsText_1r (X := X) hS) s1
    obtain ⟨M', hA, hZ⟩ := q_mg2 (X := X) hS (q_I S 5 0) 0 M3 none (by omega) s2
    refine ⟨M', sg_Mo_digest_6 ⟨fun _ => ?_, fun c => absurd (Int32.le_refl _) c⟩, hZ.1⟩
    refine sg_Mo_digest_33 ⟨fun c => absurd c (by decide), fun _ => ⟨_, _, p1, ?_⟩⟩
    refine sg_Mo_digest_33 ⟨fun c => absurd c (by decide), fun _ => ⟨_, _, p2, ?_⟩⟩
    refine sg_Mo_digest_33 ⟨fun _ => hA, fun c => absurd (by decide) c⟩
  | succ d ih =>
    intro k M1 l2 hk hf hM hs
    obtain ⟨M2, p1, f1, v1, m1⟩ := c_Mo_count_r (X := X) (x := nI k) hS hM
    have hf2 := q_fr_tr hf f1
    have hM2 := q_rM_fr hM f1
    obtain ⟨M', hA, hZ⟩ := ih (k + 1) M2 none (by omega) hf2 hM2 (fun _ => ⟨hf2, hM2, v1, m1⟩)
    refine ⟨M', sg_Mo_digest_6 ⟨fun c => absurd ((q_le (a := 8) (by omega) (by omega)).mp c) (by omega), fun _ => ⟨_, _, p1, ?_⟩⟩, hZ⟩
    rw [show nI k + (1 : Int32) = nI (k + 1) from nI_1 k]
    exact hA
theorem o_digest {X : zX} {S : q_N} {it : Nat → Int32} (hS : q_ws S) : q_op X 77 163 [] S it := by
  refine q_op_ask _ hS (fun M h => c_Fv_digest_r hS M it h) (fun M h => ?_)
  obtain ⟨M', hA, hf⟩ := q_mg0 (X := X) hS 8 0 M none (by omega) q_fr_rf h (fun q => by omega)
  exact ⟨M', Call.of (Nat.le_of_ble_eq_true rfl) (sg_Mo_digest_0 hA), hf⟩
