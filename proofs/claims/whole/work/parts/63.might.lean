/-! MIGHT -/
theorem q_if_or' {a k : Nat} {b : Bool} (hk : k < 31) : (if nI (q_b b) = 0 then nI a else (nI a ||| ((1 : Int32) <<< (nI k &&& 31)))) = nI (a ||| (if b = true then 2 ^ k else 0)) := by
  cases b with
  | true => rw [if_neg (by decide), if_pos rfl, q_shl1 hk, q_or]
  | false => rw [if_pos (by decide)]; simp
theorem q_or_if' {a k : Nat} {b : Bool} (hk : k < 31) : nI a ||| (if nI (q_b b) = 0 then (0 : Int32) else ((1 : Int32) <<< (nI k &&& 31))) = nI (a ||| (if b = true then 2 ^ k else 0)) := by
  cases b with
  | true => rw [if_neg (by decide), if_pos rfl, q_shl1 hk, q_or]
  | false =>
    rw [if_pos (by decide), show (0 : Int32) = nI 0 from rfl, q_or]
    simp
theorem q_oc_at {S : q_N} {s m : Nat} (hS : q_ws S) (hm : m < q_I S 5 0) : (q_oc S s).testBit m = ((q_liv (q_I S) (q_told (S 5 0) s (q_K S))).2 4 m == 1) := by
  have hwf := q_I_wf hS
  have hpb := q_pb_lt (E := q_told (S 5 0) s (q_K S)) hwf
  have h12 := hwf.2.2.2.1
  rw [← q_pb_at hm]
  unfold q_oc
  split
  · rw [← q_or4096 hpb, Nat.testBit_or, show (4096 : Nat) = 2 ^ 12 from rfl, Nat.testBit_two_pow]
    have e : ¬ 12 = m := by omega
    simp [e]
  · rw [Nat.add_zero]
def q_nvf (S : q_N) (e : Nat) : Bool := q_fitI S (q_I S) (q_told (S 5 0) (q_h1 (S 5 0) e) (q_K S))
theorem q_nvC {X : zX} {M : zM} {S : q_N} {it : Nat → Int32} (hS : q_ws S) : ∀ (d e : Nat) (M1 : zM), e + d = S 5 0 → q_rC M1 S it → q_fr q_DY M M1 → ∃ M', At X 52 12 [some (.ref 0), some (.int (nI (q_h0 (S 5 0)))), some (.int (nI (q_bits (q_nvf S) e))), some (.int (nI e))] [] M1 [.int (nI (q_bits (q_nvf S) (S 5 0)))] M' ∧ q_fr q_DY M M' ∧ q_rC M' S it := by
  have h8 := hS.2.2.2.1.1
  have hwf := q_I_wf hS
  intro d
  induction d with
  | zero =>
    intro e M1 he hM hf
    have he : e = S 5 0 := by omega
    subst he
    exact ⟨M1, sg_Fv_neverBits_12 ⟨fun _ => ⟨rfl, rfl⟩, fun c => absurd (by rw [hM.1.2.2.2.1]; exact Int32.le_refl _) c⟩, hf, hM⟩
  | succ d ih =>
    intro e M1 he hM hf
    have k1 := q_h1_x ⟨S 5 0, by omega⟩ ⟨e, by omega⟩
    dsimp only at k1
    obtain ⟨M2, hC, hf2, hCC⟩ := c_Fv_outcomeOf (X := X) (h := q_h1 (S 5 0) e) hS hM
    rw [Nat.mod_eq_of_lt k1.2.1] at hC
    have hM2 := q_rC_Y hM hf2 hCC
    have hoc := q_oc_lt (s := q_h1 (S 5 0) e) hS
    have hF := c_Fv_fitsSeen (X := X) (p := q_oc S (q_h1 (S 5 0) e)) hS hwf.2.2.2.1 hM2.2.1.2.1.1 hM2.2.2.1.1 (by omega) (fun m hm => q_oc_at hS hm)
    obtain ⟨M', hA, hZ⟩ := ih (e + 1) M2 (by omega) hM2 (q_fr_tr hf hf2)
    refine ⟨M', sg_Fv_neverBits_12 ⟨fun c => absurd c (q_nle hM.1.2.2.2.1 (by omega) (by omega)), fun _ => ?_⟩, hZ⟩
    rw [k1.1]
    refine ⟨_, _, hC, _, _, hF, ?_⟩
    rw [show nI e + (1 : Int32) = nI (e + 1) from nI_1 e, q_if_or' (by omega)]
    exact hA
def q_hrf (S : q_N) (v : Nat) : Bool := q_fitI S (q_wI (q_I S) v) (q_EA S)
theorem q_hbC {X : zX} {M : zM} {S : q_N} {it : Nat → Int32} (hS : q_ws S) (hM : q_rC M S it) (hu : ∀ u, u < 8 → M 47 u = nI (q_pb (q_wI (q_I S) u) (q_EA S))) : ∀ (d v : Nat), v + d = 8 → At X 53 4 [some (.ref 0), some (.int (nI (q_bits (q_hrf S) v))), some (.int (nI v))] [] M [.int (nI (q_bits (q_hrf S) 8))] M := by
  have hwf := q_I_wf hS
  intro d
  induction d with
  | zero =>
    intro v hv
    have hv : v = 8 := by omega
    subst hv
    exact sg_Fv_heartBits_4 ⟨fun _ => ⟨rfl, rfl⟩, fun c => absurd (Int32.le_refl _) c⟩
  | succ d ih =>
    intro v hv
    have hwf' : q_wf (q_wI (q_I S) v) := q_wf_wish hwf (by omega)
    have hpb := q_pb_lt (E := q_EA S) hwf'
    have e5 : q_wI (q_I S) v 5 0 = q_I S 5 0 := by unfold q_wI; rw [q_up_ne (by omega)]
    have hF := c_Fv_fitsSeen (X := X) (M := M) (n := q_wI (q_I S) v 5 0) (p := q_pb (q_wI (q_I S) v) (q_EA S)) (P := fun m => (q_liv (q_wI (q_I S) v) (q_EA S)).2 4 m == 1) hS hwf'.2.2.2.1 (by rw [e5]; exact hM.2.1.2.1.1) hM.2.2.1.1 (by omega) (fun m hm => q_pb_at hm)
    have hA := ih (v + 1) (by omega)
    refine sg_Fv_heartBits_4 ⟨fun c => absurd ((q_le (a := 8) (by omega) (by omega)).mp c) (by omega), fun _ => ⟨q_in (by omega) (by omega), ?_⟩⟩
    rw [q_cl (by omega), hu v (by omega)]
    refine ⟨_, _, hF, ?_⟩
    rw [show nI v + (1 : Int32) = nI (v + 1) from nI_1 v, q_if_or' (by omega)]
    exact hA
def q_mig (S : q_N) (w : Nat) : Int32 := if w = 0 then nI (q_bits (q_nvf S) (S 5 0)) else nI (q_bits (q_hrf S) 8)
theorem c_Fv_might_r {X : zX} {S : q_N} {w : Nat} (hS : q_ws S) (hw : w < 2) : q_cA X 54 [.int (nI w)] (.int (q_mig S w)) S := fun M it h => by
  rcases q_k2 hw with rfl | rfl
  · obtain ⟨M', hA, hf, hM'⟩ := q_nvC (X := X) (M := M) (it := it) hS (S 5 0) 0 M (by omega) h q_fr_rf
    have hN : Call X 52 [.ref 0] M [.int (nI (q_bits (q_nvf S) (S 5 0)))] M' := Call.of (Nat.le_of_ble_eq_true rfl) (sg_Fv_neverBits_0 ⟨_, _, c_Ca_eb hS h.1.2.2.2.1, hA⟩)
    exact ⟨M', Call.of (Nat.le_of_ble_eq_true rfl) (sg_Fv_might_0 ⟨_, _, q_bel_1 (n := 2) rfl (by omega) ⟨0, by omega, rfl⟩, fun _ => ⟨fun c => absurd (show nI 0 = (0 : Int32) from rfl) c, fun _ => ⟨_, _, hN, rfl, rfl⟩⟩, fun c => absurd c q_n10⟩), hf, hM'.2.2.2⟩
  · obtain ⟨M3, hC, hf, hu⟩ := c_Fv_tryHearts (X := X) hS h.1 h.2.1
    have hM3 := q_rC_Z h hf
    have hB : Call X 53 [.ref 0] M3 [.int (nI (q_bits (q_hrf S) 8))] M3 := Call.of (Nat.le_of_ble_eq_true rfl) (sg_Fv_heartBits_0 (q_hbC hS hM3 hu 8 0 (by omega)))
    exact ⟨M3, Call.of (Nat.le_of_ble_eq_true rfl) (sg_Fv_might_0 ⟨_, _, q_bel_1 (n := 2) rfl (by omega) ⟨1, by omega, rfl⟩, fun _ => ⟨fun _ => ⟨_, hC, _, _, hB, rfl, rfl⟩, fun c => absurd c (show ¬ nI 1 = (0 : Int32) by decide)⟩, fun c => absurd c q_n10⟩), q_fr_mono hf (fun a b q => by unfold q_DZ at q; unfold q_DY; omega), hM3.2.2.2⟩
theorem q_nvM {X : zX} {M : zM} {S : q_N} (hS : q_ws S) (ht : q_mt M (q_I S) (S 5 0) 0 255 (q_K S)) (hs : q_sn M S) : ∀ (d e : Nat) (M1 : zM), e + d = S 5 0 → q_fr (fun a b => q_DM a b ∨ (a = 53 ∧ b = 14)) M M1 → ∃ M', At X 143 4 [some (.ref 53), some (.int (nI (q_bits (q_nvf S) e))), some (.int (nI e))] [] M1 [.int (nI (q_bits (q_nvf S) (S 5 0)))] M' ∧ q_fr q_DM M M' := by
  have h8 := hS.2.2.2.1.1
  intro d
  induction d with
  | zero =>
    intro e M1 he hf
    have he : e = S 5 0 := by omega
    subst he
    refine ⟨zu M1 53 14 0, sg_Mo_neverNow_4 ⟨fun _ => ⟨rfl, rfl⟩, fun c => absurd (by rw [hf 53 12 (by unfold q_DM; omega), ht.2.2.1]; exact Int32.le_refl _) c⟩, fun a b hn => ?_⟩
    by_cases e : a = 53 ∧ b = 14
    · rw [e.1, e.2, zu_y]; exact ht.2.2.2.2.1.symm
    · rw [zu_n (by omega)]
      exact hf a b (fun q => by rcases q with q | q; exact hn q; exact e q)
  | succ d ih =>
    intro e M1 he hf
    have k1 := q_h1_x ⟨S 5 0, by omega⟩ ⟨e, by omega⟩
    dsimp only at k1
    have hp : 2 ^ e < 2 ^ 31 := Nat.pow_lt_pow_right (by omega) (by omega)
    have fr : ∀ a b, ¬ (q_DM a b ∨ (a = 53 ∧ b = 14)) → M1 a b = M a b := hf
    obtain ⟨M2, hC, hf2, -⟩ := c_Mo_isSeen (X := X) hS (q_I_wf hS) (q_mt_gone (g := 2 ^ e) (h := q_h1 (S 5 0) e) ht hf hp (fun i hi => k1.2.2 ⟨i, by omega⟩ hi)) (q_sn_fr hs (by rw [zu_n (by omega), fr _ _ (by unfold q_DM; omega)]) (fun b => by rw [zu_n (by omega), fr _ _ (by unfold q_DM; omega)]))
    obtain ⟨M', hA, hZ⟩ := ih (e + 1) M2 (by omega) (fun a b hn => by
      rw [hf2 a b (fun q => hn (.inl q)), zu_n (by omega)]
      exact hf a b hn)
    refine ⟨M', sg_Mo_neverNow_4 ⟨fun c => absurd c (q_nle (by rw [fr 53 12 (by unfold q_DM; omega)]; exact ht.2.2.1) (by omega) (by omega)), fun _ => ?_⟩, hZ⟩
    rw [q_shl1 (by omega)]
    refine ⟨_, _, hC, ?_⟩
    rw [show nI e + (1 : Int32) = nI (e + 1) from nI_1 e, ← q_shl1 (by omega), q_or_if' (by omega)]
    exact hA
/-- the hearts, and what each has passed -/
theorem q_hw {X : zX} {M : zM} {I : q_N} {E : q_E} {v : Nat} {x1 x2 : Int32} {Z : zM → Prop} {R : Value} (hwf : q_wf I) (hL : q_ML I E M) (h9 : M 53 9 = nI (I 5 0)) (hv : v < 8) (hgo : ∀ (M2 : zM) (l4 : Option Value), q_fr (fun a b => a = 76 ∧ b = v) M M2 → M2 76 v = nI (q_pb I E) → ∃ M', At X 144 11 [some (.ref 53), some (.int x1), some (.int x2), some (.int (nI (v + 1))), l4] [] M2 [R] M' ∧ Z M') : ∀ (d m : Nat) (M1 : zM), m + d = I 5 0 → q_fr (fun a b => a = 76 ∧ b = v) M M1 → M1 76 v = nI (q_bits (fun m => (q_liv I E).2 4 m == 1) m) → ∃ M', At X 144 51 [some (.ref 53), some (.int x1), some (.int x2), some (.int (nI v)), some (.int (nI m))] [] M1 [R] M' ∧ Z M' := by
  have h12 := hwf.2.2.2.1
  intro d
  induction d with
  | zero =>
    intro m M1 hm hf h
    have hm : m = I 5 0 := by omega
    subst hm
    obtain ⟨M', hA, hZ⟩ := hgo M1 (some (.int (nI (I 5 0)))) hf h
    refine ⟨M', sg_Mo_heartNow_51 ⟨fun _ => ?_, fun c => absurd (by rw [hf 53 9 (by omega), h9]; exact Int32.le_refl _) c⟩, hZ⟩
    rw [show nI v + (1 : Int32) = nI (v + 1) from nI_1 v]
    exact hA
  | succ d ih =>
    intro m M1 hm hf h
    have o := (q_liv_o (E := E) hwf m).2.2.2.1
    have hc : nI ((q_liv I E).2 4 m) = 0 ↔ nI (q_b ((q_liv I E).2 4 m == 1)) = 0 := by rw [q_b01 o]
    obtain ⟨M', hA, hZ⟩ := ih (m + 1) (zu M1 76 v (nI (q_bits (fun m => (q_liv I E).2 4 m == 1) (m + 1)))) (by omega) (q_fr_zu hf ⟨rfl, rfl⟩) zu_y
    refine ⟨M', sg_Mo_heartNow_51 ⟨fun c => absurd c (q_nle (by rw [hf 53 9 (by omega)]; exact h9) (by omega) (by omega)), fun _ => ⟨q_in hv (by omega), q_in (by omega) (by omega), q_in hv (by omega), ?_⟩⟩, hZ⟩
    rw [q_cl (a := m) (by omega), q_cl (a := v) (by omega), h, hf 73 m (by omega), (q_mord hwf hL (by omega)).2.2.2.1, show nI m + (1 : Int32) = nI (m + 1) from nI_1 m]
    have e : nI (q_bits (fun m => (q_liv I E).2 4 m == 1) m) ||| (if nI ((q_liv I E).2 4 m) = 0 then (0 : Int32) else ((1 : Int32) <<< (nI m &&& 31))) = nI (q_bits (fun m => (q_liv I E).2 4 m == 1) (m + 1)) := by
      simp only [hc]
      exact q_or_if' (by omega)
    rw [e]
    exact hA
theorem q_hnM {X : zX} {M : zM} {S : q_N} (hS : q_ws S) (ht : q_mt M (q_I S) (S 5 0) 0 255 (q_K S)) (hs : q_sn M S) : ∀ (d v : Nat) (M1 : zM) (l4 : Option Value), v + d = 8 → q_fr (fun a b => q_DM a b ∨ a = 76 ∨ (a = 62 ∧ b = 0)) M M1 → (∀ u, u < v → M1 76 u = nI (q_pb (q_wI (q_I S) u) (q_EA S))) → ∃ M', At X 144 11 [some (.ref 53), some (.int (nI (q_I S 8 0))), some (.int (nI (q_bits (q_hrf S) v))), some (.int (nI v)), l4] [] M1 [.int (nI (q_bits (q_hrf S) 8))] M' ∧ q_fr (fun a b => q_DM a b ∨ a = 76) M M' ∧ ∀ u, u < 8 → M' 76 u = nI (q_pb (q_wI (q_I S) u) (q_EA S)) := by
  intro d
  induction d with
  | zero =>
    intro v M1 l4 hv hf hu
    have hv : v = 8 := by omega
    subst hv
    refine ⟨zu M1 62 0 (nI (q_I S 8 0)), sg_Mo_heartNow_11 ⟨fun _ => ⟨rfl, rfl⟩, fun c => absurd (Int32.le_refl _) c⟩, fun a b hn => ?_, fun u hu' => by rw [zu_n (by omega)]; exact hu u hu'⟩
    by_cases e : a = 62 ∧ b = 0
    · rw [e.1, e.2, zu_y]; exact ht.2.1.2.2.1.symm
    · rw [zu_n (by omega)]
      exact hf a b (fun q => by rcases q with q | q | q; exact hn (.inl q); exact hn (.inr q); exact e q)
  | succ d ih =>
    intro v M1 l4 hv hf hu
    have hwf' : q_wf (q_wI (q_I S) v) := q_wf_wish (v := v) (q_I_wf hS) (by omega)
    have fr : ∀ a b, ¬ (q_DM a b ∨ a = 76 ∨ (a = 62 ∧ b = 0)) → M1 a b = M a b := hf
    have htv := q_mt_wish (v := v) ht hf
    obtain ⟨M2, hC, hf2, hL⟩ := c_Mo_isSeen (X := X) hS hwf' htv (q_sn_fr hs (by rw [zu_n (by omega), fr _ _ (by unfold q_DM; omega)]) (fun b => by rw [zu_n (by omega), fr _ _ (by unfold q_DM; omega)]))
    have hL' : q_ML (q_wI (q_I S) v) (q_EA S) (zu M2 76 v 0) := q_ML_fr hL (fun a b q => zu_n (by unfold q_DM at q; omega))
    obtain ⟨M', hA, hZ⟩ := q_hw (X := X) (M := zu M2 76 v 0) (I := q_wI (q_I S) v) (E := q_EA S) (v := v) (x1 := nI (q_I S 8 0)) (x2 := nI (q_bits (q_hrf S) (v + 1))) (R := .int (nI (q_bits (q_hrf S) 8))) (Z := fun M' => q_fr (fun a b => q_DM a b ∨ a = 76) M M' ∧ ∀ u, u < 8 → M' 76 u = nI (q_pb (q_wI (q_I S) u) (q_EA S))) hwf' hL' (by rw [zu_n (by omega), hf2 53 9 (by unfold q_DM; omega)]; exact htv.2.1.1) (by omega) (fun M3 l4 hf3 h76 => ih (v + 1) M3 l4 (by omega) (fun a b hn => by
        rw [hf3 a b (by omega), zu_n (by omega), hf2 a b (fun q => hn (.inl q)), zu_n (by omega)]
        exact hf a b hn) (fun u hu' => by
        by_cases e : u = v
        · rw [e]; exact h76
        · rw [hf3 76 u (by omega), zu_n (by omega), hf2 76 u (by unfold q_DM; omega), zu_n (by omega)]
          exact hu u (by omega))) (q_wI (q_I S) v 5 0) 0 (zu M2 76 v 0) (by omega) q_fr_rf zu_y
    refine ⟨M', sg_Mo_heartNow_11 ⟨fun c => absurd ((q_le (a := 8) (by omega) (by omega)).mp c) (by omega), fun _ => ⟨_, _, hC, q_in (by omega) (by omega), ?_⟩⟩, hZ⟩
    rw [q_cl (by omega), q_or_if' (by omega)]
    exact hA
theorem c_Mo_heartNow {X : zX} {M : zM} {S : q_N} (hS : q_ws S) (ht : q_mt M (q_I S) (S 5 0) 0 255 (q_K S)) (hs : q_sn M S) : ∃ M', Call X 144 [.ref 53] M [.int (nI (q_bits (q_hrf S) 8))] M' ∧ q_fr (fun a b => q_DM a b ∨ a = 76) M M' ∧ ∀ u, u < 8 → M' 76 u = nI (q_pb (q_wI (q_I S) u) (q_EA S)) := by
  obtain ⟨M', hA, hZ⟩ := q_hnM (X := X) hS ht hs 8 0 M none (by omega) q_fr_rf (fun u hu => by omega)
  refine ⟨M', Call.of (Nat.le_of_ble_eq_true rfl) (sg_Mo_heartNow_0 ?_), hZ⟩
  rw [ht.2.1.2.2.1]
  exact hA
theorem c_Mo_mightBy_r {X : zX} {S : q_N} {w : Nat} (hS : q_ws S) (hw : w < 2) : q_mA X 145 [.int (nI w)] (.int (q_mig S w)) S := q_mA_M (fun M it h ht => by
  have hs : q_sn M S := (q_rM_AB.mp h).2.1
  rcases q_k2 hw with rfl | rfl
  · obtain ⟨M', hA, hf⟩ := q_nvM (X := X) hS ht hs (S 5 0) 0 M (by omega) q_fr_rf
    exact ⟨M', Call.of (Nat.le_of_ble_eq_true rfl) (sg_Mo_mightBy_0 ⟨fun c => absurd (show nI 0 = (0 : Int32) from rfl) c, fun _ => ⟨_, _, Call.of (Nat.le_of_ble_eq_true rfl) (sg_Mo_neverNow_0 hA), rfl, rfl⟩⟩), q_fr_mono hf (fun a b q => .inl q)⟩
  · obtain ⟨M', hC, hf, -⟩ := c_Mo_heartNow (X := X) hS ht hs
    exact ⟨M', Call.of (Nat.le_of_ble_eq_true rfl) (sg_Mo_mightBy_0 ⟨fun _ => ⟨_, _, hC, rfl, rfl⟩, fun c => absurd c (show ¬ nI 1 = (0 : Int32) by decide)⟩), hf⟩)
theorem o_might {X : zX} {S : q_N} {it : Nat → Int32} {x1 : Int32} (hS : q_ws S) : q_op X 54 146 [.int x1] S it := by
  by_cases h1 : q_is x1 2
  case neg =>
    refine q_op_ask (.int (-2)) hS (fun M h => ⟨M, Call.of (Nat.le_of_ble_eq_true rfl) (sg_Fv_might_0 ⟨_, _, q_bel_0 (n := 2) rfl (by omega) h1, fun c => absurd rfl c, fun _ => ⟨rfl, rfl⟩⟩), q_fr_rf, h.2.2.2⟩) (fun M h => ?_)
    obtain ⟨M1, hC, hf, hv, hm, hL⟩ := c_Mo_find (X := X) hS h
    exact ⟨M1, Call.of (Nat.le_of_ble_eq_true rfl) (sg_Mo_might_0 ⟨_, hC, _, _, q_two_0 h1, fun _ => ⟨rfl, rfl⟩, fun c => absurd rfl c⟩), hf⟩
  obtain ⟨w, hw, rfl⟩ := h1
  refine q_op_ask _ hS (fun M h => c_Fv_might_r hS hw M it h) (fun M h => ?_)
  obtain ⟨M1, hC, hf, hmv, hmm, hL⟩ := c_Mo_find (X := X) hS h
  obtain ⟨M2, hC2, hf2, -⟩ := c_Mo_mightBy_r (X := X) hS hw M1 it (q_rM_fr h hf) hmv hmm
  exact ⟨M2, Call.of (Nat.le_of_ble_eq_true rfl) (sg_Mo_might_0 ⟨_, hC, _, _, q_two_1 ⟨w, hw, rfl⟩, fun c => absurd c q_n10, fun _ => ⟨_, _, hC2, rfl, rfl⟩⟩), q_fr_tr hf hf2⟩
/-! WAS -/
def q_waI (I : q_N) (w k v : Nat) : q_N := if w = 0 then q_up I 2 k v else q_up I 1 k v
def q_waf (S : q_N) (w k v : Nat) : Bool := q_fitI S (q_waI (q_I S) w k v) (q_EA S)
def q_kin (w : Nat) : Nat := if w = 0 then 8 else 3
theorem q_wf_was {I : q_N} {w k v : Nat} (h : q_wf I) (hv : v < q_kin w) : q_wf (q_waI I w k v) := by
  unfold q_waI
  unfold q_kin at hv
  split
  · rename_i e; rw [if_pos e] at hv; exact q_wf_like h hv
  · rename_i e; rw [if_neg e] at hv; exact q_wf_sort h hv
theorem q_waI_5 {I : q_N} {w k v : Nat} : q_waI I w k v 5 0 = I 5 0 := by
  unfold q_waI
  split <;> rw [q_up_ne (by omega)]
/-- the cell of the class; of the model -/
def q_wac (w : Nat) : Nat := if w = 0 then 27 else 26
def q_wap (w k : Nat) : Nat := if w = 0 then 3 * k + 1 else 3 * k
theorem q_waC {X : zX} {M : zM} {S : q_N} {it : Nat → Int32} {w k : Nat} (hS : q_ws S) (hw : w < 2) (hk : k < q_I S 0 0) (hM : q_rC M S it) (h : q_tr3 M (q_I S) (S 5 0) (q_K S)) : ∀ (d v : Nat) (M1 : zM), v + d = q_kin w → q_fr (fun a b => q_DH 36 a b ∨ (a = q_wac w ∧ b = k)) M M1 → ∃ M', At X 55 53 [some (.ref 0), some (.int (nI k)), some (.int (nI w)), some (.int (nI (q_kin w))), some (.int (nI (q_bits (q_waf S w k) v))), some (.int (nI v))] [] M1 [.int (nI (q_bits (q_waf S w k) (q_kin w)))] M' ∧ q_fr (fun a b => q_DH 36 a b ∨ (a = q_wac w ∧ b = k)) M M' := by
  have hwf := q_I_wf hS
  have h8 := hwf.1
  have hk8 : q_kin w ≤ 8 := by unfold q_kin; split <;> omega
  intro d
  induction d with
  | zero =>
    intro v M1 hv hf
    have hv : v = q_kin w := by omega
    subst hv
    exact ⟨M1, sg_Fv_was_53 ⟨fun _ => ⟨rfl, rfl⟩, fun c => absurd (Int32.le_refl _) c⟩, hf⟩
  | succ d ih =>
    intro v M1 hv hf
    have hwf' : q_wf (q_waI (q_I S) w k v) := q_wf_was hwf (by omega)
    have htr : q_tr3 (zu M1 (q_wac w) k (nI v)) (q_waI (q_I S) w k v) (S 5 0) (q_K S) := by
      rcases q_k2 hw with rfl | rfl
      · exact q_tr_like h hf
      · exact q_tr_sort h hf
    obtain ⟨M2, hC, hf2, hR⟩ := q_try (X := X) (held := 255) hwf' htr (by omega)
    have hfN : q_fr (fun a b => q_DH 36 a b ∨ (a = q_wac w ∧ b = k)) M M2 := fun a b hn => by
      rw [hf2 a b (fun q => hn (.inl q)), zu_n (by omega)]
      exact hf a b hn
    have hpb := q_pb_lt (E := q_EA S) hwf'
    have hwc : q_wac w = 27 ∨ q_wac w = 26 := by unfold q_wac; split <;> omega
    have hF := c_Fv_fitsSeen (X := X) (M := M2) (n := q_waI (q_I S) w k v 5 0) (p := q_pb (q_waI (q_I S) w k v) (q_EA S)) (P := fun m => (q_liv (q_waI (q_I S) w k v) (q_EA S)).2 4 m == 1) hS hwf'.2.2.2.1 (by rw [hfN 5 5 (by unfold q_DH; omega), q_waI_5]; exact hM.2.1.2.1.1) ⟨by rw [hfN 0 11 (by unfold q_DH; omega)]; exact hM.2.2.1.1.1, fun i hi => by rw [hfN 45 i (by unfold q_DH; omega), hfN 46 i (by unfold q_DH; omega)]; exact hM.2.2.1.1.2 i hi⟩ (by omega) (fun m hm => q_pb_at hm)
    have hF' : Call X 51 [.ref 0, .int (M2 36 4)] M2 [.int (nI (q_b (q_waf S w k v)))] M2 := by rw [hR.2.2.1]; exact hF
    obtain ⟨M', hA, hZ⟩ := ih (v + 1) M2 (by omega) hfN
    refine ⟨M', sg_Fv_was_53 ⟨fun c => absurd ((q_le (by omega) (by omega)).mp c) (by omega), fun _ => ?_⟩, hZ⟩
    have hi : vp_in (nI k) 8 := q_in (by omega) (by omega)
    have hA' : At X 55 53 [some (.ref 0), some (.int (nI k)), some (.int (nI w)), some (.int (nI (q_kin w))), some (.int (if nI (q_b (q_waf S w k v)) = 0 then nI (q_bits (q_waf S w k) v) else (nI (q_bits (q_waf S w k) v) ||| ((1 : Int32) <<< (nI v &&& 31))))), some (.int (nI v + (1 : Int32)))] [] M2 [.int (nI (q_bits (q_waf S w k) (q_kin w)))] M' := by
      rw [q_if_or' (by omega), show nI v + (1 : Int32) = nI (v + 1) from nI_1 v]
      exact hA
    rw [q_cl (by omega)]
    rcases q_k2 hw with rfl | rfl
    · exact ⟨fun c => absurd (show nI 0 = (0 : Int32) from rfl) c, fun _ => ⟨hi, M2, hC, _, _, hF', hA'⟩⟩
    · exact ⟨fun _ => ⟨hi, M2, hC, _, _, hF', hA'⟩, fun c => absurd c (show ¬ nI 1 = (0 : Int32) by decide)⟩
def q_was (S : q_N) (k w : Nat) : Int32 := nI (q_bits (q_waf S w k) (q_kin w))
theorem c_Fv_was_r {X : zX} {S : q_N} {k w : Nat} (hS : q_ws S) (hk : k < q_I S 0 0) (hw : w < 2) : q_cA X 55 [.int (nI k), .int (nI w)] (.int (q_was S k w)) S := q_cA_Z (fun M it h => by
  have hwf := q_I_wf hS
  have h8 := hwf.1
  obtain ⟨M5, hB, hfB, hT⟩ := q_become (X := X) hS h.1 h.2.1
  have h5 : q_rC M5 S it := q_rC_Z h (q_fr_mono hfB (fun a b q => by unfold q_DZ; omega))
  obtain ⟨M', hA, hZ⟩ := q_waC (X := X) (it := it) hS hw hk h5 hT (q_kin w) 0 M5 (by omega) q_fr_rf
  have hwc : q_wac w = 27 ∨ q_wac w = 26 := by unfold q_wac; split <;> omega
  have hq : (if nI w = 0 then (8 : Int32) else (3 : Int32)) = nI (q_kin w) := by rcases q_k2 hw with rfl | rfl <;> rfl
  refine ⟨M', Call.of (Nat.le_of_ble_eq_true rfl) (sg_Fv_was_0 ⟨_, _, q_bel_1 h.2.1.1.1 (by omega) ⟨k, hk, rfl⟩, fun c => absurd c q_n10, fun _ => ⟨_, _, q_bel_1 (n := 2) rfl (by omega) ⟨w, hw, rfl⟩, fun _ => ⟨M5, hB, ?_⟩, fun c => absurd c q_n10⟩⟩), fun a b hn => ?_⟩
  · rw [hq]
    exact hA
  · unfold q_DZ at hn
    rw [hZ a b (by unfold q_DH; omega), hfB a b (by omega)])
theorem q_waM {X : zX} {M : zM} {S : q_N} {w k : Nat} (hS : q_ws S) (hw : w < 2) (hk : k < q_I S 0 0) (ht : q_mt M (q_I S) (S 5 0) 0 255 (q_K S)) (hs : q_sn M S) : ∀ (d v : Nat) (M1 : zM), v + d = q_kin w → q_fr (fun a b => q_DM a b ∨ (a = 60 ∧ b = q_wap w k)) M M1 → ∃ M', At X 147 30 [some (.ref 53), some (.int (nI k)), some (.int (nI w)), some (.int (nI (q_wap w k))), some (.int (M 60 (q_wap w k))), some (.int (nI (q_bits (q_waf S w k) v))), some (.int (nI v))] [] M1 [.int (nI (q_bits (q_waf S w k) (q_kin w)))] M' ∧ q_fr q_DM M M' := by
  have hwf := q_I_wf hS
  have h8 := hwf.1
  have hk8 : q_kin w ≤ 8 := by unfold q_kin; split <;> omega
  have hp24 : q_wap w k < 24 := by unfold q_wap; split <;> omega
  intro d
  induction d with
  | zero =>
    intro v M1 hv hf
    have hv : v = q_kin w := by omega
    subst hv
    refine ⟨zu M1 60 (q_wap w k) (M 60 (q_wap w k)), sg_Mo_wasOf_30 ?_, fun a b hn => ?_⟩
    · rw [q_cl (a := q_wap w k) (by omega)]
      have hi : vp_in (nI (q_wap w k)) 24 := q_in hp24 (by omega)
      rcases q_k2 hw with rfl | rfl
      · exact ⟨fun c => absurd (show nI 0 = (0 : Int32) from rfl) c, fun _ => ⟨fun _ => ⟨hi, rfl, rfl⟩, fun c => absurd (Int32.le_refl _) c⟩⟩
      · exact ⟨fun _ => ⟨fun _ => ⟨hi, rfl, rfl⟩, fun c => absurd (Int32.le_refl _) c⟩, fun c => absurd c (show ¬ nI 1 = (0 : Int32) by decide)⟩
    · by_cases e : a = 60 ∧ b = q_wap w k
      · rw [e.1, e.2, zu_y]
      · rw [zu_n (by omega)]
        exact hf a b (fun q => by rcases q with q | q; exact hn q; exact e q)
  | succ d ih =>
    intro v M1 hv hf
    have fr : ∀ a b, ¬ (q_DM a b ∨ (a = 60 ∧ b = q_wap w k)) → M1 a b = M a b := hf
    have hwf' : q_wf (q_waI (q_I S) w k v) := q_wf_was hwf (by omega)
    have htv : q_mt (zu M1 60 (q_wap w k) (nI v)) (q_waI (q_I S) w k v) (S 5 0) 0 255 (q_K S) := by
      rcases q_k2 hw with rfl | rfl
      · exact q_mt_like ht hf
      · exact q_mt_sort ht hf
    obtain ⟨M2, hC, hf2, -⟩ := c_Mo_isSeen (X := X) hS hwf' htv (q_sn_fr hs (by rw [zu_n (by omega), fr _ _ (by unfold q_DM; omega)]) (fun b => by rw [zu_n (by omega), fr _ _ (by unfold q_DM; omega)]))
    obtain ⟨M', hA, hZ⟩ := ih (v + 1) M2 (by omega) (fun a b hn => by
      rw [hf2 a b (fun q => hn (.inl q)), zu_n (by omega)]
      exact hf a b hn)
    have hi : vp_in (nI (q_wap w k)) 24 := q_in hp24 (by omega)
    have hA' : At X 147 30 [some (.ref 53), some (.int (nI k)), some (.int (nI w)), some (.int (nI (q_wap w k))), some (.int (M 60 (q_wap w k))), some (.int (nI (q_bits (q_waf S w k) v) ||| (if nI (q_b (q_waf S w k v)) = 0 then (0 : Int32) else ((1 : Int32) <<< (nI v &&& 31))))), some (.int (nI v + (1 : Int32)))] [] M2 [.int (nI (q_bits (q_waf S w k) (q_kin w)))] M' := by
      rw [q_or_if' (by omega), show nI v + (1 : Int32) = nI (v + 1) from nI_1 v]
      exact hA
    refine ⟨M', sg_Mo_wasOf_30 ?_, hZ⟩
    rw [q_cl (a := q_wap w k) (by omega)]
    rcases q_k2 hw with rfl | rfl
    · have hv' : v + (d + 1) = 8 := hv
      exact ⟨fun c => absurd (show nI 0 = (0 : Int32) from rfl) c, fun _ => ⟨fun c => absurd ((q_le (a := 8) (by omega) (by omega)).mp c) (by omega), fun _ => ⟨hi, _, _, hC, hA'⟩⟩⟩
    · have hv' : v + (d + 1) = 3 := hv
      exact ⟨fun _ => ⟨fun c => absurd ((q_le (a := 3) (by omega) (by omega)).mp c) (by omega), fun _ => ⟨hi, _, _, hC, hA'⟩⟩, fun c => absurd c (show ¬ nI 1 = (0 : Int32) by decide)⟩
theorem c_Mo_wasOf_r {X : zX} {S : q_N} {k w : Nat} (hS : q_ws S) (hk : k < q_I S 0 0) (hw : w < 2) : q_mA X 147 [.int (nI k), .int (nI w)] (.int (q_was S k w)) S := q_mA_M (fun M it h ht => by
  have hs : q_sn M S := (q_rM_AB.mp h).2.1
  have h8 := (q_I_wf hS).1
  obtain ⟨M', hA, hf⟩ := q_waM (X := X) hS hw hk ht hs (q_kin w) 0 M (by omega) q_fr_rf
  have hp24 : q_wap w k < 24 := by unfold q_wap; split <;> omega
  have e : (if nI w = 0 then (((3 : Int32) * nI k) + (1 : Int32)) else ((3 : Int32) * nI k)) = nI (q_wap w k) := by
    rw [q_3n]
    rcases q_k2 hw with rfl | rfl
    · exact nI_1 _
    · rfl
  refine ⟨M', Call.of (Nat.le_of_ble_eq_true rfl) (sg_Mo_wasOf_0 ?_), q_fr_mono hf (fun a b q => .inl q)⟩
  rw [e, q_cl (by omega)]
  exact ⟨q_in hp24 (by omega), hA⟩)
theorem o_was {X : zX} {S : q_N} {it : Nat → Int32} {x1 x2 : Int32} (hS : q_ws S) : q_op X 55 148 [.int x1, .int x2] S it := by
  have hwf := q_I_wf hS
  have h8 := hwf.1
  by_cases h1 : q_is x1 (q_I S 0 0)
  case neg =>
    refine q_op_ask (.int (-2)) hS (fun M h => ⟨M, Call.of (Nat.le_of_ble_eq_true rfl) (sg_Fv_was_0 ⟨_, _, q_bel_0 h.2.1.1.1 (by omega) h1, fun _ => ⟨rfl, rfl⟩, fun c => absurd rfl c⟩), q_fr_rf, h.2.2.2⟩) (fun M h => ?_)
    obtain ⟨M1, hC, hf, hv, hm, hL⟩ := c_Mo_find (X := X) hS h
    exact ⟨M1, Call.of (Nat.le_of_ble_eq_true rfl) (sg_Mo_was_0 ⟨_, hC, _, _, q_isV_0 hv.1 (by omega) h1, fun _ => ⟨rfl, rfl⟩, fun c => absurd rfl c⟩), hf⟩
  obtain ⟨k, hk, rfl⟩ := h1
  by_cases h2 : q_is x2 2
  case neg =>
    refine q_op_ask (.int (-2)) hS (fun M h => ⟨M, Call.of (Nat.le_of_ble_eq_true rfl) (sg_Fv_was_0 ⟨_, _, q_bel_1 h.2.1.1.1 (by omega) ⟨k, hk, rfl⟩, fun c => absurd c q_n10, fun _ => ⟨_, _, q_bel_0 (n := 2) rfl (by omega) h2, fun c => absurd rfl c, fun _ => ⟨rfl, rfl⟩⟩⟩), q_fr_rf, h.2.2.2⟩) (fun M h => ?_)
    obtain ⟨M1, hC, hf, hv, hmm, hL⟩ := c_Mo_find (X := X) hS h
    exact ⟨M1, Call.of (Nat.le_of_ble_eq_true rfl) (sg_Mo_was_0 ⟨_, hC, _, _, q_isV_1 hv.1 (by omega) ⟨k, hk, rfl⟩, fun c => absurd c q_n10, fun _ => ⟨_, _, q_two_0 h2, fun _ => ⟨rfl, rfl⟩, fun c => absurd rfl c⟩⟩), hf⟩
  obtain ⟨w, hw, rfl⟩ := h2
  refine q_op_ask _ hS (fun M h => c_Fv_was_r hS hk hw M it h) (fun M h => ?_)
  obtain ⟨M1, hC, hf, hmv, hmm, hL⟩ := c_Mo_find (X := X) hS h
  obtain ⟨M2, hC2, hf2, -⟩ := c_Mo_wasOf_r (X := X) hS hk hw M1 it (q_rM_fr h hf) hmv hmm
  exact ⟨M2, Call.of (Nat.le_of_ble_eq_true rfl) (sg_Mo_was_0 ⟨_, hC, _, _, q_isV_1 hmv.1 (by omega) ⟨k, hk, rfl⟩, fun c => absurd c q_n10, fun _ => ⟨_, _, q_two_1 ⟨w, hw, rfl⟩, fun c => absurd c q_n10, fun _ => ⟨_, _, hC2, rfl, rfl⟩⟩⟩), q_fr_tr hf hf2⟩
