/-! SPARE -/
def q_spd (x : Int32) (n a b : Int32) : Int32 := if x = (-1 : Int32) then n else (if x = 0 then a else b)
def q_spQ (S : q_N) (x : Int32) (a : Nat) (k : Int32) : Nat → Nat → Int32
  | 0, _ => k
  | d + 1, b => if q_kp S (q_h2 (S 5 0) a b) = true then q_spd x 2 (nI a) (nI b) else q_spQ S x a k d (b + 1)
def q_spP (S : q_N) (x : Int32) : Nat → Nat → Int32
  | 0, _ => -1
  | d + 1, a => q_spQ S x a (q_spP S x d (a + 1)) d (a + 1)
def q_spA (S : q_N) (x : Int32) : Nat → Nat → Int32
  | 0, _ => q_spP S x (S 5 0) 0
  | d + 1, a => if q_kp S (q_h1 (S 5 0) a) = true then q_spd x 1 (nI a) (-1) else q_spA S x d (a + 1)
def q_spr (S : q_N) (x : Int32) : Int32 := if q_kp S (q_h0 (S 5 0)) = true then (if x = (-1 : Int32) then (0 : Int32) else (-1 : Int32)) else q_spA S x (S 5 0) 0
theorem q_spC105 {X : zX} {S : q_N} {it : Nat → Int32} {x : Int32} {a : Nat} {k : Int32} {Z : zM → Prop} (hS : q_ws S) (ha : a < S 5 0) (hgo : ∀ (M2 : zM) (l4 : Option Value), q_rC M2 S it → Z M2 → ∃ M', At X 48 89 [some (.ref 0), some (.int x), some (.int (nI (q_h0 (S 5 0)))), some (.int (nI (a + 1))), l4] [] M2 [.int k] M' ∧ Z M' ∧ q_rC M' S it) (hZ : ∀ M1 M2, Z M1 → q_fr q_DY M1 M2 → Z M2) : ∀ (d b : Nat) (M1 : zM), b + d = S 5 0 → q_rC M1 S it → Z M1 → ∃ M', At X 48 105 [some (.ref 0), some (.int x), some (.int (nI (q_h0 (S 5 0)))), some (.int (nI a)), some (.int (nI b))] [] M1 [.int (q_spQ S x a k d b)] M' ∧ Z M' ∧ q_rC M' S it := by
  have h8 := hS.2.2.2.1.1
  intro d
  induction d with
  | zero =>
    intro b M1 hb hM hz
    have hb : b = S 5 0 := by omega
    subst hb
    obtain ⟨M', hA, hZ'⟩ := hgo M1 (some (.int (nI (S 5 0)))) hM hz
    refine ⟨M', sg_Fv_spare_105 ⟨fun _ => ?_, fun c => absurd (by rw [hM.1.2.2.2.1]; exact Int32.le_refl _) c⟩, hZ'⟩
    rw [show nI a + (1 : Int32) = nI (a + 1) from nI_1 a]
    exact hA
  | succ d ih =>
    intro b M1 hb hM hz
    have k1 := (q_h1_x ⟨S 5 0, by omega⟩ ⟨a, by omega⟩).1
    have k2 := q_h2_x ⟨S 5 0, by omega⟩ ⟨a, by omega⟩ ⟨b, by omega⟩
    dsimp only at k1 k2
    obtain ⟨r2, M2, hO, hC, hf, hCC⟩ := c_Fv_kc (X := X) (h := q_h2 (S 5 0) a b) hS hM
    rw [Nat.mod_eq_of_lt k2.2.1] at hC
    have hM2 := q_rC_Y hM hf hCC
    by_cases c : q_kp S (q_h2 (S 5 0) a b) = true
    · refine ⟨M2, sg_Fv_spare_105 ⟨fun c => absurd c (q_nle hM.1.2.2.2.1 (by omega) (by omega)), fun _ => ?_⟩, hZ _ _ hz hf, hM2⟩
      rw [k1, k2.1]
      refine ⟨_, _, hO, _, _, hC, fun q => absurd q (q_b_n0.mpr c), fun _ => ⟨_, _, c_Fv_spared, ?_, rfl⟩⟩
      rw [q_spQ, if_pos c]
      rfl
    · obtain ⟨M', hA, hZ'⟩ := ih (b + 1) M2 (by omega) hM2 (hZ _ _ hz hf)
      refine ⟨M', sg_Fv_spare_105 ⟨fun c => absurd c (q_nle hM.1.2.2.2.1 (by omega) (by omega)), fun _ => ?_⟩, hZ'⟩
      rw [k1, k2.1]
      refine ⟨_, _, hO, _, _, hC, fun _ => ?_, fun q => absurd (q_b_0.mpr (Bool.eq_false_iff.mpr c)) q⟩
      rw [show nI b + (1 : Int32) = nI (b + 1) from nI_1 b, q_spQ, if_neg c]
      exact hA
theorem q_spC89 {X : zX} {S : q_N} {it : Nat → Int32} {x : Int32} {Z : zM → Prop} (hS : q_ws S) (hZ : ∀ M1 M2, Z M1 → q_fr q_DY M1 M2 → Z M2) : ∀ (d a : Nat) (M1 : zM) (l4 : Option Value), a + d = S 5 0 → q_rC M1 S it → Z M1 → ∃ M', At X 48 89 [some (.ref 0), some (.int x), some (.int (nI (q_h0 (S 5 0)))), some (.int (nI a)), l4] [] M1 [.int (q_spP S x d a)] M' ∧ Z M' ∧ q_rC M' S it := by
  have h8 := hS.2.2.2.1.1
  intro d
  induction d with
  | zero =>
    intro a M1 l4 ha hM hz
    have ha : a = S 5 0 := by omega
    subst ha
    exact ⟨M1, sg_Fv_spare_89 ⟨fun _ => ⟨rfl, rfl⟩, fun c => absurd (by rw [hM.1.2.2.2.1]; exact Int32.le_refl _) c⟩, hz, hM⟩
  | succ d ih =>
    intro a M1 l4 ha hM hz
    obtain ⟨M', hA, hZ'⟩ := q_spC105 (X := X) (it := it) (x := x) (a := a) (k := q_spP S x d (a + 1)) (Z := Z) hS (by omega) (fun M2 l4 hM2 hz2 => ih (a + 1) M2 l4 (by omega) hM2 hz2) hZ d (a + 1) M1 (by omega) hM hz
    refine ⟨M', sg_Fv_spare_89 ⟨fun c => absurd c (q_nle hM.1.2.2.2.1 (by omega) (by omega)), fun _ => ?_⟩, hZ'⟩
    rw [show nI a + (1 : Int32) = nI (a + 1) from nI_1 a]
    exact hA
theorem q_spC45 {X : zX} {S : q_N} {it : Nat → Int32} {x : Int32} {Z : zM → Prop} (hS : q_ws S) (hZ : ∀ M1 M2, Z M1 → q_fr q_DY M1 M2 → Z M2) : ∀ (d a : Nat) (M1 : zM) (l4 : Option Value), a + d = S 5 0 → q_rC M1 S it → Z M1 → ∃ M', At X 48 45 [some (.ref 0), some (.int x), some (.int (nI (q_h0 (S 5 0)))), some (.int (nI a)), l4] [] M1 [.int (q_spA S x d a)] M' ∧ Z M' ∧ q_rC M' S it := by
  have h8 := hS.2.2.2.1.1
  intro d
  induction d with
  | zero =>
    intro a M1 l4 ha hM hz
    have ha : a = S 5 0 := by omega
    subst ha
    obtain ⟨M', hA, hZ'⟩ := q_spC89 (X := X) (it := it) (x := x) (Z := Z) hS hZ (S 5 0) 0 M1 l4 (by omega) hM hz
    exact ⟨M', sg_Fv_spare_45 ⟨fun _ => hA, fun c => absurd (by rw [hM.1.2.2.2.1]; exact Int32.le_refl _) c⟩, hZ'⟩
  | succ d ih =>
    intro a M1 l4 ha hM hz
    have k1 := q_h1_x ⟨S 5 0, by omega⟩ ⟨a, by omega⟩
    dsimp only at k1
    obtain ⟨r2, M2, hO, hC, hf, hCC⟩ := c_Fv_kc (X := X) (h := q_h1 (S 5 0) a) hS hM
    rw [Nat.mod_eq_of_lt k1.2.1] at hC
    have hM2 := q_rC_Y hM hf hCC
    by_cases c : q_kp S (q_h1 (S 5 0) a) = true
    · refine ⟨M2, sg_Fv_spare_45 ⟨fun c => absurd c (q_nle hM.1.2.2.2.1 (by omega) (by omega)), fun _ => ?_⟩, hZ _ _ hz hf, hM2⟩
      rw [k1.1]
      refine ⟨_, _, hO, _, _, hC, fun q => absurd q (q_b_n0.mpr c), fun _ => ⟨_, _, c_Fv_spared, ?_, rfl⟩⟩
      rw [q_spA, if_pos c]
      rfl
    · obtain ⟨M', hA, hZ'⟩ := ih (a + 1) M2 l4 (by omega) hM2 (hZ _ _ hz hf)
      refine ⟨M', sg_Fv_spare_45 ⟨fun c => absurd c (q_nle hM.1.2.2.2.1 (by omega) (by omega)), fun _ => ?_⟩, hZ'⟩
      rw [k1.1]
      refine ⟨_, _, hO, _, _, hC, fun _ => ?_, fun q => absurd (q_b_0.mpr (Bool.eq_false_iff.mpr c)) q⟩
      rw [show nI a + (1 : Int32) = nI (a + 1) from nI_1 a, q_spA, if_neg c]
      exact hA
theorem c_Ca_eb {X : zX} {M : zM} {S : q_N} (hS : q_ws S) (h : M 5 9 = nI (S 5 0)) : Call X 42 [.ref 5] M [.int (nI (q_h0 (S 5 0)))] M := by
  have c := c_Ca_eventBits_t (X := X) (M := M)
  unfold f_Ca_eventBits_t at c
  have h8 := hS.2.2.2.1.1
  rw [h, (q_h0_x ⟨S 5 0, by omega⟩).1] at c
  exact c
def q_m11 (x : Int32) : Prop := -1 ≤ x.toInt ∧ x.toInt ≤ 1
theorem c_Fv_spare_r {X : zX} {S : q_N} {x : Int32} (hS : q_ws S) (hx : q_m11 x) : q_cA X 48 [.int x] (.int (q_spr S x)) S := fun M it h => by
  have h8 := hS.2.2.2.1.1
  have k0 := q_h0_x ⟨S 5 0, by omega⟩
  dsimp only at k0
  have x1 : ¬ x < (-1 : Int32) := by
    rw [Int32.lt_iff_toInt_lt]
    have e : (-1 : Int32).toInt = -1 := by decide
    rw [e]
    have := hx.1
    omega
  have x2 : x ≤ (1 : Int32) := by
    rw [Int32.le_iff_toInt_le]
    have e : (1 : Int32).toInt = 1 := by decide
    rw [e]
    exact hx.2
  obtain ⟨r2, M2, hO, hC, hf, hCC⟩ := c_Fv_kc (X := X) (h := q_h0 (S 5 0)) hS h
  rw [Nat.mod_eq_of_lt k0.2.1] at hC
  have hM2 := q_rC_Y h hf hCC
  by_cases c : q_kp S (q_h0 (S 5 0)) = true
  · refine ⟨M2, Call.of (Nat.le_of_ble_eq_true rfl) (sg_Fv_spare_0 ⟨fun q => absurd q x1, fun _ => ⟨fun _ => ⟨_, _, c_Ca_eb hS h.1.2.2.2.1, _, _, hO, _, _, hC, fun q => absurd q (q_b_n0.mpr c), fun _ => ⟨?_, rfl⟩⟩, fun q => absurd x2 q⟩⟩), hf, hCC⟩
    unfold q_spr
    rw [if_pos c]
  · obtain ⟨M', hA, hZ, hM'⟩ := q_spC45 (X := X) (it := it) (x := x) (Z := fun M1 => q_fr q_DY M M1) hS (fun M1 M2 h1 h2 => q_fr_tr h1 h2) (S 5 0) 0 M2 none (by omega) hM2 hf
    refine ⟨M', Call.of (Nat.le_of_ble_eq_true rfl) (sg_Fv_spare_0 ⟨fun q => absurd q x1, fun _ => ⟨fun _ => ⟨_, _, c_Ca_eb hS h.1.2.2.2.1, _, _, hO, _, _, hC, fun _ => ?_, fun q => absurd (q_b_0.mpr (Bool.eq_false_iff.mpr c)) q⟩, fun q => absurd x2 q⟩⟩), hZ, hM'.2.2.2⟩
    unfold q_spr
    rw [if_neg c]
    exact hA
theorem q_spM78 {X : zX} {M : zM} {S : q_N} {x : Int32} {a : Nat} {k : Int32} (hS : q_ws S) (ht : q_mt M (q_I S) (S 5 0) 0 255 (q_K S)) (ha : a < S 5 0) (hgo : ∀ (M2 : zM) (l3 : Option Value), q_fr q_DM M M2 → ∃ M', At X 138 66 [some (.ref 53), some (.int x), some (.int (nI (a + 1))), l3] [] M2 [.int k] M' ∧ q_fr q_DM M M') : ∀ (d b : Nat) (M1 : zM), b + d = S 5 0 → q_fr q_DM M M1 → ∃ M', At X 138 78 [some (.ref 53), some (.int x), some (.int (nI a)), some (.int (nI b))] [] M1 [.int (q_spQ S x a k d b)] M' ∧ q_fr q_DM M M' := by
  have h8 := hS.2.2.2.1.1
  intro d
  induction d with
  | zero =>
    intro b M1 hb hf
    have hb : b = S 5 0 := by omega
    subst hb
    obtain ⟨M', hA, hZ'⟩ := hgo M1 (some (.int (nI (S 5 0)))) hf
    refine ⟨M', sg_Mo_spareBy_78 ⟨fun _ => ?_, fun c => absurd (by rw [hf 53 12 (by unfold q_DM; omega), ht.2.2.1]; exact Int32.le_refl _) c⟩, hZ'⟩
    rw [show nI a + (1 : Int32) = nI (a + 1) from nI_1 a]
    exact hA
  | succ d ih =>
    intro b M1 hb hf
    have k2 := q_h2_x ⟨S 5 0, by omega⟩ ⟨a, by omega⟩ ⟨b, by omega⟩
    have ko := q_or1 ⟨a, by omega⟩ ⟨b, by omega⟩
    dsimp only at k2 ko
    have ht1 := q_mt_fr (M1 := M1) ht (fun x y q => hf x y (by unfold q_DM; omega))
    obtain ⟨M2, hC, hf2⟩ := c_Mo_isSpared (X := X) (g := 2 ^ a ||| 2 ^ b) (h := q_h2 (S 5 0) a b) (q_I_wf hS) ht1 (by omega) (fun i hi => k2.2.2 ⟨i, by omega⟩ hi)
    have hfN := q_fr_tr hf hf2
    have h12 : M1 53 12 = nI (S 5 0) := ht1.2.2.1
    by_cases c : q_kp S (q_h2 (S 5 0) a b) = true
    · refine ⟨M2, sg_Mo_spareBy_78 ⟨fun c => absurd c (q_nle h12 (by omega) (by omega)), fun _ => ?_⟩, hfN⟩
      rw [ko.1]
      refine ⟨_, _, hC, fun q => absurd q (q_b_n0.mpr c), fun _ => ⟨?_, rfl⟩⟩
      rw [q_spQ, if_pos c]
      rfl
    · obtain ⟨M', hA, hZ'⟩ := ih (b + 1) M2 (by omega) hfN
      refine ⟨M', sg_Mo_spareBy_78 ⟨fun c => absurd c (q_nle h12 (by omega) (by omega)), fun _ => ?_⟩, hZ'⟩
      rw [ko.1]
      refine ⟨_, _, hC, fun _ => ?_, fun q => absurd (q_b_0.mpr (Bool.eq_false_iff.mpr c)) q⟩
      rw [show nI b + (1 : Int32) = nI (b + 1) from nI_1 b, q_spQ, if_neg c]
      exact hA
theorem q_spM66 {X : zX} {M : zM} {S : q_N} {x : Int32} (hS : q_ws S) (ht : q_mt M (q_I S) (S 5 0) 0 255 (q_K S)) : ∀ (d a : Nat) (M1 : zM) (l3 : Option Value), a + d = S 5 0 → q_fr q_DM M M1 → ∃ M', At X 138 66 [some (.ref 53), some (.int x), some (.int (nI a)), l3] [] M1 [.int (q_spP S x d a)] M' ∧ q_fr q_DM M M' := by
  have h8 := hS.2.2.2.1.1
  intro d
  induction d with
  | zero =>
    intro a M1 l3 ha hf
    have ha : a = S 5 0 := by omega
    subst ha
    exact ⟨M1, sg_Mo_spareBy_66 ⟨fun _ => ⟨rfl, rfl⟩, fun c => absurd (by rw [hf 53 12 (by unfold q_DM; omega), ht.2.2.1]; exact Int32.le_refl _) c⟩, hf⟩
  | succ d ih =>
    intro a M1 l3 ha hf
    obtain ⟨M', hA, hZ'⟩ := q_spM78 (X := X) (x := x) (a := a) (k := q_spP S x d (a + 1)) hS ht (by omega) (fun M2 l3 hf2 => ih (a + 1) M2 l3 (by omega) hf2) d (a + 1) M1 (by omega) hf
    refine ⟨M', sg_Mo_spareBy_66 ⟨fun c => absurd c (q_nle (by rw [hf 53 12 (by unfold q_DM; omega)]; exact ht.2.2.1) (by omega) (by omega)), fun _ => ?_⟩, hZ'⟩
    rw [show nI a + (1 : Int32) = nI (a + 1) from nI_1 a]
    exact hA
theorem q_spM21 {X : zX} {M : zM} {S : q_N} {x : Int32} (hS : q_ws S) (ht : q_mt M (q_I S) (S 5 0) 0 255 (q_K S)) : ∀ (d a : Nat) (M1 : zM) (l3 : Option Value), a + d = S 5 0 → q_fr q_DM M M1 → ∃ M', At X 138 21 [some (.ref 53), some (.int x), some (.int (nI a)), l3] [] M1 [.int (q_spA S x d a)] M' ∧ q_fr q_DM M M' := by
  have h8 := hS.2.2.2.1.1
  intro d
  induction d with
  | zero =>
    intro a M1 l3 ha hf
    have ha : a = S 5 0 := by omega
    subst ha
    obtain ⟨M', hA, hZ'⟩ := q_spM66 (X := X) (x := x) hS ht (S 5 0) 0 M1 l3 (by omega) hf
    exact ⟨M', sg_Mo_spareBy_21 ⟨fun _ => hA, fun c => absurd (by rw [hf 53 12 (by unfold q_DM; omega), ht.2.2.1]; exact Int32.le_refl _) c⟩, hZ'⟩
  | succ d ih =>
    intro a M1 l3 ha hf
    have k1 := q_h1_x ⟨S 5 0, by omega⟩ ⟨a, by omega⟩
    dsimp only at k1
    have ht1 := q_mt_fr (M1 := M1) ht (fun x y q => hf x y (by unfold q_DM; omega))
    have hp : 2 ^ a < 2 ^ 31 := Nat.pow_lt_pow_right (by omega) (by omega)
    obtain ⟨M2, hC, hf2⟩ := c_Mo_isSpared (X := X) (g := 2 ^ a) (h := q_h1 (S 5 0) a) (q_I_wf hS) ht1 hp (fun i hi => k1.2.2 ⟨i, by omega⟩ hi)
    have hfN := q_fr_tr hf hf2
    have h12 : M1 53 12 = nI (S 5 0) := ht1.2.2.1
    by_cases c : q_kp S (q_h1 (S 5 0) a) = true
    · refine ⟨M2, sg_Mo_spareBy_21 ⟨fun c => absurd c (q_nle h12 (by omega) (by omega)), fun _ => ?_⟩, hfN⟩
      rw [q_shl1 (by omega)]
      refine ⟨_, _, hC, fun q => absurd q (q_b_n0.mpr c), fun _ => ⟨?_, rfl⟩⟩
      rw [q_spA, if_pos c]
      rfl
    · obtain ⟨M', hA, hZ'⟩ := ih (a + 1) M2 l3 (by omega) hfN
      refine ⟨M', sg_Mo_spareBy_21 ⟨fun c => absurd c (q_nle h12 (by omega) (by omega)), fun _ => ?_⟩, hZ'⟩
      rw [q_shl1 (by omega)]
      refine ⟨_, _, hC, fun _ => ?_, fun q => absurd (q_b_0.mpr (Bool.eq_false_iff.mpr c)) q⟩
      rw [show nI a + (1 : Int32) = nI (a + 1) from nI_1 a, q_spA, if_neg c]
      exact hA
theorem c_Mo_spareBy_r {X : zX} {S : q_N} {x : Int32} (hS : q_ws S) : q_mA X 138 [.int x] (.int (q_spr S x)) S := q_mA_M (fun M it h ht => by
  have h8 := hS.2.2.2.1.1
  have k0 := q_h0_x ⟨S 5 0, by omega⟩
  dsimp only at k0
  obtain ⟨M2, hC, hf2⟩ := c_Mo_isSpared (X := X) (g := 0) (h := q_h0 (S 5 0)) (q_I_wf hS) ht (by omega) (fun i hi => by rw [k0.2.2 ⟨i, by omega⟩ hi]; simp)
  by_cases c : q_kp S (q_h0 (S 5 0)) = true
  · refine ⟨M2, Call.of (Nat.le_of_ble_eq_true rfl) (sg_Mo_spareBy_0 ⟨_, _, hC, fun q => absurd q (q_b_n0.mpr c), fun _ => ⟨?_, rfl⟩⟩), q_fr_mono hf2 (fun a b q => .inl q)⟩
    unfold q_spr
    rw [if_pos c]
  · obtain ⟨M', hA, hZ⟩ := q_spM21 (X := X) (x := x) hS ht (S 5 0) 0 M2 none (by omega) hf2
    refine ⟨M', Call.of (Nat.le_of_ble_eq_true rfl) (sg_Mo_spareBy_0 ⟨_, _, hC, fun _ => ?_, fun q => absurd (q_b_0.mpr (Bool.eq_false_iff.mpr c)) q⟩), q_fr_mono hZ (fun a b q => .inl q)⟩
    unfold q_spr
    rw [if_neg c]
    exact hA)
theorem o_spare {X : zX} {S : q_N} {it : Nat → Int32} {x1 : Int32} (hS : q_ws S) : q_op X 48 139 [.int x1] S it := by
  have hin : ∀ M : zM, f_Mo_in x1.toInt64 (-1) 1 M = if -1 ≤ x1.toInt ∧ x1.toInt ≤ 1 then 1 else 0 := fun M => by
    rw [q_in64, Int32.toInt_toInt64]
    rfl
  by_cases h1 : q_m11 x1
  case neg =>
    refine q_op_ask (.int (-2)) hS (fun M h => ⟨M, Call.of (Nat.le_of_ble_eq_true rfl) (sg_Fv_spare_0 ⟨fun _ => ⟨rfl, rfl⟩, fun c => ⟨fun c2 => absurd ?_ h1, fun _ => ⟨rfl, rfl⟩⟩⟩), q_fr_rf, h.2.2.2⟩) (fun M h => ?_)
    · rw [Int32.lt_iff_toInt_lt] at c
      rw [Int32.le_iff_toInt_le] at c2
      have e1 : (-1 : Int32).toInt = -1 := by decide
      have e2 : (1 : Int32).toInt = 1 := by decide
      rw [e1] at c
      rw [e2] at c2
      exact ⟨by omega, c2⟩
    · obtain ⟨M1, hC, hf, hv, hm, hL⟩ := c_Mo_find (X := X) hS h
      have c := c_Mo_in (X := X) (x0 := x1.toInt64) (x2 := -1) (x4 := 1) (M := M1)
      rw [hin, if_neg (show ¬ (-1 ≤ x1.toInt ∧ x1.toInt ≤ 1) from h1)] at c
      exact ⟨M1, Call.of (Nat.le_of_ble_eq_true rfl) (sg_Mo_spare_0 ⟨_, hC, _, _, c, fun _ => ⟨rfl, rfl⟩, fun c => absurd rfl c⟩), hf⟩
  refine q_op_ask _ hS (fun M h => c_Fv_spare_r hS h1 M it h) (fun M h => ?_)
  obtain ⟨M1, hC, hf, hmv, hmm, hL⟩ := c_Mo_find (X := X) hS h
  obtain ⟨M2, hC2, hf2, -⟩ := c_Mo_spareBy_r (X := X) (x := x1) hS M1 it (q_rM_fr h hf) hmv hmm
  have c := c_Mo_in (X := X) (x0 := x1.toInt64) (x2 := -1) (x4 := 1) (M := M1)
  rw [hin, if_pos (show -1 ≤ x1.toInt ∧ x1.toInt ≤ 1 from h1)] at c
  exact ⟨M2, Call.of (Nat.le_of_ble_eq_true rfl) (sg_Mo_spare_0 ⟨_, hC, _, _, c, fun c => absurd c q_n10, fun _ => ⟨_, _, hC2, rfl, rfl⟩⟩), q_fr_tr hf hf2⟩
