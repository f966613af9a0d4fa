/-! BITS IN A ROW -/
def q_bits (f : Nat → Bool) : Nat → Nat
  | 0 => 0
  | n + 1 => q_bits f n ||| (if f n = true then 2 ^ n else 0)
theorem q_bits_at (f : Nat → Bool) (i : Nat) : ∀ n, (q_bits f n).testBit i = (decide (i < n) && f i)
  | 0 => by simp [q_bits]
  | n + 1 => by
    rw [q_bits, Nat.testBit_or, q_bits_at f i n]
    by_cases e : i = n
    · subst e
      by_cases h : f i = true
      · simp [h, Nat.testBit_two_pow]
      · simp [h]
    · have h2 : (if f n = true then 2 ^ n else 0).testBit i = false := by
        split
        · rw [Nat.testBit_two_pow]; simp; omega
        · simp
      rw [h2, Bool.or_false]
      congr 1
      simp; omega
theorem q_bits_lt (f : Nat → Bool) : ∀ n, q_bits f n < 2 ^ n
  | 0 => by simp [q_bits]
  | n + 1 => by
    have ih := q_bits_lt f n
    rw [q_bits]
    refine Nat.or_lt_two_pow (by rw [Nat.pow_succ]; omega) ?_
    split
    · rw [Nat.pow_succ]; have := Nat.two_pow_pos n; omega
    · exact Nat.two_pow_pos _
theorem q_bits_cg {f g : Nat → Bool} : ∀ n, (∀ i, i < n → f i = g i) → q_bits f n = q_bits g n
  | 0, _ => rfl
  | n + 1, h => by rw [q_bits, q_bits, q_bits_cg n (fun i hi => h i (by omega)), h n (by omega)]
def q_cnt (f : Nat → Bool) : Nat → Nat
  | 0 => 0
  | n + 1 => q_cnt f n + q_b (f n)
theorem q_cnt_le (f : Nat → Bool) : ∀ n, q_cnt f n ≤ n
  | 0 => by simp [q_cnt]
  | n + 1 => by have := q_cnt_le f n; have := q_b_lt (f n); rw [q_cnt]; omega
theorem q_cnt_cg {f g : Nat → Bool} : ∀ n, (∀ i, i < n → f i = g i) → q_cnt f n = q_cnt g n
  | 0, _ => rfl
  | n + 1, h => by rw [q_cnt, q_cnt, q_cnt_cg n (fun i hi => h i (by omega)), h n (by omega)]
theorem q_cnt_ext (f : Nat → Bool) (n : Nat) : ∀ d, q_cnt (fun i => decide (i < n) && f i) (n + d) = q_cnt f n
  | 0 => q_cnt_cg n (fun i hi => by simp [hi])
  | d + 1 => by
    rw [← Nat.add_assoc, q_cnt, q_cnt_ext f n d]
    have e : decide (n + d < n) = false := by simp
    simp only [e, Bool.false_and]
    rfl
/-- what is passed, what he alone decided, as bits -/
def q_pb (I : q_N) (E : q_E) : Nat := q_bits (fun m => (q_liv I E).2 4 m == 1) (I 5 0)
def q_db (I : q_N) (E : q_E) : Nat := q_bits (fun m => (q_liv I E).2 5 m == 1) (I 5 0)
theorem q_in_ord {I : q_N} (hwf : q_wf I) {m : Nat} : m ∈ (q_ord I).reverse ↔ m < I 5 0 := by
  rw [List.mem_reverse, q_ord_mem]
  exact ⟨fun h => h.1, fun h => ⟨h, (hwf.2.2.2.2.1 m h).1⟩⟩
theorem q_HB_u {I : q_N} {O : q_N} {x pb : Nat} (hwf : q_wf I) (h : q_HB O x (q_ord I).reverse pb) : pb = q_bits (fun m => O x m == 1) (I 5 0) := by
  apply Nat.eq_of_testBit_eq
  intro i
  rw [h.2 i, q_bits_at]
  by_cases e : i < I 5 0
  · simp [e, q_in_ord hwf, -List.mem_reverse]
    by_cases e2 : O x i = 1 <;> simp [e2]
  · simp [e, q_in_ord hwf, -List.mem_reverse]
/-- behind hold -/
def q_HR (o : Nat) (I : q_N) (E : q_E) (M1 : zM) : Prop := q_HV o I (q_liv I E).1 M1 ∧ q_HO o I (q_liv I E).2 (q_ord I).reverse M1 ∧ M1 o 4 = nI (q_pb I E) ∧ M1 o 5 = nI (q_db I E)
theorem q_HI_R {o : Nat} {I : q_N} {E : q_E} {M M1 : zM} (hwf : q_wf I) (h : q_HI o I E (q_ord I).reverse M M1) : q_fr (q_DH o) M M1 ∧ q_HR o I E M1 := by
  obtain ⟨h1, h2, h3, ⟨pb, h4, h5⟩, ⟨db, h6, h7⟩⟩ := h
  refine ⟨h1, h2, h3, ?_, ?_⟩
  · rw [h5, q_HB_u hwf h4]; rfl
  · rw [h7, q_HB_u hwf h6]; rfl
theorem q_HR_fr {o : Nat} {I : q_N} {E : q_E} {M M1 : zM} (h : q_HR o I E M) (hf : ∀ a b, q_DH o a b → M1 a b = M a b) : q_HR o I E M1 := by
  obtain ⟨h1, h2, h3, h4⟩ := h
  refine ⟨fun v hv => ?_, fun m hm => ?_, ?_, ?_⟩
  · rw [hf (o + 5) _ (by unfold q_DH; omega), hf (o + 6) _ (by unfold q_DH; omega), hf (o + 7) _ (by unfold q_DH; omega), hf (o + 8) _ (by unfold q_DH; omega)]
    exact h1 v hv
  · obtain ⟨a, b, c, d⟩ := h2 m hm
    refine ⟨?_, ?_, ?_, fun v hv => ?_⟩
    · rw [hf (o + 2) _ (by unfold q_DH; omega)]; exact a
    · rw [hf (o + 3) _ (by unfold q_DH; omega)]; exact b
    · rw [hf (o + 4) _ (by unfold q_DH; omega)]; exact c
    · rw [hf (o + 1) _ (by unfold q_DH; omega)]; exact d v hv
  · rw [hf o 4 (by unfold q_DH; omega)]; exact h3
  · rw [hf o 5 (by unfold q_DH; omega)]; exact h4
/-! RETELL -/
/-- the votes fit what is told -/
def q_CV (M : zM) (S : q_N) : Prop := q_cv M 5 6 7 8 9 (q_I S) ∧ q_cm M 5 10 11 12 (q_I S) ∧ q_HR 16 (q_I S) (q_EA S) M
def q_DT : Nat → Nat → Prop := fun a b => (6 ≤ a ∧ a ≤ 12) ∨ (a = 5 ∧ (b = 0 ∨ b = 5)) ∨ (16 < a ∧ a ≤ 24) ∨ (a = 16 ∧ (b = 4 ∨ b = 5 ∨ b = 10 ∨ b = 11 ∨ b = 12)) ∨ (a = 0 ∧ b = 13)
/-- what retell looks at -/
def q_CT (M : zM) (S : q_N) : Prop := q_tx M 1 2 (S 0 0) (S 1) ∧ q_tx M 3 4 (S 2 0) (S 3) ∧ (M 5 13 = nI (S 4 0) ∧ M 5 14 = nI (S 4 1)) ∧ q_evs M 5 13 14 15 (S 5 0) (q_K S)
theorem q_CT_fr {M M1 : zM} {S : q_N} {D : Nat → Nat → Prop} (h : q_CT M S) (hf : q_fr D M M1) (hD : ∀ a b, D a b → ¬ (1 ≤ a ∧ a ≤ 4) ∧ ¬ (a = 5 ∧ (b = 9 ∨ b = 13 ∨ b = 14)) ∧ ¬ (13 ≤ a ∧ a ≤ 15)) : q_CT M1 S := by
  have fr : ∀ a b, (1 ≤ a ∧ a ≤ 4) ∨ (a = 5 ∧ (b = 9 ∨ b = 13 ∨ b = 14)) ∨ (13 ≤ a ∧ a ≤ 15) → M1 a b = M a b := fun a b h => hf a b (fun q => by have := hD a b q; omega)
  obtain ⟨⟨a1, a2⟩, ⟨b1, b2⟩, ⟨c1, c2⟩, d1, d2, d3⟩ := h
  refine ⟨⟨by rw [fr _ _ (by omega)]; exact a1, fun i hi => by rw [fr _ _ (by omega)]; exact a2 i hi⟩, ⟨by rw [fr _ _ (by omega)]; exact b1, fun i hi => by rw [fr _ _ (by omega)]; exact b2 i hi⟩, ⟨by rw [fr _ _ (by omega)]; exact c1, by rw [fr _ _ (by omega)]; exact c2⟩, by rw [fr _ _ (by omega)]; exact d1, d2, fun i hi => ?_⟩
  rw [fr 13 _ (by omega), fr 14 _ (by omega), fr 15 _ (by omega)]
  exact d3 i hi
theorem q_letter : ∀ b : Fin 256, (if nI b.val = (115 : Int32) then (0 : Int32) else (if nI b.val = (119 : Int32) then (1 : Int32) else (2 : Int32))) = nI (q_val 0 0 b.val) := by decide +kernel
theorem q_ok_ge : ∀ (b : Fin 256), (q_ok 0 1 b.val = true → 48 ≤ b.val ∧ q_val 0 1 b.val = b.val - 48) ∧ (q_ok 0 2 b.val = true → 48 ≤ b.val ∧ q_val 0 2 b.val = b.val - 48) ∧ (q_ok 1 0 b.val = true → 97 ≤ b.val ∧ q_val 1 0 b.val = b.val - 97) ∧ (q_ok 1 1 b.val = true → 48 ≤ b.val ∧ q_val 1 1 b.val = b.val - 48) := by decide +kernel
/-- the end of retell -/
theorem q_ret3 {X : zX} {M M1 : zM} {S : q_N} (hS : q_ws S) (hT : q_CT M S) (hf : q_fr q_DT M M1) (hcv : q_cv M1 5 6 7 8 9 (q_I S)) (hm : q_cmn M1 5 10 11 12 (q_I S 6) (q_I S 7) (q_nm S)) : ∃ M3, Call X 13 [.ref 16, .ref 5, .int (255 : Int32)] M1 [] M3 ∧ q_fr q_DT M (zu M3 0 13 (1 : Int32)) ∧ q_CV (zu M3 0 13 (1 : Int32)) S ∧ (zu M3 0 13 (1 : Int32)) 0 13 = 1 := by
  have hwf := q_I_wf hS
  have hT1 := q_CT_fr hT hf (fun a b h => by unfold q_DT at h; omega)
  obtain ⟨-, -, ⟨c1, c2⟩, hev⟩ := hT1
  obtain ⟨m1, m2, m3⟩ := hm
  have hcm : q_cm M1 5 10 11 12 (q_I S) := ⟨m1, m2, m3, q_ordn_len _ _ (fun m hm => (hwf.2.2.2.2.1 m hm).1), c1, c2⟩
  obtain ⟨M3, hC, hI⟩ := q_hold_a (X := X) (held := 255) hwf hcv hcm hev (by omega)
  obtain ⟨g1, g2⟩ := q_HI_R hwf hI
  have g1' : ∀ a b, ¬ q_DH 16 a b → M3 a b = M1 a b := g1
  have k : ∀ a b, ¬ (a = 0 ∧ b = 13) → (zu M3 0 13 (1 : Int32)) a b = M3 a b := fun a b h => by rw [zu_at, if_neg h]
  refine ⟨M3, hC, ?_, ⟨?_, ?_, ?_⟩, by rw [zu_at]; simp⟩
  · intro a b hn
    unfold q_DT at hn
    rw [k a b (by omega), g1' a b (by unfold q_DH; omega)]
    exact hf a b (by unfold q_DT; omega)
  · obtain ⟨v1, v2⟩ := hcv
    refine ⟨?_, fun v hv => ?_⟩
    · rw [k _ _ (by omega), g1' _ _ (by unfold q_DH; omega)]; exact v1
    · rw [k 6 _ (by omega), g1' 6 _ (by unfold q_DH; omega), k 7 _ (by omega), g1' 7 _ (by unfold q_DH; omega), k 8 _ (by omega), g1' 8 _ (by unfold q_DH; omega), k 9 _ (by omega), g1' 9 _ (by unfold q_DH; omega)]
      exact v2 v hv
  · obtain ⟨n1, n2, n3, n4, n5, n6⟩ := hcm
    refine ⟨?_, fun m hm => ?_, fun t x hx => ?_, n4, ?_, ?_⟩
    · rw [k _ _ (by omega), g1' _ _ (by unfold q_DH; omega)]; exact n1
    · rw [k 10 _ (by omega), g1' 10 _ (by unfold q_DH; omega), k 11 _ (by omega), g1' 11 _ (by unfold q_DH; omega)]
      exact n2 m hm
    · rw [k 12 _ (by omega), g1' 12 _ (by unfold q_DH; omega)]
      exact n3 t x hx
    · rw [k _ _ (by omega), g1' _ _ (by unfold q_DH; omega)]; exact n5
    · rw [k _ _ (by omega), g1' _ _ (by unfold q_DH; omega)]; exact n6
  · exact q_HR_fr g2 (fun a b h => k a b (by unfold q_DH at h; omega))
/-- the measures are told -/
theorem q_ret2 {X : zX} {M : zM} {S : q_N} (hS : q_ws S) (hT : q_CT M S) (hcl : q_fl 1 (S 2 0) (S 3) (S 2 0) 0 = -1) : ∀ (d m : Nat) (M1 : zM) (l2 l3 : Option Value), m + d = q_nm S → q_fr q_DT M M1 → q_cv M1 5 6 7 8 9 (q_I S) → q_cmn M1 5 10 11 12 (q_I S 6) (q_I S 7) m → ∃ M', At X 14 125 [some (.ref 0), some (.int (nI (3 * m))), l2, l3] [] M1 [] M' ∧ q_fr q_DT M M' ∧ q_CV M' S ∧ M' 0 13 = 1 := by
  have hwf := q_I_wf hS
  obtain ⟨g1, g2⟩ := q_fl_c (t := 1) (by have := hS.2.1.1; omega) (S 2 0) 0 (by omega) hcl
  have hw : q_w 1 = 3 := rfl
  rw [hw] at g1 g2
  have hnm : q_nm S = (S 2 0 + 1) / 3 := by unfold q_nm; rw [if_pos hcl]
  have h35 := hS.2.1.1
  intro d
  induction d with
  | zero =>
    intro m M1 l2 l3 hm hf hcv hcm
    have hm : m = q_nm S := by omega
    subst hm
    have hT1 := q_CT_fr hT hf (fun a b h => by unfold q_DT at h; omega)
    obtain ⟨M3, hC, hZ⟩ := q_ret3 (X := X) hS hT hf hcv hcm
    refine ⟨_, sg_Fv_retell_125 ⟨fun _ => ⟨M3, hC, rfl, rfl⟩, fun c => absurd ?_ c⟩, hZ⟩
    rw [hT1.2.1.1, show nI (3 * q_nm S) + (1 : Int32) = nI (3 * q_nm S + 1) from nI_1 _]
    exact (q_le (by omega) (by omega)).mpr (by omega)
  | succ d ih =>
    intro m M1 l2 l3 hm hf hcv hcm
    have hT1 := q_CT_fr hT hf (fun a b h => by unfold q_DT at h; omega)
    have t := hT1.2.1.2
    obtain ⟨M2, hC, hf2, hcm2⟩ := c_Ca_addMeasure_t (X := X) (n := m) (by omega) (fun j hj => (hwf.2.2.2.2.1 j (by show j < q_nm S; omega)).1) hcm
    have f2 : ∀ a b, ¬ (a = 12 ∨ a = 10 ∨ a = 11 ∨ (a = 5 ∧ b = 5)) → M2 a b = M1 a b := hf2
    obtain ⟨M', hA, hZ⟩ := ih (m + 1) M2 l2 l3 (by omega) (fun a b hn => by
      unfold q_DT at hn
      rw [f2 a b (by omega)]
      exact hf a b (by unfold q_DT; omega)) (by
      obtain ⟨v1, v2⟩ := hcv
      refine ⟨by rw [f2 _ _ (by omega)]; exact v1, fun v hv => ?_⟩
      rw [f2 6 _ (by omega), f2 7 _ (by omega), f2 8 _ (by omega), f2 9 _ (by omega)]
      exact v2 v hv) hcm2
    refine ⟨M', sg_Fv_retell_125 ⟨fun c => ?_, fun c => ⟨q_in (by omega) (by omega), ?_, M2, ?_, ?_⟩⟩, hZ⟩
    · rw [hT1.2.1.1, show nI (3 * m) + (1 : Int32) = nI (3 * m + 1) from nI_1 _, q_le (by omega) (by omega)] at c
      omega
    · rw [show nI (3 * m) + (1 : Int32) = nI (3 * m + 1) from nI_1 _]
      exact q_in (by omega) (by omega)
    · rw [show nI (3 * m) + (1 : Int32) = nI (3 * m + 1) from nI_1 _, q_cl (by omega), q_cl (by omega), (t (3 * m) (by omega)).1, (t (3 * m + 1) (by omega)).1]
      have k0 := g1 (3 * m) (by omega) (by omega)
      have k1 := g1 (3 * m + 1) (by omega) (by omega)
      rw [show 3 * m % 3 = 0 by omega] at k0
      rw [show (3 * m + 1) % 3 = 1 by omega] at k1
      obtain ⟨x1, x2⟩ := (q_ok_ge ⟨S 3 (3 * m), (t (3 * m) (by omega)).2⟩).2.2.1 k0
      obtain ⟨y1, y2⟩ := (q_ok_ge ⟨S 3 (3 * m + 1), (t (3 * m + 1) (by omega)).2⟩).2.2.2 k1
      rw [show nI (S 3 (3 * m)) - (97 : Int32) = nI (S 3 (3 * m) - 97) from pk_sub (b := 97) x1, show nI (S 3 (3 * m + 1)) - (48 : Int32) = nI (S 3 (3 * m + 1) - 48) from pk_sub (b := 48) y1]
      have e1 : q_I S 6 m = S 3 (3 * m) - 97 := x2
      have e2 : q_I S 7 m = S 3 (3 * m + 1) - 48 := y2
      rw [← e1, ← e2]
      exact hC
    · rw [show nI (3 * m) + (3 : Int32) = nI (3 * (m + 1)) from nI_add (3 * m) 3]
      exact hA
/-- behind the voters -/
theorem q_ret1 {X : zX} {M M1 : zM} {S : q_N} (hS : q_ws S) (hT : q_CT M S) (hf : q_fr q_DT M M1) (hcv : q_cv M1 5 6 7 8 9 (q_I S)) (l2 l3 : Option Value) : ∃ M', (∃ (r2 : Int32) (M2 : zM), Call X 4 [(.ref 0), (.int (1 : Int32))] (zu M1 5 5 (0 : Int32)) [(.int r2)] M2 ∧ (((¬ r2 = (-1 : Int32)) → (∃ (M3 : zM), Call X 13 [(.ref 16), (.ref 5), (.int (255 : Int32))] M2 [] M3 ∧ (([] : List Value) = [] ∧ M' = (zu M3 0 13 (1 : Int32))))) ∧ ((r2 = (-1 : Int32)) → (At X 14 125 [some (.ref 0), some (.int (0 : Int32)), l2, l3] [] M2 [] M')))) ∧ q_fr q_DT M M' ∧ q_CV M' S ∧ M' 0 13 = 1 := by
  have hf2 : q_fr q_DT M (zu M1 5 5 (0 : Int32)) := q_fr_zu hf (by unfold q_DT; omega)
  have hT1 := q_CT_fr hT hf2 (fun a b h => by unfold q_DT at h; omega)
  have hcv2 : q_cv (zu M1 5 5 (0 : Int32)) 5 6 7 8 9 (q_I S) := by
    obtain ⟨v1, v2⟩ := hcv
    refine ⟨by rw [zu_at, if_neg (by omega)]; exact v1, fun v hv => ?_⟩
    rw [zu_at, if_neg (by omega), zu_at, if_neg (by omega), zu_at, if_neg (by omega), zu_at, if_neg (by omega)]
    exact v2 v hv
  have hF := c_Fv_fault_m (X := X) hT1.2.1 hS.2.1.1
  have hcm0 : q_cmn (zu M1 5 5 (0 : Int32)) 5 10 11 12 (q_I S 6) (q_I S 7) 0 := by
    refine ⟨by rw [zu_at]; simp; rfl, fun m hm => by omega, fun j x hj => ?_⟩
    have e : q_ordn (q_I S 6) 0 = [] := rfl
    rw [e] at hj
    simp at hj
  by_cases hcl : q_fl 1 (S 2 0) (S 3) (S 2 0) 0 = -1
  · obtain ⟨M', hA, hZ⟩ := q_ret2 (X := X) hS hT hcl (q_nm S) 0 _ l2 l3 (by omega) hf2 hcv2 hcm0
    exact ⟨M', ⟨_, _, hF, fun c => absurd hcl c, fun _ => hA⟩, hZ⟩
  · have e0 : q_nm S = 0 := by unfold q_nm; rw [if_neg hcl]
    obtain ⟨M3, hC, hZ⟩ := q_ret3 (X := X) hS hT hf2 hcv2 (by rw [e0]; exact hcm0)
    exact ⟨_, ⟨_, _, hF, fun _ => ⟨M3, hC, rfl, rfl⟩, fun c => absurd c hcl⟩, hZ⟩
theorem q_ret0 {X : zX} {M : zM} {S : q_N} (hS : q_ws S) (hT : q_CT M S) (hcl : q_fl 0 (S 0 0) (S 1) (S 0 0) 0 = -1) : ∀ (d v : Nat) (M1 : zM) (l2 l3 : Option Value), v + d = q_nv S → q_fr q_DT M M1 → M1 5 0 = nI v → (∀ u, u < v → M1 6 u = nI (q_I S 1 u) ∧ M1 7 u = nI (q_I S 2 u) ∧ M1 8 u = nI (q_I S 3 u) ∧ M1 9 u = nI (q_I S 4 u)) → ∃ M', At X 14 19 [some (.ref 0), some (.int (nI (4 * v))), l2, l3] [] M1 [] M' ∧ q_fr q_DT M M' ∧ q_CV M' S ∧ M' 0 13 = 1 := by
  have hwf := q_I_wf hS
  obtain ⟨g1, g2⟩ := q_fl_c (t := 0) (by have := hS.1.1; omega) (S 0 0) 0 (by omega) hcl
  have hw : q_w 0 = 4 := rfl
  rw [hw] at g1 g2
  have hnv : q_nv S = (S 0 0 + 1) / 4 := by unfold q_nv; rw [if_pos hcl]
  have h31 := hS.1.1
  intro d
  induction d with
  | zero =>
    intro v M1 l2 l3 hv hf h0 hu
    have hv : v = q_nv S := by omega
    subst hv
    have hT1 := q_CT_fr hT hf (fun a b h => by unfold q_DT at h; omega)
    obtain ⟨M', hA, hZ⟩ := q_ret1 (X := X) hS hT hf ⟨h0, hu⟩ l2 l3
    refine ⟨M', sg_Fv_retell_19 ⟨fun _ => hA, fun c => absurd ?_ c⟩, hZ⟩
    rw [hT1.1.1, show nI (4 * q_nv S) + (2 : Int32) = nI (4 * q_nv S + 2) from nI_add _ 2]
    exact (q_le (by omega) (by omega)).mpr (by omega)
  | succ d ih =>
    intro v M1 l2 l3 hv hf h0 hu
    have hT1 := q_CT_fr hT hf (fun a b h => by unfold q_DT at h; omega)
    have t := hT1.1.2
    have k0 := g1 (4 * v) (by omega) (by omega)
    have k1 := g1 (4 * v + 1) (by omega) (by omega)
    have k2 := g1 (4 * v + 2) (by omega) (by omega)
    rw [show 4 * v % 4 = 0 by omega] at k0
    rw [show (4 * v + 1) % 4 = 1 by omega] at k1
    rw [show (4 * v + 2) % 4 = 2 by omega] at k2
    obtain ⟨x1, x2⟩ := (q_ok_ge ⟨S 1 (4 * v + 1), (t (4 * v + 1) (by omega)).2⟩).1 k1
    obtain ⟨y1, y2⟩ := (q_ok_ge ⟨S 1 (4 * v + 2), (t (4 * v + 2) (by omega)).2⟩).2.1 k2
    have x3 : (if nI (S 1 (4 * v)) = (115 : Int32) then (0 : Int32) else (if nI (S 1 (4 * v)) = (119 : Int32) then (1 : Int32) else (2 : Int32))) = nI (q_val 0 0 (S 1 (4 * v))) := q_letter ⟨S 1 (4 * v), (t (4 * v) (by omega)).2⟩
    have e0 : q_I S 1 v = q_val 0 0 (S 1 (4 * v)) := rfl
    have e1 : q_I S 2 v = S 1 (4 * v + 1) - 48 := x2
    have e2 : q_I S 3 v = S 1 (4 * v + 2) - 48 := y2
    have hC := c_Ca_addVoter_t (X := X) (x1 := nI (q_I S 1 v)) (x2 := nI (q_I S 2 v)) (x3 := nI (q_I S 3 v)) (M := M1) ⟨fun _ => by rw [h0]; exact ⟨q_in (by omega) (by omega), q_in (by omega) (by omega), q_in (by omega) (by omega), q_in (by omega) (by omega)⟩, fun _ => trivial⟩
    unfold m_Ca_addVoter_t at hC
    rw [h0, if_pos (show nI v < 8 from (q_lt (b := 8) (by omega) (by omega)).mpr (by omega)), q_cl (by omega), show nI v + (1 : Int32) = nI (v + 1) from nI_1 v] at hC
    obtain ⟨M', hA, hZ⟩ := ih (v + 1) (zu (zu (zu (zu (zu M1 6 v (nI (q_I S 1 v))) 7 v (nI (q_I S 2 v))) 8 v (nI (q_I S 3 v))) 9 v (nI v)) 5 0 (nI (v + 1))) (some (.int (nI (S 1 (4 * v))))) (some (.int (nI (q_val 0 0 (S 1 (4 * v)))))) (by omega) (fun a b hn => by
      unfold q_DT at hn
      simp only [zu_at]
      rw [if_neg (by omega), if_neg (by omega), if_neg (by omega), if_neg (by omega), if_neg (by omega)]
      exact hf a b (by unfold q_DT; omega)) (by rw [zu_at]; simp) (fun u hu' => by
      simp only [zu_at]
      by_cases e : u = v
      · subst e
        simp
        rfl
      · simp [e]
        exact hu u (by omega))
    refine ⟨M', sg_Fv_retell_19 ⟨fun c => ?_, fun c => ?_⟩, hZ⟩
    · rw [hT1.1.1, show nI (4 * v) + (2 : Int32) = nI (4 * v + 2) from nI_add _ 2, q_le (by omega) (by omega)] at c
      omega
    · rw [show nI (4 * v) + (1 : Int32) = nI (4 * v + 1) from nI_1 _, show nI (4 * v) + (2 : Int32) = nI (4 * v + 2) from nI_add _ 2, q_cl (a := 4 * v) (by omega), q_cl (a := 4 * v + 1) (by omega), q_cl (a := 4 * v + 2) (by omega), (t (4 * v) (by omega)).1, (t (4 * v + 1) (by omega)).1, (t (4 * v + 2) (by omega)).1, x3, show nI (S 1 (4 * v + 1)) - (48 : Int32) = nI (S 1 (4 * v + 1) - 48) from pk_sub (b := 48) x1, show nI (S 1 (4 * v + 2)) - (48 : Int32) = nI (S 1 (4 * v + 2) - 48) from pk_sub (b := 48) y1]
      rw [e0, e1, e2] at hC
      rw [e0, e1, e2] at hA
      refine ⟨q_in (by omega) (by omega), q_in (by omega) (by omega), q_in (by omega) (by omega), _, hC, ?_⟩
      rw [show nI (4 * v) + (4 : Int32) = nI (4 * (v + 1)) from nI_add (4 * v) 4]
      exact hA
/-- RETELL -/
theorem c_Fv_retell {X : zX} {M : zM} {S : q_N} (hS : q_ws S) (hT : q_CT M S) : ∃ M', Call X 14 [.ref 0] M [] M' ∧ q_fr q_DT M M' ∧ q_CV M' S ∧ M' 0 13 = 1 := by
  have hf1 : q_fr q_DT M (zu M 5 0 (0 : Int32)) := q_fr_zu q_fr_rf (by unfold q_DT; omega)
  have hT1 := q_CT_fr hT hf1 (fun a b h => by unfold q_DT at h; omega)
  have hF := c_Fv_fault_v (X := X) hT1.1 hS.1.1
  by_cases hcl : q_fl 0 (S 0 0) (S 1) (S 0 0) 0 = -1
  · obtain ⟨M', hA, hZ⟩ := q_ret0 (X := X) hS hT hcl (q_nv S) 0 _ none none (by omega) hf1 (by rw [zu_at]; simp; rfl) (fun u hu => by omega)
    exact ⟨M', Call.of (Nat.le_of_ble_eq_true rfl) (sg_Fv_retell_0 ⟨_, _, hF, fun c => absurd hcl c, fun _ => hA⟩), hZ⟩
  · have e0 : q_nv S = 0 := by unfold q_nv; rw [if_neg hcl]
    obtain ⟨M', hA, hZ⟩ := q_ret1 (X := X) hS hT hf1 (by
      refine ⟨?_, fun v hv => ?_⟩
      · show (zu M 5 0 (0 : Int32)) 5 0 = nI (q_nv S)
        rw [e0, zu_at]; simp; rfl
      · have hv' : v < q_nv S := hv
        omega) none none
    exact ⟨M', Call.of (Nat.le_of_ble_eq_true rfl) (sg_Fv_retell_0 ⟨_, _, hF, fun _ => hA, fun c => absurd c hcl⟩), hZ⟩
