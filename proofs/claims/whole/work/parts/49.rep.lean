/-! BOTH OBJECTS HOLD ONE STATE -/
/-- what became of a set of events: what is passed, and 4096 if a coat was turned -/
def q_sum (f : Nat → Nat) : Nat → Nat
  | 0 => 0
  | n + 1 => q_sum f n + f n
/-- coats in all -/
def q_nc (I : q_N) (E : q_E) : Nat := q_sum ((q_liv I E).1 2) (I 0 0)
def q_anyc (I : q_N) (E : q_E) : Bool := Nat.blt 0 (q_nc I E)
def q_oc (S : q_N) (set : Nat) : Nat := q_pb (q_I S) (q_told (S 5 0) set (q_K S)) + (if q_anyc (q_I S) (q_told (S 5 0) set (q_K S)) = true then 4096 else 0)
def q_CC (M : zM) (S : q_N) : Prop := M 0 13 = 1 ∨ (M 0 13 = 0 ∧ ∀ s, s < 256 → M 48 s = -1 ∨ M 48 s = nI (q_oc S s))
def q_CS (M : zM) (S : q_N) (it : Nat → Int32) : Prop := (M 0 11 = nI (S 9 0) ∧ ∀ i, i < S 9 0 → M 45 i = nI (S 10 i) ∧ M 46 i = nI (S 11 i)) ∧ M 0 12 = nI (S 12 0) ∧ (∀ s, s < 4 → M 51 s = (if S 13 s = 0 then -1 else nI (S 14 s)) ∧ (S 13 s ≠ 0 → M 50 s = nI (S 13 s - 1))) ∧ ∀ k, k < 240 → M 52 k = it k
def q_rC (M : zM) (S : q_N) (it : Nat → Int32) : Prop := q_CT M S ∧ q_CV M S ∧ q_CS M S it ∧ q_CC M S
theorem q_I_cg {S S' : q_N} (h : ∀ x, x ≤ 4 → S' x = S x) : q_I S' = q_I S := by
  have h0 := h 0 (by omega)
  have h1 := h 1 (by omega)
  have h2 := h 2 (by omega)
  have h3 := h 3 (by omega)
  have h4 := h 4 (by omega)
  have a : q_nv S' = q_nv S := by unfold q_nv; rw [h0, h1]
  have b : q_nm S' = q_nm S := by unfold q_nm; rw [h2, h3]
  funext x j
  unfold q_I
  rw [a, b, h1, h3, h4]
theorem q_K_cg {S S' : q_N} (h : ∀ x, x ≤ 8 → S' x = S x) {x i : Nat} (hx : x ≤ 2) : q_K S' x i = q_K S x i := by
  unfold q_K
  rw [h (6 + x) (by omega)]
theorem q_tl_cg {K K' : q_N} {held k y v : Nat} (h : ∀ x i, x ≤ 2 → K' x i = K x i) : ∀ n, q_tl K' held k y v n = q_tl K held k y v n
  | 0 => rfl
  | n + 1 => by rw [q_tl, q_tl, q_tl_cg h n, h 0 n (by omega), h 1 n (by omega), h 2 n (by omega)]
theorem q_told_cg {S S' : q_N} (h : ∀ x, x ≤ 8 → S' x = S x) (held : Nat) : q_told (S' 5 0) held (q_K S') = q_told (S 5 0) held (q_K S) := by
  funext k y v
  unfold q_told
  rw [h 5 (by omega)]
  exact q_tl_cg (fun x i hx => q_K_cg h hx) _
theorem q_CT_cg {M : zM} {S S' : q_N} (h : ∀ x, x ≤ 8 → S' x = S x) (hT : q_CT M S) : q_CT M S' := by
  unfold q_CT at *
  rw [h 0 (by omega), h 1 (by omega), h 2 (by omega), h 3 (by omega), h 4 (by omega), h 5 (by omega)]
  refine ⟨hT.1, hT.2.1, hT.2.2.1, hT.2.2.2.1, hT.2.2.2.2.1, fun i hi => ?_⟩
  rw [q_K_cg h (by omega), q_K_cg h (by omega), q_K_cg h (by omega)]
  exact hT.2.2.2.2.2 i hi
theorem q_CV_cg {M : zM} {S S' : q_N} (h : ∀ x, x ≤ 8 → S' x = S x) (hT : q_CV M S) : q_CV M S' := by
  unfold q_CV q_EA at *
  rw [q_I_cg (fun x hx => h x (by omega)), q_told_cg h]
  exact hT
theorem q_CC_cg {M : zM} {S S' : q_N} (h : ∀ x, x ≤ 8 → S' x = S x) (hT : q_CC M S) : q_CC M S' := by
  unfold q_CC q_oc at *
  simp only [q_I_cg (fun x hx => h x (by omega)), q_told_cg h]
  exact hT
theorem q_CV_fr {M M1 : zM} {S : q_N} {D : Nat → Nat → Prop} (h : q_CV M S) (hf : q_fr D M M1) (hD : ∀ a b, D a b → ¬ (5 ≤ a ∧ a ≤ 24)) : q_CV M1 S := by
  have fr : ∀ a b, (5 ≤ a ∧ a ≤ 24) → M1 a b = M a b := fun a b h => hf a b (fun q => hD a b q h)
  obtain ⟨⟨v1, v2⟩, ⟨n1, n2, n3, n4, n5, n6⟩, h3⟩ := h
  refine ⟨⟨by rw [fr _ _ (by omega)]; exact v1, fun v hv => ?_⟩, ⟨by rw [fr _ _ (by omega)]; exact n1, fun m hm => ?_, fun t x hx => by rw [fr _ _ (by omega)]; exact n3 t x hx, n4, by rw [fr _ _ (by omega)]; exact n5, by rw [fr _ _ (by omega)]; exact n6⟩, q_HR_fr h3 (fun a b h => fr a b (by unfold q_DH at h; omega))⟩
  · rw [fr 6 _ (by omega), fr 7 _ (by omega), fr 8 _ (by omega), fr 9 _ (by omega)]
    exact v2 v hv
  · rw [fr 10 _ (by omega), fr 11 _ (by omega)]
    exact n2 m hm
theorem q_CS_fr {M M1 : zM} {S : q_N} {it : Nat → Int32} {D : Nat → Nat → Prop} (h : q_CS M S it) (hf : q_fr D M M1) (hD : ∀ a b, D a b → ¬ (a = 0 ∧ (b = 11 ∨ b = 12)) ∧ a ≠ 45 ∧ a ≠ 46 ∧ ¬ (50 ≤ a ∧ a ≤ 52)) : q_CS M1 S it := by
  have fr : ∀ a b, (a = 0 ∧ (b = 11 ∨ b = 12)) ∨ a = 45 ∨ a = 46 ∨ (50 ≤ a ∧ a ≤ 52) → M1 a b = M a b := fun a b h => hf a b (fun q => by have := hD a b q; omega)
  obtain ⟨⟨a1, a2⟩, b1, c1, d1⟩ := h
  refine ⟨⟨by rw [fr _ _ (by omega)]; exact a1, fun i hi => ?_⟩, by rw [fr _ _ (by omega)]; exact b1, fun s hs => ?_, fun k hk => by rw [fr _ _ (by omega)]; exact d1 k hk⟩
  · rw [fr 45 _ (by omega), fr 46 _ (by omega)]; exact a2 i hi
  · rw [fr 51 _ (by omega), fr 50 _ (by omega)]; exact c1 s hs
theorem q_CS_cg {M : zM} {S S' : q_N} {it : Nat → Int32} (h : ∀ x, 9 ≤ x → S' x = S x) (hT : q_CS M S it) : q_CS M S' it := by
  unfold q_CS at *
  rw [h 9 (by omega), h 10 (by omega), h 11 (by omega), h 12 (by omega), h 13 (by omega), h 14 (by omega)]
  exact hT
/-- rows 9 and above, or the items, are new -/
theorem q_rC_B {M M1 : zM} {S S' : q_N} {it it' : Nat → Int32} (h : q_rC M S it) (hS : ∀ x, x ≤ 8 → S' x = S x) (hf : q_fr (fun a b => (a = 0 ∧ (b = 11 ∨ b = 12)) ∨ a = 45 ∨ a = 46 ∨ (50 ≤ a ∧ a ≤ 52)) M M1) (hB : q_CS M1 S' it') : q_rC M1 S' it' := by
  obtain ⟨h1, h2, h3, h4⟩ := h
  refine ⟨q_CT_cg hS (q_CT_fr h1 hf (fun a b q => by omega)), q_CV_cg hS (q_CV_fr h2 hf (fun a b q => by omega)), hB, q_CC_cg hS ?_⟩
  have fr : ∀ a b, ¬ ((a = 0 ∧ (b = 11 ∨ b = 12)) ∨ a = 45 ∨ a = 46 ∨ (50 ≤ a ∧ a ≤ 52)) → M1 a b = M a b := hf
  unfold q_CC at *
  rw [fr 0 13 (by omega)]
  rcases h4 with h4 | ⟨h4, h5⟩
  · exact .inl h4
  · refine .inr ⟨h4, fun s hs => ?_⟩
    rw [fr 48 s (by omega)]
    exact h5 s hs
/-- what the questions of the class may write -/
def q_DY : Nat → Nat → Prop := fun a b => (25 ≤ a ∧ a ≤ 44) ∨ a = 47 ∨ a = 48 ∨ (a = 0 ∧ b = 13)
def q_DZ : Nat → Nat → Prop := fun a b => (25 ≤ a ∧ a ≤ 44) ∨ a = 47
theorem q_rC_Y {M M1 : zM} {S : q_N} {it : Nat → Int32} (h : q_rC M S it) (hf : q_fr q_DY M M1) (hC : q_CC M1 S) : q_rC M1 S it := by
  obtain ⟨h1, h2, h3, h4⟩ := h
  exact ⟨q_CT_fr h1 hf (fun a b q => by unfold q_DY at q; omega), q_CV_fr h2 hf (fun a b q => by unfold q_DY at q; omega), q_CS_fr h3 hf (fun a b q => by unfold q_DY at q; omega), hC⟩
theorem q_rC_Z {M M1 : zM} {S : q_N} {it : Nat → Int32} (h : q_rC M S it) (hf : q_fr q_DZ M M1) : q_rC M1 S it := by
  refine q_rC_Y h (q_fr_mono hf (fun a b q => by unfold q_DZ at q; unfold q_DY; omega)) ?_
  have fr : ∀ a b, ¬ q_DZ a b → M1 a b = M a b := hf
  have h4 := h.2.2.2
  unfold q_CC at *
  rw [fr 0 13 (by unfold q_DZ; omega)]
  rcases h4 with h4 | ⟨h4, h5⟩
  · exact .inl h4
  · refine .inr ⟨h4, fun s hs => ?_⟩
    rw [fr 48 s (by unfold q_DZ; omega)]
    exact h5 s hs
/-- retold -/
theorem q_retold {X : zX} {M : zM} {S : q_N} {it : Nat → Int32} (hS : q_ws S) (hT : q_CT M S) (hB : q_CS M S it) : ∃ M1, Call X 14 [.ref 0] M [] M1 ∧ q_fr q_DT M M1 ∧ q_rC M1 S it := by
  obtain ⟨M1, hC, hf, hV, h1⟩ := c_Fv_retell (X := X) hS hT
  exact ⟨M1, hC, hf, q_CT_fr hT hf (fun a b q => by unfold q_DT at q; omega), hV, q_CS_fr hB hf (fun a b q => by unfold q_DT at q; omega), .inl h1⟩
/-! the model, in two halves -/
def q_MA (M : zM) (S : q_N) : Prop := q_mt0 M (S 0 0) (S 1) ∧ q_mt1 M (S 2 0) (S 3) ∧ (M 62 0 = nI (S 4 0) ∧ M 62 1 = nI (S 4 1)) ∧ q_mev M (S 5 0) 0 255 (q_K S)
def q_MB (M : zM) (S : q_N) (it : Nat → Int32) : Prop := (M 53 27 = nI (S 9 0) ∧ ∀ i, i < S 9 0 → M 75 (2 * i) = nI (S 10 i) ∧ M 75 (2 * i + 1) = nI (S 11 i)) ∧ M 53 4 = nI (S 12 0) ∧ (∀ s, s < 4 → M 54 s = (if S 13 s = 0 then -1 else nI (S 13 s - 1)) ∧ M 55 s = nI (S 14 s)) ∧ ∀ k, k < 240 → M 56 k = it k
theorem q_rM_AB {M : zM} {S : q_N} {it : Nat → Int32} : q_rM M S it ↔ q_MA M S ∧ q_MB M S it := by
  unfold q_rM q_MA q_MB
  simp only [and_assoc]
def q_DA : Nat → Nat → Prop := fun a b => a = 58 ∨ a = 59 ∨ a = 62 ∨ a = 63 ∨ (a = 53 ∧ b = 12)
def q_DB : Nat → Nat → Prop := fun a b => a = 54 ∨ a = 55 ∨ a = 56 ∨ a = 57 ∨ a = 75 ∨ (a = 53 ∧ (b = 4 ∨ b = 27))
theorem q_rM_A {M M1 : zM} {S S' : q_N} {it : Nat → Int32} (h : q_rM M S it) (hS : ∀ x, 9 ≤ x → S' x = S x) (hf : q_fr q_DA M M1) (hA : q_MA M1 S') : q_rM M1 S' it := by
  rw [q_rM_AB] at *
  refine ⟨hA, ?_⟩
  have fr : ∀ a b, ¬ q_DA a b → M1 a b = M a b := hf
  obtain ⟨⟨e1, e2⟩, f1, g1, k1⟩ := h.2
  unfold q_MB
  rw [hS 9 (by omega), hS 10 (by omega), hS 11 (by omega), hS 12 (by omega), hS 13 (by omega), hS 14 (by omega)]
  refine ⟨⟨by rw [fr _ _ (by unfold q_DA; omega)]; exact e1, fun i hi => ?_⟩, by rw [fr _ _ (by unfold q_DA; omega)]; exact f1, fun s hs => ?_, fun k hk => by rw [fr _ _ (by unfold q_DA; omega)]; exact k1 k hk⟩
  · rw [fr 75 _ (by unfold q_DA; omega), fr 75 _ (by unfold q_DA; omega)]; exact e2 i hi
  · rw [fr 54 _ (by unfold q_DA; omega), fr 55 _ (by unfold q_DA; omega)]; exact g1 s hs
theorem q_rM_B {M M1 : zM} {S S' : q_N} {it it' : Nat → Int32} (h : q_rM M S it) (hS : ∀ x, x ≤ 8 → S' x = S x) (hf : q_fr q_DB M M1) (hB : q_MB M1 S' it') : q_rM M1 S' it' := by
  rw [q_rM_AB] at *
  refine ⟨?_, hB⟩
  have fr : ∀ a b, ¬ q_DB a b → M1 a b = M a b := hf
  obtain ⟨⟨a1, a2, a3⟩, ⟨b1, b2, b3⟩, ⟨c1, c2⟩, ⟨d1, d2, d3, d4, d5, d6⟩⟩ := h.1
  unfold q_MA q_mev
  rw [hS 0 (by omega), hS 1 (by omega), hS 2 (by omega), hS 3 (by omega), hS 4 (by omega), hS 5 (by omega)]
  refine ⟨⟨by rw [fr _ _ (by unfold q_DB; omega)]; exact a1, a2, fun i hi => by rw [fr _ _ (by unfold q_DB; omega)]; exact a3 i hi⟩, ⟨by rw [fr _ _ (by unfold q_DB; omega)]; exact b1, b2, fun i hi => by rw [fr _ _ (by unfold q_DB; omega)]; exact b3 i hi⟩, ⟨by rw [fr _ _ (by unfold q_DB; omega)]; exact c1, by rw [fr _ _ (by unfold q_DB; omega)]; exact c2⟩, by rw [fr _ _ (by unfold q_DB; omega)]; exact d1, d2, by rw [fr _ _ (by unfold q_DB; omega)]; exact d3, d4, d5, fun i hi => ?_⟩
  rw [fr 63 (3 * i) (by unfold q_DB; omega), fr 63 (3 * i + 1) (by unfold q_DB; omega), fr 63 (3 * i + 2) (by unfold q_DB; omega), q_K_cg hS (by omega), q_K_cg hS (by omega), q_K_cg hS (by omega)]
  exact d6 i hi
/-! A CALL OF BOTH -/
def q_hi (M M1 : zM) : Prop := ∀ a b, 53 ≤ a → M1 a b = M a b
def q_lo (M M1 : zM) : Prop := ∀ a b, a < 53 → M1 a b = M a b
theorem q_hi_rf {M : zM} : q_hi M M := fun _ _ _ => rfl
theorem q_lo_rf {M : zM} : q_lo M M := fun _ _ _ => rfl
theorem q_hi_fr {D : Nat → Nat → Prop} {M M1 : zM} (h : q_fr D M M1) (hD : ∀ a b, D a b → a < 53) : q_hi M M1 := fun a b ha => h a b (fun q => by have := hD a b q; omega)
theorem q_lo_fr {D : Nat → Nat → Prop} {M M1 : zM} (h : q_fr D M M1) (hD : ∀ a b, D a b → 53 ≤ a) : q_lo M M1 := fun a b ha => h a b (fun q => by have := hD a b q; omega)
def q_opC (X : zX) (k : Nat) (args : List Value) (r : Value) (S : q_N) (it : Nat → Int32) (S' : q_N) (it' : Nat → Int32) : Prop := ∀ M, q_rC M S it → ∃ M1, Call X k (.ref 0 :: args) M [r] M1 ∧ q_hi M M1 ∧ q_rC M1 S' it'
def q_opM (X : zX) (k : Nat) (args : List Value) (r : Value) (S : q_N) (it : Nat → Int32) (S' : q_N) (it' : Nat → Int32) : Prop := ∀ M, q_rM M S it → ∃ M1, Call X k (.ref 53 :: args) M [r] M1 ∧ q_lo M M1 ∧ q_rM M1 S' it'
/-- an answer's kind -/
def q_kd (kc : Nat) (r : Value) : Bool := match r with
  | .int _ => !(kc == 60 || kc == 77)
  | .long _ => kc == 60 || kc == 77
  | _ => false
def q_op (X : zX) (kc km : Nat) (args : List Value) (S : q_N) (it : Nat → Int32) : Prop := ∃ r S' it', q_kd kc r = true ∧ q_ws S' ∧ q_opC X kc args r S it S' it' ∧ q_opM X km args r S it S' it'
/-! WORDS OF THE SCRIPT -/
def q_is (x : Int32) (n : Nat) : Prop := ∃ k, k < n ∧ x = nI k
theorem q_nI_toInt {k : Nat} (h : k < 100000) : (nI k).toInt = k := by
  unfold nI
  rw [Int32.toInt_ofNat_of_lt (by omega)]
theorem q_is_iff {x : Int32} {n : Nat} (hn : n < 100000) : q_is x n ↔ 0 ≤ x.toInt ∧ x.toInt < n := by
  constructor
  · rintro ⟨k, hk, rfl⟩
    rw [q_nI_toInt (by omega)]
    omega
  · rintro ⟨h1, h2⟩
    refine ⟨x.toInt.toNat, by omega, ?_⟩
    apply Int32.toInt_inj.mp
    rw [q_nI_toInt (by omega)]
    omega
theorem q_below_1 {x : Int32} {n : Nat} (M : zM) (hn : n < 100000) (h : q_is x n) : f_Fv_below x (nI n) M = 1 := by
  obtain ⟨h1, h2⟩ := (q_is_iff hn).mp h
  unfold f_Fv_below
  rw [if_neg (by rw [Int32.lt_iff_toInt_lt]; show ¬ x.toInt < 0; omega), if_neg (by rw [Int32.le_iff_toInt_le, q_nI_toInt hn]; omega)]
theorem q_below_0 {x : Int32} {n : Nat} (M : zM) (hn : n < 100000) (h : ¬ q_is x n) : f_Fv_below x (nI n) M = 0 := by
  rw [q_is_iff hn] at h
  unfold f_Fv_below
  by_cases h1 : x < 0
  · rw [if_pos h1]
  · rw [if_neg h1, if_pos]
    rw [Int32.lt_iff_toInt_lt] at h1
    have h1' : ¬ x.toInt < 0 := h1
    rw [Int32.le_iff_toInt_le, q_nI_toInt hn]
    omega
theorem q_in64 (x a b : Int64) (M : zM) : f_Mo_in x a b M = if a.toInt ≤ x.toInt ∧ x.toInt ≤ b.toInt then 1 else 0 := by
  unfold f_Mo_in
  have e1 : (lg_cmp x a < 0) ↔ ¬ a.toInt ≤ x.toInt := by
    unfold lg_cmp
    simp only [gt_iff_lt, Int64.lt_iff_toInt_lt, ← Int64.toInt_inj]
    split
    · constructor
      · intro h; exact absurd h (by decide)
      · intro h; omega
    · split
      · constructor
        · intro h; exact absurd h (by decide)
        · intro h; omega
      · constructor
        · intro h; omega
        · intro h; decide
  have e2 : (0 < lg_cmp x b) ↔ ¬ x.toInt ≤ b.toInt := by
    unfold lg_cmp
    simp only [gt_iff_lt, Int64.lt_iff_toInt_lt, ← Int64.toInt_inj]
    split
    · constructor
      · intro h; omega
      · intro h; decide
    · split
      · constructor
        · intro h; exact absurd h (by decide)
        · intro h; omega
      · constructor
        · intro h; exact absurd h (by decide)
        · intro h; omega
  by_cases h1 : a.toInt ≤ x.toInt
  · rw [if_neg (fun q => (e1.mp q) h1)]
    by_cases h2 : x.toInt ≤ b.toInt
    · rw [if_neg (fun q => (e2.mp q) h2), if_pos ⟨h1, h2⟩]
    · rw [if_pos (e2.mpr h2), if_neg (fun q => h2 q.2)]
  · rw [if_pos (e1.mpr h1), if_neg (fun q => h1 q.1)]
theorem q_in_1 {x : Int32} {n : Nat} {b : Int64} (M : zM) (hn : n < 100000) (hb : b.toInt = (n : Int) - 1) (h : q_is x n) : f_Mo_in x.toInt64 (0 : Int64) b M = 1 := by
  obtain ⟨h1, h2⟩ := (q_is_iff hn).mp h
  rw [q_in64, if_pos]
  rw [Int32.toInt_toInt64, hb]
  show (0 : Int) ≤ _ ∧ _
  omega
theorem q_in_0 {x : Int32} {n : Nat} {b : Int64} (M : zM) (hn : n < 100000) (hb : b.toInt = (n : Int) - 1) (h : ¬ q_is x n) : f_Mo_in x.toInt64 (0 : Int64) b M = 0 := by
  rw [q_is_iff hn] at h
  rw [q_in64, if_neg]
  rw [Int32.toInt_toInt64, hb]
  intro q
  have q' : (0 : Int) ≤ _ ∧ _ := q
  omega
theorem q_in_01 (x : Int64) (a b : Int64) (M : zM) : f_Mo_in x a b M = 0 ∨ f_Mo_in x a b M = 1 := by
  rw [q_in64]
  split
  · exact .inr rfl
  · exact .inl rfl
theorem q_pred64 {n : Nat} (h : n < 100000) : ((nI n - (1 : Int32)).toInt64).toInt = (n : Int) - 1 := by
  rw [Int32.toInt_toInt64]
  exact pk_sub_toInt (a := n) (b := 1) (by omega) (by omega)
