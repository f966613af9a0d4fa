/-! SWAP -/
def q_swI (I : q_N) (a b : Nat) : q_N := q_up (q_up I 4 a b) 4 b a
def q_swS (I : q_N) (E : q_E) (a b : Nat) (st : Option ((Nat × Nat) × Nat)) : Option ((Nat × Nat) × Nat) := match st with
  | none => some ((a, b), q_np (q_swI I a b) E)
  | some p => if q_np (q_swI I a b) E ≤ p.2 then some p else some ((a, b), q_np (q_swI I a b) E)
def q_swB (I : q_N) (E : q_E) (a : Nat) : Nat → Nat → Option ((Nat × Nat) × Nat) → Option ((Nat × Nat) × Nat)
  | 0, _, st => st
  | d + 1, b, st => q_swB I E a d (b + 1) (q_swS I E a b st)
def q_swA (I : q_N) (E : q_E) : Nat → Nat → Option ((Nat × Nat) × Nat) → Option ((Nat × Nat) × Nat)
  | 0, _, st => st
  | d + 1, a, st => q_swA I E d (a + 1) (q_swB I E a d (a + 1) st)
def q_f1 (st : Option ((Nat × Nat) × Nat)) : Int32 := match st with
  | none => -1
  | some p => nI p.1.1
def q_f2 (st : Option ((Nat × Nat) × Nat)) : Int32 := match st with
  | none => -1
  | some p => nI p.1.2
def q_f3 (st : Option ((Nat × Nat) × Nat)) : Int32 := match st with
  | none => -1
  | some p => nI p.2
def q_f8 (st : Option ((Nat × Nat) × Nat)) : Int32 := match st with
  | none => -1
  | some p => nI (8 * p.1.1 + p.1.2)
def q_fok (st : Option ((Nat × Nat) × Nat)) : Prop := match st with
  | none => True
  | some p => p.1.1 < 8 ∧ p.1.2 < 8 ∧ p.2 < 100
def q_swR (w : Nat) (st : Option ((Nat × Nat) × Nat)) : Int32 := if nI w = 0 then q_f1 st else if nI w = 1 then q_f2 st else q_f3 st
theorem q_np_lt {I : q_N} {E : q_E} (hwf : q_wf I) : q_np I E ≤ 12 := by
  have := q_cnt_le (fun m => (q_liv I E).2 4 m == 1) (I 5 0)
  have := hwf.2.2.2.1
  unfold q_np
  omega
theorem q_swS_ok {I : q_N} {E : q_E} {a b : Nat} {st : Option ((Nat × Nat) × Nat)} (hwf : q_wf (q_swI I a b)) (ha : a < 8) (hb : b < 8) (h : q_fok st) : q_fok (q_swS I E a b st) := by
  have hn := q_np_lt (E := E) hwf
  unfold q_swS
  cases st with
  | none => exact ⟨ha, hb, by show q_np (q_swI I a b) E < 100; omega⟩
  | some p =>
    dsimp only
    split
    · exact h
    · exact ⟨ha, hb, by show q_np (q_swI I a b) E < 100; omega⟩
theorem q_swC {X : zX} {M : zM} {I : q_N} {ne w a : Nat} {K : q_N} {Z : zM → Prop} {R : Value} (hwf : q_wf I) (h4 : ∀ j, I 4 j = j) (h50 : M 5 0 = nI (I 0 0)) (h : q_tr3 M I ne K) (ha : a < I 0 0) (G : Option ((Nat × Nat) × Nat) → Prop) (hgo : ∀ (st : Option ((Nat × Nat) × Nat)) (M2 : zM) (l6 l7 : Option Value), G st → q_fok st → q_fr (q_DH 36) M M2 → ∃ M', At X 39 32 [some (.ref 0), some (.int (nI w)), some (.int (q_f1 st)), some (.int (q_f2 st)), some (.int (q_f3 st)), some (.int (nI (a + 1))), l6, l7] [] M2 [R] M' ∧ Z M') : ∀ (d b : Nat) (st : Option ((Nat × Nat) × Nat)) (M1 : zM) (l7 : Option Value), b + d = I 0 0 → a < b → q_fok st → G (q_swB I (q_told ne 255 K) a d b st) → q_fr (q_DH 36) M M1 → ∃ M', At X 39 50 [some (.ref 0), some (.int (nI w)), some (.int (q_f1 st)), some (.int (q_f2 st)), some (.int (q_f3 st)), some (.int (nI a)), some (.int (nI b)), l7] [] M1 [R] M' ∧ Z M' := by
  have h8 := hwf.1
  intro d
  induction d with
  | zero =>
    intro b st M1 l7 hb hab hst hG hf
    have hb : b = I 0 0 := by omega
    subst hb
    obtain ⟨M', hA, hZ⟩ := hgo st M1 (some (.int (nI (I 0 0)))) l7 hG hst hf
    refine ⟨M', sg_Fv_swap_50 ⟨fun _ => ?_, fun c => absurd (by rw [hf 5 0 (by unfold q_DH; omega), h50]; exact Int32.le_refl _) c⟩, hZ⟩
    rw [show nI a + (1 : Int32) = nI (a + 1) from nI_1 a]
    exact hA
  | succ d ih =>
    intro b st M1 l7 hb hab hst hG hf
    have fr : ∀ x y, ¬ q_DH 36 x y → M1 x y = M x y := hf
    have hwf' : q_wf (q_swI I a b) := q_wf_swap hwf h4 ha (by omega)
    have s29 : ∀ j, j < I 0 0 → M 29 j = nI j := fun j hj => by
      have := (h.1.2 j hj).2.2.2
      rw [h4] at this
      exact this
    have hi : ∀ j, j < I 0 0 → vp_in (nI j) 8 := fun j hj => q_in (by omega) (by omega)
    have cp1 := c_Ca_changePlaces_r (X := X) (x1 := nI a) (x2 := nI b) (M := M1) ⟨hi a ha, hi b (by omega), hi a ha, hi b (by omega)⟩
    unfold m_Ca_changePlaces_r at cp1
    rw [q_cl (by omega), q_cl (by omega), fr 29 b (by unfold q_DH; omega), fr 29 a (by unfold q_DH; omega), s29 a ha, s29 b (by omega)] at cp1
    obtain ⟨M2, hC2, hf2, hR⟩ := q_try (X := X) (held := 255) hwf' (q_tr_swap (a := a) (b := b) h h4 hf) (by omega)
    have cp2 := c_Ca_changePlaces_r (X := X) (x1 := nI a) (x2 := nI b) (M := M2) ⟨hi a ha, hi b (by omega), hi a ha, hi b (by omega)⟩
    unfold m_Ca_changePlaces_r at cp2
    rw [q_cl (by omega), q_cl (by omega), hf2 29 b (by unfold q_DH; omega), hf2 29 a (by unfold q_DH; omega), zu_y, zu_n (by omega), zu_y] at cp2
    have h364 : (zu (zu M2 29 a (nI a)) 29 b (nI b)) 36 4 = nI (q_pb (q_swI I a b) (q_told ne 255 K)) := by rw [zu_n (by omega), zu_n (by omega)]; exact hR.2.2.1
    have hbc := c_In_bitCount (X := X) (x0 := (zu (zu M2 29 a (nI a)) 29 b (nI b)) 36 4) (M := zu (zu M2 29 a (nI a)) 29 b (nI b))
    have hbe : f_In_bitCount ((zu (zu M2 29 a (nI a)) 29 b (nI b)) 36 4) (zu (zu M2 29 a (nI a)) 29 b (nI b)) = nI (q_np (q_swI I a b) (q_told ne 255 K)) := by
      rw [h364]
      exact q_bc_bits _ hwf'.2.2.2.1
    rw [hbe] at hbc
    have hn := q_np_lt (E := q_told ne 255 K) hwf'
    have hfN : q_fr (q_DH 36) M (zu (zu M2 29 a (nI a)) 29 b (nI b)) := fun x y hq => by
      rw [zu_at]
      split
      · rename_i e
        rw [e.1, e.2, s29 b (by omega)]
      · rw [zu_at]
        split
        · rename_i e
          rw [e.1, e.2, s29 a ha]
        · rw [hf2 x y hq, zu_n (by omega), zu_n (by omega)]
          exact hf x y hq
    have hok := q_swS_ok (E := q_told ne 255 K) (a := a) (b := b) hwf' (by omega) (by omega) hst
    obtain ⟨M', hA, hZ⟩ := ih (b + 1) (q_swS I (q_told ne 255 K) a b st) _ (some (.int (nI (q_np (q_swI I a b) (q_told ne 255 K))))) (by omega) (by omega) hok hG hfN
    refine ⟨M', sg_Fv_swap_50 ⟨fun c => absurd c (q_nle (by rw [fr _ _ (by unfold q_DH; omega)]; exact h50) (by omega) (by omega)), fun _ => ⟨_, cp1, _, hC2, _, cp2, _, _, hbc, ?_⟩⟩, hZ⟩
    rw [show nI b + (1 : Int32) = nI (b + 1) from nI_1 b]
    cases st with
    | none =>
      have c : ¬ nI (q_np (q_swI I a b) (q_told ne 255 K)) ≤ q_f3 none := by
        intro q
        rw [Int32.le_iff_toInt_le, q_nI_toInt (by omega)] at q
        have : (q_f3 none).toInt = -1 := by decide
        omega
      rw [if_neg c, if_neg c, if_neg c]
      exact hA
    | some p =>
      obtain ⟨p1, p2, p3⟩ := hst
      by_cases c : q_np (q_swI I a b) (q_told ne 255 K) ≤ p.2
      · have c' : nI (q_np (q_swI I a b) (q_told ne 255 K)) ≤ q_f3 (some p) := (q_le (by omega) (by omega)).mpr c
        have hs : q_swS I (q_told ne 255 K) a b (some p) = some p := by show (if _ then _ else _) = _; rw [if_pos c]
        rw [hs] at hA
        rw [if_pos c', if_pos c', if_pos c']
        exact hA
      · have c' : ¬ nI (q_np (q_swI I a b) (q_told ne 255 K)) ≤ q_f3 (some p) := fun q => c ((q_le (by omega) (by omega)).mp q)
        have hs : q_swS I (q_told ne 255 K) a b (some p) = some ((a, b), q_np (q_swI I a b) (q_told ne 255 K)) := by show (if _ then _ else _) = _; rw [if_neg c]
        rw [hs] at hA
        rw [if_neg c', if_neg c', if_neg c']
        exact hA
theorem q_swB_ok {I : q_N} {E : q_E} {a n : Nat} (hn : n ≤ 8) (hwf : ∀ b, b < n → q_wf (q_swI I a b)) (ha : a < 8) : ∀ (d b : Nat) (st : Option ((Nat × Nat) × Nat)), b + d = n → q_fok st → q_fok (q_swB I E a d b st)
  | 0, _, _, _, h => h
  | d + 1, b, st, hb, h => q_swB_ok hn hwf ha d (b + 1) _ (by omega) (q_swS_ok (hwf b (by omega)) ha (by omega) h)
theorem q_swCA {X : zX} {M : zM} {I : q_N} {ne w : Nat} {K : q_N} (hwf : q_wf I) (h4 : ∀ j, I 4 j = j) (h50 : M 5 0 = nI (I 0 0)) (h : q_tr3 M I ne K) : ∀ (d a : Nat) (st : Option ((Nat × Nat) × Nat)) (M1 : zM) (l6 l7 : Option Value), a + d = I 0 0 → q_fok st → q_fr (q_DH 36) M M1 → ∃ M', At X 39 32 [some (.ref 0), some (.int (nI w)), some (.int (q_f1 st)), some (.int (q_f2 st)), some (.int (q_f3 st)), some (.int (nI a)), l6, l7] [] M1 [.int (q_swR w (q_swA I (q_told ne 255 K) d a st))] M' ∧ q_fr (q_DH 36) M M' := by
  have h8 := hwf.1
  intro d
  induction d with
  | zero =>
    intro a st M1 l6 l7 ha hst hf
    have ha : a = I 0 0 := by omega
    subst ha
    refine ⟨M1, sg_Fv_swap_32 ⟨fun _ => ⟨fun c => ⟨?_, rfl⟩, fun c => ⟨?_, rfl⟩⟩, fun c => absurd (by rw [hf 5 0 (by unfold q_DH; omega), h50]; exact Int32.le_refl _) c⟩, hf⟩
    · show [Value.int (if nI w = 0 then q_f1 st else if nI w = 1 then q_f2 st else q_f3 st)] = _
      rw [if_neg c]
    · show [Value.int (if nI w = 0 then q_f1 st else if nI w = 1 then q_f2 st else q_f3 st)] = _
      rw [if_pos c]
  | succ d ih =>
    intro a st M1 l6 l7 ha hst hf
    obtain ⟨M', hA, hZ⟩ := q_swC (X := X) (w := w) (a := a) (R := .int (q_swR w (q_swA I (q_told ne 255 K) (d + 1) a st))) (Z := q_fr (q_DH 36) M) hwf h4 h50 h (by omega) (fun s => s = q_swB I (q_told ne 255 K) a d (a + 1) st) (fun s M2 l6 l7 hs hok hf2 => by
      obtain ⟨M', hA, hZ⟩ := ih (a + 1) s M2 l6 l7 (by omega) hok hf2
      refine ⟨M', ?_, hZ⟩
      rw [hs] at hA ⊢
      exact hA) d (a + 1) st M1 l7 (by omega) (by omega) hst rfl hf
    refine ⟨M', sg_Fv_swap_32 ⟨fun c => absurd c (q_nle (by rw [hf 5 0 (by unfold q_DH; omega)]; exact h50) (by omega) (by omega)), fun _ => ?_⟩, hZ⟩
    rw [show nI a + (1 : Int32) = nI (a + 1) from nI_1 a]
    exact hA
def q_swp (I : q_N) (E : q_E) (w : Nat) : Int32 := q_swR w (q_swA I E (I 0 0) 0 none)
theorem c_Fv_swap_r {X : zX} {S : q_N} {w : Nat} (hS : q_ws S) (hw : w < 3) : q_cA X 39 [.int (nI w)] (.int (q_swp (q_I S) (q_EA S) w)) S := q_cA_Z (fun M it h => by
  have hwf := q_I_wf hS
  obtain ⟨M5, hB, hfB, hT⟩ := q_become (X := X) hS h.1 h.2.1
  obtain ⟨M', hA, hZ⟩ := q_swCA (X := X) (w := w) hwf (q_h4 S) (by rw [hfB 5 0 (by omega)]; exact h.2.1.1.1) hT (q_I S 0 0) 0 none M5 none none (by omega) trivial q_fr_rf
  refine ⟨M', Call.of (Nat.le_of_ble_eq_true rfl) (sg_Fv_swap_0 ⟨_, _, q_bel_1 (n := 3) rfl (by omega) ⟨w, hw, rfl⟩, fun _ => ⟨M5, hB, hA⟩, fun c => absurd c q_n10⟩), fun a b hn => ?_⟩
  unfold q_DZ at hn
  rw [hZ a b (by unfold q_DH; omega), hfB a b (by omega)])
theorem q_swM {X : zX} {M : zM} {I : q_N} {ne gone held w a : Nat} {K : q_N} {Z : zM → Prop} {R : Value} (hwf : q_wf I) (h4 : ∀ j, I 4 j = j) (h : q_mt M I ne gone held K) (ha : a < I 0 0) (G : Option ((Nat × Nat) × Nat) → Prop) (hgo : ∀ (st : Option ((Nat × Nat) × Nat)) (M2 : zM) (l5 l6 : Option Value), G st → q_fok st → q_fr q_DM M M2 → ∃ M', At X 132 7 [some (.ref 53), some (.int (nI w)), some (.int (q_f8 st)), some (.int (q_f3 st)), some (.int (nI (a + 1))), l5, l6] [] M2 [R] M' ∧ Z M') : ∀ (d b : Nat) (st : Option ((Nat × Nat) × Nat)) (M1 : zM) (l6 : Option Value), b + d = I 0 0 → a < b → q_fok st → G (q_swB I (q_told ne held K) a d b st) → q_fr q_DM M M1 → ∃ M', At X 132 22 [some (.ref 53), some (.int (nI w)), some (.int (q_f8 st)), some (.int (q_f3 st)), some (.int (nI a)), some (.int (nI b)), l6] [] M1 [R] M' ∧ Z M' := by
  have h8 := hwf.1
  intro d
  induction d with
  | zero =>
    intro b st M1 l6 hb hab hst hG hf
    have hb : b = I 0 0 := by omega
    subst hb
    obtain ⟨M', hA, hZ⟩ := hgo st M1 (some (.int (nI (I 0 0)))) l6 hG hst hf
    refine ⟨M', sg_Mo_swapBy_22 ⟨fun _ => ?_, fun c => absurd (by rw [hf 53 7 (by unfold q_DM; omega), h.1.1]; exact Int32.le_refl _) c⟩, hZ⟩
    rw [show nI a + (1 : Int32) = nI (a + 1) from nI_1 a]
    exact hA
  | succ d ih =>
    intro b st M1 l6 hb hab hst hG hf
    have fr : ∀ x y, ¬ q_DM x y → M1 x y = M x y := hf
    have hwf' : q_wf (q_swI I a b) := q_wf_swap hwf h4 ha (by omega)
    have s64 : ∀ j, j < I 0 0 → M 64 j = nI j := fun j hj => by
      have := (h.1.2 j hj).2.2.2
      rw [h4] at this
      exact this
    have hi : ∀ j, j < I 0 0 → vp_in (nI j) 8 := fun j hj => q_in (by omega) (by omega)
    have ht := q_mt_swap (a := a) (b := b) h h4 hf
    obtain ⟨M2, hC2, hf2, hL⟩ := q_liveT (X := X) hwf' ht
    have h9 : M2 53 9 = nI (q_swI I a b 5 0) := by rw [hf2 53 9 (by unfold q_DM; omega)]; exact ht.2.1.1
    have hsum := c_Mo_sumBy (X := X) (w := 0) hwf' hL h9 (by omega)
    have hn := q_np_lt (E := q_told ne held K) hwf'
    have hfN : q_fr q_DM M (zu (zu M2 64 a (nI a)) 64 b (nI b)) := fun x y hq => by
      rw [zu_at]
      split
      · rename_i e
        rw [e.1, e.2, s64 b (by omega)]
      · rw [zu_at]
        split
        · rename_i e
          rw [e.1, e.2, s64 a ha]
        · rw [hf2 x y hq, zu_n (by omega), zu_n (by omega)]
          exact hf x y hq
    have hok := q_swS_ok (E := q_told ne held K) (a := a) (b := b) hwf' (by omega) (by omega) hst
    obtain ⟨M', hA, hZ⟩ := ih (b + 1) (q_swS I (q_told ne held K) a b st) _ (some (.int (nI (q_np (q_swI I a b) (q_told ne held K))))) (by omega) (by omega) hok hG hfN
    refine ⟨M', sg_Mo_swapBy_22 ⟨fun c => absurd c (q_nle (by rw [fr _ _ (by unfold q_DM; omega)]; exact h.1.1) (by omega) (by omega)), fun _ => ⟨hi a ha, hi b (by omega), ?_⟩⟩, hZ⟩
    rw [q_cl (by omega), q_cl (by omega)]
    refine ⟨M2, hC2, _, _, hsum, _, _, c_Mo_greater, hi a ha, hi b (by omega), ?_⟩
    unfold f_Mo_greater
    rw [show nI b + (1 : Int32) = nI (b + 1) from nI_1 b, show (8 : Int32) * nI a = nI (8 * a) from pk_mul 8 a, nI_add]
    have hA' : At X 132 22 [some (.ref 53), some (.int (nI w)), some (.int (q_f8 (q_swS I (q_told ne held K) a b st))), some (.int (q_f3 (q_swS I (q_told ne held K) a b st))), some (.int (nI a)), some (.int (nI (b + 1))), some (.int (nI (q_np (q_swI I a b) (q_told ne held K))))] [] (zu (zu M2 64 a (nI a)) 64 b (nI b)) [R] M' := hA
    have hq : q_cnt (fun m => (q_liv (q_swI I a b) (q_told ne held K)).2 (4 + 0) m == 1) (q_swI I a b 5 0) = q_np (q_swI I a b) (q_told ne held K) := rfl
    rw [hq]
    cases st with
    | none =>
      have c : ¬ nI (q_np (q_swI I a b) (q_told ne held K)) ≤ q_f3 none := by
        intro q
        rw [Int32.le_iff_toInt_le, q_nI_toInt (by omega)] at q
        have : (q_f3 none).toInt = -1 := by decide
        omega
      rw [if_neg c, if_neg c]
      exact hA'
    | some p =>
      obtain ⟨p1, p2, p3⟩ := hst
      by_cases c : q_np (q_swI I a b) (q_told ne held K) ≤ p.2
      · have c' : nI (q_np (q_swI I a b) (q_told ne held K)) ≤ q_f3 (some p) := (q_le (by omega) (by omega)).mpr c
        have hs : q_swS I (q_told ne held K) a b (some p) = some p := by show (if _ then _ else _) = _; rw [if_pos c]
        rw [hs] at hA'
        rw [if_pos c', if_pos c']
        exact hA'
      · have c' : ¬ nI (q_np (q_swI I a b) (q_told ne held K)) ≤ q_f3 (some p) := fun q => c ((q_le (by omega) (by omega)).mp q)
        have hs : q_swS I (q_told ne held K) a b (some p) = some ((a, b), q_np (q_swI I a b) (q_told ne held K)) := by show (if _ then _ else _) = _; rw [if_neg c]
        rw [hs] at hA'
        rw [if_neg c', if_neg c']
        exact hA'
theorem q_swMA {X : zX} {M : zM} {I : q_N} {ne gone held w : Nat} {K : q_N} (hwf : q_wf I) (h4 : ∀ j, I 4 j = j) (h : q_mt M I ne gone held K) : ∀ (d a : Nat) (st : Option ((Nat × Nat) × Nat)) (M1 : zM) (l5 l6 : Option Value), a + d = I 0 0 → q_fok st → q_fr q_DM M M1 → ∃ M', At X 132 7 [some (.ref 53), some (.int (nI w)), some (.int (q_f8 st)), some (.int (q_f3 st)), some (.int (nI a)), l5, l6] [] M1 [.int (q_swR w (q_swA I (q_told ne held K) d a st))] M' ∧ q_fr q_DM M M' := by
  have h8 := hwf.1
  intro d
  induction d with
  | zero =>
    intro a st M1 l5 l6 ha hst hf
    have ha : a = I 0 0 := by omega
    subst ha
    refine ⟨M1, sg_Mo_swapBy_7 ⟨fun _ => ⟨?_, rfl⟩, fun c => absurd (by rw [hf 53 7 (by unfold q_DM; omega), h.1.1]; exact Int32.le_refl _) c⟩, hf⟩
    show [Value.int (if nI w = 0 then q_f1 st else if nI w = 1 then q_f2 st else q_f3 st)] = _
    cases st with
    | none =>
      rw [if_pos (show q_f8 none = -1 from rfl)]
      show [Value.int (if nI w = 0 then (-1 : Int32) else if nI w = 1 then -1 else -1)] = _
      split
      · rfl
      · split <;> rfl
    | some p =>
      obtain ⟨p1, p2, p3⟩ := hst
      have e : q_f8 (some p) = nI (8 * p.1.1 + p.1.2) := rfl
      rw [e, if_neg (q_nneg1 (by omega)), show nI (8 * p.1.1 + p.1.2) / (8 : Int32) = nI ((8 * p.1.1 + p.1.2) / 8) from q_div (d := 8) (by omega) (by omega) (by omega), show nI ((8 * p.1.1 + p.1.2) / 8) * (8 : Int32) = nI ((8 * p.1.1 + p.1.2) / 8 * 8) from pk_mul _ 8, pk_sub (by omega), show (8 * p.1.1 + p.1.2) / 8 = p.1.1 by omega, show 8 * p.1.1 + p.1.2 - p.1.1 * 8 = p.1.2 by omega]
      rfl
  | succ d ih =>
    intro a st M1 l5 l6 ha hst hf
    obtain ⟨M', hA, hZ⟩ := q_swM (X := X) (w := w) (a := a) (R := .int (q_swR w (q_swA I (q_told ne held K) (d + 1) a st))) (Z := q_fr q_DM M) hwf h4 h (by omega) (fun s => s = q_swB I (q_told ne held K) a d (a + 1) st) (fun s M2 l5 l6 hs hok hf2 => by
      obtain ⟨M', hA, hZ⟩ := ih (a + 1) s M2 l5 l6 (by omega) hok hf2
      refine ⟨M', ?_, hZ⟩
      rw [hs] at hA ⊢
      exact hA) d (a + 1) st M1 l6 (by omega) (by omega) hst rfl hf
    refine ⟨M', sg_Mo_swapBy_7 ⟨fun c => absurd c (q_nle (by rw [hf 53 7 (by unfold q_DM; omega)]; exact h.1.1) (by omega) (by omega)), fun _ => ?_⟩, hZ⟩
    rw [show nI a + (1 : Int32) = nI (a + 1) from nI_1 a]
    exact hA
theorem c_Mo_swapBy_r {X : zX} {S : q_N} {w : Nat} (hS : q_ws S) : q_mA X 132 [.int (nI w)] (.int (q_swp (q_I S) (q_EA S) w)) S := q_mA_M (fun M it h ht => by
  have hwf := q_I_wf hS
  obtain ⟨M', hA, hZ⟩ := q_swMA (X := X) (w := w) hwf (q_h4 S) ht (q_I S 0 0) 0 none M none none (by omega) trivial q_fr_rf
  exact ⟨M', Call.of (Nat.le_of_ble_eq_true rfl) (sg_Mo_swapBy_0 hA), q_fr_mono hZ (fun a b q => .inl q)⟩)
theorem o_swap {X : zX} {S : q_N} {it : Nat → Int32} {x1 : Int32} (hS : q_ws S) : q_op X 39 133 [.int x1] S it := by
  by_cases h1 : q_is x1 3
  case neg =>
    refine q_op_ask (.int (-2)) hS (fun M h => ⟨M, Call.of (Nat.le_of_ble_eq_true rfl) (sg_Fv_swap_0 ⟨_, _, q_bel_0 (n := 3) rfl (by omega) h1, fun c => absurd rfl c, fun _ => ⟨rfl, rfl⟩⟩), q_fr_rf, h.2.2.2⟩) (fun M h => ?_)
    obtain ⟨M1, hC, hf, hv, hm, hL⟩ := c_Mo_find (X := X) hS h
    exact ⟨M1, Call.of (Nat.le_of_ble_eq_true rfl) (sg_Mo_swap_0 ⟨_, hC, _, _, q_inn_0 (n := 3) (by omega) (by decide) h1, fun _ => ⟨rfl, rfl⟩, fun c => absurd rfl c⟩), hf⟩
  obtain ⟨w, hw, rfl⟩ := h1
  refine q_op_ask _ hS (fun M h => c_Fv_swap_r hS hw M it h) (fun M h => ?_)
  obtain ⟨M1, hC, hf, hmv, hmm, hL⟩ := c_Mo_find (X := X) hS h
  obtain ⟨M2, hC2, hf2, -⟩ := c_Mo_swapBy_r (X := X) (w := w) hS M1 it (q_rM_fr h hf) hmv hmm
  exact ⟨M2, Call.of (Nat.le_of_ble_eq_true rfl) (sg_Mo_swap_0 ⟨_, hC, _, _, q_inn_1 (n := 3) (by omega) (by decide) ⟨w, hw, rfl⟩, fun c => absurd c q_n10, fun _ => ⟨_, _, hC2, rfl, rfl⟩⟩), q_fr_tr hf hf2⟩
/-! WISH -/
/-- behind tryHearts -/
def q_wI (I : q_N) (v : Nat) : q_N := q_up I 8 0 v
theorem q_heaL {X : zX} {M : zM} {I : q_N} {ne : Nat} {K : q_N} (hwf : q_wf I) (h : q_tr3 M I ne K) : ∀ (d v : Nat) (M1 : zM), v + d = 8 → q_fr (fun a b => q_DH 36 a b ∨ a = 47 ∨ (a = 25 ∧ b = 13)) M M1 → (∀ u, u < v → M1 47 u = nI (q_pb (q_wI I u) (q_told ne 255 K))) → ∃ M', At X 40 13 [some (.ref 0), some (.int (nI v))] [] M1 [] M' ∧ q_fr (fun a b => q_DH 36 a b ∨ a = 47 ∨ (a = 25 ∧ b = 13)) M M' ∧ ∀ u, u < 8 → M' 47 u = nI (q_pb (q_wI I u) (q_told ne 255 K)) := by
  intro d
  induction d with
  | zero =>
    intro v M1 hv hf hu
    have hv : v = 8 := by omega
    subst hv
    exact ⟨M1, sg_Fv_tryHearts_13 ⟨fun _ => ⟨rfl, rfl⟩, fun c => absurd (Int32.le_refl _) c⟩, hf, hu⟩
  | succ d ih =>
    intro v M1 hv hf hu
    have hwf' := q_wf_wish (v := v) hwf (by omega)
    obtain ⟨M3, hC, hf3, hR⟩ := q_try (X := X) (held := 255) hwf' (q_tr_wish (v := v) h hf) (by omega)
    obtain ⟨M', hA, hZ⟩ := ih (v + 1) (zu M3 47 v (nI (q_pb (q_wI I v) (q_told ne 255 K)))) (by omega) (fun a b hn => by
      rw [zu_n (by omega), hf3 a b (fun q => hn (.inl q)), zu_n (by omega)]
      exact hf a b hn) (fun u hu' => by
      by_cases e : u = v
      · rw [e, zu_y]
      · rw [zu_n (by omega), hf3 47 u (by unfold q_DH; omega), zu_n (by omega)]
        exact hu u (by omega))
    refine ⟨M', sg_Fv_tryHearts_13 ⟨fun c => absurd ((q_le (a := 8) (by omega) (by omega)).mp c) (by omega), fun _ => ⟨M3, hC, q_in (by omega) (by omega), ?_⟩⟩, hZ⟩
    rw [q_cl (by omega), hR.2.2.1, show nI v + (1 : Int32) = nI (v + 1) from nI_1 v]
    exact hA
theorem c_Fv_tryHearts {X : zX} {M : zM} {S : q_N} (hS : q_ws S) (hT : q_CT M S) (hV : q_CV M S) : ∃ M', Call X 40 [.ref 0] M [] M' ∧ q_fr q_DZ M M' ∧ ∀ u, u < 8 → M' 47 u = nI (q_pb (q_wI (q_I S) u) (q_EA S)) := by
  obtain ⟨M5, hB, hfB, hT⟩ := q_become (X := X) hS hT hV
  obtain ⟨M', hA, hZ1, hZ2⟩ := q_heaL (X := X) (q_I_wf hS) hT 8 0 M5 (by omega) q_fr_rf (fun u hu => by omega)
  refine ⟨M', Call.of (Nat.le_of_ble_eq_true rfl) (sg_Fv_tryHearts_0 ⟨M5, hB, hA⟩), fun a b hn => ?_, hZ2⟩
  unfold q_DZ at hn
  rw [hZ1 a b (by unfold q_DH; omega), hfB a b (by omega)]
def q_wsS (I : q_N) (E : q_E) (v : Nat) (st : Option (Nat × Nat)) : Option (Nat × Nat) := match st with
  | none => some (v, q_np (q_wI I v) E)
  | some p => if q_np (q_wI I v) E ≤ p.2 then some p else some (v, q_np (q_wI I v) E)
def q_wsF (I : q_N) (E : q_E) : Nat → Nat → Option (Nat × Nat) → Option (Nat × Nat)
  | 0, _, st => st
  | d + 1, v, st => q_wsF I E d (v + 1) (q_wsS I E v st)
theorem q_wsS_ok {I : q_N} {E : q_E} {v : Nat} {st : Option (Nat × Nat)} (hwf : q_wf I) (hv : v < 8) (h : q_eok st) : q_eok (q_wsS I E v st) := by
  have hn := q_np_lt (E := E) (q_wf_wish (v := v) hwf hv)
  have hn' : q_np (q_wI I v) E ≤ 12 := hn
  unfold q_wsS
  cases st with
  | none => exact ⟨by show v < 100; omega, by show q_np (q_wI I v) E < 100; omega⟩
  | some p =>
    dsimp only
    split
    · exact h
    · exact ⟨by show v < 100; omega, by show q_np (q_wI I v) E < 100; omega⟩
theorem q_wsC {X : zX} {M : zM} {I : q_N} {E : q_E} {w : Nat} (hwf : q_wf I) (h : ∀ u, u < 8 → M 47 u = nI (q_pb (q_wI I u) E)) : ∀ (d v : Nat) (st : Option (Nat × Nat)) (l5 : Option Value), v + d = 8 → q_eok st → At X 41 22 [some (.ref 0), some (.int (nI w)), some (.int (q_e1 st)), some (.int (q_e2 (-1) st)), some (.int (nI v)), l5] [] M [.int (if nI w = 0 then q_e1 (q_wsF I E d v st) else q_e2 (-1) (q_wsF I E d v st))] M := by
  intro d
  induction d with
  | zero =>
    intro v st l5 hv hst
    have hv : v = 8 := by omega
    subst hv
    exact sg_Fv_wish_22 ⟨fun _ => ⟨rfl, rfl⟩, fun c => absurd (Int32.le_refl _) c⟩
  | succ d ih =>
    intro v st l5 hv hst
    have hwf' : q_wf (q_wI I v) := q_wf_wish (v := v) hwf (by omega)
    have hn := q_np_lt (E := E) hwf'
    have hbc := c_In_bitCount (X := X) (x0 := nI (q_pb (q_wI I v) E)) (M := M)
    rw [show f_In_bitCount (nI (q_pb (q_wI I v) E)) M = nI (q_np (q_wI I v) E) from q_bc_bits M hwf'.2.2.2.1] at hbc
    have hok := q_wsS_ok (E := E) (v := v) hwf (by omega) hst
    have hA := ih (v + 1) (q_wsS I E v st) (some (.int (nI (q_np (q_wI I v) E)))) (by omega) hok
    refine sg_Fv_wish_22 ⟨fun c => absurd ((q_le (a := 8) (by omega) (by omega)).mp c) (by omega), fun _ => ⟨q_in (by omega) (by omega), ?_⟩⟩
    rw [q_cl (by omega), h v (by omega)]
    refine ⟨_, _, hbc, ?_⟩
    rw [show nI v + (1 : Int32) = nI (v + 1) from nI_1 v]
    show At X 41 22 _ [] M [.int (if nI w = 0 then q_e1 (q_wsF I E d (v + 1) (q_wsS I E v st)) else q_e2 (-1) (q_wsF I E d (v + 1) (q_wsS I E v st)))] M
    cases st with
    | none =>
      have c : ¬ nI (q_np (q_wI I v) E) ≤ q_e2 (-1) none := by
        intro q
        rw [Int32.le_iff_toInt_le, q_nI_toInt (by omega)] at q
        have : (q_e2 (-1) none).toInt = -1 := by decide
        omega
      rw [if_neg c, if_neg c]
      exact hA
    | some p =>
      obtain ⟨p1, p2⟩ := hst
      by_cases c : q_np (q_wI I v) E ≤ p.2
      · have c' : nI (q_np (q_wI I v) E) ≤ q_e2 (-1) (some p) := (q_le (by omega) (by omega)).mpr c
        have hs : q_wsS I E v (some p) = some p := by show (if _ then _ else _) = _; rw [if_pos c]
        rw [hs] at hA
        rw [hs, if_pos c', if_pos c']
        exact hA
      · have c' : ¬ nI (q_np (q_wI I v) E) ≤ q_e2 (-1) (some p) := fun q => c ((q_le (by omega) (by omega)).mp q)
        have hs : q_wsS I E v (some p) = some (v, q_np (q_wI I v) E) := by show (if _ then _ else _) = _; rw [if_neg c]
        rw [hs] at hA
        rw [hs, if_neg c', if_neg c']
        exact hA
def q_wis (I : q_N) (E : q_E) (w : Nat) : Int32 := if nI w = 0 then q_e1 (q_wsF I E 8 0 none) else q_e2 (-1) (q_wsF I E 8 0 none)
theorem c_Fv_wish_r {X : zX} {S : q_N} {w : Nat} (hS : q_ws S) (hw : w < 2) : q_cA X 41 [.int (nI w)] (.int (q_wis (q_I S) (q_EA S) w)) S := q_cA_Z (fun M it h => by
  obtain ⟨M3, hC, hf, hu⟩ := c_Fv_tryHearts (X := X) hS h.1 h.2.1
  exact ⟨M3, Call.of (Nat.le_of_ble_eq_true rfl) (sg_Fv_wish_0 ⟨_, _, q_bel_1 (n := 2) rfl (by omega) ⟨w, hw, rfl⟩, fun _ => ⟨M3, hC, q_wsC (q_I_wf hS) hu 8 0 none none (by omega) trivial⟩, fun c => absurd c q_n10⟩), hf⟩)
theorem q_wsM {X : zX} {M : zM} {I : q_N} {ne gone held w : Nat} {K : q_N} (hwf : q_wf I) (h : q_mt M I ne gone held K) : ∀ (d v : Nat) (st : Option (Nat × Nat)) (M1 : zM) (l6 : Option Value), v + d = 8 → q_eok st → q_fr (fun a b => q_DM a b ∨ a = 76 ∨ (a = 62 ∧ b = 0)) M M1 → ∃ M', At X 134 15 [some (.ref 53), some (.int (nI w)), some (.int (nI (I 8 0))), some (.int (q_e1 st)), some (.int (q_e2 (-1) st)), some (.int (nI v)), l6] [] M1 [.int (if nI w = 0 then q_e1 (q_wsF I (q_told ne held K) d v st) else q_e2 (-1) (q_wsF I (q_told ne held K) d v st))] M' ∧ q_fr (fun a b => q_DM a b ∨ a = 76) M M' := by
  intro d
  induction d with
  | zero =>
    intro v st M1 l6 hv hst hf
    have hv : v = 8 := by omega
    subst hv
    refine ⟨zu M1 62 0 (nI (I 8 0)), sg_Mo_wishBy_15 ⟨fun _ => ⟨rfl, rfl⟩, fun c => absurd (Int32.le_refl _) c⟩, fun a b hn => ?_⟩
    by_cases e : a = 62 ∧ b = 0
    · rw [e.1, e.2, zu_y]; exact h.2.1.2.2.1.symm
    · rw [zu_n (by omega)]
      exact hf a b (fun q => by rcases q with q | q | q; exact hn (.inl q); exact hn (.inr q); exact e q)
  | succ d ih =>
    intro v st M1 l6 hv hst hf
    have hwf' : q_wf (q_wI I v) := q_wf_wish (v := v) hwf (by omega)
    have hn := q_np_lt (E := q_told ne held K) hwf'
    have ht := q_mt_wish (v := v) h hf
    obtain ⟨M2, hC2, hf2, hL⟩ := q_liveT (X := X) hwf' ht
    have h9 : M2 53 9 = nI (q_wI I v 5 0) := by rw [hf2 53 9 (by unfold q_DM; omega)]; exact ht.2.1.1
    have hsum := c_Mo_sumBy (X := X) (w := 0) hwf' hL h9 (by omega)
    have hfN : q_fr (fun a b => q_DM a b ∨ a = 76 ∨ (a = 62 ∧ b = 0)) M M2 := fun a b hq => by
      rw [hf2 a b (fun q => hq (.inl q)), zu_n (by omega)]
      exact hf a b hq
    have hok := q_wsS_ok (E := q_told ne held K) (v := v) hwf (by omega) hst
    obtain ⟨M', hA, hZ⟩ := ih (v + 1) (q_wsS I (q_told ne held K) v st) M2 (some (.int (nI (q_np (q_wI I v) (q_told ne held K))))) (by omega) hok hfN
    refine ⟨M', sg_Mo_wishBy_15 ⟨fun c => absurd ((q_le (a := 8) (by omega) (by omega)).mp c) (by omega), fun _ => ⟨M2, hC2, _, _, hsum, _, _, c_Mo_greater, ?_⟩⟩, hZ⟩
    unfold f_Mo_greater
    have hq : q_cnt (fun m => (q_liv (q_wI I v) (q_told ne held K)).2 (4 + 0) m == 1) (q_wI I v 5 0) = q_np (q_wI I v) (q_told ne held K) := rfl
    rw [show nI v + (1 : Int32) = nI (v + 1) from nI_1 v, hq]
    show At X 134 15 _ [] M2 [.int (if nI w = 0 then q_e1 (q_wsF I (q_told ne held K) d (v + 1) (q_wsS I (q_told ne held K) v st)) else q_e2 (-1) (q_wsF I (q_told ne held K) d (v + 1) (q_wsS I (q_told ne held K) v st)))] M'
    cases st with
    | none =>
      have c : ¬ nI (q_np (q_wI I v) (q_told ne held K)) ≤ q_e2 (-1) none := by
        intro q
        rw [Int32.le_iff_toInt_le, q_nI_toInt (by omega)] at q
        have : (q_e2 (-1) none).toInt = -1 := by decide
        omega
      rw [if_neg c, if_neg c]
      exact hA
    | some p =>
      obtain ⟨p1, p2⟩ := hst
      by_cases c : q_np (q_wI I v) (q_told ne held K) ≤ p.2
      · have c' : nI (q_np (q_wI I v) (q_told ne held K)) ≤ q_e2 (-1) (some p) := (q_le (by omega) (by omega)).mpr c
        have hs : q_wsS I (q_told ne held K) v (some p) = some p := by show (if _ then _ else _) = _; rw [if_pos c]
        rw [hs] at hA
        rw [hs, if_pos c', if_pos c']
        exact hA
      · have c' : ¬ nI (q_np (q_wI I v) (q_told ne held K)) ≤ q_e2 (-1) (some p) := fun q => c ((q_le (by omega) (by omega)).mp q)
        have hs : q_wsS I (q_told ne held K) v (some p) = some (v, q_np (q_wI I v) (q_told ne held K)) := by show (if _ then _ else _) = _; rw [if_neg c]
        rw [hs] at hA
        rw [hs, if_neg c', if_neg c']
        exact hA
theorem c_Mo_wishBy_r {X : zX} {S : q_N} {w : Nat} (hS : q_ws S) : q_mA X 134 [.int (nI w)] (.int (q_wis (q_I S) (q_EA S) w)) S := q_mA_M (fun M it h ht => by
  obtain ⟨M', hA, hZ⟩ := q_wsM (X := X) (w := w) (q_I_wf hS) ht 8 0 none M none (by omega) trivial q_fr_rf
  refine ⟨M', Call.of (Nat.le_of_ble_eq_true rfl) (sg_Mo_wishBy_0 ?_), hZ⟩
  rw [ht.2.1.2.2.1]
  exact hA)
theorem o_wish {X : zX} {S : q_N} {it : Nat → Int32} {x1 : Int32} (hS : q_ws S) : q_op X 41 135 [.int x1] S it := by
  by_cases h1 : q_is x1 2
  case neg =>
    refine q_op_ask (.int (-2)) hS (fun M h => ⟨M, Call.of (Nat.le_of_ble_eq_true rfl) (sg_Fv_wish_0 ⟨_, _, q_bel_0 (n := 2) rfl (by omega) h1, fun c => absurd rfl c, fun _ => ⟨rfl, rfl⟩⟩), q_fr_rf, h.2.2.2⟩) (fun M h => ?_)
    obtain ⟨M1, hC, hf, hv, hm, hL⟩ := c_Mo_find (X := X) hS h
    exact ⟨M1, Call.of (Nat.le_of_ble_eq_true rfl) (sg_Mo_wish_0 ⟨_, hC, _, _, q_two_0 h1, fun _ => ⟨rfl, rfl⟩, fun c => absurd rfl c⟩), hf⟩
  obtain ⟨w, hw, rfl⟩ := h1
  refine q_op_ask _ hS (fun M h => c_Fv_wish_r hS hw M it h) (fun M h => ?_)
  obtain ⟨M1, hC, hf, hmv, hmm, hL⟩ := c_Mo_find (X := X) hS h
  obtain ⟨M2, hC2, hf2, -⟩ := c_Mo_wishBy_r (X := X) (w := w) hS M1 it (q_rM_fr h hf) hmv hmm
  exact ⟨M2, Call.of (Nat.le_of_ble_eq_true rfl) (sg_Mo_wish_0 ⟨_, hC, _, _, q_two_1 ⟨w, hw, rfl⟩, fun c => absurd c q_n10, fun _ => ⟨_, _, hC2, rfl, rfl⟩⟩), q_fr_tr hf hf2⟩
