/-! QUESTIONS WITH TRIALS: the answer of the class; the answer of the model behind find -/
def q_cA (X : zX) (k : Nat) (args : List Value) (r : Value) (S : q_N) : Prop := ∀ M it, q_rC M S it → ∃ M1, Call X k (.ref 0 :: args) M [r] M1 ∧ q_fr q_DY M M1 ∧ q_CC M1 S
def q_mA (X : zX) (k : Nat) (args : List Value) (r : Value) (S : q_N) : Prop := ∀ M it, q_rM M S it → q_mv M (q_I S) → q_mm M (q_I S) → ∃ M1, Call X k (.ref 53 :: args) M [r] M1 ∧ q_fr q_DX M M1 ∧ q_mv M1 (q_I S) ∧ q_mm M1 (q_I S)
theorem q_cA_Z {X : zX} {k : Nat} {args : List Value} {r : Value} {S : q_N} (h : ∀ M it, q_rC M S it → ∃ M1, Call X k (.ref 0 :: args) M [r] M1 ∧ q_fr q_DZ M M1) : q_cA X k args r S := fun M it hM => by
  obtain ⟨M1, h1, h2⟩ := h M it hM
  exact ⟨M1, h1, q_fr_mono h2 (fun a b q => by unfold q_DZ at q; unfold q_DY; omega), (q_rC_Z hM h2).2.2.2⟩
theorem q_mA_M {X : zX} {k : Nat} {args : List Value} {r : Value} {S : q_N} (h : ∀ M it, q_rM M S it → q_mt M (q_I S) (S 5 0) 0 255 (q_K S) → ∃ M1, Call X k (.ref 53 :: args) M [r] M1 ∧ q_fr (fun a b => q_DM a b ∨ a = 76) M M1) : q_mA X k args r S := fun M it hM hv hm => by
  have ht : q_mt M (q_I S) (S 5 0) 0 255 (q_K S) := ⟨hv, hm, (q_rM_AB.mp hM).1.2.2.2⟩
  obtain ⟨M1, h1, h2⟩ := h M it hM ht
  have t := q_mt_fr (M1 := M1) ht (fun a b q => h2 a b (by unfold q_DM; omega))
  exact ⟨M1, h1, q_fr_mono h2 (fun a b q => by unfold q_DM at q; unfold q_DX; omega), t.1, t.2.1⟩
theorem q_h4 (S : q_N) : ∀ j, q_I S 4 j = j := fun _ => rfl
/-- PUT -/
def q_putS (I : q_N) (E : q_E) (m v : Nat) (st : Option (Nat × Nat)) : Option (Nat × Nat) := match st with
  | none => if (q_liv (q_up I 7 m v) E).2 4 m = 1 then some (v, q_pc (v ^^^ I 7 m)) else none
  | some p => if q_pc (v ^^^ I 7 m) < p.2 then (if (q_liv (q_up I 7 m v) E).2 4 m = 1 then some (v, q_pc (v ^^^ I 7 m)) else some p) else some p
def q_putF (I : q_N) (E : q_E) (m : Nat) : Nat → Nat → Option (Nat × Nat) → Option (Nat × Nat)
  | 0, _, st => st
  | d + 1, v, st => q_putF I E m d (v + 1) (q_putS I E m v st)
def q_e1 (st : Option (Nat × Nat)) : Int32 := match st with
  | none => -1
  | some p => nI p.1
def q_e2 (z : Int32) (st : Option (Nat × Nat)) : Int32 := match st with
  | none => z
  | some p => nI p.2
def q_eok (st : Option (Nat × Nat)) : Prop := match st with
  | none => True
  | some p => p.1 < 100 ∧ p.2 < 100
theorem q_xor8 : ∀ a b : Fin 8, nI a.val ^^^ nI b.val = nI (a.val ^^^ b.val) ∧ a.val ^^^ b.val < 8 ∧ q_pc (a.val ^^^ b.val) < 4 ∧ f_In_bitCount (nI a.val ^^^ nI b.val) (fun _ _ => 0) = nI (q_pc (a.val ^^^ b.val)) := by decide +kernel
theorem q_putS_ok {I : q_N} {E : q_E} {m v : Nat} {st : Option (Nat × Nat)} (hv : v < 8) (h7 : I 7 m < 8) (h : q_eok st) : q_eok (q_putS I E m v st) := by
  have hx := (q_xor8 ⟨v, hv⟩ ⟨I 7 m, h7⟩).2.2.1
  dsimp only at hx
  unfold q_putS
  cases st with
  | none =>
    dsimp only
    split
    · exact ⟨by show v < 100; omega, by show q_pc (v ^^^ I 7 m) < 100; omega⟩
    · trivial
  | some p =>
    dsimp only
    split
    · split
      · exact ⟨by show v < 100; omega, by show q_pc (v ^^^ I 7 m) < 100; omega⟩
      · exact h
    · exact h
theorem q_bit1 {b : Bool} : nI (q_b b) = (1 : Int32) ↔ b = true := by cases b <;> decide
theorem q_putC {X : zX} {M : zM} {I : q_N} {ne m w : Nat} {K : q_N} (hwf : q_wf I) (hm : m < I 5 0) (h11 : M 11 m = nI (I 7 m)) (h : q_tr3 M I ne K) : ∀ (d v : Nat) (st : Option (Nat × Nat)) (M1 : zM) (l6 : Option Value), v + d = 8 → q_eok st → q_fr (fun a b => q_DH 36 a b ∨ (a = 31 ∧ b = m)) M M1 → ∃ M', At X 37 44 [some (.ref 0), some (.int (nI m)), some (.int (nI w)), some (.int (q_e1 st)), some (.int (q_e2 (-1) st)), some (.int (nI v)), l6] [] M1 [.int (if nI w = 0 then q_e1 (q_putF I (q_told ne 255 K) m d v st) else q_e2 (-1) (q_putF I (q_told ne 255 K) m d v st))] M' ∧ q_fr (fun a b => q_DH 36 a b ∨ (a = 31 ∧ b = m)) M M' := by
  have h12 := hwf.2.2.2.1
  have h7 := (hwf.2.2.2.2.1 m hm).2
  intro d
  induction d with
  | zero =>
    intro v st M1 l6 hv hst hf
    have hv : v = 8 := by omega
    subst hv
    exact ⟨M1, sg_Fv_put_44 ⟨fun _ => ⟨rfl, rfl⟩, fun c => absurd (Int32.le_refl _) c⟩, hf⟩
  | succ d ih =>
    intro v st M1 l6 hv hst hf
    have fr : ∀ a b, ¬ (q_DH 36 a b ∨ (a = 31 ∧ b = m)) → M1 a b = M a b := hf
    have hx := q_xor8 ⟨v, by omega⟩ ⟨I 7 m, h7⟩
    dsimp only at hx
    have hbc : ∀ M2 : zM, Call X 31 [.int (nI v ^^^ nI (I 7 m))] M2 [.int (nI (q_pc (v ^^^ I 7 m)))] M2 := fun M2 => by
      have c := c_In_bitCount (X := X) (x0 := nI v ^^^ nI (I 7 m)) (M := M2)
      rw [show f_In_bitCount (nI v ^^^ nI (I 7 m)) M2 = _ from hx.2.2.2] at c
      exact c
    have hwf' := q_wf_put (m := m) (v := v) hwf (by omega)
    have htr := q_tr_put (v := v) h hf
    obtain ⟨M3, hC, hf3, hR⟩ := q_try (X := X) (held := 255) hwf' htr (by omega)
    have hm' : m < q_up I 7 m v 5 0 := by rw [q_up_ne (by omega)]; exact hm
    have hbit : Call X 7 [.int (M3 36 4), .int (nI m)] M3 [.int (nI (q_b ((q_liv (q_up I 7 m v) (q_told ne 255 K)).2 4 m == 1)))] M3 := by
      have c := c_Fv_bit (X := X) (x0 := M3 36 4) (x1 := nI m) (M := M3)
      rw [hR.2.2.1, q_bit M3 (by have := q_pb_lt (E := q_told ne 255 K) hwf'; omega) (by omega), q_pb_at hm'] at c
      rw [hR.2.2.1]
      exact c
    have hfN : q_fr (fun a b => q_DH 36 a b ∨ (a = 31 ∧ b = m)) M M3 := fun a b hn => by
      rw [hf3 a b (fun q => hn (.inl q)), zu_n (by omega)]
      exact hf a b hn
    have hF : ∀ s, q_putF I (q_told ne 255 K) m (d + 1) v s = q_putF I (q_told ne 255 K) m d (v + 1) (q_putS I (q_told ne 255 K) m v s) := fun _ => rfl
    rw [hF]
    have hok := q_putS_ok (E := q_told ne 255 K) (show v < 8 by omega) h7 hst
    -- the step when it is held
    have held : (q_putS I (q_told ne 255 K) m v st = if (q_liv (q_up I 7 m v) (q_told ne 255 K)).2 4 m = 1 then some (v, q_pc (v ^^^ I 7 m)) else st) → ∃ M', (∃ (M3 : zM), Call X 13 [(.ref 36), (.ref 25), (.int (255 : Int32))] (zu M1 31 m (nI v)) [] M3 ∧ (∃ (r5 : Int32) (M4 : zM), Call X 7 [(.int (M3 36 4)), (.int (nI m))] M3 [(.int r5)] M4 ∧ (At X 37 44 [some (.ref 0), some (.int (nI m)), some (.int (nI w)), some (.int (if r5 = (1 : Int32) then nI v else q_e1 st)), some (.int (if r5 = (1 : Int32) then nI (q_pc (v ^^^ I 7 m)) else q_e2 (-1) st)), some (.int (nI v + (1 : Int32))), some (.int (nI (q_pc (v ^^^ I 7 m))))] [] M4 [.int (if nI w = 0 then q_e1 (q_putF I (q_told ne 255 K) m d (v + 1) (q_putS I (q_told ne 255 K) m v st)) else q_e2 (-1) (q_putF I (q_told ne 255 K) m d (v + 1) (q_putS I (q_told ne 255 K) m v st)))] M'))) ∧ q_fr (fun a b => q_DH 36 a b ∨ (a = 31 ∧ b = m)) M M' := fun hs => by
      obtain ⟨M', hA, hZ⟩ := ih (v + 1) (q_putS I (q_told ne 255 K) m v st) M3 (some (.int (nI (q_pc (v ^^^ I 7 m))))) (by omega) hok hfN
      refine ⟨M', ⟨M3, hC, _, _, hbit, ?_⟩, hZ⟩
      rw [show nI v + (1 : Int32) = nI (v + 1) from nI_1 v]
      have e1 : (if nI (q_b ((q_liv (q_up I 7 m v) (q_told ne 255 K)).2 4 m == 1)) = (1 : Int32) then nI v else q_e1 st) = q_e1 (q_putS I (q_told ne 255 K) m v st) := by
        rw [hs]
        by_cases c : (q_liv (q_up I 7 m v) (q_told ne 255 K)).2 4 m = 1
        · rw [if_pos (q_bit1.mpr (by rw [c]; rfl)), if_pos c]; rfl
        · rw [if_neg (fun q => c (by have := q_bit1.mp q; simpa using this)), if_neg c]
      have e2 : (if nI (q_b ((q_liv (q_up I 7 m v) (q_told ne 255 K)).2 4 m == 1)) = (1 : Int32) then nI (q_pc (v ^^^ I 7 m)) else q_e2 (-1) st) = q_e2 (-1) (q_putS I (q_told ne 255 K) m v st) := by
        rw [hs]
        by_cases c : (q_liv (q_up I 7 m v) (q_told ne 255 K)).2 4 m = 1
        · rw [if_pos (q_bit1.mpr (by rw [c]; rfl)), if_pos c]; rfl
        · rw [if_neg (fun q => c (by have := q_bit1.mp q; simpa using this)), if_neg c]
      rw [e1, e2]
      exact hA
    have h11' : M1 11 (nI m).toNatClampNeg = nI (I 7 m) := by rw [q_cl (by omega), fr _ _ (by unfold q_DH; omega)]; exact h11
    have him : vp_in (nI m) 12 := q_in (by omega) (by omega)
    have h8 : ¬ (8 : Int32) ≤ nI v := fun c => by have := (q_le (a := 8) (by omega) (by omega)).mp c; omega
    have hcl : (nI m).toNatClampNeg = m := q_cl (by omega)
    cases st with
    | none =>
      obtain ⟨M', hA, hZ⟩ := held rfl
      refine ⟨M', sg_Fv_put_44 ⟨fun c => absurd c h8, fun _ => ⟨him, ?_⟩⟩, hZ⟩
      rw [h11', hcl]
      exact ⟨_, _, hbc M1, fun _ => ⟨him, hA⟩, fun c => absurd rfl c⟩
    | some p =>
      obtain ⟨p1, p2⟩ := hst
      have hn1 : ¬ q_e1 (some p) = (-1 : Int32) := q_nneg1 (by omega)
      by_cases c : q_pc (v ^^^ I 7 m) < p.2
      · have c' : nI (q_pc (v ^^^ I 7 m)) < q_e2 (-1) (some p) := (q_lt (by omega) (by omega)).mpr c
        obtain ⟨M', hA, hZ⟩ := held (by show (if q_pc (v ^^^ I 7 m) < p.2 then _ else _) = _; rw [if_pos c])
        refine ⟨M', sg_Fv_put_44 ⟨fun c => absurd c h8, fun _ => ⟨him, ?_⟩⟩, hZ⟩
        rw [h11', hcl]
        exact ⟨_, _, hbc M1, fun c => absurd c hn1, fun _ => ⟨fun _ => ⟨him, hA⟩, fun q => absurd c' q⟩⟩
      · have c' : ¬ nI (q_pc (v ^^^ I 7 m)) < q_e2 (-1) (some p) := fun q => c ((q_lt (by omega) (by omega)).mp q)
        have hs : q_putS I (q_told ne 255 K) m v (some p) = some p := by show (if q_pc (v ^^^ I 7 m) < p.2 then _ else _) = _; rw [if_neg c]
        rw [hs]
        obtain ⟨M', hA, hZ⟩ := ih (v + 1) (some p) M1 (some (.int (nI (q_pc (v ^^^ I 7 m))))) (by omega) ⟨p1, p2⟩ hf
        refine ⟨M', sg_Fv_put_44 ⟨fun c => absurd c h8, fun _ => ⟨him, ?_⟩⟩, hZ⟩
        rw [h11', show nI v + (1 : Int32) = nI (v + 1) from nI_1 v]
        exact ⟨_, _, hbc M1, fun c => absurd c hn1, fun _ => ⟨fun q => absurd q c', fun _ => hA⟩⟩
def q_put (I : q_N) (E : q_E) (m w : Nat) : Int32 := if nI w = 0 then q_e1 (q_putF I E m 8 0 none) else q_e2 (-1) (q_putF I E m 8 0 none)
theorem c_Fv_put_r {X : zX} {S : q_N} {m w : Nat} (hS : q_ws S) (hm : m < q_I S 5 0) (hw : w < 2) : q_cA X 37 [.int (nI m), .int (nI w)] (.int (q_put (q_I S) (q_EA S) m w)) S := q_cA_Z (fun M it h => by
  have hwf := q_I_wf hS
  have h12 := hwf.2.2.2.1
  obtain ⟨M5, hB, hfB, hT⟩ := q_become (X := X) hS h.1 h.2.1
  obtain ⟨M', hA, hZ⟩ := q_putC (X := X) (w := w) hwf hm (by rw [hfB 11 m (by omega)]; exact (h.2.1.2.1.2.1 m hm).2) hT 8 0 none M5 none (by omega) trivial q_fr_rf
  refine ⟨M', Call.of (Nat.le_of_ble_eq_true rfl) (sg_Fv_put_0 ⟨_, _, q_bel_1 h.2.1.2.1.1 (by omega) ⟨m, hm, rfl⟩, fun c => absurd c q_n10, fun _ => ⟨_, _, q_bel_1 (n := 2) rfl (by omega) ⟨w, hw, rfl⟩, fun _ => ⟨M5, hB, hA⟩, fun c => absurd c q_n10⟩⟩), fun a b hn => ?_⟩
  unfold q_DZ at hn
  rw [hZ a b (by unfold q_DH; omega), hfB a b (by omega)])
theorem q_putM {X : zX} {M : zM} {I : q_N} {ne gone held m w : Nat} {K : q_N} (hwf : q_wf I) (hm : m < I 5 0) (h : q_mt M I ne gone held K) : ∀ (d v : Nat) (st : Option (Nat × Nat)) (M1 : zM) (l7 : Option Value), v + d = 8 → q_eok st → q_fr (fun a b => q_DM a b ∨ (a = 61 ∧ b = 2 * m + 1)) M M1 → ∃ M', At X 130 21 [some (.ref 53), some (.int (nI m)), some (.int (nI w)), some (.int (nI (I 7 m))), some (.int (q_e1 st)), some (.int (q_e2 9 st)), some (.int (nI v)), l7] [] M1 [.int (if nI w = 0 then q_e1 (q_putF I (q_told ne held K) m d v st) else q_e2 (-1) (q_putF I (q_told ne held K) m d v st))] M' ∧ q_fr q_DM M M' := by
  have h12 := hwf.2.2.2.1
  have h7 := (hwf.2.2.2.2.1 m hm).2
  have e21 : (2 : Int32) * nI m + (1 : Int32) = nI (2 * m + 1) := by rw [show (2 : Int32) * nI m = nI (2 * m) from pk_mul 2 m]; exact nI_1 _
  have hi24 : vp_in (nI (2 * m + 1)) 24 := q_in (by omega) (by omega)
  intro d
  induction d with
  | zero =>
    intro v st M1 l7 hv hst hf
    have hv : v = 8 := by omega
    subst hv
    refine ⟨zu M1 61 (2 * m + 1) (nI (I 7 m)), sg_Mo_putOf_21 ⟨fun _ => ?_, fun c => absurd (Int32.le_refl _) c⟩, fun a b hn => ?_⟩
    · rw [e21, q_cl (by omega)]
      refine ⟨hi24, ?_, rfl⟩
      cases st with
      | none =>
        rw [if_pos (show q_e1 none = -1 from rfl)]
        show [Value.int (if nI w = 0 then (-1 : Int32) else -1)] = _
        split <;> rfl
      | some p =>
        obtain ⟨p1, p2⟩ := hst
        rw [if_neg (show ¬ q_e1 (some p) = (-1 : Int32) from q_nneg1 (by omega))]
        rfl
    · by_cases e : a = 61 ∧ b = 2 * m + 1
      · rw [e.1, e.2, zu_y]
        exact ((h.2.1.2.1 m hm).2).symm
      · rw [zu_n (by omega)]
        exact hf a b (fun q => by rcases q with q | q; exact hn q; exact e q)
  | succ d ih =>
    intro v st M1 l7 hv hst hf
    have hx := q_xor8 ⟨v, by omega⟩ ⟨I 7 m, h7⟩
    dsimp only at hx
    have hwf' := q_wf_put (m := m) (v := v) hwf (by omega)
    obtain ⟨M3, hC, hf3, hL⟩ := q_liveT (X := X) hwf' (q_mt_put (v := v) h hf)
    have hm' : m < q_up I 7 m v 5 0 := by rw [q_up_ne (by omega)]; exact hm
    have h73 := (q_mord hwf' hL hm').2.2.2.1
    have ob := (q_liv_o (E := q_told ne held K) hwf' m).2.2.2.1
    have hfN : q_fr (fun a b => q_DM a b ∨ (a = 61 ∧ b = 2 * m + 1)) M M3 := fun a b hn => by
      rw [hf3 a b (fun q => hn (.inl q)), zu_n (by omega)]
      exact hf a b hn
    have hok := q_putS_ok (E := q_told ne held K) (show v < 8 by omega) h7 hst
    have hF : ∀ s, q_putF I (q_told ne held K) m (d + 1) v s = q_putF I (q_told ne held K) m d (v + 1) (q_putS I (q_told ne held K) m v s) := fun _ => rfl
    rw [hF]
    obtain ⟨M', hA, hZ⟩ := ih (v + 1) (q_putS I (q_told ne held K) m v st) M3 (some (.int (nI (q_pc (v ^^^ I 7 m))))) (by omega) hok hfN
    have hones : Call X 109 [.int (nI v ^^^ nI (I 7 m))] M3 [.int (nI (q_pc (v ^^^ I 7 m)))] M3 := by rw [hx.1]; exact c_Mo_ones hx.2.1
    have him : vp_in (nI m) 12 := q_in (by omega) (by omega)
    have h8 : ¬ (8 : Int32) ≤ nI v := fun c => by have := (q_le (a := 8) (by omega) (by omega)).mp c; omega
    refine ⟨M', sg_Mo_putOf_21 ⟨fun c => absurd c h8, fun _ => ?_⟩, hZ⟩
    rw [e21, q_cl (a := 2 * m + 1) (by omega)]
    refine ⟨hi24, M3, hC, _, _, hones, him, him, ?_⟩
    rw [q_cl (by omega), h73, show nI v + (1 : Int32) = nI (v + 1) from nI_1 v]
    by_cases c : (q_liv (q_up I 7 m v) (q_told ne held K)).2 4 m = 1
    · have cn : ¬ nI ((q_liv (q_up I 7 m v) (q_told ne held K)).2 4 m) = 0 := by rw [c]; decide
      refine ⟨fun q => absurd q cn, fun _ => ⟨_, _, c_Mo_lesser, ?_⟩⟩
      unfold f_Mo_lesser
      rw [if_neg cn]
      cases st with
      | none =>
        have hs : q_putS I (q_told ne held K) m v none = some (v, q_pc (v ^^^ I 7 m)) := by show (if _ then _ else _) = _; rw [if_pos c]
        rw [hs] at hA
        rw [hs]
        have c9 : ¬ q_e2 9 none ≤ nI (q_pc (v ^^^ I 7 m)) := fun q => by have := (q_le (a := 9) (by omega) (by omega)).mp q; omega
        rw [if_neg c9, if_neg c9]
        exact hA
      | some p =>
        obtain ⟨p1, p2⟩ := hst
        by_cases c2 : q_pc (v ^^^ I 7 m) < p.2
        · have hs : q_putS I (q_told ne held K) m v (some p) = some (v, q_pc (v ^^^ I 7 m)) := by show (if _ then (if _ then _ else _) else _) = _; rw [if_pos c2, if_pos c]
          rw [hs] at hA
          rw [hs]
          have c9 : ¬ q_e2 9 (some p) ≤ nI (q_pc (v ^^^ I 7 m)) := fun q => by have := (q_le (a := p.2) (by omega) (by omega)).mp q; omega
          rw [if_neg c9, if_neg c9]
          exact hA
        · have hs : q_putS I (q_told ne held K) m v (some p) = some p := by show (if _ then (if _ then _ else _) else _) = _; rw [if_neg c2]
          rw [hs] at hA
          rw [hs]
          have c9 : q_e2 9 (some p) ≤ nI (q_pc (v ^^^ I 7 m)) := (q_le (a := p.2) (by omega) (by omega)).mpr (by omega)
          rw [if_pos c9, if_pos c9]
          exact hA
    · have c0 : (q_liv (q_up I 7 m v) (q_told ne held K)).2 4 m = 0 := by omega
      have cn : nI ((q_liv (q_up I 7 m v) (q_told ne held K)).2 4 m) = 0 := by rw [c0]; rfl
      have hs : q_putS I (q_told ne held K) m v st = st := by
        cases st with
        | none => show (if _ then _ else _) = _; rw [if_neg c]
        | some p =>
          show (if _ then (if _ then _ else _) else _) = _
          split
          · first
            | rfl
            | rw [if_neg c]
          · rfl
      rw [hs] at hA
      rw [hs]
      refine ⟨fun _ => ?_, fun q => absurd cn q⟩
      rw [if_pos cn]
      exact hA
theorem c_Mo_putOf_r {X : zX} {S : q_N} {m w : Nat} (hS : q_ws S) (hm : m < q_I S 5 0) : q_mA X 130 [.int (nI m), .int (nI w)] (.int (q_put (q_I S) (q_EA S) m w)) S := q_mA_M (fun M it h ht => by
  have hwf := q_I_wf hS
  have h12 := hwf.2.2.2.1
  obtain ⟨M', hA, hZ⟩ := q_putM (X := X) (w := w) hwf hm ht 8 0 none M none (by omega) trivial q_fr_rf
  refine ⟨M', Call.of (Nat.le_of_ble_eq_true rfl) (sg_Mo_putOf_0 ?_), q_fr_mono hZ (fun a b q => .inl q)⟩
  have e21 : (2 : Int32) * nI m + (1 : Int32) = nI (2 * m + 1) := by rw [show (2 : Int32) * nI m = nI (2 * m) from pk_mul 2 m]; exact nI_1 _
  rw [e21, q_cl (by omega), (ht.2.1.2.1 m hm).2]
  exact ⟨q_in (by omega) (by omega), hA⟩)
theorem o_put {X : zX} {S : q_N} {it : Nat → Int32} {x1 x2 : Int32} (hS : q_ws S) : q_op X 37 131 [.int x1, .int x2] S it := by
  have hwf := q_I_wf hS
  have h12 := hwf.2.2.2.1
  by_cases h1 : q_is x1 (q_I S 5 0)
  case neg =>
    refine q_op_ask (.int (-2)) hS (fun M h => ⟨M, Call.of (Nat.le_of_ble_eq_true rfl) (sg_Fv_put_0 ⟨_, _, q_bel_0 h.2.1.2.1.1 (by omega) h1, fun _ => ⟨rfl, rfl⟩, fun c => absurd rfl c⟩), q_fr_rf, h.2.2.2⟩) (fun M h => ?_)
    obtain ⟨M1, hC, hf, hv, hm, hL⟩ := c_Mo_find (X := X) hS h
    exact ⟨M1, Call.of (Nat.le_of_ble_eq_true rfl) (sg_Mo_put_0 ⟨_, hC, _, _, q_isM_0 hm.1 (by omega) h1, fun _ => ⟨rfl, rfl⟩, fun c => absurd rfl c⟩), hf⟩
  obtain ⟨m, hm, rfl⟩ := h1
  by_cases h2 : q_is x2 2
  case neg =>
    refine q_op_ask (.int (-2)) hS (fun M h => ⟨M, Call.of (Nat.le_of_ble_eq_true rfl) (sg_Fv_put_0 ⟨_, _, q_bel_1 h.2.1.2.1.1 (by omega) ⟨m, hm, rfl⟩, fun c => absurd c q_n10, fun _ => ⟨_, _, q_bel_0 (n := 2) rfl (by omega) h2, fun c => absurd rfl c, fun _ => ⟨rfl, rfl⟩⟩⟩), q_fr_rf, h.2.2.2⟩) (fun M h => ?_)
    obtain ⟨M1, hC, hf, hv, hmm, hL⟩ := c_Mo_find (X := X) hS h
    exact ⟨M1, Call.of (Nat.le_of_ble_eq_true rfl) (sg_Mo_put_0 ⟨_, hC, _, _, q_isM_1 hmm.1 (by omega) ⟨m, hm, rfl⟩, fun c => absurd c q_n10, fun _ => ⟨_, _, q_two_0 h2, fun _ => ⟨rfl, rfl⟩, fun c => absurd rfl c⟩⟩), hf⟩
  obtain ⟨w, hw, rfl⟩ := h2
  refine q_op_ask _ hS (fun M h => c_Fv_put_r hS hm hw M it h) (fun M h => ?_)
  obtain ⟨M1, hC, hf, hmv, hmm, hL⟩ := c_Mo_find (X := X) hS h
  obtain ⟨M2, hC2, hf2, -⟩ := c_Mo_putOf_r (X := X) (w := w) hS hm M1 it (q_rM_fr h hf) hmv hmm
  exact ⟨M2, Call.of (Nat.le_of_ble_eq_true rfl) (sg_Mo_put_0 ⟨_, hC, _, _, q_isM_1 hmm.1 (by omega) ⟨m, hm, rfl⟩, fun c => absurd c q_n10, fun _ => ⟨_, _, q_two_1 ⟨w, hw, rfl⟩, fun c => absurd c q_n10, fun _ => ⟨_, _, hC2, rfl, rfl⟩⟩⟩), q_fr_tr hf hf2⟩
