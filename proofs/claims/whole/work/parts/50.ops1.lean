/-! THE SMALL CALLS -/
theorem zu_n {M : zM} {k i a b : Nat} {v : Int32} (h : a ≠ k ∨ b ≠ i) : zu M k i v a b = M a b := by rw [zu_at, if_neg (by omega)]
theorem zu_y {M : zM} {k i : Nat} {v : Int32} : zu M k i v k i = v := by rw [zu_at, if_pos ⟨rfl, rfl⟩]
theorem q_up_ne {S : q_N} {a b w x : Nat} (h : x ≠ a) : q_up S a b w x = S x := by
  funext y
  unfold q_up
  rw [if_neg (fun q => h q.1)]
theorem q_up_eq {S : q_N} {a b w : Nat} : q_up S a b w a b = w := by
  unfold q_up
  rw [if_pos ⟨rfl, rfl⟩]
theorem q_up_n2 {S : q_N} {a b w y : Nat} (h : y ≠ b) : q_up S a b w a y = S a y := by
  unfold q_up
  rw [if_neg (fun q => h q.2)]
/-- a new state whose rows up to 8 are as they were -/
theorem q_ws_B {S S' : q_N} (h : q_ws S) (hS : ∀ x, x ≤ 8 → S' x = S x) (h9 : S' 9 0 ≤ 8 ∧ ∀ i, i < S' 9 0 → S' 10 i < 12 ∧ S' 11 i < 2) (h12 : S' 12 0 ≤ 5) (h13 : ∀ s, s < 4 → S' 13 s ≤ 3 ∧ S' 14 s ≤ 60) : q_ws S' := by
  unfold q_ws at *
  rw [hS 0 (by omega), hS 1 (by omega), hS 2 (by omega), hS 3 (by omega), hS 4 (by omega), hS 5 (by omega), hS 6 (by omega), hS 7 (by omega), hS 8 (by omega)]
  exact ⟨h.1, h.2.1, h.2.2.1, h.2.2.2.1, h9, h12, h13⟩
theorem q_ws_A {S S' : q_N} (h : q_ws S) (hS : ∀ x, 9 ≤ x → S' x = S x) (h0 : S' 0 0 ≤ 31 ∧ ∀ i, i < S' 0 0 → S' 1 i < 256) (h2 : S' 2 0 ≤ 35 ∧ ∀ i, i < S' 2 0 → S' 3 i < 256) (h4 : S' 4 0 < 8 ∧ S' 4 1 < 10) (h5 : S' 5 0 ≤ 8 ∧ ∀ i, i < S' 5 0 → S' 6 i < 3 ∧ S' 7 i < 24 ∧ S' 8 i < 8) : q_ws S' := by
  unfold q_ws at *
  rw [hS 9 (by omega), hS 10 (by omega), hS 11 (by omega), hS 12 (by omega), hS 13 (by omega), hS 14 (by omega)]
  exact ⟨h0, h2, h4, h5, h.2.2.2.2⟩
/-- both answer r and nothing changes -/
theorem q_op_same {X : zX} {kc km : Nat} {args : List Value} {S : q_N} {it : Nat → Int32} (r : Value) (hS : q_ws S) (hc : ∀ M, q_rC M S it → Call X kc (.ref 0 :: args) M [r] M) (hm : ∀ M, q_rM M S it → Call X km (.ref 53 :: args) M [r] M) (hk : q_kd kc r = true := by rfl) : q_op X kc km args S it :=
  ⟨r, S, it, hk, hS, fun M h => ⟨M, hc M h, q_hi_rf, h⟩, fun M h => ⟨M, hm M h, q_lo_rf, h⟩⟩
/-- both answer r; scratch alone changes -/
theorem q_op_ask {X : zX} {kc km : Nat} {args : List Value} {S : q_N} {it : Nat → Int32} (r : Value) (hS : q_ws S) (hc : ∀ M, q_rC M S it → ∃ M1, Call X kc (.ref 0 :: args) M [r] M1 ∧ q_fr q_DY M M1 ∧ q_CC M1 S) (hm : ∀ M, q_rM M S it → ∃ M1, Call X km (.ref 53 :: args) M [r] M1 ∧ q_fr q_DX M M1) (hk : q_kd kc r = true := by rfl) : q_op X kc km args S it :=
  ⟨r, S, it, hk, hS, fun M h => by
    obtain ⟨M1, h1, h2, h3⟩ := hc M h
    exact ⟨M1, h1, q_hi_fr h2 (fun a b q => by unfold q_DY at q; omega), q_rC_Y h h2 h3⟩, fun M h => by
    obtain ⟨M1, h1, h2⟩ := hm M h
    exact ⟨M1, h1, q_lo_fr h2 (fun a b q => by unfold q_DX at q; omega), q_rM_fr h h2⟩⟩
/-- the fault that was found -/
theorem q_op_found {S : q_N} {it : Nat → Int32} {k : Nat} (hk : k ≤ 5) (hS : q_ws S) : q_ws (q_up S 12 0 k) ∧ (∀ M, q_rC M S it → q_hi M (zu M 0 12 (nI k)) ∧ q_rC (zu M 0 12 (nI k)) (q_up S 12 0 k) it) ∧ ∀ M, q_rM M S it → q_lo M (zu M 53 4 (nI k)) ∧ q_rM (zu M 53 4 (nI k)) (q_up S 12 0 k) it := by
  have hr : ∀ x, x ≤ 8 → q_up S 12 0 k x = S x := fun x hx => q_up_ne (by omega)
  refine ⟨?_, fun M h => ⟨fun a b ha => by rw [zu_n (by omega)], ?_⟩, fun M h => ⟨fun a b ha => by rw [zu_n (by omega)], ?_⟩⟩
  · obtain ⟨h1, h2, h3, h4, h5, h6, h7⟩ := hS
    refine q_ws_B ⟨h1, h2, h3, h4, h5, h6, h7⟩ hr ?_ ?_ ?_
    · rw [q_up_ne (by omega), q_up_ne (by omega), q_up_ne (by omega)]; exact h5
    · rw [q_up_eq]; exact hk
    · rw [q_up_ne (by omega), q_up_ne (by omega)]; exact h7
  · refine q_rC_B h hr (q_fr_zu q_fr_rf (by omega)) ?_
    obtain ⟨⟨a1, a2⟩, b1, c1, d1⟩ := h.2.2.1
    unfold q_CS
    rw [q_up_ne (x := 9) (by omega), q_up_ne (x := 10) (by omega), q_up_ne (x := 11) (by omega), q_up_ne (x := 13) (by omega), q_up_ne (x := 14) (by omega), q_up_eq]
    refine ⟨⟨by rw [zu_n (by omega)]; exact a1, fun i hi => ?_⟩, by rw [zu_y], fun s hs => ?_, fun k hk => by rw [zu_n (by omega)]; exact d1 k hk⟩
    · rw [zu_n (by omega), zu_n (by omega)]; exact a2 i hi
    · rw [zu_n (by omega), zu_n (by omega)]; exact c1 s hs
  · refine q_rM_B h hr (q_fr_zu q_fr_rf (by unfold q_DB; omega)) ?_
    obtain ⟨⟨a1, a2⟩, b1, c1, d1⟩ := (q_rM_AB.mp h).2
    unfold q_MB
    rw [q_up_ne (x := 9) (by omega), q_up_ne (x := 10) (by omega), q_up_ne (x := 11) (by omega), q_up_ne (x := 13) (by omega), q_up_ne (x := 14) (by omega), q_up_eq]
    refine ⟨⟨by rw [zu_n (by omega)]; exact a1, fun i hi => ?_⟩, by rw [zu_y], fun s hs => ?_, fun k hk => by rw [zu_n (by omega)]; exact d1 k hk⟩
    · rw [zu_n (by omega), zu_n (by omega)]; exact a2 i hi
    · rw [zu_n (by omega), zu_n (by omega)]; exact c1 s hs
/-- FORGET -/
theorem o_forget {X : zX} {S : q_N} {it : Nat → Int32} (hS : q_ws S) : q_op X 50 141 [] S it := by
  have hr : ∀ x, x ≤ 8 → q_up S 9 0 0 x = S x := fun x hx => q_up_ne (by omega)
  refine ⟨.int (nI (S 9 0)), q_up S 9 0 0, it, rfl, ?_, fun M h => ⟨m_Fv_forget M, ?_, ?_, ?_⟩, fun M h => ⟨m_Mo_forget M, ?_, ?_, ?_⟩⟩
  · obtain ⟨h1, h2, h3, h4, h5, h6, h7⟩ := hS
    refine q_ws_B ⟨h1, h2, h3, h4, h5, h6, h7⟩ hr ?_ ?_ ?_
    · rw [q_up_eq]; exact ⟨by omega, fun i hi => by omega⟩
    · rw [q_up_ne (by omega)]; exact h6
    · rw [q_up_ne (by omega), q_up_ne (by omega)]; exact h7
  · have c := c_Fv_forget (X := X) (M := M)
    unfold f_Fv_forget at c
    rw [h.2.2.1.1.1] at c
    exact c
  · intro a b ha
    unfold m_Fv_forget
    rw [zu_n (by omega)]
  · unfold m_Fv_forget
    refine q_rC_B h hr (q_fr_zu q_fr_rf (by omega)) ?_
    obtain ⟨⟨a1, a2⟩, b1, c1, d1⟩ := h.2.2.1
    unfold q_CS
    rw [q_up_ne (x := 12) (by omega), q_up_ne (x := 10) (by omega), q_up_ne (x := 11) (by omega), q_up_ne (x := 13) (by omega), q_up_ne (x := 14) (by omega), q_up_eq]
    refine ⟨⟨by rw [zu_y]; rfl, fun i hi => by omega⟩, by rw [zu_n (by omega)]; exact b1, fun s hs => ?_, fun k hk => by rw [zu_n (by omega)]; exact d1 k hk⟩
    rw [zu_n (by omega), zu_n (by omega)]; exact c1 s hs
  · have c := c_Mo_forget (X := X) (M := M)
    unfold f_Mo_forget at c
    rw [(q_rM_AB.mp h).2.1.1] at c
    exact c
  · intro a b ha
    unfold m_Mo_forget
    rw [zu_n (by omega)]
  · unfold m_Mo_forget
    refine q_rM_B h hr (q_fr_zu q_fr_rf (by unfold q_DB; omega)) ?_
    obtain ⟨⟨a1, a2⟩, b1, c1, d1⟩ := (q_rM_AB.mp h).2
    unfold q_MB
    rw [q_up_ne (x := 12) (by omega), q_up_ne (x := 10) (by omega), q_up_ne (x := 11) (by omega), q_up_ne (x := 13) (by omega), q_up_ne (x := 14) (by omega), q_up_eq]
    refine ⟨⟨by rw [zu_y]; rfl, fun i hi => by omega⟩, by rw [zu_n (by omega)]; exact b1, fun s hs => ?_, fun k hk => by rw [zu_n (by omega)]; exact d1 k hk⟩
    rw [zu_n (by omega), zu_n (by omega)]; exact c1 s hs
/-- SEEN -/
theorem o_seen {X : zX} {S : q_N} {it : Nat → Int32} {x1 x2 : Int32} (hS : q_ws S) : q_op X 49 140 [.int x1, .int x2] S it := by
  by_cases h1 : q_is x1 12
  case neg =>
    refine q_op_same (.int (-2)) hS (fun M h => ?_) (fun M h => ?_)
    · have e := q_below_0 (n := 12) M (by omega) h1
      have e' : f_Fv_below x1 12 M = 0 := e
      have c := c_Fv_seen (X := X) (x1 := x1) (x2 := x2) (M := M) ⟨fun _ => trivial, fun c => absurd e' c⟩
      unfold f_Fv_seen m_Fv_seen at c
      rw [if_pos e', if_pos e'] at c
      exact c
    · have e : f_Mo_in x1.toInt64 0 11 M = 0 := q_in_0 (n := 12) M (by omega) (by decide) h1
      have c := c_Mo_seen (X := X) (x1 := x1) (x2 := x2) (M := M) ⟨fun _ => trivial, fun c => absurd e c⟩
      unfold f_Mo_seen m_Mo_seen at c
      rw [if_pos e, if_pos e] at c
      exact c
  by_cases h2 : q_is x2 2
  case neg =>
    refine q_op_same (.int (-2)) hS (fun M h => ?_) (fun M h => ?_)
    · have e : f_Fv_below x1 12 M = 1 := q_below_1 (n := 12) M (by omega) h1
      have e2 : f_Fv_below x2 2 M = 0 := q_below_0 (n := 2) M (by omega) h2
      have c := c_Fv_seen (X := X) (x1 := x1) (x2 := x2) (M := M) ⟨fun _ => trivial, fun _ => ⟨fun c => absurd e2 c, fun _ => trivial⟩⟩
      unfold f_Fv_seen m_Fv_seen at c
      simp only [e, e2, q_n10, if_false, if_true] at c
      exact c
    · have e : f_Mo_in x1.toInt64 0 11 M = 1 := q_in_1 (n := 12) M (by omega) (by decide) h1
      have e2 : f_Mo_isTwo x2 M = 0 := q_in_0 (n := 2) M (by omega) (by decide) h2
      have c := c_Mo_seen (X := X) (x1 := x1) (x2 := x2) (M := M) ⟨fun _ => trivial, fun _ => ⟨q_in_01 _ _ _ _, fun c => absurd e2 c, fun _ => trivial⟩⟩
      unfold f_Mo_seen m_Mo_seen at c
      simp only [e, e2, q_n10, if_false, if_true] at c
      exact c
  have k1 : ∀ M, f_Fv_below x1 12 M = 1 := fun M => q_below_1 (n := 12) M (by omega) h1
  have k2 : ∀ M, f_Fv_below x2 2 M = 1 := fun M => q_below_1 (n := 2) M (by omega) h2
  have g1 : ∀ M, f_Mo_in x1.toInt64 0 11 M = 1 := fun M => q_in_1 (n := 12) M (by omega) (by decide) h1
  have g2 : ∀ M, f_Mo_isTwo x2 M = 1 := fun M => q_in_1 (n := 2) M (by omega) (by decide) h2
  obtain ⟨a, ha, rfl⟩ := h1
  obtain ⟨b, hb, rfl⟩ := h2
  have h8 := hS.2.2.2.2.1.1
  by_cases hf : S 9 0 = 8
  · refine q_op_same (.int (-4)) hS (fun M h => ?_) (fun M h => ?_)
    · have n1 : M 0 11 = 8 := h.2.2.1.1.1.trans (by rw [hf]; rfl)
      have n2 : ¬ M 0 11 < 8 := by rw [n1]; decide
      have c := c_Fv_seen (X := X) (x1 := nI a) (x2 := nI b) (M := M) ⟨fun _ => trivial, fun _ => ⟨fun _ => ⟨fun c => absurd c n2, fun _ => trivial⟩, fun _ => trivial⟩⟩
      unfold f_Fv_seen m_Fv_seen at c
      simp only [k1, k2, n2, q_n10, if_false] at c
      exact c
    · have n1 : M 53 27 = 8 := (q_rM_AB.mp h).2.1.1.trans (by rw [hf]; rfl)
      have c := c_Mo_seen (X := X) (x1 := nI a) (x2 := nI b) (M := M) ⟨fun _ => trivial, fun _ => ⟨q_in_01 _ _ _ _, fun _ => ⟨fun c => absurd n1 c, fun _ => trivial⟩, fun _ => trivial⟩⟩
      unfold f_Mo_seen m_Mo_seen at c
      simp only [g1, g2, n1, q_n10, if_false, if_true] at c
      exact c
  · have hn : S 9 0 < 8 := by omega
    have hr : ∀ x, x ≤ 8 → q_up (q_up (q_up S 10 (S 9 0) a) 11 (S 9 0) b) 9 0 (S 9 0 + 1) x = S x := fun x hx => by rw [q_up_ne (by omega), q_up_ne (by omega), q_up_ne (by omega)]
    have r9 : q_up (q_up (q_up S 10 (S 9 0) a) 11 (S 9 0) b) 9 0 (S 9 0 + 1) 9 0 = S 9 0 + 1 := q_up_eq
    have r10 : ∀ i, q_up (q_up (q_up S 10 (S 9 0) a) 11 (S 9 0) b) 9 0 (S 9 0 + 1) 10 i = if i = S 9 0 then a else S 10 i := fun i => by
      rw [q_up_ne (by omega), q_up_ne (by omega)]
      split
      · rename_i e; rw [e, q_up_eq]
      · rename_i e; rw [q_up_n2 e]
    have r11 : ∀ i, q_up (q_up (q_up S 10 (S 9 0) a) 11 (S 9 0) b) 9 0 (S 9 0 + 1) 11 i = if i = S 9 0 then b else S 11 i := fun i => by
      rw [q_up_ne (by omega)]
      split
      · rename_i e; rw [e, q_up_eq]
      · rename_i e; rw [q_up_n2 e, q_up_ne (by omega)]
    have rr : ∀ x, 12 ≤ x → q_up (q_up (q_up S 10 (S 9 0) a) 11 (S 9 0) b) 9 0 (S 9 0 + 1) x = S x := fun x hx => by rw [q_up_ne (by omega), q_up_ne (by omega), q_up_ne (by omega)]
    refine ⟨.int (nI (S 9 0 + 1)), q_up (q_up (q_up S 10 (S 9 0) a) 11 (S 9 0) b) 9 0 (S 9 0 + 1), it, rfl, ?_, fun M h => ?_, fun M h => ?_⟩
    · obtain ⟨h1, h2, h3, h4, h5, h6, h7⟩ := hS
      refine q_ws_B ⟨h1, h2, h3, h4, h5, h6, h7⟩ hr ?_ ?_ ?_
      · rw [r9]
        refine ⟨by omega, fun i hi => ?_⟩
        rw [r10, r11]
        by_cases e : i = S 9 0
        · rw [if_pos e, if_pos e]; exact ⟨ha, hb⟩
        · rw [if_neg e, if_neg e]; exact h5.2 i (by omega)
      · rw [rr _ (by omega)]; exact h6
      · rw [rr _ (by omega), rr _ (by omega)]; exact h7
    · have n1 : M 0 11 = nI (S 9 0) := h.2.2.1.1.1
      have n2 : M 0 11 < 8 := by rw [n1]; exact (q_lt (b := 8) (by omega) (by omega)).mpr hn
      have c := c_Fv_seen (X := X) (x1 := nI a) (x2 := nI b) (M := M) ⟨fun _ => trivial, fun _ => ⟨fun _ => ⟨fun _ => by rw [n1]; exact ⟨q_in hn (by omega), q_in hn (by omega)⟩, fun _ => trivial⟩, fun _ => trivial⟩⟩
      unfold f_Fv_seen m_Fv_seen at c
      simp only [k1, k2, n2, q_n10, if_false, if_true] at c
      rw [n1, q_cl (by omega), show nI (S 9 0) + (1 : Int32) = nI (S 9 0 + 1) from nI_1 _] at c
      refine ⟨_, c, fun a b ha => by rw [zu_n (by omega), zu_n (by omega), zu_n (by omega)], q_rC_B h hr (q_fr_zu (q_fr_zu (q_fr_zu q_fr_rf (by omega)) (by omega)) (by omega)) ?_⟩
      obtain ⟨⟨a1, a2⟩, b1, c1, d1⟩ := h.2.2.1
      unfold q_CS
      rw [r9, rr 12 (by omega), rr 13 (by omega), rr 14 (by omega)]
      simp only [r10, r11, zu_at]
      refine ⟨⟨by simp, fun i hi => ?_⟩, by rw [if_neg (by omega), if_neg (by omega), if_neg (by omega)]; exact b1, fun s hs => ?_, fun k hk => by rw [if_neg (by omega), if_neg (by omega), if_neg (by omega)]; exact d1 k hk⟩
      · by_cases e : i = S 9 0
        · simp [e]
        · simp [e]; exact a2 i (by omega)
      · simp; exact c1 s hs
    · have n1 : M 53 27 = nI (S 9 0) := (q_rM_AB.mp h).2.1.1
      have n2 : ¬ M 53 27 = 8 := by rw [n1]; exact fun q => hf ((q_eq (b := 8) (by omega) (by omega)).mp q)
      have e1 : (2 : Int32) * nI (S 9 0) = nI (2 * S 9 0) := pk_mul 2 _
      have c := c_Mo_seen (X := X) (x1 := nI a) (x2 := nI b) (M := M) ⟨fun _ => trivial, fun _ => ⟨q_in_01 _ _ _ _, fun _ => ⟨fun _ => by rw [n1, e1, show nI (2 * S 9 0) + (1 : Int32) = nI (2 * S 9 0 + 1) from nI_1 _]; exact ⟨q_in (by omega) (by omega), q_in (by omega) (by omega)⟩, fun _ => trivial⟩, fun _ => trivial⟩⟩
      unfold f_Mo_seen m_Mo_seen at c
      simp only [g1, g2, n2, q_n10, if_false] at c
      rw [n1, e1, show nI (2 * S 9 0) + (1 : Int32) = nI (2 * S 9 0 + 1) from nI_1 _, q_cl (by omega), q_cl (by omega), show nI (S 9 0) + (1 : Int32) = nI (S 9 0 + 1) from nI_1 _] at c
      refine ⟨_, c, fun a b ha => by rw [zu_n (by omega), zu_n (by omega), zu_n (by omega)], q_rM_B h hr (q_fr_zu (q_fr_zu (q_fr_zu q_fr_rf (by unfold q_DB; omega)) (by unfold q_DB; omega)) (by unfold q_DB; omega)) ?_⟩
      obtain ⟨⟨a1, a2⟩, b1, c1, d1⟩ := (q_rM_AB.mp h).2
      unfold q_MB
      rw [r9, rr 12 (by omega), rr 13 (by omega), rr 14 (by omega)]
      simp only [r10, r11, zu_at]
      refine ⟨⟨by simp, fun i hi => ?_⟩, by rw [if_neg (by omega), if_neg (by omega), if_neg (by omega)]; exact b1, fun s hs => ?_, fun k hk => by rw [if_neg (by omega), if_neg (by omega), if_neg (by omega)]; exact d1 k hk⟩
      · by_cases e : i = S 9 0
        · subst e
          simp
        · have e2 : ¬ 2 * i = 2 * S 9 0 + 1 := by omega
          have e3 : ¬ 2 * i = 2 * S 9 0 := by omega
          have e4 : ¬ 2 * i + 1 = 2 * S 9 0 + 1 := by omega
          have e5 : ¬ 2 * i + 1 = 2 * S 9 0 := by omega
          simp [e, e2, e3, e5]
          exact a2 i (by omega)
      · simp; exact c1 s hs
