/-! lookAtYear -/
def q_evs (M : zM) (c kd wh nu ne : Nat) (K : q_N) : Prop := M c 9 = nI ne ∧ ne ≤ 8 ∧ ∀ i, i < ne → M kd i = nI (K 0 i) ∧ K 0 i < 3 ∧ M wh i = nI (K 1 i) ∧ K 1 i < 24 ∧ M nu i = nI (K 2 i) ∧ K 2 i < 8
def q_DL (o : Nat) : Nat → Nat → Prop := fun a b => a = o ∧ (b = 10 ∨ b = 11 ∨ b = 12)
def q_LI (o : Nat) (K : q_N) (held y i : Nat) (M M1 : zM) : Prop := q_fr (q_DL o) M M1 ∧ M1 o 10 = nI (q_b (q_tl K held 0 y 0 i)) ∧ M1 o 11 = nI (q_b (q_tl K held 1 y 0 i)) ∧ ∃ h, h < 256 ∧ M1 o 12 = nI h ∧ ∀ v, v < 8 → h.testBit v = q_tl K held 2 y v i
theorem q_tl_s (K : q_N) (held kind y v i : Nat) : q_tl K held kind y v (i + 1) = (q_tl K held kind y v i || (held.testBit i && K 0 i == kind && K 1 i == y && (kind != 2 || K 2 i == v))) := rfl
theorem q_LI_no {o : Nat} {K : q_N} {held y i : Nat} {M M1 : zM} (h : q_LI o K held y i M M1) (c : held.testBit i = false ∨ K 1 i ≠ y) : q_LI o K held y (i + 1) M M1 := by
  obtain ⟨h1, h2, h3, b, h4, h5, h6⟩ := h
  have e : ∀ kind v, q_tl K held kind y v (i + 1) = q_tl K held kind y v i := by
    intro kind v
    rw [q_tl_s]
    rcases c with c | c <;> simp [c]
  exact ⟨h1, by rw [e]; exact h2, by rw [e]; exact h3, b, h4, h5, fun v hv => by rw [e]; exact h6 v hv⟩
theorem q_LI_0 {o : Nat} {K : q_N} {held y i : Nat} {M M1 : zM} (h : q_LI o K held y i M M1) (c1 : held.testBit i = true) (c2 : K 1 i = y) (c3 : K 0 i = 0) : q_LI o K held y (i + 1) M (zu M1 o 10 1) := by
  obtain ⟨h1, h2, h3, b, h4, h5, h6⟩ := h
  refine ⟨q_fr_zu h1 ⟨rfl, Or.inl rfl⟩, ?_, ?_, b, h4, ?_, fun v hv => ?_⟩
  · rw [zu_at, if_pos ⟨rfl, rfl⟩, q_tl_s]
    simp [c1, c2, c3]
    rfl
  · rw [zu_at, if_neg (by omega), q_tl_s]
    simp [c3, h3]
  · rw [zu_at, if_neg (by omega)]
    exact h5
  · rw [q_tl_s, h6 v hv]
    simp [c3]
theorem q_LI_1 {o : Nat} {K : q_N} {held y i : Nat} {M M1 : zM} (h : q_LI o K held y i M M1) (c1 : held.testBit i = true) (c2 : K 1 i = y) (c3 : K 0 i = 1) : q_LI o K held y (i + 1) M (zu M1 o 11 1) := by
  obtain ⟨h1, h2, h3, b, h4, h5, h6⟩ := h
  refine ⟨q_fr_zu h1 ⟨rfl, Or.inr (Or.inl rfl)⟩, ?_, ?_, b, h4, ?_, fun v hv => ?_⟩
  · rw [zu_at, if_neg (by omega), q_tl_s]
    simp [c3, h2]
  · rw [zu_at, if_pos ⟨rfl, rfl⟩, q_tl_s]
    simp [c1, c2, c3]
    rfl
  · rw [zu_at, if_neg (by omega)]
    exact h5
  · rw [q_tl_s, h6 v hv]
    simp [c3]
theorem q_LI_2 {o : Nat} {K : q_N} {held y i : Nat} {M M1 : zM} (h : q_LI o K held y i M M1) (c1 : held.testBit i = true) (c2 : K 1 i = y) (c3 : K 0 i = 2) (c4 : K 2 i < 8) : q_LI o K held y (i + 1) M (zu M1 o 12 (M1 o 12 ||| ((1 : Int32) <<< (nI (K 2 i) &&& 31)))) := by
  obtain ⟨h1, h2, h3, b, h4, h5, h6⟩ := h
  refine ⟨q_fr_zu h1 ⟨rfl, Or.inr (Or.inr rfl)⟩, ?_, ?_, b ||| 2 ^ K 2 i, q_set_lt (k := 8) h4 c4, ?_, fun v hv => ?_⟩
  · rw [zu_at, if_neg (by omega), q_tl_s]
    simp [c3, h2]
  · rw [zu_at, if_neg (by omega), q_tl_s]
    simp [c3, h3]
  · rw [zu_at, if_pos ⟨rfl, rfl⟩, h5, q_shl1 (by omega), q_or]
  · rw [q_set, q_tl_s, h6 v hv]
    simp only [c1, c2, c3]
    by_cases hv2 : v = K 2 i
    · simp [hv2]
    · simp [hv2, Ne.symm hv2]
theorem q_lookL_a {X : zX} {M : zM} {ne held y : Nat} {K : q_N} (he : q_evs M 5 13 14 15 ne K) (hh : held < 2 ^ 31) (hy : y < 24) : ∀ (d i : Nat) (M1 : zM), i + d = ne → q_LI 16 K held y i M M1 → ∃ M', At X 8 18 [some (.ref 16), some (.ref 5), some (.int (nI held)), some (.int (nI y)), some (.int (nI i))] [] M1 [] M' ∧ q_LI 16 K held y ne M M' := by
  obtain ⟨h9, hne, hev⟩ := he
  intro d
  induction d with
  | zero =>
    intro i M1 hi hI
    have hi : i = ne := by omega
    subst hi
    have e9 : M1 5 9 = nI i := by rw [hI.1 5 9 (by unfold q_DL; omega)]; exact h9
    exact ⟨M1, sg_Vo_lookAtYear_a_18 ⟨fun _ => ⟨rfl, rfl⟩, fun c => absurd (q_yle e9 (Nat.le_refl _) (by omega)) c⟩, hI⟩
  | succ d ih =>
    intro i M1 hi hI
    have e9 : M1 5 9 = nI ne := by rw [hI.1 5 9 (by unfold q_DL; omega)]; exact h9
    obtain ⟨k1, k2, k3, k4, k5, k6⟩ := hev i (by omega)
    have g1 : M1 13 i = nI (K 0 i) := by rw [hI.1 13 i (by unfold q_DL; omega)]; exact k1
    have g2 : M1 14 i = nI (K 1 i) := by rw [hI.1 14 i (by unfold q_DL; omega)]; exact k3
    have g3 : M1 15 i = nI (K 2 i) := by rw [hI.1 15 i (by unfold q_DL; omega)]; exact k5
    have hin : vp_in (nI i) 8 := q_in (by omega) (by omega)
    have ec : (nI i).toNatClampNeg = i := q_cl (by omega)
    have e1 : nI i + (1 : Int32) = nI (i + 1) := nI_1 i
    have eb : f_Fv_bit (nI held) (nI i) M1 = nI (q_b (held.testBit i)) := q_bit M1 hh (by omega)
    by_cases cb : held.testBit i = true
    · by_cases cy : K 1 i = y
      · have key : ∃ M2 : zM, q_LI 16 K held y (i + 1) M M2 ∧ ((K 0 i = 0 → M2 = zu M1 16 10 1) ∧ (K 0 i = 1 → M2 = zu M1 16 11 1) ∧ (K 0 i = 2 → M2 = zu M1 16 12 (M1 16 12 ||| ((1 : Int32) <<< (nI (K 2 i) &&& 31))))) := by
          rcases (show K 0 i = 0 ∨ K 0 i = 1 ∨ K 0 i = 2 by omega) with q | q | q
          · exact ⟨_, q_LI_0 hI cb cy q, fun _ => rfl, fun r => by omega, fun r => by omega⟩
          · exact ⟨_, q_LI_1 hI cb cy q, fun r => by omega, fun _ => rfl, fun r => by omega⟩
          · exact ⟨_, q_LI_2 hI cb cy q k6, fun r => by omega, fun r => by omega, fun _ => rfl⟩
        obtain ⟨M2, hI2, m0, m1, m2⟩ := key
        obtain ⟨M', hA, hP⟩ := ih (i + 1) M2 (by omega) hI2
        refine ⟨M', sg_Vo_lookAtYear_a_18 ⟨fun c => absurd c (q_nle e9 (by omega) (by omega)), fun _ => ⟨_, _, c_Fv_bit, fun c => absurd c (by rw [eb, cb]; decide), fun _ => ⟨hin, fun _ => ⟨hin, fun c => ⟨hin, fun c2 => ⟨hin, ?_⟩, fun c2 => ?_⟩, fun c => ?_⟩, fun c => absurd (by rw [ec, g2, cy]) c⟩⟩⟩, hP⟩
        · rw [ec] at c c2 ⊢
          rw [g1] at c c2
          have : K 0 i = 2 := by
            have n0 : K 0 i ≠ 0 := fun q => c (by rw [q]; rfl)
            have n1 : K 0 i ≠ 1 := fun q => c2 (by rw [q]; rfl)
            omega
          rw [e1, g3, ← m2 this]
          exact hA
        · rw [ec, g1] at c2
          rw [e1, ← m1 ((q_eq (b := 1) (by omega) (by omega)).mp c2)]
          exact hA
        · rw [ec, g1] at c
          rw [e1, ← m0 ((q_eq (b := 0) (by omega) (by omega)).mp c)]
          exact hA
      · obtain ⟨M', hA, hP⟩ := ih (i + 1) M1 (by omega) (q_LI_no hI (Or.inr cy))
        refine ⟨M', sg_Vo_lookAtYear_a_18 ⟨fun c => absurd c (q_nle e9 (by omega) (by omega)), fun _ => ⟨_, _, c_Fv_bit, fun c => absurd c (by rw [eb, cb]; decide), fun _ => ⟨hin, fun c => absurd c (by rw [ec, g2, q_eq (by omega) (by omega)]; exact cy), fun _ => by rw [e1]; exact hA⟩⟩⟩, hP⟩
    · have cb : held.testBit i = false := by simpa using cb
      obtain ⟨M', hA, hP⟩ := ih (i + 1) M1 (by omega) (q_LI_no hI (Or.inl cb))
      exact ⟨M', sg_Vo_lookAtYear_a_18 ⟨fun c => absurd c (q_nle e9 (by omega) (by omega)), fun _ => ⟨_, _, c_Fv_bit, fun _ => by rw [e1]; exact hA, fun c => absurd (by rw [eb, cb]; decide) c⟩⟩, hP⟩
theorem q_look_a {X : zX} {M : zM} {ne held y : Nat} {K : q_N} (he : q_evs M 5 13 14 15 ne K) (hh : held < 2 ^ 31) (hy : y < 24) : ∃ M', Call X 8 [.ref 16, .ref 5, .int (nI held), .int (nI y)] M [] M' ∧ q_LI 16 K held y ne M M' := by
  have h0 : q_LI 16 K held y 0 M (zu (zu (zu M 16 10 (0 : Int32)) 16 11 (0 : Int32)) 16 12 (0 : Int32)) := by
    refine ⟨q_fr_zu (q_fr_zu (q_fr_zu q_fr_rf ⟨rfl, Or.inl rfl⟩) ⟨rfl, Or.inr (Or.inl rfl)⟩) ⟨rfl, Or.inr (Or.inr rfl)⟩, ?_, ?_, 0, by omega, ?_, fun v _ => by simp [q_tl]⟩ <;> simp [zu_at, q_tl, q_b] <;> rfl
  obtain ⟨M', hA, hP⟩ := q_lookL_a (X := X) he hh hy ne 0 _ (by omega) h0
  exact ⟨M', Call.of (Nat.le_of_ble_eq_true rfl) (sg_Vo_lookAtYear_a_0 hA), hP⟩
theorem q_lookL_b {X : zX} {M : zM} {ne held y : Nat} {K : q_N} (he : q_evs M 25 33 34 35 ne K) (hh : held < 2 ^ 31) (hy : y < 24) : ∀ (d i : Nat) (M1 : zM), i + d = ne → q_LI 36 K held y i M M1 → ∃ M', At X 8 18 [some (.ref 36), some (.ref 25), some (.int (nI held)), some (.int (nI y)), some (.int (nI i))] [] M1 [] M' ∧ q_LI 36 K held y ne M M' := by
  obtain ⟨h9, hne, hev⟩ := he
  intro d
  induction d with
  | zero =>
    intro i M1 hi hI
    have hi : i = ne := by omega
    subst hi
    have e9 : M1 25 9 = nI i := by rw [hI.1 25 9 (by unfold q_DL; omega)]; exact h9
    exact ⟨M1, sg_Vo_lookAtYear_b_18 ⟨fun _ => ⟨rfl, rfl⟩, fun c => absurd (q_yle e9 (Nat.le_refl _) (by omega)) c⟩, hI⟩
  | succ d ih =>
    intro i M1 hi hI
    have e9 : M1 25 9 = nI ne := by rw [hI.1 25 9 (by unfold q_DL; omega)]; exact h9
    obtain ⟨k1, k2, k3, k4, k5, k6⟩ := hev i (by omega)
    have g1 : M1 33 i = nI (K 0 i) := by rw [hI.1 33 i (by unfold q_DL; omega)]; exact k1
    have g2 : M1 34 i = nI (K 1 i) := by rw [hI.1 34 i (by unfold q_DL; omega)]; exact k3
    have g3 : M1 35 i = nI (K 2 i) := by rw [hI.1 35 i (by unfold q_DL; omega)]; exact k5
    have hin : vp_in (nI i) 8 := q_in (by omega) (by omega)
    have ec : (nI i).toNatClampNeg = i := q_cl (by omega)
    have e1 : nI i + (1 : Int32) = nI (i + 1) := nI_1 i
    have eb : f_Fv_bit (nI held) (nI i) M1 = nI (q_b (held.testBit i)) := q_bit M1 hh (by omega)
    by_cases cb : held.testBit i = true
    · by_cases cy : K 1 i = y
      · have key : ∃ M2 : zM, q_LI 36 K held y (i + 1) M M2 ∧ ((K 0 i = 0 → M2 = zu M1 36 10 1) ∧ (K 0 i = 1 → M2 = zu M1 36 11 1) ∧ (K 0 i = 2 → M2 = zu M1 36 12 (M1 36 12 ||| ((1 : Int32) <<< (nI (K 2 i) &&& 31))))) := by
          rcases (show K 0 i = 0 ∨ K 0 i = 1 ∨ K 0 i = 2 by omega) with q | q | q
          · exact ⟨_, q_LI_0 hI cb cy q, fun _ => rfl, fun r => by omega, fun r => by omega⟩
          · exact ⟨_, q_LI_1 hI cb cy q, fun r => by omega, fun _ => rfl, fun r => by omega⟩
          · exact ⟨_, q_LI_2 hI cb cy q k6, fun r => by omega, fun r => by omega, fun _ => rfl⟩
        obtain ⟨M2, hI2, m0, m1, m2⟩ := key
        obtain ⟨M', hA, hP⟩ := ih (i + 1) M2 (by omega) hI2
        refine ⟨M', sg_Vo_lookAtYear_b_18 ⟨fun c => absurd c (q_nle e9 (by omega) (by omega)), fun _ => ⟨_, _, c_Fv_bit, fun c => absurd c (by rw [eb, cb]; decide), fun _ => ⟨hin, fun _ => ⟨hin, fun c => ⟨hin, fun c2 => ⟨hin, ?_⟩, fun c2 => ?_⟩, fun c => ?_⟩, fun c => absurd (by rw [ec, g2, cy]) c⟩⟩⟩, hP⟩
        · rw [ec] at c c2 ⊢
          rw [g1] at c c2
          have : K 0 i = 2 := by
            have n0 : K 0 i ≠ 0 := fun q => c (by rw [q]; rfl)
            have n1 : K 0 i ≠ 1 := fun q => c2 (by rw [q]; rfl)
            omega
          rw [e1, g3, ← m2 this]
          exact hA
        · rw [ec, g1] at c2
          rw [e1, ← m1 ((q_eq (b := 1) (by omega) (by omega)).mp c2)]
          exact hA
        · rw [ec, g1] at c
          rw [e1, ← m0 ((q_eq (b := 0) (by omega) (by omega)).mp c)]
          exact hA
      · obtain ⟨M', hA, hP⟩ := ih (i + 1) M1 (by omega) (q_LI_no hI (Or.inr cy))
        refine ⟨M', sg_Vo_lookAtYear_b_18 ⟨fun c => absurd c (q_nle e9 (by omega) (by omega)), fun _ => ⟨_, _, c_Fv_bit, fun c => absurd c (by rw [eb, cb]; decide), fun _ => ⟨hin, fun c => absurd c (by rw [ec, g2, q_eq (by omega) (by omega)]; exact cy), fun _ => by rw [e1]; exact hA⟩⟩⟩, hP⟩
    · have cb : held.testBit i = false := by simpa using cb
      obtain ⟨M', hA, hP⟩ := ih (i + 1) M1 (by omega) (q_LI_no hI (Or.inl cb))
      exact ⟨M', sg_Vo_lookAtYear_b_18 ⟨fun c => absurd c (q_nle e9 (by omega) (by omega)), fun _ => ⟨_, _, c_Fv_bit, fun _ => by rw [e1]; exact hA, fun c => absurd (by rw [eb, cb]; decide) c⟩⟩, hP⟩
theorem q_look_b {X : zX} {M : zM} {ne held y : Nat} {K : q_N} (he : q_evs M 25 33 34 35 ne K) (hh : held < 2 ^ 31) (hy : y < 24) : ∃ M', Call X 8 [.ref 36, .ref 25, .int (nI held), .int (nI y)] M [] M' ∧ q_LI 36 K held y ne M M' := by
  have h0 : q_LI 36 K held y 0 M (zu (zu (zu M 36 10 (0 : Int32)) 36 11 (0 : Int32)) 36 12 (0 : Int32)) := by
    refine ⟨q_fr_zu (q_fr_zu (q_fr_zu q_fr_rf ⟨rfl, Or.inl rfl⟩) ⟨rfl, Or.inr (Or.inl rfl)⟩) ⟨rfl, Or.inr (Or.inr rfl)⟩, ?_, ?_, 0, by omega, ?_, fun v _ => by simp [q_tl]⟩ <;> simp [zu_at, q_tl, q_b] <;> rfl
  obtain ⟨M', hA, hP⟩ := q_lookL_b (X := X) he hh hy ne 0 _ (by omega) h0
  exact ⟨M', Call.of (Nat.le_of_ble_eq_true rfl) (sg_Vo_lookAtYear_b_0 hA), hP⟩
theorem q_lookL_c {X : zX} {M : zM} {ne held y : Nat} {K : q_N} (he : q_evs M 5 13 14 15 ne K) (hh : held < 2 ^ 31) (hy : y < 24) : ∀ (d i : Nat) (M1 : zM), i + d = ne → q_LI 36 K held y i M M1 → ∃ M', At X 8 18 [some (.ref 36), some (.ref 5), some (.int (nI held)), some (.int (nI y)), some (.int (nI i))] [] M1 [] M' ∧ q_LI 36 K held y ne M M' := by
  obtain ⟨h9, hne, hev⟩ := he
  intro d
  induction d with
  | zero =>
    intro i M1 hi hI
    have hi : i = ne := by omega
    subst hi
    have e9 : M1 5 9 = nI i := by rw [hI.1 5 9 (by unfold q_DL; omega)]; exact h9
    exact ⟨M1, sg_Vo_lookAtYear_c_18 ⟨fun _ => ⟨rfl, rfl⟩, fun c => absurd (q_yle e9 (Nat.le_refl _) (by omega)) c⟩, hI⟩
  | succ d ih =>
    intro i M1 hi hI
    have e9 : M1 5 9 = nI ne := by rw [hI.1 5 9 (by unfold q_DL; omega)]; exact h9
    obtain ⟨k1, k2, k3, k4, k5, k6⟩ := hev i (by omega)
    have g1 : M1 13 i = nI (K 0 i) := by rw [hI.1 13 i (by unfold q_DL; omega)]; exact k1
    have g2 : M1 14 i = nI (K 1 i) := by rw [hI.1 14 i (by unfold q_DL; omega)]; exact k3
    have g3 : M1 15 i = nI (K 2 i) := by rw [hI.1 15 i (by unfold q_DL; omega)]; exact k5
    have hin : vp_in (nI i) 8 := q_in (by omega) (by omega)
    have ec : (nI i).toNatClampNeg = i := q_cl (by omega)
    have e1 : nI i + (1 : Int32) = nI (i + 1) := nI_1 i
    have eb : f_Fv_bit (nI held) (nI i) M1 = nI (q_b (held.testBit i)) := q_bit M1 hh (by omega)
    by_cases cb : held.testBit i = true
    · by_cases cy : K 1 i = y
      · have key : ∃ M2 : zM, q_LI 36 K held y (i + 1) M M2 ∧ ((K 0 i = 0 → M2 = zu M1 36 10 1) ∧ (K 0 i = 1 → M2 = zu M1 36 11 1) ∧ (K 0 i = 2 → M2 = zu M1 36 12 (M1 36 12 ||| ((1 : Int32) <<< (nI (K 2 i) &&& 31))))) := by
          rcases (show K 0 i = 0 ∨ K 0 i = 1 ∨ K 0 i = 2 by omega) with q | q | q
          · exact ⟨_, q_LI_0 hI cb cy q, fun _ => rfl, fun r => by omega, fun r => by omega⟩
          · exact ⟨_, q_LI_1 hI cb cy q, fun r => by omega, fun _ => rfl, fun r => by omega⟩
          · exact ⟨_, q_LI_2 hI cb cy q k6, fun r => by omega, fun r => by omega, fun _ => rfl⟩
        obtain ⟨M2, hI2, m0, m1, m2⟩ := key
        obtain ⟨M', hA, hP⟩ := ih (i + 1) M2 (by omega) hI2
        refine ⟨M', sg_Vo_lookAtYear_c_18 ⟨fun c => absurd c (q_nle e9 (by omega) (by omega)), fun _ => ⟨_, _, c_Fv_bit, fun c => absurd c (by rw [eb, cb]; decide), fun _ => ⟨hin, fun _ => ⟨hin, fun c => ⟨hin, fun c2 => ⟨hin, ?_⟩, fun c2 => ?_⟩, fun c => ?_⟩, fun c => absurd (by rw [ec, g2, cy]) c⟩⟩⟩, hP⟩
        · rw [ec] at c c2 ⊢
          rw [g1] at c c2
          have : K 0 i = 2 := by
            have n0 : K 0 i ≠ 0 := fun q => c (by rw [q]; rfl)
            have n1 : K 0 i ≠ 1 := fun q => c2 (by rw [q]; rfl)
            omega
          rw [e1, g3, ← m2 this]
          exact hA
        · rw [ec, g1] at c2
          rw [e1, ← m1 ((q_eq (b := 1) (by omega) (by omega)).mp c2)]
          exact hA
        · rw [ec, g1] at c
          rw [e1, ← m0 ((q_eq (b := 0) (by omega) (by omega)).mp c)]
          exact hA
      · obtain ⟨M', hA, hP⟩ := ih (i + 1) M1 (by omega) (q_LI_no hI (Or.inr cy))
        refine ⟨M', sg_Vo_lookAtYear_c_18 ⟨fun c => absurd c (q_nle e9 (by omega) (by omega)), fun _ => ⟨_, _, c_Fv_bit, fun c => absurd c (by rw [eb, cb]; decide), fun _ => ⟨hin, fun c => absurd c (by rw [ec, g2, q_eq (by omega) (by omega)]; exact cy), fun _ => by rw [e1]; exact hA⟩⟩⟩, hP⟩
    · have cb : held.testBit i = false := by simpa using cb
      obtain ⟨M', hA, hP⟩ := ih (i + 1) M1 (by omega) (q_LI_no hI (Or.inl cb))
      exact ⟨M', sg_Vo_lookAtYear_c_18 ⟨fun c => absurd c (q_nle e9 (by omega) (by omega)), fun _ => ⟨_, _, c_Fv_bit, fun _ => by rw [e1]; exact hA, fun c => absurd (by rw [eb, cb]; decide) c⟩⟩, hP⟩
theorem q_look_c {X : zX} {M : zM} {ne held y : Nat} {K : q_N} (he : q_evs M 5 13 14 15 ne K) (hh : held < 2 ^ 31) (hy : y < 24) : ∃ M', Call X 8 [.ref 36, .ref 5, .int (nI held), .int (nI y)] M [] M' ∧ q_LI 36 K held y ne M M' := by
  have h0 : q_LI 36 K held y 0 M (zu (zu (zu M 36 10 (0 : Int32)) 36 11 (0 : Int32)) 36 12 (0 : Int32)) := by
    refine ⟨q_fr_zu (q_fr_zu (q_fr_zu q_fr_rf ⟨rfl, Or.inl rfl⟩) ⟨rfl, Or.inr (Or.inl rfl)⟩) ⟨rfl, Or.inr (Or.inr rfl)⟩, ?_, ?_, 0, by omega, ?_, fun v _ => by simp [q_tl]⟩ <;> simp [zu_at, q_tl, q_b] <;> rfl
  obtain ⟨M', hA, hP⟩ := q_lookL_c (X := X) he hh hy ne 0 _ (by omega) h0
  exact ⟨M', Call.of (Nat.le_of_ble_eq_true rfl) (sg_Vo_lookAtYear_c_0 hA), hP⟩
