def f_Fv_below (x0 : Int32) (x1 : Int32) (M : zM) : Int32 := (if x0 < 0 then (0 : Int32) else (if x1 ≤ x0 then (0 : Int32) else (1 : Int32)))
theorem c_Fv_below {X : zX} {x0 : Int32} {x1 : Int32} {M : zM} : Call X 0 [(.int x0), (.int x1)] M [.int (f_Fv_below x0 x1 M)] M := by
  refine Call.of (Nat.le_of_ble_eq_true rfl) ?_
  refine sg_Fv_below_0 ?_
  exact ⟨rfl, rfl⟩
def f_Fv_textOf (x1 : Int32) (M : zM) : Nat := (if x1 = 0 then 1 else 3)
theorem c_Fv_textOf {X : zX} {x1 : Int32} {M : zM} : Call X 1 [(.ref 0), (.int x1)] M [.ref (f_Fv_textOf x1 M)] M := by
  refine Call.of (Nat.le_of_ble_eq_true rfl) ?_
  refine sg_Fv_textOf_0 ?_
  refine ⟨fun c0 => ?_, fun c0 => ?_⟩
  · exact ⟨by simp only [f_Fv_textOf, if_neg c0], by simp only [f_Fv_textOf, if_neg c0]⟩
  · exact ⟨by simp only [f_Fv_textOf, if_pos c0], by simp only [f_Fv_textOf, if_pos c0]⟩
def f_Fv_fitsVoter (x0 : Int32) (x1 : Int32) (M : zM) : Int32 := (if x0 = (0 : Int32) then (if x1 = (115 : Int32) then (1 : Int32) else (if x1 = (119 : Int32) then (1 : Int32) else (if x1 = (109 : Int32) then (1 : Int32) else (0 : Int32)))) else (if x0 = (1 : Int32) then (if x1 < (48 : Int32) then (0 : Int32) else (if (55 : Int32) < x1 then (0 : Int32) else (1 : Int32))) else (if x0 = (2 : Int32) then (if x1 < (48 : Int32) then (0 : Int32) else (if (50 : Int32) < x1 then (0 : Int32) else (1 : Int32))) else (if x1 = (59 : Int32) then (1 : Int32) else (0 : Int32)))))
theorem c_Fv_fitsVoter {X : zX} {x0 : Int32} {x1 : Int32} {M : zM} : Call X 2 [(.int x0), (.int x1)] M [.int (f_Fv_fitsVoter x0 x1 M)] M := by
  refine Call.of (Nat.le_of_ble_eq_true rfl) ?_
  refine sg_Fv_fitsVoter_0 ?_
  refine ⟨fun c0 => ?_, fun c0 => ?_⟩
  · exact ⟨by simp only [f_Fv_fitsVoter, if_pos c0], by simp only [f_Fv_fitsVoter, if_pos c0]⟩
  · refine ⟨fun c3 => ?_, fun c3 => ?_⟩
    · exact ⟨by simp only [f_Fv_fitsVoter, if_neg c0, if_pos c3], by simp only [f_Fv_fitsVoter, if_neg c0, if_pos c3]⟩
    · refine ⟨fun c6 => ?_, fun c6 => ?_⟩
      · exact ⟨by simp only [f_Fv_fitsVoter, if_neg c0, if_neg c3, if_pos c6], by simp only [f_Fv_fitsVoter, if_neg c0, if_neg c3, if_pos c6]⟩
      · exact ⟨by simp only [f_Fv_fitsVoter, if_neg c0, if_neg c3, if_neg c6], by simp only [f_Fv_fitsVoter, if_neg c0, if_neg c3, if_neg c6]⟩
def f_Fv_fitsMeasure (x0 : Int32) (x1 : Int32) (M : zM) : Int32 := (if x0 = (0 : Int32) then (if x1 < (97 : Int32) then (0 : Int32) else (if (120 : Int32) < x1 then (0 : Int32) else (1 : Int32))) else (if x0 = (1 : Int32) then (if x1 < (48 : Int32) then (0 : Int32) else (if (55 : Int32) < x1 then (0 : Int32) else (1 : Int32))) else (if x1 = (59 : Int32) then (1 : Int32) else (0 : Int32))))
theorem c_Fv_fitsMeasure {X : zX} {x0 : Int32} {x1 : Int32} {M : zM} : Call X 3 [(.int x0), (.int x1)] M [.int (f_Fv_fitsMeasure x0 x1 M)] M := by
  refine Call.of (Nat.le_of_ble_eq_true rfl) ?_
  refine sg_Fv_fitsMeasure_0 ?_
  refine ⟨fun c0 => ?_, fun c0 => ?_⟩
  · exact ⟨by simp only [f_Fv_fitsMeasure, if_pos c0], by simp only [f_Fv_fitsMeasure, if_pos c0]⟩
  · refine ⟨fun c3 => ?_, fun c3 => ?_⟩
    · exact ⟨by simp only [f_Fv_fitsMeasure, if_neg c0, if_pos c3], by simp only [f_Fv_fitsMeasure, if_neg c0, if_pos c3]⟩
    · exact ⟨by simp only [f_Fv_fitsMeasure, if_neg c0, if_neg c3], by simp only [f_Fv_fitsMeasure, if_neg c0, if_neg c3]⟩
def m_Ca_addVoter_t (x1 : Int32) (x2 : Int32) (x3 : Int32) (M : zM) : zM := (if (M 5 0) < (8 : Int32) then (zu (zu (zu (zu (zu M 6 ((M 5 0)).toNatClampNeg x1) 7 ((M 5 0)).toNatClampNeg x2) 8 ((M 5 0)).toNatClampNeg x3) 9 ((M 5 0)).toNatClampNeg (M 5 0)) 5 0 ((M 5 0) + (1 : Int32))) else M)
def s_Ca_addVoter_t (x1 : Int32) (x2 : Int32) (x3 : Int32) (M : zM) : Prop := ((((M 5 0) < (8 : Int32)) → ((vp_in (M 5 0) 8) ∧ ((vp_in (M 5 0) 8) ∧ ((vp_in (M 5 0) 8) ∧ (vp_in (M 5 0) 8))))) ∧ ((¬ (M 5 0) < (8 : Int32)) → True))
theorem c_Ca_addVoter_t {X : zX} {x1 : Int32} {x2 : Int32} {x3 : Int32} {M : zM} (hs : s_Ca_addVoter_t x1 x2 x3 M) : Call X 5 [(.ref 5), (.int x1), (.int x2), (.int x3)] M [] (m_Ca_addVoter_t x1 x2 x3 M) := by
  refine Call.of (Nat.le_of_ble_eq_true rfl) ?_
  refine sg_Ca_addVoter_t_0 ?_
  refine ⟨fun c0 => ?_, fun c0 => ?_⟩
  · refine ⟨(hs.1 c0).1, ?_⟩
    refine ⟨(hs.1 c0).2.1, ?_⟩
    refine ⟨(hs.1 c0).2.2.1, ?_⟩
    refine ⟨(hs.1 c0).2.2.2, ?_⟩
    exact ⟨by simp only [m_Ca_addVoter_t, if_pos c0], by simp only [m_Ca_addVoter_t, if_pos c0]⟩
  · exact ⟨by simp only [m_Ca_addVoter_t, if_neg c0], by simp only [m_Ca_addVoter_t, if_neg c0]⟩
def f_Fv_bit (x0 : Int32) (x1 : Int32) (M : zM) : Int32 := ((x0 >>> (x1 &&& 31)) &&& (1 : Int32))
theorem c_Fv_bit {X : zX} {x0 : Int32} {x1 : Int32} {M : zM} : Call X 7 [(.int x0), (.int x1)] M [.int (f_Fv_bit x0 x1 M)] M := by
  refine Call.of (Nat.le_of_ble_eq_true rfl) ?_
  refine sg_Fv_bit_0 ?_
  exact ⟨rfl, rfl⟩
def f_Vo_isFor (x0 : Int32) (x1 : Int32) (M : zM) : Int32 := (if (zt_tr (((x1 &&& x0) &&& (7 : Int32))).toNatClampNeg) ≤ (zt_tr (((x1 &&& (x0 ^^^ (-1 : Int32))) &&& (7 : Int32))).toNatClampNeg) then (0 : Int32) else (1 : Int32))
def s_Vo_isFor (x0 : Int32) (x1 : Int32) (M : zM) : Prop := ((vp_in ((x1 &&& x0) &&& (7 : Int32)) 8) ∧ (vp_in ((x1 &&& (x0 ^^^ (-1 : Int32))) &&& (7 : Int32)) 8))
theorem c_Vo_isFor {X : zX} {x0 : Int32} {x1 : Int32} {M : zM} (hs : s_Vo_isFor x0 x1 M) : Call X 9 [(.int x0), (.int x1)] M [.int (f_Vo_isFor x0 x1 M)] M := by
  refine Call.of (Nat.le_of_ble_eq_true rfl) ?_
  refine sg_Vo_isFor_0 ?_
  refine ⟨hs.1, ?_⟩
  refine ⟨hs.2, ?_⟩
  exact ⟨rfl, rfl⟩
def f_Fv_voter (x1 : Int32) (x2 : Int32) (M : zM) : Int32 := (if (f_Fv_below (x1) ((M 5 0)) M) = 0 then (-2 : Int32) else (if (f_Fv_below (x2) ((3 : Int32)) M) = 0 then (-2 : Int32) else (if x2 = 0 then (M 6 (x1).toNatClampNeg) else (if x2 = (1 : Int32) then (M 7 (x1).toNatClampNeg) else (M 8 (x1).toNatClampNeg)))))
def s_Fv_voter (x1 : Int32) (x2 : Int32) (M : zM) : Prop := ((((f_Fv_below (x1) ((M 5 0)) M) = 0) → True) ∧ ((¬ (f_Fv_below (x1) ((M 5 0)) M) = 0) → (((¬ (f_Fv_below (x2) ((3 : Int32)) M) = 0) → (((¬ x2 = 0) → (((¬ x2 = (1 : Int32)) → (vp_in x1 8)) ∧ ((x2 = (1 : Int32)) → (vp_in x1 8)))) ∧ ((x2 = 0) → (vp_in x1 8)))) ∧ (((f_Fv_below (x2) ((3 : Int32)) M) = 0) → True))))
theorem c_Fv_voter {X : zX} {x1 : Int32} {x2 : Int32} {M : zM} (hs : s_Fv_voter x1 x2 M) : Call X 18 [(.ref 0), (.int x1), (.int x2)] M [.int (f_Fv_voter x1 x2 M)] M := by
  refine Call.of (Nat.le_of_ble_eq_true rfl) ?_
  refine sg_Fv_voter_0 ?_
  refine ⟨_, _, c_Fv_below, ?_⟩
  refine ⟨fun c1 => ?_, fun c1 => ?_⟩
  · exact ⟨by simp only [f_Fv_voter, if_pos c1], by simp only [f_Fv_voter, if_pos c1]⟩
  · refine ⟨_, _, c_Fv_below, ?_⟩
    refine ⟨fun c5 => ?_, fun c5 => ?_⟩
    · refine ⟨fun c7 => ?_, fun c7 => ?_⟩
      · refine ⟨(((hs.2 c1).1 c5).1 c7), ?_⟩
        exact ⟨by simp only [f_Fv_voter, if_neg c1, if_neg c5, if_neg c7], by simp only [f_Fv_voter, if_neg c1, if_neg c5, if_neg c7]⟩
      · refine ⟨(((hs.2 c1).1 c5).2 c7), ?_⟩
        exact ⟨by simp only [f_Fv_voter, if_neg c1, if_neg c5, if_pos c7], by simp only [f_Fv_voter, if_neg c1, if_neg c5, if_pos c7]⟩
    · exact ⟨by simp only [f_Fv_voter, if_neg c1, if_pos c5], by simp only [f_Fv_voter, if_neg c1, if_pos c5]⟩
def f_Fv_measure (x1 : Int32) (x2 : Int32) (M : zM) : Int32 := (if (f_Fv_below (x1) ((M 5 5)) M) = 0 then (-2 : Int32) else (if (f_Fv_below (x2) ((2 : Int32)) M) = 0 then (-2 : Int32) else (if x2 = 0 then (M 10 (x1).toNatClampNeg) else (M 11 (x1).toNatClampNeg))))
def s_Fv_measure (x1 : Int32) (x2 : Int32) (M : zM) : Prop := ((((f_Fv_below (x1) ((M 5 5)) M) = 0) → True) ∧ ((¬ (f_Fv_below (x1) ((M 5 5)) M) = 0) → (((¬ (f_Fv_below (x2) ((2 : Int32)) M) = 0) → (((¬ x2 = 0) → (vp_in x1 12)) ∧ ((x2 = 0) → (vp_in x1 12)))) ∧ (((f_Fv_below (x2) ((2 : Int32)) M) = 0) → True))))
theorem c_Fv_measure {X : zX} {x1 : Int32} {x2 : Int32} {M : zM} (hs : s_Fv_measure x1 x2 M) : Call X 19 [(.ref 0), (.int x1), (.int x2)] M [.int (f_Fv_measure x1 x2 M)] M := by
  refine Call.of (Nat.le_of_ble_eq_true rfl) ?_
  refine sg_Fv_measure_0 ?_
  refine ⟨_, _, c_Fv_below, ?_⟩
  refine ⟨fun c1 => ?_, fun c1 => ?_⟩
  · exact ⟨by simp only [f_Fv_measure, if_pos c1], by simp only [f_Fv_measure, if_pos c1]⟩
  · refine ⟨_, _, c_Fv_below, ?_⟩
    refine ⟨fun c5 => ?_, fun c5 => ?_⟩
    · refine ⟨((hs.2 c1).1 c5), ?_⟩
      exact ⟨by simp only [f_Fv_measure, if_neg c1, if_neg c5], by simp only [f_Fv_measure, if_neg c1, if_neg c5]⟩
    · exact ⟨by simp only [f_Fv_measure, if_neg c1, if_pos c5], by simp only [f_Fv_measure, if_neg c1, if_pos c5]⟩
def m_Ca_addEvent_t (x1 : Int32) (x2 : Int32) (x3 : Int32) (M : zM) : zM := (if (M 5 9) < (8 : Int32) then (zu (zu (zu (zu M 13 ((M 5 9)).toNatClampNeg x1) 14 ((M 5 9)).toNatClampNeg x2) 15 ((M 5 9)).toNatClampNeg x3) 5 9 ((M 5 9) + (1 : Int32))) else M)
def s_Ca_addEvent_t (x1 : Int32) (x2 : Int32) (x3 : Int32) (M : zM) : Prop := ((((M 5 9) < (8 : Int32)) → ((vp_in (M 5 9) 8) ∧ ((vp_in (M 5 9) 8) ∧ (vp_in (M 5 9) 8)))) ∧ ((¬ (M 5 9) < (8 : Int32)) → True))
theorem c_Ca_addEvent_t {X : zX} {x1 : Int32} {x2 : Int32} {x3 : Int32} {M : zM} (hs : s_Ca_addEvent_t x1 x2 x3 M) : Call X 21 [(.ref 5), (.int x1), (.int x2), (.int x3)] M [] (m_Ca_addEvent_t x1 x2 x3 M) := by
  refine Call.of (Nat.le_of_ble_eq_true rfl) ?_
  refine sg_Ca_addEvent_t_0 ?_
  refine ⟨fun c0 => ?_, fun c0 => ?_⟩
  · refine ⟨(hs.1 c0).1, ?_⟩
    refine ⟨(hs.1 c0).2.1, ?_⟩
    refine ⟨(hs.1 c0).2.2, ?_⟩
    exact ⟨by simp only [m_Ca_addEvent_t, if_pos c0], by simp only [m_Ca_addEvent_t, if_pos c0]⟩
  · exact ⟨by simp only [m_Ca_addEvent_t, if_neg c0], by simp only [m_Ca_addEvent_t, if_neg c0]⟩
def f_Sh_isLost_s (x1 : Int32) (M : zM) : Int32 := (if (M 51 (x1).toNatClampNeg) = (-1 : Int32) then (1 : Int32) else (0 : Int32))
def s_Sh_isLost_s (x1 : Int32) (M : zM) : Prop := (vp_in x1 4)
theorem c_Sh_isLost_s {X : zX} {x1 : Int32} {M : zM} (hs : s_Sh_isLost_s x1 M) : Call X 24 [(.ref 49), (.int x1)] M [.int (f_Sh_isLost_s x1 M)] M := by
  refine Call.of (Nat.le_of_ble_eq_true rfl) ?_
  refine sg_Sh_isLost_s_0 ?_
  refine ⟨hs, ?_⟩
  exact ⟨rfl, rfl⟩
def f_Fv_found (x1 : Int32) (M : zM) : Int32 := ((-10 : Int32) - x1)
def m_Fv_found (x1 : Int32) (M : zM) : zM := (zu M 0 12 x1)
theorem c_Fv_found {X : zX} {x1 : Int32} {M : zM} : Call X 25 [(.ref 0), (.int x1)] M [.int (f_Fv_found x1 M)] (m_Fv_found x1 M) := by
  refine Call.of (Nat.le_of_ble_eq_true rfl) ?_
  refine sg_Fv_found_0 ?_
  exact ⟨rfl, rfl⟩
def f_Sh_item_s (x1 : Int32) (x2 : Int32) (M : zM) : Int32 := (M 52 (((x1 * (60 : Int32)) + x2)).toNatClampNeg)
def s_Sh_item_s (x1 : Int32) (x2 : Int32) (M : zM) : Prop := (vp_in ((x1 * (60 : Int32)) + x2) 240)
theorem c_Sh_item_s {X : zX} {x1 : Int32} {x2 : Int32} {M : zM} (hs : s_Sh_item_s x1 x2 M) : Call X 26 [(.ref 49), (.int x1), (.int x2)] M [.int (f_Sh_item_s x1 x2 M)] M := by
  refine Call.of (Nat.le_of_ble_eq_true rfl) ?_
  refine sg_Sh_item_s_0 ?_
  refine ⟨hs, ?_⟩
  exact ⟨rfl, rfl⟩
def f_Fv_said (x1 : Int32) (x2 : Int32) (M : zM) : Int32 := (if (f_Fv_below (x1) ((M 5 5)) M) = 0 then (-2 : Int32) else (if (f_Fv_below (x2) ((M 5 0)) M) = 0 then (-2 : Int32) else (M 17 (((x1 * (8 : Int32)) + x2)).toNatClampNeg)))
def s_Fv_said (x1 : Int32) (x2 : Int32) (M : zM) : Prop := ((((f_Fv_below (x1) ((M 5 5)) M) = 0) → True) ∧ ((¬ (f_Fv_below (x1) ((M 5 5)) M) = 0) → (((¬ (f_Fv_below (x2) ((M 5 0)) M) = 0) → (vp_in ((x1 * (8 : Int32)) + x2) 96)) ∧ (((f_Fv_below (x2) ((M 5 0)) M) = 0) → True))))
theorem c_Fv_said {X : zX} {x1 : Int32} {x2 : Int32} {M : zM} (hs : s_Fv_said x1 x2 M) : Call X 28 [(.ref 0), (.int x1), (.int x2)] M [.int (f_Fv_said x1 x2 M)] M := by
  refine Call.of (Nat.le_of_ble_eq_true rfl) ?_
  refine sg_Fv_said_0 ?_
  refine ⟨_, _, c_Fv_below, ?_⟩
  refine ⟨fun c1 => ?_, fun c1 => ?_⟩
  · exact ⟨by simp only [f_Fv_said, if_pos c1], by simp only [f_Fv_said, if_pos c1]⟩
  · refine ⟨_, _, c_Fv_below, ?_⟩
    refine ⟨fun c5 => ?_, fun c5 => ?_⟩
    · refine ⟨((hs.2 c1).1 c5), ?_⟩
      exact ⟨by simp only [f_Fv_said, if_neg c1, if_neg c5], by simp only [f_Fv_said, if_neg c1, if_neg c5]⟩
    · exact ⟨by simp only [f_Fv_said, if_neg c1, if_pos c5], by simp only [f_Fv_said, if_neg c1, if_pos c5]⟩
def f_Fv_tally (x1 : Int32) (x2 : Int32) (M : zM) : Int32 := (if (f_Fv_below (x1) ((M 5 5)) M) = 0 then (-2 : Int32) else (if (f_Fv_below (x2) ((5 : Int32)) M) = 0 then (-2 : Int32) else (if x2 = (0 : Int32) then (M 18 (x1).toNatClampNeg) else (if x2 = (1 : Int32) then (M 19 (x1).toNatClampNeg) else (if x2 = (2 : Int32) then (M 20 (x1).toNatClampNeg) else (if x2 = (3 : Int32) then (f_Fv_bit ((M 16 4)) (x1) M) else (f_Fv_bit ((M 16 5)) (x1) M)))))))
def s_Fv_tally (x1 : Int32) (x2 : Int32) (M : zM) : Prop := ((((f_Fv_below (x1) ((M 5 5)) M) = 0) → True) ∧ ((¬ (f_Fv_below (x1) ((M 5 5)) M) = 0) → (((¬ (f_Fv_below (x2) ((5 : Int32)) M) = 0) → (((x2 = (0 : Int32)) → (vp_in x1 12)) ∧ ((¬ x2 = (0 : Int32)) → (((x2 = (1 : Int32)) → (vp_in x1 12)) ∧ ((¬ x2 = (1 : Int32)) → (((x2 = (2 : Int32)) → (vp_in x1 12)) ∧ ((¬ x2 = (2 : Int32)) → True))))))) ∧ (((f_Fv_below (x2) ((5 : Int32)) M) = 0) → True))))
theorem c_Fv_tally {X : zX} {x1 : Int32} {x2 : Int32} {M : zM} (hs : s_Fv_tally x1 x2 M) : Call X 29 [(.ref 0), (.int x1), (.int x2)] M [.int (f_Fv_tally x1 x2 M)] M := by
  refine Call.of (Nat.le_of_ble_eq_true rfl) ?_
  refine sg_Fv_tally_0 ?_
  refine ⟨_, _, c_Fv_below, ?_⟩
  refine ⟨fun c1 => ?_, fun c1 => ?_⟩
  · exact ⟨by simp only [f_Fv_tally, if_pos c1], by simp only [f_Fv_tally, if_pos c1]⟩
  · refine ⟨_, _, c_Fv_below, ?_⟩
    refine ⟨fun c5 => ?_, fun c5 => ?_⟩
    · refine ⟨fun c7 => ?_, fun c7 => ?_⟩
      · refine ⟨(((hs.2 c1).1 c5).1 c7), ?_⟩
        exact ⟨by simp only [f_Fv_tally, if_neg c1, if_neg c5, if_pos c7], by simp only [f_Fv_tally, if_neg c1, if_neg c5, if_pos c7]⟩
      · refine ⟨fun c11 => ?_, fun c11 => ?_⟩
        · refine ⟨((((hs.2 c1).1 c5).2 c7).1 c11), ?_⟩
          exact ⟨by simp only [f_Fv_tally, if_neg c1, if_neg c5, if_neg c7, if_pos c11], by simp only [f_Fv_tally, if_neg c1, if_neg c5, if_neg c7, if_pos c11]⟩
        · refine ⟨fun c15 => ?_, fun c15 => ?_⟩
          · refine ⟨(((((hs.2 c1).1 c5).2 c7).2 c11).1 c15), ?_⟩
            exact ⟨by simp only [f_Fv_tally, if_neg c1, if_neg c5, if_neg c7, if_neg c11, if_pos c15], by simp only [f_Fv_tally, if_neg c1, if_neg c5, if_neg c7, if_neg c11, if_pos c15]⟩
          · refine ⟨fun c19 => ?_, fun c19 => ?_⟩
            · refine ⟨_, _, c_Fv_bit, ?_⟩
              exact ⟨by simp only [f_Fv_tally, if_neg c1, if_neg c5, if_neg c7, if_neg c11, if_neg c15, if_pos c19], by simp only [f_Fv_tally, if_neg c1, if_neg c5, if_neg c7, if_neg c11, if_neg c15, if_pos c19]⟩
            · refine ⟨_, _, c_Fv_bit, ?_⟩
              exact ⟨by simp only [f_Fv_tally, if_neg c1, if_neg c5, if_neg c7, if_neg c11, if_neg c15, if_neg c19], by simp only [f_Fv_tally, if_neg c1, if_neg c5, if_neg c7, if_neg c11, if_neg c15, if_neg c19]⟩
    · exact ⟨by simp only [f_Fv_tally, if_neg c1, if_pos c5], by simp only [f_Fv_tally, if_neg c1, if_pos c5]⟩
def f_Fv_at (x1 : Int32) (x2 : Int32) (M : zM) : Int32 := (if (f_Fv_below (x1) ((M 5 0)) M) = 0 then (-2 : Int32) else (if (f_Fv_below (x2) ((4 : Int32)) M) = 0 then (-2 : Int32) else (if x2 = (0 : Int32) then (M 21 (x1).toNatClampNeg) else (if x2 = (1 : Int32) then (M 22 (x1).toNatClampNeg) else (if x2 = (2 : Int32) then (M 23 (x1).toNatClampNeg) else (M 24 (x1).toNatClampNeg))))))
def s_Fv_at (x1 : Int32) (x2 : Int32) (M : zM) : Prop := ((((f_Fv_below (x1) ((M 5 0)) M) = 0) → True) ∧ ((¬ (f_Fv_below (x1) ((M 5 0)) M) = 0) → (((¬ (f_Fv_below (x2) ((4 : Int32)) M) = 0) → (((x2 = (0 : Int32)) → (vp_in x1 8)) ∧ ((¬ x2 = (0 : Int32)) → (((x2 = (1 : Int32)) → (vp_in x1 8)) ∧ ((¬ x2 = (1 : Int32)) → (((x2 = (2 : Int32)) → (vp_in x1 8)) ∧ ((¬ x2 = (2 : Int32)) → (vp_in x1 8)))))))) ∧ (((f_Fv_below (x2) ((4 : Int32)) M) = 0) → True))))
theorem c_Fv_at {X : zX} {x1 : Int32} {x2 : Int32} {M : zM} (hs : s_Fv_at x1 x2 M) : Call X 30 [(.ref 0), (.int x1), (.int x2)] M [.int (f_Fv_at x1 x2 M)] M := by
  refine Call.of (Nat.le_of_ble_eq_true rfl) ?_
  refine sg_Fv_at_0 ?_
  refine ⟨_, _, c_Fv_below, ?_⟩
  refine ⟨fun c1 => ?_, fun c1 => ?_⟩
  · exact ⟨by simp only [f_Fv_at, if_pos c1], by simp only [f_Fv_at, if_pos c1]⟩
  · refine ⟨_, _, c_Fv_below, ?_⟩
    refine ⟨fun c5 => ?_, fun c5 => ?_⟩
    · refine ⟨fun c7 => ?_, fun c7 => ?_⟩
      · refine ⟨(((hs.2 c1).1 c5).1 c7), ?_⟩
        exact ⟨by simp only [f_Fv_at, if_neg c1, if_neg c5, if_pos c7], by simp only [f_Fv_at, if_neg c1, if_neg c5, if_pos c7]⟩
      · refine ⟨fun c11 => ?_, fun c11 => ?_⟩
        · refine ⟨((((hs.2 c1).1 c5).2 c7).1 c11), ?_⟩
          exact ⟨by simp only [f_Fv_at, if_neg c1, if_neg c5, if_neg c7, if_pos c11], by simp only [f_Fv_at, if_neg c1, if_neg c5, if_neg c7, if_pos c11]⟩
        · refine ⟨fun c15 => ?_, fun c15 => ?_⟩
          · refine ⟨(((((hs.2 c1).1 c5).2 c7).2 c11).1 c15), ?_⟩
            exact ⟨by simp only [f_Fv_at, if_neg c1, if_neg c5, if_neg c7, if_neg c11, if_pos c15], by simp only [f_Fv_at, if_neg c1, if_neg c5, if_neg c7, if_neg c11, if_pos c15]⟩
          · refine ⟨(((((hs.2 c1).1 c5).2 c7).2 c11).2 c15), ?_⟩
            exact ⟨by simp only [f_Fv_at, if_neg c1, if_neg c5, if_neg c7, if_neg c11, if_neg c15], by simp only [f_Fv_at, if_neg c1, if_neg c5, if_neg c7, if_neg c11, if_neg c15]⟩
    · exact ⟨by simp only [f_Fv_at, if_neg c1, if_pos c5], by simp only [f_Fv_at, if_neg c1, if_pos c5]⟩
def f_In_bitCount (x0 : Int32) (M : zM) : Int32 := ((((((((x0 - ((((x0).toUInt32 >>> (((1 : Int32)).toUInt32 &&& Int32.toUInt32 31)).toInt32) &&& (1431655765 : Int32))) &&& (858993459 : Int32)) + (((((x0 - ((((x0).toUInt32 >>> (((1 : Int32)).toUInt32 &&& Int32.toUInt32 31)).toInt32) &&& (1431655765 : Int32)))).toUInt32 >>> (((2 : Int32)).toUInt32 &&& Int32.toUInt32 31)).toInt32) &&& (858993459 : Int32))) + ((((((x0 - ((((x0).toUInt32 >>> (((1 : Int32)).toUInt32 &&& Int32.toUInt32 31)).toInt32) &&& (1431655765 : Int32))) &&& (858993459 : Int32)) + (((((x0 - ((((x0).toUInt32 >>> (((1 : Int32)).toUInt32 &&& Int32.toUInt32 31)).toInt32) &&& (1431655765 : Int32)))).toUInt32 >>> (((2 : Int32)).toUInt32 &&& Int32.toUInt32 31)).toInt32) &&& (858993459 : Int32)))).toUInt32 >>> (((4 : Int32)).toUInt32 &&& Int32.toUInt32 31)).toInt32)) &&& (252645135 : Int32)) + ((((((((x0 - ((((x0).toUInt32 >>> (((1 : Int32)).toUInt32 &&& Int32.toUInt32 31)).toInt32) &&& (1431655765 : Int32))) &&& (858993459 : Int32)) + (((((x0 - ((((x0).toUInt32 >>> (((1 : Int32)).toUInt32 &&& Int32.toUInt32 31)).toInt32) &&& (1431655765 : Int32)))).toUInt32 >>> (((2 : Int32)).toUInt32 &&& Int32.toUInt32 31)).toInt32) &&& (858993459 : Int32))) + ((((((x0 - ((((x0).toUInt32 >>> (((1 : Int32)).toUInt32 &&& Int32.toUInt32 31)).toInt32) &&& (1431655765 : Int32))) &&& (858993459 : Int32)) + (((((x0 - ((((x0).toUInt32 >>> (((1 : Int32)).toUInt32 &&& Int32.toUInt32 31)).toInt32) &&& (1431655765 : Int32)))).toUInt32 >>> (((2 : Int32)).toUInt32 &&& Int32.toUInt32 31)).toInt32) &&& (858993459 : Int32)))).toUInt32 >>> (((4 : Int32)).toUInt32 &&& Int32.toUInt32 31)).toInt32)) &&& (252645135 : Int32))).toUInt32 >>> (((8 : Int32)).toUInt32 &&& Int32.toUInt32 31)).toInt32)) + (((((((((x0 - ((((x0).toUInt32 >>> (((1 : Int32)).toUInt32 &&& Int32.toUInt32 31)).toInt32) &&& (1431655765 : Int32))) &&& (858993459 : Int32)) + (((((x0 - ((((x0).toUInt32 >>> (((1 : Int32)).toUInt32 &&& Int32.toUInt32 31)).toInt32) &&& (1431655765 : Int32)))).toUInt32 >>> (((2 : Int32)).toUInt32 &&& Int32.toUInt32 31)).toInt32) &&& (858993459 : Int32))) + ((((((x0 - ((((x0).toUInt32 >>> (((1 : Int32)).toUInt32 &&& Int32.toUInt32 31)).toInt32) &&& (1431655765 : Int32))) &&& (858993459 : Int32)) + (((((x0 - ((((x0).toUInt32 >>> (((1 : Int32)).toUInt32 &&& Int32.toUInt32 31)).toInt32) &&& (1431655765 : Int32)))).toUInt32 >>> (((2 : Int32)).toUInt32 &&& Int32.toUInt32 31)).toInt32) &&& (858993459 : Int32)))).toUInt32 >>> (((4 : Int32)).toUInt32 &&& Int32.toUInt32 31)).toInt32)) &&& (252645135 : Int32)) + ((((((((x0 - ((((x0).toUInt32 >>> (((1 : Int32)).toUInt32 &&& Int32.toUInt32 31)).toInt32) &&& (1431655765 : Int32))) &&& (858993459 : Int32)) + (((((x0 - ((((x0).toUInt32 >>> (((1 : Int32)).toUInt32 &&& Int32.toUInt32 31)).toInt32) &&& (1431655765 : Int32)))).toUInt32 >>> (((2 : Int32)).toUInt32 &&& Int32.toUInt32 31)).toInt32) &&& (858993459 : Int32))) + ((((((x0 - ((((x0).toUInt32 >>> (((1 : Int32)).toUInt32 &&& Int32.toUInt32 31)).toInt32) &&& (1431655765 : Int32))) &&& (858993459 : Int32)) + (((((x0 - ((((x0).toUInt32 >>> (((1 : Int32)).toUInt32 &&& Int32.toUInt32 31)).toInt32) &&& (1431655765 : Int32)))).toUInt32 >>> (((2 : Int32)).toUInt32 &&& Int32.toUInt32 31)).toInt32) &&& (858993459 : Int32)))).toUInt32 >>> (((4 : Int32)).toUInt32 &&& Int32.toUInt32 31)).toInt32)) &&& (252645135 : Int32))).toUInt32 >>> (((8 : Int32)).toUInt32 &&& Int32.toUInt32 31)).toInt32))).toUInt32 >>> (((16 : Int32)).toUInt32 &&& Int32.toUInt32 31)).toInt32)) &&& (63 : Int32))
theorem c_In_bitCount {X : zX} {x0 : Int32} {M : zM} : Call X 31 [(.int x0)] M [.int (f_In_bitCount x0 M)] M := by
  refine Call.of (Nat.le_of_ble_eq_true rfl) ?_
  refine sg_In_bitCount_0 ?_
  exact ⟨rfl, rfl⟩
def f_Fv_sum (x1 : Int32) (M : zM) : Int32 := (if (f_Fv_below (x1) ((2 : Int32)) M) = 0 then (-2 : Int32) else (f_In_bitCount ((if x1 = 0 then (M 16 4) else (M 16 5))) M))
theorem c_Fv_sum {X : zX} {x1 : Int32} {M : zM} : Call X 32 [(.ref 0), (.int x1)] M [.int (f_Fv_sum x1 M)] M := by
  refine Call.of (Nat.le_of_ble_eq_true rfl) ?_
  refine sg_Fv_sum_0 ?_
  refine ⟨_, _, c_Fv_below, ?_⟩
  refine ⟨fun c1 => ?_, fun c1 => ?_⟩
  · refine ⟨_, _, c_In_bitCount, ?_⟩
    exact ⟨by simp only [f_Fv_sum, if_neg c1], by simp only [f_Fv_sum, if_neg c1]⟩
  · exact ⟨by simp only [f_Fv_sum, if_pos c1], by simp only [f_Fv_sum, if_pos c1]⟩
def m_Ca_become_r (M : zM) : zM := (zu (zu (zua (zua (zua (zu (zua (zua (zua (zu (zua (zua (zua (zua (zu M 25 0 (M 5 0)) 26 (va_cpy (M 6) (M 26) 0 0 8)) 27 (va_cpy (M 7) (M 27) 0 0 8)) 28 (va_cpy (M 8) (M 28) 0 0 8)) 29 (va_cpy (M 9) (M 29) 0 0 8)) 25 5 (M 5 5)) 30 (va_cpy (M 10) (M 30) 0 0 12)) 31 (va_cpy (M 11) (M 31) 0 0 12)) 32 (va_cpy (M 12) (M 32) 0 0 12)) 25 9 (M 5 9)) 33 (va_cpy (M 13) (M 33) 0 0 8)) 34 (va_cpy (M 14) (M 34) 0 0 8)) 35 (va_cpy (M 15) (M 35) 0 0 8)) 25 13 (M 5 13)) 25 14 (M 5 14))
theorem c_Ca_become_r {X : zX} {M : zM} : Call X 36 [(.ref 25), (.ref 5)] M [] (m_Ca_become_r M) := by
  refine Call.of (Nat.le_of_ble_eq_true rfl) ?_
  refine sg_Ca_become_r_0 ?_
  exact ⟨rfl, rfl⟩
def m_Ca_changePlaces_r (x1 : Int32) (x2 : Int32) (M : zM) : zM := (zu (zu M 29 (x1).toNatClampNeg (M 29 (x2).toNatClampNeg)) 29 (x2).toNatClampNeg (M 29 (x1).toNatClampNeg))
def s_Ca_changePlaces_r (x1 : Int32) (x2 : Int32) (M : zM) : Prop := ((vp_in x1 8) ∧ ((vp_in x2 8) ∧ ((vp_in x1 8) ∧ (vp_in x2 8))))
theorem c_Ca_changePlaces_r {X : zX} {x1 : Int32} {x2 : Int32} {M : zM} (hs : s_Ca_changePlaces_r x1 x2 M) : Call X 38 [(.ref 25), (.int x1), (.int x2)] M [] (m_Ca_changePlaces_r x1 x2 M) := by
  refine Call.of (Nat.le_of_ble_eq_true rfl) ?_
  refine sg_Ca_changePlaces_r_0 ?_
  refine ⟨hs.1, ?_⟩
  refine ⟨hs.2.1, ?_⟩
  refine ⟨hs.2.2.1, ?_⟩
  refine ⟨hs.2.2.2, ?_⟩
  exact ⟨rfl, rfl⟩
def f_Ca_eventBits_t (M : zM) : Int32 := (((1 : Int32) <<< ((M 5 9) &&& 31)) - (1 : Int32))
theorem c_Ca_eventBits_t {X : zX} {M : zM} : Call X 42 [(.ref 5)] M [.int (f_Ca_eventBits_t M)] M := by
  refine Call.of (Nat.le_of_ble_eq_true rfl) ?_
  refine sg_Ca_eventBits_t_0 ?_
  exact ⟨rfl, rfl⟩
def f_Fv_keepsCoats (x0 : Int32) (M : zM) : Int32 := (if (x0 &&& (4096 : Int32)) = 0 then (1 : Int32) else (0 : Int32))
theorem c_Fv_keepsCoats {X : zX} {x0 : Int32} {M : zM} : Call X 46 [(.int x0)] M [.int (f_Fv_keepsCoats x0 M)] M := by
  refine Call.of (Nat.le_of_ble_eq_true rfl) ?_
  refine sg_Fv_keepsCoats_0 ?_
  exact ⟨rfl, rfl⟩
def f_Fv_spared (x0 : Int32) (x1 : Int32) (x2 : Int32) (x3 : Int32) (M : zM) : Int32 := (if x0 = (-1 : Int32) then x1 else (if x0 = 0 then x2 else x3))
theorem c_Fv_spared {X : zX} {x0 : Int32} {x1 : Int32} {x2 : Int32} {x3 : Int32} {M : zM} : Call X 47 [(.int x0), (.int x1), (.int x2), (.int x3)] M [.int (f_Fv_spared x0 x1 x2 x3 M)] M := by
  refine Call.of (Nat.le_of_ble_eq_true rfl) ?_
  refine sg_Fv_spared_0 ?_
  refine ⟨fun c0 => ?_, fun c0 => ?_⟩
  · exact ⟨by simp only [f_Fv_spared, if_neg c0], by simp only [f_Fv_spared, if_neg c0]⟩
  · exact ⟨by simp only [f_Fv_spared, if_pos c0], by simp only [f_Fv_spared, if_pos c0]⟩
def f_Fv_seen (x1 : Int32) (x2 : Int32) (M : zM) : Int32 := (if (f_Fv_below (x1) ((12 : Int32)) M) = 0 then (-2 : Int32) else (if (f_Fv_below (x2) ((2 : Int32)) M) = 0 then (-2 : Int32) else (if (M 0 11) < (8 : Int32) then ((M 0 11) + (1 : Int32)) else (-4 : Int32))))
def m_Fv_seen (x1 : Int32) (x2 : Int32) (M : zM) : zM := (if (f_Fv_below (x1) ((12 : Int32)) M) = 0 then M else (if (f_Fv_below (x2) ((2 : Int32)) M) = 0 then M else (if (M 0 11) < (8 : Int32) then (zu (zu (zu M 45 ((M 0 11)).toNatClampNeg x1) 46 ((M 0 11)).toNatClampNeg x2) 0 11 ((M 0 11) + (1 : Int32))) else M)))
def s_Fv_seen (x1 : Int32) (x2 : Int32) (M : zM) : Prop := ((((f_Fv_below (x1) ((12 : Int32)) M) = 0) → True) ∧ ((¬ (f_Fv_below (x1) ((12 : Int32)) M) = 0) → (((¬ (f_Fv_below (x2) ((2 : Int32)) M) = 0) → ((((M 0 11) < (8 : Int32)) → ((vp_in (M 0 11) 8) ∧ (vp_in (M 0 11) 8))) ∧ ((¬ (M 0 11) < (8 : Int32)) → True))) ∧ (((f_Fv_below (x2) ((2 : Int32)) M) = 0) → True))))
theorem c_Fv_seen {X : zX} {x1 : Int32} {x2 : Int32} {M : zM} (hs : s_Fv_seen x1 x2 M) : Call X 49 [(.ref 0), (.int x1), (.int x2)] M [.int (f_Fv_seen x1 x2 M)] (m_Fv_seen x1 x2 M) := by
  refine Call.of (Nat.le_of_ble_eq_true rfl) ?_
  refine sg_Fv_seen_0 ?_
  refine ⟨_, _, c_Fv_below, ?_⟩
  refine ⟨fun c1 => ?_, fun c1 => ?_⟩
  · exact ⟨by simp only [f_Fv_seen, m_Fv_seen, if_pos c1], by simp only [f_Fv_seen, m_Fv_seen, if_pos c1]⟩
  · refine ⟨_, _, c_Fv_below, ?_⟩
    refine ⟨fun c5 => ?_, fun c5 => ?_⟩
    · refine ⟨fun c7 => ?_, fun c7 => ?_⟩
      · refine ⟨(((hs.2 c1).1 c5).1 c7).1, ?_⟩
        refine ⟨(((hs.2 c1).1 c5).1 c7).2, ?_⟩
        exact ⟨by simp only [f_Fv_seen, m_Fv_seen, if_neg c1, if_neg c5, if_pos c7], by simp only [f_Fv_seen, m_Fv_seen, if_neg c1, if_neg c5, if_pos c7]⟩
      · exact ⟨by simp only [f_Fv_seen, m_Fv_seen, if_neg c1, if_neg c5, if_neg c7], by simp only [f_Fv_seen, m_Fv_seen, if_neg c1, if_neg c5, if_neg c7]⟩
    · exact ⟨by simp only [f_Fv_seen, m_Fv_seen, if_neg c1, if_pos c5], by simp only [f_Fv_seen, m_Fv_seen, if_neg c1, if_pos c5]⟩
def f_Fv_forget (M : zM) : Int32 := (M 0 11)
def m_Fv_forget (M : zM) : zM := (zu M 0 11 (0 : Int32))
theorem c_Fv_forget {X : zX} {M : zM} : Call X 50 [(.ref 0)] M [.int (f_Fv_forget M)] (m_Fv_forget M) := by
  refine Call.of (Nat.le_of_ble_eq_true rfl) ?_
  refine sg_Fv_forget_0 ?_
  exact ⟨rfl, rfl⟩
def f_Fv_nextSeed (x0 : Int32) (M : zM) : Int32 := (((1103515245 : Int32) * x0) + (12345 : Int32))
theorem c_Fv_nextSeed {X : zX} {x0 : Int32} {M : zM} : Call X 61 [(.int x0)] M [.int (f_Fv_nextSeed x0 M)] M := by
  refine Call.of (Nat.le_of_ble_eq_true rfl) ?_
  refine sg_Fv_nextSeed_0 ?_
  exact ⟨rfl, rfl⟩
def f_Fv_lose (x1 : Int32) (M : zM) : Int32 := (if (f_Fv_below (x1) ((4 : Int32)) M) = 0 then (-2 : Int32) else (if (f_Sh_isLost_s (x1) M) = 0 then (M 51 (x1).toNatClampNeg) else (f_Fv_found ((1 : Int32)) M)))
def m_Fv_lose (x1 : Int32) (M : zM) : zM := (if (f_Fv_below (x1) ((4 : Int32)) M) = 0 then M else (if (f_Sh_isLost_s (x1) M) = 0 then (zu M 51 (x1).toNatClampNeg (-1 : Int32)) else (m_Fv_found ((1 : Int32)) M)))
def s_Fv_lose (x1 : Int32) (M : zM) : Prop := (((¬ (f_Fv_below (x1) ((4 : Int32)) M) = 0) → ((s_Sh_isLost_s (x1) M) ∧ ((((f_Sh_isLost_s (x1) M) = 0) → ((vp_in x1 4) ∧ (vp_in x1 4))) ∧ ((¬ (f_Sh_isLost_s (x1) M) = 0) → True)))) ∧ (((f_Fv_below (x1) ((4 : Int32)) M) = 0) → True))
theorem c_Fv_lose {X : zX} {x1 : Int32} {M : zM} (hs : s_Fv_lose x1 M) : Call X 65 [(.ref 0), (.int x1)] M [.int (f_Fv_lose x1 M)] (m_Fv_lose x1 M) := by
  refine Call.of (Nat.le_of_ble_eq_true rfl) ?_
  refine sg_Fv_lose_0 ?_
  refine ⟨_, _, c_Fv_below, ?_⟩
  refine ⟨fun c1 => ?_, fun c1 => ?_⟩
  · refine ⟨_, _, c_Sh_isLost_s (hs.1 c1).1, ?_⟩
    refine ⟨fun c4 => ?_, fun c4 => ?_⟩
    · refine ⟨((hs.1 c1).2.1 c4).1, ?_⟩
      refine ⟨((hs.1 c1).2.1 c4).2, ?_⟩
      exact ⟨by simp only [f_Fv_lose, m_Fv_lose, if_neg c1, if_pos c4], by simp only [f_Fv_lose, m_Fv_lose, if_neg c1, if_pos c4]⟩
    · refine ⟨_, _, c_Fv_found, ?_⟩
      exact ⟨by simp only [f_Fv_lose, m_Fv_lose, if_neg c1, if_neg c4], by simp only [f_Fv_lose, m_Fv_lose, if_neg c1, if_neg c4]⟩
  · exact ⟨by simp only [f_Fv_lose, m_Fv_lose, if_pos c1], by simp only [f_Fv_lose, m_Fv_lose, if_pos c1]⟩
def f_Fv_refusalOfItem (x1 : Int32) (x2 : Int32) (x3 : Int32) (M : zM) : Int32 := (if (f_Fv_below (x1) ((4 : Int32)) M) = 0 then (-2 : Int32) else (if (f_Fv_below (x2) ((3 : Int32)) M) = 0 then (-2 : Int32) else (if (f_Sh_isLost_s (x1) M) = 0 then (if (M 50 (x1).toNatClampNeg) = x2 then (if (f_Fv_below (x3) ((M 51 (x1).toNatClampNeg)) M) = 0 then (f_Fv_found ((2 : Int32)) M) else (0 : Int32)) else (f_Fv_found ((3 : Int32)) M)) else (f_Fv_found ((1 : Int32)) M))))
def m_Fv_refusalOfItem (x1 : Int32) (x2 : Int32) (x3 : Int32) (M : zM) : zM := (if (f_Fv_below (x1) ((4 : Int32)) M) = 0 then M else (if (f_Fv_below (x2) ((3 : Int32)) M) = 0 then M else (if (f_Sh_isLost_s (x1) M) = 0 then (if (M 50 (x1).toNatClampNeg) = x2 then (if (f_Fv_below (x3) ((M 51 (x1).toNatClampNeg)) M) = 0 then (m_Fv_found ((2 : Int32)) M) else M) else (m_Fv_found ((3 : Int32)) M)) else (m_Fv_found ((1 : Int32)) M))))
def s_Fv_refusalOfItem (x1 : Int32) (x2 : Int32) (x3 : Int32) (M : zM) : Prop := ((((f_Fv_below (x1) ((4 : Int32)) M) = 0) → True) ∧ ((¬ (f_Fv_below (x1) ((4 : Int32)) M) = 0) → (((¬ (f_Fv_below (x2) ((3 : Int32)) M) = 0) → ((s_Sh_isLost_s (x1) M) ∧ ((((f_Sh_isLost_s (x1) M) = 0) → ((vp_in x1 4) ∧ ((((M 50 (x1).toNatClampNeg) = x2) → (vp_in x1 4)) ∧ ((¬ (M 50 (x1).toNatClampNeg) = x2) → True)))) ∧ ((¬ (f_Sh_isLost_s (x1) M) = 0) → True)))) ∧ (((f_Fv_below (x2) ((3 : Int32)) M) = 0) → True))))
theorem c_Fv_refusalOfItem {X : zX} {x1 : Int32} {x2 : Int32} {x3 : Int32} {M : zM} (hs : s_Fv_refusalOfItem x1 x2 x3 M) : Call X 66 [(.ref 0), (.int x1), (.int x2), (.int x3)] M [.int (f_Fv_refusalOfItem x1 x2 x3 M)] (m_Fv_refusalOfItem x1 x2 x3 M) := by
  refine Call.of (Nat.le_of_ble_eq_true rfl) ?_
  refine sg_Fv_refusalOfItem_0 ?_
  refine ⟨_, _, c_Fv_below, ?_⟩
  refine ⟨fun c1 => ?_, fun c1 => ?_⟩
  · exact ⟨by simp only [f_Fv_refusalOfItem, m_Fv_refusalOfItem, if_pos c1], by simp only [f_Fv_refusalOfItem, m_Fv_refusalOfItem, if_pos c1]⟩
  · refine ⟨_, _, c_Fv_below, ?_⟩
    refine ⟨fun c5 => ?_, fun c5 => ?_⟩
    · refine ⟨_, _, c_Sh_isLost_s ((hs.2 c1).1 c5).1, ?_⟩
      refine ⟨fun c8 => ?_, fun c8 => ?_⟩
      · refine ⟨(((hs.2 c1).1 c5).2.1 c8).1, ?_⟩
        refine ⟨fun c11 => ?_, fun c11 => ?_⟩
        · refine ⟨((((hs.2 c1).1 c5).2.1 c8).2.1 c11), ?_⟩
          refine ⟨_, _, c_Fv_below, ?_⟩
          refine ⟨fun c15 => ?_, fun c15 => ?_⟩
          · refine ⟨_, _, c_Fv_found, ?_⟩
            exact ⟨by simp only [f_Fv_refusalOfItem, m_Fv_refusalOfItem, if_neg c1, if_neg c5, if_pos c8, if_pos c11, if_pos c15], by simp only [f_Fv_refusalOfItem, m_Fv_refusalOfItem, if_neg c1, if_neg c5, if_pos c8, if_pos c11, if_pos c15]⟩
          · exact ⟨by simp only [f_Fv_refusalOfItem, m_Fv_refusalOfItem, if_neg c1, if_neg c5, if_pos c8, if_pos c11, if_neg c15], by simp only [f_Fv_refusalOfItem, m_Fv_refusalOfItem, if_neg c1, if_neg c5, if_pos c8, if_pos c11, if_neg c15]⟩
        · refine ⟨_, _, c_Fv_found, ?_⟩
          exact ⟨by simp only [f_Fv_refusalOfItem, m_Fv_refusalOfItem, if_neg c1, if_neg c5, if_pos c8, if_neg c11], by simp only [f_Fv_refusalOfItem, m_Fv_refusalOfItem, if_neg c1, if_neg c5, if_pos c8, if_neg c11]⟩
      · refine ⟨_, _, c_Fv_found, ?_⟩
        exact ⟨by simp only [f_Fv_refusalOfItem, m_Fv_refusalOfItem, if_neg c1, if_neg c5, if_neg c8], by simp only [f_Fv_refusalOfItem, m_Fv_refusalOfItem, if_neg c1, if_neg c5, if_neg c8]⟩
    · exact ⟨by simp only [f_Fv_refusalOfItem, m_Fv_refusalOfItem, if_neg c1, if_pos c5], by simp only [f_Fv_refusalOfItem, m_Fv_refusalOfItem, if_neg c1, if_pos c5]⟩
def m_Sh_setItem_s (x1 : Int32) (x2 : Int32) (x3 : Int32) (M : zM) : zM := (zu M 52 (((x1 * (60 : Int32)) + x2)).toNatClampNeg (if (M 50 (x1).toNatClampNeg) = 0 then ((x3).toInt8.toInt32) else (if (M 50 (x1).toNatClampNeg) = (1 : Int32) then ((x3).toInt16.toInt32) else x3)))
def s_Sh_setItem_s (x1 : Int32) (x2 : Int32) (x3 : Int32) (M : zM) : Prop := ((vp_in x1 4) ∧ ((((¬ (M 50 (x1).toNatClampNeg) = 0) → (vp_in x1 4)) ∧ (((M 50 (x1).toNatClampNeg) = 0) → True)) ∧ (vp_in ((x1 * (60 : Int32)) + x2) 240)))
theorem c_Sh_setItem_s {X : zX} {x1 : Int32} {x2 : Int32} {x3 : Int32} {M : zM} (hs : s_Sh_setItem_s x1 x2 x3 M) : Call X 67 [(.ref 49), (.int x1), (.int x2), (.int x3)] M [] (m_Sh_setItem_s x1 x2 x3 M) := by
  refine Call.of (Nat.le_of_ble_eq_true rfl) ?_
  refine sg_Sh_setItem_s_0 ?_
  refine ⟨hs.1, ?_⟩
  refine ⟨hs.2.1, ?_⟩
  refine ⟨hs.2.2, ?_⟩
  exact ⟨rfl, rfl⟩
def f_Fv_lay (x1 : Int32) (x2 : Int32) (x3 : Int32) (x4 : Int32) (M : zM) : Int32 := (if (f_Fv_refusalOfItem (x1) (x2) (x3) M) = 0 then (1 : Int32) else (f_Fv_refusalOfItem (x1) (x2) (x3) M))
def m_Fv_lay (x1 : Int32) (x2 : Int32) (x3 : Int32) (x4 : Int32) (M : zM) : zM := (if (f_Fv_refusalOfItem (x1) (x2) (x3) M) = 0 then (m_Sh_setItem_s (x1) (x3) (x4) (m_Fv_refusalOfItem (x1) (x2) (x3) M)) else (m_Fv_refusalOfItem (x1) (x2) (x3) M))
def s_Fv_lay (x1 : Int32) (x2 : Int32) (x3 : Int32) (x4 : Int32) (M : zM) : Prop := ((s_Fv_refusalOfItem (x1) (x2) (x3) M) ∧ ((((f_Fv_refusalOfItem (x1) (x2) (x3) M) = 0) → (s_Sh_setItem_s (x1) (x3) (x4) (m_Fv_refusalOfItem (x1) (x2) (x3) M))) ∧ ((¬ (f_Fv_refusalOfItem (x1) (x2) (x3) M) = 0) → True)))
theorem c_Fv_lay {X : zX} {x1 : Int32} {x2 : Int32} {x3 : Int32} {x4 : Int32} {M : zM} (hs : s_Fv_lay x1 x2 x3 x4 M) : Call X 68 [(.ref 0), (.int x1), (.int x2), (.int x3), (.int x4)] M [.int (f_Fv_lay x1 x2 x3 x4 M)] (m_Fv_lay x1 x2 x3 x4 M) := by
  refine Call.of (Nat.le_of_ble_eq_true rfl) ?_
  refine sg_Fv_lay_0 ?_
  refine ⟨_, _, c_Fv_refusalOfItem hs.1, ?_⟩
  refine ⟨fun c1 => ?_, fun c1 => ?_⟩
  · refine ⟨_, c_Sh_setItem_s (hs.2.1 c1), ?_⟩
    exact ⟨by simp only [f_Fv_lay, m_Fv_lay, if_pos c1], by simp only [f_Fv_lay, m_Fv_lay, if_pos c1]⟩
  · exact ⟨by simp only [f_Fv_lay, m_Fv_lay, if_neg c1], by simp only [f_Fv_lay, m_Fv_lay, if_neg c1]⟩
def f_Fv_get (x1 : Int32) (x2 : Int32) (x3 : Int32) (M : zM) : Int32 := (if (f_Fv_refusalOfItem (x1) (x2) (x3) M) = 0 then (f_Sh_item_s (x1) (x3) (m_Fv_refusalOfItem (x1) (x2) (x3) M)) else (-2147483648 : Int32))
def m_Fv_get (x1 : Int32) (x2 : Int32) (x3 : Int32) (M : zM) : zM := (m_Fv_refusalOfItem (x1) (x2) (x3) M)
def s_Fv_get (x1 : Int32) (x2 : Int32) (x3 : Int32) (M : zM) : Prop := ((s_Fv_refusalOfItem (x1) (x2) (x3) M) ∧ ((((f_Fv_refusalOfItem (x1) (x2) (x3) M) = 0) → (s_Sh_item_s (x1) (x3) (m_Fv_refusalOfItem (x1) (x2) (x3) M))) ∧ ((¬ (f_Fv_refusalOfItem (x1) (x2) (x3) M) = 0) → True)))
theorem c_Fv_get {X : zX} {x1 : Int32} {x2 : Int32} {x3 : Int32} {M : zM} (hs : s_Fv_get x1 x2 x3 M) : Call X 69 [(.ref 0), (.int x1), (.int x2), (.int x3)] M [.int (f_Fv_get x1 x2 x3 M)] (m_Fv_get x1 x2 x3 M) := by
  refine Call.of (Nat.le_of_ble_eq_true rfl) ?_
  refine sg_Fv_get_0 ?_
  refine ⟨_, _, c_Fv_refusalOfItem hs.1, ?_⟩
  refine ⟨fun c1 => ?_, fun c1 => ?_⟩
  · refine ⟨_, _, c_Sh_item_s (hs.2.1 c1), ?_⟩
    exact ⟨by simp only [f_Fv_get, m_Fv_get, if_pos c1], by simp only [f_Fv_get, m_Fv_get, if_pos c1]⟩
  · exact ⟨by simp only [f_Fv_get, m_Fv_get, if_neg c1], by simp only [f_Fv_get, m_Fv_get, if_neg c1]⟩
def f_Sh_hasSpan_s (x1 : Int32) (x2 : Int32) (x3 : Int32) (M : zM) : Int32 := (if x2 < 0 then (0 : Int32) else (if x3 < 0 then (0 : Int32) else (if ((M 51 (x1).toNatClampNeg) - x2) < x3 then (0 : Int32) else (1 : Int32))))
def s_Sh_hasSpan_s (x1 : Int32) (x2 : Int32) (x3 : Int32) (M : zM) : Prop := (((x2 < 0) → True) ∧ ((¬ x2 < 0) → (((x3 < 0) → True) ∧ ((¬ x3 < 0) → (vp_in x1 4)))))
theorem c_Sh_hasSpan_s {X : zX} {x1 : Int32} {x2 : Int32} {x3 : Int32} {M : zM} (hs : s_Sh_hasSpan_s x1 x2 x3 M) : Call X 70 [(.ref 49), (.int x1), (.int x2), (.int x3)] M [.int (f_Sh_hasSpan_s x1 x2 x3 M)] M := by
  refine Call.of (Nat.le_of_ble_eq_true rfl) ?_
  refine sg_Sh_hasSpan_s_0 ?_
  refine ⟨hs, ?_⟩
  exact ⟨rfl, rfl⟩
def f_Fv_copy (x1 : Int32) (x2 : Int32) (x3 : Int32) (x4 : Int32) (x5 : Int32) (M : zM) : Int32 := (if (f_Fv_below (x1) ((4 : Int32)) M) = 0 then (-2 : Int32) else (if (f_Fv_below (x3) ((4 : Int32)) M) = 0 then (-2 : Int32) else (if (f_Sh_isLost_s (x1) M) = 0 then (if (f_Sh_isLost_s (x3) M) = 0 then (if (M 50 (x1).toNatClampNeg) = (M 50 (x3).toNatClampNeg) then (if (f_Sh_hasSpan_s (x1) (x2) (x5) M) = 0 then (f_Fv_found ((2 : Int32)) M) else (if (f_Sh_hasSpan_s (x3) (x4) (x5) M) = 0 then (f_Fv_found ((2 : Int32)) M) else (1 : Int32))) else (f_Fv_found ((4 : Int32)) M)) else (f_Fv_found ((1 : Int32)) M)) else (f_Fv_found ((1 : Int32)) M))))
def m_Fv_copy (x1 : Int32) (x2 : Int32) (x3 : Int32) (x4 : Int32) (x5 : Int32) (M : zM) : zM := (if (f_Fv_below (x1) ((4 : Int32)) M) = 0 then M else (if (f_Fv_below (x3) ((4 : Int32)) M) = 0 then M else (if (f_Sh_isLost_s (x1) M) = 0 then (if (f_Sh_isLost_s (x3) M) = 0 then (if (M 50 (x1).toNatClampNeg) = (M 50 (x3).toNatClampNeg) then (if (f_Sh_hasSpan_s (x1) (x2) (x5) M) = 0 then (m_Fv_found ((2 : Int32)) M) else (if (f_Sh_hasSpan_s (x3) (x4) (x5) M) = 0 then (m_Fv_found ((2 : Int32)) M) else (zua M 52 (va_cpy (M 52) (M 52) (((x1 * (60 : Int32)) + x2)).toNatClampNeg (((x3 * (60 : Int32)) + x4)).toNatClampNeg (x5).toNatClampNeg)))) else (m_Fv_found ((4 : Int32)) M)) else (m_Fv_found ((1 : Int32)) M)) else (m_Fv_found ((1 : Int32)) M))))
def s_Fv_copy (x1 : Int32) (x2 : Int32) (x3 : Int32) (x4 : Int32) (x5 : Int32) (M : zM) : Prop := ((((f_Fv_below (x1) ((4 : Int32)) M) = 0) → True) ∧ ((¬ (f_Fv_below (x1) ((4 : Int32)) M) = 0) → (((¬ (f_Fv_below (x3) ((4 : Int32)) M) = 0) → ((s_Sh_isLost_s (x1) M) ∧ (((¬ (f_Sh_isLost_s (x1) M) = 0) → True) ∧ (((f_Sh_isLost_s (x1) M) = 0) → ((s_Sh_isLost_s (x3) M) ∧ ((((f_Sh_isLost_s (x3) M) = 0) → ((vp_in x1 4) ∧ ((vp_in x3 4) ∧ ((((M 50 (x1).toNatClampNeg) = (M 50 (x3).toNatClampNeg)) → ((s_Sh_hasSpan_s (x1) (x2) (x5) M) ∧ ((((f_Sh_hasSpan_s (x1) (x2) (x5) M) = 0) → True) ∧ ((¬ (f_Sh_hasSpan_s (x1) (x2) (x5) M) = 0) → ((s_Sh_hasSpan_s (x3) (x4) (x5) M) ∧ (((¬ (f_Sh_hasSpan_s (x3) (x4) (x5) M) = 0) → ((¬ ((x1 * (60 : Int32)) + x2) < 0) ∧ ((¬ ((x3 * (60 : Int32)) + x4) < 0) ∧ ((¬ x5 < 0) ∧ (((((x1 * (60 : Int32)) + x2)).toNatClampNeg + (x5).toNatClampNeg ≤ 240) ∧ ((((x3 * (60 : Int32)) + x4)).toNatClampNeg + (x5).toNatClampNeg ≤ 240)))))) ∧ (((f_Sh_hasSpan_s (x3) (x4) (x5) M) = 0) → True))))))) ∧ ((¬ (M 50 (x1).toNatClampNeg) = (M 50 (x3).toNatClampNeg)) → True))))) ∧ ((¬ (f_Sh_isLost_s (x3) M) = 0) → True))))))) ∧ (((f_Fv_below (x3) ((4 : Int32)) M) = 0) → True))))
theorem c_Fv_copy {X : zX} {x1 : Int32} {x2 : Int32} {x3 : Int32} {x4 : Int32} {x5 : Int32} {M : zM} (hs : s_Fv_copy x1 x2 x3 x4 x5 M) : Call X 71 [(.ref 0), (.int x1), (.int x2), (.int x3), (.int x4), (.int x5)] M [.int (f_Fv_copy x1 x2 x3 x4 x5 M)] (m_Fv_copy x1 x2 x3 x4 x5 M) := by
  refine Call.of (Nat.le_of_ble_eq_true rfl) ?_
  refine sg_Fv_copy_0 ?_
  refine ⟨_, _, c_Fv_below, ?_⟩
  refine ⟨fun c1 => ?_, fun c1 => ?_⟩
  · exact ⟨by simp only [f_Fv_copy, m_Fv_copy, if_pos c1], by simp only [f_Fv_copy, m_Fv_copy, if_pos c1]⟩
  · refine ⟨_, _, c_Fv_below, ?_⟩
    refine ⟨fun c5 => ?_, fun c5 => ?_⟩
    · refine ⟨_, _, c_Sh_isLost_s ((hs.2 c1).1 c5).1, ?_⟩
      refine ⟨fun c8 => ?_, fun c8 => ?_⟩
      · refine ⟨_, _, c_Fv_found, ?_⟩
        exact ⟨by simp only [f_Fv_copy, m_Fv_copy, if_neg c1, if_neg c5, if_neg c8], by simp only [f_Fv_copy, m_Fv_copy, if_neg c1, if_neg c5, if_neg c8]⟩
      · refine ⟨_, _, c_Sh_isLost_s (((hs.2 c1).1 c5).2.2 c8).1, ?_⟩
        refine ⟨fun c13 => ?_, fun c13 => ?_⟩
        · refine ⟨((((hs.2 c1).1 c5).2.2 c8).2.1 c13).1, ?_⟩
          refine ⟨((((hs.2 c1).1 c5).2.2 c8).2.1 c13).2.1, ?_⟩
          refine ⟨fun c17 => ?_, fun c17 => ?_⟩
          · refine ⟨_, _, c_Sh_hasSpan_s (((((hs.2 c1).1 c5).2.2 c8).2.1 c13).2.2.1 c17).1, ?_⟩
            refine ⟨fun c20 => ?_, fun c20 => ?_⟩
            · refine ⟨_, _, c_Fv_found, ?_⟩
              exact ⟨by simp only [f_Fv_copy, m_Fv_copy, if_neg c1, if_neg c5, if_pos c8, if_pos c13, if_pos c17, if_pos c20], by simp only [f_Fv_copy, m_Fv_copy, if_neg c1, if_neg c5, if_pos c8, if_pos c13, if_pos c17, if_pos c20]⟩
            · refine ⟨_, _, c_Sh_hasSpan_s ((((((hs.2 c1).1 c5).2.2 c8).2.1 c13).2.2.1 c17).2.2 c20).1, ?_⟩
              refine ⟨fun c25 => ?_, fun c25 => ?_⟩
              · refine ⟨(((((((hs.2 c1).1 c5).2.2 c8).2.1 c13).2.2.1 c17).2.2 c20).2.1 c25).1, ?_⟩
                refine ⟨(((((((hs.2 c1).1 c5).2.2 c8).2.1 c13).2.2.1 c17).2.2 c20).2.1 c25).2.1, ?_⟩
                refine ⟨(((((((hs.2 c1).1 c5).2.2 c8).2.1 c13).2.2.1 c17).2.2 c20).2.1 c25).2.2.1, ?_⟩
                refine ⟨(((((((hs.2 c1).1 c5).2.2 c8).2.1 c13).2.2.1 c17).2.2 c20).2.1 c25).2.2.2.1, ?_⟩
                refine ⟨(((((((hs.2 c1).1 c5).2.2 c8).2.1 c13).2.2.1 c17).2.2 c20).2.1 c25).2.2.2.2, ?_⟩
                exact ⟨by simp only [f_Fv_copy, m_Fv_copy, if_neg c1, if_neg c5, if_pos c8, if_pos c13, if_pos c17, if_neg c20, if_neg c25], by simp only [f_Fv_copy, m_Fv_copy, if_neg c1, if_neg c5, if_pos c8, if_pos c13, if_pos c17, if_neg c20, if_neg c25]⟩
              · refine ⟨_, _, c_Fv_found, ?_⟩
                exact ⟨by simp only [f_Fv_copy, m_Fv_copy, if_neg c1, if_neg c5, if_pos c8, if_pos c13, if_pos c17, if_neg c20, if_pos c25], by simp only [f_Fv_copy, m_Fv_copy, if_neg c1, if_neg c5, if_pos c8, if_pos c13, if_pos c17, if_neg c20, if_pos c25]⟩
          · refine ⟨_, _, c_Fv_found, ?_⟩
            exact ⟨by simp only [f_Fv_copy, m_Fv_copy, if_neg c1, if_neg c5, if_pos c8, if_pos c13, if_neg c17], by simp only [f_Fv_copy, m_Fv_copy, if_neg c1, if_neg c5, if_pos c8, if_pos c13, if_neg c17]⟩
        · refine ⟨_, _, c_Fv_found, ?_⟩
          exact ⟨by simp only [f_Fv_copy, m_Fv_copy, if_neg c1, if_neg c5, if_pos c8, if_neg c13], by simp only [f_Fv_copy, m_Fv_copy, if_neg c1, if_neg c5, if_pos c8, if_neg c13]⟩
    · exact ⟨by simp only [f_Fv_copy, m_Fv_copy, if_neg c1, if_pos c5], by simp only [f_Fv_copy, m_Fv_copy, if_neg c1, if_pos c5]⟩
def f_Mo_in (x0 : Int64) (x2 : Int64) (x4 : Int64) (M : zM) : Int32 := (if (lg_cmp x0 x2) < 0 then (0 : Int32) else (if 0 < (lg_cmp x0 x4) then (0 : Int32) else (1 : Int32)))
theorem c_Mo_in {X : zX} {x0 : Int64} {x2 : Int64} {x4 : Int64} {M : zM} : Call X 78 [(.long x0), (.long x2), (.long x4)] M [.int (f_Mo_in x0 x2 x4 M)] M := by
  refine Call.of (Nat.le_of_ble_eq_true rfl) ?_
  refine sg_Mo_in_0 ?_
  exact ⟨rfl, rfl⟩
def f_Mo_isSheet (x0 : Int32) (M : zM) : Int32 := (f_Mo_in (((x0).toInt64)) ((0 : Int64)) ((3 : Int64)) M)
def s_Mo_isSheet (x0 : Int32) (M : zM) : Prop := ((f_Mo_in (((x0).toInt64)) ((0 : Int64)) ((3 : Int64)) M) = 0 ∨ (f_Mo_in (((x0).toInt64)) ((0 : Int64)) ((3 : Int64)) M) = 1)
theorem c_Mo_isSheet {X : zX} {x0 : Int32} {M : zM} (hs : s_Mo_isSheet x0 M) : Call X 79 [(.int x0)] M [.int (f_Mo_isSheet x0 M)] M := by
  refine Call.of (Nat.le_of_ble_eq_true rfl) ?_
  refine sg_Mo_isSheet_0 ?_
  refine ⟨_, _, c_Mo_in, ?_⟩
  refine ⟨hs, ?_⟩
  exact ⟨rfl, rfl⟩
def f_Mo_finds (x1 : Int32) (M : zM) : Int32 := ((-10 : Int32) - x1)
def m_Mo_finds (x1 : Int32) (M : zM) : zM := (zu M 53 4 x1)
theorem c_Mo_finds {X : zX} {x1 : Int32} {M : zM} : Call X 80 [(.ref 53), (.int x1)] M [.int (f_Mo_finds x1 M)] (m_Mo_finds x1 M) := by
  refine Call.of (Nat.le_of_ble_eq_true rfl) ?_
  refine sg_Mo_finds_0 ?_
  exact ⟨rfl, rfl⟩
def f_Mo_lose (x1 : Int32) (M : zM) : Int32 := (if (f_Mo_isSheet (x1) M) = 0 then (-2 : Int32) else (if 0 ≤ (M 54 (x1).toNatClampNeg) then (M 55 (x1).toNatClampNeg) else (f_Mo_finds ((1 : Int32)) M)))
def m_Mo_lose (x1 : Int32) (M : zM) : zM := (if (f_Mo_isSheet (x1) M) = 0 then M else (if 0 ≤ (M 54 (x1).toNatClampNeg) then (zu M 54 (x1).toNatClampNeg (-1 : Int32)) else (m_Mo_finds ((1 : Int32)) M)))
def s_Mo_lose (x1 : Int32) (M : zM) : Prop := ((s_Mo_isSheet (x1) M) ∧ (((¬ (f_Mo_isSheet (x1) M) = 0) → ((vp_in x1 4) ∧ (((0 ≤ (M 54 (x1).toNatClampNeg)) → ((vp_in x1 4) ∧ (vp_in x1 4))) ∧ ((¬ 0 ≤ (M 54 (x1).toNatClampNeg)) → True)))) ∧ (((f_Mo_isSheet (x1) M) = 0) → True)))
theorem c_Mo_lose {X : zX} {x1 : Int32} {M : zM} (hs : s_Mo_lose x1 M) : Call X 82 [(.ref 53), (.int x1)] M [.int (f_Mo_lose x1 M)] (m_Mo_lose x1 M) := by
  refine Call.of (Nat.le_of_ble_eq_true rfl) ?_
  refine sg_Mo_lose_0 ?_
  refine ⟨_, _, c_Mo_isSheet hs.1, ?_⟩
  refine ⟨fun c1 => ?_, fun c1 => ?_⟩
  · refine ⟨(hs.2.1 c1).1, ?_⟩
    refine ⟨fun c4 => ?_, fun c4 => ?_⟩
    · refine ⟨((hs.2.1 c1).2.1 c4).1, ?_⟩
      refine ⟨((hs.2.1 c1).2.1 c4).2, ?_⟩
      exact ⟨by simp only [f_Mo_lose, m_Mo_lose, if_neg c1, if_pos c4], by simp only [f_Mo_lose, m_Mo_lose, if_neg c1, if_pos c4]⟩
    · refine ⟨_, _, c_Mo_finds, ?_⟩
      exact ⟨by simp only [f_Mo_lose, m_Mo_lose, if_neg c1, if_neg c4], by simp only [f_Mo_lose, m_Mo_lose, if_neg c1, if_neg c4]⟩
  · exact ⟨by simp only [f_Mo_lose, m_Mo_lose, if_pos c1], by simp only [f_Mo_lose, m_Mo_lose, if_pos c1]⟩
def f_Mo_lacks (x1 : Int32) (x2 : Int32) (x3 : Int32) (M : zM) : Int32 := (if 0 ≤ (M 54 (x1).toNatClampNeg) then (if (M 54 (x1).toNatClampNeg) = x2 then (if (f_Mo_in (((x3).toInt64)) ((0 : Int64)) (((((M 55 (x1).toNatClampNeg) - (1 : Int32))).toInt64)) M) = 0 then (f_Mo_finds ((2 : Int32)) M) else (0 : Int32)) else (f_Mo_finds ((3 : Int32)) M)) else (f_Mo_finds ((1 : Int32)) M))
def m_Mo_lacks (x1 : Int32) (x2 : Int32) (x3 : Int32) (M : zM) : zM := (if 0 ≤ (M 54 (x1).toNatClampNeg) then (if (M 54 (x1).toNatClampNeg) = x2 then (if (f_Mo_in (((x3).toInt64)) ((0 : Int64)) (((((M 55 (x1).toNatClampNeg) - (1 : Int32))).toInt64)) M) = 0 then (m_Mo_finds ((2 : Int32)) M) else M) else (m_Mo_finds ((3 : Int32)) M)) else (m_Mo_finds ((1 : Int32)) M))
def s_Mo_lacks (x1 : Int32) (x2 : Int32) (x3 : Int32) (M : zM) : Prop := ((vp_in x1 4) ∧ (((0 ≤ (M 54 (x1).toNatClampNeg)) → ((vp_in x1 4) ∧ ((((M 54 (x1).toNatClampNeg) = x2) → (vp_in x1 4)) ∧ ((¬ (M 54 (x1).toNatClampNeg) = x2) → True)))) ∧ ((¬ 0 ≤ (M 54 (x1).toNatClampNeg)) → True)))
theorem c_Mo_lacks {X : zX} {x1 : Int32} {x2 : Int32} {x3 : Int32} {M : zM} (hs : s_Mo_lacks x1 x2 x3 M) : Call X 83 [(.ref 53), (.int x1), (.int x2), (.int x3)] M [.int (f_Mo_lacks x1 x2 x3 M)] (m_Mo_lacks x1 x2 x3 M) := by
  refine Call.of (Nat.le_of_ble_eq_true rfl) ?_
  refine sg_Mo_lacks_0 ?_
  refine ⟨hs.1, ?_⟩
  refine ⟨fun c1 => ?_, fun c1 => ?_⟩
  · refine ⟨(hs.2.1 c1).1, ?_⟩
    refine ⟨fun c4 => ?_, fun c4 => ?_⟩
    · refine ⟨((hs.2.1 c1).2.1 c4), ?_⟩
      refine ⟨_, _, c_Mo_in, ?_⟩
      refine ⟨fun c8 => ?_, fun c8 => ?_⟩
      · refine ⟨_, _, c_Mo_finds, ?_⟩
        exact ⟨by simp only [f_Mo_lacks, m_Mo_lacks, if_pos c1, if_pos c4, if_pos c8], by simp only [f_Mo_lacks, m_Mo_lacks, if_pos c1, if_pos c4, if_pos c8]⟩
      · exact ⟨by simp only [f_Mo_lacks, m_Mo_lacks, if_pos c1, if_pos c4, if_neg c8], by simp only [f_Mo_lacks, m_Mo_lacks, if_pos c1, if_pos c4, if_neg c8]⟩
    · refine ⟨_, _, c_Mo_finds, ?_⟩
      exact ⟨by simp only [f_Mo_lacks, m_Mo_lacks, if_pos c1, if_neg c4], by simp only [f_Mo_lacks, m_Mo_lacks, if_pos c1, if_neg c4]⟩
  · refine ⟨_, _, c_Mo_finds, ?_⟩
    exact ⟨by simp only [f_Mo_lacks, m_Mo_lacks, if_neg c1], by simp only [f_Mo_lacks, m_Mo_lacks, if_neg c1]⟩
def f_Mo_cut (x0 : Int32) (x1 : Int32) (M : zM) : Int32 := (if x0 = 0 then ((x1).toInt8.toInt32) else (if x0 = (1 : Int32) then ((x1).toInt16.toInt32) else x1))
theorem c_Mo_cut {X : zX} {x0 : Int32} {x1 : Int32} {M : zM} : Call X 84 [(.int x0), (.int x1)] M [.int (f_Mo_cut x0 x1 M)] M := by
  refine Call.of (Nat.le_of_ble_eq_true rfl) ?_
  refine sg_Mo_cut_0 ?_
  exact ⟨rfl, rfl⟩
def f_Mo_lay (x1 : Int32) (x2 : Int32) (x3 : Int32) (x4 : Int32) (M : zM) : Int32 := (if (f_Mo_isSheet (x1) M) = 0 then (-2 : Int32) else (if (f_Mo_in (((x2).toInt64)) ((0 : Int64)) ((2 : Int64)) M) = 0 then (-2 : Int32) else (if (f_Mo_lacks (x1) (x2) (x3) M) = 0 then (1 : Int32) else (f_Mo_lacks (x1) (x2) (x3) M))))
def m_Mo_lay (x1 : Int32) (x2 : Int32) (x3 : Int32) (x4 : Int32) (M : zM) : zM := (if (f_Mo_isSheet (x1) M) = 0 then M else (if (f_Mo_in (((x2).toInt64)) ((0 : Int64)) ((2 : Int64)) M) = 0 then M else (if (f_Mo_lacks (x1) (x2) (x3) M) = 0 then (zu (m_Mo_lacks (x1) (x2) (x3) M) 56 ((((60 : Int32) * x1) + x3)).toNatClampNeg (f_Mo_cut (x2) (x4) (m_Mo_lacks (x1) (x2) (x3) M))) else (m_Mo_lacks (x1) (x2) (x3) M))))
def s_Mo_lay (x1 : Int32) (x2 : Int32) (x3 : Int32) (x4 : Int32) (M : zM) : Prop := ((s_Mo_isSheet (x1) M) ∧ ((((f_Mo_isSheet (x1) M) = 0) → True) ∧ ((¬ (f_Mo_isSheet (x1) M) = 0) → (((¬ (f_Mo_in (((x2).toInt64)) ((0 : Int64)) ((2 : Int64)) M) = 0) → ((s_Mo_lacks (x1) (x2) (x3) M) ∧ ((((f_Mo_lacks (x1) (x2) (x3) M) = 0) → (vp_in (((60 : Int32) * x1) + x3) 240)) ∧ ((¬ (f_Mo_lacks (x1) (x2) (x3) M) = 0) → True)))) ∧ (((f_Mo_in (((x2).toInt64)) ((0 : Int64)) ((2 : Int64)) M) = 0) → True)))))
theorem c_Mo_lay {X : zX} {x1 : Int32} {x2 : Int32} {x3 : Int32} {x4 : Int32} {M : zM} (hs : s_Mo_lay x1 x2 x3 x4 M) : Call X 85 [(.ref 53), (.int x1), (.int x2), (.int x3), (.int x4)] M [.int (f_Mo_lay x1 x2 x3 x4 M)] (m_Mo_lay x1 x2 x3 x4 M) := by
  refine Call.of (Nat.le_of_ble_eq_true rfl) ?_
  refine sg_Mo_lay_0 ?_
  refine ⟨_, _, c_Mo_isSheet hs.1, ?_⟩
  refine ⟨fun c1 => ?_, fun c1 => ?_⟩
  · exact ⟨by simp only [f_Mo_lay, m_Mo_lay, if_pos c1], by simp only [f_Mo_lay, m_Mo_lay, if_pos c1]⟩
  · refine ⟨_, _, c_Mo_in, ?_⟩
    refine ⟨fun c5 => ?_, fun c5 => ?_⟩
    · refine ⟨_, _, c_Mo_lacks ((hs.2.2 c1).1 c5).1, ?_⟩
      refine ⟨fun c8 => ?_, fun c8 => ?_⟩
      · refine ⟨_, _, c_Mo_cut, ?_⟩
        refine ⟨(((hs.2.2 c1).1 c5).2.1 c8), ?_⟩
        exact ⟨by simp only [f_Mo_lay, m_Mo_lay, if_neg c1, if_neg c5, if_pos c8], by simp only [f_Mo_lay, m_Mo_lay, if_neg c1, if_neg c5, if_pos c8]⟩
      · exact ⟨by simp only [f_Mo_lay, m_Mo_lay, if_neg c1, if_neg c5, if_neg c8], by simp only [f_Mo_lay, m_Mo_lay, if_neg c1, if_neg c5, if_neg c8]⟩
    · exact ⟨by simp only [f_Mo_lay, m_Mo_lay, if_neg c1, if_pos c5], by simp only [f_Mo_lay, m_Mo_lay, if_neg c1, if_pos c5]⟩
def f_Mo_get (x1 : Int32) (x2 : Int32) (x3 : Int32) (M : zM) : Int32 := (if (f_Mo_isSheet (x1) M) = 0 then (-2147483648 : Int32) else (if (f_Mo_in (((x2).toInt64)) ((0 : Int64)) ((2 : Int64)) M) = 0 then (-2147483648 : Int32) else (if (f_Mo_lacks (x1) (x2) (x3) M) = 0 then ((m_Mo_lacks (x1) (x2) (x3) M) 56 ((((60 : Int32) * x1) + x3)).toNatClampNeg) else (-2147483648 : Int32))))
def m_Mo_get (x1 : Int32) (x2 : Int32) (x3 : Int32) (M : zM) : zM := (if (f_Mo_isSheet (x1) M) = 0 then M else (if (f_Mo_in (((x2).toInt64)) ((0 : Int64)) ((2 : Int64)) M) = 0 then M else (m_Mo_lacks (x1) (x2) (x3) M)))
def s_Mo_get (x1 : Int32) (x2 : Int32) (x3 : Int32) (M : zM) : Prop := ((s_Mo_isSheet (x1) M) ∧ ((((f_Mo_isSheet (x1) M) = 0) → True) ∧ ((¬ (f_Mo_isSheet (x1) M) = 0) → ((((f_Mo_in (((x2).toInt64)) ((0 : Int64)) ((2 : Int64)) M) = 0) → True) ∧ ((¬ (f_Mo_in (((x2).toInt64)) ((0 : Int64)) ((2 : Int64)) M) = 0) → ((s_Mo_lacks (x1) (x2) (x3) M) ∧ ((((f_Mo_lacks (x1) (x2) (x3) M) = 0) → (vp_in (((60 : Int32) * x1) + x3) 240)) ∧ ((¬ (f_Mo_lacks (x1) (x2) (x3) M) = 0) → True))))))))
theorem c_Mo_get {X : zX} {x1 : Int32} {x2 : Int32} {x3 : Int32} {M : zM} (hs : s_Mo_get x1 x2 x3 M) : Call X 86 [(.ref 53), (.int x1), (.int x2), (.int x3)] M [.int (f_Mo_get x1 x2 x3 M)] (m_Mo_get x1 x2 x3 M) := by
  refine Call.of (Nat.le_of_ble_eq_true rfl) ?_
  refine sg_Mo_get_0 ?_
  refine ⟨_, _, c_Mo_isSheet hs.1, ?_⟩
  refine ⟨fun c1 => ?_, fun c1 => ?_⟩
  · exact ⟨by simp only [f_Mo_get, m_Mo_get, if_pos c1], by simp only [f_Mo_get, m_Mo_get, if_pos c1]⟩
  · refine ⟨_, _, c_Mo_in, ?_⟩
    refine ⟨fun c5 => ?_, fun c5 => ?_⟩
    · exact ⟨by simp only [f_Mo_get, m_Mo_get, if_neg c1, if_pos c5], by simp only [f_Mo_get, m_Mo_get, if_neg c1, if_pos c5]⟩
    · refine ⟨_, _, c_Mo_lacks ((hs.2.2 c1).2 c5).1, ?_⟩
      refine ⟨fun c9 => ?_, fun c9 => ?_⟩
      · refine ⟨(((hs.2.2 c1).2 c5).2.1 c9), ?_⟩
        exact ⟨by simp only [f_Mo_get, m_Mo_get, if_neg c1, if_neg c5, if_pos c9], by simp only [f_Mo_get, m_Mo_get, if_neg c1, if_neg c5, if_pos c9]⟩
      · exact ⟨by simp only [f_Mo_get, m_Mo_get, if_neg c1, if_neg c5, if_neg c9], by simp only [f_Mo_get, m_Mo_get, if_neg c1, if_neg c5, if_neg c9]⟩
def f_Mo_isTwo (x0 : Int32) (M : zM) : Int32 := (f_Mo_in (((x0).toInt64)) ((0 : Int64)) ((1 : Int64)) M)
def s_Mo_isTwo (x0 : Int32) (M : zM) : Prop := ((f_Mo_in (((x0).toInt64)) ((0 : Int64)) ((1 : Int64)) M) = 0 ∨ (f_Mo_in (((x0).toInt64)) ((0 : Int64)) ((1 : Int64)) M) = 1)
theorem c_Mo_isTwo {X : zX} {x0 : Int32} {M : zM} (hs : s_Mo_isTwo x0 M) : Call X 88 [(.int x0)] M [.int (f_Mo_isTwo x0 M)] M := by
  refine Call.of (Nat.le_of_ble_eq_true rfl) ?_
  refine sg_Mo_isTwo_0 ?_
  refine ⟨_, _, c_Mo_in, ?_⟩
  refine ⟨hs, ?_⟩
  exact ⟨rfl, rfl⟩
def f_Mo_type (x1 : Int32) (x2 : Int32) (M : zM) : Int32 := (if (f_Mo_isTwo (x1) M) = 0 then (-2 : Int32) else (if (f_Mo_in (((x2).toInt64)) ((0 : Int64)) ((255 : Int64)) M) = 0 then (-2 : Int32) else (if (M 59 (x1).toNatClampNeg) = (if x1 = 0 then (31 : Int32) else (35 : Int32)) then (-4 : Int32) else ((zu M 59 (x1).toNatClampNeg ((M 59 (x1).toNatClampNeg) + (1 : Int32))) 59 (x1).toNatClampNeg))))
def m_Mo_type (x1 : Int32) (x2 : Int32) (M : zM) : zM := (if (f_Mo_isTwo (x1) M) = 0 then M else (if (f_Mo_in (((x2).toInt64)) ((0 : Int64)) ((255 : Int64)) M) = 0 then M else (if (M 59 (x1).toNatClampNeg) = (if x1 = 0 then (31 : Int32) else (35 : Int32)) then M else (zu (zu M 58 ((((36 : Int32) * x1) + (M 59 (x1).toNatClampNeg))).toNatClampNeg x2) 59 (x1).toNatClampNeg ((M 59 (x1).toNatClampNeg) + (1 : Int32))))))
def s_Mo_type (x1 : Int32) (x2 : Int32) (M : zM) : Prop := ((s_Mo_isTwo (x1) M) ∧ ((((f_Mo_isTwo (x1) M) = 0) → True) ∧ ((¬ (f_Mo_isTwo (x1) M) = 0) → (((¬ (f_Mo_in (((x2).toInt64)) ((0 : Int64)) ((255 : Int64)) M) = 0) → ((vp_in x1 2) ∧ (((¬ (M 59 (x1).toNatClampNeg) = (if x1 = 0 then (31 : Int32) else (35 : Int32))) → ((vp_in x1 2) ∧ ((vp_in (((36 : Int32) * x1) + (M 59 (x1).toNatClampNeg)) 72) ∧ ((vp_in x1 2) ∧ ((vp_in x1 2) ∧ (vp_in x1 2)))))) ∧ (((M 59 (x1).toNatClampNeg) = (if x1 = 0 then (31 : Int32) else (35 : Int32))) → True)))) ∧ (((f_Mo_in (((x2).toInt64)) ((0 : Int64)) ((255 : Int64)) M) = 0) → True)))))
theorem c_Mo_type {X : zX} {x1 : Int32} {x2 : Int32} {M : zM} (hs : s_Mo_type x1 x2 M) : Call X 89 [(.ref 53), (.int x1), (.int x2)] M [.int (f_Mo_type x1 x2 M)] (m_Mo_type x1 x2 M) := by
  refine Call.of (Nat.le_of_ble_eq_true rfl) ?_
  refine sg_Mo_type_0 ?_
  refine ⟨_, _, c_Mo_isTwo hs.1, ?_⟩
  refine ⟨fun c1 => ?_, fun c1 => ?_⟩
  · exact ⟨by simp only [f_Mo_type, m_Mo_type, if_pos c1], by simp only [f_Mo_type, m_Mo_type, if_pos c1]⟩
  · refine ⟨_, _, c_Mo_in, ?_⟩
    refine ⟨fun c5 => ?_, fun c5 => ?_⟩
    · refine ⟨((hs.2.2 c1).1 c5).1, ?_⟩
      refine ⟨fun c8 => ?_, fun c8 => ?_⟩
      · refine ⟨(((hs.2.2 c1).1 c5).2.1 c8).1, ?_⟩
        refine ⟨(((hs.2.2 c1).1 c5).2.1 c8).2.1, ?_⟩
        refine ⟨(((hs.2.2 c1).1 c5).2.1 c8).2.2.1, ?_⟩
        refine ⟨(((hs.2.2 c1).1 c5).2.1 c8).2.2.2.1, ?_⟩
        refine ⟨(((hs.2.2 c1).1 c5).2.1 c8).2.2.2.2, ?_⟩
        exact ⟨by simp only [f_Mo_type, m_Mo_type, if_neg c1, if_neg c5, if_neg c8], by simp only [f_Mo_type, m_Mo_type, if_neg c1, if_neg c5, if_neg c8]⟩
      · exact ⟨by simp only [f_Mo_type, m_Mo_type, if_neg c1, if_neg c5, if_pos c8], by simp only [f_Mo_type, m_Mo_type, if_neg c1, if_neg c5, if_pos c8]⟩
    · exact ⟨by simp only [f_Mo_type, m_Mo_type, if_neg c1, if_pos c5], by simp only [f_Mo_type, m_Mo_type, if_neg c1, if_pos c5]⟩
def f_Mo_wipe (x1 : Int32) (M : zM) : Int32 := (if (f_Mo_isTwo (x1) M) = 0 then (-2 : Int32) else (M 59 (x1).toNatClampNeg))
def m_Mo_wipe (x1 : Int32) (M : zM) : zM := (if (f_Mo_isTwo (x1) M) = 0 then M else (zu M 59 (x1).toNatClampNeg (0 : Int32)))
def s_Mo_wipe (x1 : Int32) (M : zM) : Prop := ((s_Mo_isTwo (x1) M) ∧ (((¬ (f_Mo_isTwo (x1) M) = 0) → ((vp_in x1 2) ∧ (vp_in x1 2))) ∧ (((f_Mo_isTwo (x1) M) = 0) → True)))
theorem c_Mo_wipe {X : zX} {x1 : Int32} {M : zM} (hs : s_Mo_wipe x1 M) : Call X 90 [(.ref 53), (.int x1)] M [.int (f_Mo_wipe x1 M)] (m_Mo_wipe x1 M) := by
  refine Call.of (Nat.le_of_ble_eq_true rfl) ?_
  refine sg_Mo_wipe_0 ?_
  refine ⟨_, _, c_Mo_isTwo hs.1, ?_⟩
  refine ⟨fun c1 => ?_, fun c1 => ?_⟩
  · refine ⟨(hs.2.1 c1).1, ?_⟩
    refine ⟨(hs.2.1 c1).2, ?_⟩
    exact ⟨by simp only [f_Mo_wipe, m_Mo_wipe, if_neg c1], by simp only [f_Mo_wipe, m_Mo_wipe, if_neg c1]⟩
  · exact ⟨by simp only [f_Mo_wipe, m_Mo_wipe, if_pos c1], by simp only [f_Mo_wipe, m_Mo_wipe, if_pos c1]⟩
def f_Mo_undo (x1 : Int32) (M : zM) : Int32 := (if (f_Mo_isTwo (x1) M) = 0 then (-2 : Int32) else (if (M 59 (x1).toNatClampNeg) = 0 then (-3 : Int32) else ((zu M 59 (x1).toNatClampNeg ((M 59 (x1).toNatClampNeg) - (1 : Int32))) 59 (x1).toNatClampNeg)))
def m_Mo_undo (x1 : Int32) (M : zM) : zM := (if (f_Mo_isTwo (x1) M) = 0 then M else (if (M 59 (x1).toNatClampNeg) = 0 then M else (zu M 59 (x1).toNatClampNeg ((M 59 (x1).toNatClampNeg) - (1 : Int32)))))
def s_Mo_undo (x1 : Int32) (M : zM) : Prop := ((s_Mo_isTwo (x1) M) ∧ (((¬ (f_Mo_isTwo (x1) M) = 0) → ((vp_in x1 2) ∧ (((¬ (M 59 (x1).toNatClampNeg) = 0) → ((vp_in x1 2) ∧ ((vp_in x1 2) ∧ (vp_in x1 2)))) ∧ (((M 59 (x1).toNatClampNeg) = 0) → True)))) ∧ (((f_Mo_isTwo (x1) M) = 0) → True)))
theorem c_Mo_undo {X : zX} {x1 : Int32} {M : zM} (hs : s_Mo_undo x1 M) : Call X 91 [(.ref 53), (.int x1)] M [.int (f_Mo_undo x1 M)] (m_Mo_undo x1 M) := by
  refine Call.of (Nat.le_of_ble_eq_true rfl) ?_
  refine sg_Mo_undo_0 ?_
  refine ⟨_, _, c_Mo_isTwo hs.1, ?_⟩
  refine ⟨fun c1 => ?_, fun c1 => ?_⟩
  · refine ⟨(hs.2.1 c1).1, ?_⟩
    refine ⟨fun c4 => ?_, fun c4 => ?_⟩
    · refine ⟨((hs.2.1 c1).2.1 c4).1, ?_⟩
      refine ⟨((hs.2.1 c1).2.1 c4).2.1, ?_⟩
      refine ⟨((hs.2.1 c1).2.1 c4).2.2, ?_⟩
      exact ⟨by simp only [f_Mo_undo, m_Mo_undo, if_neg c1, if_neg c4], by simp only [f_Mo_undo, m_Mo_undo, if_neg c1, if_neg c4]⟩
    · exact ⟨by simp only [f_Mo_undo, m_Mo_undo, if_neg c1, if_pos c4], by simp only [f_Mo_undo, m_Mo_undo, if_neg c1, if_pos c4]⟩
  · exact ⟨by simp only [f_Mo_undo, m_Mo_undo, if_pos c1], by simp only [f_Mo_undo, m_Mo_undo, if_pos c1]⟩
def f_Mo_figureOf (x0 : Int32) (x1 : Int32) (M : zM) : Int32 := (if (f_Mo_in (((x0).toInt64)) ((48 : Int64)) (((((48 : Int32) + x1)).toInt64)) M) = 0 then (-9 : Int32) else (x0 - (48 : Int32)))
theorem c_Mo_figureOf {X : zX} {x0 : Int32} {x1 : Int32} {M : zM} : Call X 92 [(.int x0), (.int x1)] M [.int (f_Mo_figureOf x0 x1 M)] M := by
  refine Call.of (Nat.le_of_ble_eq_true rfl) ?_
  refine sg_Mo_figureOf_0 ?_
  refine ⟨_, _, c_Mo_in, ?_⟩
  exact ⟨rfl, rfl⟩
def f_Mo_voterOf (x0 : Int32) (x1 : Int32) (M : zM) : Int32 := (if x0 = (0 : Int32) then (if x1 = (115 : Int32) then (0 : Int32) else (if x1 = (119 : Int32) then (1 : Int32) else (if x1 = (109 : Int32) then (2 : Int32) else (-9 : Int32)))) else (if x0 = (1 : Int32) then (f_Mo_figureOf (x1) ((7 : Int32)) M) else (if x0 = (2 : Int32) then (f_Mo_figureOf (x1) ((2 : Int32)) M) else (if x1 = (59 : Int32) then (0 : Int32) else (-9 : Int32)))))
theorem c_Mo_voterOf {X : zX} {x0 : Int32} {x1 : Int32} {M : zM} : Call X 93 [(.int x0), (.int x1)] M [.int (f_Mo_voterOf x0 x1 M)] M := by
  refine Call.of (Nat.le_of_ble_eq_true rfl) ?_
  refine sg_Mo_voterOf_0 ?_
  refine ⟨fun c0 => ?_, fun c0 => ?_⟩
  · exact ⟨by simp only [f_Mo_voterOf, if_pos c0], by simp only [f_Mo_voterOf, if_pos c0]⟩
  · refine ⟨fun c3 => ?_, fun c3 => ?_⟩
    · refine ⟨_, _, c_Mo_figureOf, ?_⟩
      exact ⟨by simp only [f_Mo_voterOf, if_neg c0, if_pos c3], by simp only [f_Mo_voterOf, if_neg c0, if_pos c3]⟩
    · refine ⟨fun c7 => ?_, fun c7 => ?_⟩
      · refine ⟨_, _, c_Mo_figureOf, ?_⟩
        exact ⟨by simp only [f_Mo_voterOf, if_neg c0, if_neg c3, if_pos c7], by simp only [f_Mo_voterOf, if_neg c0, if_neg c3, if_pos c7]⟩
      · exact ⟨by simp only [f_Mo_voterOf, if_neg c0, if_neg c3, if_neg c7], by simp only [f_Mo_voterOf, if_neg c0, if_neg c3, if_neg c7]⟩
def f_Mo_measureOf (x0 : Int32) (x1 : Int32) (M : zM) : Int32 := (if x0 = 0 then (if (f_Mo_in (((x1).toInt64)) ((97 : Int64)) ((120 : Int64)) M) = 0 then (-9 : Int32) else (x1 - (97 : Int32))) else (if x0 = (1 : Int32) then (f_Mo_figureOf (x1) ((7 : Int32)) M) else (if x1 = (59 : Int32) then (0 : Int32) else (-9 : Int32))))
theorem c_Mo_measureOf {X : zX} {x0 : Int32} {x1 : Int32} {M : zM} : Call X 95 [(.int x0), (.int x1)] M [.int (f_Mo_measureOf x0 x1 M)] M := by
  refine Call.of (Nat.le_of_ble_eq_true rfl) ?_
  refine sg_Mo_measureOf_0 ?_
  refine ⟨fun c0 => ?_, fun c0 => ?_⟩
  · refine ⟨fun c2 => ?_, fun c2 => ?_⟩
    · exact ⟨by simp only [f_Mo_measureOf, if_neg c0, if_neg c2], by simp only [f_Mo_measureOf, if_neg c0, if_neg c2]⟩
    · refine ⟨_, _, c_Mo_figureOf, ?_⟩
      exact ⟨by simp only [f_Mo_measureOf, if_neg c0, if_pos c2], by simp only [f_Mo_measureOf, if_neg c0, if_pos c2]⟩
  · refine ⟨_, _, c_Mo_in, ?_⟩
    exact ⟨by simp only [f_Mo_measureOf, if_pos c0], by simp only [f_Mo_measureOf, if_pos c0]⟩
def f_Mo_isVoter (x1 : Int32) (M : zM) : Int32 := (f_Mo_in (((x1).toInt64)) ((0 : Int64)) (((((M 53 7) - (1 : Int32))).toInt64)) M)
def s_Mo_isVoter (x1 : Int32) (M : zM) : Prop := ((f_Mo_in (((x1).toInt64)) ((0 : Int64)) (((((M 53 7) - (1 : Int32))).toInt64)) M) = 0 ∨ (f_Mo_in (((x1).toInt64)) ((0 : Int64)) (((((M 53 7) - (1 : Int32))).toInt64)) M) = 1)
theorem c_Mo_isVoter {X : zX} {x1 : Int32} {M : zM} (hs : s_Mo_isVoter x1 M) : Call X 99 [(.ref 53), (.int x1)] M [.int (f_Mo_isVoter x1 M)] M := by
  refine Call.of (Nat.le_of_ble_eq_true rfl) ?_
  refine sg_Mo_isVoter_0 ?_
  refine ⟨_, _, c_Mo_in, ?_⟩
  refine ⟨hs, ?_⟩
  exact ⟨rfl, rfl⟩
def f_Mo_isMeasure (x1 : Int32) (M : zM) : Int32 := (f_Mo_in (((x1).toInt64)) ((0 : Int64)) (((((M 53 9) - (1 : Int32))).toInt64)) M)
def s_Mo_isMeasure (x1 : Int32) (M : zM) : Prop := ((f_Mo_in (((x1).toInt64)) ((0 : Int64)) (((((M 53 9) - (1 : Int32))).toInt64)) M) = 0 ∨ (f_Mo_in (((x1).toInt64)) ((0 : Int64)) (((((M 53 9) - (1 : Int32))).toInt64)) M) = 1)
theorem c_Mo_isMeasure {X : zX} {x1 : Int32} {M : zM} (hs : s_Mo_isMeasure x1 M) : Call X 101 [(.ref 53), (.int x1)] M [.int (f_Mo_isMeasure x1 M)] M := by
  refine Call.of (Nat.le_of_ble_eq_true rfl) ?_
  refine sg_Mo_isMeasure_0 ?_
  refine ⟨_, _, c_Mo_in, ?_⟩
  refine ⟨hs, ?_⟩
  exact ⟨rfl, rfl⟩
def f_Mo_fool (x1 : Int32) (x2 : Int32) (M : zM) : Int32 := (if (f_Mo_isTwo (x1) M) = 0 then (-2 : Int32) else (if (f_Mo_in (((x2).toInt64)) ((0 : Int64)) ((if x1 = 0 then (7 : Int64) else (9 : Int64))) M) = 0 then (-2 : Int32) else (M 62 (x1).toNatClampNeg)))
def m_Mo_fool (x1 : Int32) (x2 : Int32) (M : zM) : zM := (if (f_Mo_isTwo (x1) M) = 0 then M else (if (f_Mo_in (((x2).toInt64)) ((0 : Int64)) ((if x1 = 0 then (7 : Int64) else (9 : Int64))) M) = 0 then M else (zu M 62 (x1).toNatClampNeg x2)))
def s_Mo_fool (x1 : Int32) (x2 : Int32) (M : zM) : Prop := ((s_Mo_isTwo (x1) M) ∧ ((((f_Mo_isTwo (x1) M) = 0) → True) ∧ ((¬ (f_Mo_isTwo (x1) M) = 0) → (((¬ (f_Mo_in (((x2).toInt64)) ((0 : Int64)) ((if x1 = 0 then (7 : Int64) else (9 : Int64))) M) = 0) → ((vp_in x1 2) ∧ (vp_in x1 2))) ∧ (((f_Mo_in (((x2).toInt64)) ((0 : Int64)) ((if x1 = 0 then (7 : Int64) else (9 : Int64))) M) = 0) → True)))))
theorem c_Mo_fool {X : zX} {x1 : Int32} {x2 : Int32} {M : zM} (hs : s_Mo_fool x1 x2 M) : Call X 103 [(.ref 53), (.int x1), (.int x2)] M [.int (f_Mo_fool x1 x2 M)] (m_Mo_fool x1 x2 M) := by
  refine Call.of (Nat.le_of_ble_eq_true rfl) ?_
  refine sg_Mo_fool_0 ?_
  refine ⟨_, _, c_Mo_isTwo hs.1, ?_⟩
  refine ⟨fun c1 => ?_, fun c1 => ?_⟩
  · exact ⟨by simp only [f_Mo_fool, m_Mo_fool, if_pos c1], by simp only [f_Mo_fool, m_Mo_fool, if_pos c1]⟩
  · refine ⟨_, _, c_Mo_in, ?_⟩
    refine ⟨fun c5 => ?_, fun c5 => ?_⟩
    · refine ⟨((hs.2.2 c1).1 c5).1, ?_⟩
      refine ⟨((hs.2.2 c1).1 c5).2, ?_⟩
      exact ⟨by simp only [f_Mo_fool, m_Mo_fool, if_neg c1, if_neg c5], by simp only [f_Mo_fool, m_Mo_fool, if_neg c1, if_neg c5]⟩
    · exact ⟨by simp only [f_Mo_fool, m_Mo_fool, if_neg c1, if_pos c5], by simp only [f_Mo_fool, m_Mo_fool, if_neg c1, if_pos c5]⟩
def f_Mo_event (x1 : Int32) (x2 : Int32) (x3 : Int32) (M : zM) : Int32 := (if (f_Mo_in (((x1).toInt64)) ((0 : Int64)) ((2 : Int64)) M) = 0 then (-2 : Int32) else (if (f_Mo_in (((x2).toInt64)) ((0 : Int64)) ((23 : Int64)) M) = 0 then (-2 : Int32) else (if (f_Mo_in (((x3).toInt64)) ((0 : Int64)) ((7 : Int64)) M) = 0 then (-2 : Int32) else (if (M 53 12) = (8 : Int32) then (-4 : Int32) else ((M 53 12) + (1 : Int32))))))
def m_Mo_event (x1 : Int32) (x2 : Int32) (x3 : Int32) (M : zM) : zM := (if (f_Mo_in (((x1).toInt64)) ((0 : Int64)) ((2 : Int64)) M) = 0 then M else (if (f_Mo_in (((x2).toInt64)) ((0 : Int64)) ((23 : Int64)) M) = 0 then M else (if (f_Mo_in (((x3).toInt64)) ((0 : Int64)) ((7 : Int64)) M) = 0 then M else (if (M 53 12) = (8 : Int32) then M else (zu (zu (zu (zu M 63 (((3 : Int32) * (M 53 12))).toNatClampNeg x1) 63 ((((3 : Int32) * (M 53 12)) + (1 : Int32))).toNatClampNeg x2) 63 ((((3 : Int32) * (M 53 12)) + (2 : Int32))).toNatClampNeg x3) 53 12 ((M 53 12) + (1 : Int32)))))))
def s_Mo_event (x1 : Int32) (x2 : Int32) (x3 : Int32) (M : zM) : Prop := ((((f_Mo_in (((x1).toInt64)) ((0 : Int64)) ((2 : Int64)) M) = 0) → True) ∧ ((¬ (f_Mo_in (((x1).toInt64)) ((0 : Int64)) ((2 : Int64)) M) = 0) → ((((f_Mo_in (((x2).toInt64)) ((0 : Int64)) ((23 : Int64)) M) = 0) → True) ∧ ((¬ (f_Mo_in (((x2).toInt64)) ((0 : Int64)) ((23 : Int64)) M) = 0) → (((¬ (f_Mo_in (((x3).toInt64)) ((0 : Int64)) ((7 : Int64)) M) = 0) → (((¬ (M 53 12) = (8 : Int32)) → ((vp_in ((3 : Int32) * (M 53 12)) 24) ∧ ((vp_in (((3 : Int32) * (M 53 12)) + (1 : Int32)) 24) ∧ (vp_in (((3 : Int32) * (M 53 12)) + (2 : Int32)) 24)))) ∧ (((M 53 12) = (8 : Int32)) → True))) ∧ (((f_Mo_in (((x3).toInt64)) ((0 : Int64)) ((7 : Int64)) M) = 0) → True))))))
theorem c_Mo_event {X : zX} {x1 : Int32} {x2 : Int32} {x3 : Int32} {M : zM} (hs : s_Mo_event x1 x2 x3 M) : Call X 104 [(.ref 53), (.int x1), (.int x2), (.int x3)] M [.int (f_Mo_event x1 x2 x3 M)] (m_Mo_event x1 x2 x3 M) := by
  refine Call.of (Nat.le_of_ble_eq_true rfl) ?_
  refine sg_Mo_event_0 ?_
  refine ⟨_, _, c_Mo_in, ?_⟩
  refine ⟨fun c1 => ?_, fun c1 => ?_⟩
  · exact ⟨by simp only [f_Mo_event, m_Mo_event, if_pos c1], by simp only [f_Mo_event, m_Mo_event, if_pos c1]⟩
  · refine ⟨_, _, c_Mo_in, ?_⟩
    refine ⟨fun c5 => ?_, fun c5 => ?_⟩
    · exact ⟨by simp only [f_Mo_event, m_Mo_event, if_neg c1, if_pos c5], by simp only [f_Mo_event, m_Mo_event, if_neg c1, if_pos c5]⟩
    · refine ⟨_, _, c_Mo_in, ?_⟩
      refine ⟨fun c9 => ?_, fun c9 => ?_⟩
      · refine ⟨fun c11 => ?_, fun c11 => ?_⟩
        · refine ⟨((((hs.2 c1).2 c5).1 c9).1 c11).1, ?_⟩
          refine ⟨((((hs.2 c1).2 c5).1 c9).1 c11).2.1, ?_⟩
          refine ⟨((((hs.2 c1).2 c5).1 c9).1 c11).2.2, ?_⟩
          exact ⟨by simp only [f_Mo_event, m_Mo_event, if_neg c1, if_neg c5, if_neg c9, if_neg c11], by simp only [f_Mo_event, m_Mo_event, if_neg c1, if_neg c5, if_neg c9, if_neg c11]⟩
        · exact ⟨by simp only [f_Mo_event, m_Mo_event, if_neg c1, if_neg c5, if_neg c9, if_pos c11], by simp only [f_Mo_event, m_Mo_event, if_neg c1, if_neg c5, if_neg c9, if_pos c11]⟩
      · exact ⟨by simp only [f_Mo_event, m_Mo_event, if_neg c1, if_neg c5, if_pos c9], by simp only [f_Mo_event, m_Mo_event, if_neg c1, if_neg c5, if_pos c9]⟩
def f_Mo_back (M : zM) : Int32 := (if (M 53 12) = 0 then (-3 : Int32) else ((M 53 12) - (1 : Int32)))
def m_Mo_back (M : zM) : zM := (if (M 53 12) = 0 then M else (zu M 53 12 ((M 53 12) - (1 : Int32))))
theorem c_Mo_back {X : zX} {M : zM} : Call X 105 [(.ref 53)] M [.int (f_Mo_back M)] (m_Mo_back M) := by
  refine Call.of (Nat.le_of_ble_eq_true rfl) ?_
  refine sg_Mo_back_0 ?_
  refine ⟨fun c0 => ?_, fun c0 => ?_⟩
  · exact ⟨by simp only [f_Mo_back, m_Mo_back, if_neg c0], by simp only [f_Mo_back, m_Mo_back, if_neg c0]⟩
  · exact ⟨by simp only [f_Mo_back, m_Mo_back, if_pos c0], by simp only [f_Mo_back, m_Mo_back, if_pos c0]⟩
def f_Mo_isIn (x0 : Int32) (x1 : Int32) (M : zM) : Int32 := (if ((x0 >>> (x1 &&& 31)) &&& (1 : Int32)) = (1 : Int32) then (1 : Int32) else (0 : Int32))
theorem c_Mo_isIn {X : zX} {x0 : Int32} {x1 : Int32} {M : zM} : Call X 107 [(.int x0), (.int x1)] M [.int (f_Mo_isIn x0 x1 M)] M := by
  refine Call.of (Nat.le_of_ble_eq_true rfl) ?_
  refine sg_Mo_isIn_0 ?_
  exact ⟨rfl, rfl⟩
def f_Mo_tallyBy (x1 : Int32) (x2 : Int32) (M : zM) : Int32 := (if x2 = (0 : Int32) then (M 70 (x1).toNatClampNeg) else (if x2 = (1 : Int32) then (M 71 (x1).toNatClampNeg) else (if x2 = (2 : Int32) then (M 72 (x1).toNatClampNeg) else (if x2 = (3 : Int32) then (if (M 73 (x1).toNatClampNeg) = 0 then (0 : Int32) else (1 : Int32)) else (if (M 74 (x1).toNatClampNeg) = 0 then (0 : Int32) else (1 : Int32))))))
def s_Mo_tallyBy (x1 : Int32) (x2 : Int32) (M : zM) : Prop := (((x2 = (0 : Int32)) → (vp_in x1 12)) ∧ ((¬ x2 = (0 : Int32)) → (((x2 = (1 : Int32)) → (vp_in x1 12)) ∧ ((¬ x2 = (1 : Int32)) → (((x2 = (2 : Int32)) → (vp_in x1 12)) ∧ ((¬ x2 = (2 : Int32)) → (((x2 = (3 : Int32)) → (vp_in x1 12)) ∧ ((¬ x2 = (3 : Int32)) → (vp_in x1 12)))))))))
theorem c_Mo_tallyBy {X : zX} {x1 : Int32} {x2 : Int32} {M : zM} (hs : s_Mo_tallyBy x1 x2 M) : Call X 117 [(.ref 53), (.int x1), (.int x2)] M [.int (f_Mo_tallyBy x1 x2 M)] M := by
  refine Call.of (Nat.le_of_ble_eq_true rfl) ?_
  refine sg_Mo_tallyBy_0 ?_
  refine ⟨fun c0 => ?_, fun c0 => ?_⟩
  · refine ⟨(hs.1 c0), ?_⟩
    exact ⟨by simp only [f_Mo_tallyBy, if_pos c0], by simp only [f_Mo_tallyBy, if_pos c0]⟩
  · refine ⟨fun c4 => ?_, fun c4 => ?_⟩
    · refine ⟨((hs.2 c0).1 c4), ?_⟩
      exact ⟨by simp only [f_Mo_tallyBy, if_neg c0, if_pos c4], by simp only [f_Mo_tallyBy, if_neg c0, if_pos c4]⟩
    · refine ⟨fun c8 => ?_, fun c8 => ?_⟩
      · refine ⟨(((hs.2 c0).2 c4).1 c8), ?_⟩
        exact ⟨by simp only [f_Mo_tallyBy, if_neg c0, if_neg c4, if_pos c8], by simp only [f_Mo_tallyBy, if_neg c0, if_neg c4, if_pos c8]⟩
      · refine ⟨fun c12 => ?_, fun c12 => ?_⟩
        · refine ⟨((((hs.2 c0).2 c4).2 c8).1 c12), ?_⟩
          exact ⟨by simp only [f_Mo_tallyBy, if_neg c0, if_neg c4, if_neg c8, if_pos c12], by simp only [f_Mo_tallyBy, if_neg c0, if_neg c4, if_neg c8, if_pos c12]⟩
        · refine ⟨((((hs.2 c0).2 c4).2 c8).2 c12), ?_⟩
          exact ⟨by simp only [f_Mo_tallyBy, if_neg c0, if_neg c4, if_neg c8, if_neg c12], by simp only [f_Mo_tallyBy, if_neg c0, if_neg c4, if_neg c8, if_neg c12]⟩
def f_Mo_atBy (x1 : Int32) (x2 : Int32) (M : zM) : Int32 := (if x2 = 0 then (M 65 (x1).toNatClampNeg) else (if x2 = (1 : Int32) then (M 66 (x1).toNatClampNeg) else (if x2 = (2 : Int32) then (M 67 (x1).toNatClampNeg) else (M 68 (x1).toNatClampNeg))))
def s_Mo_atBy (x1 : Int32) (x2 : Int32) (M : zM) : Prop := (((¬ x2 = 0) → (((¬ x2 = (1 : Int32)) → (((¬ x2 = (2 : Int32)) → (vp_in x1 8)) ∧ ((x2 = (2 : Int32)) → (vp_in x1 8)))) ∧ ((x2 = (1 : Int32)) → (vp_in x1 8)))) ∧ ((x2 = 0) → (vp_in x1 8)))
theorem c_Mo_atBy {X : zX} {x1 : Int32} {x2 : Int32} {M : zM} (hs : s_Mo_atBy x1 x2 M) : Call X 119 [(.ref 53), (.int x1), (.int x2)] M [.int (f_Mo_atBy x1 x2 M)] M := by
  refine Call.of (Nat.le_of_ble_eq_true rfl) ?_
  refine sg_Mo_atBy_0 ?_
  refine ⟨hs, ?_⟩
  exact ⟨rfl, rfl⟩
def f_Mo_greater (x0 : Int32) (x1 : Int32) (M : zM) : Int32 := (if x0 ≤ x1 then x1 else x0)
theorem c_Mo_greater {X : zX} {x0 : Int32} {x1 : Int32} {M : zM} : Call X 126 [(.int x0), (.int x1)] M [.int (f_Mo_greater x0 x1 M)] M := by
  refine Call.of (Nat.le_of_ble_eq_true rfl) ?_
  refine sg_Mo_greater_0 ?_
  exact ⟨rfl, rfl⟩
def f_Mo_lesser (x0 : Int32) (x1 : Int32) (M : zM) : Int32 := (if x1 ≤ x0 then x1 else x0)
theorem c_Mo_lesser {X : zX} {x0 : Int32} {x1 : Int32} {M : zM} : Call X 129 [(.int x0), (.int x1)] M [.int (f_Mo_lesser x0 x1 M)] M := by
  refine Call.of (Nat.le_of_ble_eq_true rfl) ?_
  refine sg_Mo_lesser_0 ?_
  exact ⟨rfl, rfl⟩
def f_Mo_seen (x1 : Int32) (x2 : Int32) (M : zM) : Int32 := (if (f_Mo_in (((x1).toInt64)) ((0 : Int64)) ((11 : Int64)) M) = 0 then (-2 : Int32) else (if (f_Mo_isTwo (x2) M) = 0 then (-2 : Int32) else (if (M 53 27) = (8 : Int32) then (-4 : Int32) else ((M 53 27) + (1 : Int32)))))
def m_Mo_seen (x1 : Int32) (x2 : Int32) (M : zM) : zM := (if (f_Mo_in (((x1).toInt64)) ((0 : Int64)) ((11 : Int64)) M) = 0 then M else (if (f_Mo_isTwo (x2) M) = 0 then M else (if (M 53 27) = (8 : Int32) then M else (zu (zu (zu M 75 (((2 : Int32) * (M 53 27))).toNatClampNeg x1) 75 ((((2 : Int32) * (M 53 27)) + (1 : Int32))).toNatClampNeg x2) 53 27 ((M 53 27) + (1 : Int32))))))
def s_Mo_seen (x1 : Int32) (x2 : Int32) (M : zM) : Prop := ((((f_Mo_in (((x1).toInt64)) ((0 : Int64)) ((11 : Int64)) M) = 0) → True) ∧ ((¬ (f_Mo_in (((x1).toInt64)) ((0 : Int64)) ((11 : Int64)) M) = 0) → ((s_Mo_isTwo (x2) M) ∧ (((¬ (f_Mo_isTwo (x2) M) = 0) → (((¬ (M 53 27) = (8 : Int32)) → ((vp_in ((2 : Int32) * (M 53 27)) 16) ∧ (vp_in (((2 : Int32) * (M 53 27)) + (1 : Int32)) 16))) ∧ (((M 53 27) = (8 : Int32)) → True))) ∧ (((f_Mo_isTwo (x2) M) = 0) → True)))))
theorem c_Mo_seen {X : zX} {x1 : Int32} {x2 : Int32} {M : zM} (hs : s_Mo_seen x1 x2 M) : Call X 140 [(.ref 53), (.int x1), (.int x2)] M [.int (f_Mo_seen x1 x2 M)] (m_Mo_seen x1 x2 M) := by
  refine Call.of (Nat.le_of_ble_eq_true rfl) ?_
  refine sg_Mo_seen_0 ?_
  refine ⟨_, _, c_Mo_in, ?_⟩
  refine ⟨fun c1 => ?_, fun c1 => ?_⟩
  · exact ⟨by simp only [f_Mo_seen, m_Mo_seen, if_pos c1], by simp only [f_Mo_seen, m_Mo_seen, if_pos c1]⟩
  · refine ⟨_, _, c_Mo_isTwo (hs.2 c1).1, ?_⟩
    refine ⟨fun c5 => ?_, fun c5 => ?_⟩
    · refine ⟨fun c7 => ?_, fun c7 => ?_⟩
      · refine ⟨(((hs.2 c1).2.1 c5).1 c7).1, ?_⟩
        refine ⟨(((hs.2 c1).2.1 c5).1 c7).2, ?_⟩
        exact ⟨by simp only [f_Mo_seen, m_Mo_seen, if_neg c1, if_neg c5, if_neg c7], by simp only [f_Mo_seen, m_Mo_seen, if_neg c1, if_neg c5, if_neg c7]⟩
      · exact ⟨by simp only [f_Mo_seen, m_Mo_seen, if_neg c1, if_neg c5, if_pos c7], by simp only [f_Mo_seen, m_Mo_seen, if_neg c1, if_neg c5, if_pos c7]⟩
    · exact ⟨by simp only [f_Mo_seen, m_Mo_seen, if_neg c1, if_pos c5], by simp only [f_Mo_seen, m_Mo_seen, if_neg c1, if_pos c5]⟩
def f_Mo_forget (M : zM) : Int32 := (M 53 27)
def m_Mo_forget (M : zM) : zM := (zu M 53 27 (0 : Int32))
theorem c_Mo_forget {X : zX} {M : zM} : Call X 141 [(.ref 53)] M [.int (f_Mo_forget M)] (m_Mo_forget M) := by
  refine Call.of (Nat.le_of_ble_eq_true rfl) ?_
  refine sg_Mo_forget_0 ?_
  exact ⟨rfl, rfl⟩
def f_Mo_no (x0 : Int32) (M : zM) : Int64 := ((-9223372036854775808 : Int64) - ((x0).toInt64))
theorem c_Mo_no {X : zX} {x0 : Int32} {M : zM} : Call X 154 [(.int x0)] M [.long (f_Mo_no x0 M)] M := by
  refine Call.of (Nat.le_of_ble_eq_true rfl) ?_
  refine sg_Mo_no_0 ?_
  exact ⟨rfl, rfl⟩
def f_Mo_lot (x1 : Int32) (M : zM) : Int32 := (((((((1103515245 : Int32) * (M 53 30)) + (12345 : Int32))).toUInt32 >>> (((16 : Int32)).toUInt32 &&& Int32.toUInt32 31)).toInt32) - ((((((1103515245 : Int32) * (M 53 30)) + (12345 : Int32))).toUInt32 >>> (((16 : Int32)).toUInt32 &&& Int32.toUInt32 31)).toInt32) / x1 * x1)
def m_Mo_lot (x1 : Int32) (M : zM) : zM := (zu M 53 30 (((1103515245 : Int32) * (M 53 30)) + (12345 : Int32)))
def s_Mo_lot (x1 : Int32) (M : zM) : Prop := (¬ x1 = 0)
theorem c_Mo_lot {X : zX} {x1 : Int32} {M : zM} (hs : s_Mo_lot x1 M) : Call X 156 [(.ref 53), (.int x1)] M [.int (f_Mo_lot x1 M)] (m_Mo_lot x1 M) := by
  refine Call.of (Nat.le_of_ble_eq_true rfl) ?_
  refine sg_Mo_lot_0 ?_
  refine ⟨hs, ?_⟩
  exact ⟨rfl, rfl⟩
