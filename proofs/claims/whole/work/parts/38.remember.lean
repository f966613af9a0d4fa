/-! remember -/
theorem q_flip : ∀ l : Fin 8, (7 : Int32) &&& (nI l.val ^^^ (-1 : Int32)) = nI (7 - l.val) := by decide +kernel
/-- four rows, one place -/
def q_DR (w v : Nat) : Nat → Nat → Prop := fun a b => (a = w ∨ a = w + 1 ∨ a = w + 2 ∨ a = w + 3) ∧ b < v
def q_RI (w : Nat) (R : Nat → Nat × Nat × Nat × Nat) (v : Nat) (M M1 : zM) : Prop := q_fr (q_DR w v) M M1 ∧ ∀ u, u < v → M1 w u = nI (R u).1 ∧ M1 (w + 1) u = nI (R u).2.1 ∧ M1 (w + 2) u = nI (R u).2.2.1 ∧ M1 (w + 3) u = nI (R u).2.2.2
theorem q_RI_s {w : Nat} {R : Nat → Nat × Nat × Nat × Nat} {v : Nat} {M M1 M2 : zM} (h : q_RI w R v M M1) (hf : ∀ a b, ¬ ((a = w ∨ a = w + 1 ∨ a = w + 2 ∨ a = w + 3) ∧ b = v) → M2 a b = M1 a b) (h1 : M2 w v = nI (R v).1) (h2 : M2 (w + 1) v = nI (R v).2.1) (h3 : M2 (w + 2) v = nI (R v).2.2.1) (h4 : M2 (w + 3) v = nI (R v).2.2.2) : q_RI w R (v + 1) M M2 := by
  refine ⟨fun a b hn => ?_, fun u hu => ?_⟩
  · unfold q_DR at hn
    rw [hf a b (by omega)]
    exact h.1 a b (by unfold q_DR; omega)
  · by_cases e : u = v
    · subst e
      exact ⟨h1, h2, h3, h4⟩
    · obtain ⟨g1, g2, g3, g4⟩ := h.2 u (by omega)
      exact ⟨by rw [hf _ _ (by omega)]; exact g1, by rw [hf _ _ (by omega)]; exact g2, by rw [hf _ _ (by omega)]; exact g3, by rw [hf _ _ (by omega)]; exact g4⟩
theorem q_remL_a {X : zX} {M : zM} {nv m : Nat} {V : q_N} {sd : Nat → Nat} {o : Bool} (hnv : nv ≤ 8) (h0 : M 5 0 = nI nv) (hm : m < 12) (hsd : ∀ v, v < nv → M 17 (8 * m + v) = nI (sd v) ∧ sd v ≤ 2) (hV : ∀ v, v < nv → M 21 v = nI (V 0 v) ∧ V 0 v < 8 ∧ M 22 v = nI (V 1 v) ∧ V 1 v < 3 ∧ M 23 v = nI (V 2 v) ∧ M 24 v = nI (V 3 v)) : ∀ (d v : Nat) (M1 : zM) (l5 : Option Value), v + d = nv → q_RI 21 (fun u => q_rm (sd u) (q_b o) (V 0 u) (V 1 u) (V 2 u) (V 3 u)) v M M1 → ∃ M', At X 12 12 [some (.ref 16), some (.ref 5), some (.int (nI m)), some (.int (nI (q_b o))), some (.int (nI v)), l5] [] M1 [] M' ∧ q_RI 21 (fun u => q_rm (sd u) (q_b o) (V 0 u) (V 1 u) (V 2 u) (V 3 u)) nv M M' := by
  intro d
  induction d with
  | zero =>
    intro v M1 l5 hv hI
    have hv : v = nv := by omega
    subst hv
    have e0 : M1 5 0 = nI v := by rw [hI.1 5 0 (by unfold q_DR; omega)]; exact h0
    exact ⟨M1, sg_Vo_remember_a_12 ⟨fun _ => ⟨rfl, rfl⟩, fun c => absurd (q_yle e0 (Nat.le_refl _) (by omega)) c⟩, hI⟩
  | succ d ih =>
    intro v M1 l5 hv hI
    have hlt : v < nv := by omega
    have e0 : M1 5 0 = nI nv := by rw [hI.1 5 0 (by unfold q_DR; omega)]; exact h0
    obtain ⟨s1, s2⟩ := hsd v hlt
    obtain ⟨v1, v2, v3, v4, v5, v6⟩ := hV v hlt
    have gs : M1 17 (8 * m + v) = nI (sd v) := by rw [hI.1 17 _ (by unfold q_DR; omega)]; exact s1
    have g5 : M1 21 v = nI (V 0 v) := by rw [hI.1 21 _ (by unfold q_DR; omega)]; exact v1
    have g6 : M1 22 v = nI (V 1 v) := by rw [hI.1 22 _ (by unfold q_DR; omega)]; exact v3
    have g7 : M1 23 v = nI (V 2 v) := by rw [hI.1 23 _ (by unfold q_DR; omega)]; exact v5
    have g8 : M1 24 v = nI (V 3 v) := by rw [hI.1 24 _ (by unfold q_DR; omega)]; exact v6
    have hin : vp_in (nI v) 8 := q_in (by omega) (by omega)
    have hin2 : vp_in (nI (8 * m + v)) 96 := q_in (by omega) (by omega)
    have ec : (nI v).toNatClampNeg = v := q_cl (by omega)
    have ex : (nI (8 * m + v)).toNatClampNeg = 8 * m + v := q_cl (by omega)
    have e8 := q_ix8 hm (show v < 8 by omega)
    have e1 : nI v + (1 : Int32) = nI (v + 1) := nI_1 v
    have ob := q_b_lt o
    have c12 : ¬ 2 = q_b o := by omega
    have eg : nI (V 1 v) + (1 : Int32) = nI (V 1 v + 1) := nI_1 _
    have et : nI (V 3 v) + (1 : Int32) = nI (V 3 v + 1) := nI_1 _
    have ek : nI (V 2 v) + (1 : Int32) = nI (V 2 v + 1) := nI_1 _
    have efl := q_flip ⟨V 0 v, v2⟩
    dsimp only at efl
    refine (?_ : ∃ M2, q_RI 21 (fun u => q_rm (sd u) (q_b o) (V 0 u) (V 1 u) (V 2 u) (V 3 u)) (v + 1) M M2 ∧ (∀ M' : zM, At X 12 12 [some (.ref 16), some (.ref 5), some (.int (nI m)), some (.int (nI (q_b o))), some (.int (nI (v + 1))), some (.int (nI (sd v)))] [] M2 [] M' → At X 12 12 [some (.ref 16), some (.ref 5), some (.int (nI m)), some (.int (nI (q_b o))), some (.int (nI v)), l5] [] M1 [] M')).elim (fun M2 h2 => ?_)
    · by_cases c1 : sd v = q_b o
      · refine ⟨zu M1 22 v 0, q_RI_s hI (fun a b hn => by rw [zu_at, if_neg (by omega)]) ?_ ?_ ?_ ?_, fun M' hA => sg_Vo_remember_a_12 ⟨fun c => absurd c (q_nle e0 (by omega) (by omega)), fun _ => ⟨by rw [e8]; exact hin2, ?_⟩⟩⟩
        · rw [zu_at, if_neg (by omega), g5]; simp [q_rm, c1]
        · rw [zu_at, if_pos ⟨rfl, rfl⟩]; simp [q_rm, c1]; rfl
        · rw [zu_at, if_neg (by omega), g7]; simp [q_rm, c1]
        · rw [zu_at, if_neg (by omega), g8]; simp [q_rm, c1]
        · rw [e8, ex, gs, ec, e1]
          exact ⟨fun c => absurd (by rw [c1]) c, fun _ => ⟨hin, hA⟩⟩
      · have n1 : ¬ nI (sd v) = nI (q_b o) := by rw [q_eq (by omega) (by omega)]; exact c1
        by_cases c2 : sd v = 2
        · refine ⟨M1, q_RI_s hI (fun a b hn => rfl) ?_ ?_ ?_ ?_, fun M' hA => sg_Vo_remember_a_12 ⟨fun c => absurd c (q_nle e0 (by omega) (by omega)), fun _ => ⟨by rw [e8]; exact hin2, ?_⟩⟩⟩
          · rw [g5]; simp [q_rm, c2, c12]
          · show M1 22 v = _
            rw [g6]; simp [q_rm, c2, c12]
          · show M1 23 v = _
            rw [g7]; simp [q_rm, c2, c12]
          · show M1 24 v = _
            rw [g8]; simp [q_rm, c2, c12]
          · rw [e8, ex, gs, e1]
            exact ⟨fun _ => ⟨fun _ => hA, fun c => absurd (by rw [c2]; rfl) c⟩, fun c => absurd c n1⟩
        · have n2 : ¬ nI (sd v) = (2 : Int32) := by rw [show (2 : Int32) = nI 2 from rfl, q_eq (by omega) (by omega)]; exact c2
          have hz : (zu M1 22 v (nI (V 1 v + 1))) 22 v = nI (V 1 v + 1) := by rw [zu_at, if_pos ⟨rfl, rfl⟩]
          by_cases c3 : V 1 v + 1 < 3
          · have c3' : ¬ (3 ≤ V 1 v + 1) := by omega
            refine ⟨zu (zu M1 24 v (nI (V 3 v + 1))) 22 v (nI (V 1 v + 1)), q_RI_s hI (fun a b hn => by rw [zu_at, if_neg (by omega), zu_at, if_neg (by omega)]) ?_ ?_ ?_ ?_, fun M' hA => sg_Vo_remember_a_12 ⟨fun c => absurd c (q_nle e0 (by omega) (by omega)), fun _ => ⟨by rw [e8]; exact hin2, ?_⟩⟩⟩
            · rw [zu_at, if_neg (by omega), zu_at, if_neg (by omega), g5]; simp [q_rm, c1, c2, c3']
            · rw [zu_at, if_pos ⟨rfl, rfl⟩]; simp [q_rm, c1, c2, c3']
            · rw [zu_at, if_neg (by omega), zu_at, if_neg (by omega), g7]; simp [q_rm, c1, c2, c3']
            · rw [zu_at, if_neg (by omega), zu_at, if_pos ⟨rfl, rfl⟩]; simp [q_rm, c1, c2, c3']
            · rw [e8, ex, gs, ec, e1, g6, g8, eg, et, hz]
              exact ⟨fun _ => ⟨fun c => absurd c n2, fun _ => ⟨hin, hin, hin, hin, hin, fun _ => hA, fun c => absurd ((q_lt (b := 3) (by omega) (by omega)).mpr c3) c⟩⟩, fun c => absurd c n1⟩
          · have c3' : 3 ≤ V 1 v + 1 := by omega
            have c3s : ¬ nI (V 1 v + 1) < (3 : Int32) := fun q => c3 ((q_lt (b := 3) (by omega) (by omega)).mp q)
            refine ⟨zu (zu (zu (zu (zu M1 24 v (nI (V 3 v + 1))) 22 v (nI (V 1 v + 1))) 21 v (nI (7 - V 0 v))) 23 v (nI (V 2 v + 1))) 22 v 0, q_RI_s hI (fun a b hn => by simp only [zu_at]; rw [if_neg (by omega), if_neg (by omega), if_neg (by omega), if_neg (by omega), if_neg (by omega)]) ?_ ?_ ?_ ?_, fun M' hA => sg_Vo_remember_a_12 ⟨fun c => absurd c (q_nle e0 (by omega) (by omega)), fun _ => ⟨by rw [e8]; exact hin2, ?_⟩⟩⟩
            · simp [zu_at, q_rm, c1, c2, c3']
            · simp [zu_at, q_rm, c1, c2, c3']; rfl
            · simp [zu_at, q_rm, c1, c2, c3']
            · simp [zu_at, q_rm, c1, c2, c3']
            · rw [e8, ex, gs, ec, e1, g5, g6, g7, g8, eg, et, ek, efl, hz]
              exact ⟨fun _ => ⟨fun c => absurd c n2, fun _ => ⟨hin, hin, hin, hin, hin, fun c => absurd c c3s, fun _ => ⟨hin, hin, hin, hin, hin, hA⟩⟩⟩, fun c => absurd c n1⟩
    · obtain ⟨hI2, hgo⟩ := h2
      obtain ⟨M', hA, hP⟩ := ih (v + 1) M2 _ (by omega) hI2
      exact ⟨M', hgo M' hA, hP⟩
theorem q_rem_a {X : zX} {M : zM} {nv m pb : Nat} {V : q_N} {sd : Nat → Nat} (hnv : nv ≤ 8) (h0 : M 5 0 = nI nv) (hm : m < 12) (hpb : pb < 2 ^ 31) (hp : M 16 4 = nI pb) (hsd : ∀ v, v < nv → M 17 (8 * m + v) = nI (sd v) ∧ sd v ≤ 2) (hV : ∀ v, v < nv → M 21 v = nI (V 0 v) ∧ V 0 v < 8 ∧ M 22 v = nI (V 1 v) ∧ V 1 v < 3 ∧ M 23 v = nI (V 2 v) ∧ M 24 v = nI (V 3 v)) : ∃ M', Call X 12 [.ref 16, .ref 5, .int (nI m)] M [] M' ∧ q_RI 21 (fun u => q_rm (sd u) (q_b (pb.testBit m)) (V 0 u) (V 1 u) (V 2 u) (V 3 u)) nv M M' := by
  obtain ⟨M', hA, hP⟩ := q_remL_a (X := X) (o := pb.testBit m) hnv h0 hm hsd hV nv 0 M none (by omega) ⟨q_fr_rf, fun u hu => by omega⟩
  refine ⟨M', Call.of (Nat.le_of_ble_eq_true rfl) (sg_Vo_remember_a_0 ⟨_, _, c_Fv_bit, ?_⟩), hP⟩
  rw [hp, q_bit M hpb (by omega)]
  exact hA
theorem q_remL_b {X : zX} {M : zM} {nv m : Nat} {V : q_N} {sd : Nat → Nat} {o : Bool} (hnv : nv ≤ 8) (h0 : M 25 0 = nI nv) (hm : m < 12) (hsd : ∀ v, v < nv → M 37 (8 * m + v) = nI (sd v) ∧ sd v ≤ 2) (hV : ∀ v, v < nv → M 41 v = nI (V 0 v) ∧ V 0 v < 8 ∧ M 42 v = nI (V 1 v) ∧ V 1 v < 3 ∧ M 43 v = nI (V 2 v) ∧ M 44 v = nI (V 3 v)) : ∀ (d v : Nat) (M1 : zM) (l5 : Option Value), v + d = nv → q_RI 41 (fun u => q_rm (sd u) (q_b o) (V 0 u) (V 1 u) (V 2 u) (V 3 u)) v M M1 → ∃ M', At X 12 12 [some (.ref 36), some (.ref 25), some (.int (nI m)), some (.int (nI (q_b o))), some (.int (nI v)), l5] [] M1 [] M' ∧ q_RI 41 (fun u => q_rm (sd u) (q_b o) (V 0 u) (V 1 u) (V 2 u) (V 3 u)) nv M M' := by
  intro d
  induction d with
  | zero =>
    intro v M1 l5 hv hI
    have hv : v = nv := by omega
    subst hv
    have e0 : M1 25 0 = nI v := by rw [hI.1 25 0 (by unfold q_DR; omega)]; exact h0
    exact ⟨M1, sg_Vo_remember_b_12 ⟨fun _ => ⟨rfl, rfl⟩, fun c => absurd (q_yle e0 (Nat.le_refl _) (by omega)) c⟩, hI⟩
  | succ d ih =>
    intro v M1 l5 hv hI
    have hlt : v < nv := by omega
    have e0 : M1 25 0 = nI nv := by rw [hI.1 25 0 (by unfold q_DR; omega)]; exact h0
    obtain ⟨s1, s2⟩ := hsd v hlt
    obtain ⟨v1, v2, v3, v4, v5, v6⟩ := hV v hlt
    have gs : M1 37 (8 * m + v) = nI (sd v) := by rw [hI.1 37 _ (by unfold q_DR; omega)]; exact s1
    have g5 : M1 41 v = nI (V 0 v) := by rw [hI.1 41 _ (by unfold q_DR; omega)]; exact v1
    have g6 : M1 42 v = nI (V 1 v) := by rw [hI.1 42 _ (by unfold q_DR; omega)]; exact v3
    have g7 : M1 43 v = nI (V 2 v) := by rw [hI.1 43 _ (by unfold q_DR; omega)]; exact v5
    have g8 : M1 44 v = nI (V 3 v) := by rw [hI.1 44 _ (by unfold q_DR; omega)]; exact v6
    have hin : vp_in (nI v) 8 := q_in (by omega) (by omega)
    have hin2 : vp_in (nI (8 * m + v)) 96 := q_in (by omega) (by omega)
    have ec : (nI v).toNatClampNeg = v := q_cl (by omega)
    have ex : (nI (8 * m + v)).toNatClampNeg = 8 * m + v := q_cl (by omega)
    have e8 := q_ix8 hm (show v < 8 by omega)
    have e1 : nI v + (1 : Int32) = nI (v + 1) := nI_1 v
    have ob := q_b_lt o
    have c12 : ¬ 2 = q_b o := by omega
    have eg : nI (V 1 v) + (1 : Int32) = nI (V 1 v + 1) := nI_1 _
    have et : nI (V 3 v) + (1 : Int32) = nI (V 3 v + 1) := nI_1 _
    have ek : nI (V 2 v) + (1 : Int32) = nI (V 2 v + 1) := nI_1 _
    have efl := q_flip ⟨V 0 v, v2⟩
    dsimp only at efl
    refine (?_ : ∃ M2, q_RI 41 (fun u => q_rm (sd u) (q_b o) (V 0 u) (V 1 u) (V 2 u) (V 3 u)) (v + 1) M M2 ∧ (∀ M' : zM, At X 12 12 [some (.ref 36), some (.ref 25), some (.int (nI m)), some (.int (nI (q_b o))), some (.int (nI (v + 1))), some (.int (nI (sd v)))] [] M2 [] M' → At X 12 12 [some (.ref 36), some (.ref 25), some (.int (nI m)), some (.int (nI (q_b o))), some (.int (nI v)), l5] [] M1 [] M')).elim (fun M2 h2 => ?_)
    · by_cases c1 : sd v = q_b o
      · refine ⟨zu M1 42 v 0, q_RI_s hI (fun a b hn => by rw [zu_at, if_neg (by omega)]) ?_ ?_ ?_ ?_, fun M' hA => sg_Vo_remember_b_12 ⟨fun c => absurd c (q_nle e0 (by omega) (by omega)), fun _ => ⟨by rw [e8]; exact hin2, ?_⟩⟩⟩
        · rw [zu_at, if_neg (by omega), g5]; simp [q_rm, c1]
        · rw [zu_at, if_pos ⟨rfl, rfl⟩]; simp [q_rm, c1]; rfl
        · rw [zu_at, if_neg (by omega), g7]; simp [q_rm, c1]
        · rw [zu_at, if_neg (by omega), g8]; simp [q_rm, c1]
        · rw [e8, ex, gs, ec, e1]
          exact ⟨fun c => absurd (by rw [c1]) c, fun _ => ⟨hin, hA⟩⟩
      · have n1 : ¬ nI (sd v) = nI (q_b o) := by rw [q_eq (by omega) (by omega)]; exact c1
        by_cases c2 : sd v = 2
        · refine ⟨M1, q_RI_s hI (fun a b hn => rfl) ?_ ?_ ?_ ?_, fun M' hA => sg_Vo_remember_b_12 ⟨fun c => absurd c (q_nle e0 (by omega) (by omega)), fun _ => ⟨by rw [e8]; exact hin2, ?_⟩⟩⟩
          · rw [g5]; simp [q_rm, c2, c12]
          · show M1 42 v = _
            rw [g6]; simp [q_rm, c2, c12]
          · show M1 43 v = _
            rw [g7]; simp [q_rm, c2, c12]
          · show M1 44 v = _
            rw [g8]; simp [q_rm, c2, c12]
          · rw [e8, ex, gs, e1]
            exact ⟨fun _ => ⟨fun _ => hA, fun c => absurd (by rw [c2]; rfl) c⟩, fun c => absurd c n1⟩
        · have n2 : ¬ nI (sd v) = (2 : Int32) := by rw [show (2 : Int32) = nI 2 from rfl, q_eq (by omega) (by omega)]; exact c2
          have hz : (zu M1 42 v (nI (V 1 v + 1))) 42 v = nI (V 1 v + 1) := by rw [zu_at, if_pos ⟨rfl, rfl⟩]
          by_cases c3 : V 1 v + 1 < 3
          · have c3' : ¬ (3 ≤ V 1 v + 1) := by omega
            refine ⟨zu (zu M1 44 v (nI (V 3 v + 1))) 42 v (nI (V 1 v + 1)), q_RI_s hI (fun a b hn => by rw [zu_at, if_neg (by omega), zu_at, if_neg (by omega)]) ?_ ?_ ?_ ?_, fun M' hA => sg_Vo_remember_b_12 ⟨fun c => absurd c (q_nle e0 (by omega) (by omega)), fun _ => ⟨by rw [e8]; exact hin2, ?_⟩⟩⟩
            · rw [zu_at, if_neg (by omega), zu_at, if_neg (by omega), g5]; simp [q_rm, c1, c2, c3']
            · rw [zu_at, if_pos ⟨rfl, rfl⟩]; simp [q_rm, c1, c2, c3']
            · rw [zu_at, if_neg (by omega), zu_at, if_neg (by omega), g7]; simp [q_rm, c1, c2, c3']
            · rw [zu_at, if_neg (by omega), zu_at, if_pos ⟨rfl, rfl⟩]; simp [q_rm, c1, c2, c3']
            · rw [e8, ex, gs, ec, e1, g6, g8, eg, et, hz]
              exact ⟨fun _ => ⟨fun c => absurd c n2, fun _ => ⟨hin, hin, hin, hin, hin, fun _ => hA, fun c => absurd ((q_lt (b := 3) (by omega) (by omega)).mpr c3) c⟩⟩, fun c => absurd c n1⟩
          · have c3' : 3 ≤ V 1 v + 1 := by omega
            have c3s : ¬ nI (V 1 v + 1) < (3 : Int32) := fun q => c3 ((q_lt (b := 3) (by omega) (by omega)).mp q)
            refine ⟨zu (zu (zu (zu (zu M1 44 v (nI (V 3 v + 1))) 42 v (nI (V 1 v + 1))) 41 v (nI (7 - V 0 v))) 43 v (nI (V 2 v + 1))) 42 v 0, q_RI_s hI (fun a b hn => by simp only [zu_at]; rw [if_neg (by omega), if_neg (by omega), if_neg (by omega), if_neg (by omega), if_neg (by omega)]) ?_ ?_ ?_ ?_, fun M' hA => sg_Vo_remember_b_12 ⟨fun c => absurd c (q_nle e0 (by omega) (by omega)), fun _ => ⟨by rw [e8]; exact hin2, ?_⟩⟩⟩
            · simp [zu_at, q_rm, c1, c2, c3']
            · simp [zu_at, q_rm, c1, c2, c3']; rfl
            · simp [zu_at, q_rm, c1, c2, c3']
            · simp [zu_at, q_rm, c1, c2, c3']
            · rw [e8, ex, gs, ec, e1, g5, g6, g7, g8, eg, et, ek, efl, hz]
              exact ⟨fun _ => ⟨fun c => absurd c n2, fun _ => ⟨hin, hin, hin, hin, hin, fun c => absurd c c3s, fun _ => ⟨hin, hin, hin, hin, hin, hA⟩⟩⟩, fun c => absurd c n1⟩
    · obtain ⟨hI2, hgo⟩ := h2
      obtain ⟨M', hA, hP⟩ := ih (v + 1) M2 _ (by omega) hI2
      exact ⟨M', hgo M' hA, hP⟩
theorem q_rem_b {X : zX} {M : zM} {nv m pb : Nat} {V : q_N} {sd : Nat → Nat} (hnv : nv ≤ 8) (h0 : M 25 0 = nI nv) (hm : m < 12) (hpb : pb < 2 ^ 31) (hp : M 36 4 = nI pb) (hsd : ∀ v, v < nv → M 37 (8 * m + v) = nI (sd v) ∧ sd v ≤ 2) (hV : ∀ v, v < nv → M 41 v = nI (V 0 v) ∧ V 0 v < 8 ∧ M 42 v = nI (V 1 v) ∧ V 1 v < 3 ∧ M 43 v = nI (V 2 v) ∧ M 44 v = nI (V 3 v)) : ∃ M', Call X 12 [.ref 36, .ref 25, .int (nI m)] M [] M' ∧ q_RI 41 (fun u => q_rm (sd u) (q_b (pb.testBit m)) (V 0 u) (V 1 u) (V 2 u) (V 3 u)) nv M M' := by
  obtain ⟨M', hA, hP⟩ := q_remL_b (X := X) (o := pb.testBit m) hnv h0 hm hsd hV nv 0 M none (by omega) ⟨q_fr_rf, fun u hu => by omega⟩
  refine ⟨M', Call.of (Nat.le_of_ble_eq_true rfl) (sg_Vo_remember_b_0 ⟨_, _, c_Fv_bit, ?_⟩), hP⟩
  rw [hp, q_bit M hpb (by omega)]
  exact hA
theorem q_remL_c {X : zX} {M : zM} {nv m : Nat} {V : q_N} {sd : Nat → Nat} {o : Bool} (hnv : nv ≤ 8) (h0 : M 5 0 = nI nv) (hm : m < 12) (hsd : ∀ v, v < nv → M 37 (8 * m + v) = nI (sd v) ∧ sd v ≤ 2) (hV : ∀ v, v < nv → M 41 v = nI (V 0 v) ∧ V 0 v < 8 ∧ M 42 v = nI (V 1 v) ∧ V 1 v < 3 ∧ M 43 v = nI (V 2 v) ∧ M 44 v = nI (V 3 v)) : ∀ (d v : Nat) (M1 : zM) (l5 : Option Value), v + d = nv → q_RI 41 (fun u => q_rm (sd u) (q_b o) (V 0 u) (V 1 u) (V 2 u) (V 3 u)) v M M1 → ∃ M', At X 12 12 [some (.ref 36), some (.ref 5), some (.int (nI m)), some (.int (nI (q_b o))), some (.int (nI v)), l5] [] M1 [] M' ∧ q_RI 41 (fun u => q_rm (sd u) (q_b o) (V 0 u) (V 1 u) (V 2 u) (V 3 u)) nv M M' := by
  intro d
  induction d with
  | zero =>
    intro v M1 l5 hv hI
    have hv : v = nv := by omega
    subst hv
    have e0 : M1 5 0 = nI v := by rw [hI.1 5 0 (by unfold q_DR; omega)]; exact h0
    exact ⟨M1, sg_Vo_remember_c_12 ⟨fun _ => ⟨rfl, rfl⟩, fun c => absurd (q_yle e0 (Nat.le_refl _) (by omega)) c⟩, hI⟩
  | succ d ih =>
    intro v M1 l5 hv hI
    have hlt : v < nv := by omega
    have e0 : M1 5 0 = nI nv := by rw [hI.1 5 0 (by unfold q_DR; omega)]; exact h0
    obtain ⟨s1, s2⟩ := hsd v hlt
    obtain ⟨v1, v2, v3, v4, v5, v6⟩ := hV v hlt
    have gs : M1 37 (8 * m + v) = nI (sd v) := by rw [hI.1 37 _ (by unfold q_DR; omega)]; exact s1
    have g5 : M1 41 v = nI (V 0 v) := by rw [hI.1 41 _ (by unfold q_DR; omega)]; exact v1
    have g6 : M1 42 v = nI (V 1 v) := by rw [hI.1 42 _ (by unfold q_DR; omega)]; exact v3
    have g7 : M1 43 v = nI (V 2 v) := by rw [hI.1 43 _ (by unfold q_DR; omega)]; exact v5
    have g8 : M1 44 v = nI (V 3 v) := by rw [hI.1 44 _ (by unfold q_DR; omega)]; exact v6
    have hin : vp_in (nI v) 8 := q_in (by omega) (by omega)
    have hin2 : vp_in (nI (8 * m + v)) 96 := q_in (by omega) (by omega)
    have ec : (nI v).toNatClampNeg = v := q_cl (by omega)
    have ex : (nI (8 * m + v)).toNatClampNeg = 8 * m + v := q_cl (by omega)
    have e8 := q_ix8 hm (show v < 8 by omega)
    have e1 : nI v + (1 : Int32) = nI (v + 1) := nI_1 v
    have ob := q_b_lt o
    have c12 : ¬ 2 = q_b o := by omega
    have eg : nI (V 1 v) + (1 : Int32) = nI (V 1 v + 1) := nI_1 _
    have et : nI (V 3 v) + (1 : Int32) = nI (V 3 v + 1) := nI_1 _
    have ek : nI (V 2 v) + (1 : Int32) = nI (V 2 v + 1) := nI_1 _
    have efl := q_flip ⟨V 0 v, v2⟩
    dsimp only at efl
    refine (?_ : ∃ M2, q_RI 41 (fun u => q_rm (sd u) (q_b o) (V 0 u) (V 1 u) (V 2 u) (V 3 u)) (v + 1) M M2 ∧ (∀ M' : zM, At X 12 12 [some (.ref 36), some (.ref 5), some (.int (nI m)), some (.int (nI (q_b o))), some (.int (nI (v + 1))), some (.int (nI (sd v)))] [] M2 [] M' → At X 12 12 [some (.ref 36), some (.ref 5), some (.int (nI m)), some (.int (nI (q_b o))), some (.int (nI v)), l5] [] M1 [] M')).elim (fun M2 h2 => ?_)
    · by_cases c1 : sd v = q_b o
      · refine ⟨zu M1 42 v 0, q_RI_s hI (fun a b hn => by rw [zu_at, if_neg (by omega)]) ?_ ?_ ?_ ?_, fun M' hA => sg_Vo_remember_c_12 ⟨fun c => absurd c (q_nle e0 (by omega) (by omega)), fun _ => ⟨by rw [e8]; exact hin2, ?_⟩⟩⟩
        · rw [zu_at, if_neg (by omega), g5]; simp [q_rm, c1]
        · rw [zu_at, if_pos ⟨rfl, rfl⟩]; simp [q_rm, c1]; rfl
        · rw [zu_at, if_neg (by omega), g7]; simp [q_rm, c1]
        · rw [zu_at, if_neg (by omega), g8]; simp [q_rm, c1]
        · rw [e8, ex, gs, ec, e1]
          exact ⟨fun c => absurd (by rw [c1]) c, fun _ => ⟨hin, hA⟩⟩
      · have n1 : ¬ nI (sd v) = nI (q_b o) := by rw [q_eq (by omega) (by omega)]; exact c1
        by_cases c2 : sd v = 2
        · refine ⟨M1, q_RI_s hI (fun a b hn => rfl) ?_ ?_ ?_ ?_, fun M' hA => sg_Vo_remember_c_12 ⟨fun c => absurd c (q_nle e0 (by omega) (by omega)), fun _ => ⟨by rw [e8]; exact hin2, ?_⟩⟩⟩
          · rw [g5]; simp [q_rm, c2, c12]
          · show M1 42 v = _
            rw [g6]; simp [q_rm, c2, c12]
          · show M1 43 v = _
            rw [g7]; simp [q_rm, c2, c12]
          · show M1 44 v = _
            rw [g8]; simp [q_rm, c2, c12]
          · rw [e8, ex, gs, e1]
            exact ⟨fun _ => ⟨fun _ => hA, fun c => absurd (by rw [c2]; rfl) c⟩, fun c => absurd c n1⟩
        · have n2 : ¬ nI (sd v) = (2 : Int32) := by rw [show (2 : Int32) = nI 2 from rfl, q_eq (by omega) (by omega)]; exact c2
          have hz : (zu M1 42 v (nI (V 1 v + 1))) 42 v = nI (V 1 v + 1) := by rw [zu_at, if_pos ⟨rfl, rfl⟩]
          by_cases c3 : V 1 v + 1 < 3
          · have c3' : ¬ (3 ≤ V 1 v + 1) := by omega
            refine ⟨zu (zu M1 44 v (nI (V 3 v + 1))) 42 v (nI (V 1 v + 1)), q_RI_s hI (fun a b hn => by rw [zu_at, if_neg (by omega), zu_at, if_neg (by omega)]) ?_ ?_ ?_ ?_, fun M' hA => sg_Vo_remember_c_12 ⟨fun c => absurd c (q_nle e0 (by omega) (by omega)), fun _ => ⟨by rw [e8]; exact hin2, ?_⟩⟩⟩
            · rw [zu_at, if_neg (by omega), zu_at, if_neg (by omega), g5]; simp [q_rm, c1, c2, c3']
            · rw [zu_at, if_pos ⟨rfl, rfl⟩]; simp [q_rm, c1, c2, c3']
            · rw [zu_at, if_neg (by omega), zu_at, if_neg (by omega), g7]; simp [q_rm, c1, c2, c3']
            · rw [zu_at, if_neg (by omega), zu_at, if_pos ⟨rfl, rfl⟩]; simp [q_rm, c1, c2, c3']
            · rw [e8, ex, gs, ec, e1, g6, g8, eg, et, hz]
              exact ⟨fun _ => ⟨fun c => absurd c n2, fun _ => ⟨hin, hin, hin, hin, hin, fun _ => hA, fun c => absurd ((q_lt (b := 3) (by omega) (by omega)).mpr c3) c⟩⟩, fun c => absurd c n1⟩
          · have c3' : 3 ≤ V 1 v + 1 := by omega
            have c3s : ¬ nI (V 1 v + 1) < (3 : Int32) := fun q => c3 ((q_lt (b := 3) (by omega) (by omega)).mp q)
            refine ⟨zu (zu (zu (zu (zu M1 44 v (nI (V 3 v + 1))) 42 v (nI (V 1 v + 1))) 41 v (nI (7 - V 0 v))) 43 v (nI (V 2 v + 1))) 42 v 0, q_RI_s hI (fun a b hn => by simp only [zu_at]; rw [if_neg (by omega), if_neg (by omega), if_neg (by omega), if_neg (by omega), if_neg (by omega)]) ?_ ?_ ?_ ?_, fun M' hA => sg_Vo_remember_c_12 ⟨fun c => absurd c (q_nle e0 (by omega) (by omega)), fun _ => ⟨by rw [e8]; exact hin2, ?_⟩⟩⟩
            · simp [zu_at, q_rm, c1, c2, c3']
            · simp [zu_at, q_rm, c1, c2, c3']; rfl
            · simp [zu_at, q_rm, c1, c2, c3']
            · simp [zu_at, q_rm, c1, c2, c3']
            · rw [e8, ex, gs, ec, e1, g5, g6, g7, g8, eg, et, ek, efl, hz]
              exact ⟨fun _ => ⟨fun c => absurd c n2, fun _ => ⟨hin, hin, hin, hin, hin, fun c => absurd c c3s, fun _ => ⟨hin, hin, hin, hin, hin, hA⟩⟩⟩, fun c => absurd c n1⟩
    · obtain ⟨hI2, hgo⟩ := h2
      obtain ⟨M', hA, hP⟩ := ih (v + 1) M2 _ (by omega) hI2
      exact ⟨M', hgo M' hA, hP⟩
theorem q_rem_c {X : zX} {M : zM} {nv m pb : Nat} {V : q_N} {sd : Nat → Nat} (hnv : nv ≤ 8) (h0 : M 5 0 = nI nv) (hm : m < 12) (hpb : pb < 2 ^ 31) (hp : M 36 4 = nI pb) (hsd : ∀ v, v < nv → M 37 (8 * m + v) = nI (sd v) ∧ sd v ≤ 2) (hV : ∀ v, v < nv → M 41 v = nI (V 0 v) ∧ V 0 v < 8 ∧ M 42 v = nI (V 1 v) ∧ V 1 v < 3 ∧ M 43 v = nI (V 2 v) ∧ M 44 v = nI (V 3 v)) : ∃ M', Call X 12 [.ref 36, .ref 5, .int (nI m)] M [] M' ∧ q_RI 41 (fun u => q_rm (sd u) (q_b (pb.testBit m)) (V 0 u) (V 1 u) (V 2 u) (V 3 u)) nv M M' := by
  obtain ⟨M', hA, hP⟩ := q_remL_c (X := X) (o := pb.testBit m) hnv h0 hm hsd hV nv 0 M none (by omega) ⟨q_fr_rf, fun u hu => by omega⟩
  refine ⟨M', Call.of (Nat.le_of_ble_eq_true rfl) (sg_Vo_remember_c_0 ⟨_, _, c_Fv_bit, ?_⟩), hP⟩
  rw [hp, q_bit M hpb (by omega)]
  exact hA
