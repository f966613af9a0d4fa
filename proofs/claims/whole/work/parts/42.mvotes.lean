/-! comesOut -/
theorem q_7sub {l : Nat} (h : l < 8) : (7 : Int32) - nI l = nI (7 - l) := pk_sub (a := 7) (by omega)
theorem q_coL {X : zX} {M : zM} {nv m : Nat} {V : q_N} {sd : Nat → Nat} {o : Bool} (hnv : nv ≤ 8) (h0 : M 53 7 = nI nv) (hm : m < 12) (hsd : ∀ v, v < nv → M 69 (8 * m + v) = nI (sd v) ∧ sd v ≤ 2) (hV : ∀ v, v < nv → M 65 v = nI (V 0 v) ∧ V 0 v < 8 ∧ M 66 v = nI (V 1 v) ∧ V 1 v < 3 ∧ M 67 v = nI (V 2 v) ∧ M 68 v = nI (V 3 v)) : ∀ (d v : Nat) (M1 : zM) (l4 : Option Value), v + d = nv → q_RI 65 (fun u => q_rm (sd u) (q_b o) (V 0 u) (V 1 u) (V 2 u) (V 3 u)) v M M1 → ∃ M', At X 112 17 [some (.ref 53), some (.int (nI m)), some (.int (nI (q_b o))), some (.int (nI v)), l4] [] M1 [] M' ∧ q_RI 65 (fun u => q_rm (sd u) (q_b o) (V 0 u) (V 1 u) (V 2 u) (V 3 u)) nv M M' := by
  intro d
  induction d with
  | zero =>
    intro v M1 l4 hv hI
    have hv : v = nv := by omega
    subst hv
    have e0 : M1 53 7 = nI v := by rw [hI.1 53 7 (by unfold q_DR; omega)]; exact h0
    exact ⟨M1, sg_Mo_comesOut_17 ⟨fun _ => ⟨rfl, rfl⟩, fun c => absurd (q_yle e0 (Nat.le_refl _) (by omega)) c⟩, hI⟩
  | succ d ih =>
    intro v M1 l4 hv hI
    have hlt : v < nv := by omega
    have e0 : M1 53 7 = nI nv := by rw [hI.1 53 7 (by unfold q_DR; omega)]; exact h0
    obtain ⟨s1, s2⟩ := hsd v hlt
    obtain ⟨v1, v2, v3, v4, v5, v6⟩ := hV v hlt
    have gs : M1 69 (8 * m + v) = nI (sd v) := by rw [hI.1 69 _ (by unfold q_DR; omega)]; exact s1
    have g5 : M1 65 v = nI (V 0 v) := by rw [hI.1 65 _ (by unfold q_DR; omega)]; exact v1
    have g6 : M1 66 v = nI (V 1 v) := by rw [hI.1 66 _ (by unfold q_DR; omega)]; exact v3
    have g7 : M1 67 v = nI (V 2 v) := by rw [hI.1 67 _ (by unfold q_DR; omega)]; exact v5
    have g8 : M1 68 v = nI (V 3 v) := by rw [hI.1 68 _ (by unfold q_DR; omega)]; exact v6
    have hin : vp_in (nI v) 8 := q_in (by omega) (by omega)
    have hin2 : vp_in (nI (8 * m + v)) 96 := q_in (by omega) (by omega)
    have ec : (nI v).toNatClampNeg = v := q_cl (by omega)
    have ex : (nI (8 * m + v)).toNatClampNeg = 8 * m + v := q_cl (by omega)
    have e8 := q_ix8' hm (show v < 8 by omega)
    have e1 : nI v + (1 : Int32) = nI (v + 1) := nI_1 v
    have ob := q_b_lt o
    have c12 : ¬ 2 = q_b o := by omega
    have eg : nI (V 1 v) + (1 : Int32) = nI (V 1 v + 1) := nI_1 _
    have et : nI (V 3 v) + (1 : Int32) = nI (V 3 v + 1) := nI_1 _
    have ek : nI (V 2 v) + (1 : Int32) = nI (V 2 v + 1) := nI_1 _
    have efl := q_7sub v2
    have ng3 : ∀ x : Nat, x < 3 → ¬ nI x = (3 : Int32) := fun x hx q => by have := (q_eq (b := 3) (by omega) (by omega)).mp q; omega
    refine (?_ : ∃ M2, q_RI 65 (fun u => q_rm (sd u) (q_b o) (V 0 u) (V 1 u) (V 2 u) (V 3 u)) (v + 1) M M2 ∧ (∀ M' : zM, At X 112 17 [some (.ref 53), some (.int (nI m)), some (.int (nI (q_b o))), some (.int (nI (v + 1))), some (.int (nI (sd v)))] [] M2 [] M' → At X 112 17 [some (.ref 53), some (.int (nI m)), some (.int (nI (q_b o))), some (.int (nI v)), l4] [] M1 [] M')).elim (fun M2 h2 => ?_)
    · by_cases c1 : sd v = q_b o
      · refine ⟨zu M1 66 v 0, q_RI_s hI (fun a b hn => by rw [zu_at, if_neg (by omega)]) ?_ ?_ ?_ ?_, fun M' hA => sg_Mo_comesOut_17 ⟨fun c => absurd c (q_nle e0 (by omega) (by omega)), fun _ => ⟨by rw [e8]; exact hin2, ?_⟩⟩⟩
        · rw [zu_at, if_neg (by omega), g5]; simp [q_rm, c1]
        · rw [zu_at, if_pos ⟨rfl, rfl⟩]; simp [q_rm, c1]; rfl
        · rw [zu_at, if_neg (by omega), g7]; simp [q_rm, c1]
        · rw [zu_at, if_neg (by omega), g8]; simp [q_rm, c1]
        · have hz : (zu M1 66 v (0 : Int32)) 66 v = 0 := by rw [zu_at, if_pos ⟨rfl, rfl⟩]
          rw [e8, ex, gs, ec, e1, hz]
          exact ⟨fun c => absurd (by rw [c1]) c, fun _ => ⟨hin, hin, fun _ => hA, fun c => absurd c (by decide)⟩⟩
      · have n1 : ¬ nI (sd v) = nI (q_b o) := by rw [q_eq (by omega) (by omega)]; exact c1
        by_cases c2 : sd v = 2
        · refine ⟨M1, q_RI_s hI (fun a b hn => rfl) ?_ ?_ ?_ ?_, fun M' hA => sg_Mo_comesOut_17 ⟨fun c => absurd c (q_nle e0 (by omega) (by omega)), fun _ => ⟨by rw [e8]; exact hin2, ?_⟩⟩⟩
          · rw [g5]; simp [q_rm, c2, c12]
          · show M1 66 v = _
            rw [g6]; simp [q_rm, c2, c12]
          · show M1 67 v = _
            rw [g7]; simp [q_rm, c2, c12]
          · show M1 68 v = _
            rw [g8]; simp [q_rm, c2, c12]
          · rw [e8, ex, gs, e1, ec, g6]
            exact ⟨fun _ => ⟨fun _ => ⟨hin, fun _ => hA, fun c => absurd c (ng3 _ v4)⟩, fun c => absurd (by rw [c2]; rfl) c⟩, fun c => absurd c n1⟩
        · have n2 : ¬ nI (sd v) = (2 : Int32) := by rw [show (2 : Int32) = nI 2 from rfl, q_eq (by omega) (by omega)]; exact c2
          have hz : (zu M1 66 v (nI (V 1 v + 1))) 66 v = nI (V 1 v + 1) := by rw [zu_at, if_pos ⟨rfl, rfl⟩]
          by_cases c3 : V 1 v + 1 < 3
          · have c3' : ¬ (3 ≤ V 1 v + 1) := by omega
            refine ⟨zu (zu M1 68 v (nI (V 3 v + 1))) 66 v (nI (V 1 v + 1)), q_RI_s hI (fun a b hn => by rw [zu_at, if_neg (by omega), zu_at, if_neg (by omega)]) ?_ ?_ ?_ ?_, fun M' hA => sg_Mo_comesOut_17 ⟨fun c => absurd c (q_nle e0 (by omega) (by omega)), fun _ => ⟨by rw [e8]; exact hin2, ?_⟩⟩⟩
            · rw [zu_at, if_neg (by omega), zu_at, if_neg (by omega), g5]; simp [q_rm, c1, c2, c3']
            · rw [zu_at, if_pos ⟨rfl, rfl⟩]; simp [q_rm, c1, c2, c3']
            · rw [zu_at, if_neg (by omega), zu_at, if_neg (by omega), g7]; simp [q_rm, c1, c2, c3']
            · rw [zu_at, if_neg (by omega), zu_at, if_pos ⟨rfl, rfl⟩]; simp [q_rm, c1, c2, c3']
            · rw [e8, ex, gs, ec, e1, g6, g8, eg, et, hz]
              exact ⟨fun _ => ⟨fun c => absurd c n2, fun _ => ⟨hin, hin, hin, hin, hin, fun _ => hA, fun c => absurd c (ng3 _ c3)⟩⟩, fun c => absurd c n1⟩
          · have c3' : 3 ≤ V 1 v + 1 := by omega
            have e33 : V 1 v + 1 = 3 := by omega
            refine ⟨zu (zu (zu (zu (zu M1 68 v (nI (V 3 v + 1))) 66 v (nI (V 1 v + 1))) 66 v 0) 65 v (nI (7 - V 0 v))) 67 v (nI (V 2 v + 1)), q_RI_s hI (fun a b hn => by simp only [zu_at]; rw [if_neg (by omega), if_neg (by omega), if_neg (by omega), if_neg (by omega), if_neg (by omega)]) ?_ ?_ ?_ ?_, fun M' hA => sg_Mo_comesOut_17 ⟨fun c => absurd c (q_nle e0 (by omega) (by omega)), fun _ => ⟨by rw [e8]; exact hin2, ?_⟩⟩⟩
            · simp [zu_at, q_rm, c1, c2, c3']
            · simp [zu_at, q_rm, c1, c2, c3']; rfl
            · simp [zu_at, q_rm, c1, c2, c3']
            · simp [zu_at, q_rm, c1, c2, c3']
            · rw [e8, ex, gs, ec, e1, g5, g6, g7, g8, eg, et, ek, efl, hz]
              exact ⟨fun _ => ⟨fun c => absurd c n2, fun _ => ⟨hin, hin, hin, hin, hin, fun c => absurd (by rw [e33]; rfl) c, fun _ => ⟨hin, hin, hin, hin, hin, hA⟩⟩⟩, fun c => absurd c n1⟩
    · obtain ⟨hI2, hgo⟩ := h2
      obtain ⟨M', hA, hP⟩ := ih (v + 1) M2 _ (by omega) hI2
      exact ⟨M', hgo M' hA, hP⟩
theorem c_Mo_comesOut {X : zX} {M : zM} {nv m : Nat} {V : q_N} {sd : Nat → Nat} {o : Bool} (hnv : nv ≤ 8) (h0 : M 53 7 = nI nv) (hm : m < 12) (ho : M 73 m = nI (q_b o)) (hsd : ∀ v, v < nv → M 69 (8 * m + v) = nI (sd v) ∧ sd v ≤ 2) (hV : ∀ v, v < nv → M 65 v = nI (V 0 v) ∧ V 0 v < 8 ∧ M 66 v = nI (V 1 v) ∧ V 1 v < 3 ∧ M 67 v = nI (V 2 v) ∧ M 68 v = nI (V 3 v)) : ∃ M', Call X 112 [.ref 53, .int (nI m)] M [] M' ∧ q_RI 65 (fun u => q_rm (sd u) (q_b o) (V 0 u) (V 1 u) (V 2 u) (V 3 u)) nv M M' := by
  obtain ⟨M', hA, hP⟩ := q_coL (X := X) (o := o) hnv h0 hm hsd hV nv 0 M none (by omega) ⟨q_fr_rf, fun u hu => by omega⟩
  refine ⟨M', Call.of (Nat.le_of_ble_eq_true rfl) (sg_Mo_comesOut_0 ⟨q_in hm (by omega), ?_⟩), hP⟩
  rw [q_cl (by omega), ho]
  have e : (if nI (q_b o) = 0 then (0 : Int32) else (1 : Int32)) = nI (q_b o) := by cases o <;> decide
  rw [e]
  exact hA
/-! votes -/
theorem q_mev_fr {M M1 : zM} {ne gone held : Nat} {K : q_N} (h : q_mev M ne gone held K) (h1 : M1 53 12 = M 53 12) (h2 : M1 53 14 = M 53 14) (h3 : M1 63 = M 63) : q_mev M1 ne gone held K := by
  obtain ⟨a1, a2, a3, a4, a5, a6⟩ := h
  exact ⟨by rw [h1]; exact a1, a2, by rw [h2]; exact a3, a4, a5, fun i hi => by rw [h3]; exact a6 i hi⟩
theorem q_mspL {X : zX} {M : zM} {I : q_N} {V : q_N} {m ne gone held : Nat} {K : q_N} {Z : zM → Prop} (hwf : q_wf I) (hm : m < I 5 0) (hmv : q_mv M I) (hme : q_mev M ne gone held K) (hV : ∀ v, v < I 0 0 → M 65 v = nI (V 0 v) ∧ V 0 v < 8)
    (hgo : ∀ (M1 : zM) (l8 l9 l10 : Option Value), q_SI 69 I (q_told ne held K) V m (I 0 0) M M1 → ∃ M', At X 113 48 [some (.ref 53), some (.int (nI m)), some (.int (nI (I 6 m))), some (.int (nI (q_tr I (q_told ne held K) m))), some (.int (q_lm (q_sp I (q_told ne held K) V m (I 0 0)).2.2)), some (.int (nI (q_ay I (q_told ne held K) V m))), some (.int (nI (q_no I (q_told ne held K) V m))), some (.int (nI (I 0 0))), l8, l9, l10] [] M1 [] M' ∧ Z M') :
    ∀ (d p : Nat) (M1 : zM) (l8 l9 l10 : Option Value), p + d = I 0 0 → q_SI 69 I (q_told ne held K) V m p M M1 → ∃ M', At X 113 48 [some (.ref 53), some (.int (nI m)), some (.int (nI (I 6 m))), some (.int (nI (q_tr I (q_told ne held K) m))), some (.int (q_lm (q_sp I (q_told ne held K) V m p).2.2)), some (.int (nI (q_sp I (q_told ne held K) V m p).1)), some (.int (nI (q_sp I (q_told ne held K) V m p).2.1)), some (.int (nI p)), l8, l9, l10] [] M1 [] M' ∧ Z M' := by
  obtain ⟨w1, w2, w3, w4, w5, w6, w7⟩ := hwf
  have hm12 : m < 12 := by omega
  have ht := q_tr_lt (E := q_told ne held K) (w5 m hm).2
  intro d
  induction d with
  | zero =>
    intro p M1 l8 l9 l10 hp hI
    have hp : p = I 0 0 := by omega
    subst hp
    exact hgo M1 l8 l9 l10 hI
  | succ d ih =>
    intro p M1 l8 l9 l10 hp hI
    have hlt : p < I 0 0 := by omega
    have fr : ∀ a b, a ≠ 69 → M1 a b = M a b := fun a b hn => hI.1 a b (by unfold q_DS; omega)
    have e0 : M1 53 7 = nI (I 0 0) := by rw [fr 53 7 (by omega)]; exact hmv.1
    obtain ⟨b1, b2, b3, b4⟩ := w2 p hlt
    have hv8 : I 4 p < 8 := by omega
    obtain ⟨c1, c2, c3, c4⟩ := w2 (I 4 p) b4
    have hme1 : q_mev M1 ne gone held K := q_mev_fr hme (fr _ _ (by omega)) (fr _ _ (by omega)) (by funext b; exact fr _ _ (by omega))
    generalize hE : q_told ne held K = E at *
    have g4 : M1 64 p = nI (I 4 p) := by rw [fr 64 p (by omega)]; exact (hmv.2 p hlt).2.2.2
    have g1 : M1 60 (3 * I 4 p) = nI (I 1 (I 4 p)) := by rw [fr 60 _ (by omega)]; exact (hmv.2 _ b4).1
    have g5 : M1 65 (I 4 p) = nI (V 0 (I 4 p)) := by rw [fr 65 _ (by omega)]; exact (hV _ b4).1
    have hin2 : vp_in (nI (8 * m + I 4 p)) 96 := q_in (by omega) (by omega)
    have ec : (nI p).toNatClampNeg = p := q_cl (by omega)
    have ex : (nI (8 * m + I 4 p)).toNatClampNeg = 8 * m + I 4 p := q_cl (by omega)
    have e8 := q_ix8' hm12 hv8
    have e1 : nI p + (1 : Int32) = nI (p + 1) := nI_1 p
    have hT := c_Mo_isTold (X := X) (kind := 2) (y := I 6 m) (v := I 4 p) hme1 (by omega) (w5 m hm).1 hv8
    rw [hE] at hT
    have hsp := q_sp_in I E V m p
    have hsd : q_sp I E V m (p + 1) = (if q_wd I E V m (I 4 p) (q_sp I E V m p).2.2 (q_sp I E V m p).1 (q_sp I E V m p).2.1 = 2 then q_sp I E V m p else ((q_sp I E V m p).1 + q_wd I E V m (I 4 p) (q_sp I E V m p).2.2 (q_sp I E V m p).1 (q_sp I E V m p).2.1, (q_sp I E V m p).2.1 + (1 - q_wd I E V m (I 4 p) (q_sp I E V m p).2.2 (q_sp I E V m p).1 (q_sp I E V m p).2.1), q_wd I E V m (I 4 p) (q_sp I E V m p).2.2 (q_sp I E V m p).1 (q_sp I E V m p).2.1)) := rfl
    have hwd : q_wd I E V m (I 4 p) (q_sp I E V m p).2.2 (q_sp I E V m p).1 (q_sp I E V m p).2.1 = if E 2 (I 6 m) (I 4 p) = true then 2 else (if I 1 (I 4 p) = 1 ∧ (q_sp I E V m p).2.2 ≠ 2 then (q_sp I E V m p).2.2 else if I 1 (I 4 p) = 2 ∧ (q_sp I E V m p).1 ≠ (q_sp I E V m p).2.1 then q_b (Nat.blt (q_sp I E V m p).2.1 (q_sp I E V m p).1) else q_b (q_for (V 0 (I 4 p)) (q_tr I E m))) := rfl
    by_cases hEv : E 2 (I 6 m) (I 4 p) = true
    · rw [if_pos hEv] at hwd
      rw [if_pos hwd] at hsd
      obtain ⟨M', hA, hP⟩ := ih (p + 1) _ (some (.int (nI (I 4 p)))) (some (.int (nI (q_b (E 2 (I 6 m) (I 4 p)))))) (some (.int (2 : Int32))) (by omega) (q_SI_s hI w1 b4 hwd)
      refine ⟨M', sg_Mo_votes_48 ⟨fun c => absurd c (q_nle e0 (by omega) (by omega)), fun _ => ⟨q_in (by omega) (by omega), ?_⟩⟩, hP⟩
      rw [ec, g4]
      refine ⟨_, _, hT, fun c => absurd c (by rw [hEv]; decide), fun c => ⟨by rw [e8]; exact hin2, ?_⟩⟩
      rw [e8, ex, e1, if_neg c, if_neg (by decide), if_neg (by decide)]
      rw [hsd] at hA
      rw [show nI (q_sp I E V m p).1 + (0 : Int32) = nI (q_sp I E V m p).1 from nI_add _ 0, show nI (q_sp I E V m p).2.1 + (0 : Int32) = nI (q_sp I E V m p).2.1 from nI_add _ 0]
      exact hA
    · rw [if_neg hEv] at hwd
      have hEv : E 2 (I 6 m) (I 4 p) = false := by simpa using hEv
      have hw2 : q_wd I E V m (I 4 p) (q_sp I E V m p).2.2 (q_sp I E V m p).1 (q_sp I E V m p).2.1 < 2 := by
        rw [hwd]
        have t1 := q_b_lt (Nat.blt (q_sp I E V m p).2.1 (q_sp I E V m p).1)
        have t2 := q_b_lt (q_for (V 0 (I 4 p)) (q_tr I E m))
        split
        · omega
        · split <;> omega
      obtain ⟨M', hA, hP⟩ := ih (p + 1) _ (some (.int (nI (I 4 p)))) (some (.int (nI (q_b (E 2 (I 6 m) (I 4 p)))))) (some (.int (nI (q_wd I E V m (I 4 p) (q_sp I E V m p).2.2 (q_sp I E V m p).1 (q_sp I E V m p).2.1)))) (by omega) (q_SI_s hI w1 b4 rfl)
      rw [if_neg (by omega)] at hsd
      have hS := c_Mo_says (X := X) (M := M1) (v := I 4 p) (t := q_tr I E m) (l := (q_sp I E V m p).2.2) (a := (q_sp I E V m p).1) (n := (q_sp I E V m p).2.1) hv8 g1 c1 g5 (hV _ b4).2 ht hsp.2 (by omega) (by omega)
      rw [← hwd] at hS
      refine ⟨M', sg_Mo_votes_48 ⟨fun c => absurd c (q_nle e0 (by omega) (by omega)), fun _ => ⟨q_in (by omega) (by omega), ?_⟩⟩, hP⟩
      rw [ec, g4]
      refine ⟨_, _, hT, fun c => ⟨_, _, hS, by rw [e8]; exact hin2, ?_⟩, fun c => absurd (by rw [hEv]; rfl) c⟩
      generalize hw : q_wd I E V m (I 4 p) (q_sp I E V m p).2.2 (q_sp I E V m p).1 (q_sp I E V m p).2.1 = w at *
      rw [hsd] at hA
      rw [e8, ex, e1, if_pos c]
      rcases (show w = 0 ∨ w = 1 by omega) with q | q
      · subst q
        rw [if_neg (by decide), if_pos (by decide), show nI (q_sp I E V m p).1 + (0 : Int32) = nI (q_sp I E V m p).1 from nI_add _ 0, show nI (q_sp I E V m p).2.1 + (1 : Int32) = nI ((q_sp I E V m p).2.1 + 1) from nI_1 _]
        exact hA
      · subst q
        rw [if_pos (by decide), if_neg (by decide), show nI (q_sp I E V m p).1 + (1 : Int32) = nI ((q_sp I E V m p).1 + 1) from nI_1 _, show nI (q_sp I E V m p).2.1 + (0 : Int32) = nI (q_sp I E V m p).2.1 from nI_add _ 0]
        exact hA
