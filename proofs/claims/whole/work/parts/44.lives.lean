/-! lives: the years, the measures of each -/
def q_pre (I : q_N) (y i : Nat) : List Nat := (List.range y).flatMap (fun y => (List.range (I 5 0)).filter (fun m => I 6 m == y)) ++ (List.range i).filter (fun m => I 6 m == y)
theorem q_pre_0 (I : q_N) : q_pre I 0 0 = [] := rfl
theorem q_pre_24 (I : q_N) : q_pre I 24 0 = q_ord I := by simp [q_pre, q_ord]
theorem q_pre_y (I : q_N) (y : Nat) : q_pre I y (I 5 0) = q_pre I (y + 1) 0 := by
  simp [q_pre, List.range_succ]
theorem q_pre_no {I : q_N} {y i : Nat} (h : I 6 i ≠ y) : q_pre I y (i + 1) = q_pre I y i := by
  simp [q_pre, List.range_succ, h]
theorem q_pre_yes {I : q_N} {y i : Nat} (h : I 6 i = y) : q_pre I y (i + 1) = q_pre I y i ++ [i] := by
  simp [q_pre, List.range_succ, h]
theorem q_livI {X : zX} {M : zM} {I : q_N} {ne gone held : Nat} {K : q_N} (hwf : q_wf I) (hmv : q_mv M I) (hmm : q_mm M I) (hme : q_mev M ne gone held K) {y : Nat} (hy : y < 24) {Z : zM → Prop}
    (hgo : ∀ (M2 : zM), q_MI I (q_told ne held K) (q_pre I y (I 5 0)).reverse M M2 → ∃ M', At X 114 69 [some (.ref 53), some (.int (nI (y + 1))), some (.int (nI (I 5 0)))] [] M2 [] M' ∧ Z M') :
    ∀ (d i : Nat) (M1 : zM), i + d = I 5 0 → q_MI I (q_told ne held K) (q_pre I y i).reverse M M1 → ∃ M', At X 114 77 [some (.ref 53), some (.int (nI y)), some (.int (nI i))] [] M1 [] M' ∧ Z M' := by
  have w4 := hwf.2.2.2.1
  have w5 := hwf.2.2.2.2.1
  intro d
  induction d with
  | zero =>
    intro i M1 hi hI
    have hi : i = I 5 0 := by omega
    subst hi
    have e9 : M1 53 9 = nI (I 5 0) := by rw [hI.1 53 9 (by unfold q_DM; omega)]; exact hmm.1
    obtain ⟨M', hA, hZ⟩ := hgo M1 hI
    refine ⟨M', sg_Mo_lives_77 ⟨fun _ => ?_, fun c => absurd (q_yle e9 (Nat.le_refl _) (by omega)) c⟩, hZ⟩
    rw [show nI y + (1 : Int32) = nI (y + 1) from nI_1 y]
    exact hA
  | succ d ih =>
    intro i M1 hi hI
    have e9 : M1 53 9 = nI (I 5 0) := by rw [hI.1 53 9 (by unfold q_DM; omega)]; exact hmm.1
    have g : M1 61 (2 * i) = nI (I 6 i) := by rw [hI.1 61 _ (by unfold q_DM; omega)]; exact (hmm.2.1 i (by omega)).1
    have hy6 := (w5 i (by omega)).1
    have e2 : (2 : Int32) * nI i = nI (2 * i) := by rw [show (2 : Int32) = nI 2 from rfl, pk_mul]
    have c2 : (nI (2 * i)).toNatClampNeg = 2 * i := q_cl (by omega)
    have e1 : nI i + (1 : Int32) = nI (i + 1) := nI_1 i
    by_cases hyi : I 6 i = y
    · obtain ⟨M2, hC, hI2⟩ := c_Mo_votes (X := X) (m := i) hwf (by omega) hmv hmm hme hI
      have hI3 : q_MI I (q_told ne held K) (q_pre I y (i + 1)).reverse M M2 := by
        rw [q_pre_yes hyi, List.reverse_append]
        exact hI2
      obtain ⟨M', hA, hZ⟩ := ih (i + 1) M2 (by omega) hI3
      refine ⟨M', sg_Mo_lives_77 ⟨fun c => absurd c (q_nle e9 (by omega) (by omega)), fun _ => ?_⟩, hZ⟩
      rw [e2, c2, g, e1]
      exact ⟨q_in (by omega) (by omega), fun c => absurd (by rw [hyi]) c, fun _ => ⟨M2, hC, hA⟩⟩
    · obtain ⟨M', hA, hZ⟩ := ih (i + 1) M1 (by omega) (by rw [q_pre_no hyi]; exact hI)
      refine ⟨M', sg_Mo_lives_77 ⟨fun c => absurd c (q_nle e9 (by omega) (by omega)), fun _ => ?_⟩, hZ⟩
      rw [e2, c2, g, e1]
      exact ⟨q_in (by omega) (by omega), fun _ => hA, fun c => absurd ((q_eq (by omega) (by omega)).mp c) hyi⟩
theorem q_livY {X : zX} {M : zM} {I : q_N} {ne gone held : Nat} {K : q_N} (hwf : q_wf I) (hmv : q_mv M I) (hmm : q_mm M I) (hme : q_mev M ne gone held K) : ∀ (d y : Nat) (M1 : zM) (l2 : Option Value), y + d = 24 → q_MI I (q_told ne held K) (q_pre I y 0).reverse M M1 → ∃ M', At X 114 69 [some (.ref 53), some (.int (nI y)), l2] [] M1 [] M' ∧ q_MI I (q_told ne held K) (q_ord I).reverse M M' := by
  intro d
  induction d with
  | zero =>
    intro y M1 l2 hy hI
    have hy : y = 24 := by omega
    subst hy
    exact ⟨M1, sg_Mo_lives_69 ⟨fun _ => ⟨rfl, rfl⟩, fun c => absurd (Int32.le_refl _) c⟩, by rw [← q_pre_24]; exact hI⟩
  | succ d ih =>
    intro y M1 l2 hy hI
    obtain ⟨M', hA, hZ⟩ := q_livI (X := X) hwf hmv hmm hme (y := y) (by omega) (Z := fun M' => q_MI I (q_told ne held K) (q_ord I).reverse M M') (fun M2 h2 => ih (y + 1) M2 _ (by omega) (by rw [← q_pre_y]; exact h2)) (I 5 0) 0 M1 (by omega) hI
    exact ⟨M', sg_Mo_lives_69 ⟨fun c => absurd ((q_le (a := 24) (by omega) (by omega)).mp c) (by omega), fun _ => hA⟩, hZ⟩
theorem q_liv0 {X : zX} {M : zM} {I : q_N} (hwf : q_wf I) (hmv : q_mv M I) {Z : zM → Prop} (hgo : ∀ (M2 : zM) (l2 : Option Value), q_fr q_DM M M2 → M2 53 26 = -1 → (∀ u, u < I 0 0 → M2 65 u = nI (I 2 u) ∧ M2 66 u = nI (I 3 u) ∧ M2 67 u = 0 ∧ M2 68 u = 0) → ∃ M', At X 114 69 [some (.ref 53), some (.int (nI 0)), l2] [] M2 [] M' ∧ Z M') : ∀ (d v : Nat) (M1 : zM) (l2 : Option Value), v + d = I 0 0 → q_fr q_DM M M1 → (∀ u, u < v → M1 65 u = nI (I 2 u) ∧ M1 66 u = nI (I 3 u) ∧ M1 67 u = 0 ∧ M1 68 u = 0) → ∃ M', At X 114 2 [some (.ref 53), some (.int (nI v)), l2] [] M1 [] M' ∧ Z M' := by
  obtain ⟨w1, w2, -⟩ := hwf
  intro d
  induction d with
  | zero =>
    intro v M1 l2 hv hf hu
    have hv : v = I 0 0 := by omega
    have e0 : M1 53 7 = nI (I 0 0) := by rw [hf 53 7 (by unfold q_DM; omega)]; exact hmv.1
    obtain ⟨M', hA, hZ⟩ := hgo (zu M1 53 26 (-1 : Int32)) l2 (q_fr_zu hf (by unfold q_DM; omega)) (by simp [zu_at]) (by rw [← hv]; intro u h; have := hu u h; simp [zu_at, this])
    exact ⟨M', sg_Mo_lives_2 ⟨fun _ => hA, fun c => absurd (q_yle e0 (by omega) (by omega)) c⟩, hZ⟩
  | succ d ih =>
    intro v M1 l2 hv hf hu
    have hlt : v < I 0 0 := by omega
    have e0 : M1 53 7 = nI (I 0 0) := by rw [hf 53 7 (by unfold q_DM; omega)]; exact hmv.1
    have g2 : M1 60 (3 * v + 1) = nI (I 2 v) := by rw [hf 60 _ (by unfold q_DM; omega)]; exact (hmv.2 v hlt).2.1
    have g3 : M1 60 (3 * v + 2) = nI (I 3 v) := by rw [hf 60 _ (by unfold q_DM; omega)]; exact (hmv.2 v hlt).2.2.1
    have hin : vp_in (nI v) 8 := q_in (by omega) (by omega)
    have ec : (nI v).toNatClampNeg = v := q_cl (by omega)
    have e3 : (3 : Int32) * nI v = nI (3 * v) := by rw [show (3 : Int32) = nI 3 from rfl, pk_mul]
    have e31 : nI (3 * v) + (1 : Int32) = nI (3 * v + 1) := nI_1 _
    have e32 : nI (3 * v) + (2 : Int32) = nI (3 * v + 2) := nI_add _ 2
    have c1 : (nI (3 * v + 1)).toNatClampNeg = 3 * v + 1 := q_cl (by omega)
    have c2 : (nI (3 * v + 2)).toNatClampNeg = 3 * v + 2 := q_cl (by omega)
    have e1 : nI v + (1 : Int32) = nI (v + 1) := nI_1 v
    obtain ⟨M', hA, hZ⟩ := ih (v + 1) (zu (zu (zu (zu M1 65 v (nI (I 2 v))) 66 v (nI (I 3 v))) 67 v (0 : Int32)) 68 v (0 : Int32)) l2 (by omega) (q_fr_zu (q_fr_zu (q_fr_zu (q_fr_zu hf (by unfold q_DM; omega)) (by unfold q_DM; omega)) (by unfold q_DM; omega)) (by unfold q_DM; omega)) (by
      intro u huv
      by_cases e : u = v
      · subst e
        simp [zu_at]
      · have := hu u (by omega)
        simp [zu_at, e, this])
    refine ⟨M', sg_Mo_lives_2 ⟨fun c => absurd c (q_nle e0 (by omega) (by omega)), fun _ => ?_⟩, hZ⟩
    rw [e3, e31, e32, c1, c2, ec, g2, g3, e1]
    exact ⟨q_in (by omega) (by omega), hin, q_in (by omega) (by omega), hin, hin, hin, hA⟩
/-- LIVES -/
theorem c_Mo_lives {X : zX} {M : zM} {I : q_N} {ne gone held : Nat} {K : q_N} (hwf : q_wf I) (hmv : q_mv M I) (hmm : q_mm M I) (hme : q_mev M ne gone held K) : ∃ M', Call X 114 [.ref 53] M [] M' ∧ q_MI I (q_told ne held K) (q_ord I).reverse M M' := by
  obtain ⟨M', hA, hZ⟩ := q_liv0 (X := X) hwf hmv (Z := fun M' => q_MI I (q_told ne held K) (q_ord I).reverse M M') (fun M2 l2 hf hl hu => by
    refine q_livY hwf hmv hmm hme 24 0 M2 l2 (by omega) ⟨hf, ?_, ?_, hl⟩
    · intro v hv
      exact hu v hv
    · intro m hm
      simp [q_pre] at hm) (I 0 0) 0 M none (by omega) q_fr_rf (fun u hu => by omega)
  exact ⟨M', Call.of (Nat.le_of_ble_eq_true rfl) (sg_Mo_lives_0 hA), hZ⟩
