/-! THE MODEL'S SMALL ONES -/
theorem q_one_s : ∀ b : Fin 8, b.val ≠ 0 → (nI b.val &&& (nI b.val - (1 : Int32))) = nI (b.val &&& (b.val - 1)) ∧ (b.val &&& (b.val - 1)) < 8 ∧ q_pc (b.val &&& (b.val - 1)) + 1 = q_pc b.val := by decide +kernel
theorem q_pc0 : ∀ b : Fin 8, q_pc b.val = 0 → b.val = 0 := by decide +kernel
theorem q_onesL {X : zX} {M : zM} {x0 : Int32} : ∀ (k b n : Nat), b < 8 → q_pc b = k → n + k ≤ 100 → At X 109 4 [some (.int x0), some (.int (nI n)), some (.int (nI b))] [] M [.int (nI (n + k))] M := by
  intro k
  induction k with
  | zero =>
    intro b n hb hk hn
    have e : b = 0 := q_pc0 ⟨b, hb⟩ hk
    subst e
    exact sg_Mo_ones_4 ⟨fun _ => ⟨rfl, rfl⟩, fun c => absurd rfl c⟩
  | succ k ih =>
    intro b n hb hk hn
    have hb0 : b ≠ 0 := fun q => by rw [q] at hk; simp [q_pc] at hk
    obtain ⟨h1, h2, h3⟩ := q_one_s ⟨b, hb⟩ hb0
    dsimp only at h1 h2 h3
    refine sg_Mo_ones_4 ⟨fun c => absurd ((q_eq (b := 0) (by omega) (by omega)).mp c) hb0, fun _ => ?_⟩
    rw [h1, show nI n + (1 : Int32) = nI (n + 1) from nI_1 n]
    have := ih (b &&& (b - 1)) (n + 1) h2 (by omega) (by omega)
    rw [show n + (k + 1) = n + 1 + k by omega]
    exact this
theorem q_pc_le : ∀ b : Fin 8, q_pc b.val ≤ 3 := by decide +kernel
theorem c_Mo_ones {X : zX} {M : zM} {b : Nat} (hb : b < 8) : Call X 109 [.int (nI b)] M [.int (nI (q_pc b))] M := by
  have h := q_onesL (X := X) (M := M) (x0 := nI b) (q_pc b) b 0 hb rfl (by have := q_pc_le ⟨b, hb⟩; dsimp only at this; omega)
  rw [Nat.zero_add] at h
  exact Call.of (Nat.le_of_ble_eq_true rfl) (sg_Mo_ones_0 h)
theorem q_isF_x : ∀ (t l : Fin 8), (nI t.val &&& nI l.val) = nI (t.val &&& l.val) ∧ (nI t.val &&& (nI l.val ^^^ (-1 : Int32))) = nI (t.val &&& (7 - l.val)) ∧ t.val &&& l.val < 8 ∧ t.val &&& (7 - l.val) < 8 ∧ (if nI (q_pc (t.val &&& l.val)) ≤ nI (q_pc (t.val &&& (7 - l.val))) then (0 : Int32) else (1 : Int32)) = nI (q_b (q_for l.val t.val)) := by decide +kernel
theorem c_Mo_isFor {X : zX} {M : zM} {t l : Nat} (ht : t < 8) (hl : l < 8) : Call X 110 [.int (nI t), .int (nI l)] M [.int (nI (q_b (q_for l t)))] M := by
  obtain ⟨h1, h2, h3, h4, h5⟩ := q_isF_x ⟨t, ht⟩ ⟨l, hl⟩
  dsimp only at h1 h2 h3 h4 h5
  refine Call.of (Nat.le_of_ble_eq_true rfl) (sg_Mo_isFor_0 ?_)
  rw [h1, h2]
  refine ⟨_, _, c_Mo_ones h3, _, _, c_Mo_ones h4, ?_, rfl⟩
  rw [h5]
/-- the model's events: which are gone -/
def q_mev (M : zM) (ne gone held : Nat) (K : q_N) : Prop := M 53 12 = nI ne ∧ ne ≤ 8 ∧ M 53 14 = nI gone ∧ gone < 2 ^ 31 ∧ (∀ i, i < ne → held.testBit i = !gone.testBit i) ∧ ∀ i, i < ne → M 63 (3 * i) = nI (K 0 i) ∧ K 0 i < 3 ∧ M 63 (3 * i + 1) = nI (K 1 i) ∧ K 1 i < 24 ∧ M 63 (3 * i + 2) = nI (K 2 i) ∧ K 2 i < 8
theorem q_mbit {n k : Nat} (M : zM) (hn : n < 2 ^ 31) (hk : k < 32) : f_Mo_isIn (nI n) (nI k) M = nI (q_b (n.testBit k)) := by
  have h := q_bit M hn hk
  unfold f_Fv_bit at h
  unfold f_Mo_isIn
  rw [h]
  cases n.testBit k <;> decide
theorem q_toldL {X : zX} {M : zM} {ne gone held kind y v : Nat} {K : q_N} (h : q_mev M ne gone held K) (hk : kind < 3) (hy : y < 24) (hv : v < 8) : ∀ (d i : Nat) (l6 : Option Value), i + d = ne → At X 108 6 [some (.ref 53), some (.int (nI kind)), some (.int (nI y)), some (.int (nI v)), some (.int (nI (q_b (q_tl K held kind y v i)))), some (.int (nI i)), l6] [] M [.int (nI (q_b (q_tl K held kind y v ne)))] M := by
  obtain ⟨h1, h2, h3, h4, h5, h6⟩ := h
  intro d
  induction d with
  | zero =>
    intro i l6 hi
    have hi : i = ne := by omega
    subst hi
    exact sg_Mo_isTold_6 ⟨fun _ => ⟨by cases q_tl K held kind y v i <;> decide, rfl, rfl⟩, fun c => absurd (q_yle h1 (Nat.le_refl _) (by omega)) c⟩
  | succ d ih =>
    intro i l6 hi
    obtain ⟨k1, k2, k3, k4, k5, k6⟩ := h6 i (by omega)
    have e3 : (3 : Int32) * nI i = nI (3 * i) := by rw [show (3 : Int32) = nI 3 from rfl, pk_mul]
    have e31 : nI (3 * i) + (1 : Int32) = nI (3 * i + 1) := nI_1 _
    have e32 : nI (3 * i) + (2 : Int32) = nI (3 * i + 2) := nI_add _ 2
    have e1 : nI i + (1 : Int32) = nI (i + 1) := nI_1 i
    have c0 : (nI (3 * i)).toNatClampNeg = 3 * i := q_cl (by omega)
    have c1 : (nI (3 * i + 1)).toNatClampNeg = 3 * i + 1 := q_cl (by omega)
    have c2 : (nI (3 * i + 2)).toNatClampNeg = 3 * i + 2 := q_cl (by omega)
    have i0 : vp_in (nI (3 * i)) 24 := q_in (by omega) (by omega)
    have i1 : vp_in (nI (3 * i + 1)) 24 := q_in (by omega) (by omega)
    have i2 : vp_in (nI (3 * i + 2)) 24 := q_in (by omega) (by omega)
    have al : (if nI (K 0 i) = nI kind then (if nI (K 1 i) = nI y then (if nI kind = (2 : Int32) then (if nI (K 2 i) = nI v then (1 : Int32) else (0 : Int32)) else (1 : Int32)) else (0 : Int32)) else (0 : Int32)) = nI (q_b (K 0 i == kind && K 1 i == y && (kind != 2 || K 2 i == v))) := by
      rw [show (2 : Int32) = nI 2 from rfl]
      simp only [q_eq (show K 0 i < 100000 by omega) (show kind < 100000 by omega), q_eq (show K 1 i < 100000 by omega) (show y < 100000 by omega), q_eq (show kind < 100000 by omega) (show 2 < 100000 by omega), q_eq (show K 2 i < 100000 by omega) (show v < 100000 by omega)]
      rw [q_b_eq]
      by_cases a1 : K 0 i = kind
      · by_cases a2 : K 1 i = y
        · by_cases a3 : kind = 2
          · by_cases a4 : K 2 i = v
            · simp [a1, a2, a3, a4]; rfl
            · simp [a1, a2, a3, a4]; rfl
          · simp [a1, a2, a3]; rfl
        · simp [a2]; rfl
      · simp [a1]; rfl
    have hs := q_tl_s K held kind y v i
    rw [h5 i (by omega)] at hs
    have ihx := fun l => ih (i + 1) l (by omega)
    refine sg_Mo_isTold_6 ⟨fun c => absurd c (q_nle h1 (by omega) (by omega)), fun _ => ?_⟩
    rw [e3, e31, e32, c0, c1, c2, k1, k3, k5, e1]
    refine ⟨i0, ⟨fun _ => trivial, fun _ => ⟨i1, fun _ => trivial, fun _ => ⟨fun _ => trivial, fun _ => i2⟩⟩⟩, ?_⟩
    rw [al]
    refine ⟨fun c => ?_, fun c => ?_⟩
    · have ht : q_tl K held kind y v i = true := q_b_n0.mp c
      have := ihx (some (.int (nI (q_b (K 0 i == kind && K 1 i == y && (kind != 2 || K 2 i == v))))))
      rw [hs, ht, Bool.true_or] at this
      exact this
    · have ht : q_tl K held kind y v i = false := q_b_0.mp c
      refine ⟨fun c => ?_, fun c => ?_⟩
      · have ha := q_b_0.mp c
        have := ihx (some (.int (nI (q_b (K 0 i == kind && K 1 i == y && (kind != 2 || K 2 i == v))))))
        rw [hs, ht, Bool.and_assoc, Bool.and_assoc] at this
        rw [Bool.and_assoc] at ha this ⊢
        rw [ha] at this ⊢
        simp only [Bool.and_false, Bool.or_false] at this
        exact this
      · have ha := q_b_n0.mp c
        refine ⟨_, _, c_Mo_isIn, ?_⟩
        rw [h3, q_mbit M h4 (by omega)]
        have := ihx (some (.int (nI (q_b (K 0 i == kind && K 1 i == y && (kind != 2 || K 2 i == v))))))
        rw [hs, ht, Bool.and_assoc, Bool.and_assoc] at this
        rw [Bool.and_assoc] at ha this ⊢
        rw [ha] at this ⊢
        cases hg : gone.testBit i with
        | true => rw [hg] at this; exact this
        | false => rw [hg] at this; exact this
theorem c_Mo_isTold {X : zX} {M : zM} {ne gone held kind y v : Nat} {K : q_N} (h : q_mev M ne gone held K) (hk : kind < 3) (hy : y < 24) (hv : v < 8) : Call X 108 [.ref 53, .int (nI kind), .int (nI y), .int (nI v)] M [.int (nI (q_b (q_told ne held K kind y v)))] M :=
  Call.of (Nat.le_of_ble_eq_true rfl) (sg_Mo_isTold_0 (q_toldL h hk hy hv ne 0 none (by omega)))
