/-! readsVoters, readsMeasures, find -/
theorem q_nneg1 {n : Nat} (h : n < 100000) : ¬ nI n = (-1 : Int32) := by
  intro q
  have h1 := nI_toInt (n := n) (by omega)
  rw [q] at h1
  have : ((-1 : Int32)).toInt = -1 := by decide
  omega
theorem q_nneg9 {n : Nat} (h : n < 100000) : ¬ nI n = (-9 : Int32) := by
  intro q
  have h1 := nI_toInt (n := n) (by omega)
  rw [q] at h1
  have : ((-9 : Int32)).toInt = -9 := by decide
  omega
theorem q_fl_c {t n : Nat} {b : Nat → Nat} (hn : n < 100000) : ∀ (d i : Nat), i + d = n → q_fl t n b d i = -1 → (∀ j, i ≤ j → j < n → q_ok t (j % q_w t) (b j) = true) ∧ (n = 0 ∨ n % q_w t = q_w t - 1)
  | 0, i, hi, h => by
    refine ⟨fun j h1 h2 => by omega, ?_⟩
    simp only [q_fl] at h
    split at h
    · assumption
    · exact absurd h (q_nneg1 hn)
  | d + 1, i, hi, h => by
    simp only [q_fl] at h
    split at h
    · rename_i hk
      obtain ⟨h1, h2⟩ := q_fl_c hn d (i + 1) (by omega) h
      refine ⟨fun j h3 h4 => ?_, h2⟩
      by_cases e : j = i
      · rw [e]; exact hk
      · exact h1 j (by omega) h4
    · exact absurd h (q_nneg1 (by omega))
/-- a text of the model -/
def q_mt0 (M : zM) (n : Nat) (b : Nat → Nat) : Prop := M 59 0 = nI n ∧ n ≤ 31 ∧ ∀ i, i < n → M 58 (0 + i) = nI (b i) ∧ b i < 256
def q_DP0 : Nat → Nat → Prop := fun a b => a = 60 ∨ (a = 53 ∧ b = 7)
theorem q_rd0 {X : zX} {M : zM} {n : Nat} {b : Nat → Nat} (h : q_mt0 M n b) : ∀ (d i : Nat) (M1 : zM) (l3 l4 : Option Value), i + d = n → q_fr q_DP0 M M1 → M1 53 7 = nI ((i + 1) / 4) → (∀ j, j < i → j % 4 < 3 → M1 60 (3 * (j / 4) + j % 4) = nI (q_val 0 (j % 4) (b j))) → ∃ M', At X 94 14 [some (.ref 53), some (.int (nI n)), some (.int (nI i)), l3, l4] [] M1 [.int (q_fl 0 n b d i)] M' ∧ q_fr q_DP0 M M' ∧ (q_fl 0 n b d i = -1 → M' 53 7 = nI ((n + 1) / 4) ∧ ∀ j, j < n → j % 4 < 3 → M' 60 (3 * (j / 4) + j % 4) = nI (q_val 0 (j % 4) (b j))) ∧ (¬ q_fl 0 n b d i = -1 → M' 53 7 = 0) := by
  obtain ⟨h1, h2, h3⟩ := h
  intro d
  induction d with
  | zero =>
    intro i M1 l3 l4 hi hf hc hv
    have hi : i = n := by omega
    subst hi
    have e1 : nI i - nI i / (4 : Int32) * (4 : Int32) = nI (i % 4) := q_rem (d := 4) (by omega) (by omega) (by omega)
    have e2 : nI i ≤ 0 ↔ i = 0 := by rw [show (0 : Int32) = nI 0 from rfl, q_le (by omega) (by omega)]; omega
    have e3 : nI (i % 4) = (3 : Int32) ↔ i % 4 = 3 := q_eq (b := 3) (by omega) (by omega)
    have e4 : q_fl 0 i b 0 i = if i = 0 ∨ i % 4 = 3 then -1 else nI i := rfl
    by_cases hg : i = 0 ∨ i % 4 = 3
    · rw [if_pos hg] at e4
      refine ⟨M1, sg_Mo_readsVoters_14 ⟨fun _ => ?_, fun c => absurd (Int32.le_refl _) c⟩, hf, fun _ => ⟨hc, hv⟩, fun c => absurd e4 c⟩
      rw [e1, e4]
      refine ⟨fun _ => ⟨rfl, rfl⟩, fun c => ⟨fun _ => ⟨rfl, rfl⟩, fun c2 => ?_⟩⟩
      rw [e2] at c
      rw [e3] at c2
      omega
    · rw [if_neg hg] at e4
      refine ⟨zu M1 53 7 (0 : Int32), sg_Mo_readsVoters_14 ⟨fun _ => ?_, fun c => absurd (Int32.le_refl _) c⟩, q_fr_zu hf (by unfold q_DP0; omega), fun c => absurd c (by rw [e4]; exact q_nneg1 (by omega)), fun _ => by simp [zu_at]⟩
      rw [e1, e4]
      refine ⟨fun c => ?_, fun _ => ⟨fun c => ?_, fun _ => ⟨rfl, rfl⟩⟩⟩
      · rw [e2] at c; omega
      · rw [e3] at c; omega
  | succ d ih =>
    intro i M1 l3 l4 hi hf hc hv
    have e1 : nI i - nI i / (4 : Int32) * (4 : Int32) = nI (i % 4) := q_rem (d := 4) (by omega) (by omega) (by omega)
    have ed : nI i / (4 : Int32) = nI (i / 4) := q_div (d := 4) (by omega) (by omega) (by omega)
    have eo : nI i = nI (0 + i) := by rw [Nat.zero_add]
    have co : (nI (0 + i)).toNatClampNeg = 0 + i := q_cl (by omega)
    have hb : M1 58 (0 + i) = nI (b i) := by rw [hf 58 _ (by unfold q_DP0; omega)]; exact (h3 i (by omega)).1
    have hb2 := (h3 i (by omega)).2
    have en : nI i + (1 : Int32) = nI (i + 1) := nI_1 i
    have hlt : i % 4 < 4 := Nat.mod_lt _ (by omega)
    have eq : q_fl 0 n b (d + 1) i = if q_ok 0 (i % 4) (b i) = true then q_fl 0 n b d (i + 1) else nI i := rfl
    have ek : (3 : Int32) * nI (i / 4) + nI (i % 4) = nI (3 * (i / 4) + i % 4) := by rw [show (3 : Int32) = nI 3 from rfl, pk_mul, nI_add]
    have ck : (nI (3 * (i / 4) + i % 4)).toNatClampNeg = 3 * (i / 4) + i % 4 := q_cl (by omega)
    have hge : ((3 : Int32) ≤ nI (i % 4)) ↔ 3 ≤ i % 4 := q_le (a := 3) (by omega) (by omega)
    have hcn : ∀ N : zM, N 53 7 = nI ((i + 1) / 4) → N 53 7 + (if nI (i % 4) = (2 : Int32) then (1 : Int32) else (0 : Int32)) = nI ((i + 1 + 1) / 4) := by
      intro N hN
      rw [hN]
      by_cases q : i % 4 = 2
      · rw [if_pos (by rw [q]; rfl), show nI ((i + 1) / 4) + (1 : Int32) = nI ((i + 1) / 4 + 1) from nI_1 _]
        congr 1
        omega
      · rw [if_neg (fun (c : nI (i % 4) = (2 : Int32)) => q ((q_eq (b := 2) (by omega) (by omega)).mp c)), show nI ((i + 1) / 4) + (0 : Int32) = nI ((i + 1) / 4) from nI_add _ 0]
        congr 1
        omega
    by_cases hk : q_ok 0 (i % 4) (b i) = true
    · rw [if_pos hk] at eq
      have hvl : q_val 0 (i % 4) (b i) < 24 := (q_val_lt ⟨0, by omega⟩ ⟨i % 4, by omega⟩ ⟨b i, hb2⟩ hk).1
      have er : f_Mo_voterOf (nI (i % 4)) (nI (b i)) M1 = nI (q_val 0 (i % 4) (b i)) := by rw [q_voterOf' M1 hlt hb2, if_pos hk]
      by_cases h3k : 3 ≤ i % 4
      · obtain ⟨M', hA, hP⟩ := ih (i + 1) (zu M1 53 7 (M1 53 7 + (if nI (i % 4) = (2 : Int32) then (1 : Int32) else (0 : Int32)))) (some (.int (nI (i % 4)))) (some (.int (nI (q_val 0 (i % 4) (b i))))) (by omega) (q_fr_zu hf (by unfold q_DP0; omega)) (by rw [zu_at, if_pos ⟨rfl, rfl⟩]; exact hcn M1 hc) (by
          intro j hj hjk
          rw [zu_at, if_neg (by omega)]
          by_cases e : j = i
          · subst e; omega
          · exact hv j (by omega) hjk)
        rw [← eq] at hA hP
        refine ⟨M', sg_Mo_readsVoters_14 ⟨fun c => absurd ((q_le (by omega) (by omega)).mp c) (by omega), fun _ => ?_⟩, hP⟩
        rw [e1, q_cl (show i < 100000 by omega), show M1 58 i = nI (b i) from by rw [← Nat.zero_add i, hb, Nat.zero_add], en]
        refine ⟨q_in (by omega) (by omega), _, _, c_Mo_voterOf, ?_⟩
        rw [er]
        exact ⟨fun _ => ⟨fun _ => hA, fun c => absurd (hge.mpr h3k) c⟩, fun c => absurd c (q_nneg9 (by omega))⟩
      · obtain ⟨M', hA, hP⟩ := ih (i + 1) (zu (zu M1 60 (3 * (i / 4) + i % 4) (nI (q_val 0 (i % 4) (b i)))) 53 7 (M1 53 7 + (if nI (i % 4) = (2 : Int32) then (1 : Int32) else (0 : Int32)))) (some (.int (nI (i % 4)))) (some (.int (nI (q_val 0 (i % 4) (b i))))) (by omega) (q_fr_zu (q_fr_zu hf (by unfold q_DP0; omega)) (by unfold q_DP0; omega)) (by rw [zu_at, if_pos ⟨rfl, rfl⟩]; exact hcn M1 hc) (by
          intro j hj hjk
          rw [zu_at, if_neg (by omega), zu_at]
          by_cases e : j = i
          · subst e; rw [if_pos ⟨rfl, rfl⟩]
          · rw [if_neg (by omega)]
            exact hv j (by omega) hjk)
        rw [← eq] at hA hP
        refine ⟨M', sg_Mo_readsVoters_14 ⟨fun c => absurd ((q_le (by omega) (by omega)).mp c) (by omega), fun _ => ?_⟩, hP⟩
        rw [e1, q_cl (show i < 100000 by omega), show M1 58 i = nI (b i) from by rw [← Nat.zero_add i, hb, Nat.zero_add], en]
        refine ⟨q_in (by omega) (by omega), _, _, c_Mo_voterOf, ?_⟩
        rw [er, ed, ek, ck]
        exact ⟨fun _ => ⟨fun c => absurd (hge.mp c) h3k, fun _ => ⟨q_in (by omega) (by omega), hA⟩⟩, fun c => absurd c (q_nneg9 (by omega))⟩
    · rw [if_neg hk] at eq
      have er : f_Mo_voterOf (nI (i % 4)) (nI (b i)) M1 = -9 := by rw [q_voterOf' M1 hlt hb2, if_neg hk]
      refine ⟨zu M1 53 7 (0 : Int32), sg_Mo_readsVoters_14 ⟨fun c => absurd ((q_le (by omega) (by omega)).mp c) (by omega), fun _ => ?_⟩, q_fr_zu hf (by unfold q_DP0; omega), fun c => absurd c (by rw [eq]; exact q_nneg1 (by omega)), fun _ => by simp [zu_at]⟩
      rw [e1, q_cl (show i < 100000 by omega), show M1 58 i = nI (b i) from by rw [← Nat.zero_add i, hb, Nat.zero_add], eq]
      refine ⟨q_in (by omega) (by omega), _, _, c_Mo_voterOf, ?_⟩
      rw [er]
      exact ⟨fun c => absurd rfl c, fun _ => ⟨rfl, rfl⟩⟩
theorem c_Mo_readsVoters {X : zX} {M : zM} {n : Nat} {b : Nat → Nat} (h : q_mt0 M n b) : ∃ M', Call X 94 [.ref 53] M [.int (q_fl 0 n b n 0)] M' ∧ q_fr q_DP0 M M' ∧ (q_fl 0 n b n 0 = -1 → M' 53 7 = nI ((n + 1) / 4) ∧ ∀ j, j < n → j % 4 < 3 → M' 60 (3 * (j / 4) + j % 4) = nI (q_val 0 (j % 4) (b j))) ∧ (¬ q_fl 0 n b n 0 = -1 → M' 53 7 = 0) := by
  obtain ⟨M', hA, hP⟩ := q_rd0 (X := X) h n 0 (zu M 53 7 (0 : Int32)) none none (by omega) (q_fr_zu q_fr_rf (by unfold q_DP0; omega)) (by simp [zu_at]; rfl) (fun j hj => by omega)
  refine ⟨M', Call.of (Nat.le_of_ble_eq_true rfl) (sg_Mo_readsVoters_0 ?_), hP⟩
  rw [h.1]
  exact hA
/-- a text of the model -/
def q_mt1 (M : zM) (n : Nat) (b : Nat → Nat) : Prop := M 59 1 = nI n ∧ n ≤ 35 ∧ ∀ i, i < n → M 58 (36 + i) = nI (b i) ∧ b i < 256
def q_DP1 : Nat → Nat → Prop := fun a b => a = 61 ∨ (a = 53 ∧ b = 9)
theorem q_rd1 {X : zX} {M : zM} {n : Nat} {b : Nat → Nat} (h : q_mt1 M n b) : ∀ (d i : Nat) (M1 : zM) (l3 l4 : Option Value), i + d = n → q_fr q_DP1 M M1 → M1 53 9 = nI ((i + 1) / 3) → (∀ j, j < i → j % 3 < 2 → M1 61 (2 * (j / 3) + j % 3) = nI (q_val 1 (j % 3) (b j))) → ∃ M', At X 96 14 [some (.ref 53), some (.int (nI n)), some (.int (nI i)), l3, l4] [] M1 [.int (q_fl 1 n b d i)] M' ∧ q_fr q_DP1 M M' ∧ (q_fl 1 n b d i = -1 → M' 53 9 = nI ((n + 1) / 3) ∧ ∀ j, j < n → j % 3 < 2 → M' 61 (2 * (j / 3) + j % 3) = nI (q_val 1 (j % 3) (b j))) ∧ (¬ q_fl 1 n b d i = -1 → M' 53 9 = 0) := by
  obtain ⟨h1, h2, h3⟩ := h
  intro d
  induction d with
  | zero =>
    intro i M1 l3 l4 hi hf hc hv
    have hi : i = n := by omega
    subst hi
    have e1 : nI i - nI i / (3 : Int32) * (3 : Int32) = nI (i % 3) := q_rem (d := 3) (by omega) (by omega) (by omega)
    have e2 : nI i ≤ 0 ↔ i = 0 := by rw [show (0 : Int32) = nI 0 from rfl, q_le (by omega) (by omega)]; omega
    have e3 : nI (i % 3) = (2 : Int32) ↔ i % 3 = 2 := q_eq (b := 2) (by omega) (by omega)
    have e4 : q_fl 1 i b 0 i = if i = 0 ∨ i % 3 = 2 then -1 else nI i := rfl
    by_cases hg : i = 0 ∨ i % 3 = 2
    · rw [if_pos hg] at e4
      refine ⟨M1, sg_Mo_readsMeasures_14 ⟨fun _ => ?_, fun c => absurd (Int32.le_refl _) c⟩, hf, fun _ => ⟨hc, hv⟩, fun c => absurd e4 c⟩
      rw [e1, e4]
      refine ⟨fun _ => ⟨rfl, rfl⟩, fun c => ⟨fun _ => ⟨rfl, rfl⟩, fun c2 => ?_⟩⟩
      rw [e2] at c
      rw [e3] at c2
      omega
    · rw [if_neg hg] at e4
      refine ⟨zu M1 53 9 (0 : Int32), sg_Mo_readsMeasures_14 ⟨fun _ => ?_, fun c => absurd (Int32.le_refl _) c⟩, q_fr_zu hf (by unfold q_DP1; omega), fun c => absurd c (by rw [e4]; exact q_nneg1 (by omega)), fun _ => by simp [zu_at]⟩
      rw [e1, e4]
      refine ⟨fun c => ?_, fun _ => ⟨fun c => ?_, fun _ => ⟨rfl, rfl⟩⟩⟩
      · rw [e2] at c; omega
      · rw [e3] at c; omega
  | succ d ih =>
    intro i M1 l3 l4 hi hf hc hv
    have e1 : nI i - nI i / (3 : Int32) * (3 : Int32) = nI (i % 3) := q_rem (d := 3) (by omega) (by omega) (by omega)
    have ed : nI i / (3 : Int32) = nI (i / 3) := q_div (d := 3) (by omega) (by omega) (by omega)
    have eo : (36 : Int32) + nI i = nI (36 + i) := by exact nI_add 36 i
    have co : (nI (36 + i)).toNatClampNeg = 36 + i := q_cl (by omega)
    have hb : M1 58 (36 + i) = nI (b i) := by rw [hf 58 _ (by unfold q_DP1; omega)]; exact (h3 i (by omega)).1
    have hb2 := (h3 i (by omega)).2
    have en : nI i + (1 : Int32) = nI (i + 1) := nI_1 i
    have hlt : i % 3 < 3 := Nat.mod_lt _ (by omega)
    have eq : q_fl 1 n b (d + 1) i = if q_ok 1 (i % 3) (b i) = true then q_fl 1 n b d (i + 1) else nI i := rfl
    have ek : (2 : Int32) * nI (i / 3) + nI (i % 3) = nI (2 * (i / 3) + i % 3) := by rw [show (2 : Int32) = nI 2 from rfl, pk_mul, nI_add]
    have ck : (nI (2 * (i / 3) + i % 3)).toNatClampNeg = 2 * (i / 3) + i % 3 := q_cl (by omega)
    have hge : ((2 : Int32) ≤ nI (i % 3)) ↔ 2 ≤ i % 3 := q_le (a := 2) (by omega) (by omega)
    have hcn : ∀ N : zM, N 53 9 = nI ((i + 1) / 3) → N 53 9 + (if nI (i % 3) = (1 : Int32) then (1 : Int32) else (0 : Int32)) = nI ((i + 1 + 1) / 3) := by
      intro N hN
      rw [hN]
      by_cases q : i % 3 = 1
      · rw [if_pos (by rw [q]; rfl), show nI ((i + 1) / 3) + (1 : Int32) = nI ((i + 1) / 3 + 1) from nI_1 _]
        congr 1
        omega
      · rw [if_neg (fun (c : nI (i % 3) = (1 : Int32)) => q ((q_eq (b := 1) (by omega) (by omega)).mp c)), show nI ((i + 1) / 3) + (0 : Int32) = nI ((i + 1) / 3) from nI_add _ 0]
        congr 1
        omega
    by_cases hk : q_ok 1 (i % 3) (b i) = true
    · rw [if_pos hk] at eq
      have hvl : q_val 1 (i % 3) (b i) < 24 := (q_val_lt ⟨1, by omega⟩ ⟨i % 3, by omega⟩ ⟨b i, hb2⟩ hk).1
      have er : f_Mo_measureOf (nI (i % 3)) (nI (b i)) M1 = nI (q_val 1 (i % 3) (b i)) := by rw [q_measureOf' M1 hlt hb2, if_pos hk]
      by_cases h3k : 2 ≤ i % 3
      · obtain ⟨M', hA, hP⟩ := ih (i + 1) (zu M1 53 9 (M1 53 9 + (if nI (i % 3) = (1 : Int32) then (1 : Int32) else (0 : Int32)))) (some (.int (nI (i % 3)))) (some (.int (nI (q_val 1 (i % 3) (b i))))) (by omega) (q_fr_zu hf (by unfold q_DP1; omega)) (by rw [zu_at, if_pos ⟨rfl, rfl⟩]; exact hcn M1 hc) (by
          intro j hj hjk
          rw [zu_at, if_neg (by omega)]
          by_cases e : j = i
          · subst e; omega
          · exact hv j (by omega) hjk)
        rw [← eq] at hA hP
        refine ⟨M', sg_Mo_readsMeasures_14 ⟨fun c => absurd ((q_le (by omega) (by omega)).mp c) (by omega), fun _ => ?_⟩, hP⟩
        rw [e1, eo, co, hb, en]
        refine ⟨q_in (by omega) (by omega), _, _, c_Mo_measureOf, ?_⟩
        rw [er]
        exact ⟨fun _ => ⟨fun _ => hA, fun c => absurd (hge.mpr h3k) c⟩, fun c => absurd c (q_nneg9 (by omega))⟩
      · obtain ⟨M', hA, hP⟩ := ih (i + 1) (zu (zu M1 61 (2 * (i / 3) + i % 3) (nI (q_val 1 (i % 3) (b i)))) 53 9 (M1 53 9 + (if nI (i % 3) = (1 : Int32) then (1 : Int32) else (0 : Int32)))) (some (.int (nI (i % 3)))) (some (.int (nI (q_val 1 (i % 3) (b i))))) (by omega) (q_fr_zu (q_fr_zu hf (by unfold q_DP1; omega)) (by unfold q_DP1; omega)) (by rw [zu_at, if_pos ⟨rfl, rfl⟩]; exact hcn M1 hc) (by
          intro j hj hjk
          rw [zu_at, if_neg (by omega), zu_at]
          by_cases e : j = i
          · subst e; rw [if_pos ⟨rfl, rfl⟩]
          · rw [if_neg (by omega)]
            exact hv j (by omega) hjk)
        rw [← eq] at hA hP
        refine ⟨M', sg_Mo_readsMeasures_14 ⟨fun c => absurd ((q_le (by omega) (by omega)).mp c) (by omega), fun _ => ?_⟩, hP⟩
        rw [e1, eo, co, hb, en]
        refine ⟨q_in (by omega) (by omega), _, _, c_Mo_measureOf, ?_⟩
        rw [er, ed, ek, ck]
        exact ⟨fun _ => ⟨fun c => absurd (hge.mp c) h3k, fun _ => ⟨q_in (by omega) (by omega), hA⟩⟩, fun c => absurd c (q_nneg9 (by omega))⟩
    · rw [if_neg hk] at eq
      have er : f_Mo_measureOf (nI (i % 3)) (nI (b i)) M1 = -9 := by rw [q_measureOf' M1 hlt hb2, if_neg hk]
      refine ⟨zu M1 53 9 (0 : Int32), sg_Mo_readsMeasures_14 ⟨fun c => absurd ((q_le (by omega) (by omega)).mp c) (by omega), fun _ => ?_⟩, q_fr_zu hf (by unfold q_DP1; omega), fun c => absurd c (by rw [eq]; exact q_nneg1 (by omega)), fun _ => by simp [zu_at]⟩
      rw [e1, eo, co, hb, eq]
      refine ⟨q_in (by omega) (by omega), _, _, c_Mo_measureOf, ?_⟩
      rw [er]
      exact ⟨fun c => absurd rfl c, fun _ => ⟨rfl, rfl⟩⟩
theorem c_Mo_readsMeasures {X : zX} {M : zM} {n : Nat} {b : Nat → Nat} (h : q_mt1 M n b) : ∃ M', Call X 96 [.ref 53] M [.int (q_fl 1 n b n 0)] M' ∧ q_fr q_DP1 M M' ∧ (q_fl 1 n b n 0 = -1 → M' 53 9 = nI ((n + 1) / 3) ∧ ∀ j, j < n → j % 3 < 2 → M' 61 (2 * (j / 3) + j % 3) = nI (q_val 1 (j % 3) (b j))) ∧ (¬ q_fl 1 n b n 0 = -1 → M' 53 9 = 0) := by
  obtain ⟨M', hA, hP⟩ := q_rd1 (X := X) h n 0 (zu M 53 9 (0 : Int32)) none none (by omega) (q_fr_zu q_fr_rf (by unfold q_DP1; omega)) (by simp [zu_at]; rfl) (fun j hj => by omega)
  refine ⟨M', Call.of (Nat.le_of_ble_eq_true rfl) (sg_Mo_readsMeasures_0 ?_), hP⟩
  rw [h.1]
  exact hA
