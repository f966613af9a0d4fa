/-! THE STATE: 0 0, 1: the voters' text; 2 0, 3: the measures' text; 4: the fool; 5 0: how many events, 6 kind, 7 year, 8 number; 9 0: how many seen, 10 measure, 11 is; 12 0: the latest finding; 13 s: 0 lost, else form + 1; 14 s: size. The items stand apart -/
def q_cl0 (S : q_N) : Prop := q_fl 0 (S 0 0) (S 1) (S 0 0) 0 = -1
def q_cl1 (S : q_N) : Prop := q_fl 1 (S 2 0) (S 3) (S 2 0) 0 = -1
def q_nv (S : q_N) : Nat := if q_fl 0 (S 0 0) (S 1) (S 0 0) 0 = -1 then (S 0 0 + 1) / 4 else 0
def q_nm (S : q_N) : Nat := if q_fl 1 (S 2 0) (S 3) (S 2 0) 0 = -1 then (S 2 0 + 1) / 3 else 0
/-- what the votes hang on -/
def q_I (S : q_N) : q_N := fun x j => match x with
  | 0 => q_nv S
  | 1 => q_val 0 0 (S 1 (4 * j))
  | 2 => q_val 0 1 (S 1 (4 * j + 1))
  | 3 => q_val 0 2 (S 1 (4 * j + 2))
  | 4 => j
  | 5 => q_nm S
  | 6 => q_val 1 0 (S 3 (3 * j))
  | 7 => q_val 1 1 (S 3 (3 * j + 1))
  | 8 => S 4 j
  | _ => 0
def q_K (S : q_N) : q_N := fun x i => S (6 + x) i
/-- in bounds -/
def q_ws (S : q_N) : Prop := (S 0 0 ≤ 31 ∧ ∀ i, i < S 0 0 → S 1 i < 256) ∧ (S 2 0 ≤ 35 ∧ ∀ i, i < S 2 0 → S 3 i < 256) ∧ (S 4 0 < 8 ∧ S 4 1 < 10) ∧ (S 5 0 ≤ 8 ∧ ∀ i, i < S 5 0 → S 6 i < 3 ∧ S 7 i < 24 ∧ S 8 i < 8) ∧ (S 9 0 ≤ 8 ∧ ∀ i, i < S 9 0 → S 10 i < 12 ∧ S 11 i < 2) ∧ S 12 0 ≤ 5 ∧ ∀ s, s < 4 → S 13 s ≤ 3 ∧ S 14 s ≤ 60
theorem q_I_wf {S : q_N} (h : q_ws S) : q_wf (q_I S) := by
  obtain ⟨⟨h1, h2⟩, ⟨h3, h4⟩, ⟨h5, h6⟩, -⟩ := h
  have hv : ∀ v, v < q_nv S → q_val 0 0 (S 1 (4 * v)) < 3 ∧ q_val 0 1 (S 1 (4 * v + 1)) < 8 ∧ q_val 0 2 (S 1 (4 * v + 2)) < 3 := by
    intro v hv
    unfold q_nv at hv
    split at hv
    · rename_i hc
      obtain ⟨g1, g2⟩ := q_fl_c (t := 0) (by omega) (S 0 0) 0 (by omega) hc
      have hw : q_w 0 = 4 := rfl
      rw [hw] at g1 g2
      have k0 := g1 (4 * v) (by omega) (by omega)
      have k1 := g1 (4 * v + 1) (by omega) (by omega)
      have k2 := g1 (4 * v + 2) (by omega) (by omega)
      rw [show 4 * v % 4 = 0 by omega] at k0
      rw [show (4 * v + 1) % 4 = 1 by omega] at k1
      rw [show (4 * v + 2) % 4 = 2 by omega] at k2
      exact ⟨(q_val_lt 0 0 ⟨S 1 (4 * v), h2 _ (by omega)⟩ k0).2.2.2 rfl rfl, (q_val_lt 0 1 ⟨S 1 (4 * v + 1), h2 _ (by omega)⟩ k1).2.1 rfl, (q_val_lt 0 2 ⟨S 1 (4 * v + 2), h2 _ (by omega)⟩ k2).2.2.1 rfl rfl⟩
    · omega
  have hm : ∀ m, m < q_nm S → q_val 1 0 (S 3 (3 * m)) < 24 ∧ q_val 1 1 (S 3 (3 * m + 1)) < 8 := by
    intro m hm
    unfold q_nm at hm
    split at hm
    · rename_i hc
      obtain ⟨g1, g2⟩ := q_fl_c (t := 1) (by omega) (S 2 0) 0 (by omega) hc
      have hw : q_w 1 = 3 := rfl
      rw [hw] at g1 g2
      have k0 := g1 (3 * m) (by omega) (by omega)
      have k1 := g1 (3 * m + 1) (by omega) (by omega)
      rw [show 3 * m % 3 = 0 by omega] at k0
      rw [show (3 * m + 1) % 3 = 1 by omega] at k1
      exact ⟨(q_val_lt 1 0 ⟨S 3 (3 * m), h4 _ (by omega)⟩ k0).1, (q_val_lt 1 1 ⟨S 3 (3 * m + 1), h4 _ (by omega)⟩ k1).2.1 rfl⟩
    · omega
  refine ⟨?_, fun v h => ?_, fun v h => ⟨v, h, rfl⟩, ?_, fun m h => hm m h, h5, h6⟩
  · show q_nv S ≤ 8
    unfold q_nv
    split <;> omega
  · obtain ⟨a, b, c⟩ := hv v h
    exact ⟨a, b, c, h⟩
  · show q_nm S ≤ 12
    unfold q_nm
    split <;> omega
/-- the model holds the state -/
def q_rM (M : zM) (S : q_N) (it : Nat → Int32) : Prop := q_mt0 M (S 0 0) (S 1) ∧ q_mt1 M (S 2 0) (S 3) ∧ (M 62 0 = nI (S 4 0) ∧ M 62 1 = nI (S 4 1)) ∧ q_mev M (S 5 0) 0 255 (q_K S) ∧ (M 53 27 = nI (S 9 0) ∧ ∀ i, i < S 9 0 → M 75 (2 * i) = nI (S 10 i) ∧ M 75 (2 * i + 1) = nI (S 11 i)) ∧ M 53 4 = nI (S 12 0) ∧ (∀ s, s < 4 → M 54 s = (if S 13 s = 0 then -1 else nI (S 13 s - 1)) ∧ M 55 s = nI (S 14 s)) ∧ ∀ k, k < 240 → M 56 k = it k
/-- what the model's calls may write beside the state -/
def q_DX : Nat → Nat → Prop := fun a b => a = 57 ∨ a = 60 ∨ a = 61 ∨ (64 ≤ a ∧ a ≤ 74) ∨ a = 76 ∨ (a = 53 ∧ (b = 7 ∨ b = 9 ∨ b = 26 ∨ b = 30))
theorem q_rM_fr {M M1 : zM} {S : q_N} {it : Nat → Int32} (h : q_rM M S it) (hf : q_fr q_DX M M1) : q_rM M1 S it := by
  obtain ⟨⟨a1, a2, a3⟩, ⟨b1, b2, b3⟩, ⟨c1, c2⟩, ⟨d1, d2, d3, d4, d5, d6⟩, ⟨e1, e2⟩, f1, g1, k1⟩ := h
  have fr : ∀ a b, ¬ q_DX a b → M1 a b = M a b := hf
  refine ⟨⟨by rw [fr _ _ (by unfold q_DX; omega)]; exact a1, a2, fun i hi => by rw [fr _ _ (by unfold q_DX; omega)]; exact a3 i hi⟩, ⟨by rw [fr _ _ (by unfold q_DX; omega)]; exact b1, b2, fun i hi => by rw [fr _ _ (by unfold q_DX; omega)]; exact b3 i hi⟩, ⟨by rw [fr _ _ (by unfold q_DX; omega)]; exact c1, by rw [fr _ _ (by unfold q_DX; omega)]; exact c2⟩, ⟨by rw [fr _ _ (by unfold q_DX; omega)]; exact d1, d2, by rw [fr _ _ (by unfold q_DX; omega)]; exact d3, d4, d5, fun i hi => ?_⟩, ⟨by rw [fr _ _ (by unfold q_DX; omega)]; exact e1, fun i hi => ?_⟩, by rw [fr _ _ (by unfold q_DX; omega)]; exact f1, fun s hs => ?_, fun k hk => by rw [fr _ _ (by unfold q_DX; omega)]; exact k1 k hk⟩
  · rw [fr 63 (3 * i) (by unfold q_DX; omega), fr 63 (3 * i + 1) (by unfold q_DX; omega), fr 63 (3 * i + 2) (by unfold q_DX; omega)]
    exact d6 i hi
  · rw [fr 75 (2 * i) (by unfold q_DX; omega), fr 75 (2 * i + 1) (by unfold q_DX; omega)]
    exact e2 i hi
  · rw [fr 54 s (by unfold q_DX; omega), fr 55 s (by unfold q_DX; omega)]
    exact g1 s hs
/-- all that is told, as it comes out -/
def q_EA (S : q_N) : q_E := q_told (S 5 0) 255 (q_K S)
/-- behind lives -/
def q_ML (I : q_N) (E : q_E) (M1 : zM) : Prop := q_MV I (q_liv I E).1 M1 ∧ q_MO I (q_liv I E).2 (q_ord I).reverse M1 ∧ M1 53 26 = q_lvl I E (q_ord I).reverse
theorem q_spkL {X : zX} {M : zM} {Z : zM → Prop} (hgo : ∀ M2 : zM, (∀ a b, ¬ (a = 64) → M2 a b = M a b) → (∀ k, k < 8 → M2 64 k = nI k) → ∃ M', Call X 114 [.ref 53] M2 [] M' ∧ Z M') : ∀ (d k : Nat) (M1 : zM), k + d = 8 → (∀ a b, ¬ (a = 64) → M1 a b = M a b) → (∀ j, j < k → M1 64 j = nI j) → ∃ M', At X 115 12 [some (.ref 53), some (.int (nI k))] [] M1 [] M' ∧ Z M' := by
  intro d
  induction d with
  | zero =>
    intro k M1 hk hf hs
    have hk : k = 8 := by omega
    subst hk
    obtain ⟨M', hC, hZ⟩ := hgo M1 hf hs
    exact ⟨M', sg_Mo_find_12 ⟨fun _ => ⟨M', hC, rfl, rfl⟩, fun c => absurd (Int32.le_refl _) c⟩, hZ⟩
  | succ d ih =>
    intro k M1 hk hf hs
    obtain ⟨M', hA, hZ⟩ := ih (k + 1) (zu M1 64 k (nI k)) (by omega) (fun a b hn => by rw [zu_at, if_neg (by omega)]; exact hf a b hn) (fun j hj => by
      rw [zu_at]
      by_cases e : j = k
      · subst e; rw [if_pos ⟨rfl, rfl⟩]
      · rw [if_neg (by omega)]; exact hs j (by omega))
    refine ⟨M', sg_Mo_find_12 ⟨fun c => absurd ((q_le (a := 8) (by omega) (by omega)).mp c) (by omega), fun _ => ⟨q_in (by omega) (by omega), ?_⟩⟩, hZ⟩
    rw [q_cl (by omega), show nI k + (1 : Int32) = nI (k + 1) from nI_1 k]
    exact hA
/-- FIND -/
theorem c_Mo_find {X : zX} {M : zM} {S : q_N} {it : Nat → Int32} (hS : q_ws S) (h : q_rM M S it) : ∃ M', Call X 115 [.ref 53] M [] M' ∧ q_fr q_DX M M' ∧ q_mv M' (q_I S) ∧ q_mm M' (q_I S) ∧ q_ML (q_I S) (q_EA S) M' := by
  have hwf := q_I_wf hS
  obtain ⟨t0, t1, ⟨f0, f1⟩, hev, -⟩ := h
  obtain ⟨M1, hC1, r1, r2, r3⟩ := c_Mo_readsVoters (X := X) t0
  have k1 : ∀ a b, ¬ q_DP0 a b → M1 a b = M a b := r1
  have t1' : q_mt1 M1 (S 2 0) (S 3) := by
    obtain ⟨b1, b2, b3⟩ := t1
    exact ⟨by rw [k1 _ _ (by unfold q_DP0; omega)]; exact b1, b2, fun i hi => by rw [k1 _ _ (by unfold q_DP0; omega)]; exact b3 i hi⟩
  obtain ⟨M2, hC2, s1, s2, s3⟩ := c_Mo_readsMeasures (X := X) t1'
  have k2 : ∀ a b, ¬ q_DP1 a b → M2 a b = M1 a b := s1
  obtain ⟨M', hA, hZ⟩ := q_spkL (X := X) (M := M2) (Z := fun M' => q_fr q_DX M M' ∧ q_mv M' (q_I S) ∧ q_mm M' (q_I S) ∧ q_ML (q_I S) (q_EA S) M') (fun M3 hf hk => by
    have k3 : ∀ a b, a ≠ 64 → M3 a b = M2 a b := hf
    have hmv : q_mv M3 (q_I S) := by
      refine ⟨?_, fun v hv => ?_⟩
      · rw [k3 _ _ (by omega), k2 _ _ (by unfold q_DP1; omega)]
        show M1 53 7 = nI (q_nv S)
        unfold q_nv
        split
        · rename_i hc; exact (r2 hc).1
        · rename_i hc; exact r3 hc
      · have hv' : v < q_nv S := hv
        have hv8 : v < 8 := by have := hwf.1; exact Nat.lt_of_lt_of_le hv this
        rw [k3 60 _ (by omega), k2 60 _ (by unfold q_DP1; omega), k3 60 _ (by omega), k2 60 _ (by unfold q_DP1; omega), k3 60 _ (by omega), k2 60 _ (by unfold q_DP1; omega), hk v hv8]
        unfold q_nv at hv'
        split at hv'
        · rename_i hc
          have g := (r2 hc).2
          obtain ⟨-, g2⟩ := q_fl_c (t := 0) (by have := t0.2.1; omega) (S 0 0) 0 (by omega) hc
          have hw : q_w 0 = 4 := rfl
          rw [hw] at g2
          have g0 := g (4 * v) (by omega) (by omega)
          have g1 := g (4 * v + 1) (by omega) (by omega)
          have g3 := g (4 * v + 2) (by omega) (by omega)
          rw [show 3 * (4 * v / 4) + 4 * v % 4 = 3 * v by omega, show 4 * v % 4 = 0 by omega] at g0
          rw [show 3 * ((4 * v + 1) / 4) + (4 * v + 1) % 4 = 3 * v + 1 by omega, show (4 * v + 1) % 4 = 1 by omega] at g1
          rw [show 3 * ((4 * v + 2) / 4) + (4 * v + 2) % 4 = 3 * v + 2 by omega, show (4 * v + 2) % 4 = 2 by omega] at g3
          exact ⟨g0, g1, g3, rfl⟩
        · omega
    have hmm : q_mm M3 (q_I S) := by
      refine ⟨?_, fun m hm => ?_, ?_, ?_⟩
      · rw [k3 _ _ (by omega)]
        show M2 53 9 = nI (q_nm S)
        unfold q_nm
        split
        · rename_i hc; exact (s2 hc).1
        · rename_i hc; exact s3 hc
      · have hm' : m < q_nm S := hm
        rw [k3 61 _ (by omega), k3 61 _ (by omega)]
        unfold q_nm at hm'
        split at hm'
        · rename_i hc
          have g := (s2 hc).2
          obtain ⟨-, g2⟩ := q_fl_c (t := 1) (by have := t1.2.1; omega) (S 2 0) 0 (by omega) hc
          have hw : q_w 1 = 3 := rfl
          rw [hw] at g2
          have g0 := g (3 * m) (by omega) (by omega)
          have g1 := g (3 * m + 1) (by omega) (by omega)
          rw [show 2 * (3 * m / 3) + 3 * m % 3 = 2 * m by omega, show 3 * m % 3 = 0 by omega] at g0
          rw [show 2 * ((3 * m + 1) / 3) + (3 * m + 1) % 3 = 2 * m + 1 by omega, show (3 * m + 1) % 3 = 1 by omega] at g1
          exact ⟨g0, g1⟩
        · omega
      · rw [k3 _ _ (by omega), k2 _ _ (by unfold q_DP1; omega), k1 _ _ (by unfold q_DP0; omega)]; exact f0
      · rw [k3 _ _ (by omega), k2 _ _ (by unfold q_DP1; omega), k1 _ _ (by unfold q_DP0; omega)]; exact f1
    have hev3 : q_mev M3 (S 5 0) 0 255 (q_K S) := q_mev_fr hev (by rw [k3 _ _ (by omega), k2 _ _ (by unfold q_DP1; omega), k1 _ _ (by unfold q_DP0; omega)]) (by rw [k3 _ _ (by omega), k2 _ _ (by unfold q_DP1; omega), k1 _ _ (by unfold q_DP0; omega)]) (by funext b; rw [k3 _ _ (by omega), k2 _ _ (by unfold q_DP1; omega), k1 _ _ (by unfold q_DP0; omega)])
    obtain ⟨M4, hC4, l1, l2, l3, l4⟩ := c_Mo_lives (X := X) hwf hmv hmm hev3
    have k4 : ∀ a b, ¬ q_DM a b → M4 a b = M3 a b := l1
    refine ⟨M4, hC4, ?_, ⟨?_, fun v hv => ?_⟩, ⟨?_, fun m hm => ?_, ?_, ?_⟩, l2, l3, l4⟩
    · intro a b hn
      unfold q_DX at hn
      rw [k4 a b (by unfold q_DM; omega), k3 a b (by omega), k2 a b (by unfold q_DP1; omega), k1 a b (by unfold q_DP0; omega)]
    · rw [k4 _ _ (by unfold q_DM; omega)]; exact hmv.1
    · rw [k4 60 _ (by unfold q_DM; omega), k4 60 _ (by unfold q_DM; omega), k4 60 _ (by unfold q_DM; omega), k4 64 _ (by unfold q_DM; omega)]; exact hmv.2 v hv
    · rw [k4 _ _ (by unfold q_DM; omega)]; exact hmm.1
    · rw [k4 61 _ (by unfold q_DM; omega), k4 61 _ (by unfold q_DM; omega)]; exact hmm.2.1 m hm
    · rw [k4 _ _ (by unfold q_DM; omega)]; exact hmm.2.2.1
    · rw [k4 _ _ (by unfold q_DM; omega)]; exact hmm.2.2.2) 8 0 M2 (by omega) (fun _ _ _ => rfl) (fun j hj => by omega)
  exact ⟨M', Call.of (Nat.le_of_ble_eq_true rfl) (sg_Mo_find_0 ⟨_, _, hC1, _, _, hC2, hA⟩), hZ⟩
