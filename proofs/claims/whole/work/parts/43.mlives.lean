/-! votes, lives -/
def q_lvl (I : q_N) (E : q_E) : List Nat → Int32
  | [] => -1
  | m :: l => if q_lvl I E l = -1 then (if q_ay I E (q_run I E l).1 m = q_no I E (q_run I E l).1 m then nI m else q_lvl I E l) else q_lvl I E l
def q_DM : Nat → Nat → Prop := fun a b => (65 ≤ a ∧ a ≤ 74) ∨ (a = 53 ∧ b = 26)
def q_MV (I V : q_N) (M1 : zM) : Prop := ∀ v, v < I 0 0 → M1 65 v = nI (V 0 v) ∧ M1 66 v = nI (V 1 v) ∧ M1 67 v = nI (V 2 v) ∧ M1 68 v = nI (V 3 v)
def q_MO (I O : q_N) (l : List Nat) (M1 : zM) : Prop := ∀ m, m ∈ l → M1 70 m = nI (O 1 m) ∧ M1 71 m = nI (O 2 m) ∧ M1 72 m = nI (O 3 m) ∧ M1 73 m = nI (O 4 m) ∧ M1 74 m = nI (O 5 m) ∧ ∀ v, v < I 0 0 → M1 69 (8 * m + v) = nI (O 0 (8 * m + v))
def q_MI (I : q_N) (E : q_E) (l : List Nat) (M M1 : zM) : Prop := q_fr q_DM M M1 ∧ q_MV I (q_run I E l).1 M1 ∧ q_MO I (q_run I E l).2 l M1 ∧ M1 53 26 = q_lvl I E l
theorem q_mfo : ∀ (a n : Fin 9) (f : Fin 2) (w : Fin 10), ((if nI a.val + (if nI f.val = 0 then (0 : Int32) else (1 : Int32)) * nI w.val ≤ nI n.val + ((1 : Int32) - (if nI f.val = 0 then (0 : Int32) else (1 : Int32))) * nI w.val then (0 : Int32) else (1 : Int32)) &&& 1) = nI (if (if f.val = 1 then n.val < a.val + w.val else n.val + w.val < a.val) then 1 else 0) := by decide +kernel
theorem q_mfo0 : ∀ (a n : Fin 9) (f : Fin 2), ((if nI a.val + (if nI f.val = 0 then (0 : Int32) else (1 : Int32)) * (0 : Int32) ≤ nI n.val + ((1 : Int32) - (if nI f.val = 0 then (0 : Int32) else (1 : Int32))) * (0 : Int32) then (0 : Int32) else (1 : Int32)) &&& 1) = nI (if n.val < a.val then 1 else 0) := by decide +kernel
theorem q_mdc : ∀ (a n : Fin 9) (p : Fin 2), ((if nI p.val = (if nI a.val ≤ nI n.val then (0 : Int32) else (1 : Int32)) then (0 : Int32) else (1 : Int32)) &&& 1) = nI (if (p.val = 1 ↔ n.val < a.val) then 0 else 1) := by decide +kernel
theorem c_Mo_votes {X : zX} {M M1 : zM} {I : q_N} {m ne gone held : Nat} {K : q_N} {l : List Nat} (hwf : q_wf I) (hm : m < I 5 0) (hmv : q_mv M I) (hmm : q_mm M I) (hme : q_mev M ne gone held K) (hI : q_MI I (q_told ne held K) l M M1) : ∃ M', Call X 113 [.ref 53, .int (nI m)] M1 [] M' ∧ q_MI I (q_told ne held K) (m :: l) M M' := by
  have wv := q_run_wv (E := q_told ne held K) hwf l
  have hwf0 := hwf
  obtain ⟨w1, w2, w3, w4, w5, w6, w7⟩ := hwf
  have hm12 : m < 12 := by omega
  obtain ⟨f1, hV, hO, hlv⟩ := hI
  have fr : ∀ a b, ¬ q_DM a b → M1 a b = M a b := f1
  have hme1 : q_mev M1 ne gone held K := q_mev_fr hme (fr _ _ (by unfold q_DM; omega)) (fr _ _ (by unfold q_DM; omega)) (by funext b; exact fr _ _ (by unfold q_DM; omega))
  have hmv1 : q_mv M1 I := by
    refine ⟨by rw [fr 53 7 (by unfold q_DM; omega)]; exact hmv.1, fun v hv => ?_⟩
    rw [fr 60 (3 * v) (by unfold q_DM; omega), fr 60 (3 * v + 1) (by unfold q_DM; omega), fr 60 (3 * v + 2) (by unfold q_DM; omega), fr 64 v (by unfold q_DM; omega)]
    exact hmv.2 v hv
  have gy : M1 61 (2 * m) = nI (I 6 m) := by rw [fr 61 _ (by unfold q_DM; omega)]; exact (hmm.2.1 m hm).1
  have gt : M1 61 (2 * m + 1) = nI (I 7 m) := by rw [fr 61 _ (by unfold q_DM; omega)]; exact (hmm.2.1 m hm).2
  have gf : M1 62 0 = nI (I 8 0) := by rw [fr 62 _ (by unfold q_DM; omega)]; exact hmm.2.2.1
  have gw : M1 62 1 = nI (I 8 1) := by rw [fr 62 _ (by unfold q_DM; omega)]; exact hmm.2.2.2
  have hT0 := c_Mo_isTold (X := X) (kind := 0) (y := I 6 m) (v := 0) hme1 (by omega) (w5 m hm).1 (by omega)
  have ht := q_tr_lt (E := q_told ne held K) (w5 m hm).2
  have hVv : ∀ v, v < I 0 0 → M1 65 v = nI ((q_run I (q_told ne held K) l).1 0 v) ∧ (q_run I (q_told ne held K) l).1 0 v < 8 := fun v hv => ⟨(hV v hv).1, (wv v hv).1⟩
  have hin : vp_in (nI m) 12 := q_in hm12 (by omega)
  have em : (nI m).toNatClampNeg = m := q_cl (by omega)
  have key := q_mspL (X := X) (M := M1) (I := I) (V := (q_run I (q_told ne held K) l).1) (m := m) (ne := ne) (gone := gone) (held := held) (K := K) (Z := fun M' => q_MI I (q_told ne held K) (m :: l) M M') hwf0 hm hmv1 hme1 hVv (fun M2 l8 l9 l10 hS => by
    have fs : ∀ a b, a ≠ 69 → M2 a b = M1 a b := fun a b hn => hS.1 a b (by unfold q_DS; omega)
    have hme2 : q_mev M2 ne gone held K := q_mev_fr hme1 (fs _ _ (by omega)) (fs _ _ (by omega)) (by funext b; exact fs _ _ (by omega))
    have hT1 := c_Mo_isTold (X := X) (kind := 1) (y := I 6 m) (v := 0) hme2 (by omega) (w5 m hm).1 (by omega)
    generalize hE : q_told ne held K = E at *
    generalize hs : q_run I E l = s at *
    have hsp := (q_sp_in I E s.1 m (I 0 0)).1
    have ha8 : q_ay I E s.1 m + q_no I E s.1 m ≤ 8 := by unfold q_ay q_no; omega
    have e0 : M2 53 7 = nI (I 0 0) := by rw [fs _ _ (by omega)]; exact hmv1.1
    have hfo : ((if nI (q_ay I E s.1 m) + (if nI (q_b (q_for (I 8 0) (q_tr I E m))) = 0 then (0 : Int32) else (1 : Int32)) * (if nI (q_b (E 1 (I 6 m) 0)) = 0 then nI (I 8 1) else (0 : Int32)) ≤ nI (q_no I E s.1 m) + ((1 : Int32) - (if nI (q_b (q_for (I 8 0) (q_tr I E m))) = 0 then (0 : Int32) else (1 : Int32))) * (if nI (q_b (E 1 (I 6 m) 0)) = 0 then nI (I 8 1) else (0 : Int32)) then (0 : Int32) else (1 : Int32)) &&& 1) = nI (q_b (q_ps I E s.1 m)) := by
      unfold q_ps q_wt q_ff
      cases hap : E 1 (I 6 m) 0 with
      | true =>
        have h := q_mfo0 ⟨q_ay I E s.1 m, by omega⟩ ⟨q_no I E s.1 m, by omega⟩ ⟨q_b (q_for (I 8 0) (q_tr I E m)), q_b_lt _⟩
        dsimp only at h
        rw [show (if nI (q_b true) = 0 then nI (I 8 1) else (0 : Int32)) = 0 from if_neg (by decide), h]
        cases q_for (I 8 0) (q_tr I E m) <;> simp [q_b_eq, Nat.blt_eq]
      | false =>
        have h := q_mfo ⟨q_ay I E s.1 m, by omega⟩ ⟨q_no I E s.1 m, by omega⟩ ⟨q_b (q_for (I 8 0) (q_tr I E m)), q_b_lt _⟩ ⟨I 8 1, w7⟩
        dsimp only at h
        rw [show (if nI (q_b false) = 0 then nI (I 8 1) else (0 : Int32)) = nI (I 8 1) from if_pos (by decide), h]
        cases q_for (I 8 0) (q_tr I E m) <;> simp [q_b_eq, Nat.blt_eq]
    have hdc : ((if nI (q_b (q_ps I E s.1 m)) = (if nI (q_ay I E s.1 m) ≤ nI (q_no I E s.1 m) then (0 : Int32) else (1 : Int32)) then (0 : Int32) else (1 : Int32)) &&& 1) = nI (q_b (q_dc I E s.1 m)) := by
      have h := q_mdc ⟨q_ay I E s.1 m, by omega⟩ ⟨q_no I E s.1 m, by omega⟩ ⟨q_b (q_ps I E s.1 m), q_b_lt _⟩
      dsimp only at h
      rw [h]
      unfold q_dc
      by_cases hna : q_no I E s.1 m < q_ay I E s.1 m
      · have hb : Nat.blt (q_no I E s.1 m) (q_ay I E s.1 m) = true := by simpa [Nat.blt_eq] using hna
        rw [hb]
        cases q_ps I E s.1 m <;> simp [q_b, hna]
      · have hb : Nat.blt (q_no I E s.1 m) (q_ay I E s.1 m) = false := by
          cases hb : Nat.blt (q_no I E s.1 m) (q_ay I E s.1 m) with
          | false => rfl
          | true => exact absurd (by simpa [Nat.blt_eq] using hb) hna
        rw [hb]
        cases q_ps I E s.1 m <;> simp [q_b, hna]
    have hfd : (if nI (q_b (E 1 (I 6 m) 0)) = 0 then (if nI (q_b (q_for (I 8 0) (q_tr I E m))) = 0 then (0 : Int32) else (1 : Int32)) else (2 : Int32)) = nI (q_fd I E m) := by
      unfold q_fd q_ff
      cases E 1 (I 6 m) 0 <;> cases q_for (I 8 0) (q_tr I E m) <;> decide
    have hz : ∀ N : zM, (zu N 73 m (nI (q_b (q_ps I E s.1 m)))) 73 m = nI (q_b (q_ps I E s.1 m)) := fun N => by rw [zu_at, if_pos ⟨rfl, rfl⟩]
    have hlv2 : (if M2 53 26 = (-1 : Int32) then (if nI (q_ay I E s.1 m) = nI (q_no I E s.1 m) then nI m else M2 53 26) else M2 53 26) = q_lvl I E (m :: l) := by
      rw [fs _ _ (by omega), hlv]
      simp only [q_lvl, hs, q_eq (show q_ay I E s.1 m < 100000 by omega) (show q_no I E s.1 m < 100000 by omega)]
    generalize hM4 : (zu (zu (zu (zu (zu (zu M2 70 m (nI (q_ay I E s.1 m))) 71 m (nI (q_no I E s.1 m))) 72 m (nI (q_fd I E m))) 73 m (nI (q_b (q_ps I E s.1 m)))) 74 m (nI (q_b (q_dc I E s.1 m)))) 53 26 (q_lvl I E (m :: l))) = M4
    have a4 : ∀ a b, M4 a b = if a = 53 ∧ b = 26 then q_lvl I E (m :: l) else if a = 74 ∧ b = m then nI (q_b (q_dc I E s.1 m)) else if a = 73 ∧ b = m then nI (q_b (q_ps I E s.1 m)) else if a = 72 ∧ b = m then nI (q_fd I E m) else if a = 71 ∧ b = m then nI (q_no I E s.1 m) else if a = 70 ∧ b = m then nI (q_ay I E s.1 m) else M2 a b := by
      intro a b
      rw [← hM4]
      simp only [zu_at]
    have f4 : ∀ a b, ¬ ((a = 53 ∧ b = 26) ∨ (b = m ∧ 70 ≤ a ∧ a ≤ 74)) → M4 a b = M2 a b := by
      intro a b hn
      rw [a4, if_neg (by omega), if_neg (by omega), if_neg (by omega), if_neg (by omega), if_neg (by omega), if_neg (by omega)]
    obtain ⟨M5, hC5, r1, r2⟩ := c_Mo_comesOut (X := X) (M := M4) (nv := I 0 0) (m := m) (V := s.1) (sd := fun v => q_sd I E s.1 m (fun _ => 0) (I 0 0) v) (o := q_ps I E s.1 m) w1 (by rw [f4 _ _ (by omega)]; exact e0) hm12 (by rw [a4, if_neg (by omega), if_neg (by omega), if_pos ⟨rfl, rfl⟩]) (fun v hv => ⟨by rw [f4 _ _ (by omega)]; exact hS.2 v hv (w3 v hv), q_sd_le I E s.1 m _ v⟩) (fun v hv => by
      rw [f4 65 v (by omega), fs _ _ (by omega), f4 66 v (by omega), fs _ _ (by omega), f4 67 v (by omega), fs _ _ (by omega), f4 68 v (by omega), fs _ _ (by omega)]
      obtain ⟨q1, q2, q3, q4⟩ := hV v hv
      exact ⟨q1, (wv v hv).1, q2, (wv v hv).2, q3, q4⟩)
    have f5 : ∀ a b, ¬ (65 ≤ a ∧ a ≤ 68) → M5 a b = M4 a b := fun a b hn => r1 a b (by unfold q_DR; omega)
    have eR : (q_run I E (m :: l)).1 = q_V I E s.1 m ∧ (q_run I E (m :: l)).2 = q_O I E s.1 s.2 m := by
      constructor <;> (rw [← hs]; rfl)
    refine ⟨M5, sg_Mo_votes_48 ⟨fun _ => ?_, fun c => absurd (q_yle e0 (Nat.le_refl _) (by omega)) c⟩, ?_, ?_, ?_, ?_⟩
    · refine ⟨_, _, hT1, ?_⟩
      rw [fs 62 0 (by omega), gf]
      refine ⟨_, _, c_Mo_isFor ht w6, hin, hin, hin, hin, hin, hin, ?_⟩
      rw [em, fs 62 1 (by omega), gw, hfo, hz, hdc, hfd, hlv2, hM4]
      exact ⟨M5, hC5, rfl, rfl⟩
    · intro a b hn
      unfold q_DM at hn
      rw [f5 a b (by omega), f4 a b (by omega), fs a b (by omega)]
      exact fr a b (by unfold q_DM; omega)
    · intro v hv
      obtain ⟨q1, q2, q3, q4⟩ := r2 v hv
      rw [eR.1]
      simp only [q_V, if_pos hv]
      exact ⟨q1, q2, q3, q4⟩
    · intro j hj
      rw [eR.2, f5 70 _ (by omega), f5 71 _ (by omega), f5 72 _ (by omega), f5 73 _ (by omega), f5 74 _ (by omega)]
      by_cases ej : j = m
      · subst ej
        refine ⟨by rw [a4]; simp [q_O], by rw [a4]; simp [q_O], by rw [a4]; simp [q_O], by rw [a4]; simp [q_O], by rw [a4]; simp [q_O], fun v hv => ?_⟩
        rw [f5 _ _ (by omega), f4 _ _ (by omega), hS.2 v hv (w3 v hv)]
        have e8 : 8 * j + v - 8 * j = v := by omega
        simp only [q_O, e8]
        rw [if_pos (by omega)]
      · obtain ⟨q1, q2, q3, q4, q5, q6⟩ := hO j (by
          rcases List.mem_cons.mp hj with h | h
          · exact absurd h ej
          · exact h)
        rw [f4 70 _ (by omega), fs _ _ (by omega), f4 71 _ (by omega), fs _ _ (by omega), f4 72 _ (by omega), fs _ _ (by omega), f4 73 _ (by omega), fs _ _ (by omega), f4 74 _ (by omega), fs _ _ (by omega)]
        simp only [q_O, if_neg ej]
        refine ⟨q1, q2, q3, q4, q5, fun v hv => ?_⟩
        rw [f5 _ _ (by omega), f4 _ _ (by omega), hS.1 _ _ (by unfold q_DS; omega), if_neg (by omega)]
        exact q6 v hv
    · rw [f5 _ _ (by omega), a4, if_pos ⟨rfl, rfl⟩]) (I 0 0) 0 M1 none none none (by omega) ⟨q_fr_rf, fun v _ hx => by obtain ⟨p', h1, -⟩ := hx; omega⟩
  obtain ⟨M', hA, hZ⟩ := key
  have e2 : (2 : Int32) * nI m = nI (2 * m) := by rw [show (2 : Int32) = nI 2 from rfl, pk_mul]
  have e21 : nI (2 * m) + (1 : Int32) = nI (2 * m + 1) := nI_1 _
  have c2 : (nI (2 * m)).toNatClampNeg = 2 * m := q_cl (by omega)
  have c21 : (nI (2 * m + 1)).toNatClampNeg = 2 * m + 1 := q_cl (by omega)
  have htr : (nI (I 7 m) ||| (if nI (q_b (q_told ne held K 0 (I 6 m) 0)) = 0 then (0 : Int32) else (1 : Int32))) = nI (q_tr I (q_told ne held K) m) := by
    unfold q_tr
    cases q_told ne held K 0 (I 6 m) 0 with
    | true => rw [if_neg (by decide), show (1 : Int32) = nI 1 from rfl, q_or]; rfl
    | false => rw [if_pos (by decide), show (0 : Int32) = nI 0 from rfl, q_or]; rfl
  refine ⟨M', Call.of (Nat.le_of_ble_eq_true rfl) (sg_Mo_votes_0 ?_), hZ⟩
  rw [e2, e21, c2, c21, gy, gt]
  refine ⟨q_in (by omega) (by omega), q_in (by omega) (by omega), _, _, hT0, ?_⟩
  rw [htr]
  exact hA
