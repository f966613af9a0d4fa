/-! TRIALS -/
def q_tr3 (M : zM) (I : q_N) (ne : Nat) (K : q_N) : Prop := q_cv M 25 26 27 28 29 I ∧ q_cm M 25 30 31 32 I ∧ q_evs M 25 33 34 35 ne K
theorem q_tr_fr {M M1 : zM} {I : q_N} {ne : Nat} {K : q_N} (h : q_tr3 M I ne K) (hf : ∀ a b, 25 ≤ a → a ≤ 35 → M1 a b = M a b) : q_tr3 M1 I ne K := by
  obtain ⟨⟨v1, v2⟩, ⟨n1, n2, n3, n4, n5, n6⟩, e1, e2, e3⟩ := h
  refine ⟨⟨by rw [hf _ _ (by omega) (by omega)]; exact v1, fun v hv => ?_⟩, ⟨by rw [hf _ _ (by omega) (by omega)]; exact n1, fun m hm => ?_, fun t x hx => by rw [hf _ _ (by omega) (by omega)]; exact n3 t x hx, n4, by rw [hf _ _ (by omega) (by omega)]; exact n5, by rw [hf _ _ (by omega) (by omega)]; exact n6⟩, by rw [hf _ _ (by omega) (by omega)]; exact e1, e2, fun i hi => ?_⟩
  · rw [hf 26 _ (by omega) (by omega), hf 27 _ (by omega) (by omega), hf 28 _ (by omega) (by omega), hf 29 _ (by omega) (by omega)]; exact v2 v hv
  · rw [hf 30 _ (by omega) (by omega), hf 31 _ (by omega) (by omega)]; exact n2 m hm
  · rw [hf 33 _ (by omega) (by omega), hf 34 _ (by omega) (by omega), hf 35 _ (by omega) (by omega)]; exact e3 i hi
theorem q_try {X : zX} {M : zM} {I : q_N} {ne : Nat} {K : q_N} {held : Nat} (hwf : q_wf I) (h : q_tr3 M I ne K) (hh : held < 2 ^ 31) : ∃ M', Call X 13 [.ref 36, .ref 25, .int (nI held)] M [] M' ∧ q_fr (q_DH 36) M M' ∧ q_HR 36 I (q_told ne held K) M' := by
  obtain ⟨M', hC, hI⟩ := q_hold_b (X := X) hwf h.1 h.2.1 h.2.2 hh
  exact ⟨M', hC, q_HI_R hwf hI⟩
theorem q_tryT {X : zX} {M : zM} {I : q_N} {ne : Nat} {K : q_N} {held : Nat} (hwf : q_wf I) (h1 : q_cv M 5 6 7 8 9 I) (h2 : q_cm M 5 10 11 12 I) (h3 : q_evs M 5 13 14 15 ne K) (hh : held < 2 ^ 31) : ∃ M', Call X 13 [.ref 36, .ref 5, .int (nI held)] M [] M' ∧ q_fr (q_DH 36) M M' ∧ q_HR 36 I (q_told ne held K) M' := by
  obtain ⟨M', hC, hI⟩ := q_hold_c (X := X) hwf h1 h2 h3 hh
  exact ⟨M', hC, q_HI_R hwf hI⟩
theorem q_live {X : zX} {M : zM} {I : q_N} {ne gone held : Nat} {K : q_N} (hwf : q_wf I) (hmv : q_mv M I) (hmm : q_mm M I) (hme : q_mev M ne gone held K) : ∃ M', Call X 114 [.ref 53] M [] M' ∧ q_fr q_DM M M' ∧ q_ML I (q_told ne held K) M' := by
  obtain ⟨M', hC, h1, h2, h3, h4⟩ := c_Mo_lives (X := X) hwf hmv hmm hme
  exact ⟨M', hC, h1, h2, h3, h4⟩
theorem q_become {X : zX} {M : zM} {S : q_N} (hS : q_ws S) (hT : q_CT M S) (hV : q_CV M S) : ∃ M1, Call X 36 [.ref 25, .ref 5] M [] M1 ∧ q_fr (fun a b => 25 ≤ a ∧ a ≤ 35) M M1 ∧ q_tr3 M1 (q_I S) (S 5 0) (q_K S) := by
  have hwf := q_I_wf hS
  have h8 := hwf.1
  have h12 := hwf.2.2.2.1
  refine ⟨m_Ca_become_r M, c_Ca_become_r, ?_, ?_⟩
  · intro a b hn
    unfold m_Ca_become_r
    rw [zu_n (by omega), zu_n (by omega), zua_ne a (by omega), zua_ne a (by omega), zua_ne a (by omega), zu_n (by omega), zua_ne a (by omega), zua_ne a (by omega), zua_ne a (by omega), zu_n (by omega), zua_ne a (by omega), zua_ne a (by omega), zua_ne a (by omega), zua_ne a (by omega), zu_n (by omega)]
  · have k : ∀ a b, (26 ≤ a ∧ a ≤ 29 ∨ 33 ≤ a ∧ a ≤ 35) → b < 8 → m_Ca_become_r M a b = M (a - 20) b := by
      intro a b ha hb
      have : a = 26 ∨ a = 27 ∨ a = 28 ∨ a = 29 ∨ a = 33 ∨ a = 34 ∨ a = 35 := by omega
      rcases this with rfl | rfl | rfl | rfl | rfl | rfl | rfl <;> simp [m_Ca_become_r, zu, zua, va_cpy, upd, hb]
    have k2 : ∀ a b, (30 ≤ a ∧ a ≤ 32) → b < 12 → m_Ca_become_r M a b = M (a - 20) b := by
      intro a b ha hb
      have : a = 30 ∨ a = 31 ∨ a = 32 := by omega
      rcases this with rfl | rfl | rfl <;> simp [m_Ca_become_r, zu, zua, va_cpy, upd, hb]
    have k3 : m_Ca_become_r M 25 0 = M 5 0 ∧ m_Ca_become_r M 25 5 = M 5 5 ∧ m_Ca_become_r M 25 9 = M 5 9 ∧ m_Ca_become_r M 25 13 = M 5 13 ∧ m_Ca_become_r M 25 14 = M 5 14 := by
      refine ⟨?_, ?_, ?_, ?_, ?_⟩ <;> simp [m_Ca_become_r, zu, zua, upd]
    obtain ⟨⟨v1, v2⟩, ⟨n1, n2, n3, n4, n5, n6⟩, -⟩ := hV
    obtain ⟨e1, e2, e3⟩ := hT.2.2.2
    refine ⟨⟨by rw [k3.1]; exact v1, fun v hv => ?_⟩, ⟨by rw [k3.2.1]; exact n1, fun m hm => ?_, fun t x hx => ?_, n4, by rw [k3.2.2.2.1]; exact n5, by rw [k3.2.2.2.2]; exact n6⟩, by rw [k3.2.2.1]; exact e1, e2, fun i hi => ?_⟩
    · rw [k 26 v (by omega) (by omega), k 27 v (by omega) (by omega), k 28 v (by omega) (by omega), k 29 v (by omega) (by omega)]; exact v2 v hv
    · rw [k2 30 m (by omega) (by omega), k2 31 m (by omega) (by omega)]; exact n2 m hm
    · have := (List.getElem?_eq_some_iff.mp hx).1
      rw [k2 32 t (by omega) (by omega)]; exact n3 t x hx
    · rw [k 33 i (by omega) (by omega), k 34 i (by omega) (by omega), k 35 i (by omega) (by omega)]; exact e3 i hi
theorem q_ord_cg {I I' : q_N} (h5 : I' 5 0 = I 5 0) (h6 : I' 6 = I 6) : q_ord I' = q_ord I := by rw [q_ordn_eq, q_ordn_eq, h5, h6]
/-! one thing otherwise: traits of a measure; the fool's liking; a voter's liking; a voter's sort; two places -/
theorem q_wf_put {I : q_N} {m v : Nat} (h : q_wf I) (hv : v < 8) : q_wf (q_up I 7 m v) := by
  obtain ⟨w1, w2, w3, w4, w5, w6, w7⟩ := h
  unfold q_wf
  rw [q_up_ne (x := 0) (by omega), q_up_ne (x := 1) (by omega), q_up_ne (x := 2) (by omega), q_up_ne (x := 3) (by omega), q_up_ne (x := 4) (by omega), q_up_ne (x := 5) (by omega), q_up_ne (x := 6) (by omega), q_up_ne (x := 8) (by omega)]
  refine ⟨w1, w2, w3, w4, fun j hj => ⟨(w5 j hj).1, ?_⟩, w6, w7⟩
  by_cases e : j = m
  · rw [e, q_up_eq]; exact hv
  · rw [q_up_n2 e]; exact (w5 j hj).2
theorem q_wf_wish {I : q_N} {v : Nat} (h : q_wf I) (hv : v < 8) : q_wf (q_up I 8 0 v) := by
  obtain ⟨w1, w2, w3, w4, w5, w6, w7⟩ := h
  unfold q_wf
  rw [q_up_ne (x := 0) (by omega), q_up_ne (x := 1) (by omega), q_up_ne (x := 2) (by omega), q_up_ne (x := 3) (by omega), q_up_ne (x := 4) (by omega), q_up_ne (x := 5) (by omega), q_up_ne (x := 6) (by omega), q_up_ne (x := 7) (by omega), q_up_eq, q_up_n2 (by omega)]
  exact ⟨w1, w2, w3, w4, w5, hv, w7⟩
theorem q_wf_like {I : q_N} {k v : Nat} (h : q_wf I) (hv : v < 8) : q_wf (q_up I 2 k v) := by
  obtain ⟨w1, w2, w3, w4, w5, w6, w7⟩ := h
  unfold q_wf
  rw [q_up_ne (x := 0) (by omega), q_up_ne (x := 1) (by omega), q_up_ne (x := 7) (by omega), q_up_ne (x := 3) (by omega), q_up_ne (x := 4) (by omega), q_up_ne (x := 5) (by omega), q_up_ne (x := 6) (by omega), q_up_ne (x := 8) (by omega)]
  refine ⟨w1, fun j hj => ⟨(w2 j hj).1, ?_, (w2 j hj).2.2⟩, w3, w4, w5, w6, w7⟩
  by_cases e : j = k
  · rw [e, q_up_eq]; exact hv
  · rw [q_up_n2 e]; exact (w2 j hj).2.1
theorem q_wf_sort {I : q_N} {k v : Nat} (h : q_wf I) (hv : v < 3) : q_wf (q_up I 1 k v) := by
  obtain ⟨w1, w2, w3, w4, w5, w6, w7⟩ := h
  unfold q_wf
  rw [q_up_ne (x := 0) (by omega), q_up_ne (x := 2) (by omega), q_up_ne (x := 7) (by omega), q_up_ne (x := 3) (by omega), q_up_ne (x := 4) (by omega), q_up_ne (x := 5) (by omega), q_up_ne (x := 6) (by omega), q_up_ne (x := 8) (by omega)]
  refine ⟨w1, fun j hj => ⟨?_, (w2 j hj).2⟩, w3, w4, w5, w6, w7⟩
  by_cases e : j = k
  · rw [e, q_up_eq]; exact hv
  · rw [q_up_n2 e]; exact (w2 j hj).1
theorem q_sw_4 {I : q_N} {a b j : Nat} (h4 : ∀ j, I 4 j = j) : q_up (q_up I 4 a b) 4 b a 4 j = if j = b then a else if j = a then b else j := by
  by_cases e : j = b
  · rw [if_pos e, e, q_up_eq]
  · rw [if_neg e, q_up_n2 e]
    by_cases e2 : j = a
    · rw [if_pos e2, e2, q_up_eq]
    · rw [if_neg e2, q_up_n2 e2, h4]
theorem q_sw_ne {I : q_N} {a b x : Nat} (h : x ≠ 4) : q_up (q_up I 4 a b) 4 b a x = I x := by rw [q_up_ne h, q_up_ne h]
theorem q_wf_swap {I : q_N} {a b : Nat} (h : q_wf I) (h4 : ∀ j, I 4 j = j) (ha : a < I 0 0) (hb : b < I 0 0) : q_wf (q_up (q_up I 4 a b) 4 b a) := by
  obtain ⟨w1, w2, w3, w4, w5, w6, w7⟩ := h
  unfold q_wf
  simp only [q_sw_ne (I := I) (a := a) (b := b) (x := 0) (by omega), q_sw_ne (I := I) (a := a) (b := b) (x := 1) (by omega), q_sw_ne (I := I) (a := a) (b := b) (x := 2) (by omega), q_sw_ne (I := I) (a := a) (b := b) (x := 3) (by omega), q_sw_ne (I := I) (a := a) (b := b) (x := 5) (by omega), q_sw_ne (I := I) (a := a) (b := b) (x := 6) (by omega), q_sw_ne (I := I) (a := a) (b := b) (x := 7) (by omega), q_sw_ne (I := I) (a := a) (b := b) (x := 8) (by omega), q_sw_4 h4]
  refine ⟨w1, fun j hj => ⟨(w2 j hj).1, (w2 j hj).2.1, (w2 j hj).2.2.1, ?_⟩, fun j hj => ?_, w4, w5, w6, w7⟩
  · split
    · exact ha
    · split
      · exact hb
      · exact hj
  · by_cases e : j = a
    · exact ⟨b, hb, by rw [if_pos rfl, e]⟩
    · by_cases e2 : j = b
      · refine ⟨a, ha, ?_⟩
        by_cases e3 : a = b
        · omega
        · rw [if_neg e3, if_pos rfl, e2]
      · exact ⟨j, hj, by rw [if_neg e2, if_neg e]⟩
/-- the class's trial -/
theorem q_tr_put {M M1 : zM} {I : q_N} {ne m v : Nat} {K : q_N} (h : q_tr3 M I ne K) (hf : q_fr (fun a b => q_DH 36 a b ∨ (a = 31 ∧ b = m)) M M1) : q_tr3 (zu M1 31 m (nI v)) (q_up I 7 m v) ne K := by
  have fr : ∀ a b, 25 ≤ a → a ≤ 35 → ¬ (a = 31 ∧ b = m) → zu M1 31 m (nI v) a b = M a b := fun a b h1 h2 h3 => by
    rw [zu_n (by omega)]
    exact hf a b (by unfold q_DH; omega)
  obtain ⟨⟨v1, v2⟩, ⟨n1, n2, n3, n4, n5, n6⟩, e1, e2, e3⟩ := h
  unfold q_tr3 q_cv q_cm
  rw [q_ord_cg (I := I) (I' := q_up I 7 m v) (by rw [q_up_ne (by omega)]) (by rw [q_up_ne (by omega)]), q_up_ne (x := 0) (by omega), q_up_ne (x := 1) (by omega), q_up_ne (x := 2) (by omega), q_up_ne (x := 3) (by omega), q_up_ne (x := 4) (by omega), q_up_ne (x := 5) (by omega), q_up_ne (x := 6) (by omega), q_up_ne (x := 8) (by omega)]
  refine ⟨⟨by rw [fr _ _ (by omega) (by omega) (by omega)]; exact v1, fun u hu => ?_⟩, ⟨by rw [fr _ _ (by omega) (by omega) (by omega)]; exact n1, fun j hj => ?_, fun t x hx => by rw [fr _ _ (by omega) (by omega) (by omega)]; exact n3 t x hx, n4, by rw [fr _ _ (by omega) (by omega) (by omega)]; exact n5, by rw [fr _ _ (by omega) (by omega) (by omega)]; exact n6⟩, by rw [fr _ _ (by omega) (by omega) (by omega)]; exact e1, e2, fun i hi => ?_⟩
  · rw [fr 26 _ (by omega) (by omega) (by omega), fr 27 _ (by omega) (by omega) (by omega), fr 28 _ (by omega) (by omega) (by omega), fr 29 _ (by omega) (by omega) (by omega)]; exact v2 u hu
  · refine ⟨by rw [fr 30 _ (by omega) (by omega) (by omega)]; exact (n2 j hj).1, ?_⟩
    by_cases e : j = m
    · rw [e, zu_y, q_up_eq]
    · rw [fr 31 _ (by omega) (by omega) (by omega), q_up_n2 e]; exact (n2 j hj).2
  · rw [fr 33 _ (by omega) (by omega) (by omega), fr 34 _ (by omega) (by omega) (by omega), fr 35 _ (by omega) (by omega) (by omega)]; exact e3 i hi
theorem q_tr_wish {M M1 : zM} {I : q_N} {ne v : Nat} {K : q_N} (h : q_tr3 M I ne K) (hf : q_fr (fun a b => q_DH 36 a b ∨ a = 47 ∨ (a = 25 ∧ b = 13)) M M1) : q_tr3 (zu M1 25 13 (nI v)) (q_up I 8 0 v) ne K := by
  have fr : ∀ a b, 25 ≤ a → a ≤ 35 → ¬ (a = 25 ∧ b = 13) → zu M1 25 13 (nI v) a b = M a b := fun a b h1 h2 h3 => by
    rw [zu_n (by omega)]
    exact hf a b (by unfold q_DH; omega)
  obtain ⟨⟨v1, v2⟩, ⟨n1, n2, n3, n4, n5, n6⟩, e1, e2, e3⟩ := h
  unfold q_tr3 q_cv q_cm
  rw [q_ord_cg (I := I) (I' := q_up I 8 0 v) (by rw [q_up_ne (by omega)]) (by rw [q_up_ne (by omega)]), q_up_ne (x := 0) (by omega), q_up_ne (x := 1) (by omega), q_up_ne (x := 2) (by omega), q_up_ne (x := 3) (by omega), q_up_ne (x := 4) (by omega), q_up_ne (x := 5) (by omega), q_up_ne (x := 6) (by omega), q_up_ne (x := 7) (by omega), q_up_eq, q_up_n2 (by omega)]
  refine ⟨⟨by rw [fr _ _ (by omega) (by omega) (by omega)]; exact v1, fun u hu => ?_⟩, ⟨by rw [fr _ _ (by omega) (by omega) (by omega)]; exact n1, fun j hj => ?_, fun t x hx => by rw [fr _ _ (by omega) (by omega) (by omega)]; exact n3 t x hx, n4, zu_y, by rw [fr _ _ (by omega) (by omega) (by omega)]; exact n6⟩, by rw [fr _ _ (by omega) (by omega) (by omega)]; exact e1, e2, fun i hi => ?_⟩
  · rw [fr 26 _ (by omega) (by omega) (by omega), fr 27 _ (by omega) (by omega) (by omega), fr 28 _ (by omega) (by omega) (by omega), fr 29 _ (by omega) (by omega) (by omega)]; exact v2 u hu
  · rw [fr 30 _ (by omega) (by omega) (by omega), fr 31 _ (by omega) (by omega) (by omega)]; exact n2 j hj
  · rw [fr 33 _ (by omega) (by omega) (by omega), fr 34 _ (by omega) (by omega) (by omega), fr 35 _ (by omega) (by omega) (by omega)]; exact e3 i hi
theorem q_tr_like {M M1 : zM} {I : q_N} {ne k v : Nat} {K : q_N} (h : q_tr3 M I ne K) (hf : q_fr (fun a b => q_DH 36 a b ∨ (a = 27 ∧ b = k)) M M1) : q_tr3 (zu M1 27 k (nI v)) (q_up I 2 k v) ne K := by
  have fr : ∀ a b, 25 ≤ a → a ≤ 35 → ¬ (a = 27 ∧ b = k) → zu M1 27 k (nI v) a b = M a b := fun a b h1 h2 h3 => by
    rw [zu_n (by omega)]
    exact hf a b (by unfold q_DH; omega)
  obtain ⟨⟨v1, v2⟩, ⟨n1, n2, n3, n4, n5, n6⟩, e1, e2, e3⟩ := h
  unfold q_tr3 q_cv q_cm
  rw [q_ord_cg (I := I) (I' := q_up I 2 k v) (by rw [q_up_ne (by omega)]) (by rw [q_up_ne (by omega)]), q_up_ne (x := 0) (by omega), q_up_ne (x := 1) (by omega), q_up_ne (x := 7) (by omega), q_up_ne (x := 3) (by omega), q_up_ne (x := 4) (by omega), q_up_ne (x := 5) (by omega), q_up_ne (x := 6) (by omega), q_up_ne (x := 8) (by omega)]
  refine ⟨⟨by rw [fr _ _ (by omega) (by omega) (by omega)]; exact v1, fun u hu => ?_⟩, ⟨by rw [fr _ _ (by omega) (by omega) (by omega)]; exact n1, fun j hj => ?_, fun t x hx => by rw [fr _ _ (by omega) (by omega) (by omega)]; exact n3 t x hx, n4, by rw [fr _ _ (by omega) (by omega) (by omega)]; exact n5, by rw [fr _ _ (by omega) (by omega) (by omega)]; exact n6⟩, by rw [fr _ _ (by omega) (by omega) (by omega)]; exact e1, e2, fun i hi => ?_⟩
  · rw [fr 26 _ (by omega) (by omega) (by omega), fr 28 _ (by omega) (by omega) (by omega), fr 29 _ (by omega) (by omega) (by omega)]
    refine ⟨(v2 u hu).1, ?_, (v2 u hu).2.2⟩
    by_cases e : u = k
    · rw [e, zu_y, q_up_eq]
    · rw [fr 27 _ (by omega) (by omega) (by omega), q_up_n2 e]; exact (v2 u hu).2.1
  · rw [fr 30 _ (by omega) (by omega) (by omega), fr 31 _ (by omega) (by omega) (by omega)]; exact n2 j hj
  · rw [fr 33 _ (by omega) (by omega) (by omega), fr 34 _ (by omega) (by omega) (by omega), fr 35 _ (by omega) (by omega) (by omega)]; exact e3 i hi
theorem q_tr_sort {M M1 : zM} {I : q_N} {ne k v : Nat} {K : q_N} (h : q_tr3 M I ne K) (hf : q_fr (fun a b => q_DH 36 a b ∨ (a = 26 ∧ b = k)) M M1) : q_tr3 (zu M1 26 k (nI v)) (q_up I 1 k v) ne K := by
  have fr : ∀ a b, 25 ≤ a → a ≤ 35 → ¬ (a = 26 ∧ b = k) → zu M1 26 k (nI v) a b = M a b := fun a b h1 h2 h3 => by
    rw [zu_n (by omega)]
    exact hf a b (by unfold q_DH; omega)
  obtain ⟨⟨v1, v2⟩, ⟨n1, n2, n3, n4, n5, n6⟩, e1, e2, e3⟩ := h
  unfold q_tr3 q_cv q_cm
  rw [q_ord_cg (I := I) (I' := q_up I 1 k v) (by rw [q_up_ne (by omega)]) (by rw [q_up_ne (by omega)]), q_up_ne (x := 0) (by omega), q_up_ne (x := 2) (by omega), q_up_ne (x := 7) (by omega), q_up_ne (x := 3) (by omega), q_up_ne (x := 4) (by omega), q_up_ne (x := 5) (by omega), q_up_ne (x := 6) (by omega), q_up_ne (x := 8) (by omega)]
  refine ⟨⟨by rw [fr _ _ (by omega) (by omega) (by omega)]; exact v1, fun u hu => ?_⟩, ⟨by rw [fr _ _ (by omega) (by omega) (by omega)]; exact n1, fun j hj => ?_, fun t x hx => by rw [fr _ _ (by omega) (by omega) (by omega)]; exact n3 t x hx, n4, by rw [fr _ _ (by omega) (by omega) (by omega)]; exact n5, by rw [fr _ _ (by omega) (by omega) (by omega)]; exact n6⟩, by rw [fr _ _ (by omega) (by omega) (by omega)]; exact e1, e2, fun i hi => ?_⟩
  · rw [fr 27 _ (by omega) (by omega) (by omega), fr 28 _ (by omega) (by omega) (by omega), fr 29 _ (by omega) (by omega) (by omega)]
    refine ⟨?_, (v2 u hu).2⟩
    by_cases e : u = k
    · rw [e, zu_y, q_up_eq]
    · rw [fr 26 _ (by omega) (by omega) (by omega), q_up_n2 e]; exact (v2 u hu).1
  · rw [fr 30 _ (by omega) (by omega) (by omega), fr 31 _ (by omega) (by omega) (by omega)]; exact n2 j hj
  · rw [fr 33 _ (by omega) (by omega) (by omega), fr 34 _ (by omega) (by omega) (by omega), fr 35 _ (by omega) (by omega) (by omega)]; exact e3 i hi
theorem q_tr_swap {M M1 : zM} {I : q_N} {ne a b : Nat} {K : q_N} (h : q_tr3 M I ne K) (h4 : ∀ j, I 4 j = j) (hf : q_fr (q_DH 36) M M1) : q_tr3 (zu (zu M1 29 a (nI b)) 29 b (nI a)) (q_up (q_up I 4 a b) 4 b a) ne K := by
  have fr : ∀ x y, 25 ≤ x → x ≤ 35 → ¬ (x = 29) → zu (zu M1 29 a (nI b)) 29 b (nI a) x y = M x y := fun x y h1 h2 h3 => by
    rw [zu_n (by omega), zu_n (by omega)]
    exact hf x y (by unfold q_DH; omega)
  obtain ⟨⟨v1, v2⟩, ⟨n1, n2, n3, n4, n5, n6⟩, e1, e2, e3⟩ := h
  unfold q_tr3 q_cv q_cm
  simp only [q_ord_cg (I := I) (I' := q_up (q_up I 4 a b) 4 b a) (by rw [q_sw_ne (by omega)]) (by rw [q_sw_ne (by omega)]), q_sw_ne (I := I) (a := a) (b := b) (x := 0) (by omega), q_sw_ne (I := I) (a := a) (b := b) (x := 1) (by omega), q_sw_ne (I := I) (a := a) (b := b) (x := 2) (by omega), q_sw_ne (I := I) (a := a) (b := b) (x := 3) (by omega), q_sw_ne (I := I) (a := a) (b := b) (x := 5) (by omega), q_sw_ne (I := I) (a := a) (b := b) (x := 6) (by omega), q_sw_ne (I := I) (a := a) (b := b) (x := 7) (by omega), q_sw_ne (I := I) (a := a) (b := b) (x := 8) (by omega), q_sw_4 h4]
  refine ⟨⟨by rw [fr _ _ (by omega) (by omega) (by omega)]; exact v1, fun u hu => ?_⟩, ⟨by rw [fr _ _ (by omega) (by omega) (by omega)]; exact n1, fun j hj => ?_, fun t x hx => by rw [fr _ _ (by omega) (by omega) (by omega)]; exact n3 t x hx, n4, by rw [fr _ _ (by omega) (by omega) (by omega)]; exact n5, by rw [fr _ _ (by omega) (by omega) (by omega)]; exact n6⟩, by rw [fr _ _ (by omega) (by omega) (by omega)]; exact e1, e2, fun i hi => ?_⟩
  · rw [fr 26 _ (by omega) (by omega) (by omega), fr 27 _ (by omega) (by omega) (by omega), fr 28 _ (by omega) (by omega) (by omega)]
    refine ⟨(v2 u hu).1, (v2 u hu).2.1, (v2 u hu).2.2.1, ?_⟩
    by_cases e : u = b
    · rw [if_pos e, e, zu_y]
    · rw [if_neg e, zu_n (by omega)]
      by_cases e2 : u = a
      · rw [if_pos e2, e2, zu_y]
      · rw [if_neg e2, zu_n (by omega), hf 29 u (by unfold q_DH; omega)]
        have := (v2 u hu).2.2.2
        rw [h4] at this
        exact this
  · rw [fr 30 _ (by omega) (by omega) (by omega), fr 31 _ (by omega) (by omega) (by omega)]; exact n2 j hj
  · rw [fr 33 _ (by omega) (by omega) (by omega), fr 34 _ (by omega) (by omega) (by omega), fr 35 _ (by omega) (by omega) (by omega)]; exact e3 i hi
/-- the model's -/
def q_mt (M : zM) (I : q_N) (ne gone held : Nat) (K : q_N) : Prop := q_mv M I ∧ q_mm M I ∧ q_mev M ne gone held K
theorem q_mt_fr {M M1 : zM} {I : q_N} {ne gone held : Nat} {K : q_N} (h : q_mt M I ne gone held K) (hf : ∀ a b, (a = 60 ∨ a = 61 ∨ a = 62 ∨ a = 63 ∨ a = 64 ∨ (a = 53 ∧ (b = 7 ∨ b = 9 ∨ b = 12 ∨ b = 14))) → M1 a b = M a b) : q_mt M1 I ne gone held K := by
  obtain ⟨⟨v1, v2⟩, ⟨n1, n2, n3, n4⟩, d1, d2, d3, d4, d5, d6⟩ := h
  refine ⟨⟨by rw [hf _ _ (by omega)]; exact v1, fun v hv => ?_⟩, ⟨by rw [hf _ _ (by omega)]; exact n1, fun m hm => ?_, by rw [hf _ _ (by omega)]; exact n3, by rw [hf _ _ (by omega)]; exact n4⟩, by rw [hf _ _ (by omega)]; exact d1, d2, by rw [hf _ _ (by omega)]; exact d3, d4, d5, fun i hi => ?_⟩
  · rw [hf 60 _ (by omega), hf 60 _ (by omega), hf 60 _ (by omega), hf 64 _ (by omega)]; exact v2 v hv
  · rw [hf 61 _ (by omega), hf 61 _ (by omega)]; exact n2 m hm
  · rw [hf 63 _ (by omega), hf 63 _ (by omega), hf 63 _ (by omega)]; exact d6 i hi
theorem q_liveT {X : zX} {M : zM} {I : q_N} {ne gone held : Nat} {K : q_N} (hwf : q_wf I) (h : q_mt M I ne gone held K) : ∃ M', Call X 114 [.ref 53] M [] M' ∧ q_fr q_DM M M' ∧ q_ML I (q_told ne held K) M' := q_live hwf h.1 h.2.1 h.2.2
theorem q_mt_put {M M1 : zM} {I : q_N} {ne gone held m v : Nat} {K : q_N} (h : q_mt M I ne gone held K) (hf : q_fr (fun a b => q_DM a b ∨ (a = 61 ∧ b = 2 * m + 1)) M M1) : q_mt (zu M1 61 (2 * m + 1) (nI v)) (q_up I 7 m v) ne gone held K := by
  have fr : ∀ a b, ¬ (q_DM a b) → ¬ (a = 61 ∧ b = 2 * m + 1) → zu M1 61 (2 * m + 1) (nI v) a b = M a b := fun a b h1 h3 => by
    rw [zu_n (by omega)]
    exact hf a b (fun q => by rcases q with q | q <;> contradiction)
  obtain ⟨⟨v1, v2⟩, ⟨n1, n2, n3, n4⟩, hev⟩ := h
  unfold q_mt q_mv q_mm
  rw [q_up_ne (x := 0) (by omega), q_up_ne (x := 1) (by omega), q_up_ne (x := 2) (by omega), q_up_ne (x := 3) (by omega), q_up_ne (x := 4) (by omega), q_up_ne (x := 5) (by omega), q_up_ne (x := 6) (by omega), q_up_ne (x := 8) (by omega)]
  refine ⟨⟨by rw [fr _ _ (by unfold q_DM; omega) (by omega)]; exact v1, fun u hu => ?_⟩, ⟨by rw [fr _ _ (by unfold q_DM; omega) (by omega)]; exact n1, fun j hj => ?_, by rw [fr _ _ (by unfold q_DM; omega) (by omega)]; exact n3, by rw [fr _ _ (by unfold q_DM; omega) (by omega)]; exact n4⟩, q_mev_fr hev (fr _ _ (by unfold q_DM; omega) (by omega)) (fr _ _ (by unfold q_DM; omega) (by omega)) (by funext b; exact fr _ _ (by unfold q_DM; omega) (by omega))⟩
  · rw [fr 60 _ (by unfold q_DM; omega) (by omega), fr 60 _ (by unfold q_DM; omega) (by omega), fr 60 _ (by unfold q_DM; omega) (by omega), fr 64 _ (by unfold q_DM; omega) (by omega)]; exact v2 u hu
  · refine ⟨by rw [fr 61 _ (by unfold q_DM; omega) (by omega)]; exact (n2 j hj).1, ?_⟩
    by_cases e : j = m
    · rw [e, zu_y, q_up_eq]
    · rw [fr 61 _ (by unfold q_DM; omega) (by omega), q_up_n2 e]; exact (n2 j hj).2
theorem q_mt_wish {M M1 : zM} {I : q_N} {ne gone held v : Nat} {K : q_N} (h : q_mt M I ne gone held K) (hf : q_fr (fun a b => q_DM a b ∨ a = 76 ∨ (a = 62 ∧ b = 0)) M M1) : q_mt (zu M1 62 0 (nI v)) (q_up I 8 0 v) ne gone held K := by
  have fr : ∀ a b, ¬ (q_DM a b) → ¬ (a = 76 ∨ (a = 62 ∧ b = 0)) → zu M1 62 0 (nI v) a b = M a b := fun a b h1 h3 => by
    rw [zu_n (by omega)]
    exact hf a b (fun q => by rcases q with q | q <;> contradiction)
  obtain ⟨⟨v1, v2⟩, ⟨n1, n2, n3, n4⟩, hev⟩ := h
  unfold q_mt q_mv q_mm
  rw [q_up_ne (x := 0) (by omega), q_up_ne (x := 1) (by omega), q_up_ne (x := 2) (by omega), q_up_ne (x := 3) (by omega), q_up_ne (x := 4) (by omega), q_up_ne (x := 5) (by omega), q_up_ne (x := 6) (by omega), q_up_ne (x := 7) (by omega), q_up_eq, q_up_n2 (by omega)]
  refine ⟨⟨by rw [fr _ _ (by unfold q_DM; omega) (by omega)]; exact v1, fun u hu => ?_⟩, ⟨by rw [fr _ _ (by unfold q_DM; omega) (by omega)]; exact n1, fun j hj => ?_, zu_y, by rw [fr _ _ (by unfold q_DM; omega) (by omega)]; exact n4⟩, q_mev_fr hev (fr _ _ (by unfold q_DM; omega) (by omega)) (fr _ _ (by unfold q_DM; omega) (by omega)) (by funext b; exact fr _ _ (by unfold q_DM; omega) (by omega))⟩
  · rw [fr 60 _ (by unfold q_DM; omega) (by omega), fr 60 _ (by unfold q_DM; omega) (by omega), fr 60 _ (by unfold q_DM; omega) (by omega), fr 64 _ (by unfold q_DM; omega) (by omega)]; exact v2 u hu
  · rw [fr 61 _ (by unfold q_DM; omega) (by omega), fr 61 _ (by unfold q_DM; omega) (by omega)]; exact n2 j hj
theorem q_mt_like {M M1 : zM} {I : q_N} {ne gone held k v : Nat} {K : q_N} (h : q_mt M I ne gone held K) (hf : q_fr (fun a b => q_DM a b ∨ (a = 60 ∧ b = 3 * k + 1)) M M1) : q_mt (zu M1 60 (3 * k + 1) (nI v)) (q_up I 2 k v) ne gone held K := by
  have fr : ∀ a b, ¬ (q_DM a b) → ¬ (a = 60 ∧ b = 3 * k + 1) → zu M1 60 (3 * k + 1) (nI v) a b = M a b := fun a b h1 h3 => by
    rw [zu_n (by omega)]
    exact hf a b (fun q => by rcases q with q | q <;> contradiction)
  obtain ⟨⟨v1, v2⟩, ⟨n1, n2, n3, n4⟩, hev⟩ := h
  unfold q_mt q_mv q_mm
  rw [q_up_ne (x := 0) (by omega), q_up_ne (x := 1) (by omega), q_up_ne (x := 7) (by omega), q_up_ne (x := 3) (by omega), q_up_ne (x := 4) (by omega), q_up_ne (x := 5) (by omega), q_up_ne (x := 6) (by omega), q_up_ne (x := 8) (by omega)]
  refine ⟨⟨by rw [fr _ _ (by unfold q_DM; omega) (by omega)]; exact v1, fun u hu => ?_⟩, ⟨by rw [fr _ _ (by unfold q_DM; omega) (by omega)]; exact n1, fun j hj => ?_, by rw [fr _ _ (by unfold q_DM; omega) (by omega)]; exact n3, by rw [fr _ _ (by unfold q_DM; omega) (by omega)]; exact n4⟩, q_mev_fr hev (fr _ _ (by unfold q_DM; omega) (by omega)) (fr _ _ (by unfold q_DM; omega) (by omega)) (by funext b; exact fr _ _ (by unfold q_DM; omega) (by omega))⟩
  · rw [fr 60 (3 * u) (by unfold q_DM; omega) (by omega), fr 60 (3 * u + 2) (by unfold q_DM; omega) (by omega), fr 64 _ (by unfold q_DM; omega) (by omega)]
    refine ⟨(v2 u hu).1, ?_, (v2 u hu).2.2⟩
    by_cases e : u = k
    · rw [e, zu_y, q_up_eq]
    · rw [fr 60 _ (by unfold q_DM; omega) (by omega), q_up_n2 e]; exact (v2 u hu).2.1
  · rw [fr 61 _ (by unfold q_DM; omega) (by omega), fr 61 _ (by unfold q_DM; omega) (by omega)]; exact n2 j hj
theorem q_mt_sort {M M1 : zM} {I : q_N} {ne gone held k v : Nat} {K : q_N} (h : q_mt M I ne gone held K) (hf : q_fr (fun a b => q_DM a b ∨ (a = 60 ∧ b = 3 * k)) M M1) : q_mt (zu M1 60 (3 * k) (nI v)) (q_up I 1 k v) ne gone held K := by
  have fr : ∀ a b, ¬ (q_DM a b) → ¬ (a = 60 ∧ b = 3 * k) → zu M1 60 (3 * k) (nI v) a b = M a b := fun a b h1 h3 => by
    rw [zu_n (by omega)]
    exact hf a b (fun q => by rcases q with q | q <;> contradiction)
  obtain ⟨⟨v1, v2⟩, ⟨n1, n2, n3, n4⟩, hev⟩ := h
  unfold q_mt q_mv q_mm
  rw [q_up_ne (x := 0) (by omega), q_up_ne (x := 2) (by omega), q_up_ne (x := 7) (by omega), q_up_ne (x := 3) (by omega), q_up_ne (x := 4) (by omega), q_up_ne (x := 5) (by omega), q_up_ne (x := 6) (by omega), q_up_ne (x := 8) (by omega)]
  refine ⟨⟨by rw [fr _ _ (by unfold q_DM; omega) (by omega)]; exact v1, fun u hu => ?_⟩, ⟨by rw [fr _ _ (by unfold q_DM; omega) (by omega)]; exact n1, fun j hj => ?_, by rw [fr _ _ (by unfold q_DM; omega) (by omega)]; exact n3, by rw [fr _ _ (by unfold q_DM; omega) (by omega)]; exact n4⟩, q_mev_fr hev (fr _ _ (by unfold q_DM; omega) (by omega)) (fr _ _ (by unfold q_DM; omega) (by omega)) (by funext b; exact fr _ _ (by unfold q_DM; omega) (by omega))⟩
  · rw [fr 60 (3 * u + 1) (by unfold q_DM; omega) (by omega), fr 60 (3 * u + 2) (by unfold q_DM; omega) (by omega), fr 64 _ (by unfold q_DM; omega) (by omega)]
    refine ⟨?_, (v2 u hu).2⟩
    by_cases e : u = k
    · rw [e, zu_y, q_up_eq]
    · rw [fr 60 _ (by unfold q_DM; omega) (by omega), q_up_n2 e]; exact (v2 u hu).1
  · rw [fr 61 _ (by unfold q_DM; omega) (by omega), fr 61 _ (by unfold q_DM; omega) (by omega)]; exact n2 j hj
theorem q_mt_swap {M M1 : zM} {I : q_N} {ne gone held a b : Nat} {K : q_N} (h : q_mt M I ne gone held K) (h4 : ∀ j, I 4 j = j) (hf : q_fr q_DM M M1) : q_mt (zu (zu M1 64 a (nI b)) 64 b (nI a)) (q_up (q_up I 4 a b) 4 b a) ne gone held K := by
  have fr : ∀ x y, ¬ (q_DM x y) → ¬ (x = 64) → zu (zu M1 64 a (nI b)) 64 b (nI a) x y = M x y := fun x y h1 h3 => by
    rw [zu_n (by omega), zu_n (by omega)]
    exact hf x y h1
  obtain ⟨⟨v1, v2⟩, ⟨n1, n2, n3, n4⟩, hev⟩ := h
  unfold q_mt q_mv q_mm
  simp only [q_sw_ne (I := I) (a := a) (b := b) (x := 0) (by omega), q_sw_ne (I := I) (a := a) (b := b) (x := 1) (by omega), q_sw_ne (I := I) (a := a) (b := b) (x := 2) (by omega), q_sw_ne (I := I) (a := a) (b := b) (x := 3) (by omega), q_sw_ne (I := I) (a := a) (b := b) (x := 5) (by omega), q_sw_ne (I := I) (a := a) (b := b) (x := 6) (by omega), q_sw_ne (I := I) (a := a) (b := b) (x := 7) (by omega), q_sw_ne (I := I) (a := a) (b := b) (x := 8) (by omega), q_sw_4 h4]
  refine ⟨⟨by rw [fr _ _ (by unfold q_DM; omega) (by omega)]; exact v1, fun u hu => ?_⟩, ⟨by rw [fr _ _ (by unfold q_DM; omega) (by omega)]; exact n1, fun j hj => ?_, by rw [fr _ _ (by unfold q_DM; omega) (by omega)]; exact n3, by rw [fr _ _ (by unfold q_DM; omega) (by omega)]; exact n4⟩, q_mev_fr hev (fr _ _ (by unfold q_DM; omega) (by omega)) (fr _ _ (by unfold q_DM; omega) (by omega)) (by funext b; exact fr _ _ (by unfold q_DM; omega) (by omega))⟩
  · rw [fr 60 _ (by unfold q_DM; omega) (by omega), fr 60 _ (by unfold q_DM; omega) (by omega), fr 60 _ (by unfold q_DM; omega) (by omega)]
    refine ⟨(v2 u hu).1, (v2 u hu).2.1, (v2 u hu).2.2.1, ?_⟩
    by_cases e : u = b
    · rw [if_pos e, e, zu_y]
    · rw [if_neg e, zu_n (by omega)]
      by_cases e2 : u = a
      · rw [if_pos e2, e2, zu_y]
      · rw [if_neg e2, zu_n (by omega), hf 64 u (by unfold q_DM; omega)]
        have := (v2 u hu).2.2.2
        rw [h4] at this
        exact this
  · rw [fr 61 _ (by unfold q_DM; omega) (by omega), fr 61 _ (by unfold q_DM; omega) (by omega)]; exact n2 j hj
