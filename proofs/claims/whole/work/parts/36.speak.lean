/-! speak -/
/-- the voters of a canton -/
def q_cv (M : zM) (c so li gr sk : Nat) (I : q_N) : Prop := M c 0 = nI (I 0 0) ∧ ∀ v, v < I 0 0 → M so v = nI (I 1 v) ∧ M li v = nI (I 2 v) ∧ M gr v = nI (I 3 v) ∧ M sk v = nI (I 4 v)
theorem q_wex : ∀ (s l : Fin 3) (a n : Fin 9) (r : Fin 2), (if nI s.val = (1 : Int32) then (if nI l.val = (2 : Int32) then (if nI s.val = (2 : Int32) then (if nI a.val = nI n.val then nI r.val else (if nI a.val ≤ nI n.val then (0 : Int32) else (1 : Int32))) else nI r.val) else nI l.val) else (if nI s.val = (2 : Int32) then (if nI a.val = nI n.val then nI r.val else (if nI a.val ≤ nI n.val then (0 : Int32) else (1 : Int32))) else nI r.val)) = nI (if s.val = 1 ∧ l.val ≠ 2 then l.val else if s.val = 2 ∧ a.val ≠ n.val then q_b (Nat.blt n.val a.val) else r.val) := by decide +kernel
theorem q_wexp {s l a n r : Nat} (hs : s < 3) (hl : l ≤ 2) (ha : a ≤ 8) (hn : n ≤ 8) (hr : r < 2) : (if nI s = (1 : Int32) then (if nI l = (2 : Int32) then (if nI s = (2 : Int32) then (if nI a = nI n then nI r else (if nI a ≤ nI n then (0 : Int32) else (1 : Int32))) else nI r) else nI l) else (if nI s = (2 : Int32) then (if nI a = nI n then nI r else (if nI a ≤ nI n then (0 : Int32) else (1 : Int32))) else nI r)) = nI (if s = 1 ∧ l ≠ 2 then l else if s = 2 ∧ a ≠ n then q_b (Nat.blt n a) else r) := q_wex ⟨s, hs⟩ ⟨l, by omega⟩ ⟨a, by omega⟩ ⟨n, by omega⟩ ⟨r, hr⟩
theorem q_ix8 {m v : Nat} (hm : m < 12) (hv : v < 8) : nI m * (8 : Int32) + nI v = nI (8 * m + v) := by
  rw [show (8 : Int32) = nI 8 from rfl, pk_mul, nI_add]
  congr 1
  omega
def q_DS (sd m : Nat) : Nat → Nat → Prop := fun a b => a = sd ∧ 8 * m ≤ b ∧ b < 8 * m + 8
def q_SI (sd : Nat) (I : q_N) (E : q_E) (V : q_N) (m p : Nat) (M M1 : zM) : Prop := q_fr (q_DS sd m) M M1 ∧ ∀ v, v < I 0 0 → (∃ p', p' < p ∧ I 4 p' = v) → M1 sd (8 * m + v) = nI (q_sd I E V m (fun _ => 0) p v)
theorem q_SI_s {sd : Nat} {I : q_N} {E : q_E} {V : q_N} {m p w : Nat} {M M1 : zM} (hI : q_SI sd I E V m p M M1) (h8 : I 0 0 ≤ 8) (hp : I 4 p < I 0 0) (hw : q_wd I E V m (I 4 p) (q_sp I E V m p).2.2 (q_sp I E V m p).1 (q_sp I E V m p).2.1 = w) : q_SI sd I E V m (p + 1) M (zu M1 sd (8 * m + I 4 p) (nI w)) := by
  refine ⟨q_fr_zu hI.1 ⟨rfl, by omega, by omega⟩, fun v hv hex => ?_⟩
  have e : q_sd I E V m (fun _ => 0) (p + 1) v = if v = I 4 p then q_wd I E V m (I 4 p) (q_sp I E V m p).2.2 (q_sp I E V m p).1 (q_sp I E V m p).2.1 else q_sd I E V m (fun _ => 0) p v := rfl
  rw [zu_at, e]
  by_cases hvp : v = I 4 p
  · rw [if_pos ⟨rfl, by omega⟩, if_pos hvp, hw]
  · rw [if_neg (by omega), if_neg hvp]
    obtain ⟨p', h1, h2⟩ := hex
    have : p' ≠ p := fun q => hvp (by rw [← q]; exact h2.symm)
    exact hI.2 v hv ⟨p', by omega, h2⟩
theorem q_speakL_a {X : zX} {M : zM} {I : q_N} {E : q_E} {V : q_N} {m h : Nat} (hwf : q_wf I) (hm : m < I 5 0) (hcv : q_cv M 5 6 7 8 9 I) (hV : ∀ v, v < I 0 0 → M 21 v = nI (V 0 v) ∧ V 0 v < 8) (hh : h < 256) (hh2 : M 16 12 = nI h) (hh3 : ∀ v, v < 8 → h.testBit v = E 2 (I 6 m) v) : ∀ (d p : Nat) (M1 : zM) (l8 l9 : Option Value), p + d = I 0 0 → q_SI 17 I E V m p M M1 → ∃ M', At X 10 12 [some (.ref 16), some (.ref 5), some (.int (nI m)), some (.int (nI (q_tr I E m))), some (.int (nI (q_sp I E V m p).1)), some (.int (nI (q_sp I E V m p).2.1)), some (.int (nI (q_sp I E V m p).2.2)), some (.int (nI p)), l8, l9] [] M1 [] (zu (zu M' 18 m (nI (q_ay I E V m))) 19 m (nI (q_no I E V m))) ∧ q_SI 17 I E V m (I 0 0) M M' := by
  obtain ⟨w1, w2, w3, w4, w5, w6, w7⟩ := hwf
  have hm12 : m < 12 := by omega
  have ht := q_tr_lt (E := E) (w5 m hm).2
  intro d
  induction d with
  | zero =>
    intro p M1 l8 l9 hp hI
    have hp : p = I 0 0 := by omega
    have e0 : M1 5 0 = nI (I 0 0) := by rw [hI.1 5 0 (by unfold q_DS; omega)]; exact hcv.1
    refine ⟨M1, sg_Vo_speak_a_12 ⟨fun _ => ⟨q_in hm12 (by omega), q_in hm12 (by omega), rfl, ?_⟩, fun c => absurd (q_yle e0 (by omega) (by omega)) c⟩, by rw [← hp]; exact hI⟩
    rw [q_cl (by omega), hp]
    rfl
  | succ d ih =>
    intro p M1 l8 l9 hp hI
    have hlt : p < I 0 0 := by omega
    have e0 : M1 5 0 = nI (I 0 0) := by rw [hI.1 5 0 (by unfold q_DS; omega)]; exact hcv.1
    obtain ⟨b1, b2, b3, b4⟩ := w2 p hlt
    have hv8 : I 4 p < 8 := by omega
    obtain ⟨c1, c2, c3, c4⟩ := w2 (I 4 p) b4
    have g4 : M1 9 p = nI (I 4 p) := by rw [hI.1 9 p (by unfold q_DS; omega)]; exact (hcv.2 p hlt).2.2.2
    have g1 : M1 6 (I 4 p) = nI (I 1 (I 4 p)) := by rw [hI.1 6 _ (by unfold q_DS; omega)]; exact (hcv.2 _ b4).1
    have g5 : M1 21 (I 4 p) = nI (V 0 (I 4 p)) := by rw [hI.1 21 _ (by unfold q_DS; omega)]; exact (hV _ b4).1
    have gh : M1 16 12 = nI h := by rw [hI.1 16 12 (by unfold q_DS; omega)]; exact hh2
    have hin : vp_in (nI (I 4 p)) 8 := q_in hv8 (by omega)
    have hin2 : vp_in (nI (8 * m + I 4 p)) 96 := q_in (by omega) (by omega)
    have ec : (nI p).toNatClampNeg = p := q_cl (by omega)
    have ev : (nI (I 4 p)).toNatClampNeg = I 4 p := q_cl (by omega)
    have ex : (nI (8 * m + I 4 p)).toNatClampNeg = 8 * m + I 4 p := q_cl (by omega)
    have e8 := q_ix8 hm12 hv8
    have e1 : nI p + (1 : Int32) = nI (p + 1) := nI_1 p
    have eb : f_Fv_bit (nI h) (nI (I 4 p)) M1 = nI (q_b (E 2 (I 6 m) (I 4 p))) := by rw [q_bit M1 (by omega) (by omega), hh3 _ hv8]
    have hsp := q_sp_in I E V m p
    have hsd : q_sp I E V m (p + 1) = (if q_wd I E V m (I 4 p) (q_sp I E V m p).2.2 (q_sp I E V m p).1 (q_sp I E V m p).2.1 = 2 then q_sp I E V m p else ((q_sp I E V m p).1 + q_wd I E V m (I 4 p) (q_sp I E V m p).2.2 (q_sp I E V m p).1 (q_sp I E V m p).2.1, (q_sp I E V m p).2.1 + (1 - q_wd I E V m (I 4 p) (q_sp I E V m p).2.2 (q_sp I E V m p).1 (q_sp I E V m p).2.1), q_wd I E V m (I 4 p) (q_sp I E V m p).2.2 (q_sp I E V m p).1 (q_sp I E V m p).2.1)) := rfl
    have hwd : q_wd I E V m (I 4 p) (q_sp I E V m p).2.2 (q_sp I E V m p).1 (q_sp I E V m p).2.1 = if E 2 (I 6 m) (I 4 p) = true then 2 else (if I 1 (I 4 p) = 1 ∧ (q_sp I E V m p).2.2 ≠ 2 then (q_sp I E V m p).2.2 else if I 1 (I 4 p) = 2 ∧ (q_sp I E V m p).1 ≠ (q_sp I E V m p).2.1 then q_b (Nat.blt (q_sp I E V m p).2.1 (q_sp I E V m p).1) else q_b (q_for (V 0 (I 4 p)) (q_tr I E m))) := rfl
    by_cases hE : E 2 (I 6 m) (I 4 p) = true
    · rw [if_pos hE] at hwd
      rw [if_pos hwd] at hsd
      obtain ⟨M', hA, hP⟩ := ih (p + 1) _ (some (.int (nI (I 4 p)))) (some (.int (2 : Int32))) (by omega) (q_SI_s hI w1 b4 hwd)
      refine ⟨M', sg_Vo_speak_a_12 ⟨fun c => absurd c (q_nle e0 (by omega) (by omega)), fun _ => ⟨q_in (by omega) (by omega), _, _, c_Fv_bit, ?_⟩⟩, hP⟩
      rw [ec, g4, gh, eb, hE]
      refine ⟨fun _ => ⟨by rw [e8]; exact hin2, ?_⟩, fun c => absurd c (by decide)⟩
      rw [e8, ex, e1]
      rw [hsd] at hA
      exact hA
    · rw [if_neg hE] at hwd
      have hE : E 2 (I 6 m) (I 4 p) = false := by simpa using hE
      have hw2 : q_wd I E V m (I 4 p) (q_sp I E V m p).2.2 (q_sp I E V m p).1 (q_sp I E V m p).2.1 < 2 := by
        rw [hwd]
        have t1 := q_b_lt (Nat.blt (q_sp I E V m p).2.1 (q_sp I E V m p).1)
        have t2 := q_b_lt (q_for (V 0 (I 4 p)) (q_tr I E m))
        split
        · omega
        · split <;> omega
      obtain ⟨M', hA, hP⟩ := ih (p + 1) _ (some (.int (nI (I 4 p)))) (some (.int (nI (q_wd I E V m (I 4 p) (q_sp I E V m p).2.2 (q_sp I E V m p).1 (q_sp I E V m p).2.1)))) (by omega) (q_SI_s hI w1 b4 rfl)
      rw [if_neg (by omega)] at hsd
      refine ⟨M', sg_Vo_speak_a_12 ⟨fun c => absurd c (q_nle e0 (by omega) (by omega)), fun _ => ⟨q_in (by omega) (by omega), _, _, c_Fv_bit, ?_⟩⟩, hP⟩
      rw [ec, g4, gh, eb, hE]
      refine ⟨fun c => absurd rfl c, fun _ => ?_⟩
      rw [ev, g5]
      refine ⟨hin, _, _, q_isFor (hV _ b4).2 ht, hin, ⟨fun _ => hin, fun _ => ⟨fun _ => hin, fun _ => trivial⟩⟩, by rw [e8]; exact hin2, ?_⟩
      rw [g1, q_wexp c1 hsp.2 (by omega) (by omega) (q_b_lt _), ← hwd, e8, ex, e1, nI_add, show (1 : Int32) = nI 1 from rfl, pk_sub (by omega), nI_add]
      rw [hsd] at hA
      exact hA
theorem q_speak_a {X : zX} {M : zM} {I : q_N} {E : q_E} {V : q_N} {m h : Nat} (hwf : q_wf I) (hm : m < I 5 0) (hcv : q_cv M 5 6 7 8 9 I) (hV : ∀ v, v < I 0 0 → M 21 v = nI (V 0 v) ∧ V 0 v < 8) (hh : h < 256) (hh2 : M 16 12 = nI h) (hh3 : ∀ v, v < 8 → h.testBit v = E 2 (I 6 m) v) : ∃ M', Call X 10 [.ref 16, .ref 5, .int (nI m), .int (nI (q_tr I E m))] M [] (zu (zu M' 18 m (nI (q_ay I E V m))) 19 m (nI (q_no I E V m))) ∧ q_fr (q_DS 17 m) M M' ∧ ∀ v, v < I 0 0 → M' 17 (8 * m + v) = nI (q_sd I E V m (fun _ => 0) (I 0 0) v) := by
  obtain ⟨M', hA, hP⟩ := q_speakL_a (X := X) hwf hm hcv hV hh hh2 hh3 (I 0 0) 0 M none none (by omega) ⟨q_fr_rf, fun v _ hx => by obtain ⟨p', h1, -⟩ := hx; omega⟩
  exact ⟨M', Call.of (Nat.le_of_ble_eq_true rfl) (sg_Vo_speak_a_0 hA), hP.1, fun v hv => hP.2 v hv (hwf.2.2.1 v hv)⟩
theorem q_speakL_b {X : zX} {M : zM} {I : q_N} {E : q_E} {V : q_N} {m h : Nat} (hwf : q_wf I) (hm : m < I 5 0) (hcv : q_cv M 25 26 27 28 29 I) (hV : ∀ v, v < I 0 0 → M 41 v = nI (V 0 v) ∧ V 0 v < 8) (hh : h < 256) (hh2 : M 36 12 = nI h) (hh3 : ∀ v, v < 8 → h.testBit v = E 2 (I 6 m) v) : ∀ (d p : Nat) (M1 : zM) (l8 l9 : Option Value), p + d = I 0 0 → q_SI 37 I E V m p M M1 → ∃ M', At X 10 12 [some (.ref 36), some (.ref 25), some (.int (nI m)), some (.int (nI (q_tr I E m))), some (.int (nI (q_sp I E V m p).1)), some (.int (nI (q_sp I E V m p).2.1)), some (.int (nI (q_sp I E V m p).2.2)), some (.int (nI p)), l8, l9] [] M1 [] (zu (zu M' 38 m (nI (q_ay I E V m))) 39 m (nI (q_no I E V m))) ∧ q_SI 37 I E V m (I 0 0) M M' := by
  obtain ⟨w1, w2, w3, w4, w5, w6, w7⟩ := hwf
  have hm12 : m < 12 := by omega
  have ht := q_tr_lt (E := E) (w5 m hm).2
  intro d
  induction d with
  | zero =>
    intro p M1 l8 l9 hp hI
    have hp : p = I 0 0 := by omega
    have e0 : M1 25 0 = nI (I 0 0) := by rw [hI.1 25 0 (by unfold q_DS; omega)]; exact hcv.1
    refine ⟨M1, sg_Vo_speak_b_12 ⟨fun _ => ⟨q_in hm12 (by omega), q_in hm12 (by omega), rfl, ?_⟩, fun c => absurd (q_yle e0 (by omega) (by omega)) c⟩, by rw [← hp]; exact hI⟩
    rw [q_cl (by omega), hp]
    rfl
  | succ d ih =>
    intro p M1 l8 l9 hp hI
    have hlt : p < I 0 0 := by omega
    have e0 : M1 25 0 = nI (I 0 0) := by rw [hI.1 25 0 (by unfold q_DS; omega)]; exact hcv.1
    obtain ⟨b1, b2, b3, b4⟩ := w2 p hlt
    have hv8 : I 4 p < 8 := by omega
    obtain ⟨c1, c2, c3, c4⟩ := w2 (I 4 p) b4
    have g4 : M1 29 p = nI (I 4 p) := by rw [hI.1 29 p (by unfold q_DS; omega)]; exact (hcv.2 p hlt).2.2.2
    have g1 : M1 26 (I 4 p) = nI (I 1 (I 4 p)) := by rw [hI.1 26 _ (by unfold q_DS; omega)]; exact (hcv.2 _ b4).1
    have g5 : M1 41 (I 4 p) = nI (V 0 (I 4 p)) := by rw [hI.1 41 _ (by unfold q_DS; omega)]; exact (hV _ b4).1
    have gh : M1 36 12 = nI h := by rw [hI.1 36 12 (by unfold q_DS; omega)]; exact hh2
    have hin : vp_in (nI (I 4 p)) 8 := q_in hv8 (by omega)
    have hin2 : vp_in (nI (8 * m + I 4 p)) 96 := q_in (by omega) (by omega)
    have ec : (nI p).toNatClampNeg = p := q_cl (by omega)
    have ev : (nI (I 4 p)).toNatClampNeg = I 4 p := q_cl (by omega)
    have ex : (nI (8 * m + I 4 p)).toNatClampNeg = 8 * m + I 4 p := q_cl (by omega)
    have e8 := q_ix8 hm12 hv8
    have e1 : nI p + (1 : Int32) = nI (p + 1) := nI_1 p
    have eb : f_Fv_bit (nI h) (nI (I 4 p)) M1 = nI (q_b (E 2 (I 6 m) (I 4 p))) := by rw [q_bit M1 (by omega) (by omega), hh3 _ hv8]
    have hsp := q_sp_in I E V m p
    have hsd : q_sp I E V m (p + 1) = (if q_wd I E V m (I 4 p) (q_sp I E V m p).2.2 (q_sp I E V m p).1 (q_sp I E V m p).2.1 = 2 then q_sp I E V m p else ((q_sp I E V m p).1 + q_wd I E V m (I 4 p) (q_sp I E V m p).2.2 (q_sp I E V m p).1 (q_sp I E V m p).2.1, (q_sp I E V m p).2.1 + (1 - q_wd I E V m (I 4 p) (q_sp I E V m p).2.2 (q_sp I E V m p).1 (q_sp I E V m p).2.1), q_wd I E V m (I 4 p) (q_sp I E V m p).2.2 (q_sp I E V m p).1 (q_sp I E V m p).2.1)) := rfl
    have hwd : q_wd I E V m (I 4 p) (q_sp I E V m p).2.2 (q_sp I E V m p).1 (q_sp I E V m p).2.1 = if E 2 (I 6 m) (I 4 p) = true then 2 else (if I 1 (I 4 p) = 1 ∧ (q_sp I E V m p).2.2 ≠ 2 then (q_sp I E V m p).2.2 else if I 1 (I 4 p) = 2 ∧ (q_sp I E V m p).1 ≠ (q_sp I E V m p).2.1 then q_b (Nat.blt (q_sp I E V m p).2.1 (q_sp I E V m p).1) else q_b (q_for (V 0 (I 4 p)) (q_tr I E m))) := rfl
    by_cases hE : E 2 (I 6 m) (I 4 p) = true
    · rw [if_pos hE] at hwd
      rw [if_pos hwd] at hsd
      obtain ⟨M', hA, hP⟩ := ih (p + 1) _ (some (.int (nI (I 4 p)))) (some (.int (2 : Int32))) (by omega) (q_SI_s hI w1 b4 hwd)
      refine ⟨M', sg_Vo_speak_b_12 ⟨fun c => absurd c (q_nle e0 (by omega) (by omega)), fun _ => ⟨q_in (by omega) (by omega), _, _, c_Fv_bit, ?_⟩⟩, hP⟩
      rw [ec, g4, gh, eb, hE]
      refine ⟨fun _ => ⟨by rw [e8]; exact hin2, ?_⟩, fun c => absurd c (by decide)⟩
      rw [e8, ex, e1]
      rw [hsd] at hA
      exact hA
    · rw [if_neg hE] at hwd
      have hE : E 2 (I 6 m) (I 4 p) = false := by simpa using hE
      have hw2 : q_wd I E V m (I 4 p) (q_sp I E V m p).2.2 (q_sp I E V m p).1 (q_sp I E V m p).2.1 < 2 := by
        rw [hwd]
        have t1 := q_b_lt (Nat.blt (q_sp I E V m p).2.1 (q_sp I E V m p).1)
        have t2 := q_b_lt (q_for (V 0 (I 4 p)) (q_tr I E m))
        split
        · omega
        · split <;> omega
      obtain ⟨M', hA, hP⟩ := ih (p + 1) _ (some (.int (nI (I 4 p)))) (some (.int (nI (q_wd I E V m (I 4 p) (q_sp I E V m p).2.2 (q_sp I E V m p).1 (q_sp I E V m p).2.1)))) (by omega) (q_SI_s hI w1 b4 rfl)
      rw [if_neg (by omega)] at hsd
      refine ⟨M', sg_Vo_speak_b_12 ⟨fun c => absurd c (q_nle e0 (by omega) (by omega)), fun _ => ⟨q_in (by omega) (by omega), _, _, c_Fv_bit, ?_⟩⟩, hP⟩
      rw [ec, g4, gh, eb, hE]
      refine ⟨fun c => absurd rfl c, fun _ => ?_⟩
      rw [ev, g5]
      refine ⟨hin, _, _, q_isFor (hV _ b4).2 ht, hin, ⟨fun _ => hin, fun _ => ⟨fun _ => hin, fun _ => trivial⟩⟩, by rw [e8]; exact hin2, ?_⟩
      rw [g1, q_wexp c1 hsp.2 (by omega) (by omega) (q_b_lt _), ← hwd, e8, ex, e1, nI_add, show (1 : Int32) = nI 1 from rfl, pk_sub (by omega), nI_add]
      rw [hsd] at hA
      exact hA
theorem q_speak_b {X : zX} {M : zM} {I : q_N} {E : q_E} {V : q_N} {m h : Nat} (hwf : q_wf I) (hm : m < I 5 0) (hcv : q_cv M 25 26 27 28 29 I) (hV : ∀ v, v < I 0 0 → M 41 v = nI (V 0 v) ∧ V 0 v < 8) (hh : h < 256) (hh2 : M 36 12 = nI h) (hh3 : ∀ v, v < 8 → h.testBit v = E 2 (I 6 m) v) : ∃ M', Call X 10 [.ref 36, .ref 25, .int (nI m), .int (nI (q_tr I E m))] M [] (zu (zu M' 38 m (nI (q_ay I E V m))) 39 m (nI (q_no I E V m))) ∧ q_fr (q_DS 37 m) M M' ∧ ∀ v, v < I 0 0 → M' 37 (8 * m + v) = nI (q_sd I E V m (fun _ => 0) (I 0 0) v) := by
  obtain ⟨M', hA, hP⟩ := q_speakL_b (X := X) hwf hm hcv hV hh hh2 hh3 (I 0 0) 0 M none none (by omega) ⟨q_fr_rf, fun v _ hx => by obtain ⟨p', h1, -⟩ := hx; omega⟩
  exact ⟨M', Call.of (Nat.le_of_ble_eq_true rfl) (sg_Vo_speak_b_0 hA), hP.1, fun v hv => hP.2 v hv (hwf.2.2.1 v hv)⟩
theorem q_speakL_c {X : zX} {M : zM} {I : q_N} {E : q_E} {V : q_N} {m h : Nat} (hwf : q_wf I) (hm : m < I 5 0) (hcv : q_cv M 5 6 7 8 9 I) (hV : ∀ v, v < I 0 0 → M 41 v = nI (V 0 v) ∧ V 0 v < 8) (hh : h < 256) (hh2 : M 36 12 = nI h) (hh3 : ∀ v, v < 8 → h.testBit v = E 2 (I 6 m) v) : ∀ (d p : Nat) (M1 : zM) (l8 l9 : Option Value), p + d = I 0 0 → q_SI 37 I E V m p M M1 → ∃ M', At X 10 12 [some (.ref 36), some (.ref 5), some (.int (nI m)), some (.int (nI (q_tr I E m))), some (.int (nI (q_sp I E V m p).1)), some (.int (nI (q_sp I E V m p).2.1)), some (.int (nI (q_sp I E V m p).2.2)), some (.int (nI p)), l8, l9] [] M1 [] (zu (zu M' 38 m (nI (q_ay I E V m))) 39 m (nI (q_no I E V m))) ∧ q_SI 37 I E V m (I 0 0) M M' := by
  obtain ⟨w1, w2, w3, w4, w5, w6, w7⟩ := hwf
  have hm12 : m < 12 := by omega
  have ht := q_tr_lt (E := E) (w5 m hm).2
  intro d
  induction d with
  | zero =>
    intro p M1 l8 l9 hp hI
    have hp : p = I 0 0 := by omega
    have e0 : M1 5 0 = nI (I 0 0) := by rw [hI.1 5 0 (by unfold q_DS; omega)]; exact hcv.1
    refine ⟨M1, sg_Vo_speak_c_12 ⟨fun _ => ⟨q_in hm12 (by omega), q_in hm12 (by omega), rfl, ?_⟩, fun c => absurd (q_yle e0 (by omega) (by omega)) c⟩, by rw [← hp]; exact hI⟩
    rw [q_cl (by omega), hp]
    rfl
  | succ d ih =>
    intro p M1 l8 l9 hp hI
    have hlt : p < I 0 0 := by omega
    have e0 : M1 5 0 = nI (I 0 0) := by rw [hI.1 5 0 (by unfold q_DS; omega)]; exact hcv.1
    obtain ⟨b1, b2, b3, b4⟩ := w2 p hlt
    have hv8 : I 4 p < 8 := by omega
    obtain ⟨c1, c2, c3, c4⟩ := w2 (I 4 p) b4
    have g4 : M1 9 p = nI (I 4 p) := by rw [hI.1 9 p (by unfold q_DS; omega)]; exact (hcv.2 p hlt).2.2.2
    have g1 : M1 6 (I 4 p) = nI (I 1 (I 4 p)) := by rw [hI.1 6 _ (by unfold q_DS; omega)]; exact (hcv.2 _ b4).1
    have g5 : M1 41 (I 4 p) = nI (V 0 (I 4 p)) := by rw [hI.1 41 _ (by unfold q_DS; omega)]; exact (hV _ b4).1
    have gh : M1 36 12 = nI h := by rw [hI.1 36 12 (by unfold q_DS; omega)]; exact hh2
    have hin : vp_in (nI (I 4 p)) 8 := q_in hv8 (by omega)
    have hin2 : vp_in (nI (8 * m + I 4 p)) 96 := q_in (by omega) (by omega)
    have ec : (nI p).toNatClampNeg = p := q_cl (by omega)
    have ev : (nI (I 4 p)).toNatClampNeg = I 4 p := q_cl (by omega)
    have ex : (nI (8 * m + I 4 p)).toNatClampNeg = 8 * m + I 4 p := q_cl (by omega)
    have e8 := q_ix8 hm12 hv8
    have e1 : nI p + (1 : Int32) = nI (p + 1) := nI_1 p
    have eb : f_Fv_bit (nI h) (nI (I 4 p)) M1 = nI (q_b (E 2 (I 6 m) (I 4 p))) := by rw [q_bit M1 (by omega) (by omega), hh3 _ hv8]
    have hsp := q_sp_in I E V m p
    have hsd : q_sp I E V m (p + 1) = (if q_wd I E V m (I 4 p) (q_sp I E V m p).2.2 (q_sp I E V m p).1 (q_sp I E V m p).2.1 = 2 then q_sp I E V m p else ((q_sp I E V m p).1 + q_wd I E V m (I 4 p) (q_sp I E V m p).2.2 (q_sp I E V m p).1 (q_sp I E V m p).2.1, (q_sp I E V m p).2.1 + (1 - q_wd I E V m (I 4 p) (q_sp I E V m p).2.2 (q_sp I E V m p).1 (q_sp I E V m p).2.1), q_wd I E V m (I 4 p) (q_sp I E V m p).2.2 (q_sp I E V m p).1 (q_sp I E V m p).2.1)) := rfl
    have hwd : q_wd I E V m (I 4 p) (q_sp I E V m p).2.2 (q_sp I E V m p).1 (q_sp I E V m p).2.1 = if E 2 (I 6 m) (I 4 p) = true then 2 else (if I 1 (I 4 p) = 1 ∧ (q_sp I E V m p).2.2 ≠ 2 then (q_sp I E V m p).2.2 else if I 1 (I 4 p) = 2 ∧ (q_sp I E V m p).1 ≠ (q_sp I E V m p).2.1 then q_b (Nat.blt (q_sp I E V m p).2.1 (q_sp I E V m p).1) else q_b (q_for (V 0 (I 4 p)) (q_tr I E m))) := rfl
    by_cases hE : E 2 (I 6 m) (I 4 p) = true
    · rw [if_pos hE] at hwd
      rw [if_pos hwd] at hsd
      obtain ⟨M', hA, hP⟩ := ih (p + 1) _ (some (.int (nI (I 4 p)))) (some (.int (2 : Int32))) (by omega) (q_SI_s hI w1 b4 hwd)
      refine ⟨M', sg_Vo_speak_c_12 ⟨fun c => absurd c (q_nle e0 (by omega) (by omega)), fun _ => ⟨q_in (by omega) (by omega), _, _, c_Fv_bit, ?_⟩⟩, hP⟩
      rw [ec, g4, gh, eb, hE]
      refine ⟨fun _ => ⟨by rw [e8]; exact hin2, ?_⟩, fun c => absurd c (by decide)⟩
      rw [e8, ex, e1]
      rw [hsd] at hA
      exact hA
    · rw [if_neg hE] at hwd
      have hE : E 2 (I 6 m) (I 4 p) = false := by simpa using hE
      have hw2 : q_wd I E V m (I 4 p) (q_sp I E V m p).2.2 (q_sp I E V m p).1 (q_sp I E V m p).2.1 < 2 := by
        rw [hwd]
        have t1 := q_b_lt (Nat.blt (q_sp I E V m p).2.1 (q_sp I E V m p).1)
        have t2 := q_b_lt (q_for (V 0 (I 4 p)) (q_tr I E m))
        split
        · omega
        · split <;> omega
      obtain ⟨M', hA, hP⟩ := ih (p + 1) _ (some (.int (nI (I 4 p)))) (some (.int (nI (q_wd I E V m (I 4 p) (q_sp I E V m p).2.2 (q_sp I E V m p).1 (q_sp I E V m p).2.1)))) (by omega) (q_SI_s hI w1 b4 rfl)
      rw [if_neg (by omega)] at hsd
      refine ⟨M', sg_Vo_speak_c_12 ⟨fun c => absurd c (q_nle e0 (by omega) (by omega)), fun _ => ⟨q_in (by omega) (by omega), _, _, c_Fv_bit, ?_⟩⟩, hP⟩
      rw [ec, g4, gh, eb, hE]
      refine ⟨fun c => absurd rfl c, fun _ => ?_⟩
      rw [ev, g5]
      refine ⟨hin, _, _, q_isFor (hV _ b4).2 ht, hin, ⟨fun _ => hin, fun _ => ⟨fun _ => hin, fun _ => trivial⟩⟩, by rw [e8]; exact hin2, ?_⟩
      rw [g1, q_wexp c1 hsp.2 (by omega) (by omega) (q_b_lt _), ← hwd, e8, ex, e1, nI_add, show (1 : Int32) = nI 1 from rfl, pk_sub (by omega), nI_add]
      rw [hsd] at hA
      exact hA
theorem q_speak_c {X : zX} {M : zM} {I : q_N} {E : q_E} {V : q_N} {m h : Nat} (hwf : q_wf I) (hm : m < I 5 0) (hcv : q_cv M 5 6 7 8 9 I) (hV : ∀ v, v < I 0 0 → M 41 v = nI (V 0 v) ∧ V 0 v < 8) (hh : h < 256) (hh2 : M 36 12 = nI h) (hh3 : ∀ v, v < 8 → h.testBit v = E 2 (I 6 m) v) : ∃ M', Call X 10 [.ref 36, .ref 5, .int (nI m), .int (nI (q_tr I E m))] M [] (zu (zu M' 38 m (nI (q_ay I E V m))) 39 m (nI (q_no I E V m))) ∧ q_fr (q_DS 37 m) M M' ∧ ∀ v, v < I 0 0 → M' 37 (8 * m + v) = nI (q_sd I E V m (fun _ => 0) (I 0 0) v) := by
  obtain ⟨M', hA, hP⟩ := q_speakL_c (X := X) hwf hm hcv hV hh hh2 hh3 (I 0 0) 0 M none none (by omega) ⟨q_fr_rf, fun v _ hx => by obtain ⟨p', h1, -⟩ := hx; omega⟩
  exact ⟨M', Call.of (Nat.le_of_ble_eq_true rfl) (sg_Vo_speak_c_0 hA), hP.1, fun v hv => hP.2 v hv (hwf.2.2.1 v hv)⟩
