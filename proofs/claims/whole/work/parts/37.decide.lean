/-! decide -/
theorem zu_id {M : zM} {k i : Nat} {v : Int32} (h : M k i = v) : zu M k i v = M := by
  funext a b
  rw [zu_at]
  split
  · rename_i q
    rw [q.1, q.2, h]
  · rfl
theorem zu_zu {M : zM} {k i : Nat} {v w : Int32} : zu (zu M k i v) k i w = zu M k i w := by
  funext a b
  simp only [zu_at]
  split <;> rfl
theorem q_lead1 : ∀ (a n : Fin 9), (nI a.val - nI n.val ≤ 0) ↔ ¬ (n.val < a.val) := by decide +kernel
theorem q_lead2 : ∀ (a n : Fin 9) (f : Fin 2) (w : Fin 10), ((nI a.val - nI n.val) + (if nI f.val = (1 : Int32) then nI w.val else (-nI w.val)) ≤ 0) ↔ ¬ (if f.val = 1 then n.val < a.val + w.val else n.val + w.val < a.val) := by decide +kernel
theorem q_dec_a {X : zX} {M : zM} {m a n f w pb db : Nat} {ap : Bool} (hm : m < 12) (ha : M 18 m = nI a) (hn : M 19 m = nI n) (han : a + n ≤ 8) (hap : M 16 11 = nI (q_b ap)) (hf : f < 2) (hw : w < 10) (hpb : M 16 4 = nI pb) (hdb : M 16 5 = nI db) (P D : Bool) (hP : P = true ↔ (if ap = true then n < a else if f = 1 then n < a + w else n + w < a)) (hD : D = (P != Nat.blt n a)) :
    Call X 11 [.ref 16, .int (nI m), .int (nI f), .int (nI w)] M [] (zu (zu (zu M 20 m (nI (if ap = true then 2 else f))) 16 4 (nI (pb ||| (if P = true then 2 ^ m else 0)))) 16 5 (nI (db ||| (if D = true then 2 ^ m else 0)))) := by
  have hin : vp_in (nI m) 12 := q_in hm (by omega)
  have ec : (nI m).toNatClampNeg = m := q_cl (by omega)
  have l1 := q_lead1 ⟨a, by omega⟩ ⟨n, by omega⟩
  have l2 := q_lead2 ⟨a, by omega⟩ ⟨n, by omega⟩ ⟨f, hf⟩ ⟨w, hw⟩
  dsimp only at l1 l2
  have sh : (1 : Int32) <<< (nI m &&& 31) = nI (2 ^ m) := q_shl1 (by omega)
  have hbl : Nat.blt n a = true ↔ n < a := by simp [Nat.blt_eq]
  refine Call.of (Nat.le_of_ble_eq_true rfl) (sg_Vo_decide_a_0 ⟨hin, hin, hin, ?_⟩)
  rw [ec, ha, hn, hpb, hdb, hap, sh, q_or, q_or]
  have z4 : ∀ u : Int32, zu (zu M 20 m u) 16 4 (nI pb) = zu M 20 m u := fun u => zu_id (by rw [zu_at, if_neg (by omega)]; exact hpb)
  have z5 : ∀ u : Int32, zu (zu M 20 m u) 16 5 (nI db) = zu M 20 m u := fun u => zu_id (by rw [zu_at, if_neg (by omega)]; exact hdb)
  have z45 : ∀ u u' : Int32, zu (zu (zu M 20 m u) 16 4 u') 16 5 (nI db) = zu (zu M 20 m u) 16 4 u' := fun u u' => zu_id (by rw [zu_at, if_neg (by omega), zu_at, if_neg (by omega)]; exact hdb)
  cases ap with
  | true =>
    rw [if_pos rfl] at hP
    refine ⟨fun _ => ?_, fun c => absurd c (by decide)⟩
    by_cases q : n < a
    · have hPt : P = true := hP.mpr q
      have hDf : D = false := by rw [hD, hPt, hbl.mpr q]; rfl
      simp only [l1, q, hPt, hDf, if_true, not_true, if_false]
      refine ⟨fun c => c.elim, fun _ => ⟨fun _ => ⟨trivial, ?_⟩, fun c => c.elim⟩⟩
      simp only [Bool.false_eq_true, if_false, Nat.or_zero]
      rw [z45]
      rfl
    · have hPf : P = false := by
        cases hp : P with
        | false => rfl
        | true => exact absurd (hP.mp hp) q
      have hbf : Nat.blt n a = false := by
        cases hb : Nat.blt n a with
        | false => rfl
        | true => exact absurd (hbl.mp hb) q
      have hDf : D = false := by rw [hD, hPf, hbf]; rfl
      simp only [l1, q, hPf, hDf, not_false_eq_true, if_true]
      refine ⟨fun _ => ⟨fun _ => ⟨trivial, ?_⟩, fun c => (by first | exact False.elim c | exact absurd trivial c)⟩, fun c => (by first | exact False.elim c | exact absurd trivial c)⟩
      simp only [Bool.false_eq_true, if_false, Nat.or_zero]
      rw [z4, z5]
      rfl
  | false =>
    rw [if_neg (by decide)] at hP
    refine ⟨fun c => absurd rfl c, fun _ => ⟨hin, ?_⟩⟩
    rw [zu_zu]
    by_cases p : (if f = 1 then n < a + w else n + w < a)
    · have hPt : P = true := hP.mpr p
      by_cases q : n < a
      · have hDf : D = false := by rw [hD, hPt, hbl.mpr q]; rfl
        simp only [l1, l2, p, q, hPt, hDf, if_true, not_true, if_false]
        refine ⟨fun c => c.elim, fun _ => ⟨fun _ => ⟨trivial, ?_⟩, fun c => (by first | exact False.elim c | exact absurd trivial c)⟩⟩
        simp only [Bool.false_eq_true, if_false, Nat.or_zero]
        rw [z45]
      · have hbf : Nat.blt n a = false := by
          cases hb : Nat.blt n a with
          | false => rfl
          | true => exact absurd (hbl.mp hb) q
        have hDt : D = true := by rw [hD, hPt, hbf]; rfl
        simp only [l1, l2, p, q, hPt, hDt, if_true, not_true, if_false, not_false_eq_true]
        refine ⟨fun c => c.elim, fun _ => ⟨fun c => absurd c (by decide), fun _ => ⟨trivial, ?_⟩⟩⟩
        simp only [Bool.false_eq_true, if_false]
    · have hPf : P = false := by
        cases hp : P with
        | false => rfl
        | true => exact absurd (hP.mp hp) p
      by_cases q : n < a
      · have hDt : D = true := by rw [hD, hPf, hbl.mpr q]; rfl
        simp only [l1, l2, p, q, hPf, hDt, if_true, not_true, if_false, not_false_eq_true]
        refine ⟨fun _ => ⟨fun c => absurd c (by decide), fun _ => ⟨trivial, ?_⟩⟩, fun c => (by first | exact False.elim c | exact absurd trivial c)⟩
        simp only [Bool.false_eq_true, if_false, Nat.or_zero]
        rw [z4]
      · have hbf : Nat.blt n a = false := by
          cases hb : Nat.blt n a with
          | false => rfl
          | true => exact absurd (hbl.mp hb) q
        have hDf : D = false := by rw [hD, hPf, hbf]; rfl
        simp only [l1, l2, p, q, hPf, hDf, if_true, not_true, if_false, not_false_eq_true]
        refine ⟨fun _ => ⟨fun _ => ⟨trivial, ?_⟩, fun c => (by first | exact False.elim c | exact absurd trivial c)⟩, fun c => (by first | exact False.elim c | exact absurd trivial c)⟩
        simp only [Bool.false_eq_true, if_false, Nat.or_zero]
        rw [z4, z5]
theorem q_dec_b {X : zX} {M : zM} {m a n f w pb db : Nat} {ap : Bool} (hm : m < 12) (ha : M 38 m = nI a) (hn : M 39 m = nI n) (han : a + n ≤ 8) (hap : M 36 11 = nI (q_b ap)) (hf : f < 2) (hw : w < 10) (hpb : M 36 4 = nI pb) (hdb : M 36 5 = nI db) (P D : Bool) (hP : P = true ↔ (if ap = true then n < a else if f = 1 then n < a + w else n + w < a)) (hD : D = (P != Nat.blt n a)) :
    Call X 11 [.ref 36, .int (nI m), .int (nI f), .int (nI w)] M [] (zu (zu (zu M 40 m (nI (if ap = true then 2 else f))) 36 4 (nI (pb ||| (if P = true then 2 ^ m else 0)))) 36 5 (nI (db ||| (if D = true then 2 ^ m else 0)))) := by
  have hin : vp_in (nI m) 12 := q_in hm (by omega)
  have ec : (nI m).toNatClampNeg = m := q_cl (by omega)
  have l1 := q_lead1 ⟨a, by omega⟩ ⟨n, by omega⟩
  have l2 := q_lead2 ⟨a, by omega⟩ ⟨n, by omega⟩ ⟨f, hf⟩ ⟨w, hw⟩
  dsimp only at l1 l2
  have sh : (1 : Int32) <<< (nI m &&& 31) = nI (2 ^ m) := q_shl1 (by omega)
  have hbl : Nat.blt n a = true ↔ n < a := by simp [Nat.blt_eq]
  refine Call.of (Nat.le_of_ble_eq_true rfl) (sg_Vo_decide_b_0 ⟨hin, hin, hin, ?_⟩)
  rw [ec, ha, hn, hpb, hdb, hap, sh, q_or, q_or]
  have z4 : ∀ u : Int32, zu (zu M 40 m u) 36 4 (nI pb) = zu M 40 m u := fun u => zu_id (by rw [zu_at, if_neg (by omega)]; exact hpb)
  have z5 : ∀ u : Int32, zu (zu M 40 m u) 36 5 (nI db) = zu M 40 m u := fun u => zu_id (by rw [zu_at, if_neg (by omega)]; exact hdb)
  have z45 : ∀ u u' : Int32, zu (zu (zu M 40 m u) 36 4 u') 36 5 (nI db) = zu (zu M 40 m u) 36 4 u' := fun u u' => zu_id (by rw [zu_at, if_neg (by omega), zu_at, if_neg (by omega)]; exact hdb)
  cases ap with
  | true =>
    rw [if_pos rfl] at hP
    refine ⟨fun _ => ?_, fun c => absurd c (by decide)⟩
    by_cases q : n < a
    · have hPt : P = true := hP.mpr q
      have hDf : D = false := by rw [hD, hPt, hbl.mpr q]; rfl
      simp only [l1, q, hPt, hDf, if_true, not_true, if_false]
      refine ⟨fun c => c.elim, fun _ => ⟨fun _ => ⟨trivial, ?_⟩, fun c => c.elim⟩⟩
      simp only [Bool.false_eq_true, if_false, Nat.or_zero]
      rw [z45]
      rfl
    · have hPf : P = false := by
        cases hp : P with
        | false => rfl
        | true => exact absurd (hP.mp hp) q
      have hbf : Nat.blt n a = false := by
        cases hb : Nat.blt n a with
        | false => rfl
        | true => exact absurd (hbl.mp hb) q
      have hDf : D = false := by rw [hD, hPf, hbf]; rfl
      simp only [l1, q, hPf, hDf, not_false_eq_true, if_true]
      refine ⟨fun _ => ⟨fun _ => ⟨trivial, ?_⟩, fun c => (by first | exact False.elim c | exact absurd trivial c)⟩, fun c => (by first | exact False.elim c | exact absurd trivial c)⟩
      simp only [Bool.false_eq_true, if_false, Nat.or_zero]
      rw [z4, z5]
      rfl
  | false =>
    rw [if_neg (by decide)] at hP
    refine ⟨fun c => absurd rfl c, fun _ => ⟨hin, ?_⟩⟩
    rw [zu_zu]
    by_cases p : (if f = 1 then n < a + w else n + w < a)
    · have hPt : P = true := hP.mpr p
      by_cases q : n < a
      · have hDf : D = false := by rw [hD, hPt, hbl.mpr q]; rfl
        simp only [l1, l2, p, q, hPt, hDf, if_true, not_true, if_false]
        refine ⟨fun c => c.elim, fun _ => ⟨fun _ => ⟨trivial, ?_⟩, fun c => (by first | exact False.elim c | exact absurd trivial c)⟩⟩
        simp only [Bool.false_eq_true, if_false, Nat.or_zero]
        rw [z45]
      · have hbf : Nat.blt n a = false := by
          cases hb : Nat.blt n a with
          | false => rfl
          | true => exact absurd (hbl.mp hb) q
        have hDt : D = true := by rw [hD, hPt, hbf]; rfl
        simp only [l1, l2, p, q, hPt, hDt, if_true, not_true, if_false, not_false_eq_true]
        refine ⟨fun c => c.elim, fun _ => ⟨fun c => absurd c (by decide), fun _ => ⟨trivial, ?_⟩⟩⟩
        simp only [Bool.false_eq_true, if_false]
    · have hPf : P = false := by
        cases hp : P with
        | false => rfl
        | true => exact absurd (hP.mp hp) p
      by_cases q : n < a
      · have hDt : D = true := by rw [hD, hPf, hbl.mpr q]; rfl
        simp only [l1, l2, p, q, hPf, hDt, if_true, not_true, if_false, not_false_eq_true]
        refine ⟨fun _ => ⟨fun c => absurd c (by decide), fun _ => ⟨trivial, ?_⟩⟩, fun c => (by first | exact False.elim c | exact absurd trivial c)⟩
        simp only [Bool.false_eq_true, if_false, Nat.or_zero]
        rw [z4]
      · have hbf : Nat.blt n a = false := by
          cases hb : Nat.blt n a with
          | false => rfl
          | true => exact absurd (hbl.mp hb) q
        have hDf : D = false := by rw [hD, hPf, hbf]; rfl
        simp only [l1, l2, p, q, hPf, hDf, if_true, not_true, if_false, not_false_eq_true]
        refine ⟨fun _ => ⟨fun _ => ⟨trivial, ?_⟩, fun c => (by first | exact False.elim c | exact absurd trivial c)⟩, fun c => (by first | exact False.elim c | exact absurd trivial c)⟩
        simp only [Bool.false_eq_true, if_false, Nat.or_zero]
        rw [z4, z5]
