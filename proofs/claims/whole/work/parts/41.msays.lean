/-! says, and the model's view -/
def q_lm (l : Nat) : Int32 := if l = 2 then -1 else nI l
theorem q_say1 : ∀ (l : Fin 3) (r : Fin 2), (if q_lm l.val = (-1 : Int32) then (if nI r.val = 0 then (0 : Int32) else (1 : Int32)) else q_lm l.val) = nI (if l.val ≠ 2 then l.val else r.val) := by decide +kernel
theorem q_say2 : ∀ (a n : Fin 9) (r : Fin 2), (if nI a.val ≤ nI n.val then (if nI n.val ≤ nI a.val then (if nI r.val = 0 then (0 : Int32) else (1 : Int32)) else (0 : Int32)) else (1 : Int32)) = nI (if a.val ≠ n.val then q_b (Nat.blt n.val a.val) else r.val) := by decide +kernel
theorem q_say0 : ∀ (r : Fin 2), (if nI r.val = 0 then (0 : Int32) else (1 : Int32)) = nI r.val := by decide +kernel
def q_mv (M : zM) (I : q_N) : Prop := M 53 7 = nI (I 0 0) ∧ ∀ v, v < I 0 0 → M 60 (3 * v) = nI (I 1 v) ∧ M 60 (3 * v + 1) = nI (I 2 v) ∧ M 60 (3 * v + 2) = nI (I 3 v) ∧ M 64 v = nI (I 4 v)
def q_mm (M : zM) (I : q_N) : Prop := M 53 9 = nI (I 5 0) ∧ (∀ m, m < I 5 0 → M 61 (2 * m) = nI (I 6 m) ∧ M 61 (2 * m + 1) = nI (I 7 m)) ∧ M 62 0 = nI (I 8 0) ∧ M 62 1 = nI (I 8 1)
theorem c_Mo_says {X : zX} {M : zM} {v t l a n s lk : Nat} (hv : v < 8) (hs : M 60 (3 * v) = nI s) (hs3 : s < 3) (hk : M 65 v = nI lk) (hk8 : lk < 8) (ht : t < 8) (hl : l ≤ 2) (ha : a ≤ 8) (hn : n ≤ 8) : Call X 111 [.ref 53, .int (nI v), .int (nI t), .int (q_lm l), .int (nI a), .int (nI n)] M [.int (nI (if s = 1 ∧ l ≠ 2 then l else if s = 2 ∧ a ≠ n then q_b (Nat.blt n a) else q_b (q_for lk t)))] M := by
  have ec : (nI v).toNatClampNeg = v := q_cl (by omega)
  have e3 : (3 : Int32) * nI v = nI (3 * v) := by rw [show (3 : Int32) = nI 3 from rfl, pk_mul]
  have ec3 : (nI (3 * v)).toNatClampNeg = 3 * v := q_cl (by omega)
  have s1 := q_say1 ⟨l, by omega⟩ ⟨q_b (q_for lk t), q_b_lt _⟩
  have s2 := q_say2 ⟨a, by omega⟩ ⟨n, by omega⟩ ⟨q_b (q_for lk t), q_b_lt _⟩
  have s0 := q_say0 ⟨q_b (q_for lk t), q_b_lt _⟩
  dsimp only at s0 s1 s2
  refine Call.of (Nat.le_of_ble_eq_true rfl) (sg_Mo_says_0 ⟨q_in hv (by omega), ?_⟩)
  rw [ec, hk]
  refine ⟨_, _, c_Mo_isFor ht hk8, by rw [e3]; exact q_in (by omega) (by omega), ?_⟩
  rw [e3, ec3, hs, s1, s2, s0]
  refine ⟨fun c => ⟨?_, rfl⟩, fun c => ⟨fun c2 => ⟨?_, rfl⟩, fun c2 => ⟨?_, rfl⟩⟩⟩
  · have e : s = 0 := (q_eq (b := 0) (by omega) (by omega)).mp c
    simp [e]
  · have e : s = 1 := (q_eq (b := 1) (by omega) (by omega)).mp c2
    simp [e]
  · have n0 : s ≠ 0 := fun q => c (by rw [q]; rfl)
    have n1 : s ≠ 1 := fun q => c2 (by rw [q]; rfl)
    have e : s = 2 := by omega
    simp [e]
theorem q_ix8' {m v : Nat} (hm : m < 12) (hv : v < 8) : (8 : Int32) * nI m + nI v = nI (8 * m + v) := by
  rw [show (8 : Int32) = nI 8 from rfl, pk_mul, nI_add]
