/-! BITS -/
theorem q_or (a b : Nat) : nI a ||| nI b = nI (a ||| b) := by
  apply Int32.toBitVec_inj.mp
  apply BitVec.eq_of_getLsbD_eq
  intro i hi
  simp [nI, Int32.toBitVec_or, Nat.testBit_or, hi]
theorem q_and (a b : Nat) : nI a &&& nI b = nI (a &&& b) := by
  apply Int32.toBitVec_inj.mp
  apply BitVec.eq_of_getLsbD_eq
  intro i hi
  simp [nI, Int32.toBitVec_and, Nat.testBit_and, hi]
theorem q_shc : ∀ n : Fin 32, ((nI n.val &&& 31).toBitVec.smod 32).toNat = n.val := by decide +kernel
theorem q_shr {n k : Nat} (hn : n < 2 ^ 31) (hk : k < 32) : nI n >>> (nI k &&& 31) = nI (n / 2 ^ k) := pk_shrN hn _ k (q_shc ⟨k, hk⟩)
theorem q_one : ∀ m : Fin 31, (1 : Int32) <<< (nI m.val &&& 31) = nI (2 ^ m.val) := by decide +kernel
theorem q_shl1 {m : Nat} (h : m < 31) : (1 : Int32) <<< (nI m &&& 31) = nI (2 ^ m) := q_one ⟨m, h⟩
theorem q_b_eq (b : Bool) : q_b b = if b = true then 1 else 0 := by cases b <;> rfl
theorem q_bit {n k : Nat} (M : zM) (hn : n < 2 ^ 31) (hk : k < 32) : f_Fv_bit (nI n) (nI k) M = nI (q_b (n.testBit k)) := by
  unfold f_Fv_bit
  rw [q_shr hn hk, show (1 : Int32) = nI 1 from rfl, q_and]
  congr 1
  rw [Nat.and_one_is_mod, q_b_eq, Nat.testBit_eq_decide_div_mod_eq]
  by_cases h : n / 2 ^ k % 2 = 1
  · simp [h]
  · have : n / 2 ^ k % 2 = 0 := by omega
    simp [this]
theorem q_b_0 {b : Bool} : nI (q_b b) = 0 ↔ b = false := by cases b <;> decide
theorem q_b_n0 {b : Bool} : ¬ nI (q_b b) = 0 ↔ b = true := by cases b <;> decide
theorem q_set {n m : Nat} (i : Nat) : (n ||| 2 ^ m).testBit i = (n.testBit i || decide (i = m)) := by
  rw [Nat.testBit_or, Nat.testBit_two_pow]
  congr 1
  by_cases h : m = i
  · simp [h]
  · simp [h, Ne.symm h]
theorem q_set_lt {n m k : Nat} (hn : n < 2 ^ k) (hm : m < k) : n ||| 2 ^ m < 2 ^ k := Nat.or_lt_two_pow hn (Nat.pow_lt_pow_right (by omega) hm)
/-! EVENTS -/
def q_tl (K : q_N) (held kind y v : Nat) : Nat → Bool
  | 0 => false
  | i + 1 => q_tl K held kind y v i || (held.testBit i && K 0 i == kind && K 1 i == y && (kind != 2 || K 2 i == v))
def q_told (ne held : Nat) (K : q_N) : q_E := fun kind y v => q_tl K held kind y v ne
