/-! ASK -/
theorem q_b_and2 (a b : Bool) : nI (q_b a) &&& nI (q_b b) = nI (q_b (a && b)) := by cases a <;> cases b <;> decide
theorem q_cnt_pos {f : Nat → Bool} : ∀ n, 0 < q_cnt f n → ∃ a, a < n ∧ f a = true
  | 0, h => by simp [q_cnt] at h
  | n + 1, h => by
    rw [q_cnt] at h
    cases e : f n with
    | true => exact ⟨n, by omega, e⟩
    | false =>
      rw [e] at h
      obtain ⟨a, h1, h2⟩ := q_cnt_pos n (by simpa [q_b] using h)
      exact ⟨a, by omega, h2⟩
theorem q_cnt_split (h w : Nat → Bool) : ∀ n, q_cnt (fun u => h u && w u) n + q_cnt (fun u => h u && !w u) n = q_cnt h n
  | 0 => rfl
  | n + 1 => by
    rw [q_cnt, q_cnt, q_cnt, ← q_cnt_split h w n]
    cases h n <;> cases w n <;> simp [q_b] <;> omega
theorem q_cnt_f (n : Nat) : q_cnt (fun _ => false) n = 0 := by
  induction n with
  | zero => rfl
  | succ n ih => rw [q_cnt, ih]; rfl
/-- how many come out alike, at most -/
def q_alk (h w : Nat → Bool) : Nat := if q_cnt (fun u => h u && w u) 8 < q_cnt h 8 - q_cnt (fun u => h u && w u) 8 then q_cnt h 8 - q_cnt (fun u => h u && w u) 8 else q_cnt (fun u => h u && w u) 8
/-- those that come out as a does -/
def q_ala (h w : Nat → Bool) (a : Nat) : Nat → Nat := q_cnt (fun b => h a && h b && (w a == w b))
def q_alm (h w : Nat → Bool) : Nat → Nat
  | 0 => 0
  | a + 1 => if q_ala h w a 8 ≤ q_alm h w a then q_alm h w a else q_ala h w a 8
theorem q_ala_v (h w : Nat → Bool) (a n : Nat) : q_ala h w a n = if h a = true then (if w a = true then q_cnt (fun u => h u && w u) n else q_cnt (fun u => h u && !w u) n) else 0 := by
  unfold q_ala
  cases e : h a with
  | false => simp [q_cnt_f]
  | true =>
    cases e2 : w a with
    | true =>
      rw [if_pos rfl, if_pos rfl]
      exact q_cnt_cg n (fun i _ => by cases h i <;> cases w i <;> rfl)
    | false =>
      rw [if_pos rfl, if_neg (by decide)]
      exact q_cnt_cg n (fun i _ => by cases h i <;> cases w i <;> rfl)
theorem q_alm_le {h w : Nat → Bool} {B : Nat} (hB : ∀ a, q_ala h w a 8 ≤ B) : ∀ n, q_alm h w n ≤ B
  | 0 => Nat.zero_le _
  | n + 1 => by
    rw [q_alm]
    split
    · exact q_alm_le hB n
    · exact hB n
theorem q_alm_ge {h w : Nat → Bool} {a : Nat} : ∀ n, a < n → q_ala h w a 8 ≤ q_alm h w n
  | 0, ha => by omega
  | n + 1, ha => by
    rw [q_alm]
    by_cases e : a = n
    · subst e
      split <;> omega
    · have := q_alm_ge (h := h) (w := w) (a := a) n (by omega)
      split <;> omega
theorem q_alm_eq (h w : Nat → Bool) : q_alm h w 8 = q_alk h w := by
  have hs := q_cnt_split h w 8
  have up : q_alm h w 8 ≤ q_alk h w := q_alm_le (fun a => by
    rw [q_ala_v]
    unfold q_alk
    split <;> split <;> (try split) <;> omega) 8
  have lo1 : q_cnt (fun u => h u && w u) 8 ≤ q_alm h w 8 := by
    by_cases c : 0 < q_cnt (fun u => h u && w u) 8
    · obtain ⟨a, h1, h2⟩ := q_cnt_pos 8 c
      have g := q_alm_ge (h := h) (w := w) 8 h1
      rw [Bool.and_eq_true] at h2
      rw [q_ala_v, if_pos h2.1, if_pos h2.2] at g
      exact g
    · omega
  have lo2 : q_cnt (fun u => h u && !w u) 8 ≤ q_alm h w 8 := by
    by_cases c : 0 < q_cnt (fun u => h u && !w u) 8
    · obtain ⟨a, h1, h2⟩ := q_cnt_pos 8 c
      have g := q_alm_ge (h := h) (w := w) 8 h1
      rw [Bool.and_eq_true] at h2
      rw [q_ala_v, if_pos h2.1, if_neg (by cases e : w a <;> simp_all)] at g
      exact g
    · omega
  unfold q_alk at *
  split at up <;> rename_i c
  · rw [if_pos c]; omega
  · rw [if_neg c]; omega
theorem q_alk_le (h w : Nat → Bool) : q_alk h w ≤ 8 := by
  have := q_cnt_le h 8
  have := q_cnt_le (fun u => h u && w u) 8
  unfold q_alk
  split <;> omega
theorem q_maL {X : zX} {M : zM} {h : Nat → Bool} {W : Nat → Nat} {m : Nat} (hm : m < 12) (hW : ∀ u, u < 8 → M 47 u = nI (W u) ∧ W u < 2 ^ 31) : ∀ (d k : Nat), k + d = 8 → At X 56 5 [some (.ref 0), some (.int (nI (q_bits h 8))), some (.int (nI m)), some (.int (nI (q_cnt (fun u => h u && (W u).testBit m) k))), some (.int (nI k))] [] M [.int (nI (q_alk h (fun u => (W u).testBit m)))] M := by
  intro d
  induction d with
  | zero =>
    intro k hk
    have hk : k = 8 := by omega
    subst hk
    have hs := q_cnt_split h (fun u => (W u).testBit m) 8
    have hc := c_In_bitCount (X := X) (x0 := nI (q_bits h 8)) (M := M)
    rw [q_bc_bits M (by omega)] at hc
    refine sg_Fv_mostAlike_5 ⟨fun _ => ⟨_, _, hc, ?_, rfl⟩, fun c => absurd (Int32.le_refl _) c⟩
    have h8 := q_cnt_le h 8
    rw [pk_sub (by omega)]
    unfold q_alk
    by_cases c : q_cnt (fun u => h u && (W u).testBit m) 8 < q_cnt h 8 - q_cnt (fun u => h u && (W u).testBit m) 8
    · rw [if_pos c, if_pos ((q_lt (by omega) (by omega)).mpr c)]
    · rw [if_neg c, if_neg (fun q => c ((q_lt (by omega) (by omega)).mp q))]
  | succ d ih =>
    intro k hk
    have hb := q_bits_lt h 8
    have hA := ih (k + 1) (by omega)
    have c1 := c_Fv_bit (X := X) (x0 := nI (q_bits h 8)) (x1 := nI k) (M := M)
    have c2 := c_Fv_bit (X := X) (x0 := nI (W k)) (x1 := nI m) (M := M)
    rw [q_bit M (by omega) (by omega)] at c1
    rw [q_bit M (hW k (by omega)).2 (by omega)] at c2
    refine sg_Fv_mostAlike_5 ⟨fun c => absurd ((q_le (a := 8) (by omega) (by omega)).mp c) (by omega), fun _ => ⟨_, _, c1, q_in (by omega) (by omega), ?_⟩⟩
    rw [q_cl (by omega), (hW k (by omega)).1]
    refine ⟨_, _, c2, ?_⟩
    rw [q_b_and2, nI_add, show nI k + (1 : Int32) = nI (k + 1) from nI_1 k, q_bits_at, show decide (k < 8) = true by simp; omega, Bool.true_and]
    exact hA
theorem c_Fv_mostAlike {X : zX} {M : zM} {h : Nat → Bool} {W : Nat → Nat} {m : Nat} (hm : m < 12) (hW : ∀ u, u < 8 → M 47 u = nI (W u) ∧ W u < 2 ^ 31) : Call X 56 [.ref 0, .int (nI (q_bits h 8)), .int (nI m)] M [.int (nI (q_alk h (fun u => (W u).testBit m)))] M :=
  Call.of (Nat.le_of_ble_eq_true rfl) (sg_Fv_mostAlike_0 (q_maL hm hW 8 0 (by omega)))
/-- the model's -/
theorem q_alI {X : zX} {M : zM} {h : Nat → Bool} {W : Nat → Nat} {m a : Nat} {x3 : Int32} {R : Value} (hm : m < 12) (ha : a < 8) (hW : ∀ u, u < 8 → M 76 u = nI (W u) ∧ W u < 2 ^ 31) (hgo : ∀ l6 : Option Value, At X 149 5 [some (.ref 53), some (.int (nI (q_bits h 8))), some (.int (nI m)), some (.int (if nI (q_ala h (fun u => (W u).testBit m) a 8) ≤ x3 then x3 else nI (q_ala h (fun u => (W u).testBit m) a 8))), some (.int (nI (a + 1))), some (.int (nI (q_ala h (fun u => (W u).testBit m) a 8))), l6] [] M [R] M) : ∀ (d k : Nat), k + d = 8 → At X 149 18 [some (.ref 53), some (.int (nI (q_bits h 8))), some (.int (nI m)), some (.int x3), some (.int (nI a)), some (.int (nI (q_ala h (fun u => (W u).testBit m) a k))), some (.int (nI k))] [] M [R] M := by
  intro d
  induction d with
  | zero =>
    intro k hk
    have hk : k = 8 := by omega
    subst hk
    refine sg_Mo_alike_18 ⟨fun _ => ⟨_, _, c_Mo_greater, ?_⟩, fun c => absurd (Int32.le_refl _) c⟩
    rw [show nI a + (1 : Int32) = nI (a + 1) from nI_1 a]
    exact hgo (some (.int (nI 8)))
  | succ d ih =>
    intro k hk
    have hb := q_bits_lt h 8
    have hA := ih (k + 1) (by omega)
    have c1 := c_Mo_isIn (X := X) (x0 := nI (q_bits h 8)) (x1 := nI a) (M := M)
    have c2 := c_Mo_isIn (X := X) (x0 := nI (q_bits h 8)) (x1 := nI k) (M := M)
    have c3 := c_Mo_isIn (X := X) (x0 := nI (W a)) (x1 := nI m) (M := M)
    have c4 := c_Mo_isIn (X := X) (x0 := nI (W k)) (x1 := nI m) (M := M)
    rw [q_mbit M (by omega) (by omega), q_bits_at, show decide (a < 8) = true by simp; omega, Bool.true_and] at c1
    rw [q_mbit M (by omega) (by omega), q_bits_at, show decide (k < 8) = true by simp; omega, Bool.true_and] at c2
    rw [q_mbit M (hW a ha).2 (by omega)] at c3
    rw [q_mbit M (hW k (by omega)).2 (by omega)] at c4
    have e0 : ∀ n, nI n + (0 : Int32) = nI n := fun n => nI_add n 0
    have ek : nI k + (1 : Int32) = nI (k + 1) := nI_1 k
    have hs : q_ala h (fun u => (W u).testBit m) a (k + 1) = q_ala h (fun u => (W u).testBit m) a k + q_b (h a && h k && ((W a).testBit m == (W k).testBit m)) := rfl
    refine sg_Mo_alike_18 ⟨fun c => absurd ((q_le (a := 8) (by omega) (by omega)).mp c) (by omega), fun _ => ⟨_, _, c1, fun z => ?_, fun z => ⟨_, _, c2, fun z2 => ?_, fun z2 => ⟨q_in ha (by omega), ?_⟩⟩⟩⟩
    · rw [q_b_0] at z
      rw [e0, ek]
      rw [hs, z] at hA
      exact hA
    · rw [q_b_0] at z2
      rw [e0, ek]
      rw [hs, z2, Bool.and_false] at hA
      exact hA
    · rw [q_cl (by omega), (hW a ha).1]
      refine ⟨_, _, c3, q_in (by omega) (by omega), ?_⟩
      rw [q_cl (by omega), (hW k (by omega)).1]
      refine ⟨_, _, c4, ?_⟩
      rw [q_b_n0] at z z2
      rw [hs, z, z2, Bool.true_and, Bool.true_and] at hA
      have e : (if nI (q_b ((W a).testBit m)) = nI (q_b ((W k).testBit m)) then (1 : Int32) else (0 : Int32)) = nI (q_b ((W a).testBit m == (W k).testBit m)) := by
        cases (W a).testBit m <;> cases (W k).testBit m <;> decide
      rw [e, nI_add, ek]
      exact hA
theorem q_alO {X : zX} {M : zM} {h : Nat → Bool} {W : Nat → Nat} {m : Nat} (hm : m < 12) (hW : ∀ u, u < 8 → M 76 u = nI (W u) ∧ W u < 2 ^ 31) : ∀ (d a : Nat) (l5 l6 : Option Value), a + d = 8 → At X 149 5 [some (.ref 53), some (.int (nI (q_bits h 8))), some (.int (nI m)), some (.int (nI (q_alm h (fun u => (W u).testBit m) a))), some (.int (nI a)), l5, l6] [] M [.int (nI (q_alk h (fun u => (W u).testBit m)))] M := by
  intro d
  induction d with
  | zero =>
    intro a l5 l6 ha
    have ha : a = 8 := by omega
    subst ha
    refine sg_Mo_alike_5 ⟨fun _ => ⟨?_, rfl⟩, fun c => absurd (Int32.le_refl _) c⟩
    rw [q_alm_eq]
  | succ d ih =>
    intro a l5 l6 ha
    have b1 : q_ala h (fun u => (W u).testBit m) a 8 ≤ 8 := q_cnt_le _ 8
    have b2 : q_alm h (fun u => (W u).testBit m) a ≤ 8 := q_alm_le (fun a => q_cnt_le _ 8) a
    refine sg_Mo_alike_5 ⟨fun c => absurd ((q_le (a := 8) (by omega) (by omega)).mp c) (by omega), fun _ => q_alI hm (by omega) hW (fun l6 => ?_) 8 0 (by omega)⟩
    have e : (if nI (q_ala h (fun u => (W u).testBit m) a 8) ≤ nI (q_alm h (fun u => (W u).testBit m) a) then nI (q_alm h (fun u => (W u).testBit m) a) else nI (q_ala h (fun u => (W u).testBit m) a 8)) = nI (q_alm h (fun u => (W u).testBit m) (a + 1)) := by
      rw [q_alm]
      by_cases c : q_ala h (fun u => (W u).testBit m) a 8 ≤ q_alm h (fun u => (W u).testBit m) a
      · rw [if_pos c, if_pos ((q_le (by omega) (by omega)).mpr c)]
      · rw [if_neg c, if_neg (fun q => c ((q_le (by omega) (by omega)).mp q))]
    rw [e]
    exact ih (a + 1) _ l6 (by omega)
theorem c_Mo_alike {X : zX} {M : zM} {h : Nat → Bool} {W : Nat → Nat} {m : Nat} (hm : m < 12) (hW : ∀ u, u < 8 → M 76 u = nI (W u) ∧ W u < 2 ^ 31) : Call X 149 [.ref 53, .int (nI (q_bits h 8)), .int (nI m)] M [.int (nI (q_alk h (fun u => (W u).testBit m)))] M :=
  Call.of (Nat.le_of_ble_eq_true rfl) (sg_Mo_alike_0 (q_alO hm hW 8 0 none none (by omega)))
/-- which, and how many by it -/
def q_as (A : Nat → Nat) : Nat → Option Nat
  | 0 => none
  | n + 1 => match q_as A n with
    | none => some n
    | some b => if A b ≤ A n then some b else some n
theorem q_as_s (A : Nat → Nat) : ∀ n, ∃ b, b < n + 1 ∧ q_as A (n + 1) = some b
  | 0 => ⟨0, by omega, rfl⟩
  | n + 1 => by
    obtain ⟨b, h1, h2⟩ := q_as_s A n
    rw [q_as, h2]
    by_cases c : A b ≤ A (n + 1)
    · exact ⟨b, by omega, by simp [c]⟩
    · exact ⟨n + 1, by omega, by simp [c]⟩
def q_a1 (st : Option Nat) : Int32 := match st with
  | none => -1
  | some b => nI b
def q_a2 (A : Nat → Nat) (st : Option Nat) : Int32 := match st with
  | none => 0
  | some b => nI (A b)
def q_aW (S : q_N) (u : Nat) : Nat := q_pb (q_wI (q_I S) u) (q_EA S)
def q_aA (S : q_N) (m : Nat) : Nat := q_alk (q_hrf S) (fun u => (q_aW S u).testBit m)
def q_ask (S : q_N) : Int32 := q_a1 (q_as (q_aA S) (q_I S 5 0))
theorem q_aW_lt {S : q_N} (hS : q_ws S) {u : Nat} (hu : u < 8) : q_aW S u < 2 ^ 31 := by
  have := q_pb_lt (E := q_EA S) (q_wf_wish (v := u) (q_I_wf hS) hu)
  unfold q_aW q_wI
  omega
theorem q_askC {X : zX} {M : zM} {S : q_N} (hS : q_ws S) (h55 : M 5 5 = nI (q_I S 5 0)) (hW : ∀ u, u < 8 → M 47 u = nI (q_aW S u)) : ∀ (d k : Nat) (l5 : Option Value), k + d = q_I S 5 0 → At X 57 16 [some (.ref 0), some (.int (nI (q_bits (q_hrf S) 8))), some (.int (q_a1 (q_as (q_aA S) k))), some (.int (q_a2 (q_aA S) (q_as (q_aA S) k))), some (.int (nI k)), l5] [] M [.int (q_ask S)] M := by
  have h12 := (q_I_wf hS).2.2.2.1
  intro d
  induction d with
  | zero =>
    intro k l5 hk
    have hk : k = q_I S 5 0 := by omega
    subst hk
    exact sg_Fv_ask_16 ⟨fun _ => ⟨rfl, rfl⟩, fun c => absurd (by rw [h55]; exact Int32.le_refl _) c⟩
  | succ d ih =>
    intro k l5 hk
    have hC := c_Fv_mostAlike (X := X) (M := M) (h := q_hrf S) (W := q_aW S) (m := k) (by omega) (fun u hu => ⟨hW u hu, q_aW_lt hS hu⟩)
    refine sg_Fv_ask_16 ⟨fun c => absurd c (q_nle h55 (by omega) (by omega)), fun _ => ⟨_, _, hC, ?_⟩⟩
    have hA := ih (k + 1) (some (.int (nI (q_aA S k)))) (by omega)
    rw [show nI k + (1 : Int32) = nI (k + 1) from nI_1 k]
    have bk : q_aA S k ≤ 8 := q_alk_le _ _
    have e : (if q_a1 (q_as (q_aA S) k) = (-1 : Int32) then nI k else (if q_a2 (q_aA S) (q_as (q_aA S) k) ≤ nI (q_aA S k) then q_a1 (q_as (q_aA S) k) else nI k)) = q_a1 (q_as (q_aA S) (k + 1)) ∧ (if q_a1 (q_as (q_aA S) k) = (-1 : Int32) then nI (q_aA S k) else (if q_a2 (q_aA S) (q_as (q_aA S) k) ≤ nI (q_aA S k) then q_a2 (q_aA S) (q_as (q_aA S) k) else nI (q_aA S k))) = q_a2 (q_aA S) (q_as (q_aA S) (k + 1)) := by
      cases k with
      | zero => exact ⟨by simp [q_as, q_a1], by simp [q_as, q_a1, q_a2]⟩
      | succ n =>
        obtain ⟨b, h1, h2⟩ := q_as_s (q_aA S) n
        have bb : q_aA S b ≤ 8 := q_alk_le _ _
        have n1 : ¬ nI b = (-1 : Int32) := q_nneg1 (by omega)
        rw [show q_as (q_aA S) (n + 1 + 1) = (if q_aA S b ≤ q_aA S (n + 1) then some b else some (n + 1)) by rw [q_as, h2], h2]
        unfold q_a1 q_a2
        dsimp only
        rw [if_neg n1, if_neg n1]
        by_cases c : q_aA S b ≤ q_aA S (n + 1)
        · rw [if_pos ((q_le (by omega) (by omega)).mpr c), if_pos ((q_le (by omega) (by omega)).mpr c), if_pos c]
          exact ⟨rfl, rfl⟩
        · rw [if_neg (fun q => c ((q_le (by omega) (by omega)).mp q)), if_neg (fun q => c ((q_le (by omega) (by omega)).mp q)), if_neg c]
          exact ⟨rfl, rfl⟩
    show At X 57 16 [some (.ref 0), some (.int (nI (q_bits (q_hrf S) 8))), some (.int (if q_a1 (q_as (q_aA S) k) = (-1 : Int32) then nI k else (if q_a2 (q_aA S) (q_as (q_aA S) k) ≤ nI (q_aA S k) then q_a1 (q_as (q_aA S) k) else nI k))), some (.int (if q_a1 (q_as (q_aA S) k) = (-1 : Int32) then nI (q_aA S k) else (if q_a2 (q_aA S) (q_as (q_aA S) k) ≤ nI (q_aA S k) then q_a2 (q_aA S) (q_as (q_aA S) k) else nI (q_aA S k)))), some (.int (nI (k + 1))), some (.int (nI (q_aA S k)))] [] M [.int (q_ask S)] M
    rw [e.1, e.2]
    exact hA
theorem c_Fv_ask_r {X : zX} {S : q_N} (hS : q_ws S) : q_cA X 57 [] (.int (q_ask S)) S := fun M it h => by
  obtain ⟨M3, hC, hf, hu⟩ := c_Fv_tryHearts (X := X) hS h.1 h.2.1
  have hM3 := q_rC_Z h hf
  have hB : Call X 53 [.ref 0] M3 [.int (nI (q_bits (q_hrf S) 8))] M3 := Call.of (Nat.le_of_ble_eq_true rfl) (sg_Fv_heartBits_0 (q_hbC hS hM3 hu 8 0 (by omega)))
  exact ⟨M3, Call.of (Nat.le_of_ble_eq_true rfl) (sg_Fv_ask_0 ⟨_, hC, _, _, hB, q_askC hS hM3.2.1.2.1.1 hu (q_I S 5 0) 0 none (by omega)⟩), q_fr_mono hf (fun a b q => by unfold q_DZ at q; unfold q_DY; omega), hM3.2.2.2⟩
theorem q_askM {X : zX} {M : zM} {S : q_N} (hS : q_ws S) (h9 : M 53 9 = nI (q_I S 5 0)) (hW : ∀ u, u < 8 → M 76 u = nI (q_aW S u)) : ∀ (d k : Nat), k + 1 + d = q_I S 5 0 → At X 150 20 [some (.ref 53), some (.int (nI (q_bits (q_hrf S) 8))), some (.int (q_a1 (q_as (q_aA S) (k + 1)))), some (.int (nI (k + 1)))] [] M [.int (q_ask S)] M := by
  have h12 := (q_I_wf hS).2.2.2.1
  intro d
  induction d with
  | zero =>
    intro k hk
    have hk : k + 1 = q_I S 5 0 := by omega
    rw [hk]
    exact sg_Mo_askNow_20 ⟨fun _ => ⟨rfl, rfl⟩, fun c => absurd (by rw [h9]; exact Int32.le_refl _) c⟩
  | succ d ih =>
    intro k hk
    obtain ⟨b, h1, h2⟩ := q_as_s (q_aA S) k
    have bk : q_aA S (k + 1) ≤ 8 := q_alk_le _ _
    have bb : q_aA S b ≤ 8 := q_alk_le _ _
    have hC := c_Mo_alike (X := X) (M := M) (h := q_hrf S) (W := q_aW S) (m := k + 1) (by omega) (fun u hu => ⟨hW u hu, q_aW_lt hS hu⟩)
    have hC2 := c_Mo_alike (X := X) (M := M) (h := q_hrf S) (W := q_aW S) (m := b) (by omega) (fun u hu => ⟨hW u hu, q_aW_lt hS hu⟩)
    have hA := ih (k + 1) (by omega)
    rw [show q_as (q_aA S) (k + 1 + 1) = (if q_aA S b ≤ q_aA S (k + 1) then some b else some (k + 1)) by rw [q_as, h2]] at hA
    rw [h2]
    refine sg_Mo_askNow_20 ⟨fun c => absurd c (q_nle h9 (by omega) (by omega)), fun _ => ⟨_, _, hC, _, _, hC2, ?_⟩⟩
    rw [show nI (k + 1) + (1 : Int32) = nI (k + 1 + 1) from nI_1 (k + 1)]
    show At X 150 20 [some (.ref 53), some (.int (nI (q_bits (q_hrf S) 8))), some (.int (if nI (q_aA S b) ≤ nI (q_aA S (k + 1)) then nI b else nI (k + 1))), some (.int (nI (k + 1 + 1)))] [] M [.int (q_ask S)] M
    by_cases c : q_aA S b ≤ q_aA S (k + 1)
    · rw [if_pos c] at hA
      rw [if_pos ((q_le (by omega) (by omega)).mpr c)]
      exact hA
    · rw [if_neg c] at hA
      rw [if_neg (fun q => c ((q_le (by omega) (by omega)).mp q))]
      exact hA
theorem c_Mo_askNow_r {X : zX} {S : q_N} (hS : q_ws S) : q_mA X 150 [] (.int (q_ask S)) S := q_mA_M (fun M it h ht => by
  have hs : q_sn M S := (q_rM_AB.mp h).2.1
  have h12 := (q_I_wf hS).2.2.2.1
  obtain ⟨M', hC, hf, hu⟩ := c_Mo_heartNow (X := X) hS ht hs
  have h9 : M' 53 9 = nI (q_I S 5 0) := by rw [hf 53 9 (by unfold q_DM; omega)]; exact ht.2.1.1
  refine ⟨M', Call.of (Nat.le_of_ble_eq_true rfl) (sg_Mo_askNow_0 ⟨_, _, hC, ?_⟩), hf⟩
  rw [h9]
  by_cases c : q_I S 5 0 = 0
  · rw [c, if_pos (show nI 0 ≤ (0 : Int32) from Int32.le_refl _)]
    refine sg_Mo_askNow_20 ⟨fun _ => ⟨?_, rfl⟩, fun q => absurd ?_ q⟩
    · unfold q_ask
      rw [c]
      rfl
    · rw [h9, c]
      decide
  · rw [if_neg (fun q => c (by have := (q_le (b := 0) (by omega) (by omega)).mp q; omega))]
    have := q_askM (X := X) hS h9 hu (q_I S 5 0 - 1) 0 (by omega)
    exact this)
theorem o_ask {X : zX} {S : q_N} {it : Nat → Int32} (hS : q_ws S) : q_op X 57 151 [] S it := by
  refine q_op_ask _ hS (fun M h => c_Fv_ask_r hS M it h) (fun M h => ?_)
  obtain ⟨M1, hC, hf, hmv, hmm, hL⟩ := c_Mo_find (X := X) hS h
  obtain ⟨M2, hC2, hf2, -⟩ := c_Mo_askNow_r (X := X) hS M1 it (q_rM_fr h hf) hmv hmm
  exact ⟨M2, Call.of (Nat.le_of_ble_eq_true rfl) (sg_Mo_ask_0 ⟨_, hC, _, _, hC2, rfl, rfl⟩), q_fr_tr hf hf2⟩
