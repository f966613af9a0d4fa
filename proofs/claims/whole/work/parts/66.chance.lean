/-! CHANCE: the fraction in lowest terms -/
theorem q_gcd2 {A N h : Nat} (hd : 2 ^ h ∣ A) (hh : h ≤ N) (e : h = N ∨ A / 2 ^ h % 2 = 1) : Nat.gcd A (2 ^ N) = 2 ^ h := by
  obtain ⟨B, rfl⟩ := hd
  obtain ⟨t, rfl⟩ := Nat.le.dest hh
  have hp : 0 < 2 ^ h := Nat.two_pow_pos h
  rw [Nat.mul_div_cancel_left _ hp] at e
  rw [Nat.pow_add, Nat.gcd_mul_left]
  have k : Nat.gcd B (2 ^ t) = 1 := by
    rcases e with e | e
    · have e2 : t = 0 := by omega
      subst e2
      simp
    · have c : Nat.Coprime B 2 := by
        show Nat.gcd B 2 = 1
        rw [Nat.gcd_comm, Nat.gcd_rec, e]
        rfl
      exact Nat.Coprime.pow_right t c
  rw [k, Nat.mul_one]
def q_low (a b w : Nat) : Int64 := lN ((if nI w = 0 then a else b) / Nat.gcd a b)
theorem q_l2 : (2 : Int64) = lN 2 := rfl
theorem q_l0 : (0 : Int64) = lN 0 := rfl
theorem q_loE {a N h w : Nat} (hh : h ≤ N) (e : Nat.gcd a (2 ^ N) = 2 ^ h) : (if nI w = 0 then lN (a / 2 ^ h) else lN (2 ^ (N - h))) = q_low a (2 ^ N) w := by
  unfold q_low
  rw [e]
  by_cases c : nI w = 0
  · rw [if_pos c, if_pos c]
  · rw [if_neg c, if_neg c, Nat.pow_div hh (by omega)]
theorem q_loL {X : zX} {M : zM} {a N w : Nat} {x1 : Int64} {l2 : Option Value} (ha : a < 2 ^ 62) (hN : N ≤ 32) : ∀ (d h : Nat) (l6 l8 : Option Value), h + d = N → 2 ^ h ∣ a → At X 59 23 [some (.ref 0), some (.long x1), l2, some (.int (nI w)), some (.int (nI N)), some (.long (lN (a / 2 ^ h))), l6, some (.long (lN (2 ^ (N - h)))), l8, some (.int (nI h))] [] M [.long (q_low a (2 ^ N) w)] M := by
  intro d
  induction d with
  | zero =>
    intro h l6 l8 hh hd
    have hh : h = N := by omega
    subst hh
    exact sg_Fv_lowestTerm_23 ⟨fun _ => ⟨by rw [q_loE (Nat.le_refl _) (q_gcd2 hd (Nat.le_refl _) (.inl rfl))], rfl⟩, fun c => absurd (Int32.le_refl _) c⟩
  | succ d ih =>
    intro h l6 l8 hh hd
    have hb : a / 2 ^ h < 2 ^ 62 := Nat.lt_of_le_of_lt (Nat.div_le_self _ _) ha
    have hp : 2 ^ (N - h) < 2 ^ 62 := Nat.pow_lt_pow_right (by omega) (by omega)
    have hr : lN (a / 2 ^ h) - lN (a / 2 ^ h) / (2 : Int64) * (2 : Int64) = lN (a / 2 ^ h % 2) := pk_lRem (b := 2) (by omega) (by omega) (by omega)
    have hz : lg_cmp (lN (a / 2 ^ h) - lN (a / 2 ^ h) / (2 : Int64) * (2 : Int64)) (0 : Int64) = 0 ↔ a / 2 ^ h % 2 = 0 := by
      rw [hr, lg_cmp_eq]
      exact pk_lEQ (b := 0) (by omega) (by omega)
    refine sg_Fv_lowestTerm_23 ⟨fun c => absurd ((q_le (by omega) (by omega)).mp c) (by omega), fun _ => ⟨fun c => ?_, fun c => ?_⟩⟩
    · refine ⟨?_, rfl⟩
      rw [hz] at c
      rw [q_loE (by omega) (q_gcd2 hd (by omega) (.inr (by omega)))]
    · rw [hz] at c
      have d2 : 2 ^ (h + 1) ∣ a := by
        obtain ⟨B, rfl⟩ := hd
        rw [Nat.mul_div_cancel_left _ (Nat.two_pow_pos h)] at c
        obtain ⟨C, rfl⟩ := Nat.dvd_of_mod_eq_zero c
        exact ⟨C, by rw [Nat.pow_succ, Nat.mul_assoc]⟩
      have hA := ih (h + 1) none none (by omega) d2
      have e1 : lN (a / 2 ^ h) / (2 : Int64) = lN (a / 2 ^ (h + 1)) := by
        rw [q_l2, pk_lDiv (by omega) (by omega) (by omega), Nat.div_div_eq_div_mul, Nat.pow_succ]
      have e2 : lN (2 ^ (N - h)) / (2 : Int64) = lN (2 ^ (N - (h + 1))) := by
        rw [q_l2, pk_lDiv (by omega) (by omega) (by omega), show N - h = N - (h + 1) + 1 by omega, Nat.pow_succ, Nat.mul_div_cancel _ (by omega)]
      rw [e1, e2, show nI h + (1 : Int32) = nI (h + 1) from nI_1 h]
      exact hA
theorem q_1shl : ∀ ne : Fin 9, (4 : Int32) * nI ne.val = nI (4 * ne.val) ∧ (1 : Int64) <<< (((4 : Int32) * nI ne.val).toInt64 &&& 63) = lN (2 ^ (4 * ne.val)) := by decide +kernel
theorem c_Fv_lowestTerm {X : zX} {M : zM} {a ne w : Nat} (ha : a < 2 ^ 62) (hne : ne ≤ 8) (h59 : M 5 9 = nI ne) : Call X 59 [.ref 0, .long (lN a), .int (nI w)] M [.long (q_low a (2 ^ (4 * ne)) w)] M := by
  refine Call.of (Nat.le_of_ble_eq_true rfl) (sg_Fv_lowestTerm_0 ?_)
  obtain ⟨e1, e2⟩ := q_1shl ⟨ne, by omega⟩
  dsimp only at e1 e2
  rw [h59, e2, e1]
  have hA := q_loL (X := X) (M := M) (a := a) (N := 4 * ne) (w := w) (x1 := lN a) (l2 := none) ha (by omega) (4 * ne) 0 none none (by omega) ⟨a, by simp⟩
  rw [Nat.pow_zero, Nat.div_one, Nat.sub_zero] at hA
  exact hA
theorem q_pt0 {X : zX} {M : zM} {a b w x : Nat} {l1 l3 l6 l8 l9 l10 : Option Value} (ha : a < 2 ^ 62) (hb0 : 0 < b) (hb : b < 2 ^ 62) (hx : x < 2 ^ 62) (hg : Nat.gcd x 0 = Nat.gcd a b) : At X 152 6 [some (.long (lN a)), l1, some (.long (lN b)), l3, some (.int (nI w)), some (.long (lN x)), l6, some (.long (lN 0)), l8, l9, l10] [] M [.long (q_low a b w)] M := by
  rw [Nat.gcd_zero_right] at hg
  have hp : 0 < x := by rw [hg]; exact Nat.gcd_pos_of_pos_right a hb0
  refine sg_Mo_part_6 ⟨fun _ => ⟨fun c => ?_, ?_, rfl⟩, fun c => absurd ((lg_cmp_eq _ _).mpr rfl) c⟩
  · have := (pk_lEQ (b := 0) (by omega) (by omega)).mp c
    omega
  · unfold q_low
    rw [← hg]
    by_cases c : nI w = 0
    · rw [if_pos c, if_pos c, pk_lDiv (by omega) hp (by omega)]
    · rw [if_neg c, if_neg c, pk_lDiv (by omega) hp (by omega)]
theorem q_ptL {X : zX} {M : zM} {a b w : Nat} {l1 l3 : Option Value} (ha : a < 2 ^ 62) (hb0 : 0 < b) (hb : b < 2 ^ 62) : ∀ (n x y : Nat) (l6 l8 l9 l10 : Option Value), y ≤ n → x < 2 ^ 62 → y < 2 ^ 62 → Nat.gcd x y = Nat.gcd a b → At X 152 6 [some (.long (lN a)), l1, some (.long (lN b)), l3, some (.int (nI w)), some (.long (lN x)), l6, some (.long (lN y)), l8, l9, l10] [] M [.long (q_low a b w)] M := by
  intro n
  induction n with
  | zero =>
    intro x y l6 l8 l9 l10 hy hx hy2 hg
    have hy : y = 0 := by omega
    subst hy
    exact q_pt0 ha hb0 hb hx hg
  | succ n ih =>
    intro x y l6 l8 l9 l10 hy hx hy2 hg
    by_cases c : y = 0
    · subst c
      exact q_pt0 ha hb0 hb hx hg
    · have hm : x % y < y := Nat.mod_lt _ (by omega)
      have n0 : ¬ lN y = lN 0 := fun q => c ((pk_lEQ (b := 0) (by omega) (by omega)).mp q)
      refine sg_Mo_part_6 ⟨fun q => absurd ((lg_cmp_eq _ _).mp q) n0, fun _ => ⟨n0, ?_⟩⟩
      rw [pk_lRem (by omega) (by omega) (by omega)]
      exact ih y (x % y) none none (some (.long (lN (x % y)))) none (by omega) hy2 (by omega) (by rw [← hg, Nat.gcd_comm x y, Nat.gcd_rec y x, Nat.gcd_comm])
theorem c_Mo_part {X : zX} {M : zM} {a b w : Nat} (ha : a < 2 ^ 62) (hb0 : 0 < b) (hb : b < 2 ^ 62) : Call X 152 [.long (lN a), .long (lN b), .int (nI w)] M [.long (q_low a b w)] M :=
  Call.of (Nat.le_of_ble_eq_true rfl) (sg_Mo_part_0 (q_ptL ha hb0 hb b a b none none none none (Nat.le_refl _) ha hb rfl))
/-! the weights -/
def q_pw (c h : Nat) : Nat → Nat
  | 0 => 1
  | k + 1 => q_pw c h k * (if h ≤ k then 16 - c else c)
def q_pm (c g : Nat) : Nat → Nat
  | 0 => 1
  | j + 1 => q_pm c g j * (if g.testBit j = true then 16 - c else c)
theorem q_pw_le {c h : Nat} (hc : c ≤ 16) : ∀ k, q_pw c h k ≤ 16 ^ k
  | 0 => by simp [q_pw]
  | k + 1 => by
    rw [q_pw, Nat.pow_succ]
    exact Nat.mul_le_mul (q_pw_le hc k) (by split <;> omega)
theorem q_pw_e (c h : Nat) : ∀ n, q_pw c h n = c ^ (min h n) * (16 - c) ^ (n - h)
  | 0 => by simp [q_pw]
  | n + 1 => by
    rw [q_pw, q_pw_e c h n]
    by_cases e : h ≤ n
    · rw [if_pos e, show min h (n + 1) = min h n by omega, show n + 1 - h = n - h + 1 by omega, Nat.pow_succ, Nat.mul_assoc]
    · rw [if_neg e, show min h (n + 1) = min h n + 1 by omega, show n + 1 - h = n - h by omega, Nat.pow_succ, Nat.mul_right_comm]
theorem q_pm_e (c g : Nat) : ∀ n, q_pm c g n = c ^ (n - q_cnt g.testBit n) * (16 - c) ^ (q_cnt g.testBit n)
  | 0 => by simp [q_pm, q_cnt]
  | n + 1 => by
    have hl := q_cnt_le g.testBit n
    rw [q_pm, q_pm_e c g n, q_cnt]
    cases e : g.testBit n with
    | true => rw [if_pos rfl, show q_b true = 1 from rfl, show n + 1 - (q_cnt g.testBit n + 1) = n - q_cnt g.testBit n by omega, Nat.pow_succ, Nat.mul_assoc]
    | false => rw [if_neg (by decide), show q_b false = 0 from rfl, show q_cnt g.testBit n + 0 = q_cnt g.testBit n from rfl, show n + 1 - q_cnt g.testBit n = n - q_cnt g.testBit n + 1 by omega, Nat.pow_succ, Nat.mul_right_comm]
theorem q_cnt_not (f : Nat → Bool) : ∀ n, q_cnt (fun i => !f i) n + q_cnt f n = n
  | 0 => rfl
  | n + 1 => by
    have := q_cnt_not f n
    rw [q_cnt, q_cnt]
    cases f n <;> simp [q_b] <;> omega
theorem q_tbc {ne g : Nat} (hg : g < 2 ^ ne) (i : Nat) : (2 ^ ne - 1 - g).testBit i = (decide (i < ne) && !g.testBit i) := by
  rw [show 2 ^ ne - 1 - g = 2 ^ ne - (g + 1) by omega, Nat.testBit_two_pow_sub_succ hg]
theorem q_pm_pw {c ne g : Nat} (hne : ne ≤ 8) (hg : g < 2 ^ ne) : q_pm c g ne = q_pw c (q_cnt (2 ^ ne - 1 - g).testBit 12) ne := by
  have e1 : q_cnt (2 ^ ne - 1 - g).testBit 12 = q_cnt (fun i => !g.testBit i) ne := by
    have e := q_cnt_ext (fun i => !g.testBit i) ne (12 - ne)
    rw [show ne + (12 - ne) = 12 by omega] at e
    rw [← e]
    exact q_cnt_cg 12 (fun i _ => q_tbc hg i)
  have e2 := q_cnt_not g.testBit ne
  rw [q_pm_e, q_pw_e, e1, show min (q_cnt (fun i => !g.testBit i) ne) ne = ne - q_cnt g.testBit ne by omega, show ne - q_cnt (fun i => !g.testBit i) ne = q_cnt g.testBit ne by omega]
theorem q_sum_cg {f g : Nat → Nat} : ∀ n, (∀ i, i < n → f i = g i) → q_sum f n = q_sum g n
  | 0, _ => rfl
  | n + 1, h => by rw [q_sum, q_sum, q_sum_cg n (fun i hi => h i (by omega)), h n (by omega)]
theorem q_sum_hd (f : Nat → Nat) : ∀ n, q_sum f (n + 1) = f 0 + q_sum (fun i => f (i + 1)) n
  | 0 => by simp [q_sum]
  | n + 1 => by rw [q_sum, q_sum_hd f n, q_sum]; omega
theorem q_sum_rv (f : Nat → Nat) : ∀ n, q_sum (fun k => f (n - 1 - k)) n = q_sum f n
  | 0 => rfl
  | n + 1 => by
    rw [q_sum_hd, q_sum, ← q_sum_rv f n]
    rw [show n + 1 - 1 - 0 = n by omega, q_sum_cg (f := fun i => f (n + 1 - 1 - (i + 1))) (g := fun k => f (n - 1 - k)) n (fun i hi => by rw [show n + 1 - 1 - (i + 1) = n - 1 - i by omega])]
    omega
theorem q_sum_le {f : Nat → Nat} {B : Nat} (h : ∀ i, f i ≤ B) : ∀ n, q_sum f n ≤ n * B
  | 0 => by simp [q_sum]
  | n + 1 => by
    have := q_sum_le h n
    have := h n
    rw [q_sum, Nat.succ_mul]
    omega
theorem q_16c {c : Nat} (hc : c ≤ 16) {b : Prop} [Decidable b] : (if b then (((16 : Int32) - nI c).toInt64) else ((nI c).toInt64)) = lN (if b then 16 - c else c) := by
  have e : (16 : Int32) - nI c = nI (16 - c) := pk_sub (a := 16) hc
  rw [e, nI_l (by omega), nI_l (by omega)]
  split <;> rfl
theorem q_weL {X : zX} {M : zM} {c h ne : Nat} (hc : c ≤ 16) (hh : h ≤ 100) (hne : ne ≤ 8) (h59 : M 5 9 = nI ne) : ∀ (d k : Nat) (l4 : Option Value), k + d = ne → At X 58 5 [some (.ref 0), some (.int (nI c)), some (.int (nI h)), some (.long (lN (q_pw c h k))), l4, some (.int (nI k))] [] M [.long (lN (q_pw c h ne))] M := by
  intro d
  induction d with
  | zero =>
    intro k l4 hk
    have hk : k = ne := by omega
    subst hk
    exact sg_Fv_weightOf_5 ⟨fun _ => ⟨rfl, rfl⟩, fun c => absurd (by rw [h59]; exact Int32.le_refl _) c⟩
  | succ d ih =>
    intro k l4 hk
    refine sg_Fv_weightOf_5 ⟨fun c => absurd c (q_nle h59 (by omega) (by omega)), fun _ => ?_⟩
    have hA := ih (k + 1) none (by omega)
    have e : (if h ≤ k then 16 - c else c) = (if nI h ≤ nI k then 16 - c else c) := by
      by_cases g : h ≤ k
      · rw [if_pos g, if_pos ((q_le (by omega) (by omega)).mpr g)]
      · rw [if_neg g, if_neg (fun q => g ((q_le (by omega) (by omega)).mp q))]
    rw [q_pw, e] at hA
    rw [q_16c hc, lN_mul, show nI k + (1 : Int32) = nI (k + 1) from nI_1 k]
    exact hA
theorem c_Fv_weightOf {X : zX} {M : zM} {c h ne : Nat} (hc : c ≤ 16) (hh : h ≤ 100) (hne : ne ≤ 8) (h59 : M 5 9 = nI ne) : Call X 58 [.ref 0, .int (nI c), .int (nI h)] M [.long (lN (q_pw c h ne))] M :=
  Call.of (Nat.le_of_ble_eq_true rfl) (sg_Fv_weightOf_0 (q_weL hc hh hne h59 ne 0 none (by omega)))
