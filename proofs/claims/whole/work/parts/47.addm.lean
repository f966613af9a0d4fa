/-! ADDMEASURE: the turn is kept in the order of the years -/
def q_yr (Y : Nat → Nat) (n y : Nat) : List Nat := (List.range n).filter (fun m => Y m == y)
def q_ordn (Y : Nat → Nat) (n : Nat) : List Nat := (List.range 24).flatMap (q_yr Y n)
theorem q_ordn_eq (I : q_N) : q_ord I = q_ordn (I 6) (I 5 0) := rfl
theorem q_yr_s (Y : Nat → Nat) (n y : Nat) : q_yr Y (n + 1) y = q_yr Y n y ++ (if Y n = y then [n] else []) := by
  unfold q_yr
  rw [List.range_succ, List.filter_append]
  congr 1
  by_cases h : Y n = y <;> simp [h]
theorem q_fm_cg {f g : Nat → List Nat} : ∀ (l : List Nat), (∀ a, a ∈ l → f a = g a) → l.flatMap f = l.flatMap g
  | [], _ => rfl
  | a :: l, h => by
    rw [List.flatMap_cons, List.flatMap_cons, h a (by simp), q_fm_cg l (fun b hb => h b (by simp [hb]))]
theorem q_ordn_ins (Y : Nat → Nat) (n : Nat) (h : Y n < 24) : ∃ P Q, q_ordn Y n = P ++ Q ∧ q_ordn Y (n + 1) = P ++ n :: Q ∧ (∀ x, x ∈ P → Y x ≤ Y n) ∧ ∀ x, x ∈ Q → Y n < Y x := by
  have hr : List.range 24 = List.range (Y n) ++ (Y n :: (List.range (23 - Y n)).map (fun x => Y n + 1 + x)) := by
    have e : 24 = (Y n + 1) + (23 - Y n) := by omega
    have e2 : List.range 24 = List.range ((Y n + 1) + (23 - Y n)) := by rw [← e]
    rw [e2, List.range_add, List.range_succ, List.append_assoc]
    rfl
  refine ⟨(List.range (Y n)).flatMap (q_yr Y n) ++ q_yr Y n (Y n), ((List.range (23 - Y n)).map (fun x => Y n + 1 + x)).flatMap (q_yr Y n), ?_, ?_, ?_, ?_⟩
  · unfold q_ordn
    rw [hr, List.flatMap_append, List.flatMap_cons, List.append_assoc]
  · unfold q_ordn
    rw [hr, List.flatMap_append, List.flatMap_cons, q_yr_s, if_pos rfl, q_fm_cg (f := q_yr Y (n + 1)) (g := q_yr Y n) (List.range (Y n)), q_fm_cg (f := q_yr Y (n + 1)) (g := q_yr Y n) ((List.range (23 - Y n)).map (fun x => Y n + 1 + x))]
    · simp [List.append_assoc]
    · intro a ha
      rw [q_yr_s, if_neg, List.append_nil]
      intro e
      rw [← e] at ha
      simp at ha
      omega
    · intro a ha
      rw [q_yr_s, if_neg, List.append_nil]
      intro e
      rw [← e] at ha
      simp at ha
  · intro x hx
    rw [List.mem_append, List.mem_flatMap] at hx
    rcases hx with ⟨y, h1, h2⟩ | h2
    · simp [q_yr] at h1 h2
      omega
    · simp [q_yr] at h2
      omega
  · intro x hx
    rw [List.mem_flatMap] at hx
    obtain ⟨y, h1, h2⟩ := hx
    simp [q_yr] at h1 h2
    omega
theorem q_ordn_len (Y : Nat → Nat) : ∀ n, (∀ m, m < n → Y m < 24) → (q_ordn Y n).length = n
  | 0, _ => rfl
  | n + 1, h => by
    obtain ⟨P, Q, e1, e2, -⟩ := q_ordn_ins Y n (h n (by omega))
    have ih := q_ordn_len Y n (fun m hm => h m (by omega))
    rw [e1] at ih
    rw [e2]
    simp at ih ⊢
    omega
theorem q_ordn_lt (Y : Nat → Nat) (n x : Nat) (h : x ∈ q_ordn Y n) : x < n := by
  unfold q_ordn q_yr at h
  simp at h
  exact h.2
theorem q_m1s (n : Nat) (h : 1 ≤ n) : nI n + (-1 : Int32) = nI (n - 1) := by
  rw [show (-1 : Int32) = -(1 : Int32) from rfl, ← Int32.sub_eq_add_neg]
  exact pk_sub (b := 1) h
/-- n measures of a canton, in their turn -/
def q_cmn (M : zM) (c yr tr tu : Nat) (Y T : Nat → Nat) (n : Nat) : Prop := M c 5 = nI n ∧ (∀ m, m < n → M yr m = nI (Y m) ∧ M tr m = nI (T m)) ∧ ∀ j x, (q_ordn Y n)[j]? = some x → M tu j = nI x
theorem q_addML_t {X : zX} {M : zM} {Y T : Nat → Nat} {n : Nat} {P Q : List Nat} (hn : n < 12) (hY : ∀ m, m ≤ n → Y m < 24) (hm : ∀ m, m < n → M 10 m = nI (Y m) ∧ M 11 m = nI (T m)) (hc : M 5 5 = nI n) (hl : (P ++ Q).length = n) (hlt : ∀ x, x ∈ P ++ Q → x < n) (hP : ∀ x, x ∈ P → Y x ≤ Y n) (hQ : ∀ x, x ∈ Q → Y n < Y x) : ∀ (d t : Nat) (M1 : zM), t = P.length + d → t ≤ n → q_fr (fun a b => a = 12) M M1 → (∀ j x, j < t → (P ++ Q)[j]? = some x → M1 12 j = nI x) → (∀ j x, t ≤ j → (P ++ Q)[j]? = some x → M1 12 (j + 1) = nI x) → ∃ M', At X 6 15 [some (.ref 5), some (.int (nI (Y n))), some (.int (nI (T n))), some (.int (nI t))] [] M1 [] M' ∧ q_fr (fun a b => a = 12 ∨ a = 10 ∨ a = 11 ∨ (a = 5 ∧ b = 5)) M M' ∧ M' 5 5 = nI (n + 1) ∧ (∀ m, m < n + 1 → M' 10 m = nI (Y m) ∧ M' 11 m = nI (T m)) ∧ ∀ j x, (P ++ n :: Q)[j]? = some x → M' 12 j = nI x := by
  have hend : ∀ (M1 : zM), q_fr (fun a b => a = 12) M M1 → (∀ j x, j < P.length → (P ++ Q)[j]? = some x → M1 12 j = nI x) → (∀ j x, P.length ≤ j → (P ++ Q)[j]? = some x → M1 12 (j + 1) = nI x) → q_fr (fun a b => a = 12 ∨ a = 10 ∨ a = 11 ∨ (a = 5 ∧ b = 5)) M (zu (zu (zu (zu M1 12 P.length (nI n)) 10 n (nI (Y n))) 11 n (nI (T n))) 5 5 (nI (n + 1))) ∧ (zu (zu (zu (zu M1 12 P.length (nI n)) 10 n (nI (Y n))) 11 n (nI (T n))) 5 5 (nI (n + 1))) 5 5 = nI (n + 1) ∧ (∀ m, m < n + 1 → (zu (zu (zu (zu M1 12 P.length (nI n)) 10 n (nI (Y n))) 11 n (nI (T n))) 5 5 (nI (n + 1))) 10 m = nI (Y m) ∧ (zu (zu (zu (zu M1 12 P.length (nI n)) 10 n (nI (Y n))) 11 n (nI (T n))) 5 5 (nI (n + 1))) 11 m = nI (T m)) ∧ ∀ j x, (P ++ n :: Q)[j]? = some x → (zu (zu (zu (zu M1 12 P.length (nI n)) 10 n (nI (Y n))) 11 n (nI (T n))) 5 5 (nI (n + 1))) 12 j = nI x := by
    intro M1 hf h1 h2
    have hf' : ∀ a b, ¬ (a = 12) → M1 a b = M a b := hf
    refine ⟨?_, ?_, ?_, ?_⟩
    · intro a b hq
      simp only [zu_at]
      rw [if_neg (by omega), if_neg (by omega), if_neg (by omega), if_neg (by omega)]
      exact hf' a b (by omega)
    · simp only [zu_at]; simp
    · intro m hm'
      simp only [zu_at]
      by_cases e : m = n
      · subst e; simp
      · simp [e]
        rw [hf' _ _ (by omega), hf' _ _ (by omega)]
        exact hm m (by omega)
    · intro j x hj
      simp only [zu_at]
      rw [if_neg (by omega), if_neg (by omega), if_neg (by omega)]
      by_cases e : j < P.length
      · rw [if_neg (by omega)]
        rw [List.getElem?_append_left e] at hj
        exact h1 j x e (by rw [List.getElem?_append_left e]; exact hj)
      · by_cases e2 : j = P.length
        · subst e2
          simp only [and_self, if_true]
          rw [List.getElem?_append_right (Nat.le_refl _)] at hj
          simp at hj
          rw [hj]
        · rw [if_neg (by omega)]
          rw [List.getElem?_append_right (by omega)] at hj
          obtain ⟨i, rfl⟩ : ∃ i, j = i + 1 := ⟨j - 1, by omega⟩
          rw [show i + 1 - P.length = (i - P.length) + 1 by omega, List.getElem?_cons_succ] at hj
          exact h2 i x (by omega) (by rw [List.getElem?_append_right (by omega)]; exact hj)
  intro d
  induction d with
  | zero =>
    intro t M1 ht htn hf h1 h2
    have ht : t = P.length := by omega
    subst ht
    have hf' : ∀ a b, ¬ (a = 12) → M1 a b = M a b := hf
    have he := hend M1 hf h1 h2
    refine ⟨_, sg_Ca_addMeasure_t_15 ⟨fun _ => ?_, fun c => ?_⟩, he⟩
    · rw [show M1 5 5 = nI n from (hf' _ _ (by omega)).trans hc, q_cl (by omega), q_cl (by omega), show nI n + (1 : Int32) = nI (n + 1) from nI_1 n]
      exact ⟨q_in (by omega) (by omega), q_in (by omega) (by omega), q_in (by omega) (by omega), rfl, rfl⟩
    · have hp : 0 < P.length := by
        rcases Nat.eq_zero_or_pos P.length with z | z
        · exact absurd (show nI P.length ≤ 0 by rw [z]; decide) c
        · exact z
      rw [show nI P.length - (1 : Int32) = nI (P.length - 1) from pk_sub (b := 1) hp, q_cl (a := P.length - 1) (by omega)]
      obtain ⟨x, hx⟩ : ∃ x, (P ++ Q)[P.length - 1]? = some x := ⟨(P ++ Q)[P.length - 1]'(by omega), List.getElem?_eq_getElem (by omega)⟩
      have hxn := hlt x (List.mem_of_getElem? hx)
      rw [h1 _ x (by omega) hx, q_cl (by omega), hf' _ _ (by omega), (hm x hxn).1]
      have hxP : x ∈ P := by
        rw [List.getElem?_append_left (by omega)] at hx
        exact List.mem_of_getElem? hx
      refine ⟨q_in (by omega) (by omega), q_in (by omega) (by omega), fun _ => ?_, fun c2 => absurd ((q_le (by have := hY x (by omega); omega) (by have := hY n (by omega); omega)).mpr (hP x hxP)) c2⟩
      rw [show M1 5 5 = nI n from (hf' _ _ (by omega)).trans hc, q_cl (by omega), q_cl (by omega), show nI n + (1 : Int32) = nI (n + 1) from nI_1 n]
      exact ⟨q_in (by omega) (by omega), q_in (by omega) (by omega), q_in (by omega) (by omega), rfl, rfl⟩
  | succ d ih =>
    intro t M1 ht htn hf h1 h2
    have hf' : ∀ a b, ¬ (a = 12) → M1 a b = M a b := hf
    obtain ⟨x, hx⟩ : ∃ x, (P ++ Q)[t - 1]? = some x := ⟨(P ++ Q)[t - 1]'(by omega), List.getElem?_eq_getElem (by omega)⟩
    have hxn := hlt x (List.mem_of_getElem? hx)
    have hxQ : x ∈ Q := by
      rw [List.getElem?_append_right (by omega)] at hx
      exact List.mem_of_getElem? hx
    obtain ⟨M', hA, hZ⟩ := ih (t - 1) (zu M1 12 t (nI x)) (by omega) (by omega) (fun a b hq => by
      rw [zu_at, if_neg (fun q => hq q.1)]; exact hf' a b hq) (fun j y hj hy => by
      rw [zu_at, if_neg (by omega)]; exact h1 j y (by omega) hy) (fun j y hj hy => by
      rw [zu_at]
      by_cases e : j + 1 = t
      · rw [if_pos ⟨rfl, e⟩]
        have : j = t - 1 := by omega
        subst this
        rw [hx] at hy
        cases hy
        rfl
      · rw [if_neg (by omega)]
        exact h2 j y (by omega) hy)
    refine ⟨M', sg_Ca_addMeasure_t_15 ⟨fun c => absurd ((q_le (b := 0) (by omega) (by omega)).mp c) (by omega), fun c => ?_⟩, hZ⟩
    rw [show nI t - (1 : Int32) = nI (t - 1) from pk_sub (b := 1) (by omega), q_cl (a := t - 1) (by omega)]
    rw [h1 _ x (by omega) hx, q_cl (by omega), hf' _ _ (by omega), (hm x hxn).1]
    refine ⟨q_in (by omega) (by omega), q_in (by omega) (by omega), fun c2 => absurd ((q_le (by have := hY x (by omega); omega) (by have := hY n (by omega); omega)).mp c2) (by have := hQ x hxQ; omega), fun c2 => ⟨q_in (by omega) (by omega), q_in (by omega) (by omega), ?_⟩⟩
    rw [q_cl (by omega), show nI t + (-1 : Int32) = nI (t - 1) from q_m1s t (by omega)]
    exact hA
/-- ADDMEASURE -/
theorem c_Ca_addMeasure_t {X : zX} {M : zM} {Y T : Nat → Nat} {n : Nat} (hn : n < 12) (hY : ∀ m, m ≤ n → Y m < 24) (h : q_cmn M 5 10 11 12 Y T n) : ∃ M', Call X 6 [.ref 5, .int (nI (Y n)), .int (nI (T n))] M [] M' ∧ q_fr (fun a b => a = 12 ∨ a = 10 ∨ a = 11 ∨ (a = 5 ∧ b = 5)) M M' ∧ q_cmn M' 5 10 11 12 Y T (n + 1) := by
  obtain ⟨h1, h2, h3⟩ := h
  obtain ⟨P, Q, e1, e2, hP, hQ⟩ := q_ordn_ins Y n (hY n (by omega))
  rw [e1] at h3
  have hl : (P ++ Q).length = n := by rw [← e1]; exact q_ordn_len Y n (fun m hm => hY m (by omega))
  have hlP : P.length ≤ n := by rw [List.length_append] at hl; omega
  obtain ⟨M', hA, hf, hZ1, hZ2, hZ3⟩ := q_addML_t (X := X) (M := M) (T := T) hn hY h2 h1 hl (fun x hx => q_ordn_lt Y n x (by rw [e1]; exact hx)) hP hQ (n - P.length) n M (by omega) (by omega) q_fr_rf (fun j x _ hx => h3 j x hx) (fun j x hj hx => by
    have := (List.getElem?_eq_some_iff.mp hx).1
    omega)
  refine ⟨M', Call.of (Nat.le_of_ble_eq_true rfl) (sg_Ca_addMeasure_t_0 ⟨fun _ => ?_, fun c => absurd (show M 5 5 < 12 by rw [h1]; exact (q_lt (b := 12) (by omega) (by omega)).mpr hn) c⟩), hf, hZ1, hZ2, by rw [e2]; exact hZ3⟩
  rw [h1]
  exact hA
theorem q_addML_r {X : zX} {M : zM} {Y T : Nat → Nat} {n : Nat} {P Q : List Nat} (hn : n < 12) (hY : ∀ m, m ≤ n → Y m < 24) (hm : ∀ m, m < n → M 30 m = nI (Y m) ∧ M 31 m = nI (T m)) (hc : M 25 5 = nI n) (hl : (P ++ Q).length = n) (hlt : ∀ x, x ∈ P ++ Q → x < n) (hP : ∀ x, x ∈ P → Y x ≤ Y n) (hQ : ∀ x, x ∈ Q → Y n < Y x) : ∀ (d t : Nat) (M1 : zM), t = P.length + d → t ≤ n → q_fr (fun a b => a = 32) M M1 → (∀ j x, j < t → (P ++ Q)[j]? = some x → M1 32 j = nI x) → (∀ j x, t ≤ j → (P ++ Q)[j]? = some x → M1 32 (j + 1) = nI x) → ∃ M', At X 6 15 [some (.ref 25), some (.int (nI (Y n))), some (.int (nI (T n))), some (.int (nI t))] [] M1 [] M' ∧ q_fr (fun a b => a = 32 ∨ a = 30 ∨ a = 31 ∨ (a = 25 ∧ b = 5)) M M' ∧ M' 25 5 = nI (n + 1) ∧ (∀ m, m < n + 1 → M' 30 m = nI (Y m) ∧ M' 31 m = nI (T m)) ∧ ∀ j x, (P ++ n :: Q)[j]? = some x → M' 32 j = nI x := by
  have hend : ∀ (M1 : zM), q_fr (fun a b => a = 32) M M1 → (∀ j x, j < P.length → (P ++ Q)[j]? = some x → M1 32 j = nI x) → (∀ j x, P.length ≤ j → (P ++ Q)[j]? = some x → M1 32 (j + 1) = nI x) → q_fr (fun a b => a = 32 ∨ a = 30 ∨ a = 31 ∨ (a = 25 ∧ b = 5)) M (zu (zu (zu (zu M1 32 P.length (nI n)) 30 n (nI (Y n))) 31 n (nI (T n))) 25 5 (nI (n + 1))) ∧ (zu (zu (zu (zu M1 32 P.length (nI n)) 30 n (nI (Y n))) 31 n (nI (T n))) 25 5 (nI (n + 1))) 25 5 = nI (n + 1) ∧ (∀ m, m < n + 1 → (zu (zu (zu (zu M1 32 P.length (nI n)) 30 n (nI (Y n))) 31 n (nI (T n))) 25 5 (nI (n + 1))) 30 m = nI (Y m) ∧ (zu (zu (zu (zu M1 32 P.length (nI n)) 30 n (nI (Y n))) 31 n (nI (T n))) 25 5 (nI (n + 1))) 31 m = nI (T m)) ∧ ∀ j x, (P ++ n :: Q)[j]? = some x → (zu (zu (zu (zu M1 32 P.length (nI n)) 30 n (nI (Y n))) 31 n (nI (T n))) 25 5 (nI (n + 1))) 32 j = nI x := by
    intro M1 hf h1 h2
    have hf' : ∀ a b, ¬ (a = 32) → M1 a b = M a b := hf
    refine ⟨?_, ?_, ?_, ?_⟩
    · intro a b hq
      simp only [zu_at]
      rw [if_neg (by omega), if_neg (by omega), if_neg (by omega), if_neg (by omega)]
      exact hf' a b (by omega)
    · simp only [zu_at]; simp
    · intro m hm'
      simp only [zu_at]
      by_cases e : m = n
      · subst e; simp
      · simp [e]
        rw [hf' _ _ (by omega), hf' _ _ (by omega)]
        exact hm m (by omega)
    · intro j x hj
      simp only [zu_at]
      rw [if_neg (by omega), if_neg (by omega), if_neg (by omega)]
      by_cases e : j < P.length
      · rw [if_neg (by omega)]
        rw [List.getElem?_append_left e] at hj
        exact h1 j x e (by rw [List.getElem?_append_left e]; exact hj)
      · by_cases e2 : j = P.length
        · subst e2
          simp only [and_self, if_true]
          rw [List.getElem?_append_right (Nat.le_refl _)] at hj
          simp at hj
          rw [hj]
        · rw [if_neg (by omega)]
          rw [List.getElem?_append_right (by omega)] at hj
          obtain ⟨i, rfl⟩ : ∃ i, j = i + 1 := ⟨j - 1, by omega⟩
          rw [show i + 1 - P.length = (i - P.length) + 1 by omega, List.getElem?_cons_succ] at hj
          exact h2 i x (by omega) (by rw [List.getElem?_append_right (by omega)]; exact hj)
  intro d
  induction d with
  | zero =>
    intro t M1 ht htn hf h1 h2
    have ht : t = P.length := by omega
    subst ht
    have hf' : ∀ a b, ¬ (a = 32) → M1 a b = M a b := hf
    have he := hend M1 hf h1 h2
    refine ⟨_, sg_Ca_addMeasure_r_15 ⟨fun _ => ?_, fun c => ?_⟩, he⟩
    · rw [show M1 25 5 = nI n from (hf' _ _ (by omega)).trans hc, q_cl (by omega), q_cl (by omega), show nI n + (1 : Int32) = nI (n + 1) from nI_1 n]
      exact ⟨q_in (by omega) (by omega), q_in (by omega) (by omega), q_in (by omega) (by omega), rfl, rfl⟩
    · have hp : 0 < P.length := by
        rcases Nat.eq_zero_or_pos P.length with z | z
        · exact absurd (show nI P.length ≤ 0 by rw [z]; decide) c
        · exact z
      rw [show nI P.length - (1 : Int32) = nI (P.length - 1) from pk_sub (b := 1) hp, q_cl (a := P.length - 1) (by omega)]
      obtain ⟨x, hx⟩ : ∃ x, (P ++ Q)[P.length - 1]? = some x := ⟨(P ++ Q)[P.length - 1]'(by omega), List.getElem?_eq_getElem (by omega)⟩
      have hxn := hlt x (List.mem_of_getElem? hx)
      rw [h1 _ x (by omega) hx, q_cl (by omega), hf' _ _ (by omega), (hm x hxn).1]
      have hxP : x ∈ P := by
        rw [List.getElem?_append_left (by omega)] at hx
        exact List.mem_of_getElem? hx
      refine ⟨q_in (by omega) (by omega), q_in (by omega) (by omega), fun _ => ?_, fun c2 => absurd ((q_le (by have := hY x (by omega); omega) (by have := hY n (by omega); omega)).mpr (hP x hxP)) c2⟩
      rw [show M1 25 5 = nI n from (hf' _ _ (by omega)).trans hc, q_cl (by omega), q_cl (by omega), show nI n + (1 : Int32) = nI (n + 1) from nI_1 n]
      exact ⟨q_in (by omega) (by omega), q_in (by omega) (by omega), q_in (by omega) (by omega), rfl, rfl⟩
  | succ d ih =>
    intro t M1 ht htn hf h1 h2
    have hf' : ∀ a b, ¬ (a = 32) → M1 a b = M a b := hf
    obtain ⟨x, hx⟩ : ∃ x, (P ++ Q)[t - 1]? = some x := ⟨(P ++ Q)[t - 1]'(by omega), List.getElem?_eq_getElem (by omega)⟩
    have hxn := hlt x (List.mem_of_getElem? hx)
    have hxQ : x ∈ Q := by
      rw [List.getElem?_append_right (by omega)] at hx
      exact List.mem_of_getElem? hx
    obtain ⟨M', hA, hZ⟩ := ih (t - 1) (zu M1 32 t (nI x)) (by omega) (by omega) (fun a b hq => by
      rw [zu_at, if_neg (fun q => hq q.1)]; exact hf' a b hq) (fun j y hj hy => by
      rw [zu_at, if_neg (by omega)]; exact h1 j y (by omega) hy) (fun j y hj hy => by
      rw [zu_at]
      by_cases e : j + 1 = t
      · rw [if_pos ⟨rfl, e⟩]
        have : j = t - 1 := by omega
        subst this
        rw [hx] at hy
        cases hy
        rfl
      · rw [if_neg (by omega)]
        exact h2 j y (by omega) hy)
    refine ⟨M', sg_Ca_addMeasure_r_15 ⟨fun c => absurd ((q_le (b := 0) (by omega) (by omega)).mp c) (by omega), fun c => ?_⟩, hZ⟩
    rw [show nI t - (1 : Int32) = nI (t - 1) from pk_sub (b := 1) (by omega), q_cl (a := t - 1) (by omega)]
    rw [h1 _ x (by omega) hx, q_cl (by omega), hf' _ _ (by omega), (hm x hxn).1]
    refine ⟨q_in (by omega) (by omega), q_in (by omega) (by omega), fun c2 => absurd ((q_le (by have := hY x (by omega); omega) (by have := hY n (by omega); omega)).mp c2) (by have := hQ x hxQ; omega), fun c2 => ⟨q_in (by omega) (by omega), q_in (by omega) (by omega), ?_⟩⟩
    rw [q_cl (by omega), show nI t + (-1 : Int32) = nI (t - 1) from q_m1s t (by omega)]
    exact hA
/-- ADDMEASURE -/
theorem c_Ca_addMeasure_r {X : zX} {M : zM} {Y T : Nat → Nat} {n : Nat} (hn : n < 12) (hY : ∀ m, m ≤ n → Y m < 24) (h : q_cmn M 25 30 31 32 Y T n) : ∃ M', Call X 6 [.ref 25, .int (nI (Y n)), .int (nI (T n))] M [] M' ∧ q_fr (fun a b => a = 32 ∨ a = 30 ∨ a = 31 ∨ (a = 25 ∧ b = 5)) M M' ∧ q_cmn M' 25 30 31 32 Y T (n + 1) := by
  obtain ⟨h1, h2, h3⟩ := h
  obtain ⟨P, Q, e1, e2, hP, hQ⟩ := q_ordn_ins Y n (hY n (by omega))
  rw [e1] at h3
  have hl : (P ++ Q).length = n := by rw [← e1]; exact q_ordn_len Y n (fun m hm => hY m (by omega))
  have hlP : P.length ≤ n := by rw [List.length_append] at hl; omega
  obtain ⟨M', hA, hf, hZ1, hZ2, hZ3⟩ := q_addML_r (X := X) (M := M) (T := T) hn hY h2 h1 hl (fun x hx => q_ordn_lt Y n x (by rw [e1]; exact hx)) hP hQ (n - P.length) n M (by omega) (by omega) q_fr_rf (fun j x _ hx => h3 j x hx) (fun j x hj hx => by
    have := (List.getElem?_eq_some_iff.mp hx).1
    omega)
  refine ⟨M', Call.of (Nat.le_of_ble_eq_true rfl) (sg_Ca_addMeasure_r_0 ⟨fun _ => ?_, fun c => absurd (show M 25 5 < 12 by rw [h1]; exact (q_lt (b := 12) (by omega) (by omega)).mpr hn) c⟩), hf, hZ1, hZ2, by rw [e2]; exact hZ3⟩
  rw [h1]
  exact hA
