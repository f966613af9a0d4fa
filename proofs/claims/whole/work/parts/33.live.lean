/-! THE MEANING: who says what, what the fool does, what comes of it. I: 0 0 how many voters; 1 sort, 2 liking, 3 grudge of each; 4 who speaks at each place; 5 0 how many measures; 6 year, 7 traits of each; 8 0 what the fool likes, 8 1 his weight. E kind year voter: is it told. V: 0 liking, 1 grudge, 2 coats, 3 otherwise. O: 0 (8 * measure + voter) said; 1 ayes, 2 noes, 3 what the fool did, 4 passed, 5 decided -/
abbrev q_N : Type := Nat → Nat → Nat
abbrev q_E : Type := Nat → Nat → Nat → Bool
def q_pc (n : Nat) : Nat := ([0, 1, 1, 2, 1, 2, 2, 3] : List Nat).getD n 0
def q_for (liked traits : Nat) : Bool := Nat.blt (q_pc (traits &&& (7 - liked))) (q_pc (traits &&& liked))
def q_b (b : Bool) : Nat := match b with
  | true => 1
  | false => 0
def q_up (V : q_N) (a b w : Nat) : q_N := fun x y => if x = a ∧ y = b then w else V x y
def q_tr (I : q_N) (E : q_E) (m : Nat) : Nat := I 7 m ||| q_b (E 0 (I 6 m) 0)
/-- the word of v, by what was said last (2: nothing), by ayes and noes so far -/
def q_wd (I : q_N) (E : q_E) (V : q_N) (m v last a n : Nat) : Nat :=
  if E 2 (I 6 m) v = true then 2
  else if I 1 v = 1 ∧ last ≠ 2 then last
  else if I 1 v = 2 ∧ a ≠ n then q_b (Nat.blt n a)
  else q_b (q_for (V 0 v) (q_tr I E m))
/-- ayes, noes, what was said last, behind p places -/
def q_sp (I : q_N) (E : q_E) (V : q_N) (m : Nat) : Nat → Nat × Nat × Nat
  | 0 => (0, 0, 2)
  | p + 1 =>
    let s := q_sp I E V m p
    let w := q_wd I E V m (I 4 p) s.2.2 s.1 s.2.1
    if w = 2 then s else (s.1 + w, s.2.1 + (1 - w), w)
/-- who said what behind p places -/
def q_sd (I : q_N) (E : q_E) (V : q_N) (m : Nat) (f : Nat → Nat) : Nat → Nat → Nat
  | 0, v => f v
  | p + 1, v =>
    let s := q_sp I E V m p
    if v = I 4 p then q_wd I E V m (I 4 p) s.2.2 s.1 s.2.1 else q_sd I E V m f p v
def q_ay (I : q_N) (E : q_E) (V : q_N) (m : Nat) : Nat := (q_sp I E V m (I 0 0)).1
def q_no (I : q_N) (E : q_E) (V : q_N) (m : Nat) : Nat := (q_sp I E V m (I 0 0)).2.1
def q_ff (I : q_N) (E : q_E) (m : Nat) : Bool := q_for (I 8 0) (q_tr I E m)
def q_fd (I : q_N) (E : q_E) (m : Nat) : Nat := if E 1 (I 6 m) 0 = true then 2 else q_b (q_ff I E m)
def q_wt (I : q_N) (E : q_E) (m : Nat) : Nat := if E 1 (I 6 m) 0 = true then 0 else I 8 1
def q_ps (I : q_N) (E : q_E) (V : q_N) (m : Nat) : Bool := if q_ff I E m = true then Nat.blt (q_no I E V m) (q_ay I E V m + q_wt I E m) else Nat.blt (q_no I E V m + q_wt I E m) (q_ay I E V m)
def q_dc (I : q_N) (E : q_E) (V : q_N) (m : Nat) : Bool := q_ps I E V m != Nat.blt (q_no I E V m) (q_ay I E V m)
/-- what becomes of one who said w, when it came out as o -/
def q_rm (w o l g c t : Nat) : Nat × Nat × Nat × Nat :=
  if w = o then (l, 0, c, t)
  else if w = 2 then (l, g, c, t)
  else if g + 1 ≥ 3 then (7 - l, 0, c + 1, t + 1)
  else (l, g + 1, c, t + 1)
def q_V1 (I : q_N) (E : q_E) (V : q_N) (m : Nat) (v : Nat) : Nat × Nat × Nat × Nat := q_rm (q_sd I E V m (fun _ => 0) (I 0 0) v) (q_b (q_ps I E V m)) (V 0 v) (V 1 v) (V 2 v) (V 3 v)
def q_V (I : q_N) (E : q_E) (V : q_N) (m : Nat) : q_N := fun x v => if v < I 0 0 then (match x with
  | 0 => (q_V1 I E V m v).1
  | 1 => (q_V1 I E V m v).2.1
  | 2 => (q_V1 I E V m v).2.2.1
  | _ => (q_V1 I E V m v).2.2.2) else V x v
def q_O (I : q_N) (E : q_E) (V O : q_N) (m : Nat) : q_N := fun x j => match x with
  | 0 => if 8 * m ≤ j ∧ j < 8 * m + 8 then q_sd I E V m (fun _ => 0) (I 0 0) (j - 8 * m) else O 0 j
  | 1 => if j = m then q_ay I E V m else O 1 j
  | 2 => if j = m then q_no I E V m else O 2 j
  | 3 => if j = m then q_fd I E m else O 3 j
  | 4 => if j = m then q_b (q_ps I E V m) else O 4 j
  | 5 => if j = m then q_b (q_dc I E V m) else O 5 j
  | _ => O x j
def q_V0 (I : q_N) : q_N := fun x v => match x with
  | 0 => I 2 v
  | 1 => I 3 v
  | _ => 0
/-- measures in a row -/
def q_run (I : q_N) (E : q_E) : List Nat → q_N × q_N
  | [] => (q_V0 I, fun _ _ => 0)
  | m :: l => let s := q_run I E l; (q_V I E s.1 m, q_O I E s.1 s.2 m)
/-- the order of the years; the last first, as q_run takes them -/
def q_ord (I : q_N) : List Nat := (List.range 24).flatMap (fun y => (List.range (I 5 0)).filter (fun m => I 6 m == y))
def q_liv (I : q_N) (E : q_E) : q_N × q_N := q_run I E (q_ord I).reverse
/-- in bounds -/
def q_wf (I : q_N) : Prop := I 0 0 ≤ 8 ∧ (∀ v, v < I 0 0 → I 1 v < 3 ∧ I 2 v < 8 ∧ I 3 v < 3 ∧ I 4 v < I 0 0) ∧ (∀ v, v < I 0 0 → ∃ p, p < I 0 0 ∧ I 4 p = v) ∧ I 5 0 ≤ 12 ∧ (∀ m, m < I 5 0 → I 6 m < 24 ∧ I 7 m < 8) ∧ I 8 0 < 8 ∧ I 8 1 < 10
def q_wv (I V : q_N) : Prop := ∀ v, v < I 0 0 → V 0 v < 8 ∧ V 1 v < 3 ∧ V 2 v ≤ 12 ∧ V 3 v ≤ 12
theorem q_for_cl : ∀ (l t : Fin 8), f_Vo_isFor (nI l.val) (nI t.val) (fun _ _ => 0) = nI (q_b (q_for l.val t.val)) ∧ vp_in (((nI t.val &&& nI l.val) &&& (7 : Int32))) 8 ∧ vp_in ((nI t.val &&& (nI l.val ^^^ (-1 : Int32))) &&& (7 : Int32)) 8 := by
  unfold vp_in
  decide +kernel
theorem q_isFor {X : zX} {M : zM} {l t : Nat} (hl : l < 8) (ht : t < 8) : Call X 9 [.int (nI l), .int (nI t)] M [.int (nI (q_b (q_for l t)))] M := by
  have h := q_for_cl ⟨l, hl⟩ ⟨t, ht⟩
  have c := c_Vo_isFor (X := X) (M := M) (x0 := nI l) (x1 := nI t) ⟨h.2.1, h.2.2⟩
  have e : f_Vo_isFor (nI l) (nI t) M = nI (q_b (q_for l t)) := h.1
  rw [e] at c
  exact c
theorem q_b_lt (b : Bool) : q_b b < 2 := by cases b <;> decide
theorem q_wd_lt (I : q_N) (E : q_E) (V : q_N) (m v last a n : Nat) (h : last ≤ 2) : q_wd I E V m v last a n ≤ 2 := by
  unfold q_wd
  split
  · omega
  · split
    · exact h
    · split
      · have := q_b_lt (Nat.blt n a); omega
      · have := q_b_lt (q_for (V 0 v) (q_tr I E m)); omega
theorem q_sp_in (I : q_N) (E : q_E) (V : q_N) (m : Nat) : ∀ p, (q_sp I E V m p).1 + (q_sp I E V m p).2.1 ≤ p ∧ (q_sp I E V m p).2.2 ≤ 2
  | 0 => by simp [q_sp]
  | p + 1 => by
    have ih := q_sp_in I E V m p
    have hw := q_wd_lt I E V m (I 4 p) (q_sp I E V m p).2.2 (q_sp I E V m p).1 (q_sp I E V m p).2.1 ih.2
    simp only [q_sp]
    split
    · omega
    · simp only
      omega
theorem q_tr_lt {I : q_N} {E : q_E} {m : Nat} (h : I 7 m < 8) : q_tr I E m < 8 := by
  unfold q_tr
  have h1 := q_b_lt (E 0 (I 6 m) 0)
  exact Nat.or_lt_two_pow (n := 3) h (by omega)
