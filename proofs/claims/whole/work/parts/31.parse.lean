/-! SMALL NUMBERS -/
theorem q_lit (n : Nat) : (OfNat.ofNat n : Int32) = nI n := rfl
theorem q_m1 : (-1 : Int32) = Int32.ofInt (-1) := by decide
theorem q_le {a b : Nat} (ha : a < 100000) (hb : b < 100000) : nI a ≤ nI b ↔ a ≤ b := nI_leI (by omega) (by omega)
theorem q_lt {a b : Nat} (ha : a < 100000) (hb : b < 100000) : nI a < nI b ↔ a < b := nI_ltI (by omega) (by omega)
theorem q_eq {a b : Nat} (ha : a < 100000) (hb : b < 100000) : nI a = nI b ↔ a = b := nI_eq (by omega) (by omega)
theorem q_cl {a : Nat} (ha : a < 100000) : (nI a).toNatClampNeg = a := nI_clamp (by omega)
theorem q_in {a n : Nat} (h : a < n) (hn : n < 100000) : vp_in (nI a) n := vp_in_nI h (by omega)
theorem q_rem {a d : Nat} (ha : a < 100000) (h0 : 0 < d) (hd : d < 100000) : nI a - nI a / nI d * nI d = nI (a % d) := pk_rem (by omega) h0 (by omega)
theorem q_div {a d : Nat} (ha : a < 100000) (h0 : 0 < d) (hd : d < 100000) : nI a / nI d = nI (a / d) := pk_div (by omega) h0 (by omega)
/-- the memory outside D is as it was -/
def q_fr (D : Nat → Nat → Prop) (M M' : zM) : Prop := ∀ a b, ¬ D a b → M' a b = M a b
theorem q_fr_rf {D : Nat → Nat → Prop} {M : zM} : q_fr D M M := fun _ _ _ => rfl
theorem q_fr_tr {D : Nat → Nat → Prop} {M M1 M2 : zM} (h1 : q_fr D M M1) (h2 : q_fr D M1 M2) : q_fr D M M2 := fun a b h => (h2 a b h).trans (h1 a b h)
theorem q_fr_mono {D E : Nat → Nat → Prop} {M M1 : zM} (h : q_fr D M M1) (hD : ∀ a b, D a b → E a b) : q_fr E M M1 := fun a b hn => h a b (fun q => hn (hD a b q))
theorem zu_at {M : zM} {k i a b : Nat} {v : Int32} : zu M k i v a b = if a = k ∧ b = i then v else M a b := by
  unfold zu upd
  by_cases ha : a = k
  · subst ha
    by_cases hb : b = i <;> simp [hb]
  · simp [ha]
theorem q_fr_zu {D : Nat → Nat → Prop} {M M1 : zM} {k i : Nat} {v : Int32} (h : q_fr D M M1) (hD : D k i) : q_fr D M (zu M1 k i v) := by
  intro a b hn
  rw [zu_at, if_neg (fun q => hn (by rw [q.1, q.2]; exact hD))]
  exact h a b hn
/-! THE TEXTS -/
def q_ok (t p b : Nat) : Bool := match t with
  | 0 => match p with
    | 0 => b == 115 || b == 119 || b == 109
    | 1 => Nat.ble 48 b && Nat.ble b 55
    | 2 => Nat.ble 48 b && Nat.ble b 50
    | _ => b == 59
  | _ => match p with
    | 0 => Nat.ble 97 b && Nat.ble b 120
    | 1 => Nat.ble 48 b && Nat.ble b 55
    | _ => b == 59
def q_val (t p b : Nat) : Nat := match t with
  | 0 => match p with
    | 0 => if b = 115 then 0 else if b = 119 then 1 else 2
    | 3 => 0
    | _ => b - 48
  | _ => match p with
    | 0 => b - 97
    | 1 => b - 48
    | _ => 0
def q_w (t : Nat) : Nat := if t = 0 then 4 else 3
def q_fl (t n : Nat) (b : Nat → Nat) : Nat → Nat → Int32
  | 0, _ => if n = 0 ∨ n % q_w t = q_w t - 1 then -1 else nI n
  | d + 1, i => if q_ok t (i % q_w t) (b i) = true then q_fl t n b d (i + 1) else nI i
theorem q_fitsV (M : zM) : ∀ (p : Fin 4) (b : Fin 256), f_Fv_fitsVoter (nI p.val) (nI b.val) M = if q_ok 0 p.val b.val = true then 1 else 0 := by
  have e : ∀ x y, f_Fv_fitsVoter x y M = f_Fv_fitsVoter x y (fun _ _ => 0) := fun _ _ => rfl
  simp only [e]
  decide +kernel
theorem q_fitsM (M : zM) : ∀ (p : Fin 3) (b : Fin 256), f_Fv_fitsMeasure (nI p.val) (nI b.val) M = if q_ok 1 p.val b.val = true then 1 else 0 := by
  have e : ∀ x y, f_Fv_fitsMeasure x y M = f_Fv_fitsMeasure x y (fun _ _ => 0) := fun _ _ => rfl
  simp only [e]
  decide +kernel
theorem q_voterOf (M : zM) : ∀ (p : Fin 4) (b : Fin 256), f_Mo_voterOf (nI p.val) (nI b.val) M = if q_ok 0 p.val b.val = true then nI (q_val 0 p.val b.val) else -9 := by
  have e : ∀ x y, f_Mo_voterOf x y M = f_Mo_voterOf x y (fun _ _ => 0) := fun _ _ => rfl
  simp only [e]
  decide +kernel
theorem q_measureOf (M : zM) : ∀ (p : Fin 3) (b : Fin 256), f_Mo_measureOf (nI p.val) (nI b.val) M = if q_ok 1 p.val b.val = true then nI (q_val 1 p.val b.val) else -9 := by
  have e : ∀ x y, f_Mo_measureOf x y M = f_Mo_measureOf x y (fun _ _ => 0) := fun _ _ => rfl
  simp only [e]
  decide +kernel
theorem q_val_lt : ∀ (t : Fin 2) (p : Fin 4) (b : Fin 256), q_ok t.val p.val b.val = true → q_val t.val p.val b.val < 24 ∧ (p.val = 1 → q_val t.val p.val b.val < 8) ∧ (t.val = 0 → p.val = 2 → q_val t.val p.val b.val < 3) ∧ (t.val = 0 → p.val = 0 → q_val t.val p.val b.val < 3) := by decide +kernel
