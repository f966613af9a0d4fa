section ST2
variable {X : zX} {k pc : Nat} {L : List (Option Value)} {S : List Value} {M M' : zM} {res : List Value}
theorem zl_Fs {n x : Nat} (hm : zl_F.any (fun q => decide (q.1 = hO k ∧ q.2.1 = x ∧ q.2.2.1 = n / 64 ∧ q.2.2.2.1 = n % 64)) = true) : Cond.fieldLink (zn_c (hO k)) x (zl_Fc (n / 64)).1 ((zl_Fc (n / 64)).2.1 (n % 64)).2.1 ((zl_Fc (n / 64)).2.1 (n % 64)).2.2.1 ∈ zt_G ∧ n % 64 < (zl_Fc (n / 64)).2.2 ∧ n / 64 < 6 ∧ ((zl_Fc (n / 64)).2.1 (n % 64)).1 = (zl_Fc (n / 64)).1 := by
  obtain ⟨q, hq, hm⟩ := List.any_eq_true.mp hm
  obtain ⟨e1, e2, e3, e4⟩ := of_decide_eq_true hm
  obtain ⟨h1, h2, h3, h4⟩ := zl_Fok q hq
  have h1 := zt_in _ h1 rfl
  rw [e1, e2, e3, e4] at h1
  rw [e3, e4] at h2 h4
  rw [e3] at h3
  exact ⟨h1, h2, h3, h4⟩
theorem st_getfield {n x r : Nat} {o : Nat × List (Option Nat)} {f : Option Nat} (hm : zl_F.any (fun q => decide (q.1 = hO k ∧ q.2.1 = x ∧ q.2.2.1 = n / 64 ∧ q.2.2.2.1 = n % 64)) = true) (hd : decode (hB k) pc = .ok (.getfield x, 3)) (hs : zs_sh[r]? = some (.inr o)) (ho : o.1 = n / 64) (hf : o.2[n % 64]? = some f)
    (h : At X k (pc + 3) L (zs_val M r (n % 64) f :: S) M res M') : At X k pc L (.ref r :: S) M res M' := by
  intro p e s m args below meth c H locs ls hz hP hS hL
  obtain ⟨h1, h2, h3, h4⟩ := zl_Fs hm
  have he := zs_at (X := X) (M := M) hs
  simp only [zs_cell] at he
  refine va_get hz.1 hz.2.1 hz.2.2.2.2.2.2.1 (fun w hw => (zG_in (zI_all (n / 64) h3 w hw)).1) hz.2.2.2.2.2.1 hz.2.2.2.2.2.2.2.1 hP r he (by rw [ho]; exact zc_at (n / 64) h3) (n % 64) h2 (zG_before hz.2.2.2.2.2.2.1 h1) (fun y hy => by rw [← h4]; exact hy) (v := zv X (zs_val M r (n % 64) f)) ?_ hd (h p e s m args below meth c H locs ls hz hP hS hL)
  rw [List.getElem?_mapIdx, hf]
  rfl
theorem st_putfield {n x r : Nat} {o : Nat × List (Option Nat)} {v : Int32} (hm : zl_F.any (fun q => decide (q.1 = hO k ∧ q.2.1 = x ∧ q.2.2.1 = n / 64 ∧ q.2.2.2.1 = n % 64)) = true) (hd : decode (hB k) pc = .ok (.putfield x, 3)) (hs : zs_sh[r]? = some (.inr o)) (ho : o.1 = n / 64) (hf : o.2[n % 64]? = some none)
    (hfin : ((zl_Fc (n / 64)).2.1 (n % 64)).2.2.2 = false) (hty : parseFieldDescriptor ((zl_Fc (n / 64)).2.1 (n % 64)).2.2.1 = some (if zs_isZ (n / 64) (n % 64) = true then .boolean else .int)) (hv : zs_isZ (n / 64) (n % 64) = true → v = 0 ∨ v = 1)
    (h : At X k (pc + 3) L S (zu M r (n % 64) v) res M') : At X k pc L (.int v :: .ref r :: S) M res M' := by
  intro p e s m args below meth c H locs ls hz hP hS hL
  obtain ⟨h1, h2, h3, h4⟩ := zl_Fs hm
  have he := zs_at (X := X) (M := M) hs
  simp only [zs_cell] at he
  have hl : n % 64 < o.2.length := (List.getElem?_eq_some_iff.mp hf).1
  have hnf : narrow (if zs_isZ (n / 64) (n % 64) = true then .boolean else .int) (.int v) = .int v ∧ fits (if zs_isZ (n / 64) (n % 64) = true then .boolean else .int) (.int v) = true := by
    by_cases hz0 : zs_isZ (n / 64) (n % 64) = true
    · rw [if_pos hz0]
      rcases hv hz0 with rfl | rfl <;> exact ⟨by decide, by decide⟩
    · rw [if_neg hz0]
      exact ⟨rfl, rfl⟩
  refine va_put hz.1 hz.2.1 hz.2.2.2.2.2.2.1 (fun w hw => (zG_in (zI_all (n / 64) h3 w hw)).1) (zy_c (n / 64)) (zY_all (n / 64) h3) (zN_all (n / 64) h3) hz.2.2.2.2.2.1 hz.2.2.2.2.2.2.2.1 hP (zs_D hz.2.2.2.2.2.2.2.2.2.2.2 M) hS r he (by rw [ho]; exact zc_at (n / 64) h3) (n % 64) h2 (zG_before hz.2.2.2.2.2.2.1 h1) (fun y hy => by rw [← h4]; exact hy) hfin hty hnf.1 hnf.2 (by simpa using hl) hd (fun H1 locs1 hP1 _ hS1 => ?_)
  have e1 := zs_setf (X := X) (M := M) (k := r) (c := o.1) (j := n % 64) (fs := o.2) hs hf v
  have e0 : zv X (.int v) = .int v := rfl
  rw [e0, e1] at hP1
  exact h p e s m args below meth c H1 locs1 ls hz hP1 hS1 hL
theorem st_iaload {r n : Nat} {j : Int32} (hd : decode (hB k) pc = .ok (.iaload, 1)) (hs : zs_sh[r]? = some (.inl (0, n))) (hin : vp_in j n) (h : At X k (pc + 1) L (.int (M r j.toNatClampNeg) :: S) M res M') : At X k pc L (.int j :: .ref r :: S) M res M' := by
  intro p e s m args below meth c H locs ls hz hP hS hL
  exact va_iald hz.1 hz.2.1 hz.2.2.2.2.2.2.2.1 hP r 0 (zs_at (X := X) (M := M) hs) rfl hin hd (h p e s m args below meth c H locs ls hz hP hS hL)
theorem st_baload {r n : Nat} {j : Int32} (hd : decode (hB k) pc = .ok (.baload, 1)) (hs : zs_sh[r]? = some (.inl (1, n))) (hin : vp_in j n) (h : At X k (pc + 1) L (.int (M r j.toNatClampNeg) :: S) M res M') : At X k pc L (.int j :: .ref r :: S) M res M' := by
  intro p e s m args below meth c H locs ls hz hP hS hL
  exact va_zald hz.1 hz.2.1 hz.2.2.2.2.2.2.2.1 hP r 1 (zs_at (X := X) (M := M) hs) rfl hin hd (h p e s m args below meth c H locs ls hz hP hS hL)
theorem st_tab {a : Nat} {j : Int32} (hd : decode (hB k) pc = .ok (.iaload, 1)) (hin : vp_in j 8) (h : At X k (pc + 1) L (.int (zt_tr j.toNatClampNeg) :: S) M res M') : At X k pc L (.int j :: .retAddr a :: S) M res M' := by
  intro p e s m args below meth c H locs ls hz hP hS hL
  exact va_ti (t := zx_t X) hz.1 hz.2.1 hz.2.2.2.2.2.2.2.2.2.2.1 hS hin rfl hd (h p e s m args below meth c H locs ls hz hP hS hL)
theorem zl_stat : Cond.fieldLink "FoolVotes$Votes" 118 "FoolVotes$Votes" "TRAITS_IN" "[I" ∈ zt_G := zt_in 281 (by decide +kernel) rfl
theorem st_gets {a : Nat} (hd : decode (hB k) pc = .ok (.getstatic 118, 3)) (ho : hO k = 4) (h : At X k (pc + 3) L (.retAddr a :: S) M res M') : At X k pc L S M res M' := by
  intro p e s m args below meth c H locs ls hz hP hS hL
  have hown := hz.2.2.2.2.2.1
  rw [ho] at hown
  exact va_gets (own := "FoolVotes$Votes") hz.1 hz.2.1 hz.2.2.2.2.2.2.2.2.2.1 hS hown (zG_before hz.2.2.2.2.2.2.1 zl_stat) (fun _ hy => hy) hd (h p e s m args below meth c H locs ls hz hP hS hL)
theorem st_iastore {r n : Nat} {j v : Int32} (hd : decode (hB k) pc = .ok (.iastore, 1)) (hs : zs_sh[r]? = some (.inl (0, n))) (hin : vp_in j n) (h : At X k (pc + 1) L S (zu M r j.toNatClampNeg v) res M') : At X k pc L (.int v :: .int j :: .ref r :: S) M res M' := by
  intro p e s m args below meth c H locs ls hz hP hS hL
  refine va_iast hz.1 hz.2.1 hz.2.2.2.2.2.2.2.1 hP (zs_D hz.2.2.2.2.2.2.2.2.2.2.2 M) hS r 0 (zs_at (X := X) (M := M) hs) rfl hin hd (fun H1 locs1 hP1 _ hS1 => ?_)
  have e1 := zs_seta (X := X) (M := M) hs (upd (M r) j.toNatClampNeg v)
  rw [if_pos rfl] at e1
  simp only [if_pos] at hP1
  rw [e1] at hP1
  exact h p e s m args below meth c H1 locs1 ls hz hP1 hS1 hL
theorem st_bastore {r n : Nat} {j v : Int32} (hd : decode (hB k) pc = .ok (.bastore, 1)) (hs : zs_sh[r]? = some (.inl (1, n))) (hin : vp_in j n) (h : At X k (pc + 1) L S (zu M r j.toNatClampNeg (v &&& 1)) res M') : At X k pc L (.int v :: .int j :: .ref r :: S) M res M' := by
  intro p e s m args below meth c H locs ls hz hP hS hL
  refine va_zast hz.1 hz.2.1 hz.2.2.2.2.2.2.2.1 hP (zs_D hz.2.2.2.2.2.2.2.2.2.2.2 M) hS r 1 (zs_at (X := X) (M := M) hs) rfl hin hd (fun H1 locs1 hP1 _ hS1 => ?_)
  have e1 := zs_seta (X := X) (M := M) hs (upd (M r) j.toNatClampNeg (v &&& 1))
  have e2 : vp_nar .boolean v = v &&& 1 := rfl
  rw [e2] at hP1
  rw [e1] at hP1
  exact h p e s m args below meth c H1 locs1 ls hz hP1 hS1 hL
theorem st_alen {r n : Nat} (hd : decode (hB k) pc = .ok (.arraylength, 1)) (hs : zs_sh[r]? = some (.inl (0, n))) (h : At X k (pc + 1) L (.int (Int32.ofNat n) :: S) M res M') : At X k pc L (.ref r :: S) M res M' := by
  intro p e s m args below meth c H locs ls hz hP hS hL
  exact va_alen hz.1 hz.2.1 hz.2.2.2.2.2.2.2.1 hP r 0 (zs_at (X := X) (M := M) hs) rfl rfl hd (h p e s m args below meth c H locs ls hz hP hS hL)
theorem zcats_map (S : List Value) : ((S.map (zv X)).map fun v => v.category).sum = zcats S := by
  unfold zcats
  rw [List.map_map]
  congr 1
  apply List.map_congr_left
  intro v _
  exact zv_cat X v
theorem st_copy {x a a0 n0 n1 : Nat} {n dp sp : Int32} (hm : zl_A.any (fun q => decide (q.1 = hO k ∧ q.2.1 = x)) = true) (hR : 1 ≤ hF k ∧ 8 + (nativeFrameWords "java/lang/System" "arraycopy" 5 + 11) ≤ hW k) (hd : decode (hB k) pc = .ok (.invokestatic x, 3)) (hs0 : zs_sh[a0]? = some (.inl (0, n0))) (hs1 : zs_sh[a]? = some (.inl (0, n1))) (hc : zcats S ≤ 8)
    (h1 : ¬ sp < 0) (h2 : ¬ dp < 0) (h3 : ¬ n < 0) (h4 : sp.toNatClampNeg + n.toNatClampNeg ≤ n0) (h5 : dp.toNatClampNeg + n.toNatClampNeg ≤ n1)
    (h : At X k (pc + 3) L S (zua M a (va_cpy (M a0) (M a) sp.toNatClampNeg dp.toNatClampNeg n.toNatClampNeg)) res M') : At X k pc L (.int n :: .int dp :: .ref a :: .int sp :: .ref a0 :: S) M res M' := by
  intro p e s m args below meth c H locs ls hz hP hS hL
  obtain ⟨q, hq, hm⟩ := List.any_eq_true.mp hm
  obtain ⟨e1, e2⟩ := of_decide_eq_true hm
  have hl := zt_in _ (zl_Aok q hq) rfl
  rw [e1, e2] at hl
  have hw := hz.2.2.2.2.2.2.1
  refine va_copyi hz.1 hz.2.1 (hz.2.2.2.2.1.trans hL.1.symm) hz.2.2.2.2.2.1 (zG_before hw hl) (zG_before hw zl_sys.1) (zG_before hw zl_sys.2.1) (zG_before hw zl_sys.2.2) hz.2.2.2.2.2.2.2.1 hP (zs_D hz.2.2.2.2.2.2.2.2.2.2.2 M) hS a0 a 0 0 (zs_at (X := X) (M := M) hs0) (zs_at (X := X) (M := M) hs1) rfl rfl rfl h1 h2 h3 h4 h5 (fun _ _ => rfl) hR.1 (by rw [zcats_map]; exact Nat.le_trans (Nat.add_le_add_right hc _) hR.2) hd (fun H1 locs1 hP1 _ hS1 => ?_)
  have e1 := zs_seta (X := X) (M := M) hs1 (va_cpy (M a0) (M a) sp.toNatClampNeg dp.toNatClampNeg n.toNatClampNeg)
  rw [if_pos rfl] at e1
  simp only [if_pos] at hP1
  rw [e1] at hP1
  exact h p e s m args below meth c H1 locs1 ls hz hP1 hS1 hL
theorem st_max {w : Nat} {x y : Int32} (hm : zl_X.any (fun q => decide (q.1 = hO k ∧ q.2.1 = w ∧ q.2.2.1 = 0)) = true) (hR : 1 ≤ hF k ∧ 21 ≤ hW k) (hd : decode (hB k) pc = .ok (.invokestatic w, 3)) (hc : zcats S ≤ 8) (h : At X k (pc + 3) L (.int (if x < y then y else x) :: S) M res M') : At X k pc L (.int y :: .int x :: S) M res M' := by
  intro p e s m args below meth c H locs ls hz hP hS hL
  obtain ⟨q, hq, hm⟩ := List.any_eq_true.mp hm
  obtain ⟨e1, e2, e3⟩ := of_decide_eq_true hm
  have hl := zt_in _ (zl_Xok q hq) rfl
  rw [e1, e2, e3, if_pos rfl] at hl
  have hw := hz.2.2.2.2.2.2.1
  exact va_mmax hz.1 hz.2.1 (hz.2.2.2.2.1.trans hL.1.symm) hz.2.2.2.2.2.1 (zG_before hw hl) (zG_before hw zl_max.1) (zG_before hw zl_max.2.1) (zG_before hw zl_max.2.2) hR.1 (by rw [zcats_map]; exact Nat.le_trans (Nat.add_le_add_right hc 13) hR.2) (Nat.le_refl _) (Nat.le_refl _) hd (h p e s m args below meth c H locs ls hz hP hS hL)
theorem st_min {w : Nat} {x y : Int32} (hm : zl_X.any (fun q => decide (q.1 = hO k ∧ q.2.1 = w ∧ q.2.2.1 = 1)) = true) (hR : 1 ≤ hF k ∧ 21 ≤ hW k) (hd : decode (hB k) pc = .ok (.invokestatic w, 3)) (hc : zcats S ≤ 8) (h : At X k (pc + 3) L (.int (if y < x then y else x) :: S) M res M') : At X k pc L (.int y :: .int x :: S) M res M' := by
  intro p e s m args below meth c H locs ls hz hP hS hL
  obtain ⟨q, hq, hm⟩ := List.any_eq_true.mp hm
  obtain ⟨e1, e2, e3⟩ := of_decide_eq_true hm
  have hl := zt_in _ (zl_Xok q hq) rfl
  rw [e1, e2, e3, if_neg (by decide)] at hl
  have hw := hz.2.2.2.2.2.2.1
  exact va_mmin hz.1 hz.2.1 (hz.2.2.2.2.1.trans hL.1.symm) hz.2.2.2.2.2.1 (zG_before hw hl) (zG_before hw zl_min.1) (zG_before hw zl_min.2.1) (zG_before hw zl_min.2.2) hR.1 (by rw [zcats_map]; exact Nat.le_trans (Nat.add_le_add_right hc 13) hR.2) (Nat.le_refl _) (Nat.le_refl _) hd (h p e s m args below meth c H locs ls hz hP hS hL)
end ST2
/-! answers -/
section ST3
variable {X : zX} {k pc : Nat} {L : List (Option Value)} {M : zM}
theorem zq_end {p : Program} {s t : State} {m : MethodId} {args : Array Value} {meth : Method} {c : Code} {H : Heap} {locs : List Loc} {r : Option Value} {res : List Value} (hz : zf X k p s m args meth c) (hP : va_P (zx_D X) zc_cl (zs_ws X M) H) (hS : va_S (zA X) s.heap H locs) (h1 : res.length ≤ 1) (h2 : r = (res.map (zv X)).head?) (ht : t.heap = H) (hW : s.WarmedH t.vm) : zQ X res M args s (.returned r) t :=
  ⟨h1, by rw [h2], ⟨by rw [ht]; exact hP, zk_warm hW (fun a h3 h4 => by rw [ht]; exact hS.2.1 a h3 h4) hz.2.2.2.2.2.2.2⟩, hS.F ht⟩
theorem st_ireturn {v : Int32} (hd : decode (hB k) pc = .ok (.ireturn, 1)) (hr : hR k = some .int) : At X k pc L [.int v] M [.int v] M := by
  intro p e s m args below meth c H locs ls hz hP hS hL
  have hlk := hz.2.2.2.1
  exact W.iret hz.1 hz.2.1 (hz.2.2.1.trans hr) (fun t ht hW => zq_end (res := [.int v]) hz hP hS (Nat.le_refl 1) rfl ht hW) hS.2.2 hd hlk
theorem st_zreturn {v : Int32} (hv : v = 0 ∨ v = 1) (hd : decode (hB k) pc = .ok (.ireturn, 1)) (hr : hR k = some .boolean) : At X k pc L [.int v] M [.int v] M := by
  intro p e s m args below meth c H locs ls hz hP hS hL
  have hlk := hz.2.2.2.1
  exact W.zret hz.1 hz.2.1 (hz.2.2.1.trans hr) (by rcases hv with rfl | rfl <;> decide) (fun t ht hW => zq_end (res := [.int v]) hz hP hS (Nat.le_refl 1) rfl ht hW) hS.2.2 hd hlk
theorem st_lreturn {v : Int64} (hd : decode (hB k) pc = .ok (.lreturn, 1)) (hr : hR k = some .long) : At X k pc L [.long v] M [.long v] M := by
  intro p e s m args below meth c H locs ls hz hP hS hL
  have hlk := hz.2.2.2.1
  exact W.lret hz.1 hz.2.1 (hz.2.2.1.trans hr) (fun t ht hW => zq_end (res := [.long v]) hz hP hS (Nat.le_refl 1) rfl ht hW) hS.2.2 hd hlk
theorem st_areturn {v : Nat} {nm : String} (hd : decode (hB k) pc = .ok (.areturn, 1)) (hr : hR k = some (.object nm)) : At X k pc L [.ref v] M [.ref v] M := by
  intro p e s m args below meth c H locs ls hz hP hS hL
  have hlk := hz.2.2.2.1
  exact W.aret (v := .ref (zx_a X v)) hz.1 hz.2.1 (hz.2.2.1.trans hr) (Or.inl ⟨nm, rfl⟩) (Or.inr ⟨_, rfl⟩) (fun t ht hW => zq_end (res := [.ref v]) hz hP hS (Nat.le_refl 1) rfl ht hW) hS.2.2 hd hlk
theorem st_return (hd : decode (hB k) pc = .ok (.return_, 1)) (hr : hR k = none) : At X k pc L [] M [] M := by
  intro p e s m args below meth c H locs ls hz hP hS hL
  have hlk := hz.2.2.2.1
  exact W.vret hz.1 hz.2.1 (hz.2.2.1.trans hr) (fun t ht hW => zq_end (res := []) hz hP hS (Nat.zero_le 1) rfl ht hW) hS.2.2 hd hlk
end ST3
