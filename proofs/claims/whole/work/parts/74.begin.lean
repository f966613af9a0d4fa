/-! THE BEGINNING: both objects new, one state -/
def q_X (l : Launch) (dC : Nat → ClassId) (dI : Nat → Nat → Nat) (a b : Nat → Nat) (cI cZ : ClassId) (t : Nat) : zX := (l, dC, dI, fun k => if k < 53 then a k else b (k - 53), cI, cZ, t)
def q_M0 : zM := fun k => match k with
  | 0 => fun j => match j with
    | 13 => 1
    | _ => 0
  | 5 => fun j => match j with
    | 13 => 1
    | 14 => 3
    | _ => 0
  | 51 => upd (upd (upd (upd (fun _ => (0 : Int32)) 0 (-1)) 1 (-1)) 2 (-1)) 3 (-1)
  | 54 => upd (upd (upd (upd (fun _ => (0 : Int32)) 0 (-1)) 1 (-1)) 2 (-1)) 3 (-1)
  | 62 => upd (upd (fun _ => (0 : Int32)) 0 1) 1 3
  | _ => fun _ => 0
def q_mp {α β : Type} (f : Nat → α → β) : Nat → List α → List β
  | _, [] => []
  | i, x :: xs => f i x :: q_mp f (i + 1) xs
theorem q_mapIdx_i {α β : Type} (f : Nat → α → β) : ∀ (l : List α) (i : Nat), l.mapIdx (fun j => f (j + i)) = q_mp f i l
  | [], _ => rfl
  | x :: xs, i => by
    rw [List.mapIdx_cons, q_mp, ← q_mapIdx_i f xs (i + 1), Nat.zero_add]
    congr 1
    congr 1
    funext j
    rw [show j + 1 + i = j + (i + 1) by omega]
theorem q_mapIdx {α β : Type} (f : Nat → α → β) (l : List α) : l.mapIdx f = q_mp f 0 l := q_mapIdx_i f l 0
theorem q_w0_0 {l : Launch} {dC : Nat → ClassId} {dI : Nat → Nat → Nat} {a b : Nat → Nat} {cI cZ : ClassId} {t : Nat} : (zs_ws (q_X l dC dI a b cI cZ t) q_M0)[0]? = (q_wF cI a ++ q_wM cI cZ b)[0]? := by
  rw [zs_at (show zs_sh[0]? = some (.inr (0, [some 1, some 3, some 5, some 16, some 25, some 36, some 45, some 46, some 47, some 48, some 49, none, none, none])) from rfl)]
  simp only [zs_cell, q_mapIdx]
  rfl
theorem q_w0_1 {l : Launch} {dC : Nat → ClassId} {dI : Nat → Nat → Nat} {a b : Nat → Nat} {cI cZ : ClassId} {t : Nat} : (zs_ws (q_X l dC dI a b cI cZ t) q_M0)[1]? = (q_wF cI a ++ q_wM cI cZ b)[1]? := by
  rw [zs_at (show zs_sh[1]? = some (.inr (3, [some 2, none])) from rfl)]
  simp only [zs_cell, q_mapIdx]
  rfl
theorem q_w0_2 {l : Launch} {dC : Nat → ClassId} {dI : Nat → Nat → Nat} {a b : Nat → Nat} {cI cZ : ClassId} {t : Nat} : (zs_ws (q_X l dC dI a b cI cZ t) q_M0)[2]? = (q_wF cI a ++ q_wM cI cZ b)[2]? := by
  rw [zs_at (show zs_sh[2]? = some (.inl (0, 31)) from rfl)]
  rfl
theorem q_w0_3 {l : Launch} {dC : Nat → ClassId} {dI : Nat → Nat → Nat} {a b : Nat → Nat} {cI cZ : ClassId} {t : Nat} : (zs_ws (q_X l dC dI a b cI cZ t) q_M0)[3]? = (q_wF cI a ++ q_wM cI cZ b)[3]? := by
  rw [zs_at (show zs_sh[3]? = some (.inr (3, [some 4, none])) from rfl)]
  simp only [zs_cell, q_mapIdx]
  rfl
theorem q_w0_4 {l : Launch} {dC : Nat → ClassId} {dI : Nat → Nat → Nat} {a b : Nat → Nat} {cI cZ : ClassId} {t : Nat} : (zs_ws (q_X l dC dI a b cI cZ t) q_M0)[4]? = (q_wF cI a ++ q_wM cI cZ b)[4]? := by
  rw [zs_at (show zs_sh[4]? = some (.inl (0, 35)) from rfl)]
  rfl
theorem q_w0_5 {l : Launch} {dC : Nat → ClassId} {dI : Nat → Nat → Nat} {a b : Nat → Nat} {cI cZ : ClassId} {t : Nat} : (zs_ws (q_X l dC dI a b cI cZ t) q_M0)[5]? = (q_wF cI a ++ q_wM cI cZ b)[5]? := by
  rw [zs_at (show zs_sh[5]? = some (.inr (1, [none, some 6, some 7, some 8, some 9, none, some 10, some 11, some 12, none, some 13, some 14, some 15, none, none])) from rfl)]
  simp only [zs_cell, q_mapIdx]
  rfl
theorem q_w0_6 {l : Launch} {dC : Nat → ClassId} {dI : Nat → Nat → Nat} {a b : Nat → Nat} {cI cZ : ClassId} {t : Nat} : (zs_ws (q_X l dC dI a b cI cZ t) q_M0)[6]? = (q_wF cI a ++ q_wM cI cZ b)[6]? := by
  rw [zs_at (show zs_sh[6]? = some (.inl (0, 8)) from rfl)]
  rfl
theorem q_w0_7 {l : Launch} {dC : Nat → ClassId} {dI : Nat → Nat → Nat} {a b : Nat → Nat} {cI cZ : ClassId} {t : Nat} : (zs_ws (q_X l dC dI a b cI cZ t) q_M0)[7]? = (q_wF cI a ++ q_wM cI cZ b)[7]? := by
  rw [zs_at (show zs_sh[7]? = some (.inl (0, 8)) from rfl)]
  rfl
theorem q_w0_8 {l : Launch} {dC : Nat → ClassId} {dI : Nat → Nat → Nat} {a b : Nat → Nat} {cI cZ : ClassId} {t : Nat} : (zs_ws (q_X l dC dI a b cI cZ t) q_M0)[8]? = (q_wF cI a ++ q_wM cI cZ b)[8]? := by
  rw [zs_at (show zs_sh[8]? = some (.inl (0, 8)) from rfl)]
  rfl
theorem q_w0_9 {l : Launch} {dC : Nat → ClassId} {dI : Nat → Nat → Nat} {a b : Nat → Nat} {cI cZ : ClassId} {t : Nat} : (zs_ws (q_X l dC dI a b cI cZ t) q_M0)[9]? = (q_wF cI a ++ q_wM cI cZ b)[9]? := by
  rw [zs_at (show zs_sh[9]? = some (.inl (0, 8)) from rfl)]
  rfl
theorem q_w0_10 {l : Launch} {dC : Nat → ClassId} {dI : Nat → Nat → Nat} {a b : Nat → Nat} {cI cZ : ClassId} {t : Nat} : (zs_ws (q_X l dC dI a b cI cZ t) q_M0)[10]? = (q_wF cI a ++ q_wM cI cZ b)[10]? := by
  rw [zs_at (show zs_sh[10]? = some (.inl (0, 12)) from rfl)]
  rfl
theorem q_w0_11 {l : Launch} {dC : Nat → ClassId} {dI : Nat → Nat → Nat} {a b : Nat → Nat} {cI cZ : ClassId} {t : Nat} : (zs_ws (q_X l dC dI a b cI cZ t) q_M0)[11]? = (q_wF cI a ++ q_wM cI cZ b)[11]? := by
  rw [zs_at (show zs_sh[11]? = some (.inl (0, 12)) from rfl)]
  rfl
theorem q_w0_12 {l : Launch} {dC : Nat → ClassId} {dI : Nat → Nat → Nat} {a b : Nat → Nat} {cI cZ : ClassId} {t : Nat} : (zs_ws (q_X l dC dI a b cI cZ t) q_M0)[12]? = (q_wF cI a ++ q_wM cI cZ b)[12]? := by
  rw [zs_at (show zs_sh[12]? = some (.inl (0, 12)) from rfl)]
  rfl
theorem q_w0_13 {l : Launch} {dC : Nat → ClassId} {dI : Nat → Nat → Nat} {a b : Nat → Nat} {cI cZ : ClassId} {t : Nat} : (zs_ws (q_X l dC dI a b cI cZ t) q_M0)[13]? = (q_wF cI a ++ q_wM cI cZ b)[13]? := by
  rw [zs_at (show zs_sh[13]? = some (.inl (0, 8)) from rfl)]
  rfl
theorem q_w0_14 {l : Launch} {dC : Nat → ClassId} {dI : Nat → Nat → Nat} {a b : Nat → Nat} {cI cZ : ClassId} {t : Nat} : (zs_ws (q_X l dC dI a b cI cZ t) q_M0)[14]? = (q_wF cI a ++ q_wM cI cZ b)[14]? := by
  rw [zs_at (show zs_sh[14]? = some (.inl (0, 8)) from rfl)]
  rfl
theorem q_w0_15 {l : Launch} {dC : Nat → ClassId} {dI : Nat → Nat → Nat} {a b : Nat → Nat} {cI cZ : ClassId} {t : Nat} : (zs_ws (q_X l dC dI a b cI cZ t) q_M0)[15]? = (q_wF cI a ++ q_wM cI cZ b)[15]? := by
  rw [zs_at (show zs_sh[15]? = some (.inl (0, 8)) from rfl)]
  rfl
theorem q_w0_16 {l : Launch} {dC : Nat → ClassId} {dI : Nat → Nat → Nat} {a b : Nat → Nat} {cI cZ : ClassId} {t : Nat} : (zs_ws (q_X l dC dI a b cI cZ t) q_M0)[16]? = (q_wF cI a ++ q_wM cI cZ b)[16]? := by
  rw [zs_at (show zs_sh[16]? = some (.inr (4, [some 17, some 18, some 19, some 20, none, none, some 21, some 22, some 23, some 24, none, none, none])) from rfl)]
  simp only [zs_cell, q_mapIdx]
  rfl
theorem q_w0_17 {l : Launch} {dC : Nat → ClassId} {dI : Nat → Nat → Nat} {a b : Nat → Nat} {cI cZ : ClassId} {t : Nat} : (zs_ws (q_X l dC dI a b cI cZ t) q_M0)[17]? = (q_wF cI a ++ q_wM cI cZ b)[17]? := by
  rw [zs_at (show zs_sh[17]? = some (.inl (0, 96)) from rfl)]
  rfl
theorem q_w0_18 {l : Launch} {dC : Nat → ClassId} {dI : Nat → Nat → Nat} {a b : Nat → Nat} {cI cZ : ClassId} {t : Nat} : (zs_ws (q_X l dC dI a b cI cZ t) q_M0)[18]? = (q_wF cI a ++ q_wM cI cZ b)[18]? := by
  rw [zs_at (show zs_sh[18]? = some (.inl (0, 12)) from rfl)]
  rfl
theorem q_w0_19 {l : Launch} {dC : Nat → ClassId} {dI : Nat → Nat → Nat} {a b : Nat → Nat} {cI cZ : ClassId} {t : Nat} : (zs_ws (q_X l dC dI a b cI cZ t) q_M0)[19]? = (q_wF cI a ++ q_wM cI cZ b)[19]? := by
  rw [zs_at (show zs_sh[19]? = some (.inl (0, 12)) from rfl)]
  rfl
theorem q_w0_20 {l : Launch} {dC : Nat → ClassId} {dI : Nat → Nat → Nat} {a b : Nat → Nat} {cI cZ : ClassId} {t : Nat} : (zs_ws (q_X l dC dI a b cI cZ t) q_M0)[20]? = (q_wF cI a ++ q_wM cI cZ b)[20]? := by
  rw [zs_at (show zs_sh[20]? = some (.inl (0, 12)) from rfl)]
  rfl
theorem q_w0_21 {l : Launch} {dC : Nat → ClassId} {dI : Nat → Nat → Nat} {a b : Nat → Nat} {cI cZ : ClassId} {t : Nat} : (zs_ws (q_X l dC dI a b cI cZ t) q_M0)[21]? = (q_wF cI a ++ q_wM cI cZ b)[21]? := by
  rw [zs_at (show zs_sh[21]? = some (.inl (0, 8)) from rfl)]
  rfl
theorem q_w0_22 {l : Launch} {dC : Nat → ClassId} {dI : Nat → Nat → Nat} {a b : Nat → Nat} {cI cZ : ClassId} {t : Nat} : (zs_ws (q_X l dC dI a b cI cZ t) q_M0)[22]? = (q_wF cI a ++ q_wM cI cZ b)[22]? := by
  rw [zs_at (show zs_sh[22]? = some (.inl (0, 8)) from rfl)]
  rfl
theorem q_w0_23 {l : Launch} {dC : Nat → ClassId} {dI : Nat → Nat → Nat} {a b : Nat → Nat} {cI cZ : ClassId} {t : Nat} : (zs_ws (q_X l dC dI a b cI cZ t) q_M0)[23]? = (q_wF cI a ++ q_wM cI cZ b)[23]? := by
  rw [zs_at (show zs_sh[23]? = some (.inl (0, 8)) from rfl)]
  rfl
theorem q_w0_24 {l : Launch} {dC : Nat → ClassId} {dI : Nat → Nat → Nat} {a b : Nat → Nat} {cI cZ : ClassId} {t : Nat} : (zs_ws (q_X l dC dI a b cI cZ t) q_M0)[24]? = (q_wF cI a ++ q_wM cI cZ b)[24]? := by
  rw [zs_at (show zs_sh[24]? = some (.inl (0, 8)) from rfl)]
  rfl
theorem q_w0_25 {l : Launch} {dC : Nat → ClassId} {dI : Nat → Nat → Nat} {a b : Nat → Nat} {cI cZ : ClassId} {t : Nat} : (zs_ws (q_X l dC dI a b cI cZ t) q_M0)[25]? = (q_wF cI a ++ q_wM cI cZ b)[25]? := by
  rw [zs_at (show zs_sh[25]? = some (.inr (1, [none, some 26, some 27, some 28, some 29, none, some 30, some 31, some 32, none, some 33, some 34, some 35, none, none])) from rfl)]
  simp only [zs_cell, q_mapIdx]
  rfl
theorem q_w0_26 {l : Launch} {dC : Nat → ClassId} {dI : Nat → Nat → Nat} {a b : Nat → Nat} {cI cZ : ClassId} {t : Nat} : (zs_ws (q_X l dC dI a b cI cZ t) q_M0)[26]? = (q_wF cI a ++ q_wM cI cZ b)[26]? := by
  rw [zs_at (show zs_sh[26]? = some (.inl (0, 8)) from rfl)]
  rfl
theorem q_w0_27 {l : Launch} {dC : Nat → ClassId} {dI : Nat → Nat → Nat} {a b : Nat → Nat} {cI cZ : ClassId} {t : Nat} : (zs_ws (q_X l dC dI a b cI cZ t) q_M0)[27]? = (q_wF cI a ++ q_wM cI cZ b)[27]? := by
  rw [zs_at (show zs_sh[27]? = some (.inl (0, 8)) from rfl)]
  rfl
theorem q_w0_28 {l : Launch} {dC : Nat → ClassId} {dI : Nat → Nat → Nat} {a b : Nat → Nat} {cI cZ : ClassId} {t : Nat} : (zs_ws (q_X l dC dI a b cI cZ t) q_M0)[28]? = (q_wF cI a ++ q_wM cI cZ b)[28]? := by
  rw [zs_at (show zs_sh[28]? = some (.inl (0, 8)) from rfl)]
  rfl
theorem q_w0_29 {l : Launch} {dC : Nat → ClassId} {dI : Nat → Nat → Nat} {a b : Nat → Nat} {cI cZ : ClassId} {t : Nat} : (zs_ws (q_X l dC dI a b cI cZ t) q_M0)[29]? = (q_wF cI a ++ q_wM cI cZ b)[29]? := by
  rw [zs_at (show zs_sh[29]? = some (.inl (0, 8)) from rfl)]
  rfl
theorem q_w0_30 {l : Launch} {dC : Nat → ClassId} {dI : Nat → Nat → Nat} {a b : Nat → Nat} {cI cZ : ClassId} {t : Nat} : (zs_ws (q_X l dC dI a b cI cZ t) q_M0)[30]? = (q_wF cI a ++ q_wM cI cZ b)[30]? := by
  rw [zs_at (show zs_sh[30]? = some (.inl (0, 12)) from rfl)]
  rfl
theorem q_w0_31 {l : Launch} {dC : Nat → ClassId} {dI : Nat → Nat → Nat} {a b : Nat → Nat} {cI cZ : ClassId} {t : Nat} : (zs_ws (q_X l dC dI a b cI cZ t) q_M0)[31]? = (q_wF cI a ++ q_wM cI cZ b)[31]? := by
  rw [zs_at (show zs_sh[31]? = some (.inl (0, 12)) from rfl)]
  rfl
theorem q_w0_32 {l : Launch} {dC : Nat → ClassId} {dI : Nat → Nat → Nat} {a b : Nat → Nat} {cI cZ : ClassId} {t : Nat} : (zs_ws (q_X l dC dI a b cI cZ t) q_M0)[32]? = (q_wF cI a ++ q_wM cI cZ b)[32]? := by
  rw [zs_at (show zs_sh[32]? = some (.inl (0, 12)) from rfl)]
  rfl
theorem q_w0_33 {l : Launch} {dC : Nat → ClassId} {dI : Nat → Nat → Nat} {a b : Nat → Nat} {cI cZ : ClassId} {t : Nat} : (zs_ws (q_X l dC dI a b cI cZ t) q_M0)[33]? = (q_wF cI a ++ q_wM cI cZ b)[33]? := by
  rw [zs_at (show zs_sh[33]? = some (.inl (0, 8)) from rfl)]
  rfl
theorem q_w0_34 {l : Launch} {dC : Nat → ClassId} {dI : Nat → Nat → Nat} {a b : Nat → Nat} {cI cZ : ClassId} {t : Nat} : (zs_ws (q_X l dC dI a b cI cZ t) q_M0)[34]? = (q_wF cI a ++ q_wM cI cZ b)[34]? := by
  rw [zs_at (show zs_sh[34]? = some (.inl (0, 8)) from rfl)]
  rfl
theorem q_w0_35 {l : Launch} {dC : Nat → ClassId} {dI : Nat → Nat → Nat} {a b : Nat → Nat} {cI cZ : ClassId} {t : Nat} : (zs_ws (q_X l dC dI a b cI cZ t) q_M0)[35]? = (q_wF cI a ++ q_wM cI cZ b)[35]? := by
  rw [zs_at (show zs_sh[35]? = some (.inl (0, 8)) from rfl)]
  rfl
theorem q_w0_36 {l : Launch} {dC : Nat → ClassId} {dI : Nat → Nat → Nat} {a b : Nat → Nat} {cI cZ : ClassId} {t : Nat} : (zs_ws (q_X l dC dI a b cI cZ t) q_M0)[36]? = (q_wF cI a ++ q_wM cI cZ b)[36]? := by
  rw [zs_at (show zs_sh[36]? = some (.inr (4, [some 37, some 38, some 39, some 40, none, none, some 41, some 42, some 43, some 44, none, none, none])) from rfl)]
  simp only [zs_cell, q_mapIdx]
  rfl
theorem q_w0_37 {l : Launch} {dC : Nat → ClassId} {dI : Nat → Nat → Nat} {a b : Nat → Nat} {cI cZ : ClassId} {t : Nat} : (zs_ws (q_X l dC dI a b cI cZ t) q_M0)[37]? = (q_wF cI a ++ q_wM cI cZ b)[37]? := by
  rw [zs_at (show zs_sh[37]? = some (.inl (0, 96)) from rfl)]
  rfl
theorem q_w0_38 {l : Launch} {dC : Nat → ClassId} {dI : Nat → Nat → Nat} {a b : Nat → Nat} {cI cZ : ClassId} {t : Nat} : (zs_ws (q_X l dC dI a b cI cZ t) q_M0)[38]? = (q_wF cI a ++ q_wM cI cZ b)[38]? := by
  rw [zs_at (show zs_sh[38]? = some (.inl (0, 12)) from rfl)]
  rfl
theorem q_w0_39 {l : Launch} {dC : Nat → ClassId} {dI : Nat → Nat → Nat} {a b : Nat → Nat} {cI cZ : ClassId} {t : Nat} : (zs_ws (q_X l dC dI a b cI cZ t) q_M0)[39]? = (q_wF cI a ++ q_wM cI cZ b)[39]? := by
  rw [zs_at (show zs_sh[39]? = some (.inl (0, 12)) from rfl)]
  rfl
theorem q_w0_40 {l : Launch} {dC : Nat → ClassId} {dI : Nat → Nat → Nat} {a b : Nat → Nat} {cI cZ : ClassId} {t : Nat} : (zs_ws (q_X l dC dI a b cI cZ t) q_M0)[40]? = (q_wF cI a ++ q_wM cI cZ b)[40]? := by
  rw [zs_at (show zs_sh[40]? = some (.inl (0, 12)) from rfl)]
  rfl
theorem q_w0_41 {l : Launch} {dC : Nat → ClassId} {dI : Nat → Nat → Nat} {a b : Nat → Nat} {cI cZ : ClassId} {t : Nat} : (zs_ws (q_X l dC dI a b cI cZ t) q_M0)[41]? = (q_wF cI a ++ q_wM cI cZ b)[41]? := by
  rw [zs_at (show zs_sh[41]? = some (.inl (0, 8)) from rfl)]
  rfl
theorem q_w0_42 {l : Launch} {dC : Nat → ClassId} {dI : Nat → Nat → Nat} {a b : Nat → Nat} {cI cZ : ClassId} {t : Nat} : (zs_ws (q_X l dC dI a b cI cZ t) q_M0)[42]? = (q_wF cI a ++ q_wM cI cZ b)[42]? := by
  rw [zs_at (show zs_sh[42]? = some (.inl (0, 8)) from rfl)]
  rfl
theorem q_w0_43 {l : Launch} {dC : Nat → ClassId} {dI : Nat → Nat → Nat} {a b : Nat → Nat} {cI cZ : ClassId} {t : Nat} : (zs_ws (q_X l dC dI a b cI cZ t) q_M0)[43]? = (q_wF cI a ++ q_wM cI cZ b)[43]? := by
  rw [zs_at (show zs_sh[43]? = some (.inl (0, 8)) from rfl)]
  rfl
theorem q_w0_44 {l : Launch} {dC : Nat → ClassId} {dI : Nat → Nat → Nat} {a b : Nat → Nat} {cI cZ : ClassId} {t : Nat} : (zs_ws (q_X l dC dI a b cI cZ t) q_M0)[44]? = (q_wF cI a ++ q_wM cI cZ b)[44]? := by
  rw [zs_at (show zs_sh[44]? = some (.inl (0, 8)) from rfl)]
  rfl
theorem q_w0_45 {l : Launch} {dC : Nat → ClassId} {dI : Nat → Nat → Nat} {a b : Nat → Nat} {cI cZ : ClassId} {t : Nat} : (zs_ws (q_X l dC dI a b cI cZ t) q_M0)[45]? = (q_wF cI a ++ q_wM cI cZ b)[45]? := by
  rw [zs_at (show zs_sh[45]? = some (.inl (0, 8)) from rfl)]
  rfl
theorem q_w0_46 {l : Launch} {dC : Nat → ClassId} {dI : Nat → Nat → Nat} {a b : Nat → Nat} {cI cZ : ClassId} {t : Nat} : (zs_ws (q_X l dC dI a b cI cZ t) q_M0)[46]? = (q_wF cI a ++ q_wM cI cZ b)[46]? := by
  rw [zs_at (show zs_sh[46]? = some (.inl (0, 8)) from rfl)]
  rfl
theorem q_w0_47 {l : Launch} {dC : Nat → ClassId} {dI : Nat → Nat → Nat} {a b : Nat → Nat} {cI cZ : ClassId} {t : Nat} : (zs_ws (q_X l dC dI a b cI cZ t) q_M0)[47]? = (q_wF cI a ++ q_wM cI cZ b)[47]? := by
  rw [zs_at (show zs_sh[47]? = some (.inl (0, 8)) from rfl)]
  rfl
theorem q_w0_48 {l : Launch} {dC : Nat → ClassId} {dI : Nat → Nat → Nat} {a b : Nat → Nat} {cI cZ : ClassId} {t : Nat} : (zs_ws (q_X l dC dI a b cI cZ t) q_M0)[48]? = (q_wF cI a ++ q_wM cI cZ b)[48]? := by
  rw [zs_at (show zs_sh[48]? = some (.inl (0, 256)) from rfl)]
  rfl
theorem q_w0_49 {l : Launch} {dC : Nat → ClassId} {dI : Nat → Nat → Nat} {a b : Nat → Nat} {cI cZ : ClassId} {t : Nat} : (zs_ws (q_X l dC dI a b cI cZ t) q_M0)[49]? = (q_wF cI a ++ q_wM cI cZ b)[49]? := by
  rw [zs_at (show zs_sh[49]? = some (.inr (2, [some 50, some 51, some 52])) from rfl)]
  simp only [zs_cell, q_mapIdx]
  rfl
theorem q_w0_50 {l : Launch} {dC : Nat → ClassId} {dI : Nat → Nat → Nat} {a b : Nat → Nat} {cI cZ : ClassId} {t : Nat} : (zs_ws (q_X l dC dI a b cI cZ t) q_M0)[50]? = (q_wF cI a ++ q_wM cI cZ b)[50]? := by
  rw [zs_at (show zs_sh[50]? = some (.inl (0, 4)) from rfl)]
  rfl
theorem q_w0_51 {l : Launch} {dC : Nat → ClassId} {dI : Nat → Nat → Nat} {a b : Nat → Nat} {cI cZ : ClassId} {t : Nat} : (zs_ws (q_X l dC dI a b cI cZ t) q_M0)[51]? = (q_wF cI a ++ q_wM cI cZ b)[51]? := by
  rw [zs_at (show zs_sh[51]? = some (.inl (0, 4)) from rfl)]
  rfl
theorem q_w0_52 {l : Launch} {dC : Nat → ClassId} {dI : Nat → Nat → Nat} {a b : Nat → Nat} {cI cZ : ClassId} {t : Nat} : (zs_ws (q_X l dC dI a b cI cZ t) q_M0)[52]? = (q_wF cI a ++ q_wM cI cZ b)[52]? := by
  rw [zs_at (show zs_sh[52]? = some (.inl (0, 240)) from rfl)]
  rfl
theorem q_w0_53 {l : Launch} {dC : Nat → ClassId} {dI : Nat → Nat → Nat} {a b : Nat → Nat} {cI cZ : ClassId} {t : Nat} : (zs_ws (q_X l dC dI a b cI cZ t) q_M0)[53]? = (q_wF cI a ++ q_wM cI cZ b)[53]? := by
  rw [zs_at (show zs_sh[53]? = some (.inr (5, [some 54, some 55, some 56, some 57, none, some 58, some 59, none, some 60, none, some 61, some 62, none, some 63, none, some 64, some 65, some 66, some 67, some 68, some 69, some 70, some 71, some 72, some 73, some 74, none, none, some 75, some 76, none])) from rfl)]
  simp only [zs_cell, q_mapIdx]
  rfl
theorem q_w0_54 {l : Launch} {dC : Nat → ClassId} {dI : Nat → Nat → Nat} {a b : Nat → Nat} {cI cZ : ClassId} {t : Nat} : (zs_ws (q_X l dC dI a b cI cZ t) q_M0)[54]? = (q_wF cI a ++ q_wM cI cZ b)[54]? := by
  rw [zs_at (show zs_sh[54]? = some (.inl (0, 4)) from rfl)]
  rfl
theorem q_w0_55 {l : Launch} {dC : Nat → ClassId} {dI : Nat → Nat → Nat} {a b : Nat → Nat} {cI cZ : ClassId} {t : Nat} : (zs_ws (q_X l dC dI a b cI cZ t) q_M0)[55]? = (q_wF cI a ++ q_wM cI cZ b)[55]? := by
  rw [zs_at (show zs_sh[55]? = some (.inl (0, 4)) from rfl)]
  rfl
theorem q_w0_56 {l : Launch} {dC : Nat → ClassId} {dI : Nat → Nat → Nat} {a b : Nat → Nat} {cI cZ : ClassId} {t : Nat} : (zs_ws (q_X l dC dI a b cI cZ t) q_M0)[56]? = (q_wF cI a ++ q_wM cI cZ b)[56]? := by
  rw [zs_at (show zs_sh[56]? = some (.inl (0, 240)) from rfl)]
  rfl
theorem q_w0_57 {l : Launch} {dC : Nat → ClassId} {dI : Nat → Nat → Nat} {a b : Nat → Nat} {cI cZ : ClassId} {t : Nat} : (zs_ws (q_X l dC dI a b cI cZ t) q_M0)[57]? = (q_wF cI a ++ q_wM cI cZ b)[57]? := by
  rw [zs_at (show zs_sh[57]? = some (.inl (0, 60)) from rfl)]
  rfl
theorem q_w0_58 {l : Launch} {dC : Nat → ClassId} {dI : Nat → Nat → Nat} {a b : Nat → Nat} {cI cZ : ClassId} {t : Nat} : (zs_ws (q_X l dC dI a b cI cZ t) q_M0)[58]? = (q_wF cI a ++ q_wM cI cZ b)[58]? := by
  rw [zs_at (show zs_sh[58]? = some (.inl (0, 72)) from rfl)]
  rfl
theorem q_w0_59 {l : Launch} {dC : Nat → ClassId} {dI : Nat → Nat → Nat} {a b : Nat → Nat} {cI cZ : ClassId} {t : Nat} : (zs_ws (q_X l dC dI a b cI cZ t) q_M0)[59]? = (q_wF cI a ++ q_wM cI cZ b)[59]? := by
  rw [zs_at (show zs_sh[59]? = some (.inl (0, 2)) from rfl)]
  rfl
theorem q_w0_60 {l : Launch} {dC : Nat → ClassId} {dI : Nat → Nat → Nat} {a b : Nat → Nat} {cI cZ : ClassId} {t : Nat} : (zs_ws (q_X l dC dI a b cI cZ t) q_M0)[60]? = (q_wF cI a ++ q_wM cI cZ b)[60]? := by
  rw [zs_at (show zs_sh[60]? = some (.inl (0, 24)) from rfl)]
  rfl
theorem q_w0_61 {l : Launch} {dC : Nat → ClassId} {dI : Nat → Nat → Nat} {a b : Nat → Nat} {cI cZ : ClassId} {t : Nat} : (zs_ws (q_X l dC dI a b cI cZ t) q_M0)[61]? = (q_wF cI a ++ q_wM cI cZ b)[61]? := by
  rw [zs_at (show zs_sh[61]? = some (.inl (0, 24)) from rfl)]
  rfl
theorem q_w0_62 {l : Launch} {dC : Nat → ClassId} {dI : Nat → Nat → Nat} {a b : Nat → Nat} {cI cZ : ClassId} {t : Nat} : (zs_ws (q_X l dC dI a b cI cZ t) q_M0)[62]? = (q_wF cI a ++ q_wM cI cZ b)[62]? := by
  rw [zs_at (show zs_sh[62]? = some (.inl (0, 2)) from rfl)]
  rfl
theorem q_w0_63 {l : Launch} {dC : Nat → ClassId} {dI : Nat → Nat → Nat} {a b : Nat → Nat} {cI cZ : ClassId} {t : Nat} : (zs_ws (q_X l dC dI a b cI cZ t) q_M0)[63]? = (q_wF cI a ++ q_wM cI cZ b)[63]? := by
  rw [zs_at (show zs_sh[63]? = some (.inl (0, 24)) from rfl)]
  rfl
theorem q_w0_64 {l : Launch} {dC : Nat → ClassId} {dI : Nat → Nat → Nat} {a b : Nat → Nat} {cI cZ : ClassId} {t : Nat} : (zs_ws (q_X l dC dI a b cI cZ t) q_M0)[64]? = (q_wF cI a ++ q_wM cI cZ b)[64]? := by
  rw [zs_at (show zs_sh[64]? = some (.inl (0, 8)) from rfl)]
  rfl
theorem q_w0_65 {l : Launch} {dC : Nat → ClassId} {dI : Nat → Nat → Nat} {a b : Nat → Nat} {cI cZ : ClassId} {t : Nat} : (zs_ws (q_X l dC dI a b cI cZ t) q_M0)[65]? = (q_wF cI a ++ q_wM cI cZ b)[65]? := by
  rw [zs_at (show zs_sh[65]? = some (.inl (0, 8)) from rfl)]
  rfl
theorem q_w0_66 {l : Launch} {dC : Nat → ClassId} {dI : Nat → Nat → Nat} {a b : Nat → Nat} {cI cZ : ClassId} {t : Nat} : (zs_ws (q_X l dC dI a b cI cZ t) q_M0)[66]? = (q_wF cI a ++ q_wM cI cZ b)[66]? := by
  rw [zs_at (show zs_sh[66]? = some (.inl (0, 8)) from rfl)]
  rfl
theorem q_w0_67 {l : Launch} {dC : Nat → ClassId} {dI : Nat → Nat → Nat} {a b : Nat → Nat} {cI cZ : ClassId} {t : Nat} : (zs_ws (q_X l dC dI a b cI cZ t) q_M0)[67]? = (q_wF cI a ++ q_wM cI cZ b)[67]? := by
  rw [zs_at (show zs_sh[67]? = some (.inl (0, 8)) from rfl)]
  rfl
theorem q_w0_68 {l : Launch} {dC : Nat → ClassId} {dI : Nat → Nat → Nat} {a b : Nat → Nat} {cI cZ : ClassId} {t : Nat} : (zs_ws (q_X l dC dI a b cI cZ t) q_M0)[68]? = (q_wF cI a ++ q_wM cI cZ b)[68]? := by
  rw [zs_at (show zs_sh[68]? = some (.inl (0, 8)) from rfl)]
  rfl
theorem q_w0_69 {l : Launch} {dC : Nat → ClassId} {dI : Nat → Nat → Nat} {a b : Nat → Nat} {cI cZ : ClassId} {t : Nat} : (zs_ws (q_X l dC dI a b cI cZ t) q_M0)[69]? = (q_wF cI a ++ q_wM cI cZ b)[69]? := by
  rw [zs_at (show zs_sh[69]? = some (.inl (0, 96)) from rfl)]
  rfl
theorem q_w0_70 {l : Launch} {dC : Nat → ClassId} {dI : Nat → Nat → Nat} {a b : Nat → Nat} {cI cZ : ClassId} {t : Nat} : (zs_ws (q_X l dC dI a b cI cZ t) q_M0)[70]? = (q_wF cI a ++ q_wM cI cZ b)[70]? := by
  rw [zs_at (show zs_sh[70]? = some (.inl (0, 12)) from rfl)]
  rfl
theorem q_w0_71 {l : Launch} {dC : Nat → ClassId} {dI : Nat → Nat → Nat} {a b : Nat → Nat} {cI cZ : ClassId} {t : Nat} : (zs_ws (q_X l dC dI a b cI cZ t) q_M0)[71]? = (q_wF cI a ++ q_wM cI cZ b)[71]? := by
  rw [zs_at (show zs_sh[71]? = some (.inl (0, 12)) from rfl)]
  rfl
theorem q_w0_72 {l : Launch} {dC : Nat → ClassId} {dI : Nat → Nat → Nat} {a b : Nat → Nat} {cI cZ : ClassId} {t : Nat} : (zs_ws (q_X l dC dI a b cI cZ t) q_M0)[72]? = (q_wF cI a ++ q_wM cI cZ b)[72]? := by
  rw [zs_at (show zs_sh[72]? = some (.inl (0, 12)) from rfl)]
  rfl
theorem q_w0_73 {l : Launch} {dC : Nat → ClassId} {dI : Nat → Nat → Nat} {a b : Nat → Nat} {cI cZ : ClassId} {t : Nat} : (zs_ws (q_X l dC dI a b cI cZ t) q_M0)[73]? = (q_wF cI a ++ q_wM cI cZ b)[73]? := by
  rw [zs_at (show zs_sh[73]? = some (.inl (1, 12)) from rfl)]
  rfl
theorem q_w0_74 {l : Launch} {dC : Nat → ClassId} {dI : Nat → Nat → Nat} {a b : Nat → Nat} {cI cZ : ClassId} {t : Nat} : (zs_ws (q_X l dC dI a b cI cZ t) q_M0)[74]? = (q_wF cI a ++ q_wM cI cZ b)[74]? := by
  rw [zs_at (show zs_sh[74]? = some (.inl (1, 12)) from rfl)]
  rfl
theorem q_w0_75 {l : Launch} {dC : Nat → ClassId} {dI : Nat → Nat → Nat} {a b : Nat → Nat} {cI cZ : ClassId} {t : Nat} : (zs_ws (q_X l dC dI a b cI cZ t) q_M0)[75]? = (q_wF cI a ++ q_wM cI cZ b)[75]? := by
  rw [zs_at (show zs_sh[75]? = some (.inl (0, 16)) from rfl)]
  rfl
theorem q_w0_76 {l : Launch} {dC : Nat → ClassId} {dI : Nat → Nat → Nat} {a b : Nat → Nat} {cI cZ : ClassId} {t : Nat} : (zs_ws (q_X l dC dI a b cI cZ t) q_M0)[76]? = (q_wF cI a ++ q_wM cI cZ b)[76]? := by
  rw [zs_at (show zs_sh[76]? = some (.inl (0, 8)) from rfl)]
  rfl
theorem q_ws0 {l : Launch} {dC : Nat → ClassId} {dI : Nat → Nat → Nat} {a b : Nat → Nat} {cI cZ : ClassId} {t : Nat} : zs_ws (q_X l dC dI a b cI cZ t) q_M0 = q_wF cI a ++ q_wM cI cZ b := List.ext_getElem? (fun k => match k with
  | 0 => q_w0_0
  | 1 => q_w0_1
  | 2 => q_w0_2
  | 3 => q_w0_3
  | 4 => q_w0_4
  | 5 => q_w0_5
  | 6 => q_w0_6
  | 7 => q_w0_7
  | 8 => q_w0_8
  | 9 => q_w0_9
  | 10 => q_w0_10
  | 11 => q_w0_11
  | 12 => q_w0_12
  | 13 => q_w0_13
  | 14 => q_w0_14
  | 15 => q_w0_15
  | 16 => q_w0_16
  | 17 => q_w0_17
  | 18 => q_w0_18
  | 19 => q_w0_19
  | 20 => q_w0_20
  | 21 => q_w0_21
  | 22 => q_w0_22
  | 23 => q_w0_23
  | 24 => q_w0_24
  | 25 => q_w0_25
  | 26 => q_w0_26
  | 27 => q_w0_27
  | 28 => q_w0_28
  | 29 => q_w0_29
  | 30 => q_w0_30
  | 31 => q_w0_31
  | 32 => q_w0_32
  | 33 => q_w0_33
  | 34 => q_w0_34
  | 35 => q_w0_35
  | 36 => q_w0_36
  | 37 => q_w0_37
  | 38 => q_w0_38
  | 39 => q_w0_39
  | 40 => q_w0_40
  | 41 => q_w0_41
  | 42 => q_w0_42
  | 43 => q_w0_43
  | 44 => q_w0_44
  | 45 => q_w0_45
  | 46 => q_w0_46
  | 47 => q_w0_47
  | 48 => q_w0_48
  | 49 => q_w0_49
  | 50 => q_w0_50
  | 51 => q_w0_51
  | 52 => q_w0_52
  | 53 => q_w0_53
  | 54 => q_w0_54
  | 55 => q_w0_55
  | 56 => q_w0_56
  | 57 => q_w0_57
  | 58 => q_w0_58
  | 59 => q_w0_59
  | 60 => q_w0_60
  | 61 => q_w0_61
  | 62 => q_w0_62
  | 63 => q_w0_63
  | 64 => q_w0_64
  | 65 => q_w0_65
  | 66 => q_w0_66
  | 67 => q_w0_67
  | 68 => q_w0_68
  | 69 => q_w0_69
  | 70 => q_w0_70
  | 71 => q_w0_71
  | 72 => q_w0_72
  | 73 => q_w0_73
  | 74 => q_w0_74
  | 75 => q_w0_75
  | 76 => q_w0_76
  | k + 77 => by
    have h1 : (zs_ws (q_X l dC dI a b cI cZ t) q_M0).length = 77 := by unfold zs_ws; rw [List.length_mapIdx]; exact zs_len
    have h2 : (q_wF cI a ++ q_wM cI cZ b).length = 77 := by rw [List.length_append]; rfl
    rw [List.getElem?_eq_none (by omega), List.getElem?_eq_none (by omega)])
def q_S0 : q_N := fun x j => match x with
  | 4 => (match j with
    | 0 => 1
    | 1 => 3
    | _ => 0)
  | _ => 0
theorem q_S0_ws : q_ws q_S0 :=
  ⟨⟨Nat.zero_le _, fun i h => absurd h (Nat.not_lt_zero i)⟩, ⟨Nat.zero_le _, fun i h => absurd h (Nat.not_lt_zero i)⟩, ⟨(by decide : (1 : Nat) < 8), (by decide : (3 : Nat) < 10)⟩, ⟨Nat.zero_le _, fun i h => absurd h (Nat.not_lt_zero i)⟩, ⟨Nat.zero_le _, fun i h => absurd h (Nat.not_lt_zero i)⟩, Nat.zero_le _, fun s _ => ⟨Nat.zero_le _, Nat.zero_le _⟩⟩
theorem q_S0_nv : q_nv q_S0 = 0 := by decide +kernel
theorem q_S0_nm : q_nm q_S0 = 0 := by decide +kernel
theorem q_S0_ord : q_ord (q_I q_S0) = [] := by
  have h : q_I q_S0 5 0 = 0 := q_S0_nm
  rw [q_ordn_eq, h]
  have hl := q_ordn_len (q_I q_S0 6) 0 (fun m hm => absurd hm (Nat.not_lt_zero m))
  exact List.length_eq_zero_iff.mp hl
theorem q_M0_f {s : Nat} (hs : s < 4) : q_M0 51 s = -1 ∧ q_M0 54 s = -1 := by
  have : s = 0 ∨ s = 1 ∨ s = 2 ∨ s = 3 := by omega
  rcases this with rfl | rfl | rfl | rfl <;> exact ⟨rfl, rfl⟩
theorem q_rC0 : q_rC q_M0 q_S0 (fun _ => 0) := by
  have hv : q_I q_S0 0 0 = 0 := q_S0_nv
  have hm : q_I q_S0 5 0 = 0 := q_S0_nm
  refine ⟨⟨⟨rfl, fun i h => absurd h (Nat.not_lt_zero i)⟩, ⟨rfl, fun i h => absurd h (Nat.not_lt_zero i)⟩, ⟨rfl, rfl⟩, rfl, Nat.zero_le _, fun i h => absurd h (Nat.not_lt_zero i)⟩, ⟨⟨by rw [hv]; rfl, fun v h => (by rw [hv] at h; exact absurd h (Nat.not_lt_zero v))⟩, ⟨by rw [hm]; rfl, fun m h => (by rw [hm] at h; exact absurd h (Nat.not_lt_zero m)), fun t x hx => (by rw [q_S0_ord] at hx; cases hx), by rw [q_S0_ord, hm]; rfl, rfl, rfl⟩, fun v h => (by rw [hv] at h; exact absurd h (Nat.not_lt_zero v)), fun m h => (by rw [q_S0_ord] at h; cases h), ?_, ?_⟩, ⟨⟨rfl, fun i h => absurd h (Nat.not_lt_zero i)⟩, rfl, fun s hs => ⟨(q_M0_f hs).1, fun h => absurd rfl h⟩, fun k _ => rfl⟩, .inl rfl⟩
  · unfold q_pb
    rw [hm]
    rfl
  · unfold q_db
    rw [hm]
    rfl
theorem q_rM0 : q_rM q_M0 q_S0 (fun _ => 0) :=
  ⟨⟨rfl, Nat.zero_le _, fun i h => absurd h (Nat.not_lt_zero i)⟩, ⟨rfl, Nat.zero_le _, fun i h => absurd h (Nat.not_lt_zero i)⟩, ⟨rfl, rfl⟩, ⟨rfl, Nat.zero_le _, rfl, by decide, fun i h => absurd h (Nat.not_lt_zero i), fun i h => absurd h (Nat.not_lt_zero i)⟩, ⟨rfl, fun i h => absurd h (Nat.not_lt_zero i)⟩, rfl, fun s hs => ⟨(q_M0_f hs).2, rfl⟩, fun k _ => rfl⟩
/-! one object's call leaves the other's state -/
theorem q_rM_hi {M M1 : zM} {S : q_N} {it : Nat → Int32} (h : q_rM M S it) (fr : q_hi M M1) : q_rM M1 S it := by
  obtain ⟨⟨a1, a2, a3⟩, ⟨b1, b2, b3⟩, ⟨c1, c2⟩, ⟨d1, d2, d3, d4, d5, d6⟩, ⟨e1, e2⟩, f1, g1, k1⟩ := h
  refine ⟨⟨by rw [fr _ _ (by omega)]; exact a1, a2, fun i hi => by rw [fr _ _ (by omega)]; exact a3 i hi⟩, ⟨by rw [fr _ _ (by omega)]; exact b1, b2, fun i hi => by rw [fr _ _ (by omega)]; exact b3 i hi⟩, ⟨by rw [fr _ _ (by omega)]; exact c1, by rw [fr _ _ (by omega)]; exact c2⟩, ⟨by rw [fr _ _ (by omega)]; exact d1, d2, by rw [fr _ _ (by omega)]; exact d3, d4, d5, fun i hi => ?_⟩, ⟨by rw [fr _ _ (by omega)]; exact e1, fun i hi => ?_⟩, by rw [fr _ _ (by omega)]; exact f1, fun s hs => ?_, fun k hk => by rw [fr _ _ (by omega)]; exact k1 k hk⟩
  · rw [fr 63 (3 * i) (by omega), fr 63 (3 * i + 1) (by omega), fr 63 (3 * i + 2) (by omega)]
    exact d6 i hi
  · rw [fr 75 (2 * i) (by omega), fr 75 (2 * i + 1) (by omega)]
    exact e2 i hi
  · rw [fr 54 s (by omega), fr 55 s (by omega)]
    exact g1 s hs
theorem q_rC_lo {M M1 : zM} {S : q_N} {it : Nat → Int32} (h : q_rC M S it) (fr : q_lo M M1) : q_rC M1 S it := by
  have hf : q_fr (fun a _ => 53 ≤ a) M M1 := fun a b hn => fr a b (by omega)
  obtain ⟨h1, h2, h3, h4⟩ := h
  refine ⟨q_CT_fr h1 hf (fun a b q => by omega), q_CV_fr h2 hf (fun a b q => by omega), q_CS_fr h3 hf (fun a b q => by omega), ?_⟩
  unfold q_CC at *
  rw [fr 0 13 (by omega)]
  rcases h4 with h4 | ⟨h4, h5⟩
  · exact .inl h4
  · refine .inr ⟨h4, fun s hs => ?_⟩
    rw [fr 48 s (by omega)]
    exact h5 s hs
theorem q_kdI {kc : Nat} {r : Value} (h : q_kd kc r = true) (hk : (kc == 60 || kc == 77) = false) : ∃ z, r = .int z := by
  cases r with
  | int z => exact ⟨z, rfl⟩
  | long z => exact absurd (h.symm.trans hk) (by decide)
  | _ => cases h
theorem q_kdL {kc : Nat} {r : Value} (h : q_kd kc r = true) (hk : (kc == 60 || kc == 77) = true) : ∃ z, r = .long z := by
  cases r with
  | int z =>
    have e : (!(kc == 60 || kc == 77)) = true := h
    rw [hk] at e
    cases e
  | long z => exact ⟨z, rfl⟩
  | _ => cases h
