def zn_Fv : String := "FoolVotes"
def zn_Ca : String := "FoolVotes$Canton"
def zn_Sh : String := "FoolVotes$Sheets"
def zn_Te : String := "FoolVotes$Text"
def zn_Vo : String := "FoolVotes$Votes"
def zn_Mo : String := "FoolVotesModel"
def zn_In : String := "java/lang/Integer"
def zn_Ma : String := "java/lang/Math"
def zn_Ar : String := "java/util/Arrays"
def zT_Fv : u_T := fun k => match k with
  | 0 => ("FoolVotes", "voterText", "LFoolVotes$Text;", true)
  | 1 => ("FoolVotes", "measureText", "LFoolVotes$Text;", true)
  | 2 => ("FoolVotes", "told", "LFoolVotes$Canton;", true)
  | 3 => ("FoolVotes", "votes", "LFoolVotes$Votes;", true)
  | 4 => ("FoolVotes", "trial", "LFoolVotes$Canton;", true)
  | 5 => ("FoolVotes", "tried", "LFoolVotes$Votes;", true)
  | 6 => ("FoolVotes", "seenMeasure", "[I", true)
  | 7 => ("FoolVotes", "seenIs", "[I", true)
  | 8 => ("FoolVotes", "passedByHeart", "[I", true)
  | 9 => ("FoolVotes", "outcomes", "[I", true)
  | 10 => ("FoolVotes", "sheets", "LFoolVotes$Sheets;", true)
  | 11 => ("FoolVotes", "seenCount", "I", false)
  | 12 => ("FoolVotes", "latestFinding", "I", false)
  | _ => ("FoolVotes", "outcomesStale", "Z", false)
def zy_Fv : Nat → FieldType := fun k => match k with
  | 0 => .object "FoolVotes$Text"
  | 1 => .object "FoolVotes$Text"
  | 2 => .object "FoolVotes$Canton"
  | 3 => .object "FoolVotes$Votes"
  | 4 => .object "FoolVotes$Canton"
  | 5 => .object "FoolVotes$Votes"
  | 6 => .array .int
  | 7 => .array .int
  | 8 => .array .int
  | 9 => .array .int
  | 10 => .object "FoolVotes$Sheets"
  | 11 => .int
  | 12 => .int
  | _ => .boolean
theorem zN_Fv : ∀ a, a < 14 → ∀ b, b < 14 → a ≠ b → (zT_Fv a).2.1 ≠ (zT_Fv b).2.1 := by decide +kernel
theorem zY_Fv : ∀ k, k < 14 → parseFieldDescriptor (zT_Fv k).2.2.1 = some (zy_Fv k) := by decide +kernel
theorem zI_Fv : ∀ w ∈ u_ws zn_Fv zT_Fv 14, w ∈ zt_G := by
  intro w hw
  obtain ⟨k, hk, rfl⟩ := List.mem_map.mp hw
  have hk := List.mem_range.mp hk
  match k, hk with
  | 0, _ => exact zt_in 201 (by decide +kernel) rfl
  | 1, _ => exact zt_in 203 (by decide +kernel) rfl
  | 2, _ => exact zt_in 205 (by decide +kernel) rfl
  | 3, _ => exact zt_in 207 (by decide +kernel) rfl
  | 4, _ => exact zt_in 209 (by decide +kernel) rfl
  | 5, _ => exact zt_in 211 (by decide +kernel) rfl
  | 6, _ => exact zt_in 213 (by decide +kernel) rfl
  | 7, _ => exact zt_in 215 (by decide +kernel) rfl
  | 8, _ => exact zt_in 217 (by decide +kernel) rfl
  | 9, _ => exact zt_in 219 (by decide +kernel) rfl
  | 10, _ => exact zt_in 221 (by decide +kernel) rfl
  | 11, _ => exact zt_in 223 (by decide +kernel) rfl
  | 12, _ => exact zt_in 225 (by decide +kernel) rfl
  | 13, _ => exact zt_in 227 (by decide +kernel) rfl
  | k + 14, h => exact absurd h (by omega)
def zT_Ca : u_T := fun k => match k with
  | 0 => ("FoolVotes$Canton", "voters", "I", false)
  | 1 => ("FoolVotes$Canton", "sort", "[I", true)
  | 2 => ("FoolVotes$Canton", "likes", "[I", true)
  | 3 => ("FoolVotes$Canton", "grudge", "[I", true)
  | 4 => ("FoolVotes$Canton", "speaker", "[I", true)
  | 5 => ("FoolVotes$Canton", "measures", "I", false)
  | 6 => ("FoolVotes$Canton", "year", "[I", true)
  | 7 => ("FoolVotes$Canton", "traits", "[I", true)
  | 8 => ("FoolVotes$Canton", "turn", "[I", true)
  | 9 => ("FoolVotes$Canton", "events", "I", false)
  | 10 => ("FoolVotes$Canton", "kind", "[I", true)
  | 11 => ("FoolVotes$Canton", "when", "[I", true)
  | 12 => ("FoolVotes$Canton", "number", "[I", true)
  | 13 => ("FoolVotes$Canton", "foolLikes", "I", false)
  | _ => ("FoolVotes$Canton", "weight", "I", false)
def zy_Ca : Nat → FieldType := fun k => match k with
  | 0 => .int
  | 1 => .array .int
  | 2 => .array .int
  | 3 => .array .int
  | 4 => .array .int
  | 5 => .int
  | 6 => .array .int
  | 7 => .array .int
  | 8 => .array .int
  | 9 => .int
  | 10 => .array .int
  | 11 => .array .int
  | 12 => .array .int
  | 13 => .int
  | _ => .int
theorem zN_Ca : ∀ a, a < 15 → ∀ b, b < 15 → a ≠ b → (zT_Ca a).2.1 ≠ (zT_Ca b).2.1 := by decide +kernel
theorem zY_Ca : ∀ k, k < 15 → parseFieldDescriptor (zT_Ca k).2.2.1 = some (zy_Ca k) := by decide +kernel
theorem zI_Ca : ∀ w ∈ u_ws zn_Ca zT_Ca 15, w ∈ zt_G := by
  intro w hw
  obtain ⟨k, hk, rfl⟩ := List.mem_map.mp hw
  have hk := List.mem_range.mp hk
  match k, hk with
  | 0, _ => exact zt_in 81 (by decide +kernel) rfl
  | 1, _ => exact zt_in 83 (by decide +kernel) rfl
  | 2, _ => exact zt_in 85 (by decide +kernel) rfl
  | 3, _ => exact zt_in 87 (by decide +kernel) rfl
  | 4, _ => exact zt_in 89 (by decide +kernel) rfl
  | 5, _ => exact zt_in 91 (by decide +kernel) rfl
  | 6, _ => exact zt_in 93 (by decide +kernel) rfl
  | 7, _ => exact zt_in 95 (by decide +kernel) rfl
  | 8, _ => exact zt_in 97 (by decide +kernel) rfl
  | 9, _ => exact zt_in 99 (by decide +kernel) rfl
  | 10, _ => exact zt_in 101 (by decide +kernel) rfl
  | 11, _ => exact zt_in 103 (by decide +kernel) rfl
  | 12, _ => exact zt_in 105 (by decide +kernel) rfl
  | 13, _ => exact zt_in 107 (by decide +kernel) rfl
  | 14, _ => exact zt_in 109 (by decide +kernel) rfl
  | k + 15, h => exact absurd h (by omega)
def zT_Sh : u_T := fun k => match k with
  | 0 => ("FoolVotes$Sheets", "form", "[I", true)
  | 1 => ("FoolVotes$Sheets", "size", "[I", true)
  | _ => ("FoolVotes$Sheets", "items", "[I", true)
def zy_Sh : Nat → FieldType := fun k => match k with
  | 0 => .array .int
  | 1 => .array .int
  | _ => .array .int
theorem zN_Sh : ∀ a, a < 3 → ∀ b, b < 3 → a ≠ b → (zT_Sh a).2.1 ≠ (zT_Sh b).2.1 := by decide +kernel
theorem zY_Sh : ∀ k, k < 3 → parseFieldDescriptor (zT_Sh k).2.2.1 = some (zy_Sh k) := by decide +kernel
theorem zI_Sh : ∀ w ∈ u_ws zn_Sh zT_Sh 3, w ∈ zt_G := by
  intro w hw
  obtain ⟨k, hk, rfl⟩ := List.mem_map.mp hw
  have hk := List.mem_range.mp hk
  match k, hk with
  | 0, _ => exact zt_in 180 (by decide +kernel) rfl
  | 1, _ => exact zt_in 182 (by decide +kernel) rfl
  | 2, _ => exact zt_in 184 (by decide +kernel) rfl
  | k + 3, h => exact absurd h (by omega)
def zT_Te : u_T := fun k => match k with
  | 0 => ("FoolVotes$Text", "bytes", "[I", true)
  | _ => ("FoolVotes$Text", "length", "I", false)
def zy_Te : Nat → FieldType := fun k => match k with
  | 0 => .array .int
  | _ => .int
theorem zN_Te : ∀ a, a < 2 → ∀ b, b < 2 → a ≠ b → (zT_Te a).2.1 ≠ (zT_Te b).2.1 := by decide +kernel
theorem zY_Te : ∀ k, k < 2 → parseFieldDescriptor (zT_Te k).2.2.1 = some (zy_Te k) := by decide +kernel
theorem zI_Te : ∀ w ∈ u_ws zn_Te zT_Te 2, w ∈ zt_G := by
  intro w hw
  obtain ⟨k, hk, rfl⟩ := List.mem_map.mp hw
  have hk := List.mem_range.mp hk
  match k, hk with
  | 0, _ => exact zt_in 28 (by decide +kernel) rfl
  | 1, _ => exact zt_in 30 (by decide +kernel) rfl
  | k + 2, h => exact absurd h (by omega)
def zT_Vo : u_T := fun k => match k with
  | 0 => ("FoolVotes$Votes", "said", "[I", true)
  | 1 => ("FoolVotes$Votes", "ayes", "[I", true)
  | 2 => ("FoolVotes$Votes", "noes", "[I", true)
  | 3 => ("FoolVotes$Votes", "foolDid", "[I", true)
  | 4 => ("FoolVotes$Votes", "passed", "I", false)
  | 5 => ("FoolVotes$Votes", "decided", "I", false)
  | 6 => ("FoolVotes$Votes", "likes", "[I", true)
  | 7 => ("FoolVotes$Votes", "grudge", "[I", true)
  | 8 => ("FoolVotes$Votes", "coats", "[I", true)
  | 9 => ("FoolVotes$Votes", "otherwise", "[I", true)
  | 10 => ("FoolVotes$Votes", "withDog", "Z", false)
  | 11 => ("FoolVotes$Votes", "withApple", "Z", false)
  | _ => ("FoolVotes$Votes", "hushed", "I", false)
def zy_Vo : Nat → FieldType := fun k => match k with
  | 0 => .array .int
  | 1 => .array .int
  | 2 => .array .int
  | 3 => .array .int
  | 4 => .int
  | 5 => .int
  | 6 => .array .int
  | 7 => .array .int
  | 8 => .array .int
  | 9 => .array .int
  | 10 => .boolean
  | 11 => .boolean
  | _ => .int
theorem zN_Vo : ∀ a, a < 13 → ∀ b, b < 13 → a ≠ b → (zT_Vo a).2.1 ≠ (zT_Vo b).2.1 := by decide +kernel
theorem zY_Vo : ∀ k, k < 13 → parseFieldDescriptor (zT_Vo k).2.2.1 = some (zy_Vo k) := by decide +kernel
theorem zI_Vo : ∀ w ∈ u_ws zn_Vo zT_Vo 13, w ∈ zt_G := by
  intro w hw
  obtain ⟨k, hk, rfl⟩ := List.mem_map.mp hw
  have hk := List.mem_range.mp hk
  match k, hk with
  | 0, _ => exact zt_in 141 (by decide +kernel) rfl
  | 1, _ => exact zt_in 143 (by decide +kernel) rfl
  | 2, _ => exact zt_in 145 (by decide +kernel) rfl
  | 3, _ => exact zt_in 147 (by decide +kernel) rfl
  | 4, _ => exact zt_in 149 (by decide +kernel) rfl
  | 5, _ => exact zt_in 151 (by decide +kernel) rfl
  | 6, _ => exact zt_in 153 (by decide +kernel) rfl
  | 7, _ => exact zt_in 155 (by decide +kernel) rfl
  | 8, _ => exact zt_in 157 (by decide +kernel) rfl
  | 9, _ => exact zt_in 159 (by decide +kernel) rfl
  | 10, _ => exact zt_in 161 (by decide +kernel) rfl
  | 11, _ => exact zt_in 163 (by decide +kernel) rfl
  | 12, _ => exact zt_in 165 (by decide +kernel) rfl
  | k + 13, h => exact absurd h (by omega)
def zT_Mo : u_T := fun k => match k with
  | 0 => ("FoolVotesModel", "forms", "[I", true)
  | 1 => ("FoolVotesModel", "sizes", "[I", true)
  | 2 => ("FoolVotesModel", "items", "[I", true)
  | 3 => ("FoolVotesModel", "moved", "[I", true)
  | 4 => ("FoolVotesModel", "latest", "I", false)
  | 5 => ("FoolVotesModel", "bytes", "[I", true)
  | 6 => ("FoolVotesModel", "typed", "[I", true)
  | 7 => ("FoolVotesModel", "voters", "I", false)
  | 8 => ("FoolVotesModel", "voter", "[I", true)
  | 9 => ("FoolVotesModel", "measures", "I", false)
  | 10 => ("FoolVotesModel", "measure", "[I", true)
  | 11 => ("FoolVotesModel", "fools", "[I", true)
  | 12 => ("FoolVotesModel", "events", "I", false)
  | 13 => ("FoolVotesModel", "event", "[I", true)
  | 14 => ("FoolVotesModel", "gone", "I", false)
  | 15 => ("FoolVotesModel", "speaks", "[I", true)
  | 16 => ("FoolVotesModel", "likes", "[I", true)
  | 17 => ("FoolVotesModel", "grudge", "[I", true)
  | 18 => ("FoolVotesModel", "coats", "[I", true)
  | 19 => ("FoolVotesModel", "others", "[I", true)
  | 20 => ("FoolVotesModel", "saidBy", "[I", true)
  | 21 => ("FoolVotesModel", "ayes", "[I", true)
  | 22 => ("FoolVotesModel", "noes", "[I", true)
  | 23 => ("FoolVotesModel", "fooled", "[I", true)
  | 24 => ("FoolVotesModel", "passed", "[Z", true)
  | 25 => ("FoolVotesModel", "decided", "[Z", true)
  | 26 => ("FoolVotesModel", "level", "I", false)
  | 27 => ("FoolVotesModel", "sights", "I", false)
  | 28 => ("FoolVotesModel", "sight", "[I", true)
  | 29 => ("FoolVotesModel", "ways", "[I", true)
  | _ => ("FoolVotesModel", "drawn", "I", false)
def zy_Mo : Nat → FieldType := fun k => match k with
  | 0 => .array .int
  | 1 => .array .int
  | 2 => .array .int
  | 3 => .array .int
  | 4 => .int
  | 5 => .array .int
  | 6 => .array .int
  | 7 => .int
  | 8 => .array .int
  | 9 => .int
  | 10 => .array .int
  | 11 => .array .int
  | 12 => .int
  | 13 => .array .int
  | 14 => .int
  | 15 => .array .int
  | 16 => .array .int
  | 17 => .array .int
  | 18 => .array .int
  | 19 => .array .int
  | 20 => .array .int
  | 21 => .array .int
  | 22 => .array .int
  | 23 => .array .int
  | 24 => .array .boolean
  | 25 => .array .boolean
  | 26 => .int
  | 27 => .int
  | 28 => .array .int
  | 29 => .array .int
  | _ => .int
theorem zN_Mo : ∀ a, a < 31 → ∀ b, b < 31 → a ≠ b → (zT_Mo a).2.1 ≠ (zT_Mo b).2.1 := by decide +kernel
theorem zY_Mo : ∀ k, k < 31 → parseFieldDescriptor (zT_Mo k).2.2.1 = some (zy_Mo k) := by decide +kernel
theorem zI_Mo : ∀ w ∈ u_ws zn_Mo zT_Mo 31, w ∈ zt_G := by
  intro w hw
  obtain ⟨k, hk, rfl⟩ := List.mem_map.mp hw
  have hk := List.mem_range.mp hk
  match k, hk with
  | 0, _ => exact zt_in 608 (by decide +kernel) rfl
  | 1, _ => exact zt_in 610 (by decide +kernel) rfl
  | 2, _ => exact zt_in 612 (by decide +kernel) rfl
  | 3, _ => exact zt_in 614 (by decide +kernel) rfl
  | 4, _ => exact zt_in 616 (by decide +kernel) rfl
  | 5, _ => exact zt_in 618 (by decide +kernel) rfl
  | 6, _ => exact zt_in 620 (by decide +kernel) rfl
  | 7, _ => exact zt_in 622 (by decide +kernel) rfl
  | 8, _ => exact zt_in 624 (by decide +kernel) rfl
  | 9, _ => exact zt_in 626 (by decide +kernel) rfl
  | 10, _ => exact zt_in 628 (by decide +kernel) rfl
  | 11, _ => exact zt_in 630 (by decide +kernel) rfl
  | 12, _ => exact zt_in 632 (by decide +kernel) rfl
  | 13, _ => exact zt_in 634 (by decide +kernel) rfl
  | 14, _ => exact zt_in 636 (by decide +kernel) rfl
  | 15, _ => exact zt_in 638 (by decide +kernel) rfl
  | 16, _ => exact zt_in 640 (by decide +kernel) rfl
  | 17, _ => exact zt_in 642 (by decide +kernel) rfl
  | 18, _ => exact zt_in 644 (by decide +kernel) rfl
  | 19, _ => exact zt_in 646 (by decide +kernel) rfl
  | 20, _ => exact zt_in 648 (by decide +kernel) rfl
  | 21, _ => exact zt_in 650 (by decide +kernel) rfl
  | 22, _ => exact zt_in 652 (by decide +kernel) rfl
  | 23, _ => exact zt_in 654 (by decide +kernel) rfl
  | 24, _ => exact zt_in 656 (by decide +kernel) rfl
  | 25, _ => exact zt_in 658 (by decide +kernel) rfl
  | 26, _ => exact zt_in 660 (by decide +kernel) rfl
  | 27, _ => exact zt_in 662 (by decide +kernel) rfl
  | 28, _ => exact zt_in 664 (by decide +kernel) rfl
  | 29, _ => exact zt_in 666 (by decide +kernel) rfl
  | 30, _ => exact zt_in 668 (by decide +kernel) rfl
  | k + 31, h => exact absurd h (by omega)
/-- the classes whose objects the worlds hold -/
abbrev zc_cl : List vw_C := [(zn_Fv, zT_Fv, 14), (zn_Ca, zT_Ca, 15), (zn_Sh, zT_Sh, 3), (zn_Te, zT_Te, 2), (zn_Vo, zT_Vo, 13), (zn_Mo, zT_Mo, 31)]
/-- the world: an array (0: of ints, 1: of booleans; its length), or an object (its class; for each field the cell that it names, or none: a number) -/
def zs_sh : List ((Nat × Nat) ⊕ (Nat × List (Option Nat))) := [
  .inr (0, [some 1, some 3, some 5, some 16, some 25, some 36, some 45, some 46, some 47, some 48, some 49, none, none, none]),
  .inr (3, [some 2, none]),
  .inl (0, 31),
  .inr (3, [some 4, none]),
  .inl (0, 35),
  .inr (1, [none, some 6, some 7, some 8, some 9, none, some 10, some 11, some 12, none, some 13, some 14, some 15, none, none]),
  .inl (0, 8),
  .inl (0, 8),
  .inl (0, 8),
  .inl (0, 8),
  .inl (0, 12),
  .inl (0, 12),
  .inl (0, 12),
  .inl (0, 8),
  .inl (0, 8),
  .inl (0, 8),
  .inr (4, [some 17, some 18, some 19, some 20, none, none, some 21, some 22, some 23, some 24, none, none, none]),
  .inl (0, 96),
  .inl (0, 12),
  .inl (0, 12),
  .inl (0, 12),
  .inl (0, 8),
  .inl (0, 8),
  .inl (0, 8),
  .inl (0, 8),
  .inr (1, [none, some 26, some 27, some 28, some 29, none, some 30, some 31, some 32, none, some 33, some 34, some 35, none, none]),
  .inl (0, 8),
  .inl (0, 8),
  .inl (0, 8),
  .inl (0, 8),
  .inl (0, 12),
  .inl (0, 12),
  .inl (0, 12),
  .inl (0, 8),
  .inl (0, 8),
  .inl (0, 8),
  .inr (4, [some 37, some 38, some 39, some 40, none, none, some 41, some 42, some 43, some 44, none, none, none]),
  .inl (0, 96),
  .inl (0, 12),
  .inl (0, 12),
  .inl (0, 12),
  .inl (0, 8),
  .inl (0, 8),
  .inl (0, 8),
  .inl (0, 8),
  .inl (0, 8),
  .inl (0, 8),
  .inl (0, 8),
  .inl (0, 256),
  .inr (2, [some 50, some 51, some 52]),
  .inl (0, 4),
  .inl (0, 4),
  .inl (0, 240),
  .inr (5, [some 54, some 55, some 56, some 57, none, some 58, some 59, none, some 60, none, some 61, some 62, none, some 63, none, some 64, some 65, some 66, some 67, some 68, some 69, some 70, some 71, some 72, some 73, some 74, none, none, some 75, some 76, none]),
  .inl (0, 4),
  .inl (0, 4),
  .inl (0, 240),
  .inl (0, 60),
  .inl (0, 72),
  .inl (0, 2),
  .inl (0, 24),
  .inl (0, 24),
  .inl (0, 2),
  .inl (0, 24),
  .inl (0, 8),
  .inl (0, 8),
  .inl (0, 8),
  .inl (0, 8),
  .inl (0, 8),
  .inl (0, 96),
  .inl (0, 12),
  .inl (0, 12),
  .inl (0, 12),
  .inl (1, 12),
  .inl (1, 12),
  .inl (0, 16),
  .inl (0, 8)]
/-- which number fields are booleans -/
def zs_isZ (c j : Nat) : Bool := ([(0, 13), (4, 10), (4, 11)] : List (Nat × Nat)).contains (c, j)
