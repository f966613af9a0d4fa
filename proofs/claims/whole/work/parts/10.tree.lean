/-! A BLOCK: instructions one behind another; a jump comes to what At says there -/
def evA (X : zX) (k : Nat) (res : List Value) (M' : zM) : List Instr → List (Option Value) → List Value → zM → Prop
  | [], _, _, _ => False
  | i :: cs, L, S, M => stp X (fun t L S M => At X k t L S M res M') res M' i L S M (fun L S M => evA X k res M' cs L S M)
theorem At.go {X : zX} {k : Nat} {M' : zM} {res : List Value} : ∀ (cs : List Instr) {pc : Nat} {L : List (Option Value)} {S : List Value} {M : zM}, zck k pc cs = true → evA X k res M' cs L S M → At X k pc L S M res M'
  | [], _, _, _, _, _, h => False.elim h
  | i :: cs, pc, L, S, M, hc, h => by
    unfold zck at hc
    split at hc
    · rename_i pc' hi
      exact sd_stp hi (fun t L S M q => q) (fun L S M q => At.go cs hc q) h
    · cases hc
