/-! ===== stretches as trees: some end is reached, and it is as Q says ===== -/
def rW (γ : rG) (l : Launch) (M : rM) (k n pc : Nat) (L : List (Option Value)) (st : List Value) (h : rHeap) (Q : rHeap → Option Value → Prop) : Prop := ∃ hf r, rV γ l M k n pc L st h hf r ∧ Q hf r
