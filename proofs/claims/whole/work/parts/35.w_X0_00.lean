abbrev s_X0_forget_0 (γ : rG) (l : Launch) (x0 : Nat) (x1 : Int32) (h : rHeap) (Q : rHeap → Option Value → Prop) : Prop := rW γ l m_X0_forget 0 0 0 [some (.ref x0), some (.int x1)] [] h Q
theorem w_X0_forget_0 {γ : rG} {l : Launch} {Q : rHeap → Option Value → Prop} {sh : Nat × (Nat → Nat) × (Nat → Nat)} {I : Nat → Nat → Int32} {J : Nat → Nat → Int64} {R : Nat → Nat → Option Nat} {x0 : Nat} {x1 : Int32}
    (h_x0 : At0 sh R x0)
    (t : Q (sh, (up (up (up (up (up (up (up (up I x0 0 x1) x0 1 (0 : Int32)) x0 2 (0 : Int32)) x0 3 (0 : Int32)) x0 4 (0 : Int32)) x0 5 (0 : Int32)) x0 6 (0 : Int32)) x0 7 (0 : Int32)), J, R) (none)) :
    rW γ l m_X0_forget 0 0 0 [some (.ref x0), some (.int x1)] [] (sh, I, J, R) Q := by
  exact ⟨_, _, b_X0_forget_0  h_x0 ⟨rfl, rfl⟩, t⟩
abbrev s_X0_noteCrease_0 (γ : rG) (l : Launch) (x0 : Nat) (x1 : Int32) (x2 : Int32) (h : rHeap) (Q : rHeap → Option Value → Prop) : Prop := rW γ l m_X0_noteCrease 0 0 0 [some (.ref x0), some (.int x1), some (.int x2), none] [] h Q
theorem w_X0_noteCrease_0 {γ : rG} {l : Launch} {Q : rHeap → Option Value → Prop} {sh : Nat × (Nat → Nat) × (Nat → Nat)} {I : Nat → Nat → Int32} {J : Nat → Nat → Int64} {R : Nat → Nat → Option Nat} {x0 : Nat} {x1 : Int32} {x2 : Int32}
    (h_x0 : At0 sh R x0)
    (t : (x1 < 0 → (Q (sh, I, J, R) (some (.int (0 : Int32))))) ∧ (¬ x1 < 0 → ((((I x0 0) - (1 : Int32)) ≤ x1 → (Q (sh, I, J, R) (some (.int (0 : Int32))))) ∧ (¬ ((I x0 0) - (1 : Int32)) ≤ x1 → ((x2 < (-1 : Int32) → (Q (sh, I, J, R) (some (.int (0 : Int32))))) ∧ (¬ x2 < (-1 : Int32) → ((x2 ≤ (3 : Int32) → ((x2 = (-1 : Int32) → (rW γ l m_X0_noteCrease 0 0 55 [some (.ref x0), some (.int x1), some (.int x2), some (.int ((3 : Int32) <<< (((2 : Int32) * x1) &&& 31)))] [.int ((I x0 1) &&& (((3 : Int32) <<< (((2 : Int32) * x1) &&& 31)) ^^^ (-1 : Int32))), .ref x0] (sh, I, J, R) Q)) ∧ (¬ x2 = (-1 : Int32) → (rW γ l m_X0_noteCrease 0 0 55 [some (.ref x0), some (.int x1), some (.int x2), some (.int ((3 : Int32) <<< (((2 : Int32) * x1) &&& 31)))] [.int ((I x0 1) ||| ((3 : Int32) <<< (((2 : Int32) * x1) &&& 31))), .ref x0] (sh, I, J, R) Q)))) ∧ (¬ x2 ≤ (3 : Int32) → (Q (sh, I, J, R) (some (.int (0 : Int32)))))))))))) :
    rW γ l m_X0_noteCrease 0 0 0 [some (.ref x0), some (.int x1), some (.int x2), none] [] (sh, I, J, R) Q := by
  by_cases p0 : x1 < 0
  · have t := t.1 p0
    exact ⟨_, _, b_X0_noteCrease_0  h_x0 (fun _ => ⟨rfl, rfl⟩) (fun y0 _ => absurd p0 y0) (fun y0 _ _ => absurd p0 y0) (fun y0 _ _ _ _ => absurd p0 y0) (fun y0 _ _ _ _ => absurd p0 y0) (fun y0 _ _ _ => absurd p0 y0), t⟩
  · have t := t.2 p0
    by_cases p1 : ((I x0 0) - (1 : Int32)) ≤ x1
    · have t := t.1 p1
      exact ⟨_, _, b_X0_noteCrease_0  h_x0 (fun y0 => absurd y0 p0) (fun _ _ => ⟨rfl, rfl⟩) (fun _ y1 _ => absurd p1 y1) (fun _ y1 _ _ _ => absurd p1 y1) (fun _ y1 _ _ _ => absurd p1 y1) (fun _ y1 _ _ => absurd p1 y1), t⟩
    · have t := t.2 p1
      by_cases p2 : x2 < (-1 : Int32)
      · have t := t.1 p2
        exact ⟨_, _, b_X0_noteCrease_0  h_x0 (fun y0 => absurd y0 p0) (fun _ y1 => absurd y1 p1) (fun _ _ _ => ⟨rfl, rfl⟩) (fun _ _ y2 _ _ => absurd p2 y2) (fun _ _ y2 _ _ => absurd p2 y2) (fun _ _ y2 _ => absurd p2 y2), t⟩
      · have t := t.2 p2
        by_cases p3 : x2 ≤ (3 : Int32)
        · have t := t.1 p3
          by_cases p4 : x2 = (-1 : Int32)
          · have t := t.1 p4
            obtain ⟨hf, r, t, q⟩ := t
            exact ⟨hf, r, b_X0_noteCrease_0  h_x0 (fun y0 => absurd y0 p0) (fun _ y1 => absurd y1 p1) (fun _ _ y2 => absurd y2 p2) (fun _ _ _ _ y4 => absurd p4 y4) (fun _ _ _ _ _ => t) (fun _ _ _ y3 => absurd p3 y3), q⟩
          · have t := t.2 p4
            obtain ⟨hf, r, t, q⟩ := t
            exact ⟨hf, r, b_X0_noteCrease_0  h_x0 (fun y0 => absurd y0 p0) (fun _ y1 => absurd y1 p1) (fun _ _ y2 => absurd y2 p2) (fun _ _ _ _ _ => t) (fun _ _ _ _ y4 => absurd y4 p4) (fun _ _ _ y3 => absurd p3 y3), q⟩
        · have t := t.2 p3
          exact ⟨_, _, b_X0_noteCrease_0  h_x0 (fun y0 => absurd y0 p0) (fun _ y1 => absurd y1 p1) (fun _ _ y2 => absurd y2 p2) (fun _ _ _ y3 _ => absurd y3 p3) (fun _ _ _ y3 _ => absurd y3 p3) (fun _ _ _ _ => ⟨rfl, rfl⟩), t⟩
abbrev s_X0_noteCrease_55 (γ : rG) (l : Launch) (x0 : Nat) (x1 : Int32) (x2 : Int32) (x3 : Int32) (s0 : Int32) (s1 : Nat) (h : rHeap) (Q : rHeap → Option Value → Prop) : Prop := rW γ l m_X0_noteCrease 0 0 55 [some (.ref x0), some (.int x1), some (.int x2), some (.int x3)] [.int s0, .ref s1] h Q
theorem w_X0_noteCrease_55 {γ : rG} {l : Launch} {Q : rHeap → Option Value → Prop} {sh : Nat × (Nat → Nat) × (Nat → Nat)} {I : Nat → Nat → Int32} {J : Nat → Nat → Int64} {R : Nat → Nat → Option Nat} {x0 : Nat} {x1 : Int32} {x2 : Int32} {x3 : Int32} {s0 : Int32} {s1 : Nat}
    (h_x0 : At0 sh R x0)
    (h_s1 : At0 sh R s1)
    (t : (x2 = (-1 : Int32) → (Q (sh, (up (up (up I s1 1 s0) x0 2 (((((up I s1 1 s0) x0 2) &&& (x3 ^^^ (-1 : Int32))) ||| (0 : Int32)))) x0 7 (0 : Int32)), J, R) (some (.int (1 : Int32))))) ∧ (¬ x2 = (-1 : Int32) → (Q (sh, (up (up (up I s1 1 s0) x0 2 (((((up I s1 1 s0) x0 2) &&& (x3 ^^^ (-1 : Int32))) ||| (x2 <<< (((2 : Int32) * x1) &&& 31))))) x0 7 (0 : Int32)), J, R) (some (.int (1 : Int32)))))) :
    rW γ l m_X0_noteCrease 0 0 55 [some (.ref x0), some (.int x1), some (.int x2), some (.int x3)] [.int s0, .ref s1] (sh, I, J, R) Q := by
  by_cases p0 : x2 = (-1 : Int32)
  · have t := t.1 p0
    exact ⟨_, _, b_X0_noteCrease_55  h_x0 h_s1 (fun y0 => absurd p0 y0) (fun _ => ⟨rfl, rfl⟩), t⟩
  · have t := t.2 p0
    exact ⟨_, _, b_X0_noteCrease_55  h_x0 h_s1 (fun _ => ⟨rfl, rfl⟩) (fun y0 => absurd y0 p0), t⟩
abbrev s_X0_noteSlit_0 (γ : rG) (l : Launch) (x0 : Nat) (x1 : Int32) (x2 : Int32) (h : rHeap) (Q : rHeap → Option Value → Prop) : Prop := rW γ l m_X0_noteSlit 0 0 0 [some (.ref x0), some (.int x1), some (.int x2), none] [] h Q
theorem w_X0_noteSlit_0 {γ : rG} {l : Launch} {Q : rHeap → Option Value → Prop} {sh : Nat × (Nat → Nat) × (Nat → Nat)} {I : Nat → Nat → Int32} {J : Nat → Nat → Int64} {R : Nat → Nat → Option Nat} {x0 : Nat} {x1 : Int32} {x2 : Int32}
    (h_x0 : At0 sh R x0)
    (t : (x1 < 0 → (Q (sh, I, J, R) (some (.int (0 : Int32))))) ∧ (¬ x1 < 0 → (((I x0 0) ≤ x1 → (Q (sh, I, J, R) (some (.int (0 : Int32))))) ∧ (¬ (I x0 0) ≤ x1 → ((x2 < (-1 : Int32) → (Q (sh, I, J, R) (some (.int (0 : Int32))))) ∧ (¬ x2 < (-1 : Int32) → ((x2 ≤ (1 : Int32) → ((x2 = (-1 : Int32) → (rW γ l m_X0_noteSlit 0 0 51 [some (.ref x0), none, some (.int x2), some (.int ((1 : Int32) <<< (x1 &&& 31)))] [.int ((I x0 3) &&& (((1 : Int32) <<< (x1 &&& 31)) ^^^ (-1 : Int32))), .ref x0] (sh, I, J, R) Q)) ∧ (¬ x2 = (-1 : Int32) → (rW γ l m_X0_noteSlit 0 0 51 [some (.ref x0), none, some (.int x2), some (.int ((1 : Int32) <<< (x1 &&& 31)))] [.int ((I x0 3) ||| ((1 : Int32) <<< (x1 &&& 31))), .ref x0] (sh, I, J, R) Q)))) ∧ (¬ x2 ≤ (1 : Int32) → (Q (sh, I, J, R) (some (.int (0 : Int32)))))))))))) :
    rW γ l m_X0_noteSlit 0 0 0 [some (.ref x0), some (.int x1), some (.int x2), none] [] (sh, I, J, R) Q := by
  by_cases p0 : x1 < 0
  · have t := t.1 p0
    exact ⟨_, _, b_X0_noteSlit_0  h_x0 (fun _ => ⟨rfl, rfl⟩) (fun y0 _ => absurd p0 y0) (fun y0 _ _ => absurd p0 y0) (fun y0 _ _ _ _ => absurd p0 y0) (fun y0 _ _ _ _ => absurd p0 y0) (fun y0 _ _ _ => absurd p0 y0), t⟩
  · have t := t.2 p0
    by_cases p1 : (I x0 0) ≤ x1
    · have t := t.1 p1
      exact ⟨_, _, b_X0_noteSlit_0  h_x0 (fun y0 => absurd y0 p0) (fun _ _ => ⟨rfl, rfl⟩) (fun _ y1 _ => absurd p1 y1) (fun _ y1 _ _ _ => absurd p1 y1) (fun _ y1 _ _ _ => absurd p1 y1) (fun _ y1 _ _ => absurd p1 y1), t⟩
    · have t := t.2 p1
      by_cases p2 : x2 < (-1 : Int32)
      · have t := t.1 p2
        exact ⟨_, _, b_X0_noteSlit_0  h_x0 (fun y0 => absurd y0 p0) (fun _ y1 => absurd y1 p1) (fun _ _ _ => ⟨rfl, rfl⟩) (fun _ _ y2 _ _ => absurd p2 y2) (fun _ _ y2 _ _ => absurd p2 y2) (fun _ _ y2 _ => absurd p2 y2), t⟩
      · have t := t.2 p2
        by_cases p3 : x2 ≤ (1 : Int32)
        · have t := t.1 p3
          by_cases p4 : x2 = (-1 : Int32)
          · have t := t.1 p4
            obtain ⟨hf, r, t, q⟩ := t
            exact ⟨hf, r, b_X0_noteSlit_0  h_x0 (fun y0 => absurd y0 p0) (fun _ y1 => absurd y1 p1) (fun _ _ y2 => absurd y2 p2) (fun _ _ _ _ y4 => absurd p4 y4) (fun _ _ _ _ _ => t) (fun _ _ _ y3 => absurd p3 y3), q⟩
          · have t := t.2 p4
            obtain ⟨hf, r, t, q⟩ := t
            exact ⟨hf, r, b_X0_noteSlit_0  h_x0 (fun y0 => absurd y0 p0) (fun _ y1 => absurd y1 p1) (fun _ _ y2 => absurd y2 p2) (fun _ _ _ _ _ => t) (fun _ _ _ _ y4 => absurd y4 p4) (fun _ _ _ y3 => absurd p3 y3), q⟩
        · have t := t.2 p3
          exact ⟨_, _, b_X0_noteSlit_0  h_x0 (fun y0 => absurd y0 p0) (fun _ y1 => absurd y1 p1) (fun _ _ y2 => absurd y2 p2) (fun _ _ _ y3 _ => absurd y3 p3) (fun _ _ _ y3 _ => absurd y3 p3) (fun _ _ _ _ => ⟨rfl, rfl⟩), t⟩
abbrev s_X0_noteSlit_51 (γ : rG) (l : Launch) (x0 : Nat) (x2 : Int32) (x3 : Int32) (s0 : Int32) (s1 : Nat) (h : rHeap) (Q : rHeap → Option Value → Prop) : Prop := rW γ l m_X0_noteSlit 0 0 51 [some (.ref x0), none, some (.int x2), some (.int x3)] [.int s0, .ref s1] h Q
theorem w_X0_noteSlit_51 {γ : rG} {l : Launch} {Q : rHeap → Option Value → Prop} {sh : Nat × (Nat → Nat) × (Nat → Nat)} {I : Nat → Nat → Int32} {J : Nat → Nat → Int64} {R : Nat → Nat → Option Nat} {x0 : Nat} {x2 : Int32} {x3 : Int32} {s0 : Int32} {s1 : Nat}
    (h_x0 : At0 sh R x0)
    (h_s1 : At0 sh R s1)
    (t : (x2 = (1 : Int32) → (Q (sh, (up (up (up I s1 3 s0) x0 4 ((((up I s1 3 s0) x0 4) ||| x3))) x0 7 (0 : Int32)), J, R) (some (.int (1 : Int32))))) ∧ (¬ x2 = (1 : Int32) → (Q (sh, (up (up (up I s1 3 s0) x0 4 ((((up I s1 3 s0) x0 4) &&& (x3 ^^^ (-1 : Int32))))) x0 7 (0 : Int32)), J, R) (some (.int (1 : Int32)))))) :
    rW γ l m_X0_noteSlit 0 0 51 [some (.ref x0), none, some (.int x2), some (.int x3)] [.int s0, .ref s1] (sh, I, J, R) Q := by
  by_cases p0 : x2 = (1 : Int32)
  · have t := t.1 p0
    exact ⟨_, _, b_X0_noteSlit_51  h_x0 h_s1 (fun y0 => absurd p0 y0) (fun _ => ⟨rfl, rfl⟩), t⟩
  · have t := t.2 p0
    exact ⟨_, _, b_X0_noteSlit_51  h_x0 h_s1 (fun _ => ⟨rfl, rfl⟩) (fun y0 => absurd y0 p0), t⟩
abbrev s_X0_noteDirt_0 (γ : rG) (l : Launch) (x0 : Nat) (x1 : Int32) (x2 : Int32) (h : rHeap) (Q : rHeap → Option Value → Prop) : Prop := rW γ l m_X0_noteDirt 0 0 0 [some (.ref x0), some (.int x1), some (.int x2), none] [] h Q
theorem w_X0_noteDirt_0 {γ : rG} {l : Launch} {Q : rHeap → Option Value → Prop} {sh : Nat × (Nat → Nat) × (Nat → Nat)} {I : Nat → Nat → Int32} {J : Nat → Nat → Int64} {R : Nat → Nat → Option Nat} {x0 : Nat} {x1 : Int32} {x2 : Int32}
    (h_x0 : At0 sh R x0)
    (t : (x1 < 0 → (Q (sh, I, J, R) (some (.int (0 : Int32))))) ∧ (¬ x1 < 0 → ((((2 : Int32) * (I x0 0)) ≤ x1 → (Q (sh, I, J, R) (some (.int (0 : Int32))))) ∧ (¬ ((2 : Int32) * (I x0 0)) ≤ x1 → ((x2 < (-1 : Int32) → (Q (sh, I, J, R) (some (.int (0 : Int32))))) ∧ (¬ x2 < (-1 : Int32) → ((x2 ≤ (1 : Int32) → ((x2 = (-1 : Int32) → (rW γ l m_X0_noteDirt 0 0 53 [some (.ref x0), none, some (.int x2), some (.int ((1 : Int32) <<< (x1 &&& 31)))] [.int ((I x0 5) &&& (((1 : Int32) <<< (x1 &&& 31)) ^^^ (-1 : Int32))), .ref x0] (sh, I, J, R) Q)) ∧ (¬ x2 = (-1 : Int32) → (rW γ l m_X0_noteDirt 0 0 53 [some (.ref x0), none, some (.int x2), some (.int ((1 : Int32) <<< (x1 &&& 31)))] [.int ((I x0 5) ||| ((1 : Int32) <<< (x1 &&& 31))), .ref x0] (sh, I, J, R) Q)))) ∧ (¬ x2 ≤ (1 : Int32) → (Q (sh, I, J, R) (some (.int (0 : Int32)))))))))))) :
    rW γ l m_X0_noteDirt 0 0 0 [some (.ref x0), some (.int x1), some (.int x2), none] [] (sh, I, J, R) Q := by
  by_cases p0 : x1 < 0
  · have t := t.1 p0
    exact ⟨_, _, b_X0_noteDirt_0  h_x0 (fun _ => ⟨rfl, rfl⟩) (fun y0 _ => absurd p0 y0) (fun y0 _ _ => absurd p0 y0) (fun y0 _ _ _ _ => absurd p0 y0) (fun y0 _ _ _ _ => absurd p0 y0) (fun y0 _ _ _ => absurd p0 y0), t⟩
  · have t := t.2 p0
    by_cases p1 : ((2 : Int32) * (I x0 0)) ≤ x1
    · have t := t.1 p1
      exact ⟨_, _, b_X0_noteDirt_0  h_x0 (fun y0 => absurd y0 p0) (fun _ _ => ⟨rfl, rfl⟩) (fun _ y1 _ => absurd p1 y1) (fun _ y1 _ _ _ => absurd p1 y1) (fun _ y1 _ _ _ => absurd p1 y1) (fun _ y1 _ _ => absurd p1 y1), t⟩
    · have t := t.2 p1
      by_cases p2 : x2 < (-1 : Int32)
      · have t := t.1 p2
        exact ⟨_, _, b_X0_noteDirt_0  h_x0 (fun y0 => absurd y0 p0) (fun _ y1 => absurd y1 p1) (fun _ _ _ => ⟨rfl, rfl⟩) (fun _ _ y2 _ _ => absurd p2 y2) (fun _ _ y2 _ _ => absurd p2 y2) (fun _ _ y2 _ => absurd p2 y2), t⟩
      · have t := t.2 p2
        by_cases p3 : x2 ≤ (1 : Int32)
        · have t := t.1 p3
          by_cases p4 : x2 = (-1 : Int32)
          · have t := t.1 p4
            obtain ⟨hf, r, t, q⟩ := t
            exact ⟨hf, r, b_X0_noteDirt_0  h_x0 (fun y0 => absurd y0 p0) (fun _ y1 => absurd y1 p1) (fun _ _ y2 => absurd y2 p2) (fun _ _ _ _ y4 => absurd p4 y4) (fun _ _ _ _ _ => t) (fun _ _ _ y3 => absurd p3 y3), q⟩
          · have t := t.2 p4
            obtain ⟨hf, r, t, q⟩ := t
            exact ⟨hf, r, b_X0_noteDirt_0  h_x0 (fun y0 => absurd y0 p0) (fun _ y1 => absurd y1 p1) (fun _ _ y2 => absurd y2 p2) (fun _ _ _ _ _ => t) (fun _ _ _ _ y4 => absurd y4 p4) (fun _ _ _ y3 => absurd p3 y3), q⟩
        · have t := t.2 p3
          exact ⟨_, _, b_X0_noteDirt_0  h_x0 (fun y0 => absurd y0 p0) (fun _ y1 => absurd y1 p1) (fun _ _ y2 => absurd y2 p2) (fun _ _ _ y3 _ => absurd y3 p3) (fun _ _ _ y3 _ => absurd y3 p3) (fun _ _ _ _ => ⟨rfl, rfl⟩), t⟩
abbrev s_X0_noteDirt_53 (γ : rG) (l : Launch) (x0 : Nat) (x2 : Int32) (x3 : Int32) (s0 : Int32) (s1 : Nat) (h : rHeap) (Q : rHeap → Option Value → Prop) : Prop := rW γ l m_X0_noteDirt 0 0 53 [some (.ref x0), none, some (.int x2), some (.int x3)] [.int s0, .ref s1] h Q
theorem w_X0_noteDirt_53 {γ : rG} {l : Launch} {Q : rHeap → Option Value → Prop} {sh : Nat × (Nat → Nat) × (Nat → Nat)} {I : Nat → Nat → Int32} {J : Nat → Nat → Int64} {R : Nat → Nat → Option Nat} {x0 : Nat} {x2 : Int32} {x3 : Int32} {s0 : Int32} {s1 : Nat}
    (h_x0 : At0 sh R x0)
    (h_s1 : At0 sh R s1)
    (t : (x2 = (1 : Int32) → (Q (sh, (up (up (up I s1 5 s0) x0 6 ((((up I s1 5 s0) x0 6) ||| x3))) x0 7 (0 : Int32)), J, R) (some (.int (1 : Int32))))) ∧ (¬ x2 = (1 : Int32) → (Q (sh, (up (up (up I s1 5 s0) x0 6 ((((up I s1 5 s0) x0 6) &&& (x3 ^^^ (-1 : Int32))))) x0 7 (0 : Int32)), J, R) (some (.int (1 : Int32)))))) :
    rW γ l m_X0_noteDirt 0 0 53 [some (.ref x0), none, some (.int x2), some (.int x3)] [.int s0, .ref s1] (sh, I, J, R) Q := by
  by_cases p0 : x2 = (1 : Int32)
  · have t := t.1 p0
    exact ⟨_, _, b_X0_noteDirt_53  h_x0 h_s1 (fun y0 => absurd p0 y0) (fun _ => ⟨rfl, rfl⟩), t⟩
  · have t := t.2 p0
    exact ⟨_, _, b_X0_noteDirt_53  h_x0 h_s1 (fun _ => ⟨rfl, rfl⟩) (fun y0 => absurd y0 p0), t⟩
abbrev s_X0_noteAll_0 (γ : rG) (l : Launch) (x0 : Nat) (x1 : Nat) (h : rHeap) (Q : rHeap → Option Value → Prop) : Prop := rW γ l m_X0_noteAll 0 0 0 [some (.ref x0), some (.ref x1)] [] h Q
theorem w_X0_noteAll_0 {γ : rG} {l : Launch} {Q : rHeap → Option Value → Prop} {sh : Nat × (Nat → Nat) × (Nat → Nat)} {I : Nat → Nat → Int32} {J : Nat → Nat → Int64} {R : Nat → Nat → Option Nat} {x0 : Nat} {x1 : Nat}
    (h_x0 : At0 sh R x0)
    (h_x1 : At5 sh R x1)
    (t : ∃ (v2 : Int32), rMet γ l m_X5_slitParts [.ref x1] (sh, (up (up (up I x0 1 ((((1 : Int32) <<< (((2 : Int32) * ((I x0 0) - (1 : Int32))) &&& 31)) - (1 : Int32)))) x0 2 (((up I x0 1 ((((1 : Int32) <<< (((2 : Int32) * ((I x0 0) - (1 : Int32))) &&& 31)) - (1 : Int32)))) x1 2))) x0 3 ((((1 : Int32) <<< (((up (up I x0 1 ((((1 : Int32) <<< (((2 : Int32) * ((I x0 0) - (1 : Int32))) &&& 31)) - (1 : Int32)))) x0 2 (((up I x0 1 ((((1 : Int32) <<< (((2 : Int32) * ((I x0 0) - (1 : Int32))) &&& 31)) - (1 : Int32)))) x1 2))) x0 0) &&& 31)) - (1 : Int32)))), J, R) (sh, (up (up (up I x0 1 ((((1 : Int32) <<< (((2 : Int32) * ((I x0 0) - (1 : Int32))) &&& 31)) - (1 : Int32)))) x0 2 (((up I x0 1 ((((1 : Int32) <<< (((2 : Int32) * ((I x0 0) - (1 : Int32))) &&& 31)) - (1 : Int32)))) x1 2))) x0 3 ((((1 : Int32) <<< (((up (up I x0 1 ((((1 : Int32) <<< (((2 : Int32) * ((I x0 0) - (1 : Int32))) &&& 31)) - (1 : Int32)))) x0 2 (((up I x0 1 ((((1 : Int32) <<< (((2 : Int32) * ((I x0 0) - (1 : Int32))) &&& 31)) - (1 : Int32)))) x1 2))) x0 0) &&& 31)) - (1 : Int32)))), J, R) (some (.int v2)) ∧ (Q (sh, (up (up (up (up (up (up (up I x0 1 ((((1 : Int32) <<< (((2 : Int32) * ((I x0 0) - (1 : Int32))) &&& 31)) - (1 : Int32)))) x0 2 (((up I x0 1 ((((1 : Int32) <<< (((2 : Int32) * ((I x0 0) - (1 : Int32))) &&& 31)) - (1 : Int32)))) x1 2))) x0 3 ((((1 : Int32) <<< (((up (up I x0 1 ((((1 : Int32) <<< (((2 : Int32) * ((I x0 0) - (1 : Int32))) &&& 31)) - (1 : Int32)))) x0 2 (((up I x0 1 ((((1 : Int32) <<< (((2 : Int32) * ((I x0 0) - (1 : Int32))) &&& 31)) - (1 : Int32)))) x1 2))) x0 0) &&& 31)) - (1 : Int32)))) x0 4 v2) x0 5 ((((1 : Int32) <<< (((2 : Int32) * ((up (up (up (up I x0 1 ((((1 : Int32) <<< (((2 : Int32) * ((I x0 0) - (1 : Int32))) &&& 31)) - (1 : Int32)))) x0 2 (((up I x0 1 ((((1 : Int32) <<< (((2 : Int32) * ((I x0 0) - (1 : Int32))) &&& 31)) - (1 : Int32)))) x1 2))) x0 3 ((((1 : Int32) <<< (((up (up I x0 1 ((((1 : Int32) <<< (((2 : Int32) * ((I x0 0) - (1 : Int32))) &&& 31)) - (1 : Int32)))) x0 2 (((up I x0 1 ((((1 : Int32) <<< (((2 : Int32) * ((I x0 0) - (1 : Int32))) &&& 31)) - (1 : Int32)))) x1 2))) x0 0) &&& 31)) - (1 : Int32)))) x0 4 v2) x0 0)) &&& 31)) - (1 : Int32)))) x0 6 (((up (up (up (up (up I x0 1 ((((1 : Int32) <<< (((2 : Int32) * ((I x0 0) - (1 : Int32))) &&& 31)) - (1 : Int32)))) x0 2 (((up I x0 1 ((((1 : Int32) <<< (((2 : Int32) * ((I x0 0) - (1 : Int32))) &&& 31)) - (1 : Int32)))) x1 2))) x0 3 ((((1 : Int32) <<< (((up (up I x0 1 ((((1 : Int32) <<< (((2 : Int32) * ((I x0 0) - (1 : Int32))) &&& 31)) - (1 : Int32)))) x0 2 (((up I x0 1 ((((1 : Int32) <<< (((2 : Int32) * ((I x0 0) - (1 : Int32))) &&& 31)) - (1 : Int32)))) x1 2))) x0 0) &&& 31)) - (1 : Int32)))) x0 4 v2) x0 5 ((((1 : Int32) <<< (((2 : Int32) * ((up (up (up (up I x0 1 ((((1 : Int32) <<< (((2 : Int32) * ((I x0 0) - (1 : Int32))) &&& 31)) - (1 : Int32)))) x0 2 (((up I x0 1 ((((1 : Int32) <<< (((2 : Int32) * ((I x0 0) - (1 : Int32))) &&& 31)) - (1 : Int32)))) x1 2))) x0 3 ((((1 : Int32) <<< (((up (up I x0 1 ((((1 : Int32) <<< (((2 : Int32) * ((I x0 0) - (1 : Int32))) &&& 31)) - (1 : Int32)))) x0 2 (((up I x0 1 ((((1 : Int32) <<< (((2 : Int32) * ((I x0 0) - (1 : Int32))) &&& 31)) - (1 : Int32)))) x1 2))) x0 0) &&& 31)) - (1 : Int32)))) x0 4 v2) x0 0)) &&& 31)) - (1 : Int32)))) x1 3))) x0 7 (0 : Int32)), J, R) (none))) :
    rW γ l m_X0_noteAll 0 0 0 [some (.ref x0), some (.ref x1)] [] (sh, I, J, R) Q := by
  obtain ⟨v2, m1, t⟩ := t
  exact ⟨_, _, b_X0_noteAll_0  h_x0 h_x1 m1 ⟨rfl, rfl⟩, t⟩
abbrev s_X0_search_0 (γ : rG) (l : Launch) (x0 : Nat) (h : rHeap) (Q : rHeap → Option Value → Prop) : Prop := rW γ l m_X0_search 0 0 0 [some (.ref x0), none] [] h Q
theorem w_X0_search_0 {γ : rG} {l : Launch} {Q : rHeap → Option Value → Prop} {sh : Nat × (Nat → Nat) × (Nat → Nat)} {I : Nat → Nat → Int32} {J : Nat → Nat → Int64} {R : Nat → Nat → Option Nat} {x0 : Nat}
    (h_x0 : At0 sh R x0)
    (t : ((I x0 7) = 0 → (∃ (I2 : Nat → Nat → Int32) (J3 : Nat → Nat → Int64), rMet γ l m_X1_prepare [.ref (x0 + 1), .int ((up I x0 7 (1 : Int32)) x0 0)] (sh, (up I x0 7 (1 : Int32)), J, R) (sh, I2, J3, R) none ∧ (rW γ l m_X0_search 0 0 36 [some (.ref x0), some (.int (0 : Int32))] [] (sh, (up (up I2 x0 8 (0 : Int32)) x0 9 (-1 : Int32)), J3, R) Q))) ∧ (¬ (I x0 7) = 0 → (Q (sh, I, J, R) (none)))) :
    rW γ l m_X0_search 0 0 0 [some (.ref x0), none] [] (sh, I, J, R) Q := by
  by_cases p0 : (I x0 7) = 0
  · have t := t.1 p0
    obtain ⟨I2, J3, m4, t⟩ := t
    obtain ⟨hf, r, t, q⟩ := t
    exact ⟨hf, r, b_X0_search_0  h_x0 (fun _ => m4) (fun _ => t) (fun y0 => absurd p0 y0), q⟩
  · have t := t.2 p0
    exact ⟨_, _, b_X0_search_0 (I2 := I) (J3 := J) h_x0 (fun y0 => absurd y0 p0) (fun y0 => absurd y0 p0) (fun _ => ⟨rfl, rfl⟩), t⟩
abbrev s_X0_search_36 (γ : rG) (l : Launch) (x0 : Nat) (x1 : Int32) (h : rHeap) (Q : rHeap → Option Value → Prop) : Prop := rW γ l m_X0_search 0 0 36 [some (.ref x0), some (.int x1)] [] h Q
theorem w_X0_search_36 {γ : rG} {l : Launch} {Q : rHeap → Option Value → Prop} {sh : Nat × (Nat → Nat) × (Nat → Nat)} {I : Nat → Nat → Int32} {J : Nat → Nat → Int64} {R : Nat → Nat → Option Nat} {x0 : Nat} {x1 : Int32}
    (h_x0 : At0 sh R x0)
    (t : ((I (x0 + 1) 1) ≤ x1 → (Q (sh, I, J, R) (none))) ∧ (¬ (I (x0 + 1) 1) ≤ x1 → (∃ (v4 : Int32), rMet γ l m_X1_creasesOf [.ref (x0 + 1), .int x1] (sh, I, J, R) (sh, I, J, R) (some (.int v4)) ∧ (((v4 &&& (I x0 1)) = (I x0 2) → (∃ (I7 : Nat → Nat → Int32), rMet γ l m_X0_countEndings [.ref x0, .int x1] (sh, I, J, R) (sh, I7, J, R) none ∧ (rW γ l m_X0_search 0 0 36 [some (.ref x0), some (.int (x1 + (1 : Int32)))] [] (sh, I7, J, R) Q))) ∧ (¬ (v4 &&& (I x0 1)) = (I x0 2) → (rW γ l m_X0_search 0 0 36 [some (.ref x0), some (.int (x1 + (1 : Int32)))] [] (sh, I, J, R) Q)))))) :
    rW γ l m_X0_search 0 0 36 [some (.ref x0), some (.int x1)] [] (sh, I, J, R) Q := by
  by_cases p0 : (I (x0 + 1) 1) ≤ x1
  · have t := t.1 p0
    exact ⟨_, _, b_X0_search_36 (v4 := 0) (I7 := I) h_x0 (fun _ => ⟨rfl, rfl⟩) (fun y0 => absurd p0 y0) (fun y0 _ => absurd p0 y0) (fun y0 _ => absurd p0 y0) (fun y0 _ => absurd p0 y0), t⟩
  · have t := t.2 p0
    obtain ⟨v4, m3, t⟩ := t
    by_cases p1 : (v4 &&& (I x0 1)) = (I x0 2)
    · have t := t.1 p1
      obtain ⟨I7, m8, t⟩ := t
      obtain ⟨hf, r, t, q⟩ := t
      exact ⟨hf, r, b_X0_search_36  h_x0 (fun y0 => absurd y0 p0) (fun _ => m3) (fun _ y1 => absurd p1 y1) (fun _ _ => m8) (fun _ _ => t), q⟩
    · have t := t.2 p1
      obtain ⟨hf, r, t, q⟩ := t
      exact ⟨hf, r, b_X0_search_36 (I7 := I) h_x0 (fun y0 => absurd y0 p0) (fun _ => m3) (fun _ _ => t) (fun _ y1 => absurd y1 p1) (fun _ y1 => absurd y1 p1), q⟩
abbrev s_X0_countEndings_0 (γ : rG) (l : Launch) (x0 : Nat) (x1 : Int32) (h : rHeap) (Q : rHeap → Option Value → Prop) : Prop := rW γ l m_X0_countEndings 0 0 0 [some (.ref x0), some (.int x1), none] [] h Q
theorem w_X0_countEndings_0 {γ : rG} {l : Launch} {Q : rHeap → Option Value → Prop} {sh : Nat × (Nat → Nat) × (Nat → Nat)} {I : Nat → Nat → Int32} {J : Nat → Nat → Int64} {R : Nat → Nat → Option Nat} {x0 : Nat} {x1 : Int32}
    (h_x0 : At0 sh R x0)
    (t : ∃ (I1 : Nat → Nat → Int32), rMet γ l m_X1_unpack [.ref (x0 + 1), .ref (x0 + 19), .int x1] (sh, I, J, R) (sh, I1, J, R) none ∧ (∃ (I3 : Nat → Nat → Int32) (v5 : Int32), rMet γ l m_X0_slitEndings [.ref x0] (sh, I1, J, R) (sh, I3, J, R) (some (.int v5)) ∧ (∃ (v7 : Int32), rMet γ l m_X0_soilEndings [.ref x0] (sh, I3, J, R) (sh, I3, J, R) (some (.int v7)) ∧ (((v5 * v7) ≤ 0 → (rW γ l m_X0_countEndings 0 0 63 [some (.ref x0), some (.int x1), some (.int (v5 * v7))] [] (sh, I3, J, R) Q)) ∧ (¬ (v5 * v7) ≤ 0 → (((I3 x0 9) = (-1 : Int32) → ((((up (up I3 x0 9 x1) x0 10 (((up I3 x0 9 x1) x0 12))) x0 6) = 0 → (rW γ l m_X0_countEndings 0 0 60 [some (.ref x0), some (.int x1), some (.int (v5 * v7))] [.int (0 : Int32), .ref x0] (sh, (up (up I3 x0 9 x1) x0 10 (((up I3 x0 9 x1) x0 12))), J, R) Q)) ∧ (¬ ((up (up I3 x0 9 x1) x0 10 (((up I3 x0 9 x1) x0 12))) x0 6) = 0 → (rW γ l m_X0_countEndings 0 0 60 [some (.ref x0), some (.int x1), some (.int (v5 * v7))] [.int (1 : Int32), .ref x0] (sh, (up (up I3 x0 9 x1) x0 10 (((up I3 x0 9 x1) x0 12))), J, R) Q)))) ∧ (¬ (I3 x0 9) = (-1 : Int32) → (rW γ l m_X0_countEndings 0 0 63 [some (.ref x0), some (.int x1), some (.int (v5 * v7))] [] (sh, I3, J, R) Q)))))))) :
    rW γ l m_X0_countEndings 0 0 0 [some (.ref x0), some (.int x1), none] [] (sh, I, J, R) Q := by
  obtain ⟨I1, m2, t⟩ := t
  obtain ⟨I3, v5, m4, t⟩ := t
  obtain ⟨v7, m6, t⟩ := t
  by_cases p0 : (v5 * v7) ≤ 0
  · have t := t.1 p0
    obtain ⟨hf, r, t, q⟩ := t
    exact ⟨hf, r, b_X0_countEndings_0  h_x0 m2 m4 m6 (fun _ => t) (fun y0 _ => absurd p0 y0) (fun y0 _ _ => absurd p0 y0) (fun y0 _ _ => absurd p0 y0), q⟩
  · have t := t.2 p0
    by_cases p1 : (I3 x0 9) = (-1 : Int32)
    · have t := t.1 p1
      by_cases p2 : ((up (up I3 x0 9 x1) x0 10 (((up I3 x0 9 x1) x0 12))) x0 6) = 0
      · have t := t.1 p2
        obtain ⟨hf, r, t, q⟩ := t
        exact ⟨hf, r, b_X0_countEndings_0  h_x0 m2 m4 m6 (fun y0 => absurd y0 p0) (fun _ y1 => absurd p1 y1) (fun _ _ _ => t) (fun _ _ y2 => absurd p2 y2), q⟩
      · have t := t.2 p2
        obtain ⟨hf, r, t, q⟩ := t
        exact ⟨hf, r, b_X0_countEndings_0  h_x0 m2 m4 m6 (fun y0 => absurd y0 p0) (fun _ y1 => absurd p1 y1) (fun _ _ y2 => absurd y2 p2) (fun _ _ _ => t), q⟩
    · have t := t.2 p1
      obtain ⟨hf, r, t, q⟩ := t
      exact ⟨hf, r, b_X0_countEndings_0  h_x0 m2 m4 m6 (fun y0 => absurd y0 p0) (fun _ _ => t) (fun _ y1 _ => absurd y1 p1) (fun _ y1 _ => absurd y1 p1), q⟩
abbrev s_X0_countEndings_63 (γ : rG) (l : Launch) (x0 : Nat) (x1 : Int32) (x2 : Int32) (h : rHeap) (Q : rHeap → Option Value → Prop) : Prop := rW γ l m_X0_countEndings 0 0 63 [some (.ref x0), some (.int x1), some (.int x2)] [] h Q
theorem w_X0_countEndings_63 {γ : rG} {l : Launch} {Q : rHeap → Option Value → Prop} {sh : Nat × (Nat → Nat) × (Nat → Nat)} {I : Nat → Nat → Int32} {J : Nat → Nat → Int64} {R : Nat → Nat → Option Nat} {x0 : Nat} {x1 : Int32} {x2 : Int32}
    (h_x0 : At0 sh R x0)
    (t : vp_in x1 1300 ∧ (Q (sh, (up I x0 8 (((I x0 8) + (x2 * (I (((x0 + 1) + 2)) x1.toNatClampNeg))))), J, R) (none))) :
    rW γ l m_X0_countEndings 0 0 63 [some (.ref x0), some (.int x1), some (.int x2)] [] (sh, I, J, R) Q := by
  obtain ⟨b1, t⟩ := t
  exact ⟨_, _, b_X0_countEndings_63  h_x0 b1 ⟨rfl, rfl⟩, t⟩
abbrev s_X0_countEndings_60 (γ : rG) (l : Launch) (x0 : Nat) (x1 : Int32) (x2 : Int32) (s0 : Int32) (s1 : Nat) (h : rHeap) (Q : rHeap → Option Value → Prop) : Prop := rW γ l m_X0_countEndings 0 0 60 [some (.ref x0), some (.int x1), some (.int x2)] [.int s0, .ref s1] h Q
theorem w_X0_countEndings_60 {γ : rG} {l : Launch} {Q : rHeap → Option Value → Prop} {sh : Nat × (Nat → Nat) × (Nat → Nat)} {I : Nat → Nat → Int32} {J : Nat → Nat → Int64} {R : Nat → Nat → Option Nat} {x0 : Nat} {x1 : Int32} {x2 : Int32} {s0 : Int32} {s1 : Nat}
    (h_x0 : At0 sh R x0)
    (h_s1 : At0 sh R s1)
    (t : (s0 = 0 ∨ s0 = 1) ∧ (rW γ l m_X0_countEndings 0 0 63 [some (.ref x0), some (.int x1), some (.int x2)] [] (sh, (up I s1 11 s0), J, R) Q)) :
    rW γ l m_X0_countEndings 0 0 60 [some (.ref x0), some (.int x1), some (.int x2)] [.int s0, .ref s1] (sh, I, J, R) Q := by
  obtain ⟨z1, t⟩ := t
  obtain ⟨hf, r, t, q⟩ := t
  exact ⟨hf, r, b_X0_countEndings_60  h_x0 h_s1 z1 t, q⟩
abbrev s_X0_slitEndings_0 (γ : rG) (l : Launch) (x0 : Nat) (h : rHeap) (Q : rHeap → Option Value → Prop) : Prop := rW γ l m_X0_slitEndings 0 0 0 [some (.ref x0), none, none, none] [] h Q
theorem w_X0_slitEndings_0 {γ : rG} {l : Launch} {Q : rHeap → Option Value → Prop} {sh : Nat × (Nat → Nat) × (Nat → Nat)} {I : Nat → Nat → Int32} {J : Nat → Nat → Int64} {R : Nat → Nat → Option Nat} {x0 : Nat}
    (h_x0 : At0 sh R x0)
    (t : ((I x0 4) = 0 → (rW γ l m_X0_slitEndings 0 0 20 [some (.ref x0), some (.int (1 : Int32)), some (.int (0 : Int32)), none] [] (sh, (up I x0 12 (0 : Int32)), J, R) Q)) ∧ (¬ (I x0 4) = 0 → (rW γ l m_X0_slitEndings 0 0 20 [some (.ref x0), some (.int (0 : Int32)), some (.int (0 : Int32)), none] [] (sh, (up I x0 12 (0 : Int32)), J, R) Q))) :
    rW γ l m_X0_slitEndings 0 0 0 [some (.ref x0), none, none, none] [] (sh, I, J, R) Q := by
  by_cases p0 : (I x0 4) = 0
  · have t := t.1 p0
    obtain ⟨hf, r, t, q⟩ := t
    exact ⟨hf, r, b_X0_slitEndings_0  h_x0 (fun y0 => absurd p0 y0) (fun _ => t), q⟩
  · have t := t.2 p0
    obtain ⟨hf, r, t, q⟩ := t
    exact ⟨hf, r, b_X0_slitEndings_0  h_x0 (fun _ => t) (fun y0 => absurd y0 p0), q⟩
abbrev s_X0_slitEndings_20 (γ : rG) (l : Launch) (x0 : Nat) (x1 : Int32) (x2 : Int32) (h : rHeap) (Q : rHeap → Option Value → Prop) : Prop := rW γ l m_X0_slitEndings 0 0 20 [some (.ref x0), some (.int x1), some (.int x2), none] [] h Q
theorem w_X0_slitEndings_20 {γ : rG} {l : Launch} {Q : rHeap → Option Value → Prop} {sh : Nat × (Nat → Nat) × (Nat → Nat)} {I : Nat → Nat → Int32} {J : Nat → Nat → Int64} {R : Nat → Nat → Option Nat} {x0 : Nat} {x1 : Int32} {x2 : Int32}
    (h_x0 : At0 sh R x0)
    (t : ((I (x0 + 19) 1) ≤ x2 → (Q (sh, I, J, R) (some (.int x1)))) ∧ (¬ (I (x0 + 19) 1) ≤ x2 → (rW γ l m_X0_slitEndings 0 0 33 [some (.ref x0), some (.int x1), some (.int x2), some (.int (1 : Int32))] [] (sh, I, J, R) Q))) :
    rW γ l m_X0_slitEndings 0 0 20 [some (.ref x0), some (.int x1), some (.int x2), none] [] (sh, I, J, R) Q := by
  by_cases p0 : (I (x0 + 19) 1) ≤ x2
  · have t := t.1 p0
    exact ⟨_, _, b_X0_slitEndings_20  h_x0 (fun _ => ⟨rfl, rfl⟩) (fun y0 => absurd p0 y0), t⟩
  · have t := t.2 p0
    obtain ⟨hf, r, t, q⟩ := t
    exact ⟨hf, r, b_X0_slitEndings_20  h_x0 (fun y0 => absurd y0 p0) (fun _ => t), q⟩
abbrev s_X0_slitEndings_33 (γ : rG) (l : Launch) (x0 : Nat) (x1 : Int32) (x2 : Int32) (x3 : Int32) (h : rHeap) (Q : rHeap → Option Value → Prop) : Prop := rW γ l m_X0_slitEndings 0 0 33 [some (.ref x0), some (.int x1), some (.int x2), some (.int x3)] [] h Q
theorem w_X0_slitEndings_33 {γ : rG} {l : Launch} {Q : rHeap → Option Value → Prop} {sh : Nat × (Nat → Nat) × (Nat → Nat)} {I : Nat → Nat → Int32} {J : Nat → Nat → Int64} {R : Nat → Nat → Option Nat} {x0 : Nat} {x1 : Int32} {x2 : Int32} {x3 : Int32}
    (h_x0 : At0 sh R x0)
    (t : vp_in x2 8 ∧ (((I (((x0 + 19) + 4)) x2.toNatClampNeg) < x3 → (rW γ l m_X0_slitEndings 0 0 20 [some (.ref x0), some (.int x1), some (.int (x2 + (1 : Int32))), none] [] (sh, I, J, R) Q)) ∧ (¬ (I (((x0 + 19) + 4)) x2.toNatClampNeg) < x3 → (∃ (v5 : Int32), rMet γ l m_X0_fitsSlit [.ref x0, .int x2, .int x3] (sh, I, J, R) (sh, I, J, R) (some (.int v5)) ∧ ((v5 = 0 → (rW γ l m_X0_slitEndings 0 0 33 [some (.ref x0), some (.int x1), some (.int x2), some (.int (x3 + (1 : Int32)))] [] (sh, I, J, R) Q)) ∧ (¬ v5 = 0 → ((x1 = 0 → (rW γ l m_X0_slitEndings 0 0 33 [some (.ref x0), some (.int (x1 + (1 : Int32))), some (.int x2), some (.int (x3 + (1 : Int32)))] [] (sh, (up I x0 12 ((((1000 : Int32) + ((10 : Int32) * x2)) + x3))), J, R) Q)) ∧ (¬ x1 = 0 → (rW γ l m_X0_slitEndings 0 0 33 [some (.ref x0), some (.int (x1 + (1 : Int32))), some (.int x2), some (.int (x3 + (1 : Int32)))] [] (sh, (up I x0 12 (I x0 12)), J, R) Q))))))))) :
    rW γ l m_X0_slitEndings 0 0 33 [some (.ref x0), some (.int x1), some (.int x2), some (.int x3)] [] (sh, I, J, R) Q := by
  obtain ⟨b1, t⟩ := t
  by_cases p0 : (I (((x0 + 19) + 4)) x2.toNatClampNeg) < x3
  · have t := t.1 p0
    obtain ⟨hf, r, t, q⟩ := t
    exact ⟨hf, r, b_X0_slitEndings_33 (v5 := 0) h_x0 b1 (fun _ => t) (fun y0 => absurd p0 y0) (fun y0 _ => absurd p0 y0) (fun y0 _ _ => absurd p0 y0) (fun y0 _ _ => absurd p0 y0), q⟩
  · have t := t.2 p0
    obtain ⟨v5, m4, t⟩ := t
    by_cases p1 : v5 = 0
    · have t := t.1 p1
      obtain ⟨hf, r, t, q⟩ := t
      exact ⟨hf, r, b_X0_slitEndings_33  h_x0 b1 (fun y0 => absurd y0 p0) (fun _ => m4) (fun _ _ => t) (fun _ y1 _ => absurd p1 y1) (fun _ y1 _ => absurd p1 y1), q⟩
    · have t := t.2 p1
      by_cases p2 : x1 = 0
      · have t := t.1 p2
        obtain ⟨hf, r, t, q⟩ := t
        exact ⟨hf, r, b_X0_slitEndings_33  h_x0 b1 (fun y0 => absurd y0 p0) (fun _ => m4) (fun _ y1 => absurd y1 p1) (fun _ _ y2 => absurd p2 y2) (fun _ _ _ => t), q⟩
      · have t := t.2 p2
        obtain ⟨hf, r, t, q⟩ := t
        exact ⟨hf, r, b_X0_slitEndings_33  h_x0 b1 (fun y0 => absurd y0 p0) (fun _ => m4) (fun _ y1 => absurd y1 p1) (fun _ _ _ => t) (fun _ _ y2 => absurd y2 p2), q⟩
abbrev s_X0_fitsSlit_0 (γ : rG) (l : Launch) (x0 : Nat) (x1 : Int32) (x2 : Int32) (h : rHeap) (Q : rHeap → Option Value → Prop) : Prop := rW γ l m_X0_fitsSlit 0 0 0 [some (.ref x0), some (.int x1), some (.int x2)] [] h Q
theorem w_X0_fitsSlit_0 {γ : rG} {l : Launch} {Q : rHeap → Option Value → Prop} {sh : Nat × (Nat → Nat) × (Nat → Nat)} {I : Nat → Nat → Int32} {J : Nat → Nat → Int64} {R : Nat → Nat → Option Nat} {x0 : Nat} {x1 : Int32} {x2 : Int32}
    (h_x0 : At0 sh R x0)
    (t : ∃ (v2 : Int32), rMet γ l m_X2_highest [.ref (x0 + 19), .int x1, .int x2] (sh, I, J, R) (sh, I, J, R) (some (.int v2)) ∧ (((v2 &&& (I x0 3)) = (I x0 4) → (Q (sh, I, J, R) (some (.int (1 : Int32))))) ∧ (¬ (v2 &&& (I x0 3)) = (I x0 4) → (Q (sh, I, J, R) (some (.int (0 : Int32))))))) :
    rW γ l m_X0_fitsSlit 0 0 0 [some (.ref x0), some (.int x1), some (.int x2)] [] (sh, I, J, R) Q := by
  obtain ⟨v2, m1, t⟩ := t
  by_cases p0 : (v2 &&& (I x0 3)) = (I x0 4)
  · have t := t.1 p0
    exact ⟨_, _, b_X0_fitsSlit_0  h_x0 m1 (fun y0 => absurd p0 y0) (fun _ => ⟨rfl, rfl⟩), t⟩
  · have t := t.2 p0
    exact ⟨_, _, b_X0_fitsSlit_0  h_x0 m1 (fun _ => ⟨rfl, rfl⟩) (fun y0 => absurd y0 p0), t⟩
abbrev s_X0_soilEndings_0 (γ : rG) (l : Launch) (x0 : Nat) (h : rHeap) (Q : rHeap → Option Value → Prop) : Prop := rW γ l m_X0_soilEndings 0 0 0 [some (.ref x0), none, none] [] h Q
theorem w_X0_soilEndings_0 {γ : rG} {l : Launch} {Q : rHeap → Option Value → Prop} {sh : Nat × (Nat → Nat) × (Nat → Nat)} {I : Nat → Nat → Int32} {J : Nat → Nat → Int64} {R : Nat → Nat → Option Nat} {x0 : Nat}
    (h_x0 : At0 sh R x0)
    (t : ((I x0 6) = 0 → (rW γ l m_X0_soilEndings 0 0 12 [some (.ref x0), none, none] [.int (1 : Int32)] (sh, I, J, R) Q)) ∧ (¬ (I x0 6) = 0 → (rW γ l m_X0_soilEndings 0 0 12 [some (.ref x0), none, none] [.int (0 : Int32)] (sh, I, J, R) Q))) :
    rW γ l m_X0_soilEndings 0 0 0 [some (.ref x0), none, none] [] (sh, I, J, R) Q := by
  by_cases p0 : (I x0 6) = 0
  · have t := t.1 p0
    obtain ⟨hf, r, t, q⟩ := t
    exact ⟨hf, r, b_X0_soilEndings_0  h_x0 (fun y0 => absurd p0 y0) (fun _ => t), q⟩
  · have t := t.2 p0
    obtain ⟨hf, r, t, q⟩ := t
    exact ⟨hf, r, b_X0_soilEndings_0  h_x0 (fun _ => t) (fun y0 => absurd y0 p0), q⟩
abbrev s_X0_soilEndings_12 (γ : rG) (l : Launch) (x0 : Nat) (s0 : Int32) (h : rHeap) (Q : rHeap → Option Value → Prop) : Prop := rW γ l m_X0_soilEndings 0 0 12 [some (.ref x0), none, none] [.int s0] h Q
theorem w_X0_soilEndings_12 {γ : rG} {l : Launch} {Q : rHeap → Option Value → Prop} {sh : Nat × (Nat → Nat) × (Nat → Nat)} {I : Nat → Nat → Int32} {J : Nat → Nat → Int64} {R : Nat → Nat → Option Nat} {x0 : Nat} {s0 : Int32}
    (h_x0 : At0 sh R x0)
    (t : ∃ (v2 : Int32), rMet γ l m_X2_outerFaces [.ref (x0 + 19)] (sh, I, J, R) (sh, I, J, R) (some (.int v2)) ∧ (((v2 &&& (I x0 5)) = (I x0 6) → (Q (sh, I, J, R) (some (.int ((s0 + (1 : Int32))))))) ∧ (¬ (v2 &&& (I x0 5)) = (I x0 6) → (Q (sh, I, J, R) (some (.int ((s0 + (0 : Int32))))))))) :
    rW γ l m_X0_soilEndings 0 0 12 [some (.ref x0), none, none] [.int s0] (sh, I, J, R) Q := by
  obtain ⟨v2, m1, t⟩ := t
  by_cases p0 : (v2 &&& (I x0 5)) = (I x0 6)
  · have t := t.1 p0
    exact ⟨_, _, b_X0_soilEndings_12  h_x0 m1 (fun y0 => absurd p0 y0) (fun _ => ⟨rfl, rfl⟩), t⟩
  · have t := t.2 p0
    exact ⟨_, _, b_X0_soilEndings_12  h_x0 m1 (fun _ => ⟨rfl, rfl⟩) (fun y0 => absurd y0 p0), t⟩
abbrev s_X0_firstAct_0 (γ : rG) (l : Launch) (x0 : Nat) (x1 : Int32) (h : rHeap) (Q : rHeap → Option Value → Prop) : Prop := rW γ l m_X0_firstAct 0 0 0 [some (.ref x0), some (.int x1), none, none] [] h Q
theorem w_X0_firstAct_0 {γ : rG} {l : Launch} {Q : rHeap → Option Value → Prop} {sh : Nat × (Nat → Nat) × (Nat → Nat)} {I : Nat → Nat → Int32} {J : Nat → Nat → Int64} {R : Nat → Nat → Option Nat} {x0 : Nat} {x1 : Int32}
    (h_x0 : At0 sh R x0)
    (t : ((I x0 9) = (-1 : Int32) → (Q (sh, I, J, R) (some (.int (-1 : Int32))))) ∧ (¬ (I x0 9) = (-1 : Int32) → ((0 ≤ x1 → (∃ (v5 : Int32), rMet γ l m_X1_turnsOf [.ref (x0 + 1), .int (I x0 9)] (sh, I, J, R) (sh, I, J, R) (some (.int v5)) ∧ ((v5 ≤ x1 → (((I x0 10) = 0 → (((x1 - v5) = 0 → (((I x0 11) = 0 → (Q (sh, I, J, R) (some (.int (-1 : Int32))))) ∧ (¬ (I x0 11) = 0 → (Q (sh, I, J, R) (some (.int (2000 : Int32))))))) ∧ (¬ (x1 - v5) = 0 → (Q (sh, I, J, R) (some (.int (-1 : Int32))))))) ∧ (¬ (I x0 10) = 0 → (((x1 - v5) = 0 → (Q (sh, I, J, R) (some (.int (I x0 10))))) ∧ (¬ (x1 - v5) = 0 → ((((x1 - v5) + (-1 : Int32)) = 0 → (((I x0 11) = 0 → (Q (sh, I, J, R) (some (.int (-1 : Int32))))) ∧ (¬ (I x0 11) = 0 → (Q (sh, I, J, R) (some (.int (2000 : Int32))))))) ∧ (¬ ((x1 - v5) + (-1 : Int32)) = 0 → (Q (sh, I, J, R) (some (.int (-1 : Int32))))))))))) ∧ (¬ v5 ≤ x1 → (∃ (v21 : Int32), rMet γ l m_X1_actOf [.ref (x0 + 1), .int (I x0 9), .int x1] (sh, I, J, R) (sh, I, J, R) (some (.int v21)) ∧ (Q (sh, I, J, R) (some (.int v21)))))))) ∧ (¬ 0 ≤ x1 → (Q (sh, I, J, R) (some (.int (-1 : Int32)))))))) :
    rW γ l m_X0_firstAct 0 0 0 [some (.ref x0), some (.int x1), none, none] [] (sh, I, J, R) Q := by
  by_cases p0 : (I x0 9) = (-1 : Int32)
  · have t := t.1 p0
    exact ⟨_, _, b_X0_firstAct_0 (v5 := 0) (v21 := 0) h_x0 (fun _ => ⟨rfl, rfl⟩) (fun y0 _ => absurd p0 y0) (fun y0 _ _ _ _ => absurd p0 y0) (fun y0 _ _ _ _ _ => absurd p0 y0) (fun y0 _ _ _ _ _ => absurd p0 y0) (fun y0 _ _ _ _ _ => absurd p0 y0) (fun y0 _ _ _ _ _ _ => absurd p0 y0) (fun y0 _ _ _ _ _ _ => absurd p0 y0) (fun y0 _ _ _ _ => absurd p0 y0) (fun y0 _ _ => absurd p0 y0) (fun y0 _ _ => absurd p0 y0) (fun y0 _ => absurd p0 y0), t⟩
  · have t := t.2 p0
    by_cases p1 : 0 ≤ x1
    · have t := t.1 p1
      obtain ⟨v5, m4, t⟩ := t
      by_cases p2 : v5 ≤ x1
      · have t := t.1 p2
        by_cases p3 : (I x0 10) = 0
        · have t := t.1 p3
          by_cases p4 : (x1 - v5) = 0
          · have t := t.1 p4
            by_cases p5 : (I x0 11) = 0
            · have t := t.1 p5
              exact ⟨_, _, b_X0_firstAct_0 (v21 := 0) h_x0 (fun y0 => absurd y0 p0) (fun _ _ => m4) (fun _ _ _ _ y4 => absurd p4 y4) (fun _ _ _ _ _ _ => ⟨rfl, rfl⟩) (fun _ _ _ _ _ y5 => absurd p5 y5) (fun _ _ _ y3 _ _ => absurd p3 y3) (fun _ _ _ y3 _ _ _ => absurd p3 y3) (fun _ _ _ y3 _ _ _ => absurd p3 y3) (fun _ _ _ y3 _ => absurd p3 y3) (fun _ _ y2 => absurd p2 y2) (fun _ _ y2 => absurd p2 y2) (fun _ y1 => absurd p1 y1), t⟩
            · have t := t.2 p5
              exact ⟨_, _, b_X0_firstAct_0 (v21 := 0) h_x0 (fun y0 => absurd y0 p0) (fun _ _ => m4) (fun _ _ _ _ y4 => absurd p4 y4) (fun _ _ _ _ _ y5 => absurd y5 p5) (fun _ _ _ _ _ _ => ⟨rfl, rfl⟩) (fun _ _ _ y3 _ _ => absurd p3 y3) (fun _ _ _ y3 _ _ _ => absurd p3 y3) (fun _ _ _ y3 _ _ _ => absurd p3 y3) (fun _ _ _ y3 _ => absurd p3 y3) (fun _ _ y2 => absurd p2 y2) (fun _ _ y2 => absurd p2 y2) (fun _ y1 => absurd p1 y1), t⟩
          · have t := t.2 p4
            exact ⟨_, _, b_X0_firstAct_0 (v21 := 0) h_x0 (fun y0 => absurd y0 p0) (fun _ _ => m4) (fun _ _ _ _ _ => ⟨rfl, rfl⟩) (fun _ _ _ _ y4 _ => absurd y4 p4) (fun _ _ _ _ y4 _ => absurd y4 p4) (fun _ _ _ y3 _ _ => absurd p3 y3) (fun _ _ _ y3 _ _ _ => absurd p3 y3) (fun _ _ _ y3 _ _ _ => absurd p3 y3) (fun _ _ _ y3 _ => absurd p3 y3) (fun _ _ y2 => absurd p2 y2) (fun _ _ y2 => absurd p2 y2) (fun _ y1 => absurd p1 y1), t⟩
        · have t := t.2 p3
          by_cases p4 : (x1 - v5) = 0
          · have t := t.1 p4
            exact ⟨_, _, b_X0_firstAct_0 (v21 := 0) h_x0 (fun y0 => absurd y0 p0) (fun _ _ => m4) (fun _ _ _ y3 _ => absurd y3 p3) (fun _ _ _ y3 _ _ => absurd y3 p3) (fun _ _ _ y3 _ _ => absurd y3 p3) (fun _ _ _ _ y4 _ => absurd p4 y4) (fun _ _ _ _ y4 _ _ => absurd p4 y4) (fun _ _ _ _ y4 _ _ => absurd p4 y4) (fun _ _ _ _ _ => ⟨rfl, rfl⟩) (fun _ _ y2 => absurd p2 y2) (fun _ _ y2 => absurd p2 y2) (fun _ y1 => absurd p1 y1), t⟩
          · have t := t.2 p4
            by_cases p5 : ((x1 - v5) + (-1 : Int32)) = 0
            · have t := t.1 p5
              by_cases p6 : (I x0 11) = 0
              · have t := t.1 p6
                exact ⟨_, _, b_X0_firstAct_0 (v21 := 0) h_x0 (fun y0 => absurd y0 p0) (fun _ _ => m4) (fun _ _ _ y3 _ => absurd y3 p3) (fun _ _ _ y3 _ _ => absurd y3 p3) (fun _ _ _ y3 _ _ => absurd y3 p3) (fun _ _ _ _ _ y5 => absurd p5 y5) (fun _ _ _ _ _ _ _ => ⟨rfl, rfl⟩) (fun _ _ _ _ _ _ y6 => absurd p6 y6) (fun _ _ _ _ y4 => absurd y4 p4) (fun _ _ y2 => absurd p2 y2) (fun _ _ y2 => absurd p2 y2) (fun _ y1 => absurd p1 y1), t⟩
              · have t := t.2 p6
                exact ⟨_, _, b_X0_firstAct_0 (v21 := 0) h_x0 (fun y0 => absurd y0 p0) (fun _ _ => m4) (fun _ _ _ y3 _ => absurd y3 p3) (fun _ _ _ y3 _ _ => absurd y3 p3) (fun _ _ _ y3 _ _ => absurd y3 p3) (fun _ _ _ _ _ y5 => absurd p5 y5) (fun _ _ _ _ _ _ y6 => absurd y6 p6) (fun _ _ _ _ _ _ _ => ⟨rfl, rfl⟩) (fun _ _ _ _ y4 => absurd y4 p4) (fun _ _ y2 => absurd p2 y2) (fun _ _ y2 => absurd p2 y2) (fun _ y1 => absurd p1 y1), t⟩
            · have t := t.2 p5
              exact ⟨_, _, b_X0_firstAct_0 (v21 := 0) h_x0 (fun y0 => absurd y0 p0) (fun _ _ => m4) (fun _ _ _ y3 _ => absurd y3 p3) (fun _ _ _ y3 _ _ => absurd y3 p3) (fun _ _ _ y3 _ _ => absurd y3 p3) (fun _ _ _ _ _ _ => ⟨rfl, rfl⟩) (fun _ _ _ _ _ y5 _ => absurd y5 p5) (fun _ _ _ _ _ y5 _ => absurd y5 p5) (fun _ _ _ _ y4 => absurd y4 p4) (fun _ _ y2 => absurd p2 y2) (fun _ _ y2 => absurd p2 y2) (fun _ y1 => absurd p1 y1), t⟩
      · have t := t.2 p2
        obtain ⟨v21, m20, t⟩ := t
        exact ⟨_, _, b_X0_firstAct_0  h_x0 (fun y0 => absurd y0 p0) (fun _ _ => m4) (fun _ _ y2 _ _ => absurd y2 p2) (fun _ _ y2 _ _ _ => absurd y2 p2) (fun _ _ y2 _ _ _ => absurd y2 p2) (fun _ _ y2 _ _ _ => absurd y2 p2) (fun _ _ y2 _ _ _ _ => absurd y2 p2) (fun _ _ y2 _ _ _ _ => absurd y2 p2) (fun _ _ y2 _ _ => absurd y2 p2) (fun _ _ _ => m20) (fun _ _ _ => ⟨rfl, rfl⟩) (fun _ y1 => absurd p1 y1), t⟩
    · have t := t.2 p1
      exact ⟨_, _, b_X0_firstAct_0 (v5 := 0) (v21 := 0) h_x0 (fun y0 => absurd y0 p0) (fun _ y1 => absurd y1 p1) (fun _ y1 _ _ _ => absurd y1 p1) (fun _ y1 _ _ _ _ => absurd y1 p1) (fun _ y1 _ _ _ _ => absurd y1 p1) (fun _ y1 _ _ _ _ => absurd y1 p1) (fun _ y1 _ _ _ _ _ => absurd y1 p1) (fun _ y1 _ _ _ _ _ => absurd y1 p1) (fun _ y1 _ _ _ => absurd y1 p1) (fun _ y1 _ => absurd y1 p1) (fun _ y1 _ => absurd y1 p1) (fun _ _ => ⟨rfl, rfl⟩), t⟩
abbrev s_X0_isShutTwice_0 (γ : rG) (l : Launch) (x0 : Nat) (h : rHeap) (Q : rHeap → Option Value → Prop) : Prop := rW γ l m_X0_isShutTwice 0 0 0 [some (.ref x0), none, none, none] [] h Q
theorem w_X0_isShutTwice_0 {γ : rG} {l : Launch} {Q : rHeap → Option Value → Prop} {sh : Nat × (Nat → Nat) × (Nat → Nat)} {I : Nat → Nat → Int32} {J : Nat → Nat → Int64} {R : Nat → Nat → Option Nat} {x0 : Nat}
    (h_x0 : At0 sh R x0)
    (t : ∃ (I1 : Nat → Nat → Int32), rMet γ l m_X0_collectWithin [.ref x0] (sh, I, J, R) (sh, I1, J, R) none ∧ (rW γ l m_X0_isShutTwice 0 0 6 [some (.ref x0), some (.int (0 : Int32)), none, none] [] (sh, I1, J, R) Q)) :
    rW γ l m_X0_isShutTwice 0 0 0 [some (.ref x0), none, none, none] [] (sh, I, J, R) Q := by
  obtain ⟨I1, m2, t⟩ := t
  obtain ⟨hf, r, t, q⟩ := t
  exact ⟨hf, r, b_X0_isShutTwice_0  h_x0 m2 t, q⟩
abbrev s_X0_isShutTwice_6 (γ : rG) (l : Launch) (x0 : Nat) (x1 : Int32) (h : rHeap) (Q : rHeap → Option Value → Prop) : Prop := rW γ l m_X0_isShutTwice 0 0 6 [some (.ref x0), some (.int x1), none, none] [] h Q
theorem w_X0_isShutTwice_6 {γ : rG} {l : Launch} {Q : rHeap → Option Value → Prop} {sh : Nat × (Nat → Nat) × (Nat → Nat)} {I : Nat → Nat → Int32} {J : Nat → Nat → Int64} {R : Nat → Nat → Option Nat} {x0 : Nat} {x1 : Int32}
    (h_x0 : At0 sh R x0)
    (t : ((I (x0 + 1) 1) ≤ x1 → (Q (sh, I, J, R) (some (.int (0 : Int32))))) ∧ (¬ (I (x0 + 1) 1) ≤ x1 → (∃ (v4 : Int32), rMet γ l m_X1_creasesOf [.ref (x0 + 1), .int x1] (sh, I, J, R) (sh, I, J, R) (some (.int v4)) ∧ ((((v4 &&& (I x0 1)) &&& ((I x0 2) ^^^ (-1 : Int32))) = 0 → (vp_in ((((I x0 2) &&& ((v4 &&& (I x0 1)) ^^^ (-1 : Int32))) >>> ((5 : Int32) &&& 31))) 512 ∧ (((((I (x0 + 25) ((((I x0 2) &&& ((v4 &&& (I x0 1)) ^^^ (-1 : Int32))) >>> ((5 : Int32) &&& 31))).toNatClampNeg) >>> ((((I x0 2) &&& ((v4 &&& (I x0 1)) ^^^ (-1 : Int32))) &&& (31 : Int32)) &&& 31)) &&& (1 : Int32)) = (1 : Int32) → (Q (sh, I, J, R) (some (.int (1 : Int32))))) ∧ (¬ (((I (x0 + 25) ((((I x0 2) &&& ((v4 &&& (I x0 1)) ^^^ (-1 : Int32))) >>> ((5 : Int32) &&& 31))).toNatClampNeg) >>> ((((I x0 2) &&& ((v4 &&& (I x0 1)) ^^^ (-1 : Int32))) &&& (31 : Int32)) &&& 31)) &&& (1 : Int32)) = (1 : Int32) → (rW γ l m_X0_isShutTwice 0 0 6 [some (.ref x0), some (.int (x1 + (1 : Int32))), none, none] [] (sh, I, J, R) Q))))) ∧ (¬ ((v4 &&& (I x0 1)) &&& ((I x0 2) ^^^ (-1 : Int32))) = 0 → (rW γ l m_X0_isShutTwice 0 0 6 [some (.ref x0), some (.int (x1 + (1 : Int32))), none, none] [] (sh, I, J, R) Q)))))) :
    rW γ l m_X0_isShutTwice 0 0 6 [some (.ref x0), some (.int x1), none, none] [] (sh, I, J, R) Q := by
  by_cases p0 : (I (x0 + 1) 1) ≤ x1
  · have t := t.1 p0
    exact ⟨_, _, b_X0_isShutTwice_6 (v4 := 0) h_x0 (fun _ => ⟨rfl, rfl⟩) (fun y0 => absurd p0 y0) (fun y0 _ => absurd p0 y0) (fun y0 _ => absurd p0 y0) (fun y0 _ _ => absurd p0 y0) (fun y0 _ _ => absurd p0 y0), t⟩
  · have t := t.2 p0
    obtain ⟨v4, m3, t⟩ := t
    by_cases p1 : ((v4 &&& (I x0 1)) &&& ((I x0 2) ^^^ (-1 : Int32))) = 0
    · have t := t.1 p1
      obtain ⟨b7, t⟩ := t
      by_cases p2 : (((I (x0 + 25) ((((I x0 2) &&& ((v4 &&& (I x0 1)) ^^^ (-1 : Int32))) >>> ((5 : Int32) &&& 31))).toNatClampNeg) >>> ((((I x0 2) &&& ((v4 &&& (I x0 1)) ^^^ (-1 : Int32))) &&& (31 : Int32)) &&& 31)) &&& (1 : Int32)) = (1 : Int32)
      · have t := t.1 p2
        exact ⟨_, _, b_X0_isShutTwice_6  h_x0 (fun y0 => absurd y0 p0) (fun _ => m3) (fun _ y1 => absurd p1 y1) (fun _ _ => b7) (fun _ _ y2 => absurd p2 y2) (fun _ _ _ => ⟨rfl, rfl⟩), t⟩
      · have t := t.2 p2
        obtain ⟨hf, r, t, q⟩ := t
        exact ⟨hf, r, b_X0_isShutTwice_6  h_x0 (fun y0 => absurd y0 p0) (fun _ => m3) (fun _ y1 => absurd p1 y1) (fun _ _ => b7) (fun _ _ _ => t) (fun _ _ y2 => absurd y2 p2), q⟩
    · have t := t.2 p1
      obtain ⟨hf, r, t, q⟩ := t
      exact ⟨hf, r, b_X0_isShutTwice_6  h_x0 (fun y0 => absurd y0 p0) (fun _ => m3) (fun _ _ => t) (fun _ y1 => absurd y1 p1) (fun _ y1 _ => absurd y1 p1) (fun _ y1 _ => absurd y1 p1), q⟩
abbrev s_X0_collectWithin_0 (γ : rG) (l : Launch) (x0 : Nat) (h : rHeap) (Q : rHeap → Option Value → Prop) : Prop := rW γ l m_X0_collectWithin 0 0 0 [some (.ref x0), none, none] [] h Q
theorem w_X0_collectWithin_0 {γ : rG} {l : Launch} {Q : rHeap → Option Value → Prop} {sh : Nat × (Nat → Nat) × (Nat → Nat)} {I : Nat → Nat → Int32} {J : Nat → Nat → Int64} {R : Nat → Nat → Option Nat} {x0 : Nat}
    (h_x0 : At0 sh R x0)
    (t : ∃ (I1 : Nat → Nat → Int32), rMet γ l m_J7_fill_53178 [.ref (x0 + 25), .int (0 : Int32)] (sh, I, J, R) (sh, I1, J, R) none ∧ (rW γ l m_X0_collectWithin 0 0 10 [some (.ref x0), some (.int (0 : Int32)), none] [] (sh, I1, J, R) Q)) :
    rW γ l m_X0_collectWithin 0 0 0 [some (.ref x0), none, none] [] (sh, I, J, R) Q := by
  obtain ⟨I1, m2, t⟩ := t
  obtain ⟨hf, r, t, q⟩ := t
  exact ⟨hf, r, b_X0_collectWithin_0  h_x0 m2 t, q⟩
abbrev s_X0_collectWithin_10 (γ : rG) (l : Launch) (x0 : Nat) (x1 : Int32) (h : rHeap) (Q : rHeap → Option Value → Prop) : Prop := rW γ l m_X0_collectWithin 0 0 10 [some (.ref x0), some (.int x1), none] [] h Q
theorem w_X0_collectWithin_10 {γ : rG} {l : Launch} {Q : rHeap → Option Value → Prop} {sh : Nat × (Nat → Nat) × (Nat → Nat)} {I : Nat → Nat → Int32} {J : Nat → Nat → Int64} {R : Nat → Nat → Option Nat} {x0 : Nat} {x1 : Int32}
    (h_x0 : At0 sh R x0)
    (t : ((I (x0 + 1) 1) ≤ x1 → (rW γ l m_X0_collectWithin 0 0 71 [some (.ref x0), some (.int (0 : Int32)), none] [] (sh, I, J, R) Q)) ∧ (¬ (I (x0 + 1) 1) ≤ x1 → (∃ (v4 : Int32), rMet γ l m_X1_creasesOf [.ref (x0 + 1), .int x1] (sh, I, J, R) (sh, I, J, R) (some (.int v4)) ∧ ((((v4 &&& (I x0 1)) &&& ((I x0 2) ^^^ (-1 : Int32))) = 0 → (vp_in (((v4 &&& (I x0 1)) >>> ((5 : Int32) &&& 31))) 512 ∧ (vp_in (((v4 &&& (I x0 1)) >>> ((5 : Int32) &&& 31))) 512 ∧ (rW γ l m_X0_collectWithin 0 0 10 [some (.ref x0), some (.int (x1 + (1 : Int32))), none] [] (sh, (up I (x0 + 25) (((v4 &&& (I x0 1)) >>> ((5 : Int32) &&& 31))).toNatClampNeg (((I (x0 + 25) (((v4 &&& (I x0 1)) >>> ((5 : Int32) &&& 31))).toNatClampNeg) ||| ((1 : Int32) <<< (((v4 &&& (I x0 1)) &&& (31 : Int32)) &&& 31))))), J, R) Q)))) ∧ (¬ ((v4 &&& (I x0 1)) &&& ((I x0 2) ^^^ (-1 : Int32))) = 0 → (rW γ l m_X0_collectWithin 0 0 10 [some (.ref x0), some (.int (x1 + (1 : Int32))), none] [] (sh, I, J, R) Q)))))) :
    rW γ l m_X0_collectWithin 0 0 10 [some (.ref x0), some (.int x1), none] [] (sh, I, J, R) Q := by
  by_cases p0 : (I (x0 + 1) 1) ≤ x1
  · have t := t.1 p0
    obtain ⟨hf, r, t, q⟩ := t
    exact ⟨hf, r, b_X0_collectWithin_10 (v4 := 0) h_x0 (fun _ => t) (fun y0 => absurd p0 y0) (fun y0 _ => absurd p0 y0) (fun y0 _ => absurd p0 y0) (fun y0 _ => absurd p0 y0) (fun y0 _ => absurd p0 y0), q⟩
  · have t := t.2 p0
    obtain ⟨v4, m3, t⟩ := t
    by_cases p1 : ((v4 &&& (I x0 1)) &&& ((I x0 2) ^^^ (-1 : Int32))) = 0
    · have t := t.1 p1
      obtain ⟨b7, t⟩ := t
      obtain ⟨b8, t⟩ := t
      obtain ⟨hf, r, t, q⟩ := t
      exact ⟨hf, r, b_X0_collectWithin_10  h_x0 (fun y0 => absurd y0 p0) (fun _ => m3) (fun _ y1 => absurd p1 y1) (fun _ _ => b7) (fun _ _ => b8) (fun _ _ => t), q⟩
    · have t := t.2 p1
      obtain ⟨hf, r, t, q⟩ := t
      exact ⟨hf, r, b_X0_collectWithin_10  h_x0 (fun y0 => absurd y0 p0) (fun _ => m3) (fun _ _ => t) (fun _ y1 => absurd y1 p1) (fun _ y1 => absurd y1 p1) (fun _ y1 => absurd y1 p1), q⟩
abbrev s_X0_collectWithin_71 (γ : rG) (l : Launch) (x0 : Nat) (x1 : Int32) (h : rHeap) (Q : rHeap → Option Value → Prop) : Prop := rW γ l m_X0_collectWithin 0 0 71 [some (.ref x0), some (.int x1), none] [] h Q
theorem w_X0_collectWithin_71 {γ : rG} {l : Launch} {Q : rHeap → Option Value → Prop} {sh : Nat × (Nat → Nat) × (Nat → Nat)} {I : Nat → Nat → Int32} {J : Nat → Nat → Int64} {R : Nat → Nat → Option Nat} {x0 : Nat} {x1 : Int32}
    (h_x0 : At0 sh R x0)
    (t : ((5 : Int32) ≤ x1 → (rW γ l m_X0_collectWithin 0 0 129 [some (.ref x0), some (.int (1 : Int32)), none] [] (sh, I, J, R) Q)) ∧ (¬ (5 : Int32) ≤ x1 → (rW γ l m_X0_collectWithin 0 0 81 [some (.ref x0), some (.int x1), some (.int (0 : Int32))] [] (sh, I, J, R) Q))) :
    rW γ l m_X0_collectWithin 0 0 71 [some (.ref x0), some (.int x1), none] [] (sh, I, J, R) Q := by
  by_cases p0 : (5 : Int32) ≤ x1
  · have t := t.1 p0
    obtain ⟨hf, r, t, q⟩ := t
    exact ⟨hf, r, b_X0_collectWithin_71  h_x0 (fun _ => t) (fun y0 => absurd p0 y0), q⟩
  · have t := t.2 p0
    obtain ⟨hf, r, t, q⟩ := t
    exact ⟨hf, r, b_X0_collectWithin_71  h_x0 (fun y0 => absurd y0 p0) (fun _ => t), q⟩
abbrev s_X0_collectWithin_129 (γ : rG) (l : Launch) (x0 : Nat) (x1 : Int32) (h : rHeap) (Q : rHeap → Option Value → Prop) : Prop := rW γ l m_X0_collectWithin 0 0 129 [some (.ref x0), some (.int x1), none] [] h Q
theorem w_X0_collectWithin_129 {γ : rG} {l : Launch} {Q : rHeap → Option Value → Prop} {sh : Nat × (Nat → Nat) × (Nat → Nat)} {I : Nat → Nat → Int32} {J : Nat → Nat → Int64} {R : Nat → Nat → Option Nat} {x0 : Nat} {x1 : Int32}
    (h_x0 : At0 sh R x0)
    (t : ((nI 512) ≤ x1 → (Q (sh, I, J, R) (none))) ∧ (¬ (nI 512) ≤ x1 → (rW γ l m_X0_collectWithin 0 0 140 [some (.ref x0), some (.int x1), some (.int (0 : Int32))] [] (sh, I, J, R) Q))) :
    rW γ l m_X0_collectWithin 0 0 129 [some (.ref x0), some (.int x1), none] [] (sh, I, J, R) Q := by
  by_cases p0 : (nI 512) ≤ x1
  · have t := t.1 p0
    exact ⟨_, _, b_X0_collectWithin_129  h_x0 (fun _ => ⟨rfl, rfl⟩) (fun y0 => absurd p0 y0), t⟩
  · have t := t.2 p0
    obtain ⟨hf, r, t, q⟩ := t
    exact ⟨hf, r, b_X0_collectWithin_129  h_x0 (fun y0 => absurd y0 p0) (fun _ => t), q⟩
abbrev s_X0_collectWithin_81 (γ : rG) (l : Launch) (x0 : Nat) (x1 : Int32) (x2 : Int32) (h : rHeap) (Q : rHeap → Option Value → Prop) : Prop := rW γ l m_X0_collectWithin 0 0 81 [some (.ref x0), some (.int x1), some (.int x2)] [] h Q
theorem w_X0_collectWithin_81 {γ : rG} {l : Launch} {Q : rHeap → Option Value → Prop} {sh : Nat × (Nat → Nat) × (Nat → Nat)} {I : Nat → Nat → Int32} {J : Nat → Nat → Int64} {R : Nat → Nat → Option Nat} {x0 : Nat} {x1 : Int32} {x2 : Int32}
    (h_x0 : At0 sh R x0)
    (t : ((nI 512) ≤ x2 → (rW γ l m_X0_collectWithin 0 0 71 [some (.ref x0), some (.int (x1 + (1 : Int32))), none] [] (sh, I, J, R) Q)) ∧ (¬ (nI 512) ≤ x2 → (vp_in x2 512 ∧ (vp_in x2 512 ∧ (vp_in x1 5 ∧ (vp_in x2 512 ∧ (rW γ l m_X0_collectWithin 0 0 81 [some (.ref x0), some (.int x1), some (.int (x2 + (1 : Int32)))] [] (sh, (up I (x0 + 25) x2.toNatClampNeg (((I (x0 + 25) x2.toNatClampNeg) ||| ((((I (x0 + 25) x2.toNatClampNeg) &&& (rWITH x1.toNatClampNeg))).toUInt32 >>> ((((1 : Int32) <<< (x1 &&& 31))).toUInt32 &&& Int32.toUInt32 31)).toInt32))), J, R) Q))))))) :
    rW γ l m_X0_collectWithin 0 0 81 [some (.ref x0), some (.int x1), some (.int x2)] [] (sh, I, J, R) Q := by
  by_cases p0 : (nI 512) ≤ x2
  · have t := t.1 p0
    obtain ⟨hf, r, t, q⟩ := t
    exact ⟨hf, r, b_X0_collectWithin_81  h_x0 (fun _ => t) (fun y0 => absurd p0 y0) (fun y0 => absurd p0 y0) (fun y0 => absurd p0 y0) (fun y0 => absurd p0 y0) (fun y0 => absurd p0 y0), q⟩
  · have t := t.2 p0
    obtain ⟨b3, t⟩ := t
    obtain ⟨b4, t⟩ := t
    obtain ⟨b5, t⟩ := t
    obtain ⟨b6, t⟩ := t
    obtain ⟨hf, r, t, q⟩ := t
    exact ⟨hf, r, b_X0_collectWithin_81  h_x0 (fun y0 => absurd y0 p0) (fun _ => b3) (fun _ => b4) (fun _ => b5) (fun _ => b6) (fun _ => t), q⟩
abbrev s_X0_collectWithin_140 (γ : rG) (l : Launch) (x0 : Nat) (x1 : Int32) (x2 : Int32) (h : rHeap) (Q : rHeap → Option Value → Prop) : Prop := rW γ l m_X0_collectWithin 0 0 140 [some (.ref x0), some (.int x1), some (.int x2)] [] h Q
theorem w_X0_collectWithin_140 {γ : rG} {l : Launch} {Q : rHeap → Option Value → Prop} {sh : Nat × (Nat → Nat) × (Nat → Nat)} {I : Nat → Nat → Int32} {J : Nat → Nat → Int64} {R : Nat → Nat → Option Nat} {x0 : Nat} {x1 : Int32} {x2 : Int32}
    (h_x0 : At0 sh R x0)
    (t : ((nI 512) ≤ x2 → (rW γ l m_X0_collectWithin 0 0 129 [some (.ref x0), some (.int (x1 * (2 : Int32))), none] [] (sh, I, J, R) Q)) ∧ (¬ (nI 512) ≤ x2 → (((x2 &&& x1) = 0 → (rW γ l m_X0_collectWithin 0 0 140 [some (.ref x0), some (.int x1), some (.int (x2 + (1 : Int32)))] [] (sh, I, J, R) Q)) ∧ (¬ (x2 &&& x1) = 0 → (vp_in (x2 - x1) 512 ∧ (vp_in x2 512 ∧ (vp_in (x2 - x1) 512 ∧ (rW γ l m_X0_collectWithin 0 0 140 [some (.ref x0), some (.int x1), some (.int (x2 + (1 : Int32)))] [] (sh, (up I (x0 + 25) (x2 - x1).toNatClampNeg (((I (x0 + 25) (x2 - x1).toNatClampNeg) ||| (I (x0 + 25) x2.toNatClampNeg)))), J, R) Q)))))))) :
    rW γ l m_X0_collectWithin 0 0 140 [some (.ref x0), some (.int x1), some (.int x2)] [] (sh, I, J, R) Q := by
  by_cases p0 : (nI 512) ≤ x2
  · have t := t.1 p0
    obtain ⟨hf, r, t, q⟩ := t
    exact ⟨hf, r, b_X0_collectWithin_140  h_x0 (fun _ => t) (fun y0 _ => absurd p0 y0) (fun y0 _ => absurd p0 y0) (fun y0 _ => absurd p0 y0) (fun y0 _ => absurd p0 y0) (fun y0 _ => absurd p0 y0), q⟩
  · have t := t.2 p0
    by_cases p1 : (x2 &&& x1) = 0
    · have t := t.1 p1
      obtain ⟨hf, r, t, q⟩ := t
      exact ⟨hf, r, b_X0_collectWithin_140  h_x0 (fun y0 => absurd y0 p0) (fun _ _ => t) (fun _ y1 => absurd p1 y1) (fun _ y1 => absurd p1 y1) (fun _ y1 => absurd p1 y1) (fun _ y1 => absurd p1 y1), q⟩
    · have t := t.2 p1
      obtain ⟨b5, t⟩ := t
      obtain ⟨b6, t⟩ := t
      obtain ⟨b7, t⟩ := t
      obtain ⟨hf, r, t, q⟩ := t
      exact ⟨hf, r, b_X0_collectWithin_140  h_x0 (fun y0 => absurd y0 p0) (fun _ y1 => absurd y1 p1) (fun _ _ => b5) (fun _ _ => b6) (fun _ _ => b7) (fun _ _ => t), q⟩
