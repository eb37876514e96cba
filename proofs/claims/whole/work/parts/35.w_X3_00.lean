abbrev s_X3_clear_0 (γ : rG) (l : Launch) (x0 : Nat) (h : rHeap) (Q : rHeap → Option Value → Prop) : Prop := rW γ l m_X3_clear 0 0 0 [some (.ref x0)] [] h Q
theorem w_X3_clear_0 {γ : rG} {l : Launch} {Q : rHeap → Option Value → Prop} {sh : Nat × (Nat → Nat) × (Nat → Nat)} {I : Nat → Nat → Int32} {J : Nat → Nat → Int64} {R : Nat → Nat → Option Nat} {x0 : Nat}
    (h_x0 : At3 sh R x0)
    (t : Q (sh, (up (up I x0 0 (0 : Int32)) x0 1 (0 : Int32)), J, R) (none)) :
    rW γ l m_X3_clear 0 0 0 [some (.ref x0)] [] (sh, I, J, R) Q := by
  exact ⟨_, _, b_X3_clear_0  h_x0 ⟨rfl, rfl⟩, t⟩
abbrev s_X3_begin_0 (γ : rG) (l : Launch) (x0 : Nat) (x1 : Int32) (h : rHeap) (Q : rHeap → Option Value → Prop) : Prop := rW γ l m_X3_begin 0 0 0 [some (.ref x0), some (.int x1)] [] h Q
theorem w_X3_begin_0 {γ : rG} {l : Launch} {Q : rHeap → Option Value → Prop} {sh : Nat × (Nat → Nat) × (Nat → Nat)} {I : Nat → Nat → Int32} {J : Nat → Nat → Int64} {R : Nat → Nat → Option Nat} {x0 : Nat} {x1 : Int32}
    (h_x0 : At3 sh R x0)
    (t : ((16 : Int32) ≤ (I x0 0) → (Q (sh, I, J, R) (none))) ∧ (¬ (16 : Int32) ≤ (I x0 0) → (vp_in (I x0 0) 16 ∧ (vp_in (((up I (x0 + 1) (I x0 0).toNatClampNeg x1) x0 0)) 16 ∧ (Q (sh, (up (up I (x0 + 1) (I x0 0).toNatClampNeg x1) (x0 + 2) (((up I (x0 + 1) (I x0 0).toNatClampNeg x1) x0 0)).toNatClampNeg (((up I (x0 + 1) (I x0 0).toNatClampNeg x1) x0 1))), J, R) (none)))))) :
    rW γ l m_X3_begin 0 0 0 [some (.ref x0), some (.int x1)] [] (sh, I, J, R) Q := by
  by_cases p0 : (16 : Int32) ≤ (I x0 0)
  · have t := t.1 p0
    exact ⟨_, _, b_X3_begin_0  h_x0 (fun _ => ⟨rfl, rfl⟩) (fun y0 => absurd p0 y0) (fun y0 => absurd p0 y0) (fun y0 => absurd p0 y0), t⟩
  · have t := t.2 p0
    obtain ⟨b3, t⟩ := t
    obtain ⟨b4, t⟩ := t
    exact ⟨_, _, b_X3_begin_0  h_x0 (fun y0 => absurd y0 p0) (fun _ => b3) (fun _ => b4) (fun _ => ⟨rfl, rfl⟩), t⟩
abbrev s_X3_beginCondition_0 (γ : rG) (l : Launch) (x0 : Nat) (h : rHeap) (Q : rHeap → Option Value → Prop) : Prop := rW γ l m_X3_beginCondition 0 0 0 [some (.ref x0)] [] h Q
theorem w_X3_beginCondition_0 {γ : rG} {l : Launch} {Q : rHeap → Option Value → Prop} {sh : Nat × (Nat → Nat) × (Nat → Nat)} {I : Nat → Nat → Int32} {J : Nat → Nat → Int64} {R : Nat → Nat → Option Nat} {x0 : Nat}
    (h_x0 : At3 sh R x0)
    (t : ((16 : Int32) ≤ (I x0 0) → (Q (sh, I, J, R) (none))) ∧ (¬ (16 : Int32) ≤ (I x0 0) → (vp_in (I x0 0) 16 ∧ (Q (sh, (up I (x0 + 3) (I x0 0).toNatClampNeg (I x0 1)), J, R) (none))))) :
    rW γ l m_X3_beginCondition 0 0 0 [some (.ref x0)] [] (sh, I, J, R) Q := by
  by_cases p0 : (16 : Int32) ≤ (I x0 0)
  · have t := t.1 p0
    exact ⟨_, _, b_X3_beginCondition_0  h_x0 (fun _ => ⟨rfl, rfl⟩) (fun y0 => absurd p0 y0) (fun y0 => absurd p0 y0), t⟩
  · have t := t.2 p0
    obtain ⟨b3, t⟩ := t
    exact ⟨_, _, b_X3_beginCondition_0  h_x0 (fun y0 => absurd y0 p0) (fun _ => b3) (fun _ => ⟨rfl, rfl⟩), t⟩
abbrev s_X3_end_0 (γ : rG) (l : Launch) (x0 : Nat) (x1 : Int32) (h : rHeap) (Q : rHeap → Option Value → Prop) : Prop := rW γ l m_X3_end 0 0 0 [some (.ref x0), some (.int x1)] [] h Q
theorem w_X3_end_0 {γ : rG} {l : Launch} {Q : rHeap → Option Value → Prop} {sh : Nat × (Nat → Nat) × (Nat → Nat)} {I : Nat → Nat → Int32} {J : Nat → Nat → Int64} {R : Nat → Nat → Option Nat} {x0 : Nat} {x1 : Int32}
    (h_x0 : At3 sh R x0)
    (t : ((16 : Int32) ≤ (I x0 0) → (Q (sh, I, J, R) (none))) ∧ (¬ (16 : Int32) ≤ (I x0 0) → ((x1 = 0 → (vp_in (I x0 0) 16 ∧ (rW γ l m_X3_end 0 0 26 [some (.ref x0), none] [] (sh, (up I (x0 + 3) (I x0 0).toNatClampNeg (I x0 1)), J, R) Q))) ∧ (¬ x1 = 0 → (rW γ l m_X3_end 0 0 26 [some (.ref x0), none] [] (sh, I, J, R) Q))))) :
    rW γ l m_X3_end 0 0 0 [some (.ref x0), some (.int x1)] [] (sh, I, J, R) Q := by
  by_cases p0 : (16 : Int32) ≤ (I x0 0)
  · have t := t.1 p0
    exact ⟨_, _, b_X3_end_0  h_x0 (fun _ => ⟨rfl, rfl⟩) (fun y0 _ => absurd p0 y0) (fun y0 _ => absurd p0 y0) (fun y0 _ => absurd p0 y0), t⟩
  · have t := t.2 p0
    by_cases p1 : x1 = 0
    · have t := t.1 p1
      obtain ⟨b5, t⟩ := t
      obtain ⟨hf, r, t, q⟩ := t
      exact ⟨hf, r, b_X3_end_0  h_x0 (fun y0 => absurd y0 p0) (fun _ y1 => absurd p1 y1) (fun _ _ => b5) (fun _ _ => t), q⟩
    · have t := t.2 p1
      obtain ⟨hf, r, t, q⟩ := t
      exact ⟨hf, r, b_X3_end_0  h_x0 (fun y0 => absurd y0 p0) (fun _ _ => t) (fun _ y1 => absurd y1 p1) (fun _ y1 => absurd y1 p1), q⟩
abbrev s_X3_end_26 (γ : rG) (l : Launch) (x0 : Nat) (h : rHeap) (Q : rHeap → Option Value → Prop) : Prop := rW γ l m_X3_end 0 0 26 [some (.ref x0), none] [] h Q
theorem w_X3_end_26 {γ : rG} {l : Launch} {Q : rHeap → Option Value → Prop} {sh : Nat × (Nat → Nat) × (Nat → Nat)} {I : Nat → Nat → Int32} {J : Nat → Nat → Int64} {R : Nat → Nat → Option Nat} {x0 : Nat}
    (h_x0 : At3 sh R x0)
    (t : vp_in (I x0 0) 16 ∧ (Q (sh, (up (up I (x0 + 4) (I x0 0).toNatClampNeg (I x0 1)) x0 0 ((((up I (x0 + 4) (I x0 0).toNatClampNeg (I x0 1)) x0 0) + (1 : Int32)))), J, R) (none))) :
    rW γ l m_X3_end 0 0 26 [some (.ref x0), none] [] (sh, I, J, R) Q := by
  obtain ⟨b1, t⟩ := t
  exact ⟨_, _, b_X3_end_26  h_x0 b1 ⟨rfl, rfl⟩, t⟩
abbrev s_X3_emit_0 (γ : rG) (l : Launch) (x0 : Nat) (x1 : Int32) (h : rHeap) (Q : rHeap → Option Value → Prop) : Prop := rW γ l m_X3_emit 0 0 0 [some (.ref x0), some (.int x1)] [] h Q
theorem w_X3_emit_0 {γ : rG} {l : Launch} {Q : rHeap → Option Value → Prop} {sh : Nat × (Nat → Nat) × (Nat → Nat)} {I : Nat → Nat → Int32} {J : Nat → Nat → Int64} {R : Nat → Nat → Option Nat} {x0 : Nat} {x1 : Int32}
    (h_x0 : At3 sh R x0)
    (t : ((nI 400) ≤ (I x0 1) → (Q (sh, I, J, R) (none))) ∧ (¬ (nI 400) ≤ (I x0 1) → (vp_in (I x0 1) 400 ∧ (Q (sh, (up (up I (x0 + 5) (I x0 1).toNatClampNeg x1) x0 1 ((((up I (x0 + 5) (I x0 1).toNatClampNeg x1) x0 1) + (1 : Int32)))), J, R) (none))))) :
    rW γ l m_X3_emit 0 0 0 [some (.ref x0), some (.int x1)] [] (sh, I, J, R) Q := by
  by_cases p0 : (nI 400) ≤ (I x0 1)
  · have t := t.1 p0
    exact ⟨_, _, b_X3_emit_0  h_x0 (fun _ => ⟨rfl, rfl⟩) (fun y0 => absurd p0 y0) (fun y0 => absurd p0 y0), t⟩
  · have t := t.2 p0
    obtain ⟨b3, t⟩ := t
    exact ⟨_, _, b_X3_emit_0  h_x0 (fun y0 => absurd y0 p0) (fun _ => b3) (fun _ => ⟨rfl, rfl⟩), t⟩
abbrev s_X3_setVars_0 (γ : rG) (l : Launch) (x0 : Nat) (x1 : Int32) (x2 : Int32) (x3 : Int32) (x4 : Int32) (x5 : Int32) (h : rHeap) (Q : rHeap → Option Value → Prop) : Prop := rW γ l m_X3_setVars 0 0 0 [some (.ref x0), some (.int x1), some (.int x2), some (.int x3), some (.int x4), some (.int x5)] [] h Q
theorem w_X3_setVars_0 {γ : rG} {l : Launch} {Q : rHeap → Option Value → Prop} {sh : Nat × (Nat → Nat) × (Nat → Nat)} {I : Nat → Nat → Int32} {J : Nat → Nat → Int64} {R : Nat → Nat → Option Nat} {x0 : Nat} {x1 : Int32} {x2 : Int32} {x3 : Int32} {x4 : Int32} {x5 : Int32}
    (h_x0 : At3 sh R x0)
    (t : vp_in (0 : Int32) 5 ∧ (vp_in (1 : Int32) 5 ∧ (vp_in (2 : Int32) 5 ∧ (vp_in (3 : Int32) 5 ∧ (vp_in (4 : Int32) 5 ∧ (Q (sh, (up (up (up (up (up I (x0 + 6) (0 : Int32).toNatClampNeg x1) (x0 + 6) (1 : Int32).toNatClampNeg x2) (x0 + 6) (2 : Int32).toNatClampNeg x3) (x0 + 6) (3 : Int32).toNatClampNeg x4) (x0 + 6) (4 : Int32).toNatClampNeg x5), J, R) (none))))))) :
    rW γ l m_X3_setVars 0 0 0 [some (.ref x0), some (.int x1), some (.int x2), some (.int x3), some (.int x4), some (.int x5)] [] (sh, I, J, R) Q := by
  obtain ⟨b1, t⟩ := t
  obtain ⟨b2, t⟩ := t
  obtain ⟨b3, t⟩ := t
  obtain ⟨b4, t⟩ := t
  obtain ⟨b5, t⟩ := t
  exact ⟨_, _, b_X3_setVars_0  h_x0 b1 b2 b3 b4 b5 ⟨rfl, rfl⟩, t⟩
abbrev s_X3_firstRule_0 (γ : rG) (l : Launch) (x0 : Nat) (x1 : Int32) (h : rHeap) (Q : rHeap → Option Value → Prop) : Prop := rW γ l m_X3_firstRule 0 0 0 [some (.ref x0), some (.int x1), none, none] [] h Q
theorem w_X3_firstRule_0 {γ : rG} {l : Launch} {Q : rHeap → Option Value → Prop} {sh : Nat × (Nat → Nat) × (Nat → Nat)} {I : Nat → Nat → Int32} {J : Nat → Nat → Int64} {R : Nat → Nat → Option Nat} {x0 : Nat} {x1 : Int32}
    (h_x0 : At3 sh R x0)
    (t : rW γ l m_X3_firstRule 0 0 2 [some (.ref x0), some (.int x1), some (.int (0 : Int32)), none] [] (sh, I, J, R) Q) :
    rW γ l m_X3_firstRule 0 0 0 [some (.ref x0), some (.int x1), none, none] [] (sh, I, J, R) Q := by
  obtain ⟨hf, r, t, q⟩ := t
  exact ⟨hf, r, b_X3_firstRule_0  h_x0 t, q⟩
abbrev s_X3_firstRule_2 (γ : rG) (l : Launch) (x0 : Nat) (x1 : Int32) (x2 : Int32) (h : rHeap) (Q : rHeap → Option Value → Prop) : Prop := rW γ l m_X3_firstRule 0 0 2 [some (.ref x0), some (.int x1), some (.int x2), none] [] h Q
theorem w_X3_firstRule_2 {γ : rG} {l : Launch} {Q : rHeap → Option Value → Prop} {sh : Nat × (Nat → Nat) × (Nat → Nat)} {I : Nat → Nat → Int32} {J : Nat → Nat → Int64} {R : Nat → Nat → Option Nat} {x0 : Nat} {x1 : Int32} {x2 : Int32}
    (h_x0 : At3 sh R x0)
    (t : ((I x0 0) ≤ x2 → (Q (sh, I, J, R) (some (.int (-1 : Int32))))) ∧ (¬ (I x0 0) ≤ x2 → (vp_in x2 16 ∧ (vp_in x2 16 ∧ (((I (x0 + 3) x2.toNatClampNeg) = (I (x0 + 4) x2.toNatClampNeg) → (rW γ l m_X3_firstRule 0 0 30 [some (.ref x0), some (.int x1), some (.int x2), none] [.int (1 : Int32)] (sh, I, J, R) Q)) ∧ (¬ (I (x0 + 3) x2.toNatClampNeg) = (I (x0 + 4) x2.toNatClampNeg) → (rW γ l m_X3_firstRule 0 0 30 [some (.ref x0), some (.int x1), some (.int x2), none] [.int (0 : Int32)] (sh, I, J, R) Q))))))) :
    rW γ l m_X3_firstRule 0 0 2 [some (.ref x0), some (.int x1), some (.int x2), none] [] (sh, I, J, R) Q := by
  by_cases p0 : (I x0 0) ≤ x2
  · have t := t.1 p0
    exact ⟨_, _, b_X3_firstRule_2  h_x0 (fun _ => ⟨rfl, rfl⟩) (fun y0 => absurd p0 y0) (fun y0 => absurd p0 y0) (fun y0 _ => absurd p0 y0) (fun y0 _ => absurd p0 y0), t⟩
  · have t := t.2 p0
    obtain ⟨b3, t⟩ := t
    obtain ⟨b4, t⟩ := t
    by_cases p1 : (I (x0 + 3) x2.toNatClampNeg) = (I (x0 + 4) x2.toNatClampNeg)
    · have t := t.1 p1
      obtain ⟨hf, r, t, q⟩ := t
      exact ⟨hf, r, b_X3_firstRule_2  h_x0 (fun y0 => absurd y0 p0) (fun _ => b3) (fun _ => b4) (fun _ y1 => absurd p1 y1) (fun _ _ => t), q⟩
    · have t := t.2 p1
      obtain ⟨hf, r, t, q⟩ := t
      exact ⟨hf, r, b_X3_firstRule_2  h_x0 (fun y0 => absurd y0 p0) (fun _ => b3) (fun _ => b4) (fun _ _ => t) (fun _ y1 => absurd y1 p1), q⟩
abbrev s_X3_firstRule_30 (γ : rG) (l : Launch) (x0 : Nat) (x1 : Int32) (x2 : Int32) (s0 : Int32) (h : rHeap) (Q : rHeap → Option Value → Prop) : Prop := rW γ l m_X3_firstRule 0 0 30 [some (.ref x0), some (.int x1), some (.int x2), none] [.int s0] h Q
theorem w_X3_firstRule_30 {γ : rG} {l : Launch} {Q : rHeap → Option Value → Prop} {sh : Nat × (Nat → Nat) × (Nat → Nat)} {I : Nat → Nat → Int32} {J : Nat → Nat → Int64} {R : Nat → Nat → Option Nat} {x0 : Nat} {x1 : Int32} {x2 : Int32} {s0 : Int32}
    (h_x0 : At3 sh R x0)
    (t : vp_in x2 16 ∧ (((I (x0 + 1) x2.toNatClampNeg) = x1 → ((s0 = 0 → (vp_in x2 16 ∧ (vp_in x2 16 ∧ (∃ (I8 : Nat → Nat → Int32) (v10 : Int32), rMet γ l m_X3_run [.ref x0, .int (I (x0 + 3) x2.toNatClampNeg), .int (I (x0 + 4) x2.toNatClampNeg)] (sh, I, J, R) (sh, I8, J, R) (some (.int v10)) ∧ ((v10 = 0 → (rW γ l m_X3_firstRule 0 0 2 [some (.ref x0), some (.int x1), some (.int (x2 + (1 : Int32))), none] [] (sh, I8, J, R) Q)) ∧ (¬ v10 = 0 → (Q (sh, I8, J, R) (some (.int x2))))))))) ∧ (¬ s0 = 0 → (Q (sh, I, J, R) (some (.int x2)))))) ∧ (¬ (I (x0 + 1) x2.toNatClampNeg) = x1 → (rW γ l m_X3_firstRule 0 0 2 [some (.ref x0), some (.int x1), some (.int (x2 + (1 : Int32))), none] [] (sh, I, J, R) Q)))) :
    rW γ l m_X3_firstRule 0 0 30 [some (.ref x0), some (.int x1), some (.int x2), none] [.int s0] (sh, I, J, R) Q := by
  obtain ⟨b1, t⟩ := t
  by_cases p0 : (I (x0 + 1) x2.toNatClampNeg) = x1
  · have t := t.1 p0
    by_cases p1 : s0 = 0
    · have t := t.1 p1
      obtain ⟨b6, t⟩ := t
      obtain ⟨b7, t⟩ := t
      obtain ⟨I8, v10, m9, t⟩ := t
      by_cases p2 : v10 = 0
      · have t := t.1 p2
        obtain ⟨hf, r, t, q⟩ := t
        exact ⟨hf, r, b_X3_firstRule_30  h_x0 b1 (fun y0 => absurd p0 y0) (fun _ y1 => absurd p1 y1) (fun _ _ => b6) (fun _ _ => b7) (fun _ _ => m9) (fun _ _ _ => t) (fun _ _ y2 => absurd p2 y2), q⟩
      · have t := t.2 p2
        exact ⟨_, _, b_X3_firstRule_30  h_x0 b1 (fun y0 => absurd p0 y0) (fun _ y1 => absurd p1 y1) (fun _ _ => b6) (fun _ _ => b7) (fun _ _ => m9) (fun _ _ y2 => absurd y2 p2) (fun _ _ _ => ⟨rfl, rfl⟩), t⟩
    · have t := t.2 p1
      exact ⟨_, _, b_X3_firstRule_30 (I8 := I) (v10 := 0) h_x0 b1 (fun y0 => absurd p0 y0) (fun _ _ => ⟨rfl, rfl⟩) (fun _ y1 => absurd y1 p1) (fun _ y1 => absurd y1 p1) (fun _ y1 => absurd y1 p1) (fun _ y1 _ => absurd y1 p1) (fun _ y1 _ => absurd y1 p1), t⟩
  · have t := t.2 p0
    obtain ⟨hf, r, t, q⟩ := t
    exact ⟨hf, r, b_X3_firstRule_30 (I8 := I) (v10 := 0) h_x0 b1 (fun _ => t) (fun y0 _ => absurd y0 p0) (fun y0 _ => absurd y0 p0) (fun y0 _ => absurd y0 p0) (fun y0 _ => absurd y0 p0) (fun y0 _ _ => absurd y0 p0) (fun y0 _ _ => absurd y0 p0), q⟩
abbrev s_X3_worth_0 (γ : rG) (l : Launch) (x0 : Nat) (x1 : Int32) (h : rHeap) (Q : rHeap → Option Value → Prop) : Prop := rW γ l m_X3_worth 0 0 0 [some (.ref x0), some (.int x1)] [] h Q
theorem w_X3_worth_0 {γ : rG} {l : Launch} {Q : rHeap → Option Value → Prop} {sh : Nat × (Nat → Nat) × (Nat → Nat)} {I : Nat → Nat → Int32} {J : Nat → Nat → Int64} {R : Nat → Nat → Option Nat} {x0 : Nat} {x1 : Int32}
    (h_x0 : At3 sh R x0)
    (t : vp_in x1 16 ∧ (vp_in x1 16 ∧ (∃ (I3 : Nat → Nat → Int32) (v5 : Int32), rMet γ l m_X3_run [.ref x0, .int (I (x0 + 2) x1.toNatClampNeg), .int (I (x0 + 3) x1.toNatClampNeg)] (sh, I, J, R) (sh, I3, J, R) (some (.int v5)) ∧ (∃ (v7 : Int32), rMet γ l m_X8_held [.int v5] (sh, I3, J, R) (sh, I3, J, R) (some (.int v7)) ∧ (Q (sh, I3, J, R) (some (.int v7))))))) :
    rW γ l m_X3_worth 0 0 0 [some (.ref x0), some (.int x1)] [] (sh, I, J, R) Q := by
  obtain ⟨b1, t⟩ := t
  obtain ⟨b2, t⟩ := t
  obtain ⟨I3, v5, m4, t⟩ := t
  obtain ⟨v7, m6, t⟩ := t
  exact ⟨_, _, b_X3_worth_0  h_x0 b1 b2 m4 m6 ⟨rfl, rfl⟩, t⟩
abbrev s_X3_worthOfFirst_0 (γ : rG) (l : Launch) (x0 : Nat) (x1 : Int32) (x2 : Int32) (h : rHeap) (Q : rHeap → Option Value → Prop) : Prop := rW γ l m_X3_worthOfFirst 0 0 0 [some (.ref x0), some (.int x1), some (.int x2), none] [] h Q
theorem w_X3_worthOfFirst_0 {γ : rG} {l : Launch} {Q : rHeap → Option Value → Prop} {sh : Nat × (Nat → Nat) × (Nat → Nat)} {I : Nat → Nat → Int32} {J : Nat → Nat → Int64} {R : Nat → Nat → Option Nat} {x0 : Nat} {x1 : Int32} {x2 : Int32}
    (h_x0 : At3 sh R x0)
    (t : ∃ (I1 : Nat → Nat → Int32) (v3 : Int32), rMet γ l m_X3_firstRule [.ref x0, .int x1] (sh, I, J, R) (sh, I1, J, R) (some (.int v3)) ∧ ((v3 = (-1 : Int32) → (Q (sh, I1, J, R) (some (.int x2)))) ∧ (¬ v3 = (-1 : Int32) → (∃ (I5 : Nat → Nat → Int32) (v7 : Int32), rMet γ l m_X3_worth [.ref x0, .int v3] (sh, I1, J, R) (sh, I5, J, R) (some (.int v7)) ∧ (Q (sh, I5, J, R) (some (.int v7))))))) :
    rW γ l m_X3_worthOfFirst 0 0 0 [some (.ref x0), some (.int x1), some (.int x2), none] [] (sh, I, J, R) Q := by
  obtain ⟨I1, v3, m2, t⟩ := t
  by_cases p0 : v3 = (-1 : Int32)
  · have t := t.1 p0
    exact ⟨_, _, b_X3_worthOfFirst_0 (I5 := I) (v7 := 0) h_x0 m2 (fun y0 => absurd p0 y0) (fun y0 => absurd p0 y0) (fun _ => ⟨rfl, rfl⟩), t⟩
  · have t := t.2 p0
    obtain ⟨I5, v7, m6, t⟩ := t
    exact ⟨_, _, b_X3_worthOfFirst_0  h_x0 m2 (fun _ => m6) (fun _ => ⟨rfl, rfl⟩) (fun y0 => absurd y0 p0), t⟩
abbrev s_X3_run_0 (γ : rG) (l : Launch) (x0 : Nat) (x1 : Int32) (x2 : Int32) (h : rHeap) (Q : rHeap → Option Value → Prop) : Prop := rW γ l m_X3_run 0 0 0 [some (.ref x0), some (.int x1), some (.int x2), none, none, none] [] h Q
theorem w_X3_run_0 {γ : rG} {l : Launch} {Q : rHeap → Option Value → Prop} {sh : Nat × (Nat → Nat) × (Nat → Nat)} {I : Nat → Nat → Int32} {J : Nat → Nat → Int64} {R : Nat → Nat → Option Nat} {x0 : Nat} {x1 : Int32} {x2 : Int32}
    (h_x0 : At3 sh R x0)
    (t : rW γ l m_X3_run 0 0 5 [some (.ref x0), none, some (.int x2), some (.int (0 : Int32)), some (.int x1), none] [] (sh, I, J, R) Q) :
    rW γ l m_X3_run 0 0 0 [some (.ref x0), some (.int x1), some (.int x2), none, none, none] [] (sh, I, J, R) Q := by
  obtain ⟨hf, r, t, q⟩ := t
  exact ⟨hf, r, b_X3_run_0  h_x0 t, q⟩
abbrev s_X3_run_5 (γ : rG) (l : Launch) (x0 : Nat) (x2 : Int32) (x3 : Int32) (x4 : Int32) (h : rHeap) (Q : rHeap → Option Value → Prop) : Prop := rW γ l m_X3_run 0 0 5 [some (.ref x0), none, some (.int x2), some (.int x3), some (.int x4), none] [] h Q
theorem w_X3_run_5 {γ : rG} {l : Launch} {Q : rHeap → Option Value → Prop} {sh : Nat × (Nat → Nat) × (Nat → Nat)} {I : Nat → Nat → Int32} {J : Nat → Nat → Int64} {R : Nat → Nat → Option Nat} {x0 : Nat} {x2 : Int32} {x3 : Int32} {x4 : Int32}
    (h_x0 : At3 sh R x0)
    (t : (x2 ≤ x4 → (vp_in (0 : Int32) 32 ∧ (Q (sh, I, J, R) (some (.int ((I (x0 + 7) (0 : Int32).toNatClampNeg))))))) ∧ (¬ x2 ≤ x4 → (vp_in x4 400 ∧ ((0 ≤ (I (x0 + 5) x4.toNatClampNeg) → (rW γ l m_X3_run 0 0 32 [some (.ref x0), none, some (.int x2), some (.int x3), some (.int x4), some (.int (I (x0 + 5) x4.toNatClampNeg))] [] (sh, I, J, R) Q)) ∧ (¬ 0 ≤ (I (x0 + 5) x4.toNatClampNeg) → (((-100 : Int32) < (I (x0 + 5) x4.toNatClampNeg) → ((x3 < (2 : Int32) → (rW γ l m_X3_run 0 0 5 [some (.ref x0), none, some (.int x2), some (.int x3), some (.int (x4 + (1 : Int32))), none] [] (sh, I, J, R) Q)) ∧ (¬ x3 < (2 : Int32) → (vp_in (((x3 + (-1 : Int32)) - (1 : Int32))) 32 ∧ (vp_in ((x3 + (-1 : Int32))) 32 ∧ (∃ (v13 : Int32), rMet γ l m_X3_joined [.int (-(I (x0 + 5) x4.toNatClampNeg)), .int (I (x0 + 7) (((x3 + (-1 : Int32)) - (1 : Int32))).toNatClampNeg), .int (I (x0 + 7) ((x3 + (-1 : Int32))).toNatClampNeg)] (sh, I, J, R) (sh, I, J, R) (some (.int v13)) ∧ (vp_in (((x3 + (-1 : Int32)) - (1 : Int32))) 32 ∧ (rW γ l m_X3_run 0 0 5 [some (.ref x0), none, some (.int x2), some (.int (x3 + (-1 : Int32))), some (.int (x4 + (1 : Int32))), none] [] (sh, (up I (x0 + 7) (((x3 + (-1 : Int32)) - (1 : Int32))).toNatClampNeg v13), J, R) Q)))))))) ∧ (¬ (-100 : Int32) < (I (x0 + 5) x4.toNatClampNeg) → (rW γ l m_X3_run 0 0 32 [some (.ref x0), none, some (.int x2), some (.int x3), some (.int x4), some (.int (I (x0 + 5) x4.toNatClampNeg))] [] (sh, I, J, R) Q)))))))) :
    rW γ l m_X3_run 0 0 5 [some (.ref x0), none, some (.int x2), some (.int x3), some (.int x4), none] [] (sh, I, J, R) Q := by
  by_cases p0 : x2 ≤ x4
  · have t := t.1 p0
    obtain ⟨b2, t⟩ := t
    exact ⟨_, _, b_X3_run_5 (v13 := 0) h_x0 (fun _ => b2) (fun _ => ⟨rfl, rfl⟩) (fun y0 => absurd p0 y0) (fun y0 _ => absurd p0 y0) (fun y0 _ _ _ => absurd p0 y0) (fun y0 _ _ _ => absurd p0 y0) (fun y0 _ _ _ => absurd p0 y0) (fun y0 _ _ _ => absurd p0 y0) (fun y0 _ _ _ => absurd p0 y0) (fun y0 _ _ _ => absurd p0 y0) (fun y0 _ _ => absurd p0 y0), t⟩
  · have t := t.2 p0
    obtain ⟨b4, t⟩ := t
    by_cases p1 : 0 ≤ (I (x0 + 5) x4.toNatClampNeg)
    · have t := t.1 p1
      obtain ⟨hf, r, t, q⟩ := t
      exact ⟨hf, r, b_X3_run_5 (v13 := 0) h_x0 (fun y0 => absurd y0 p0) (fun y0 => absurd y0 p0) (fun _ => b4) (fun _ _ => t) (fun _ y1 _ _ => absurd p1 y1) (fun _ y1 _ _ => absurd p1 y1) (fun _ y1 _ _ => absurd p1 y1) (fun _ y1 _ _ => absurd p1 y1) (fun _ y1 _ _ => absurd p1 y1) (fun _ y1 _ _ => absurd p1 y1) (fun _ y1 _ => absurd p1 y1), q⟩
    · have t := t.2 p1
      by_cases p2 : (-100 : Int32) < (I (x0 + 5) x4.toNatClampNeg)
      · have t := t.1 p2
        by_cases p3 : x3 < (2 : Int32)
        · have t := t.1 p3
          obtain ⟨hf, r, t, q⟩ := t
          exact ⟨hf, r, b_X3_run_5 (v13 := 0) h_x0 (fun y0 => absurd y0 p0) (fun y0 => absurd y0 p0) (fun _ => b4) (fun _ y1 => absurd y1 p1) (fun _ _ _ _ => t) (fun _ _ _ y3 => absurd p3 y3) (fun _ _ _ y3 => absurd p3 y3) (fun _ _ _ y3 => absurd p3 y3) (fun _ _ _ y3 => absurd p3 y3) (fun _ _ _ y3 => absurd p3 y3) (fun _ _ y2 => absurd p2 y2), q⟩
        · have t := t.2 p3
          obtain ⟨b10, t⟩ := t
          obtain ⟨b11, t⟩ := t
          obtain ⟨v13, m12, t⟩ := t
          obtain ⟨b14, t⟩ := t
          obtain ⟨hf, r, t, q⟩ := t
          exact ⟨hf, r, b_X3_run_5  h_x0 (fun y0 => absurd y0 p0) (fun y0 => absurd y0 p0) (fun _ => b4) (fun _ y1 => absurd y1 p1) (fun _ _ _ y3 => absurd y3 p3) (fun _ _ _ _ => b10) (fun _ _ _ _ => b11) (fun _ _ _ _ => m12) (fun _ _ _ _ => b14) (fun _ _ _ _ => t) (fun _ _ y2 => absurd p2 y2), q⟩
      · have t := t.2 p2
        obtain ⟨hf, r, t, q⟩ := t
        exact ⟨hf, r, b_X3_run_5 (v13 := 0) h_x0 (fun y0 => absurd y0 p0) (fun y0 => absurd y0 p0) (fun _ => b4) (fun _ y1 => absurd y1 p1) (fun _ _ y2 _ => absurd y2 p2) (fun _ _ y2 _ => absurd y2 p2) (fun _ _ y2 _ => absurd y2 p2) (fun _ _ y2 _ => absurd y2 p2) (fun _ _ y2 _ => absurd y2 p2) (fun _ _ y2 _ => absurd y2 p2) (fun _ _ _ => t), q⟩
abbrev s_X3_run_32 (γ : rG) (l : Launch) (x0 : Nat) (x2 : Int32) (x3 : Int32) (x4 : Int32) (x5 : Int32) (h : rHeap) (Q : rHeap → Option Value → Prop) : Prop := rW γ l m_X3_run 0 0 32 [some (.ref x0), none, some (.int x2), some (.int x3), some (.int x4), some (.int x5)] [] h Q
theorem w_X3_run_32 {γ : rG} {l : Launch} {Q : rHeap → Option Value → Prop} {sh : Nat × (Nat → Nat) × (Nat → Nat)} {I : Nat → Nat → Int32} {J : Nat → Nat → Int64} {R : Nat → Nat → Option Nat} {x0 : Nat} {x2 : Int32} {x3 : Int32} {x4 : Int32} {x5 : Int32}
    (h_x0 : At3 sh R x0)
    (t : ((nI 32) ≤ x3 → (rW γ l m_X3_run 0 0 5 [some (.ref x0), none, some (.int x2), some (.int x3), some (.int (x4 + (1 : Int32))), none] [] (sh, I, J, R) Q)) ∧ (¬ (nI 32) ≤ x3 → ((x5 < 0 → (∃ (v5 : Int32), rMet γ l m_X3_varOf [.ref x0, .int x5] (sh, I, J, R) (sh, I, J, R) (some (.int v5)) ∧ (vp_in x3 32 ∧ (rW γ l m_X3_run 0 0 5 [some (.ref x0), none, some (.int x2), some (.int (x3 + (1 : Int32))), some (.int (x4 + (1 : Int32))), none] [] (sh, (up I (x0 + 7) x3.toNatClampNeg v5), J, R) Q)))) ∧ (¬ x5 < 0 → (vp_in x3 32 ∧ (rW γ l m_X3_run 0 0 5 [some (.ref x0), none, some (.int x2), some (.int (x3 + (1 : Int32))), some (.int (x4 + (1 : Int32))), none] [] (sh, (up I (x0 + 7) x3.toNatClampNeg x5), J, R) Q)))))) :
    rW γ l m_X3_run 0 0 32 [some (.ref x0), none, some (.int x2), some (.int x3), some (.int x4), some (.int x5)] [] (sh, I, J, R) Q := by
  by_cases p0 : (nI 32) ≤ x3
  · have t := t.1 p0
    obtain ⟨hf, r, t, q⟩ := t
    exact ⟨hf, r, b_X3_run_32 (v5 := 0) h_x0 (fun _ => t) (fun y0 _ => absurd p0 y0) (fun y0 _ => absurd p0 y0) (fun y0 _ => absurd p0 y0) (fun y0 _ => absurd p0 y0) (fun y0 _ => absurd p0 y0), q⟩
  · have t := t.2 p0
    by_cases p1 : x5 < 0
    · have t := t.1 p1
      obtain ⟨v5, m4, t⟩ := t
      obtain ⟨b6, t⟩ := t
      obtain ⟨hf, r, t, q⟩ := t
      exact ⟨hf, r, b_X3_run_32  h_x0 (fun y0 => absurd y0 p0) (fun _ _ => m4) (fun _ _ => b6) (fun _ _ => t) (fun _ y1 => absurd p1 y1) (fun _ y1 => absurd p1 y1), q⟩
    · have t := t.2 p1
      obtain ⟨b8, t⟩ := t
      obtain ⟨hf, r, t, q⟩ := t
      exact ⟨hf, r, b_X3_run_32 (v5 := 0) h_x0 (fun y0 => absurd y0 p0) (fun _ y1 => absurd y1 p1) (fun _ y1 => absurd y1 p1) (fun _ y1 => absurd y1 p1) (fun _ _ => b8) (fun _ _ => t), q⟩
abbrev s_X3_varOf_0 (γ : rG) (l : Launch) (x0 : Nat) (x1 : Int32) (h : rHeap) (Q : rHeap → Option Value → Prop) : Prop := rW γ l m_X3_varOf 0 0 0 [some (.ref x0), some (.int x1), none] [] h Q
theorem w_X3_varOf_0 {γ : rG} {l : Launch} {Q : rHeap → Option Value → Prop} {sh : Nat × (Nat → Nat) × (Nat → Nat)} {I : Nat → Nat → Int32} {J : Nat → Nat → Int64} {R : Nat → Nat → Option Nat} {x0 : Nat} {x1 : Int32}
    (h_x0 : At3 sh R x0)
    (t : (((-100 : Int32) - x1) < 0 → (Q (sh, I, J, R) (some (.int (0 : Int32))))) ∧ (¬ ((-100 : Int32) - x1) < 0 → (((5 : Int32) ≤ ((-100 : Int32) - x1) → (Q (sh, I, J, R) (some (.int (0 : Int32))))) ∧ (¬ (5 : Int32) ≤ ((-100 : Int32) - x1) → (vp_in (((-100 : Int32) - x1)) 5 ∧ (Q (sh, I, J, R) (some (.int ((I (x0 + 6) (((-100 : Int32) - x1)).toNatClampNeg)))))))))) :
    rW γ l m_X3_varOf 0 0 0 [some (.ref x0), some (.int x1), none] [] (sh, I, J, R) Q := by
  by_cases p0 : ((-100 : Int32) - x1) < 0
  · have t := t.1 p0
    exact ⟨_, _, b_X3_varOf_0  h_x0 (fun _ => ⟨rfl, rfl⟩) (fun y0 _ => absurd p0 y0) (fun y0 _ => absurd p0 y0) (fun y0 _ => absurd p0 y0), t⟩
  · have t := t.2 p0
    by_cases p1 : (5 : Int32) ≤ ((-100 : Int32) - x1)
    · have t := t.1 p1
      exact ⟨_, _, b_X3_varOf_0  h_x0 (fun y0 => absurd y0 p0) (fun _ _ => ⟨rfl, rfl⟩) (fun _ y1 => absurd p1 y1) (fun _ y1 => absurd p1 y1), t⟩
    · have t := t.2 p1
      obtain ⟨b5, t⟩ := t
      exact ⟨_, _, b_X3_varOf_0  h_x0 (fun y0 => absurd y0 p0) (fun _ y1 => absurd y1 p1) (fun _ _ => b5) (fun _ _ => ⟨rfl, rfl⟩), t⟩
abbrev s_X3_joined_0 (γ : rG) (l : Launch) (x0 : Int32) (x1 : Int32) (x2 : Int32) (h : rHeap) (Q : rHeap → Option Value → Prop) : Prop := rW γ l m_X3_joined 0 0 0 [some (.int x0), some (.int x1), some (.int x2)] [] h Q
theorem w_X3_joined_0 {γ : rG} {l : Launch} {Q : rHeap → Option Value → Prop} {sh : Nat × (Nat → Nat) × (Nat → Nat)} {I : Nat → Nat → Int32} {J : Nat → Nat → Int64} {R : Nat → Nat → Option Nat} {x0 : Int32} {x1 : Int32} {x2 : Int32}
    (t : (x0 = (10 : Int32) → (Q (sh, I, J, R) (some (.int (x1 &&& x2))))) ∧ (¬ x0 = (10 : Int32) → ((x0 = (11 : Int32) → ((x1 = x2 → (Q (sh, I, J, R) (some (.int (1 : Int32))))) ∧ (¬ x1 = x2 → (Q (sh, I, J, R) (some (.int (0 : Int32))))))) ∧ (¬ x0 = (11 : Int32) → ((x0 = (12 : Int32) → ((x1 = x2 → (Q (sh, I, J, R) (some (.int (0 : Int32))))) ∧ (¬ x1 = x2 → (Q (sh, I, J, R) (some (.int (1 : Int32))))))) ∧ (¬ x0 = (12 : Int32) → ((x0 = (13 : Int32) → ((x2 ≤ x1 → (Q (sh, I, J, R) (some (.int (0 : Int32))))) ∧ (¬ x2 ≤ x1 → (Q (sh, I, J, R) (some (.int (1 : Int32))))))) ∧ (¬ x0 = (13 : Int32) → ((x0 = (14 : Int32) → ((x2 < x1 → (Q (sh, I, J, R) (some (.int (0 : Int32))))) ∧ (¬ x2 < x1 → (Q (sh, I, J, R) (some (.int (1 : Int32))))))) ∧ (¬ x0 = (14 : Int32) → ((x0 = (15 : Int32) → (Q (sh, I, J, R) (some (.int (x1 + x2))))) ∧ (¬ x0 = (15 : Int32) → ((x0 = (16 : Int32) → (Q (sh, I, J, R) (some (.int (x1 - x2))))) ∧ (¬ x0 = (16 : Int32) → ((x0 = (17 : Int32) → (Q (sh, I, J, R) (some (.int (x1 * x2))))) ∧ (¬ x0 = (17 : Int32) → (Q (sh, I, J, R) (some (.int (x1 ||| x2)))))))))))))))))))) :
    rW γ l m_X3_joined 0 0 0 [some (.int x0), some (.int x1), some (.int x2)] [] (sh, I, J, R) Q := by
  by_cases p0 : x0 = (10 : Int32)
  · have t := t.1 p0
    exact ⟨_, _, b_X3_joined_0  (fun _ => ⟨rfl, rfl⟩) (fun y0 _ _ => absurd p0 y0) (fun y0 _ _ => absurd p0 y0) (fun y0 _ _ _ => absurd p0 y0) (fun y0 _ _ _ => absurd p0 y0) (fun y0 _ _ _ _ => absurd p0 y0) (fun y0 _ _ _ _ => absurd p0 y0) (fun y0 _ _ _ _ _ => absurd p0 y0) (fun y0 _ _ _ _ _ => absurd p0 y0) (fun y0 _ _ _ _ _ => absurd p0 y0) (fun y0 _ _ _ _ _ _ => absurd p0 y0) (fun y0 _ _ _ _ _ _ _ => absurd p0 y0) (fun y0 _ _ _ _ _ _ _ => absurd p0 y0), t⟩
  · have t := t.2 p0
    by_cases p1 : x0 = (11 : Int32)
    · have t := t.1 p1
      by_cases p2 : x1 = x2
      · have t := t.1 p2
        exact ⟨_, _, b_X3_joined_0  (fun y0 => absurd y0 p0) (fun _ _ y2 => absurd p2 y2) (fun _ _ _ => ⟨rfl, rfl⟩) (fun _ y1 _ _ => absurd p1 y1) (fun _ y1 _ _ => absurd p1 y1) (fun _ y1 _ _ _ => absurd p1 y1) (fun _ y1 _ _ _ => absurd p1 y1) (fun _ y1 _ _ _ _ => absurd p1 y1) (fun _ y1 _ _ _ _ => absurd p1 y1) (fun _ y1 _ _ _ _ => absurd p1 y1) (fun _ y1 _ _ _ _ _ => absurd p1 y1) (fun _ y1 _ _ _ _ _ _ => absurd p1 y1) (fun _ y1 _ _ _ _ _ _ => absurd p1 y1), t⟩
      · have t := t.2 p2
        exact ⟨_, _, b_X3_joined_0  (fun y0 => absurd y0 p0) (fun _ _ _ => ⟨rfl, rfl⟩) (fun _ _ y2 => absurd y2 p2) (fun _ y1 _ _ => absurd p1 y1) (fun _ y1 _ _ => absurd p1 y1) (fun _ y1 _ _ _ => absurd p1 y1) (fun _ y1 _ _ _ => absurd p1 y1) (fun _ y1 _ _ _ _ => absurd p1 y1) (fun _ y1 _ _ _ _ => absurd p1 y1) (fun _ y1 _ _ _ _ => absurd p1 y1) (fun _ y1 _ _ _ _ _ => absurd p1 y1) (fun _ y1 _ _ _ _ _ _ => absurd p1 y1) (fun _ y1 _ _ _ _ _ _ => absurd p1 y1), t⟩
    · have t := t.2 p1
      by_cases p2 : x0 = (12 : Int32)
      · have t := t.1 p2
        by_cases p3 : x1 = x2
        · have t := t.1 p3
          exact ⟨_, _, b_X3_joined_0  (fun y0 => absurd y0 p0) (fun _ y1 _ => absurd y1 p1) (fun _ y1 _ => absurd y1 p1) (fun _ _ _ _ => ⟨rfl, rfl⟩) (fun _ _ _ y3 => absurd p3 y3) (fun _ _ y2 _ _ => absurd p2 y2) (fun _ _ y2 _ _ => absurd p2 y2) (fun _ _ y2 _ _ _ => absurd p2 y2) (fun _ _ y2 _ _ _ => absurd p2 y2) (fun _ _ y2 _ _ _ => absurd p2 y2) (fun _ _ y2 _ _ _ _ => absurd p2 y2) (fun _ _ y2 _ _ _ _ _ => absurd p2 y2) (fun _ _ y2 _ _ _ _ _ => absurd p2 y2), t⟩
        · have t := t.2 p3
          exact ⟨_, _, b_X3_joined_0  (fun y0 => absurd y0 p0) (fun _ y1 _ => absurd y1 p1) (fun _ y1 _ => absurd y1 p1) (fun _ _ _ y3 => absurd y3 p3) (fun _ _ _ _ => ⟨rfl, rfl⟩) (fun _ _ y2 _ _ => absurd p2 y2) (fun _ _ y2 _ _ => absurd p2 y2) (fun _ _ y2 _ _ _ => absurd p2 y2) (fun _ _ y2 _ _ _ => absurd p2 y2) (fun _ _ y2 _ _ _ => absurd p2 y2) (fun _ _ y2 _ _ _ _ => absurd p2 y2) (fun _ _ y2 _ _ _ _ _ => absurd p2 y2) (fun _ _ y2 _ _ _ _ _ => absurd p2 y2), t⟩
      · have t := t.2 p2
        by_cases p3 : x0 = (13 : Int32)
        · have t := t.1 p3
          by_cases p4 : x2 ≤ x1
          · have t := t.1 p4
            exact ⟨_, _, b_X3_joined_0  (fun y0 => absurd y0 p0) (fun _ y1 _ => absurd y1 p1) (fun _ y1 _ => absurd y1 p1) (fun _ _ y2 _ => absurd y2 p2) (fun _ _ y2 _ => absurd y2 p2) (fun _ _ _ _ _ => ⟨rfl, rfl⟩) (fun _ _ _ _ y4 => absurd p4 y4) (fun _ _ _ y3 _ _ => absurd p3 y3) (fun _ _ _ y3 _ _ => absurd p3 y3) (fun _ _ _ y3 _ _ => absurd p3 y3) (fun _ _ _ y3 _ _ _ => absurd p3 y3) (fun _ _ _ y3 _ _ _ _ => absurd p3 y3) (fun _ _ _ y3 _ _ _ _ => absurd p3 y3), t⟩
          · have t := t.2 p4
            exact ⟨_, _, b_X3_joined_0  (fun y0 => absurd y0 p0) (fun _ y1 _ => absurd y1 p1) (fun _ y1 _ => absurd y1 p1) (fun _ _ y2 _ => absurd y2 p2) (fun _ _ y2 _ => absurd y2 p2) (fun _ _ _ _ y4 => absurd y4 p4) (fun _ _ _ _ _ => ⟨rfl, rfl⟩) (fun _ _ _ y3 _ _ => absurd p3 y3) (fun _ _ _ y3 _ _ => absurd p3 y3) (fun _ _ _ y3 _ _ => absurd p3 y3) (fun _ _ _ y3 _ _ _ => absurd p3 y3) (fun _ _ _ y3 _ _ _ _ => absurd p3 y3) (fun _ _ _ y3 _ _ _ _ => absurd p3 y3), t⟩
        · have t := t.2 p3
          by_cases p4 : x0 = (14 : Int32)
          · have t := t.1 p4
            by_cases p5 : x2 < x1
            · have t := t.1 p5
              exact ⟨_, _, b_X3_joined_0  (fun y0 => absurd y0 p0) (fun _ y1 _ => absurd y1 p1) (fun _ y1 _ => absurd y1 p1) (fun _ _ y2 _ => absurd y2 p2) (fun _ _ y2 _ => absurd y2 p2) (fun _ _ _ y3 _ => absurd y3 p3) (fun _ _ _ y3 _ => absurd y3 p3) (fun _ _ _ _ _ _ => ⟨rfl, rfl⟩) (fun _ _ _ _ _ y5 => absurd p5 y5) (fun _ _ _ _ y4 _ => absurd p4 y4) (fun _ _ _ _ y4 _ _ => absurd p4 y4) (fun _ _ _ _ y4 _ _ _ => absurd p4 y4) (fun _ _ _ _ y4 _ _ _ => absurd p4 y4), t⟩
            · have t := t.2 p5
              exact ⟨_, _, b_X3_joined_0  (fun y0 => absurd y0 p0) (fun _ y1 _ => absurd y1 p1) (fun _ y1 _ => absurd y1 p1) (fun _ _ y2 _ => absurd y2 p2) (fun _ _ y2 _ => absurd y2 p2) (fun _ _ _ y3 _ => absurd y3 p3) (fun _ _ _ y3 _ => absurd y3 p3) (fun _ _ _ _ _ y5 => absurd y5 p5) (fun _ _ _ _ _ _ => ⟨rfl, rfl⟩) (fun _ _ _ _ y4 _ => absurd p4 y4) (fun _ _ _ _ y4 _ _ => absurd p4 y4) (fun _ _ _ _ y4 _ _ _ => absurd p4 y4) (fun _ _ _ _ y4 _ _ _ => absurd p4 y4), t⟩
          · have t := t.2 p4
            by_cases p5 : x0 = (15 : Int32)
            · have t := t.1 p5
              exact ⟨_, _, b_X3_joined_0  (fun y0 => absurd y0 p0) (fun _ y1 _ => absurd y1 p1) (fun _ y1 _ => absurd y1 p1) (fun _ _ y2 _ => absurd y2 p2) (fun _ _ y2 _ => absurd y2 p2) (fun _ _ _ y3 _ => absurd y3 p3) (fun _ _ _ y3 _ => absurd y3 p3) (fun _ _ _ _ y4 _ => absurd y4 p4) (fun _ _ _ _ y4 _ => absurd y4 p4) (fun _ _ _ _ _ _ => ⟨rfl, rfl⟩) (fun _ _ _ _ _ y5 _ => absurd p5 y5) (fun _ _ _ _ _ y5 _ _ => absurd p5 y5) (fun _ _ _ _ _ y5 _ _ => absurd p5 y5), t⟩
            · have t := t.2 p5
              by_cases p6 : x0 = (16 : Int32)
              · have t := t.1 p6
                exact ⟨_, _, b_X3_joined_0  (fun y0 => absurd y0 p0) (fun _ y1 _ => absurd y1 p1) (fun _ y1 _ => absurd y1 p1) (fun _ _ y2 _ => absurd y2 p2) (fun _ _ y2 _ => absurd y2 p2) (fun _ _ _ y3 _ => absurd y3 p3) (fun _ _ _ y3 _ => absurd y3 p3) (fun _ _ _ _ y4 _ => absurd y4 p4) (fun _ _ _ _ y4 _ => absurd y4 p4) (fun _ _ _ _ _ y5 => absurd y5 p5) (fun _ _ _ _ _ _ _ => ⟨rfl, rfl⟩) (fun _ _ _ _ _ _ y6 _ => absurd p6 y6) (fun _ _ _ _ _ _ y6 _ => absurd p6 y6), t⟩
              · have t := t.2 p6
                by_cases p7 : x0 = (17 : Int32)
                · have t := t.1 p7
                  exact ⟨_, _, b_X3_joined_0  (fun y0 => absurd y0 p0) (fun _ y1 _ => absurd y1 p1) (fun _ y1 _ => absurd y1 p1) (fun _ _ y2 _ => absurd y2 p2) (fun _ _ y2 _ => absurd y2 p2) (fun _ _ _ y3 _ => absurd y3 p3) (fun _ _ _ y3 _ => absurd y3 p3) (fun _ _ _ _ y4 _ => absurd y4 p4) (fun _ _ _ _ y4 _ => absurd y4 p4) (fun _ _ _ _ _ y5 => absurd y5 p5) (fun _ _ _ _ _ _ y6 => absurd y6 p6) (fun _ _ _ _ _ _ _ _ => ⟨rfl, rfl⟩) (fun _ _ _ _ _ _ _ y7 => absurd p7 y7), t⟩
                · have t := t.2 p7
                  exact ⟨_, _, b_X3_joined_0  (fun y0 => absurd y0 p0) (fun _ y1 _ => absurd y1 p1) (fun _ y1 _ => absurd y1 p1) (fun _ _ y2 _ => absurd y2 p2) (fun _ _ y2 _ => absurd y2 p2) (fun _ _ _ y3 _ => absurd y3 p3) (fun _ _ _ y3 _ => absurd y3 p3) (fun _ _ _ _ y4 _ => absurd y4 p4) (fun _ _ _ _ y4 _ => absurd y4 p4) (fun _ _ _ _ _ y5 => absurd y5 p5) (fun _ _ _ _ _ _ y6 => absurd y6 p6) (fun _ _ _ _ _ _ _ y7 => absurd y7 p7) (fun _ _ _ _ _ _ _ _ => ⟨rfl, rfl⟩), t⟩
