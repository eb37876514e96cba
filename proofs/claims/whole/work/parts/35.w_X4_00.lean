abbrev s_X4_readText_0 (γ : rG) (l : Launch) (x0 : Nat) (x1 : Nat) (x2 : Nat) (h : rHeap) (Q : rHeap → Option Value → Prop) : Prop := rW γ l m_X4_readText 0 0 0 [some (.ref x0), some (.ref x1), some (.ref x2), none, none] [] h Q
theorem w_X4_readText_0 {γ : rG} {l : Launch} {Q : rHeap → Option Value → Prop} {sh : Nat × (Nat → Nat) × (Nat → Nat)} {I : Nat → Nat → Int32} {J : Nat → Nat → Int64} {R : Nat → Nat → Option Nat} {x0 : Nat} {x1 : Nat} {x2 : Nat}
    (h_x0 : At4 sh R x0)
    (h_x1 : At6 sh R x1)
    (h_x2 : At3 sh R x2)
    (t : rW γ l m_X4_readText 0 0 5 [some (.ref x0), some (.ref x1), none, none, none] [] (sh, I, J, (up R x0 5 (some x2))) Q) :
    rW γ l m_X4_readText 0 0 0 [some (.ref x0), some (.ref x1), some (.ref x2), none, none] [] (sh, I, J, R) Q := by
  obtain ⟨hf, r, t, q⟩ := t
  exact ⟨hf, r, b_X4_readText_0  h_x0 h_x1 h_x2 t, q⟩
abbrev s_X4_readText_5 (γ : rG) (l : Launch) (x0 : Nat) (x1 : Nat) (h : rHeap) (Q : rHeap → Option Value → Prop) : Prop := rW γ l m_X4_readText 0 0 5 [some (.ref x0), some (.ref x1), none, none, none] [] h Q
theorem w_X4_readText_5 {γ : rG} {l : Launch} {Q : rHeap → Option Value → Prop} {sh : Nat × (Nat → Nat) × (Nat → Nat)} {I : Nat → Nat → Int32} {J : Nat → Nat → Int64} {R : Nat → Nat → Option Nat} {x0 : Nat} {x1 : Nat}
    (h_x0 : At4 sh R x0)
    (h_x1 : At6 sh R x1)
    (t : ∃ (b1 : Nat), R x0 5 = some b1 ∧ (At3 sh R b1 ∧ (∃ (I3 : Nat → Nat → Int32), rMet γ l m_X3_clear [.ref b1] (sh, I, J, R) (sh, I3, J, R) none ∧ (rW γ l m_X4_readText 0 0 34 [some (.ref x0), some (.ref x1), none, some (.int (0 : Int32)), none] [] (sh, (up (up (up (up I3 x0 1 (0 : Int32)) x0 2 (0 : Int32)) x0 4 (0 : Int32)) x1 2 (0 : Int32)), J, R) Q)))) :
    rW γ l m_X4_readText 0 0 5 [some (.ref x0), some (.ref x1), none, none, none] [] (sh, I, J, R) Q := by
  obtain ⟨b1, e2, t⟩ := t
  obtain ⟨h_b1, t⟩ := t
  obtain ⟨I3, m4, t⟩ := t
  obtain ⟨hf, r, t, q⟩ := t
  exact ⟨hf, r, b_X4_readText_5  h_x0 h_x1 e2 h_b1 m4 t, q⟩
abbrev s_X4_readText_34 (γ : rG) (l : Launch) (x0 : Nat) (x1 : Nat) (x3 : Int32) (h : rHeap) (Q : rHeap → Option Value → Prop) : Prop := rW γ l m_X4_readText 0 0 34 [some (.ref x0), some (.ref x1), none, some (.int x3), none] [] h Q
theorem w_X4_readText_34 {γ : rG} {l : Launch} {Q : rHeap → Option Value → Prop} {sh : Nat × (Nat → Nat) × (Nat → Nat)} {I : Nat → Nat → Int32} {J : Nat → Nat → Int64} {R : Nat → Nat → Option Nat} {x0 : Nat} {x1 : Nat} {x3 : Int32}
    (h_x0 : At4 sh R x0)
    (h_x1 : At6 sh R x1)
    (t : ((400 : Int32) < x3 → (Q (sh, I, J, R) (some (.int (2 : Int32))))) ∧ (¬ (400 : Int32) < x3 → (∃ (I3 : Nat → Nat → Int32), rMet γ l m_X6_scan [.ref x1] (sh, I, J, R) (sh, I3, J, R) none ∧ (((I3 x1 4) = 0 → (((I3 x0 2) = 0 → (Q (sh, I3, J, R) (some (.int (0 : Int32))))) ∧ (¬ (I3 x0 2) = 0 → (Q (sh, I3, J, R) (some (.int (1 : Int32))))))) ∧ (¬ (I3 x1 4) = 0 → (∃ (v7 : Int32), rMet γ l m_X4_faultOf [.ref x0, .int (I3 x1 4), .int x3] (sh, I3, J, R) (sh, I3, J, R) (some (.int v7)) ∧ ((v7 = 0 → (∃ (I9 : Nat → Nat → Int32), rMet γ l m_X4_take [.ref x0, .int (I3 x1 4), .int (I3 x1 5)] (sh, I3, J, R) (sh, I9, J, R) none ∧ (rW γ l m_X4_readText 0 0 34 [some (.ref x0), some (.ref x1), none, some (.int (x3 + (1 : Int32))), none] [] (sh, I9, J, R) Q))) ∧ (¬ v7 = 0 → (Q (sh, I3, J, R) (some (.int v7))))))))))) :
    rW γ l m_X4_readText 0 0 34 [some (.ref x0), some (.ref x1), none, some (.int x3), none] [] (sh, I, J, R) Q := by
  by_cases p0 : (400 : Int32) < x3
  · have t := t.1 p0
    exact ⟨_, _, b_X4_readText_34 (I3 := I) (v7 := 0) (I9 := I) h_x0 h_x1 (fun _ => ⟨rfl, rfl⟩) (fun y0 => absurd p0 y0) (fun y0 _ => absurd p0 y0) (fun y0 _ _ => absurd p0 y0) (fun y0 _ _ => absurd p0 y0) (fun y0 _ _ => absurd p0 y0) (fun y0 _ _ => absurd p0 y0) (fun y0 _ _ => absurd p0 y0), t⟩
  · have t := t.2 p0
    obtain ⟨I3, m4, t⟩ := t
    by_cases p1 : (I3 x1 4) = 0
    · have t := t.1 p1
      by_cases p2 : (I3 x0 2) = 0
      · have t := t.1 p2
        exact ⟨_, _, b_X4_readText_34 (v7 := 0) (I9 := I) h_x0 h_x1 (fun y0 => absurd y0 p0) (fun _ => m4) (fun _ y1 => absurd p1 y1) (fun _ y1 _ => absurd p1 y1) (fun _ y1 _ => absurd p1 y1) (fun _ y1 _ => absurd p1 y1) (fun _ _ y2 => absurd p2 y2) (fun _ _ _ => ⟨rfl, rfl⟩), t⟩
      · have t := t.2 p2
        exact ⟨_, _, b_X4_readText_34 (v7 := 0) (I9 := I) h_x0 h_x1 (fun y0 => absurd y0 p0) (fun _ => m4) (fun _ y1 => absurd p1 y1) (fun _ y1 _ => absurd p1 y1) (fun _ y1 _ => absurd p1 y1) (fun _ y1 _ => absurd p1 y1) (fun _ _ _ => ⟨rfl, rfl⟩) (fun _ _ y2 => absurd y2 p2), t⟩
    · have t := t.2 p1
      obtain ⟨v7, m6, t⟩ := t
      by_cases p2 : v7 = 0
      · have t := t.1 p2
        obtain ⟨I9, m10, t⟩ := t
        obtain ⟨hf, r, t, q⟩ := t
        exact ⟨hf, r, b_X4_readText_34  h_x0 h_x1 (fun y0 => absurd y0 p0) (fun _ => m4) (fun _ _ => m6) (fun _ _ _ => m10) (fun _ _ _ => t) (fun _ _ y2 => absurd p2 y2) (fun _ y1 _ => absurd y1 p1) (fun _ y1 _ => absurd y1 p1), q⟩
      · have t := t.2 p2
        exact ⟨_, _, b_X4_readText_34 (I9 := I) h_x0 h_x1 (fun y0 => absurd y0 p0) (fun _ => m4) (fun _ _ => m6) (fun _ _ y2 => absurd y2 p2) (fun _ _ y2 => absurd y2 p2) (fun _ _ _ => ⟨rfl, rfl⟩) (fun _ y1 _ => absurd y1 p1) (fun _ y1 _ => absurd y1 p1), t⟩
abbrev s_X4_faultOf_0 (γ : rG) (l : Launch) (x0 : Nat) (x1 : Int32) (x2 : Int32) (h : rHeap) (Q : rHeap → Option Value → Prop) : Prop := rW γ l m_X4_faultOf 0 0 0 [some (.ref x0), some (.int x1), some (.int x2), none] [] h Q
theorem w_X4_faultOf_0 {γ : rG} {l : Launch} {Q : rHeap → Option Value → Prop} {sh : Nat × (Nat → Nat) × (Nat → Nat)} {I : Nat → Nat → Int32} {J : Nat → Nat → Int64} {R : Nat → Nat → Option Nat} {x0 : Nat} {x1 : Int32} {x2 : Int32}
    (h_x0 : At4 sh R x0)
    (t : ∃ (v2 : Int32), rMet γ l m_X4_goesOn [.ref x0, .int x1] (sh, I, J, R) (sh, I, J, R) (some (.int v2)) ∧ (∃ (b9 : Nat), R x0 5 = some b9 ∧ (At3 sh R b9 ∧ ((v2 = 0 → (Q (sh, I, J, R) (some (.int (1 : Int32))))) ∧ (¬ v2 = 0 → (((400 : Int32) ≤ x2 → (Q (sh, I, J, R) (some (.int (2 : Int32))))) ∧ (¬ (400 : Int32) ≤ x2 → ((x1 = (4 : Int32) → (((16 : Int32) ≤ (I b9 0) → (Q (sh, I, J, R) (some (.int (2 : Int32))))) ∧ (¬ (16 : Int32) ≤ (I b9 0) → (rW γ l m_X4_faultOf 0 0 34 [some (.ref x0), some (.int x1), none, none] [] (sh, I, J, R) Q)))) ∧ (¬ x1 = (4 : Int32) → (rW γ l m_X4_faultOf 0 0 34 [some (.ref x0), some (.int x1), none, none] [] (sh, I, J, R) Q)))))))))) :
    rW γ l m_X4_faultOf 0 0 0 [some (.ref x0), some (.int x1), some (.int x2), none] [] (sh, I, J, R) Q := by
  obtain ⟨v2, m1, t⟩ := t
  obtain ⟨b9, e10, t⟩ := t
  obtain ⟨h_b9, t⟩ := t
  by_cases p0 : v2 = 0
  · have t := t.1 p0
    exact ⟨_, _, b_X4_faultOf_0  h_x0 m1 (fun y0 _ => absurd p0 y0) (fun y0 _ _ => absurd p0 y0) e10 h_b9 (fun y0 _ _ _ => absurd p0 y0) (fun y0 _ _ _ => absurd p0 y0) (fun _ => ⟨rfl, rfl⟩), t⟩
  · have t := t.2 p0
    by_cases p1 : (400 : Int32) ≤ x2
    · have t := t.1 p1
      exact ⟨_, _, b_X4_faultOf_0  h_x0 m1 (fun _ _ => ⟨rfl, rfl⟩) (fun _ y1 _ => absurd p1 y1) e10 h_b9 (fun _ y1 _ _ => absurd p1 y1) (fun _ y1 _ _ => absurd p1 y1) (fun y0 => absurd y0 p0), t⟩
    · have t := t.2 p1
      by_cases p2 : x1 = (4 : Int32)
      · have t := t.1 p2
        by_cases p3 : (16 : Int32) ≤ (I b9 0)
        · have t := t.1 p3
          exact ⟨_, _, b_X4_faultOf_0  h_x0 m1 (fun _ y1 => absurd y1 p1) (fun _ _ y2 => absurd p2 y2) e10 h_b9 (fun _ _ _ _ => ⟨rfl, rfl⟩) (fun _ _ _ y3 => absurd p3 y3) (fun y0 => absurd y0 p0), t⟩
        · have t := t.2 p3
          obtain ⟨hf, r, t, q⟩ := t
          exact ⟨hf, r, b_X4_faultOf_0  h_x0 m1 (fun _ y1 => absurd y1 p1) (fun _ _ y2 => absurd p2 y2) e10 h_b9 (fun _ _ _ y3 => absurd y3 p3) (fun _ _ _ _ => t) (fun y0 => absurd y0 p0), q⟩
      · have t := t.2 p2
        obtain ⟨hf, r, t, q⟩ := t
        exact ⟨hf, r, b_X4_faultOf_0  h_x0 m1 (fun _ y1 => absurd y1 p1) (fun _ _ _ => t) e10 h_b9 (fun _ _ y2 _ => absurd y2 p2) (fun _ _ y2 _ => absurd y2 p2) (fun y0 => absurd y0 p0), q⟩
abbrev s_X4_faultOf_34 (γ : rG) (l : Launch) (x0 : Nat) (x1 : Int32) (h : rHeap) (Q : rHeap → Option Value → Prop) : Prop := rW γ l m_X4_faultOf 0 0 34 [some (.ref x0), some (.int x1), none, none] [] h Q
theorem w_X4_faultOf_34 {γ : rG} {l : Launch} {Q : rHeap → Option Value → Prop} {sh : Nat × (Nat → Nat) × (Nat → Nat)} {I : Nat → Nat → Int32} {J : Nat → Nat → Int64} {R : Nat → Nat → Option Nat} {x0 : Nat} {x1 : Int32}
    (h_x0 : At4 sh R x0)
    (t : (x1 = (8 : Int32) → (((I x0 4) < (6 : Int32) → (Q (sh, I, J, R) (some (.int (0 : Int32))))) ∧ (¬ (I x0 4) < (6 : Int32) → (Q (sh, I, J, R) (some (.int (2 : Int32))))))) ∧ (¬ x1 = (8 : Int32) → (Q (sh, I, J, R) (some (.int (0 : Int32)))))) :
    rW γ l m_X4_faultOf 0 0 34 [some (.ref x0), some (.int x1), none, none] [] (sh, I, J, R) Q := by
  by_cases p0 : x1 = (8 : Int32)
  · have t := t.1 p0
    by_cases p1 : (I x0 4) < (6 : Int32)
    · have t := t.1 p1
      exact ⟨_, _, b_X4_faultOf_34  h_x0 (fun y0 => absurd p0 y0) (fun _ _ => ⟨rfl, rfl⟩) (fun _ y1 => absurd p1 y1), t⟩
    · have t := t.2 p1
      exact ⟨_, _, b_X4_faultOf_34  h_x0 (fun y0 => absurd p0 y0) (fun _ y1 => absurd y1 p1) (fun _ _ => ⟨rfl, rfl⟩), t⟩
  · have t := t.2 p0
    exact ⟨_, _, b_X4_faultOf_34  h_x0 (fun _ => ⟨rfl, rfl⟩) (fun y0 _ => absurd y0 p0) (fun y0 _ => absurd y0 p0), t⟩
abbrev s_X4_goesOn_0 (γ : rG) (l : Launch) (x0 : Nat) (x1 : Int32) (h : rHeap) (Q : rHeap → Option Value → Prop) : Prop := rW γ l m_X4_goesOn 0 0 0 [some (.ref x0), some (.int x1)] [] h Q
theorem w_X4_goesOn_0 {γ : rG} {l : Launch} {Q : rHeap → Option Value → Prop} {sh : Nat × (Nat → Nat) × (Nat → Nat)} {I : Nat → Nat → Int32} {J : Nat → Nat → Int64} {R : Nat → Nat → Option Nat} {x0 : Nat} {x1 : Int32}
    (h_x0 : At4 sh R x0)
    (t : ((I x0 2) = 0 → ((x1 = (4 : Int32) → (Q (sh, I, J, R) (some (.int (1 : Int32))))) ∧ (¬ x1 = (4 : Int32) → (Q (sh, I, J, R) (some (.int (0 : Int32))))))) ∧ (¬ (I x0 2) = 0 → (((I x0 2) = (1 : Int32) → ((x1 = (2 : Int32) → (Q (sh, I, J, R) (some (.int (1 : Int32))))) ∧ (¬ x1 = (2 : Int32) → ((x1 = (3 : Int32) → (Q (sh, I, J, R) (some (.int (1 : Int32))))) ∧ (¬ x1 = (3 : Int32) → ((x1 = (8 : Int32) → (Q (sh, I, J, R) (some (.int (1 : Int32))))) ∧ (¬ x1 = (8 : Int32) → (Q (sh, I, J, R) (some (.int (0 : Int32))))))))))) ∧ (¬ (I x0 2) = (1 : Int32) → ((x1 < (15 : Int32) → (((I x0 4) ≤ 0 → (((I x0 3) = (1 : Int32) → ((x1 < (11 : Int32) → (Q (sh, I, J, R) (some (.int (0 : Int32))))) ∧ (¬ x1 < (11 : Int32) → (((14 : Int32) < x1 → (Q (sh, I, J, R) (some (.int (0 : Int32))))) ∧ (¬ (14 : Int32) < x1 → (Q (sh, I, J, R) (some (.int (1 : Int32))))))))) ∧ (¬ (I x0 3) = (1 : Int32) → (((I x0 3) = (2 : Int32) → ((x1 = (10 : Int32) → (Q (sh, I, J, R) (some (.int (1 : Int32))))) ∧ (¬ x1 = (10 : Int32) → ((x1 = (9 : Int32) → (Q (sh, I, J, R) (some (.int (1 : Int32))))) ∧ (¬ x1 = (9 : Int32) → ((x1 = (6 : Int32) → (Q (sh, I, J, R) (some (.int (1 : Int32))))) ∧ (¬ x1 = (6 : Int32) → (Q (sh, I, J, R) (some (.int (0 : Int32))))))))))) ∧ (¬ (I x0 3) = (2 : Int32) → ((x1 = (5 : Int32) → (Q (sh, I, J, R) (some (.int (1 : Int32))))) ∧ (¬ x1 = (5 : Int32) → ((x1 = (6 : Int32) → (Q (sh, I, J, R) (some (.int (1 : Int32))))) ∧ (¬ x1 = (6 : Int32) → (Q (sh, I, J, R) (some (.int (0 : Int32))))))))))))) ∧ (¬ (I x0 4) ≤ 0 → ((x1 = (7 : Int32) → (Q (sh, I, J, R) (some (.int (1 : Int32))))) ∧ (¬ x1 = (7 : Int32) → (Q (sh, I, J, R) (some (.int (0 : Int32))))))))) ∧ (¬ x1 < (15 : Int32) → (Q (sh, I, J, R) (some (.int (1 : Int32)))))))))) :
    rW γ l m_X4_goesOn 0 0 0 [some (.ref x0), some (.int x1)] [] (sh, I, J, R) Q := by
  by_cases p0 : (I x0 2) = 0
  · have t := t.1 p0
    by_cases p1 : x1 = (4 : Int32)
    · have t := t.1 p1
      exact ⟨_, _, b_X4_goesOn_0  h_x0 (fun y0 _ _ _ _ _ _ => absurd p0 y0) (fun y0 _ _ _ _ _ _ _ => absurd p0 y0) (fun y0 _ _ _ _ _ _ _ => absurd p0 y0) (fun y0 _ _ _ _ _ _ => absurd p0 y0) (fun y0 _ _ _ _ _ _ _ => absurd p0 y0) (fun y0 _ _ _ _ _ _ _ _ => absurd p0 y0) (fun y0 _ _ _ _ _ _ _ _ => absurd p0 y0) (fun y0 _ _ _ _ _ => absurd p0 y0) (fun y0 _ _ _ _ _ _ => absurd p0 y0) (fun y0 _ _ _ _ _ _ => absurd p0 y0) (fun y0 _ _ _ _ => absurd p0 y0) (fun y0 _ _ _ _ => absurd p0 y0) (fun y0 _ _ => absurd p0 y0) (fun y0 _ _ => absurd p0 y0) (fun y0 _ _ _ => absurd p0 y0) (fun y0 _ _ _ _ => absurd p0 y0) (fun y0 _ _ _ _ => absurd p0 y0) (fun _ y1 => absurd p1 y1) (fun _ _ => ⟨rfl, rfl⟩), t⟩
    · have t := t.2 p1
      exact ⟨_, _, b_X4_goesOn_0  h_x0 (fun y0 _ _ _ _ _ _ => absurd p0 y0) (fun y0 _ _ _ _ _ _ _ => absurd p0 y0) (fun y0 _ _ _ _ _ _ _ => absurd p0 y0) (fun y0 _ _ _ _ _ _ => absurd p0 y0) (fun y0 _ _ _ _ _ _ _ => absurd p0 y0) (fun y0 _ _ _ _ _ _ _ _ => absurd p0 y0) (fun y0 _ _ _ _ _ _ _ _ => absurd p0 y0) (fun y0 _ _ _ _ _ => absurd p0 y0) (fun y0 _ _ _ _ _ _ => absurd p0 y0) (fun y0 _ _ _ _ _ _ => absurd p0 y0) (fun y0 _ _ _ _ => absurd p0 y0) (fun y0 _ _ _ _ => absurd p0 y0) (fun y0 _ _ => absurd p0 y0) (fun y0 _ _ => absurd p0 y0) (fun y0 _ _ _ => absurd p0 y0) (fun y0 _ _ _ _ => absurd p0 y0) (fun y0 _ _ _ _ => absurd p0 y0) (fun _ _ => ⟨rfl, rfl⟩) (fun _ y1 => absurd y1 p1), t⟩
  · have t := t.2 p0
    by_cases p1 : (I x0 2) = (1 : Int32)
    · have t := t.1 p1
      by_cases p2 : x1 = (2 : Int32)
      · have t := t.1 p2
        exact ⟨_, _, b_X4_goesOn_0  h_x0 (fun _ y1 _ _ _ _ _ => absurd p1 y1) (fun _ y1 _ _ _ _ _ _ => absurd p1 y1) (fun _ y1 _ _ _ _ _ _ => absurd p1 y1) (fun _ y1 _ _ _ _ _ => absurd p1 y1) (fun _ y1 _ _ _ _ _ _ => absurd p1 y1) (fun _ y1 _ _ _ _ _ _ _ => absurd p1 y1) (fun _ y1 _ _ _ _ _ _ _ => absurd p1 y1) (fun _ y1 _ _ _ _ => absurd p1 y1) (fun _ y1 _ _ _ _ _ => absurd p1 y1) (fun _ y1 _ _ _ _ _ => absurd p1 y1) (fun _ y1 _ _ _ => absurd p1 y1) (fun _ y1 _ _ _ => absurd p1 y1) (fun _ y1 _ => absurd p1 y1) (fun _ _ _ => ⟨rfl, rfl⟩) (fun _ _ y2 _ => absurd p2 y2) (fun _ _ y2 _ _ => absurd p2 y2) (fun _ _ y2 _ _ => absurd p2 y2) (fun y0 _ => absurd y0 p0) (fun y0 _ => absurd y0 p0), t⟩
      · have t := t.2 p2
        by_cases p3 : x1 = (3 : Int32)
        · have t := t.1 p3
          exact ⟨_, _, b_X4_goesOn_0  h_x0 (fun _ y1 _ _ _ _ _ => absurd p1 y1) (fun _ y1 _ _ _ _ _ _ => absurd p1 y1) (fun _ y1 _ _ _ _ _ _ => absurd p1 y1) (fun _ y1 _ _ _ _ _ => absurd p1 y1) (fun _ y1 _ _ _ _ _ _ => absurd p1 y1) (fun _ y1 _ _ _ _ _ _ _ => absurd p1 y1) (fun _ y1 _ _ _ _ _ _ _ => absurd p1 y1) (fun _ y1 _ _ _ _ => absurd p1 y1) (fun _ y1 _ _ _ _ _ => absurd p1 y1) (fun _ y1 _ _ _ _ _ => absurd p1 y1) (fun _ y1 _ _ _ => absurd p1 y1) (fun _ y1 _ _ _ => absurd p1 y1) (fun _ y1 _ => absurd p1 y1) (fun _ _ y2 => absurd y2 p2) (fun _ _ _ _ => ⟨rfl, rfl⟩) (fun _ _ _ y3 _ => absurd p3 y3) (fun _ _ _ y3 _ => absurd p3 y3) (fun y0 _ => absurd y0 p0) (fun y0 _ => absurd y0 p0), t⟩
        · have t := t.2 p3
          by_cases p4 : x1 = (8 : Int32)
          · have t := t.1 p4
            exact ⟨_, _, b_X4_goesOn_0  h_x0 (fun _ y1 _ _ _ _ _ => absurd p1 y1) (fun _ y1 _ _ _ _ _ _ => absurd p1 y1) (fun _ y1 _ _ _ _ _ _ => absurd p1 y1) (fun _ y1 _ _ _ _ _ => absurd p1 y1) (fun _ y1 _ _ _ _ _ _ => absurd p1 y1) (fun _ y1 _ _ _ _ _ _ _ => absurd p1 y1) (fun _ y1 _ _ _ _ _ _ _ => absurd p1 y1) (fun _ y1 _ _ _ _ => absurd p1 y1) (fun _ y1 _ _ _ _ _ => absurd p1 y1) (fun _ y1 _ _ _ _ _ => absurd p1 y1) (fun _ y1 _ _ _ => absurd p1 y1) (fun _ y1 _ _ _ => absurd p1 y1) (fun _ y1 _ => absurd p1 y1) (fun _ _ y2 => absurd y2 p2) (fun _ _ _ y3 => absurd y3 p3) (fun _ _ _ _ y4 => absurd p4 y4) (fun _ _ _ _ _ => ⟨rfl, rfl⟩) (fun y0 _ => absurd y0 p0) (fun y0 _ => absurd y0 p0), t⟩
          · have t := t.2 p4
            exact ⟨_, _, b_X4_goesOn_0  h_x0 (fun _ y1 _ _ _ _ _ => absurd p1 y1) (fun _ y1 _ _ _ _ _ _ => absurd p1 y1) (fun _ y1 _ _ _ _ _ _ => absurd p1 y1) (fun _ y1 _ _ _ _ _ => absurd p1 y1) (fun _ y1 _ _ _ _ _ _ => absurd p1 y1) (fun _ y1 _ _ _ _ _ _ _ => absurd p1 y1) (fun _ y1 _ _ _ _ _ _ _ => absurd p1 y1) (fun _ y1 _ _ _ _ => absurd p1 y1) (fun _ y1 _ _ _ _ _ => absurd p1 y1) (fun _ y1 _ _ _ _ _ => absurd p1 y1) (fun _ y1 _ _ _ => absurd p1 y1) (fun _ y1 _ _ _ => absurd p1 y1) (fun _ y1 _ => absurd p1 y1) (fun _ _ y2 => absurd y2 p2) (fun _ _ _ y3 => absurd y3 p3) (fun _ _ _ _ _ => ⟨rfl, rfl⟩) (fun _ _ _ _ y4 => absurd y4 p4) (fun y0 _ => absurd y0 p0) (fun y0 _ => absurd y0 p0), t⟩
    · have t := t.2 p1
      by_cases p2 : x1 < (15 : Int32)
      · have t := t.1 p2
        by_cases p3 : (I x0 4) ≤ 0
        · have t := t.1 p3
          by_cases p4 : (I x0 3) = (1 : Int32)
          · have t := t.1 p4
            by_cases p5 : x1 < (11 : Int32)
            · have t := t.1 p5
              exact ⟨_, _, b_X4_goesOn_0  h_x0 (fun _ _ _ _ y4 _ _ => absurd p4 y4) (fun _ _ _ _ y4 _ _ _ => absurd p4 y4) (fun _ _ _ _ y4 _ _ _ => absurd p4 y4) (fun _ _ _ _ y4 _ _ => absurd p4 y4) (fun _ _ _ _ y4 _ _ _ => absurd p4 y4) (fun _ _ _ _ y4 _ _ _ _ => absurd p4 y4) (fun _ _ _ _ y4 _ _ _ _ => absurd p4 y4) (fun _ _ _ _ _ _ => ⟨rfl, rfl⟩) (fun _ _ _ _ _ y5 _ => absurd p5 y5) (fun _ _ _ _ _ y5 _ => absurd p5 y5) (fun _ _ _ y3 _ => absurd p3 y3) (fun _ _ _ y3 _ => absurd p3 y3) (fun _ _ y2 => absurd p2 y2) (fun _ y1 _ => absurd y1 p1) (fun _ y1 _ _ => absurd y1 p1) (fun _ y1 _ _ _ => absurd y1 p1) (fun _ y1 _ _ _ => absurd y1 p1) (fun y0 _ => absurd y0 p0) (fun y0 _ => absurd y0 p0), t⟩
            · have t := t.2 p5
              by_cases p6 : (14 : Int32) < x1
              · have t := t.1 p6
                exact ⟨_, _, b_X4_goesOn_0  h_x0 (fun _ _ _ _ y4 _ _ => absurd p4 y4) (fun _ _ _ _ y4 _ _ _ => absurd p4 y4) (fun _ _ _ _ y4 _ _ _ => absurd p4 y4) (fun _ _ _ _ y4 _ _ => absurd p4 y4) (fun _ _ _ _ y4 _ _ _ => absurd p4 y4) (fun _ _ _ _ y4 _ _ _ _ => absurd p4 y4) (fun _ _ _ _ y4 _ _ _ _ => absurd p4 y4) (fun _ _ _ _ _ y5 => absurd y5 p5) (fun _ _ _ _ _ _ _ => ⟨rfl, rfl⟩) (fun _ _ _ _ _ _ y6 => absurd p6 y6) (fun _ _ _ y3 _ => absurd p3 y3) (fun _ _ _ y3 _ => absurd p3 y3) (fun _ _ y2 => absurd p2 y2) (fun _ y1 _ => absurd y1 p1) (fun _ y1 _ _ => absurd y1 p1) (fun _ y1 _ _ _ => absurd y1 p1) (fun _ y1 _ _ _ => absurd y1 p1) (fun y0 _ => absurd y0 p0) (fun y0 _ => absurd y0 p0), t⟩
              · have t := t.2 p6
                exact ⟨_, _, b_X4_goesOn_0  h_x0 (fun _ _ _ _ y4 _ _ => absurd p4 y4) (fun _ _ _ _ y4 _ _ _ => absurd p4 y4) (fun _ _ _ _ y4 _ _ _ => absurd p4 y4) (fun _ _ _ _ y4 _ _ => absurd p4 y4) (fun _ _ _ _ y4 _ _ _ => absurd p4 y4) (fun _ _ _ _ y4 _ _ _ _ => absurd p4 y4) (fun _ _ _ _ y4 _ _ _ _ => absurd p4 y4) (fun _ _ _ _ _ y5 => absurd y5 p5) (fun _ _ _ _ _ _ y6 => absurd y6 p6) (fun _ _ _ _ _ _ _ => ⟨rfl, rfl⟩) (fun _ _ _ y3 _ => absurd p3 y3) (fun _ _ _ y3 _ => absurd p3 y3) (fun _ _ y2 => absurd p2 y2) (fun _ y1 _ => absurd y1 p1) (fun _ y1 _ _ => absurd y1 p1) (fun _ y1 _ _ _ => absurd y1 p1) (fun _ y1 _ _ _ => absurd y1 p1) (fun y0 _ => absurd y0 p0) (fun y0 _ => absurd y0 p0), t⟩
          · have t := t.2 p4
            by_cases p5 : (I x0 3) = (2 : Int32)
            · have t := t.1 p5
              by_cases p6 : x1 = (10 : Int32)
              · have t := t.1 p6
                exact ⟨_, _, b_X4_goesOn_0  h_x0 (fun _ _ _ _ _ y5 _ => absurd p5 y5) (fun _ _ _ _ _ y5 _ _ => absurd p5 y5) (fun _ _ _ _ _ y5 _ _ => absurd p5 y5) (fun _ _ _ _ _ _ _ => ⟨rfl, rfl⟩) (fun _ _ _ _ _ _ y6 _ => absurd p6 y6) (fun _ _ _ _ _ _ y6 _ _ => absurd p6 y6) (fun _ _ _ _ _ _ y6 _ _ => absurd p6 y6) (fun _ _ _ _ y4 _ => absurd y4 p4) (fun _ _ _ _ y4 _ _ => absurd y4 p4) (fun _ _ _ _ y4 _ _ => absurd y4 p4) (fun _ _ _ y3 _ => absurd p3 y3) (fun _ _ _ y3 _ => absurd p3 y3) (fun _ _ y2 => absurd p2 y2) (fun _ y1 _ => absurd y1 p1) (fun _ y1 _ _ => absurd y1 p1) (fun _ y1 _ _ _ => absurd y1 p1) (fun _ y1 _ _ _ => absurd y1 p1) (fun y0 _ => absurd y0 p0) (fun y0 _ => absurd y0 p0), t⟩
              · have t := t.2 p6
                by_cases p7 : x1 = (9 : Int32)
                · have t := t.1 p7
                  exact ⟨_, _, b_X4_goesOn_0  h_x0 (fun _ _ _ _ _ y5 _ => absurd p5 y5) (fun _ _ _ _ _ y5 _ _ => absurd p5 y5) (fun _ _ _ _ _ y5 _ _ => absurd p5 y5) (fun _ _ _ _ _ _ y6 => absurd y6 p6) (fun _ _ _ _ _ _ _ _ => ⟨rfl, rfl⟩) (fun _ _ _ _ _ _ _ y7 _ => absurd p7 y7) (fun _ _ _ _ _ _ _ y7 _ => absurd p7 y7) (fun _ _ _ _ y4 _ => absurd y4 p4) (fun _ _ _ _ y4 _ _ => absurd y4 p4) (fun _ _ _ _ y4 _ _ => absurd y4 p4) (fun _ _ _ y3 _ => absurd p3 y3) (fun _ _ _ y3 _ => absurd p3 y3) (fun _ _ y2 => absurd p2 y2) (fun _ y1 _ => absurd y1 p1) (fun _ y1 _ _ => absurd y1 p1) (fun _ y1 _ _ _ => absurd y1 p1) (fun _ y1 _ _ _ => absurd y1 p1) (fun y0 _ => absurd y0 p0) (fun y0 _ => absurd y0 p0), t⟩
                · have t := t.2 p7
                  by_cases p8 : x1 = (6 : Int32)
                  · have t := t.1 p8
                    exact ⟨_, _, b_X4_goesOn_0  h_x0 (fun _ _ _ _ _ y5 _ => absurd p5 y5) (fun _ _ _ _ _ y5 _ _ => absurd p5 y5) (fun _ _ _ _ _ y5 _ _ => absurd p5 y5) (fun _ _ _ _ _ _ y6 => absurd y6 p6) (fun _ _ _ _ _ _ _ y7 => absurd y7 p7) (fun _ _ _ _ _ _ _ _ y8 => absurd p8 y8) (fun _ _ _ _ _ _ _ _ _ => ⟨rfl, rfl⟩) (fun _ _ _ _ y4 _ => absurd y4 p4) (fun _ _ _ _ y4 _ _ => absurd y4 p4) (fun _ _ _ _ y4 _ _ => absurd y4 p4) (fun _ _ _ y3 _ => absurd p3 y3) (fun _ _ _ y3 _ => absurd p3 y3) (fun _ _ y2 => absurd p2 y2) (fun _ y1 _ => absurd y1 p1) (fun _ y1 _ _ => absurd y1 p1) (fun _ y1 _ _ _ => absurd y1 p1) (fun _ y1 _ _ _ => absurd y1 p1) (fun y0 _ => absurd y0 p0) (fun y0 _ => absurd y0 p0), t⟩
                  · have t := t.2 p8
                    exact ⟨_, _, b_X4_goesOn_0  h_x0 (fun _ _ _ _ _ y5 _ => absurd p5 y5) (fun _ _ _ _ _ y5 _ _ => absurd p5 y5) (fun _ _ _ _ _ y5 _ _ => absurd p5 y5) (fun _ _ _ _ _ _ y6 => absurd y6 p6) (fun _ _ _ _ _ _ _ y7 => absurd y7 p7) (fun _ _ _ _ _ _ _ _ _ => ⟨rfl, rfl⟩) (fun _ _ _ _ _ _ _ _ y8 => absurd y8 p8) (fun _ _ _ _ y4 _ => absurd y4 p4) (fun _ _ _ _ y4 _ _ => absurd y4 p4) (fun _ _ _ _ y4 _ _ => absurd y4 p4) (fun _ _ _ y3 _ => absurd p3 y3) (fun _ _ _ y3 _ => absurd p3 y3) (fun _ _ y2 => absurd p2 y2) (fun _ y1 _ => absurd y1 p1) (fun _ y1 _ _ => absurd y1 p1) (fun _ y1 _ _ _ => absurd y1 p1) (fun _ y1 _ _ _ => absurd y1 p1) (fun y0 _ => absurd y0 p0) (fun y0 _ => absurd y0 p0), t⟩
            · have t := t.2 p5
              by_cases p6 : x1 = (5 : Int32)
              · have t := t.1 p6
                exact ⟨_, _, b_X4_goesOn_0  h_x0 (fun _ _ _ _ _ _ _ => ⟨rfl, rfl⟩) (fun _ _ _ _ _ _ y6 _ => absurd p6 y6) (fun _ _ _ _ _ _ y6 _ => absurd p6 y6) (fun _ _ _ _ _ y5 _ => absurd y5 p5) (fun _ _ _ _ _ y5 _ _ => absurd y5 p5) (fun _ _ _ _ _ y5 _ _ _ => absurd y5 p5) (fun _ _ _ _ _ y5 _ _ _ => absurd y5 p5) (fun _ _ _ _ y4 _ => absurd y4 p4) (fun _ _ _ _ y4 _ _ => absurd y4 p4) (fun _ _ _ _ y4 _ _ => absurd y4 p4) (fun _ _ _ y3 _ => absurd p3 y3) (fun _ _ _ y3 _ => absurd p3 y3) (fun _ _ y2 => absurd p2 y2) (fun _ y1 _ => absurd y1 p1) (fun _ y1 _ _ => absurd y1 p1) (fun _ y1 _ _ _ => absurd y1 p1) (fun _ y1 _ _ _ => absurd y1 p1) (fun y0 _ => absurd y0 p0) (fun y0 _ => absurd y0 p0), t⟩
              · have t := t.2 p6
                by_cases p7 : x1 = (6 : Int32)
                · have t := t.1 p7
                  exact ⟨_, _, b_X4_goesOn_0  h_x0 (fun _ _ _ _ _ _ y6 => absurd y6 p6) (fun _ _ _ _ _ _ _ y7 => absurd p7 y7) (fun _ _ _ _ _ _ _ _ => ⟨rfl, rfl⟩) (fun _ _ _ _ _ y5 _ => absurd y5 p5) (fun _ _ _ _ _ y5 _ _ => absurd y5 p5) (fun _ _ _ _ _ y5 _ _ _ => absurd y5 p5) (fun _ _ _ _ _ y5 _ _ _ => absurd y5 p5) (fun _ _ _ _ y4 _ => absurd y4 p4) (fun _ _ _ _ y4 _ _ => absurd y4 p4) (fun _ _ _ _ y4 _ _ => absurd y4 p4) (fun _ _ _ y3 _ => absurd p3 y3) (fun _ _ _ y3 _ => absurd p3 y3) (fun _ _ y2 => absurd p2 y2) (fun _ y1 _ => absurd y1 p1) (fun _ y1 _ _ => absurd y1 p1) (fun _ y1 _ _ _ => absurd y1 p1) (fun _ y1 _ _ _ => absurd y1 p1) (fun y0 _ => absurd y0 p0) (fun y0 _ => absurd y0 p0), t⟩
                · have t := t.2 p7
                  exact ⟨_, _, b_X4_goesOn_0  h_x0 (fun _ _ _ _ _ _ y6 => absurd y6 p6) (fun _ _ _ _ _ _ _ _ => ⟨rfl, rfl⟩) (fun _ _ _ _ _ _ _ y7 => absurd y7 p7) (fun _ _ _ _ _ y5 _ => absurd y5 p5) (fun _ _ _ _ _ y5 _ _ => absurd y5 p5) (fun _ _ _ _ _ y5 _ _ _ => absurd y5 p5) (fun _ _ _ _ _ y5 _ _ _ => absurd y5 p5) (fun _ _ _ _ y4 _ => absurd y4 p4) (fun _ _ _ _ y4 _ _ => absurd y4 p4) (fun _ _ _ _ y4 _ _ => absurd y4 p4) (fun _ _ _ y3 _ => absurd p3 y3) (fun _ _ _ y3 _ => absurd p3 y3) (fun _ _ y2 => absurd p2 y2) (fun _ y1 _ => absurd y1 p1) (fun _ y1 _ _ => absurd y1 p1) (fun _ y1 _ _ _ => absurd y1 p1) (fun _ y1 _ _ _ => absurd y1 p1) (fun y0 _ => absurd y0 p0) (fun y0 _ => absurd y0 p0), t⟩
        · have t := t.2 p3
          by_cases p4 : x1 = (7 : Int32)
          · have t := t.1 p4
            exact ⟨_, _, b_X4_goesOn_0  h_x0 (fun _ _ _ y3 _ _ _ => absurd y3 p3) (fun _ _ _ y3 _ _ _ _ => absurd y3 p3) (fun _ _ _ y3 _ _ _ _ => absurd y3 p3) (fun _ _ _ y3 _ _ _ => absurd y3 p3) (fun _ _ _ y3 _ _ _ _ => absurd y3 p3) (fun _ _ _ y3 _ _ _ _ _ => absurd y3 p3) (fun _ _ _ y3 _ _ _ _ _ => absurd y3 p3) (fun _ _ _ y3 _ _ => absurd y3 p3) (fun _ _ _ y3 _ _ _ => absurd y3 p3) (fun _ _ _ y3 _ _ _ => absurd y3 p3) (fun _ _ _ _ y4 => absurd p4 y4) (fun _ _ _ _ _ => ⟨rfl, rfl⟩) (fun _ _ y2 => absurd p2 y2) (fun _ y1 _ => absurd y1 p1) (fun _ y1 _ _ => absurd y1 p1) (fun _ y1 _ _ _ => absurd y1 p1) (fun _ y1 _ _ _ => absurd y1 p1) (fun y0 _ => absurd y0 p0) (fun y0 _ => absurd y0 p0), t⟩
          · have t := t.2 p4
            exact ⟨_, _, b_X4_goesOn_0  h_x0 (fun _ _ _ y3 _ _ _ => absurd y3 p3) (fun _ _ _ y3 _ _ _ _ => absurd y3 p3) (fun _ _ _ y3 _ _ _ _ => absurd y3 p3) (fun _ _ _ y3 _ _ _ => absurd y3 p3) (fun _ _ _ y3 _ _ _ _ => absurd y3 p3) (fun _ _ _ y3 _ _ _ _ _ => absurd y3 p3) (fun _ _ _ y3 _ _ _ _ _ => absurd y3 p3) (fun _ _ _ y3 _ _ => absurd y3 p3) (fun _ _ _ y3 _ _ _ => absurd y3 p3) (fun _ _ _ y3 _ _ _ => absurd y3 p3) (fun _ _ _ _ _ => ⟨rfl, rfl⟩) (fun _ _ _ _ y4 => absurd y4 p4) (fun _ _ y2 => absurd p2 y2) (fun _ y1 _ => absurd y1 p1) (fun _ y1 _ _ => absurd y1 p1) (fun _ y1 _ _ _ => absurd y1 p1) (fun _ y1 _ _ _ => absurd y1 p1) (fun y0 _ => absurd y0 p0) (fun y0 _ => absurd y0 p0), t⟩
      · have t := t.2 p2
        exact ⟨_, _, b_X4_goesOn_0  h_x0 (fun _ _ y2 _ _ _ _ => absurd y2 p2) (fun _ _ y2 _ _ _ _ _ => absurd y2 p2) (fun _ _ y2 _ _ _ _ _ => absurd y2 p2) (fun _ _ y2 _ _ _ _ => absurd y2 p2) (fun _ _ y2 _ _ _ _ _ => absurd y2 p2) (fun _ _ y2 _ _ _ _ _ _ => absurd y2 p2) (fun _ _ y2 _ _ _ _ _ _ => absurd y2 p2) (fun _ _ y2 _ _ _ => absurd y2 p2) (fun _ _ y2 _ _ _ _ => absurd y2 p2) (fun _ _ y2 _ _ _ _ => absurd y2 p2) (fun _ _ y2 _ _ => absurd y2 p2) (fun _ _ y2 _ _ => absurd y2 p2) (fun _ _ _ => ⟨rfl, rfl⟩) (fun _ y1 _ => absurd y1 p1) (fun _ y1 _ _ => absurd y1 p1) (fun _ y1 _ _ _ => absurd y1 p1) (fun _ y1 _ _ _ => absurd y1 p1) (fun y0 _ => absurd y0 p0) (fun y0 _ => absurd y0 p0), t⟩
abbrev s_X4_take_0 (γ : rG) (l : Launch) (x0 : Nat) (x1 : Int32) (x2 : Int32) (h : rHeap) (Q : rHeap → Option Value → Prop) : Prop := rW γ l m_X4_take 0 0 0 [some (.ref x0), some (.int x1), some (.int x2)] [] h Q
theorem w_X4_take_0 {γ : rG} {l : Launch} {Q : rHeap → Option Value → Prop} {sh : Nat × (Nat → Nat) × (Nat → Nat)} {I : Nat → Nat → Int32} {J : Nat → Nat → Int64} {R : Nat → Nat → Option Nat} {x0 : Nat} {x1 : Int32} {x2 : Int32}
    (h_x0 : At4 sh R x0)
    (t : ∃ (b2 : Nat), R x0 5 = some b2 ∧ (At3 sh R b2 ∧ (∃ (b8 : Nat), R x0 5 = some b8 ∧ (At3 sh R b8 ∧ (∃ (b14 : Nat), R x0 5 = some b14 ∧ (At3 sh R b14 ∧ (∃ (b22 : Nat), R x0 5 = some b22 ∧ (At3 sh R b22 ∧ (∃ (b30 : Nat), R x0 5 = some b30 ∧ (At3 sh R b30 ∧ ((x1 = (2 : Int32) → (∃ (I4 : Nat → Nat → Int32), rMet γ l m_X3_emit [.ref b2, .int x2] (sh, I, J, R) (sh, I4, J, R) none ∧ (Q (sh, (up I4 x0 2 (2 : Int32)), J, R) (none)))) ∧ (¬ x1 = (2 : Int32) → ((x1 = (3 : Int32) → (∃ (I10 : Nat → Nat → Int32), rMet γ l m_X3_emit [.ref b8, .int ((-100 : Int32) - x2)] (sh, I, J, R) (sh, I10, J, R) none ∧ (Q (sh, (up I10 x0 2 (2 : Int32)), J, R) (none)))) ∧ (¬ x1 = (3 : Int32) → ((x1 = (4 : Int32) → (∃ (I16 : Nat → Nat → Int32), rMet γ l m_X3_begin [.ref b14, .int x2] (sh, I, J, R) (sh, I16, J, R) none ∧ (Q (sh, (up (up I16 x0 3 (0 : Int32)) x0 2 (1 : Int32)), J, R) (none)))) ∧ (¬ x1 = (4 : Int32) → ((x1 = (5 : Int32) → (∃ (I20 : Nat → Nat → Int32), rMet γ l m_X4_release [.ref x0, .int (1 : Int32)] (sh, I, J, R) (sh, I20, J, R) none ∧ (∃ (I24 : Nat → Nat → Int32), rMet γ l m_X3_beginCondition [.ref b22] (sh, I20, J, R) (sh, I24, J, R) none ∧ (Q (sh, (up (up I24 x0 3 (1 : Int32)) x0 2 (1 : Int32)), J, R) (none))))) ∧ (¬ x1 = (5 : Int32) → ((x1 = (6 : Int32) → (∃ (I28 : Nat → Nat → Int32), rMet γ l m_X4_release [.ref x0, .int (1 : Int32)] (sh, I, J, R) (sh, I28, J, R) none ∧ (((I28 x0 3) = 0 → (∃ (I33 : Nat → Nat → Int32), rMet γ l m_X3_end [.ref b30, .int (0 : Int32)] (sh, I28, J, R) (sh, I33, J, R) none ∧ (Q (sh, (up I33 x0 2 (0 : Int32)), J, R) (none)))) ∧ (¬ (I28 x0 3) = 0 → (∃ (I36 : Nat → Nat → Int32), rMet γ l m_X3_end [.ref b30, .int (1 : Int32)] (sh, I28, J, R) (sh, I36, J, R) none ∧ (Q (sh, (up I36 x0 2 (0 : Int32)), J, R) (none))))))) ∧ (¬ x1 = (6 : Int32) → ((x1 = (7 : Int32) → (∃ (I40 : Nat → Nat → Int32), rMet γ l m_X4_release [.ref x0, .int (1 : Int32)] (sh, I, J, R) (sh, I40, J, R) none ∧ (Q (sh, (up (up I40 x0 1 (((I40 x0 1) - (1 : Int32)))) x0 4 ((((up I40 x0 1 (((I40 x0 1) - (1 : Int32)))) x0 4) - (1 : Int32)))), J, R) (none)))) ∧ (¬ x1 = (7 : Int32) → ((x1 = (8 : Int32) → (∃ (I44 : Nat → Nat → Int32), rMet γ l m_X4_await [.ref x0, .int x1] (sh, I, J, R) (sh, I44, J, R) none ∧ (Q (sh, (up I44 x0 4 (((I44 x0 4) + (1 : Int32)))), J, R) (none)))) ∧ (¬ x1 = (8 : Int32) → (∃ (I47 : Nat → Nat → Int32), rMet γ l m_X4_takeOperator [.ref x0, .int x1] (sh, I, J, R) (sh, I47, J, R) none ∧ (Q (sh, I47, J, R) (none))))))))))))))))))))))))))) :
    rW γ l m_X4_take 0 0 0 [some (.ref x0), some (.int x1), some (.int x2)] [] (sh, I, J, R) Q := by
  obtain ⟨b2, e3, t⟩ := t
  obtain ⟨h_b2, t⟩ := t
  obtain ⟨b8, e9, t⟩ := t
  obtain ⟨h_b8, t⟩ := t
  obtain ⟨b14, e15, t⟩ := t
  obtain ⟨h_b14, t⟩ := t
  obtain ⟨b22, e23, t⟩ := t
  obtain ⟨h_b22, t⟩ := t
  obtain ⟨b30, e31, t⟩ := t
  obtain ⟨h_b30, t⟩ := t
  by_cases p0 : x1 = (2 : Int32)
  · have t := t.1 p0
    obtain ⟨I4, m5, t⟩ := t
    exact ⟨_, _, b_X4_take_0 (I10 := I) (I16 := I) (I20 := I) (I24 := I) (I28 := I) (I33 := I) (I36 := I) (I40 := I) (I44 := I) (I47 := I) h_x0 e3 h_b2 (fun _ => m5) (fun _ => ⟨rfl, rfl⟩) e9 h_b8 (fun y0 _ => absurd p0 y0) (fun y0 _ => absurd p0 y0) e15 h_b14 (fun y0 _ _ => absurd p0 y0) (fun y0 _ _ => absurd p0 y0) (fun y0 _ _ _ => absurd p0 y0) e23 h_b22 (fun y0 _ _ _ => absurd p0 y0) (fun y0 _ _ _ => absurd p0 y0) (fun y0 _ _ _ _ => absurd p0 y0) e31 h_b30 (fun y0 _ _ _ _ _ => absurd p0 y0) (fun y0 _ _ _ _ _ => absurd p0 y0) (fun y0 _ _ _ _ _ => absurd p0 y0) (fun y0 _ _ _ _ _ => absurd p0 y0) (fun y0 _ _ _ _ _ => absurd p0 y0) (fun y0 _ _ _ _ _ => absurd p0 y0) (fun y0 _ _ _ _ _ _ => absurd p0 y0) (fun y0 _ _ _ _ _ _ => absurd p0 y0) (fun y0 _ _ _ _ _ _ => absurd p0 y0) (fun y0 _ _ _ _ _ _ => absurd p0 y0), t⟩
  · have t := t.2 p0
    by_cases p1 : x1 = (3 : Int32)
    · have t := t.1 p1
      obtain ⟨I10, m11, t⟩ := t
      exact ⟨_, _, b_X4_take_0 (I4 := I) (I16 := I) (I20 := I) (I24 := I) (I28 := I) (I33 := I) (I36 := I) (I40 := I) (I44 := I) (I47 := I) h_x0 e3 h_b2 (fun y0 => absurd y0 p0) (fun y0 => absurd y0 p0) e9 h_b8 (fun _ _ => m11) (fun _ _ => ⟨rfl, rfl⟩) e15 h_b14 (fun _ y1 _ => absurd p1 y1) (fun _ y1 _ => absurd p1 y1) (fun _ y1 _ _ => absurd p1 y1) e23 h_b22 (fun _ y1 _ _ => absurd p1 y1) (fun _ y1 _ _ => absurd p1 y1) (fun _ y1 _ _ _ => absurd p1 y1) e31 h_b30 (fun _ y1 _ _ _ _ => absurd p1 y1) (fun _ y1 _ _ _ _ => absurd p1 y1) (fun _ y1 _ _ _ _ => absurd p1 y1) (fun _ y1 _ _ _ _ => absurd p1 y1) (fun _ y1 _ _ _ _ => absurd p1 y1) (fun _ y1 _ _ _ _ => absurd p1 y1) (fun _ y1 _ _ _ _ _ => absurd p1 y1) (fun _ y1 _ _ _ _ _ => absurd p1 y1) (fun _ y1 _ _ _ _ _ => absurd p1 y1) (fun _ y1 _ _ _ _ _ => absurd p1 y1), t⟩
    · have t := t.2 p1
      by_cases p2 : x1 = (4 : Int32)
      · have t := t.1 p2
        obtain ⟨I16, m17, t⟩ := t
        exact ⟨_, _, b_X4_take_0 (I4 := I) (I10 := I) (I20 := I) (I24 := I) (I28 := I) (I33 := I) (I36 := I) (I40 := I) (I44 := I) (I47 := I) h_x0 e3 h_b2 (fun y0 => absurd y0 p0) (fun y0 => absurd y0 p0) e9 h_b8 (fun _ y1 => absurd y1 p1) (fun _ y1 => absurd y1 p1) e15 h_b14 (fun _ _ _ => m17) (fun _ _ _ => ⟨rfl, rfl⟩) (fun _ _ y2 _ => absurd p2 y2) e23 h_b22 (fun _ _ y2 _ => absurd p2 y2) (fun _ _ y2 _ => absurd p2 y2) (fun _ _ y2 _ _ => absurd p2 y2) e31 h_b30 (fun _ _ y2 _ _ _ => absurd p2 y2) (fun _ _ y2 _ _ _ => absurd p2 y2) (fun _ _ y2 _ _ _ => absurd p2 y2) (fun _ _ y2 _ _ _ => absurd p2 y2) (fun _ _ y2 _ _ _ => absurd p2 y2) (fun _ _ y2 _ _ _ => absurd p2 y2) (fun _ _ y2 _ _ _ _ => absurd p2 y2) (fun _ _ y2 _ _ _ _ => absurd p2 y2) (fun _ _ y2 _ _ _ _ => absurd p2 y2) (fun _ _ y2 _ _ _ _ => absurd p2 y2), t⟩
      · have t := t.2 p2
        by_cases p3 : x1 = (5 : Int32)
        · have t := t.1 p3
          obtain ⟨I20, m21, t⟩ := t
          obtain ⟨I24, m25, t⟩ := t
          exact ⟨_, _, b_X4_take_0 (I4 := I) (I10 := I) (I16 := I) (I28 := I) (I33 := I) (I36 := I) (I40 := I) (I44 := I) (I47 := I) h_x0 e3 h_b2 (fun y0 => absurd y0 p0) (fun y0 => absurd y0 p0) e9 h_b8 (fun _ y1 => absurd y1 p1) (fun _ y1 => absurd y1 p1) e15 h_b14 (fun _ _ y2 => absurd y2 p2) (fun _ _ y2 => absurd y2 p2) (fun _ _ _ _ => m21) e23 h_b22 (fun _ _ _ _ => m25) (fun _ _ _ _ => ⟨rfl, rfl⟩) (fun _ _ _ y3 _ => absurd p3 y3) e31 h_b30 (fun _ _ _ y3 _ _ => absurd p3 y3) (fun _ _ _ y3 _ _ => absurd p3 y3) (fun _ _ _ y3 _ _ => absurd p3 y3) (fun _ _ _ y3 _ _ => absurd p3 y3) (fun _ _ _ y3 _ _ => absurd p3 y3) (fun _ _ _ y3 _ _ => absurd p3 y3) (fun _ _ _ y3 _ _ _ => absurd p3 y3) (fun _ _ _ y3 _ _ _ => absurd p3 y3) (fun _ _ _ y3 _ _ _ => absurd p3 y3) (fun _ _ _ y3 _ _ _ => absurd p3 y3), t⟩
        · have t := t.2 p3
          by_cases p4 : x1 = (6 : Int32)
          · have t := t.1 p4
            obtain ⟨I28, m29, t⟩ := t
            by_cases p5 : (I28 x0 3) = 0
            · have t := t.1 p5
              obtain ⟨I33, m34, t⟩ := t
              exact ⟨_, _, b_X4_take_0 (I4 := I) (I10 := I) (I16 := I) (I20 := I) (I24 := I) (I36 := I) (I40 := I) (I44 := I) (I47 := I) h_x0 e3 h_b2 (fun y0 => absurd y0 p0) (fun y0 => absurd y0 p0) e9 h_b8 (fun _ y1 => absurd y1 p1) (fun _ y1 => absurd y1 p1) e15 h_b14 (fun _ _ y2 => absurd y2 p2) (fun _ _ y2 => absurd y2 p2) (fun _ _ _ y3 => absurd y3 p3) e23 h_b22 (fun _ _ _ y3 => absurd y3 p3) (fun _ _ _ y3 => absurd y3 p3) (fun _ _ _ _ _ => m29) e31 h_b30 (fun _ _ _ _ _ _ => m34) (fun _ _ _ _ _ _ => ⟨rfl, rfl⟩) (fun _ _ _ _ _ y5 => absurd p5 y5) (fun _ _ _ _ _ y5 => absurd p5 y5) (fun _ _ _ _ y4 _ => absurd p4 y4) (fun _ _ _ _ y4 _ => absurd p4 y4) (fun _ _ _ _ y4 _ _ => absurd p4 y4) (fun _ _ _ _ y4 _ _ => absurd p4 y4) (fun _ _ _ _ y4 _ _ => absurd p4 y4) (fun _ _ _ _ y4 _ _ => absurd p4 y4), t⟩
            · have t := t.2 p5
              obtain ⟨I36, m37, t⟩ := t
              exact ⟨_, _, b_X4_take_0 (I4 := I) (I10 := I) (I16 := I) (I20 := I) (I24 := I) (I33 := I) (I40 := I) (I44 := I) (I47 := I) h_x0 e3 h_b2 (fun y0 => absurd y0 p0) (fun y0 => absurd y0 p0) e9 h_b8 (fun _ y1 => absurd y1 p1) (fun _ y1 => absurd y1 p1) e15 h_b14 (fun _ _ y2 => absurd y2 p2) (fun _ _ y2 => absurd y2 p2) (fun _ _ _ y3 => absurd y3 p3) e23 h_b22 (fun _ _ _ y3 => absurd y3 p3) (fun _ _ _ y3 => absurd y3 p3) (fun _ _ _ _ _ => m29) e31 h_b30 (fun _ _ _ _ _ y5 => absurd y5 p5) (fun _ _ _ _ _ y5 => absurd y5 p5) (fun _ _ _ _ _ _ => m37) (fun _ _ _ _ _ _ => ⟨rfl, rfl⟩) (fun _ _ _ _ y4 _ => absurd p4 y4) (fun _ _ _ _ y4 _ => absurd p4 y4) (fun _ _ _ _ y4 _ _ => absurd p4 y4) (fun _ _ _ _ y4 _ _ => absurd p4 y4) (fun _ _ _ _ y4 _ _ => absurd p4 y4) (fun _ _ _ _ y4 _ _ => absurd p4 y4), t⟩
          · have t := t.2 p4
            by_cases p5 : x1 = (7 : Int32)
            · have t := t.1 p5
              obtain ⟨I40, m41, t⟩ := t
              exact ⟨_, _, b_X4_take_0 (I4 := I) (I10 := I) (I16 := I) (I20 := I) (I24 := I) (I28 := I) (I33 := I) (I36 := I) (I44 := I) (I47 := I) h_x0 e3 h_b2 (fun y0 => absurd y0 p0) (fun y0 => absurd y0 p0) e9 h_b8 (fun _ y1 => absurd y1 p1) (fun _ y1 => absurd y1 p1) e15 h_b14 (fun _ _ y2 => absurd y2 p2) (fun _ _ y2 => absurd y2 p2) (fun _ _ _ y3 => absurd y3 p3) e23 h_b22 (fun _ _ _ y3 => absurd y3 p3) (fun _ _ _ y3 => absurd y3 p3) (fun _ _ _ _ y4 => absurd y4 p4) e31 h_b30 (fun _ _ _ _ y4 _ => absurd y4 p4) (fun _ _ _ _ y4 _ => absurd y4 p4) (fun _ _ _ _ y4 _ => absurd y4 p4) (fun _ _ _ _ y4 _ => absurd y4 p4) (fun _ _ _ _ _ _ => m41) (fun _ _ _ _ _ _ => ⟨rfl, rfl⟩) (fun _ _ _ _ _ y5 _ => absurd p5 y5) (fun _ _ _ _ _ y5 _ => absurd p5 y5) (fun _ _ _ _ _ y5 _ => absurd p5 y5) (fun _ _ _ _ _ y5 _ => absurd p5 y5), t⟩
            · have t := t.2 p5
              by_cases p6 : x1 = (8 : Int32)
              · have t := t.1 p6
                obtain ⟨I44, m45, t⟩ := t
                exact ⟨_, _, b_X4_take_0 (I4 := I) (I10 := I) (I16 := I) (I20 := I) (I24 := I) (I28 := I) (I33 := I) (I36 := I) (I40 := I) (I47 := I) h_x0 e3 h_b2 (fun y0 => absurd y0 p0) (fun y0 => absurd y0 p0) e9 h_b8 (fun _ y1 => absurd y1 p1) (fun _ y1 => absurd y1 p1) e15 h_b14 (fun _ _ y2 => absurd y2 p2) (fun _ _ y2 => absurd y2 p2) (fun _ _ _ y3 => absurd y3 p3) e23 h_b22 (fun _ _ _ y3 => absurd y3 p3) (fun _ _ _ y3 => absurd y3 p3) (fun _ _ _ _ y4 => absurd y4 p4) e31 h_b30 (fun _ _ _ _ y4 _ => absurd y4 p4) (fun _ _ _ _ y4 _ => absurd y4 p4) (fun _ _ _ _ y4 _ => absurd y4 p4) (fun _ _ _ _ y4 _ => absurd y4 p4) (fun _ _ _ _ _ y5 => absurd y5 p5) (fun _ _ _ _ _ y5 => absurd y5 p5) (fun _ _ _ _ _ _ _ => m45) (fun _ _ _ _ _ _ _ => ⟨rfl, rfl⟩) (fun _ _ _ _ _ _ y6 => absurd p6 y6) (fun _ _ _ _ _ _ y6 => absurd p6 y6), t⟩
              · have t := t.2 p6
                obtain ⟨I47, m48, t⟩ := t
                exact ⟨_, _, b_X4_take_0 (I4 := I) (I10 := I) (I16 := I) (I20 := I) (I24 := I) (I28 := I) (I33 := I) (I36 := I) (I40 := I) (I44 := I) h_x0 e3 h_b2 (fun y0 => absurd y0 p0) (fun y0 => absurd y0 p0) e9 h_b8 (fun _ y1 => absurd y1 p1) (fun _ y1 => absurd y1 p1) e15 h_b14 (fun _ _ y2 => absurd y2 p2) (fun _ _ y2 => absurd y2 p2) (fun _ _ _ y3 => absurd y3 p3) e23 h_b22 (fun _ _ _ y3 => absurd y3 p3) (fun _ _ _ y3 => absurd y3 p3) (fun _ _ _ _ y4 => absurd y4 p4) e31 h_b30 (fun _ _ _ _ y4 _ => absurd y4 p4) (fun _ _ _ _ y4 _ => absurd y4 p4) (fun _ _ _ _ y4 _ => absurd y4 p4) (fun _ _ _ _ y4 _ => absurd y4 p4) (fun _ _ _ _ _ y5 => absurd y5 p5) (fun _ _ _ _ _ y5 => absurd y5 p5) (fun _ _ _ _ _ _ y6 => absurd y6 p6) (fun _ _ _ _ _ _ y6 => absurd y6 p6) (fun _ _ _ _ _ _ _ => m48) (fun _ _ _ _ _ _ _ => ⟨rfl, rfl⟩), t⟩
abbrev s_X4_takeOperator_0 (γ : rG) (l : Launch) (x0 : Nat) (x1 : Int32) (h : rHeap) (Q : rHeap → Option Value → Prop) : Prop := rW γ l m_X4_takeOperator 0 0 0 [some (.ref x0), some (.int x1)] [] h Q
theorem w_X4_takeOperator_0 {γ : rG} {l : Launch} {Q : rHeap → Option Value → Prop} {sh : Nat × (Nat → Nat) × (Nat → Nat)} {I : Nat → Nat → Int32} {J : Nat → Nat → Int64} {R : Nat → Nat → Option Nat} {x0 : Nat} {x1 : Int32}
    (h_x0 : At4 sh R x0)
    (t : ∃ (v2 : Int32), rMet γ l m_X4_rank [.int x1] (sh, I, J, R) (sh, I, J, R) (some (.int v2)) ∧ (∃ (I3 : Nat → Nat → Int32), rMet γ l m_X4_release [.ref x0, .int v2] (sh, I, J, R) (sh, I3, J, R) none ∧ (∃ (I5 : Nat → Nat → Int32), rMet γ l m_X4_await [.ref x0, .int x1] (sh, I3, J, R) (sh, I5, J, R) none ∧ ((x1 = (10 : Int32) → (Q (sh, (up (up I5 x0 2 (1 : Int32)) x0 3 (1 : Int32)), J, R) (none))) ∧ (¬ x1 = (10 : Int32) → ((x1 = (9 : Int32) → (Q (sh, (up (up I5 x0 2 (1 : Int32)) x0 3 (1 : Int32)), J, R) (none))) ∧ (¬ x1 = (9 : Int32) → (((15 : Int32) ≤ x1 → (Q (sh, (up I5 x0 2 (1 : Int32)), J, R) (none))) ∧ (¬ (15 : Int32) ≤ x1 → (Q (sh, (up (up I5 x0 2 (1 : Int32)) x0 3 (2 : Int32)), J, R) (none))))))))))) :
    rW γ l m_X4_takeOperator 0 0 0 [some (.ref x0), some (.int x1)] [] (sh, I, J, R) Q := by
  obtain ⟨v2, m1, t⟩ := t
  obtain ⟨I3, m4, t⟩ := t
  obtain ⟨I5, m6, t⟩ := t
  by_cases p0 : x1 = (10 : Int32)
  · have t := t.1 p0
    exact ⟨_, _, b_X4_takeOperator_0  h_x0 m1 m4 m6 (fun _ => ⟨rfl, rfl⟩) (fun y0 _ _ => absurd p0 y0) (fun y0 _ _ => absurd p0 y0) (fun y0 _ => absurd p0 y0), t⟩
  · have t := t.2 p0
    by_cases p1 : x1 = (9 : Int32)
    · have t := t.1 p1
      exact ⟨_, _, b_X4_takeOperator_0  h_x0 m1 m4 m6 (fun y0 => absurd y0 p0) (fun _ y1 _ => absurd p1 y1) (fun _ y1 _ => absurd p1 y1) (fun _ _ => ⟨rfl, rfl⟩), t⟩
    · have t := t.2 p1
      by_cases p2 : (15 : Int32) ≤ x1
      · have t := t.1 p2
        exact ⟨_, _, b_X4_takeOperator_0  h_x0 m1 m4 m6 (fun y0 => absurd y0 p0) (fun _ _ _ => ⟨rfl, rfl⟩) (fun _ _ y2 => absurd p2 y2) (fun _ y1 => absurd y1 p1), t⟩
      · have t := t.2 p2
        exact ⟨_, _, b_X4_takeOperator_0  h_x0 m1 m4 m6 (fun y0 => absurd y0 p0) (fun _ _ y2 => absurd y2 p2) (fun _ _ _ => ⟨rfl, rfl⟩) (fun _ y1 => absurd y1 p1), t⟩
abbrev s_X4_await_0 (γ : rG) (l : Launch) (x0 : Nat) (x1 : Int32) (h : rHeap) (Q : rHeap → Option Value → Prop) : Prop := rW γ l m_X4_await 0 0 0 [some (.ref x0), some (.int x1)] [] h Q
theorem w_X4_await_0 {γ : rG} {l : Launch} {Q : rHeap → Option Value → Prop} {sh : Nat × (Nat → Nat) × (Nat → Nat)} {I : Nat → Nat → Int32} {J : Nat → Nat → Int64} {R : Nat → Nat → Option Nat} {x0 : Nat} {x1 : Int32}
    (h_x0 : At4 sh R x0)
    (t : ((nI 32) ≤ (I x0 1) → (Q (sh, I, J, R) (none))) ∧ (¬ (nI 32) ≤ (I x0 1) → (vp_in (I x0 1) 32 ∧ (Q (sh, (up (up I (x0 + 1) (I x0 1).toNatClampNeg x1) x0 1 ((((up I (x0 + 1) (I x0 1).toNatClampNeg x1) x0 1) + (1 : Int32)))), J, R) (none))))) :
    rW γ l m_X4_await 0 0 0 [some (.ref x0), some (.int x1)] [] (sh, I, J, R) Q := by
  by_cases p0 : (nI 32) ≤ (I x0 1)
  · have t := t.1 p0
    exact ⟨_, _, b_X4_await_0  h_x0 (fun _ => ⟨rfl, rfl⟩) (fun y0 => absurd p0 y0) (fun y0 => absurd p0 y0), t⟩
  · have t := t.2 p0
    obtain ⟨b3, t⟩ := t
    exact ⟨_, _, b_X4_await_0  h_x0 (fun y0 => absurd y0 p0) (fun _ => b3) (fun _ => ⟨rfl, rfl⟩), t⟩
abbrev s_X4_release_0 (γ : rG) (l : Launch) (x0 : Nat) (x1 : Int32) (h : rHeap) (Q : rHeap → Option Value → Prop) : Prop := rW γ l m_X4_release 0 0 0 [some (.ref x0), some (.int x1)] [] h Q
theorem w_X4_release_0 {γ : rG} {l : Launch} {Q : rHeap → Option Value → Prop} {sh : Nat × (Nat → Nat) × (Nat → Nat)} {I : Nat → Nat → Int32} {J : Nat → Nat → Int64} {R : Nat → Nat → Option Nat} {x0 : Nat} {x1 : Int32}
    (h_x0 : At4 sh R x0)
    (t : ∃ (b8 : Nat), R x0 5 = some b8 ∧ (At3 sh R b8 ∧ (((I x0 1) ≤ 0 → (Q (sh, I, J, R) (none))) ∧ (¬ (I x0 1) ≤ 0 → (vp_in (((I x0 1) - (1 : Int32))) 32 ∧ (∃ (v5 : Int32), rMet γ l m_X4_rank [.int (I (x0 + 1) (((I x0 1) - (1 : Int32))).toNatClampNeg)] (sh, I, J, R) (sh, I, J, R) (some (.int v5)) ∧ ((v5 < x1 → (Q (sh, I, J, R) (none))) ∧ (¬ v5 < x1 → (vp_in (((up I x0 1 (((I x0 1) - (1 : Int32)))) x0 1)) 32 ∧ (∃ (I11 : Nat → Nat → Int32), rMet γ l m_X3_emit [.ref b8, .int (-((up I x0 1 (((I x0 1) - (1 : Int32)))) (x0 + 1) (((up I x0 1 (((I x0 1) - (1 : Int32)))) x0 1)).toNatClampNeg))] (sh, (up I x0 1 (((I x0 1) - (1 : Int32)))), J, R) (sh, I11, J, R) none ∧ (rW γ l m_X4_release 0 0 0 [some (.ref x0), some (.int x1)] [] (sh, I11, J, R) Q))))))))))) :
    rW γ l m_X4_release 0 0 0 [some (.ref x0), some (.int x1)] [] (sh, I, J, R) Q := by
  obtain ⟨b8, e9, t⟩ := t
  obtain ⟨h_b8, t⟩ := t
  by_cases p0 : (I x0 1) ≤ 0
  · have t := t.1 p0
    exact ⟨_, _, b_X4_release_0 (v5 := 0) (I11 := I) h_x0 (fun _ => ⟨rfl, rfl⟩) (fun y0 => absurd p0 y0) (fun y0 => absurd p0 y0) (fun y0 _ => absurd p0 y0) e9 h_b8 (fun y0 _ => absurd p0 y0) (fun y0 _ => absurd p0 y0) (fun y0 _ => absurd p0 y0), t⟩
  · have t := t.2 p0
    obtain ⟨b3, t⟩ := t
    obtain ⟨v5, m4, t⟩ := t
    by_cases p1 : v5 < x1
    · have t := t.1 p1
      exact ⟨_, _, b_X4_release_0 (I11 := I) h_x0 (fun y0 => absurd y0 p0) (fun _ => b3) (fun _ => m4) (fun _ _ => ⟨rfl, rfl⟩) e9 h_b8 (fun _ y1 => absurd p1 y1) (fun _ y1 => absurd p1 y1) (fun _ y1 => absurd p1 y1), t⟩
    · have t := t.2 p1
      obtain ⟨b10, t⟩ := t
      obtain ⟨I11, m12, t⟩ := t
      obtain ⟨hf, r, t, q⟩ := t
      exact ⟨hf, r, b_X4_release_0  h_x0 (fun y0 => absurd y0 p0) (fun _ => b3) (fun _ => m4) (fun _ y1 => absurd y1 p1) e9 h_b8 (fun _ _ => b10) (fun _ _ => m12) (fun _ _ => t), q⟩
abbrev s_X4_rank_0 (γ : rG) (l : Launch) (x0 : Int32) (h : rHeap) (Q : rHeap → Option Value → Prop) : Prop := rW γ l m_X4_rank 0 0 0 [some (.int x0), none] [] h Q
theorem w_X4_rank_0 {γ : rG} {l : Launch} {Q : rHeap → Option Value → Prop} {sh : Nat × (Nat → Nat) × (Nat → Nat)} {I : Nat → Nat → Int32} {J : Nat → Nat → Int64} {R : Nat → Nat → Option Nat} {x0 : Int32}
    (t : ((x0 - (8 : Int32)) < 0 → (Q (sh, I, J, R) (some (.int (0 : Int32))))) ∧ (¬ (x0 - (8 : Int32)) < 0 → (((10 : Int32) ≤ (x0 - (8 : Int32)) → (Q (sh, I, J, R) (some (.int (0 : Int32))))) ∧ (¬ (10 : Int32) ≤ (x0 - (8 : Int32)) → (vp_in ((x0 - (8 : Int32))) 10 ∧ (Q (sh, I, J, R) (some (.int ((rRANKS ((x0 - (8 : Int32))).toNatClampNeg)))))))))) :
    rW γ l m_X4_rank 0 0 0 [some (.int x0), none] [] (sh, I, J, R) Q := by
  by_cases p0 : (x0 - (8 : Int32)) < 0
  · have t := t.1 p0
    exact ⟨_, _, b_X4_rank_0  (fun _ => ⟨rfl, rfl⟩) (fun y0 _ => absurd p0 y0) (fun y0 _ => absurd p0 y0) (fun y0 _ => absurd p0 y0), t⟩
  · have t := t.2 p0
    by_cases p1 : (10 : Int32) ≤ (x0 - (8 : Int32))
    · have t := t.1 p1
      exact ⟨_, _, b_X4_rank_0  (fun y0 => absurd y0 p0) (fun _ _ => ⟨rfl, rfl⟩) (fun _ y1 => absurd p1 y1) (fun _ y1 => absurd p1 y1), t⟩
    · have t := t.2 p1
      obtain ⟨b5, t⟩ := t
      exact ⟨_, _, b_X4_rank_0  (fun y0 => absurd y0 p0) (fun _ y1 => absurd y1 p1) (fun _ _ => b5) (fun _ _ => ⟨rfl, rfl⟩), t⟩
