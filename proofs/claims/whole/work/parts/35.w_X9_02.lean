abbrev s_X9_at_0 (γ : rG) (l : Launch) (x0 : Nat) (x1 : Int32) (x2 : Int32) (h : rHeap) (Q : rHeap → Option Value → Prop) : Prop := rW γ l m_X9_at 0 0 0 [some (.ref x0), some (.int x1), some (.int x2)] [] h Q
theorem w_X9_at_0 {γ : rG} {l : Launch} {Q : rHeap → Option Value → Prop} {sh : Nat × (Nat → Nat) × (Nat → Nat)} {I : Nat → Nat → Int32} {J : Nat → Nat → Int64} {R : Nat → Nat → Option Nat} {x0 : Nat} {x1 : Int32} {x2 : Int32}
    (h_x0 : At9 sh R x0)
    (t : ∃ (v2 : Int32), rMet γ l m_X9_isColumn [.ref x0, .int x1] (sh, I, J, R) (sh, I, J, R) (some (.int v2)) ∧ ((v2 = 0 → (Q (sh, I, J, R) (some (.int (-1 : Int32))))) ∧ (¬ v2 = 0 → (∃ (v6 : Int32), rMet γ l m_X9_partAt [.ref x0, .int (I x0 48), .int x1, .int x2] (sh, I, J, R) (sh, I, J, R) (some (.int v6)) ∧ (Q (sh, I, J, R) (some (.int v6))))))) :
    rW γ l m_X9_at 0 0 0 [some (.ref x0), some (.int x1), some (.int x2)] [] (sh, I, J, R) Q := by
  obtain ⟨v2, m1, t⟩ := t
  by_cases p0 : v2 = 0
  · have t := t.1 p0
    exact ⟨_, _, b_X9_at_0 (v6 := 0) h_x0 m1 (fun _ => ⟨rfl, rfl⟩) (fun y0 => absurd p0 y0) (fun y0 => absurd p0 y0), t⟩
  · have t := t.2 p0
    obtain ⟨v6, m5, t⟩ := t
    exact ⟨_, _, b_X9_at_0  h_x0 m1 (fun y0 => absurd y0 p0) (fun _ => m5) (fun _ => ⟨rfl, rfl⟩), t⟩
abbrev s_X9_easeOf_0 (γ : rG) (l : Launch) (x0 : Nat) (x1 : Int32) (h : rHeap) (Q : rHeap → Option Value → Prop) : Prop := rW γ l m_X9_easeOf 0 0 0 [some (.ref x0), some (.int x1), none, none, none, none, none] [] h Q
theorem w_X9_easeOf_0 {γ : rG} {l : Launch} {Q : rHeap → Option Value → Prop} {sh : Nat × (Nat → Nat) × (Nat → Nat)} {I : Nat → Nat → Int32} {J : Nat → Nat → Int64} {R : Nat → Nat → Option Nat} {x0 : Nat} {x1 : Int32}
    (h_x0 : At9 sh R x0)
    (t : rW γ l m_X9_easeOf 0 0 7 [some (.ref x0), some (.int x1), some (.int (-1 : Int32)), some (.int (0 : Int32)), some (.int (0 : Int32)), none, none] [] (sh, I, J, R) Q) :
    rW γ l m_X9_easeOf 0 0 0 [some (.ref x0), some (.int x1), none, none, none, none, none] [] (sh, I, J, R) Q := by
  obtain ⟨hf, r, t, q⟩ := t
  exact ⟨hf, r, b_X9_easeOf_0  h_x0 t, q⟩
abbrev s_X9_easeOf_7 (γ : rG) (l : Launch) (x0 : Nat) (x1 : Int32) (x2 : Int32) (x3 : Int32) (x4 : Int32) (h : rHeap) (Q : rHeap → Option Value → Prop) : Prop := rW γ l m_X9_easeOf 0 0 7 [some (.ref x0), some (.int x1), some (.int x2), some (.int x3), some (.int x4), none, none] [] h Q
theorem w_X9_easeOf_7 {γ : rG} {l : Launch} {Q : rHeap → Option Value → Prop} {sh : Nat × (Nat → Nat) × (Nat → Nat)} {I : Nat → Nat → Int32} {J : Nat → Nat → Int64} {R : Nat → Nat → Option Nat} {x0 : Nat} {x1 : Int32} {x2 : Int32} {x3 : Int32} {x4 : Int32}
    (h_x0 : At9 sh R x0)
    (t : ((I x0 48) < x4 → (Q (sh, I, J, R) (some (.int x2)))) ∧ (¬ (I x0 48) < x4 → ((x4 ≤ 0 → (rW γ l m_X9_easeOf 0 0 35 [some (.ref x0), some (.int x1), some (.int x2), some (.int x3), some (.int x4), none, none] [] (sh, I, J, R) Q)) ∧ (¬ x4 ≤ 0 → (∃ (I5 : Nat → Nat → Int32) (v7 : Int32), rMet γ l m_X9_harmOf [.ref x0, .int ((I x0 48) - x4)] (sh, I, J, R) (sh, I5, J, R) (some (.int v7)) ∧ (rW γ l m_X9_easeOf 0 0 35 [some (.ref x0), some (.int x1), some (.int x2), some (.int (x3 + v7)), some (.int x4), none, none] [] (sh, I5, J, R) Q)))))) :
    rW γ l m_X9_easeOf 0 0 7 [some (.ref x0), some (.int x1), some (.int x2), some (.int x3), some (.int x4), none, none] [] (sh, I, J, R) Q := by
  by_cases p0 : (I x0 48) < x4
  · have t := t.1 p0
    exact ⟨_, _, b_X9_easeOf_7 (I5 := I) (v7 := 0) h_x0 (fun _ => ⟨rfl, rfl⟩) (fun y0 _ => absurd p0 y0) (fun y0 _ => absurd p0 y0) (fun y0 _ => absurd p0 y0), t⟩
  · have t := t.2 p0
    by_cases p1 : x4 ≤ 0
    · have t := t.1 p1
      obtain ⟨hf, r, t, q⟩ := t
      exact ⟨hf, r, b_X9_easeOf_7 (I5 := I) (v7 := 0) h_x0 (fun y0 => absurd y0 p0) (fun _ _ => t) (fun _ y1 => absurd p1 y1) (fun _ y1 => absurd p1 y1), q⟩
    · have t := t.2 p1
      obtain ⟨I5, v7, m6, t⟩ := t
      obtain ⟨hf, r, t, q⟩ := t
      exact ⟨hf, r, b_X9_easeOf_7  h_x0 (fun y0 => absurd y0 p0) (fun _ y1 => absurd y1 p1) (fun _ _ => m6) (fun _ _ => t), q⟩
abbrev s_X9_easeOf_35 (γ : rG) (l : Launch) (x0 : Nat) (x1 : Int32) (x2 : Int32) (x3 : Int32) (x4 : Int32) (h : rHeap) (Q : rHeap → Option Value → Prop) : Prop := rW γ l m_X9_easeOf 0 0 35 [some (.ref x0), some (.int x1), some (.int x2), some (.int x3), some (.int x4), none, none] [] h Q
theorem w_X9_easeOf_35 {γ : rG} {l : Launch} {Q : rHeap → Option Value → Prop} {sh : Nat × (Nat → Nat) × (Nat → Nat)} {I : Nat → Nat → Int32} {J : Nat → Nat → Int64} {R : Nat → Nat → Option Nat} {x0 : Nat} {x1 : Int32} {x2 : Int32} {x3 : Int32} {x4 : Int32}
    (h_x0 : At9 sh R x0)
    (t : ∃ (v2 : Int32), rMet γ l m_X9_isRead [.ref x0, .int ((I x0 48) - x4), .int x1] (sh, I, J, R) (sh, I, J, R) (some (.int v2)) ∧ ((v2 = 0 → (∃ (I4 : Nat → Nat → Int32) (v6 : Int32), rMet γ l m_X9_peepOf [.ref x0, .int ((I x0 48) - x4), .int x1] (sh, I, J, R) (sh, I4, J, R) (some (.int v6)) ∧ (rW γ l m_X9_easeOf 0 0 65 [some (.ref x0), some (.int x1), some (.int x2), some (.int x3), some (.int x4), none, none] [.int v6] (sh, I4, J, R) Q))) ∧ (¬ v2 = 0 → (rW γ l m_X9_easeOf 0 0 65 [some (.ref x0), some (.int x1), some (.int x2), some (.int x3), some (.int x4), none, none] [.int (0 : Int32)] (sh, I, J, R) Q)))) :
    rW γ l m_X9_easeOf 0 0 35 [some (.ref x0), some (.int x1), some (.int x2), some (.int x3), some (.int x4), none, none] [] (sh, I, J, R) Q := by
  obtain ⟨v2, m1, t⟩ := t
  by_cases p0 : v2 = 0
  · have t := t.1 p0
    obtain ⟨I4, v6, m5, t⟩ := t
    obtain ⟨hf, r, t, q⟩ := t
    exact ⟨hf, r, b_X9_easeOf_35  h_x0 m1 (fun _ => m5) (fun _ => t) (fun y0 => absurd p0 y0), q⟩
  · have t := t.2 p0
    obtain ⟨hf, r, t, q⟩ := t
    exact ⟨hf, r, b_X9_easeOf_35 (I4 := I) (v6 := 0) h_x0 m1 (fun y0 => absurd y0 p0) (fun y0 => absurd y0 p0) (fun _ => t), q⟩
abbrev s_X9_easeOf_65 (γ : rG) (l : Launch) (x0 : Nat) (x1 : Int32) (x2 : Int32) (x3 : Int32) (x4 : Int32) (s0 : Int32) (h : rHeap) (Q : rHeap → Option Value → Prop) : Prop := rW γ l m_X9_easeOf 0 0 65 [some (.ref x0), some (.int x1), some (.int x2), some (.int x3), some (.int x4), none, none] [.int s0] h Q
theorem w_X9_easeOf_65 {γ : rG} {l : Launch} {Q : rHeap → Option Value → Prop} {sh : Nat × (Nat → Nat) × (Nat → Nat)} {I : Nat → Nat → Int32} {J : Nat → Nat → Int64} {R : Nat → Nat → Option Nat} {x0 : Nat} {x1 : Int32} {x2 : Int32} {x3 : Int32} {x4 : Int32} {s0 : Int32}
    (h_x0 : At9 sh R x0)
    (t : (s0 = (-1 : Int32) → (rW γ l m_X9_easeOf 0 0 7 [some (.ref x0), some (.int x1), some (.int x2), some (.int x3), some (.int (x4 + (1 : Int32))), none, none] [] (sh, I, J, R) Q)) ∧ (¬ s0 = (-1 : Int32) → ((x2 = (-1 : Int32) → (rW γ l m_X9_easeOf 0 0 7 [some (.ref x0), some (.int x1), some (.int (x3 + s0)), some (.int x3), some (.int (x4 + (1 : Int32))), none, none] [] (sh, (up I x0 55 x4), J, R) Q)) ∧ (¬ x2 = (-1 : Int32) → (((x3 + s0) < x2 → (rW γ l m_X9_easeOf 0 0 7 [some (.ref x0), some (.int x1), some (.int (x3 + s0)), some (.int x3), some (.int (x4 + (1 : Int32))), none, none] [] (sh, (up I x0 55 x4), J, R) Q)) ∧ (¬ (x3 + s0) < x2 → (rW γ l m_X9_easeOf 0 0 7 [some (.ref x0), some (.int x1), some (.int x2), some (.int x3), some (.int (x4 + (1 : Int32))), none, none] [] (sh, I, J, R) Q))))))) :
    rW γ l m_X9_easeOf 0 0 65 [some (.ref x0), some (.int x1), some (.int x2), some (.int x3), some (.int x4), none, none] [.int s0] (sh, I, J, R) Q := by
  by_cases p0 : s0 = (-1 : Int32)
  · have t := t.1 p0
    obtain ⟨hf, r, t, q⟩ := t
    exact ⟨hf, r, b_X9_easeOf_65  h_x0 (fun _ => t) (fun y0 _ => absurd p0 y0) (fun y0 _ _ => absurd p0 y0) (fun y0 _ _ => absurd p0 y0), q⟩
  · have t := t.2 p0
    by_cases p1 : x2 = (-1 : Int32)
    · have t := t.1 p1
      obtain ⟨hf, r, t, q⟩ := t
      exact ⟨hf, r, b_X9_easeOf_65  h_x0 (fun y0 => absurd y0 p0) (fun _ _ => t) (fun _ y1 _ => absurd p1 y1) (fun _ y1 _ => absurd p1 y1), q⟩
    · have t := t.2 p1
      by_cases p2 : (x3 + s0) < x2
      · have t := t.1 p2
        obtain ⟨hf, r, t, q⟩ := t
        exact ⟨hf, r, b_X9_easeOf_65  h_x0 (fun y0 => absurd y0 p0) (fun _ y1 => absurd y1 p1) (fun _ _ _ => t) (fun _ _ y2 => absurd p2 y2), q⟩
      · have t := t.2 p2
        obtain ⟨hf, r, t, q⟩ := t
        exact ⟨hf, r, b_X9_easeOf_65  h_x0 (fun y0 => absurd y0 p0) (fun _ y1 => absurd y1 p1) (fun _ _ y2 => absurd y2 p2) (fun _ _ _ => t), q⟩
abbrev s_X9_ease_0 (γ : rG) (l : Launch) (x0 : Nat) (x1 : Int32) (h : rHeap) (Q : rHeap → Option Value → Prop) : Prop := rW γ l m_X9_ease 0 0 0 [some (.ref x0), some (.int x1)] [] h Q
theorem w_X9_ease_0 {γ : rG} {l : Launch} {Q : rHeap → Option Value → Prop} {sh : Nat × (Nat → Nat) × (Nat → Nat)} {I : Nat → Nat → Int32} {J : Nat → Nat → Int64} {R : Nat → Nat → Option Nat} {x0 : Nat} {x1 : Int32}
    (h_x0 : At9 sh R x0)
    (t : ∃ (v2 : Int32), rMet γ l m_X9_isPart [.ref x0, .int x1] (sh, I, J, R) (sh, I, J, R) (some (.int v2)) ∧ ((v2 = 0 → (Q (sh, I, J, R) (some (.int (-1 : Int32))))) ∧ (¬ v2 = 0 → (∃ (I5 : Nat → Nat → Int32) (v7 : Int32), rMet γ l m_X9_easeOf [.ref x0, .int x1] (sh, I, J, R) (sh, I5, J, R) (some (.int v7)) ∧ (Q (sh, I5, J, R) (some (.int v7))))))) :
    rW γ l m_X9_ease 0 0 0 [some (.ref x0), some (.int x1)] [] (sh, I, J, R) Q := by
  obtain ⟨v2, m1, t⟩ := t
  by_cases p0 : v2 = 0
  · have t := t.1 p0
    exact ⟨_, _, b_X9_ease_0 (I5 := I) (v7 := 0) h_x0 m1 (fun _ => ⟨rfl, rfl⟩) (fun y0 => absurd p0 y0) (fun y0 => absurd p0 y0), t⟩
  · have t := t.2 p0
    obtain ⟨I5, v7, m6, t⟩ := t
    exact ⟨_, _, b_X9_ease_0  h_x0 m1 (fun y0 => absurd y0 p0) (fun _ => m6) (fun _ => ⟨rfl, rfl⟩), t⟩
abbrev s_X9_undone_0 (γ : rG) (l : Launch) (x0 : Nat) (x1 : Int32) (h : rHeap) (Q : rHeap → Option Value → Prop) : Prop := rW γ l m_X9_undone 0 0 0 [some (.ref x0), some (.int x1), none] [] h Q
theorem w_X9_undone_0 {γ : rG} {l : Launch} {Q : rHeap → Option Value → Prop} {sh : Nat × (Nat → Nat) × (Nat → Nat)} {I : Nat → Nat → Int32} {J : Nat → Nat → Int64} {R : Nat → Nat → Option Nat} {x0 : Nat} {x1 : Int32}
    (h_x0 : At9 sh R x0)
    (t : ∃ (v2 : Int32), rMet γ l m_X9_isPart [.ref x0, .int x1] (sh, I, J, R) (sh, I, J, R) (some (.int v2)) ∧ ((v2 = 0 → (Q (sh, I, J, R) (some (.int (-1 : Int32))))) ∧ (¬ v2 = 0 → (∃ (I4 : Nat → Nat → Int32) (v6 : Int32), rMet γ l m_X9_easeOf [.ref x0, .int x1] (sh, I, J, R) (sh, I4, J, R) (some (.int v6)) ∧ ((v6 = (-1 : Int32) → (Q (sh, I4, J, R) (some (.int (-1 : Int32))))) ∧ (¬ v6 = (-1 : Int32) → (Q (sh, I4, J, R) (some (.int (I4 x0 55)))))))))) :
    rW γ l m_X9_undone 0 0 0 [some (.ref x0), some (.int x1), none] [] (sh, I, J, R) Q := by
  obtain ⟨v2, m1, t⟩ := t
  by_cases p0 : v2 = 0
  · have t := t.1 p0
    exact ⟨_, _, b_X9_undone_0 (I4 := I) (v6 := 0) h_x0 m1 (fun y0 => absurd p0 y0) (fun y0 _ => absurd p0 y0) (fun y0 _ => absurd p0 y0) (fun _ => ⟨rfl, rfl⟩), t⟩
  · have t := t.2 p0
    obtain ⟨I4, v6, m5, t⟩ := t
    by_cases p1 : v6 = (-1 : Int32)
    · have t := t.1 p1
      exact ⟨_, _, b_X9_undone_0  h_x0 m1 (fun _ => m5) (fun _ y1 => absurd p1 y1) (fun _ _ => ⟨rfl, rfl⟩) (fun y0 => absurd y0 p0), t⟩
    · have t := t.2 p1
      exact ⟨_, _, b_X9_undone_0  h_x0 m1 (fun _ => m5) (fun _ _ => ⟨rfl, rfl⟩) (fun _ y1 => absurd y1 p1) (fun y0 => absurd y0 p0), t⟩
abbrev s_X9_forgets_0 (γ : rG) (l : Launch) (x0 : Nat) (h : rHeap) (Q : rHeap → Option Value → Prop) : Prop := rW γ l m_X9_forgets 0 0 0 [some (.ref x0), none] [] h Q
theorem w_X9_forgets_0 {γ : rG} {l : Launch} {Q : rHeap → Option Value → Prop} {sh : Nat × (Nat → Nat) × (Nat → Nat)} {I : Nat → Nat → Int32} {J : Nat → Nat → Int64} {R : Nat → Nat → Option Nat} {x0 : Nat}
    (h_x0 : At9 sh R x0)
    (t : rW γ l m_X9_forgets 0 0 2 [some (.ref x0), some (.int (0 : Int32))] [] (sh, I, J, R) Q) :
    rW γ l m_X9_forgets 0 0 0 [some (.ref x0), none] [] (sh, I, J, R) Q := by
  obtain ⟨hf, r, t, q⟩ := t
  exact ⟨hf, r, b_X9_forgets_0  h_x0 t, q⟩
abbrev s_X9_forgets_2 (γ : rG) (l : Launch) (x0 : Nat) (x1 : Int32) (h : rHeap) (Q : rHeap → Option Value → Prop) : Prop := rW γ l m_X9_forgets 0 0 2 [some (.ref x0), some (.int x1)] [] h Q
theorem w_X9_forgets_2 {γ : rG} {l : Launch} {Q : rHeap → Option Value → Prop} {sh : Nat × (Nat → Nat) × (Nat → Nat)} {I : Nat → Nat → Int32} {J : Nat → Nat → Int64} {R : Nat → Nat → Option Nat} {x0 : Nat} {x1 : Int32}
    (h_x0 : At9 sh R x0)
    (t : ((8 : Int32) ≤ x1 → (rW γ l m_X9_forgets 0 0 30 [some (.ref x0), some (.int (0 : Int32))] [] (sh, I, J, R) Q)) ∧ (¬ (8 : Int32) ≤ x1 → (vp_in x1 8 ∧ (vp_in x1 8 ∧ (rW γ l m_X9_forgets 0 0 2 [some (.ref x0), some (.int (x1 + (1 : Int32)))] [] (sh, (up (up I (x0 + 38) x1.toNatClampNeg (-1 : Int32)) (x0 + 39) x1.toNatClampNeg (-1 : Int32)), J, R) Q))))) :
    rW γ l m_X9_forgets 0 0 2 [some (.ref x0), some (.int x1)] [] (sh, I, J, R) Q := by
  by_cases p0 : (8 : Int32) ≤ x1
  · have t := t.1 p0
    obtain ⟨hf, r, t, q⟩ := t
    exact ⟨hf, r, b_X9_forgets_2  h_x0 (fun _ => t) (fun y0 => absurd p0 y0) (fun y0 => absurd p0 y0) (fun y0 => absurd p0 y0), q⟩
  · have t := t.2 p0
    obtain ⟨b3, t⟩ := t
    obtain ⟨b4, t⟩ := t
    obtain ⟨hf, r, t, q⟩ := t
    exact ⟨hf, r, b_X9_forgets_2  h_x0 (fun y0 => absurd y0 p0) (fun _ => b3) (fun _ => b4) (fun _ => t), q⟩
abbrev s_X9_forgets_30 (γ : rG) (l : Launch) (x0 : Nat) (x1 : Int32) (h : rHeap) (Q : rHeap → Option Value → Prop) : Prop := rW γ l m_X9_forgets 0 0 30 [some (.ref x0), some (.int x1)] [] h Q
theorem w_X9_forgets_30 {γ : rG} {l : Launch} {Q : rHeap → Option Value → Prop} {sh : Nat × (Nat → Nat) × (Nat → Nat)} {I : Nat → Nat → Int32} {J : Nat → Nat → Int64} {R : Nat → Nat → Option Nat} {x0 : Nat} {x1 : Int32}
    (h_x0 : At9 sh R x0)
    (t : ((16 : Int32) ≤ x1 → (Q (sh, (up I x0 59 (0 : Int32)), J, R) (none))) ∧ (¬ (16 : Int32) ≤ x1 → (vp_in x1 16 ∧ (rW γ l m_X9_forgets 0 0 30 [some (.ref x0), some (.int (x1 + (1 : Int32)))] [] (sh, (up I (x0 + 40) x1.toNatClampNeg (-1 : Int32)), J, R) Q)))) :
    rW γ l m_X9_forgets 0 0 30 [some (.ref x0), some (.int x1)] [] (sh, I, J, R) Q := by
  by_cases p0 : (16 : Int32) ≤ x1
  · have t := t.1 p0
    exact ⟨_, _, b_X9_forgets_30  h_x0 (fun _ => ⟨rfl, rfl⟩) (fun y0 => absurd p0 y0) (fun y0 => absurd p0 y0), t⟩
  · have t := t.2 p0
    obtain ⟨b3, t⟩ := t
    obtain ⟨hf, r, t, q⟩ := t
    exact ⟨hf, r, b_X9_forgets_30  h_x0 (fun y0 => absurd y0 p0) (fun _ => b3) (fun _ => t), q⟩
abbrev s_X9_find_0 (γ : rG) (l : Launch) (x0 : Nat) (x1 : Int32) (x2 : Int32) (x3 : Int32) (h : rHeap) (Q : rHeap → Option Value → Prop) : Prop := rW γ l m_X9_find 0 0 0 [some (.ref x0), some (.int x1), some (.int x2), some (.int x3), none] [] h Q
theorem w_X9_find_0 {γ : rG} {l : Launch} {Q : rHeap → Option Value → Prop} {sh : Nat × (Nat → Nat) × (Nat → Nat)} {I : Nat → Nat → Int32} {J : Nat → Nat → Int64} {R : Nat → Nat → Option Nat} {x0 : Nat} {x1 : Int32} {x2 : Int32} {x3 : Int32}
    (h_x0 : At9 sh R x0)
    (t : (x1 = 0 → (rW γ l m_X9_find 0 0 40 [some (.ref x0), some (.int x1), some (.int x2), some (.int x3), none] [.int ((I x0 39) - (1 : Int32))] (sh, I, J, R) Q)) ∧ (¬ x1 = 0 → ((x1 = (1 : Int32) → (rW γ l m_X9_find 0 0 40 [some (.ref x0), some (.int x1), some (.int x2), some (.int x3), none] [.int (I x0 39)] (sh, I, J, R) Q)) ∧ (¬ x1 = (1 : Int32) → ((x1 = (2 : Int32) → (rW γ l m_X9_find 0 0 40 [some (.ref x0), some (.int x1), some (.int x2), some (.int x3), none] [.int ((2 : Int32) * (I x0 39))] (sh, I, J, R) Q)) ∧ (¬ x1 = (2 : Int32) → (rW γ l m_X9_find 0 0 40 [some (.ref x0), some (.int x1), some (.int x2), some (.int x3), none] [.int (0 : Int32)] (sh, I, J, R) Q))))))) :
    rW γ l m_X9_find 0 0 0 [some (.ref x0), some (.int x1), some (.int x2), some (.int x3), none] [] (sh, I, J, R) Q := by
  by_cases p0 : x1 = 0
  · have t := t.1 p0
    obtain ⟨hf, r, t, q⟩ := t
    exact ⟨hf, r, b_X9_find_0  h_x0 (fun y0 _ _ => absurd p0 y0) (fun y0 _ _ => absurd p0 y0) (fun y0 _ => absurd p0 y0) (fun _ => t), q⟩
  · have t := t.2 p0
    by_cases p1 : x1 = (1 : Int32)
    · have t := t.1 p1
      obtain ⟨hf, r, t, q⟩ := t
      exact ⟨hf, r, b_X9_find_0  h_x0 (fun _ y1 _ => absurd p1 y1) (fun _ y1 _ => absurd p1 y1) (fun _ _ => t) (fun y0 => absurd y0 p0), q⟩
    · have t := t.2 p1
      by_cases p2 : x1 = (2 : Int32)
      · have t := t.1 p2
        obtain ⟨hf, r, t, q⟩ := t
        exact ⟨hf, r, b_X9_find_0  h_x0 (fun _ _ y2 => absurd p2 y2) (fun _ _ _ => t) (fun _ y1 => absurd y1 p1) (fun y0 => absurd y0 p0), q⟩
      · have t := t.2 p2
        obtain ⟨hf, r, t, q⟩ := t
        exact ⟨hf, r, b_X9_find_0  h_x0 (fun _ _ _ => t) (fun _ _ y2 => absurd y2 p2) (fun _ y1 => absurd y1 p1) (fun y0 => absurd y0 p0), q⟩
abbrev s_X9_find_40 (γ : rG) (l : Launch) (x0 : Nat) (x1 : Int32) (x2 : Int32) (x3 : Int32) (s0 : Int32) (h : rHeap) (Q : rHeap → Option Value → Prop) : Prop := rW γ l m_X9_find 0 0 40 [some (.ref x0), some (.int x1), some (.int x2), some (.int x3), none] [.int s0] h Q
theorem w_X9_find_40 {γ : rG} {l : Launch} {Q : rHeap → Option Value → Prop} {sh : Nat × (Nat → Nat) × (Nat → Nat)} {I : Nat → Nat → Int32} {J : Nat → Nat → Int64} {R : Nat → Nat → Option Nat} {x0 : Nat} {x1 : Int32} {x2 : Int32} {x3 : Int32} {s0 : Int32}
    (h_x0 : At9 sh R x0)
    (t : (x2 < 0 → (Q (sh, I, J, R) (some (.int (0 : Int32))))) ∧ (¬ x2 < 0 → ((s0 ≤ x2 → (Q (sh, I, J, R) (some (.int (0 : Int32))))) ∧ (¬ s0 ≤ x2 → ((x3 < (-1 : Int32) → (Q (sh, I, J, R) (some (.int (0 : Int32))))) ∧ (¬ x3 < (-1 : Int32) → ((x1 = 0 → (rW γ l m_X9_find 0 0 67 [some (.ref x0), some (.int x1), some (.int x2), some (.int x3), none] [.int (3 : Int32), .int x3] (sh, I, J, R) Q)) ∧ (¬ x1 = 0 → (rW γ l m_X9_find 0 0 67 [some (.ref x0), some (.int x1), some (.int x2), some (.int x3), none] [.int (1 : Int32), .int x3] (sh, I, J, R) Q))))))))) :
    rW γ l m_X9_find 0 0 40 [some (.ref x0), some (.int x1), some (.int x2), some (.int x3), none] [.int s0] (sh, I, J, R) Q := by
  by_cases p0 : x2 < 0
  · have t := t.1 p0
    exact ⟨_, _, b_X9_find_40  h_x0 (fun _ => ⟨rfl, rfl⟩) (fun y0 _ => absurd p0 y0) (fun y0 _ _ => absurd p0 y0) (fun y0 _ _ _ => absurd p0 y0) (fun y0 _ _ _ => absurd p0 y0), t⟩
  · have t := t.2 p0
    by_cases p1 : s0 ≤ x2
    · have t := t.1 p1
      exact ⟨_, _, b_X9_find_40  h_x0 (fun y0 => absurd y0 p0) (fun _ _ => ⟨rfl, rfl⟩) (fun _ y1 _ => absurd p1 y1) (fun _ y1 _ _ => absurd p1 y1) (fun _ y1 _ _ => absurd p1 y1), t⟩
    · have t := t.2 p1
      by_cases p2 : x3 < (-1 : Int32)
      · have t := t.1 p2
        exact ⟨_, _, b_X9_find_40  h_x0 (fun y0 => absurd y0 p0) (fun _ y1 => absurd y1 p1) (fun _ _ _ => ⟨rfl, rfl⟩) (fun _ _ y2 _ => absurd p2 y2) (fun _ _ y2 _ => absurd p2 y2), t⟩
      · have t := t.2 p2
        by_cases p3 : x1 = 0
        · have t := t.1 p3
          obtain ⟨hf, r, t, q⟩ := t
          exact ⟨hf, r, b_X9_find_40  h_x0 (fun y0 => absurd y0 p0) (fun _ y1 => absurd y1 p1) (fun _ _ y2 => absurd y2 p2) (fun _ _ _ y3 => absurd p3 y3) (fun _ _ _ _ => t), q⟩
        · have t := t.2 p3
          obtain ⟨hf, r, t, q⟩ := t
          exact ⟨hf, r, b_X9_find_40  h_x0 (fun y0 => absurd y0 p0) (fun _ y1 => absurd y1 p1) (fun _ _ y2 => absurd y2 p2) (fun _ _ _ _ => t) (fun _ _ _ y3 => absurd y3 p3), q⟩
abbrev s_X9_find_67 (γ : rG) (l : Launch) (x0 : Nat) (x1 : Int32) (x2 : Int32) (x3 : Int32) (s0 : Int32) (s1 : Int32) (h : rHeap) (Q : rHeap → Option Value → Prop) : Prop := rW γ l m_X9_find 0 0 67 [some (.ref x0), some (.int x1), some (.int x2), some (.int x3), none] [.int s0, .int s1] h Q
theorem w_X9_find_67 {γ : rG} {l : Launch} {Q : rHeap → Option Value → Prop} {sh : Nat × (Nat → Nat) × (Nat → Nat)} {I : Nat → Nat → Int32} {J : Nat → Nat → Int64} {R : Nat → Nat → Option Nat} {x0 : Nat} {x1 : Int32} {x2 : Int32} {x3 : Int32} {s0 : Int32} {s1 : Int32}
    (h_x0 : At9 sh R x0)
    (t : (s1 ≤ s0 → ((x1 = 0 → (vp_in x2 8 ∧ (rW γ l m_X9_find 0 0 83 [some (.ref x0), some (.int x1), some (.int x2), some (.int x3), none] [] (sh, (up I (x0 + 38) x2.toNatClampNeg x3), J, R) Q))) ∧ (¬ x1 = 0 → (rW γ l m_X9_find 0 0 83 [some (.ref x0), some (.int x1), some (.int x2), some (.int x3), none] [] (sh, I, J, R) Q)))) ∧ (¬ s1 ≤ s0 → (Q (sh, I, J, R) (some (.int (0 : Int32)))))) :
    rW γ l m_X9_find 0 0 67 [some (.ref x0), some (.int x1), some (.int x2), some (.int x3), none] [.int s0, .int s1] (sh, I, J, R) Q := by
  by_cases p0 : s1 ≤ s0
  · have t := t.1 p0
    by_cases p1 : x1 = 0
    · have t := t.1 p1
      obtain ⟨b4, t⟩ := t
      obtain ⟨hf, r, t, q⟩ := t
      exact ⟨hf, r, b_X9_find_67  h_x0 (fun _ y1 => absurd p1 y1) (fun _ _ => b4) (fun _ _ => t) (fun y0 => absurd p0 y0), q⟩
    · have t := t.2 p1
      obtain ⟨hf, r, t, q⟩ := t
      exact ⟨hf, r, b_X9_find_67  h_x0 (fun _ _ => t) (fun _ y1 => absurd y1 p1) (fun _ y1 => absurd y1 p1) (fun y0 => absurd p0 y0), q⟩
  · have t := t.2 p0
    exact ⟨_, _, b_X9_find_67  h_x0 (fun y0 _ => absurd y0 p0) (fun y0 _ => absurd y0 p0) (fun y0 _ => absurd y0 p0) (fun _ => ⟨rfl, rfl⟩), t⟩
abbrev s_X9_find_83 (γ : rG) (l : Launch) (x0 : Nat) (x1 : Int32) (x2 : Int32) (x3 : Int32) (h : rHeap) (Q : rHeap → Option Value → Prop) : Prop := rW γ l m_X9_find 0 0 83 [some (.ref x0), some (.int x1), some (.int x2), some (.int x3), none] [] h Q
theorem w_X9_find_83 {γ : rG} {l : Launch} {Q : rHeap → Option Value → Prop} {sh : Nat × (Nat → Nat) × (Nat → Nat)} {I : Nat → Nat → Int32} {J : Nat → Nat → Int64} {R : Nat → Nat → Option Nat} {x0 : Nat} {x1 : Int32} {x2 : Int32} {x3 : Int32}
    (h_x0 : At9 sh R x0)
    (t : (x1 = (1 : Int32) → (vp_in x2 8 ∧ (rW γ l m_X9_find 0 0 95 [some (.ref x0), some (.int x1), some (.int x2), some (.int x3), none] [] (sh, (up I (x0 + 39) x2.toNatClampNeg x3), J, R) Q))) ∧ (¬ x1 = (1 : Int32) → (rW γ l m_X9_find 0 0 95 [some (.ref x0), some (.int x1), some (.int x2), some (.int x3), none] [] (sh, I, J, R) Q))) :
    rW γ l m_X9_find 0 0 83 [some (.ref x0), some (.int x1), some (.int x2), some (.int x3), none] [] (sh, I, J, R) Q := by
  by_cases p0 : x1 = (1 : Int32)
  · have t := t.1 p0
    obtain ⟨b3, t⟩ := t
    obtain ⟨hf, r, t, q⟩ := t
    exact ⟨hf, r, b_X9_find_83  h_x0 (fun y0 => absurd p0 y0) (fun _ => b3) (fun _ => t), q⟩
  · have t := t.2 p0
    obtain ⟨hf, r, t, q⟩ := t
    exact ⟨hf, r, b_X9_find_83  h_x0 (fun _ => t) (fun y0 => absurd y0 p0) (fun y0 => absurd y0 p0), q⟩
abbrev s_X9_find_95 (γ : rG) (l : Launch) (x0 : Nat) (x1 : Int32) (x2 : Int32) (x3 : Int32) (h : rHeap) (Q : rHeap → Option Value → Prop) : Prop := rW γ l m_X9_find 0 0 95 [some (.ref x0), some (.int x1), some (.int x2), some (.int x3), none] [] h Q
theorem w_X9_find_95 {γ : rG} {l : Launch} {Q : rHeap → Option Value → Prop} {sh : Nat × (Nat → Nat) × (Nat → Nat)} {I : Nat → Nat → Int32} {J : Nat → Nat → Int64} {R : Nat → Nat → Option Nat} {x0 : Nat} {x1 : Int32} {x2 : Int32} {x3 : Int32}
    (h_x0 : At9 sh R x0)
    (t : (x1 = (2 : Int32) → (vp_in x2 16 ∧ (Q (sh, (up (up I (x0 + 40) x2.toNatClampNeg x3) x0 59 (0 : Int32)), J, R) (some (.int (1 : Int32)))))) ∧ (¬ x1 = (2 : Int32) → (Q (sh, (up I x0 59 (0 : Int32)), J, R) (some (.int (1 : Int32)))))) :
    rW γ l m_X9_find 0 0 95 [some (.ref x0), some (.int x1), some (.int x2), some (.int x3), none] [] (sh, I, J, R) Q := by
  by_cases p0 : x1 = (2 : Int32)
  · have t := t.1 p0
    obtain ⟨b3, t⟩ := t
    exact ⟨_, _, b_X9_find_95  h_x0 (fun y0 => absurd p0 y0) (fun _ => b3) (fun _ => ⟨rfl, rfl⟩), t⟩
  · have t := t.2 p0
    exact ⟨_, _, b_X9_find_95  h_x0 (fun _ => ⟨rfl, rfl⟩) (fun y0 => absurd y0 p0) (fun y0 => absurd y0 p0), t⟩
abbrev s_X9_finds_0 (γ : rG) (l : Launch) (x0 : Nat) (h : rHeap) (Q : rHeap → Option Value → Prop) : Prop := rW γ l m_X9_finds 0 0 0 [some (.ref x0), none] [] h Q
theorem w_X9_finds_0 {γ : rG} {l : Launch} {Q : rHeap → Option Value → Prop} {sh : Nat × (Nat → Nat) × (Nat → Nat)} {I : Nat → Nat → Int32} {J : Nat → Nat → Int64} {R : Nat → Nat → Option Nat} {x0 : Nat}
    (h_x0 : At9 sh R x0)
    (t : ∃ (I1 : Nat → Nat → Int32), rMet γ l m_X9_forgets [.ref x0] (sh, I, J, R) (sh, I1, J, R) none ∧ (rW γ l m_X9_finds 0 0 6 [some (.ref x0), some (.int (0 : Int32))] [] (sh, I1, J, R) Q)) :
    rW γ l m_X9_finds 0 0 0 [some (.ref x0), none] [] (sh, I, J, R) Q := by
  obtain ⟨I1, m2, t⟩ := t
  obtain ⟨hf, r, t, q⟩ := t
  exact ⟨hf, r, b_X9_finds_0  h_x0 m2 t, q⟩
abbrev s_X9_finds_6 (γ : rG) (l : Launch) (x0 : Nat) (x1 : Int32) (h : rHeap) (Q : rHeap → Option Value → Prop) : Prop := rW γ l m_X9_finds 0 0 6 [some (.ref x0), some (.int x1)] [] h Q
theorem w_X9_finds_6 {γ : rG} {l : Launch} {Q : rHeap → Option Value → Prop} {sh : Nat × (Nat → Nat) × (Nat → Nat)} {I : Nat → Nat → Int32} {J : Nat → Nat → Int64} {R : Nat → Nat → Option Nat} {x0 : Nat} {x1 : Int32}
    (h_x0 : At9 sh R x0)
    (t : ((I x0 39) ≤ (x1 + (1 : Int32)) → (rW γ l m_X9_finds 0 0 36 [some (.ref x0), some (.int (0 : Int32))] [] (sh, I, J, R) Q)) ∧ (¬ (I x0 39) ≤ (x1 + (1 : Int32)) → (vp_in x1 8 ∧ (vp_in x1 8 ∧ (rW γ l m_X9_finds 0 0 6 [some (.ref x0), some (.int (x1 + (1 : Int32)))] [] (sh, (up I (x0 + 38) x1.toNatClampNeg ((I (x0 + 29) x1.toNatClampNeg))), J, R) Q))))) :
    rW γ l m_X9_finds 0 0 6 [some (.ref x0), some (.int x1)] [] (sh, I, J, R) Q := by
  by_cases p0 : (I x0 39) ≤ (x1 + (1 : Int32))
  · have t := t.1 p0
    obtain ⟨hf, r, t, q⟩ := t
    exact ⟨hf, r, b_X9_finds_6  h_x0 (fun _ => t) (fun y0 => absurd p0 y0) (fun y0 => absurd p0 y0) (fun y0 => absurd p0 y0), q⟩
  · have t := t.2 p0
    obtain ⟨b3, t⟩ := t
    obtain ⟨b4, t⟩ := t
    obtain ⟨hf, r, t, q⟩ := t
    exact ⟨hf, r, b_X9_finds_6  h_x0 (fun y0 => absurd y0 p0) (fun _ => b3) (fun _ => b4) (fun _ => t), q⟩
abbrev s_X9_finds_36 (γ : rG) (l : Launch) (x0 : Nat) (x1 : Int32) (h : rHeap) (Q : rHeap → Option Value → Prop) : Prop := rW γ l m_X9_finds 0 0 36 [some (.ref x0), some (.int x1)] [] h Q
theorem w_X9_finds_36 {γ : rG} {l : Launch} {Q : rHeap → Option Value → Prop} {sh : Nat × (Nat → Nat) × (Nat → Nat)} {I : Nat → Nat → Int32} {J : Nat → Nat → Int64} {R : Nat → Nat → Option Nat} {x0 : Nat} {x1 : Int32}
    (h_x0 : At9 sh R x0)
    (t : ((I x0 39) ≤ x1 → (rW γ l m_X9_finds 0 0 72 [some (.ref x0), some (.int (0 : Int32))] [] (sh, I, J, R) Q)) ∧ (¬ (I x0 39) ≤ x1 → (vp_in x1 8 ∧ (((I (x0 + 30) x1.toNatClampNeg) ≤ 0 → (vp_in x1 8 ∧ (rW γ l m_X9_finds 0 0 36 [some (.ref x0), some (.int (x1 + (1 : Int32)))] [] (sh, (up I (x0 + 39) x1.toNatClampNeg (0 : Int32)), J, R) Q))) ∧ (¬ (I (x0 + 30) x1.toNatClampNeg) ≤ 0 → (vp_in x1 8 ∧ (rW γ l m_X9_finds 0 0 36 [some (.ref x0), some (.int (x1 + (1 : Int32)))] [] (sh, (up I (x0 + 39) x1.toNatClampNeg (1 : Int32)), J, R) Q))))))) :
    rW γ l m_X9_finds 0 0 36 [some (.ref x0), some (.int x1)] [] (sh, I, J, R) Q := by
  by_cases p0 : (I x0 39) ≤ x1
  · have t := t.1 p0
    obtain ⟨hf, r, t, q⟩ := t
    exact ⟨hf, r, b_X9_finds_36  h_x0 (fun _ => t) (fun y0 => absurd p0 y0) (fun y0 _ => absurd p0 y0) (fun y0 _ => absurd p0 y0) (fun y0 _ => absurd p0 y0) (fun y0 _ => absurd p0 y0), q⟩
  · have t := t.2 p0
    obtain ⟨b3, t⟩ := t
    by_cases p1 : (I (x0 + 30) x1.toNatClampNeg) ≤ 0
    · have t := t.1 p1
      obtain ⟨b5, t⟩ := t
      obtain ⟨hf, r, t, q⟩ := t
      exact ⟨hf, r, b_X9_finds_36  h_x0 (fun y0 => absurd y0 p0) (fun _ => b3) (fun _ _ => b5) (fun _ _ => t) (fun _ y1 => absurd p1 y1) (fun _ y1 => absurd p1 y1), q⟩
    · have t := t.2 p1
      obtain ⟨b7, t⟩ := t
      obtain ⟨hf, r, t, q⟩ := t
      exact ⟨hf, r, b_X9_finds_36  h_x0 (fun y0 => absurd y0 p0) (fun _ => b3) (fun _ y1 => absurd y1 p1) (fun _ y1 => absurd y1 p1) (fun _ _ => b7) (fun _ _ => t), q⟩
abbrev s_X9_finds_72 (γ : rG) (l : Launch) (x0 : Nat) (x1 : Int32) (h : rHeap) (Q : rHeap → Option Value → Prop) : Prop := rW γ l m_X9_finds 0 0 72 [some (.ref x0), some (.int x1)] [] h Q
theorem w_X9_finds_72 {γ : rG} {l : Launch} {Q : rHeap → Option Value → Prop} {sh : Nat × (Nat → Nat) × (Nat → Nat)} {I : Nat → Nat → Int32} {J : Nat → Nat → Int64} {R : Nat → Nat → Option Nat} {x0 : Nat} {x1 : Int32}
    (h_x0 : At9 sh R x0)
    (t : (((2 : Int32) * (I x0 39)) ≤ x1 → (Q (sh, I, J, R) (none))) ∧ (¬ ((2 : Int32) * (I x0 39)) ≤ x1 → (vp_in x1 16 ∧ (((I (x0 + 32) x1.toNatClampNeg) = 0 → (vp_in x1 16 ∧ (rW γ l m_X9_finds 0 0 72 [some (.ref x0), some (.int (x1 + (1 : Int32)))] [] (sh, (up I (x0 + 40) x1.toNatClampNeg (0 : Int32)), J, R) Q))) ∧ (¬ (I (x0 + 32) x1.toNatClampNeg) = 0 → (vp_in x1 16 ∧ (rW γ l m_X9_finds 0 0 72 [some (.ref x0), some (.int (x1 + (1 : Int32)))] [] (sh, (up I (x0 + 40) x1.toNatClampNeg (1 : Int32)), J, R) Q))))))) :
    rW γ l m_X9_finds 0 0 72 [some (.ref x0), some (.int x1)] [] (sh, I, J, R) Q := by
  by_cases p0 : ((2 : Int32) * (I x0 39)) ≤ x1
  · have t := t.1 p0
    exact ⟨_, _, b_X9_finds_72  h_x0 (fun _ => ⟨rfl, rfl⟩) (fun y0 => absurd p0 y0) (fun y0 _ => absurd p0 y0) (fun y0 _ => absurd p0 y0) (fun y0 _ => absurd p0 y0) (fun y0 _ => absurd p0 y0), t⟩
  · have t := t.2 p0
    obtain ⟨b3, t⟩ := t
    by_cases p1 : (I (x0 + 32) x1.toNatClampNeg) = 0
    · have t := t.1 p1
      obtain ⟨b5, t⟩ := t
      obtain ⟨hf, r, t, q⟩ := t
      exact ⟨hf, r, b_X9_finds_72  h_x0 (fun y0 => absurd y0 p0) (fun _ => b3) (fun _ _ => b5) (fun _ _ => t) (fun _ y1 => absurd p1 y1) (fun _ y1 => absurd p1 y1), q⟩
    · have t := t.2 p1
      obtain ⟨b7, t⟩ := t
      obtain ⟨hf, r, t, q⟩ := t
      exact ⟨hf, r, b_X9_finds_72  h_x0 (fun y0 => absurd y0 p0) (fun _ => b3) (fun _ y1 => absurd y1 p1) (fun _ y1 => absurd y1 p1) (fun _ _ => b7) (fun _ _ => t), q⟩
abbrev s_X9_tries_0 (γ : rG) (l : Launch) (x0 : Nat) (h : rHeap) (Q : rHeap → Option Value → Prop) : Prop := rW γ l m_X9_tries 0 0 0 [some (.ref x0), none] [] h Q
theorem w_X9_tries_0 {γ : rG} {l : Launch} {Q : rHeap → Option Value → Prop} {sh : Nat × (Nat → Nat) × (Nat → Nat)} {I : Nat → Nat → Int32} {J : Nat → Nat → Int64} {R : Nat → Nat → Option Nat} {x0 : Nat}
    (h_x0 : At9 sh R x0)
    (t : ((I x0 59) = 0 → (rW γ l m_X9_tries 0 0 35 [some (.ref x0), some (.int (0 : Int32))] [] (sh, (up (up (up (up (up I x0 59 (1 : Int32)) x0 60 (0 : Int32)) x0 61 (-1 : Int32)) x0 64 (0 : Int32)) x0 65 (0 : Int32)), J, R) Q)) ∧ (¬ (I x0 59) = 0 → (Q (sh, I, J, R) (none)))) :
    rW γ l m_X9_tries 0 0 0 [some (.ref x0), none] [] (sh, I, J, R) Q := by
  by_cases p0 : (I x0 59) = 0
  · have t := t.1 p0
    obtain ⟨hf, r, t, q⟩ := t
    exact ⟨hf, r, b_X9_tries_0  h_x0 (fun _ => t) (fun y0 => absurd p0 y0), q⟩
  · have t := t.2 p0
    exact ⟨_, _, b_X9_tries_0  h_x0 (fun y0 => absurd y0 p0) (fun _ => ⟨rfl, rfl⟩), t⟩
abbrev s_X9_tries_35 (γ : rG) (l : Launch) (x0 : Nat) (x1 : Int32) (h : rHeap) (Q : rHeap → Option Value → Prop) : Prop := rW γ l m_X9_tries 0 0 35 [some (.ref x0), some (.int x1)] [] h Q
theorem w_X9_tries_35 {γ : rG} {l : Launch} {Q : rHeap → Option Value → Prop} {sh : Nat × (Nat → Nat) × (Nat → Nat)} {I : Nat → Nat → Int32} {J : Nat → Nat → Int64} {R : Nat → Nat → Option Nat} {x0 : Nat} {x1 : Int32}
    (h_x0 : At9 sh R x0)
    (t : ((I x0 39) ≤ (x1 + (1 : Int32)) → (rW γ l m_X9_tries 0 0 99 [some (.ref x0), some (.int (0 : Int32))] [] (sh, I, J, R) Q)) ∧ (¬ (I x0 39) ≤ (x1 + (1 : Int32)) → (vp_in x1 8 ∧ (((I (x0 + 38) x1.toNatClampNeg) = (-1 : Int32) → (rW γ l m_X9_tries 0 0 35 [some (.ref x0), some (.int (x1 + (1 : Int32)))] [] (sh, I, J, R) Q)) ∧ (¬ (I (x0 + 38) x1.toNatClampNeg) = (-1 : Int32) → (vp_in x1 8 ∧ (rW γ l m_X9_tries 0 0 35 [some (.ref x0), some (.int (x1 + (1 : Int32)))] [] (sh, (up (up I x0 64 (((I x0 64) ||| ((3 : Int32) <<< (((2 : Int32) * x1) &&& 31))))) x0 65 ((((up I x0 64 (((I x0 64) ||| ((3 : Int32) <<< (((2 : Int32) * x1) &&& 31))))) x0 65) ||| (((up I x0 64 (((I x0 64) ||| ((3 : Int32) <<< (((2 : Int32) * x1) &&& 31))))) (x0 + 38) x1.toNatClampNeg) <<< (((2 : Int32) * x1) &&& 31))))), J, R) Q))))))) :
    rW γ l m_X9_tries 0 0 35 [some (.ref x0), some (.int x1)] [] (sh, I, J, R) Q := by
  by_cases p0 : (I x0 39) ≤ (x1 + (1 : Int32))
  · have t := t.1 p0
    obtain ⟨hf, r, t, q⟩ := t
    exact ⟨hf, r, b_X9_tries_35  h_x0 (fun _ => t) (fun y0 => absurd p0 y0) (fun y0 _ => absurd p0 y0) (fun y0 _ => absurd p0 y0) (fun y0 _ => absurd p0 y0), q⟩
  · have t := t.2 p0
    obtain ⟨b3, t⟩ := t
    by_cases p1 : (I (x0 + 38) x1.toNatClampNeg) = (-1 : Int32)
    · have t := t.1 p1
      obtain ⟨hf, r, t, q⟩ := t
      exact ⟨hf, r, b_X9_tries_35  h_x0 (fun y0 => absurd y0 p0) (fun _ => b3) (fun _ y1 => absurd p1 y1) (fun _ y1 => absurd p1 y1) (fun _ _ => t), q⟩
    · have t := t.2 p1
      obtain ⟨b5, t⟩ := t
      obtain ⟨hf, r, t, q⟩ := t
      exact ⟨hf, r, b_X9_tries_35  h_x0 (fun y0 => absurd y0 p0) (fun _ => b3) (fun _ _ => b5) (fun _ _ => t) (fun _ y1 => absurd y1 p1), q⟩
abbrev s_X9_tries_99 (γ : rG) (l : Launch) (x0 : Nat) (x1 : Int32) (h : rHeap) (Q : rHeap → Option Value → Prop) : Prop := rW γ l m_X9_tries 0 0 99 [some (.ref x0), some (.int x1)] [] h Q
theorem w_X9_tries_99 {γ : rG} {l : Launch} {Q : rHeap → Option Value → Prop} {sh : Nat × (Nat → Nat) × (Nat → Nat)} {I : Nat → Nat → Int32} {J : Nat → Nat → Int64} {R : Nat → Nat → Option Nat} {x0 : Nat} {x1 : Int32}
    (h_x0 : At9 sh R x0)
    (t : ((16384 : Int32) ≤ x1 → (rW γ l m_X9_tries 0 0 121 [some (.ref x0), some (.int (0 : Int32))] [] (sh, I, J, R) Q)) ∧ (¬ (16384 : Int32) ≤ x1 → (vp_in x1 16384 ∧ (rW γ l m_X9_tries 0 0 99 [some (.ref x0), some (.int (x1 + (1 : Int32)))] [] (sh, (up I (x0 + 42) x1.toNatClampNeg (vp_nar .boolean (0 : Int32))), J, R) Q)))) :
    rW γ l m_X9_tries 0 0 99 [some (.ref x0), some (.int x1)] [] (sh, I, J, R) Q := by
  by_cases p0 : (16384 : Int32) ≤ x1
  · have t := t.1 p0
    obtain ⟨hf, r, t, q⟩ := t
    exact ⟨hf, r, b_X9_tries_99  h_x0 (fun _ => t) (fun y0 => absurd p0 y0) (fun y0 => absurd p0 y0), q⟩
  · have t := t.2 p0
    obtain ⟨b3, t⟩ := t
    obtain ⟨hf, r, t, q⟩ := t
    exact ⟨hf, r, b_X9_tries_99  h_x0 (fun y0 => absurd y0 p0) (fun _ => b3) (fun _ => t), q⟩
abbrev s_X9_tries_121 (γ : rG) (l : Launch) (x0 : Nat) (x1 : Int32) (h : rHeap) (Q : rHeap → Option Value → Prop) : Prop := rW γ l m_X9_tries 0 0 121 [some (.ref x0), some (.int x1)] [] h Q
theorem w_X9_tries_121 {γ : rG} {l : Launch} {Q : rHeap → Option Value → Prop} {sh : Nat × (Nat → Nat) × (Nat → Nat)} {I : Nat → Nat → Int32} {J : Nat → Nat → Int64} {R : Nat → Nat → Option Nat} {x0 : Nat} {x1 : Int32}
    (h_x0 : At9 sh R x0)
    (t : ((4 : Int32) ≤ x1 → (Q (sh, I, J, R) (none))) ∧ (¬ (4 : Int32) ≤ x1 → (∃ (I3 : Nat → Nat → Int32), rMet γ l m_X9_goesThrough [.ref x0, .int x1] (sh, I, J, R) (sh, I3, J, R) none ∧ (rW γ l m_X9_tries 0 0 121 [some (.ref x0), some (.int (x1 + (1 : Int32)))] [] (sh, I3, J, R) Q)))) :
    rW γ l m_X9_tries 0 0 121 [some (.ref x0), some (.int x1)] [] (sh, I, J, R) Q := by
  by_cases p0 : (4 : Int32) ≤ x1
  · have t := t.1 p0
    exact ⟨_, _, b_X9_tries_121 (I3 := I) h_x0 (fun _ => ⟨rfl, rfl⟩) (fun y0 => absurd p0 y0) (fun y0 => absurd p0 y0), t⟩
  · have t := t.2 p0
    obtain ⟨I3, m4, t⟩ := t
    obtain ⟨hf, r, t, q⟩ := t
    exact ⟨hf, r, b_X9_tries_121  h_x0 (fun y0 => absurd y0 p0) (fun _ => m4) (fun _ => t), q⟩
abbrev s_X9_mostLayers_0 (γ : rG) (l : Launch) (x0 : Nat) (x1 : Int32) (h : rHeap) (Q : rHeap → Option Value → Prop) : Prop := rW γ l m_X9_mostLayers 0 0 0 [some (.ref x0), some (.int x1), none, none] [] h Q
theorem w_X9_mostLayers_0 {γ : rG} {l : Launch} {Q : rHeap → Option Value → Prop} {sh : Nat × (Nat → Nat) × (Nat → Nat)} {I : Nat → Nat → Int32} {J : Nat → Nat → Int64} {R : Nat → Nat → Option Nat} {x0 : Nat} {x1 : Int32}
    (h_x0 : At9 sh R x0)
    (t : rW γ l m_X9_mostLayers 0 0 4 [some (.ref x0), some (.int x1), some (.int (0 : Int32)), some (.int (0 : Int32))] [] (sh, I, J, R) Q) :
    rW γ l m_X9_mostLayers 0 0 0 [some (.ref x0), some (.int x1), none, none] [] (sh, I, J, R) Q := by
  obtain ⟨hf, r, t, q⟩ := t
  exact ⟨hf, r, b_X9_mostLayers_0  h_x0 t, q⟩
abbrev s_X9_mostLayers_4 (γ : rG) (l : Launch) (x0 : Nat) (x1 : Int32) (x2 : Int32) (x3 : Int32) (h : rHeap) (Q : rHeap → Option Value → Prop) : Prop := rW γ l m_X9_mostLayers 0 0 4 [some (.ref x0), some (.int x1), some (.int x2), some (.int x3)] [] h Q
theorem w_X9_mostLayers_4 {γ : rG} {l : Launch} {Q : rHeap → Option Value → Prop} {sh : Nat × (Nat → Nat) × (Nat → Nat)} {I : Nat → Nat → Int32} {J : Nat → Nat → Int64} {R : Nat → Nat → Option Nat} {x0 : Nat} {x1 : Int32} {x2 : Int32} {x3 : Int32}
    (h_x0 : At9 sh R x0)
    (t : vp_in x1 22 ∧ (((I (x0 + 25) x1.toNatClampNeg) ≤ x3 → (Q (sh, I, J, R) (some (.int x2)))) ∧ (¬ (I (x0 + 25) x1.toNatClampNeg) ≤ x3 → (∃ (v5 : Int32), rMet γ l m_X9_layersOf [.ref x0, .int x1, .int x3] (sh, I, J, R) (sh, I, J, R) (some (.int v5)) ∧ ((v5 ≤ x2 → (rW γ l m_X9_mostLayers 0 0 4 [some (.ref x0), some (.int x1), some (.int x2), some (.int (x3 + (1 : Int32)))] [] (sh, I, J, R) Q)) ∧ (¬ v5 ≤ x2 → (∃ (v9 : Int32), rMet γ l m_X9_layersOf [.ref x0, .int x1, .int x3] (sh, I, J, R) (sh, I, J, R) (some (.int v9)) ∧ (rW γ l m_X9_mostLayers 0 0 4 [some (.ref x0), some (.int x1), some (.int v9), some (.int (x3 + (1 : Int32)))] [] (sh, I, J, R) Q)))))))) :
    rW γ l m_X9_mostLayers 0 0 4 [some (.ref x0), some (.int x1), some (.int x2), some (.int x3)] [] (sh, I, J, R) Q := by
  obtain ⟨b1, t⟩ := t
  by_cases p0 : (I (x0 + 25) x1.toNatClampNeg) ≤ x3
  · have t := t.1 p0
    exact ⟨_, _, b_X9_mostLayers_4 (v5 := 0) (v9 := 0) h_x0 b1 (fun _ => ⟨rfl, rfl⟩) (fun y0 => absurd p0 y0) (fun y0 _ => absurd p0 y0) (fun y0 _ => absurd p0 y0) (fun y0 _ => absurd p0 y0), t⟩
  · have t := t.2 p0
    obtain ⟨v5, m4, t⟩ := t
    by_cases p1 : v5 ≤ x2
    · have t := t.1 p1
      obtain ⟨hf, r, t, q⟩ := t
      exact ⟨hf, r, b_X9_mostLayers_4 (v9 := 0) h_x0 b1 (fun y0 => absurd y0 p0) (fun _ => m4) (fun _ _ => t) (fun _ y1 => absurd p1 y1) (fun _ y1 => absurd p1 y1), q⟩
    · have t := t.2 p1
      obtain ⟨v9, m8, t⟩ := t
      obtain ⟨hf, r, t, q⟩ := t
      exact ⟨hf, r, b_X9_mostLayers_4  h_x0 b1 (fun y0 => absurd y0 p0) (fun _ => m4) (fun _ y1 => absurd y1 p1) (fun _ _ => m8) (fun _ _ => t), q⟩
abbrev s_X9_after_0 (γ : rG) (l : Launch) (x0 : Nat) (x1 : Int32) (x2 : Int32) (h : rHeap) (Q : rHeap → Option Value → Prop) : Prop := rW γ l m_X9_after 0 0 0 [some (.ref x0), some (.int x1), some (.int x2), none, none, none] [] h Q
theorem w_X9_after_0 {γ : rG} {l : Launch} {Q : rHeap → Option Value → Prop} {sh : Nat × (Nat → Nat) × (Nat → Nat)} {I : Nat → Nat → Int32} {J : Nat → Nat → Int64} {R : Nat → Nat → Option Nat} {x0 : Nat} {x1 : Int32} {x2 : Int32}
    (h_x0 : At9 sh R x0)
    (t : ∃ (v2 : Int32), rMet γ l m_X9_mostLayers [.ref x0, .int x1] (sh, I, J, R) (sh, I, J, R) (some (.int v2)) ∧ ((((x2 - x2 / (10 : Int32) * (10 : Int32)) + (1 : Int32)) ≤ v2 → (rW γ l m_X9_after 0 0 44 [some (.ref x0), some (.int x1), none, some (.int (x2 / (100 : Int32))), some (.int ((x2 / (10 : Int32)) - (x2 / (10 : Int32)) / (10 : Int32) * (10 : Int32))), some (.int ((x2 - x2 / (10 : Int32) * (10 : Int32)) + (1 : Int32)))] [] (sh, I, J, R) Q)) ∧ (¬ ((x2 - x2 / (10 : Int32) * (10 : Int32)) + (1 : Int32)) ≤ v2 → ((((x2 - x2 / (10 : Int32) * (10 : Int32)) + (1 : Int32)) ≤ (1 : Int32) → (rW γ l m_X9_after 0 0 44 [some (.ref x0), some (.int x1), none, some (.int (x2 / (100 : Int32))), some (.int ((x2 / (10 : Int32)) - (x2 / (10 : Int32)) / (10 : Int32) * (10 : Int32))), some (.int ((x2 - x2 / (10 : Int32) * (10 : Int32)) + (1 : Int32)))] [] (sh, I, J, R) Q)) ∧ (¬ ((x2 - x2 / (10 : Int32) * (10 : Int32)) + (1 : Int32)) ≤ (1 : Int32) → (rW γ l m_X9_after 0 0 44 [some (.ref x0), some (.int x1), none, some (.int (x2 / (100 : Int32))), some (.int (((x2 / (10 : Int32)) - (x2 / (10 : Int32)) / (10 : Int32) * (10 : Int32)) + (1 : Int32))), some (.int (0 : Int32))] [] (sh, I, J, R) Q)))))) :
    rW γ l m_X9_after 0 0 0 [some (.ref x0), some (.int x1), some (.int x2), none, none, none] [] (sh, I, J, R) Q := by
  obtain ⟨v2, m1, t⟩ := t
  by_cases p0 : ((x2 - x2 / (10 : Int32) * (10 : Int32)) + (1 : Int32)) ≤ v2
  · have t := t.1 p0
    obtain ⟨hf, r, t, q⟩ := t
    exact ⟨hf, r, b_X9_after_0  h_x0 m1 (fun _ => t) (fun y0 _ => absurd p0 y0) (fun y0 _ => absurd p0 y0), q⟩
  · have t := t.2 p0
    by_cases p1 : ((x2 - x2 / (10 : Int32) * (10 : Int32)) + (1 : Int32)) ≤ (1 : Int32)
    · have t := t.1 p1
      obtain ⟨hf, r, t, q⟩ := t
      exact ⟨hf, r, b_X9_after_0  h_x0 m1 (fun y0 => absurd y0 p0) (fun _ _ => t) (fun _ y1 => absurd p1 y1), q⟩
    · have t := t.2 p1
      obtain ⟨hf, r, t, q⟩ := t
      exact ⟨hf, r, b_X9_after_0  h_x0 m1 (fun y0 => absurd y0 p0) (fun _ y1 => absurd y1 p1) (fun _ _ => t), q⟩
abbrev s_X9_after_44 (γ : rG) (l : Launch) (x0 : Nat) (x1 : Int32) (x3 : Int32) (x4 : Int32) (x5 : Int32) (h : rHeap) (Q : rHeap → Option Value → Prop) : Prop := rW γ l m_X9_after 0 0 44 [some (.ref x0), some (.int x1), none, some (.int x3), some (.int x4), some (.int x5)] [] h Q
theorem w_X9_after_44 {γ : rG} {l : Launch} {Q : rHeap → Option Value → Prop} {sh : Nat × (Nat → Nat) × (Nat → Nat)} {I : Nat → Nat → Int32} {J : Nat → Nat → Int64} {R : Nat → Nat → Option Nat} {x0 : Nat} {x1 : Int32} {x3 : Int32} {x4 : Int32} {x5 : Int32}
    (h_x0 : At9 sh R x0)
    (t : (x4 ≤ (1 : Int32) → (rW γ l m_X9_after 0 0 56 [some (.ref x0), some (.int x1), none, some (.int x3), some (.int x4), some (.int x5)] [] (sh, I, J, R) Q)) ∧ (¬ x4 ≤ (1 : Int32) → (rW γ l m_X9_after 0 0 56 [some (.ref x0), some (.int x1), none, some (.int (x3 + (1 : Int32))), some (.int (0 : Int32)), some (.int x5)] [] (sh, I, J, R) Q))) :
    rW γ l m_X9_after 0 0 44 [some (.ref x0), some (.int x1), none, some (.int x3), some (.int x4), some (.int x5)] [] (sh, I, J, R) Q := by
  by_cases p0 : x4 ≤ (1 : Int32)
  · have t := t.1 p0
    obtain ⟨hf, r, t, q⟩ := t
    exact ⟨hf, r, b_X9_after_44  h_x0 (fun _ => t) (fun y0 => absurd p0 y0), q⟩
  · have t := t.2 p0
    obtain ⟨hf, r, t, q⟩ := t
    exact ⟨hf, r, b_X9_after_44  h_x0 (fun y0 => absurd y0 p0) (fun _ => t), q⟩
abbrev s_X9_after_56 (γ : rG) (l : Launch) (x0 : Nat) (x1 : Int32) (x3 : Int32) (x4 : Int32) (x5 : Int32) (h : rHeap) (Q : rHeap → Option Value → Prop) : Prop := rW γ l m_X9_after 0 0 56 [some (.ref x0), some (.int x1), none, some (.int x3), some (.int x4), some (.int x5)] [] h Q
theorem w_X9_after_56 {γ : rG} {l : Launch} {Q : rHeap → Option Value → Prop} {sh : Nat × (Nat → Nat) × (Nat → Nat)} {I : Nat → Nat → Int32} {J : Nat → Nat → Int64} {R : Nat → Nat → Option Nat} {x0 : Nat} {x1 : Int32} {x3 : Int32} {x4 : Int32} {x5 : Int32}
    (h_x0 : At9 sh R x0)
    (t : vp_in x1 22 ∧ (((I (x0 + 25) x1.toNatClampNeg) ≤ x3 → (Q (sh, I, J, R) (some (.int (0 : Int32))))) ∧ (¬ (I (x0 + 25) x1.toNatClampNeg) ≤ x3 → (Q (sh, I, J, R) (some (.int (((((100 : Int32) * x3) + ((10 : Int32) * x4)) + x5)))))))) :
    rW γ l m_X9_after 0 0 56 [some (.ref x0), some (.int x1), none, some (.int x3), some (.int x4), some (.int x5)] [] (sh, I, J, R) Q := by
  obtain ⟨b1, t⟩ := t
  by_cases p0 : (I (x0 + 25) x1.toNatClampNeg) ≤ x3
  · have t := t.1 p0
    exact ⟨_, _, b_X9_after_56  h_x0 b1 (fun _ => ⟨rfl, rfl⟩) (fun y0 => absurd p0 y0), t⟩
  · have t := t.2 p0
    exact ⟨_, _, b_X9_after_56  h_x0 b1 (fun y0 => absurd y0 p0) (fun _ => ⟨rfl, rfl⟩), t⟩
abbrev s_X9_goesThrough_0 (γ : rG) (l : Launch) (x0 : Nat) (x1 : Int32) (h : rHeap) (Q : rHeap → Option Value → Prop) : Prop := rW γ l m_X9_goesThrough 0 0 0 [some (.ref x0), some (.int x1), none, none, none, none, none] [] h Q
theorem w_X9_goesThrough_0 {γ : rG} {l : Launch} {Q : rHeap → Option Value → Prop} {sh : Nat × (Nat → Nat) × (Nat → Nat)} {I : Nat → Nat → Int32} {J : Nat → Nat → Int64} {R : Nat → Nat → Option Nat} {x0 : Nat} {x1 : Int32}
    (h_x0 : At9 sh R x0)
    (t : ∃ (I1 : Nat → Nat → Int32), rMet γ l m_X9_flat [.ref x0, .int (17 : Int32)] (sh, I, J, R) (sh, I1, J, R) none ∧ (vp_in (0 : Int32) 4 ∧ ((x1 = 0 → (∃ (I11 : Nat → Nat → Int32), rMet γ l m_X9_rowEnds [.ref x0, .int (17 : Int32), .int (0 : Int32)] (sh, (up (up I1 (x0 + 43) (0 : Int32).toNatClampNeg (0 : Int32)) x0 68 x1), J, R) (sh, I11, J, R) none ∧ (Q (sh, I11, J, R) (none)))) ∧ (¬ x1 = 0 → (vp_in (17 : Int32) 22 ∧ ((((up (up I1 (x0 + 43) (0 : Int32).toNatClampNeg (0 : Int32)) x0 68 x1) (x0 + 25) (17 : Int32).toNatClampNeg) ≤ (1 : Int32) → (vp_in (0 : Int32) 4 ∧ (rW γ l m_X9_goesThrough 0 0 55 [some (.ref x0), some (.int x1), some (.int (0 : Int32)), none, none, none, none] [] (sh, (up (up (up I1 (x0 + 43) (0 : Int32).toNatClampNeg (0 : Int32)) x0 68 x1) (x0 + 44) (0 : Int32).toNatClampNeg (0 : Int32)), J, R) Q))) ∧ (¬ ((up (up I1 (x0 + 43) (0 : Int32).toNatClampNeg (0 : Int32)) x0 68 x1) (x0 + 25) (17 : Int32).toNatClampNeg) ≤ (1 : Int32) → (vp_in (0 : Int32) 4 ∧ (rW γ l m_X9_goesThrough 0 0 55 [some (.ref x0), some (.int x1), some (.int (0 : Int32)), none, none, none, none] [] (sh, (up (up (up I1 (x0 + 43) (0 : Int32).toNatClampNeg (0 : Int32)) x0 68 x1) (x0 + 44) (0 : Int32).toNatClampNeg (99 : Int32)), J, R) Q))))))))) :
    rW γ l m_X9_goesThrough 0 0 0 [some (.ref x0), some (.int x1), none, none, none, none, none] [] (sh, I, J, R) Q := by
  obtain ⟨I1, m2, t⟩ := t
  obtain ⟨b3, t⟩ := t
  by_cases p0 : x1 = 0
  · have t := t.1 p0
    obtain ⟨I11, m12, t⟩ := t
    exact ⟨_, _, b_X9_goesThrough_0  h_x0 m2 b3 (fun y0 => absurd p0 y0) (fun y0 _ => absurd p0 y0) (fun y0 _ => absurd p0 y0) (fun y0 _ => absurd p0 y0) (fun y0 _ => absurd p0 y0) (fun _ => m12) (fun _ => ⟨rfl, rfl⟩), t⟩
  · have t := t.2 p0
    obtain ⟨b5, t⟩ := t
    by_cases p1 : ((up (up I1 (x0 + 43) (0 : Int32).toNatClampNeg (0 : Int32)) x0 68 x1) (x0 + 25) (17 : Int32).toNatClampNeg) ≤ (1 : Int32)
    · have t := t.1 p1
      obtain ⟨b7, t⟩ := t
      obtain ⟨hf, r, t, q⟩ := t
      exact ⟨hf, r, b_X9_goesThrough_0 (I11 := I) h_x0 m2 b3 (fun _ => b5) (fun _ _ => b7) (fun _ _ => t) (fun _ y1 => absurd p1 y1) (fun _ y1 => absurd p1 y1) (fun y0 => absurd y0 p0) (fun y0 => absurd y0 p0), q⟩
    · have t := t.2 p1
      obtain ⟨b9, t⟩ := t
      obtain ⟨hf, r, t, q⟩ := t
      exact ⟨hf, r, b_X9_goesThrough_0 (I11 := I) h_x0 m2 b3 (fun _ => b5) (fun _ y1 => absurd y1 p1) (fun _ y1 => absurd y1 p1) (fun _ _ => b9) (fun _ _ => t) (fun y0 => absurd y0 p0) (fun y0 => absurd y0 p0), q⟩
abbrev s_X9_goesThrough_55 (γ : rG) (l : Launch) (x0 : Nat) (x1 : Int32) (x2 : Int32) (h : rHeap) (Q : rHeap → Option Value → Prop) : Prop := rW γ l m_X9_goesThrough 0 0 55 [some (.ref x0), some (.int x1), some (.int x2), none, none, none, none] [] h Q
theorem w_X9_goesThrough_55 {γ : rG} {l : Launch} {Q : rHeap → Option Value → Prop} {sh : Nat × (Nat → Nat) × (Nat → Nat)} {I : Nat → Nat → Int32} {J : Nat → Nat → Int64} {R : Nat → Nat → Option Nat} {x0 : Nat} {x1 : Int32} {x2 : Int32}
    (h_x0 : At9 sh R x0)
    (t : (x2 < 0 → (Q (sh, I, J, R) (none))) ∧ (¬ x2 < 0 → (vp_in x2 4 ∧ (((I (x0 + 44) x2.toNatClampNeg) = (99 : Int32) → (rW γ l m_X9_goesThrough 0 0 91 [some (.ref x0), some (.int x1), some (.int x2), some (.int ((17 : Int32) + x2)), none, none, none] [.int (100 : Int32)] (sh, I, J, R) Q)) ∧ (¬ (I (x0 + 44) x2.toNatClampNeg) = (99 : Int32) → (vp_in x2 4 ∧ (∃ (v7 : Int32), rMet γ l m_X9_after [.ref x0, .int ((17 : Int32) + x2), .int (I (x0 + 44) x2.toNatClampNeg)] (sh, I, J, R) (sh, I, J, R) (some (.int v7)) ∧ (rW γ l m_X9_goesThrough 0 0 91 [some (.ref x0), some (.int x1), some (.int x2), some (.int ((17 : Int32) + x2)), none, none, none] [.int v7] (sh, I, J, R) Q)))))))) :
    rW γ l m_X9_goesThrough 0 0 55 [some (.ref x0), some (.int x1), some (.int x2), none, none, none, none] [] (sh, I, J, R) Q := by
  by_cases p0 : x2 < 0
  · have t := t.1 p0
    exact ⟨_, _, b_X9_goesThrough_55 (v7 := 0) h_x0 (fun _ => ⟨rfl, rfl⟩) (fun y0 => absurd p0 y0) (fun y0 _ => absurd p0 y0) (fun y0 _ => absurd p0 y0) (fun y0 _ => absurd p0 y0) (fun y0 _ => absurd p0 y0), t⟩
  · have t := t.2 p0
    obtain ⟨b3, t⟩ := t
    by_cases p1 : (I (x0 + 44) x2.toNatClampNeg) = (99 : Int32)
    · have t := t.1 p1
      obtain ⟨hf, r, t, q⟩ := t
      exact ⟨hf, r, b_X9_goesThrough_55 (v7 := 0) h_x0 (fun y0 => absurd y0 p0) (fun _ => b3) (fun _ y1 => absurd p1 y1) (fun _ y1 => absurd p1 y1) (fun _ y1 => absurd p1 y1) (fun _ _ => t), q⟩
    · have t := t.2 p1
      obtain ⟨b5, t⟩ := t
      obtain ⟨v7, m6, t⟩ := t
      obtain ⟨hf, r, t, q⟩ := t
      exact ⟨hf, r, b_X9_goesThrough_55  h_x0 (fun y0 => absurd y0 p0) (fun _ => b3) (fun _ _ => b5) (fun _ _ => m6) (fun _ _ => t) (fun _ y1 => absurd y1 p1), q⟩
abbrev s_X9_goesThrough_91 (γ : rG) (l : Launch) (x0 : Nat) (x1 : Int32) (x2 : Int32) (x3 : Int32) (s0 : Int32) (h : rHeap) (Q : rHeap → Option Value → Prop) : Prop := rW γ l m_X9_goesThrough 0 0 91 [some (.ref x0), some (.int x1), some (.int x2), some (.int x3), none, none, none] [.int s0] h Q
theorem w_X9_goesThrough_91 {γ : rG} {l : Launch} {Q : rHeap → Option Value → Prop} {sh : Nat × (Nat → Nat) × (Nat → Nat)} {I : Nat → Nat → Int32} {J : Nat → Nat → Int64} {R : Nat → Nat → Option Nat} {x0 : Nat} {x1 : Int32} {x2 : Int32} {x3 : Int32} {s0 : Int32}
    (h_x0 : At9 sh R x0)
    (t : (s0 = 0 → (rW γ l m_X9_goesThrough 0 0 55 [some (.ref x0), some (.int x1), some (.int (x2 + (-1 : Int32))), none, none, none, none] [] (sh, I, J, R) Q)) ∧ (¬ s0 = 0 → (vp_in x3 22 ∧ (((2 : Int32) ≤ (I (x0 + 25) x3.toNatClampNeg) → (vp_in x2 4 ∧ (vp_in x2 4 ∧ ((((s0 / (10 : Int32)) - (s0 / (10 : Int32)) / (10 : Int32) * (10 : Int32)) = 0 → (rW γ l m_X9_goesThrough 0 0 161 [some (.ref x0), some (.int x1), some (.int x2), some (.int x3), none, some (.int (s0 - s0 / (10 : Int32) * (10 : Int32))), none] [.int (1 : Int32), .int (s0 / (100 : Int32)), .int (x3 + (1 : Int32)), .int x3, .ref x0, .int ((up I (x0 + 44) x2.toNatClampNeg s0) (x0 + 43) x2.toNatClampNeg)] (sh, (up I (x0 + 44) x2.toNatClampNeg s0), J, R) Q)) ∧ (¬ ((s0 / (10 : Int32)) - (s0 / (10 : Int32)) / (10 : Int32) * (10 : Int32)) = 0 → (rW γ l m_X9_goesThrough 0 0 161 [some (.ref x0), some (.int x1), some (.int x2), some (.int x3), none, some (.int (s0 - s0 / (10 : Int32) * (10 : Int32))), none] [.int (0 : Int32), .int (s0 / (100 : Int32)), .int (x3 + (1 : Int32)), .int x3, .ref x0, .int ((up I (x0 + 44) x2.toNatClampNeg s0) (x0 + 43) x2.toNatClampNeg)] (sh, (up I (x0 + 44) x2.toNatClampNeg s0), J, R) Q)))))) ∧ (¬ (2 : Int32) ≤ (I (x0 + 25) x3.toNatClampNeg) → (rW γ l m_X9_goesThrough 0 0 55 [some (.ref x0), some (.int x1), some (.int (x2 + (-1 : Int32))), none, none, none, none] [] (sh, I, J, R) Q)))))) :
    rW γ l m_X9_goesThrough 0 0 91 [some (.ref x0), some (.int x1), some (.int x2), some (.int x3), none, none, none] [.int s0] (sh, I, J, R) Q := by
  by_cases p0 : s0 = 0
  · have t := t.1 p0
    obtain ⟨hf, r, t, q⟩ := t
    exact ⟨hf, r, b_X9_goesThrough_91  h_x0 (fun _ => t) (fun y0 => absurd p0 y0) (fun y0 _ => absurd p0 y0) (fun y0 _ => absurd p0 y0) (fun y0 _ _ => absurd p0 y0) (fun y0 _ _ => absurd p0 y0) (fun y0 _ => absurd p0 y0), q⟩
  · have t := t.2 p0
    obtain ⟨b3, t⟩ := t
    by_cases p1 : (2 : Int32) ≤ (I (x0 + 25) x3.toNatClampNeg)
    · have t := t.1 p1
      obtain ⟨b5, t⟩ := t
      obtain ⟨b6, t⟩ := t
      by_cases p2 : ((s0 / (10 : Int32)) - (s0 / (10 : Int32)) / (10 : Int32) * (10 : Int32)) = 0
      · have t := t.1 p2
        obtain ⟨hf, r, t, q⟩ := t
        exact ⟨hf, r, b_X9_goesThrough_91  h_x0 (fun y0 => absurd y0 p0) (fun _ => b3) (fun _ _ => b5) (fun _ _ => b6) (fun _ _ y2 => absurd p2 y2) (fun _ _ _ => t) (fun _ y1 => absurd p1 y1), q⟩
      · have t := t.2 p2
        obtain ⟨hf, r, t, q⟩ := t
        exact ⟨hf, r, b_X9_goesThrough_91  h_x0 (fun y0 => absurd y0 p0) (fun _ => b3) (fun _ _ => b5) (fun _ _ => b6) (fun _ _ _ => t) (fun _ _ y2 => absurd y2 p2) (fun _ y1 => absurd p1 y1), q⟩
    · have t := t.2 p1
      obtain ⟨hf, r, t, q⟩ := t
      exact ⟨hf, r, b_X9_goesThrough_91  h_x0 (fun y0 => absurd y0 p0) (fun _ => b3) (fun _ y1 => absurd y1 p1) (fun _ y1 => absurd y1 p1) (fun _ y1 _ => absurd y1 p1) (fun _ y1 _ => absurd y1 p1) (fun _ _ => t), q⟩
abbrev s_X9_goesThrough_161 (γ : rG) (l : Launch) (x0 : Nat) (x1 : Int32) (x2 : Int32) (x3 : Int32) (x5 : Int32) (s0 : Int32) (s1 : Int32) (s2 : Int32) (s3 : Int32) (s4 : Nat) (s5 : Int32) (h : rHeap) (Q : rHeap → Option Value → Prop) : Prop := rW γ l m_X9_goesThrough 0 0 161 [some (.ref x0), some (.int x1), some (.int x2), some (.int x3), none, some (.int x5), none] [.int s0, .int s1, .int s2, .int s3, .ref s4, .int s5] h Q
theorem w_X9_goesThrough_161 {γ : rG} {l : Launch} {Q : rHeap → Option Value → Prop} {sh : Nat × (Nat → Nat) × (Nat → Nat)} {I : Nat → Nat → Int32} {J : Nat → Nat → Int64} {R : Nat → Nat → Option Nat} {x0 : Nat} {x1 : Int32} {x2 : Int32} {x3 : Int32} {x5 : Int32} {s0 : Int32} {s1 : Int32} {s2 : Int32} {s3 : Int32} {s4 : Nat} {s5 : Int32}
    (h_x0 : At9 sh R x0)
    (h_s4 : At9 sh R s4)
    (t : ((2 : Int32) ≤ x5 → (rW γ l m_X9_goesThrough 0 0 176 [some (.ref x0), some (.int x1), some (.int x2), some (.int x3), none, some (.int x5), none] [.int (x5 + (1 : Int32)), .int s0, .int s1, .int s2, .int s3, .ref s4, .int s5] (sh, I, J, R) Q)) ∧ (¬ (2 : Int32) ≤ x5 → (rW γ l m_X9_goesThrough 0 0 176 [some (.ref x0), some (.int x1), some (.int x2), some (.int x3), none, some (.int x5), none] [.int x5, .int s0, .int s1, .int s2, .int s3, .ref s4, .int s5] (sh, I, J, R) Q))) :
    rW γ l m_X9_goesThrough 0 0 161 [some (.ref x0), some (.int x1), some (.int x2), some (.int x3), none, some (.int x5), none] [.int s0, .int s1, .int s2, .int s3, .ref s4, .int s5] (sh, I, J, R) Q := by
  by_cases p0 : (2 : Int32) ≤ x5
  · have t := t.1 p0
    obtain ⟨hf, r, t, q⟩ := t
    exact ⟨hf, r, b_X9_goesThrough_161  h_x0 h_s4 (fun _ => t) (fun y0 => absurd p0 y0), q⟩
  · have t := t.2 p0
    obtain ⟨hf, r, t, q⟩ := t
    exact ⟨hf, r, b_X9_goesThrough_161  h_x0 h_s4 (fun y0 => absurd y0 p0) (fun _ => t), q⟩
abbrev s_X9_goesThrough_176 (γ : rG) (l : Launch) (x0 : Nat) (x1 : Int32) (x2 : Int32) (x3 : Int32) (x5 : Int32) (s0 : Int32) (s1 : Int32) (s2 : Int32) (s3 : Int32) (s4 : Int32) (s5 : Nat) (s6 : Int32) (h : rHeap) (Q : rHeap → Option Value → Prop) : Prop := rW γ l m_X9_goesThrough 0 0 176 [some (.ref x0), some (.int x1), some (.int x2), some (.int x3), none, some (.int x5), none] [.int s0, .int s1, .int s2, .int s3, .int s4, .ref s5, .int s6] h Q
theorem w_X9_goesThrough_176 {γ : rG} {l : Launch} {Q : rHeap → Option Value → Prop} {sh : Nat × (Nat → Nat) × (Nat → Nat)} {I : Nat → Nat → Int32} {J : Nat → Nat → Int64} {R : Nat → Nat → Option Nat} {x0 : Nat} {x1 : Int32} {x2 : Int32} {x3 : Int32} {x5 : Int32} {s0 : Int32} {s1 : Int32} {s2 : Int32} {s3 : Int32} {s4 : Int32} {s5 : Nat} {s6 : Int32}
    (h_x0 : At9 sh R x0)
    (h_s5 : At9 sh R s5)
    (t : ∃ (I1 : Nat → Nat → Int32) (v3 : Int32), rMet γ l m_X9_folds [.ref s5, .int s4, .int s3, .int s2, .int s1, .int s0] (sh, I, J, R) (sh, I1, J, R) (some (.int v3)) ∧ ((x5 ≤ (1 : Int32) → (rW γ l m_X9_goesThrough 0 0 198 [some (.ref x0), some (.int x1), some (.int x2), some (.int x3), none, none, some (.int (s6 ||| v3))] [] (sh, I1, J, R) Q)) ∧ (¬ x5 ≤ (1 : Int32) → (∃ (v7 : Int32), rMet γ l m_X9_mayBe [.ref x0, .int (x3 + (1 : Int32))] (sh, I1, J, R) (sh, I1, J, R) (some (.int v7)) ∧ ((v7 = 0 → (rW γ l m_X9_goesThrough 0 0 55 [some (.ref x0), some (.int x1), some (.int x2), none, none, none, none] [] (sh, I1, J, R) Q)) ∧ (¬ v7 = 0 → (rW γ l m_X9_goesThrough 0 0 198 [some (.ref x0), some (.int x1), some (.int x2), some (.int x3), none, none, some (.int (s6 ||| v3))] [] (sh, I1, J, R) Q))))))) :
    rW γ l m_X9_goesThrough 0 0 176 [some (.ref x0), some (.int x1), some (.int x2), some (.int x3), none, some (.int x5), none] [.int s0, .int s1, .int s2, .int s3, .int s4, .ref s5, .int s6] (sh, I, J, R) Q := by
  obtain ⟨I1, v3, m2, t⟩ := t
  by_cases p0 : x5 ≤ (1 : Int32)
  · have t := t.1 p0
    obtain ⟨hf, r, t, q⟩ := t
    exact ⟨hf, r, b_X9_goesThrough_176 (v7 := 0) h_x0 h_s5 m2 (fun _ => t) (fun y0 => absurd p0 y0) (fun y0 _ => absurd p0 y0) (fun y0 _ => absurd p0 y0), q⟩
  · have t := t.2 p0
    obtain ⟨v7, m6, t⟩ := t
    by_cases p1 : v7 = 0
    · have t := t.1 p1
      obtain ⟨hf, r, t, q⟩ := t
      exact ⟨hf, r, b_X9_goesThrough_176  h_x0 h_s5 m2 (fun y0 => absurd y0 p0) (fun _ => m6) (fun _ _ => t) (fun _ y1 => absurd p1 y1), q⟩
    · have t := t.2 p1
      obtain ⟨hf, r, t, q⟩ := t
      exact ⟨hf, r, b_X9_goesThrough_176  h_x0 h_s5 m2 (fun y0 => absurd y0 p0) (fun _ => m6) (fun _ y1 => absurd y1 p1) (fun _ _ => t), q⟩
abbrev s_X9_goesThrough_198 (γ : rG) (l : Launch) (x0 : Nat) (x1 : Int32) (x2 : Int32) (x3 : Int32) (x6 : Int32) (h : rHeap) (Q : rHeap → Option Value → Prop) : Prop := rW γ l m_X9_goesThrough 0 0 198 [some (.ref x0), some (.int x1), some (.int x2), some (.int x3), none, none, some (.int x6)] [] h Q
theorem w_X9_goesThrough_198 {γ : rG} {l : Launch} {Q : rHeap → Option Value → Prop} {sh : Nat × (Nat → Nat) × (Nat → Nat)} {I : Nat → Nat → Int32} {J : Nat → Nat → Int64} {R : Nat → Nat → Option Nat} {x0 : Nat} {x1 : Int32} {x2 : Int32} {x3 : Int32} {x6 : Int32}
    (h_x0 : At9 sh R x0)
    (t : (((x6 &&& (I x0 64)) &&& ((I x0 65) ^^^ (-1 : Int32))) = 0 → (((x2 + (1 : Int32)) = x1 → (∃ (I6 : Nat → Nat → Int32), rMet γ l m_X9_rowEnds [.ref x0, .int (x3 + (1 : Int32)), .int x6] (sh, I, J, R) (sh, I6, J, R) none ∧ (rW γ l m_X9_goesThrough 0 0 55 [some (.ref x0), some (.int x1), some (.int x2), none, none, none, none] [] (sh, I6, J, R) Q))) ∧ (¬ (x2 + (1 : Int32)) = x1 → (vp_in ((x2 + (1 : Int32))) 4 ∧ (vp_in ((x2 + (1 : Int32))) 4 ∧ (rW γ l m_X9_goesThrough 0 0 55 [some (.ref x0), some (.int x1), some (.int (x2 + (1 : Int32))), none, none, none, none] [] (sh, (up (up I (x0 + 43) ((x2 + (1 : Int32))).toNatClampNeg x6) (x0 + 44) ((x2 + (1 : Int32))).toNatClampNeg (99 : Int32)), J, R) Q)))))) ∧ (¬ ((x6 &&& (I x0 64)) &&& ((I x0 65) ^^^ (-1 : Int32))) = 0 → (rW γ l m_X9_goesThrough 0 0 55 [some (.ref x0), some (.int x1), some (.int x2), none, none, none, none] [] (sh, I, J, R) Q))) :
    rW γ l m_X9_goesThrough 0 0 198 [some (.ref x0), some (.int x1), some (.int x2), some (.int x3), none, none, some (.int x6)] [] (sh, I, J, R) Q := by
  by_cases p0 : ((x6 &&& (I x0 64)) &&& ((I x0 65) ^^^ (-1 : Int32))) = 0
  · have t := t.1 p0
    by_cases p1 : (x2 + (1 : Int32)) = x1
    · have t := t.1 p1
      obtain ⟨I6, m7, t⟩ := t
      obtain ⟨hf, r, t, q⟩ := t
      exact ⟨hf, r, b_X9_goesThrough_198  h_x0 (fun _ y1 => absurd p1 y1) (fun _ y1 => absurd p1 y1) (fun _ y1 => absurd p1 y1) (fun _ _ => m7) (fun _ _ => t) (fun y0 => absurd p0 y0), q⟩
    · have t := t.2 p1
      obtain ⟨b3, t⟩ := t
      obtain ⟨b4, t⟩ := t
      obtain ⟨hf, r, t, q⟩ := t
      exact ⟨hf, r, b_X9_goesThrough_198 (I6 := I) h_x0 (fun _ _ => b3) (fun _ _ => b4) (fun _ _ => t) (fun _ y1 => absurd y1 p1) (fun _ y1 => absurd y1 p1) (fun y0 => absurd p0 y0), q⟩
  · have t := t.2 p0
    obtain ⟨hf, r, t, q⟩ := t
    exact ⟨hf, r, b_X9_goesThrough_198 (I6 := I) h_x0 (fun y0 _ => absurd y0 p0) (fun y0 _ => absurd y0 p0) (fun y0 _ => absurd y0 p0) (fun y0 _ => absurd y0 p0) (fun y0 _ => absurd y0 p0) (fun _ => t), q⟩
abbrev s_X9_rowEnds_0 (γ : rG) (l : Launch) (x0 : Nat) (x1 : Int32) (x2 : Int32) (h : rHeap) (Q : rHeap → Option Value → Prop) : Prop := rW γ l m_X9_rowEnds 0 0 0 [some (.ref x0), some (.int x1), some (.int x2), none, none, none, none] [] h Q
theorem w_X9_rowEnds_0 {γ : rG} {l : Launch} {Q : rHeap → Option Value → Prop} {sh : Nat × (Nat → Nat) × (Nat → Nat)} {I : Nat → Nat → Int32} {J : Nat → Nat → Int64} {R : Nat → Nat → Option Nat} {x0 : Nat} {x1 : Int32} {x2 : Int32}
    (h_x0 : At9 sh R x0)
    (t : vp_in x2 16384 ∧ (((x2 &&& ((up I (x0 + 42) x2.toNatClampNeg (vp_nar .boolean (1 : Int32))) x0 64)) = ((up I (x0 + 42) x2.toNatClampNeg (vp_nar .boolean (1 : Int32))) x0 65) → (∃ (v4 : Int32), rMet γ l m_X9_outer [.ref x0, .int x1] (sh, (up I (x0 + 42) x2.toNatClampNeg (vp_nar .boolean (1 : Int32))), J, R) (sh, (up I (x0 + 42) x2.toNatClampNeg (vp_nar .boolean (1 : Int32))), J, R) (some (.int v4)) ∧ (∃ (I5 : Nat → Nat → Int32), rMet γ l m_X9_fits [.ref x0, .int (0 : Int32), .int (0 : Int32), .int (0 : Int32), .int (0 : Int32)] (sh, (up I (x0 + 42) x2.toNatClampNeg (vp_nar .boolean (1 : Int32))), J, R) (sh, I5, J, R) none ∧ (∃ (I7 : Nat → Nat → Int32), rMet γ l m_X9_fits [.ref x0, .int (0 : Int32), .int (0 : Int32), .int (2000 : Int32), .int v4] (sh, I5, J, R) (sh, I7, J, R) none ∧ (rW γ l m_X9_rowEnds 0 0 48 [some (.ref x0), some (.int x1), none, some (.int v4), some (.int (0 : Int32)), none, none] [] (sh, I7, J, R) Q))))) ∧ (¬ (x2 &&& ((up I (x0 + 42) x2.toNatClampNeg (vp_nar .boolean (1 : Int32))) x0 64)) = ((up I (x0 + 42) x2.toNatClampNeg (vp_nar .boolean (1 : Int32))) x0 65) → (Q (sh, (up I (x0 + 42) x2.toNatClampNeg (vp_nar .boolean (1 : Int32))), J, R) (none))))) :
    rW γ l m_X9_rowEnds 0 0 0 [some (.ref x0), some (.int x1), some (.int x2), none, none, none, none] [] (sh, I, J, R) Q := by
  obtain ⟨b1, t⟩ := t
  by_cases p0 : (x2 &&& ((up I (x0 + 42) x2.toNatClampNeg (vp_nar .boolean (1 : Int32))) x0 64)) = ((up I (x0 + 42) x2.toNatClampNeg (vp_nar .boolean (1 : Int32))) x0 65)
  · have t := t.1 p0
    obtain ⟨v4, m3, t⟩ := t
    obtain ⟨I5, m6, t⟩ := t
    obtain ⟨I7, m8, t⟩ := t
    obtain ⟨hf, r, t, q⟩ := t
    exact ⟨hf, r, b_X9_rowEnds_0  h_x0 b1 (fun _ => m3) (fun _ => m6) (fun _ => m8) (fun _ => t) (fun y0 => absurd p0 y0), q⟩
  · have t := t.2 p0
    exact ⟨_, _, b_X9_rowEnds_0 (v4 := 0) (I5 := I) (I7 := I) h_x0 b1 (fun y0 => absurd y0 p0) (fun y0 => absurd y0 p0) (fun y0 => absurd y0 p0) (fun y0 => absurd y0 p0) (fun _ => ⟨rfl, rfl⟩), t⟩
abbrev s_X9_rowEnds_48 (γ : rG) (l : Launch) (x0 : Nat) (x1 : Int32) (x3 : Int32) (x4 : Int32) (h : rHeap) (Q : rHeap → Option Value → Prop) : Prop := rW γ l m_X9_rowEnds 0 0 48 [some (.ref x0), some (.int x1), none, some (.int x3), some (.int x4), none, none] [] h Q
theorem w_X9_rowEnds_48 {γ : rG} {l : Launch} {Q : rHeap → Option Value → Prop} {sh : Nat × (Nat → Nat) × (Nat → Nat)} {I : Nat → Nat → Int32} {J : Nat → Nat → Int64} {R : Nat → Nat → Option Nat} {x0 : Nat} {x1 : Int32} {x3 : Int32} {x4 : Int32}
    (h_x0 : At9 sh R x0)
    (t : vp_in x1 22 ∧ (((I (x0 + 25) x1.toNatClampNeg) ≤ x4 → (Q (sh, I, J, R) (none))) ∧ (¬ (I (x0 + 25) x1.toNatClampNeg) ≤ x4 → (rW γ l m_X9_rowEnds 0 0 62 [some (.ref x0), some (.int x1), none, some (.int x3), some (.int x4), some (.int (1 : Int32)), none] [] (sh, I, J, R) Q)))) :
    rW γ l m_X9_rowEnds 0 0 48 [some (.ref x0), some (.int x1), none, some (.int x3), some (.int x4), none, none] [] (sh, I, J, R) Q := by
  obtain ⟨b1, t⟩ := t
  by_cases p0 : (I (x0 + 25) x1.toNatClampNeg) ≤ x4
  · have t := t.1 p0
    exact ⟨_, _, b_X9_rowEnds_48  h_x0 b1 (fun _ => ⟨rfl, rfl⟩) (fun y0 => absurd p0 y0), t⟩
  · have t := t.2 p0
    obtain ⟨hf, r, t, q⟩ := t
    exact ⟨hf, r, b_X9_rowEnds_48  h_x0 b1 (fun y0 => absurd y0 p0) (fun _ => t), q⟩
abbrev s_X9_rowEnds_62 (γ : rG) (l : Launch) (x0 : Nat) (x1 : Int32) (x3 : Int32) (x4 : Int32) (x5 : Int32) (h : rHeap) (Q : rHeap → Option Value → Prop) : Prop := rW γ l m_X9_rowEnds 0 0 62 [some (.ref x0), some (.int x1), none, some (.int x3), some (.int x4), some (.int x5), none] [] h Q
theorem w_X9_rowEnds_62 {γ : rG} {l : Launch} {Q : rHeap → Option Value → Prop} {sh : Nat × (Nat → Nat) × (Nat → Nat)} {I : Nat → Nat → Int32} {J : Nat → Nat → Int64} {R : Nat → Nat → Option Nat} {x0 : Nat} {x1 : Int32} {x3 : Int32} {x4 : Int32} {x5 : Int32}
    (h_x0 : At9 sh R x0)
    (t : ∃ (v2 : Int32), rMet γ l m_X9_layersOf [.ref x0, .int x1, .int x4] (sh, I, J, R) (sh, I, J, R) (some (.int v2)) ∧ ((v2 < x5 → (rW γ l m_X9_rowEnds 0 0 48 [some (.ref x0), some (.int x1), none, some (.int x3), some (.int (x4 + (1 : Int32))), none, none] [] (sh, I, J, R) Q)) ∧ (¬ v2 < x5 → (∃ (v6 : Int32), rMet γ l m_X9_highest [.ref x0, .int x1, .int x4, .int x5] (sh, I, J, R) (sh, I, J, R) (some (.int v6)) ∧ (∃ (I7 : Nat → Nat → Int32), rMet γ l m_X9_fits [.ref x0, .int (((1000 : Int32) + ((10 : Int32) * x4)) + x5), .int v6, .int (0 : Int32), .int (0 : Int32)] (sh, I, J, R) (sh, I7, J, R) none ∧ (∃ (I9 : Nat → Nat → Int32), rMet γ l m_X9_fits [.ref x0, .int (((1000 : Int32) + ((10 : Int32) * x4)) + x5), .int v6, .int (2000 : Int32), .int x3] (sh, I7, J, R) (sh, I9, J, R) none ∧ (rW γ l m_X9_rowEnds 0 0 62 [some (.ref x0), some (.int x1), none, some (.int x3), some (.int x4), some (.int (x5 + (1 : Int32))), none] [] (sh, I9, J, R) Q))))))) :
    rW γ l m_X9_rowEnds 0 0 62 [some (.ref x0), some (.int x1), none, some (.int x3), some (.int x4), some (.int x5), none] [] (sh, I, J, R) Q := by
  obtain ⟨v2, m1, t⟩ := t
  by_cases p0 : v2 < x5
  · have t := t.1 p0
    obtain ⟨hf, r, t, q⟩ := t
    exact ⟨hf, r, b_X9_rowEnds_62 (v6 := 0) (I7 := I) (I9 := I) h_x0 m1 (fun _ => t) (fun y0 => absurd p0 y0) (fun y0 => absurd p0 y0) (fun y0 => absurd p0 y0) (fun y0 => absurd p0 y0), q⟩
  · have t := t.2 p0
    obtain ⟨v6, m5, t⟩ := t
    obtain ⟨I7, m8, t⟩ := t
    obtain ⟨I9, m10, t⟩ := t
    obtain ⟨hf, r, t, q⟩ := t
    exact ⟨hf, r, b_X9_rowEnds_62  h_x0 m1 (fun y0 => absurd y0 p0) (fun _ => m5) (fun _ => m8) (fun _ => m10) (fun _ => t), q⟩
abbrev s_X9_fits_0 (γ : rG) (l : Launch) (x0 : Nat) (x1 : Int32) (x2 : Int32) (x3 : Int32) (x4 : Int32) (h : rHeap) (Q : rHeap → Option Value → Prop) : Prop := rW γ l m_X9_fits 0 0 0 [some (.ref x0), some (.int x1), some (.int x2), some (.int x3), some (.int x4), none] [] h Q
theorem w_X9_fits_0 {γ : rG} {l : Launch} {Q : rHeap → Option Value → Prop} {sh : Nat × (Nat → Nat) × (Nat → Nat)} {I : Nat → Nat → Int32} {J : Nat → Nat → Int64} {R : Nat → Nat → Option Nat} {x0 : Nat} {x1 : Int32} {x2 : Int32} {x3 : Int32} {x4 : Int32}
    (h_x0 : At9 sh R x0)
    (t : rW γ l m_X9_fits 0 0 3 [some (.ref x0), some (.int x1), some (.int x2), some (.int x3), some (.int x4), some (.int (0 : Int32))] [] (sh, I, J, R) Q) :
    rW γ l m_X9_fits 0 0 0 [some (.ref x0), some (.int x1), some (.int x2), some (.int x3), some (.int x4), none] [] (sh, I, J, R) Q := by
  obtain ⟨hf, r, t, q⟩ := t
  exact ⟨hf, r, b_X9_fits_0  h_x0 t, q⟩
abbrev s_X9_fits_3 (γ : rG) (l : Launch) (x0 : Nat) (x1 : Int32) (x2 : Int32) (x3 : Int32) (x4 : Int32) (x5 : Int32) (h : rHeap) (Q : rHeap → Option Value → Prop) : Prop := rW γ l m_X9_fits 0 0 3 [some (.ref x0), some (.int x1), some (.int x2), some (.int x3), some (.int x4), some (.int x5)] [] h Q
theorem w_X9_fits_3 {γ : rG} {l : Launch} {Q : rHeap → Option Value → Prop} {sh : Nat × (Nat → Nat) × (Nat → Nat)} {I : Nat → Nat → Int32} {J : Nat → Nat → Int64} {R : Nat → Nat → Option Nat} {x0 : Nat} {x1 : Int32} {x2 : Int32} {x3 : Int32} {x4 : Int32} {x5 : Int32}
    (h_x0 : At9 sh R x0)
    (t : ((I x0 39) ≤ x5 → (rW γ l m_X9_fits 0 0 49 [some (.ref x0), some (.int x1), none, some (.int x3), some (.int x4), some (.int (0 : Int32))] [] (sh, I, J, R) Q)) ∧ (¬ (I x0 39) ≤ x5 → (vp_in x5 8 ∧ (((I (x0 + 39) x5.toNatClampNeg) = (-1 : Int32) → (rW γ l m_X9_fits 0 0 3 [some (.ref x0), some (.int x1), some (.int x2), some (.int x3), some (.int x4), some (.int (x5 + (1 : Int32)))] [] (sh, I, J, R) Q)) ∧ (¬ (I (x0 + 39) x5.toNatClampNeg) = (-1 : Int32) → (vp_in x5 8 ∧ (((I (x0 + 39) x5.toNatClampNeg) = ((x2 >>> (x5 &&& 31)) &&& (1 : Int32)) → (rW γ l m_X9_fits 0 0 3 [some (.ref x0), some (.int x1), some (.int x2), some (.int x3), some (.int x4), some (.int (x5 + (1 : Int32)))] [] (sh, I, J, R) Q)) ∧ (¬ (I (x0 + 39) x5.toNatClampNeg) = ((x2 >>> (x5 &&& 31)) &&& (1 : Int32)) → (Q (sh, I, J, R) (none)))))))))) :
    rW γ l m_X9_fits 0 0 3 [some (.ref x0), some (.int x1), some (.int x2), some (.int x3), some (.int x4), some (.int x5)] [] (sh, I, J, R) Q := by
  by_cases p0 : (I x0 39) ≤ x5
  · have t := t.1 p0
    obtain ⟨hf, r, t, q⟩ := t
    exact ⟨hf, r, b_X9_fits_3  h_x0 (fun _ => t) (fun y0 => absurd p0 y0) (fun y0 _ => absurd p0 y0) (fun y0 _ => absurd p0 y0) (fun y0 _ _ => absurd p0 y0) (fun y0 _ _ => absurd p0 y0), q⟩
  · have t := t.2 p0
    obtain ⟨b3, t⟩ := t
    by_cases p1 : (I (x0 + 39) x5.toNatClampNeg) = (-1 : Int32)
    · have t := t.1 p1
      obtain ⟨hf, r, t, q⟩ := t
      exact ⟨hf, r, b_X9_fits_3  h_x0 (fun y0 => absurd y0 p0) (fun _ => b3) (fun _ _ => t) (fun _ y1 => absurd p1 y1) (fun _ y1 _ => absurd p1 y1) (fun _ y1 _ => absurd p1 y1), q⟩
    · have t := t.2 p1
      obtain ⟨b6, t⟩ := t
      by_cases p2 : (I (x0 + 39) x5.toNatClampNeg) = ((x2 >>> (x5 &&& 31)) &&& (1 : Int32))
      · have t := t.1 p2
        obtain ⟨hf, r, t, q⟩ := t
        exact ⟨hf, r, b_X9_fits_3  h_x0 (fun y0 => absurd y0 p0) (fun _ => b3) (fun _ y1 => absurd y1 p1) (fun _ _ => b6) (fun _ _ _ => t) (fun _ _ y2 => absurd p2 y2), q⟩
      · have t := t.2 p2
        exact ⟨_, _, b_X9_fits_3  h_x0 (fun y0 => absurd y0 p0) (fun _ => b3) (fun _ y1 => absurd y1 p1) (fun _ _ => b6) (fun _ _ y2 => absurd y2 p2) (fun _ _ _ => ⟨rfl, rfl⟩), t⟩
abbrev s_X9_fits_49 (γ : rG) (l : Launch) (x0 : Nat) (x1 : Int32) (x3 : Int32) (x4 : Int32) (x5 : Int32) (h : rHeap) (Q : rHeap → Option Value → Prop) : Prop := rW γ l m_X9_fits 0 0 49 [some (.ref x0), some (.int x1), none, some (.int x3), some (.int x4), some (.int x5)] [] h Q
theorem w_X9_fits_49 {γ : rG} {l : Launch} {Q : rHeap → Option Value → Prop} {sh : Nat × (Nat → Nat) × (Nat → Nat)} {I : Nat → Nat → Int32} {J : Nat → Nat → Int64} {R : Nat → Nat → Option Nat} {x0 : Nat} {x1 : Int32} {x3 : Int32} {x4 : Int32} {x5 : Int32}
    (h_x0 : At9 sh R x0)
    (t : (((2 : Int32) * (I x0 39)) ≤ x5 → ((((up I x0 60 (((I x0 60) + (1 : Int32)))) x0 61) = (-1 : Int32) → (rW γ l m_X9_fits 0 0 122 [some (.ref x0), some (.int x1), none, some (.int x3), none, some (.int (0 : Int32))] [] (sh, (up (up I x0 60 (((I x0 60) + (1 : Int32)))) x0 61 (0 : Int32)), J, R) Q)) ∧ (¬ ((up I x0 60 (((I x0 60) + (1 : Int32)))) x0 61) = (-1 : Int32) → (Q (sh, (up I x0 60 (((I x0 60) + (1 : Int32)))), J, R) (none))))) ∧ (¬ ((2 : Int32) * (I x0 39)) ≤ x5 → (vp_in x5 16 ∧ (((I (x0 + 40) x5.toNatClampNeg) = (-1 : Int32) → (rW γ l m_X9_fits 0 0 49 [some (.ref x0), some (.int x1), none, some (.int x3), some (.int x4), some (.int (x5 + (1 : Int32)))] [] (sh, I, J, R) Q)) ∧ (¬ (I (x0 + 40) x5.toNatClampNeg) = (-1 : Int32) → (vp_in x5 16 ∧ (((I (x0 + 40) x5.toNatClampNeg) = ((x4 >>> (x5 &&& 31)) &&& (1 : Int32)) → (rW γ l m_X9_fits 0 0 49 [some (.ref x0), some (.int x1), none, some (.int x3), some (.int x4), some (.int (x5 + (1 : Int32)))] [] (sh, I, J, R) Q)) ∧ (¬ (I (x0 + 40) x5.toNatClampNeg) = ((x4 >>> (x5 &&& 31)) &&& (1 : Int32)) → (Q (sh, I, J, R) (none)))))))))) :
    rW γ l m_X9_fits 0 0 49 [some (.ref x0), some (.int x1), none, some (.int x3), some (.int x4), some (.int x5)] [] (sh, I, J, R) Q := by
  by_cases p0 : ((2 : Int32) * (I x0 39)) ≤ x5
  · have t := t.1 p0
    by_cases p1 : ((up I x0 60 (((I x0 60) + (1 : Int32)))) x0 61) = (-1 : Int32)
    · have t := t.1 p1
      obtain ⟨hf, r, t, q⟩ := t
      exact ⟨hf, r, b_X9_fits_49  h_x0 (fun _ _ => t) (fun _ y1 => absurd p1 y1) (fun y0 => absurd p0 y0) (fun y0 _ => absurd p0 y0) (fun y0 _ => absurd p0 y0) (fun y0 _ _ => absurd p0 y0) (fun y0 _ _ => absurd p0 y0), q⟩
    · have t := t.2 p1
      exact ⟨_, _, b_X9_fits_49  h_x0 (fun _ y1 => absurd y1 p1) (fun _ _ => ⟨rfl, rfl⟩) (fun y0 => absurd p0 y0) (fun y0 _ => absurd p0 y0) (fun y0 _ => absurd p0 y0) (fun y0 _ _ => absurd p0 y0) (fun y0 _ _ => absurd p0 y0), t⟩
  · have t := t.2 p0
    obtain ⟨b5, t⟩ := t
    by_cases p1 : (I (x0 + 40) x5.toNatClampNeg) = (-1 : Int32)
    · have t := t.1 p1
      obtain ⟨hf, r, t, q⟩ := t
      exact ⟨hf, r, b_X9_fits_49  h_x0 (fun y0 _ => absurd y0 p0) (fun y0 _ => absurd y0 p0) (fun _ => b5) (fun _ _ => t) (fun _ y1 => absurd p1 y1) (fun _ y1 _ => absurd p1 y1) (fun _ y1 _ => absurd p1 y1), q⟩
    · have t := t.2 p1
      obtain ⟨b8, t⟩ := t
      by_cases p2 : (I (x0 + 40) x5.toNatClampNeg) = ((x4 >>> (x5 &&& 31)) &&& (1 : Int32))
      · have t := t.1 p2
        obtain ⟨hf, r, t, q⟩ := t
        exact ⟨hf, r, b_X9_fits_49  h_x0 (fun y0 _ => absurd y0 p0) (fun y0 _ => absurd y0 p0) (fun _ => b5) (fun _ y1 => absurd y1 p1) (fun _ _ => b8) (fun _ _ _ => t) (fun _ _ y2 => absurd p2 y2), q⟩
      · have t := t.2 p2
        exact ⟨_, _, b_X9_fits_49  h_x0 (fun y0 _ => absurd y0 p0) (fun y0 _ => absurd y0 p0) (fun _ => b5) (fun _ y1 => absurd y1 p1) (fun _ _ => b8) (fun _ _ y2 => absurd y2 p2) (fun _ _ _ => ⟨rfl, rfl⟩), t⟩
abbrev s_X9_fits_122 (γ : rG) (l : Launch) (x0 : Nat) (x1 : Int32) (x3 : Int32) (x5 : Int32) (h : rHeap) (Q : rHeap → Option Value → Prop) : Prop := rW γ l m_X9_fits 0 0 122 [some (.ref x0), some (.int x1), none, some (.int x3), none, some (.int x5)] [] h Q
theorem w_X9_fits_122 {γ : rG} {l : Launch} {Q : rHeap → Option Value → Prop} {sh : Nat × (Nat → Nat) × (Nat → Nat)} {I : Nat → Nat → Int32} {J : Nat → Nat → Int64} {R : Nat → Nat → Option Nat} {x0 : Nat} {x1 : Int32} {x3 : Int32} {x5 : Int32}
    (h_x0 : At9 sh R x0)
    (t : ((I x0 68) ≤ x5 → ((x1 ≤ 0 → ((x3 ≤ 0 → (Q (sh, I, J, R) (none))) ∧ (¬ x3 ≤ 0 → (∃ (I5 : Nat → Nat → Int32), rMet γ l m_X9_tells [.ref x0, .int x3] (sh, I, J, R) (sh, I5, J, R) none ∧ (Q (sh, I5, J, R) (none)))))) ∧ (¬ x1 ≤ 0 → (∃ (I8 : Nat → Nat → Int32), rMet γ l m_X9_tells [.ref x0, .int x1] (sh, I, J, R) (sh, I8, J, R) none ∧ ((x3 ≤ 0 → (Q (sh, I8, J, R) (none))) ∧ (¬ x3 ≤ 0 → (∃ (I12 : Nat → Nat → Int32), rMet γ l m_X9_tells [.ref x0, .int x3] (sh, I8, J, R) (sh, I12, J, R) none ∧ (Q (sh, I12, J, R) (none))))))))) ∧ (¬ (I x0 68) ≤ x5 → (vp_in x5 4 ∧ (∃ (I16 : Nat → Nat → Int32), rMet γ l m_X9_tells [.ref x0, .int (I (x0 + 44) x5.toNatClampNeg)] (sh, I, J, R) (sh, I16, J, R) none ∧ (rW γ l m_X9_fits 0 0 122 [some (.ref x0), some (.int x1), none, some (.int x3), none, some (.int (x5 + (1 : Int32)))] [] (sh, I16, J, R) Q))))) :
    rW γ l m_X9_fits 0 0 122 [some (.ref x0), some (.int x1), none, some (.int x3), none, some (.int x5)] [] (sh, I, J, R) Q := by
  by_cases p0 : (I x0 68) ≤ x5
  · have t := t.1 p0
    by_cases p1 : x1 ≤ 0
    · have t := t.1 p1
      by_cases p2 : x3 ≤ 0
      · have t := t.1 p2
        exact ⟨_, _, b_X9_fits_122 (I5 := I) (I8 := I) (I12 := I) (I16 := I) h_x0 (fun _ _ _ => ⟨rfl, rfl⟩) (fun _ _ y2 => absurd p2 y2) (fun _ _ y2 => absurd p2 y2) (fun _ y1 => absurd p1 y1) (fun _ y1 _ => absurd p1 y1) (fun _ y1 _ => absurd p1 y1) (fun _ y1 _ => absurd p1 y1) (fun y0 => absurd p0 y0) (fun y0 => absurd p0 y0) (fun y0 => absurd p0 y0), t⟩
      · have t := t.2 p2
        obtain ⟨I5, m6, t⟩ := t
        exact ⟨_, _, b_X9_fits_122 (I8 := I) (I12 := I) (I16 := I) h_x0 (fun _ _ y2 => absurd y2 p2) (fun _ _ _ => m6) (fun _ _ _ => ⟨rfl, rfl⟩) (fun _ y1 => absurd p1 y1) (fun _ y1 _ => absurd p1 y1) (fun _ y1 _ => absurd p1 y1) (fun _ y1 _ => absurd p1 y1) (fun y0 => absurd p0 y0) (fun y0 => absurd p0 y0) (fun y0 => absurd p0 y0), t⟩
    · have t := t.2 p1
      obtain ⟨I8, m9, t⟩ := t
      by_cases p2 : x3 ≤ 0
      · have t := t.1 p2
        exact ⟨_, _, b_X9_fits_122 (I5 := I) (I12 := I) (I16 := I) h_x0 (fun _ y1 _ => absurd y1 p1) (fun _ y1 _ => absurd y1 p1) (fun _ y1 _ => absurd y1 p1) (fun _ _ => m9) (fun _ _ _ => ⟨rfl, rfl⟩) (fun _ _ y2 => absurd p2 y2) (fun _ _ y2 => absurd p2 y2) (fun y0 => absurd p0 y0) (fun y0 => absurd p0 y0) (fun y0 => absurd p0 y0), t⟩
      · have t := t.2 p2
        obtain ⟨I12, m13, t⟩ := t
        exact ⟨_, _, b_X9_fits_122 (I5 := I) (I16 := I) h_x0 (fun _ y1 _ => absurd y1 p1) (fun _ y1 _ => absurd y1 p1) (fun _ y1 _ => absurd y1 p1) (fun _ _ => m9) (fun _ _ y2 => absurd y2 p2) (fun _ _ _ => m13) (fun _ _ _ => ⟨rfl, rfl⟩) (fun y0 => absurd p0 y0) (fun y0 => absurd p0 y0) (fun y0 => absurd p0 y0), t⟩
  · have t := t.2 p0
    obtain ⟨b15, t⟩ := t
    obtain ⟨I16, m17, t⟩ := t
    obtain ⟨hf, r, t, q⟩ := t
    exact ⟨hf, r, b_X9_fits_122 (I5 := I) (I8 := I) (I12 := I) h_x0 (fun y0 _ _ => absurd y0 p0) (fun y0 _ _ => absurd y0 p0) (fun y0 _ _ => absurd y0 p0) (fun y0 _ => absurd y0 p0) (fun y0 _ _ => absurd y0 p0) (fun y0 _ _ => absurd y0 p0) (fun y0 _ _ => absurd y0 p0) (fun _ => b15) (fun _ => m17) (fun _ => t), q⟩
abbrev s_X9_tells_0 (γ : rG) (l : Launch) (x0 : Nat) (x1 : Int32) (h : rHeap) (Q : rHeap → Option Value → Prop) : Prop := rW γ l m_X9_tells 0 0 0 [some (.ref x0), some (.int x1)] [] h Q
theorem w_X9_tells_0 {γ : rG} {l : Launch} {Q : rHeap → Option Value → Prop} {sh : Nat × (Nat → Nat) × (Nat → Nat)} {I : Nat → Nat → Int32} {J : Nat → Nat → Int64} {R : Nat → Nat → Option Nat} {x0 : Nat} {x1 : Int32}
    (h_x0 : At9 sh R x0)
    (t : vp_in (I x0 61) 5 ∧ (Q (sh, (up (up I (x0 + 41) (I x0 61).toNatClampNeg x1) x0 61 ((((up I (x0 + 41) (I x0 61).toNatClampNeg x1) x0 61) + (1 : Int32)))), J, R) (none))) :
    rW γ l m_X9_tells 0 0 0 [some (.ref x0), some (.int x1)] [] (sh, I, J, R) Q := by
  obtain ⟨b1, t⟩ := t
  exact ⟨_, _, b_X9_tells_0  h_x0 b1 ⟨rfl, rfl⟩, t⟩
abbrev s_X9_rows_0 (γ : rG) (l : Launch) (x0 : Nat) (h : rHeap) (Q : rHeap → Option Value → Prop) : Prop := rW γ l m_X9_rows 0 0 0 [some (.ref x0)] [] h Q
theorem w_X9_rows_0 {γ : rG} {l : Launch} {Q : rHeap → Option Value → Prop} {sh : Nat × (Nat → Nat) × (Nat → Nat)} {I : Nat → Nat → Int32} {J : Nat → Nat → Int64} {R : Nat → Nat → Option Nat} {x0 : Nat}
    (h_x0 : At9 sh R x0)
    (t : ∃ (I1 : Nat → Nat → Int32), rMet γ l m_X9_tries [.ref x0] (sh, I, J, R) (sh, I1, J, R) none ∧ (Q (sh, I1, J, R) (some (.int (I1 x0 60))))) :
    rW γ l m_X9_rows 0 0 0 [some (.ref x0)] [] (sh, I, J, R) Q := by
  obtain ⟨I1, m2, t⟩ := t
  exact ⟨_, _, b_X9_rows_0  h_x0 m2 ⟨rfl, rfl⟩, t⟩
abbrev s_X9_row_0 (γ : rG) (l : Launch) (x0 : Nat) (x1 : Int32) (h : rHeap) (Q : rHeap → Option Value → Prop) : Prop := rW γ l m_X9_row 0 0 0 [some (.ref x0), some (.int x1)] [] h Q
theorem w_X9_row_0 {γ : rG} {l : Launch} {Q : rHeap → Option Value → Prop} {sh : Nat × (Nat → Nat) × (Nat → Nat)} {I : Nat → Nat → Int32} {J : Nat → Nat → Int64} {R : Nat → Nat → Option Nat} {x0 : Nat} {x1 : Int32}
    (h_x0 : At9 sh R x0)
    (t : ∃ (I1 : Nat → Nat → Int32), rMet γ l m_X9_tries [.ref x0] (sh, I, J, R) (sh, I1, J, R) none ∧ ((x1 < 0 → (Q (sh, I1, J, R) (some (.int (-1 : Int32))))) ∧ (¬ x1 < 0 → (((I1 x0 61) ≤ x1 → (Q (sh, I1, J, R) (some (.int (-1 : Int32))))) ∧ (¬ (I1 x0 61) ≤ x1 → (vp_in x1 5 ∧ (Q (sh, I1, J, R) (some (.int ((I1 (x0 + 41) x1.toNatClampNeg))))))))))) :
    rW γ l m_X9_row 0 0 0 [some (.ref x0), some (.int x1)] [] (sh, I, J, R) Q := by
  obtain ⟨I1, m2, t⟩ := t
  by_cases p0 : x1 < 0
  · have t := t.1 p0
    exact ⟨_, _, b_X9_row_0  h_x0 m2 (fun _ => ⟨rfl, rfl⟩) (fun y0 _ => absurd p0 y0) (fun y0 _ => absurd p0 y0) (fun y0 _ => absurd p0 y0), t⟩
  · have t := t.2 p0
    by_cases p1 : (I1 x0 61) ≤ x1
    · have t := t.1 p1
      exact ⟨_, _, b_X9_row_0  h_x0 m2 (fun y0 => absurd y0 p0) (fun _ _ => ⟨rfl, rfl⟩) (fun _ y1 => absurd p1 y1) (fun _ y1 => absurd p1 y1), t⟩
    · have t := t.2 p1
      obtain ⟨b7, t⟩ := t
      exact ⟨_, _, b_X9_row_0  h_x0 m2 (fun y0 => absurd y0 p0) (fun _ y1 => absurd y1 p1) (fun _ _ => b7) (fun _ _ => ⟨rfl, rfl⟩), t⟩
abbrev s_X9_shut_0 (γ : rG) (l : Launch) (x0 : Nat) (h : rHeap) (Q : rHeap → Option Value → Prop) : Prop := rW γ l m_X9_shut 0 0 0 [some (.ref x0), none, none] [] h Q
theorem w_X9_shut_0 {γ : rG} {l : Launch} {Q : rHeap → Option Value → Prop} {sh : Nat × (Nat → Nat) × (Nat → Nat)} {I : Nat → Nat → Int32} {J : Nat → Nat → Int64} {R : Nat → Nat → Option Nat} {x0 : Nat}
    (h_x0 : At9 sh R x0)
    (t : ∃ (I1 : Nat → Nat → Int32), rMet γ l m_X9_tries [.ref x0] (sh, I, J, R) (sh, I1, J, R) none ∧ (((I1 x0 60) ≤ 0 → (rW γ l m_X9_shut 0 0 15 [some (.ref x0), some (.int (0 : Int32)), none] [] (sh, I1, J, R) Q)) ∧ (¬ (I1 x0 60) ≤ 0 → (Q (sh, I1, J, R) (some (.int (1 : Int32))))))) :
    rW γ l m_X9_shut 0 0 0 [some (.ref x0), none, none] [] (sh, I, J, R) Q := by
  obtain ⟨I1, m2, t⟩ := t
  by_cases p0 : (I1 x0 60) ≤ 0
  · have t := t.1 p0
    obtain ⟨hf, r, t, q⟩ := t
    exact ⟨hf, r, b_X9_shut_0  h_x0 m2 (fun _ => t) (fun y0 => absurd p0 y0), q⟩
  · have t := t.2 p0
    exact ⟨_, _, b_X9_shut_0  h_x0 m2 (fun y0 => absurd y0 p0) (fun _ => ⟨rfl, rfl⟩), t⟩
abbrev s_X9_shut_15 (γ : rG) (l : Launch) (x0 : Nat) (x1 : Int32) (h : rHeap) (Q : rHeap → Option Value → Prop) : Prop := rW γ l m_X9_shut 0 0 15 [some (.ref x0), some (.int x1), none] [] h Q
theorem w_X9_shut_15 {γ : rG} {l : Launch} {Q : rHeap → Option Value → Prop} {sh : Nat × (Nat → Nat) × (Nat → Nat)} {I : Nat → Nat → Int32} {J : Nat → Nat → Int64} {R : Nat → Nat → Option Nat} {x0 : Nat} {x1 : Int32}
    (h_x0 : At9 sh R x0)
    (t : ((16384 : Int32) ≤ x1 → (Q (sh, I, J, R) (some (.int (0 : Int32))))) ∧ (¬ (16384 : Int32) ≤ x1 → (vp_in x1 16384 ∧ (((I (x0 + 42) x1.toNatClampNeg) = 0 → (rW γ l m_X9_shut 0 0 15 [some (.ref x0), some (.int (x1 + (1 : Int32))), none] [] (sh, I, J, R) Q)) ∧ (¬ (I (x0 + 42) x1.toNatClampNeg) = 0 → (rW γ l m_X9_shut 0 0 36 [some (.ref x0), some (.int x1), some (.int x1)] [] (sh, I, J, R) Q)))))) :
    rW γ l m_X9_shut 0 0 15 [some (.ref x0), some (.int x1), none] [] (sh, I, J, R) Q := by
  by_cases p0 : (16384 : Int32) ≤ x1
  · have t := t.1 p0
    exact ⟨_, _, b_X9_shut_15  h_x0 (fun _ => ⟨rfl, rfl⟩) (fun y0 => absurd p0 y0) (fun y0 _ => absurd p0 y0) (fun y0 _ => absurd p0 y0), t⟩
  · have t := t.2 p0
    obtain ⟨b3, t⟩ := t
    by_cases p1 : (I (x0 + 42) x1.toNatClampNeg) = 0
    · have t := t.1 p1
      obtain ⟨hf, r, t, q⟩ := t
      exact ⟨hf, r, b_X9_shut_15  h_x0 (fun y0 => absurd y0 p0) (fun _ => b3) (fun _ y1 => absurd p1 y1) (fun _ _ => t), q⟩
    · have t := t.2 p1
      obtain ⟨hf, r, t, q⟩ := t
      exact ⟨hf, r, b_X9_shut_15  h_x0 (fun y0 => absurd y0 p0) (fun _ => b3) (fun _ _ => t) (fun _ y1 => absurd y1 p1), q⟩
abbrev s_X9_shut_36 (γ : rG) (l : Launch) (x0 : Nat) (x1 : Int32) (x2 : Int32) (h : rHeap) (Q : rHeap → Option Value → Prop) : Prop := rW γ l m_X9_shut 0 0 36 [some (.ref x0), some (.int x1), some (.int x2)] [] h Q
theorem w_X9_shut_36 {γ : rG} {l : Launch} {Q : rHeap → Option Value → Prop} {sh : Nat × (Nat → Nat) × (Nat → Nat)} {I : Nat → Nat → Int32} {J : Nat → Nat → Int64} {R : Nat → Nat → Option Nat} {x0 : Nat} {x1 : Int32} {x2 : Int32}
    (h_x0 : At9 sh R x0)
    (t : ((16384 : Int32) ≤ x2 → (rW γ l m_X9_shut 0 0 15 [some (.ref x0), some (.int (x1 + (1 : Int32))), none] [] (sh, I, J, R) Q)) ∧ (¬ (16384 : Int32) ≤ x2 → (vp_in x2 16384 ∧ (((I (x0 + 42) x2.toNatClampNeg) = 0 → (rW γ l m_X9_shut 0 0 36 [some (.ref x0), some (.int x1), some (.int (x2 + (1 : Int32)))] [] (sh, I, J, R) Q)) ∧ (¬ (I (x0 + 42) x2.toNatClampNeg) = 0 → ((((x1 ||| x2) &&& (I x0 64)) = (I x0 65) → (Q (sh, I, J, R) (some (.int (2 : Int32))))) ∧ (¬ ((x1 ||| x2) &&& (I x0 64)) = (I x0 65) → (rW γ l m_X9_shut 0 0 36 [some (.ref x0), some (.int x1), some (.int (x2 + (1 : Int32)))] [] (sh, I, J, R) Q)))))))) :
    rW γ l m_X9_shut 0 0 36 [some (.ref x0), some (.int x1), some (.int x2)] [] (sh, I, J, R) Q := by
  by_cases p0 : (16384 : Int32) ≤ x2
  · have t := t.1 p0
    obtain ⟨hf, r, t, q⟩ := t
    exact ⟨hf, r, b_X9_shut_36  h_x0 (fun _ => t) (fun y0 => absurd p0 y0) (fun y0 _ => absurd p0 y0) (fun y0 _ _ => absurd p0 y0) (fun y0 _ _ => absurd p0 y0), q⟩
  · have t := t.2 p0
    obtain ⟨b3, t⟩ := t
    by_cases p1 : (I (x0 + 42) x2.toNatClampNeg) = 0
    · have t := t.1 p1
      obtain ⟨hf, r, t, q⟩ := t
      exact ⟨hf, r, b_X9_shut_36  h_x0 (fun y0 => absurd y0 p0) (fun _ => b3) (fun _ _ => t) (fun _ y1 _ => absurd p1 y1) (fun _ y1 _ => absurd p1 y1), q⟩
    · have t := t.2 p1
      by_cases p2 : ((x1 ||| x2) &&& (I x0 64)) = (I x0 65)
      · have t := t.1 p2
        exact ⟨_, _, b_X9_shut_36  h_x0 (fun y0 => absurd y0 p0) (fun _ => b3) (fun _ y1 => absurd y1 p1) (fun _ _ y2 => absurd p2 y2) (fun _ _ _ => ⟨rfl, rfl⟩), t⟩
      · have t := t.2 p2
        obtain ⟨hf, r, t, q⟩ := t
        exact ⟨hf, r, b_X9_shut_36  h_x0 (fun y0 => absurd y0 p0) (fun _ => b3) (fun _ y1 => absurd y1 p1) (fun _ _ _ => t) (fun _ _ y2 => absurd y2 p2), q⟩
abbrev s_X9_hand_0 (γ : rG) (l : Launch) (x0 : Nat) (x1 : Int32) (h : rHeap) (Q : rHeap → Option Value → Prop) : Prop := rW γ l m_X9_hand 0 0 0 [some (.ref x0), some (.int x1), none] [] h Q
theorem w_X9_hand_0 {γ : rG} {l : Launch} {Q : rHeap → Option Value → Prop} {sh : Nat × (Nat → Nat) × (Nat → Nat)} {I : Nat → Nat → Int32} {J : Nat → Nat → Int64} {R : Nat → Nat → Option Nat} {x0 : Nat} {x1 : Int32}
    (h_x0 : At9 sh R x0)
    (t : ((I x0 69) = (6 : Int32) → (Q (sh, I, J, R) (some (.int (-1 : Int32))))) ∧ (¬ (I x0 69) = (6 : Int32) → ((x1 < (1 : Int32) → (Q (sh, I, J, R) (some (.int (-1 : Int32))))) ∧ (¬ x1 < (1 : Int32) → ((x1 ≤ ((36 : Int32) - (I x0 71)) → (rW γ l m_X9_hand 0 0 29 [some (.ref x0), some (.int x1), some (.int (0 : Int32))] [] (sh, I, J, R) Q)) ∧ (¬ x1 ≤ ((36 : Int32) - (I x0 71)) → (Q (sh, I, J, R) (some (.int (-1 : Int32)))))))))) :
    rW γ l m_X9_hand 0 0 0 [some (.ref x0), some (.int x1), none] [] (sh, I, J, R) Q := by
  by_cases p0 : (I x0 69) = (6 : Int32)
  · have t := t.1 p0
    exact ⟨_, _, b_X9_hand_0  h_x0 (fun _ => ⟨rfl, rfl⟩) (fun y0 _ => absurd p0 y0) (fun y0 _ _ => absurd p0 y0) (fun y0 _ _ => absurd p0 y0), t⟩
  · have t := t.2 p0
    by_cases p1 : x1 < (1 : Int32)
    · have t := t.1 p1
      exact ⟨_, _, b_X9_hand_0  h_x0 (fun y0 => absurd y0 p0) (fun _ _ => ⟨rfl, rfl⟩) (fun _ y1 _ => absurd p1 y1) (fun _ y1 _ => absurd p1 y1), t⟩
    · have t := t.2 p1
      by_cases p2 : x1 ≤ ((36 : Int32) - (I x0 71))
      · have t := t.1 p2
        obtain ⟨hf, r, t, q⟩ := t
        exact ⟨hf, r, b_X9_hand_0  h_x0 (fun y0 => absurd y0 p0) (fun _ y1 => absurd y1 p1) (fun _ _ _ => t) (fun _ _ y2 => absurd p2 y2), q⟩
      · have t := t.2 p2
        exact ⟨_, _, b_X9_hand_0  h_x0 (fun y0 => absurd y0 p0) (fun _ y1 => absurd y1 p1) (fun _ _ y2 => absurd y2 p2) (fun _ _ _ => ⟨rfl, rfl⟩), t⟩
abbrev s_X9_hand_29 (γ : rG) (l : Launch) (x0 : Nat) (x1 : Int32) (x2 : Int32) (h : rHeap) (Q : rHeap → Option Value → Prop) : Prop := rW γ l m_X9_hand 0 0 29 [some (.ref x0), some (.int x1), some (.int x2)] [] h Q
theorem w_X9_hand_29 {γ : rG} {l : Launch} {Q : rHeap → Option Value → Prop} {sh : Nat × (Nat → Nat) × (Nat → Nat)} {I : Nat → Nat → Int32} {J : Nat → Nat → Int64} {R : Nat → Nat → Option Nat} {x0 : Nat} {x1 : Int32} {x2 : Int32}
    (h_x0 : At9 sh R x0)
    (t : (x1 ≤ x2 → (vp_in (I x0 69) 6 ∧ (Q (sh, (up (up (up I (x0 + 45) (I x0 69).toNatClampNeg x1) x0 71 ((((up I (x0 + 45) (I x0 69).toNatClampNeg x1) x0 71) + x1))) x0 69 ((((up (up I (x0 + 45) (I x0 69).toNatClampNeg x1) x0 71 ((((up I (x0 + 45) (I x0 69).toNatClampNeg x1) x0 71) + x1))) x0 69) + (1 : Int32)))), J, R) (some (.int ((((up (up (up I (x0 + 45) (I x0 69).toNatClampNeg x1) x0 71 ((((up I (x0 + 45) (I x0 69).toNatClampNeg x1) x0 71) + x1))) x0 69 ((((up (up I (x0 + 45) (I x0 69).toNatClampNeg x1) x0 71 ((((up I (x0 + 45) (I x0 69).toNatClampNeg x1) x0 71) + x1))) x0 69) + (1 : Int32)))) x0 69) - (1 : Int32)))))))) ∧ (¬ x1 ≤ x2 → (vp_in (((I x0 71) + x2)) 36 ∧ (rW γ l m_X9_hand 0 0 29 [some (.ref x0), some (.int x1), some (.int (x2 + (1 : Int32)))] [] (sh, (up I (x0 + 46) (((I x0 71) + x2)).toNatClampNeg (I x0 69)), J, R) Q)))) :
    rW γ l m_X9_hand 0 0 29 [some (.ref x0), some (.int x1), some (.int x2)] [] (sh, I, J, R) Q := by
  by_cases p0 : x1 ≤ x2
  · have t := t.1 p0
    obtain ⟨b2, t⟩ := t
    exact ⟨_, _, b_X9_hand_29  h_x0 (fun _ => b2) (fun _ => ⟨rfl, rfl⟩) (fun y0 => absurd p0 y0) (fun y0 => absurd p0 y0), t⟩
  · have t := t.2 p0
    obtain ⟨b4, t⟩ := t
    obtain ⟨hf, r, t, q⟩ := t
    exact ⟨hf, r, b_X9_hand_29  h_x0 (fun y0 => absurd y0 p0) (fun y0 => absurd y0 p0) (fun _ => b4) (fun _ => t), q⟩
abbrev s_X9_look_0 (γ : rG) (l : Launch) (x0 : Nat) (x1 : Int32) (x2 : Int32) (h : rHeap) (Q : rHeap → Option Value → Prop) : Prop := rW γ l m_X9_look 0 0 0 [some (.ref x0), some (.int x1), some (.int x2)] [] h Q
theorem w_X9_look_0 {γ : rG} {l : Launch} {Q : rHeap → Option Value → Prop} {sh : Nat × (Nat → Nat) × (Nat → Nat)} {I : Nat → Nat → Int32} {J : Nat → Nat → Int64} {R : Nat → Nat → Option Nat} {x0 : Nat} {x1 : Int32} {x2 : Int32}
    (h_x0 : At9 sh R x0)
    (t : ((I x0 73) = (40 : Int32) → (Q (sh, I, J, R) (some (.int (-1 : Int32))))) ∧ (¬ (I x0 73) = (40 : Int32) → ((x1 < 0 → (Q (sh, I, J, R) (some (.int (-1 : Int32))))) ∧ (¬ x1 < 0 → (((I x0 71) ≤ x1 → (Q (sh, I, J, R) (some (.int (-1 : Int32))))) ∧ (¬ (I x0 71) ≤ x1 → ((x2 < 0 → (Q (sh, I, J, R) (some (.int (-1 : Int32))))) ∧ (¬ x2 < 0 → ((x2 ≤ (2 : Int32) → (vp_in (I x0 73) 40 ∧ (vp_in (((up I (x0 + 47) (I x0 73).toNatClampNeg x1) x0 73)) 40 ∧ (Q (sh, (up (up (up I (x0 + 47) (I x0 73).toNatClampNeg x1) (x0 + 48) (((up I (x0 + 47) (I x0 73).toNatClampNeg x1) x0 73)).toNatClampNeg x2) x0 73 ((((up (up I (x0 + 47) (I x0 73).toNatClampNeg x1) (x0 + 48) (((up I (x0 + 47) (I x0 73).toNatClampNeg x1) x0 73)).toNatClampNeg x2) x0 73) + (1 : Int32)))), J, R) (some (.int ((((up (up (up I (x0 + 47) (I x0 73).toNatClampNeg x1) (x0 + 48) (((up I (x0 + 47) (I x0 73).toNatClampNeg x1) x0 73)).toNatClampNeg x2) x0 73 ((((up (up I (x0 + 47) (I x0 73).toNatClampNeg x1) (x0 + 48) (((up I (x0 + 47) (I x0 73).toNatClampNeg x1) x0 73)).toNatClampNeg x2) x0 73) + (1 : Int32)))) x0 73) - (1 : Int32))))))))) ∧ (¬ x2 ≤ (2 : Int32) → (Q (sh, I, J, R) (some (.int (-1 : Int32)))))))))))))) :
    rW γ l m_X9_look 0 0 0 [some (.ref x0), some (.int x1), some (.int x2)] [] (sh, I, J, R) Q := by
  by_cases p0 : (I x0 73) = (40 : Int32)
  · have t := t.1 p0
    exact ⟨_, _, b_X9_look_0  h_x0 (fun _ => ⟨rfl, rfl⟩) (fun y0 _ => absurd p0 y0) (fun y0 _ _ => absurd p0 y0) (fun y0 _ _ _ => absurd p0 y0) (fun y0 _ _ _ _ => absurd p0 y0) (fun y0 _ _ _ _ => absurd p0 y0) (fun y0 _ _ _ _ => absurd p0 y0) (fun y0 _ _ _ _ => absurd p0 y0), t⟩
  · have t := t.2 p0
    by_cases p1 : x1 < 0
    · have t := t.1 p1
      exact ⟨_, _, b_X9_look_0  h_x0 (fun y0 => absurd y0 p0) (fun _ _ => ⟨rfl, rfl⟩) (fun _ y1 _ => absurd p1 y1) (fun _ y1 _ _ => absurd p1 y1) (fun _ y1 _ _ _ => absurd p1 y1) (fun _ y1 _ _ _ => absurd p1 y1) (fun _ y1 _ _ _ => absurd p1 y1) (fun _ y1 _ _ _ => absurd p1 y1), t⟩
    · have t := t.2 p1
      by_cases p2 : (I x0 71) ≤ x1
      · have t := t.1 p2
        exact ⟨_, _, b_X9_look_0  h_x0 (fun y0 => absurd y0 p0) (fun _ y1 => absurd y1 p1) (fun _ _ _ => ⟨rfl, rfl⟩) (fun _ _ y2 _ => absurd p2 y2) (fun _ _ y2 _ _ => absurd p2 y2) (fun _ _ y2 _ _ => absurd p2 y2) (fun _ _ y2 _ _ => absurd p2 y2) (fun _ _ y2 _ _ => absurd p2 y2), t⟩
      · have t := t.2 p2
        by_cases p3 : x2 < 0
        · have t := t.1 p3
          exact ⟨_, _, b_X9_look_0  h_x0 (fun y0 => absurd y0 p0) (fun _ y1 => absurd y1 p1) (fun _ _ y2 => absurd y2 p2) (fun _ _ _ _ => ⟨rfl, rfl⟩) (fun _ _ _ y3 _ => absurd p3 y3) (fun _ _ _ y3 _ => absurd p3 y3) (fun _ _ _ y3 _ => absurd p3 y3) (fun _ _ _ y3 _ => absurd p3 y3), t⟩
        · have t := t.2 p3
          by_cases p4 : x2 ≤ (2 : Int32)
          · have t := t.1 p4
            obtain ⟨b10, t⟩ := t
            obtain ⟨b11, t⟩ := t
            exact ⟨_, _, b_X9_look_0  h_x0 (fun y0 => absurd y0 p0) (fun _ y1 => absurd y1 p1) (fun _ _ y2 => absurd y2 p2) (fun _ _ _ y3 => absurd y3 p3) (fun _ _ _ _ _ => b10) (fun _ _ _ _ _ => b11) (fun _ _ _ _ _ => ⟨rfl, rfl⟩) (fun _ _ _ _ y4 => absurd p4 y4), t⟩
          · have t := t.2 p4
            exact ⟨_, _, b_X9_look_0  h_x0 (fun y0 => absurd y0 p0) (fun _ y1 => absurd y1 p1) (fun _ _ y2 => absurd y2 p2) (fun _ _ _ y3 => absurd y3 p3) (fun _ _ _ _ y4 => absurd y4 p4) (fun _ _ _ _ y4 => absurd y4 p4) (fun _ _ _ _ y4 => absurd y4 p4) (fun _ _ _ _ _ => ⟨rfl, rfl⟩), t⟩
abbrev s_X9_priceOf_0 (γ : rG) (l : Launch) (x0 : Nat) (x1 : Int32) (h : rHeap) (Q : rHeap → Option Value → Prop) : Prop := rW γ l m_X9_priceOf 0 0 0 [some (.ref x0), some (.int x1), none] [] h Q
theorem w_X9_priceOf_0 {γ : rG} {l : Launch} {Q : rHeap → Option Value → Prop} {sh : Nat × (Nat → Nat) × (Nat → Nat)} {I : Nat → Nat → Int32} {J : Nat → Nat → Int64} {R : Nat → Nat → Option Nat} {x0 : Nat} {x1 : Int32}
    (h_x0 : At9 sh R x0)
    (t : ∃ (I1 : Nat → Nat → Int32) (v3 : Int32), rMet γ l m_X9_ruleOf [.ref x0, .int x1] (sh, I, J, R) (sh, I1, J, R) (some (.int v3)) ∧ ((v3 = (-1 : Int32) → (Q (sh, I1, J, R) (some (.int (10 : Int32))))) ∧ (¬ v3 = (-1 : Int32) → (∃ (I5 : Nat → Nat → Int32) (v7 : Int32), rMet γ l m_X9_says [.ref x0, .int v3] (sh, I1, J, R) (sh, I5, J, R) (some (.int v7)) ∧ (Q (sh, I5, J, R) (some (.int v7))))))) :
    rW γ l m_X9_priceOf 0 0 0 [some (.ref x0), some (.int x1), none] [] (sh, I, J, R) Q := by
  obtain ⟨I1, v3, m2, t⟩ := t
  by_cases p0 : v3 = (-1 : Int32)
  · have t := t.1 p0
    exact ⟨_, _, b_X9_priceOf_0 (I5 := I) (v7 := 0) h_x0 m2 (fun y0 => absurd p0 y0) (fun y0 => absurd p0 y0) (fun _ => ⟨rfl, rfl⟩), t⟩
  · have t := t.2 p0
    obtain ⟨I5, v7, m6, t⟩ := t
    exact ⟨_, _, b_X9_priceOf_0  h_x0 m2 (fun _ => m6) (fun _ => ⟨rfl, rfl⟩) (fun y0 => absurd y0 p0), t⟩
abbrev s_X9_change_0 (γ : rG) (l : Launch) (x0 : Nat) (x1 : Int32) (x2 : Int32) (x3 : Int32) (h : rHeap) (Q : rHeap → Option Value → Prop) : Prop := rW γ l m_X9_change 0 0 0 [some (.ref x0), some (.int x1), some (.int x2), some (.int x3)] [] h Q
theorem w_X9_change_0 {γ : rG} {l : Launch} {Q : rHeap → Option Value → Prop} {sh : Nat × (Nat → Nat) × (Nat → Nat)} {I : Nat → Nat → Int32} {J : Nat → Nat → Int64} {R : Nat → Nat → Option Nat} {x0 : Nat} {x1 : Int32} {x2 : Int32} {x3 : Int32}
    (h_x0 : At9 sh R x0)
    (t : (x2 = x3 → (Q (sh, I, J, R) (some (.int (0 : Int32))))) ∧ (¬ x2 = x3 → ((x3 = (1 : Int32) → (vp_in x1 36 ∧ (Q (sh, I, J, R) (some (.int ((I (x0 + 52) x1.toNatClampNeg))))))) ∧ (¬ x3 = (1 : Int32) → ((x3 = (2 : Int32) → ((x2 = (1 : Int32) → (vp_in x1 36 ∧ (Q (sh, I, J, R) (some (.int ((I (x0 + 53) x1.toNatClampNeg))))))) ∧ (¬ x2 = (1 : Int32) → (Q (sh, I, J, R) (some (.int (100000000 : Int32))))))) ∧ (¬ x3 = (2 : Int32) → (Q (sh, I, J, R) (some (.int (100000000 : Int32)))))))))) :
    rW γ l m_X9_change 0 0 0 [some (.ref x0), some (.int x1), some (.int x2), some (.int x3)] [] (sh, I, J, R) Q := by
  by_cases p0 : x2 = x3
  · have t := t.1 p0
    exact ⟨_, _, b_X9_change_0  h_x0 (fun y0 _ _ => absurd p0 y0) (fun y0 _ _ _ => absurd p0 y0) (fun y0 _ _ _ => absurd p0 y0) (fun y0 _ _ _ => absurd p0 y0) (fun y0 _ => absurd p0 y0) (fun y0 _ => absurd p0 y0) (fun _ => ⟨rfl, rfl⟩), t⟩
  · have t := t.2 p0
    by_cases p1 : x3 = (1 : Int32)
    · have t := t.1 p1
      obtain ⟨b9, t⟩ := t
      exact ⟨_, _, b_X9_change_0  h_x0 (fun _ y1 _ => absurd p1 y1) (fun _ y1 _ _ => absurd p1 y1) (fun _ y1 _ _ => absurd p1 y1) (fun _ y1 _ _ => absurd p1 y1) (fun _ _ => b9) (fun _ _ => ⟨rfl, rfl⟩) (fun y0 => absurd y0 p0), t⟩
    · have t := t.2 p1
      by_cases p2 : x3 = (2 : Int32)
      · have t := t.1 p2
        by_cases p3 : x2 = (1 : Int32)
        · have t := t.1 p3
          obtain ⟨b7, t⟩ := t
          exact ⟨_, _, b_X9_change_0  h_x0 (fun _ _ y2 => absurd p2 y2) (fun _ _ _ y3 => absurd p3 y3) (fun _ _ _ _ => b7) (fun _ _ _ _ => ⟨rfl, rfl⟩) (fun _ y1 => absurd y1 p1) (fun _ y1 => absurd y1 p1) (fun y0 => absurd y0 p0), t⟩
        · have t := t.2 p3
          exact ⟨_, _, b_X9_change_0  h_x0 (fun _ _ y2 => absurd p2 y2) (fun _ _ _ _ => ⟨rfl, rfl⟩) (fun _ _ _ y3 => absurd y3 p3) (fun _ _ _ y3 => absurd y3 p3) (fun _ y1 => absurd y1 p1) (fun _ y1 => absurd y1 p1) (fun y0 => absurd y0 p0), t⟩
      · have t := t.2 p2
        exact ⟨_, _, b_X9_change_0  h_x0 (fun _ _ _ => ⟨rfl, rfl⟩) (fun _ _ y2 _ => absurd y2 p2) (fun _ _ y2 _ => absurd y2 p2) (fun _ _ y2 _ => absurd y2 p2) (fun _ y1 => absurd y1 p1) (fun _ y1 => absurd y1 p1) (fun y0 => absurd y0 p0), t⟩
abbrev s_X9_prices_0 (γ : rG) (l : Launch) (x0 : Nat) (x1 : Int32) (h : rHeap) (Q : rHeap → Option Value → Prop) : Prop := rW γ l m_X9_prices 0 0 0 [some (.ref x0), some (.int x1), none, none, none, none, none] [] h Q
theorem w_X9_prices_0 {γ : rG} {l : Launch} {Q : rHeap → Option Value → Prop} {sh : Nat × (Nat → Nat) × (Nat → Nat)} {I : Nat → Nat → Int32} {J : Nat → Nat → Int64} {R : Nat → Nat → Option Nat} {x0 : Nat} {x1 : Int32}
    (h_x0 : At9 sh R x0)
    (t : rW γ l m_X9_prices 0 0 2 [some (.ref x0), some (.int x1), some (.int (0 : Int32)), none, none, none, none] [] (sh, I, J, R) Q) :
    rW γ l m_X9_prices 0 0 0 [some (.ref x0), some (.int x1), none, none, none, none, none] [] (sh, I, J, R) Q := by
  obtain ⟨hf, r, t, q⟩ := t
  exact ⟨hf, r, b_X9_prices_0  h_x0 t, q⟩
abbrev s_X9_prices_2 (γ : rG) (l : Launch) (x0 : Nat) (x1 : Int32) (x2 : Int32) (h : rHeap) (Q : rHeap → Option Value → Prop) : Prop := rW γ l m_X9_prices 0 0 2 [some (.ref x0), some (.int x1), some (.int x2), none, none, none, none] [] h Q
theorem w_X9_prices_2 {γ : rG} {l : Launch} {Q : rHeap → Option Value → Prop} {sh : Nat × (Nat → Nat) × (Nat → Nat)} {I : Nat → Nat → Int32} {J : Nat → Nat → Int64} {R : Nat → Nat → Option Nat} {x0 : Nat} {x1 : Int32} {x2 : Int32}
    (h_x0 : At9 sh R x0)
    (t : ((I x0 71) ≤ x2 → (rW γ l m_X9_prices 0 0 94 [some (.ref x0), some (.int x1), some (.int (0 : Int32)), none, none, none, none] [] (sh, I, J, R) Q)) ∧ (¬ (I x0 71) ≤ x2 → (vp_in x2 36 ∧ (∃ (I4 : Nat → Nat → Int32), rMet γ l m_X9_asks [.ref x0, .int (7 : Int32), .int (0 : Int32), .int x2, .int (I (x0 + 46) x2.toNatClampNeg), .int (0 : Int32)] (sh, I, J, R) (sh, I4, J, R) none ∧ (∃ (I6 : Nat → Nat → Int32) (v8 : Int32), rMet γ l m_X9_priceOf [.ref x0, .int (4 : Int32)] (sh, I4, J, R) (sh, I6, J, R) (some (.int v8)) ∧ (vp_in x2 36 ∧ (vp_in x2 36 ∧ (∃ (I11 : Nat → Nat → Int32), rMet γ l m_X9_asks [.ref x0, .int (8 : Int32), .int (0 : Int32), .int x2, .int ((up I6 (x0 + 52) x2.toNatClampNeg v8) (x0 + 46) x2.toNatClampNeg), .int (0 : Int32)] (sh, (up I6 (x0 + 52) x2.toNatClampNeg v8), J, R) (sh, I11, J, R) none ∧ (∃ (I13 : Nat → Nat → Int32) (v15 : Int32), rMet γ l m_X9_priceOf [.ref x0, .int (4 : Int32)] (sh, I11, J, R) (sh, I13, J, R) (some (.int v15)) ∧ (vp_in x2 36 ∧ (rW γ l m_X9_prices 0 0 64 [some (.ref x0), some (.int x1), some (.int x2), some (.int (0 : Int32)), none, none, none] [] (sh, (up I13 (x0 + 53) x2.toNatClampNeg v15), J, R) Q))))))))))) :
    rW γ l m_X9_prices 0 0 2 [some (.ref x0), some (.int x1), some (.int x2), none, none, none, none] [] (sh, I, J, R) Q := by
  by_cases p0 : (I x0 71) ≤ x2
  · have t := t.1 p0
    obtain ⟨hf, r, t, q⟩ := t
    exact ⟨hf, r, b_X9_prices_2 (I4 := I) (I6 := I) (v8 := 0) (I11 := I) (I13 := I) (v15 := 0) h_x0 (fun _ => t) (fun y0 => absurd p0 y0) (fun y0 => absurd p0 y0) (fun y0 => absurd p0 y0) (fun y0 => absurd p0 y0) (fun y0 => absurd p0 y0) (fun y0 => absurd p0 y0) (fun y0 => absurd p0 y0) (fun y0 => absurd p0 y0) (fun y0 => absurd p0 y0), q⟩
  · have t := t.2 p0
    obtain ⟨b3, t⟩ := t
    obtain ⟨I4, m5, t⟩ := t
    obtain ⟨I6, v8, m7, t⟩ := t
    obtain ⟨b9, t⟩ := t
    obtain ⟨b10, t⟩ := t
    obtain ⟨I11, m12, t⟩ := t
    obtain ⟨I13, v15, m14, t⟩ := t
    obtain ⟨b16, t⟩ := t
    obtain ⟨hf, r, t, q⟩ := t
    exact ⟨hf, r, b_X9_prices_2  h_x0 (fun y0 => absurd y0 p0) (fun _ => b3) (fun _ => m5) (fun _ => m7) (fun _ => b9) (fun _ => b10) (fun _ => m12) (fun _ => m14) (fun _ => b16) (fun _ => t), q⟩
abbrev s_X9_prices_94 (γ : rG) (l : Launch) (x0 : Nat) (x1 : Int32) (x2 : Int32) (h : rHeap) (Q : rHeap → Option Value → Prop) : Prop := rW γ l m_X9_prices 0 0 94 [some (.ref x0), some (.int x1), some (.int x2), none, none, none, none] [] h Q
theorem w_X9_prices_94 {γ : rG} {l : Launch} {Q : rHeap → Option Value → Prop} {sh : Nat × (Nat → Nat) × (Nat → Nat)} {I : Nat → Nat → Int32} {J : Nat → Nat → Int64} {R : Nat → Nat → Option Nat} {x0 : Nat} {x1 : Int32} {x2 : Int32}
    (h_x0 : At9 sh R x0)
    (t : (x1 ≤ x2 → (rW γ l m_X9_prices 0 0 188 [some (.ref x0), none, some (.int ((I x0 71) - (1 : Int32))), none, none, none, none] [] (sh, I, J, R) Q)) ∧ (¬ x1 ≤ x2 → (vp_in x2 40 ∧ (vp_in ((I (x0 + 47) x2.toNatClampNeg)) 36 ∧ (vp_in x2 40 ∧ (∃ (I6 : Nat → Nat → Int32), rMet γ l m_X9_asks [.ref x0, .int (9 : Int32), .int (0 : Int32), .int (I (x0 + 47) x2.toNatClampNeg), .int (I (x0 + 46) ((I (x0 + 47) x2.toNatClampNeg)).toNatClampNeg), .int (I (x0 + 48) x2.toNatClampNeg)] (sh, I, J, R) (sh, I6, J, R) none ∧ (∃ (I8 : Nat → Nat → Int32) (v10 : Int32), rMet γ l m_X9_priceOf [.ref x0, .int (5 : Int32)] (sh, I6, J, R) (sh, I8, J, R) (some (.int v10)) ∧ (rW γ l m_X9_prices 0 0 136 [some (.ref x0), some (.int x1), some (.int x2), some (.int (I (x0 + 47) x2.toNatClampNeg)), some (.int v10), some (.int (0 : Int32)), none] [] (sh, I8, J, R) Q)))))))) :
    rW γ l m_X9_prices 0 0 94 [some (.ref x0), some (.int x1), some (.int x2), none, none, none, none] [] (sh, I, J, R) Q := by
  by_cases p0 : x1 ≤ x2
  · have t := t.1 p0
    obtain ⟨hf, r, t, q⟩ := t
    exact ⟨hf, r, b_X9_prices_94 (I6 := I) (I8 := I) (v10 := 0) h_x0 (fun _ => t) (fun y0 => absurd p0 y0) (fun y0 => absurd p0 y0) (fun y0 => absurd p0 y0) (fun y0 => absurd p0 y0) (fun y0 => absurd p0 y0) (fun y0 => absurd p0 y0), q⟩
  · have t := t.2 p0
    obtain ⟨b3, t⟩ := t
    obtain ⟨b4, t⟩ := t
    obtain ⟨b5, t⟩ := t
    obtain ⟨I6, m7, t⟩ := t
    obtain ⟨I8, v10, m9, t⟩ := t
    obtain ⟨hf, r, t, q⟩ := t
    exact ⟨hf, r, b_X9_prices_94  h_x0 (fun y0 => absurd y0 p0) (fun _ => b3) (fun _ => b4) (fun _ => b5) (fun _ => m7) (fun _ => m9) (fun _ => t), q⟩
abbrev s_X9_prices_64 (γ : rG) (l : Launch) (x0 : Nat) (x1 : Int32) (x2 : Int32) (x3 : Int32) (h : rHeap) (Q : rHeap → Option Value → Prop) : Prop := rW γ l m_X9_prices 0 0 64 [some (.ref x0), some (.int x1), some (.int x2), some (.int x3), none, none, none] [] h Q
theorem w_X9_prices_64 {γ : rG} {l : Launch} {Q : rHeap → Option Value → Prop} {sh : Nat × (Nat → Nat) × (Nat → Nat)} {I : Nat → Nat → Int32} {J : Nat → Nat → Int64} {R : Nat → Nat → Option Nat} {x0 : Nat} {x1 : Int32} {x2 : Int32} {x3 : Int32}
    (h_x0 : At9 sh R x0)
    (t : ((3 : Int32) ≤ x3 → (rW γ l m_X9_prices 0 0 2 [some (.ref x0), some (.int x1), some (.int (x2 + (1 : Int32))), none, none, none, none] [] (sh, I, J, R) Q)) ∧ (¬ (3 : Int32) ≤ x3 → (vp_in ((((3 : Int32) * x2) + x3)) 108 ∧ (rW γ l m_X9_prices 0 0 64 [some (.ref x0), some (.int x1), some (.int x2), some (.int (x3 + (1 : Int32))), none, none, none] [] (sh, (up I (x0 + 49) ((((3 : Int32) * x2) + x3)).toNatClampNeg (0 : Int32)), J, R) Q)))) :
    rW γ l m_X9_prices 0 0 64 [some (.ref x0), some (.int x1), some (.int x2), some (.int x3), none, none, none] [] (sh, I, J, R) Q := by
  by_cases p0 : (3 : Int32) ≤ x3
  · have t := t.1 p0
    obtain ⟨hf, r, t, q⟩ := t
    exact ⟨hf, r, b_X9_prices_64  h_x0 (fun _ => t) (fun y0 => absurd p0 y0) (fun y0 => absurd p0 y0), q⟩
  · have t := t.2 p0
    obtain ⟨b3, t⟩ := t
    obtain ⟨hf, r, t, q⟩ := t
    exact ⟨hf, r, b_X9_prices_64  h_x0 (fun y0 => absurd y0 p0) (fun _ => b3) (fun _ => t), q⟩
abbrev s_X9_prices_188 (γ : rG) (l : Launch) (x0 : Nat) (x2 : Int32) (h : rHeap) (Q : rHeap → Option Value → Prop) : Prop := rW γ l m_X9_prices 0 0 188 [some (.ref x0), none, some (.int x2), none, none, none, none] [] h Q
theorem w_X9_prices_188 {γ : rG} {l : Launch} {Q : rHeap → Option Value → Prop} {sh : Nat × (Nat → Nat) × (Nat → Nat)} {I : Nat → Nat → Int32} {J : Nat → Nat → Int64} {R : Nat → Nat → Option Nat} {x0 : Nat} {x2 : Int32}
    (h_x0 : At9 sh R x0)
    (t : (x2 < 0 → (Q (sh, I, J, R) (none))) ∧ (¬ x2 < 0 → (rW γ l m_X9_prices 0 0 194 [some (.ref x0), none, some (.int x2), some (.int (0 : Int32)), none, none, none] [] (sh, I, J, R) Q))) :
    rW γ l m_X9_prices 0 0 188 [some (.ref x0), none, some (.int x2), none, none, none, none] [] (sh, I, J, R) Q := by
  by_cases p0 : x2 < 0
  · have t := t.1 p0
    exact ⟨_, _, b_X9_prices_188  h_x0 (fun _ => ⟨rfl, rfl⟩) (fun y0 => absurd p0 y0), t⟩
  · have t := t.2 p0
    obtain ⟨hf, r, t, q⟩ := t
    exact ⟨hf, r, b_X9_prices_188  h_x0 (fun y0 => absurd y0 p0) (fun _ => t), q⟩
abbrev s_X9_prices_136 (γ : rG) (l : Launch) (x0 : Nat) (x1 : Int32) (x2 : Int32) (x3 : Int32) (x4 : Int32) (x5 : Int32) (h : rHeap) (Q : rHeap → Option Value → Prop) : Prop := rW γ l m_X9_prices 0 0 136 [some (.ref x0), some (.int x1), some (.int x2), some (.int x3), some (.int x4), some (.int x5), none] [] h Q
theorem w_X9_prices_136 {γ : rG} {l : Launch} {Q : rHeap → Option Value → Prop} {sh : Nat × (Nat → Nat) × (Nat → Nat)} {I : Nat → Nat → Int32} {J : Nat → Nat → Int64} {R : Nat → Nat → Option Nat} {x0 : Nat} {x1 : Int32} {x2 : Int32} {x3 : Int32} {x4 : Int32} {x5 : Int32}
    (h_x0 : At9 sh R x0)
    (t : ((3 : Int32) ≤ x5 → (rW γ l m_X9_prices 0 0 94 [some (.ref x0), some (.int x1), some (.int (x2 + (1 : Int32))), none, none, none, none] [] (sh, I, J, R) Q)) ∧ (¬ (3 : Int32) ≤ x5 → (vp_in x2 40 ∧ ((x5 = (I (x0 + 48) x2.toNatClampNeg) → (rW γ l m_X9_prices 0 0 136 [some (.ref x0), some (.int x1), some (.int x2), some (.int x3), some (.int x4), some (.int (x5 + (1 : Int32))), none] [] (sh, I, J, R) Q)) ∧ (¬ x5 = (I (x0 + 48) x2.toNatClampNeg) → (vp_in ((((3 : Int32) * x3) + x5)) 108 ∧ (vp_in ((((3 : Int32) * x3) + x5)) 108 ∧ (rW γ l m_X9_prices 0 0 136 [some (.ref x0), some (.int x1), some (.int x2), some (.int x3), some (.int x4), some (.int (x5 + (1 : Int32))), none] [] (sh, (up I (x0 + 49) ((((3 : Int32) * x3) + x5)).toNatClampNeg (((I (x0 + 49) ((((3 : Int32) * x3) + x5)).toNatClampNeg) + x4))), J, R) Q)))))))) :
    rW γ l m_X9_prices 0 0 136 [some (.ref x0), some (.int x1), some (.int x2), some (.int x3), some (.int x4), some (.int x5), none] [] (sh, I, J, R) Q := by
  by_cases p0 : (3 : Int32) ≤ x5
  · have t := t.1 p0
    obtain ⟨hf, r, t, q⟩ := t
    exact ⟨hf, r, b_X9_prices_136  h_x0 (fun _ => t) (fun y0 => absurd p0 y0) (fun y0 _ => absurd p0 y0) (fun y0 _ => absurd p0 y0) (fun y0 _ => absurd p0 y0) (fun y0 _ => absurd p0 y0), q⟩
  · have t := t.2 p0
    obtain ⟨b3, t⟩ := t
    by_cases p1 : x5 = (I (x0 + 48) x2.toNatClampNeg)
    · have t := t.1 p1
      obtain ⟨hf, r, t, q⟩ := t
      exact ⟨hf, r, b_X9_prices_136  h_x0 (fun y0 => absurd y0 p0) (fun _ => b3) (fun _ _ => t) (fun _ y1 => absurd p1 y1) (fun _ y1 => absurd p1 y1) (fun _ y1 => absurd p1 y1), q⟩
    · have t := t.2 p1
      obtain ⟨b6, t⟩ := t
      obtain ⟨b7, t⟩ := t
      obtain ⟨hf, r, t, q⟩ := t
      exact ⟨hf, r, b_X9_prices_136  h_x0 (fun y0 => absurd y0 p0) (fun _ => b3) (fun _ y1 => absurd y1 p1) (fun _ _ => b6) (fun _ _ => b7) (fun _ _ => t), q⟩
abbrev s_X9_prices_194 (γ : rG) (l : Launch) (x0 : Nat) (x2 : Int32) (x3 : Int32) (h : rHeap) (Q : rHeap → Option Value → Prop) : Prop := rW γ l m_X9_prices 0 0 194 [some (.ref x0), none, some (.int x2), some (.int x3), none, none, none] [] h Q
theorem w_X9_prices_194 {γ : rG} {l : Launch} {Q : rHeap → Option Value → Prop} {sh : Nat × (Nat → Nat) × (Nat → Nat)} {I : Nat → Nat → Int32} {J : Nat → Nat → Int64} {R : Nat → Nat → Option Nat} {x0 : Nat} {x2 : Int32} {x3 : Int32}
    (h_x0 : At9 sh R x0)
    (t : ((3 : Int32) ≤ x3 → (rW γ l m_X9_prices 0 0 188 [some (.ref x0), none, some (.int (x2 + (-1 : Int32))), none, none, none, none] [] (sh, I, J, R) Q)) ∧ (¬ (3 : Int32) ≤ x3 → ((x2 = ((I x0 71) - (1 : Int32)) → (rW γ l m_X9_prices 0 0 221 [some (.ref x0), none, some (.int x2), some (.int x3), some (.int (0 : Int32)), some (.int (0 : Int32)), none] [] (sh, I, J, R) Q)) ∧ (¬ x2 = ((I x0 71) - (1 : Int32)) → (rW γ l m_X9_prices 0 0 221 [some (.ref x0), none, some (.int x2), some (.int x3), some (.int (100000000 : Int32)), some (.int (0 : Int32)), none] [] (sh, I, J, R) Q))))) :
    rW γ l m_X9_prices 0 0 194 [some (.ref x0), none, some (.int x2), some (.int x3), none, none, none] [] (sh, I, J, R) Q := by
  by_cases p0 : (3 : Int32) ≤ x3
  · have t := t.1 p0
    obtain ⟨hf, r, t, q⟩ := t
    exact ⟨hf, r, b_X9_prices_194  h_x0 (fun _ => t) (fun y0 _ => absurd p0 y0) (fun y0 _ => absurd p0 y0), q⟩
  · have t := t.2 p0
    by_cases p1 : x2 = ((I x0 71) - (1 : Int32))
    · have t := t.1 p1
      obtain ⟨hf, r, t, q⟩ := t
      exact ⟨hf, r, b_X9_prices_194  h_x0 (fun y0 => absurd y0 p0) (fun _ y1 => absurd p1 y1) (fun _ _ => t), q⟩
    · have t := t.2 p1
      obtain ⟨hf, r, t, q⟩ := t
      exact ⟨hf, r, b_X9_prices_194  h_x0 (fun y0 => absurd y0 p0) (fun _ _ => t) (fun _ y1 => absurd y1 p1), q⟩
abbrev s_X9_prices_221 (γ : rG) (l : Launch) (x0 : Nat) (x2 : Int32) (x3 : Int32) (x4 : Int32) (x5 : Int32) (h : rHeap) (Q : rHeap → Option Value → Prop) : Prop := rW γ l m_X9_prices 0 0 221 [some (.ref x0), none, some (.int x2), some (.int x3), some (.int x4), some (.int x5), none] [] h Q
theorem w_X9_prices_221 {γ : rG} {l : Launch} {Q : rHeap → Option Value → Prop} {sh : Nat × (Nat → Nat) × (Nat → Nat)} {I : Nat → Nat → Int32} {J : Nat → Nat → Int64} {R : Nat → Nat → Option Nat} {x0 : Nat} {x2 : Int32} {x3 : Int32} {x4 : Int32} {x5 : Int32}
    (h_x0 : At9 sh R x0)
    (t : ((3 : Int32) ≤ x5 → (rW γ l m_X9_prices 0 0 302 [some (.ref x0), none, some (.int x2), some (.int x3), some (.int x4), none, none] [] (sh, I, J, R) Q)) ∧ (¬ (3 : Int32) ≤ x5 → ((((I x0 71) - (1 : Int32)) ≤ x2 → (rW γ l m_X9_prices 0 0 302 [some (.ref x0), none, some (.int x2), some (.int x3), some (.int x4), none, none] [] (sh, I, J, R) Q)) ∧ (¬ ((I x0 71) - (1 : Int32)) ≤ x2 → (∃ (v6 : Int32), rMet γ l m_X9_change [.ref x0, .int (x2 + (1 : Int32)), .int x3, .int x5] (sh, I, J, R) (sh, I, J, R) (some (.int v6)) ∧ (((100000000 : Int32) ≤ v6 → (rW γ l m_X9_prices 0 0 221 [some (.ref x0), none, some (.int x2), some (.int x3), some (.int x4), some (.int (x5 + (1 : Int32))), none] [] (sh, I, J, R) Q)) ∧ (¬ (100000000 : Int32) ≤ v6 → (vp_in (((((3 : Int32) * x2) + (3 : Int32)) + x5)) 108 ∧ ((x4 ≤ (v6 + (I (x0 + 50) (((((3 : Int32) * x2) + (3 : Int32)) + x5)).toNatClampNeg)) → (rW γ l m_X9_prices 0 0 221 [some (.ref x0), none, some (.int x2), some (.int x3), some (.int x4), some (.int (x5 + (1 : Int32))), none] [] (sh, I, J, R) Q)) ∧ (¬ x4 ≤ (v6 + (I (x0 + 50) (((((3 : Int32) * x2) + (3 : Int32)) + x5)).toNatClampNeg)) → (vp_in (((((3 : Int32) * x2) + (3 : Int32)) + x5)) 108 ∧ (rW γ l m_X9_prices 0 0 221 [some (.ref x0), none, some (.int x2), some (.int x3), some (.int (v6 + (I (x0 + 50) (((((3 : Int32) * x2) + (3 : Int32)) + x5)).toNatClampNeg))), some (.int (x5 + (1 : Int32))), none] [] (sh, I, J, R) Q)))))))))))) :
    rW γ l m_X9_prices 0 0 221 [some (.ref x0), none, some (.int x2), some (.int x3), some (.int x4), some (.int x5), none] [] (sh, I, J, R) Q := by
  by_cases p0 : (3 : Int32) ≤ x5
  · have t := t.1 p0
    obtain ⟨hf, r, t, q⟩ := t
    exact ⟨hf, r, b_X9_prices_221 (v6 := 0) h_x0 (fun _ => t) (fun y0 _ => absurd p0 y0) (fun y0 _ => absurd p0 y0) (fun y0 _ _ => absurd p0 y0) (fun y0 _ _ => absurd p0 y0) (fun y0 _ _ _ => absurd p0 y0) (fun y0 _ _ _ => absurd p0 y0) (fun y0 _ _ _ => absurd p0 y0), q⟩
  · have t := t.2 p0
    by_cases p1 : ((I x0 71) - (1 : Int32)) ≤ x2
    · have t := t.1 p1
      obtain ⟨hf, r, t, q⟩ := t
      exact ⟨hf, r, b_X9_prices_221 (v6 := 0) h_x0 (fun y0 => absurd y0 p0) (fun _ _ => t) (fun _ y1 => absurd p1 y1) (fun _ y1 _ => absurd p1 y1) (fun _ y1 _ => absurd p1 y1) (fun _ y1 _ _ => absurd p1 y1) (fun _ y1 _ _ => absurd p1 y1) (fun _ y1 _ _ => absurd p1 y1), q⟩
    · have t := t.2 p1
      obtain ⟨v6, m5, t⟩ := t
      by_cases p2 : (100000000 : Int32) ≤ v6
      · have t := t.1 p2
        obtain ⟨hf, r, t, q⟩ := t
        exact ⟨hf, r, b_X9_prices_221  h_x0 (fun y0 => absurd y0 p0) (fun _ y1 => absurd y1 p1) (fun _ _ => m5) (fun _ _ _ => t) (fun _ _ y2 => absurd p2 y2) (fun _ _ y2 _ => absurd p2 y2) (fun _ _ y2 _ => absurd p2 y2) (fun _ _ y2 _ => absurd p2 y2), q⟩
      · have t := t.2 p2
        obtain ⟨b9, t⟩ := t
        by_cases p3 : x4 ≤ (v6 + (I (x0 + 50) (((((3 : Int32) * x2) + (3 : Int32)) + x5)).toNatClampNeg))
        · have t := t.1 p3
          obtain ⟨hf, r, t, q⟩ := t
          exact ⟨hf, r, b_X9_prices_221  h_x0 (fun y0 => absurd y0 p0) (fun _ y1 => absurd y1 p1) (fun _ _ => m5) (fun _ _ y2 => absurd y2 p2) (fun _ _ _ => b9) (fun _ _ _ _ => t) (fun _ _ _ y3 => absurd p3 y3) (fun _ _ _ y3 => absurd p3 y3), q⟩
        · have t := t.2 p3
          obtain ⟨b12, t⟩ := t
          obtain ⟨hf, r, t, q⟩ := t
          exact ⟨hf, r, b_X9_prices_221  h_x0 (fun y0 => absurd y0 p0) (fun _ y1 => absurd y1 p1) (fun _ _ => m5) (fun _ _ y2 => absurd y2 p2) (fun _ _ _ => b9) (fun _ _ _ y3 => absurd y3 p3) (fun _ _ _ _ => b12) (fun _ _ _ _ => t), q⟩
abbrev s_X9_prices_302 (γ : rG) (l : Launch) (x0 : Nat) (x2 : Int32) (x3 : Int32) (x4 : Int32) (h : rHeap) (Q : rHeap → Option Value → Prop) : Prop := rW γ l m_X9_prices 0 0 302 [some (.ref x0), none, some (.int x2), some (.int x3), some (.int x4), none, none] [] h Q
theorem w_X9_prices_302 {γ : rG} {l : Launch} {Q : rHeap → Option Value → Prop} {sh : Nat × (Nat → Nat) × (Nat → Nat)} {I : Nat → Nat → Int32} {J : Nat → Nat → Int64} {R : Nat → Nat → Option Nat} {x0 : Nat} {x2 : Int32} {x3 : Int32} {x4 : Int32}
    (h_x0 : At9 sh R x0)
    (t : vp_in ((((3 : Int32) * x2) + x3)) 108 ∧ (vp_in ((((3 : Int32) * x2) + x3)) 108 ∧ (rW γ l m_X9_prices 0 0 194 [some (.ref x0), none, some (.int x2), some (.int (x3 + (1 : Int32))), none, none, none] [] (sh, (up I (x0 + 50) ((((3 : Int32) * x2) + x3)).toNatClampNeg ((x4 + (I (x0 + 49) ((((3 : Int32) * x2) + x3)).toNatClampNeg)))), J, R) Q))) :
    rW γ l m_X9_prices 0 0 302 [some (.ref x0), none, some (.int x2), some (.int x3), some (.int x4), none, none] [] (sh, I, J, R) Q := by
  obtain ⟨b1, t⟩ := t
  obtain ⟨b2, t⟩ := t
  obtain ⟨hf, r, t, q⟩ := t
  exact ⟨hf, r, b_X9_prices_302  h_x0 b1 b2 t, q⟩
abbrev s_X9_least_0 (γ : rG) (l : Launch) (x0 : Nat) (x1 : Int32) (x2 : Int32) (h : rHeap) (Q : rHeap → Option Value → Prop) : Prop := rW γ l m_X9_least 0 0 0 [some (.ref x0), some (.int x1), some (.int x2), none, none, none] [] h Q
theorem w_X9_least_0 {γ : rG} {l : Launch} {Q : rHeap → Option Value → Prop} {sh : Nat × (Nat → Nat) × (Nat → Nat)} {I : Nat → Nat → Int32} {J : Nat → Nat → Int64} {R : Nat → Nat → Option Nat} {x0 : Nat} {x1 : Int32} {x2 : Int32}
    (h_x0 : At9 sh R x0)
    (t : rW γ l m_X9_least 0 0 7 [some (.ref x0), some (.int x1), some (.int x2), some (.int (100000000 : Int32)), some (.int (0 : Int32)), none] [] (sh, I, J, R) Q) :
    rW γ l m_X9_least 0 0 0 [some (.ref x0), some (.int x1), some (.int x2), none, none, none] [] (sh, I, J, R) Q := by
  obtain ⟨hf, r, t, q⟩ := t
  exact ⟨hf, r, b_X9_least_0  h_x0 t, q⟩
abbrev s_X9_least_7 (γ : rG) (l : Launch) (x0 : Nat) (x1 : Int32) (x2 : Int32) (x3 : Int32) (x4 : Int32) (h : rHeap) (Q : rHeap → Option Value → Prop) : Prop := rW γ l m_X9_least 0 0 7 [some (.ref x0), some (.int x1), some (.int x2), some (.int x3), some (.int x4), none] [] h Q
theorem w_X9_least_7 {γ : rG} {l : Launch} {Q : rHeap → Option Value → Prop} {sh : Nat × (Nat → Nat) × (Nat → Nat)} {I : Nat → Nat → Int32} {J : Nat → Nat → Int64} {R : Nat → Nat → Option Nat} {x0 : Nat} {x1 : Int32} {x2 : Int32} {x3 : Int32} {x4 : Int32}
    (h_x0 : At9 sh R x0)
    (t : ((3 : Int32) ≤ x4 → (Q (sh, I, J, R) (some (.int x3)))) ∧ (¬ (3 : Int32) ≤ x4 → (∃ (v4 : Int32), rMet γ l m_X9_change [.ref x0, .int x1, .int x2, .int x4] (sh, I, J, R) (sh, I, J, R) (some (.int v4)) ∧ (((100000000 : Int32) ≤ v4 → (rW γ l m_X9_least 0 0 7 [some (.ref x0), some (.int x1), some (.int x2), some (.int x3), some (.int (x4 + (1 : Int32))), none] [] (sh, I, J, R) Q)) ∧ (¬ (100000000 : Int32) ≤ v4 → (vp_in ((((3 : Int32) * x1) + x4)) 108 ∧ ((x3 ≤ (v4 + (I (x0 + 50) ((((3 : Int32) * x1) + x4)).toNatClampNeg)) → (rW γ l m_X9_least 0 0 7 [some (.ref x0), some (.int x1), some (.int x2), some (.int x3), some (.int (x4 + (1 : Int32))), none] [] (sh, I, J, R) Q)) ∧ (¬ x3 ≤ (v4 + (I (x0 + 50) ((((3 : Int32) * x1) + x4)).toNatClampNeg)) → (vp_in ((((3 : Int32) * x1) + x4)) 108 ∧ (rW γ l m_X9_least 0 0 7 [some (.ref x0), some (.int x1), some (.int x2), some (.int (v4 + (I (x0 + 50) ((((3 : Int32) * x1) + x4)).toNatClampNeg))), some (.int (x4 + (1 : Int32))), none] [] (sh, I, J, R) Q)))))))))) :
    rW γ l m_X9_least 0 0 7 [some (.ref x0), some (.int x1), some (.int x2), some (.int x3), some (.int x4), none] [] (sh, I, J, R) Q := by
  by_cases p0 : (3 : Int32) ≤ x4
  · have t := t.1 p0
    exact ⟨_, _, b_X9_least_7 (v4 := 0) h_x0 (fun _ => ⟨rfl, rfl⟩) (fun y0 => absurd p0 y0) (fun y0 _ => absurd p0 y0) (fun y0 _ => absurd p0 y0) (fun y0 _ _ => absurd p0 y0) (fun y0 _ _ => absurd p0 y0) (fun y0 _ _ => absurd p0 y0), t⟩
  · have t := t.2 p0
    obtain ⟨v4, m3, t⟩ := t
    by_cases p1 : (100000000 : Int32) ≤ v4
    · have t := t.1 p1
      obtain ⟨hf, r, t, q⟩ := t
      exact ⟨hf, r, b_X9_least_7  h_x0 (fun y0 => absurd y0 p0) (fun _ => m3) (fun _ _ => t) (fun _ y1 => absurd p1 y1) (fun _ y1 _ => absurd p1 y1) (fun _ y1 _ => absurd p1 y1) (fun _ y1 _ => absurd p1 y1), q⟩
    · have t := t.2 p1
      obtain ⟨b7, t⟩ := t
      by_cases p2 : x3 ≤ (v4 + (I (x0 + 50) ((((3 : Int32) * x1) + x4)).toNatClampNeg))
      · have t := t.1 p2
        obtain ⟨hf, r, t, q⟩ := t
        exact ⟨hf, r, b_X9_least_7  h_x0 (fun y0 => absurd y0 p0) (fun _ => m3) (fun _ y1 => absurd y1 p1) (fun _ _ => b7) (fun _ _ _ => t) (fun _ _ y2 => absurd p2 y2) (fun _ _ y2 => absurd p2 y2), q⟩
      · have t := t.2 p2
        obtain ⟨b10, t⟩ := t
        obtain ⟨hf, r, t, q⟩ := t
        exact ⟨hf, r, b_X9_least_7  h_x0 (fun y0 => absurd y0 p0) (fun _ => m3) (fun _ y1 => absurd y1 p1) (fun _ _ => b7) (fun _ _ y2 => absurd y2 p2) (fun _ _ _ => b10) (fun _ _ _ => t), q⟩
abbrev s_X9_talesBut_0 (γ : rG) (l : Launch) (x0 : Nat) (x1 : Int32) (h : rHeap) (Q : rHeap → Option Value → Prop) : Prop := rW γ l m_X9_talesBut 0 0 0 [some (.ref x0), some (.int x1), none, none] [] h Q
theorem w_X9_talesBut_0 {γ : rG} {l : Launch} {Q : rHeap → Option Value → Prop} {sh : Nat × (Nat → Nat) × (Nat → Nat)} {I : Nat → Nat → Int32} {J : Nat → Nat → Int64} {R : Nat → Nat → Option Nat} {x0 : Nat} {x1 : Int32}
    (h_x0 : At9 sh R x0)
    (t : ((I x0 71) = 0 → (Q (sh, I, J, R) (some (.long (1 : Int64))))) ∧ (¬ (I x0 71) = 0 → (rW γ l m_X9_talesBut 0 0 16 [some (.ref x0), some (.int x1), some (.int ((I x0 71) - (1 : Int32))), none] [] (sh, I, J, R) Q))) :
    rW γ l m_X9_talesBut 0 0 0 [some (.ref x0), some (.int x1), none, none] [] (sh, I, J, R) Q := by
  by_cases p0 : (I x0 71) = 0
  · have t := t.1 p0
    exact ⟨_, _, b_X9_talesBut_0  h_x0 (fun y0 => absurd p0 y0) (fun _ => ⟨rfl, rfl⟩), t⟩
  · have t := t.2 p0
    obtain ⟨hf, r, t, q⟩ := t
    exact ⟨hf, r, b_X9_talesBut_0  h_x0 (fun _ => t) (fun y0 => absurd y0 p0), q⟩
abbrev s_X9_talesBut_16 (γ : rG) (l : Launch) (x0 : Nat) (x1 : Int32) (x2 : Int32) (h : rHeap) (Q : rHeap → Option Value → Prop) : Prop := rW γ l m_X9_talesBut 0 0 16 [some (.ref x0), some (.int x1), some (.int x2), none] [] h Q
theorem w_X9_talesBut_16 {γ : rG} {l : Launch} {Q : rHeap → Option Value → Prop} {sh : Nat × (Nat → Nat) × (Nat → Nat)} {I : Nat → Nat → Int32} {J : Nat → Nat → Int64} {R : Nat → Nat → Option Nat} {x0 : Nat} {x1 : Int32} {x2 : Int32}
    (h_x0 : At9 sh R x0)
    (t : (x2 < 0 → (∃ (v3 : Int64), rMet γ l m_X9_onward [.ref x0, .int (0 : Int32), .int (0 : Int32), .int x1] (sh, I, J, R) (sh, I, J, R) (some (.long v3)) ∧ (Q (sh, I, J, R) (some (.long v3))))) ∧ (¬ x2 < 0 → (rW γ l m_X9_talesBut 0 0 22 [some (.ref x0), some (.int x1), some (.int x2), some (.int (0 : Int32))] [] (sh, I, J, R) Q))) :
    rW γ l m_X9_talesBut 0 0 16 [some (.ref x0), some (.int x1), some (.int x2), none] [] (sh, I, J, R) Q := by
  by_cases p0 : x2 < 0
  · have t := t.1 p0
    obtain ⟨v3, m2, t⟩ := t
    exact ⟨_, _, b_X9_talesBut_16  h_x0 (fun _ => m2) (fun _ => ⟨rfl, rfl⟩) (fun y0 => absurd p0 y0), t⟩
  · have t := t.2 p0
    obtain ⟨hf, r, t, q⟩ := t
    exact ⟨hf, r, b_X9_talesBut_16 (v3 := 0) h_x0 (fun y0 => absurd y0 p0) (fun y0 => absurd y0 p0) (fun _ => t), q⟩
abbrev s_X9_talesBut_22 (γ : rG) (l : Launch) (x0 : Nat) (x1 : Int32) (x2 : Int32) (x3 : Int32) (h : rHeap) (Q : rHeap → Option Value → Prop) : Prop := rW γ l m_X9_talesBut 0 0 22 [some (.ref x0), some (.int x1), some (.int x2), some (.int x3)] [] h Q
theorem w_X9_talesBut_22 {γ : rG} {l : Launch} {Q : rHeap → Option Value → Prop} {sh : Nat × (Nat → Nat) × (Nat → Nat)} {I : Nat → Nat → Int32} {J : Nat → Nat → Int64} {R : Nat → Nat → Option Nat} {x0 : Nat} {x1 : Int32} {x2 : Int32} {x3 : Int32}
    (h_x0 : At9 sh R x0)
    (t : ((3 : Int32) ≤ x3 → (rW γ l m_X9_talesBut 0 0 16 [some (.ref x0), some (.int x1), some (.int (x2 + (-1 : Int32))), none] [] (sh, I, J, R) Q)) ∧ (¬ (3 : Int32) ≤ x3 → ((x2 = ((I x0 71) - (1 : Int32)) → (vp_in ((((3 : Int32) * x2) + x3)) 108 ∧ (rW γ l m_X9_talesBut 0 0 22 [some (.ref x0), some (.int x1), some (.int x2), some (.int (x3 + (1 : Int32)))] [] (sh, I, (up J (x0 + 51) ((((3 : Int32) * x2) + x3)).toNatClampNeg (1 : Int64)), R) Q))) ∧ (¬ x2 = ((I x0 71) - (1 : Int32)) → (∃ (v5 : Int64), rMet γ l m_X9_onward [.ref x0, .int (x2 + (1 : Int32)), .int x3, .int x1] (sh, I, J, R) (sh, I, J, R) (some (.long v5)) ∧ (vp_in ((((3 : Int32) * x2) + x3)) 108 ∧ (rW γ l m_X9_talesBut 0 0 22 [some (.ref x0), some (.int x1), some (.int x2), some (.int (x3 + (1 : Int32)))] [] (sh, I, (up J (x0 + 51) ((((3 : Int32) * x2) + x3)).toNatClampNeg v5), R) Q))))))) :
    rW γ l m_X9_talesBut 0 0 22 [some (.ref x0), some (.int x1), some (.int x2), some (.int x3)] [] (sh, I, J, R) Q := by
  by_cases p0 : (3 : Int32) ≤ x3
  · have t := t.1 p0
    obtain ⟨hf, r, t, q⟩ := t
    exact ⟨hf, r, b_X9_talesBut_22 (v5 := 0) h_x0 (fun _ => t) (fun y0 _ => absurd p0 y0) (fun y0 _ => absurd p0 y0) (fun y0 _ => absurd p0 y0) (fun y0 _ => absurd p0 y0) (fun y0 _ => absurd p0 y0), q⟩
  · have t := t.2 p0
    by_cases p1 : x2 = ((I x0 71) - (1 : Int32))
    · have t := t.1 p1
      obtain ⟨b8, t⟩ := t
      obtain ⟨hf, r, t, q⟩ := t
      exact ⟨hf, r, b_X9_talesBut_22 (v5 := 0) h_x0 (fun y0 => absurd y0 p0) (fun _ y1 => absurd p1 y1) (fun _ y1 => absurd p1 y1) (fun _ y1 => absurd p1 y1) (fun _ _ => b8) (fun _ _ => t), q⟩
    · have t := t.2 p1
      obtain ⟨v5, m4, t⟩ := t
      obtain ⟨b6, t⟩ := t
      obtain ⟨hf, r, t, q⟩ := t
      exact ⟨hf, r, b_X9_talesBut_22  h_x0 (fun y0 => absurd y0 p0) (fun _ _ => m4) (fun _ _ => b6) (fun _ _ => t) (fun _ y1 => absurd y1 p1) (fun _ y1 => absurd y1 p1), q⟩
abbrev s_X9_onward_0 (γ : rG) (l : Launch) (x0 : Nat) (x1 : Int32) (x2 : Int32) (x3 : Int32) (h : rHeap) (Q : rHeap → Option Value → Prop) : Prop := rW γ l m_X9_onward 0 0 0 [some (.ref x0), some (.int x1), some (.int x2), some (.int x3), none, none, none, none, none] [] h Q
theorem w_X9_onward_0 {γ : rG} {l : Launch} {Q : rHeap → Option Value → Prop} {sh : Nat × (Nat → Nat) × (Nat → Nat)} {I : Nat → Nat → Int32} {J : Nat → Nat → Int64} {R : Nat → Nat → Option Nat} {x0 : Nat} {x1 : Int32} {x2 : Int32} {x3 : Int32}
    (h_x0 : At9 sh R x0)
    (t : ∃ (v2 : Int32), rMet γ l m_X9_least [.ref x0, .int x1, .int x2] (sh, I, J, R) (sh, I, J, R) (some (.int v2)) ∧ (rW γ l m_X9_onward 0 0 14 [some (.ref x0), some (.int x1), some (.int x2), some (.int x3), some (.int v2), some (.long (0 : Int64)), none, some (.int (0 : Int32)), none] [] (sh, I, J, R) Q)) :
    rW γ l m_X9_onward 0 0 0 [some (.ref x0), some (.int x1), some (.int x2), some (.int x3), none, none, none, none, none] [] (sh, I, J, R) Q := by
  obtain ⟨v2, m1, t⟩ := t
  obtain ⟨hf, r, t, q⟩ := t
  exact ⟨hf, r, b_X9_onward_0  h_x0 m1 t, q⟩
abbrev s_X9_onward_14 (γ : rG) (l : Launch) (x0 : Nat) (x1 : Int32) (x2 : Int32) (x3 : Int32) (x4 : Int32) (x5 : Int64) (x7 : Int32) (h : rHeap) (Q : rHeap → Option Value → Prop) : Prop := rW γ l m_X9_onward 0 0 14 [some (.ref x0), some (.int x1), some (.int x2), some (.int x3), some (.int x4), some (.long x5), none, some (.int x7), none] [] h Q
theorem w_X9_onward_14 {γ : rG} {l : Launch} {Q : rHeap → Option Value → Prop} {sh : Nat × (Nat → Nat) × (Nat → Nat)} {I : Nat → Nat → Int32} {J : Nat → Nat → Int64} {R : Nat → Nat → Option Nat} {x0 : Nat} {x1 : Int32} {x2 : Int32} {x3 : Int32} {x4 : Int32} {x5 : Int64} {x7 : Int32}
    (h_x0 : At9 sh R x0)
    (t : ((3 : Int32) ≤ x7 → (Q (sh, I, J, R) (some (.long x5)))) ∧ (¬ (3 : Int32) ≤ x7 → (∃ (v4 : Int32), rMet γ l m_X9_change [.ref x0, .int x1, .int x2, .int x7] (sh, I, J, R) (sh, I, J, R) (some (.int v4)) ∧ (((100000000 : Int32) ≤ v4 → (rW γ l m_X9_onward 0 0 14 [some (.ref x0), some (.int x1), some (.int x2), some (.int x3), some (.int x4), some (.long x5), none, some (.int (x7 + (1 : Int32))), none] [] (sh, I, J, R) Q)) ∧ (¬ (100000000 : Int32) ≤ v4 → (vp_in ((((3 : Int32) * x1) + x7)) 108 ∧ (((v4 + (I (x0 + 50) ((((3 : Int32) * x1) + x7)).toNatClampNeg)) = x4 → ((x7 = (1 : Int32) → ((x2 = (1 : Int32) → (rW γ l m_X9_onward 0 0 81 [some (.ref x0), some (.int x1), some (.int x2), some (.int x3), some (.int x4), some (.long x5), none, some (.int x7), none] [] (sh, I, J, R) Q)) ∧ (¬ x2 = (1 : Int32) → (vp_in x1 36 ∧ (((I (x0 + 46) x1.toNatClampNeg) = x3 → (rW γ l m_X9_onward 0 0 14 [some (.ref x0), some (.int x1), some (.int x2), some (.int x3), some (.int x4), some (.long x5), none, some (.int (x7 + (1 : Int32))), none] [] (sh, I, J, R) Q)) ∧ (¬ (I (x0 + 46) x1.toNatClampNeg) = x3 → (rW γ l m_X9_onward 0 0 81 [some (.ref x0), some (.int x1), some (.int x2), some (.int x3), some (.int x4), some (.long x5), none, some (.int x7), none] [] (sh, I, J, R) Q))))))) ∧ (¬ x7 = (1 : Int32) → (rW γ l m_X9_onward 0 0 81 [some (.ref x0), some (.int x1), some (.int x2), some (.int x3), some (.int x4), some (.long x5), none, some (.int x7), none] [] (sh, I, J, R) Q)))) ∧ (¬ (v4 + (I (x0 + 50) ((((3 : Int32) * x1) + x7)).toNatClampNeg)) = x4 → (rW γ l m_X9_onward 0 0 14 [some (.ref x0), some (.int x1), some (.int x2), some (.int x3), some (.int x4), some (.long x5), none, some (.int (x7 + (1 : Int32))), none] [] (sh, I, J, R) Q))))))))) :
    rW γ l m_X9_onward 0 0 14 [some (.ref x0), some (.int x1), some (.int x2), some (.int x3), some (.int x4), some (.long x5), none, some (.int x7), none] [] (sh, I, J, R) Q := by
  by_cases p0 : (3 : Int32) ≤ x7
  · have t := t.1 p0
    exact ⟨_, _, b_X9_onward_14 (v4 := 0) h_x0 (fun _ => ⟨rfl, rfl⟩) (fun y0 => absurd p0 y0) (fun y0 _ => absurd p0 y0) (fun y0 _ => absurd p0 y0) (fun y0 _ _ => absurd p0 y0) (fun y0 _ _ _ => absurd p0 y0) (fun y0 _ _ _ _ => absurd p0 y0) (fun y0 _ _ _ _ => absurd p0 y0) (fun y0 _ _ _ _ _ => absurd p0 y0) (fun y0 _ _ _ _ _ => absurd p0 y0), t⟩
  · have t := t.2 p0
    obtain ⟨v4, m3, t⟩ := t
    by_cases p1 : (100000000 : Int32) ≤ v4
    · have t := t.1 p1
      obtain ⟨hf, r, t, q⟩ := t
      exact ⟨hf, r, b_X9_onward_14  h_x0 (fun y0 => absurd y0 p0) (fun _ => m3) (fun _ _ => t) (fun _ y1 => absurd p1 y1) (fun _ y1 _ => absurd p1 y1) (fun _ y1 _ _ => absurd p1 y1) (fun _ y1 _ _ _ => absurd p1 y1) (fun _ y1 _ _ _ => absurd p1 y1) (fun _ y1 _ _ _ _ => absurd p1 y1) (fun _ y1 _ _ _ _ => absurd p1 y1), q⟩
    · have t := t.2 p1
      obtain ⟨b7, t⟩ := t
      by_cases p2 : (v4 + (I (x0 + 50) ((((3 : Int32) * x1) + x7)).toNatClampNeg)) = x4
      · have t := t.1 p2
        by_cases p3 : x7 = (1 : Int32)
        · have t := t.1 p3
          by_cases p4 : x2 = (1 : Int32)
          · have t := t.1 p4
            obtain ⟨hf, r, t, q⟩ := t
            exact ⟨hf, r, b_X9_onward_14  h_x0 (fun y0 => absurd y0 p0) (fun _ => m3) (fun _ y1 => absurd y1 p1) (fun _ _ => b7) (fun _ _ y2 => absurd p2 y2) (fun _ _ _ y3 => absurd p3 y3) (fun _ _ _ _ _ => t) (fun _ _ _ _ y4 => absurd p4 y4) (fun _ _ _ _ y4 _ => absurd p4 y4) (fun _ _ _ _ y4 _ => absurd p4 y4), q⟩
          · have t := t.2 p4
            obtain ⟨b14, t⟩ := t
            by_cases p5 : (I (x0 + 46) x1.toNatClampNeg) = x3
            · have t := t.1 p5
              obtain ⟨hf, r, t, q⟩ := t
              exact ⟨hf, r, b_X9_onward_14  h_x0 (fun y0 => absurd y0 p0) (fun _ => m3) (fun _ y1 => absurd y1 p1) (fun _ _ => b7) (fun _ _ y2 => absurd p2 y2) (fun _ _ _ y3 => absurd p3 y3) (fun _ _ _ _ y4 => absurd y4 p4) (fun _ _ _ _ _ => b14) (fun _ _ _ _ _ y5 => absurd p5 y5) (fun _ _ _ _ _ _ => t), q⟩
            · have t := t.2 p5
              obtain ⟨hf, r, t, q⟩ := t
              exact ⟨hf, r, b_X9_onward_14  h_x0 (fun y0 => absurd y0 p0) (fun _ => m3) (fun _ y1 => absurd y1 p1) (fun _ _ => b7) (fun _ _ y2 => absurd p2 y2) (fun _ _ _ y3 => absurd p3 y3) (fun _ _ _ _ y4 => absurd y4 p4) (fun _ _ _ _ _ => b14) (fun _ _ _ _ _ _ => t) (fun _ _ _ _ _ y5 => absurd y5 p5), q⟩
        · have t := t.2 p3
          obtain ⟨hf, r, t, q⟩ := t
          exact ⟨hf, r, b_X9_onward_14  h_x0 (fun y0 => absurd y0 p0) (fun _ => m3) (fun _ y1 => absurd y1 p1) (fun _ _ => b7) (fun _ _ y2 => absurd p2 y2) (fun _ _ _ _ => t) (fun _ _ _ y3 _ => absurd y3 p3) (fun _ _ _ y3 _ => absurd y3 p3) (fun _ _ _ y3 _ _ => absurd y3 p3) (fun _ _ _ y3 _ _ => absurd y3 p3), q⟩
      · have t := t.2 p2
        obtain ⟨hf, r, t, q⟩ := t
        exact ⟨hf, r, b_X9_onward_14  h_x0 (fun y0 => absurd y0 p0) (fun _ => m3) (fun _ y1 => absurd y1 p1) (fun _ _ => b7) (fun _ _ _ => t) (fun _ _ y2 _ => absurd y2 p2) (fun _ _ y2 _ _ => absurd y2 p2) (fun _ _ y2 _ _ => absurd y2 p2) (fun _ _ y2 _ _ _ => absurd y2 p2) (fun _ _ y2 _ _ _ => absurd y2 p2), q⟩
abbrev s_X9_onward_81 (γ : rG) (l : Launch) (x0 : Nat) (x1 : Int32) (x2 : Int32) (x3 : Int32) (x4 : Int32) (x5 : Int64) (x7 : Int32) (h : rHeap) (Q : rHeap → Option Value → Prop) : Prop := rW γ l m_X9_onward 0 0 81 [some (.ref x0), some (.int x1), some (.int x2), some (.int x3), some (.int x4), some (.long x5), none, some (.int x7), none] [] h Q
theorem w_X9_onward_81 {γ : rG} {l : Launch} {Q : rHeap → Option Value → Prop} {sh : Nat × (Nat → Nat) × (Nat → Nat)} {I : Nat → Nat → Int32} {J : Nat → Nat → Int64} {R : Nat → Nat → Option Nat} {x0 : Nat} {x1 : Int32} {x2 : Int32} {x3 : Int32} {x4 : Int32} {x5 : Int64} {x7 : Int32}
    (h_x0 : At9 sh R x0)
    (t : vp_in ((((3 : Int32) * x1) + x7)) 108 ∧ (rW γ l m_X9_onward 0 0 14 [some (.ref x0), some (.int x1), some (.int x2), some (.int x3), some (.int x4), some (.long (x5 + (J (x0 + 51) ((((3 : Int32) * x1) + x7)).toNatClampNeg))), none, some (.int (x7 + (1 : Int32))), none] [] (sh, I, J, R) Q)) :
    rW γ l m_X9_onward 0 0 81 [some (.ref x0), some (.int x1), some (.int x2), some (.int x3), some (.int x4), some (.long x5), none, some (.int x7), none] [] (sh, I, J, R) Q := by
  obtain ⟨b1, t⟩ := t
  obtain ⟨hf, r, t, q⟩ := t
  exact ⟨hf, r, b_X9_onward_81  h_x0 b1 t, q⟩
abbrev s_X9_tellsTale_0 (γ : rG) (l : Launch) (x0 : Nat) (x1 : Int32) (h : rHeap) (Q : rHeap → Option Value → Prop) : Prop := rW γ l m_X9_tellsTale 0 0 0 [some (.ref x0), some (.int x1), none, none, none, none, none, none] [] h Q
theorem w_X9_tellsTale_0 {γ : rG} {l : Launch} {Q : rHeap → Option Value → Prop} {sh : Nat × (Nat → Nat) × (Nat → Nat)} {I : Nat → Nat → Int32} {J : Nat → Nat → Int64} {R : Nat → Nat → Option Nat} {x0 : Nat} {x1 : Int32}
    (h_x0 : At9 sh R x0)
    (t : ∃ (I1 : Nat → Nat → Int32), rMet γ l m_X9_prices [.ref x0, .int x1] (sh, I, J, R) (sh, I1, J, R) none ∧ (rW γ l m_X9_tellsTale 0 0 9 [some (.ref x0), none, some (.int (0 : Int32)), some (.int (0 : Int32)), none, none, none, none] [] (sh, I1, J, R) Q)) :
    rW γ l m_X9_tellsTale 0 0 0 [some (.ref x0), some (.int x1), none, none, none, none, none, none] [] (sh, I, J, R) Q := by
  obtain ⟨I1, m2, t⟩ := t
  obtain ⟨hf, r, t, q⟩ := t
  exact ⟨hf, r, b_X9_tellsTale_0  h_x0 m2 t, q⟩
abbrev s_X9_tellsTale_9 (γ : rG) (l : Launch) (x0 : Nat) (x2 : Int32) (x3 : Int32) (h : rHeap) (Q : rHeap → Option Value → Prop) : Prop := rW γ l m_X9_tellsTale 0 0 9 [some (.ref x0), none, some (.int x2), some (.int x3), none, none, none, none] [] h Q
theorem w_X9_tellsTale_9 {γ : rG} {l : Launch} {Q : rHeap → Option Value → Prop} {sh : Nat × (Nat → Nat) × (Nat → Nat)} {I : Nat → Nat → Int32} {J : Nat → Nat → Int64} {R : Nat → Nat → Option Nat} {x0 : Nat} {x2 : Int32} {x3 : Int32}
    (h_x0 : At9 sh R x0)
    (t : ((I x0 71) ≤ x3 → (Q (sh, I, J, R) (none))) ∧ (¬ (I x0 71) ≤ x3 → (∃ (v4 : Int32), rMet γ l m_X9_least [.ref x0, .int x3, .int x2] (sh, I, J, R) (sh, I, J, R) (some (.int v4)) ∧ (rW γ l m_X9_tellsTale 0 0 31 [some (.ref x0), none, some (.int x2), some (.int x3), some (.int v4), some (.int (-1 : Int32)), some (.int (2 : Int32)), none] [] (sh, I, J, R) Q)))) :
    rW γ l m_X9_tellsTale 0 0 9 [some (.ref x0), none, some (.int x2), some (.int x3), none, none, none, none] [] (sh, I, J, R) Q := by
  by_cases p0 : (I x0 71) ≤ x3
  · have t := t.1 p0
    exact ⟨_, _, b_X9_tellsTale_9 (v4 := 0) h_x0 (fun _ => ⟨rfl, rfl⟩) (fun y0 => absurd p0 y0) (fun y0 => absurd p0 y0), t⟩
  · have t := t.2 p0
    obtain ⟨v4, m3, t⟩ := t
    obtain ⟨hf, r, t, q⟩ := t
    exact ⟨hf, r, b_X9_tellsTale_9  h_x0 (fun y0 => absurd y0 p0) (fun _ => m3) (fun _ => t), q⟩
abbrev s_X9_tellsTale_31 (γ : rG) (l : Launch) (x0 : Nat) (x2 : Int32) (x3 : Int32) (x4 : Int32) (x5 : Int32) (x6 : Int32) (h : rHeap) (Q : rHeap → Option Value → Prop) : Prop := rW γ l m_X9_tellsTale 0 0 31 [some (.ref x0), none, some (.int x2), some (.int x3), some (.int x4), some (.int x5), some (.int x6), none] [] h Q
theorem w_X9_tellsTale_31 {γ : rG} {l : Launch} {Q : rHeap → Option Value → Prop} {sh : Nat × (Nat → Nat) × (Nat → Nat)} {I : Nat → Nat → Int32} {J : Nat → Nat → Int64} {R : Nat → Nat → Option Nat} {x0 : Nat} {x2 : Int32} {x3 : Int32} {x4 : Int32} {x5 : Int32} {x6 : Int32}
    (h_x0 : At9 sh R x0)
    (t : (x6 < 0 → (vp_in x3 36 ∧ (rW γ l m_X9_tellsTale 0 0 9 [some (.ref x0), none, some (.int x5), some (.int (x3 + (1 : Int32))), none, none, none, none] [] (sh, (up I (x0 + 54) x3.toNatClampNeg x5), J, R) Q))) ∧ (¬ x6 < 0 → (∃ (v5 : Int32), rMet γ l m_X9_change [.ref x0, .int x3, .int x2, .int x6] (sh, I, J, R) (sh, I, J, R) (some (.int v5)) ∧ (((100000000 : Int32) ≤ v5 → (rW γ l m_X9_tellsTale 0 0 31 [some (.ref x0), none, some (.int x2), some (.int x3), some (.int x4), some (.int x5), some (.int (x6 + (-1 : Int32))), none] [] (sh, I, J, R) Q)) ∧ (¬ (100000000 : Int32) ≤ v5 → (vp_in ((((3 : Int32) * x3) + x6)) 108 ∧ (((v5 + (I (x0 + 50) ((((3 : Int32) * x3) + x6)).toNatClampNeg)) = x4 → (rW γ l m_X9_tellsTale 0 0 31 [some (.ref x0), none, some (.int x2), some (.int x3), some (.int x4), some (.int x6), some (.int (x6 + (-1 : Int32))), none] [] (sh, I, J, R) Q)) ∧ (¬ (v5 + (I (x0 + 50) ((((3 : Int32) * x3) + x6)).toNatClampNeg)) = x4 → (rW γ l m_X9_tellsTale 0 0 31 [some (.ref x0), none, some (.int x2), some (.int x3), some (.int x4), some (.int x5), some (.int (x6 + (-1 : Int32))), none] [] (sh, I, J, R) Q))))))))) :
    rW γ l m_X9_tellsTale 0 0 31 [some (.ref x0), none, some (.int x2), some (.int x3), some (.int x4), some (.int x5), some (.int x6), none] [] (sh, I, J, R) Q := by
  by_cases p0 : x6 < 0
  · have t := t.1 p0
    obtain ⟨b2, t⟩ := t
    obtain ⟨hf, r, t, q⟩ := t
    exact ⟨hf, r, b_X9_tellsTale_31 (v5 := 0) h_x0 (fun _ => b2) (fun _ => t) (fun y0 => absurd p0 y0) (fun y0 _ => absurd p0 y0) (fun y0 _ => absurd p0 y0) (fun y0 _ _ => absurd p0 y0) (fun y0 _ _ => absurd p0 y0), q⟩
  · have t := t.2 p0
    obtain ⟨v5, m4, t⟩ := t
    by_cases p1 : (100000000 : Int32) ≤ v5
    · have t := t.1 p1
      obtain ⟨hf, r, t, q⟩ := t
      exact ⟨hf, r, b_X9_tellsTale_31  h_x0 (fun y0 => absurd y0 p0) (fun y0 => absurd y0 p0) (fun _ => m4) (fun _ _ => t) (fun _ y1 => absurd p1 y1) (fun _ y1 _ => absurd p1 y1) (fun _ y1 _ => absurd p1 y1), q⟩
    · have t := t.2 p1
      obtain ⟨b8, t⟩ := t
      by_cases p2 : (v5 + (I (x0 + 50) ((((3 : Int32) * x3) + x6)).toNatClampNeg)) = x4
      · have t := t.1 p2
        obtain ⟨hf, r, t, q⟩ := t
        exact ⟨hf, r, b_X9_tellsTale_31  h_x0 (fun y0 => absurd y0 p0) (fun y0 => absurd y0 p0) (fun _ => m4) (fun _ y1 => absurd y1 p1) (fun _ _ => b8) (fun _ _ y2 => absurd p2 y2) (fun _ _ _ => t), q⟩
      · have t := t.2 p2
        obtain ⟨hf, r, t, q⟩ := t
        exact ⟨hf, r, b_X9_tellsTale_31  h_x0 (fun y0 => absurd y0 p0) (fun y0 => absurd y0 p0) (fun _ => m4) (fun _ y1 => absurd y1 p1) (fun _ _ => b8) (fun _ _ _ => t) (fun _ _ y2 => absurd y2 p2), q⟩
abbrev s_X9_isKnown_0 (γ : rG) (l : Launch) (x0 : Nat) (x1 : Int32) (h : rHeap) (Q : rHeap → Option Value → Prop) : Prop := rW γ l m_X9_isKnown 0 0 0 [some (.ref x0), some (.int x1)] [] h Q
theorem w_X9_isKnown_0 {γ : rG} {l : Launch} {Q : rHeap → Option Value → Prop} {sh : Nat × (Nat → Nat) × (Nat → Nat)} {I : Nat → Nat → Int32} {J : Nat → Nat → Int64} {R : Nat → Nat → Option Nat} {x0 : Nat} {x1 : Int32}
    (h_x0 : At9 sh R x0)
    (t : (x1 < 0 → (Q (sh, I, J, R) (some (.int (0 : Int32))))) ∧ (¬ x1 < 0 → (((I x0 73) < x1 → (Q (sh, I, J, R) (some (.int (0 : Int32))))) ∧ (¬ (I x0 73) < x1 → (Q (sh, I, J, R) (some (.int (1 : Int32)))))))) :
    rW γ l m_X9_isKnown 0 0 0 [some (.ref x0), some (.int x1)] [] (sh, I, J, R) Q := by
  by_cases p0 : x1 < 0
  · have t := t.1 p0
    exact ⟨_, _, b_X9_isKnown_0  h_x0 (fun _ => ⟨rfl, rfl⟩) (fun y0 _ => absurd p0 y0) (fun y0 _ => absurd p0 y0), t⟩
  · have t := t.2 p0
    by_cases p1 : (I x0 73) < x1
    · have t := t.1 p1
      exact ⟨_, _, b_X9_isKnown_0  h_x0 (fun y0 => absurd y0 p0) (fun _ _ => ⟨rfl, rfl⟩) (fun _ y1 => absurd p1 y1), t⟩
    · have t := t.2 p1
      exact ⟨_, _, b_X9_isKnown_0  h_x0 (fun y0 => absurd y0 p0) (fun _ y1 => absurd y1 p1) (fun _ _ => ⟨rfl, rfl⟩), t⟩
abbrev s_X9_tale_0 (γ : rG) (l : Launch) (x0 : Nat) (x1 : Int32) (h : rHeap) (Q : rHeap → Option Value → Prop) : Prop := rW γ l m_X9_tale 0 0 0 [some (.ref x0), some (.int x1)] [] h Q
theorem w_X9_tale_0 {γ : rG} {l : Launch} {Q : rHeap → Option Value → Prop} {sh : Nat × (Nat → Nat) × (Nat → Nat)} {I : Nat → Nat → Int32} {J : Nat → Nat → Int64} {R : Nat → Nat → Option Nat} {x0 : Nat} {x1 : Int32}
    (h_x0 : At9 sh R x0)
    (t : ∃ (v2 : Int32), rMet γ l m_X9_isKnown [.ref x0, .int x1] (sh, I, J, R) (sh, I, J, R) (some (.int v2)) ∧ ((v2 = 0 → (Q (sh, I, J, R) (some (.int (-1 : Int32))))) ∧ (¬ v2 = 0 → (∃ (I4 : Nat → Nat → Int32), rMet γ l m_X9_prices [.ref x0, .int x1] (sh, I, J, R) (sh, I4, J, R) none ∧ (((I4 x0 71) = 0 → (Q (sh, I4, J, R) (some (.int (0 : Int32))))) ∧ (¬ (I4 x0 71) = 0 → (∃ (v8 : Int32), rMet γ l m_X9_least [.ref x0, .int (0 : Int32), .int (0 : Int32)] (sh, I4, J, R) (sh, I4, J, R) (some (.int v8)) ∧ (Q (sh, I4, J, R) (some (.int v8)))))))))) :
    rW γ l m_X9_tale 0 0 0 [some (.ref x0), some (.int x1)] [] (sh, I, J, R) Q := by
  obtain ⟨v2, m1, t⟩ := t
  by_cases p0 : v2 = 0
  · have t := t.1 p0
    exact ⟨_, _, b_X9_tale_0 (I4 := I) (v8 := 0) h_x0 m1 (fun y0 => absurd p0 y0) (fun y0 _ => absurd p0 y0) (fun y0 _ => absurd p0 y0) (fun y0 _ => absurd p0 y0) (fun _ => ⟨rfl, rfl⟩), t⟩
  · have t := t.2 p0
    obtain ⟨I4, m5, t⟩ := t
    by_cases p1 : (I4 x0 71) = 0
    · have t := t.1 p1
      exact ⟨_, _, b_X9_tale_0 (v8 := 0) h_x0 m1 (fun _ => m5) (fun _ y1 => absurd p1 y1) (fun _ y1 => absurd p1 y1) (fun _ _ => ⟨rfl, rfl⟩) (fun y0 => absurd y0 p0), t⟩
    · have t := t.2 p1
      obtain ⟨v8, m7, t⟩ := t
      exact ⟨_, _, b_X9_tale_0  h_x0 m1 (fun _ => m5) (fun _ _ => m7) (fun _ _ => ⟨rfl, rfl⟩) (fun _ y1 => absurd y1 p1) (fun y0 => absurd y0 p0), t⟩
abbrev s_X9_tales_0 (γ : rG) (l : Launch) (x0 : Nat) (x1 : Int32) (h : rHeap) (Q : rHeap → Option Value → Prop) : Prop := rW γ l m_X9_tales 0 0 0 [some (.ref x0), some (.int x1)] [] h Q
theorem w_X9_tales_0 {γ : rG} {l : Launch} {Q : rHeap → Option Value → Prop} {sh : Nat × (Nat → Nat) × (Nat → Nat)} {I : Nat → Nat → Int32} {J : Nat → Nat → Int64} {R : Nat → Nat → Option Nat} {x0 : Nat} {x1 : Int32}
    (h_x0 : At9 sh R x0)
    (t : ∃ (v2 : Int32), rMet γ l m_X9_isKnown [.ref x0, .int x1] (sh, I, J, R) (sh, I, J, R) (some (.int v2)) ∧ ((v2 = 0 → (Q (sh, I, J, R) (some (.long (-1 : Int64))))) ∧ (¬ v2 = 0 → (∃ (I4 : Nat → Nat → Int32), rMet γ l m_X9_prices [.ref x0, .int x1] (sh, I, J, R) (sh, I4, J, R) none ∧ (∃ (J6 : Nat → Nat → Int64) (v8 : Int64), rMet γ l m_X9_talesBut [.ref x0, .int (-1 : Int32)] (sh, I4, J, R) (sh, I4, J6, R) (some (.long v8)) ∧ (Q (sh, I4, J6, R) (some (.long v8)))))))) :
    rW γ l m_X9_tales 0 0 0 [some (.ref x0), some (.int x1)] [] (sh, I, J, R) Q := by
  obtain ⟨v2, m1, t⟩ := t
  by_cases p0 : v2 = 0
  · have t := t.1 p0
    exact ⟨_, _, b_X9_tales_0 (I4 := I) (J6 := J) (v8 := 0) h_x0 m1 (fun y0 => absurd p0 y0) (fun y0 => absurd p0 y0) (fun y0 => absurd p0 y0) (fun _ => ⟨rfl, rfl⟩), t⟩
  · have t := t.2 p0
    obtain ⟨I4, m5, t⟩ := t
    obtain ⟨J6, v8, m7, t⟩ := t
    exact ⟨_, _, b_X9_tales_0  h_x0 m1 (fun _ => m5) (fun _ => m7) (fun _ => ⟨rfl, rfl⟩) (fun y0 => absurd y0 p0), t⟩
abbrev s_X9_told_0 (γ : rG) (l : Launch) (x0 : Nat) (x1 : Int32) (x2 : Int32) (h : rHeap) (Q : rHeap → Option Value → Prop) : Prop := rW γ l m_X9_told 0 0 0 [some (.ref x0), some (.int x1), some (.int x2)] [] h Q
theorem w_X9_told_0 {γ : rG} {l : Launch} {Q : rHeap → Option Value → Prop} {sh : Nat × (Nat → Nat) × (Nat → Nat)} {I : Nat → Nat → Int32} {J : Nat → Nat → Int64} {R : Nat → Nat → Option Nat} {x0 : Nat} {x1 : Int32} {x2 : Int32}
    (h_x0 : At9 sh R x0)
    (t : (x1 < 0 → (Q (sh, I, J, R) (some (.int (-1 : Int32))))) ∧ (¬ x1 < 0 → (((I x0 71) ≤ x1 → (Q (sh, I, J, R) (some (.int (-1 : Int32))))) ∧ (¬ (I x0 71) ≤ x1 → (∃ (v6 : Int32), rMet γ l m_X9_isKnown [.ref x0, .int x2] (sh, I, J, R) (sh, I, J, R) (some (.int v6)) ∧ ((v6 = 0 → (Q (sh, I, J, R) (some (.int (-1 : Int32))))) ∧ (¬ v6 = 0 → (∃ (I8 : Nat → Nat → Int32), rMet γ l m_X9_tellsTale [.ref x0, .int x2] (sh, I, J, R) (sh, I8, J, R) none ∧ (vp_in x1 36 ∧ (Q (sh, I8, J, R) (some (.int ((I8 (x0 + 54) x1.toNatClampNeg)))))))))))))) :
    rW γ l m_X9_told 0 0 0 [some (.ref x0), some (.int x1), some (.int x2)] [] (sh, I, J, R) Q := by
  by_cases p0 : x1 < 0
  · have t := t.1 p0
    exact ⟨_, _, b_X9_told_0 (v6 := 0) (I8 := I) h_x0 (fun _ => ⟨rfl, rfl⟩) (fun y0 _ => absurd p0 y0) (fun y0 _ => absurd p0 y0) (fun y0 _ _ => absurd p0 y0) (fun y0 _ _ => absurd p0 y0) (fun y0 _ _ => absurd p0 y0) (fun y0 _ _ => absurd p0 y0), t⟩
  · have t := t.2 p0
    by_cases p1 : (I x0 71) ≤ x1
    · have t := t.1 p1
      exact ⟨_, _, b_X9_told_0 (v6 := 0) (I8 := I) h_x0 (fun y0 => absurd y0 p0) (fun _ _ => ⟨rfl, rfl⟩) (fun _ y1 => absurd p1 y1) (fun _ y1 _ => absurd p1 y1) (fun _ y1 _ => absurd p1 y1) (fun _ y1 _ => absurd p1 y1) (fun _ y1 _ => absurd p1 y1), t⟩
    · have t := t.2 p1
      obtain ⟨v6, m5, t⟩ := t
      by_cases p2 : v6 = 0
      · have t := t.1 p2
        exact ⟨_, _, b_X9_told_0 (I8 := I) h_x0 (fun y0 => absurd y0 p0) (fun _ y1 => absurd y1 p1) (fun _ _ => m5) (fun _ _ y2 => absurd p2 y2) (fun _ _ y2 => absurd p2 y2) (fun _ _ y2 => absurd p2 y2) (fun _ _ _ => ⟨rfl, rfl⟩), t⟩
      · have t := t.2 p2
        obtain ⟨I8, m9, t⟩ := t
        obtain ⟨b10, t⟩ := t
        exact ⟨_, _, b_X9_told_0  h_x0 (fun y0 => absurd y0 p0) (fun _ y1 => absurd y1 p1) (fun _ _ => m5) (fun _ _ _ => m9) (fun _ _ _ => b10) (fun _ _ _ => ⟨rfl, rfl⟩) (fun _ _ y2 => absurd y2 p2), t⟩
abbrev s_X9_opened_0 (γ : rG) (l : Launch) (x0 : Nat) (x1 : Int32) (x2 : Int32) (h : rHeap) (Q : rHeap → Option Value → Prop) : Prop := rW γ l m_X9_opened 0 0 0 [some (.ref x0), some (.int x1), some (.int x2), none, none, none, none] [] h Q
theorem w_X9_opened_0 {γ : rG} {l : Launch} {Q : rHeap → Option Value → Prop} {sh : Nat × (Nat → Nat) × (Nat → Nat)} {I : Nat → Nat → Int32} {J : Nat → Nat → Int64} {R : Nat → Nat → Option Nat} {x0 : Nat} {x1 : Int32} {x2 : Int32}
    (h_x0 : At9 sh R x0)
    (t : (x1 < 0 → (Q (sh, I, J, R) (some (.int (-1 : Int32))))) ∧ (¬ x1 < 0 → (((I x0 69) ≤ x1 → (Q (sh, I, J, R) (some (.int (-1 : Int32))))) ∧ (¬ (I x0 69) ≤ x1 → (∃ (v6 : Int32), rMet γ l m_X9_isKnown [.ref x0, .int x2] (sh, I, J, R) (sh, I, J, R) (some (.int v6)) ∧ ((v6 = 0 → (Q (sh, I, J, R) (some (.int (-1 : Int32))))) ∧ (¬ v6 = 0 → (∃ (I8 : Nat → Nat → Int32), rMet γ l m_X9_prices [.ref x0, .int x2] (sh, I, J, R) (sh, I8, J, R) none ∧ (∃ (J10 : Nat → Nat → Int64) (v12 : Int64), rMet γ l m_X9_talesBut [.ref x0, .int (-1 : Int32)] (sh, I8, J, R) (sh, I8, J10, R) (some (.long v12)) ∧ (∃ (J13 : Nat → Nat → Int64) (v15 : Int64), rMet γ l m_X9_talesBut [.ref x0, .int x1] (sh, I8, J10, R) (sh, I8, J13, R) (some (.long v15)) ∧ (((lg_cmp v15 (0 : Int64)) = 0 → (Q (sh, I8, J13, R) (some (.int (1 : Int32))))) ∧ (¬ (lg_cmp v15 (0 : Int64)) = 0 → (((lg_cmp v15 v12) = 0 → (Q (sh, I8, J13, R) (some (.int (0 : Int32))))) ∧ (¬ (lg_cmp v15 v12) = 0 → (Q (sh, I8, J13, R) (some (.int (2 : Int32)))))))))))))))))) :
    rW γ l m_X9_opened 0 0 0 [some (.ref x0), some (.int x1), some (.int x2), none, none, none, none] [] (sh, I, J, R) Q := by
  by_cases p0 : x1 < 0
  · have t := t.1 p0
    exact ⟨_, _, b_X9_opened_0 (v6 := 0) (I8 := I) (J10 := J) (v12 := 0) (J13 := J) (v15 := 0) h_x0 (fun _ => ⟨rfl, rfl⟩) (fun y0 _ => absurd p0 y0) (fun y0 _ => absurd p0 y0) (fun y0 _ _ => absurd p0 y0) (fun y0 _ _ => absurd p0 y0) (fun y0 _ _ => absurd p0 y0) (fun y0 _ _ _ _ => absurd p0 y0) (fun y0 _ _ _ _ => absurd p0 y0) (fun y0 _ _ _ => absurd p0 y0) (fun y0 _ _ => absurd p0 y0), t⟩
  · have t := t.2 p0
    by_cases p1 : (I x0 69) ≤ x1
    · have t := t.1 p1
      exact ⟨_, _, b_X9_opened_0 (v6 := 0) (I8 := I) (J10 := J) (v12 := 0) (J13 := J) (v15 := 0) h_x0 (fun y0 => absurd y0 p0) (fun _ _ => ⟨rfl, rfl⟩) (fun _ y1 => absurd p1 y1) (fun _ y1 _ => absurd p1 y1) (fun _ y1 _ => absurd p1 y1) (fun _ y1 _ => absurd p1 y1) (fun _ y1 _ _ _ => absurd p1 y1) (fun _ y1 _ _ _ => absurd p1 y1) (fun _ y1 _ _ => absurd p1 y1) (fun _ y1 _ => absurd p1 y1), t⟩
    · have t := t.2 p1
      obtain ⟨v6, m5, t⟩ := t
      by_cases p2 : v6 = 0
      · have t := t.1 p2
        exact ⟨_, _, b_X9_opened_0 (I8 := I) (J10 := J) (v12 := 0) (J13 := J) (v15 := 0) h_x0 (fun y0 => absurd y0 p0) (fun _ y1 => absurd y1 p1) (fun _ _ => m5) (fun _ _ y2 => absurd p2 y2) (fun _ _ y2 => absurd p2 y2) (fun _ _ y2 => absurd p2 y2) (fun _ _ y2 _ _ => absurd p2 y2) (fun _ _ y2 _ _ => absurd p2 y2) (fun _ _ y2 _ => absurd p2 y2) (fun _ _ _ => ⟨rfl, rfl⟩), t⟩
      · have t := t.2 p2
        obtain ⟨I8, m9, t⟩ := t
        obtain ⟨J10, v12, m11, t⟩ := t
        obtain ⟨J13, v15, m14, t⟩ := t
        by_cases p3 : (lg_cmp v15 (0 : Int64)) = 0
        · have t := t.1 p3
          exact ⟨_, _, b_X9_opened_0  h_x0 (fun y0 => absurd y0 p0) (fun _ y1 => absurd y1 p1) (fun _ _ => m5) (fun _ _ _ => m9) (fun _ _ _ => m11) (fun _ _ _ => m14) (fun _ _ _ y3 _ => absurd p3 y3) (fun _ _ _ y3 _ => absurd p3 y3) (fun _ _ _ _ => ⟨rfl, rfl⟩) (fun _ _ y2 => absurd y2 p2), t⟩
        · have t := t.2 p3
          by_cases p4 : (lg_cmp v15 v12) = 0
          · have t := t.1 p4
            exact ⟨_, _, b_X9_opened_0  h_x0 (fun y0 => absurd y0 p0) (fun _ y1 => absurd y1 p1) (fun _ _ => m5) (fun _ _ _ => m9) (fun _ _ _ => m11) (fun _ _ _ => m14) (fun _ _ _ _ y4 => absurd p4 y4) (fun _ _ _ _ _ => ⟨rfl, rfl⟩) (fun _ _ _ y3 => absurd y3 p3) (fun _ _ y2 => absurd y2 p2), t⟩
          · have t := t.2 p4
            exact ⟨_, _, b_X9_opened_0  h_x0 (fun y0 => absurd y0 p0) (fun _ y1 => absurd y1 p1) (fun _ _ => m5) (fun _ _ _ => m9) (fun _ _ _ => m11) (fun _ _ _ => m14) (fun _ _ _ _ _ => ⟨rfl, rfl⟩) (fun _ _ _ _ y4 => absurd y4 p4) (fun _ _ _ y3 => absurd y3 p3) (fun _ _ y2 => absurd y2 p2), t⟩
abbrev s_X9_turned_0 (γ : rG) (l : Launch) (x0 : Nat) (x1 : Int32) (h : rHeap) (Q : rHeap → Option Value → Prop) : Prop := rW γ l m_X9_turned 0 0 0 [some (.ref x0), some (.int x1), none, none] [] h Q
theorem w_X9_turned_0 {γ : rG} {l : Launch} {Q : rHeap → Option Value → Prop} {sh : Nat × (Nat → Nat) × (Nat → Nat)} {I : Nat → Nat → Int32} {J : Nat → Nat → Int64} {R : Nat → Nat → Option Nat} {x0 : Nat} {x1 : Int32}
    (h_x0 : At9 sh R x0)
    (t : (x1 < 0 → (Q (sh, I, J, R) (some (.int (-1 : Int32))))) ∧ (¬ x1 < 0 → ((x1 < (I x0 73) → (∃ (I4 : Nat → Nat → Int32), rMet γ l m_X9_tellsTale [.ref x0, .int x1] (sh, I, J, R) (sh, I4, J, R) none ∧ (rW γ l m_X9_turned 0 0 21 [some (.ref x0), none, some (.int x1), none] [] (sh, I4, J, R) Q))) ∧ (¬ x1 < (I x0 73) → (Q (sh, I, J, R) (some (.int (-1 : Int32)))))))) :
    rW γ l m_X9_turned 0 0 0 [some (.ref x0), some (.int x1), none, none] [] (sh, I, J, R) Q := by
  by_cases p0 : x1 < 0
  · have t := t.1 p0
    exact ⟨_, _, b_X9_turned_0 (I4 := I) h_x0 (fun _ => ⟨rfl, rfl⟩) (fun y0 _ => absurd p0 y0) (fun y0 _ => absurd p0 y0) (fun y0 _ => absurd p0 y0), t⟩
  · have t := t.2 p0
    by_cases p1 : x1 < (I x0 73)
    · have t := t.1 p1
      obtain ⟨I4, m5, t⟩ := t
      obtain ⟨hf, r, t, q⟩ := t
      exact ⟨hf, r, b_X9_turned_0  h_x0 (fun y0 => absurd y0 p0) (fun _ _ => m5) (fun _ _ => t) (fun _ y1 => absurd p1 y1), q⟩
    · have t := t.2 p1
      exact ⟨_, _, b_X9_turned_0 (I4 := I) h_x0 (fun y0 => absurd y0 p0) (fun _ y1 => absurd y1 p1) (fun _ y1 => absurd y1 p1) (fun _ _ => ⟨rfl, rfl⟩), t⟩
abbrev s_X9_turned_21 (γ : rG) (l : Launch) (x0 : Nat) (x2 : Int32) (h : rHeap) (Q : rHeap → Option Value → Prop) : Prop := rW γ l m_X9_turned 0 0 21 [some (.ref x0), none, some (.int x2), none] [] h Q
theorem w_X9_turned_21 {γ : rG} {l : Launch} {Q : rHeap → Option Value → Prop} {sh : Nat × (Nat → Nat) × (Nat → Nat)} {I : Nat → Nat → Int32} {J : Nat → Nat → Int64} {R : Nat → Nat → Option Nat} {x0 : Nat} {x2 : Int32}
    (h_x0 : At9 sh R x0)
    (t : ((I x0 73) ≤ x2 → (Q (sh, I, J, R) (some (.int (-1 : Int32))))) ∧ (¬ (I x0 73) ≤ x2 → (rW γ l m_X9_turned 0 0 31 [some (.ref x0), none, some (.int x2), some (.int (0 : Int32))] [] (sh, I, J, R) Q))) :
    rW γ l m_X9_turned 0 0 21 [some (.ref x0), none, some (.int x2), none] [] (sh, I, J, R) Q := by
  by_cases p0 : (I x0 73) ≤ x2
  · have t := t.1 p0
    exact ⟨_, _, b_X9_turned_21  h_x0 (fun _ => ⟨rfl, rfl⟩) (fun y0 => absurd p0 y0), t⟩
  · have t := t.2 p0
    obtain ⟨hf, r, t, q⟩ := t
    exact ⟨hf, r, b_X9_turned_21  h_x0 (fun y0 => absurd y0 p0) (fun _ => t), q⟩
abbrev s_X9_turned_31 (γ : rG) (l : Launch) (x0 : Nat) (x2 : Int32) (x3 : Int32) (h : rHeap) (Q : rHeap → Option Value → Prop) : Prop := rW γ l m_X9_turned 0 0 31 [some (.ref x0), none, some (.int x2), some (.int x3)] [] h Q
theorem w_X9_turned_31 {γ : rG} {l : Launch} {Q : rHeap → Option Value → Prop} {sh : Nat × (Nat → Nat) × (Nat → Nat)} {I : Nat → Nat → Int32} {J : Nat → Nat → Int64} {R : Nat → Nat → Option Nat} {x0 : Nat} {x2 : Int32} {x3 : Int32}
    (h_x0 : At9 sh R x0)
    (t : ((I x0 71) ≤ x3 → (∃ (I2 : Nat → Nat → Int32), rMet γ l m_X9_tellsTale [.ref x0, .int (x2 + (1 : Int32))] (sh, I, J, R) (sh, I2, J, R) none ∧ (rW γ l m_X9_turned 0 0 66 [some (.ref x0), none, some (.int x2), some (.int (0 : Int32))] [] (sh, I2, J, R) Q))) ∧ (¬ (I x0 71) ≤ x3 → (vp_in x3 36 ∧ (vp_in x3 36 ∧ (rW γ l m_X9_turned 0 0 31 [some (.ref x0), none, some (.int x2), some (.int (x3 + (1 : Int32)))] [] (sh, (up I (x0 + 55) x3.toNatClampNeg ((I (x0 + 54) x3.toNatClampNeg))), J, R) Q))))) :
    rW γ l m_X9_turned 0 0 31 [some (.ref x0), none, some (.int x2), some (.int x3)] [] (sh, I, J, R) Q := by
  by_cases p0 : (I x0 71) ≤ x3
  · have t := t.1 p0
    obtain ⟨I2, m3, t⟩ := t
    obtain ⟨hf, r, t, q⟩ := t
    exact ⟨hf, r, b_X9_turned_31  h_x0 (fun _ => m3) (fun _ => t) (fun y0 => absurd p0 y0) (fun y0 => absurd p0 y0) (fun y0 => absurd p0 y0), q⟩
  · have t := t.2 p0
    obtain ⟨b5, t⟩ := t
    obtain ⟨b6, t⟩ := t
    obtain ⟨hf, r, t, q⟩ := t
    exact ⟨hf, r, b_X9_turned_31 (I2 := I) h_x0 (fun y0 => absurd y0 p0) (fun y0 => absurd y0 p0) (fun _ => b5) (fun _ => b6) (fun _ => t), q⟩
abbrev s_X9_turned_66 (γ : rG) (l : Launch) (x0 : Nat) (x2 : Int32) (x3 : Int32) (h : rHeap) (Q : rHeap → Option Value → Prop) : Prop := rW γ l m_X9_turned 0 0 66 [some (.ref x0), none, some (.int x2), some (.int x3)] [] h Q
theorem w_X9_turned_66 {γ : rG} {l : Launch} {Q : rHeap → Option Value → Prop} {sh : Nat × (Nat → Nat) × (Nat → Nat)} {I : Nat → Nat → Int32} {J : Nat → Nat → Int64} {R : Nat → Nat → Option Nat} {x0 : Nat} {x2 : Int32} {x3 : Int32}
    (h_x0 : At9 sh R x0)
    (t : ((I x0 71) ≤ x3 → (rW γ l m_X9_turned 0 0 21 [some (.ref x0), none, some (.int (x2 + (1 : Int32))), none] [] (sh, I, J, R) Q)) ∧ (¬ (I x0 71) ≤ x3 → (vp_in x3 36 ∧ (vp_in x3 36 ∧ (((I (x0 + 54) x3.toNatClampNeg) = (I (x0 + 55) x3.toNatClampNeg) → (rW γ l m_X9_turned 0 0 66 [some (.ref x0), none, some (.int x2), some (.int (x3 + (1 : Int32)))] [] (sh, I, J, R) Q)) ∧ (¬ (I (x0 + 54) x3.toNatClampNeg) = (I (x0 + 55) x3.toNatClampNeg) → (Q (sh, I, J, R) (some (.int x2))))))))) :
    rW γ l m_X9_turned 0 0 66 [some (.ref x0), none, some (.int x2), some (.int x3)] [] (sh, I, J, R) Q := by
  by_cases p0 : (I x0 71) ≤ x3
  · have t := t.1 p0
    obtain ⟨hf, r, t, q⟩ := t
    exact ⟨hf, r, b_X9_turned_66  h_x0 (fun _ => t) (fun y0 => absurd p0 y0) (fun y0 => absurd p0 y0) (fun y0 _ => absurd p0 y0) (fun y0 _ => absurd p0 y0), q⟩
  · have t := t.2 p0
    obtain ⟨b3, t⟩ := t
    obtain ⟨b4, t⟩ := t
    by_cases p1 : (I (x0 + 54) x3.toNatClampNeg) = (I (x0 + 55) x3.toNatClampNeg)
    · have t := t.1 p1
      obtain ⟨hf, r, t, q⟩ := t
      exact ⟨hf, r, b_X9_turned_66  h_x0 (fun y0 => absurd y0 p0) (fun _ => b3) (fun _ => b4) (fun _ _ => t) (fun _ y1 => absurd p1 y1), q⟩
    · have t := t.2 p1
      exact ⟨_, _, b_X9_turned_66  h_x0 (fun y0 => absurd y0 p0) (fun _ => b3) (fun _ => b4) (fun _ y1 => absurd y1 p1) (fun _ _ => ⟨rfl, rfl⟩), t⟩
abbrev s_X9_count_0 (γ : rG) (l : Launch) (x0 : Nat) (x1 : Int32) (h : rHeap) (Q : rHeap → Option Value → Prop) : Prop := rW γ l m_X9_count 0 0 0 [some (.ref x0), some (.int x1), none, none] [] h Q
theorem w_X9_count_0 {γ : rG} {l : Launch} {Q : rHeap → Option Value → Prop} {sh : Nat × (Nat → Nat) × (Nat → Nat)} {I : Nat → Nat → Int32} {J : Nat → Nat → Int64} {R : Nat → Nat → Option Nat} {x0 : Nat} {x1 : Int32}
    (h_x0 : At9 sh R x0)
    (t : (x1 = (0 : Int32) → (Q (sh, I, J, R) (some (.int (I x0 39))))) ∧ (¬ x1 = (0 : Int32) → ((x1 = (1 : Int32) → (vp_in (I x0 48) 22 ∧ (Q (sh, I, J, R) (some (.int ((I (x0 + 25) (I x0 48).toNatClampNeg))))))) ∧ (¬ x1 = (1 : Int32) → ((x1 = (2 : Int32) → (Q (sh, I, J, R) (some (.int (I x0 48))))) ∧ (¬ x1 = (2 : Int32) → ((x1 = (3 : Int32) → (vp_in (I x0 18) 2 ∧ (Q (sh, I, J, R) (some (.int ((I (x0 + 8) (I x0 18).toNatClampNeg))))))) ∧ (¬ x1 = (3 : Int32) → ((x1 = (4 : Int32) → (Q (sh, I, J, R) (some (.int (I x0 2))))) ∧ (¬ x1 = (4 : Int32) → ((x1 = (5 : Int32) → (rW γ l m_X9_count 0 0 91 [some (.ref x0), none, some (.int (0 : Int32)), some (.int (0 : Int32))] [] (sh, I, J, R) Q)) ∧ (¬ x1 = (5 : Int32) → ((x1 = (6 : Int32) → (Q (sh, I, J, R) (some (.int (I x0 69))))) ∧ (¬ x1 = (6 : Int32) → ((x1 = (7 : Int32) → (Q (sh, I, J, R) (some (.int (I x0 71))))) ∧ (¬ x1 = (7 : Int32) → ((x1 = (8 : Int32) → (Q (sh, I, J, R) (some (.int (I x0 73))))) ∧ (¬ x1 = (8 : Int32) → (Q (sh, I, J, R) (some (.int (-1 : Int32)))))))))))))))))))))) :
    rW γ l m_X9_count 0 0 0 [some (.ref x0), some (.int x1), none, none] [] (sh, I, J, R) Q := by
  by_cases p0 : x1 = (0 : Int32)
  · have t := t.1 p0
    exact ⟨_, _, b_X9_count_0  h_x0 (fun _ => ⟨rfl, rfl⟩) (fun y0 _ => absurd p0 y0) (fun y0 _ => absurd p0 y0) (fun y0 _ _ => absurd p0 y0) (fun y0 _ _ _ => absurd p0 y0) (fun y0 _ _ _ => absurd p0 y0) (fun y0 _ _ _ _ => absurd p0 y0) (fun y0 _ _ _ _ _ => absurd p0 y0) (fun y0 _ _ _ _ _ _ => absurd p0 y0) (fun y0 _ _ _ _ _ _ _ => absurd p0 y0) (fun y0 _ _ _ _ _ _ _ _ => absurd p0 y0) (fun y0 _ _ _ _ _ _ _ _ => absurd p0 y0), t⟩
  · have t := t.2 p0
    by_cases p1 : x1 = (1 : Int32)
    · have t := t.1 p1
      obtain ⟨b4, t⟩ := t
      exact ⟨_, _, b_X9_count_0  h_x0 (fun y0 => absurd y0 p0) (fun _ _ => b4) (fun _ _ => ⟨rfl, rfl⟩) (fun _ y1 _ => absurd p1 y1) (fun _ y1 _ _ => absurd p1 y1) (fun _ y1 _ _ => absurd p1 y1) (fun _ y1 _ _ _ => absurd p1 y1) (fun _ y1 _ _ _ _ => absurd p1 y1) (fun _ y1 _ _ _ _ _ => absurd p1 y1) (fun _ y1 _ _ _ _ _ _ => absurd p1 y1) (fun _ y1 _ _ _ _ _ _ _ => absurd p1 y1) (fun _ y1 _ _ _ _ _ _ _ => absurd p1 y1), t⟩
    · have t := t.2 p1
      by_cases p2 : x1 = (2 : Int32)
      · have t := t.1 p2
        exact ⟨_, _, b_X9_count_0  h_x0 (fun y0 => absurd y0 p0) (fun _ y1 => absurd y1 p1) (fun _ y1 => absurd y1 p1) (fun _ _ _ => ⟨rfl, rfl⟩) (fun _ _ y2 _ => absurd p2 y2) (fun _ _ y2 _ => absurd p2 y2) (fun _ _ y2 _ _ => absurd p2 y2) (fun _ _ y2 _ _ _ => absurd p2 y2) (fun _ _ y2 _ _ _ _ => absurd p2 y2) (fun _ _ y2 _ _ _ _ _ => absurd p2 y2) (fun _ _ y2 _ _ _ _ _ _ => absurd p2 y2) (fun _ _ y2 _ _ _ _ _ _ => absurd p2 y2), t⟩
      · have t := t.2 p2
        by_cases p3 : x1 = (3 : Int32)
        · have t := t.1 p3
          obtain ⟨b9, t⟩ := t
          exact ⟨_, _, b_X9_count_0  h_x0 (fun y0 => absurd y0 p0) (fun _ y1 => absurd y1 p1) (fun _ y1 => absurd y1 p1) (fun _ _ y2 => absurd y2 p2) (fun _ _ _ _ => b9) (fun _ _ _ _ => ⟨rfl, rfl⟩) (fun _ _ _ y3 _ => absurd p3 y3) (fun _ _ _ y3 _ _ => absurd p3 y3) (fun _ _ _ y3 _ _ _ => absurd p3 y3) (fun _ _ _ y3 _ _ _ _ => absurd p3 y3) (fun _ _ _ y3 _ _ _ _ _ => absurd p3 y3) (fun _ _ _ y3 _ _ _ _ _ => absurd p3 y3), t⟩
        · have t := t.2 p3
          by_cases p4 : x1 = (4 : Int32)
          · have t := t.1 p4
            exact ⟨_, _, b_X9_count_0  h_x0 (fun y0 => absurd y0 p0) (fun _ y1 => absurd y1 p1) (fun _ y1 => absurd y1 p1) (fun _ _ y2 => absurd y2 p2) (fun _ _ _ y3 => absurd y3 p3) (fun _ _ _ y3 => absurd y3 p3) (fun _ _ _ _ _ => ⟨rfl, rfl⟩) (fun _ _ _ _ y4 _ => absurd p4 y4) (fun _ _ _ _ y4 _ _ => absurd p4 y4) (fun _ _ _ _ y4 _ _ _ => absurd p4 y4) (fun _ _ _ _ y4 _ _ _ _ => absurd p4 y4) (fun _ _ _ _ y4 _ _ _ _ => absurd p4 y4), t⟩
          · have t := t.2 p4
            by_cases p5 : x1 = (5 : Int32)
            · have t := t.1 p5
              obtain ⟨hf, r, t, q⟩ := t
              exact ⟨hf, r, b_X9_count_0  h_x0 (fun y0 => absurd y0 p0) (fun _ y1 => absurd y1 p1) (fun _ y1 => absurd y1 p1) (fun _ _ y2 => absurd y2 p2) (fun _ _ _ y3 => absurd y3 p3) (fun _ _ _ y3 => absurd y3 p3) (fun _ _ _ _ y4 => absurd y4 p4) (fun _ _ _ _ _ _ => t) (fun _ _ _ _ _ y5 _ => absurd p5 y5) (fun _ _ _ _ _ y5 _ _ => absurd p5 y5) (fun _ _ _ _ _ y5 _ _ _ => absurd p5 y5) (fun _ _ _ _ _ y5 _ _ _ => absurd p5 y5), q⟩
            · have t := t.2 p5
              by_cases p6 : x1 = (6 : Int32)
              · have t := t.1 p6
                exact ⟨_, _, b_X9_count_0  h_x0 (fun y0 => absurd y0 p0) (fun _ y1 => absurd y1 p1) (fun _ y1 => absurd y1 p1) (fun _ _ y2 => absurd y2 p2) (fun _ _ _ y3 => absurd y3 p3) (fun _ _ _ y3 => absurd y3 p3) (fun _ _ _ _ y4 => absurd y4 p4) (fun _ _ _ _ _ y5 => absurd y5 p5) (fun _ _ _ _ _ _ _ => ⟨rfl, rfl⟩) (fun _ _ _ _ _ _ y6 _ => absurd p6 y6) (fun _ _ _ _ _ _ y6 _ _ => absurd p6 y6) (fun _ _ _ _ _ _ y6 _ _ => absurd p6 y6), t⟩
              · have t := t.2 p6
                by_cases p7 : x1 = (7 : Int32)
                · have t := t.1 p7
                  exact ⟨_, _, b_X9_count_0  h_x0 (fun y0 => absurd y0 p0) (fun _ y1 => absurd y1 p1) (fun _ y1 => absurd y1 p1) (fun _ _ y2 => absurd y2 p2) (fun _ _ _ y3 => absurd y3 p3) (fun _ _ _ y3 => absurd y3 p3) (fun _ _ _ _ y4 => absurd y4 p4) (fun _ _ _ _ _ y5 => absurd y5 p5) (fun _ _ _ _ _ _ y6 => absurd y6 p6) (fun _ _ _ _ _ _ _ _ => ⟨rfl, rfl⟩) (fun _ _ _ _ _ _ _ y7 _ => absurd p7 y7) (fun _ _ _ _ _ _ _ y7 _ => absurd p7 y7), t⟩
                · have t := t.2 p7
                  by_cases p8 : x1 = (8 : Int32)
                  · have t := t.1 p8
                    exact ⟨_, _, b_X9_count_0  h_x0 (fun y0 => absurd y0 p0) (fun _ y1 => absurd y1 p1) (fun _ y1 => absurd y1 p1) (fun _ _ y2 => absurd y2 p2) (fun _ _ _ y3 => absurd y3 p3) (fun _ _ _ y3 => absurd y3 p3) (fun _ _ _ _ y4 => absurd y4 p4) (fun _ _ _ _ _ y5 => absurd y5 p5) (fun _ _ _ _ _ _ y6 => absurd y6 p6) (fun _ _ _ _ _ _ _ y7 => absurd y7 p7) (fun _ _ _ _ _ _ _ _ _ => ⟨rfl, rfl⟩) (fun _ _ _ _ _ _ _ _ y8 => absurd p8 y8), t⟩
                  · have t := t.2 p8
                    exact ⟨_, _, b_X9_count_0  h_x0 (fun y0 => absurd y0 p0) (fun _ y1 => absurd y1 p1) (fun _ y1 => absurd y1 p1) (fun _ _ y2 => absurd y2 p2) (fun _ _ _ y3 => absurd y3 p3) (fun _ _ _ y3 => absurd y3 p3) (fun _ _ _ _ y4 => absurd y4 p4) (fun _ _ _ _ _ y5 => absurd y5 p5) (fun _ _ _ _ _ _ y6 => absurd y6 p6) (fun _ _ _ _ _ _ _ y7 => absurd y7 p7) (fun _ _ _ _ _ _ _ _ y8 => absurd y8 p8) (fun _ _ _ _ _ _ _ _ _ => ⟨rfl, rfl⟩), t⟩
abbrev s_X9_count_91 (γ : rG) (l : Launch) (x0 : Nat) (x2 : Int32) (x3 : Int32) (h : rHeap) (Q : rHeap → Option Value → Prop) : Prop := rW γ l m_X9_count 0 0 91 [some (.ref x0), none, some (.int x2), some (.int x3)] [] h Q
theorem w_X9_count_91 {γ : rG} {l : Launch} {Q : rHeap → Option Value → Prop} {sh : Nat × (Nat → Nat) × (Nat → Nat)} {I : Nat → Nat → Int32} {J : Nat → Nat → Int64} {R : Nat → Nat → Option Nat} {x0 : Nat} {x2 : Int32} {x3 : Int32}
    (h_x0 : At9 sh R x0)
    (t : ((I x0 48) ≤ x3 → (Q (sh, I, J, R) (some (.int x2)))) ∧ (¬ (I x0 48) ≤ x3 → (∃ (I3 : Nat → Nat → Int32) (v5 : Int32), rMet γ l m_X9_harmOf [.ref x0, .int x3] (sh, I, J, R) (sh, I3, J, R) (some (.int v5)) ∧ (rW γ l m_X9_count 0 0 91 [some (.ref x0), none, some (.int (x2 + v5)), some (.int (x3 + (1 : Int32)))] [] (sh, I3, J, R) Q)))) :
    rW γ l m_X9_count 0 0 91 [some (.ref x0), none, some (.int x2), some (.int x3)] [] (sh, I, J, R) Q := by
  by_cases p0 : (I x0 48) ≤ x3
  · have t := t.1 p0
    exact ⟨_, _, b_X9_count_91 (I3 := I) (v5 := 0) h_x0 (fun _ => ⟨rfl, rfl⟩) (fun y0 => absurd p0 y0) (fun y0 => absurd p0 y0), t⟩
  · have t := t.2 p0
    obtain ⟨I3, v5, m4, t⟩ := t
    obtain ⟨hf, r, t, q⟩ := t
    exact ⟨hf, r, b_X9_count_91  h_x0 (fun y0 => absurd y0 p0) (fun _ => m4) (fun _ => t), q⟩
