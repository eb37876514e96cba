abbrev s_X8_feed_0 (γ : rG) (l : Launch) (x0 : Nat) (x1 : Int32) (x2 : Int32) (x3 : Int32) (x4 : Int32) (x5 : Int32) (h : rHeap) (Q : rHeap → Option Value → Prop) : Prop := rW γ l m_X8_feed 0 0 0 [some (.ref x0), some (.int x1), some (.int x2), some (.int x3), some (.int x4), some (.int x5)] [] h Q
theorem w_X8_feed_0 {γ : rG} {l : Launch} {Q : rHeap → Option Value → Prop} {sh : Nat × (Nat → Nat) × (Nat → Nat)} {I : Nat → Nat → Int32} {J : Nat → Nat → Int64} {R : Nat → Nat → Option Nat} {x0 : Nat} {x1 : Int32} {x2 : Int32} {x3 : Int32} {x4 : Int32} {x5 : Int32}
    (h_x0 : At8 sh R x0)
    (t : (((I (x0 + 1) 1) + (20 : Int32)) ≤ (2000 : Int32) → (∃ (I2 : Nat → Nat → Int32), rMet γ l m_X6_append [.ref (x0 + 1), .int x1] (sh, I, J, R) (sh, I2, J, R) none ∧ (∃ (I4 : Nat → Nat → Int32), rMet γ l m_X6_append [.ref (x0 + 1), .int x2] (sh, I2, J, R) (sh, I4, J, R) none ∧ (∃ (I6 : Nat → Nat → Int32), rMet γ l m_X6_append [.ref (x0 + 1), .int x3] (sh, I4, J, R) (sh, I6, J, R) none ∧ (∃ (I8 : Nat → Nat → Int32), rMet γ l m_X6_append [.ref (x0 + 1), .int x4] (sh, I6, J, R) (sh, I8, J, R) none ∧ (∃ (I10 : Nat → Nat → Int32), rMet γ l m_X6_append [.ref (x0 + 1), .int x5] (sh, I8, J, R) (sh, I10, J, R) none ∧ (Q (sh, I10, J, R) (some (.int ((I10 (x0 + 1) 1))))))))))) ∧ (¬ ((I (x0 + 1) 1) + (20 : Int32)) ≤ (2000 : Int32) → (Q (sh, I, J, R) (some (.int (-1 : Int32)))))) :
    rW γ l m_X8_feed 0 0 0 [some (.ref x0), some (.int x1), some (.int x2), some (.int x3), some (.int x4), some (.int x5)] [] (sh, I, J, R) Q := by
  by_cases p0 : ((I (x0 + 1) 1) + (20 : Int32)) ≤ (2000 : Int32)
  · have t := t.1 p0
    obtain ⟨I2, m3, t⟩ := t
    obtain ⟨I4, m5, t⟩ := t
    obtain ⟨I6, m7, t⟩ := t
    obtain ⟨I8, m9, t⟩ := t
    obtain ⟨I10, m11, t⟩ := t
    exact ⟨_, _, b_X8_feed_0  h_x0 (fun _ => m3) (fun _ => m5) (fun _ => m7) (fun _ => m9) (fun _ => m11) (fun _ => ⟨rfl, rfl⟩) (fun y0 => absurd p0 y0), t⟩
  · have t := t.2 p0
    exact ⟨_, _, b_X8_feed_0 (I2 := I) (I4 := I) (I6 := I) (I8 := I) (I10 := I) h_x0 (fun y0 => absurd y0 p0) (fun y0 => absurd y0 p0) (fun y0 => absurd y0 p0) (fun y0 => absurd y0 p0) (fun y0 => absurd y0 p0) (fun y0 => absurd y0 p0) (fun _ => ⟨rfl, rfl⟩), t⟩
abbrev s_X8_back_0 (γ : rG) (l : Launch) (x0 : Nat) (x1 : Int32) (h : rHeap) (Q : rHeap → Option Value → Prop) : Prop := rW γ l m_X8_back 0 0 0 [some (.ref x0), some (.int x1)] [] h Q
theorem w_X8_back_0 {γ : rG} {l : Launch} {Q : rHeap → Option Value → Prop} {sh : Nat × (Nat → Nat) × (Nat → Nat)} {I : Nat → Nat → Int32} {J : Nat → Nat → Int64} {R : Nat → Nat → Option Nat} {x0 : Nat} {x1 : Int32}
    (h_x0 : At8 sh R x0)
    (t : (x1 < 0 → (Q (sh, I, J, R) (some (.int (-1 : Int32))))) ∧ (¬ x1 < 0 → ((x1 ≤ (I (x0 + 1) 1) → (Q (sh, (up I (x0 + 1) 1 (((I (x0 + 1) 1) - x1))), J, R) (some (.int (((up I (x0 + 1) 1 (((I (x0 + 1) 1) - x1))) (x0 + 1) 1)))))) ∧ (¬ x1 ≤ (I (x0 + 1) 1) → (Q (sh, I, J, R) (some (.int (-1 : Int32)))))))) :
    rW γ l m_X8_back 0 0 0 [some (.ref x0), some (.int x1)] [] (sh, I, J, R) Q := by
  by_cases p0 : x1 < 0
  · have t := t.1 p0
    exact ⟨_, _, b_X8_back_0  h_x0 (fun _ => ⟨rfl, rfl⟩) (fun y0 _ => absurd p0 y0) (fun y0 _ => absurd p0 y0), t⟩
  · have t := t.2 p0
    by_cases p1 : x1 ≤ (I (x0 + 1) 1)
    · have t := t.1 p1
      exact ⟨_, _, b_X8_back_0  h_x0 (fun y0 => absurd y0 p0) (fun _ _ => ⟨rfl, rfl⟩) (fun _ y1 => absurd p1 y1), t⟩
    · have t := t.2 p1
      exact ⟨_, _, b_X8_back_0  h_x0 (fun y0 => absurd y0 p0) (fun _ y1 => absurd y1 p1) (fun _ _ => ⟨rfl, rfl⟩), t⟩
abbrev s_X8_read_0 (γ : rG) (l : Launch) (x0 : Nat) (h : rHeap) (Q : rHeap → Option Value → Prop) : Prop := rW γ l m_X8_read 0 0 0 [some (.ref x0), none, none] [] h Q
theorem w_X8_read_0 {γ : rG} {l : Launch} {Q : rHeap → Option Value → Prop} {sh : Nat × (Nat → Nat) × (Nat → Nat)} {I : Nat → Nat → Int32} {J : Nat → Nat → Int64} {R : Nat → Nat → Option Nat} {x0 : Nat}
    (h_x0 : At8 sh R x0)
    (t : ∃ (b1 : Nat), R x0 6 = some b1 ∧ (At3 sh R b1 ∧ (∃ (I3 : Nat → Nat → Int32) (R4 : Nat → Nat → Option Nat) (v6 : Int32), rMet γ l m_X4_readText [.ref (x0 + 3), .ref (x0 + 1), .ref b1] (sh, I, J, R) (sh, I3, J, R4) (some (.int v6)) ∧ (rW γ l m_X8_read 0 0 15 [some (.ref x0), none, none] [.int v6] (sh, I3, J, R4) Q)))) :
    rW γ l m_X8_read 0 0 0 [some (.ref x0), none, none] [] (sh, I, J, R) Q := by
  obtain ⟨b1, e2, t⟩ := t
  obtain ⟨h_b1, t⟩ := t
  obtain ⟨I3, R4, v6, m5, t⟩ := t
  obtain ⟨hf, r, t, q⟩ := t
  exact ⟨hf, r, b_X8_read_0  h_x0 e2 h_b1 m5 t, q⟩
abbrev s_X8_read_15 (γ : rG) (l : Launch) (x0 : Nat) (s0 : Int32) (h : rHeap) (Q : rHeap → Option Value → Prop) : Prop := rW γ l m_X8_read 0 0 15 [some (.ref x0), none, none] [.int s0] h Q
theorem w_X8_read_15 {γ : rG} {l : Launch} {Q : rHeap → Option Value → Prop} {sh : Nat × (Nat → Nat) × (Nat → Nat)} {I : Nat → Nat → Int32} {J : Nat → Nat → Int64} {R : Nat → Nat → Option Nat} {x0 : Nat} {s0 : Int32}
    (h_x0 : At8 sh R x0)
    (t : (s0 = 0 → (rW γ l m_X8_read 0 0 32 [some (.ref x0), some (.int s0), none] [.int (-1 : Int32), .ref x0] (sh, I, J, R) Q)) ∧ (¬ s0 = 0 → (rW γ l m_X8_read 0 0 32 [some (.ref x0), some (.int s0), none] [.int (I (x0 + 1) 3), .ref x0] (sh, I, J, R) Q))) :
    rW γ l m_X8_read 0 0 15 [some (.ref x0), none, none] [.int s0] (sh, I, J, R) Q := by
  by_cases p0 : s0 = 0
  · have t := t.1 p0
    obtain ⟨hf, r, t, q⟩ := t
    exact ⟨hf, r, b_X8_read_15  h_x0 (fun y0 => absurd p0 y0) (fun _ => t), q⟩
  · have t := t.2 p0
    obtain ⟨hf, r, t, q⟩ := t
    exact ⟨hf, r, b_X8_read_15  h_x0 (fun _ => t) (fun y0 => absurd y0 p0), q⟩
abbrev s_X8_read_32 (γ : rG) (l : Launch) (x0 : Nat) (x1 : Int32) (s0 : Int32) (s1 : Nat) (h : rHeap) (Q : rHeap → Option Value → Prop) : Prop := rW γ l m_X8_read 0 0 32 [some (.ref x0), some (.int x1), none] [.int s0, .ref s1] h Q
theorem w_X8_read_32 {γ : rG} {l : Launch} {Q : rHeap → Option Value → Prop} {sh : Nat × (Nat → Nat) × (Nat → Nat)} {I : Nat → Nat → Int32} {J : Nat → Nat → Int64} {R : Nat → Nat → Option Nat} {x0 : Nat} {x1 : Int32} {s0 : Int32} {s1 : Nat}
    (h_x0 : At8 sh R x0)
    (h_s1 : At8 sh R s1)
    (t : ∃ (b3 : Nat), R x0 5 = some b3 ∧ (At3 sh R b3 ∧ (∃ (b5 : Nat), R x0 6 = some b5 ∧ (At3 sh R b5 ∧ ((x1 = 0 → (rW γ l m_X8_read 0 0 60 [some (.ref x0), some (.int x1), some (.ref b3)] [] (sh, (up (up I s1 7 s0) (x0 + 1) 1 (0 : Int32)), J, (up R x0 5 (some b5))) Q)) ∧ (¬ x1 = 0 → (Q (sh, (up (up I s1 7 s0) (x0 + 1) 1 (0 : Int32)), J, R) (some (.int x1))))))))) :
    rW γ l m_X8_read 0 0 32 [some (.ref x0), some (.int x1), none] [.int s0, .ref s1] (sh, I, J, R) Q := by
  obtain ⟨b3, e4, t⟩ := t
  obtain ⟨h_b3, t⟩ := t
  obtain ⟨b5, e6, t⟩ := t
  obtain ⟨h_b5, t⟩ := t
  by_cases p0 : x1 = 0
  · have t := t.1 p0
    obtain ⟨hf, r, t, q⟩ := t
    exact ⟨hf, r, b_X8_read_32  h_x0 h_s1 (fun y0 => absurd p0 y0) e4 h_b3 e6 h_b5 (fun _ => t), q⟩
  · have t := t.2 p0
    exact ⟨_, _, b_X8_read_32  h_x0 h_s1 (fun _ => ⟨rfl, rfl⟩) e4 h_b3 e6 h_b5 (fun y0 => absurd y0 p0), t⟩
abbrev s_X8_read_60 (γ : rG) (l : Launch) (x0 : Nat) (x1 : Int32) (x2 : Nat) (h : rHeap) (Q : rHeap → Option Value → Prop) : Prop := rW γ l m_X8_read 0 0 60 [some (.ref x0), some (.int x1), some (.ref x2)] [] h Q
theorem w_X8_read_60 {γ : rG} {l : Launch} {Q : rHeap → Option Value → Prop} {sh : Nat × (Nat → Nat) × (Nat → Nat)} {I : Nat → Nat → Int32} {J : Nat → Nat → Int64} {R : Nat → Nat → Option Nat} {x0 : Nat} {x1 : Int32} {x2 : Nat}
    (h_x0 : At8 sh R x0)
    (h_x2 : At3 sh R x2)
    (t : rW γ l m_X8_read 0 0 65 [some (.ref x0), some (.int x1), none] [] (sh, I, J, (up R x0 6 (some x2))) Q) :
    rW γ l m_X8_read 0 0 60 [some (.ref x0), some (.int x1), some (.ref x2)] [] (sh, I, J, R) Q := by
  obtain ⟨hf, r, t, q⟩ := t
  exact ⟨hf, r, b_X8_read_60  h_x0 h_x2 t, q⟩
abbrev s_X8_read_65 (γ : rG) (l : Launch) (x0 : Nat) (x1 : Int32) (h : rHeap) (Q : rHeap → Option Value → Prop) : Prop := rW γ l m_X8_read 0 0 65 [some (.ref x0), some (.int x1), none] [] h Q
theorem w_X8_read_65 {γ : rG} {l : Launch} {Q : rHeap → Option Value → Prop} {sh : Nat × (Nat → Nat) × (Nat → Nat)} {I : Nat → Nat → Int32} {J : Nat → Nat → Int64} {R : Nat → Nat → Option Nat} {x0 : Nat} {x1 : Int32}
    (h_x0 : At8 sh R x0)
    (t : Q (sh, (up I (x0 + 142) 3 (0 : Int32)), J, R) (some (.int x1))) :
    rW γ l m_X8_read 0 0 65 [some (.ref x0), some (.int x1), none] [] (sh, I, J, R) Q := by
  exact ⟨_, _, b_X8_read_65  h_x0 ⟨rfl, rfl⟩, t⟩
abbrev s_X8_place_0 (γ : rG) (l : Launch) (x0 : Nat) (h : rHeap) (Q : rHeap → Option Value → Prop) : Prop := rW γ l m_X8_place 0 0 0 [some (.ref x0)] [] h Q
theorem w_X8_place_0 {γ : rG} {l : Launch} {Q : rHeap → Option Value → Prop} {sh : Nat × (Nat → Nat) × (Nat → Nat)} {I : Nat → Nat → Int32} {J : Nat → Nat → Int64} {R : Nat → Nat → Option Nat} {x0 : Nat}
    (h_x0 : At8 sh R x0)
    (t : Q (sh, I, J, R) (some (.int (I x0 7)))) :
    rW γ l m_X8_place 0 0 0 [some (.ref x0)] [] (sh, I, J, R) Q := by
  exact ⟨_, _, b_X8_place_0  h_x0 ⟨rfl, rfl⟩, t⟩
abbrev s_X8_sheet_0 (γ : rG) (l : Launch) (x0 : Nat) (x1 : Int32) (h : rHeap) (Q : rHeap → Option Value → Prop) : Prop := rW γ l m_X8_sheet 0 0 0 [some (.ref x0), some (.int x1)] [] h Q
theorem w_X8_sheet_0 {γ : rG} {l : Launch} {Q : rHeap → Option Value → Prop} {sh : Nat × (Nat → Nat) × (Nat → Nat)} {I : Nat → Nat → Int32} {J : Nat → Nat → Int64} {R : Nat → Nat → Option Nat} {x0 : Nat} {x1 : Int32}
    (h_x0 : At8 sh R x0)
    (t : (x1 < (2 : Int32) → (Q (sh, I, J, R) (some (.int (0 : Int32))))) ∧ (¬ x1 < (2 : Int32) → ((x1 ≤ (8 : Int32) → (∃ (I4 : Nat → Nat → Int32), rMet γ l m_X5_layFlat [.ref (x0 + 5), .int x1] (sh, I, J, R) (sh, I4, J, R) none ∧ (∃ (I6 : Nat → Nat → Int32), rMet γ l m_X0_forget [.ref (x0 + 116), .int x1] (sh, I4, J, R) (sh, I6, J, R) none ∧ (Q (sh, I6, J, R) (some (.int (1 : Int32))))))) ∧ (¬ x1 ≤ (8 : Int32) → (Q (sh, I, J, R) (some (.int (0 : Int32)))))))) :
    rW γ l m_X8_sheet 0 0 0 [some (.ref x0), some (.int x1)] [] (sh, I, J, R) Q := by
  by_cases p0 : x1 < (2 : Int32)
  · have t := t.1 p0
    exact ⟨_, _, b_X8_sheet_0 (I4 := I) (I6 := I) h_x0 (fun _ => ⟨rfl, rfl⟩) (fun y0 _ => absurd p0 y0) (fun y0 _ => absurd p0 y0) (fun y0 _ => absurd p0 y0) (fun y0 _ => absurd p0 y0), t⟩
  · have t := t.2 p0
    by_cases p1 : x1 ≤ (8 : Int32)
    · have t := t.1 p1
      obtain ⟨I4, m5, t⟩ := t
      obtain ⟨I6, m7, t⟩ := t
      exact ⟨_, _, b_X8_sheet_0  h_x0 (fun y0 => absurd y0 p0) (fun _ _ => m5) (fun _ _ => m7) (fun _ _ => ⟨rfl, rfl⟩) (fun _ y1 => absurd p1 y1), t⟩
    · have t := t.2 p1
      exact ⟨_, _, b_X8_sheet_0 (I4 := I) (I6 := I) h_x0 (fun y0 => absurd y0 p0) (fun _ y1 => absurd y1 p1) (fun _ y1 => absurd y1 p1) (fun _ y1 => absurd y1 p1) (fun _ _ => ⟨rfl, rfl⟩), t⟩
abbrev s_X8_fold_0 (γ : rG) (l : Launch) (x0 : Nat) (x1 : Int32) (x2 : Int32) (x3 : Int32) (h : rHeap) (Q : rHeap → Option Value → Prop) : Prop := rW γ l m_X8_fold 0 0 0 [some (.ref x0), some (.int x1), some (.int x2), some (.int x3)] [] h Q
theorem w_X8_fold_0 {γ : rG} {l : Launch} {Q : rHeap → Option Value → Prop} {sh : Nat × (Nat → Nat) × (Nat → Nat)} {I : Nat → Nat → Int32} {J : Nat → Nat → Int64} {R : Nat → Nat → Option Nat} {x0 : Nat} {x1 : Int32} {x2 : Int32} {x3 : Int32}
    (h_x0 : At8 sh R x0)
    (t : (x3 = 0 → (∃ (I2 : Nat → Nat → Int32) (v4 : Int32), rMet γ l m_X5_turnAt [.ref (x0 + 5), .int (0 : Int32), .int x1, .int x2, .int (0 : Int32)] (sh, I, J, R) (sh, I2, J, R) (some (.int v4)) ∧ (Q (sh, I2, J, R) (some (.int v4))))) ∧ (¬ x3 = 0 → (∃ (I6 : Nat → Nat → Int32) (v8 : Int32), rMet γ l m_X5_turnAt [.ref (x0 + 5), .int (0 : Int32), .int x1, .int x2, .int (8 : Int32)] (sh, I, J, R) (sh, I6, J, R) (some (.int v8)) ∧ (Q (sh, I6, J, R) (some (.int v8)))))) :
    rW γ l m_X8_fold 0 0 0 [some (.ref x0), some (.int x1), some (.int x2), some (.int x3)] [] (sh, I, J, R) Q := by
  by_cases p0 : x3 = 0
  · have t := t.1 p0
    obtain ⟨I2, v4, m3, t⟩ := t
    exact ⟨_, _, b_X8_fold_0 (I6 := I) (v8 := 0) h_x0 (fun _ => m3) (fun _ => ⟨rfl, rfl⟩) (fun y0 => absurd p0 y0) (fun y0 => absurd p0 y0), t⟩
  · have t := t.2 p0
    obtain ⟨I6, v8, m7, t⟩ := t
    exact ⟨_, _, b_X8_fold_0 (I2 := I) (v4 := 0) h_x0 (fun y0 => absurd y0 p0) (fun y0 => absurd y0 p0) (fun _ => m7) (fun _ => ⟨rfl, rfl⟩), t⟩
abbrev s_X8_tuck_0 (γ : rG) (l : Launch) (x0 : Nat) (x1 : Int32) (x2 : Int32) (x3 : Int32) (h : rHeap) (Q : rHeap → Option Value → Prop) : Prop := rW γ l m_X8_tuck 0 0 0 [some (.ref x0), some (.int x1), some (.int x2), some (.int x3)] [] h Q
theorem w_X8_tuck_0 {γ : rG} {l : Launch} {Q : rHeap → Option Value → Prop} {sh : Nat × (Nat → Nat) × (Nat → Nat)} {I : Nat → Nat → Int32} {J : Nat → Nat → Int64} {R : Nat → Nat → Option Nat} {x0 : Nat} {x1 : Int32} {x2 : Int32} {x3 : Int32}
    (h_x0 : At8 sh R x0)
    (t : (x3 < 0 → (Q (sh, I, J, R) (some (.int (-1 : Int32))))) ∧ (¬ x3 < 0 → ((x3 ≤ (8 : Int32) → (∃ (I4 : Nat → Nat → Int32) (v6 : Int32), rMet γ l m_X5_turnAt [.ref (x0 + 5), .int (1 : Int32), .int x1, .int x2, .int x3] (sh, I, J, R) (sh, I4, J, R) (some (.int v6)) ∧ (Q (sh, I4, J, R) (some (.int v6))))) ∧ (¬ x3 ≤ (8 : Int32) → (Q (sh, I, J, R) (some (.int (-1 : Int32)))))))) :
    rW γ l m_X8_tuck 0 0 0 [some (.ref x0), some (.int x1), some (.int x2), some (.int x3)] [] (sh, I, J, R) Q := by
  by_cases p0 : x3 < 0
  · have t := t.1 p0
    exact ⟨_, _, b_X8_tuck_0 (I4 := I) (v6 := 0) h_x0 (fun _ => ⟨rfl, rfl⟩) (fun y0 _ => absurd p0 y0) (fun y0 _ => absurd p0 y0) (fun y0 _ => absurd p0 y0), t⟩
  · have t := t.2 p0
    by_cases p1 : x3 ≤ (8 : Int32)
    · have t := t.1 p1
      obtain ⟨I4, v6, m5, t⟩ := t
      exact ⟨_, _, b_X8_tuck_0  h_x0 (fun y0 => absurd y0 p0) (fun _ _ => m5) (fun _ _ => ⟨rfl, rfl⟩) (fun _ y1 => absurd p1 y1), t⟩
    · have t := t.2 p1
      exact ⟨_, _, b_X8_tuck_0 (I4 := I) (v6 := 0) h_x0 (fun y0 => absurd y0 p0) (fun _ y1 => absurd y1 p1) (fun _ y1 => absurd y1 p1) (fun _ _ => ⟨rfl, rfl⟩), t⟩
abbrev s_X8_slit_0 (γ : rG) (l : Launch) (x0 : Nat) (x1 : Int32) (x2 : Int32) (h : rHeap) (Q : rHeap → Option Value → Prop) : Prop := rW γ l m_X8_slit 0 0 0 [some (.ref x0), some (.int x1), some (.int x2)] [] h Q
theorem w_X8_slit_0 {γ : rG} {l : Launch} {Q : rHeap → Option Value → Prop} {sh : Nat × (Nat → Nat) × (Nat → Nat)} {I : Nat → Nat → Int32} {J : Nat → Nat → Int64} {R : Nat → Nat → Option Nat} {x0 : Nat} {x1 : Int32} {x2 : Int32}
    (h_x0 : At8 sh R x0)
    (t : ∃ (I1 : Nat → Nat → Int32) (v3 : Int32), rMet γ l m_X5_cut [.ref (x0 + 5), .int x1, .int x2] (sh, I, J, R) (sh, I1, J, R) (some (.int v3)) ∧ (Q (sh, I1, J, R) (some (.int v3)))) :
    rW γ l m_X8_slit 0 0 0 [some (.ref x0), some (.int x1), some (.int x2)] [] (sh, I, J, R) Q := by
  obtain ⟨I1, v3, m2, t⟩ := t
  exact ⟨_, _, b_X8_slit_0  h_x0 m2 ⟨rfl, rfl⟩, t⟩
abbrev s_X8_lock_0 (γ : rG) (l : Launch) (x0 : Nat) (x1 : Int32) (x2 : Int32) (h : rHeap) (Q : rHeap → Option Value → Prop) : Prop := rW γ l m_X8_lock 0 0 0 [some (.ref x0), some (.int x1), some (.int x2)] [] h Q
theorem w_X8_lock_0 {γ : rG} {l : Launch} {Q : rHeap → Option Value → Prop} {sh : Nat × (Nat → Nat) × (Nat → Nat)} {I : Nat → Nat → Int32} {J : Nat → Nat → Int64} {R : Nat → Nat → Option Nat} {x0 : Nat} {x1 : Int32} {x2 : Int32}
    (h_x0 : At8 sh R x0)
    (t : ∃ (I1 : Nat → Nat → Int32) (v3 : Int32), rMet γ l m_X5_bindByStrip [.ref (x0 + 5), .int x1, .int x2] (sh, I, J, R) (sh, I1, J, R) (some (.int v3)) ∧ (Q (sh, I1, J, R) (some (.int v3)))) :
    rW γ l m_X8_lock 0 0 0 [some (.ref x0), some (.int x1), some (.int x2)] [] (sh, I, J, R) Q := by
  obtain ⟨I1, v3, m2, t⟩ := t
  exact ⟨_, _, b_X8_lock_0  h_x0 m2 ⟨rfl, rfl⟩, t⟩
abbrev s_X8_seal_0 (γ : rG) (l : Launch) (x0 : Nat) (x1 : Int32) (h : rHeap) (Q : rHeap → Option Value → Prop) : Prop := rW γ l m_X8_seal 0 0 0 [some (.ref x0), some (.int x1)] [] h Q
theorem w_X8_seal_0 {γ : rG} {l : Launch} {Q : rHeap → Option Value → Prop} {sh : Nat × (Nat → Nat) × (Nat → Nat)} {I : Nat → Nat → Int32} {J : Nat → Nat → Int64} {R : Nat → Nat → Option Nat} {x0 : Nat} {x1 : Int32}
    (h_x0 : At8 sh R x0)
    (t : ∃ (I1 : Nat → Nat → Int32) (v3 : Int32), rMet γ l m_X5_bindByWax [.ref (x0 + 5), .int x1] (sh, I, J, R) (sh, I1, J, R) (some (.int v3)) ∧ (Q (sh, I1, J, R) (some (.int v3)))) :
    rW γ l m_X8_seal 0 0 0 [some (.ref x0), some (.int x1)] [] (sh, I, J, R) Q := by
  obtain ⟨I1, v3, m2, t⟩ := t
  exact ⟨_, _, b_X8_seal_0  h_x0 m2 ⟨rfl, rfl⟩, t⟩
abbrev s_X8_soil_0 (γ : rG) (l : Launch) (x0 : Nat) (h : rHeap) (Q : rHeap → Option Value → Prop) : Prop := rW γ l m_X8_soil 0 0 0 [some (.ref x0)] [] h Q
theorem w_X8_soil_0 {γ : rG} {l : Launch} {Q : rHeap → Option Value → Prop} {sh : Nat × (Nat → Nat) × (Nat → Nat)} {I : Nat → Nat → Int32} {J : Nat → Nat → Int64} {R : Nat → Nat → Option Nat} {x0 : Nat}
    (h_x0 : At8 sh R x0)
    (t : ∃ (I1 : Nat → Nat → Int32) (v3 : Int32), rMet γ l m_X5_dirty [.ref (x0 + 5)] (sh, I, J, R) (sh, I1, J, R) (some (.int v3)) ∧ (Q (sh, I1, J, R) (some (.int v3)))) :
    rW γ l m_X8_soil 0 0 0 [some (.ref x0)] [] (sh, I, J, R) Q := by
  obtain ⟨I1, v3, m2, t⟩ := t
  exact ⟨_, _, b_X8_soil_0  h_x0 m2 ⟨rfl, rfl⟩, t⟩
abbrev s_X8_undo_0 (γ : rG) (l : Launch) (x0 : Nat) (h : rHeap) (Q : rHeap → Option Value → Prop) : Prop := rW γ l m_X8_undo 0 0 0 [some (.ref x0), none] [] h Q
theorem w_X8_undo_0 {γ : rG} {l : Launch} {Q : rHeap → Option Value → Prop} {sh : Nat × (Nat → Nat) × (Nat → Nat)} {I : Nat → Nat → Int32} {J : Nat → Nat → Int64} {R : Nat → Nat → Option Nat} {x0 : Nat}
    (h_x0 : At8 sh R x0)
    (t : ∃ (b2 : Nat), R x0 5 = some b2 ∧ (At3 sh R b2 ∧ (((I (x0 + 5) 1) = 0 → (Q (sh, I, J, R) (some (.int (-1 : Int32))))) ∧ (¬ (I (x0 + 5) 1) = 0 → (∃ (I4 : Nat → Nat → Int32) (v6 : Int32), rMet γ l m_X5_harmOf [.ref (x0 + 5), .int ((I (x0 + 5) 1) - (1 : Int32)), .ref b2] (sh, I, J, R) (sh, I4, J, R) (some (.int v6)) ∧ (Q (sh, (up I4 (x0 + 5) 1 (((I4 (x0 + 5) 1) - (1 : Int32)))), J, R) (some (.int v6)))))))) :
    rW γ l m_X8_undo 0 0 0 [some (.ref x0), none] [] (sh, I, J, R) Q := by
  obtain ⟨b2, e3, t⟩ := t
  obtain ⟨h_b2, t⟩ := t
  by_cases p0 : (I (x0 + 5) 1) = 0
  · have t := t.1 p0
    exact ⟨_, _, b_X8_undo_0 (I4 := I) (v6 := 0) h_x0 e3 h_b2 (fun y0 => absurd p0 y0) (fun y0 => absurd p0 y0) (fun _ => ⟨rfl, rfl⟩), t⟩
  · have t := t.2 p0
    obtain ⟨I4, v6, m5, t⟩ := t
    exact ⟨_, _, b_X8_undo_0  h_x0 e3 h_b2 (fun _ => m5) (fun _ => ⟨rfl, rfl⟩) (fun y0 => absurd y0 p0), t⟩
abbrev s_X8_part_0 (γ : rG) (l : Launch) (x0 : Nat) (x1 : Int32) (x2 : Int32) (h : rHeap) (Q : rHeap → Option Value → Prop) : Prop := rW γ l m_X8_part 0 0 0 [some (.ref x0), some (.int x1), some (.int x2), none] [] h Q
theorem w_X8_part_0 {γ : rG} {l : Launch} {Q : rHeap → Option Value → Prop} {sh : Nat × (Nat → Nat) × (Nat → Nat)} {I : Nat → Nat → Int32} {J : Nat → Nat → Int64} {R : Nat → Nat → Option Nat} {x0 : Nat} {x1 : Int32} {x2 : Int32}
    (h_x0 : At8 sh R x0)
    (t : ∃ (v2 : Int32), rMet γ l m_X5_hasPart [.ref (x0 + 5), .int x1] (sh, I, J, R) (sh, I, J, R) (some (.int v2)) ∧ (∃ (b24 : Nat), R x0 5 = some b24 ∧ (At3 sh R b24 ∧ ((v2 = 0 → (Q (sh, I, J, R) (some (.int (-1 : Int32))))) ∧ (¬ v2 = 0 → (∃ (b5 : Nat), rMet γ l m_X5_packet [.ref (x0 + 5)] (sh, I, J, R) (sh, I, J, R) (some (.ref b5)) ∧ (At2 sh R b5 ∧ ((x2 = (0 : Int32) → (vp_in x1 8 ∧ (Q (sh, I, J, R) (some (.int ((I (b5 + 1) x1.toNatClampNeg))))))) ∧ (¬ x2 = (0 : Int32) → ((x2 = (1 : Int32) → (vp_in x1 8 ∧ (Q (sh, I, J, R) (some (.int ((I (b5 + 2) x1.toNatClampNeg))))))) ∧ (¬ x2 = (1 : Int32) → ((x2 = (2 : Int32) → (vp_in x1 8 ∧ (((I (b5 + 3) x1.toNatClampNeg) = 0 → (Q (sh, I, J, R) (some (.int (0 : Int32))))) ∧ (¬ (I (b5 + 3) x1.toNatClampNeg) = 0 → (Q (sh, I, J, R) (some (.int (1 : Int32)))))))) ∧ (¬ x2 = (2 : Int32) → ((x2 = (3 : Int32) → (vp_in x1 8 ∧ (Q (sh, I, J, R) (some (.int ((I (((x0 + 5) + 1)) x1.toNatClampNeg))))))) ∧ (¬ x2 = (3 : Int32) → ((x2 = (4 : Int32) → (vp_in x1 8 ∧ (Q (sh, I, J, R) (some (.int ((I (((x0 + 5) + 2)) x1.toNatClampNeg))))))) ∧ (¬ x2 = (4 : Int32) → ((x2 = (5 : Int32) → (∃ (I26 : Nat → Nat → Int32) (v28 : Int32), rMet γ l m_X5_sightOf [.ref (x0 + 5), .int x1, .ref b24] (sh, I, J, R) (sh, I26, J, R) (some (.int v28)) ∧ (Q (sh, I26, J, R) (some (.int v28))))) ∧ (¬ x2 = (5 : Int32) → ((x2 = (6 : Int32) → (Q (sh, I, J, R) (some (.int ((((I (x0 + 5) 3) >>> (((2 : Int32) * x1) &&& 31)) &&& (1 : Int32))))))) ∧ (¬ x2 = (6 : Int32) → ((x2 = (7 : Int32) → (Q (sh, I, J, R) (some (.int ((((I (x0 + 5) 3) >>> ((((2 : Int32) * x1) + (1 : Int32)) &&& 31)) &&& (1 : Int32))))))) ∧ (¬ x2 = (7 : Int32) → (Q (sh, I, J, R) (some (.int (-1 : Int32))))))))))))))))))))))))))) :
    rW γ l m_X8_part 0 0 0 [some (.ref x0), some (.int x1), some (.int x2), none] [] (sh, I, J, R) Q := by
  obtain ⟨v2, m1, t⟩ := t
  obtain ⟨b24, e25, t⟩ := t
  obtain ⟨h_b24, t⟩ := t
  by_cases p0 : v2 = 0
  · have t := t.1 p0
    exact ⟨_, _, b_X8_part_0 (b5 := 0) (I26 := I) (v28 := 0) h_x0 m1 (fun y0 => absurd p0 y0) (fun y0 => absurd p0 y0) (fun y0 _ => absurd p0 y0) (fun y0 _ => absurd p0 y0) (fun y0 _ _ => absurd p0 y0) (fun y0 _ _ => absurd p0 y0) (fun y0 _ _ _ => absurd p0 y0) (fun y0 _ _ _ _ => absurd p0 y0) (fun y0 _ _ _ _ => absurd p0 y0) (fun y0 _ _ _ _ => absurd p0 y0) (fun y0 _ _ _ _ => absurd p0 y0) (fun y0 _ _ _ _ _ => absurd p0 y0) (fun y0 _ _ _ _ _ => absurd p0 y0) e25 h_b24 (fun y0 _ _ _ _ _ _ => absurd p0 y0) (fun y0 _ _ _ _ _ _ => absurd p0 y0) (fun y0 _ _ _ _ _ _ _ => absurd p0 y0) (fun y0 _ _ _ _ _ _ _ _ => absurd p0 y0) (fun y0 _ _ _ _ _ _ _ _ => absurd p0 y0) (fun _ => ⟨rfl, rfl⟩), t⟩
  · have t := t.2 p0
    obtain ⟨b5, m4, t⟩ := t
    obtain ⟨h_b5, t⟩ := t
    by_cases p1 : x2 = (0 : Int32)
    · have t := t.1 p1
      obtain ⟨b7, t⟩ := t
      exact ⟨_, _, b_X8_part_0 (I26 := I) (v28 := 0) h_x0 m1 (fun _ => m4) (fun _ => h_b5) (fun _ _ => b7) (fun _ _ => ⟨rfl, rfl⟩) (fun _ y1 _ => absurd p1 y1) (fun _ y1 _ => absurd p1 y1) (fun _ y1 _ _ => absurd p1 y1) (fun _ y1 _ _ _ => absurd p1 y1) (fun _ y1 _ _ _ => absurd p1 y1) (fun _ y1 _ _ _ => absurd p1 y1) (fun _ y1 _ _ _ => absurd p1 y1) (fun _ y1 _ _ _ _ => absurd p1 y1) (fun _ y1 _ _ _ _ => absurd p1 y1) e25 h_b24 (fun _ y1 _ _ _ _ _ => absurd p1 y1) (fun _ y1 _ _ _ _ _ => absurd p1 y1) (fun _ y1 _ _ _ _ _ _ => absurd p1 y1) (fun _ y1 _ _ _ _ _ _ _ => absurd p1 y1) (fun _ y1 _ _ _ _ _ _ _ => absurd p1 y1) (fun y0 => absurd y0 p0), t⟩
    · have t := t.2 p1
      by_cases p2 : x2 = (1 : Int32)
      · have t := t.1 p2
        obtain ⟨b10, t⟩ := t
        exact ⟨_, _, b_X8_part_0 (I26 := I) (v28 := 0) h_x0 m1 (fun _ => m4) (fun _ => h_b5) (fun _ y1 => absurd y1 p1) (fun _ y1 => absurd y1 p1) (fun _ _ _ => b10) (fun _ _ _ => ⟨rfl, rfl⟩) (fun _ _ y2 _ => absurd p2 y2) (fun _ _ y2 _ _ => absurd p2 y2) (fun _ _ y2 _ _ => absurd p2 y2) (fun _ _ y2 _ _ => absurd p2 y2) (fun _ _ y2 _ _ => absurd p2 y2) (fun _ _ y2 _ _ _ => absurd p2 y2) (fun _ _ y2 _ _ _ => absurd p2 y2) e25 h_b24 (fun _ _ y2 _ _ _ _ => absurd p2 y2) (fun _ _ y2 _ _ _ _ => absurd p2 y2) (fun _ _ y2 _ _ _ _ _ => absurd p2 y2) (fun _ _ y2 _ _ _ _ _ _ => absurd p2 y2) (fun _ _ y2 _ _ _ _ _ _ => absurd p2 y2) (fun y0 => absurd y0 p0), t⟩
      · have t := t.2 p2
        by_cases p3 : x2 = (2 : Int32)
        · have t := t.1 p3
          obtain ⟨b13, t⟩ := t
          by_cases p4 : (I (b5 + 3) x1.toNatClampNeg) = 0
          · have t := t.1 p4
            exact ⟨_, _, b_X8_part_0 (I26 := I) (v28 := 0) h_x0 m1 (fun _ => m4) (fun _ => h_b5) (fun _ y1 => absurd y1 p1) (fun _ y1 => absurd y1 p1) (fun _ _ y2 => absurd y2 p2) (fun _ _ y2 => absurd y2 p2) (fun _ _ _ _ => b13) (fun _ _ _ _ _ => ⟨rfl, rfl⟩) (fun _ _ _ _ y4 => absurd p4 y4) (fun _ _ _ y3 _ => absurd p3 y3) (fun _ _ _ y3 _ => absurd p3 y3) (fun _ _ _ y3 _ _ => absurd p3 y3) (fun _ _ _ y3 _ _ => absurd p3 y3) e25 h_b24 (fun _ _ _ y3 _ _ _ => absurd p3 y3) (fun _ _ _ y3 _ _ _ => absurd p3 y3) (fun _ _ _ y3 _ _ _ _ => absurd p3 y3) (fun _ _ _ y3 _ _ _ _ _ => absurd p3 y3) (fun _ _ _ y3 _ _ _ _ _ => absurd p3 y3) (fun y0 => absurd y0 p0), t⟩
          · have t := t.2 p4
            exact ⟨_, _, b_X8_part_0 (I26 := I) (v28 := 0) h_x0 m1 (fun _ => m4) (fun _ => h_b5) (fun _ y1 => absurd y1 p1) (fun _ y1 => absurd y1 p1) (fun _ _ y2 => absurd y2 p2) (fun _ _ y2 => absurd y2 p2) (fun _ _ _ _ => b13) (fun _ _ _ _ y4 => absurd y4 p4) (fun _ _ _ _ _ => ⟨rfl, rfl⟩) (fun _ _ _ y3 _ => absurd p3 y3) (fun _ _ _ y3 _ => absurd p3 y3) (fun _ _ _ y3 _ _ => absurd p3 y3) (fun _ _ _ y3 _ _ => absurd p3 y3) e25 h_b24 (fun _ _ _ y3 _ _ _ => absurd p3 y3) (fun _ _ _ y3 _ _ _ => absurd p3 y3) (fun _ _ _ y3 _ _ _ _ => absurd p3 y3) (fun _ _ _ y3 _ _ _ _ _ => absurd p3 y3) (fun _ _ _ y3 _ _ _ _ _ => absurd p3 y3) (fun y0 => absurd y0 p0), t⟩
        · have t := t.2 p3
          by_cases p4 : x2 = (3 : Int32)
          · have t := t.1 p4
            obtain ⟨b18, t⟩ := t
            exact ⟨_, _, b_X8_part_0 (I26 := I) (v28 := 0) h_x0 m1 (fun _ => m4) (fun _ => h_b5) (fun _ y1 => absurd y1 p1) (fun _ y1 => absurd y1 p1) (fun _ _ y2 => absurd y2 p2) (fun _ _ y2 => absurd y2 p2) (fun _ _ _ y3 => absurd y3 p3) (fun _ _ _ y3 _ => absurd y3 p3) (fun _ _ _ y3 _ => absurd y3 p3) (fun _ _ _ _ _ => b18) (fun _ _ _ _ _ => ⟨rfl, rfl⟩) (fun _ _ _ _ y4 _ => absurd p4 y4) (fun _ _ _ _ y4 _ => absurd p4 y4) e25 h_b24 (fun _ _ _ _ y4 _ _ => absurd p4 y4) (fun _ _ _ _ y4 _ _ => absurd p4 y4) (fun _ _ _ _ y4 _ _ _ => absurd p4 y4) (fun _ _ _ _ y4 _ _ _ _ => absurd p4 y4) (fun _ _ _ _ y4 _ _ _ _ => absurd p4 y4) (fun y0 => absurd y0 p0), t⟩
          · have t := t.2 p4
            by_cases p5 : x2 = (4 : Int32)
            · have t := t.1 p5
              obtain ⟨b21, t⟩ := t
              exact ⟨_, _, b_X8_part_0 (I26 := I) (v28 := 0) h_x0 m1 (fun _ => m4) (fun _ => h_b5) (fun _ y1 => absurd y1 p1) (fun _ y1 => absurd y1 p1) (fun _ _ y2 => absurd y2 p2) (fun _ _ y2 => absurd y2 p2) (fun _ _ _ y3 => absurd y3 p3) (fun _ _ _ y3 _ => absurd y3 p3) (fun _ _ _ y3 _ => absurd y3 p3) (fun _ _ _ _ y4 => absurd y4 p4) (fun _ _ _ _ y4 => absurd y4 p4) (fun _ _ _ _ _ _ => b21) (fun _ _ _ _ _ _ => ⟨rfl, rfl⟩) e25 h_b24 (fun _ _ _ _ _ y5 _ => absurd p5 y5) (fun _ _ _ _ _ y5 _ => absurd p5 y5) (fun _ _ _ _ _ y5 _ _ => absurd p5 y5) (fun _ _ _ _ _ y5 _ _ _ => absurd p5 y5) (fun _ _ _ _ _ y5 _ _ _ => absurd p5 y5) (fun y0 => absurd y0 p0), t⟩
            · have t := t.2 p5
              by_cases p6 : x2 = (5 : Int32)
              · have t := t.1 p6
                obtain ⟨I26, v28, m27, t⟩ := t
                exact ⟨_, _, b_X8_part_0  h_x0 m1 (fun _ => m4) (fun _ => h_b5) (fun _ y1 => absurd y1 p1) (fun _ y1 => absurd y1 p1) (fun _ _ y2 => absurd y2 p2) (fun _ _ y2 => absurd y2 p2) (fun _ _ _ y3 => absurd y3 p3) (fun _ _ _ y3 _ => absurd y3 p3) (fun _ _ _ y3 _ => absurd y3 p3) (fun _ _ _ _ y4 => absurd y4 p4) (fun _ _ _ _ y4 => absurd y4 p4) (fun _ _ _ _ _ y5 => absurd y5 p5) (fun _ _ _ _ _ y5 => absurd y5 p5) e25 h_b24 (fun _ _ _ _ _ _ _ => m27) (fun _ _ _ _ _ _ _ => ⟨rfl, rfl⟩) (fun _ _ _ _ _ _ y6 _ => absurd p6 y6) (fun _ _ _ _ _ _ y6 _ _ => absurd p6 y6) (fun _ _ _ _ _ _ y6 _ _ => absurd p6 y6) (fun y0 => absurd y0 p0), t⟩
              · have t := t.2 p6
                by_cases p7 : x2 = (6 : Int32)
                · have t := t.1 p7
                  exact ⟨_, _, b_X8_part_0 (I26 := I) (v28 := 0) h_x0 m1 (fun _ => m4) (fun _ => h_b5) (fun _ y1 => absurd y1 p1) (fun _ y1 => absurd y1 p1) (fun _ _ y2 => absurd y2 p2) (fun _ _ y2 => absurd y2 p2) (fun _ _ _ y3 => absurd y3 p3) (fun _ _ _ y3 _ => absurd y3 p3) (fun _ _ _ y3 _ => absurd y3 p3) (fun _ _ _ _ y4 => absurd y4 p4) (fun _ _ _ _ y4 => absurd y4 p4) (fun _ _ _ _ _ y5 => absurd y5 p5) (fun _ _ _ _ _ y5 => absurd y5 p5) e25 h_b24 (fun _ _ _ _ _ _ y6 => absurd y6 p6) (fun _ _ _ _ _ _ y6 => absurd y6 p6) (fun _ _ _ _ _ _ _ _ => ⟨rfl, rfl⟩) (fun _ _ _ _ _ _ _ y7 _ => absurd p7 y7) (fun _ _ _ _ _ _ _ y7 _ => absurd p7 y7) (fun y0 => absurd y0 p0), t⟩
                · have t := t.2 p7
                  by_cases p8 : x2 = (7 : Int32)
                  · have t := t.1 p8
                    exact ⟨_, _, b_X8_part_0 (I26 := I) (v28 := 0) h_x0 m1 (fun _ => m4) (fun _ => h_b5) (fun _ y1 => absurd y1 p1) (fun _ y1 => absurd y1 p1) (fun _ _ y2 => absurd y2 p2) (fun _ _ y2 => absurd y2 p2) (fun _ _ _ y3 => absurd y3 p3) (fun _ _ _ y3 _ => absurd y3 p3) (fun _ _ _ y3 _ => absurd y3 p3) (fun _ _ _ _ y4 => absurd y4 p4) (fun _ _ _ _ y4 => absurd y4 p4) (fun _ _ _ _ _ y5 => absurd y5 p5) (fun _ _ _ _ _ y5 => absurd y5 p5) e25 h_b24 (fun _ _ _ _ _ _ y6 => absurd y6 p6) (fun _ _ _ _ _ _ y6 => absurd y6 p6) (fun _ _ _ _ _ _ _ y7 => absurd y7 p7) (fun _ _ _ _ _ _ _ _ _ => ⟨rfl, rfl⟩) (fun _ _ _ _ _ _ _ _ y8 => absurd p8 y8) (fun y0 => absurd y0 p0), t⟩
                  · have t := t.2 p8
                    exact ⟨_, _, b_X8_part_0 (I26 := I) (v28 := 0) h_x0 m1 (fun _ => m4) (fun _ => h_b5) (fun _ y1 => absurd y1 p1) (fun _ y1 => absurd y1 p1) (fun _ _ y2 => absurd y2 p2) (fun _ _ y2 => absurd y2 p2) (fun _ _ _ y3 => absurd y3 p3) (fun _ _ _ y3 _ => absurd y3 p3) (fun _ _ _ y3 _ => absurd y3 p3) (fun _ _ _ _ y4 => absurd y4 p4) (fun _ _ _ _ y4 => absurd y4 p4) (fun _ _ _ _ _ y5 => absurd y5 p5) (fun _ _ _ _ _ y5 => absurd y5 p5) e25 h_b24 (fun _ _ _ _ _ _ y6 => absurd y6 p6) (fun _ _ _ _ _ _ y6 => absurd y6 p6) (fun _ _ _ _ _ _ _ y7 => absurd y7 p7) (fun _ _ _ _ _ _ _ _ y8 => absurd y8 p8) (fun _ _ _ _ _ _ _ _ _ => ⟨rfl, rfl⟩) (fun y0 => absurd y0 p0), t⟩
abbrev s_X8_mark_0 (γ : rG) (l : Launch) (x0 : Nat) (x1 : Int32) (h : rHeap) (Q : rHeap → Option Value → Prop) : Prop := rW γ l m_X8_mark 0 0 0 [some (.ref x0), some (.int x1)] [] h Q
theorem w_X8_mark_0 {γ : rG} {l : Launch} {Q : rHeap → Option Value → Prop} {sh : Nat × (Nat → Nat) × (Nat → Nat)} {I : Nat → Nat → Int32} {J : Nat → Nat → Int64} {R : Nat → Nat → Option Nat} {x0 : Nat} {x1 : Int32}
    (h_x0 : At8 sh R x0)
    (t : (x1 < 0 → (Q (sh, I, J, R) (some (.int (-1 : Int32))))) ∧ (¬ x1 < 0 → ((x1 < ((I (x0 + 5) 0) - (1 : Int32)) → (Q (sh, I, J, R) (some (.int ((((I (x0 + 5) 2) >>> (((2 : Int32) * x1) &&& 31)) &&& (3 : Int32))))))) ∧ (¬ x1 < ((I (x0 + 5) 0) - (1 : Int32)) → (Q (sh, I, J, R) (some (.int (-1 : Int32)))))))) :
    rW γ l m_X8_mark 0 0 0 [some (.ref x0), some (.int x1)] [] (sh, I, J, R) Q := by
  by_cases p0 : x1 < 0
  · have t := t.1 p0
    exact ⟨_, _, b_X8_mark_0  h_x0 (fun _ => ⟨rfl, rfl⟩) (fun y0 _ => absurd p0 y0) (fun y0 _ => absurd p0 y0), t⟩
  · have t := t.2 p0
    by_cases p1 : x1 < ((I (x0 + 5) 0) - (1 : Int32))
    · have t := t.1 p1
      exact ⟨_, _, b_X8_mark_0  h_x0 (fun y0 => absurd y0 p0) (fun _ _ => ⟨rfl, rfl⟩) (fun _ y1 => absurd p1 y1), t⟩
    · have t := t.2 p1
      exact ⟨_, _, b_X8_mark_0  h_x0 (fun y0 => absurd y0 p0) (fun _ y1 => absurd y1 p1) (fun _ _ => ⟨rfl, rfl⟩), t⟩
abbrev s_X8_layers_0 (γ : rG) (l : Launch) (x0 : Nat) (x1 : Int32) (h : rHeap) (Q : rHeap → Option Value → Prop) : Prop := rW γ l m_X8_layers 0 0 0 [some (.ref x0), some (.int x1)] [] h Q
theorem w_X8_layers_0 {γ : rG} {l : Launch} {Q : rHeap → Option Value → Prop} {sh : Nat × (Nat → Nat) × (Nat → Nat)} {I : Nat → Nat → Int32} {J : Nat → Nat → Int64} {R : Nat → Nat → Option Nat} {x0 : Nat} {x1 : Int32}
    (h_x0 : At8 sh R x0)
    (t : ∃ (b2 : Nat), rMet γ l m_X5_packet [.ref (x0 + 5)] (sh, I, J, R) (sh, I, J, R) (some (.ref b2)) ∧ (At2 sh R b2 ∧ (∃ (v4 : Int32), rMet γ l m_X2_heightOf [.ref b2, .int x1] (sh, I, J, R) (sh, I, J, R) (some (.int v4)) ∧ (Q (sh, I, J, R) (some (.int v4)))))) :
    rW γ l m_X8_layers 0 0 0 [some (.ref x0), some (.int x1)] [] (sh, I, J, R) Q := by
  obtain ⟨b2, m1, t⟩ := t
  obtain ⟨h_b2, t⟩ := t
  obtain ⟨v4, m3, t⟩ := t
  exact ⟨_, _, b_X8_layers_0  h_x0 m1 h_b2 m3 ⟨rfl, rfl⟩, t⟩
abbrev s_X8_at_0 (γ : rG) (l : Launch) (x0 : Nat) (x1 : Int32) (x2 : Int32) (h : rHeap) (Q : rHeap → Option Value → Prop) : Prop := rW γ l m_X8_at 0 0 0 [some (.ref x0), some (.int x1), some (.int x2)] [] h Q
theorem w_X8_at_0 {γ : rG} {l : Launch} {Q : rHeap → Option Value → Prop} {sh : Nat × (Nat → Nat) × (Nat → Nat)} {I : Nat → Nat → Int32} {J : Nat → Nat → Int64} {R : Nat → Nat → Option Nat} {x0 : Nat} {x1 : Int32} {x2 : Int32}
    (h_x0 : At8 sh R x0)
    (t : ∃ (b2 : Nat), rMet γ l m_X5_packet [.ref (x0 + 5)] (sh, I, J, R) (sh, I, J, R) (some (.ref b2)) ∧ (At2 sh R b2 ∧ (∃ (v4 : Int32), rMet γ l m_X2_partAt [.ref b2, .int x1, .int x2] (sh, I, J, R) (sh, I, J, R) (some (.int v4)) ∧ (Q (sh, I, J, R) (some (.int v4)))))) :
    rW γ l m_X8_at 0 0 0 [some (.ref x0), some (.int x1), some (.int x2)] [] (sh, I, J, R) Q := by
  obtain ⟨b2, m1, t⟩ := t
  obtain ⟨h_b2, t⟩ := t
  obtain ⟨v4, m3, t⟩ := t
  exact ⟨_, _, b_X8_at_0  h_x0 m1 h_b2 m3 ⟨rfl, rfl⟩, t⟩
abbrev s_X8_harm_0 (γ : rG) (l : Launch) (x0 : Nat) (x1 : Int32) (h : rHeap) (Q : rHeap → Option Value → Prop) : Prop := rW γ l m_X8_harm 0 0 0 [some (.ref x0), some (.int x1)] [] h Q
theorem w_X8_harm_0 {γ : rG} {l : Launch} {Q : rHeap → Option Value → Prop} {sh : Nat × (Nat → Nat) × (Nat → Nat)} {I : Nat → Nat → Int32} {J : Nat → Nat → Int64} {R : Nat → Nat → Option Nat} {x0 : Nat} {x1 : Int32}
    (h_x0 : At8 sh R x0)
    (t : ∃ (v2 : Int32), rMet γ l m_X5_hasAct [.ref (x0 + 5), .int x1] (sh, I, J, R) (sh, I, J, R) (some (.int v2)) ∧ (∃ (b5 : Nat), R x0 5 = some b5 ∧ (At3 sh R b5 ∧ ((v2 = 0 → (Q (sh, I, J, R) (some (.int (-1 : Int32))))) ∧ (¬ v2 = 0 → (∃ (I7 : Nat → Nat → Int32) (v9 : Int32), rMet γ l m_X5_harmOf [.ref (x0 + 5), .int x1, .ref b5] (sh, I, J, R) (sh, I7, J, R) (some (.int v9)) ∧ (Q (sh, I7, J, R) (some (.int v9))))))))) :
    rW γ l m_X8_harm 0 0 0 [some (.ref x0), some (.int x1)] [] (sh, I, J, R) Q := by
  obtain ⟨v2, m1, t⟩ := t
  obtain ⟨b5, e6, t⟩ := t
  obtain ⟨h_b5, t⟩ := t
  by_cases p0 : v2 = 0
  · have t := t.1 p0
    exact ⟨_, _, b_X8_harm_0 (I7 := I) (v9 := 0) h_x0 m1 (fun _ => ⟨rfl, rfl⟩) e6 h_b5 (fun y0 => absurd p0 y0) (fun y0 => absurd p0 y0), t⟩
  · have t := t.2 p0
    obtain ⟨I7, v9, m8, t⟩ := t
    exact ⟨_, _, b_X8_harm_0  h_x0 m1 (fun y0 => absurd y0 p0) e6 h_b5 (fun _ => m8) (fun _ => ⟨rfl, rfl⟩), t⟩
abbrev s_X8_by_0 (γ : rG) (l : Launch) (x0 : Nat) (x1 : Int32) (h : rHeap) (Q : rHeap → Option Value → Prop) : Prop := rW γ l m_X8_by 0 0 0 [some (.ref x0), some (.int x1)] [] h Q
theorem w_X8_by_0 {γ : rG} {l : Launch} {Q : rHeap → Option Value → Prop} {sh : Nat × (Nat → Nat) × (Nat → Nat)} {I : Nat → Nat → Int32} {J : Nat → Nat → Int64} {R : Nat → Nat → Option Nat} {x0 : Nat} {x1 : Int32}
    (h_x0 : At8 sh R x0)
    (t : ∃ (v2 : Int32), rMet γ l m_X5_hasAct [.ref (x0 + 5), .int x1] (sh, I, J, R) (sh, I, J, R) (some (.int v2)) ∧ (∃ (b5 : Nat), R x0 5 = some b5 ∧ (At3 sh R b5 ∧ ((v2 = 0 → (Q (sh, I, J, R) (some (.int (-1 : Int32))))) ∧ (¬ v2 = 0 → (∃ (I7 : Nat → Nat → Int32) (v9 : Int32), rMet γ l m_X5_harmRule [.ref (x0 + 5), .int x1, .ref b5] (sh, I, J, R) (sh, I7, J, R) (some (.int v9)) ∧ (Q (sh, I7, J, R) (some (.int v9))))))))) :
    rW γ l m_X8_by 0 0 0 [some (.ref x0), some (.int x1)] [] (sh, I, J, R) Q := by
  obtain ⟨v2, m1, t⟩ := t
  obtain ⟨b5, e6, t⟩ := t
  obtain ⟨h_b5, t⟩ := t
  by_cases p0 : v2 = 0
  · have t := t.1 p0
    exact ⟨_, _, b_X8_by_0 (I7 := I) (v9 := 0) h_x0 m1 (fun _ => ⟨rfl, rfl⟩) e6 h_b5 (fun y0 => absurd p0 y0) (fun y0 => absurd p0 y0), t⟩
  · have t := t.2 p0
    obtain ⟨I7, v9, m8, t⟩ := t
    exact ⟨_, _, b_X8_by_0  h_x0 m1 (fun y0 => absurd y0 p0) e6 h_b5 (fun _ => m8) (fun _ => ⟨rfl, rfl⟩), t⟩
abbrev s_X8_ease_0 (γ : rG) (l : Launch) (x0 : Nat) (x1 : Int32) (h : rHeap) (Q : rHeap → Option Value → Prop) : Prop := rW γ l m_X8_ease 0 0 0 [some (.ref x0), some (.int x1)] [] h Q
theorem w_X8_ease_0 {γ : rG} {l : Launch} {Q : rHeap → Option Value → Prop} {sh : Nat × (Nat → Nat) × (Nat → Nat)} {I : Nat → Nat → Int32} {J : Nat → Nat → Int64} {R : Nat → Nat → Option Nat} {x0 : Nat} {x1 : Int32}
    (h_x0 : At8 sh R x0)
    (t : ∃ (v2 : Int32), rMet γ l m_X5_hasPart [.ref (x0 + 5), .int x1] (sh, I, J, R) (sh, I, J, R) (some (.int v2)) ∧ (∃ (b4 : Nat), R x0 5 = some b4 ∧ (At3 sh R b4 ∧ ((v2 = 0 → (Q (sh, I, J, R) (some (.int (-1 : Int32))))) ∧ (¬ v2 = 0 → (∃ (I6 : Nat → Nat → Int32), rMet γ l m_X5_weigh [.ref (x0 + 5), .int x1, .ref b4] (sh, I, J, R) (sh, I6, J, R) none ∧ (Q (sh, I6, J, R) (some (.int ((I6 (x0 + 5) 12))))))))))) :
    rW γ l m_X8_ease 0 0 0 [some (.ref x0), some (.int x1)] [] (sh, I, J, R) Q := by
  obtain ⟨v2, m1, t⟩ := t
  obtain ⟨b4, e5, t⟩ := t
  obtain ⟨h_b4, t⟩ := t
  by_cases p0 : v2 = 0
  · have t := t.1 p0
    exact ⟨_, _, b_X8_ease_0 (I6 := I) h_x0 m1 e5 h_b4 (fun y0 => absurd p0 y0) (fun y0 => absurd p0 y0) (fun _ => ⟨rfl, rfl⟩), t⟩
  · have t := t.2 p0
    obtain ⟨I6, m7, t⟩ := t
    exact ⟨_, _, b_X8_ease_0  h_x0 m1 e5 h_b4 (fun _ => m7) (fun _ => ⟨rfl, rfl⟩) (fun y0 => absurd y0 p0), t⟩
abbrev s_X8_undone_0 (γ : rG) (l : Launch) (x0 : Nat) (x1 : Int32) (h : rHeap) (Q : rHeap → Option Value → Prop) : Prop := rW γ l m_X8_undone 0 0 0 [some (.ref x0), some (.int x1)] [] h Q
theorem w_X8_undone_0 {γ : rG} {l : Launch} {Q : rHeap → Option Value → Prop} {sh : Nat × (Nat → Nat) × (Nat → Nat)} {I : Nat → Nat → Int32} {J : Nat → Nat → Int64} {R : Nat → Nat → Option Nat} {x0 : Nat} {x1 : Int32}
    (h_x0 : At8 sh R x0)
    (t : ∃ (v2 : Int32), rMet γ l m_X5_hasPart [.ref (x0 + 5), .int x1] (sh, I, J, R) (sh, I, J, R) (some (.int v2)) ∧ (∃ (b4 : Nat), R x0 5 = some b4 ∧ (At3 sh R b4 ∧ ((v2 = 0 → (Q (sh, I, J, R) (some (.int (-1 : Int32))))) ∧ (¬ v2 = 0 → (∃ (I6 : Nat → Nat → Int32), rMet γ l m_X5_weigh [.ref (x0 + 5), .int x1, .ref b4] (sh, I, J, R) (sh, I6, J, R) none ∧ (Q (sh, I6, J, R) (some (.int ((I6 (x0 + 5) 13))))))))))) :
    rW γ l m_X8_undone 0 0 0 [some (.ref x0), some (.int x1)] [] (sh, I, J, R) Q := by
  obtain ⟨v2, m1, t⟩ := t
  obtain ⟨b4, e5, t⟩ := t
  obtain ⟨h_b4, t⟩ := t
  by_cases p0 : v2 = 0
  · have t := t.1 p0
    exact ⟨_, _, b_X8_undone_0 (I6 := I) h_x0 m1 e5 h_b4 (fun y0 => absurd p0 y0) (fun y0 => absurd p0 y0) (fun _ => ⟨rfl, rfl⟩), t⟩
  · have t := t.2 p0
    obtain ⟨I6, m7, t⟩ := t
    exact ⟨_, _, b_X8_undone_0  h_x0 m1 e5 h_b4 (fun _ => m7) (fun _ => ⟨rfl, rfl⟩) (fun y0 => absurd y0 p0), t⟩
abbrev s_X8_find_0 (γ : rG) (l : Launch) (x0 : Nat) (x1 : Int32) (x2 : Int32) (x3 : Int32) (h : rHeap) (Q : rHeap → Option Value → Prop) : Prop := rW γ l m_X8_find 0 0 0 [some (.ref x0), some (.int x1), some (.int x2), some (.int x3)] [] h Q
theorem w_X8_find_0 {γ : rG} {l : Launch} {Q : rHeap → Option Value → Prop} {sh : Nat × (Nat → Nat) × (Nat → Nat)} {I : Nat → Nat → Int32} {J : Nat → Nat → Int64} {R : Nat → Nat → Option Nat} {x0 : Nat} {x1 : Int32} {x2 : Int32} {x3 : Int32}
    (h_x0 : At8 sh R x0)
    (t : (x1 = (0 : Int32) → (∃ (I2 : Nat → Nat → Int32) (v4 : Int32), rMet γ l m_X0_noteCrease [.ref (x0 + 116), .int x2, .int x3] (sh, I, J, R) (sh, I2, J, R) (some (.int v4)) ∧ ((v4 = 0 ∨ v4 = 1) ∧ (Q (sh, I2, J, R) (some (.int v4)))))) ∧ (¬ x1 = (0 : Int32) → ((x1 = (1 : Int32) → (∃ (I8 : Nat → Nat → Int32) (v10 : Int32), rMet γ l m_X0_noteSlit [.ref (x0 + 116), .int x2, .int x3] (sh, I, J, R) (sh, I8, J, R) (some (.int v10)) ∧ ((v10 = 0 ∨ v10 = 1) ∧ (Q (sh, I8, J, R) (some (.int v10)))))) ∧ (¬ x1 = (1 : Int32) → ((x1 = (2 : Int32) → (∃ (I14 : Nat → Nat → Int32) (v16 : Int32), rMet γ l m_X0_noteDirt [.ref (x0 + 116), .int x2, .int x3] (sh, I, J, R) (sh, I14, J, R) (some (.int v16)) ∧ ((v16 = 0 ∨ v16 = 1) ∧ (Q (sh, I14, J, R) (some (.int v16)))))) ∧ (¬ x1 = (2 : Int32) → (Q (sh, I, J, R) (some (.int (0 : Int32)))))))))) :
    rW γ l m_X8_find 0 0 0 [some (.ref x0), some (.int x1), some (.int x2), some (.int x3)] [] (sh, I, J, R) Q := by
  by_cases p0 : x1 = (0 : Int32)
  · have t := t.1 p0
    obtain ⟨I2, v4, m3, t⟩ := t
    obtain ⟨z6, t⟩ := t
    exact ⟨_, _, b_X8_find_0 (I8 := I) (v10 := 0) (I14 := I) (v16 := 0) h_x0 (fun _ => m3) (fun _ => ⟨rfl, rfl⟩) (fun _ => z6) (fun y0 _ => absurd p0 y0) (fun y0 _ => absurd p0 y0) (fun y0 _ => absurd p0 y0) (fun y0 _ _ => absurd p0 y0) (fun y0 _ _ => absurd p0 y0) (fun y0 _ _ => absurd p0 y0) (fun y0 _ _ => absurd p0 y0), t⟩
  · have t := t.2 p0
    by_cases p1 : x1 = (1 : Int32)
    · have t := t.1 p1
      obtain ⟨I8, v10, m9, t⟩ := t
      obtain ⟨z12, t⟩ := t
      exact ⟨_, _, b_X8_find_0 (I2 := I) (v4 := 0) (I14 := I) (v16 := 0) h_x0 (fun y0 => absurd y0 p0) (fun y0 => absurd y0 p0) (fun y0 => absurd y0 p0) (fun _ _ => m9) (fun _ _ => ⟨rfl, rfl⟩) (fun _ _ => z12) (fun _ y1 _ => absurd p1 y1) (fun _ y1 _ => absurd p1 y1) (fun _ y1 _ => absurd p1 y1) (fun _ y1 _ => absurd p1 y1), t⟩
    · have t := t.2 p1
      by_cases p2 : x1 = (2 : Int32)
      · have t := t.1 p2
        obtain ⟨I14, v16, m15, t⟩ := t
        obtain ⟨z18, t⟩ := t
        exact ⟨_, _, b_X8_find_0 (I2 := I) (v4 := 0) (I8 := I) (v10 := 0) h_x0 (fun y0 => absurd y0 p0) (fun y0 => absurd y0 p0) (fun y0 => absurd y0 p0) (fun _ y1 => absurd y1 p1) (fun _ y1 => absurd y1 p1) (fun _ y1 => absurd y1 p1) (fun _ _ _ => m15) (fun _ _ _ => ⟨rfl, rfl⟩) (fun _ _ _ => z18) (fun _ _ y2 => absurd p2 y2), t⟩
      · have t := t.2 p2
        exact ⟨_, _, b_X8_find_0 (I2 := I) (v4 := 0) (I8 := I) (v10 := 0) (I14 := I) (v16 := 0) h_x0 (fun y0 => absurd y0 p0) (fun y0 => absurd y0 p0) (fun y0 => absurd y0 p0) (fun _ y1 => absurd y1 p1) (fun _ y1 => absurd y1 p1) (fun _ y1 => absurd y1 p1) (fun _ _ y2 => absurd y2 p2) (fun _ _ y2 => absurd y2 p2) (fun _ _ y2 => absurd y2 p2) (fun _ _ _ => ⟨rfl, rfl⟩), t⟩
abbrev s_X8_finds_0 (γ : rG) (l : Launch) (x0 : Nat) (h : rHeap) (Q : rHeap → Option Value → Prop) : Prop := rW γ l m_X8_finds 0 0 0 [some (.ref x0)] [] h Q
theorem w_X8_finds_0 {γ : rG} {l : Launch} {Q : rHeap → Option Value → Prop} {sh : Nat × (Nat → Nat) × (Nat → Nat)} {I : Nat → Nat → Int32} {J : Nat → Nat → Int64} {R : Nat → Nat → Option Nat} {x0 : Nat}
    (h_x0 : At8 sh R x0)
    (t : ∃ (I1 : Nat → Nat → Int32), rMet γ l m_X0_noteAll [.ref (x0 + 116), .ref (x0 + 5)] (sh, I, J, R) (sh, I1, J, R) none ∧ (Q (sh, I1, J, R) (none))) :
    rW γ l m_X8_finds 0 0 0 [some (.ref x0)] [] (sh, I, J, R) Q := by
  obtain ⟨I1, m2, t⟩ := t
  exact ⟨_, _, b_X8_finds_0  h_x0 m2 ⟨rfl, rfl⟩, t⟩
abbrev s_X8_rows_0 (γ : rG) (l : Launch) (x0 : Nat) (h : rHeap) (Q : rHeap → Option Value → Prop) : Prop := rW γ l m_X8_rows 0 0 0 [some (.ref x0)] [] h Q
theorem w_X8_rows_0 {γ : rG} {l : Launch} {Q : rHeap → Option Value → Prop} {sh : Nat × (Nat → Nat) × (Nat → Nat)} {I : Nat → Nat → Int32} {J : Nat → Nat → Int64} {R : Nat → Nat → Option Nat} {x0 : Nat}
    (h_x0 : At8 sh R x0)
    (t : ∃ (I1 : Nat → Nat → Int32) (J2 : Nat → Nat → Int64), rMet γ l m_X0_search [.ref (x0 + 116)] (sh, I, J, R) (sh, I1, J2, R) none ∧ (Q (sh, I1, J2, R) (some (.int ((I1 (x0 + 116) 8)))))) :
    rW γ l m_X8_rows 0 0 0 [some (.ref x0)] [] (sh, I, J, R) Q := by
  obtain ⟨I1, J2, m3, t⟩ := t
  exact ⟨_, _, b_X8_rows_0  h_x0 m3 ⟨rfl, rfl⟩, t⟩
abbrev s_X8_row_0 (γ : rG) (l : Launch) (x0 : Nat) (x1 : Int32) (h : rHeap) (Q : rHeap → Option Value → Prop) : Prop := rW γ l m_X8_row 0 0 0 [some (.ref x0), some (.int x1)] [] h Q
theorem w_X8_row_0 {γ : rG} {l : Launch} {Q : rHeap → Option Value → Prop} {sh : Nat × (Nat → Nat) × (Nat → Nat)} {I : Nat → Nat → Int32} {J : Nat → Nat → Int64} {R : Nat → Nat → Option Nat} {x0 : Nat} {x1 : Int32}
    (h_x0 : At8 sh R x0)
    (t : ∃ (I1 : Nat → Nat → Int32) (J2 : Nat → Nat → Int64), rMet γ l m_X0_search [.ref (x0 + 116)] (sh, I, J, R) (sh, I1, J2, R) none ∧ (∃ (v5 : Int32), rMet γ l m_X0_firstAct [.ref (x0 + 116), .int x1] (sh, I1, J2, R) (sh, I1, J2, R) (some (.int v5)) ∧ (Q (sh, I1, J2, R) (some (.int v5))))) :
    rW γ l m_X8_row 0 0 0 [some (.ref x0), some (.int x1)] [] (sh, I, J, R) Q := by
  obtain ⟨I1, J2, m3, t⟩ := t
  obtain ⟨v5, m4, t⟩ := t
  exact ⟨_, _, b_X8_row_0  h_x0 m3 m4 ⟨rfl, rfl⟩, t⟩
abbrev s_X8_shut_0 (γ : rG) (l : Launch) (x0 : Nat) (h : rHeap) (Q : rHeap → Option Value → Prop) : Prop := rW γ l m_X8_shut 0 0 0 [some (.ref x0)] [] h Q
theorem w_X8_shut_0 {γ : rG} {l : Launch} {Q : rHeap → Option Value → Prop} {sh : Nat × (Nat → Nat) × (Nat → Nat)} {I : Nat → Nat → Int32} {J : Nat → Nat → Int64} {R : Nat → Nat → Option Nat} {x0 : Nat}
    (h_x0 : At8 sh R x0)
    (t : ∃ (I1 : Nat → Nat → Int32) (J2 : Nat → Nat → Int64), rMet γ l m_X0_search [.ref (x0 + 116)] (sh, I, J, R) (sh, I1, J2, R) none ∧ (((I1 (x0 + 116) 8) ≤ 0 → (∃ (I5 : Nat → Nat → Int32) (v7 : Int32), rMet γ l m_X0_isShutTwice [.ref (x0 + 116)] (sh, I1, J2, R) (sh, I5, J2, R) (some (.int v7)) ∧ ((v7 = 0 → (Q (sh, I5, J2, R) (some (.int (0 : Int32))))) ∧ (¬ v7 = 0 → (Q (sh, I5, J2, R) (some (.int (2 : Int32)))))))) ∧ (¬ (I1 (x0 + 116) 8) ≤ 0 → (Q (sh, I1, J2, R) (some (.int (1 : Int32))))))) :
    rW γ l m_X8_shut 0 0 0 [some (.ref x0)] [] (sh, I, J, R) Q := by
  obtain ⟨I1, J2, m3, t⟩ := t
  by_cases p0 : (I1 (x0 + 116) 8) ≤ 0
  · have t := t.1 p0
    obtain ⟨I5, v7, m6, t⟩ := t
    by_cases p1 : v7 = 0
    · have t := t.1 p1
      exact ⟨_, _, b_X8_shut_0  h_x0 m3 (fun _ => m6) (fun _ _ => ⟨rfl, rfl⟩) (fun _ y1 => absurd p1 y1) (fun y0 => absurd p0 y0), t⟩
    · have t := t.2 p1
      exact ⟨_, _, b_X8_shut_0  h_x0 m3 (fun _ => m6) (fun _ y1 => absurd y1 p1) (fun _ _ => ⟨rfl, rfl⟩) (fun y0 => absurd p0 y0), t⟩
  · have t := t.2 p0
    exact ⟨_, _, b_X8_shut_0 (I5 := I) (v7 := 0) h_x0 m3 (fun y0 => absurd y0 p0) (fun y0 _ => absurd y0 p0) (fun y0 _ => absurd y0 p0) (fun _ => ⟨rfl, rfl⟩), t⟩
abbrev s_X8_hand_0 (γ : rG) (l : Launch) (x0 : Nat) (x1 : Int32) (h : rHeap) (Q : rHeap → Option Value → Prop) : Prop := rW γ l m_X8_hand 0 0 0 [some (.ref x0), some (.int x1)] [] h Q
theorem w_X8_hand_0 {γ : rG} {l : Launch} {Q : rHeap → Option Value → Prop} {sh : Nat × (Nat → Nat) × (Nat → Nat)} {I : Nat → Nat → Int32} {J : Nat → Nat → Int64} {R : Nat → Nat → Option Nat} {x0 : Nat} {x1 : Int32}
    (h_x0 : At8 sh R x0)
    (t : ∃ (I1 : Nat → Nat → Int32) (v3 : Int32), rMet γ l m_X7_addHand [.ref (x0 + 142), .int x1] (sh, I, J, R) (sh, I1, J, R) (some (.int v3)) ∧ (Q (sh, I1, J, R) (some (.int v3)))) :
    rW γ l m_X8_hand 0 0 0 [some (.ref x0), some (.int x1)] [] (sh, I, J, R) Q := by
  obtain ⟨I1, v3, m2, t⟩ := t
  exact ⟨_, _, b_X8_hand_0  h_x0 m2 ⟨rfl, rfl⟩, t⟩
abbrev s_X8_look_0 (γ : rG) (l : Launch) (x0 : Nat) (x1 : Int32) (x2 : Int32) (h : rHeap) (Q : rHeap → Option Value → Prop) : Prop := rW γ l m_X8_look 0 0 0 [some (.ref x0), some (.int x1), some (.int x2)] [] h Q
theorem w_X8_look_0 {γ : rG} {l : Launch} {Q : rHeap → Option Value → Prop} {sh : Nat × (Nat → Nat) × (Nat → Nat)} {I : Nat → Nat → Int32} {J : Nat → Nat → Int64} {R : Nat → Nat → Option Nat} {x0 : Nat} {x1 : Int32} {x2 : Int32}
    (h_x0 : At8 sh R x0)
    (t : ∃ (I1 : Nat → Nat → Int32) (v3 : Int32), rMet γ l m_X7_addLook [.ref (x0 + 142), .int x1, .int x2] (sh, I, J, R) (sh, I1, J, R) (some (.int v3)) ∧ (Q (sh, I1, J, R) (some (.int v3)))) :
    rW γ l m_X8_look 0 0 0 [some (.ref x0), some (.int x1), some (.int x2)] [] (sh, I, J, R) Q := by
  obtain ⟨I1, v3, m2, t⟩ := t
  exact ⟨_, _, b_X8_look_0  h_x0 m2 ⟨rfl, rfl⟩, t⟩
abbrev s_X8_tale_0 (γ : rG) (l : Launch) (x0 : Nat) (x1 : Int32) (h : rHeap) (Q : rHeap → Option Value → Prop) : Prop := rW γ l m_X8_tale 0 0 0 [some (.ref x0), some (.int x1)] [] h Q
theorem w_X8_tale_0 {γ : rG} {l : Launch} {Q : rHeap → Option Value → Prop} {sh : Nat × (Nat → Nat) × (Nat → Nat)} {I : Nat → Nat → Int32} {J : Nat → Nat → Int64} {R : Nat → Nat → Option Nat} {x0 : Nat} {x1 : Int32}
    (h_x0 : At8 sh R x0)
    (t : ∃ (v2 : Int32), rMet γ l m_X7_knows [.ref (x0 + 142), .int x1] (sh, I, J, R) (sh, I, J, R) (some (.int v2)) ∧ (∃ (b4 : Nat), R x0 5 = some b4 ∧ (At3 sh R b4 ∧ ((v2 = 0 → (Q (sh, I, J, R) (some (.int (-1 : Int32))))) ∧ (¬ v2 = 0 → (∃ (I6 : Nat → Nat → Int32), rMet γ l m_X7_know [.ref (x0 + 142), .int x1, .ref b4] (sh, I, J, R) (sh, I6, J, R) none ∧ (∃ (I8 : Nat → Nat → Int32) (J9 : Nat → Nat → Int64), rMet γ l m_X7_weigh [.ref (x0 + 142), .int (-1 : Int32)] (sh, I6, J, R) (sh, I8, J9, R) none ∧ (∃ (v12 : Int32), rMet γ l m_X7_leastCost [.ref (x0 + 142)] (sh, I8, J9, R) (sh, I8, J9, R) (some (.int v12)) ∧ (Q (sh, I8, J9, R) (some (.int v12))))))))))) :
    rW γ l m_X8_tale 0 0 0 [some (.ref x0), some (.int x1)] [] (sh, I, J, R) Q := by
  obtain ⟨v2, m1, t⟩ := t
  obtain ⟨b4, e5, t⟩ := t
  obtain ⟨h_b4, t⟩ := t
  by_cases p0 : v2 = 0
  · have t := t.1 p0
    exact ⟨_, _, b_X8_tale_0 (I6 := I) (I8 := I) (J9 := J) (v12 := 0) h_x0 m1 e5 h_b4 (fun y0 => absurd p0 y0) (fun y0 => absurd p0 y0) (fun y0 => absurd p0 y0) (fun y0 => absurd p0 y0) (fun _ => ⟨rfl, rfl⟩), t⟩
  · have t := t.2 p0
    obtain ⟨I6, m7, t⟩ := t
    obtain ⟨I8, J9, m10, t⟩ := t
    obtain ⟨v12, m11, t⟩ := t
    exact ⟨_, _, b_X8_tale_0  h_x0 m1 e5 h_b4 (fun _ => m7) (fun _ => m10) (fun _ => m11) (fun _ => ⟨rfl, rfl⟩) (fun y0 => absurd y0 p0), t⟩
abbrev s_X8_tales_0 (γ : rG) (l : Launch) (x0 : Nat) (x1 : Int32) (h : rHeap) (Q : rHeap → Option Value → Prop) : Prop := rW γ l m_X8_tales 0 0 0 [some (.ref x0), some (.int x1)] [] h Q
theorem w_X8_tales_0 {γ : rG} {l : Launch} {Q : rHeap → Option Value → Prop} {sh : Nat × (Nat → Nat) × (Nat → Nat)} {I : Nat → Nat → Int32} {J : Nat → Nat → Int64} {R : Nat → Nat → Option Nat} {x0 : Nat} {x1 : Int32}
    (h_x0 : At8 sh R x0)
    (t : ∃ (v2 : Int32), rMet γ l m_X7_knows [.ref (x0 + 142), .int x1] (sh, I, J, R) (sh, I, J, R) (some (.int v2)) ∧ (∃ (b4 : Nat), R x0 5 = some b4 ∧ (At3 sh R b4 ∧ ((v2 = 0 → (Q (sh, I, J, R) (some (.long (-1 : Int64))))) ∧ (¬ v2 = 0 → (∃ (I6 : Nat → Nat → Int32), rMet γ l m_X7_know [.ref (x0 + 142), .int x1, .ref b4] (sh, I, J, R) (sh, I6, J, R) none ∧ (∃ (I8 : Nat → Nat → Int32) (J9 : Nat → Nat → Int64), rMet γ l m_X7_weigh [.ref (x0 + 142), .int (-1 : Int32)] (sh, I6, J, R) (sh, I8, J9, R) none ∧ (∃ (v12 : Int64), rMet γ l m_X7_howMany [.ref (x0 + 142)] (sh, I8, J9, R) (sh, I8, J9, R) (some (.long v12)) ∧ (Q (sh, I8, J9, R) (some (.long v12))))))))))) :
    rW γ l m_X8_tales 0 0 0 [some (.ref x0), some (.int x1)] [] (sh, I, J, R) Q := by
  obtain ⟨v2, m1, t⟩ := t
  obtain ⟨b4, e5, t⟩ := t
  obtain ⟨h_b4, t⟩ := t
  by_cases p0 : v2 = 0
  · have t := t.1 p0
    exact ⟨_, _, b_X8_tales_0 (I6 := I) (I8 := I) (J9 := J) (v12 := 0) h_x0 m1 e5 h_b4 (fun y0 => absurd p0 y0) (fun y0 => absurd p0 y0) (fun y0 => absurd p0 y0) (fun y0 => absurd p0 y0) (fun _ => ⟨rfl, rfl⟩), t⟩
  · have t := t.2 p0
    obtain ⟨I6, m7, t⟩ := t
    obtain ⟨I8, J9, m10, t⟩ := t
    obtain ⟨v12, m11, t⟩ := t
    exact ⟨_, _, b_X8_tales_0  h_x0 m1 e5 h_b4 (fun _ => m7) (fun _ => m10) (fun _ => m11) (fun _ => ⟨rfl, rfl⟩) (fun y0 => absurd y0 p0), t⟩
abbrev s_X8_told_0 (γ : rG) (l : Launch) (x0 : Nat) (x1 : Int32) (x2 : Int32) (h : rHeap) (Q : rHeap → Option Value → Prop) : Prop := rW γ l m_X8_told 0 0 0 [some (.ref x0), some (.int x1), some (.int x2)] [] h Q
theorem w_X8_told_0 {γ : rG} {l : Launch} {Q : rHeap → Option Value → Prop} {sh : Nat × (Nat → Nat) × (Nat → Nat)} {I : Nat → Nat → Int32} {J : Nat → Nat → Int64} {R : Nat → Nat → Option Nat} {x0 : Nat} {x1 : Int32} {x2 : Int32}
    (h_x0 : At8 sh R x0)
    (t : ∃ (v2 : Int32), rMet γ l m_X7_knows [.ref (x0 + 142), .int x2] (sh, I, J, R) (sh, I, J, R) (some (.int v2)) ∧ (∃ (b8 : Nat), R x0 5 = some b8 ∧ (At3 sh R b8 ∧ ((v2 = 0 → (Q (sh, I, J, R) (some (.int (-1 : Int32))))) ∧ (¬ v2 = 0 → ((x1 < 0 → (Q (sh, I, J, R) (some (.int (-1 : Int32))))) ∧ (¬ x1 < 0 → ((x1 < (I (x0 + 142) 1) → (∃ (I10 : Nat → Nat → Int32), rMet γ l m_X7_know [.ref (x0 + 142), .int x2, .ref b8] (sh, I, J, R) (sh, I10, J, R) none ∧ (∃ (I12 : Nat → Nat → Int32) (J13 : Nat → Nat → Int64), rMet γ l m_X7_weigh [.ref (x0 + 142), .int (-1 : Int32)] (sh, I10, J, R) (sh, I12, J13, R) none ∧ (∃ (I15 : Nat → Nat → Int32) (v17 : Int32), rMet γ l m_X7_tell [.ref (x0 + 142)] (sh, I12, J13, R) (sh, I15, J13, R) (some (.int v17)) ∧ (vp_in x1 36 ∧ (Q (sh, I15, J13, R) (some (.int ((I15 (((x0 + 142) + 10)) x1.toNatClampNeg)))))))))) ∧ (¬ x1 < (I (x0 + 142) 1) → (Q (sh, I, J, R) (some (.int (-1 : Int32))))))))))))) :
    rW γ l m_X8_told 0 0 0 [some (.ref x0), some (.int x1), some (.int x2)] [] (sh, I, J, R) Q := by
  obtain ⟨v2, m1, t⟩ := t
  obtain ⟨b8, e9, t⟩ := t
  obtain ⟨h_b8, t⟩ := t
  by_cases p0 : v2 = 0
  · have t := t.1 p0
    exact ⟨_, _, b_X8_told_0 (I10 := I) (I12 := I) (J13 := J) (I15 := I) (v17 := 0) h_x0 m1 (fun _ => ⟨rfl, rfl⟩) (fun y0 _ => absurd p0 y0) e9 h_b8 (fun y0 _ _ => absurd p0 y0) (fun y0 _ _ => absurd p0 y0) (fun y0 _ _ => absurd p0 y0) (fun y0 _ _ => absurd p0 y0) (fun y0 _ _ => absurd p0 y0) (fun y0 _ _ => absurd p0 y0), t⟩
  · have t := t.2 p0
    by_cases p1 : x1 < 0
    · have t := t.1 p1
      exact ⟨_, _, b_X8_told_0 (I10 := I) (I12 := I) (J13 := J) (I15 := I) (v17 := 0) h_x0 m1 (fun y0 => absurd y0 p0) (fun _ _ => ⟨rfl, rfl⟩) e9 h_b8 (fun _ y1 _ => absurd p1 y1) (fun _ y1 _ => absurd p1 y1) (fun _ y1 _ => absurd p1 y1) (fun _ y1 _ => absurd p1 y1) (fun _ y1 _ => absurd p1 y1) (fun _ y1 _ => absurd p1 y1), t⟩
    · have t := t.2 p1
      by_cases p2 : x1 < (I (x0 + 142) 1)
      · have t := t.1 p2
        obtain ⟨I10, m11, t⟩ := t
        obtain ⟨I12, J13, m14, t⟩ := t
        obtain ⟨I15, v17, m16, t⟩ := t
        obtain ⟨b18, t⟩ := t
        exact ⟨_, _, b_X8_told_0  h_x0 m1 (fun y0 => absurd y0 p0) (fun _ y1 => absurd y1 p1) e9 h_b8 (fun _ _ _ => m11) (fun _ _ _ => m14) (fun _ _ _ => m16) (fun _ _ _ => b18) (fun _ _ _ => ⟨rfl, rfl⟩) (fun _ _ y2 => absurd p2 y2), t⟩
      · have t := t.2 p2
        exact ⟨_, _, b_X8_told_0 (I10 := I) (I12 := I) (J13 := J) (I15 := I) (v17 := 0) h_x0 m1 (fun y0 => absurd y0 p0) (fun _ y1 => absurd y1 p1) e9 h_b8 (fun _ _ y2 => absurd y2 p2) (fun _ _ y2 => absurd y2 p2) (fun _ _ y2 => absurd y2 p2) (fun _ _ y2 => absurd y2 p2) (fun _ _ y2 => absurd y2 p2) (fun _ _ _ => ⟨rfl, rfl⟩), t⟩
abbrev s_X8_opened_0 (γ : rG) (l : Launch) (x0 : Nat) (x1 : Int32) (x2 : Int32) (h : rHeap) (Q : rHeap → Option Value → Prop) : Prop := rW γ l m_X8_opened 0 0 0 [some (.ref x0), some (.int x1), some (.int x2)] [] h Q
theorem w_X8_opened_0 {γ : rG} {l : Launch} {Q : rHeap → Option Value → Prop} {sh : Nat × (Nat → Nat) × (Nat → Nat)} {I : Nat → Nat → Int32} {J : Nat → Nat → Int64} {R : Nat → Nat → Option Nat} {x0 : Nat} {x1 : Int32} {x2 : Int32}
    (h_x0 : At8 sh R x0)
    (t : ∃ (v2 : Int32), rMet γ l m_X7_knows [.ref (x0 + 142), .int x2] (sh, I, J, R) (sh, I, J, R) (some (.int v2)) ∧ (∃ (b8 : Nat), R x0 5 = some b8 ∧ (At3 sh R b8 ∧ ((v2 = 0 → (Q (sh, I, J, R) (some (.int (-1 : Int32))))) ∧ (¬ v2 = 0 → ((x1 < 0 → (Q (sh, I, J, R) (some (.int (-1 : Int32))))) ∧ (¬ x1 < 0 → ((x1 < (I (x0 + 142) 0) → (∃ (I10 : Nat → Nat → Int32), rMet γ l m_X7_know [.ref (x0 + 142), .int x2, .ref b8] (sh, I, J, R) (sh, I10, J, R) none ∧ (∃ (I12 : Nat → Nat → Int32) (J13 : Nat → Nat → Int64) (v15 : Int32), rMet γ l m_X7_guiltOf [.ref (x0 + 142), .int x1] (sh, I10, J, R) (sh, I12, J13, R) (some (.int v15)) ∧ (Q (sh, I12, J13, R) (some (.int v15)))))) ∧ (¬ x1 < (I (x0 + 142) 0) → (Q (sh, I, J, R) (some (.int (-1 : Int32))))))))))))) :
    rW γ l m_X8_opened 0 0 0 [some (.ref x0), some (.int x1), some (.int x2)] [] (sh, I, J, R) Q := by
  obtain ⟨v2, m1, t⟩ := t
  obtain ⟨b8, e9, t⟩ := t
  obtain ⟨h_b8, t⟩ := t
  by_cases p0 : v2 = 0
  · have t := t.1 p0
    exact ⟨_, _, b_X8_opened_0 (I10 := I) (I12 := I) (J13 := J) (v15 := 0) h_x0 m1 (fun _ => ⟨rfl, rfl⟩) (fun y0 _ => absurd p0 y0) e9 h_b8 (fun y0 _ _ => absurd p0 y0) (fun y0 _ _ => absurd p0 y0) (fun y0 _ _ => absurd p0 y0) (fun y0 _ _ => absurd p0 y0), t⟩
  · have t := t.2 p0
    by_cases p1 : x1 < 0
    · have t := t.1 p1
      exact ⟨_, _, b_X8_opened_0 (I10 := I) (I12 := I) (J13 := J) (v15 := 0) h_x0 m1 (fun y0 => absurd y0 p0) (fun _ _ => ⟨rfl, rfl⟩) e9 h_b8 (fun _ y1 _ => absurd p1 y1) (fun _ y1 _ => absurd p1 y1) (fun _ y1 _ => absurd p1 y1) (fun _ y1 _ => absurd p1 y1), t⟩
    · have t := t.2 p1
      by_cases p2 : x1 < (I (x0 + 142) 0)
      · have t := t.1 p2
        obtain ⟨I10, m11, t⟩ := t
        obtain ⟨I12, J13, v15, m14, t⟩ := t
        exact ⟨_, _, b_X8_opened_0  h_x0 m1 (fun y0 => absurd y0 p0) (fun _ y1 => absurd y1 p1) e9 h_b8 (fun _ _ _ => m11) (fun _ _ _ => m14) (fun _ _ _ => ⟨rfl, rfl⟩) (fun _ _ y2 => absurd p2 y2), t⟩
      · have t := t.2 p2
        exact ⟨_, _, b_X8_opened_0 (I10 := I) (I12 := I) (J13 := J) (v15 := 0) h_x0 m1 (fun y0 => absurd y0 p0) (fun _ y1 => absurd y1 p1) e9 h_b8 (fun _ _ y2 => absurd y2 p2) (fun _ _ y2 => absurd y2 p2) (fun _ _ y2 => absurd y2 p2) (fun _ _ _ => ⟨rfl, rfl⟩), t⟩
abbrev s_X8_turned_0 (γ : rG) (l : Launch) (x0 : Nat) (x1 : Int32) (h : rHeap) (Q : rHeap → Option Value → Prop) : Prop := rW γ l m_X8_turned 0 0 0 [some (.ref x0), some (.int x1)] [] h Q
theorem w_X8_turned_0 {γ : rG} {l : Launch} {Q : rHeap → Option Value → Prop} {sh : Nat × (Nat → Nat) × (Nat → Nat)} {I : Nat → Nat → Int32} {J : Nat → Nat → Int64} {R : Nat → Nat → Option Nat} {x0 : Nat} {x1 : Int32}
    (h_x0 : At8 sh R x0)
    (t : ∃ (b4 : Nat), R x0 5 = some b4 ∧ (At3 sh R b4 ∧ ((x1 < 0 → (Q (sh, I, J, R) (some (.int (-1 : Int32))))) ∧ (¬ x1 < 0 → ((x1 < (I (x0 + 142) 2) → (∃ (I6 : Nat → Nat → Int32), rMet γ l m_X7_know [.ref (x0 + 142), .int x1, .ref b4] (sh, I, J, R) (sh, I6, J, R) none ∧ (∃ (I8 : Nat → Nat → Int32) (J9 : Nat → Nat → Int64) (v11 : Int32), rMet γ l m_X7_firstTurn [.ref (x0 + 142), .int x1] (sh, I6, J, R) (sh, I8, J9, R) (some (.int v11)) ∧ (Q (sh, I8, J9, R) (some (.int v11)))))) ∧ (¬ x1 < (I (x0 + 142) 2) → (Q (sh, I, J, R) (some (.int (-1 : Int32)))))))))) :
    rW γ l m_X8_turned 0 0 0 [some (.ref x0), some (.int x1)] [] (sh, I, J, R) Q := by
  obtain ⟨b4, e5, t⟩ := t
  obtain ⟨h_b4, t⟩ := t
  by_cases p0 : x1 < 0
  · have t := t.1 p0
    exact ⟨_, _, b_X8_turned_0 (I6 := I) (I8 := I) (J9 := J) (v11 := 0) h_x0 (fun _ => ⟨rfl, rfl⟩) e5 h_b4 (fun y0 _ => absurd p0 y0) (fun y0 _ => absurd p0 y0) (fun y0 _ => absurd p0 y0) (fun y0 _ => absurd p0 y0), t⟩
  · have t := t.2 p0
    by_cases p1 : x1 < (I (x0 + 142) 2)
    · have t := t.1 p1
      obtain ⟨I6, m7, t⟩ := t
      obtain ⟨I8, J9, v11, m10, t⟩ := t
      exact ⟨_, _, b_X8_turned_0  h_x0 (fun y0 => absurd y0 p0) e5 h_b4 (fun _ _ => m7) (fun _ _ => m10) (fun _ _ => ⟨rfl, rfl⟩) (fun _ y1 => absurd p1 y1), t⟩
    · have t := t.2 p1
      exact ⟨_, _, b_X8_turned_0 (I6 := I) (I8 := I) (J9 := J) (v11 := 0) h_x0 (fun y0 => absurd y0 p0) e5 h_b4 (fun _ y1 => absurd y1 p1) (fun _ y1 => absurd y1 p1) (fun _ y1 => absurd y1 p1) (fun _ _ => ⟨rfl, rfl⟩), t⟩
abbrev s_X8_count_0 (γ : rG) (l : Launch) (x0 : Nat) (x1 : Int32) (h : rHeap) (Q : rHeap → Option Value → Prop) : Prop := rW γ l m_X8_count 0 0 0 [some (.ref x0), some (.int x1)] [] h Q
theorem w_X8_count_0 {γ : rG} {l : Launch} {Q : rHeap → Option Value → Prop} {sh : Nat × (Nat → Nat) × (Nat → Nat)} {I : Nat → Nat → Int32} {J : Nat → Nat → Int64} {R : Nat → Nat → Option Nat} {x0 : Nat} {x1 : Int32}
    (h_x0 : At8 sh R x0)
    (t : ∃ (b10 : Nat), R x0 5 = some b10 ∧ (At3 sh R b10 ∧ (∃ (b16 : Nat), R x0 5 = some b16 ∧ (At3 sh R b16 ∧ ((x1 = (0 : Int32) → (Q (sh, I, J, R) (some (.int ((I (x0 + 5) 0)))))) ∧ (¬ x1 = (0 : Int32) → ((x1 = (1 : Int32) → (∃ (b5 : Nat), rMet γ l m_X5_packet [.ref (x0 + 5)] (sh, I, J, R) (sh, I, J, R) (some (.ref b5)) ∧ (At2 sh R b5 ∧ (Q (sh, I, J, R) (some (.int (I b5 1))))))) ∧ (¬ x1 = (1 : Int32) → ((x1 = (2 : Int32) → (Q (sh, I, J, R) (some (.int ((I (x0 + 5) 1)))))) ∧ (¬ x1 = (2 : Int32) → ((x1 = (3 : Int32) → (Q (sh, I, J, R) (some (.int (I b10 0))))) ∧ (¬ x1 = (3 : Int32) → ((x1 = (4 : Int32) → (Q (sh, I, J, R) (some (.int ((I (x0 + 1) 1)))))) ∧ (¬ x1 = (4 : Int32) → ((x1 = (5 : Int32) → (∃ (I18 : Nat → Nat → Int32) (v20 : Int32), rMet γ l m_X5_harmOfAll [.ref (x0 + 5), .ref b16] (sh, I, J, R) (sh, I18, J, R) (some (.int v20)) ∧ (Q (sh, I18, J, R) (some (.int v20))))) ∧ (¬ x1 = (5 : Int32) → ((x1 = (6 : Int32) → (Q (sh, I, J, R) (some (.int ((I (x0 + 142) 0)))))) ∧ (¬ x1 = (6 : Int32) → ((x1 = (7 : Int32) → (Q (sh, I, J, R) (some (.int ((I (x0 + 142) 1)))))) ∧ (¬ x1 = (7 : Int32) → ((x1 = (8 : Int32) → (Q (sh, I, J, R) (some (.int ((I (x0 + 142) 2)))))) ∧ (¬ x1 = (8 : Int32) → (Q (sh, I, J, R) (some (.int (-1 : Int32)))))))))))))))))))))))))) :
    rW γ l m_X8_count 0 0 0 [some (.ref x0), some (.int x1)] [] (sh, I, J, R) Q := by
  obtain ⟨b10, e11, t⟩ := t
  obtain ⟨h_b10, t⟩ := t
  obtain ⟨b16, e17, t⟩ := t
  obtain ⟨h_b16, t⟩ := t
  by_cases p0 : x1 = (0 : Int32)
  · have t := t.1 p0
    exact ⟨_, _, b_X8_count_0 (b5 := 0) (I18 := I) (v20 := 0) h_x0 (fun _ => ⟨rfl, rfl⟩) (fun y0 _ => absurd p0 y0) (fun y0 _ => absurd p0 y0) (fun y0 _ => absurd p0 y0) (fun y0 _ _ => absurd p0 y0) e11 h_b10 (fun y0 _ _ _ => absurd p0 y0) (fun y0 _ _ _ _ => absurd p0 y0) e17 h_b16 (fun y0 _ _ _ _ _ => absurd p0 y0) (fun y0 _ _ _ _ _ => absurd p0 y0) (fun y0 _ _ _ _ _ _ => absurd p0 y0) (fun y0 _ _ _ _ _ _ _ => absurd p0 y0) (fun y0 _ _ _ _ _ _ _ _ => absurd p0 y0) (fun y0 _ _ _ _ _ _ _ _ => absurd p0 y0), t⟩
  · have t := t.2 p0
    by_cases p1 : x1 = (1 : Int32)
    · have t := t.1 p1
      obtain ⟨b5, m4, t⟩ := t
      obtain ⟨h_b5, t⟩ := t
      exact ⟨_, _, b_X8_count_0 (I18 := I) (v20 := 0) h_x0 (fun y0 => absurd y0 p0) (fun _ _ => m4) (fun _ _ => h_b5) (fun _ _ => ⟨rfl, rfl⟩) (fun _ y1 _ => absurd p1 y1) e11 h_b10 (fun _ y1 _ _ => absurd p1 y1) (fun _ y1 _ _ _ => absurd p1 y1) e17 h_b16 (fun _ y1 _ _ _ _ => absurd p1 y1) (fun _ y1 _ _ _ _ => absurd p1 y1) (fun _ y1 _ _ _ _ _ => absurd p1 y1) (fun _ y1 _ _ _ _ _ _ => absurd p1 y1) (fun _ y1 _ _ _ _ _ _ _ => absurd p1 y1) (fun _ y1 _ _ _ _ _ _ _ => absurd p1 y1), t⟩
    · have t := t.2 p1
      by_cases p2 : x1 = (2 : Int32)
      · have t := t.1 p2
        exact ⟨_, _, b_X8_count_0 (b5 := 0) (I18 := I) (v20 := 0) h_x0 (fun y0 => absurd y0 p0) (fun _ y1 => absurd y1 p1) (fun _ y1 => absurd y1 p1) (fun _ y1 => absurd y1 p1) (fun _ _ _ => ⟨rfl, rfl⟩) e11 h_b10 (fun _ _ y2 _ => absurd p2 y2) (fun _ _ y2 _ _ => absurd p2 y2) e17 h_b16 (fun _ _ y2 _ _ _ => absurd p2 y2) (fun _ _ y2 _ _ _ => absurd p2 y2) (fun _ _ y2 _ _ _ _ => absurd p2 y2) (fun _ _ y2 _ _ _ _ _ => absurd p2 y2) (fun _ _ y2 _ _ _ _ _ _ => absurd p2 y2) (fun _ _ y2 _ _ _ _ _ _ => absurd p2 y2), t⟩
      · have t := t.2 p2
        by_cases p3 : x1 = (3 : Int32)
        · have t := t.1 p3
          exact ⟨_, _, b_X8_count_0 (b5 := 0) (I18 := I) (v20 := 0) h_x0 (fun y0 => absurd y0 p0) (fun _ y1 => absurd y1 p1) (fun _ y1 => absurd y1 p1) (fun _ y1 => absurd y1 p1) (fun _ _ y2 => absurd y2 p2) e11 h_b10 (fun _ _ _ _ => ⟨rfl, rfl⟩) (fun _ _ _ y3 _ => absurd p3 y3) e17 h_b16 (fun _ _ _ y3 _ _ => absurd p3 y3) (fun _ _ _ y3 _ _ => absurd p3 y3) (fun _ _ _ y3 _ _ _ => absurd p3 y3) (fun _ _ _ y3 _ _ _ _ => absurd p3 y3) (fun _ _ _ y3 _ _ _ _ _ => absurd p3 y3) (fun _ _ _ y3 _ _ _ _ _ => absurd p3 y3), t⟩
        · have t := t.2 p3
          by_cases p4 : x1 = (4 : Int32)
          · have t := t.1 p4
            exact ⟨_, _, b_X8_count_0 (b5 := 0) (I18 := I) (v20 := 0) h_x0 (fun y0 => absurd y0 p0) (fun _ y1 => absurd y1 p1) (fun _ y1 => absurd y1 p1) (fun _ y1 => absurd y1 p1) (fun _ _ y2 => absurd y2 p2) e11 h_b10 (fun _ _ _ y3 => absurd y3 p3) (fun _ _ _ _ _ => ⟨rfl, rfl⟩) e17 h_b16 (fun _ _ _ _ y4 _ => absurd p4 y4) (fun _ _ _ _ y4 _ => absurd p4 y4) (fun _ _ _ _ y4 _ _ => absurd p4 y4) (fun _ _ _ _ y4 _ _ _ => absurd p4 y4) (fun _ _ _ _ y4 _ _ _ _ => absurd p4 y4) (fun _ _ _ _ y4 _ _ _ _ => absurd p4 y4), t⟩
          · have t := t.2 p4
            by_cases p5 : x1 = (5 : Int32)
            · have t := t.1 p5
              obtain ⟨I18, v20, m19, t⟩ := t
              exact ⟨_, _, b_X8_count_0 (b5 := 0) h_x0 (fun y0 => absurd y0 p0) (fun _ y1 => absurd y1 p1) (fun _ y1 => absurd y1 p1) (fun _ y1 => absurd y1 p1) (fun _ _ y2 => absurd y2 p2) e11 h_b10 (fun _ _ _ y3 => absurd y3 p3) (fun _ _ _ _ y4 => absurd y4 p4) e17 h_b16 (fun _ _ _ _ _ _ => m19) (fun _ _ _ _ _ _ => ⟨rfl, rfl⟩) (fun _ _ _ _ _ y5 _ => absurd p5 y5) (fun _ _ _ _ _ y5 _ _ => absurd p5 y5) (fun _ _ _ _ _ y5 _ _ _ => absurd p5 y5) (fun _ _ _ _ _ y5 _ _ _ => absurd p5 y5), t⟩
            · have t := t.2 p5
              by_cases p6 : x1 = (6 : Int32)
              · have t := t.1 p6
                exact ⟨_, _, b_X8_count_0 (b5 := 0) (I18 := I) (v20 := 0) h_x0 (fun y0 => absurd y0 p0) (fun _ y1 => absurd y1 p1) (fun _ y1 => absurd y1 p1) (fun _ y1 => absurd y1 p1) (fun _ _ y2 => absurd y2 p2) e11 h_b10 (fun _ _ _ y3 => absurd y3 p3) (fun _ _ _ _ y4 => absurd y4 p4) e17 h_b16 (fun _ _ _ _ _ y5 => absurd y5 p5) (fun _ _ _ _ _ y5 => absurd y5 p5) (fun _ _ _ _ _ _ _ => ⟨rfl, rfl⟩) (fun _ _ _ _ _ _ y6 _ => absurd p6 y6) (fun _ _ _ _ _ _ y6 _ _ => absurd p6 y6) (fun _ _ _ _ _ _ y6 _ _ => absurd p6 y6), t⟩
              · have t := t.2 p6
                by_cases p7 : x1 = (7 : Int32)
                · have t := t.1 p7
                  exact ⟨_, _, b_X8_count_0 (b5 := 0) (I18 := I) (v20 := 0) h_x0 (fun y0 => absurd y0 p0) (fun _ y1 => absurd y1 p1) (fun _ y1 => absurd y1 p1) (fun _ y1 => absurd y1 p1) (fun _ _ y2 => absurd y2 p2) e11 h_b10 (fun _ _ _ y3 => absurd y3 p3) (fun _ _ _ _ y4 => absurd y4 p4) e17 h_b16 (fun _ _ _ _ _ y5 => absurd y5 p5) (fun _ _ _ _ _ y5 => absurd y5 p5) (fun _ _ _ _ _ _ y6 => absurd y6 p6) (fun _ _ _ _ _ _ _ _ => ⟨rfl, rfl⟩) (fun _ _ _ _ _ _ _ y7 _ => absurd p7 y7) (fun _ _ _ _ _ _ _ y7 _ => absurd p7 y7), t⟩
                · have t := t.2 p7
                  by_cases p8 : x1 = (8 : Int32)
                  · have t := t.1 p8
                    exact ⟨_, _, b_X8_count_0 (b5 := 0) (I18 := I) (v20 := 0) h_x0 (fun y0 => absurd y0 p0) (fun _ y1 => absurd y1 p1) (fun _ y1 => absurd y1 p1) (fun _ y1 => absurd y1 p1) (fun _ _ y2 => absurd y2 p2) e11 h_b10 (fun _ _ _ y3 => absurd y3 p3) (fun _ _ _ _ y4 => absurd y4 p4) e17 h_b16 (fun _ _ _ _ _ y5 => absurd y5 p5) (fun _ _ _ _ _ y5 => absurd y5 p5) (fun _ _ _ _ _ _ y6 => absurd y6 p6) (fun _ _ _ _ _ _ _ y7 => absurd y7 p7) (fun _ _ _ _ _ _ _ _ _ => ⟨rfl, rfl⟩) (fun _ _ _ _ _ _ _ _ y8 => absurd p8 y8), t⟩
                  · have t := t.2 p8
                    exact ⟨_, _, b_X8_count_0 (b5 := 0) (I18 := I) (v20 := 0) h_x0 (fun y0 => absurd y0 p0) (fun _ y1 => absurd y1 p1) (fun _ y1 => absurd y1 p1) (fun _ y1 => absurd y1 p1) (fun _ _ y2 => absurd y2 p2) e11 h_b10 (fun _ _ _ y3 => absurd y3 p3) (fun _ _ _ _ y4 => absurd y4 p4) e17 h_b16 (fun _ _ _ _ _ y5 => absurd y5 p5) (fun _ _ _ _ _ y5 => absurd y5 p5) (fun _ _ _ _ _ _ y6 => absurd y6 p6) (fun _ _ _ _ _ _ _ y7 => absurd y7 p7) (fun _ _ _ _ _ _ _ _ y8 => absurd y8 p8) (fun _ _ _ _ _ _ _ _ _ => ⟨rfl, rfl⟩), t⟩
abbrev s_X8_held_0 (γ : rG) (l : Launch) (x0 : Int32) (h : rHeap) (Q : rHeap → Option Value → Prop) : Prop := rW γ l m_X8_held 0 0 0 [some (.int x0)] [] h Q
theorem w_X8_held_0 {γ : rG} {l : Launch} {Q : rHeap → Option Value → Prop} {sh : Nat × (Nat → Nat) × (Nat → Nat)} {I : Nat → Nat → Int32} {J : Nat → Nat → Int64} {R : Nat → Nat → Option Nat} {x0 : Int32}
    (t : Q (sh, I, J, R) (some (.int ((if (0 : Int32) < (if x0 < (1000 : Int32) then x0 else (1000 : Int32)) then (if x0 < (1000 : Int32) then x0 else (1000 : Int32)) else (0 : Int32)))))) :
    rW γ l m_X8_held 0 0 0 [some (.int x0)] [] (sh, I, J, R) Q := by
  exact ⟨_, _, b_X8_held_0  ⟨rfl, rfl⟩, t⟩
