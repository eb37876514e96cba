abbrev s_X2_layFlat_0 (γ : rG) (l : Launch) (x0 : Nat) (x1 : Int32) (h : rHeap) (Q : rHeap → Option Value → Prop) : Prop := rW γ l m_X2_layFlat 0 0 0 [some (.ref x0), some (.int x1), none] [] h Q
theorem w_X2_layFlat_0 {γ : rG} {l : Launch} {Q : rHeap → Option Value → Prop} {sh : Nat × (Nat → Nat) × (Nat → Nat)} {I : Nat → Nat → Int32} {J : Nat → Nat → Int64} {R : Nat → Nat → Option Nat} {x0 : Nat} {x1 : Int32}
    (h_x0 : At2 sh R x0)
    (t : ∃ (I1 : Nat → Nat → Int32), rMet γ l m_X2_begin [.ref x0, .int x1, .int x1] (sh, I, J, R) (sh, I1, J, R) none ∧ (rW γ l m_X2_layFlat 0 0 8 [some (.ref x0), none, some (.int (0 : Int32))] [] (sh, I1, J, R) Q)) :
    rW γ l m_X2_layFlat 0 0 0 [some (.ref x0), some (.int x1), none] [] (sh, I, J, R) Q := by
  obtain ⟨I1, m2, t⟩ := t
  obtain ⟨hf, r, t, q⟩ := t
  exact ⟨hf, r, b_X2_layFlat_0  h_x0 m2 t, q⟩
abbrev s_X2_layFlat_8 (γ : rG) (l : Launch) (x0 : Nat) (x2 : Int32) (h : rHeap) (Q : rHeap → Option Value → Prop) : Prop := rW γ l m_X2_layFlat 0 0 8 [some (.ref x0), none, some (.int x2)] [] h Q
theorem w_X2_layFlat_8 {γ : rG} {l : Launch} {Q : rHeap → Option Value → Prop} {sh : Nat × (Nat → Nat) × (Nat → Nat)} {I : Nat → Nat → Int32} {J : Nat → Nat → Int64} {R : Nat → Nat → Option Nat} {x0 : Nat} {x2 : Int32}
    (h_x0 : At2 sh R x0)
    (t : ((I x0 0) ≤ x2 → (Q (sh, I, J, R) (none))) ∧ (¬ (I x0 0) ≤ x2 → (∃ (I3 : Nat → Nat → Int32), rMet γ l m_X2_lay [.ref x0, .int x2, .int x2, .int (0 : Int32), .int (1 : Int32)] (sh, I, J, R) (sh, I3, J, R) none ∧ (rW γ l m_X2_layFlat 0 0 8 [some (.ref x0), none, some (.int (x2 + (1 : Int32)))] [] (sh, I3, J, R) Q)))) :
    rW γ l m_X2_layFlat 0 0 8 [some (.ref x0), none, some (.int x2)] [] (sh, I, J, R) Q := by
  by_cases p0 : (I x0 0) ≤ x2
  · have t := t.1 p0
    exact ⟨_, _, b_X2_layFlat_8 (I3 := I) h_x0 (fun _ => ⟨rfl, rfl⟩) (fun y0 => absurd p0 y0) (fun y0 => absurd p0 y0), t⟩
  · have t := t.2 p0
    obtain ⟨I3, m4, t⟩ := t
    obtain ⟨hf, r, t, q⟩ := t
    exact ⟨hf, r, b_X2_layFlat_8  h_x0 (fun y0 => absurd y0 p0) (fun _ => m4) (fun _ => t), q⟩
abbrev s_X2_copy_0 (γ : rG) (l : Launch) (x0 : Nat) (x1 : Nat) (h : rHeap) (Q : rHeap → Option Value → Prop) : Prop := rW γ l m_X2_copy 0 0 0 [some (.ref x0), some (.ref x1), none] [] h Q
theorem w_X2_copy_0 {γ : rG} {l : Launch} {Q : rHeap → Option Value → Prop} {sh : Nat × (Nat → Nat) × (Nat → Nat)} {I : Nat → Nat → Int32} {J : Nat → Nat → Int64} {R : Nat → Nat → Option Nat} {x0 : Nat} {x1 : Nat}
    (h_x0 : At2 sh R x0)
    (h_x1 : At2 sh R x1)
    (t : ∃ (I1 : Nat → Nat → Int32), rMet γ l m_X2_begin [.ref x0, .int (I x1 0), .int (I x1 1)] (sh, I, J, R) (sh, I1, J, R) none ∧ (rW γ l m_X2_copy 0 0 14 [some (.ref x0), some (.ref x1), some (.int (0 : Int32))] [] (sh, I1, J, R) Q)) :
    rW γ l m_X2_copy 0 0 0 [some (.ref x0), some (.ref x1), none] [] (sh, I, J, R) Q := by
  obtain ⟨I1, m2, t⟩ := t
  obtain ⟨hf, r, t, q⟩ := t
  exact ⟨hf, r, b_X2_copy_0  h_x0 h_x1 m2 t, q⟩
abbrev s_X2_copy_14 (γ : rG) (l : Launch) (x0 : Nat) (x1 : Nat) (x2 : Int32) (h : rHeap) (Q : rHeap → Option Value → Prop) : Prop := rW γ l m_X2_copy 0 0 14 [some (.ref x0), some (.ref x1), some (.int x2)] [] h Q
theorem w_X2_copy_14 {γ : rG} {l : Launch} {Q : rHeap → Option Value → Prop} {sh : Nat × (Nat → Nat) × (Nat → Nat)} {I : Nat → Nat → Int32} {J : Nat → Nat → Int64} {R : Nat → Nat → Option Nat} {x0 : Nat} {x1 : Nat} {x2 : Int32}
    (h_x0 : At2 sh R x0)
    (h_x1 : At2 sh R x1)
    (t : ((I x0 0) ≤ x2 → (Q (sh, I, J, R) (none))) ∧ (¬ (I x0 0) ≤ x2 → (vp_in x2 8 ∧ (vp_in x2 8 ∧ (vp_in x2 8 ∧ (∃ (I6 : Nat → Nat → Int32), rMet γ l m_X2_lay [.ref x0, .int x2, .int (I (x1 + 1) x2.toNatClampNeg), .int (I (x1 + 2) x2.toNatClampNeg), .int (I (x1 + 3) x2.toNatClampNeg)] (sh, I, J, R) (sh, I6, J, R) none ∧ (rW γ l m_X2_copy 0 0 14 [some (.ref x0), some (.ref x1), some (.int (x2 + (1 : Int32)))] [] (sh, I6, J, R) Q))))))) :
    rW γ l m_X2_copy 0 0 14 [some (.ref x0), some (.ref x1), some (.int x2)] [] (sh, I, J, R) Q := by
  by_cases p0 : (I x0 0) ≤ x2
  · have t := t.1 p0
    exact ⟨_, _, b_X2_copy_14 (I6 := I) h_x0 h_x1 (fun _ => ⟨rfl, rfl⟩) (fun y0 => absurd p0 y0) (fun y0 => absurd p0 y0) (fun y0 => absurd p0 y0) (fun y0 => absurd p0 y0) (fun y0 => absurd p0 y0), t⟩
  · have t := t.2 p0
    obtain ⟨b3, t⟩ := t
    obtain ⟨b4, t⟩ := t
    obtain ⟨b5, t⟩ := t
    obtain ⟨I6, m7, t⟩ := t
    obtain ⟨hf, r, t, q⟩ := t
    exact ⟨hf, r, b_X2_copy_14  h_x0 h_x1 (fun y0 => absurd y0 p0) (fun _ => b3) (fun _ => b4) (fun _ => b5) (fun _ => m7) (fun _ => t), q⟩
abbrev s_X2_begin_0 (γ : rG) (l : Launch) (x0 : Nat) (x1 : Int32) (x2 : Int32) (h : rHeap) (Q : rHeap → Option Value → Prop) : Prop := rW γ l m_X2_begin 0 0 0 [some (.ref x0), some (.int x1), some (.int x2)] [] h Q
theorem w_X2_begin_0 {γ : rG} {l : Launch} {Q : rHeap → Option Value → Prop} {sh : Nat × (Nat → Nat) × (Nat → Nat)} {I : Nat → Nat → Int32} {J : Nat → Nat → Int64} {R : Nat → Nat → Option Nat} {x0 : Nat} {x1 : Int32} {x2 : Int32}
    (h_x0 : At2 sh R x0)
    (t : ∃ (I1 : Nat → Nat → Int32), rMet γ l m_J7_fill_53178 [.ref (x0 + 4), .int (0 : Int32)] (sh, (up (up I x0 0 x1) x0 1 x2), J, R) (sh, I1, J, R) none ∧ (Q (sh, I1, J, R) (none))) :
    rW γ l m_X2_begin 0 0 0 [some (.ref x0), some (.int x1), some (.int x2)] [] (sh, I, J, R) Q := by
  obtain ⟨I1, m2, t⟩ := t
  exact ⟨_, _, b_X2_begin_0  h_x0 m2 ⟨rfl, rfl⟩, t⟩
abbrev s_X2_lay_0 (γ : rG) (l : Launch) (x0 : Nat) (x1 : Int32) (x2 : Int32) (x3 : Int32) (x4 : Int32) (h : rHeap) (Q : rHeap → Option Value → Prop) : Prop := rW γ l m_X2_lay 0 0 0 [some (.ref x0), some (.int x1), some (.int x2), some (.int x3), some (.int x4)] [] h Q
theorem w_X2_lay_0 {γ : rG} {l : Launch} {Q : rHeap → Option Value → Prop} {sh : Nat × (Nat → Nat) × (Nat → Nat)} {I : Nat → Nat → Int32} {J : Nat → Nat → Int64} {R : Nat → Nat → Option Nat} {x0 : Nat} {x1 : Int32} {x2 : Int32} {x3 : Int32} {x4 : Int32}
    (h_x0 : At2 sh R x0)
    (t : (x2 < 0 → (Q (sh, I, J, R) (none))) ∧ (¬ x2 < 0 → (((8 : Int32) ≤ x2 → (Q (sh, I, J, R) (none))) ∧ (¬ (8 : Int32) ≤ x2 → ((x3 < 0 → (Q (sh, I, J, R) (none))) ∧ (¬ x3 < 0 → ((x3 < (8 : Int32) → (vp_in x1 8 ∧ (vp_in x1 8 ∧ (vp_in x1 8 ∧ (vp_in x2 8 ∧ (vp_in x2 8 ∧ (vp_in ((((8 : Int32) * x2) + x3)) 64 ∧ (Q (sh, (up (up (up (up (up I (x0 + 1) x1.toNatClampNeg x2) (x0 + 2) x1.toNatClampNeg x3) (x0 + 3) x1.toNatClampNeg (vp_nar .boolean x4)) (x0 + 4) x2.toNatClampNeg ((((up (up (up I (x0 + 1) x1.toNatClampNeg x2) (x0 + 2) x1.toNatClampNeg x3) (x0 + 3) x1.toNatClampNeg (vp_nar .boolean x4)) (x0 + 4) x2.toNatClampNeg) + (1 : Int32)))) (x0 + 5) ((((8 : Int32) * x2) + x3)).toNatClampNeg x1), J, R) (none))))))))) ∧ (¬ x3 < (8 : Int32) → (Q (sh, I, J, R) (none)))))))))) :
    rW γ l m_X2_lay 0 0 0 [some (.ref x0), some (.int x1), some (.int x2), some (.int x3), some (.int x4)] [] (sh, I, J, R) Q := by
  by_cases p0 : x2 < 0
  · have t := t.1 p0
    exact ⟨_, _, b_X2_lay_0  h_x0 (fun _ => ⟨rfl, rfl⟩) (fun y0 _ => absurd p0 y0) (fun y0 _ _ => absurd p0 y0) (fun y0 _ _ _ => absurd p0 y0) (fun y0 _ _ _ => absurd p0 y0) (fun y0 _ _ _ => absurd p0 y0) (fun y0 _ _ _ => absurd p0 y0) (fun y0 _ _ _ => absurd p0 y0) (fun y0 _ _ _ => absurd p0 y0) (fun y0 _ _ _ => absurd p0 y0) (fun y0 _ _ _ => absurd p0 y0), t⟩
  · have t := t.2 p0
    by_cases p1 : (8 : Int32) ≤ x2
    · have t := t.1 p1
      exact ⟨_, _, b_X2_lay_0  h_x0 (fun y0 => absurd y0 p0) (fun _ _ => ⟨rfl, rfl⟩) (fun _ y1 _ => absurd p1 y1) (fun _ y1 _ _ => absurd p1 y1) (fun _ y1 _ _ => absurd p1 y1) (fun _ y1 _ _ => absurd p1 y1) (fun _ y1 _ _ => absurd p1 y1) (fun _ y1 _ _ => absurd p1 y1) (fun _ y1 _ _ => absurd p1 y1) (fun _ y1 _ _ => absurd p1 y1) (fun _ y1 _ _ => absurd p1 y1), t⟩
    · have t := t.2 p1
      by_cases p2 : x3 < 0
      · have t := t.1 p2
        exact ⟨_, _, b_X2_lay_0  h_x0 (fun y0 => absurd y0 p0) (fun _ y1 => absurd y1 p1) (fun _ _ _ => ⟨rfl, rfl⟩) (fun _ _ y2 _ => absurd p2 y2) (fun _ _ y2 _ => absurd p2 y2) (fun _ _ y2 _ => absurd p2 y2) (fun _ _ y2 _ => absurd p2 y2) (fun _ _ y2 _ => absurd p2 y2) (fun _ _ y2 _ => absurd p2 y2) (fun _ _ y2 _ => absurd p2 y2) (fun _ _ y2 _ => absurd p2 y2), t⟩
      · have t := t.2 p2
        by_cases p3 : x3 < (8 : Int32)
        · have t := t.1 p3
          obtain ⟨b8, t⟩ := t
          obtain ⟨b9, t⟩ := t
          obtain ⟨b10, t⟩ := t
          obtain ⟨b11, t⟩ := t
          obtain ⟨b12, t⟩ := t
          obtain ⟨b13, t⟩ := t
          exact ⟨_, _, b_X2_lay_0  h_x0 (fun y0 => absurd y0 p0) (fun _ y1 => absurd y1 p1) (fun _ _ y2 => absurd y2 p2) (fun _ _ _ _ => b8) (fun _ _ _ _ => b9) (fun _ _ _ _ => b10) (fun _ _ _ _ => b11) (fun _ _ _ _ => b12) (fun _ _ _ _ => b13) (fun _ _ _ _ => ⟨rfl, rfl⟩) (fun _ _ _ y3 => absurd p3 y3), t⟩
        · have t := t.2 p3
          exact ⟨_, _, b_X2_lay_0  h_x0 (fun y0 => absurd y0 p0) (fun _ y1 => absurd y1 p1) (fun _ _ y2 => absurd y2 p2) (fun _ _ _ y3 => absurd y3 p3) (fun _ _ _ y3 => absurd y3 p3) (fun _ _ _ y3 => absurd y3 p3) (fun _ _ _ y3 => absurd y3 p3) (fun _ _ _ y3 => absurd y3 p3) (fun _ _ _ y3 => absurd y3 p3) (fun _ _ _ y3 => absurd y3 p3) (fun _ _ _ _ => ⟨rfl, rfl⟩), t⟩
abbrev s_X2_turn_0 (γ : rG) (l : Launch) (x0 : Nat) (x1 : Nat) (x2 : Int32) (x3 : Int32) (x4 : Int32) (h : rHeap) (Q : rHeap → Option Value → Prop) : Prop := rW γ l m_X2_turn 0 0 0 [some (.ref x0), some (.ref x1), some (.int x2), some (.int x3), some (.int x4), none, none, none, none, none, none, none, none] [] h Q
theorem w_X2_turn_0 {γ : rG} {l : Launch} {Q : rHeap → Option Value → Prop} {sh : Nat × (Nat → Nat) × (Nat → Nat)} {I : Nat → Nat → Int32} {J : Nat → Nat → Int64} {R : Nat → Nat → Option Nat} {x0 : Nat} {x1 : Nat} {x2 : Int32} {x3 : Int32} {x4 : Int32}
    (h_x0 : At2 sh R x0)
    (h_x1 : At2 sh R x1)
    (t : ∃ (I1 : Nat → Nat → Int32), rMet γ l m_X2_begin [.ref x0, .int (I x1 0), .int (if x2 < ((I x1 1) - x2) then ((I x1 1) - x2) else x2)] (sh, I, J, R) (sh, I1, J, R) none ∧ ((x3 = 0 → (rW γ l m_X2_turn 0 0 45 [some (.ref x0), some (.ref x1), some (.int x2), some (.int x3), some (.int x4), some (.int (I x1 1)), some (.int (if (((2 : Int32) * x2) - (I x1 1)) < (0 : Int32) then (((2 : Int32) * x2) - (I x1 1)) else (0 : Int32))), some (.int (0 : Int32)), none, none, none, none, none] [] (sh, I1, J, R) Q)) ∧ (¬ x3 = 0 → (rW γ l m_X2_turn 0 0 45 [some (.ref x0), some (.ref x1), some (.int x2), some (.int x3), some (.int x4), some (.int (I x1 1)), some (.int x2), some (.int (0 : Int32)), none, none, none, none, none] [] (sh, I1, J, R) Q)))) :
    rW γ l m_X2_turn 0 0 0 [some (.ref x0), some (.ref x1), some (.int x2), some (.int x3), some (.int x4), none, none, none, none, none, none, none, none] [] (sh, I, J, R) Q := by
  obtain ⟨I1, m2, t⟩ := t
  by_cases p0 : x3 = 0
  · have t := t.1 p0
    obtain ⟨hf, r, t, q⟩ := t
    exact ⟨hf, r, b_X2_turn_0  h_x0 h_x1 m2 (fun _ => t) (fun y0 => absurd p0 y0), q⟩
  · have t := t.2 p0
    obtain ⟨hf, r, t, q⟩ := t
    exact ⟨hf, r, b_X2_turn_0  h_x0 h_x1 m2 (fun y0 => absurd y0 p0) (fun _ => t), q⟩
abbrev s_X2_turn_45 (γ : rG) (l : Launch) (x0 : Nat) (x1 : Nat) (x2 : Int32) (x3 : Int32) (x4 : Int32) (x5 : Int32) (x6 : Int32) (x7 : Int32) (h : rHeap) (Q : rHeap → Option Value → Prop) : Prop := rW γ l m_X2_turn 0 0 45 [some (.ref x0), some (.ref x1), some (.int x2), some (.int x3), some (.int x4), some (.int x5), some (.int x6), some (.int x7), none, none, none, none, none] [] h Q
theorem w_X2_turn_45 {γ : rG} {l : Launch} {Q : rHeap → Option Value → Prop} {sh : Nat × (Nat → Nat) × (Nat → Nat)} {I : Nat → Nat → Int32} {J : Nat → Nat → Int64} {R : Nat → Nat → Option Nat} {x0 : Nat} {x1 : Nat} {x2 : Int32} {x3 : Int32} {x4 : Int32} {x5 : Int32} {x6 : Int32} {x7 : Int32}
    (h_x0 : At2 sh R x0)
    (h_x1 : At2 sh R x1)
    (t : ((I x0 0) ≤ x7 → (Q (sh, I, J, R) (none))) ∧ (¬ (I x0 0) ≤ x7 → (vp_in x7 8 ∧ (vp_in x7 8 ∧ ((((((2 : Int32) * x2) - (1 : Int32)) - (I (x1 + 1) x7.toNatClampNeg)) < 0 → (rW γ l m_X2_turn 0 0 104 [some (.ref x0), some (.ref x1), some (.int x2), some (.int x3), some (.int x4), some (.int x5), some (.int x6), some (.int x7), some (.int (I (x1 + 1) x7.toNatClampNeg)), some (.int (I (x1 + 2) x7.toNatClampNeg)), some (.int ((((2 : Int32) * x2) - (1 : Int32)) - (I (x1 + 1) x7.toNatClampNeg))), none, none] [] (sh, I, J, R) Q)) ∧ (¬ ((((2 : Int32) * x2) - (1 : Int32)) - (I (x1 + 1) x7.toNatClampNeg)) < 0 → ((x5 ≤ ((((2 : Int32) * x2) - (1 : Int32)) - (I (x1 + 1) x7.toNatClampNeg)) → (rW γ l m_X2_turn 0 0 104 [some (.ref x0), some (.ref x1), some (.int x2), some (.int x3), some (.int x4), some (.int x5), some (.int x6), some (.int x7), some (.int (I (x1 + 1) x7.toNatClampNeg)), some (.int (I (x1 + 2) x7.toNatClampNeg)), some (.int ((((2 : Int32) * x2) - (1 : Int32)) - (I (x1 + 1) x7.toNatClampNeg))), none, none] [] (sh, I, J, R) Q)) ∧ (¬ x5 ≤ ((((2 : Int32) * x2) - (1 : Int32)) - (I (x1 + 1) x7.toNatClampNeg)) → (vp_in (((((2 : Int32) * x2) - (1 : Int32)) - (I (x1 + 1) x7.toNatClampNeg))) 8 ∧ (rW γ l m_X2_turn 0 0 105 [some (.ref x0), some (.ref x1), some (.int x2), some (.int x3), some (.int x4), some (.int x5), some (.int x6), some (.int x7), some (.int (I (x1 + 1) x7.toNatClampNeg)), some (.int (I (x1 + 2) x7.toNatClampNeg)), some (.int ((((2 : Int32) * x2) - (1 : Int32)) - (I (x1 + 1) x7.toNatClampNeg))), none, none] [.int (I (x1 + 4) (((((2 : Int32) * x2) - (1 : Int32)) - (I (x1 + 1) x7.toNatClampNeg))).toNatClampNeg)] (sh, I, J, R) Q)))))))))) :
    rW γ l m_X2_turn 0 0 45 [some (.ref x0), some (.ref x1), some (.int x2), some (.int x3), some (.int x4), some (.int x5), some (.int x6), some (.int x7), none, none, none, none, none] [] (sh, I, J, R) Q := by
  by_cases p0 : (I x0 0) ≤ x7
  · have t := t.1 p0
    exact ⟨_, _, b_X2_turn_45  h_x0 h_x1 (fun _ => ⟨rfl, rfl⟩) (fun y0 => absurd p0 y0) (fun y0 => absurd p0 y0) (fun y0 _ => absurd p0 y0) (fun y0 _ _ => absurd p0 y0) (fun y0 _ _ => absurd p0 y0) (fun y0 _ _ => absurd p0 y0), t⟩
  · have t := t.2 p0
    obtain ⟨b3, t⟩ := t
    obtain ⟨b4, t⟩ := t
    by_cases p1 : ((((2 : Int32) * x2) - (1 : Int32)) - (I (x1 + 1) x7.toNatClampNeg)) < 0
    · have t := t.1 p1
      obtain ⟨hf, r, t, q⟩ := t
      exact ⟨hf, r, b_X2_turn_45  h_x0 h_x1 (fun y0 => absurd y0 p0) (fun _ => b3) (fun _ => b4) (fun _ _ => t) (fun _ y1 _ => absurd p1 y1) (fun _ y1 _ => absurd p1 y1) (fun _ y1 _ => absurd p1 y1), q⟩
    · have t := t.2 p1
      by_cases p2 : x5 ≤ ((((2 : Int32) * x2) - (1 : Int32)) - (I (x1 + 1) x7.toNatClampNeg))
      · have t := t.1 p2
        obtain ⟨hf, r, t, q⟩ := t
        exact ⟨hf, r, b_X2_turn_45  h_x0 h_x1 (fun y0 => absurd y0 p0) (fun _ => b3) (fun _ => b4) (fun _ y1 => absurd y1 p1) (fun _ _ _ => t) (fun _ _ y2 => absurd p2 y2) (fun _ _ y2 => absurd p2 y2), q⟩
      · have t := t.2 p2
        obtain ⟨b9, t⟩ := t
        obtain ⟨hf, r, t, q⟩ := t
        exact ⟨hf, r, b_X2_turn_45  h_x0 h_x1 (fun y0 => absurd y0 p0) (fun _ => b3) (fun _ => b4) (fun _ y1 => absurd y1 p1) (fun _ _ y2 => absurd y2 p2) (fun _ _ _ => b9) (fun _ _ _ => t), q⟩
abbrev s_X2_turn_104 (γ : rG) (l : Launch) (x0 : Nat) (x1 : Nat) (x2 : Int32) (x3 : Int32) (x4 : Int32) (x5 : Int32) (x6 : Int32) (x7 : Int32) (x8 : Int32) (x9 : Int32) (x10 : Int32) (h : rHeap) (Q : rHeap → Option Value → Prop) : Prop := rW γ l m_X2_turn 0 0 104 [some (.ref x0), some (.ref x1), some (.int x2), some (.int x3), some (.int x4), some (.int x5), some (.int x6), some (.int x7), some (.int x8), some (.int x9), some (.int x10), none, none] [] h Q
theorem w_X2_turn_104 {γ : rG} {l : Launch} {Q : rHeap → Option Value → Prop} {sh : Nat × (Nat → Nat) × (Nat → Nat)} {I : Nat → Nat → Int32} {J : Nat → Nat → Int64} {R : Nat → Nat → Option Nat} {x0 : Nat} {x1 : Nat} {x2 : Int32} {x3 : Int32} {x4 : Int32} {x5 : Int32} {x6 : Int32} {x7 : Int32} {x8 : Int32} {x9 : Int32} {x10 : Int32}
    (h_x0 : At2 sh R x0)
    (h_x1 : At2 sh R x1)
    (t : rW γ l m_X2_turn 0 0 105 [some (.ref x0), some (.ref x1), some (.int x2), some (.int x3), some (.int x4), some (.int x5), some (.int x6), some (.int x7), some (.int x8), some (.int x9), some (.int x10), none, none] [.int (0 : Int32)] (sh, I, J, R) Q) :
    rW γ l m_X2_turn 0 0 104 [some (.ref x0), some (.ref x1), some (.int x2), some (.int x3), some (.int x4), some (.int x5), some (.int x6), some (.int x7), some (.int x8), some (.int x9), some (.int x10), none, none] [] (sh, I, J, R) Q := by
  obtain ⟨hf, r, t, q⟩ := t
  exact ⟨hf, r, b_X2_turn_104  h_x0 h_x1 t, q⟩
abbrev s_X2_turn_105 (γ : rG) (l : Launch) (x0 : Nat) (x1 : Nat) (x2 : Int32) (x3 : Int32) (x4 : Int32) (x5 : Int32) (x6 : Int32) (x7 : Int32) (x8 : Int32) (x9 : Int32) (x10 : Int32) (s0 : Int32) (h : rHeap) (Q : rHeap → Option Value → Prop) : Prop := rW γ l m_X2_turn 0 0 105 [some (.ref x0), some (.ref x1), some (.int x2), some (.int x3), some (.int x4), some (.int x5), some (.int x6), some (.int x7), some (.int x8), some (.int x9), some (.int x10), none, none] [.int s0] h Q
theorem w_X2_turn_105 {γ : rG} {l : Launch} {Q : rHeap → Option Value → Prop} {sh : Nat × (Nat → Nat) × (Nat → Nat)} {I : Nat → Nat → Int32} {J : Nat → Nat → Int64} {R : Nat → Nat → Option Nat} {x0 : Nat} {x1 : Nat} {x2 : Int32} {x3 : Int32} {x4 : Int32} {x5 : Int32} {x6 : Int32} {x7 : Int32} {x8 : Int32} {x9 : Int32} {x10 : Int32} {s0 : Int32}
    (h_x0 : At2 sh R x0)
    (h_x1 : At2 sh R x1)
    (t : (x2 ≤ x8 → (rW γ l m_X2_turn 0 0 118 [some (.ref x0), some (.ref x1), some (.int x2), some (.int x3), some (.int x4), some (.int x5), some (.int x6), some (.int x7), some (.int x8), some (.int x9), some (.int x10), some (.int s0), none] [.int (0 : Int32)] (sh, I, J, R) Q)) ∧ (¬ x2 ≤ x8 → (rW γ l m_X2_turn 0 0 118 [some (.ref x0), some (.ref x1), some (.int x2), some (.int x3), some (.int x4), some (.int x5), some (.int x6), some (.int x7), some (.int x8), some (.int x9), some (.int x10), some (.int s0), none] [.int (1 : Int32)] (sh, I, J, R) Q))) :
    rW γ l m_X2_turn 0 0 105 [some (.ref x0), some (.ref x1), some (.int x2), some (.int x3), some (.int x4), some (.int x5), some (.int x6), some (.int x7), some (.int x8), some (.int x9), some (.int x10), none, none] [.int s0] (sh, I, J, R) Q := by
  by_cases p0 : x2 ≤ x8
  · have t := t.1 p0
    obtain ⟨hf, r, t, q⟩ := t
    exact ⟨hf, r, b_X2_turn_105  h_x0 h_x1 (fun _ => t) (fun y0 => absurd p0 y0), q⟩
  · have t := t.2 p0
    obtain ⟨hf, r, t, q⟩ := t
    exact ⟨hf, r, b_X2_turn_105  h_x0 h_x1 (fun y0 => absurd y0 p0) (fun _ => t), q⟩
abbrev s_X2_turn_118 (γ : rG) (l : Launch) (x0 : Nat) (x1 : Nat) (x2 : Int32) (x3 : Int32) (x4 : Int32) (x5 : Int32) (x6 : Int32) (x7 : Int32) (x8 : Int32) (x9 : Int32) (x10 : Int32) (x11 : Int32) (s0 : Int32) (h : rHeap) (Q : rHeap → Option Value → Prop) : Prop := rW γ l m_X2_turn 0 0 118 [some (.ref x0), some (.ref x1), some (.int x2), some (.int x3), some (.int x4), some (.int x5), some (.int x6), some (.int x7), some (.int x8), some (.int x9), some (.int x10), some (.int x11), none] [.int s0] h Q
theorem w_X2_turn_118 {γ : rG} {l : Launch} {Q : rHeap → Option Value → Prop} {sh : Nat × (Nat → Nat) × (Nat → Nat)} {I : Nat → Nat → Int32} {J : Nat → Nat → Int64} {R : Nat → Nat → Option Nat} {x0 : Nat} {x1 : Nat} {x2 : Int32} {x3 : Int32} {x4 : Int32} {x5 : Int32} {x6 : Int32} {x7 : Int32} {x8 : Int32} {x9 : Int32} {x10 : Int32} {x11 : Int32} {s0 : Int32}
    (h_x0 : At2 sh R x0)
    (h_x1 : At2 sh R x1)
    (t : (s0 = x3 → (vp_in x8 8 ∧ (vp_in x7 8 ∧ (((I (x1 + 3) x7.toNatClampNeg) = 0 → (∃ (I17 : Nat → Nat → Int32), rMet γ l m_X2_lay [.ref x0, .int x7, .int (x10 - x6), .int ((if x11 < x4 then x11 else x4) + (((I (x1 + 4) x8.toNatClampNeg) - (1 : Int32)) - x9)), .int (1 : Int32)] (sh, I, J, R) (sh, I17, J, R) none ∧ (rW γ l m_X2_turn 0 0 45 [some (.ref x0), some (.ref x1), some (.int x2), some (.int x3), some (.int x4), some (.int x5), some (.int x6), some (.int (x7 + (1 : Int32))), none, none, none, none, none] [] (sh, I17, J, R) Q))) ∧ (¬ (I (x1 + 3) x7.toNatClampNeg) = 0 → (∃ (I14 : Nat → Nat → Int32), rMet γ l m_X2_lay [.ref x0, .int x7, .int (x10 - x6), .int ((if x11 < x4 then x11 else x4) + (((I (x1 + 4) x8.toNatClampNeg) - (1 : Int32)) - x9)), .int (0 : Int32)] (sh, I, J, R) (sh, I14, J, R) none ∧ (rW γ l m_X2_turn 0 0 45 [some (.ref x0), some (.ref x1), some (.int x2), some (.int x3), some (.int x4), some (.int x5), some (.int x6), some (.int (x7 + (1 : Int32))), none, none, none, none, none] [] (sh, I14, J, R) Q))))))) ∧ (¬ s0 = x3 → ((x4 ≤ x9 → (vp_in x7 8 ∧ (∃ (I4 : Nat → Nat → Int32), rMet γ l m_X2_lay [.ref x0, .int x7, .int (x8 - x6), .int (x9 + x11), .int (I (x1 + 3) x7.toNatClampNeg)] (sh, I, J, R) (sh, I4, J, R) none ∧ (rW γ l m_X2_turn 0 0 45 [some (.ref x0), some (.ref x1), some (.int x2), some (.int x3), some (.int x4), some (.int x5), some (.int x6), some (.int (x7 + (1 : Int32))), none, none, none, none, none] [] (sh, I4, J, R) Q)))) ∧ (¬ x4 ≤ x9 → (vp_in x7 8 ∧ (∃ (I8 : Nat → Nat → Int32), rMet γ l m_X2_lay [.ref x0, .int x7, .int (x8 - x6), .int x9, .int (I (x1 + 3) x7.toNatClampNeg)] (sh, I, J, R) (sh, I8, J, R) none ∧ (rW γ l m_X2_turn 0 0 45 [some (.ref x0), some (.ref x1), some (.int x2), some (.int x3), some (.int x4), some (.int x5), some (.int x6), some (.int (x7 + (1 : Int32))), none, none, none, none, none] [] (sh, I8, J, R) Q))))))) :
    rW γ l m_X2_turn 0 0 118 [some (.ref x0), some (.ref x1), some (.int x2), some (.int x3), some (.int x4), some (.int x5), some (.int x6), some (.int x7), some (.int x8), some (.int x9), some (.int x10), some (.int x11), none] [.int s0] (sh, I, J, R) Q := by
  by_cases p0 : s0 = x3
  · have t := t.1 p0
    obtain ⟨b11, t⟩ := t
    obtain ⟨b12, t⟩ := t
    by_cases p1 : (I (x1 + 3) x7.toNatClampNeg) = 0
    · have t := t.1 p1
      obtain ⟨I17, m18, t⟩ := t
      obtain ⟨hf, r, t, q⟩ := t
      exact ⟨hf, r, b_X2_turn_118 (I4 := I) (I8 := I) (I14 := I) h_x0 h_x1 (fun y0 _ => absurd p0 y0) (fun y0 _ => absurd p0 y0) (fun y0 _ => absurd p0 y0) (fun y0 _ => absurd p0 y0) (fun y0 _ => absurd p0 y0) (fun y0 _ => absurd p0 y0) (fun _ => b11) (fun _ => b12) (fun _ y1 => absurd p1 y1) (fun _ y1 => absurd p1 y1) (fun _ _ => m18) (fun _ _ => t), q⟩
    · have t := t.2 p1
      obtain ⟨I14, m15, t⟩ := t
      obtain ⟨hf, r, t, q⟩ := t
      exact ⟨hf, r, b_X2_turn_118 (I4 := I) (I8 := I) (I17 := I) h_x0 h_x1 (fun y0 _ => absurd p0 y0) (fun y0 _ => absurd p0 y0) (fun y0 _ => absurd p0 y0) (fun y0 _ => absurd p0 y0) (fun y0 _ => absurd p0 y0) (fun y0 _ => absurd p0 y0) (fun _ => b11) (fun _ => b12) (fun _ _ => m15) (fun _ _ => t) (fun _ y1 => absurd y1 p1) (fun _ y1 => absurd y1 p1), q⟩
  · have t := t.2 p0
    by_cases p1 : x4 ≤ x9
    · have t := t.1 p1
      obtain ⟨b3, t⟩ := t
      obtain ⟨I4, m5, t⟩ := t
      obtain ⟨hf, r, t, q⟩ := t
      exact ⟨hf, r, b_X2_turn_118 (I8 := I) (I14 := I) (I17 := I) h_x0 h_x1 (fun _ _ => b3) (fun _ _ => m5) (fun _ _ => t) (fun _ y1 => absurd p1 y1) (fun _ y1 => absurd p1 y1) (fun _ y1 => absurd p1 y1) (fun y0 => absurd y0 p0) (fun y0 => absurd y0 p0) (fun y0 _ => absurd y0 p0) (fun y0 _ => absurd y0 p0) (fun y0 _ => absurd y0 p0) (fun y0 _ => absurd y0 p0), q⟩
    · have t := t.2 p1
      obtain ⟨b7, t⟩ := t
      obtain ⟨I8, m9, t⟩ := t
      obtain ⟨hf, r, t, q⟩ := t
      exact ⟨hf, r, b_X2_turn_118 (I4 := I) (I14 := I) (I17 := I) h_x0 h_x1 (fun _ y1 => absurd y1 p1) (fun _ y1 => absurd y1 p1) (fun _ y1 => absurd y1 p1) (fun _ _ => b7) (fun _ _ => m9) (fun _ _ => t) (fun y0 => absurd y0 p0) (fun y0 => absurd y0 p0) (fun y0 _ => absurd y0 p0) (fun y0 _ => absurd y0 p0) (fun y0 _ => absurd y0 p0) (fun y0 _ => absurd y0 p0), q⟩
abbrev s_X2_turnedBy_0 (γ : rG) (l : Launch) (x0 : Nat) (x1 : Int32) (x2 : Int32) (h : rHeap) (Q : rHeap → Option Value → Prop) : Prop := rW γ l m_X2_turnedBy 0 0 0 [some (.ref x0), some (.int x1), some (.int x2), none, none] [] h Q
theorem w_X2_turnedBy_0 {γ : rG} {l : Launch} {Q : rHeap → Option Value → Prop} {sh : Nat × (Nat → Nat) × (Nat → Nat)} {I : Nat → Nat → Int32} {J : Nat → Nat → Int64} {R : Nat → Nat → Option Nat} {x0 : Nat} {x1 : Int32} {x2 : Int32}
    (h_x0 : At2 sh R x0)
    (t : rW γ l m_X2_turnedBy 0 0 5 [some (.ref x0), some (.int x1), some (.int x2), some (.int (0 : Int32)), some (.int (0 : Int32))] [] (sh, I, J, R) Q) :
    rW γ l m_X2_turnedBy 0 0 0 [some (.ref x0), some (.int x1), some (.int x2), none, none] [] (sh, I, J, R) Q := by
  obtain ⟨hf, r, t, q⟩ := t
  exact ⟨hf, r, b_X2_turnedBy_0  h_x0 t, q⟩
abbrev s_X2_turnedBy_5 (γ : rG) (l : Launch) (x0 : Nat) (x1 : Int32) (x2 : Int32) (x3 : Int32) (x4 : Int32) (h : rHeap) (Q : rHeap → Option Value → Prop) : Prop := rW γ l m_X2_turnedBy 0 0 5 [some (.ref x0), some (.int x1), some (.int x2), some (.int x3), some (.int x4)] [] h Q
theorem w_X2_turnedBy_5 {γ : rG} {l : Launch} {Q : rHeap → Option Value → Prop} {sh : Nat × (Nat → Nat) × (Nat → Nat)} {I : Nat → Nat → Int32} {J : Nat → Nat → Int64} {R : Nat → Nat → Option Nat} {x0 : Nat} {x1 : Int32} {x2 : Int32} {x3 : Int32} {x4 : Int32}
    (h_x0 : At2 sh R x0)
    (t : ((I x0 0) ≤ x4 → (Q (sh, I, J, R) (some (.int x3)))) ∧ (¬ (I x0 0) ≤ x4 → (vp_in x4 8 ∧ ((x1 ≤ (I (x0 + 1) x4.toNatClampNeg) → (((0 : Int32) = x2 → (rW γ l m_X2_turnedBy 0 0 5 [some (.ref x0), some (.int x1), some (.int x2), some (.int (x3 + (1 : Int32))), some (.int (x4 + (1 : Int32)))] [] (sh, I, J, R) Q)) ∧ (¬ (0 : Int32) = x2 → (rW γ l m_X2_turnedBy 0 0 5 [some (.ref x0), some (.int x1), some (.int x2), some (.int x3), some (.int (x4 + (1 : Int32)))] [] (sh, I, J, R) Q)))) ∧ (¬ x1 ≤ (I (x0 + 1) x4.toNatClampNeg) → (((1 : Int32) = x2 → (rW γ l m_X2_turnedBy 0 0 5 [some (.ref x0), some (.int x1), some (.int x2), some (.int (x3 + (1 : Int32))), some (.int (x4 + (1 : Int32)))] [] (sh, I, J, R) Q)) ∧ (¬ (1 : Int32) = x2 → (rW γ l m_X2_turnedBy 0 0 5 [some (.ref x0), some (.int x1), some (.int x2), some (.int x3), some (.int (x4 + (1 : Int32)))] [] (sh, I, J, R) Q)))))))) :
    rW γ l m_X2_turnedBy 0 0 5 [some (.ref x0), some (.int x1), some (.int x2), some (.int x3), some (.int x4)] [] (sh, I, J, R) Q := by
  by_cases p0 : (I x0 0) ≤ x4
  · have t := t.1 p0
    exact ⟨_, _, b_X2_turnedBy_5  h_x0 (fun _ => ⟨rfl, rfl⟩) (fun y0 => absurd p0 y0) (fun y0 _ _ => absurd p0 y0) (fun y0 _ _ => absurd p0 y0) (fun y0 _ _ => absurd p0 y0) (fun y0 _ _ => absurd p0 y0), t⟩
  · have t := t.2 p0
    obtain ⟨b3, t⟩ := t
    by_cases p1 : x1 ≤ (I (x0 + 1) x4.toNatClampNeg)
    · have t := t.1 p1
      by_cases p2 : (0 : Int32) = x2
      · have t := t.1 p2
        obtain ⟨hf, r, t, q⟩ := t
        exact ⟨hf, r, b_X2_turnedBy_5  h_x0 (fun y0 => absurd y0 p0) (fun _ => b3) (fun _ _ y2 => absurd p2 y2) (fun _ _ _ => t) (fun _ y1 _ => absurd p1 y1) (fun _ y1 _ => absurd p1 y1), q⟩
      · have t := t.2 p2
        obtain ⟨hf, r, t, q⟩ := t
        exact ⟨hf, r, b_X2_turnedBy_5  h_x0 (fun y0 => absurd y0 p0) (fun _ => b3) (fun _ _ _ => t) (fun _ _ y2 => absurd y2 p2) (fun _ y1 _ => absurd p1 y1) (fun _ y1 _ => absurd p1 y1), q⟩
    · have t := t.2 p1
      by_cases p2 : (1 : Int32) = x2
      · have t := t.1 p2
        obtain ⟨hf, r, t, q⟩ := t
        exact ⟨hf, r, b_X2_turnedBy_5  h_x0 (fun y0 => absurd y0 p0) (fun _ => b3) (fun _ y1 _ => absurd y1 p1) (fun _ y1 _ => absurd y1 p1) (fun _ _ y2 => absurd p2 y2) (fun _ _ _ => t), q⟩
      · have t := t.2 p2
        obtain ⟨hf, r, t, q⟩ := t
        exact ⟨hf, r, b_X2_turnedBy_5  h_x0 (fun y0 => absurd y0 p0) (fun _ => b3) (fun _ y1 _ => absurd y1 p1) (fun _ y1 _ => absurd y1 p1) (fun _ _ _ => t) (fun _ _ y2 => absurd y2 p2), q⟩
abbrev s_X2_creasesAt_0 (γ : rG) (l : Launch) (x0 : Nat) (x1 : Int32) (x2 : Int32) (h : rHeap) (Q : rHeap → Option Value → Prop) : Prop := rW γ l m_X2_creasesAt 0 0 0 [some (.ref x0), some (.int x1), some (.int x2), none, none] [] h Q
theorem w_X2_creasesAt_0 {γ : rG} {l : Launch} {Q : rHeap → Option Value → Prop} {sh : Nat × (Nat → Nat) × (Nat → Nat)} {I : Nat → Nat → Int32} {J : Nat → Nat → Int64} {R : Nat → Nat → Option Nat} {x0 : Nat} {x1 : Int32} {x2 : Int32}
    (h_x0 : At2 sh R x0)
    (t : rW γ l m_X2_creasesAt 0 0 5 [some (.ref x0), some (.int x1), some (.int x2), some (.int (0 : Int32)), some (.int (0 : Int32))] [] (sh, I, J, R) Q) :
    rW γ l m_X2_creasesAt 0 0 0 [some (.ref x0), some (.int x1), some (.int x2), none, none] [] (sh, I, J, R) Q := by
  obtain ⟨hf, r, t, q⟩ := t
  exact ⟨hf, r, b_X2_creasesAt_0  h_x0 t, q⟩
abbrev s_X2_creasesAt_5 (γ : rG) (l : Launch) (x0 : Nat) (x1 : Int32) (x2 : Int32) (x3 : Int32) (x4 : Int32) (h : rHeap) (Q : rHeap → Option Value → Prop) : Prop := rW γ l m_X2_creasesAt 0 0 5 [some (.ref x0), some (.int x1), some (.int x2), some (.int x3), some (.int x4)] [] h Q
theorem w_X2_creasesAt_5 {γ : rG} {l : Launch} {Q : rHeap → Option Value → Prop} {sh : Nat × (Nat → Nat) × (Nat → Nat)} {I : Nat → Nat → Int32} {J : Nat → Nat → Int64} {R : Nat → Nat → Option Nat} {x0 : Nat} {x1 : Int32} {x2 : Int32} {x3 : Int32} {x4 : Int32}
    (h_x0 : At2 sh R x0)
    (t : (((I x0 0) - (1 : Int32)) ≤ x4 → (Q (sh, I, J, R) (some (.int x3)))) ∧ (¬ ((I x0 0) - (1 : Int32)) ≤ x4 → (∃ (v4 : Int32), rMet γ l m_X2_isCrease [.ref x0, .int x4] (sh, I, J, R) (sh, I, J, R) (some (.int v4)) ∧ ((v4 = 0 → (∃ (v8 : Int32), rMet γ l m_X2_lineOf [.ref x0, .int x4] (sh, I, J, R) (sh, I, J, R) (some (.int v8)) ∧ ((v8 = x1 → (vp_in x4 8 ∧ (((I (x0 + 3) x4.toNatClampNeg) = x2 → (rW γ l m_X2_creasesAt 0 0 5 [some (.ref x0), some (.int x1), some (.int x2), some (.int (x3 ||| ((1 : Int32) <<< (((2 : Int32) * x4) &&& 31)))), some (.int (x4 + (1 : Int32)))] [] (sh, I, J, R) Q)) ∧ (¬ (I (x0 + 3) x4.toNatClampNeg) = x2 → (rW γ l m_X2_creasesAt 0 0 5 [some (.ref x0), some (.int x1), some (.int x2), some (.int (x3 ||| ((2 : Int32) <<< (((2 : Int32) * x4) &&& 31)))), some (.int (x4 + (1 : Int32)))] [] (sh, I, J, R) Q))))) ∧ (¬ v8 = x1 → (rW γ l m_X2_creasesAt 0 0 5 [some (.ref x0), some (.int x1), some (.int x2), some (.int x3), some (.int (x4 + (1 : Int32)))] [] (sh, I, J, R) Q))))) ∧ (¬ v4 = 0 → (rW γ l m_X2_creasesAt 0 0 5 [some (.ref x0), some (.int x1), some (.int x2), some (.int x3), some (.int (x4 + (1 : Int32)))] [] (sh, I, J, R) Q)))))) :
    rW γ l m_X2_creasesAt 0 0 5 [some (.ref x0), some (.int x1), some (.int x2), some (.int x3), some (.int x4)] [] (sh, I, J, R) Q := by
  by_cases p0 : ((I x0 0) - (1 : Int32)) ≤ x4
  · have t := t.1 p0
    exact ⟨_, _, b_X2_creasesAt_5 (v4 := 0) (v8 := 0) h_x0 (fun _ => ⟨rfl, rfl⟩) (fun y0 => absurd p0 y0) (fun y0 _ => absurd p0 y0) (fun y0 _ => absurd p0 y0) (fun y0 _ _ => absurd p0 y0) (fun y0 _ _ => absurd p0 y0) (fun y0 _ _ _ => absurd p0 y0) (fun y0 _ _ _ => absurd p0 y0), t⟩
  · have t := t.2 p0
    obtain ⟨v4, m3, t⟩ := t
    by_cases p1 : v4 = 0
    · have t := t.1 p1
      obtain ⟨v8, m7, t⟩ := t
      by_cases p2 : v8 = x1
      · have t := t.1 p2
        obtain ⟨b11, t⟩ := t
        by_cases p3 : (I (x0 + 3) x4.toNatClampNeg) = x2
        · have t := t.1 p3
          obtain ⟨hf, r, t, q⟩ := t
          exact ⟨hf, r, b_X2_creasesAt_5  h_x0 (fun y0 => absurd y0 p0) (fun _ => m3) (fun _ y1 => absurd p1 y1) (fun _ _ => m7) (fun _ _ y2 => absurd p2 y2) (fun _ _ _ => b11) (fun _ _ _ y3 => absurd p3 y3) (fun _ _ _ _ => t), q⟩
        · have t := t.2 p3
          obtain ⟨hf, r, t, q⟩ := t
          exact ⟨hf, r, b_X2_creasesAt_5  h_x0 (fun y0 => absurd y0 p0) (fun _ => m3) (fun _ y1 => absurd p1 y1) (fun _ _ => m7) (fun _ _ y2 => absurd p2 y2) (fun _ _ _ => b11) (fun _ _ _ _ => t) (fun _ _ _ y3 => absurd y3 p3), q⟩
      · have t := t.2 p2
        obtain ⟨hf, r, t, q⟩ := t
        exact ⟨hf, r, b_X2_creasesAt_5  h_x0 (fun y0 => absurd y0 p0) (fun _ => m3) (fun _ y1 => absurd p1 y1) (fun _ _ => m7) (fun _ _ _ => t) (fun _ _ y2 => absurd y2 p2) (fun _ _ y2 _ => absurd y2 p2) (fun _ _ y2 _ => absurd y2 p2), q⟩
    · have t := t.2 p1
      obtain ⟨hf, r, t, q⟩ := t
      exact ⟨hf, r, b_X2_creasesAt_5 (v8 := 0) h_x0 (fun y0 => absurd y0 p0) (fun _ => m3) (fun _ _ => t) (fun _ y1 => absurd y1 p1) (fun _ y1 _ => absurd y1 p1) (fun _ y1 _ => absurd y1 p1) (fun _ y1 _ _ => absurd y1 p1) (fun _ y1 _ _ => absurd y1 p1), q⟩
abbrev s_X2_isCrease_0 (γ : rG) (l : Launch) (x0 : Nat) (x1 : Int32) (h : rHeap) (Q : rHeap → Option Value → Prop) : Prop := rW γ l m_X2_isCrease 0 0 0 [some (.ref x0), some (.int x1)] [] h Q
theorem w_X2_isCrease_0 {γ : rG} {l : Launch} {Q : rHeap → Option Value → Prop} {sh : Nat × (Nat → Nat) × (Nat → Nat)} {I : Nat → Nat → Int32} {J : Nat → Nat → Int64} {R : Nat → Nat → Option Nat} {x0 : Nat} {x1 : Int32}
    (h_x0 : At2 sh R x0)
    (t : vp_in x1 8 ∧ (vp_in ((x1 + (1 : Int32))) 8 ∧ (((I (x0 + 1) x1.toNatClampNeg) = (I (x0 + 1) ((x1 + (1 : Int32))).toNatClampNeg) → (Q (sh, I, J, R) (some (.int (1 : Int32))))) ∧ (¬ (I (x0 + 1) x1.toNatClampNeg) = (I (x0 + 1) ((x1 + (1 : Int32))).toNatClampNeg) → (Q (sh, I, J, R) (some (.int (0 : Int32)))))))) :
    rW γ l m_X2_isCrease 0 0 0 [some (.ref x0), some (.int x1)] [] (sh, I, J, R) Q := by
  obtain ⟨b1, t⟩ := t
  obtain ⟨b2, t⟩ := t
  by_cases p0 : (I (x0 + 1) x1.toNatClampNeg) = (I (x0 + 1) ((x1 + (1 : Int32))).toNatClampNeg)
  · have t := t.1 p0
    exact ⟨_, _, b_X2_isCrease_0  h_x0 b1 b2 (fun y0 => absurd p0 y0) (fun _ => ⟨rfl, rfl⟩), t⟩
  · have t := t.2 p0
    exact ⟨_, _, b_X2_isCrease_0  h_x0 b1 b2 (fun _ => ⟨rfl, rfl⟩) (fun y0 => absurd y0 p0), t⟩
abbrev s_X2_lineOf_0 (γ : rG) (l : Launch) (x0 : Nat) (x1 : Int32) (h : rHeap) (Q : rHeap → Option Value → Prop) : Prop := rW γ l m_X2_lineOf 0 0 0 [some (.ref x0), some (.int x1)] [] h Q
theorem w_X2_lineOf_0 {γ : rG} {l : Launch} {Q : rHeap → Option Value → Prop} {sh : Nat × (Nat → Nat) × (Nat → Nat)} {I : Nat → Nat → Int32} {J : Nat → Nat → Int64} {R : Nat → Nat → Option Nat} {x0 : Nat} {x1 : Int32}
    (h_x0 : At2 sh R x0)
    (t : ∃ (v2 : Int32), rMet γ l m_X2_isCrease [.ref x0, .int x1] (sh, I, J, R) (sh, I, J, R) (some (.int v2)) ∧ ((v2 = 0 → (vp_in x1 8 ∧ (vp_in ((x1 + (1 : Int32))) 8 ∧ (Q (sh, I, J, R) (some (.int ((if (I (x0 + 1) x1.toNatClampNeg) < (I (x0 + 1) ((x1 + (1 : Int32))).toNatClampNeg) then (I (x0 + 1) ((x1 + (1 : Int32))).toNatClampNeg) else (I (x0 + 1) x1.toNatClampNeg))))))))) ∧ (¬ v2 = 0 → (vp_in x1 8 ∧ (((I (x0 + 3) x1.toNatClampNeg) = 0 → (vp_in x1 8 ∧ (Q (sh, I, J, R) (some (.int ((I (x0 + 1) x1.toNatClampNeg))))))) ∧ (¬ (I (x0 + 3) x1.toNatClampNeg) = 0 → (vp_in x1 8 ∧ (Q (sh, I, J, R) (some (.int (((I (x0 + 1) x1.toNatClampNeg) + (1 : Int32))))))))))))) :
    rW γ l m_X2_lineOf 0 0 0 [some (.ref x0), some (.int x1)] [] (sh, I, J, R) Q := by
  obtain ⟨v2, m1, t⟩ := t
  by_cases p0 : v2 = 0
  · have t := t.1 p0
    obtain ⟨b4, t⟩ := t
    obtain ⟨b5, t⟩ := t
    exact ⟨_, _, b_X2_lineOf_0  h_x0 m1 (fun _ => b4) (fun _ => b5) (fun _ => ⟨rfl, rfl⟩) (fun y0 => absurd p0 y0) (fun y0 _ => absurd p0 y0) (fun y0 _ => absurd p0 y0) (fun y0 _ => absurd p0 y0) (fun y0 _ => absurd p0 y0), t⟩
  · have t := t.2 p0
    obtain ⟨b7, t⟩ := t
    by_cases p1 : (I (x0 + 3) x1.toNatClampNeg) = 0
    · have t := t.1 p1
      obtain ⟨b9, t⟩ := t
      exact ⟨_, _, b_X2_lineOf_0  h_x0 m1 (fun y0 => absurd y0 p0) (fun y0 => absurd y0 p0) (fun y0 => absurd y0 p0) (fun _ => b7) (fun _ _ => b9) (fun _ _ => ⟨rfl, rfl⟩) (fun _ y1 => absurd p1 y1) (fun _ y1 => absurd p1 y1), t⟩
    · have t := t.2 p1
      obtain ⟨b11, t⟩ := t
      exact ⟨_, _, b_X2_lineOf_0  h_x0 m1 (fun y0 => absurd y0 p0) (fun y0 => absurd y0 p0) (fun y0 => absurd y0 p0) (fun _ => b7) (fun _ y1 => absurd y1 p1) (fun _ y1 => absurd y1 p1) (fun _ _ => b11) (fun _ _ => ⟨rfl, rfl⟩), t⟩
abbrev s_X2_passesThrough_0 (γ : rG) (l : Launch) (x0 : Nat) (h : rHeap) (Q : rHeap → Option Value → Prop) : Prop := rW γ l m_X2_passesThrough 0 0 0 [some (.ref x0), none, none] [] h Q
theorem w_X2_passesThrough_0 {γ : rG} {l : Launch} {Q : rHeap → Option Value → Prop} {sh : Nat × (Nat → Nat) × (Nat → Nat)} {I : Nat → Nat → Int32} {J : Nat → Nat → Int64} {R : Nat → Nat → Option Nat} {x0 : Nat}
    (h_x0 : At2 sh R x0)
    (t : rW γ l m_X2_passesThrough 0 0 2 [some (.ref x0), some (.int (1 : Int32)), none] [] (sh, I, J, R) Q) :
    rW γ l m_X2_passesThrough 0 0 0 [some (.ref x0), none, none] [] (sh, I, J, R) Q := by
  obtain ⟨hf, r, t, q⟩ := t
  exact ⟨hf, r, b_X2_passesThrough_0  h_x0 t, q⟩
abbrev s_X2_passesThrough_2 (γ : rG) (l : Launch) (x0 : Nat) (x1 : Int32) (h : rHeap) (Q : rHeap → Option Value → Prop) : Prop := rW γ l m_X2_passesThrough 0 0 2 [some (.ref x0), some (.int x1), none] [] h Q
theorem w_X2_passesThrough_2 {γ : rG} {l : Launch} {Q : rHeap → Option Value → Prop} {sh : Nat × (Nat → Nat) × (Nat → Nat)} {I : Nat → Nat → Int32} {J : Nat → Nat → Int64} {R : Nat → Nat → Option Nat} {x0 : Nat} {x1 : Int32}
    (h_x0 : At2 sh R x0)
    (t : (((I x0 0) - (1 : Int32)) ≤ x1 → (Q (sh, I, J, R) (some (.int (0 : Int32))))) ∧ (¬ ((I x0 0) - (1 : Int32)) ≤ x1 → (rW γ l m_X2_passesThrough 0 0 14 [some (.ref x0), some (.int x1), some (.int (0 : Int32))] [] (sh, I, J, R) Q))) :
    rW γ l m_X2_passesThrough 0 0 2 [some (.ref x0), some (.int x1), none] [] (sh, I, J, R) Q := by
  by_cases p0 : ((I x0 0) - (1 : Int32)) ≤ x1
  · have t := t.1 p0
    exact ⟨_, _, b_X2_passesThrough_2  h_x0 (fun _ => ⟨rfl, rfl⟩) (fun y0 => absurd p0 y0), t⟩
  · have t := t.2 p0
    obtain ⟨hf, r, t, q⟩ := t
    exact ⟨hf, r, b_X2_passesThrough_2  h_x0 (fun y0 => absurd y0 p0) (fun _ => t), q⟩
abbrev s_X2_passesThrough_14 (γ : rG) (l : Launch) (x0 : Nat) (x1 : Int32) (x2 : Int32) (h : rHeap) (Q : rHeap → Option Value → Prop) : Prop := rW γ l m_X2_passesThrough 0 0 14 [some (.ref x0), some (.int x1), some (.int x2)] [] h Q
theorem w_X2_passesThrough_14 {γ : rG} {l : Launch} {Q : rHeap → Option Value → Prop} {sh : Nat × (Nat → Nat) × (Nat → Nat)} {I : Nat → Nat → Int32} {J : Nat → Nat → Int64} {R : Nat → Nat → Option Nat} {x0 : Nat} {x1 : Int32} {x2 : Int32}
    (h_x0 : At2 sh R x0)
    (t : (x1 ≤ x2 → (rW γ l m_X2_passesThrough 0 0 2 [some (.ref x0), some (.int (x1 + (1 : Int32))), none] [] (sh, I, J, R) Q)) ∧ (¬ x1 ≤ x2 → (∃ (v4 : Int32), rMet γ l m_X2_lineOf [.ref x0, .int x1] (sh, I, J, R) (sh, I, J, R) (some (.int v4)) ∧ (∃ (v6 : Int32), rMet γ l m_X2_lineOf [.ref x0, .int x2] (sh, I, J, R) (sh, I, J, R) (some (.int v6)) ∧ ((v4 = v6 → (∃ (v10 : Int32), rMet γ l m_X2_clash [.ref x0, .int x1, .int x2] (sh, I, J, R) (sh, I, J, R) (some (.int v10)) ∧ ((v10 = 0 → (rW γ l m_X2_passesThrough 0 0 14 [some (.ref x0), some (.int x1), some (.int (x2 + (1 : Int32)))] [] (sh, I, J, R) Q)) ∧ (¬ v10 = 0 → (Q (sh, I, J, R) (some (.int (1 : Int32)))))))) ∧ (¬ v4 = v6 → (rW γ l m_X2_passesThrough 0 0 14 [some (.ref x0), some (.int x1), some (.int (x2 + (1 : Int32)))] [] (sh, I, J, R) Q))))))) :
    rW γ l m_X2_passesThrough 0 0 14 [some (.ref x0), some (.int x1), some (.int x2)] [] (sh, I, J, R) Q := by
  by_cases p0 : x1 ≤ x2
  · have t := t.1 p0
    obtain ⟨hf, r, t, q⟩ := t
    exact ⟨hf, r, b_X2_passesThrough_14 (v4 := 0) (v6 := 0) (v10 := 0) h_x0 (fun _ => t) (fun y0 => absurd p0 y0) (fun y0 => absurd p0 y0) (fun y0 _ => absurd p0 y0) (fun y0 _ => absurd p0 y0) (fun y0 _ _ => absurd p0 y0) (fun y0 _ _ => absurd p0 y0), q⟩
  · have t := t.2 p0
    obtain ⟨v4, m3, t⟩ := t
    obtain ⟨v6, m5, t⟩ := t
    by_cases p1 : v4 = v6
    · have t := t.1 p1
      obtain ⟨v10, m9, t⟩ := t
      by_cases p2 : v10 = 0
      · have t := t.1 p2
        obtain ⟨hf, r, t, q⟩ := t
        exact ⟨hf, r, b_X2_passesThrough_14  h_x0 (fun y0 => absurd y0 p0) (fun _ => m3) (fun _ => m5) (fun _ y1 => absurd p1 y1) (fun _ _ => m9) (fun _ _ _ => t) (fun _ _ y2 => absurd p2 y2), q⟩
      · have t := t.2 p2
        exact ⟨_, _, b_X2_passesThrough_14  h_x0 (fun y0 => absurd y0 p0) (fun _ => m3) (fun _ => m5) (fun _ y1 => absurd p1 y1) (fun _ _ => m9) (fun _ _ y2 => absurd y2 p2) (fun _ _ _ => ⟨rfl, rfl⟩), t⟩
    · have t := t.2 p1
      obtain ⟨hf, r, t, q⟩ := t
      exact ⟨hf, r, b_X2_passesThrough_14 (v10 := 0) h_x0 (fun y0 => absurd y0 p0) (fun _ => m3) (fun _ => m5) (fun _ _ => t) (fun _ y1 => absurd y1 p1) (fun _ y1 _ => absurd y1 p1) (fun _ y1 _ => absurd y1 p1), q⟩
abbrev s_X2_clash_0 (γ : rG) (l : Launch) (x0 : Nat) (x1 : Int32) (x2 : Int32) (h : rHeap) (Q : rHeap → Option Value → Prop) : Prop := rW γ l m_X2_clash 0 0 0 [some (.ref x0), some (.int x1), some (.int x2), none, none, none] [] h Q
theorem w_X2_clash_0 {γ : rG} {l : Launch} {Q : rHeap → Option Value → Prop} {sh : Nat × (Nat → Nat) × (Nat → Nat)} {I : Nat → Nat → Int32} {J : Nat → Nat → Int64} {R : Nat → Nat → Option Nat} {x0 : Nat} {x1 : Int32} {x2 : Int32}
    (h_x0 : At2 sh R x0)
    (t : ∃ (v2 : Int32), rMet γ l m_X2_isCrease [.ref x0, .int x1] (sh, I, J, R) (sh, I, J, R) (some (.int v2)) ∧ ((v2 = 0 → (rW γ l m_X2_clash 0 0 54 [some (.ref x0), some (.int x1), some (.int x2), none, none, none] [] (sh, I, J, R) Q)) ∧ (¬ v2 = 0 → (∃ (v6 : Int32), rMet γ l m_X2_isCrease [.ref x0, .int x2] (sh, I, J, R) (sh, I, J, R) (some (.int v6)) ∧ ((v6 = 0 → (rW γ l m_X2_clash 0 0 54 [some (.ref x0), some (.int x1), some (.int x2), none, none, none] [] (sh, I, J, R) Q)) ∧ (¬ v6 = 0 → (vp_in x1 8 ∧ (vp_in x2 8 ∧ (((I (x0 + 1) x1.toNatClampNeg) = (I (x0 + 1) x2.toNatClampNeg) → (∃ (v14 : Int32), rMet γ l m_X2_isBetween [.ref x0, .int x1, .int x2] (sh, I, J, R) (sh, I, J, R) (some (.int v14)) ∧ (∃ (v16 : Int32), rMet γ l m_X2_isBetween [.ref x0, .int x1, .int (x2 + (1 : Int32))] (sh, I, J, R) (sh, I, J, R) (some (.int v16)) ∧ ((v14 = v16 → (Q (sh, I, J, R) (some (.int (0 : Int32))))) ∧ (¬ v14 = v16 → (Q (sh, I, J, R) (some (.int (1 : Int32))))))))) ∧ (¬ (I (x0 + 1) x1.toNatClampNeg) = (I (x0 + 1) x2.toNatClampNeg) → (Q (sh, I, J, R) (some (.int (0 : Int32)))))))))))))) :
    rW γ l m_X2_clash 0 0 0 [some (.ref x0), some (.int x1), some (.int x2), none, none, none] [] (sh, I, J, R) Q := by
  obtain ⟨v2, m1, t⟩ := t
  by_cases p0 : v2 = 0
  · have t := t.1 p0
    obtain ⟨hf, r, t, q⟩ := t
    exact ⟨hf, r, b_X2_clash_0 (v6 := 0) (v14 := 0) (v16 := 0) h_x0 m1 (fun _ => t) (fun y0 => absurd p0 y0) (fun y0 _ => absurd p0 y0) (fun y0 _ => absurd p0 y0) (fun y0 _ => absurd p0 y0) (fun y0 _ _ => absurd p0 y0) (fun y0 _ _ => absurd p0 y0) (fun y0 _ _ => absurd p0 y0) (fun y0 _ _ _ => absurd p0 y0) (fun y0 _ _ _ => absurd p0 y0), q⟩
  · have t := t.2 p0
    obtain ⟨v6, m5, t⟩ := t
    by_cases p1 : v6 = 0
    · have t := t.1 p1
      obtain ⟨hf, r, t, q⟩ := t
      exact ⟨hf, r, b_X2_clash_0 (v14 := 0) (v16 := 0) h_x0 m1 (fun y0 => absurd y0 p0) (fun _ => m5) (fun _ _ => t) (fun _ y1 => absurd p1 y1) (fun _ y1 => absurd p1 y1) (fun _ y1 _ => absurd p1 y1) (fun _ y1 _ => absurd p1 y1) (fun _ y1 _ => absurd p1 y1) (fun _ y1 _ _ => absurd p1 y1) (fun _ y1 _ _ => absurd p1 y1), q⟩
    · have t := t.2 p1
      obtain ⟨b9, t⟩ := t
      obtain ⟨b10, t⟩ := t
      by_cases p2 : (I (x0 + 1) x1.toNatClampNeg) = (I (x0 + 1) x2.toNatClampNeg)
      · have t := t.1 p2
        obtain ⟨v14, m13, t⟩ := t
        obtain ⟨v16, m15, t⟩ := t
        by_cases p3 : v14 = v16
        · have t := t.1 p3
          exact ⟨_, _, b_X2_clash_0  h_x0 m1 (fun y0 => absurd y0 p0) (fun _ => m5) (fun _ y1 => absurd y1 p1) (fun _ _ => b9) (fun _ _ => b10) (fun _ _ y2 => absurd p2 y2) (fun _ _ _ => m13) (fun _ _ _ => m15) (fun _ _ _ _ => ⟨rfl, rfl⟩) (fun _ _ _ y3 => absurd p3 y3), t⟩
        · have t := t.2 p3
          exact ⟨_, _, b_X2_clash_0  h_x0 m1 (fun y0 => absurd y0 p0) (fun _ => m5) (fun _ y1 => absurd y1 p1) (fun _ _ => b9) (fun _ _ => b10) (fun _ _ y2 => absurd p2 y2) (fun _ _ _ => m13) (fun _ _ _ => m15) (fun _ _ _ y3 => absurd y3 p3) (fun _ _ _ _ => ⟨rfl, rfl⟩), t⟩
      · have t := t.2 p2
        exact ⟨_, _, b_X2_clash_0 (v14 := 0) (v16 := 0) h_x0 m1 (fun y0 => absurd y0 p0) (fun _ => m5) (fun _ y1 => absurd y1 p1) (fun _ _ => b9) (fun _ _ => b10) (fun _ _ _ => ⟨rfl, rfl⟩) (fun _ _ y2 => absurd y2 p2) (fun _ _ y2 => absurd y2 p2) (fun _ _ y2 _ => absurd y2 p2) (fun _ _ y2 _ => absurd y2 p2), t⟩
abbrev s_X2_clash_54 (γ : rG) (l : Launch) (x0 : Nat) (x1 : Int32) (x2 : Int32) (h : rHeap) (Q : rHeap → Option Value → Prop) : Prop := rW γ l m_X2_clash 0 0 54 [some (.ref x0), some (.int x1), some (.int x2), none, none, none] [] h Q
theorem w_X2_clash_54 {γ : rG} {l : Launch} {Q : rHeap → Option Value → Prop} {sh : Nat × (Nat → Nat) × (Nat → Nat)} {I : Nat → Nat → Int32} {J : Nat → Nat → Int64} {R : Nat → Nat → Option Nat} {x0 : Nat} {x1 : Int32} {x2 : Int32}
    (h_x0 : At2 sh R x0)
    (t : ∃ (v2 : Int32), rMet γ l m_X2_isCrease [.ref x0, .int x1] (sh, I, J, R) (sh, I, J, R) (some (.int v2)) ∧ ((v2 = 0 → (∃ (v5 : Int32), rMet γ l m_X2_isCrease [.ref x0, .int x2] (sh, I, J, R) (sh, I, J, R) (some (.int v5)) ∧ ((v5 = 0 → (vp_in x1 8 ∧ (vp_in x2 8 ∧ (((I (x0 + 1) x1.toNatClampNeg) = (I (x0 + 1) x2.toNatClampNeg) → (rW γ l m_X2_clash 0 0 146 [some (.ref x0), some (.int x1), some (.int x2), none, none, none] [.int (1 : Int32)] (sh, I, J, R) Q)) ∧ (¬ (I (x0 + 1) x1.toNatClampNeg) = (I (x0 + 1) x2.toNatClampNeg) → (rW γ l m_X2_clash 0 0 146 [some (.ref x0), some (.int x1), some (.int x2), none, none, none] [.int (0 : Int32)] (sh, I, J, R) Q)))))) ∧ (¬ v5 = 0 → (vp_in x1 8 ∧ (vp_in x2 8 ∧ (((I (x0 + 1) x1.toNatClampNeg) = (I (x0 + 1) x2.toNatClampNeg) → (∃ (v20 : Int32), rMet γ l m_X2_isBetween [.ref x0, .int x2, .int x1] (sh, I, J, R) (sh, I, J, R) (some (.int v20)) ∧ ((v20 = 0 ∨ v20 = 1) ∧ (Q (sh, I, J, R) (some (.int v20)))))) ∧ (¬ (I (x0 + 1) x1.toNatClampNeg) = (I (x0 + 1) x2.toNatClampNeg) → (∃ (v16 : Int32), rMet γ l m_X2_isBetween [.ref x0, .int x2, .int (x1 + (1 : Int32))] (sh, I, J, R) (sh, I, J, R) (some (.int v16)) ∧ ((v16 = 0 ∨ v16 = 1) ∧ (Q (sh, I, J, R) (some (.int v16))))))))))))) ∧ (¬ v2 = 0 → (vp_in x2 8 ∧ (vp_in x1 8 ∧ (((I (x0 + 1) x2.toNatClampNeg) = (I (x0 + 1) x1.toNatClampNeg) → (∃ (v31 : Int32), rMet γ l m_X2_isBetween [.ref x0, .int x1, .int x2] (sh, I, J, R) (sh, I, J, R) (some (.int v31)) ∧ ((v31 = 0 ∨ v31 = 1) ∧ (Q (sh, I, J, R) (some (.int v31)))))) ∧ (¬ (I (x0 + 1) x2.toNatClampNeg) = (I (x0 + 1) x1.toNatClampNeg) → (∃ (v27 : Int32), rMet γ l m_X2_isBetween [.ref x0, .int x1, .int (x2 + (1 : Int32))] (sh, I, J, R) (sh, I, J, R) (some (.int v27)) ∧ ((v27 = 0 ∨ v27 = 1) ∧ (Q (sh, I, J, R) (some (.int v27)))))))))))) :
    rW γ l m_X2_clash 0 0 54 [some (.ref x0), some (.int x1), some (.int x2), none, none, none] [] (sh, I, J, R) Q := by
  obtain ⟨v2, m1, t⟩ := t
  by_cases p0 : v2 = 0
  · have t := t.1 p0
    obtain ⟨v5, m4, t⟩ := t
    by_cases p1 : v5 = 0
    · have t := t.1 p1
      obtain ⟨b7, t⟩ := t
      obtain ⟨b8, t⟩ := t
      by_cases p2 : (I (x0 + 1) x1.toNatClampNeg) = (I (x0 + 1) x2.toNatClampNeg)
      · have t := t.1 p2
        obtain ⟨hf, r, t, q⟩ := t
        exact ⟨hf, r, b_X2_clash_54 (v16 := 0) (v20 := 0) (v27 := 0) (v31 := 0) h_x0 m1 (fun _ => m4) (fun _ _ => b7) (fun _ _ => b8) (fun _ _ y2 => absurd p2 y2) (fun _ _ _ => t) (fun _ y1 => absurd p1 y1) (fun _ y1 => absurd p1 y1) (fun _ y1 _ => absurd p1 y1) (fun _ y1 _ => absurd p1 y1) (fun _ y1 _ => absurd p1 y1) (fun _ y1 _ => absurd p1 y1) (fun _ y1 _ => absurd p1 y1) (fun _ y1 _ => absurd p1 y1) (fun y0 => absurd p0 y0) (fun y0 => absurd p0 y0) (fun y0 _ => absurd p0 y0) (fun y0 _ => absurd p0 y0) (fun y0 _ => absurd p0 y0) (fun y0 _ => absurd p0 y0) (fun y0 _ => absurd p0 y0) (fun y0 _ => absurd p0 y0), q⟩
      · have t := t.2 p2
        obtain ⟨hf, r, t, q⟩ := t
        exact ⟨hf, r, b_X2_clash_54 (v16 := 0) (v20 := 0) (v27 := 0) (v31 := 0) h_x0 m1 (fun _ => m4) (fun _ _ => b7) (fun _ _ => b8) (fun _ _ _ => t) (fun _ _ y2 => absurd y2 p2) (fun _ y1 => absurd p1 y1) (fun _ y1 => absurd p1 y1) (fun _ y1 _ => absurd p1 y1) (fun _ y1 _ => absurd p1 y1) (fun _ y1 _ => absurd p1 y1) (fun _ y1 _ => absurd p1 y1) (fun _ y1 _ => absurd p1 y1) (fun _ y1 _ => absurd p1 y1) (fun y0 => absurd p0 y0) (fun y0 => absurd p0 y0) (fun y0 _ => absurd p0 y0) (fun y0 _ => absurd p0 y0) (fun y0 _ => absurd p0 y0) (fun y0 _ => absurd p0 y0) (fun y0 _ => absurd p0 y0) (fun y0 _ => absurd p0 y0), q⟩
    · have t := t.2 p1
      obtain ⟨b12, t⟩ := t
      obtain ⟨b13, t⟩ := t
      by_cases p2 : (I (x0 + 1) x1.toNatClampNeg) = (I (x0 + 1) x2.toNatClampNeg)
      · have t := t.1 p2
        obtain ⟨v20, m19, t⟩ := t
        obtain ⟨z22, t⟩ := t
        exact ⟨_, _, b_X2_clash_54 (v16 := 0) (v27 := 0) (v31 := 0) h_x0 m1 (fun _ => m4) (fun _ y1 => absurd y1 p1) (fun _ y1 => absurd y1 p1) (fun _ y1 _ => absurd y1 p1) (fun _ y1 _ => absurd y1 p1) (fun _ _ => b12) (fun _ _ => b13) (fun _ _ y2 => absurd p2 y2) (fun _ _ y2 => absurd p2 y2) (fun _ _ y2 => absurd p2 y2) (fun _ _ _ => m19) (fun _ _ _ => ⟨rfl, rfl⟩) (fun _ _ _ => z22) (fun y0 => absurd p0 y0) (fun y0 => absurd p0 y0) (fun y0 _ => absurd p0 y0) (fun y0 _ => absurd p0 y0) (fun y0 _ => absurd p0 y0) (fun y0 _ => absurd p0 y0) (fun y0 _ => absurd p0 y0) (fun y0 _ => absurd p0 y0), t⟩
      · have t := t.2 p2
        obtain ⟨v16, m15, t⟩ := t
        obtain ⟨z18, t⟩ := t
        exact ⟨_, _, b_X2_clash_54 (v20 := 0) (v27 := 0) (v31 := 0) h_x0 m1 (fun _ => m4) (fun _ y1 => absurd y1 p1) (fun _ y1 => absurd y1 p1) (fun _ y1 _ => absurd y1 p1) (fun _ y1 _ => absurd y1 p1) (fun _ _ => b12) (fun _ _ => b13) (fun _ _ _ => m15) (fun _ _ _ => ⟨rfl, rfl⟩) (fun _ _ _ => z18) (fun _ _ y2 => absurd y2 p2) (fun _ _ y2 => absurd y2 p2) (fun _ _ y2 => absurd y2 p2) (fun y0 => absurd p0 y0) (fun y0 => absurd p0 y0) (fun y0 _ => absurd p0 y0) (fun y0 _ => absurd p0 y0) (fun y0 _ => absurd p0 y0) (fun y0 _ => absurd p0 y0) (fun y0 _ => absurd p0 y0) (fun y0 _ => absurd p0 y0), t⟩
  · have t := t.2 p0
    obtain ⟨b23, t⟩ := t
    obtain ⟨b24, t⟩ := t
    by_cases p1 : (I (x0 + 1) x2.toNatClampNeg) = (I (x0 + 1) x1.toNatClampNeg)
    · have t := t.1 p1
      obtain ⟨v31, m30, t⟩ := t
      obtain ⟨z33, t⟩ := t
      exact ⟨_, _, b_X2_clash_54 (v5 := 0) (v16 := 0) (v20 := 0) (v27 := 0) h_x0 m1 (fun y0 => absurd y0 p0) (fun y0 _ => absurd y0 p0) (fun y0 _ => absurd y0 p0) (fun y0 _ _ => absurd y0 p0) (fun y0 _ _ => absurd y0 p0) (fun y0 _ => absurd y0 p0) (fun y0 _ => absurd y0 p0) (fun y0 _ _ => absurd y0 p0) (fun y0 _ _ => absurd y0 p0) (fun y0 _ _ => absurd y0 p0) (fun y0 _ _ => absurd y0 p0) (fun y0 _ _ => absurd y0 p0) (fun y0 _ _ => absurd y0 p0) (fun _ => b23) (fun _ => b24) (fun _ y1 => absurd p1 y1) (fun _ y1 => absurd p1 y1) (fun _ y1 => absurd p1 y1) (fun _ _ => m30) (fun _ _ => ⟨rfl, rfl⟩) (fun _ _ => z33), t⟩
    · have t := t.2 p1
      obtain ⟨v27, m26, t⟩ := t
      obtain ⟨z29, t⟩ := t
      exact ⟨_, _, b_X2_clash_54 (v5 := 0) (v16 := 0) (v20 := 0) (v31 := 0) h_x0 m1 (fun y0 => absurd y0 p0) (fun y0 _ => absurd y0 p0) (fun y0 _ => absurd y0 p0) (fun y0 _ _ => absurd y0 p0) (fun y0 _ _ => absurd y0 p0) (fun y0 _ => absurd y0 p0) (fun y0 _ => absurd y0 p0) (fun y0 _ _ => absurd y0 p0) (fun y0 _ _ => absurd y0 p0) (fun y0 _ _ => absurd y0 p0) (fun y0 _ _ => absurd y0 p0) (fun y0 _ _ => absurd y0 p0) (fun y0 _ _ => absurd y0 p0) (fun _ => b23) (fun _ => b24) (fun _ _ => m26) (fun _ _ => ⟨rfl, rfl⟩) (fun _ _ => z29) (fun _ y1 => absurd y1 p1) (fun _ y1 => absurd y1 p1) (fun _ y1 => absurd y1 p1), t⟩
abbrev s_X2_clash_146 (γ : rG) (l : Launch) (x0 : Nat) (x1 : Int32) (x2 : Int32) (s0 : Int32) (h : rHeap) (Q : rHeap → Option Value → Prop) : Prop := rW γ l m_X2_clash 0 0 146 [some (.ref x0), some (.int x1), some (.int x2), none, none, none] [.int s0] h Q
theorem w_X2_clash_146 {γ : rG} {l : Launch} {Q : rHeap → Option Value → Prop} {sh : Nat × (Nat → Nat) × (Nat → Nat)} {I : Nat → Nat → Int32} {J : Nat → Nat → Int64} {R : Nat → Nat → Option Nat} {x0 : Nat} {x1 : Int32} {x2 : Int32} {s0 : Int32}
    (h_x0 : At2 sh R x0)
    (t : (s0 = 0 → (rW γ l m_X2_clash 0 0 158 [some (.ref x0), some (.int x1), some (.int x2), some (.int s0), none, none] [.int (x2 + (1 : Int32))] (sh, I, J, R) Q)) ∧ (¬ s0 = 0 → (rW γ l m_X2_clash 0 0 158 [some (.ref x0), some (.int x1), some (.int x2), some (.int s0), none, none] [.int x2] (sh, I, J, R) Q))) :
    rW γ l m_X2_clash 0 0 146 [some (.ref x0), some (.int x1), some (.int x2), none, none, none] [.int s0] (sh, I, J, R) Q := by
  by_cases p0 : s0 = 0
  · have t := t.1 p0
    obtain ⟨hf, r, t, q⟩ := t
    exact ⟨hf, r, b_X2_clash_146  h_x0 (fun _ => t) (fun y0 => absurd p0 y0), q⟩
  · have t := t.2 p0
    obtain ⟨hf, r, t, q⟩ := t
    exact ⟨hf, r, b_X2_clash_146  h_x0 (fun y0 => absurd y0 p0) (fun _ => t), q⟩
abbrev s_X2_clash_158 (γ : rG) (l : Launch) (x0 : Nat) (x1 : Int32) (x2 : Int32) (x3 : Int32) (s0 : Int32) (h : rHeap) (Q : rHeap → Option Value → Prop) : Prop := rW γ l m_X2_clash 0 0 158 [some (.ref x0), some (.int x1), some (.int x2), some (.int x3), none, none] [.int s0] h Q
theorem w_X2_clash_158 {γ : rG} {l : Launch} {Q : rHeap → Option Value → Prop} {sh : Nat × (Nat → Nat) × (Nat → Nat)} {I : Nat → Nat → Int32} {J : Nat → Nat → Int64} {R : Nat → Nat → Option Nat} {x0 : Nat} {x1 : Int32} {x2 : Int32} {x3 : Int32} {s0 : Int32}
    (h_x0 : At2 sh R x0)
    (t : (x3 = 0 → (rW γ l m_X2_clash 0 0 171 [some (.ref x0), some (.int x1), none, none, some (.int s0), none] [.int x2] (sh, I, J, R) Q)) ∧ (¬ x3 = 0 → (rW γ l m_X2_clash 0 0 171 [some (.ref x0), some (.int x1), none, none, some (.int s0), none] [.int (x2 + (1 : Int32))] (sh, I, J, R) Q))) :
    rW γ l m_X2_clash 0 0 158 [some (.ref x0), some (.int x1), some (.int x2), some (.int x3), none, none] [.int s0] (sh, I, J, R) Q := by
  by_cases p0 : x3 = 0
  · have t := t.1 p0
    obtain ⟨hf, r, t, q⟩ := t
    exact ⟨hf, r, b_X2_clash_158  h_x0 (fun _ => t) (fun y0 => absurd p0 y0), q⟩
  · have t := t.2 p0
    obtain ⟨hf, r, t, q⟩ := t
    exact ⟨hf, r, b_X2_clash_158  h_x0 (fun y0 => absurd y0 p0) (fun _ => t), q⟩
abbrev s_X2_clash_171 (γ : rG) (l : Launch) (x0 : Nat) (x1 : Int32) (x4 : Int32) (s0 : Int32) (h : rHeap) (Q : rHeap → Option Value → Prop) : Prop := rW γ l m_X2_clash 0 0 171 [some (.ref x0), some (.int x1), none, none, some (.int x4), none] [.int s0] h Q
theorem w_X2_clash_171 {γ : rG} {l : Launch} {Q : rHeap → Option Value → Prop} {sh : Nat × (Nat → Nat) × (Nat → Nat)} {I : Nat → Nat → Int32} {J : Nat → Nat → Int64} {R : Nat → Nat → Option Nat} {x0 : Nat} {x1 : Int32} {x4 : Int32} {s0 : Int32}
    (h_x0 : At2 sh R x0)
    (t : vp_in x1 8 ∧ (vp_in x4 8 ∧ (((I (x0 + 2) x4.toNatClampNeg) ≤ (I (x0 + 2) x1.toNatClampNeg) → (rW γ l m_X2_clash 0 0 194 [some (.ref x0), some (.int x1), none, none, none, some (.int s0)] [.int (0 : Int32)] (sh, I, J, R) Q)) ∧ (¬ (I (x0 + 2) x4.toNatClampNeg) ≤ (I (x0 + 2) x1.toNatClampNeg) → (rW γ l m_X2_clash 0 0 194 [some (.ref x0), some (.int x1), none, none, none, some (.int s0)] [.int (1 : Int32)] (sh, I, J, R) Q))))) :
    rW γ l m_X2_clash 0 0 171 [some (.ref x0), some (.int x1), none, none, some (.int x4), none] [.int s0] (sh, I, J, R) Q := by
  obtain ⟨b1, t⟩ := t
  obtain ⟨b2, t⟩ := t
  by_cases p0 : (I (x0 + 2) x4.toNatClampNeg) ≤ (I (x0 + 2) x1.toNatClampNeg)
  · have t := t.1 p0
    obtain ⟨hf, r, t, q⟩ := t
    exact ⟨hf, r, b_X2_clash_171  h_x0 b1 b2 (fun _ => t) (fun y0 => absurd p0 y0), q⟩
  · have t := t.2 p0
    obtain ⟨hf, r, t, q⟩ := t
    exact ⟨hf, r, b_X2_clash_171  h_x0 b1 b2 (fun y0 => absurd y0 p0) (fun _ => t), q⟩
abbrev s_X2_clash_194 (γ : rG) (l : Launch) (x0 : Nat) (x1 : Int32) (x5 : Int32) (s0 : Int32) (h : rHeap) (Q : rHeap → Option Value → Prop) : Prop := rW γ l m_X2_clash 0 0 194 [some (.ref x0), some (.int x1), none, none, none, some (.int x5)] [.int s0] h Q
theorem w_X2_clash_194 {γ : rG} {l : Launch} {Q : rHeap → Option Value → Prop} {sh : Nat × (Nat → Nat) × (Nat → Nat)} {I : Nat → Nat → Int32} {J : Nat → Nat → Int64} {R : Nat → Nat → Option Nat} {x0 : Nat} {x1 : Int32} {x5 : Int32} {s0 : Int32}
    (h_x0 : At2 sh R x0)
    (t : vp_in ((x1 + (1 : Int32))) 8 ∧ (vp_in x5 8 ∧ (((I (x0 + 2) x5.toNatClampNeg) ≤ (I (x0 + 2) ((x1 + (1 : Int32))).toNatClampNeg) → ((s0 = (0 : Int32) → (Q (sh, I, J, R) (some (.int (0 : Int32))))) ∧ (¬ s0 = (0 : Int32) → (Q (sh, I, J, R) (some (.int (1 : Int32))))))) ∧ (¬ (I (x0 + 2) x5.toNatClampNeg) ≤ (I (x0 + 2) ((x1 + (1 : Int32))).toNatClampNeg) → ((s0 = (1 : Int32) → (Q (sh, I, J, R) (some (.int (0 : Int32))))) ∧ (¬ s0 = (1 : Int32) → (Q (sh, I, J, R) (some (.int (1 : Int32)))))))))) :
    rW γ l m_X2_clash 0 0 194 [some (.ref x0), some (.int x1), none, none, none, some (.int x5)] [.int s0] (sh, I, J, R) Q := by
  obtain ⟨b1, t⟩ := t
  obtain ⟨b2, t⟩ := t
  by_cases p0 : (I (x0 + 2) x5.toNatClampNeg) ≤ (I (x0 + 2) ((x1 + (1 : Int32))).toNatClampNeg)
  · have t := t.1 p0
    by_cases p1 : s0 = (0 : Int32)
    · have t := t.1 p1
      exact ⟨_, _, b_X2_clash_194  h_x0 b1 b2 (fun _ _ => ⟨rfl, rfl⟩) (fun _ y1 => absurd p1 y1) (fun y0 _ => absurd p0 y0) (fun y0 _ => absurd p0 y0), t⟩
    · have t := t.2 p1
      exact ⟨_, _, b_X2_clash_194  h_x0 b1 b2 (fun _ y1 => absurd y1 p1) (fun _ _ => ⟨rfl, rfl⟩) (fun y0 _ => absurd p0 y0) (fun y0 _ => absurd p0 y0), t⟩
  · have t := t.2 p0
    by_cases p1 : s0 = (1 : Int32)
    · have t := t.1 p1
      exact ⟨_, _, b_X2_clash_194  h_x0 b1 b2 (fun y0 _ => absurd y0 p0) (fun y0 _ => absurd y0 p0) (fun _ _ => ⟨rfl, rfl⟩) (fun _ y1 => absurd p1 y1), t⟩
    · have t := t.2 p1
      exact ⟨_, _, b_X2_clash_194  h_x0 b1 b2 (fun y0 _ => absurd y0 p0) (fun y0 _ => absurd y0 p0) (fun _ y1 => absurd y1 p1) (fun _ _ => ⟨rfl, rfl⟩), t⟩
abbrev s_X2_isBetween_0 (γ : rG) (l : Launch) (x0 : Nat) (x1 : Int32) (x2 : Int32) (h : rHeap) (Q : rHeap → Option Value → Prop) : Prop := rW γ l m_X2_isBetween 0 0 0 [some (.ref x0), some (.int x1), some (.int x2)] [] h Q
theorem w_X2_isBetween_0 {γ : rG} {l : Launch} {Q : rHeap → Option Value → Prop} {sh : Nat × (Nat → Nat) × (Nat → Nat)} {I : Nat → Nat → Int32} {J : Nat → Nat → Int64} {R : Nat → Nat → Option Nat} {x0 : Nat} {x1 : Int32} {x2 : Int32}
    (h_x0 : At2 sh R x0)
    (t : vp_in x1 8 ∧ (vp_in x2 8 ∧ (((I (x0 + 2) x2.toNatClampNeg) ≤ (I (x0 + 2) x1.toNatClampNeg) → (rW γ l m_X2_isBetween 0 0 20 [some (.ref x0), some (.int x1), some (.int x2)] [.int (0 : Int32)] (sh, I, J, R) Q)) ∧ (¬ (I (x0 + 2) x2.toNatClampNeg) ≤ (I (x0 + 2) x1.toNatClampNeg) → (rW γ l m_X2_isBetween 0 0 20 [some (.ref x0), some (.int x1), some (.int x2)] [.int (1 : Int32)] (sh, I, J, R) Q))))) :
    rW γ l m_X2_isBetween 0 0 0 [some (.ref x0), some (.int x1), some (.int x2)] [] (sh, I, J, R) Q := by
  obtain ⟨b1, t⟩ := t
  obtain ⟨b2, t⟩ := t
  by_cases p0 : (I (x0 + 2) x2.toNatClampNeg) ≤ (I (x0 + 2) x1.toNatClampNeg)
  · have t := t.1 p0
    obtain ⟨hf, r, t, q⟩ := t
    exact ⟨hf, r, b_X2_isBetween_0  h_x0 b1 b2 (fun _ => t) (fun y0 => absurd p0 y0), q⟩
  · have t := t.2 p0
    obtain ⟨hf, r, t, q⟩ := t
    exact ⟨hf, r, b_X2_isBetween_0  h_x0 b1 b2 (fun y0 => absurd y0 p0) (fun _ => t), q⟩
abbrev s_X2_isBetween_20 (γ : rG) (l : Launch) (x0 : Nat) (x1 : Int32) (x2 : Int32) (s0 : Int32) (h : rHeap) (Q : rHeap → Option Value → Prop) : Prop := rW γ l m_X2_isBetween 0 0 20 [some (.ref x0), some (.int x1), some (.int x2)] [.int s0] h Q
theorem w_X2_isBetween_20 {γ : rG} {l : Launch} {Q : rHeap → Option Value → Prop} {sh : Nat × (Nat → Nat) × (Nat → Nat)} {I : Nat → Nat → Int32} {J : Nat → Nat → Int64} {R : Nat → Nat → Option Nat} {x0 : Nat} {x1 : Int32} {x2 : Int32} {s0 : Int32}
    (h_x0 : At2 sh R x0)
    (t : vp_in ((x1 + (1 : Int32))) 8 ∧ (vp_in x2 8 ∧ (((I (x0 + 2) x2.toNatClampNeg) ≤ (I (x0 + 2) ((x1 + (1 : Int32))).toNatClampNeg) → ((s0 = (0 : Int32) → (Q (sh, I, J, R) (some (.int (0 : Int32))))) ∧ (¬ s0 = (0 : Int32) → (Q (sh, I, J, R) (some (.int (1 : Int32))))))) ∧ (¬ (I (x0 + 2) x2.toNatClampNeg) ≤ (I (x0 + 2) ((x1 + (1 : Int32))).toNatClampNeg) → ((s0 = (1 : Int32) → (Q (sh, I, J, R) (some (.int (0 : Int32))))) ∧ (¬ s0 = (1 : Int32) → (Q (sh, I, J, R) (some (.int (1 : Int32)))))))))) :
    rW γ l m_X2_isBetween 0 0 20 [some (.ref x0), some (.int x1), some (.int x2)] [.int s0] (sh, I, J, R) Q := by
  obtain ⟨b1, t⟩ := t
  obtain ⟨b2, t⟩ := t
  by_cases p0 : (I (x0 + 2) x2.toNatClampNeg) ≤ (I (x0 + 2) ((x1 + (1 : Int32))).toNatClampNeg)
  · have t := t.1 p0
    by_cases p1 : s0 = (0 : Int32)
    · have t := t.1 p1
      exact ⟨_, _, b_X2_isBetween_20  h_x0 b1 b2 (fun _ _ => ⟨rfl, rfl⟩) (fun _ y1 => absurd p1 y1) (fun y0 _ => absurd p0 y0) (fun y0 _ => absurd p0 y0), t⟩
    · have t := t.2 p1
      exact ⟨_, _, b_X2_isBetween_20  h_x0 b1 b2 (fun _ y1 => absurd y1 p1) (fun _ _ => ⟨rfl, rfl⟩) (fun y0 _ => absurd p0 y0) (fun y0 _ => absurd p0 y0), t⟩
  · have t := t.2 p0
    by_cases p1 : s0 = (1 : Int32)
    · have t := t.1 p1
      exact ⟨_, _, b_X2_isBetween_20  h_x0 b1 b2 (fun y0 _ => absurd y0 p0) (fun y0 _ => absurd y0 p0) (fun _ _ => ⟨rfl, rfl⟩) (fun _ y1 => absurd p1 y1), t⟩
    · have t := t.2 p1
      exact ⟨_, _, b_X2_isBetween_20  h_x0 b1 b2 (fun y0 _ => absurd y0 p0) (fun y0 _ => absurd y0 p0) (fun _ y1 => absurd y1 p1) (fun _ _ => ⟨rfl, rfl⟩), t⟩
abbrev s_X2_heightOf_0 (γ : rG) (l : Launch) (x0 : Nat) (x1 : Int32) (h : rHeap) (Q : rHeap → Option Value → Prop) : Prop := rW γ l m_X2_heightOf 0 0 0 [some (.ref x0), some (.int x1)] [] h Q
theorem w_X2_heightOf_0 {γ : rG} {l : Launch} {Q : rHeap → Option Value → Prop} {sh : Nat × (Nat → Nat) × (Nat → Nat)} {I : Nat → Nat → Int32} {J : Nat → Nat → Int64} {R : Nat → Nat → Option Nat} {x0 : Nat} {x1 : Int32}
    (h_x0 : At2 sh R x0)
    (t : (x1 < 0 → (Q (sh, I, J, R) (some (.int (-1 : Int32))))) ∧ (¬ x1 < 0 → ((x1 < (I x0 1) → (vp_in x1 8 ∧ (Q (sh, I, J, R) (some (.int ((I (x0 + 4) x1.toNatClampNeg))))))) ∧ (¬ x1 < (I x0 1) → (Q (sh, I, J, R) (some (.int (-1 : Int32)))))))) :
    rW γ l m_X2_heightOf 0 0 0 [some (.ref x0), some (.int x1)] [] (sh, I, J, R) Q := by
  by_cases p0 : x1 < 0
  · have t := t.1 p0
    exact ⟨_, _, b_X2_heightOf_0  h_x0 (fun _ => ⟨rfl, rfl⟩) (fun y0 _ => absurd p0 y0) (fun y0 _ => absurd p0 y0) (fun y0 _ => absurd p0 y0), t⟩
  · have t := t.2 p0
    by_cases p1 : x1 < (I x0 1)
    · have t := t.1 p1
      obtain ⟨b4, t⟩ := t
      exact ⟨_, _, b_X2_heightOf_0  h_x0 (fun y0 => absurd y0 p0) (fun _ _ => b4) (fun _ _ => ⟨rfl, rfl⟩) (fun _ y1 => absurd p1 y1), t⟩
    · have t := t.2 p1
      exact ⟨_, _, b_X2_heightOf_0  h_x0 (fun y0 => absurd y0 p0) (fun _ y1 => absurd y1 p1) (fun _ y1 => absurd y1 p1) (fun _ _ => ⟨rfl, rfl⟩), t⟩
abbrev s_X2_partAt_0 (γ : rG) (l : Launch) (x0 : Nat) (x1 : Int32) (x2 : Int32) (h : rHeap) (Q : rHeap → Option Value → Prop) : Prop := rW γ l m_X2_partAt 0 0 0 [some (.ref x0), some (.int x1), some (.int x2)] [] h Q
theorem w_X2_partAt_0 {γ : rG} {l : Launch} {Q : rHeap → Option Value → Prop} {sh : Nat × (Nat → Nat) × (Nat → Nat)} {I : Nat → Nat → Int32} {J : Nat → Nat → Int64} {R : Nat → Nat → Option Nat} {x0 : Nat} {x1 : Int32} {x2 : Int32}
    (h_x0 : At2 sh R x0)
    (t : (x2 < 0 → (Q (sh, I, J, R) (some (.int (-1 : Int32))))) ∧ (¬ x2 < 0 → (∃ (v4 : Int32), rMet γ l m_X2_heightOf [.ref x0, .int x1] (sh, I, J, R) (sh, I, J, R) (some (.int v4)) ∧ ((x2 < v4 → (vp_in ((((8 : Int32) * x1) + x2)) 64 ∧ (Q (sh, I, J, R) (some (.int ((I (x0 + 5) ((((8 : Int32) * x1) + x2)).toNatClampNeg))))))) ∧ (¬ x2 < v4 → (Q (sh, I, J, R) (some (.int (-1 : Int32))))))))) :
    rW γ l m_X2_partAt 0 0 0 [some (.ref x0), some (.int x1), some (.int x2)] [] (sh, I, J, R) Q := by
  by_cases p0 : x2 < 0
  · have t := t.1 p0
    exact ⟨_, _, b_X2_partAt_0 (v4 := 0) h_x0 (fun _ => ⟨rfl, rfl⟩) (fun y0 => absurd p0 y0) (fun y0 _ => absurd p0 y0) (fun y0 _ => absurd p0 y0) (fun y0 _ => absurd p0 y0), t⟩
  · have t := t.2 p0
    obtain ⟨v4, m3, t⟩ := t
    by_cases p1 : x2 < v4
    · have t := t.1 p1
      obtain ⟨b6, t⟩ := t
      exact ⟨_, _, b_X2_partAt_0  h_x0 (fun y0 => absurd y0 p0) (fun _ => m3) (fun _ _ => b6) (fun _ _ => ⟨rfl, rfl⟩) (fun _ y1 => absurd p1 y1), t⟩
    · have t := t.2 p1
      exact ⟨_, _, b_X2_partAt_0  h_x0 (fun y0 => absurd y0 p0) (fun _ => m3) (fun _ y1 => absurd y1 p1) (fun _ y1 => absurd y1 p1) (fun _ _ => ⟨rfl, rfl⟩), t⟩
abbrev s_X2_mostLayers_0 (γ : rG) (l : Launch) (x0 : Nat) (h : rHeap) (Q : rHeap → Option Value → Prop) : Prop := rW γ l m_X2_mostLayers 0 0 0 [some (.ref x0), none, none] [] h Q
theorem w_X2_mostLayers_0 {γ : rG} {l : Launch} {Q : rHeap → Option Value → Prop} {sh : Nat × (Nat → Nat) × (Nat → Nat)} {I : Nat → Nat → Int32} {J : Nat → Nat → Int64} {R : Nat → Nat → Option Nat} {x0 : Nat}
    (h_x0 : At2 sh R x0)
    (t : rW γ l m_X2_mostLayers 0 0 4 [some (.ref x0), some (.int (0 : Int32)), some (.int (0 : Int32))] [] (sh, I, J, R) Q) :
    rW γ l m_X2_mostLayers 0 0 0 [some (.ref x0), none, none] [] (sh, I, J, R) Q := by
  obtain ⟨hf, r, t, q⟩ := t
  exact ⟨hf, r, b_X2_mostLayers_0  h_x0 t, q⟩
abbrev s_X2_mostLayers_4 (γ : rG) (l : Launch) (x0 : Nat) (x1 : Int32) (x2 : Int32) (h : rHeap) (Q : rHeap → Option Value → Prop) : Prop := rW γ l m_X2_mostLayers 0 0 4 [some (.ref x0), some (.int x1), some (.int x2)] [] h Q
theorem w_X2_mostLayers_4 {γ : rG} {l : Launch} {Q : rHeap → Option Value → Prop} {sh : Nat × (Nat → Nat) × (Nat → Nat)} {I : Nat → Nat → Int32} {J : Nat → Nat → Int64} {R : Nat → Nat → Option Nat} {x0 : Nat} {x1 : Int32} {x2 : Int32}
    (h_x0 : At2 sh R x0)
    (t : ((I x0 1) ≤ x2 → (Q (sh, I, J, R) (some (.int x1)))) ∧ (¬ (I x0 1) ≤ x2 → (vp_in x2 8 ∧ (rW γ l m_X2_mostLayers 0 0 4 [some (.ref x0), some (.int (if x1 < (I (x0 + 4) x2.toNatClampNeg) then (I (x0 + 4) x2.toNatClampNeg) else x1)), some (.int (x2 + (1 : Int32)))] [] (sh, I, J, R) Q)))) :
    rW γ l m_X2_mostLayers 0 0 4 [some (.ref x0), some (.int x1), some (.int x2)] [] (sh, I, J, R) Q := by
  by_cases p0 : (I x0 1) ≤ x2
  · have t := t.1 p0
    exact ⟨_, _, b_X2_mostLayers_4  h_x0 (fun _ => ⟨rfl, rfl⟩) (fun y0 => absurd p0 y0) (fun y0 => absurd p0 y0), t⟩
  · have t := t.2 p0
    obtain ⟨b3, t⟩ := t
    obtain ⟨hf, r, t, q⟩ := t
    exact ⟨hf, r, b_X2_mostLayers_4  h_x0 (fun y0 => absurd y0 p0) (fun _ => b3) (fun _ => t), q⟩
abbrev s_X2_highest_0 (γ : rG) (l : Launch) (x0 : Nat) (x1 : Int32) (x2 : Int32) (h : rHeap) (Q : rHeap → Option Value → Prop) : Prop := rW γ l m_X2_highest 0 0 0 [some (.ref x0), some (.int x1), some (.int x2), none, none, none] [] h Q
theorem w_X2_highest_0 {γ : rG} {l : Launch} {Q : rHeap → Option Value → Prop} {sh : Nat × (Nat → Nat) × (Nat → Nat)} {I : Nat → Nat → Int32} {J : Nat → Nat → Int64} {R : Nat → Nat → Option Nat} {x0 : Nat} {x1 : Int32} {x2 : Int32}
    (h_x0 : At2 sh R x0)
    (t : rW γ l m_X2_highest 0 0 5 [some (.ref x0), some (.int x1), some (.int x2), some (.int (0 : Int32)), some (.int (1 : Int32)), none] [] (sh, I, J, R) Q) :
    rW γ l m_X2_highest 0 0 0 [some (.ref x0), some (.int x1), some (.int x2), none, none, none] [] (sh, I, J, R) Q := by
  obtain ⟨hf, r, t, q⟩ := t
  exact ⟨hf, r, b_X2_highest_0  h_x0 t, q⟩
abbrev s_X2_highest_5 (γ : rG) (l : Launch) (x0 : Nat) (x1 : Int32) (x2 : Int32) (x3 : Int32) (x4 : Int32) (h : rHeap) (Q : rHeap → Option Value → Prop) : Prop := rW γ l m_X2_highest 0 0 5 [some (.ref x0), some (.int x1), some (.int x2), some (.int x3), some (.int x4), none] [] h Q
theorem w_X2_highest_5 {γ : rG} {l : Launch} {Q : rHeap → Option Value → Prop} {sh : Nat × (Nat → Nat) × (Nat → Nat)} {I : Nat → Nat → Int32} {J : Nat → Nat → Int64} {R : Nat → Nat → Option Nat} {x0 : Nat} {x1 : Int32} {x2 : Int32} {x3 : Int32} {x4 : Int32}
    (h_x0 : At2 sh R x0)
    (t : (x2 < x4 → (Q (sh, I, J, R) (some (.int x3)))) ∧ (¬ x2 < x4 → (∃ (v4 : Int32), rMet γ l m_X2_heightOf [.ref x0, .int x1] (sh, I, J, R) (sh, I, J, R) (some (.int v4)) ∧ (∃ (v6 : Int32), rMet γ l m_X2_partAt [.ref x0, .int x1, .int (v4 - x4)] (sh, I, J, R) (sh, I, J, R) (some (.int v6)) ∧ ((v6 = (-1 : Int32) → (rW γ l m_X2_highest 0 0 5 [some (.ref x0), some (.int x1), some (.int x2), some (.int x3), some (.int (x4 + (1 : Int32))), none] [] (sh, I, J, R) Q)) ∧ (¬ v6 = (-1 : Int32) → (rW γ l m_X2_highest 0 0 5 [some (.ref x0), some (.int x1), some (.int x2), some (.int (x3 ||| ((1 : Int32) <<< (v6 &&& 31)))), some (.int (x4 + (1 : Int32))), none] [] (sh, I, J, R) Q))))))) :
    rW γ l m_X2_highest 0 0 5 [some (.ref x0), some (.int x1), some (.int x2), some (.int x3), some (.int x4), none] [] (sh, I, J, R) Q := by
  by_cases p0 : x2 < x4
  · have t := t.1 p0
    exact ⟨_, _, b_X2_highest_5 (v4 := 0) (v6 := 0) h_x0 (fun _ => ⟨rfl, rfl⟩) (fun y0 => absurd p0 y0) (fun y0 => absurd p0 y0) (fun y0 _ => absurd p0 y0) (fun y0 _ => absurd p0 y0), t⟩
  · have t := t.2 p0
    obtain ⟨v4, m3, t⟩ := t
    obtain ⟨v6, m5, t⟩ := t
    by_cases p1 : v6 = (-1 : Int32)
    · have t := t.1 p1
      obtain ⟨hf, r, t, q⟩ := t
      exact ⟨hf, r, b_X2_highest_5  h_x0 (fun y0 => absurd y0 p0) (fun _ => m3) (fun _ => m5) (fun _ _ => t) (fun _ y1 => absurd p1 y1), q⟩
    · have t := t.2 p1
      obtain ⟨hf, r, t, q⟩ := t
      exact ⟨hf, r, b_X2_highest_5  h_x0 (fun y0 => absurd y0 p0) (fun _ => m3) (fun _ => m5) (fun _ y1 => absurd y1 p1) (fun _ _ => t), q⟩
abbrev s_X2_outerFaces_0 (γ : rG) (l : Launch) (x0 : Nat) (h : rHeap) (Q : rHeap → Option Value → Prop) : Prop := rW γ l m_X2_outerFaces 0 0 0 [some (.ref x0), none, none, none, none] [] h Q
theorem w_X2_outerFaces_0 {γ : rG} {l : Launch} {Q : rHeap → Option Value → Prop} {sh : Nat × (Nat → Nat) × (Nat → Nat)} {I : Nat → Nat → Int32} {J : Nat → Nat → Int64} {R : Nat → Nat → Option Nat} {x0 : Nat}
    (h_x0 : At2 sh R x0)
    (t : rW γ l m_X2_outerFaces 0 0 4 [some (.ref x0), some (.int (0 : Int32)), some (.int (0 : Int32)), none, none] [] (sh, I, J, R) Q) :
    rW γ l m_X2_outerFaces 0 0 0 [some (.ref x0), none, none, none, none] [] (sh, I, J, R) Q := by
  obtain ⟨hf, r, t, q⟩ := t
  exact ⟨hf, r, b_X2_outerFaces_0  h_x0 t, q⟩
abbrev s_X2_outerFaces_4 (γ : rG) (l : Launch) (x0 : Nat) (x1 : Int32) (x2 : Int32) (h : rHeap) (Q : rHeap → Option Value → Prop) : Prop := rW γ l m_X2_outerFaces 0 0 4 [some (.ref x0), some (.int x1), some (.int x2), none, none] [] h Q
theorem w_X2_outerFaces_4 {γ : rG} {l : Launch} {Q : rHeap → Option Value → Prop} {sh : Nat × (Nat → Nat) × (Nat → Nat)} {I : Nat → Nat → Int32} {J : Nat → Nat → Int64} {R : Nat → Nat → Option Nat} {x0 : Nat} {x1 : Int32} {x2 : Int32}
    (h_x0 : At2 sh R x0)
    (t : ((I x0 1) ≤ x2 → (Q (sh, I, J, R) (some (.int x1)))) ∧ (¬ (I x0 1) ≤ x2 → (vp_in x2 8 ∧ (∃ (v5 : Int32), rMet γ l m_X2_partAt [.ref x0, .int x2, .int ((I (x0 + 4) x2.toNatClampNeg) - (1 : Int32))] (sh, I, J, R) (sh, I, J, R) (some (.int v5)) ∧ (∃ (v7 : Int32), rMet γ l m_X2_partAt [.ref x0, .int x2, .int (0 : Int32)] (sh, I, J, R) (sh, I, J, R) (some (.int v7)) ∧ ((v5 = (-1 : Int32) → (rW γ l m_X2_outerFaces 0 0 4 [some (.ref x0), some (.int x1), some (.int (x2 + (1 : Int32))), none, none] [] (sh, I, J, R) Q)) ∧ (¬ v5 = (-1 : Int32) → ((v7 = (-1 : Int32) → (rW γ l m_X2_outerFaces 0 0 4 [some (.ref x0), some (.int x1), some (.int (x2 + (1 : Int32))), none, none] [] (sh, I, J, R) Q)) ∧ (¬ v7 = (-1 : Int32) → (vp_in v5 8 ∧ (((I (x0 + 3) v5.toNatClampNeg) = 0 → (rW γ l m_X2_outerFaces 0 0 67 [some (.ref x0), none, some (.int x2), none, some (.int v7)] [.int (((2 : Int32) * v5) + (1 : Int32)), .int (1 : Int32), .int x1] (sh, I, J, R) Q)) ∧ (¬ (I (x0 + 3) v5.toNatClampNeg) = 0 → (rW γ l m_X2_outerFaces 0 0 67 [some (.ref x0), none, some (.int x2), none, some (.int v7)] [.int ((2 : Int32) * v5), .int (1 : Int32), .int x1] (sh, I, J, R) Q))))))))))))) :
    rW γ l m_X2_outerFaces 0 0 4 [some (.ref x0), some (.int x1), some (.int x2), none, none] [] (sh, I, J, R) Q := by
  by_cases p0 : (I x0 1) ≤ x2
  · have t := t.1 p0
    exact ⟨_, _, b_X2_outerFaces_4 (v5 := 0) (v7 := 0) h_x0 (fun _ => ⟨rfl, rfl⟩) (fun y0 => absurd p0 y0) (fun y0 => absurd p0 y0) (fun y0 => absurd p0 y0) (fun y0 _ => absurd p0 y0) (fun y0 _ _ => absurd p0 y0) (fun y0 _ _ => absurd p0 y0) (fun y0 _ _ _ => absurd p0 y0) (fun y0 _ _ _ => absurd p0 y0), t⟩
  · have t := t.2 p0
    obtain ⟨b3, t⟩ := t
    obtain ⟨v5, m4, t⟩ := t
    obtain ⟨v7, m6, t⟩ := t
    by_cases p1 : v5 = (-1 : Int32)
    · have t := t.1 p1
      obtain ⟨hf, r, t, q⟩ := t
      exact ⟨hf, r, b_X2_outerFaces_4  h_x0 (fun y0 => absurd y0 p0) (fun _ => b3) (fun _ => m4) (fun _ => m6) (fun _ _ => t) (fun _ y1 _ => absurd p1 y1) (fun _ y1 _ => absurd p1 y1) (fun _ y1 _ _ => absurd p1 y1) (fun _ y1 _ _ => absurd p1 y1), q⟩
    · have t := t.2 p1
      by_cases p2 : v7 = (-1 : Int32)
      · have t := t.1 p2
        obtain ⟨hf, r, t, q⟩ := t
        exact ⟨hf, r, b_X2_outerFaces_4  h_x0 (fun y0 => absurd y0 p0) (fun _ => b3) (fun _ => m4) (fun _ => m6) (fun _ y1 => absurd y1 p1) (fun _ _ _ => t) (fun _ _ y2 => absurd p2 y2) (fun _ _ y2 _ => absurd p2 y2) (fun _ _ y2 _ => absurd p2 y2), q⟩
      · have t := t.2 p2
        obtain ⟨b12, t⟩ := t
        by_cases p3 : (I (x0 + 3) v5.toNatClampNeg) = 0
        · have t := t.1 p3
          obtain ⟨hf, r, t, q⟩ := t
          exact ⟨hf, r, b_X2_outerFaces_4  h_x0 (fun y0 => absurd y0 p0) (fun _ => b3) (fun _ => m4) (fun _ => m6) (fun _ y1 => absurd y1 p1) (fun _ _ y2 => absurd y2 p2) (fun _ _ _ => b12) (fun _ _ _ _ => t) (fun _ _ _ y3 => absurd p3 y3), q⟩
        · have t := t.2 p3
          obtain ⟨hf, r, t, q⟩ := t
          exact ⟨hf, r, b_X2_outerFaces_4  h_x0 (fun y0 => absurd y0 p0) (fun _ => b3) (fun _ => m4) (fun _ => m6) (fun _ y1 => absurd y1 p1) (fun _ _ y2 => absurd y2 p2) (fun _ _ _ => b12) (fun _ _ _ y3 => absurd y3 p3) (fun _ _ _ _ => t), q⟩
abbrev s_X2_outerFaces_67 (γ : rG) (l : Launch) (x0 : Nat) (x2 : Int32) (x4 : Int32) (s0 : Int32) (s1 : Int32) (s2 : Int32) (h : rHeap) (Q : rHeap → Option Value → Prop) : Prop := rW γ l m_X2_outerFaces 0 0 67 [some (.ref x0), none, some (.int x2), none, some (.int x4)] [.int s0, .int s1, .int s2] h Q
theorem w_X2_outerFaces_67 {γ : rG} {l : Launch} {Q : rHeap → Option Value → Prop} {sh : Nat × (Nat → Nat) × (Nat → Nat)} {I : Nat → Nat → Int32} {J : Nat → Nat → Int64} {R : Nat → Nat → Option Nat} {x0 : Nat} {x2 : Int32} {x4 : Int32} {s0 : Int32} {s1 : Int32} {s2 : Int32}
    (h_x0 : At2 sh R x0)
    (t : vp_in x4 8 ∧ (((I (x0 + 3) x4.toNatClampNeg) = 0 → (rW γ l m_X2_outerFaces 0 0 4 [some (.ref x0), some (.int ((s2 ||| (s1 <<< (s0 &&& 31))) ||| ((1 : Int32) <<< (((2 : Int32) * x4) &&& 31)))), some (.int (x2 + (1 : Int32))), none, none] [] (sh, I, J, R) Q)) ∧ (¬ (I (x0 + 3) x4.toNatClampNeg) = 0 → (rW γ l m_X2_outerFaces 0 0 4 [some (.ref x0), some (.int ((s2 ||| (s1 <<< (s0 &&& 31))) ||| ((1 : Int32) <<< ((((2 : Int32) * x4) + (1 : Int32)) &&& 31)))), some (.int (x2 + (1 : Int32))), none, none] [] (sh, I, J, R) Q)))) :
    rW γ l m_X2_outerFaces 0 0 67 [some (.ref x0), none, some (.int x2), none, some (.int x4)] [.int s0, .int s1, .int s2] (sh, I, J, R) Q := by
  obtain ⟨b1, t⟩ := t
  by_cases p0 : (I (x0 + 3) x4.toNatClampNeg) = 0
  · have t := t.1 p0
    obtain ⟨hf, r, t, q⟩ := t
    exact ⟨hf, r, b_X2_outerFaces_67  h_x0 b1 (fun _ => t) (fun y0 => absurd p0 y0), q⟩
  · have t := t.2 p0
    obtain ⟨hf, r, t, q⟩ := t
    exact ⟨hf, r, b_X2_outerFaces_67  h_x0 b1 (fun y0 => absurd y0 p0) (fun _ => t), q⟩
abbrev s_X2_canBeRead_0 (γ : rG) (l : Launch) (x0 : Nat) (x1 : Int32) (h : rHeap) (Q : rHeap → Option Value → Prop) : Prop := rW γ l m_X2_canBeRead 0 0 0 [some (.ref x0), some (.int x1)] [] h Q
theorem w_X2_canBeRead_0 {γ : rG} {l : Launch} {Q : rHeap → Option Value → Prop} {sh : Nat × (Nat → Nat) × (Nat → Nat)} {I : Nat → Nat → Int32} {J : Nat → Nat → Int64} {R : Nat → Nat → Option Nat} {x0 : Nat} {x1 : Int32}
    (h_x0 : At2 sh R x0)
    (t : vp_in x1 8 ∧ (((I (x0 + 3) x1.toNatClampNeg) = 0 → (vp_in x1 8 ∧ (((I (x0 + 2) x1.toNatClampNeg) = 0 → (Q (sh, I, J, R) (some (.int (1 : Int32))))) ∧ (¬ (I (x0 + 2) x1.toNatClampNeg) = 0 → (Q (sh, I, J, R) (some (.int (0 : Int32)))))))) ∧ (¬ (I (x0 + 3) x1.toNatClampNeg) = 0 → (vp_in x1 8 ∧ (vp_in x1 8 ∧ (vp_in ((I (x0 + 1) x1.toNatClampNeg)) 8 ∧ (((I (x0 + 2) x1.toNatClampNeg) = ((I (x0 + 4) ((I (x0 + 1) x1.toNatClampNeg)).toNatClampNeg) - (1 : Int32)) → (Q (sh, I, J, R) (some (.int (1 : Int32))))) ∧ (¬ (I (x0 + 2) x1.toNatClampNeg) = ((I (x0 + 4) ((I (x0 + 1) x1.toNatClampNeg)).toNatClampNeg) - (1 : Int32)) → (Q (sh, I, J, R) (some (.int (0 : Int32)))))))))))) :
    rW γ l m_X2_canBeRead 0 0 0 [some (.ref x0), some (.int x1)] [] (sh, I, J, R) Q := by
  obtain ⟨b1, t⟩ := t
  by_cases p0 : (I (x0 + 3) x1.toNatClampNeg) = 0
  · have t := t.1 p0
    obtain ⟨b3, t⟩ := t
    by_cases p1 : (I (x0 + 2) x1.toNatClampNeg) = 0
    · have t := t.1 p1
      exact ⟨_, _, b_X2_canBeRead_0  h_x0 b1 (fun _ => b3) (fun _ y1 => absurd p1 y1) (fun _ _ => ⟨rfl, rfl⟩) (fun y0 => absurd p0 y0) (fun y0 => absurd p0 y0) (fun y0 => absurd p0 y0) (fun y0 _ => absurd p0 y0) (fun y0 _ => absurd p0 y0), t⟩
    · have t := t.2 p1
      exact ⟨_, _, b_X2_canBeRead_0  h_x0 b1 (fun _ => b3) (fun _ _ => ⟨rfl, rfl⟩) (fun _ y1 => absurd y1 p1) (fun y0 => absurd p0 y0) (fun y0 => absurd p0 y0) (fun y0 => absurd p0 y0) (fun y0 _ => absurd p0 y0) (fun y0 _ => absurd p0 y0), t⟩
  · have t := t.2 p0
    obtain ⟨b7, t⟩ := t
    obtain ⟨b8, t⟩ := t
    obtain ⟨b9, t⟩ := t
    by_cases p1 : (I (x0 + 2) x1.toNatClampNeg) = ((I (x0 + 4) ((I (x0 + 1) x1.toNatClampNeg)).toNatClampNeg) - (1 : Int32))
    · have t := t.1 p1
      exact ⟨_, _, b_X2_canBeRead_0  h_x0 b1 (fun y0 => absurd y0 p0) (fun y0 _ => absurd y0 p0) (fun y0 _ => absurd y0 p0) (fun _ => b7) (fun _ => b8) (fun _ => b9) (fun _ y1 => absurd p1 y1) (fun _ _ => ⟨rfl, rfl⟩), t⟩
    · have t := t.2 p1
      exact ⟨_, _, b_X2_canBeRead_0  h_x0 b1 (fun y0 => absurd y0 p0) (fun y0 _ => absurd y0 p0) (fun y0 _ => absurd y0 p0) (fun _ => b7) (fun _ => b8) (fun _ => b9) (fun _ _ => ⟨rfl, rfl⟩) (fun _ y1 => absurd y1 p1), t⟩
abbrev s_X2_facing_0 (γ : rG) (l : Launch) (x0 : Nat) (x1 : Int32) (h : rHeap) (Q : rHeap → Option Value → Prop) : Prop := rW γ l m_X2_facing 0 0 0 [some (.ref x0), some (.int x1)] [] h Q
theorem w_X2_facing_0 {γ : rG} {l : Launch} {Q : rHeap → Option Value → Prop} {sh : Nat × (Nat → Nat) × (Nat → Nat)} {I : Nat → Nat → Int32} {J : Nat → Nat → Int64} {R : Nat → Nat → Option Nat} {x0 : Nat} {x1 : Int32}
    (h_x0 : At2 sh R x0)
    (t : vp_in x1 8 ∧ (vp_in x1 8 ∧ (((I (x0 + 3) x1.toNatClampNeg) = 0 → (vp_in x1 8 ∧ (∃ (v6 : Int32), rMet γ l m_X2_partAt [.ref x0, .int (I (x0 + 1) x1.toNatClampNeg), .int ((I (x0 + 2) x1.toNatClampNeg) - (1 : Int32))] (sh, I, J, R) (sh, I, J, R) (some (.int v6)) ∧ (Q (sh, I, J, R) (some (.int v6)))))) ∧ (¬ (I (x0 + 3) x1.toNatClampNeg) = 0 → (vp_in x1 8 ∧ (∃ (v10 : Int32), rMet γ l m_X2_partAt [.ref x0, .int (I (x0 + 1) x1.toNatClampNeg), .int ((I (x0 + 2) x1.toNatClampNeg) + (1 : Int32))] (sh, I, J, R) (sh, I, J, R) (some (.int v10)) ∧ (Q (sh, I, J, R) (some (.int v10))))))))) :
    rW γ l m_X2_facing 0 0 0 [some (.ref x0), some (.int x1)] [] (sh, I, J, R) Q := by
  obtain ⟨b1, t⟩ := t
  obtain ⟨b2, t⟩ := t
  by_cases p0 : (I (x0 + 3) x1.toNatClampNeg) = 0
  · have t := t.1 p0
    obtain ⟨b4, t⟩ := t
    obtain ⟨v6, m5, t⟩ := t
    exact ⟨_, _, b_X2_facing_0 (v10 := 0) h_x0 b1 b2 (fun _ => b4) (fun _ => m5) (fun _ => ⟨rfl, rfl⟩) (fun y0 => absurd p0 y0) (fun y0 => absurd p0 y0) (fun y0 => absurd p0 y0), t⟩
  · have t := t.2 p0
    obtain ⟨b8, t⟩ := t
    obtain ⟨v10, m9, t⟩ := t
    exact ⟨_, _, b_X2_facing_0 (v6 := 0) h_x0 b1 b2 (fun y0 => absurd y0 p0) (fun y0 => absurd y0 p0) (fun y0 => absurd y0 p0) (fun _ => b8) (fun _ => m9) (fun _ => ⟨rfl, rfl⟩), t⟩
abbrev s_X2_gapes_0 (γ : rG) (l : Launch) (x0 : Nat) (x1 : Int32) (x2 : Int32) (h : rHeap) (Q : rHeap → Option Value → Prop) : Prop := rW γ l m_X2_gapes 0 0 0 [some (.ref x0), some (.int x1), some (.int x2), none, none] [] h Q
theorem w_X2_gapes_0 {γ : rG} {l : Launch} {Q : rHeap → Option Value → Prop} {sh : Nat × (Nat → Nat) × (Nat → Nat)} {I : Nat → Nat → Int32} {J : Nat → Nat → Int64} {R : Nat → Nat → Option Nat} {x0 : Nat} {x1 : Int32} {x2 : Int32}
    (h_x0 : At2 sh R x0)
    (t : vp_in x1 8 ∧ (((I (x0 + 1) x1.toNatClampNeg) = 0 → (∃ (v5 : Int32), rMet γ l m_X2_isHeld [.ref x0, .int x1, .int x2, .int (0 : Int32)] (sh, I, J, R) (sh, I, J, R) (some (.int v5)) ∧ ((v5 = 0 → (rW γ l m_X2_gapes 0 0 24 [some (.ref x0), some (.int x1), some (.int x2), none, none] [.int (1 : Int32)] (sh, I, J, R) Q)) ∧ (¬ v5 = 0 → (rW γ l m_X2_gapes 0 0 23 [some (.ref x0), some (.int x1), some (.int x2), none, none] [] (sh, I, J, R) Q))))) ∧ (¬ (I (x0 + 1) x1.toNatClampNeg) = 0 → (rW γ l m_X2_gapes 0 0 23 [some (.ref x0), some (.int x1), some (.int x2), none, none] [] (sh, I, J, R) Q)))) :
    rW γ l m_X2_gapes 0 0 0 [some (.ref x0), some (.int x1), some (.int x2), none, none] [] (sh, I, J, R) Q := by
  obtain ⟨b1, t⟩ := t
  by_cases p0 : (I (x0 + 1) x1.toNatClampNeg) = 0
  · have t := t.1 p0
    obtain ⟨v5, m4, t⟩ := t
    by_cases p1 : v5 = 0
    · have t := t.1 p1
      obtain ⟨hf, r, t, q⟩ := t
      exact ⟨hf, r, b_X2_gapes_0  h_x0 b1 (fun y0 => absurd p0 y0) (fun _ => m4) (fun _ y1 => absurd p1 y1) (fun _ _ => t), q⟩
    · have t := t.2 p1
      obtain ⟨hf, r, t, q⟩ := t
      exact ⟨hf, r, b_X2_gapes_0  h_x0 b1 (fun y0 => absurd p0 y0) (fun _ => m4) (fun _ _ => t) (fun _ y1 => absurd y1 p1), q⟩
  · have t := t.2 p0
    obtain ⟨hf, r, t, q⟩ := t
    exact ⟨hf, r, b_X2_gapes_0 (v5 := 0) h_x0 b1 (fun _ => t) (fun y0 => absurd y0 p0) (fun y0 _ => absurd y0 p0) (fun y0 _ => absurd y0 p0), q⟩
abbrev s_X2_gapes_23 (γ : rG) (l : Launch) (x0 : Nat) (x1 : Int32) (x2 : Int32) (h : rHeap) (Q : rHeap → Option Value → Prop) : Prop := rW γ l m_X2_gapes 0 0 23 [some (.ref x0), some (.int x1), some (.int x2), none, none] [] h Q
theorem w_X2_gapes_23 {γ : rG} {l : Launch} {Q : rHeap → Option Value → Prop} {sh : Nat × (Nat → Nat) × (Nat → Nat)} {I : Nat → Nat → Int32} {J : Nat → Nat → Int64} {R : Nat → Nat → Option Nat} {x0 : Nat} {x1 : Int32} {x2 : Int32}
    (h_x0 : At2 sh R x0)
    (t : rW γ l m_X2_gapes 0 0 24 [some (.ref x0), some (.int x1), some (.int x2), none, none] [.int (0 : Int32)] (sh, I, J, R) Q) :
    rW γ l m_X2_gapes 0 0 23 [some (.ref x0), some (.int x1), some (.int x2), none, none] [] (sh, I, J, R) Q := by
  obtain ⟨hf, r, t, q⟩ := t
  exact ⟨hf, r, b_X2_gapes_23  h_x0 t, q⟩
abbrev s_X2_gapes_24 (γ : rG) (l : Launch) (x0 : Nat) (x1 : Int32) (x2 : Int32) (s0 : Int32) (h : rHeap) (Q : rHeap → Option Value → Prop) : Prop := rW γ l m_X2_gapes 0 0 24 [some (.ref x0), some (.int x1), some (.int x2), none, none] [.int s0] h Q
theorem w_X2_gapes_24 {γ : rG} {l : Launch} {Q : rHeap → Option Value → Prop} {sh : Nat × (Nat → Nat) × (Nat → Nat)} {I : Nat → Nat → Int32} {J : Nat → Nat → Int64} {R : Nat → Nat → Option Nat} {x0 : Nat} {x1 : Int32} {x2 : Int32} {s0 : Int32}
    (h_x0 : At2 sh R x0)
    (t : vp_in x1 8 ∧ (((I (x0 + 1) x1.toNatClampNeg) = ((I x0 1) - (1 : Int32)) → (∃ (v5 : Int32), rMet γ l m_X2_isHeld [.ref x0, .int x1, .int x2, .int (I x0 1)] (sh, I, J, R) (sh, I, J, R) (some (.int v5)) ∧ ((v5 = 0 → (rW γ l m_X2_gapes 0 0 58 [none, none, none, some (.int s0), none] [.int (1 : Int32)] (sh, I, J, R) Q)) ∧ (¬ v5 = 0 → (rW γ l m_X2_gapes 0 0 57 [none, none, none, some (.int s0), none] [] (sh, I, J, R) Q))))) ∧ (¬ (I (x0 + 1) x1.toNatClampNeg) = ((I x0 1) - (1 : Int32)) → (rW γ l m_X2_gapes 0 0 57 [none, none, none, some (.int s0), none] [] (sh, I, J, R) Q)))) :
    rW γ l m_X2_gapes 0 0 24 [some (.ref x0), some (.int x1), some (.int x2), none, none] [.int s0] (sh, I, J, R) Q := by
  obtain ⟨b1, t⟩ := t
  by_cases p0 : (I (x0 + 1) x1.toNatClampNeg) = ((I x0 1) - (1 : Int32))
  · have t := t.1 p0
    obtain ⟨v5, m4, t⟩ := t
    by_cases p1 : v5 = 0
    · have t := t.1 p1
      obtain ⟨hf, r, t, q⟩ := t
      exact ⟨hf, r, b_X2_gapes_24  h_x0 b1 (fun y0 => absurd p0 y0) (fun _ => m4) (fun _ y1 => absurd p1 y1) (fun _ _ => t), q⟩
    · have t := t.2 p1
      obtain ⟨hf, r, t, q⟩ := t
      exact ⟨hf, r, b_X2_gapes_24  h_x0 b1 (fun y0 => absurd p0 y0) (fun _ => m4) (fun _ _ => t) (fun _ y1 => absurd y1 p1), q⟩
  · have t := t.2 p0
    obtain ⟨hf, r, t, q⟩ := t
    exact ⟨hf, r, b_X2_gapes_24 (v5 := 0) h_x0 b1 (fun _ => t) (fun y0 => absurd y0 p0) (fun y0 _ => absurd y0 p0) (fun y0 _ => absurd y0 p0), q⟩
abbrev s_X2_gapes_57 (γ : rG) (l : Launch) (x3 : Int32) (h : rHeap) (Q : rHeap → Option Value → Prop) : Prop := rW γ l m_X2_gapes 0 0 57 [none, none, none, some (.int x3), none] [] h Q
theorem w_X2_gapes_57 {γ : rG} {l : Launch} {Q : rHeap → Option Value → Prop} {sh : Nat × (Nat → Nat) × (Nat → Nat)} {I : Nat → Nat → Int32} {J : Nat → Nat → Int64} {R : Nat → Nat → Option Nat} {x3 : Int32}
    (t : rW γ l m_X2_gapes 0 0 58 [none, none, none, some (.int x3), none] [.int (0 : Int32)] (sh, I, J, R) Q) :
    rW γ l m_X2_gapes 0 0 57 [none, none, none, some (.int x3), none] [] (sh, I, J, R) Q := by
  obtain ⟨hf, r, t, q⟩ := t
  exact ⟨hf, r, b_X2_gapes_57  t, q⟩
abbrev s_X2_gapes_58 (γ : rG) (l : Launch) (x3 : Int32) (s0 : Int32) (h : rHeap) (Q : rHeap → Option Value → Prop) : Prop := rW γ l m_X2_gapes 0 0 58 [none, none, none, some (.int x3), none] [.int s0] h Q
theorem w_X2_gapes_58 {γ : rG} {l : Launch} {Q : rHeap → Option Value → Prop} {sh : Nat × (Nat → Nat) × (Nat → Nat)} {I : Nat → Nat → Int32} {J : Nat → Nat → Int64} {R : Nat → Nat → Option Nat} {x3 : Int32} {s0 : Int32}
    (t : (x3 = 0 → ((s0 = 0 → (Q (sh, I, J, R) (some (.int (0 : Int32))))) ∧ (¬ s0 = 0 → (Q (sh, I, J, R) (some (.int (1 : Int32))))))) ∧ (¬ x3 = 0 → (Q (sh, I, J, R) (some (.int (1 : Int32)))))) :
    rW γ l m_X2_gapes 0 0 58 [none, none, none, some (.int x3), none] [.int s0] (sh, I, J, R) Q := by
  by_cases p0 : x3 = 0
  · have t := t.1 p0
    by_cases p1 : s0 = 0
    · have t := t.1 p1
      exact ⟨_, _, b_X2_gapes_58  (fun y0 => absurd p0 y0) (fun _ _ => ⟨rfl, rfl⟩) (fun _ y1 => absurd p1 y1), t⟩
    · have t := t.2 p1
      exact ⟨_, _, b_X2_gapes_58  (fun y0 => absurd p0 y0) (fun _ y1 => absurd y1 p1) (fun _ _ => ⟨rfl, rfl⟩), t⟩
  · have t := t.2 p0
    exact ⟨_, _, b_X2_gapes_58  (fun _ => ⟨rfl, rfl⟩) (fun y0 _ => absurd y0 p0) (fun y0 _ => absurd y0 p0), t⟩
abbrev s_X2_isHeld_0 (γ : rG) (l : Launch) (x0 : Nat) (x1 : Int32) (x2 : Int32) (x3 : Int32) (h : rHeap) (Q : rHeap → Option Value → Prop) : Prop := rW γ l m_X2_isHeld 0 0 0 [some (.ref x0), some (.int x1), some (.int x2), some (.int x3), none, none, none] [] h Q
theorem w_X2_isHeld_0 {γ : rG} {l : Launch} {Q : rHeap → Option Value → Prop} {sh : Nat × (Nat → Nat) × (Nat → Nat)} {I : Nat → Nat → Int32} {J : Nat → Nat → Int64} {R : Nat → Nat → Option Nat} {x0 : Nat} {x1 : Int32} {x2 : Int32} {x3 : Int32}
    (h_x0 : At2 sh R x0)
    (t : vp_in x1 8 ∧ (vp_in x2 8 ∧ (vp_in x1 8 ∧ (vp_in x2 8 ∧ (rW γ l m_X2_isHeld 0 0 37 [some (.ref x0), none, none, some (.int x3), some (.int (if (I (x0 + 2) x2.toNatClampNeg) < (I (x0 + 2) x1.toNatClampNeg) then (I (x0 + 2) x2.toNatClampNeg) else (I (x0 + 2) x1.toNatClampNeg))), some (.int (if (I (x0 + 2) x1.toNatClampNeg) < (I (x0 + 2) x2.toNatClampNeg) then (I (x0 + 2) x2.toNatClampNeg) else (I (x0 + 2) x1.toNatClampNeg))), some (.int (0 : Int32))] [] (sh, I, J, R) Q))))) :
    rW γ l m_X2_isHeld 0 0 0 [some (.ref x0), some (.int x1), some (.int x2), some (.int x3), none, none, none] [] (sh, I, J, R) Q := by
  obtain ⟨b1, t⟩ := t
  obtain ⟨b2, t⟩ := t
  obtain ⟨b3, t⟩ := t
  obtain ⟨b4, t⟩ := t
  obtain ⟨hf, r, t, q⟩ := t
  exact ⟨hf, r, b_X2_isHeld_0  h_x0 b1 b2 b3 b4 t, q⟩
abbrev s_X2_isHeld_37 (γ : rG) (l : Launch) (x0 : Nat) (x3 : Int32) (x4 : Int32) (x5 : Int32) (x6 : Int32) (h : rHeap) (Q : rHeap → Option Value → Prop) : Prop := rW γ l m_X2_isHeld 0 0 37 [some (.ref x0), none, none, some (.int x3), some (.int x4), some (.int x5), some (.int x6)] [] h Q
theorem w_X2_isHeld_37 {γ : rG} {l : Launch} {Q : rHeap → Option Value → Prop} {sh : Nat × (Nat → Nat) × (Nat → Nat)} {I : Nat → Nat → Int32} {J : Nat → Nat → Int64} {R : Nat → Nat → Option Nat} {x0 : Nat} {x3 : Int32} {x4 : Int32} {x5 : Int32} {x6 : Int32}
    (h_x0 : At2 sh R x0)
    (t : (((I x0 0) - (1 : Int32)) ≤ x6 → (Q (sh, I, J, R) (some (.int (0 : Int32))))) ∧ (¬ ((I x0 0) - (1 : Int32)) ≤ x6 → (∃ (v4 : Int32), rMet γ l m_X2_isCrease [.ref x0, .int x6] (sh, I, J, R) (sh, I, J, R) (some (.int v4)) ∧ ((v4 = 0 → (rW γ l m_X2_isHeld 0 0 37 [some (.ref x0), none, none, some (.int x3), some (.int x4), some (.int x5), some (.int (x6 + (1 : Int32)))] [] (sh, I, J, R) Q)) ∧ (¬ v4 = 0 → (∃ (v8 : Int32), rMet γ l m_X2_lineOf [.ref x0, .int x6] (sh, I, J, R) (sh, I, J, R) (some (.int v8)) ∧ ((v8 = x3 → (vp_in x6 8 ∧ (vp_in ((x6 + (1 : Int32))) 8 ∧ ((x4 < (if (I (x0 + 2) ((x6 + (1 : Int32))).toNatClampNeg) < (I (x0 + 2) x6.toNatClampNeg) then (I (x0 + 2) ((x6 + (1 : Int32))).toNatClampNeg) else (I (x0 + 2) x6.toNatClampNeg)) → (rW γ l m_X2_isHeld 0 0 37 [some (.ref x0), none, none, some (.int x3), some (.int x4), some (.int x5), some (.int (x6 + (1 : Int32)))] [] (sh, I, J, R) Q)) ∧ (¬ x4 < (if (I (x0 + 2) ((x6 + (1 : Int32))).toNatClampNeg) < (I (x0 + 2) x6.toNatClampNeg) then (I (x0 + 2) ((x6 + (1 : Int32))).toNatClampNeg) else (I (x0 + 2) x6.toNatClampNeg)) → (vp_in x6 8 ∧ (vp_in ((x6 + (1 : Int32))) 8 ∧ (((if (I (x0 + 2) x6.toNatClampNeg) < (I (x0 + 2) ((x6 + (1 : Int32))).toNatClampNeg) then (I (x0 + 2) ((x6 + (1 : Int32))).toNatClampNeg) else (I (x0 + 2) x6.toNatClampNeg)) < x5 → (rW γ l m_X2_isHeld 0 0 37 [some (.ref x0), none, none, some (.int x3), some (.int x4), some (.int x5), some (.int (x6 + (1 : Int32)))] [] (sh, I, J, R) Q)) ∧ (¬ (if (I (x0 + 2) x6.toNatClampNeg) < (I (x0 + 2) ((x6 + (1 : Int32))).toNatClampNeg) then (I (x0 + 2) ((x6 + (1 : Int32))).toNatClampNeg) else (I (x0 + 2) x6.toNatClampNeg)) < x5 → (Q (sh, I, J, R) (some (.int (1 : Int32))))))))))))) ∧ (¬ v8 = x3 → (rW γ l m_X2_isHeld 0 0 37 [some (.ref x0), none, none, some (.int x3), some (.int x4), some (.int x5), some (.int (x6 + (1 : Int32)))] [] (sh, I, J, R) Q))))))))) :
    rW γ l m_X2_isHeld 0 0 37 [some (.ref x0), none, none, some (.int x3), some (.int x4), some (.int x5), some (.int x6)] [] (sh, I, J, R) Q := by
  by_cases p0 : ((I x0 0) - (1 : Int32)) ≤ x6
  · have t := t.1 p0
    exact ⟨_, _, b_X2_isHeld_37 (v4 := 0) (v8 := 0) h_x0 (fun _ => ⟨rfl, rfl⟩) (fun y0 => absurd p0 y0) (fun y0 _ => absurd p0 y0) (fun y0 _ => absurd p0 y0) (fun y0 _ _ => absurd p0 y0) (fun y0 _ _ => absurd p0 y0) (fun y0 _ _ => absurd p0 y0) (fun y0 _ _ _ => absurd p0 y0) (fun y0 _ _ _ => absurd p0 y0) (fun y0 _ _ _ => absurd p0 y0) (fun y0 _ _ _ _ => absurd p0 y0) (fun y0 _ _ _ _ => absurd p0 y0), t⟩
  · have t := t.2 p0
    obtain ⟨v4, m3, t⟩ := t
    by_cases p1 : v4 = 0
    · have t := t.1 p1
      obtain ⟨hf, r, t, q⟩ := t
      exact ⟨hf, r, b_X2_isHeld_37 (v8 := 0) h_x0 (fun y0 => absurd y0 p0) (fun _ => m3) (fun _ _ => t) (fun _ y1 => absurd p1 y1) (fun _ y1 _ => absurd p1 y1) (fun _ y1 _ => absurd p1 y1) (fun _ y1 _ => absurd p1 y1) (fun _ y1 _ _ => absurd p1 y1) (fun _ y1 _ _ => absurd p1 y1) (fun _ y1 _ _ => absurd p1 y1) (fun _ y1 _ _ _ => absurd p1 y1) (fun _ y1 _ _ _ => absurd p1 y1), q⟩
    · have t := t.2 p1
      obtain ⟨v8, m7, t⟩ := t
      by_cases p2 : v8 = x3
      · have t := t.1 p2
        obtain ⟨b11, t⟩ := t
        obtain ⟨b12, t⟩ := t
        by_cases p3 : x4 < (if (I (x0 + 2) ((x6 + (1 : Int32))).toNatClampNeg) < (I (x0 + 2) x6.toNatClampNeg) then (I (x0 + 2) ((x6 + (1 : Int32))).toNatClampNeg) else (I (x0 + 2) x6.toNatClampNeg))
        · have t := t.1 p3
          obtain ⟨hf, r, t, q⟩ := t
          exact ⟨hf, r, b_X2_isHeld_37  h_x0 (fun y0 => absurd y0 p0) (fun _ => m3) (fun _ y1 => absurd y1 p1) (fun _ _ => m7) (fun _ _ y2 => absurd p2 y2) (fun _ _ _ => b11) (fun _ _ _ => b12) (fun _ _ _ _ => t) (fun _ _ _ y3 => absurd p3 y3) (fun _ _ _ y3 => absurd p3 y3) (fun _ _ _ y3 _ => absurd p3 y3) (fun _ _ _ y3 _ => absurd p3 y3), q⟩
        · have t := t.2 p3
          obtain ⟨b15, t⟩ := t
          obtain ⟨b16, t⟩ := t
          by_cases p4 : (if (I (x0 + 2) x6.toNatClampNeg) < (I (x0 + 2) ((x6 + (1 : Int32))).toNatClampNeg) then (I (x0 + 2) ((x6 + (1 : Int32))).toNatClampNeg) else (I (x0 + 2) x6.toNatClampNeg)) < x5
          · have t := t.1 p4
            obtain ⟨hf, r, t, q⟩ := t
            exact ⟨hf, r, b_X2_isHeld_37  h_x0 (fun y0 => absurd y0 p0) (fun _ => m3) (fun _ y1 => absurd y1 p1) (fun _ _ => m7) (fun _ _ y2 => absurd p2 y2) (fun _ _ _ => b11) (fun _ _ _ => b12) (fun _ _ _ y3 => absurd y3 p3) (fun _ _ _ _ => b15) (fun _ _ _ _ => b16) (fun _ _ _ _ _ => t) (fun _ _ _ _ y4 => absurd p4 y4), q⟩
          · have t := t.2 p4
            exact ⟨_, _, b_X2_isHeld_37  h_x0 (fun y0 => absurd y0 p0) (fun _ => m3) (fun _ y1 => absurd y1 p1) (fun _ _ => m7) (fun _ _ y2 => absurd p2 y2) (fun _ _ _ => b11) (fun _ _ _ => b12) (fun _ _ _ y3 => absurd y3 p3) (fun _ _ _ _ => b15) (fun _ _ _ _ => b16) (fun _ _ _ _ y4 => absurd y4 p4) (fun _ _ _ _ _ => ⟨rfl, rfl⟩), t⟩
      · have t := t.2 p2
        obtain ⟨hf, r, t, q⟩ := t
        exact ⟨hf, r, b_X2_isHeld_37  h_x0 (fun y0 => absurd y0 p0) (fun _ => m3) (fun _ y1 => absurd y1 p1) (fun _ _ => m7) (fun _ _ _ => t) (fun _ _ y2 => absurd y2 p2) (fun _ _ y2 => absurd y2 p2) (fun _ _ y2 _ => absurd y2 p2) (fun _ _ y2 _ => absurd y2 p2) (fun _ _ y2 _ => absurd y2 p2) (fun _ _ y2 _ _ => absurd y2 p2) (fun _ _ y2 _ _ => absurd y2 p2), q⟩
abbrev s_X2_packed_0 (γ : rG) (l : Launch) (x0 : Nat) (h : rHeap) (Q : rHeap → Option Value → Prop) : Prop := rW γ l m_X2_packed 0 0 0 [some (.ref x0), none, none, none] [] h Q
theorem w_X2_packed_0 {γ : rG} {l : Launch} {Q : rHeap → Option Value → Prop} {sh : Nat × (Nat → Nat) × (Nat → Nat)} {I : Nat → Nat → Int32} {J : Nat → Nat → Int64} {R : Nat → Nat → Option Nat} {x0 : Nat}
    (h_x0 : At2 sh R x0)
    (t : vp_in (0 : Int32) 8 ∧ (((I (x0 + 3) (0 : Int32).toNatClampNeg) = 0 → (rW γ l m_X2_packed 0 0 17 [some (.ref x0), some (.long (0 : Int64)), none, some (.int (0 : Int32))] [] (sh, I, J, R) Q)) ∧ (¬ (I (x0 + 3) (0 : Int32).toNatClampNeg) = 0 → (rW γ l m_X2_packed 0 0 17 [some (.ref x0), some (.long (1 : Int64)), none, some (.int (0 : Int32))] [] (sh, I, J, R) Q)))) :
    rW γ l m_X2_packed 0 0 0 [some (.ref x0), none, none, none] [] (sh, I, J, R) Q := by
  obtain ⟨b1, t⟩ := t
  by_cases p0 : (I (x0 + 3) (0 : Int32).toNatClampNeg) = 0
  · have t := t.1 p0
    obtain ⟨hf, r, t, q⟩ := t
    exact ⟨hf, r, b_X2_packed_0  h_x0 b1 (fun _ => t) (fun y0 => absurd p0 y0), q⟩
  · have t := t.2 p0
    obtain ⟨hf, r, t, q⟩ := t
    exact ⟨hf, r, b_X2_packed_0  h_x0 b1 (fun y0 => absurd y0 p0) (fun _ => t), q⟩
abbrev s_X2_packed_17 (γ : rG) (l : Launch) (x0 : Nat) (x1 : Int64) (x3 : Int32) (h : rHeap) (Q : rHeap → Option Value → Prop) : Prop := rW γ l m_X2_packed 0 0 17 [some (.ref x0), some (.long x1), none, some (.int x3)] [] h Q
theorem w_X2_packed_17 {γ : rG} {l : Launch} {Q : rHeap → Option Value → Prop} {sh : Nat × (Nat → Nat) × (Nat → Nat)} {I : Nat → Nat → Int32} {J : Nat → Nat → Int64} {R : Nat → Nat → Option Nat} {x0 : Nat} {x1 : Int64} {x3 : Int32}
    (h_x0 : At2 sh R x0)
    (t : ((I x0 0) ≤ x3 → (Q (sh, I, J, R) (some (.long x1)))) ∧ (¬ (I x0 0) ≤ x3 → (vp_in x3 8 ∧ (vp_in x3 8 ∧ (rW γ l m_X2_packed 0 0 17 [some (.ref x0), some (.long (((x1 <<< (((6 : Int32)).toInt64 &&& 63)) ||| (((I (x0 + 1) x3.toNatClampNeg) <<< ((3 : Int32) &&& 31))).toInt64) ||| ((I (x0 + 2) x3.toNatClampNeg)).toInt64)), none, some (.int (x3 + (1 : Int32)))] [] (sh, I, J, R) Q))))) :
    rW γ l m_X2_packed 0 0 17 [some (.ref x0), some (.long x1), none, some (.int x3)] [] (sh, I, J, R) Q := by
  by_cases p0 : (I x0 0) ≤ x3
  · have t := t.1 p0
    exact ⟨_, _, b_X2_packed_17  h_x0 (fun _ => ⟨rfl, rfl⟩) (fun y0 => absurd p0 y0) (fun y0 => absurd p0 y0) (fun y0 => absurd p0 y0), t⟩
  · have t := t.2 p0
    obtain ⟨b3, t⟩ := t
    obtain ⟨b4, t⟩ := t
    obtain ⟨hf, r, t, q⟩ := t
    exact ⟨hf, r, b_X2_packed_17  h_x0 (fun y0 => absurd y0 p0) (fun _ => b3) (fun _ => b4) (fun _ => t), q⟩
abbrev s_X2_unpack_0 (γ : rG) (l : Launch) (x0 : Nat) (x1 : Int64) (x3 : Int32) (h : rHeap) (Q : rHeap → Option Value → Prop) : Prop := rW γ l m_X2_unpack 0 0 0 [some (.ref x0), some (.long x1), none, some (.int x3), none, none, none, none, none] [] h Q
theorem w_X2_unpack_0 {γ : rG} {l : Launch} {Q : rHeap → Option Value → Prop} {sh : Nat × (Nat → Nat) × (Nat → Nat)} {I : Nat → Nat → Int32} {J : Nat → Nat → Int64} {R : Nat → Nat → Option Nat} {x0 : Nat} {x1 : Int64} {x3 : Int32}
    (h_x0 : At2 sh R x0)
    (t : ∃ (I1 : Nat → Nat → Int32), rMet γ l m_X2_begin [.ref x0, .int x3, .int (0 : Int32)] (sh, I, J, R) (sh, I1, J, R) none ∧ (((lg_cmp (((x1 >>> ((((6 : Int32) * x3)).toInt64 &&& 63)) &&& (1 : Int64))) (1 : Int64)) = 0 → (rW γ l m_X2_unpack 0 0 32 [some (.ref x0), some (.long x1), none, some (.int x3), some (.int (1 : Int32)), some (.int (-1 : Int32)), some (.int (0 : Int32)), none, none] [] (sh, I1, J, R) Q)) ∧ (¬ (lg_cmp (((x1 >>> ((((6 : Int32) * x3)).toInt64 &&& 63)) &&& (1 : Int64))) (1 : Int64)) = 0 → (rW γ l m_X2_unpack 0 0 32 [some (.ref x0), some (.long x1), none, some (.int x3), some (.int (0 : Int32)), some (.int (-1 : Int32)), some (.int (0 : Int32)), none, none] [] (sh, I1, J, R) Q)))) :
    rW γ l m_X2_unpack 0 0 0 [some (.ref x0), some (.long x1), none, some (.int x3), none, none, none, none, none] [] (sh, I, J, R) Q := by
  obtain ⟨I1, m2, t⟩ := t
  by_cases p0 : (lg_cmp (((x1 >>> ((((6 : Int32) * x3)).toInt64 &&& 63)) &&& (1 : Int64))) (1 : Int64)) = 0
  · have t := t.1 p0
    obtain ⟨hf, r, t, q⟩ := t
    exact ⟨hf, r, b_X2_unpack_0  h_x0 m2 (fun y0 => absurd p0 y0) (fun _ => t), q⟩
  · have t := t.2 p0
    obtain ⟨hf, r, t, q⟩ := t
    exact ⟨hf, r, b_X2_unpack_0  h_x0 m2 (fun _ => t) (fun y0 => absurd y0 p0), q⟩
abbrev s_X2_unpack_32 (γ : rG) (l : Launch) (x0 : Nat) (x1 : Int64) (x3 : Int32) (x4 : Int32) (x5 : Int32) (x6 : Int32) (h : rHeap) (Q : rHeap → Option Value → Prop) : Prop := rW γ l m_X2_unpack 0 0 32 [some (.ref x0), some (.long x1), none, some (.int x3), some (.int x4), some (.int x5), some (.int x6), none, none] [] h Q
theorem w_X2_unpack_32 {γ : rG} {l : Launch} {Q : rHeap → Option Value → Prop} {sh : Nat × (Nat → Nat) × (Nat → Nat)} {I : Nat → Nat → Int32} {J : Nat → Nat → Int64} {R : Nat → Nat → Option Nat} {x0 : Nat} {x1 : Int64} {x3 : Int32} {x4 : Int32} {x5 : Int32} {x6 : Int32}
    (h_x0 : At2 sh R x0)
    (t : (x3 ≤ x6 → (Q (sh, I, J, R) (none))) ∧ (¬ x3 ≤ x6 → ((((((x1 >>> ((((6 : Int32) * ((x3 - (1 : Int32)) - x6))).toInt64 &&& 63))).toInt32 &&& (63 : Int32)) >>> ((3 : Int32) &&& 31)) = x5 → ((x4 = 0 → (rW γ l m_X2_unpack 0 0 78 [some (.ref x0), some (.long x1), none, some (.int x3), none, none, some (.int x6), some (.int (((x1 >>> ((((6 : Int32) * ((x3 - (1 : Int32)) - x6))).toInt64 &&& 63))).toInt32 &&& (63 : Int32))), some (.int ((((x1 >>> ((((6 : Int32) * ((x3 - (1 : Int32)) - x6))).toInt64 &&& 63))).toInt32 &&& (63 : Int32)) >>> ((3 : Int32) &&& 31)))] [.int (1 : Int32)] (sh, I, J, R) Q)) ∧ (¬ x4 = 0 → (rW γ l m_X2_unpack 0 0 78 [some (.ref x0), some (.long x1), none, some (.int x3), none, none, some (.int x6), some (.int (((x1 >>> ((((6 : Int32) * ((x3 - (1 : Int32)) - x6))).toInt64 &&& 63))).toInt32 &&& (63 : Int32))), some (.int ((((x1 >>> ((((6 : Int32) * ((x3 - (1 : Int32)) - x6))).toInt64 &&& 63))).toInt32 &&& (63 : Int32)) >>> ((3 : Int32) &&& 31)))] [.int (0 : Int32)] (sh, I, J, R) Q)))) ∧ (¬ ((((x1 >>> ((((6 : Int32) * ((x3 - (1 : Int32)) - x6))).toInt64 &&& 63))).toInt32 &&& (63 : Int32)) >>> ((3 : Int32) &&& 31)) = x5 → (rW γ l m_X2_unpack 0 0 80 [some (.ref x0), some (.long x1), none, some (.int x3), some (.int x4), none, some (.int x6), some (.int (((x1 >>> ((((6 : Int32) * ((x3 - (1 : Int32)) - x6))).toInt64 &&& 63))).toInt32 &&& (63 : Int32))), some (.int ((((x1 >>> ((((6 : Int32) * ((x3 - (1 : Int32)) - x6))).toInt64 &&& 63))).toInt32 &&& (63 : Int32)) >>> ((3 : Int32) &&& 31)))] [] (sh, I, J, R) Q))))) :
    rW γ l m_X2_unpack 0 0 32 [some (.ref x0), some (.long x1), none, some (.int x3), some (.int x4), some (.int x5), some (.int x6), none, none] [] (sh, I, J, R) Q := by
  by_cases p0 : x3 ≤ x6
  · have t := t.1 p0
    exact ⟨_, _, b_X2_unpack_32  h_x0 (fun _ => ⟨rfl, rfl⟩) (fun y0 _ => absurd p0 y0) (fun y0 _ _ => absurd p0 y0) (fun y0 _ _ => absurd p0 y0), t⟩
  · have t := t.2 p0
    by_cases p1 : ((((x1 >>> ((((6 : Int32) * ((x3 - (1 : Int32)) - x6))).toInt64 &&& 63))).toInt32 &&& (63 : Int32)) >>> ((3 : Int32) &&& 31)) = x5
    · have t := t.1 p1
      by_cases p2 : x4 = 0
      · have t := t.1 p2
        obtain ⟨hf, r, t, q⟩ := t
        exact ⟨hf, r, b_X2_unpack_32  h_x0 (fun y0 => absurd y0 p0) (fun _ y1 => absurd p1 y1) (fun _ _ y2 => absurd p2 y2) (fun _ _ _ => t), q⟩
      · have t := t.2 p2
        obtain ⟨hf, r, t, q⟩ := t
        exact ⟨hf, r, b_X2_unpack_32  h_x0 (fun y0 => absurd y0 p0) (fun _ y1 => absurd p1 y1) (fun _ _ _ => t) (fun _ _ y2 => absurd y2 p2), q⟩
    · have t := t.2 p1
      obtain ⟨hf, r, t, q⟩ := t
      exact ⟨hf, r, b_X2_unpack_32  h_x0 (fun y0 => absurd y0 p0) (fun _ _ => t) (fun _ y1 _ => absurd y1 p1) (fun _ y1 _ => absurd y1 p1), q⟩
abbrev s_X2_unpack_80 (γ : rG) (l : Launch) (x0 : Nat) (x1 : Int64) (x3 : Int32) (x4 : Int32) (x6 : Int32) (x7 : Int32) (x8 : Int32) (h : rHeap) (Q : rHeap → Option Value → Prop) : Prop := rW γ l m_X2_unpack 0 0 80 [some (.ref x0), some (.long x1), none, some (.int x3), some (.int x4), none, some (.int x6), some (.int x7), some (.int x8)] [] h Q
theorem w_X2_unpack_80 {γ : rG} {l : Launch} {Q : rHeap → Option Value → Prop} {sh : Nat × (Nat → Nat) × (Nat → Nat)} {I : Nat → Nat → Int32} {J : Nat → Nat → Int64} {R : Nat → Nat → Option Nat} {x0 : Nat} {x1 : Int64} {x3 : Int32} {x4 : Int32} {x6 : Int32} {x7 : Int32} {x8 : Int32}
    (h_x0 : At2 sh R x0)
    (t : ∃ (I1 : Nat → Nat → Int32), rMet γ l m_X2_lay [.ref x0, .int x6, .int x8, .int (x7 &&& (7 : Int32)), .int x4] (sh, (up I x0 1 ((if (I x0 1) < (x8 + (1 : Int32)) then (x8 + (1 : Int32)) else (I x0 1)))), J, R) (sh, I1, J, R) none ∧ (rW γ l m_X2_unpack 0 0 32 [some (.ref x0), some (.long x1), none, some (.int x3), some (.int x4), some (.int x8), some (.int (x6 + (1 : Int32))), none, none] [] (sh, I1, J, R) Q)) :
    rW γ l m_X2_unpack 0 0 80 [some (.ref x0), some (.long x1), none, some (.int x3), some (.int x4), none, some (.int x6), some (.int x7), some (.int x8)] [] (sh, I, J, R) Q := by
  obtain ⟨I1, m2, t⟩ := t
  obtain ⟨hf, r, t, q⟩ := t
  exact ⟨hf, r, b_X2_unpack_80  h_x0 m2 t, q⟩
abbrev s_X2_unpack_78 (γ : rG) (l : Launch) (x0 : Nat) (x1 : Int64) (x3 : Int32) (x6 : Int32) (x7 : Int32) (x8 : Int32) (s0 : Int32) (h : rHeap) (Q : rHeap → Option Value → Prop) : Prop := rW γ l m_X2_unpack 0 0 78 [some (.ref x0), some (.long x1), none, some (.int x3), none, none, some (.int x6), some (.int x7), some (.int x8)] [.int s0] h Q
theorem w_X2_unpack_78 {γ : rG} {l : Launch} {Q : rHeap → Option Value → Prop} {sh : Nat × (Nat → Nat) × (Nat → Nat)} {I : Nat → Nat → Int32} {J : Nat → Nat → Int64} {R : Nat → Nat → Option Nat} {x0 : Nat} {x1 : Int64} {x3 : Int32} {x6 : Int32} {x7 : Int32} {x8 : Int32} {s0 : Int32}
    (h_x0 : At2 sh R x0)
    (t : rW γ l m_X2_unpack 0 0 80 [some (.ref x0), some (.long x1), none, some (.int x3), some (.int s0), none, some (.int x6), some (.int x7), some (.int x8)] [] (sh, I, J, R) Q) :
    rW γ l m_X2_unpack 0 0 78 [some (.ref x0), some (.long x1), none, some (.int x3), none, none, some (.int x6), some (.int x7), some (.int x8)] [.int s0] (sh, I, J, R) Q := by
  obtain ⟨hf, r, t, q⟩ := t
  exact ⟨hf, r, b_X2_unpack_78  h_x0 t, q⟩
